section
-- ===== PART A: goes FIRST, ahead of the names: the tables' words, and 'selects' of the private methods out of them =====
/-- a private method of a class that the tables say can be made, by its rows of tables_1 -/
def lw_okq (q : MethodName × Nat) : Prop := (q.1.cls ≠ "java/lang/invoke/MethodHandle" ∧ q.1.cls ≠ "java/lang/invoke/VarHandle") ∧ Cond.instantiable q.1.cls q.2 ∈ tables_1 ∧ Cond.privateMethod q.1 ∈ tables_1 ∧ Cond.instanceMethod q.1 ∈ tables_1
theorem lw_p0 : lw_okq (⟨"LeapingPassages", "refuse", "(I)I"⟩, 12) := ⟨⟨by decide +kernel, by decide +kernel⟩, List.mem_of_getElem? (i := 17) (by decide +kernel), List.mem_of_getElem? (i := 322) (by decide +kernel), List.mem_of_getElem? (i := 323) (by decide +kernel)⟩
theorem lw_p1 : lw_okq (⟨"LeapingPassages", "rowRefusal", "(II)I"⟩, 12) := ⟨⟨by decide +kernel, by decide +kernel⟩, List.mem_of_getElem? (i := 17) (by decide +kernel), List.mem_of_getElem? (i := 337) (by decide +kernel), List.mem_of_getElem? (i := 338) (by decide +kernel)⟩
theorem lw_p2 : lw_okq (⟨"LeapingPassages", "saying", "(II)I"⟩, 12) := ⟨⟨by decide +kernel, by decide +kernel⟩, List.mem_of_getElem? (i := 17) (by decide +kernel), List.mem_of_getElem? (i := 393) (by decide +kernel), List.mem_of_getElem? (i := 394) (by decide +kernel)⟩
theorem lw_p3 : lw_okq (⟨"LeapingPassages$Lists", "make", "(I)V"⟩, 7) := ⟨⟨by decide +kernel, by decide +kernel⟩, List.mem_of_getElem? (i := 135) (by decide +kernel), List.mem_of_getElem? (i := 402) (by decide +kernel), List.mem_of_getElem? (i := 403) (by decide +kernel)⟩
theorem lw_p4 : lw_okq (⟨"LeapingPassages$Lists", "findRun", "(LLeapingPassages$Ask;LLeapingPassages$Spans;)V"⟩, 7) := ⟨⟨by decide +kernel, by decide +kernel⟩, List.mem_of_getElem? (i := 135) (by decide +kernel), List.mem_of_getElem? (i := 406) (by decide +kernel), List.mem_of_getElem? (i := 407) (by decide +kernel)⟩
theorem lw_p5 : lw_okq (⟨"LeapingPassages$Lists", "hasWord", "(II)Z"⟩, 7) := ⟨⟨by decide +kernel, by decide +kernel⟩, List.mem_of_getElem? (i := 135) (by decide +kernel), List.mem_of_getElem? (i := 410) (by decide +kernel), List.mem_of_getElem? (i := 411) (by decide +kernel)⟩
theorem lw_p6 : lw_okq (⟨"LeapingPassages$Lists", "listOf", "(I)LLeapingPassages$Spans;"⟩, 7) := ⟨⟨by decide +kernel, by decide +kernel⟩, List.mem_of_getElem? (i := 135) (by decide +kernel), List.mem_of_getElem? (i := 427) (by decide +kernel), List.mem_of_getElem? (i := 428) (by decide +kernel)⟩
theorem lw_p7 : lw_okq (⟨"LeapingPassages$Lists", "keepShort", "(LLeapingPassages$Spans;ILLeapingPassages$Spans;)V"⟩, 7) := ⟨⟨by decide +kernel, by decide +kernel⟩, List.mem_of_getElem? (i := 135) (by decide +kernel), List.mem_of_getElem? (i := 431) (by decide +kernel), List.mem_of_getElem? (i := 432) (by decide +kernel)⟩
theorem lw_p8 : lw_okq (⟨"LeapingPassages$Lists", "gather", "(ILLeapingPassages$Spans;LLeapingPassages$Spans;LLeapingPassages$Spans;)V"⟩, 7) := ⟨⟨by decide +kernel, by decide +kernel⟩, List.mem_of_getElem? (i := 135) (by decide +kernel), List.mem_of_getElem? (i := 446) (by decide +kernel), List.mem_of_getElem? (i := 447) (by decide +kernel)⟩
theorem lw_p9 : lw_okq (⟨"LeapingPassages$Lists", "sift", "(ILLeapingPassages$Spans;LLeapingPassages$Spans;LLeapingPassages$Spans;)V"⟩, 7) := ⟨⟨by decide +kernel, by decide +kernel⟩, List.mem_of_getElem? (i := 135) (by decide +kernel), List.mem_of_getElem? (i := 485) (by decide +kernel), List.mem_of_getElem? (i := 486) (by decide +kernel)⟩
theorem lw_p10 : lw_okq (⟨"LeapingPassages$Lists", "follow", "(LLeapingPassages$Spans;LLeapingPassages$Spans;)V"⟩, 7) := ⟨⟨by decide +kernel, by decide +kernel⟩, List.mem_of_getElem? (i := 135) (by decide +kernel), List.mem_of_getElem? (i := 489) (by decide +kernel), List.mem_of_getElem? (i := 490) (by decide +kernel)⟩
theorem lw_p11 : lw_okq (⟨"LeapingPassages", "refuseFault", "(I)I"⟩, 12) := ⟨⟨by decide +kernel, by decide +kernel⟩, List.mem_of_getElem? (i := 17) (by decide +kernel), List.mem_of_getElem? (i := 562) (by decide +kernel), List.mem_of_getElem? (i := 563) (by decide +kernel)⟩
theorem lw_p12 : lw_okq (⟨"LeapingPassages$AskReader", "readPlain", "(I)V"⟩, 10) := ⟨⟨by decide +kernel, by decide +kernel⟩, List.mem_of_getElem? (i := 219) (by decide +kernel), List.mem_of_getElem? (i := 580) (by decide +kernel), List.mem_of_getElem? (i := 581) (by decide +kernel)⟩
theorem lw_p13 : lw_okq (⟨"LeapingPassages$AskReader", "leaf", "(III)V"⟩, 10) := ⟨⟨by decide +kernel, by decide +kernel⟩, List.mem_of_getElem? (i := 219) (by decide +kernel), List.mem_of_getElem? (i := 585) (by decide +kernel), List.mem_of_getElem? (i := 586) (by decide +kernel)⟩
theorem lw_p14 : lw_okq (⟨"LeapingPassages$AskReader", "pushWhole", "()V"⟩, 10) := ⟨⟨by decide +kernel, by decide +kernel⟩, List.mem_of_getElem? (i := 219) (by decide +kernel), List.mem_of_getElem? (i := 597) (by decide +kernel), List.mem_of_getElem? (i := 598) (by decide +kernel)⟩
theorem lw_p15 : lw_okq (⟨"LeapingPassages$AskReader", "readPhrase", "()V"⟩, 10) := ⟨⟨by decide +kernel, by decide +kernel⟩, List.mem_of_getElem? (i := 219) (by decide +kernel), List.mem_of_getElem? (i := 601) (by decide +kernel), List.mem_of_getElem? (i := 602) (by decide +kernel)⟩
def lw_privs_1 : List (MethodName × Nat) := [(⟨"LeapingPassages", "refuse", "(I)I"⟩, 12), (⟨"LeapingPassages", "rowRefusal", "(II)I"⟩, 12), (⟨"LeapingPassages", "saying", "(II)I"⟩, 12), (⟨"LeapingPassages$Lists", "make", "(I)V"⟩, 7), (⟨"LeapingPassages$Lists", "findRun", "(LLeapingPassages$Ask;LLeapingPassages$Spans;)V"⟩, 7), (⟨"LeapingPassages$Lists", "hasWord", "(II)Z"⟩, 7), (⟨"LeapingPassages$Lists", "listOf", "(I)LLeapingPassages$Spans;"⟩, 7), (⟨"LeapingPassages$Lists", "keepShort", "(LLeapingPassages$Spans;ILLeapingPassages$Spans;)V"⟩, 7), (⟨"LeapingPassages$Lists", "gather", "(ILLeapingPassages$Spans;LLeapingPassages$Spans;LLeapingPassages$Spans;)V"⟩, 7), (⟨"LeapingPassages$Lists", "sift", "(ILLeapingPassages$Spans;LLeapingPassages$Spans;LLeapingPassages$Spans;)V"⟩, 7), (⟨"LeapingPassages$Lists", "follow", "(LLeapingPassages$Spans;LLeapingPassages$Spans;)V"⟩, 7), (⟨"LeapingPassages", "refuseFault", "(I)I"⟩, 12), (⟨"LeapingPassages$AskReader", "readPlain", "(I)V"⟩, 10), (⟨"LeapingPassages$AskReader", "leaf", "(III)V"⟩, 10), (⟨"LeapingPassages$AskReader", "pushWhole", "()V"⟩, 10), (⟨"LeapingPassages$AskReader", "readPhrase", "()V"⟩, 10)]
theorem lw_r1 : ∀ q ∈ lw_privs_1, lw_okq q := List.forall_mem_cons.mpr ⟨lw_p0, List.forall_mem_cons.mpr ⟨lw_p1, List.forall_mem_cons.mpr ⟨lw_p2, List.forall_mem_cons.mpr ⟨lw_p3, List.forall_mem_cons.mpr ⟨lw_p4, List.forall_mem_cons.mpr ⟨lw_p5, List.forall_mem_cons.mpr ⟨lw_p6, List.forall_mem_cons.mpr ⟨lw_p7, List.forall_mem_cons.mpr ⟨lw_p8, List.forall_mem_cons.mpr ⟨lw_p9, List.forall_mem_cons.mpr ⟨lw_p10, List.forall_mem_cons.mpr ⟨lw_p11, List.forall_mem_cons.mpr ⟨lw_p12, List.forall_mem_cons.mpr ⟨lw_p13, List.forall_mem_cons.mpr ⟨lw_p14, List.forall_mem_cons.mpr ⟨lw_p15, fun _ h => absurd h List.not_mem_nil⟩⟩⟩⟩⟩⟩⟩⟩⟩⟩⟩⟩⟩⟩⟩⟩
theorem lw_p16 : lw_okq (⟨"LeapingPassages$AskReader", "pushSign", "(I)V"⟩, 10) := ⟨⟨by decide +kernel, by decide +kernel⟩, List.mem_of_getElem? (i := 219) (by decide +kernel), List.mem_of_getElem? (i := 605) (by decide +kernel), List.mem_of_getElem? (i := 606) (by decide +kernel)⟩
theorem lw_p17 : lw_okq (⟨"LeapingPassages$AskReader", "readNumber", "(I)I"⟩, 10) := ⟨⟨by decide +kernel, by decide +kernel⟩, List.mem_of_getElem? (i := 219) (by decide +kernel), List.mem_of_getElem? (i := 609) (by decide +kernel), List.mem_of_getElem? (i := 610) (by decide +kernel)⟩
theorem lw_p18 : lw_okq (⟨"LeapingPassages$AskReader", "readBehind", "(I)V"⟩, 10) := ⟨⟨by decide +kernel, by decide +kernel⟩, List.mem_of_getElem? (i := 219) (by decide +kernel), List.mem_of_getElem? (i := 613) (by decide +kernel), List.mem_of_getElem? (i := 614) (by decide +kernel)⟩
theorem lw_p19 : lw_okq (⟨"LeapingPassages$AskReader", "joinDownTo", "(I)V"⟩, 10) := ⟨⟨by decide +kernel, by decide +kernel⟩, List.mem_of_getElem? (i := 219) (by decide +kernel), List.mem_of_getElem? (i := 620) (by decide +kernel), List.mem_of_getElem? (i := 621) (by decide +kernel)⟩
theorem lw_p20 : lw_okq (⟨"LeapingPassages$AskReader", "topSign", "()I"⟩, 10) := ⟨⟨by decide +kernel, by decide +kernel⟩, List.mem_of_getElem? (i := 219) (by decide +kernel), List.mem_of_getElem? (i := 628) (by decide +kernel), List.mem_of_getElem? (i := 629) (by decide +kernel)⟩
theorem lw_p21 : lw_okq (⟨"LeapingPassages$AskReader", "popWhole", "()I"⟩, 10) := ⟨⟨by decide +kernel, by decide +kernel⟩, List.mem_of_getElem? (i := 219) (by decide +kernel), List.mem_of_getElem? (i := 633) (by decide +kernel), List.mem_of_getElem? (i := 634) (by decide +kernel)⟩
theorem lw_p22 : lw_okq (⟨"LeapingPassages$AskReader", "over", "(IIIII)V"⟩, 10) := ⟨⟨by decide +kernel, by decide +kernel⟩, List.mem_of_getElem? (i := 219) (by decide +kernel), List.mem_of_getElem? (i := 637) (by decide +kernel), List.mem_of_getElem? (i := 638) (by decide +kernel)⟩
theorem lw_p23 : lw_okq (⟨"LeapingPassages$AskReader", "readShort", "()V"⟩, 10) := ⟨⟨by decide +kernel, by decide +kernel⟩, List.mem_of_getElem? (i := 219) (by decide +kernel), List.mem_of_getElem? (i := 652) (by decide +kernel), List.mem_of_getElem? (i := 653) (by decide +kernel)⟩
theorem lw_p24 : lw_okq (⟨"LeapingPassages$AskReader", "readClosing", "(I)Z"⟩, 10) := ⟨⟨by decide +kernel, by decide +kernel⟩, List.mem_of_getElem? (i := 219) (by decide +kernel), List.mem_of_getElem? (i := 656) (by decide +kernel), List.mem_of_getElem? (i := 657) (by decide +kernel)⟩
theorem lw_p25 : lw_okq (⟨"LeapingPassages", "addedLeaf", "(III)I"⟩, 12) := ⟨⟨by decide +kernel, by decide +kernel⟩, List.mem_of_getElem? (i := 17) (by decide +kernel), List.mem_of_getElem? (i := 664) (by decide +kernel), List.mem_of_getElem? (i := 665) (by decide +kernel)⟩
theorem lw_p26 : lw_okq (⟨"LeapingPassages", "addedOver", "(IIIII)I"⟩, 12) := ⟨⟨by decide +kernel, by decide +kernel⟩, List.mem_of_getElem? (i := 17) (by decide +kernel), List.mem_of_getElem? (i := 686) (by decide +kernel), List.mem_of_getElem? (i := 687) (by decide +kernel)⟩
theorem lw_p27 : lw_okq (⟨"LeapingPassages", "emptyShelvesOfLostAsks", "()V"⟩, 12) := ⟨⟨by decide +kernel, by decide +kernel⟩, List.mem_of_getElem? (i := 17) (by decide +kernel), List.mem_of_getElem? (i := 711) (by decide +kernel), List.mem_of_getElem? (i := 712) (by decide +kernel)⟩
theorem lw_p28 : lw_okq (⟨"LeapingPassages", "scoreOf", "(LLeapingPassages$Spans;I)I"⟩, 12) := ⟨⟨by decide +kernel, by decide +kernel⟩, List.mem_of_getElem? (i := 17) (by decide +kernel), List.mem_of_getElem? (i := 806) (by decide +kernel), List.mem_of_getElem? (i := 807) (by decide +kernel)⟩
theorem lw_p29 : lw_okq (⟨"LeapingPassages", "partsAhead", "(II)I"⟩, 12) := ⟨⟨by decide +kernel, by decide +kernel⟩, List.mem_of_getElem? (i := 17) (by decide +kernel), List.mem_of_getElem? (i := 814) (by decide +kernel), List.mem_of_getElem? (i := 815) (by decide +kernel)⟩
theorem lw_p30 : lw_okq (⟨"LeapingPassages", "shelvesInUse", "()I"⟩, 12) := ⟨⟨by decide +kernel, by decide +kernel⟩, List.mem_of_getElem? (i := 17) (by decide +kernel), List.mem_of_getElem? (i := 966) (by decide +kernel), List.mem_of_getElem? (i := 967) (by decide +kernel)⟩
theorem lw_p31 : lw_okq (⟨"LeapingPassagesModel", "refuse", "(I)I"⟩, 42) := ⟨⟨by decide +kernel, by decide +kernel⟩, List.mem_of_getElem? (i := 970) (by decide +kernel), List.mem_of_getElem? (i := 1115) (by decide +kernel), List.mem_of_getElem? (i := 1116) (by decide +kernel)⟩
def lw_privs_2 : List (MethodName × Nat) := [(⟨"LeapingPassages$AskReader", "pushSign", "(I)V"⟩, 10), (⟨"LeapingPassages$AskReader", "readNumber", "(I)I"⟩, 10), (⟨"LeapingPassages$AskReader", "readBehind", "(I)V"⟩, 10), (⟨"LeapingPassages$AskReader", "joinDownTo", "(I)V"⟩, 10), (⟨"LeapingPassages$AskReader", "topSign", "()I"⟩, 10), (⟨"LeapingPassages$AskReader", "popWhole", "()I"⟩, 10), (⟨"LeapingPassages$AskReader", "over", "(IIIII)V"⟩, 10), (⟨"LeapingPassages$AskReader", "readShort", "()V"⟩, 10), (⟨"LeapingPassages$AskReader", "readClosing", "(I)Z"⟩, 10), (⟨"LeapingPassages", "addedLeaf", "(III)I"⟩, 12), (⟨"LeapingPassages", "addedOver", "(IIIII)I"⟩, 12), (⟨"LeapingPassages", "emptyShelvesOfLostAsks", "()V"⟩, 12), (⟨"LeapingPassages", "scoreOf", "(LLeapingPassages$Spans;I)I"⟩, 12), (⟨"LeapingPassages", "partsAhead", "(II)I"⟩, 12), (⟨"LeapingPassages", "shelvesInUse", "()I"⟩, 12), (⟨"LeapingPassagesModel", "refuse", "(I)I"⟩, 42)]
theorem lw_r2 : ∀ q ∈ lw_privs_2, lw_okq q := List.forall_mem_cons.mpr ⟨lw_p16, List.forall_mem_cons.mpr ⟨lw_p17, List.forall_mem_cons.mpr ⟨lw_p18, List.forall_mem_cons.mpr ⟨lw_p19, List.forall_mem_cons.mpr ⟨lw_p20, List.forall_mem_cons.mpr ⟨lw_p21, List.forall_mem_cons.mpr ⟨lw_p22, List.forall_mem_cons.mpr ⟨lw_p23, List.forall_mem_cons.mpr ⟨lw_p24, List.forall_mem_cons.mpr ⟨lw_p25, List.forall_mem_cons.mpr ⟨lw_p26, List.forall_mem_cons.mpr ⟨lw_p27, List.forall_mem_cons.mpr ⟨lw_p28, List.forall_mem_cons.mpr ⟨lw_p29, List.forall_mem_cons.mpr ⟨lw_p30, List.forall_mem_cons.mpr ⟨lw_p31, fun _ h => absurd h List.not_mem_nil⟩⟩⟩⟩⟩⟩⟩⟩⟩⟩⟩⟩⟩⟩⟩⟩
theorem lw_p32 : lw_okq (⟨"LeapingPassagesModel", "noRow", "(I)I"⟩, 42) := ⟨⟨by decide +kernel, by decide +kernel⟩, List.mem_of_getElem? (i := 970) (by decide +kernel), List.mem_of_getElem? (i := 1123) (by decide +kernel), List.mem_of_getElem? (i := 1124) (by decide +kernel)⟩
theorem lw_p33 : lw_okq (⟨"LeapingPassagesModel", "isAsk", "(I)Z"⟩, 42) := ⟨⟨by decide +kernel, by decide +kernel⟩, List.mem_of_getElem? (i := 970) (by decide +kernel), List.mem_of_getElem? (i := 1146) (by decide +kernel), List.mem_of_getElem? (i := 1147) (by decide +kernel)⟩
theorem lw_p34 : lw_okq (⟨"LeapingPassagesModel", "work", "()V"⟩, 42) := ⟨⟨by decide +kernel, by decide +kernel⟩, List.mem_of_getElem? (i := 970) (by decide +kernel), List.mem_of_getElem? (i := 1158) (by decide +kernel), List.mem_of_getElem? (i := 1159) (by decide +kernel)⟩
theorem lw_p35 : lw_okq (⟨"LeapingPassagesModel", "workAll", "()V"⟩, 42) := ⟨⟨by decide +kernel, by decide +kernel⟩, List.mem_of_getElem? (i := 970) (by decide +kernel), List.mem_of_getElem? (i := 1162) (by decide +kernel), List.mem_of_getElem? (i := 1163) (by decide +kernel)⟩
theorem lw_p36 : lw_okq (⟨"LeapingPassagesModel", "setsOf", "()V"⟩, 42) := ⟨⟨by decide +kernel, by decide +kernel⟩, List.mem_of_getElem? (i := 970) (by decide +kernel), List.mem_of_getElem? (i := 1166) (by decide +kernel), List.mem_of_getElem? (i := 1167) (by decide +kernel)⟩
theorem lw_p37 : lw_okq (⟨"LeapingPassagesModel", "leafInto", "(I)V"⟩, 42) := ⟨⟨by decide +kernel, by decide +kernel⟩, List.mem_of_getElem? (i := 970) (by decide +kernel), List.mem_of_getElem? (i := 1170) (by decide +kernel), List.mem_of_getElem? (i := 1171) (by decide +kernel)⟩
theorem lw_p38 : lw_okq (⟨"LeapingPassagesModel", "clear", "()V"⟩, 42) := ⟨⟨by decide +kernel, by decide +kernel⟩, List.mem_of_getElem? (i := 970) (by decide +kernel), List.mem_of_getElem? (i := 1174) (by decide +kernel), List.mem_of_getElem? (i := 1175) (by decide +kernel)⟩
theorem lw_p39 : lw_okq (⟨"LeapingPassagesModel", "offer", "(II)V"⟩, 42) := ⟨⟨by decide +kernel, by decide +kernel⟩, List.mem_of_getElem? (i := 970) (by decide +kernel), List.mem_of_getElem? (i := 1178) (by decide +kernel), List.mem_of_getElem? (i := 1179) (by decide +kernel)⟩
theorem lw_p40 : lw_okq (⟨"LeapingPassagesModel", "settle", "(I)V"⟩, 42) := ⟨⟨by decide +kernel, by decide +kernel⟩, List.mem_of_getElem? (i := 970) (by decide +kernel), List.mem_of_getElem? (i := 1182) (by decide +kernel), List.mem_of_getElem? (i := 1183) (by decide +kernel)⟩
theorem lw_p41 : lw_okq (⟨"LeapingPassagesModel", "regionInto", "(I)V"⟩, 42) := ⟨⟨by decide +kernel, by decide +kernel⟩, List.mem_of_getElem? (i := 970) (by decide +kernel), List.mem_of_getElem? (i := 1186) (by decide +kernel), List.mem_of_getElem? (i := 1187) (by decide +kernel)⟩
theorem lw_p42 : lw_okq (⟨"LeapingPassagesModel", "ends", "(II)Z"⟩, 42) := ⟨⟨by decide +kernel, by decide +kernel⟩, List.mem_of_getElem? (i := 970) (by decide +kernel), List.mem_of_getElem? (i := 1190) (by decide +kernel), List.mem_of_getElem? (i := 1191) (by decide +kernel)⟩
theorem lw_p43 : lw_okq (⟨"LeapingPassagesModel", "shortInto", "(I)V"⟩, 42) := ⟨⟨by decide +kernel, by decide +kernel⟩, List.mem_of_getElem? (i := 970) (by decide +kernel), List.mem_of_getElem? (i := 1194) (by decide +kernel), List.mem_of_getElem? (i := 1195) (by decide +kernel)⟩
theorem lw_p44 : lw_okq (⟨"LeapingPassagesModel", "last", "(II)I"⟩, 42) := ⟨⟨by decide +kernel, by decide +kernel⟩, List.mem_of_getElem? (i := 970) (by decide +kernel), List.mem_of_getElem? (i := 1198) (by decide +kernel), List.mem_of_getElem? (i := 1199) (by decide +kernel)⟩
theorem lw_p45 : lw_okq (⟨"LeapingPassagesModel", "first", "(II)I"⟩, 42) := ⟨⟨by decide +kernel, by decide +kernel⟩, List.mem_of_getElem? (i := 970) (by decide +kernel), List.mem_of_getElem? (i := 1202) (by decide +kernel), List.mem_of_getElem? (i := 1203) (by decide +kernel)⟩
theorem lw_p46 : lw_okq (⟨"LeapingPassagesModel", "someInto", "(I)V"⟩, 42) := ⟨⟨by decide +kernel, by decide +kernel⟩, List.mem_of_getElem? (i := 970) (by decide +kernel), List.mem_of_getElem? (i := 1206) (by decide +kernel), List.mem_of_getElem? (i := 1207) (by decide +kernel)⟩
theorem lw_p47 : lw_okq (⟨"LeapingPassagesModel", "pairInto", "(IIII)V"⟩, 42) := ⟨⟨by decide +kernel, by decide +kernel⟩, List.mem_of_getElem? (i := 970) (by decide +kernel), List.mem_of_getElem? (i := 1210) (by decide +kernel), List.mem_of_getElem? (i := 1211) (by decide +kernel)⟩
def lw_privs_3 : List (MethodName × Nat) := [(⟨"LeapingPassagesModel", "noRow", "(I)I"⟩, 42), (⟨"LeapingPassagesModel", "isAsk", "(I)Z"⟩, 42), (⟨"LeapingPassagesModel", "work", "()V"⟩, 42), (⟨"LeapingPassagesModel", "workAll", "()V"⟩, 42), (⟨"LeapingPassagesModel", "setsOf", "()V"⟩, 42), (⟨"LeapingPassagesModel", "leafInto", "(I)V"⟩, 42), (⟨"LeapingPassagesModel", "clear", "()V"⟩, 42), (⟨"LeapingPassagesModel", "offer", "(II)V"⟩, 42), (⟨"LeapingPassagesModel", "settle", "(I)V"⟩, 42), (⟨"LeapingPassagesModel", "regionInto", "(I)V"⟩, 42), (⟨"LeapingPassagesModel", "ends", "(II)Z"⟩, 42), (⟨"LeapingPassagesModel", "shortInto", "(I)V"⟩, 42), (⟨"LeapingPassagesModel", "last", "(II)I"⟩, 42), (⟨"LeapingPassagesModel", "first", "(II)I"⟩, 42), (⟨"LeapingPassagesModel", "someInto", "(I)V"⟩, 42), (⟨"LeapingPassagesModel", "pairInto", "(IIII)V"⟩, 42)]
theorem lw_r3 : ∀ q ∈ lw_privs_3, lw_okq q := List.forall_mem_cons.mpr ⟨lw_p32, List.forall_mem_cons.mpr ⟨lw_p33, List.forall_mem_cons.mpr ⟨lw_p34, List.forall_mem_cons.mpr ⟨lw_p35, List.forall_mem_cons.mpr ⟨lw_p36, List.forall_mem_cons.mpr ⟨lw_p37, List.forall_mem_cons.mpr ⟨lw_p38, List.forall_mem_cons.mpr ⟨lw_p39, List.forall_mem_cons.mpr ⟨lw_p40, List.forall_mem_cons.mpr ⟨lw_p41, List.forall_mem_cons.mpr ⟨lw_p42, List.forall_mem_cons.mpr ⟨lw_p43, List.forall_mem_cons.mpr ⟨lw_p44, List.forall_mem_cons.mpr ⟨lw_p45, List.forall_mem_cons.mpr ⟨lw_p46, List.forall_mem_cons.mpr ⟨lw_p47, fun _ h => absurd h List.not_mem_nil⟩⟩⟩⟩⟩⟩⟩⟩⟩⟩⟩⟩⟩⟩⟩⟩
theorem lw_p48 : lw_okq (⟨"LeapingPassagesModel", "offerAll", "(I)V"⟩, 42) := ⟨⟨by decide +kernel, by decide +kernel⟩, List.mem_of_getElem? (i := 970) (by decide +kernel), List.mem_of_getElem? (i := 1214) (by decide +kernel), List.mem_of_getElem? (i := 1215) (by decide +kernel)⟩
theorem lw_p49 : lw_okq (⟨"LeapingPassagesModel", "offerMerged", "(III)V"⟩, 42) := ⟨⟨by decide +kernel, by decide +kernel⟩, List.mem_of_getElem? (i := 970) (by decide +kernel), List.mem_of_getElem? (i := 1218) (by decide +kernel), List.mem_of_getElem? (i := 1219) (by decide +kernel)⟩
theorem lw_p50 : lw_okq (⟨"LeapingPassagesModel", "offerTested", "(III)V"⟩, 42) := ⟨⟨by decide +kernel, by decide +kernel⟩, List.mem_of_getElem? (i := 970) (by decide +kernel), List.mem_of_getElem? (i := 1222) (by decide +kernel), List.mem_of_getElem? (i := 1223) (by decide +kernel)⟩
theorem lw_p51 : lw_okq (⟨"LeapingPassagesModel", "lying", "(IIIZ)I"⟩, 42) := ⟨⟨by decide +kernel, by decide +kernel⟩, List.mem_of_getElem? (i := 970) (by decide +kernel), List.mem_of_getElem? (i := 1226) (by decide +kernel), List.mem_of_getElem? (i := 1227) (by decide +kernel)⟩
theorem lw_p52 : lw_okq (⟨"LeapingPassagesModel", "liesIn", "(IIII)Z"⟩, 42) := ⟨⟨by decide +kernel, by decide +kernel⟩, List.mem_of_getElem? (i := 970) (by decide +kernel), List.mem_of_getElem? (i := 1230) (by decide +kernel), List.mem_of_getElem? (i := 1231) (by decide +kernel)⟩
theorem lw_p53 : lw_okq (⟨"LeapingPassagesModel", "addPlace", "(I)V"⟩, 42) := ⟨⟨by decide +kernel, by decide +kernel⟩, List.mem_of_getElem? (i := 970) (by decide +kernel), List.mem_of_getElem? (i := 1239) (by decide +kernel), List.mem_of_getElem? (i := 1240) (by decide +kernel)⟩
theorem lw_p54 : lw_okq (⟨"LeapingPassagesModel", "isPlace", "(I)Z"⟩, 42) := ⟨⟨by decide +kernel, by decide +kernel⟩, List.mem_of_getElem? (i := 970) (by decide +kernel), List.mem_of_getElem? (i := 1252) (by decide +kernel), List.mem_of_getElem? (i := 1253) (by decide +kernel)⟩
theorem lw_p55 : lw_okq (⟨"LeapingPassagesModel", "textFault", "()I"⟩, 42) := ⟨⟨by decide +kernel, by decide +kernel⟩, List.mem_of_getElem? (i := 970) (by decide +kernel), List.mem_of_getElem? (i := 1273) (by decide +kernel), List.mem_of_getElem? (i := 1274) (by decide +kernel)⟩
theorem lw_p56 : lw_okq (⟨"LeapingPassagesModel", "lettersIn", "()I"⟩, 42) := ⟨⟨by decide +kernel, by decide +kernel⟩, List.mem_of_getElem? (i := 970) (by decide +kernel), List.mem_of_getElem? (i := 1279) (by decide +kernel), List.mem_of_getElem? (i := 1280) (by decide +kernel)⟩
theorem lw_p57 : lw_okq (⟨"LeapingPassagesModel", "askHere", "()I"⟩, 42) := ⟨⟨by decide +kernel, by decide +kernel⟩, List.mem_of_getElem? (i := 970) (by decide +kernel), List.mem_of_getElem? (i := 1287) (by decide +kernel), List.mem_of_getElem? (i := 1288) (by decide +kernel)⟩
theorem lw_p58 : lw_okq (⟨"LeapingPassagesModel", "eachHere", "()I"⟩, 42) := ⟨⟨by decide +kernel, by decide +kernel⟩, List.mem_of_getElem? (i := 970) (by decide +kernel), List.mem_of_getElem? (i := 1291) (by decide +kernel), List.mem_of_getElem? (i := 1292) (by decide +kernel)⟩
theorem lw_p59 : lw_okq (⟨"LeapingPassagesModel", "chainHere", "()I"⟩, 42) := ⟨⟨by decide +kernel, by decide +kernel⟩, List.mem_of_getElem? (i := 970) (by decide +kernel), List.mem_of_getElem? (i := 1295) (by decide +kernel), List.mem_of_getElem? (i := 1296) (by decide +kernel)⟩
theorem lw_p60 : lw_okq (⟨"LeapingPassagesModel", "testHere", "()I"⟩, 42) := ⟨⟨by decide +kernel, by decide +kernel⟩, List.mem_of_getElem? (i := 970) (by decide +kernel), List.mem_of_getElem? (i := 1299) (by decide +kernel), List.mem_of_getElem? (i := 1300) (by decide +kernel)⟩
theorem lw_p61 : lw_okq (⟨"LeapingPassagesModel", "plainHere", "()I"⟩, 42) := ⟨⟨by decide +kernel, by decide +kernel⟩, List.mem_of_getElem? (i := 970) (by decide +kernel), List.mem_of_getElem? (i := 1303) (by decide +kernel), List.mem_of_getElem? (i := 1304) (by decide +kernel)⟩
theorem lw_p62 : lw_okq (⟨"LeapingPassagesModel", "here", "()I"⟩, 42) := ⟨⟨by decide +kernel, by decide +kernel⟩, List.mem_of_getElem? (i := 970) (by decide +kernel), List.mem_of_getElem? (i := 1307) (by decide +kernel), List.mem_of_getElem? (i := 1308) (by decide +kernel)⟩
theorem lw_p63 : lw_okq (⟨"LeapingPassagesModel", "make", "(IIIII)I"⟩, 42) := ⟨⟨by decide +kernel, by decide +kernel⟩, List.mem_of_getElem? (i := 970) (by decide +kernel), List.mem_of_getElem? (i := 1311) (by decide +kernel), List.mem_of_getElem? (i := 1312) (by decide +kernel)⟩
def lw_privs_4 : List (MethodName × Nat) := [(⟨"LeapingPassagesModel", "offerAll", "(I)V"⟩, 42), (⟨"LeapingPassagesModel", "offerMerged", "(III)V"⟩, 42), (⟨"LeapingPassagesModel", "offerTested", "(III)V"⟩, 42), (⟨"LeapingPassagesModel", "lying", "(IIIZ)I"⟩, 42), (⟨"LeapingPassagesModel", "liesIn", "(IIII)Z"⟩, 42), (⟨"LeapingPassagesModel", "addPlace", "(I)V"⟩, 42), (⟨"LeapingPassagesModel", "isPlace", "(I)Z"⟩, 42), (⟨"LeapingPassagesModel", "textFault", "()I"⟩, 42), (⟨"LeapingPassagesModel", "lettersIn", "()I"⟩, 42), (⟨"LeapingPassagesModel", "askHere", "()I"⟩, 42), (⟨"LeapingPassagesModel", "eachHere", "()I"⟩, 42), (⟨"LeapingPassagesModel", "chainHere", "()I"⟩, 42), (⟨"LeapingPassagesModel", "testHere", "()I"⟩, 42), (⟨"LeapingPassagesModel", "plainHere", "()I"⟩, 42), (⟨"LeapingPassagesModel", "here", "()I"⟩, 42), (⟨"LeapingPassagesModel", "make", "(IIIII)I"⟩, 42)]
theorem lw_r4 : ∀ q ∈ lw_privs_4, lw_okq q := List.forall_mem_cons.mpr ⟨lw_p48, List.forall_mem_cons.mpr ⟨lw_p49, List.forall_mem_cons.mpr ⟨lw_p50, List.forall_mem_cons.mpr ⟨lw_p51, List.forall_mem_cons.mpr ⟨lw_p52, List.forall_mem_cons.mpr ⟨lw_p53, List.forall_mem_cons.mpr ⟨lw_p54, List.forall_mem_cons.mpr ⟨lw_p55, List.forall_mem_cons.mpr ⟨lw_p56, List.forall_mem_cons.mpr ⟨lw_p57, List.forall_mem_cons.mpr ⟨lw_p58, List.forall_mem_cons.mpr ⟨lw_p59, List.forall_mem_cons.mpr ⟨lw_p60, List.forall_mem_cons.mpr ⟨lw_p61, List.forall_mem_cons.mpr ⟨lw_p62, List.forall_mem_cons.mpr ⟨lw_p63, fun _ h => absurd h List.not_mem_nil⟩⟩⟩⟩⟩⟩⟩⟩⟩⟩⟩⟩⟩⟩⟩⟩
theorem lw_p64 : lw_okq (⟨"LeapingPassagesModel", "phraseHere", "()I"⟩, 42) := ⟨⟨by decide +kernel, by decide +kernel⟩, List.mem_of_getElem? (i := 970) (by decide +kernel), List.mem_of_getElem? (i := 1315) (by decide +kernel), List.mem_of_getElem? (i := 1316) (by decide +kernel)⟩
theorem lw_p65 : lw_okq (⟨"LeapingPassagesModel", "wrong", "(I)I"⟩, 42) := ⟨⟨by decide +kernel, by decide +kernel⟩, List.mem_of_getElem? (i := 970) (by decide +kernel), List.mem_of_getElem? (i := 1319) (by decide +kernel), List.mem_of_getElem? (i := 1320) (by decide +kernel)⟩
theorem lw_p66 : lw_okq (⟨"LeapingPassagesModel", "must", "(I)V"⟩, 42) := ⟨⟨by decide +kernel, by decide +kernel⟩, List.mem_of_getElem? (i := 970) (by decide +kernel), List.mem_of_getElem? (i := 1323) (by decide +kernel), List.mem_of_getElem? (i := 1324) (by decide +kernel)⟩
theorem lw_p67 : lw_okq (⟨"LeapingPassagesModel", "sees", "(I)Z"⟩, 42) := ⟨⟨by decide +kernel, by decide +kernel⟩, List.mem_of_getElem? (i := 970) (by decide +kernel), List.mem_of_getElem? (i := 1327) (by decide +kernel), List.mem_of_getElem? (i := 1328) (by decide +kernel)⟩
theorem lw_p68 : lw_okq (⟨"LeapingPassagesModel", "someHere", "()I"⟩, 42) := ⟨⟨by decide +kernel, by decide +kernel⟩, List.mem_of_getElem? (i := 970) (by decide +kernel), List.mem_of_getElem? (i := 1331) (by decide +kernel), List.mem_of_getElem? (i := 1332) (by decide +kernel)⟩
theorem lw_p69 : lw_okq (⟨"LeapingPassagesModel", "number", "(II)I"⟩, 42) := ⟨⟨by decide +kernel, by decide +kernel⟩, List.mem_of_getElem? (i := 970) (by decide +kernel), List.mem_of_getElem? (i := 1335) (by decide +kernel), List.mem_of_getElem? (i := 1336) (by decide +kernel)⟩
theorem lw_p70 : lw_okq (⟨"LeapingPassagesModel", "add", "(IIIII)I"⟩, 42) := ⟨⟨by decide +kernel, by decide +kernel⟩, List.mem_of_getElem? (i := 970) (by decide +kernel), List.mem_of_getElem? (i := 1348) (by decide +kernel), List.mem_of_getElem? (i := 1349) (by decide +kernel)⟩
theorem lw_p71 : lw_okq (⟨"LeapingPassagesModel", "noRowOf", "(II)I"⟩, 42) := ⟨⟨by decide +kernel, by decide +kernel⟩, List.mem_of_getElem? (i := 970) (by decide +kernel), List.mem_of_getElem? (i := 1356) (by decide +kernel), List.mem_of_getElem? (i := 1357) (by decide +kernel)⟩
theorem lw_p72 : lw_okq (⟨"LeapingPassagesModel", "treesOf", "()V"⟩, 42) := ⟨⟨by decide +kernel, by decide +kernel⟩, List.mem_of_getElem? (i := 970) (by decide +kernel), List.mem_of_getElem? (i := 1387) (by decide +kernel), List.mem_of_getElem? (i := 1388) (by decide +kernel)⟩
theorem lw_p73 : lw_okq (⟨"LeapingPassagesModel", "wordsOf", "(I)I"⟩, 42) := ⟨⟨by decide +kernel, by decide +kernel⟩, List.mem_of_getElem? (i := 970) (by decide +kernel), List.mem_of_getElem? (i := 1391) (by decide +kernel), List.mem_of_getElem? (i := 1392) (by decide +kernel)⟩
theorem lw_p74 : lw_okq (⟨"LeapingPassagesModel", "endsAhead", "(II)I"⟩, 42) := ⟨⟨by decide +kernel, by decide +kernel⟩, List.mem_of_getElem? (i := 970) (by decide +kernel), List.mem_of_getElem? (i := 1404) (by decide +kernel), List.mem_of_getElem? (i := 1405) (by decide +kernel)⟩
theorem lw_p75 : lw_okq (⟨"LeapingPassagesModel", "spanOf", "(II)I"⟩, 42) := ⟨⟨by decide +kernel, by decide +kernel⟩, List.mem_of_getElem? (i := 970) (by decide +kernel), List.mem_of_getElem? (i := 1416) (by decide +kernel), List.mem_of_getElem? (i := 1417) (by decide +kernel)⟩
theorem lw_p76 : lw_okq (⟨"LeapingPassagesModel", "hold", "(II)I"⟩, 42) := ⟨⟨by decide +kernel, by decide +kernel⟩, List.mem_of_getElem? (i := 970) (by decide +kernel), List.mem_of_getElem? (i := 1428) (by decide +kernel), List.mem_of_getElem? (i := 1429) (by decide +kernel)⟩
theorem lw_p77 : lw_okq (⟨"LeapingPassagesModel", "size", "(II)I"⟩, 42) := ⟨⟨by decide +kernel, by decide +kernel⟩, List.mem_of_getElem? (i := 970) (by decide +kernel), List.mem_of_getElem? (i := 1444) (by decide +kernel), List.mem_of_getElem? (i := 1445) (by decide +kernel)⟩
theorem lw_p78 : lw_okq (⟨"LeapingPassagesModel", "parts", "()I"⟩, 42) := ⟨⟨by decide +kernel, by decide +kernel⟩, List.mem_of_getElem? (i := 970) (by decide +kernel), List.mem_of_getElem? (i := 1460) (by decide +kernel), List.mem_of_getElem? (i := 1461) (by decide +kernel)⟩
theorem lw_p79 : lw_okq (⟨"LeapingPassagesModel", "scoreOf", "(II)I"⟩, 42) := ⟨⟨by decide +kernel, by decide +kernel⟩, List.mem_of_getElem? (i := 970) (by decide +kernel), List.mem_of_getElem? (i := 1464) (by decide +kernel), List.mem_of_getElem? (i := 1465) (by decide +kernel)⟩
def lw_privs_5 : List (MethodName × Nat) := [(⟨"LeapingPassagesModel", "phraseHere", "()I"⟩, 42), (⟨"LeapingPassagesModel", "wrong", "(I)I"⟩, 42), (⟨"LeapingPassagesModel", "must", "(I)V"⟩, 42), (⟨"LeapingPassagesModel", "sees", "(I)Z"⟩, 42), (⟨"LeapingPassagesModel", "someHere", "()I"⟩, 42), (⟨"LeapingPassagesModel", "number", "(II)I"⟩, 42), (⟨"LeapingPassagesModel", "add", "(IIIII)I"⟩, 42), (⟨"LeapingPassagesModel", "noRowOf", "(II)I"⟩, 42), (⟨"LeapingPassagesModel", "treesOf", "()V"⟩, 42), (⟨"LeapingPassagesModel", "wordsOf", "(I)I"⟩, 42), (⟨"LeapingPassagesModel", "endsAhead", "(II)I"⟩, 42), (⟨"LeapingPassagesModel", "spanOf", "(II)I"⟩, 42), (⟨"LeapingPassagesModel", "hold", "(II)I"⟩, 42), (⟨"LeapingPassagesModel", "size", "(II)I"⟩, 42), (⟨"LeapingPassagesModel", "parts", "()I"⟩, 42), (⟨"LeapingPassagesModel", "scoreOf", "(II)I"⟩, 42)]
theorem lw_r5 : ∀ q ∈ lw_privs_5, lw_okq q := List.forall_mem_cons.mpr ⟨lw_p64, List.forall_mem_cons.mpr ⟨lw_p65, List.forall_mem_cons.mpr ⟨lw_p66, List.forall_mem_cons.mpr ⟨lw_p67, List.forall_mem_cons.mpr ⟨lw_p68, List.forall_mem_cons.mpr ⟨lw_p69, List.forall_mem_cons.mpr ⟨lw_p70, List.forall_mem_cons.mpr ⟨lw_p71, List.forall_mem_cons.mpr ⟨lw_p72, List.forall_mem_cons.mpr ⟨lw_p73, List.forall_mem_cons.mpr ⟨lw_p74, List.forall_mem_cons.mpr ⟨lw_p75, List.forall_mem_cons.mpr ⟨lw_p76, List.forall_mem_cons.mpr ⟨lw_p77, List.forall_mem_cons.mpr ⟨lw_p78, List.forall_mem_cons.mpr ⟨lw_p79, fun _ h => absurd h List.not_mem_nil⟩⟩⟩⟩⟩⟩⟩⟩⟩⟩⟩⟩⟩⟩⟩⟩
theorem lw_p80 : lw_okq (⟨"LeapingPassagesModel", "isIn", "(III)Z"⟩, 42) := ⟨⟨by decide +kernel, by decide +kernel⟩, List.mem_of_getElem? (i := 970) (by decide +kernel), List.mem_of_getElem? (i := 1484) (by decide +kernel), List.mem_of_getElem? (i := 1485) (by decide +kernel)⟩
theorem lw_p81 : lw_okq (⟨"LeapingPassagesModel", "differ", "(II)I"⟩, 42) := ⟨⟨by decide +kernel, by decide +kernel⟩, List.mem_of_getElem? (i := 970) (by decide +kernel), List.mem_of_getElem? (i := 1492) (by decide +kernel), List.mem_of_getElem? (i := 1493) (by decide +kernel)⟩
theorem lw_p82 : lw_okq (⟨"LeapingPassagesModel", "isInside", "(II)Z"⟩, 42) := ⟨⟨by decide +kernel, by decide +kernel⟩, List.mem_of_getElem? (i := 970) (by decide +kernel), List.mem_of_getElem? (i := 1504) (by decide +kernel), List.mem_of_getElem? (i := 1505) (by decide +kernel)⟩
theorem lw_p83 : lw_okq (⟨"LeapingPassagesModel", "manyIf", "(III)I"⟩, 42) := ⟨⟨by decide +kernel, by decide +kernel⟩, List.mem_of_getElem? (i := 970) (by decide +kernel), List.mem_of_getElem? (i := 1516) (by decide +kernel), List.mem_of_getElem? (i := 1517) (by decide +kernel)⟩
theorem lw_p84 : lw_okq (⟨"LeapingPassagesModel", "wrongAt", "(III)I"⟩, 42) := ⟨⟨by decide +kernel, by decide +kernel⟩, List.mem_of_getElem? (i := 970) (by decide +kernel), List.mem_of_getElem? (i := 1529) (by decide +kernel), List.mem_of_getElem? (i := 1530) (by decide +kernel)⟩
theorem lw_p85 : lw_okq (⟨"LeapingPassagesModel", "draw", "(I)I"⟩, 42) := ⟨⟨by decide +kernel, by decide +kernel⟩, List.mem_of_getElem? (i := 970) (by decide +kernel), List.mem_of_getElem? (i := 1549) (by decide +kernel), List.mem_of_getElem? (i := 1550) (by decide +kernel)⟩
def lw_privs_6 : List (MethodName × Nat) := [(⟨"LeapingPassagesModel", "isIn", "(III)Z"⟩, 42), (⟨"LeapingPassagesModel", "differ", "(II)I"⟩, 42), (⟨"LeapingPassagesModel", "isInside", "(II)Z"⟩, 42), (⟨"LeapingPassagesModel", "manyIf", "(III)I"⟩, 42), (⟨"LeapingPassagesModel", "wrongAt", "(III)I"⟩, 42), (⟨"LeapingPassagesModel", "draw", "(I)I"⟩, 42)]
theorem lw_r6 : ∀ q ∈ lw_privs_6, lw_okq q := List.forall_mem_cons.mpr ⟨lw_p80, List.forall_mem_cons.mpr ⟨lw_p81, List.forall_mem_cons.mpr ⟨lw_p82, List.forall_mem_cons.mpr ⟨lw_p83, List.forall_mem_cons.mpr ⟨lw_p84, List.forall_mem_cons.mpr ⟨lw_p85, fun _ h => absurd h List.not_mem_nil⟩⟩⟩⟩⟩⟩
def lw_privs : List (MethodName × Nat) := lw_privs_1 ++ (lw_privs_2 ++ (lw_privs_3 ++ (lw_privs_4 ++ (lw_privs_5 ++ (lw_privs_6)))))
def lw_tbl : List Cond := k2_sels lw_privs ++ tables_1
theorem lw_privs_ok : ∀ q ∈ lw_privs, lw_okq q := by
  show ∀ q ∈ lw_privs_1 ++ (lw_privs_2 ++ (lw_privs_3 ++ (lw_privs_4 ++ (lw_privs_5 ++ (lw_privs_6))))), lw_okq q
  exact List.forall_mem_append.mpr ⟨lw_r1, List.forall_mem_append.mpr ⟨lw_r2, List.forall_mem_append.mpr ⟨lw_r3, List.forall_mem_append.mpr ⟨lw_r4, List.forall_mem_append.mpr ⟨lw_r5, lw_r6⟩⟩⟩⟩⟩

def RX0 : String := "LeapingPassages$Ask"
def TX0 : u_T := fun k => match k with
  | 0 => ("LeapingPassages$Ask", "kind", "I", false)
  | 1 => ("LeapingPassages$Ask", "x", "I", false)
  | 2 => ("LeapingPassages$Ask", "y", "I", false)
  | 3 => ("LeapingPassages$Ask", "z", "I", false)
  | 4 => ("LeapingPassages$Ask", "number", "I", false)
  | 5 => ("LeapingPassages$Ask", "run", "I", false)
  | 6 => ("LeapingPassages$Ask", "length", "I", false)
  | 7 => ("LeapingPassages$Ask", "weight", "I", false)
  | 8 => ("LeapingPassages$Ask", "depth", "I", false)
  | 9 => ("LeapingPassages$Ask", "words", "I", false)
  | _ => ("LeapingPassages$Ask", "reach", "I", false)
def tyX0 : Nat → FieldType := fun k => match k with
  | 0 => .int
  | 1 => .int
  | 2 => .int
  | 3 => .int
  | 4 => .int
  | 5 => .int
  | 6 => .int
  | 7 => .int
  | 8 => .int
  | 9 => .int
  | _ => .int
abbrev wsX00 : List Cond := u_ws RX0 TX0 11
theorem nmX0 : ∀ a, a < 11 → ∀ b, b < 11 → a ≠ b → (TX0 a).2.1 ≠ (TX0 b).2.1 := by decide +kernel
theorem tyX0_ok : ∀ k, k < 11 → parseFieldDescriptor (TX0 k).2.2.1 = some (tyX0 k) := by decide +kernel
def RX1 : String := "LeapingPassages$AskReader"
def TX1 : u_T := fun k => match k with
  | 0 => ("LeapingPassages$AskReader", "tape", "LLeapingPassages$Tape;", true)
  | 1 => ("LeapingPassages$AskReader", "asks", "LLeapingPassages$Asks;", true)
  | 2 => ("LeapingPassages$AskReader", "wholes", "[I", true)
  | 3 => ("LeapingPassages$AskReader", "signs", "[I", true)
  | 4 => ("LeapingPassages$AskReader", "wholeCount", "I", false)
  | 5 => ("LeapingPassages$AskReader", "signCount", "I", false)
  | 6 => ("LeapingPassages$AskReader", "spot", "I", false)
  | 7 => ("LeapingPassages$AskReader", "fault", "I", false)
  | 8 => ("LeapingPassages$AskReader", "wantsPlain", "Z", false)
  | _ => ("LeapingPassages$AskReader", "askCount", "I", false)
def tyX1 : Nat → FieldType := fun k => match k with
  | 0 => .object "LeapingPassages$Tape"
  | 1 => .object "LeapingPassages$Asks"
  | 2 => .array .int
  | 3 => .array .int
  | 4 => .int
  | 5 => .int
  | 6 => .int
  | 7 => .int
  | 8 => .boolean
  | _ => .int
abbrev wsX10 : List Cond := u_ws RX1 TX1 10
theorem nmX1 : ∀ a, a < 10 → ∀ b, b < 10 → a ≠ b → (TX1 a).2.1 ≠ (TX1 b).2.1 := by decide +kernel
theorem tyX1_ok : ∀ k, k < 10 → parseFieldDescriptor (TX1 k).2.2.1 = some (tyX1 k) := by decide +kernel
def RX2 : String := "LeapingPassages$Asks"
def TX2 : u_T := fun k => match k with
  | 0 => ("LeapingPassages$Asks", "row", "[LLeapingPassages$Ask;", true)
  | _ => ("LeapingPassages$Asks", "size", "I", false)
def tyX2 : Nat → FieldType := fun k => match k with
  | 0 => .array (.object "LeapingPassages$Ask")
  | _ => .int
abbrev wsX20 : List Cond := u_ws RX2 TX2 2
theorem nmX2 : ∀ a, a < 2 → ∀ b, b < 2 → a ≠ b → (TX2 a).2.1 ≠ (TX2 b).2.1 := by decide +kernel
theorem tyX2_ok : ∀ k, k < 2 → parseFieldDescriptor (TX2 k).2.2.1 = some (tyX2 k) := by decide +kernel
def RX3 : String := "LeapingPassages$Least"
def TX3 : u_T := fun k => match k with
  | _ => ("LeapingPassages$Least", "lasts", "[I", true)
def tyX3 : Nat → FieldType := fun k => match k with
  | _ => .array .int
abbrev wsX30 : List Cond := u_ws RX3 TX3 1
theorem nmX3 : ∀ a, a < 1 → ∀ b, b < 1 → a ≠ b → (TX3 a).2.1 ≠ (TX3 b).2.1 := by decide +kernel
theorem tyX3_ok : ∀ k, k < 1 → parseFieldDescriptor (TX3 k).2.2.1 = some (tyX3 k) := by decide +kernel
def RX4 : String := "LeapingPassages$Lists"
def TX4 : u_T := fun k => match k with
  | 0 => ("LeapingPassages$Lists", "page", "LLeapingPassages$Text;", true)
  | 1 => ("LeapingPassages$Lists", "asks", "LLeapingPassages$Asks;", true)
  | 2 => ("LeapingPassages$Lists", "found", "[LLeapingPassages$Spans;", true)
  | 3 => ("LeapingPassages$Lists", "empty", "LLeapingPassages$Spans;", true)
  | 4 => ("LeapingPassages$Lists", "least", "LLeapingPassages$Least;", true)
  | 5 => ("LeapingPassages$Lists", "known", "I", false)
  | _ => ("LeapingPassages$Lists", "without", "I", false)
def tyX4 : Nat → FieldType := fun k => match k with
  | 0 => .object "LeapingPassages$Text"
  | 1 => .object "LeapingPassages$Asks"
  | 2 => .array (.object "LeapingPassages$Spans")
  | 3 => .object "LeapingPassages$Spans"
  | 4 => .object "LeapingPassages$Least"
  | 5 => .int
  | _ => .int
abbrev wsX40 : List Cond := u_ws RX4 TX4 7
theorem nmX4 : ∀ a, a < 7 → ∀ b, b < 7 → a ≠ b → (TX4 a).2.1 ≠ (TX4 b).2.1 := by decide +kernel
theorem tyX4_ok : ∀ k, k < 7 → parseFieldDescriptor (TX4 k).2.2.1 = some (tyX4 k) := by decide +kernel
def RX5 : String := "LeapingPassages$Shelf"
def TX5 : u_T := fun k => match k with
  | 0 => ("LeapingPassages$Shelf", "values", "[J", true)
  | 1 => ("LeapingPassages$Shelf", "size", "I", false)
  | _ => ("LeapingPassages$Shelf", "holds", "I", false)
def tyX5 : Nat → FieldType := fun k => match k with
  | 0 => .array .long
  | 1 => .int
  | _ => .int
abbrev wsX50 : List Cond := u_ws RX5 TX5 3
theorem nmX5 : ∀ a, a < 3 → ∀ b, b < 3 → a ≠ b → (TX5 a).2.1 ≠ (TX5 b).2.1 := by decide +kernel
theorem tyX5_ok : ∀ k, k < 3 → parseFieldDescriptor (TX5 k).2.2.1 = some (tyX5 k) := by decide +kernel
def RX6 : String := "LeapingPassages$Spans"
def TX6 : u_T := fun k => match k with
  | 0 => ("LeapingPassages$Spans", "firsts", "[I", true)
  | 1 => ("LeapingPassages$Spans", "lasts", "[I", true)
  | _ => ("LeapingPassages$Spans", "size", "I", false)
def tyX6 : Nat → FieldType := fun k => match k with
  | 0 => .array .int
  | 1 => .array .int
  | _ => .int
abbrev wsX60 : List Cond := u_ws RX6 TX6 3
theorem nmX6 : ∀ a, a < 3 → ∀ b, b < 3 → a ≠ b → (TX6 a).2.1 ≠ (TX6 b).2.1 := by decide +kernel
theorem tyX6_ok : ∀ k, k < 3 → parseFieldDescriptor (TX6 k).2.2.1 = some (tyX6 k) := by decide +kernel
def RX7 : String := "LeapingPassages$Tape"
def TX7 : u_T := fun k => match k with
  | 0 => ("LeapingPassages$Tape", "bytes", "[I", true)
  | _ => ("LeapingPassages$Tape", "size", "I", false)
def tyX7 : Nat → FieldType := fun k => match k with
  | 0 => .array .int
  | _ => .int
abbrev wsX70 : List Cond := u_ws RX7 TX7 2
theorem nmX7 : ∀ a, a < 2 → ∀ b, b < 2 → a ≠ b → (TX7 a).2.1 ≠ (TX7 b).2.1 := by decide +kernel
theorem tyX7_ok : ∀ k, k < 2 → parseFieldDescriptor (TX7 k).2.2.1 = some (tyX7 k) := by decide +kernel
def RX8 : String := "LeapingPassages$Text"
def TX8 : u_T := fun k => match k with
  | 0 => ("LeapingPassages$Text", "words", "[I", true)
  | 1 => ("LeapingPassages$Text", "marks", "[I", true)
  | 2 => ("LeapingPassages$Text", "standing", "[I", true)
  | 3 => ("LeapingPassages$Text", "size", "I", false)
  | _ => ("LeapingPassages$Text", "seed", "I", false)
def tyX8 : Nat → FieldType := fun k => match k with
  | 0 => .array .int
  | 1 => .array .int
  | 2 => .array .int
  | 3 => .int
  | _ => .int
abbrev wsX80 : List Cond := u_ws RX8 TX8 5
theorem nmX8 : ∀ a, a < 5 → ∀ b, b < 5 → a ≠ b → (TX8 a).2.1 ≠ (TX8 b).2.1 := by decide +kernel
theorem tyX8_ok : ∀ k, k < 5 → parseFieldDescriptor (TX8 k).2.2.1 = some (tyX8 k) := by decide +kernel
def RX9 : String := "LeapingPassages"
def TX9 : u_T := fun k => match k with
  | 0 => ("LeapingPassages", "page", "LLeapingPassages$Text;", true)
  | 1 => ("LeapingPassages", "pageKept", "LLeapingPassages$Text;", true)
  | 2 => ("LeapingPassages", "asks", "LLeapingPassages$Asks;", true)
  | 3 => ("LeapingPassages", "asksKept", "LLeapingPassages$Asks;", true)
  | 4 => ("LeapingPassages", "lists", "LLeapingPassages$Lists;", true)
  | 5 => ("LeapingPassages", "made", "LLeapingPassages$Spans;", true)
  | 6 => ("LeapingPassages", "scores", "[I", true)
  | 7 => ("LeapingPassages", "tape", "LLeapingPassages$Tape;", true)
  | 8 => ("LeapingPassages", "reader", "LLeapingPassages$AskReader;", true)
  | 9 => ("LeapingPassages", "shelves", "[LLeapingPassages$Shelf;", true)
  | 10 => ("LeapingPassages", "refusals", "[I", true)
  | _ => ("LeapingPassages", "isKept", "Z", false)
def tyX9 : Nat → FieldType := fun k => match k with
  | 0 => .object "LeapingPassages$Text"
  | 1 => .object "LeapingPassages$Text"
  | 2 => .object "LeapingPassages$Asks"
  | 3 => .object "LeapingPassages$Asks"
  | 4 => .object "LeapingPassages$Lists"
  | 5 => .object "LeapingPassages$Spans"
  | 6 => .array .int
  | 7 => .object "LeapingPassages$Tape"
  | 8 => .object "LeapingPassages$AskReader"
  | 9 => .array (.object "LeapingPassages$Shelf")
  | 10 => .array .int
  | _ => .boolean
abbrev wsX90 : List Cond := u_ws RX9 TX9 12
theorem nmX9 : ∀ a, a < 12 → ∀ b, b < 12 → a ≠ b → (TX9 a).2.1 ≠ (TX9 b).2.1 := by decide +kernel
theorem tyX9_ok : ∀ k, k < 12 → parseFieldDescriptor (TX9 k).2.2.1 = some (tyX9 k) := by decide +kernel
def RX10 : String := "LeapingPassagesModel"
def TX10 : u_T := fun k => match k with
  | 0 => ("LeapingPassagesModel", "shelf", "[I", true)
  | 1 => ("LeapingPassagesModel", "rowSort", "[I", true)
  | 2 => ("LeapingPassagesModel", "rowSize", "[I", true)
  | 3 => ("LeapingPassagesModel", "rows", "[[J", true)
  | 4 => ("LeapingPassagesModel", "moved", "[J", true)
  | 5 => ("LeapingPassagesModel", "shown", "[I", true)
  | 6 => ("LeapingPassagesModel", "tape", "[I", true)
  | 7 => ("LeapingPassagesModel", "tapeSize", "I", false)
  | 8 => ("LeapingPassagesModel", "refused", "[I", true)
  | 9 => ("LeapingPassagesModel", "places", "I", false)
  | 10 => ("LeapingPassagesModel", "asks", "I", false)
  | 11 => ("LeapingPassagesModel", "seed", "I", false)
  | 12 => ("LeapingPassagesModel", "wordAt", "[I", true)
  | 13 => ("LeapingPassagesModel", "markAt", "[I", true)
  | 14 => ("LeapingPassagesModel", "stands", "[I", true)
  | 15 => ("LeapingPassagesModel", "kind", "[I", true)
  | 16 => ("LeapingPassagesModel", "of", "[I", true)
  | 17 => ("LeapingPassagesModel", "isKept", "Z", false)
  | 18 => ("LeapingPassagesModel", "keptPlaces", "I", false)
  | 19 => ("LeapingPassagesModel", "keptAsks", "I", false)
  | 20 => ("LeapingPassagesModel", "keptSeed", "I", false)
  | 21 => ("LeapingPassagesModel", "keptWords", "[I", true)
  | 22 => ("LeapingPassagesModel", "keptMarks", "[I", true)
  | 23 => ("LeapingPassagesModel", "keptStands", "[I", true)
  | 24 => ("LeapingPassagesModel", "keptKind", "[I", true)
  | 25 => ("LeapingPassagesModel", "keptOf", "[I", true)
  | 26 => ("LeapingPassagesModel", "isWorked", "Z", false)
  | 27 => ("LeapingPassagesModel", "sets", "[I", true)
  | 28 => ("LeapingPassagesModel", "counts", "[I", true)
  | 29 => ("LeapingPassagesModel", "firsts", "[I", true)
  | 30 => ("LeapingPassagesModel", "lasts", "[I", true)
  | 31 => ("LeapingPassagesModel", "low", "[I", true)
  | 32 => ("LeapingPassagesModel", "trees", "[J", true)
  | 33 => ("LeapingPassagesModel", "deep", "[I", true)
  | 34 => ("LeapingPassagesModel", "wordsIn", "[I", true)
  | 35 => ("LeapingPassagesModel", "scores", "[I", true)
  | 36 => ("LeapingPassagesModel", "ranked", "[I", true)
  | 37 => ("LeapingPassagesModel", "without", "I", false)
  | 38 => ("LeapingPassagesModel", "spot", "I", false)
  | 39 => ("LeapingPassagesModel", "fault", "I", false)
  | 40 => ("LeapingPassagesModel", "made", "I", false)
  | _ => ("LeapingPassagesModel", "letters", "[I", true)
def tyX10 : Nat → FieldType := fun k => match k with
  | 0 => .array .int
  | 1 => .array .int
  | 2 => .array .int
  | 3 => .array (.array .long)
  | 4 => .array .long
  | 5 => .array .int
  | 6 => .array .int
  | 7 => .int
  | 8 => .array .int
  | 9 => .int
  | 10 => .int
  | 11 => .int
  | 12 => .array .int
  | 13 => .array .int
  | 14 => .array .int
  | 15 => .array .int
  | 16 => .array .int
  | 17 => .boolean
  | 18 => .int
  | 19 => .int
  | 20 => .int
  | 21 => .array .int
  | 22 => .array .int
  | 23 => .array .int
  | 24 => .array .int
  | 25 => .array .int
  | 26 => .boolean
  | 27 => .array .int
  | 28 => .array .int
  | 29 => .array .int
  | 30 => .array .int
  | 31 => .array .int
  | 32 => .array .long
  | 33 => .array .int
  | 34 => .array .int
  | 35 => .array .int
  | 36 => .array .int
  | 37 => .int
  | 38 => .int
  | 39 => .int
  | 40 => .int
  | _ => .array .int
abbrev wsX100 : List Cond := u_ws RX10 TX10 42
theorem nmX10 : ∀ a, a < 42 → ∀ b, b < 42 → a ≠ b → (TX10 a).2.1 ≠ (TX10 b).2.1 := by decide +kernel
theorem tyX10_ok : ∀ k, k < 42 → parseFieldDescriptor (TX10 k).2.2.1 = some (tyX10 k) := by decide +kernel
def RL : String := "LeapingPassagesLaw"

abbrev jm_cl : List vw_C := [(RX0, TX0, 11), (RX1, TX1, 10), (RX2, TX2, 2), (RX3, TX3, 1), (RX4, TX4, 7), (RX5, TX5, 3), (RX6, TX6, 3), (RX7, TX7, 2), (RX8, TX8, 5), (RX9, TX9, 12), (RX10, TX10, 42)]

def jm_ty (ci : Nat) : Nat → FieldType := match ci with
  | 0 => tyX0
  | 1 => tyX1
  | 2 => tyX2
  | 3 => tyX3
  | 4 => tyX4
  | 5 => tyX5
  | 6 => tyX6
  | 7 => tyX7
  | 8 => tyX8
  | 9 => tyX9
  | _ => tyX10

def jm_T (ci : Nat) : u_T := match ci with
  | 0 => TX0
  | 1 => TX1
  | 2 => TX2
  | 3 => TX3
  | 4 => TX4
  | 5 => TX5
  | 6 => TX6
  | 7 => TX7
  | 8 => TX8
  | 9 => TX9
  | _ => TX10

def jm_R (ci : Nat) : String := match ci with
  | 0 => RX0
  | 1 => RX1
  | 2 => RX2
  | 3 => RX3
  | 4 => RX4
  | 5 => RX5
  | 6 => RX6
  | 7 => RX7
  | 8 => RX8
  | 9 => RX9
  | _ => RX10

def jm_N (ci : Nat) : Nat := match ci with
  | 0 => 11
  | 1 => 10
  | 2 => 2
  | 3 => 1
  | 4 => 7
  | 5 => 3
  | 6 => 3
  | 7 => 2
  | 8 => 5
  | 9 => 12
  | _ => 42

/-- methods: name, bytes, locals, return type, how many parameters, number of the class -/
abbrev jm_M : Type := MethodName × ByteArray × Nat × Option FieldType × Nat × Nat

def jm_own : List String := ["LeapingPassages", "LeapingPassages$Ask", "LeapingPassages$AskReader", "LeapingPassages$Asks", "LeapingPassages$Least", "LeapingPassages$Lists", "LeapingPassages$Shelf", "LeapingPassages$Spans", "LeapingPassages$Tape", "LeapingPassages$Text", "LeapingPassagesLaw", "LeapingPassagesModel", "java/lang/Integer", "java/lang/Math", "java/lang/Object", "java/util/Arrays"]

set_option maxRecDepth 20000 in
noncomputable def jm_MT : List jm_M := [(⟨"LeapingPassages", "<init>", "()V"⟩, prog_1_method_1_code, 2, none, 0, 0),
  (⟨"java/lang/Object", "<init>", "()V"⟩, object_method_1_code, 1, none, 0, 14),
  (⟨"LeapingPassages$Text", "<init>", "()V"⟩, prog_10_method_1_code, 1, none, 0, 9),
  (⟨"LeapingPassages$Asks", "<init>", "()V"⟩, prog_4_method_1_code, 2, none, 0, 3),
  (⟨"LeapingPassages$Ask", "<init>", "()V"⟩, prog_2_method_1_code, 1, none, 0, 1),
  (⟨"LeapingPassages$Lists", "<init>", "(LLeapingPassages$Text;LLeapingPassages$Asks;)V"⟩, prog_6_method_1_code, 4, none, 2, 5),
  (⟨"LeapingPassages$Spans", "<init>", "()V"⟩, prog_8_method_1_code, 1, none, 0, 7),
  (⟨"LeapingPassages$Least", "<init>", "()V"⟩, prog_5_method_1_code, 1, none, 0, 4),
  (⟨"LeapingPassages$Tape", "<init>", "()V"⟩, prog_9_method_1_code, 1, none, 0, 8),
  (⟨"LeapingPassages$AskReader", "<init>", "(LLeapingPassages$Tape;LLeapingPassages$Asks;)V"⟩, prog_3_method_1_code, 3, none, 2, 2),
  (⟨"LeapingPassages$Shelf", "<init>", "()V"⟩, prog_7_method_1_code, 1, none, 0, 6),
  (⟨"LeapingPassages", "row", "(III)I"⟩, prog_1_method_2_code, 4, some FieldType.int, 3, 0),
  (⟨"LeapingPassages", "isShelf", "(I)Z"⟩, prog_1_method_65_code, 1, some FieldType.boolean, 1, 0),
  (⟨"LeapingPassages", "refuse", "(I)I"⟩, prog_1_method_55_code, 3, some FieldType.int, 1, 0),
  (⟨"LeapingPassages$Shelf", "holdRow", "(II)V"⟩, prog_7_method_2_code, 3, none, 2, 6),
  (⟨"java/util/Arrays", "fill", "([JJ)V"⟩, prog_16_method_101_code, 5, none, 2, 15),
  (⟨"LeapingPassages", "set", "(IIJ)I"⟩, prog_1_method_3_code, 7, some FieldType.int, 3, 0),
  (⟨"LeapingPassages", "rowRefusal", "(II)I"⟩, prog_1_method_57_code, 4, some FieldType.int, 2, 0),
  (⟨"LeapingPassages$Shelf", "holdsAsk", "()Z"⟩, prog_7_method_4_code, 1, some FieldType.boolean, 0, 6),
  (⟨"LeapingPassages$Shelf", "holdsRow", "()Z"⟩, prog_7_method_3_code, 1, some FieldType.boolean, 0, 6),
  (⟨"LeapingPassages$Shelf", "isElement", "(I)Z"⟩, prog_7_method_5_code, 2, some FieldType.boolean, 1, 6),
  (⟨"LeapingPassages", "narrowed", "(IJ)J"⟩, prog_1_method_69_code, 3, some FieldType.long, 2, 0),
  (⟨"LeapingPassages", "copy", "(IIIII)I"⟩, prog_1_method_4_code, 9, some FieldType.int, 5, 0),
  (⟨"LeapingPassages$Shelf", "hasRun", "(II)Z"⟩, prog_7_method_6_code, 3, some FieldType.boolean, 2, 6),
  (⟨"LeapingPassages", "element", "(II)J"⟩, prog_1_method_5_code, 3, some FieldType.long, 2, 0),
  (⟨"LeapingPassages", "holds", "(I)I"⟩, prog_1_method_6_code, 2, some FieldType.int, 1, 0),
  (⟨"LeapingPassages", "show", "(II)I"⟩, prog_1_method_7_code, 3, some FieldType.int, 2, 0),
  (⟨"LeapingPassages$Asks", "isAsk", "(I)Z"⟩, prog_4_method_3_code, 2, some FieldType.boolean, 1, 3),
  (⟨"LeapingPassages", "says", "(II)I"⟩, prog_1_method_8_code, 5, some FieldType.int, 2, 0),
  (⟨"LeapingPassages", "isOfSort", "(II)Z"⟩, prog_1_method_68_code, 2, some FieldType.boolean, 2, 0),
  (⟨"LeapingPassages", "isPair", "(I)Z"⟩, prog_1_method_67_code, 1, some FieldType.boolean, 1, 0),
  (⟨"LeapingPassages", "saying", "(II)I"⟩, prog_1_method_60_code, 5, some FieldType.int, 2, 0),
  (⟨"LeapingPassages$Lists", "of", "(I)LLeapingPassages$Spans;"⟩, prog_6_method_4_code, 4, some (FieldType.object "LeapingPassages$Spans"), 1, 5),
  (⟨"LeapingPassages$Lists", "make", "(I)V"⟩, prog_6_method_7_code, 4, none, 1, 5),
  (⟨"LeapingPassages$Lists", "findRun", "(LLeapingPassages$Ask;LLeapingPassages$Spans;)V"⟩, prog_6_method_9_code, 5, none, 2, 5),
  (⟨"LeapingPassages$Lists", "hasWord", "(II)Z"⟩, prog_6_method_10_code, 3, some FieldType.boolean, 2, 5),
  (⟨"LeapingPassages$Text", "wordsHad", "(I)I"⟩, prog_10_method_7_code, 3, some FieldType.int, 1, 9),
  (⟨"LeapingPassages$Spans", "add", "(II)V"⟩, prog_8_method_2_code, 3, none, 2, 7),
  (⟨"LeapingPassages$Text", "regionsInto", "(ILLeapingPassages$Spans;)V"⟩, prog_10_method_12_code, 5, none, 2, 9),
  (⟨"LeapingPassages$Lists", "listOf", "(I)LLeapingPassages$Spans;"⟩, prog_6_method_8_code, 2, some (FieldType.object "LeapingPassages$Spans"), 1, 5),
  (⟨"LeapingPassages$Lists", "keepShort", "(LLeapingPassages$Spans;ILLeapingPassages$Spans;)V"⟩, prog_6_method_11_code, 5, none, 3, 5),
  (⟨"LeapingPassages$Spans", "lengthOf", "(I)I"⟩, prog_8_method_7_code, 2, some FieldType.int, 1, 7),
  (⟨"LeapingPassages$Least", "clear", "()V"⟩, prog_5_method_2_code, 1, none, 0, 4),
  (⟨"java/util/Arrays", "fill", "([II)V"⟩, prog_16_method_103_code, 4, none, 2, 15),
  (⟨"LeapingPassages$Lists", "gather", "(ILLeapingPassages$Spans;LLeapingPassages$Spans;LLeapingPassages$Spans;)V"⟩, prog_6_method_13_code, 9, none, 4, 5),
  (⟨"LeapingPassages$Spans", "onward", "(IJ)I"⟩, prog_8_method_8_code, 5, some FieldType.int, 2, 7),
  (⟨"LeapingPassages$Spans", "lastAt", "(I)I"⟩, prog_8_method_10_code, 2, some FieldType.int, 1, 7),
  (⟨"LeapingPassages$Spans", "isSpan", "(I)Z"⟩, prog_8_method_4_code, 2, some FieldType.boolean, 1, 7),
  (⟨"LeapingPassages$Lists", "ofThree", "(IIII)I"⟩, prog_6_method_14_code, 6, some FieldType.int, 4, 5),
  (⟨"java/lang/Math", "min", "(II)I"⟩, prog_14_method_69_code, 2, some FieldType.int, 2, 13),
  (⟨"java/lang/Math", "max", "(II)I"⟩, prog_14_method_65_code, 2, some FieldType.int, 2, 13),
  (⟨"LeapingPassages$Least", "offer", "(II)V"⟩, prog_5_method_3_code, 3, none, 2, 4),
  (⟨"LeapingPassages$Least", "into", "(LLeapingPassages$Spans;)V"⟩, prog_5_method_4_code, 4, none, 1, 4),
  (⟨"LeapingPassages$Lists", "join", "(ILLeapingPassages$Spans;LLeapingPassages$Spans;LLeapingPassages$Spans;)V"⟩, prog_6_method_12_code, 5, none, 4, 5),
  (⟨"LeapingPassages$Lists", "sift", "(ILLeapingPassages$Spans;LLeapingPassages$Spans;LLeapingPassages$Spans;)V"⟩, prog_6_method_16_code, 13, none, 4, 5),
  (⟨"LeapingPassages$Lists", "follow", "(LLeapingPassages$Spans;LLeapingPassages$Spans;)V"⟩, prog_6_method_15_code, 5, none, 2, 5),
  (⟨"LeapingPassages", "write", "(I)I"⟩, prog_1_method_9_code, 2, some FieldType.int, 1, 0),
  (⟨"LeapingPassages", "isWord", "(I)Z"⟩, prog_1_method_66_code, 1, some FieldType.boolean, 1, 0),
  (⟨"LeapingPassages$Text", "push", "(I)V"⟩, prog_10_method_4_code, 2, none, 1, 9),
  (⟨"LeapingPassages$Lists", "forgetAll", "()V"⟩, prog_6_method_2_code, 1, none, 0, 5),
  (⟨"LeapingPassages", "end", "(I)I"⟩, prog_1_method_10_code, 3, some FieldType.int, 1, 0),
  (⟨"LeapingPassages$Text", "lastMark", "()I"⟩, prog_10_method_5_code, 1, some FieldType.int, 0, 9),
  (⟨"LeapingPassages$Text", "markLast", "(I)V"⟩, prog_10_method_6_code, 2, none, 1, 9),
  (⟨"LeapingPassages", "change", "(II)I"⟩, prog_1_method_11_code, 4, some FieldType.int, 2, 0),
  (⟨"LeapingPassages$Text", "isPlace", "(I)Z"⟩, prog_10_method_3_code, 2, some FieldType.boolean, 1, 9),
  (⟨"LeapingPassages", "stand", "(III)I"⟩, prog_1_method_12_code, 5, some FieldType.int, 3, 0),
  (⟨"LeapingPassages", "feed", "(I)I"⟩, prog_1_method_13_code, 2, some FieldType.int, 1, 0),
  (⟨"LeapingPassages$Tape", "push", "(I)V"⟩, prog_9_method_2_code, 2, none, 1, 8),
  (⟨"LeapingPassages", "wipe", "()I"⟩, prog_1_method_14_code, 2, some FieldType.int, 0, 0),
  (⟨"LeapingPassages", "text", "()I"⟩, prog_1_method_15_code, 3, some FieldType.int, 0, 0),
  (⟨"LeapingPassages$Tape", "textFault", "(I)I"⟩, prog_9_method_6_code, 6, some FieldType.int, 1, 8),
  (⟨"LeapingPassages$Tape", "isLetter", "(I)Z"⟩, prog_9_method_3_code, 1, some FieldType.boolean, 1, 8),
  (⟨"LeapingPassages$Tape", "markOf", "(I)I"⟩, prog_9_method_4_code, 1, some FieldType.int, 1, 8),
  (⟨"LeapingPassages$Tape", "letters", "()I"⟩, prog_9_method_5_code, 3, some FieldType.int, 0, 8),
  (⟨"LeapingPassages", "refuseFault", "(I)I"⟩, prog_1_method_56_code, 2, some FieldType.int, 1, 0),
  (⟨"LeapingPassages$Tape", "writeTo", "(LLeapingPassages$Text;)V"⟩, prog_9_method_7_code, 4, none, 1, 8),
  (⟨"LeapingPassages", "ask", "()I"⟩, prog_1_method_16_code, 2, some FieldType.int, 0, 0),
  (⟨"LeapingPassages$AskReader", "read", "()I"⟩, prog_3_method_2_code, 2, some FieldType.int, 0, 2),
  (⟨"LeapingPassages$AskReader", "readPlain", "(I)V"⟩, prog_3_method_3_code, 3, none, 1, 2),
  (⟨"LeapingPassages$AskReader", "leaf", "(III)V"⟩, prog_3_method_12_code, 4, none, 3, 2),
  (⟨"LeapingPassages$Asks", "putLeaf", "(IIII)V"⟩, prog_4_method_6_code, 7, none, 4, 3),
  (⟨"LeapingPassages$Ask", "become", "(III)V"⟩, prog_2_method_2_code, 4, none, 3, 1),
  (⟨"LeapingPassages$AskReader", "pushWhole", "()V"⟩, prog_3_method_14_code, 1, none, 0, 2),
  (⟨"LeapingPassages$AskReader", "readPhrase", "()V"⟩, prog_3_method_4_code, 4, none, 0, 2),
  (⟨"LeapingPassages$AskReader", "pushSign", "(I)V"⟩, prog_3_method_16_code, 2, none, 1, 2),
  (⟨"LeapingPassages$AskReader", "readNumber", "(I)I"⟩, prog_3_method_5_code, 4, some FieldType.int, 1, 2),
  (⟨"LeapingPassages$AskReader", "readBehind", "(I)V"⟩, prog_3_method_6_code, 4, none, 1, 2),
  (⟨"LeapingPassages$AskReader", "kindOf", "(I)I"⟩, prog_3_method_7_code, 1, some FieldType.int, 1, 2),
  (⟨"LeapingPassages$AskReader", "joinDownTo", "(I)V"⟩, prog_3_method_10_code, 6, none, 1, 2),
  (⟨"LeapingPassages$AskReader", "bondOf", "(I)I"⟩, prog_3_method_11_code, 1, some FieldType.int, 1, 2),
  (⟨"LeapingPassages$AskReader", "topSign", "()I"⟩, prog_3_method_17_code, 1, some FieldType.int, 0, 2),
  (⟨"LeapingPassages$AskReader", "popWhole", "()I"⟩, prog_3_method_15_code, 1, some FieldType.int, 0, 2),
  (⟨"LeapingPassages$AskReader", "over", "(IIIII)V"⟩, prog_3_method_13_code, 6, none, 5, 2),
  (⟨"LeapingPassages$Asks", "putOver", "(IIIIII)V"⟩, prog_4_method_7_code, 8, none, 6, 3),
  (⟨"LeapingPassages$Ask", "goOver", "(LLeapingPassages$Ask;)V"⟩, prog_2_method_3_code, 2, none, 1, 1),
  (⟨"LeapingPassages$AskReader", "readShort", "()V"⟩, prog_3_method_8_code, 2, none, 0, 2),
  (⟨"LeapingPassages$AskReader", "readClosing", "(I)Z"⟩, prog_3_method_9_code, 7, some FieldType.boolean, 1, 2),
  (⟨"LeapingPassages", "word", "(I)I"⟩, prog_1_method_17_code, 2, some FieldType.int, 1, 0),
  (⟨"LeapingPassages", "addedLeaf", "(III)I"⟩, prog_1_method_58_code, 4, some FieldType.int, 3, 0),
  (⟨"LeapingPassages$Asks", "isFull", "()Z"⟩, prog_4_method_4_code, 1, some FieldType.boolean, 0, 3),
  (⟨"LeapingPassages$Asks", "grow", "()I"⟩, prog_4_method_5_code, 1, some FieldType.int, 0, 3),
  (⟨"LeapingPassages", "phrase", "(II)I"⟩, prog_1_method_18_code, 8, some FieldType.int, 2, 0),
  (⟨"LeapingPassages", "pair", "(III)I"⟩, prog_1_method_19_code, 4, some FieldType.int, 3, 0),
  (⟨"LeapingPassages", "addedOver", "(IIIII)I"⟩, prog_1_method_59_code, 6, some FieldType.int, 5, 0),
  (⟨"LeapingPassages", "region", "(I)I"⟩, prog_1_method_20_code, 2, some FieldType.int, 1, 0),
  (⟨"LeapingPassages", "brief", "(II)I"⟩, prog_1_method_21_code, 3, some FieldType.int, 2, 0),
  (⟨"LeapingPassages", "some", "(IIII)I"⟩, prog_1_method_22_code, 5, some FieldType.int, 4, 0),
  (⟨"LeapingPassages", "drop", "()I"⟩, prog_1_method_23_code, 1, some FieldType.int, 0, 0),
  (⟨"LeapingPassages$Lists", "forget", "(I)V"⟩, prog_6_method_3_code, 2, none, 1, 5),
  (⟨"LeapingPassages", "emptyShelvesOfLostAsks", "()V"⟩, prog_1_method_61_code, 2, none, 0, 0),
  (⟨"LeapingPassages", "askOf", "(II)I"⟩, prog_1_method_24_code, 4, some FieldType.int, 2, 0),
  (⟨"LeapingPassages", "placeOf", "(II)I"⟩, prog_1_method_25_code, 3, some FieldType.int, 2, 0),
  (⟨"LeapingPassages$Text", "endsAhead", "(II)I"⟩, prog_10_method_8_code, 5, some FieldType.int, 2, 9),
  (⟨"LeapingPassages", "many", "(I)I"⟩, prog_1_method_26_code, 2, some FieldType.int, 1, 0),
  (⟨"LeapingPassages", "span", "(II)I"⟩, prog_1_method_27_code, 3, some FieldType.int, 2, 0),
  (⟨"LeapingPassages$Spans", "told", "(I)I"⟩, prog_8_method_6_code, 2, some FieldType.int, 1, 7),
  (⟨"LeapingPassages", "next", "(III)I"⟩, prog_1_method_28_code, 6, some FieldType.int, 3, 0),
  (⟨"LeapingPassages$Spans", "orNone", "(I)I"⟩, prog_8_method_5_code, 2, some FieldType.int, 1, 7),
  (⟨"LeapingPassages$Spans", "lastsBelow", "(I)I"⟩, prog_8_method_9_code, 3, some FieldType.int, 1, 7),
  (⟨"LeapingPassages", "at", "(II)I"⟩, prog_1_method_29_code, 3, some FieldType.int, 2, 0),
  (⟨"LeapingPassages$Spans", "through", "(I)I"⟩, prog_8_method_11_code, 2, some FieldType.int, 1, 7),
  (⟨"LeapingPassages", "crowd", "(I)I"⟩, prog_1_method_30_code, 7, some FieldType.int, 1, 0),
  (⟨"LeapingPassages", "cover", "(II)I"⟩, prog_1_method_31_code, 9, some FieldType.int, 2, 0),
  (⟨"LeapingPassages", "lengths", "(II)I"⟩, prog_1_method_32_code, 9, some FieldType.int, 2, 0),
  (⟨"LeapingPassages", "apart", "(II)I"⟩, prog_1_method_33_code, 5, some FieldType.int, 2, 0),
  (⟨"LeapingPassages$Spans", "apartCount", "()I"⟩, prog_8_method_15_code, 4, some FieldType.int, 0, 7),
  (⟨"LeapingPassages$Spans", "apartNumber", "(I)I"⟩, prog_8_method_16_code, 5, some FieldType.int, 1, 7),
  (⟨"LeapingPassages", "pins", "(II)I"⟩, prog_1_method_34_code, 5, some FieldType.int, 2, 0),
  (⟨"LeapingPassages", "score", "(II)I"⟩, prog_1_method_35_code, 3, some FieldType.int, 2, 0),
  (⟨"LeapingPassages$Text", "count", "(I)I"⟩, prog_10_method_9_code, 2, some FieldType.int, 1, 9),
  (⟨"LeapingPassages", "scoreOf", "(LLeapingPassages$Spans;I)I"⟩, prog_1_method_63_code, 7, some FieldType.int, 2, 0),
  (⟨"LeapingPassages", "rank", "(II)I"⟩, prog_1_method_36_code, 6, some FieldType.int, 2, 0),
  (⟨"LeapingPassages", "partsAhead", "(II)I"⟩, prog_1_method_64_code, 6, some FieldType.int, 2, 0),
  (⟨"LeapingPassages", "window", "(III)I"⟩, prog_1_method_37_code, 9, some FieldType.int, 3, 0),
  (⟨"LeapingPassages$Spans", "within", "(II)I"⟩, prog_8_method_12_code, 3, some FieldType.int, 2, 7),
  (⟨"LeapingPassages", "gap", "(II)I"⟩, prog_1_method_38_code, 10, some FieldType.int, 2, 0),
  (⟨"LeapingPassages", "under", "(III)I"⟩, prog_1_method_39_code, 6, some FieldType.int, 3, 0),
  (⟨"LeapingPassages$Spans", "common", "(LLeapingPassages$Spans;)I"⟩, prog_8_method_14_code, 5, some FieldType.int, 1, 7),
  (⟨"LeapingPassages", "alike", "(II)I"⟩, prog_1_method_40_code, 3, some FieldType.int, 2, 0),
  (⟨"LeapingPassages$Spans", "firstUnlike", "(LLeapingPassages$Spans;)I"⟩, prog_8_method_13_code, 4, some FieldType.int, 1, 7),
  (⟨"LeapingPassages", "same", "(I)I"⟩, prog_1_method_41_code, 4, some FieldType.int, 1, 0),
  (⟨"LeapingPassages", "inside", "(I)I"⟩, prog_1_method_42_code, 6, some FieldType.int, 1, 0),
  (⟨"LeapingPassages", "words", "(II)I"⟩, prog_1_method_43_code, 8, some FieldType.int, 2, 0),
  (⟨"LeapingPassages$Lists", "sizeWithout", "(II)I"⟩, prog_6_method_5_code, 4, some FieldType.int, 2, 5),
  (⟨"LeapingPassages", "whatIf", "(III)I"⟩, prog_1_method_44_code, 4, some FieldType.int, 3, 0),
  (⟨"LeapingPassages$Lists", "sizeIf", "(III)I"⟩, prog_6_method_6_code, 6, some FieldType.int, 3, 5),
  (⟨"LeapingPassages", "bestWord", "(II)I"⟩, prog_1_method_45_code, 7, some FieldType.int, 2, 0),
  (⟨"LeapingPassages", "kinds", "(IIII)I"⟩, prog_1_method_46_code, 10, some FieldType.int, 4, 0),
  (⟨"LeapingPassages$Shelf", "judged", "(LLeapingPassages$Spans;I)I"⟩, prog_7_method_7_code, 5, some FieldType.int, 2, 6),
  (⟨"LeapingPassages", "judge", "(III)I"⟩, prog_1_method_47_code, 5, some FieldType.int, 3, 0),
  (⟨"LeapingPassages", "leap", "(III)I"⟩, prog_1_method_48_code, 8, some FieldType.int, 3, 0),
  (⟨"LeapingPassages", "fold", "(IIII)I"⟩, prog_1_method_49_code, 8, some FieldType.int, 4, 0),
  (⟨"LeapingPassages$Spans", "take", "(LLeapingPassages$Spans;)V"⟩, prog_8_method_3_code, 2, none, 1, 7),
  (⟨"LeapingPassages", "days", "(I)I"⟩, prog_1_method_50_code, 3, some FieldType.int, 1, 0),
  (⟨"LeapingPassages$Text", "live", "()V"⟩, prog_10_method_14_code, 3, none, 0, 9),
  (⟨"LeapingPassages$Text", "draw", "(I)I"⟩, prog_10_method_13_code, 2, some FieldType.int, 1, 9),
  (⟨"LeapingPassages", "seed", "(I)I"⟩, prog_1_method_51_code, 3, some FieldType.int, 1, 0),
  (⟨"LeapingPassages", "image", "()I"⟩, prog_1_method_52_code, 1, some FieldType.int, 0, 0),
  (⟨"LeapingPassages$Text", "take", "(LLeapingPassages$Text;)V"⟩, prog_10_method_2_code, 2, none, 1, 9),
  (⟨"LeapingPassages$Asks", "take", "(LLeapingPassages$Asks;)V"⟩, prog_4_method_2_code, 3, none, 1, 3),
  (⟨"LeapingPassages$Ask", "take", "(LLeapingPassages$Ask;)V"⟩, prog_2_method_4_code, 2, none, 1, 1),
  (⟨"LeapingPassages", "back", "()I"⟩, prog_1_method_53_code, 1, some FieldType.int, 0, 0),
  (⟨"LeapingPassages", "status", "(I)I"⟩, prog_1_method_54_code, 2, some FieldType.int, 1, 0),
  (⟨"LeapingPassages$Text", "differentWords", "()I"⟩, prog_10_method_10_code, 3, some FieldType.int, 0, 9),
  (⟨"java/lang/Integer", "bitCount", "(I)I"⟩, prog_13_method_49_code, 1, some FieldType.int, 1, 12),
  (⟨"LeapingPassages$Text", "twosStanding", "()I"⟩, prog_10_method_11_code, 3, some FieldType.int, 0, 9),
  (⟨"LeapingPassages", "shelvesInUse", "()I"⟩, prog_1_method_62_code, 3, some FieldType.int, 0, 0),
  (⟨"LeapingPassagesModel", "<init>", "()V"⟩, prog_12_method_1_code, 1, none, 0, 11),
  (⟨"LeapingPassagesModel", "row", "(III)I"⟩, prog_12_method_7_code, 5, some FieldType.int, 3, 11),
  (⟨"LeapingPassagesModel", "in", "(JJJ)Z"⟩, prog_12_method_3_code, 6, some FieldType.boolean, 3, 11),
  (⟨"LeapingPassagesModel", "refuse", "(I)I"⟩, prog_12_method_2_code, 2, some FieldType.int, 1, 11),
  (⟨"LeapingPassagesModel", "set", "(IIJ)I"⟩, prog_12_method_10_code, 6, some FieldType.int, 3, 11),
  (⟨"LeapingPassagesModel", "noRow", "(I)I"⟩, prog_12_method_9_code, 2, some FieldType.int, 1, 11),
  (⟨"LeapingPassagesModel", "fit", "(IJ)J"⟩, prog_12_method_8_code, 3, some FieldType.long, 2, 11),
  (⟨"LeapingPassagesModel", "copy", "(IIIII)I"⟩, prog_12_method_11_code, 7, some FieldType.int, 5, 11),
  (⟨"LeapingPassagesModel", "element", "(II)J"⟩, prog_12_method_12_code, 3, some FieldType.long, 2, 11),
  (⟨"LeapingPassagesModel", "holds", "(I)I"⟩, prog_12_method_13_code, 2, some FieldType.int, 1, 11),
  (⟨"LeapingPassagesModel", "show", "(II)I"⟩, prog_12_method_14_code, 3, some FieldType.int, 2, 11),
  (⟨"LeapingPassagesModel", "isAsk", "(I)Z"⟩, prog_12_method_4_code, 2, some FieldType.boolean, 1, 11),
  (⟨"LeapingPassagesModel", "says", "(II)I"⟩, prog_12_method_16_code, 6, some FieldType.int, 2, 11),
  (⟨"LeapingPassagesModel", "isOf", "(II)Z"⟩, prog_12_method_15_code, 2, some FieldType.boolean, 2, 11),
  (⟨"LeapingPassagesModel", "work", "()V"⟩, prog_12_method_35_code, 1, none, 0, 11),
  (⟨"LeapingPassagesModel", "workAll", "()V"⟩, prog_12_method_34_code, 3, none, 0, 11),
  (⟨"LeapingPassagesModel", "setsOf", "()V"⟩, prog_12_method_33_code, 3, none, 0, 11),
  (⟨"LeapingPassagesModel", "leafInto", "(I)V"⟩, prog_12_method_28_code, 6, none, 1, 11),
  (⟨"LeapingPassagesModel", "clear", "()V"⟩, prog_12_method_17_code, 2, none, 0, 11),
  (⟨"LeapingPassagesModel", "offer", "(II)V"⟩, prog_12_method_18_code, 3, none, 2, 11),
  (⟨"LeapingPassagesModel", "settle", "(I)V"⟩, prog_12_method_19_code, 4, none, 1, 11),
  (⟨"LeapingPassagesModel", "regionInto", "(I)V"⟩, prog_12_method_30_code, 5, none, 1, 11),
  (⟨"LeapingPassagesModel", "ends", "(II)Z"⟩, prog_12_method_29_code, 3, some FieldType.boolean, 2, 11),
  (⟨"LeapingPassagesModel", "shortInto", "(I)V"⟩, prog_12_method_31_code, 4, none, 1, 11),
  (⟨"LeapingPassagesModel", "last", "(II)I"⟩, prog_12_method_21_code, 3, some FieldType.int, 2, 11),
  (⟨"LeapingPassagesModel", "first", "(II)I"⟩, prog_12_method_20_code, 3, some FieldType.int, 2, 11),
  (⟨"LeapingPassagesModel", "someInto", "(I)V"⟩, prog_12_method_32_code, 6, none, 1, 11),
  (⟨"LeapingPassagesModel", "pairInto", "(IIII)V"⟩, prog_12_method_27_code, 5, none, 4, 11),
  (⟨"LeapingPassagesModel", "offerAll", "(I)V"⟩, prog_12_method_24_code, 3, none, 1, 11),
  (⟨"LeapingPassagesModel", "offerMerged", "(III)V"⟩, prog_12_method_25_code, 8, none, 3, 11),
  (⟨"LeapingPassagesModel", "offerTested", "(III)V"⟩, prog_12_method_26_code, 6, none, 3, 11),
  (⟨"LeapingPassagesModel", "lying", "(IIIZ)I"⟩, prog_12_method_23_code, 7, some FieldType.int, 4, 11),
  (⟨"LeapingPassagesModel", "liesIn", "(IIII)Z"⟩, prog_12_method_22_code, 5, some FieldType.boolean, 4, 11),
  (⟨"LeapingPassagesModel", "write", "(I)I"⟩, prog_12_method_37_code, 2, some FieldType.int, 1, 11),
  (⟨"LeapingPassagesModel", "addPlace", "(I)V"⟩, prog_12_method_36_code, 2, none, 1, 11),
  (⟨"LeapingPassagesModel", "end", "(I)I"⟩, prog_12_method_38_code, 3, some FieldType.int, 1, 11),
  (⟨"LeapingPassagesModel", "change", "(II)I"⟩, prog_12_method_39_code, 4, some FieldType.int, 2, 11),
  (⟨"LeapingPassagesModel", "isPlace", "(I)Z"⟩, prog_12_method_5_code, 2, some FieldType.boolean, 1, 11),
  (⟨"LeapingPassagesModel", "stand", "(III)I"⟩, prog_12_method_40_code, 5, some FieldType.int, 3, 11),
  (⟨"LeapingPassagesModel", "feed", "(I)I"⟩, prog_12_method_41_code, 2, some FieldType.int, 1, 11),
  (⟨"LeapingPassagesModel", "wipe", "()I"⟩, prog_12_method_42_code, 2, some FieldType.int, 0, 11),
  (⟨"LeapingPassagesModel", "text", "()I"⟩, prog_12_method_45_code, 5, some FieldType.int, 0, 11),
  (⟨"LeapingPassagesModel", "textFault", "()I"⟩, prog_12_method_43_code, 5, some FieldType.int, 0, 11),
  (⟨"LeapingPassagesModel", "lettersIn", "()I"⟩, prog_12_method_44_code, 3, some FieldType.int, 0, 11),
  (⟨"LeapingPassagesModel", "ask", "()I"⟩, prog_12_method_60_code, 1, some FieldType.int, 0, 11),
  (⟨"LeapingPassagesModel", "askHere", "()I"⟩, prog_12_method_59_code, 3, some FieldType.int, 0, 11),
  (⟨"LeapingPassagesModel", "eachHere", "()I"⟩, prog_12_method_58_code, 3, some FieldType.int, 0, 11),
  (⟨"LeapingPassagesModel", "chainHere", "()I"⟩, prog_12_method_57_code, 3, some FieldType.int, 0, 11),
  (⟨"LeapingPassagesModel", "testHere", "()I"⟩, prog_12_method_56_code, 4, some FieldType.int, 0, 11),
  (⟨"LeapingPassagesModel", "plainHere", "()I"⟩, prog_12_method_54_code, 3, some FieldType.int, 0, 11),
  (⟨"LeapingPassagesModel", "here", "()I"⟩, prog_12_method_47_code, 1, some FieldType.int, 0, 11),
  (⟨"LeapingPassagesModel", "make", "(IIIII)I"⟩, prog_12_method_46_code, 6, some FieldType.int, 5, 11),
  (⟨"LeapingPassagesModel", "phraseHere", "()I"⟩, prog_12_method_52_code, 3, some FieldType.int, 0, 11),
  (⟨"LeapingPassagesModel", "wrong", "(I)I"⟩, prog_12_method_49_code, 2, some FieldType.int, 1, 11),
  (⟨"LeapingPassagesModel", "must", "(I)V"⟩, prog_12_method_50_code, 2, none, 1, 11),
  (⟨"LeapingPassagesModel", "sees", "(I)Z"⟩, prog_12_method_48_code, 3, some FieldType.boolean, 1, 11),
  (⟨"LeapingPassagesModel", "someHere", "()I"⟩, prog_12_method_53_code, 5, some FieldType.int, 0, 11),
  (⟨"LeapingPassagesModel", "number", "(II)I"⟩, prog_12_method_51_code, 5, some FieldType.int, 2, 11),
  (⟨"LeapingPassagesModel", "testOf", "(I)I"⟩, prog_12_method_55_code, 1, some FieldType.int, 1, 11),
  (⟨"LeapingPassagesModel", "word", "(I)I"⟩, prog_12_method_62_code, 2, some FieldType.int, 1, 11),
  (⟨"LeapingPassagesModel", "add", "(IIIII)I"⟩, prog_12_method_61_code, 6, some FieldType.int, 5, 11),
  (⟨"LeapingPassagesModel", "phrase", "(II)I"⟩, prog_12_method_64_code, 5, some FieldType.int, 2, 11),
  (⟨"LeapingPassagesModel", "noRowOf", "(II)I"⟩, prog_12_method_63_code, 4, some FieldType.int, 2, 11),
  (⟨"LeapingPassagesModel", "pair", "(III)I"⟩, prog_12_method_65_code, 4, some FieldType.int, 3, 11),
  (⟨"LeapingPassagesModel", "region", "(I)I"⟩, prog_12_method_66_code, 2, some FieldType.int, 1, 11),
  (⟨"LeapingPassagesModel", "brief", "(II)I"⟩, prog_12_method_67_code, 3, some FieldType.int, 2, 11),
  (⟨"LeapingPassagesModel", "some", "(IIII)I"⟩, prog_12_method_68_code, 5, some FieldType.int, 4, 11),
  (⟨"LeapingPassagesModel", "drop", "()I"⟩, prog_12_method_69_code, 2, some FieldType.int, 0, 11),
  (⟨"LeapingPassagesModel", "askOf", "(II)I"⟩, prog_12_method_73_code, 4, some FieldType.int, 2, 11),
  (⟨"LeapingPassagesModel", "treesOf", "()V"⟩, prog_12_method_72_code, 4, none, 0, 11),
  (⟨"LeapingPassagesModel", "wordsOf", "(I)I"⟩, prog_12_method_71_code, 4, some FieldType.int, 1, 11),
  (⟨"LeapingPassagesModel", "over", "(I)I"⟩, prog_12_method_70_code, 1, some FieldType.int, 1, 11),
  (⟨"LeapingPassagesModel", "placeOf", "(II)I"⟩, prog_12_method_76_code, 3, some FieldType.int, 2, 11),
  (⟨"LeapingPassagesModel", "endsAhead", "(II)I"⟩, prog_12_method_74_code, 5, some FieldType.int, 2, 11),
  (⟨"LeapingPassagesModel", "many", "(I)I"⟩, prog_12_method_77_code, 2, some FieldType.int, 1, 11),
  (⟨"LeapingPassagesModel", "span", "(II)I"⟩, prog_12_method_79_code, 3, some FieldType.int, 2, 11),
  (⟨"LeapingPassagesModel", "spanOf", "(II)I"⟩, prog_12_method_78_code, 3, some FieldType.int, 2, 11),
  (⟨"LeapingPassagesModel", "next", "(III)I"⟩, prog_12_method_80_code, 8, some FieldType.int, 3, 11),
  (⟨"LeapingPassagesModel", "at", "(II)I"⟩, prog_12_method_82_code, 3, some FieldType.int, 2, 11),
  (⟨"LeapingPassagesModel", "hold", "(II)I"⟩, prog_12_method_81_code, 5, some FieldType.int, 2, 11),
  (⟨"LeapingPassagesModel", "crowd", "(I)I"⟩, prog_12_method_83_code, 5, some FieldType.int, 1, 11),
  (⟨"LeapingPassagesModel", "cover", "(II)I"⟩, prog_12_method_84_code, 8, some FieldType.int, 2, 11),
  (⟨"LeapingPassagesModel", "lengths", "(II)I"⟩, prog_12_method_86_code, 6, some FieldType.int, 2, 11),
  (⟨"LeapingPassagesModel", "size", "(II)I"⟩, prog_12_method_85_code, 3, some FieldType.int, 2, 11),
  (⟨"LeapingPassagesModel", "apart", "(II)I"⟩, prog_12_method_87_code, 6, some FieldType.int, 2, 11),
  (⟨"LeapingPassagesModel", "pins", "(II)I"⟩, prog_12_method_88_code, 6, some FieldType.int, 2, 11),
  (⟨"LeapingPassagesModel", "score", "(II)I"⟩, prog_12_method_90_code, 3, some FieldType.int, 2, 11),
  (⟨"LeapingPassagesModel", "parts", "()I"⟩, prog_12_method_75_code, 1, some FieldType.int, 0, 11),
  (⟨"LeapingPassagesModel", "scoreOf", "(II)I"⟩, prog_12_method_89_code, 6, some FieldType.int, 2, 11),
  (⟨"LeapingPassagesModel", "rank", "(II)I"⟩, prog_12_method_91_code, 7, some FieldType.int, 2, 11),
  (⟨"LeapingPassagesModel", "window", "(III)I"⟩, prog_12_method_92_code, 9, some FieldType.int, 3, 11),
  (⟨"LeapingPassagesModel", "gap", "(II)I"⟩, prog_12_method_93_code, 9, some FieldType.int, 2, 11),
  (⟨"LeapingPassagesModel", "under", "(III)I"⟩, prog_12_method_95_code, 7, some FieldType.int, 3, 11),
  (⟨"LeapingPassagesModel", "isIn", "(III)Z"⟩, prog_12_method_94_code, 5, some FieldType.boolean, 3, 11),
  (⟨"LeapingPassagesModel", "alike", "(II)I"⟩, prog_12_method_97_code, 3, some FieldType.int, 2, 11),
  (⟨"LeapingPassagesModel", "differ", "(II)I"⟩, prog_12_method_96_code, 4, some FieldType.int, 2, 11),
  (⟨"LeapingPassagesModel", "same", "(I)I"⟩, prog_12_method_98_code, 3, some FieldType.int, 1, 11),
  (⟨"LeapingPassagesModel", "inside", "(I)I"⟩, prog_12_method_100_code, 4, some FieldType.int, 1, 11),
  (⟨"LeapingPassagesModel", "isInside", "(II)Z"⟩, prog_12_method_99_code, 4, some FieldType.boolean, 2, 11),
  (⟨"LeapingPassagesModel", "words", "(II)I"⟩, prog_12_method_101_code, 8, some FieldType.int, 2, 11),
  (⟨"LeapingPassagesModel", "whatIf", "(III)I"⟩, prog_12_method_103_code, 4, some FieldType.int, 3, 11),
  (⟨"LeapingPassagesModel", "manyIf", "(III)I"⟩, prog_12_method_102_code, 5, some FieldType.int, 3, 11),
  (⟨"LeapingPassagesModel", "bestWord", "(II)I"⟩, prog_12_method_104_code, 7, some FieldType.int, 2, 11),
  (⟨"LeapingPassagesModel", "kinds", "(IIII)I"⟩, prog_12_method_106_code, 8, some FieldType.int, 4, 11),
  (⟨"LeapingPassagesModel", "wrongAt", "(III)I"⟩, prog_12_method_105_code, 5, some FieldType.int, 3, 11),
  (⟨"LeapingPassagesModel", "judge", "(III)I"⟩, prog_12_method_107_code, 5, some FieldType.int, 3, 11),
  (⟨"LeapingPassagesModel", "leap", "(III)I"⟩, prog_12_method_108_code, 7, some FieldType.int, 3, 11),
  (⟨"LeapingPassagesModel", "fold", "(IIII)I"⟩, prog_12_method_109_code, 9, some FieldType.int, 4, 11),
  (⟨"LeapingPassagesModel", "days", "(I)I"⟩, prog_12_method_111_code, 5, some FieldType.int, 1, 11),
  (⟨"LeapingPassagesModel", "draw", "(I)I"⟩, prog_12_method_110_code, 2, some FieldType.int, 1, 11),
  (⟨"LeapingPassagesModel", "seed", "(I)I"⟩, prog_12_method_112_code, 3, some FieldType.int, 1, 11),
  (⟨"LeapingPassagesModel", "image", "()I"⟩, prog_12_method_114_code, 1, some FieldType.int, 0, 11),
  (⟨"LeapingPassagesModel", "take", "([I[I)V"⟩, prog_12_method_113_code, 3, none, 2, 11),
  (⟨"LeapingPassagesModel", "back", "()I"⟩, prog_12_method_115_code, 2, some FieldType.int, 0, 11),
  (⟨"LeapingPassagesModel", "status", "(I)I"⟩, prog_12_method_116_code, 4, some FieldType.int, 1, 11),
  (⟨"LeapingPassagesModel", "bits", "(I)I"⟩, prog_12_method_6_code, 3, some FieldType.int, 1, 11),
  (x, code, maxLocals, ret, 1, 10)]

abbrev jm_K : Type := Nat × Nat × Nat × Nat × Int

noncomputable def jm_lk0 : List jm_K := [(1, 6, 1, 0, 0), (7, 7, 8, 5, 0), (9, 5, 2, 0, 0), (10, 0, 9, 0, 1), (16, 0, 9, 1, 1), (19, 7, 2, 2, 0), (21, 3, 3, 0, 0), (22, 0, 9, 2, 1), (26, 0, 9, 3, 1), (29, 7, 4, 7, 0), (31, 3, 5, 0, 0), (34, 0, 9, 4, 1), (38, 7, 6, 3, 0), (40, 5, 6, 0, 0), (41, 0, 9, 5, 1), (45, 0, 9, 6, 1), (49, 7, 7, 2, 0), (51, 5, 8, 0, 0), (52, 0, 9, 7, 1), (56, 7, 1, 10, 0), (58, 3, 9, 0, 0), (61, 0, 9, 8, 1), (65, 8, 0, 0, 0), (67, 0, 9, 9, 1), (71, 0, 9, 10, 1), (65, 7, 5, 3, 0), (74, 5, 10, 0, 0), (75, 2, 12, 0, 0), (79, 1, 13, 0, 9), (83, 1, 14, 0, 5), (87, 1, 17, 0, 9), (91, 1, 20, 0, 5), (94, 0, 5, 0, 1), (98, 0, 5, 2, 0), (102, 2, 21, 0, 0), (106, 1, 18, 0, 5), (120, 1, 19, 0, 5), (355, 0, 5, 1, 0), (110, 1, 23, 0, 5), (114, 12, 0, 0, 0), (123, 1, 27, 0, 2), (126, 0, 2, 0, 1), (130, 0, 0, 0, 0), (135, 2, 29, 0, 0), (138, 1, 31, 0, 9), (198, 2, 30, 0, 0), (240, 1, 32, 0, 4), (244, 0, 6, 2, 0), (211, 0, 0, 1, 0), (214, 0, 0, 2, 0), (220, 0, 0, 4, 0), (141, 2, 57, 0, 0), (144, 0, 8, 3, 0), (147, 1, 58, 0, 8), (151, 1, 59, 0, 4), (154, 1, 61, 0, 8), (158, 1, 62, 0, 8), (161, 1, 64, 0, 8), (164, 0, 8, 0, 1), (167, 0, 8, 2, 1), (170, 0, 7, 1, 0), (171, 1, 67, 0, 7), (172, 1, 70, 0, 7), (175, 1, 73, 0, 7), (178, 1, 74, 0, 9), (181, 1, 75, 0, 7), (185, 1, 77, 0, 1), (188, 0, 1, 9, 0), (191, 0, 2, 1, 0), (192, 1, 98, 0, 9), (356, 1, 99, 0, 2), (359, 1, 80, 0, 2), (363, 1, 100, 0, 2), (196, 11, 0, 0, 16), (201, 1, 103, 0, 9), (366, 1, 93, 0, 2), (205, 1, 108, 0, 4), (208, 1, 109, 0, 9), (217, 0, 0, 3, 0), (223, 0, 0, 7, 0), (226, 0, 0, 8, 0), (229, 0, 0, 9, 0), (231, 0, 8, 1, 1), (234, 1, 112, 0, 8), (237, 1, 36, 0, 8), (245, 1, 47, 0, 6), (248, 1, 115, 0, 6), (251, 14, 0, 0, 0), (256, 13, 0, 0, 0), (259, 1, 45, 0, 6), (263, 1, 117, 0, 6), (266, 1, 118, 0, 6), (269, 1, 120, 0, 6), (272, 1, 41, 0, 6), (275, 1, 125, 0, 6), (278, 1, 126, 0, 6), (281, 1, 46, 0, 6), (284, 1, 129, 0, 8), (287, 1, 38, 0, 8), (291, 1, 130, 0, 9), (304, 0, 6, 1, 1), (301, 0, 6, 0, 1), (295, 1, 132, 0, 9), (298, 1, 134, 0, 6), (307, 1, 137, 0, 6), (311, 1, 53, 0, 4), (315, 1, 139, 0, 6), (318, 1, 143, 0, 4), (321, 1, 145, 0, 4), (324, 1, 148, 0, 5), (327, 1, 152, 0, 6), (331, 1, 154, 0, 8), (334, 0, 8, 4, 0), (337, 1, 158, 0, 8), (339, 1, 159, 0, 2), (342, 0, 9, 11, 2), (346, 1, 163, 0, 8), (349, 1, 165, 0, 8), (352, 1, 166, 0, 9)]

noncomputable def jm_lk1 : List jm_K := [(3, 6, 1, 0, 0), (9, 0, 0, 0, 0), (15, 0, 0, 4, 0), (18, 0, 0, 1, 0), (21, 0, 0, 2, 0), (24, 0, 0, 3, 0), (27, 0, 0, 5, 0), (30, 0, 0, 6, 0), (33, 0, 0, 7, 0), (36, 0, 0, 8, 0), (39, 0, 0, 9, 0), (42, 0, 0, 10, 0), (45, 10, 0, 0, 1000000), (46, 14, 0, 0, 0), (52, 13, 0, 0, 0)]

noncomputable def jm_lk2 : List jm_K := [(3, 6, 1, 0, 0), (9, 0, 1, 2, 1), (15, 0, 1, 3, 1), (18, 0, 1, 0, 1), (22, 0, 1, 1, 1), (26, 0, 1, 4, 0), (30, 0, 1, 5, 0), (33, 0, 1, 6, 0), (36, 0, 1, 7, 0), (39, 0, 1, 8, 2), (43, 0, 2, 1, 0), (48, 0, 1, 9, 0), (51, 0, 7, 1, 0), (54, 0, 7, 0, 1), (57, 1, 78, 0, 1), (61, 1, 86, 0, 1), (64, 1, 88, 0, 1), (67, 2, 71, 0, 0), (71, 1, 79, 0, 1), (75, 1, 83, 0, 1), (78, 1, 84, 0, 1), (81, 1, 85, 0, 1), (117, 1, 80, 0, 2), (121, 1, 82, 0, 1), (85, 2, 87, 0, 0), (88, 1, 95, 0, 1), (91, 1, 96, 0, 1), (105, 2, 89, 0, 0), (102, 1, 90, 0, 1), (108, 4, 30, 0, 0), (94, 1, 91, 0, 1), (98, 1, 92, 0, 1), (111, 14, 0, 0, 0), (124, 1, 93, 0, 2)]

noncomputable def jm_lk3 : List jm_K := [(3, 6, 1, 0, 0), (9, 8, 1, 0, 0), (11, 0, 2, 0, 1), (9, 7, 0, 11, 0), (17, 5, 4, 0, 0), (18, 0, 2, 1, 0), (26, 1, 81, 0, 0), (30, 0, 0, 5, 0), (33, 0, 0, 6, 0), (36, 0, 0, 9, 0), (39, 0, 0, 1, 0), (42, 0, 0, 2, 0), (45, 0, 0, 3, 0), (48, 1, 94, 0, 0), (22, 1, 160, 0, 0)]

noncomputable def jm_lk4 : List jm_K := [(3, 6, 1, 0, 0), (9, 0, 3, 0, 1), (15, 2, 43, 0, 0), (21, 14, 0, 0, 0), (27, 0, 6, 2, 0), (33, 1, 37, 0, 6)]

noncomputable def jm_lk5 : List jm_K := [(3, 6, 1, 0, 0), (9, 8, 2, 0, 0), (11, 0, 4, 2, 1), (9, 7, 6, 3, 0), (17, 5, 6, 0, 0), (18, 0, 4, 3, 1), (22, 7, 3, 1, 0), (24, 5, 7, 0, 0), (25, 0, 4, 4, 1), (29, 0, 4, 6, 0), (33, 0, 4, 0, 1), (37, 0, 4, 1, 1), (44, 1, 27, 0, 2), (50, 0, 2, 0, 1), (54, 0, 0, 10, 0), (41, 0, 4, 5, 0), (59, 1, 33, 0, 4), (79, 0, 0, 0, 0), (82, 1, 34, 0, 4), (86, 0, 0, 4, 0), (89, 1, 38, 0, 8), (93, 0, 0, 1, 0), (96, 1, 39, 0, 4), (99, 1, 40, 0, 4), (103, 1, 42, 0, 3), (106, 0, 0, 2, 0), (109, 0, 0, 3, 0), (112, 1, 44, 0, 4), (116, 1, 52, 0, 3), (120, 1, 53, 0, 4), (70, 0, 6, 2, 0), (123, 0, 0, 6, 0), (126, 0, 8, 3, 0), (127, 0, 0, 5, 0), (130, 1, 35, 0, 4), (134, 1, 37, 0, 6), (73, 0, 8, 0, 1), (138, 1, 36, 0, 8), (142, 1, 41, 0, 6), (145, 0, 6, 0, 1), (148, 0, 6, 1, 1), (158, 1, 45, 0, 6), (162, 1, 46, 0, 6), (165, 2, 48, 0, 0), (169, 1, 51, 0, 3), (172, 14, 0, 0, 0), (178, 13, 0, 0, 0), (151, 1, 54, 0, 4), (154, 1, 55, 0, 4), (63, 1, 59, 0, 4), (66, 1, 32, 0, 4)]

noncomputable def jm_lk6 : List jm_K := [(3, 6, 1, 0, 0), (9, 0, 5, 0, 1), (15, 0, 5, 2, 0), (19, 2, 15, 0, 0), (25, 0, 5, 1, 0), (28, 1, 23, 0, 5), (32, 1, 47, 0, 6), (38, 0, 6, 0, 1), (42, 0, 6, 1, 1), (45, 0, 6, 2, 0)]

noncomputable def jm_lk7 : List jm_K := [(3, 6, 1, 0, 0), (9, 0, 6, 0, 1), (15, 0, 6, 1, 1), (18, 0, 6, 2, 0), (28, 1, 47, 0, 6), (32, 1, 45, 0, 6), (36, 1, 118, 0, 6), (40, 13, 0, 0, 0), (49, 1, 115, 0, 6), (46, 14, 0, 0, 0), (22, 12, 0, 0, 0)]

noncomputable def jm_lk8 : List jm_K := [(3, 6, 1, 0, 0), (9, 0, 7, 0, 1), (15, 0, 7, 1, 0), (19, 2, 71, 0, 0), (23, 2, 72, 0, 0), (27, 1, 58, 0, 8), (33, 1, 62, 0, 8)]

noncomputable def jm_lk9 : List jm_K := [(3, 6, 1, 0, 0), (9, 0, 8, 0, 1), (15, 0, 8, 1, 1), (18, 0, 8, 2, 1), (21, 0, 8, 4, 0), (44, 0, 6, 2, 0), (31, 0, 8, 3, 0), (47, 1, 37, 0, 6), (34, 1, 112, 0, 8), (52, 1, 155, 0, 8), (55, 1, 58, 0, 8), (59, 1, 62, 0, 8), (62, 1, 61, 0, 8), (51, 10, 0, 0, 1103515245), (25, 12, 0, 0, 0), (38, 2, 164, 0, 0)]

noncomputable def jm_lk10 : List jm_K := [(7, 7, 9, 12, 0), (9, 3, 0, 0, 0), (10, 7, 10, 42, 0), (12, 3, 167, 0, 0), (13, 1, 11, 0, 9), (17, 1, 168, 0, 10), (18, 11, 0, 0, 4294967295), (20, 1, 16, 0, 9), (24, 1, 171, 0, 10), (25, 1, 22, 0, 9), (29, 1, 174, 0, 10), (30, 1, 24, 0, 9), (34, 1, 175, 0, 10), (35, 1, 25, 0, 9), (39, 1, 176, 0, 10), (40, 1, 26, 0, 9), (44, 1, 177, 0, 10), (45, 1, 28, 0, 9), (48, 1, 179, 0, 10), (49, 1, 56, 0, 9), (52, 1, 200, 0, 10), (53, 1, 60, 0, 9), (56, 1, 202, 0, 10), (57, 1, 63, 0, 9), (60, 1, 203, 0, 10), (61, 1, 65, 0, 9), (64, 1, 205, 0, 10), (65, 1, 66, 0, 9), (68, 1, 206, 0, 10), (69, 1, 68, 0, 9), (73, 1, 207, 0, 10), (74, 1, 69, 0, 9), (77, 1, 208, 0, 10), (78, 1, 76, 0, 9), (81, 1, 211, 0, 10), (82, 1, 97, 0, 9), (85, 1, 226, 0, 10), (86, 1, 101, 0, 9), (89, 1, 228, 0, 10), (90, 1, 102, 0, 9), (93, 1, 230, 0, 10), (94, 1, 104, 0, 9), (97, 1, 231, 0, 10), (98, 1, 105, 0, 9), (101, 1, 232, 0, 10), (102, 1, 106, 0, 9), (106, 1, 233, 0, 10), (107, 1, 107, 0, 9), (110, 1, 234, 0, 10), (111, 1, 110, 0, 9), (114, 1, 235, 0, 10), (115, 1, 111, 0, 9), (118, 1, 239, 0, 10), (119, 1, 113, 0, 9), (122, 1, 241, 0, 10), (123, 1, 114, 0, 9), (126, 1, 242, 0, 10), (127, 1, 116, 0, 9), (130, 1, 244, 0, 10), (131, 1, 119, 0, 9), (134, 1, 245, 0, 10), (135, 1, 121, 0, 9), (138, 1, 247, 0, 10), (139, 1, 122, 0, 9), (142, 1, 248, 0, 10), (143, 1, 123, 0, 9), (146, 1, 249, 0, 10), (147, 1, 124, 0, 9), (150, 1, 251, 0, 10), (151, 1, 127, 0, 9), (154, 1, 252, 0, 10), (155, 1, 128, 0, 9), (158, 1, 253, 0, 10), (159, 1, 131, 0, 9), (162, 1, 256, 0, 10), (163, 1, 133, 0, 9), (166, 1, 257, 0, 10), (167, 1, 135, 0, 9), (170, 1, 258, 0, 10), (171, 1, 136, 0, 9), (174, 1, 259, 0, 10), (175, 1, 138, 0, 9), (178, 1, 261, 0, 10), (179, 1, 140, 0, 9), (182, 1, 263, 0, 10), (183, 1, 141, 0, 9), (186, 1, 264, 0, 10), (187, 1, 142, 0, 9), (190, 1, 266, 0, 10), (191, 1, 144, 0, 9), (194, 1, 267, 0, 10), (195, 1, 146, 0, 9), (198, 1, 269, 0, 10), (199, 1, 147, 0, 9), (202, 1, 270, 0, 10), (203, 1, 149, 0, 9), (206, 1, 272, 0, 10), (207, 1, 150, 0, 9), (210, 1, 273, 0, 10), (211, 1, 151, 0, 9), (214, 1, 274, 0, 10), (215, 1, 153, 0, 9), (218, 1, 275, 0, 10), (219, 1, 156, 0, 9), (222, 1, 277, 0, 10), (223, 1, 157, 0, 9), (226, 1, 278, 0, 10), (227, 1, 161, 0, 9), (230, 1, 280, 0, 10), (231, 1, 162, 0, 9), (234, 1, 281, 0, 10)]

noncomputable def jm_lk11 : List jm_K := [(3, 6, 1, 0, 0), (9, 0, 10, 0, 1), (13, 0, 10, 1, 1), (16, 0, 10, 2, 1), (19, 9, 0, 0, 0), (21, 0, 10, 3, 1), (24, 0, 10, 4, 1), (28, 0, 10, 5, 1), (31, 0, 10, 6, 1), (34, 0, 10, 8, 1), (37, 0, 10, 11, 0), (41, 0, 10, 12, 1), (44, 0, 10, 13, 1), (47, 0, 10, 14, 1), (50, 0, 10, 15, 1), (53, 0, 10, 16, 1), (56, 0, 10, 21, 1), (59, 0, 10, 22, 1), (62, 0, 10, 23, 1), (65, 0, 10, 24, 1), (68, 0, 10, 25, 1), (71, 0, 10, 27, 1), (74, 0, 10, 28, 1), (77, 0, 10, 29, 1), (80, 0, 10, 30, 1), (83, 0, 10, 31, 1), (86, 0, 10, 32, 1), (89, 0, 10, 33, 1), (92, 0, 10, 34, 1), (95, 0, 10, 35, 1), (98, 0, 10, 36, 1), (101, 0, 10, 37, 0), (104, 0, 10, 41, 1), (117, 11, 0, 0, 7), (110, 2, 169, 0, 0), (119, 11, 0, 0, 4), (121, 11, 0, 0, 40), (123, 1, 170, 0, 10), (127, 1, 172, 0, 10), (130, 2, 173, 0, 0), (134, 1, 178, 0, 10), (107, 0, 10, 10, 0), (138, 11, 0, 0, 6), (140, 2, 180, 0, 0), (144, 1, 181, 0, 10), (205, 0, 10, 26, 2), (209, 1, 182, 0, 10), (190, 1, 183, 0, 10), (193, 1, 184, 0, 10), (196, 1, 188, 0, 10), (199, 1, 190, 0, 10), (202, 1, 193, 0, 10), (186, 1, 194, 0, 10), (114, 0, 10, 9, 0), (166, 1, 185, 0, 10), (158, 1, 186, 0, 10), (180, 1, 187, 0, 10), (183, 1, 189, 0, 10), (151, 1, 191, 0, 10), (147, 1, 192, 0, 10), (169, 1, 195, 0, 10), (173, 1, 196, 0, 10), (177, 1, 197, 0, 10), (162, 1, 198, 0, 10), (154, 1, 199, 0, 10), (212, 11, 0, 0, 15), (214, 1, 201, 0, 10), (217, 11, 0, 0, 2), (219, 1, 204, 0, 10), (222, 11, 0, 0, 255), (224, 0, 10, 7, 0), (231, 1, 209, 0, 10), (235, 1, 210, 0, 10), (227, 11, 0, 0, 97), (229, 11, 0, 0, 112), (241, 0, 10, 38, 0), (244, 0, 10, 39, 0), (238, 0, 10, 40, 0), (270, 1, 212, 0, 10), (247, 1, 217, 0, 10), (253, 1, 220, 0, 10), (291, 1, 213, 0, 10), (250, 1, 222, 0, 10), (263, 1, 218, 0, 10), (288, 1, 214, 0, 10), (285, 1, 215, 0, 10), (279, 1, 216, 0, 10), (282, 2, 225, 0, 0), (267, 1, 224, 0, 10), (273, 1, 219, 0, 10), (260, 1, 221, 0, 10), (276, 1, 223, 0, 10), (256, 11, 0, 0, 48), (258, 11, 0, 0, 57), (294, 1, 227, 0, 10), (297, 1, 229, 0, 10), (300, 11, 0, 0, 8), (302, 11, 0, 0, 60), (304, 11, 0, 0, 3), (312, 1, 236, 0, 10), (309, 2, 238, 0, 0), (315, 11, 0, 0, 1000000), (317, 10, 0, 0, 1000000), (306, 1, 237, 0, 10), (318, 1, 240, 0, 10), (321, 1, 243, 0, 10), (324, 1, 246, 0, 10), (327, 1, 250, 0, 10), (330, 1, 254, 0, 10), (333, 1, 255, 0, 10), (336, 1, 260, 0, 10), (340, 1, 262, 0, 10), (343, 1, 265, 0, 10), (346, 1, 268, 0, 10), (350, 11, 0, 0, 20), (352, 1, 271, 0, 10), (356, 1, 276, 0, 10), (355, 10, 0, 0, 1103515245), (359, 0, 10, 17, 2), (362, 0, 10, 18, 0), (365, 0, 10, 19, 0), (368, 0, 10, 20, 0), (371, 2, 279, 0, 0), (375, 2, 282, 0, 0), (378, 11, 0, 0, 12), (380, 11, 0, 0, 16)]

noncomputable def jm_lk12 : List jm_K := [(265, 10, 0, 0, 1431655765), (266, 10, 0, 0, 858993459), (267, 10, 0, 0, 252645135)]

noncomputable def jm_LK (o : Nat) : List jm_K := match o with
  | 0 => jm_lk0
  | 1 => jm_lk1
  | 2 => jm_lk2
  | 3 => jm_lk3
  | 4 => jm_lk4
  | 5 => jm_lk5
  | 6 => jm_lk6
  | 7 => jm_lk7
  | 8 => jm_lk8
  | 9 => jm_lk9
  | 10 => jm_lk10
  | 11 => jm_lk11
  | 12 => jm_lk12
  | _ => []

abbrev jm_I : Type := Instr × Nat × Nat × Nat × Int

set_option maxRecDepth 20000 in
noncomputable def jt_0_0 : List (Option jm_I) := [some (.aload_n 0, 1, 0, 0, 0), some (.invokespecial 1, 4, 1, 6, 0), none, none, some (.aload_n 0, 5, 0, 0, 0), some (.new 7, 8, 8, 5, 0), none, none, some (.dup, 9, 0, 0, 0), some (.invokespecial 9, 12, 2, 5, 0), none, none, some (.putfield 10, 15, 9, 0, 1), none, none, some (.aload_n 0, 16, 0, 0, 0), some (.new 7, 19, 8, 5, 0), none, none, some (.dup, 20, 0, 0, 0), some (.invokespecial 9, 23, 2, 5, 0), none, none, some (.putfield 16, 26, 9, 1, 1), none, none, some (.aload_n 0, 27, 0, 0, 0), some (.new 19, 30, 2, 2, 0), none, none, some (.dup, 31, 0, 0, 0), some (.invokespecial 21, 34, 3, 3, 0), none, none, some (.putfield 22, 37, 9, 2, 1), none, none, some (.aload_n 0, 38, 0, 0, 0), some (.new 19, 41, 2, 2, 0), none, none, some (.dup, 42, 0, 0, 0), some (.invokespecial 21, 45, 3, 3, 0), none, none, some (.putfield 26, 48, 9, 3, 1), none, none, some (.aload_n 0, 49, 0, 0, 0), some (.new 29, 52, 4, 7, 0), none, none, some (.dup, 53, 0, 0, 0), some (.aload_n 0, 54, 0, 0, 0), some (.getfield 10, 57, 9, 0, 1), none, none, some (.aload_n 0, 58, 0, 0, 0), some (.getfield 22, 61, 9, 2, 1), none, none, some (.invokespecial 31, 64, 5, 3, 0), none, none]

set_option maxRecDepth 20000 in
noncomputable def jt_0_1 : List (Option jm_I) := [some (.putfield 34, 67, 9, 4, 1), none, none, some (.aload_n 0, 68, 0, 0, 0), some (.new 38, 71, 6, 3, 0), none, none, some (.dup, 72, 0, 0, 0), some (.invokespecial 40, 75, 6, 5, 0), none, none, some (.putfield 41, 78, 9, 5, 1), none, none, some (.aload_n 0, 79, 0, 0, 0), some (.bipush 60, 81, 0, 0, 0), none, some (.newarray .int, 83, 0, 0, 0), none, some (.putfield 45, 86, 9, 6, 1), none, none, some (.aload_n 0, 87, 0, 0, 0), some (.new 49, 90, 7, 2, 0), none, none, some (.dup, 91, 0, 0, 0), some (.invokespecial 51, 94, 8, 5, 0), none, none, some (.putfield 52, 97, 9, 7, 1), none, none, some (.aload_n 0, 98, 0, 0, 0), some (.new 56, 101, 1, 10, 0), none, none, some (.dup, 102, 0, 0, 0), some (.aload_n 0, 103, 0, 0, 0), some (.getfield 52, 106, 9, 7, 1), none, none, some (.aload_n 0, 107, 0, 0, 0), some (.getfield 22, 110, 9, 2, 1), none, none, some (.invokespecial 58, 113, 9, 3, 0), none, none, some (.putfield 61, 116, 9, 8, 1), none, none, some (.aload_n 0, 117, 0, 0, 0), some (.bipush 8, 119, 0, 0, 0), none, some (.anewarray 65, 122, 0, 0, 0), none, none, some (.putfield 67, 125, 9, 9, 1), none, none, some (.aload_n 0, 126, 0, 0, 0), some (.iconst 5, 127, 0, 0, 0), some (.newarray .int, 129, 0, 0, 0)]

set_option maxRecDepth 20000 in
noncomputable def jt_0_2 : List (Option jm_I) := [none, some (.putfield 71, 132, 9, 10, 1), none, none, some (.iconst 0, 133, 0, 0, 0), some (.istore_n 1, 134, 0, 0, 0), some (.iload_n 1, 135, 0, 0, 0), some (.bipush 8, 137, 0, 0, 0), none, some (.if_icmp .ge 22, 140, 159, 0, 0), none, none, some (.aload_n 0, 141, 0, 0, 0), some (.getfield 67, 144, 9, 9, 1), none, none, some (.iload_n 1, 145, 0, 0, 0), some (.new 65, 148, 5, 3, 0), none, none, some (.dup, 149, 0, 0, 0), some (.invokespecial 74, 152, 10, 5, 0), none, none, some (.aastore, 153, 0, 0, 0), some (.iinc 1 1, 156, 0, 0, 0), none, none, some (.goto (-22), 159, 134, 0, 0), none, none, some (.return_, 160, 0, 0, 0)]

noncomputable def jt_0 : List (List (Option jm_I)) := [jt_0_0, jt_0_1, jt_0_2]

set_option maxRecDepth 20000 in
noncomputable def jt_1_0 : List (Option jm_I) := [some (.return_, 1, 0, 0, 0)]

noncomputable def jt_1 : List (List (Option jm_I)) := [jt_1_0]

set_option maxRecDepth 20000 in
noncomputable def jt_2_0 : List (Option jm_I) := [some (.aload_n 0, 1, 0, 0, 0), some (.invokespecial 3, 4, 1, 6, 0), none, none, some (.aload_n 0, 5, 0, 0, 0), some (.bipush 60, 7, 0, 0, 0), none, some (.newarray .int, 9, 0, 0, 0), none, some (.putfield 9, 12, 8, 0, 1), none, none, some (.aload_n 0, 13, 0, 0, 0), some (.bipush 60, 15, 0, 0, 0), none, some (.newarray .int, 17, 0, 0, 0), none, some (.putfield 15, 20, 8, 1, 1), none, none, some (.aload_n 0, 21, 0, 0, 0), some (.bipush 16, 23, 0, 0, 0), none, some (.newarray .int, 25, 0, 0, 0), none, some (.putfield 18, 28, 8, 2, 1), none, none, some (.aload_n 0, 29, 0, 0, 0), some (.iconst 1, 30, 0, 0, 0), some (.putfield 21, 33, 8, 4, 0), none, none, some (.return_, 34, 0, 0, 0)]

noncomputable def jt_2 : List (List (Option jm_I)) := [jt_2_0]

set_option maxRecDepth 20000 in
noncomputable def jt_3_0 : List (Option jm_I) := [some (.aload_n 0, 1, 0, 0, 0), some (.invokespecial 3, 4, 1, 6, 0), none, none, some (.aload_n 0, 5, 0, 0, 0), some (.bipush 24, 7, 0, 0, 0), none, some (.anewarray 9, 10, 1, 0, 0), none, none, some (.putfield 11, 13, 2, 0, 1), none, none, some (.iconst 0, 14, 0, 0, 0), some (.istore_n 1, 15, 0, 0, 0), some (.iload_n 1, 16, 0, 0, 0), some (.bipush 24, 18, 0, 0, 0), none, some (.if_icmp .ge 22, 21, 40, 0, 0), none, none, some (.aload_n 0, 22, 0, 0, 0), some (.getfield 11, 25, 2, 0, 1), none, none, some (.iload_n 1, 26, 0, 0, 0), some (.new 9, 29, 0, 11, 0), none, none, some (.dup, 30, 0, 0, 0), some (.invokespecial 17, 33, 4, 5, 0), none, none, some (.aastore, 34, 0, 0, 0), some (.iinc 1 1, 37, 0, 0, 0), none, none, some (.goto (-22), 40, 15, 0, 0), none, none, some (.return_, 41, 0, 0, 0)]

noncomputable def jt_3 : List (List (Option jm_I)) := [jt_3_0]

set_option maxRecDepth 20000 in
noncomputable def jt_4_0 : List (Option jm_I) := [some (.aload_n 0, 1, 0, 0, 0), some (.invokespecial 3, 4, 1, 6, 0), none, none, some (.return_, 5, 0, 0, 0)]

noncomputable def jt_4 : List (List (Option jm_I)) := [jt_4_0]

set_option maxRecDepth 20000 in
noncomputable def jt_5_0 : List (Option jm_I) := [some (.aload_n 0, 1, 0, 0, 0), some (.invokespecial 3, 4, 1, 6, 0), none, none, some (.aload_n 0, 5, 0, 0, 0), some (.bipush 24, 7, 0, 0, 0), none, some (.anewarray 9, 10, 2, 0, 0), none, none, some (.putfield 11, 13, 4, 2, 1), none, none, some (.aload_n 0, 14, 0, 0, 0), some (.new 9, 17, 6, 3, 0), none, none, some (.dup, 18, 0, 0, 0), some (.invokespecial 17, 21, 6, 5, 0), none, none, some (.putfield 18, 24, 4, 3, 1), none, none, some (.aload_n 0, 25, 0, 0, 0), some (.new 22, 28, 3, 1, 0), none, none, some (.dup, 29, 0, 0, 0), some (.invokespecial 24, 32, 7, 5, 0), none, none, some (.putfield 25, 35, 4, 4, 1), none, none, some (.aload_n 0, 36, 0, 0, 0), some (.iconst (-1), 37, 0, 0, 0), some (.putfield 29, 40, 4, 6, 0), none, none, some (.aload_n 0, 41, 0, 0, 0), some (.aload_n 1, 42, 0, 0, 0), some (.putfield 33, 45, 4, 0, 1), none, none, some (.aload_n 0, 46, 0, 0, 0), some (.aload_n 2, 47, 0, 0, 0), some (.putfield 37, 50, 4, 1, 1), none, none, some (.iconst 0, 51, 0, 0, 0), some (.istore_n 3, 52, 0, 0, 0), some (.iload_n 3, 53, 0, 0, 0), some (.bipush 24, 55, 0, 0, 0), none, some (.if_icmp .ge 22, 58, 77, 0, 0), none, none, some (.aload_n 0, 59, 0, 0, 0), some (.getfield 11, 62, 4, 2, 1), none, none, some (.iload_n 3, 63, 0, 0, 0), some (.new 9, 66, 6, 3, 0)]

set_option maxRecDepth 20000 in
noncomputable def jt_5_1 : List (Option jm_I) := [none, none, some (.dup, 67, 0, 0, 0), some (.invokespecial 17, 70, 6, 5, 0), none, none, some (.aastore, 71, 0, 0, 0), some (.iinc 3 1, 74, 0, 0, 0), none, none, some (.goto (-22), 77, 52, 0, 0), none, none, some (.return_, 78, 0, 0, 0)]

noncomputable def jt_5 : List (List (Option jm_I)) := [jt_5_0, jt_5_1]

set_option maxRecDepth 20000 in
noncomputable def jt_6_0 : List (Option jm_I) := [some (.aload_n 0, 1, 0, 0, 0), some (.invokespecial 3, 4, 1, 6, 0), none, none, some (.aload_n 0, 5, 0, 0, 0), some (.bipush 60, 7, 0, 0, 0), none, some (.newarray .int, 9, 0, 0, 0), none, some (.putfield 9, 12, 6, 0, 1), none, none, some (.aload_n 0, 13, 0, 0, 0), some (.bipush 60, 15, 0, 0, 0), none, some (.newarray .int, 17, 0, 0, 0), none, some (.putfield 15, 20, 6, 1, 1), none, none, some (.return_, 21, 0, 0, 0)]

noncomputable def jt_6 : List (List (Option jm_I)) := [jt_6_0]

set_option maxRecDepth 20000 in
noncomputable def jt_7_0 : List (Option jm_I) := [some (.aload_n 0, 1, 0, 0, 0), some (.invokespecial 3, 4, 1, 6, 0), none, none, some (.aload_n 0, 5, 0, 0, 0), some (.bipush 60, 7, 0, 0, 0), none, some (.newarray .int, 9, 0, 0, 0), none, some (.putfield 9, 12, 3, 0, 1), none, none, some (.return_, 13, 0, 0, 0)]

noncomputable def jt_7 : List (List (Option jm_I)) := [jt_7_0]

set_option maxRecDepth 20000 in
noncomputable def jt_8_0 : List (Option jm_I) := [some (.aload_n 0, 1, 0, 0, 0), some (.invokespecial 3, 4, 1, 6, 0), none, none, some (.aload_n 0, 5, 0, 0, 0), some (.sipush 250, 8, 0, 0, 0), none, none, some (.newarray .int, 10, 0, 0, 0), none, some (.putfield 9, 13, 7, 0, 1), none, none, some (.return_, 14, 0, 0, 0)]

noncomputable def jt_8 : List (List (Option jm_I)) := [jt_8_0]

set_option maxRecDepth 20000 in
noncomputable def jt_9_0 : List (Option jm_I) := [some (.aload_n 0, 1, 0, 0, 0), some (.invokespecial 3, 4, 1, 6, 0), none, none, some (.aload_n 0, 5, 0, 0, 0), some (.sipush 250, 8, 0, 0, 0), none, none, some (.newarray .int, 10, 0, 0, 0), none, some (.putfield 9, 13, 1, 2, 1), none, none, some (.aload_n 0, 14, 0, 0, 0), some (.sipush 250, 17, 0, 0, 0), none, none, some (.newarray .int, 19, 0, 0, 0), none, some (.putfield 15, 22, 1, 3, 1), none, none, some (.aload_n 0, 23, 0, 0, 0), some (.aload_n 1, 24, 0, 0, 0), some (.putfield 18, 27, 1, 0, 1), none, none, some (.aload_n 0, 28, 0, 0, 0), some (.aload_n 2, 29, 0, 0, 0), some (.putfield 22, 32, 1, 1, 1), none, none, some (.return_, 33, 0, 0, 0)]

noncomputable def jt_9 : List (List (Option jm_I)) := [jt_9_0]

set_option maxRecDepth 20000 in
noncomputable def jt_10_0 : List (Option jm_I) := [some (.aload_n 0, 1, 0, 0, 0), some (.invokespecial 3, 4, 1, 6, 0), none, none, some (.aload_n 0, 5, 0, 0, 0), some (.bipush 40, 7, 0, 0, 0), none, some (.newarray .long, 9, 0, 0, 0), none, some (.putfield 9, 12, 5, 0, 1), none, none, some (.aload_n 0, 13, 0, 0, 0), some (.iconst (-1), 14, 0, 0, 0), some (.putfield 15, 17, 5, 2, 0), none, none, some (.return_, 18, 0, 0, 0)]

noncomputable def jt_10 : List (List (Option jm_I)) := [jt_10_0]

set_option maxRecDepth 20000 in
noncomputable def jt_11_0 : List (Option jm_I) := [some (.iload_n 1, 1, 0, 0, 0), some (.invokestatic 75, 4, 12, 2, 0), none, none, some (.ifCond .eq 22, 7, 26, 0, 0), none, none, some (.iload_n 2, 8, 0, 0, 0), some (.ifCond .lt 18, 11, 26, 0, 0), none, none, some (.iload_n 2, 12, 0, 0, 0), some (.iconst 4, 13, 0, 0, 0), some (.if_icmp .gt 13, 16, 26, 0, 0), none, none, some (.iload_n 3, 17, 0, 0, 0), some (.ifCond .lt 9, 20, 26, 0, 0), none, none, some (.iload_n 3, 21, 0, 0, 0), some (.bipush 40, 23, 0, 0, 0), none, some (.if_icmp .le 10, 26, 33, 0, 0), none, none, some (.aload_n 0, 27, 0, 0, 0), some (.bipush (-2), 29, 0, 0, 0), none, some (.invokevirtual 79, 32, 13, 1, 9), none, none, some (.ireturn, 33, 0, 0, 0), some (.aload_n 0, 34, 0, 0, 0), some (.getfield 67, 37, 9, 9, 1), none, none, some (.iload_n 1, 38, 0, 0, 0), some (.aaload, 39, 0, 0, 0), some (.iload_n 2, 40, 0, 0, 0), some (.iload_n 3, 41, 0, 0, 0), some (.invokevirtual 83, 44, 14, 1, 5), none, none, some (.iconst 1, 45, 0, 0, 0), some (.ireturn, 46, 0, 0, 0)]

noncomputable def jt_11 : List (List (Option jm_I)) := [jt_11_0]

set_option maxRecDepth 20000 in
noncomputable def jt_12_0 : List (Option jm_I) := [some (.iload_n 0, 1, 0, 0, 0), some (.ifCond .lt 13, 4, 14, 0, 0), none, none, some (.iload_n 0, 5, 0, 0, 0), some (.bipush 8, 7, 0, 0, 0), none, some (.if_icmp .ge 7, 10, 14, 0, 0), none, none, some (.iconst 1, 11, 0, 0, 0), some (.goto 4, 14, 15, 0, 0), none, none, some (.iconst 0, 15, 0, 0, 0), some (.ireturn, 16, 1, 0, 0)]

noncomputable def jt_12 : List (List (Option jm_I)) := [jt_12_0]

set_option maxRecDepth 20000 in
noncomputable def jt_13_0 : List (Option jm_I) := [some (.bipush (-2), 2, 0, 0, 0), none, some (.iload_n 1, 3, 0, 0, 0), some (.isub, 4, 0, 0, 0), some (.istore_n 2, 5, 0, 0, 0), some (.iload_n 2, 6, 0, 0, 0), some (.ifCond .lt 18, 9, 24, 0, 0), none, none, some (.iload_n 2, 10, 0, 0, 0), some (.iconst 5, 11, 0, 0, 0), some (.if_icmp .ge 13, 14, 24, 0, 0), none, none, some (.aload_n 0, 15, 0, 0, 0), some (.getfield 71, 18, 9, 10, 1), none, none, some (.iload_n 2, 19, 0, 0, 0), some (.dup2, 20, 0, 0, 0), some (.iaload, 21, 0, 0, 0), some (.iconst 1, 22, 0, 0, 0), some (.iadd, 23, 0, 0, 0), some (.iastore, 24, 0, 0, 0), some (.iload_n 1, 25, 0, 0, 0), some (.ireturn, 26, 0, 0, 0)]

noncomputable def jt_13 : List (List (Option jm_I)) := [jt_13_0]

set_option maxRecDepth 20000 in
noncomputable def jt_14_0 : List (Option jm_I) := [some (.aload_n 0, 1, 0, 0, 0), some (.getfield 9, 4, 5, 0, 1), none, none, some (.lconst 0, 5, 0, 0, 0), some (.invokestatic 19, 8, 15, 2, 0), none, none, some (.aload_n 0, 9, 0, 0, 0), some (.iload_n 2, 10, 0, 0, 0), some (.putfield 25, 13, 5, 1, 0), none, none, some (.aload_n 0, 14, 0, 0, 0), some (.iload_n 1, 15, 0, 0, 0), some (.putfield 15, 18, 5, 2, 0), none, none, some (.return_, 19, 0, 0, 0)]

noncomputable def jt_14 : List (List (Option jm_I)) := [jt_14_0]

set_option maxRecDepth 20000 in
noncomputable def jt_15_0 : List (Option jm_I) := [some (.iconst 0, 1, 0, 0, 0), some (.istore_n 3, 2, 0, 0, 0), some (.aload_n 0, 3, 0, 0, 0), some (.arraylength, 4, 0, 0, 0), some (.istore 4, 6, 0, 0, 0), none, some (.iload_n 3, 7, 0, 0, 0), some (.iload 4, 9, 0, 0, 0), none, some (.if_icmp .ge 13, 12, 22, 0, 0), none, none, some (.aload_n 0, 13, 0, 0, 0), some (.iload_n 3, 14, 0, 0, 0), some (.lload_n 1, 15, 0, 0, 0), some (.lastore, 16, 0, 0, 0), some (.iinc 3 1, 19, 0, 0, 0), none, none, some (.goto (-13), 22, 6, 0, 0), none, none, some (.return_, 23, 0, 0, 0)]

noncomputable def jt_15 : List (List (Option jm_I)) := [jt_15_0]

set_option maxRecDepth 20000 in
noncomputable def jt_16_0 : List (Option jm_I) := [some (.aload_n 0, 1, 0, 0, 0), some (.iload_n 1, 2, 0, 0, 0), some (.iconst 0, 3, 0, 0, 0), some (.invokevirtual 87, 6, 17, 1, 9), none, none, some (.istore 5, 8, 0, 0, 0), none, some (.iload 5, 10, 0, 0, 0), none, some (.ifCond .eq 10, 13, 20, 0, 0), none, none, some (.aload_n 0, 14, 0, 0, 0), some (.iload 5, 16, 0, 0, 0), none, some (.invokevirtual 79, 19, 13, 1, 9), none, none, some (.ireturn, 20, 0, 0, 0), some (.aload_n 0, 21, 0, 0, 0), some (.getfield 67, 24, 9, 9, 1), none, none, some (.iload_n 1, 25, 0, 0, 0), some (.aaload, 26, 0, 0, 0), some (.astore 6, 28, 0, 0, 0), none, some (.aload 6, 30, 0, 0, 0), none, some (.iload_n 2, 31, 0, 0, 0), some (.invokevirtual 91, 34, 20, 1, 5), none, none, some (.ifCond .ne 10, 37, 44, 0, 0), none, none, some (.aload_n 0, 38, 0, 0, 0), some (.bipush (-2), 40, 0, 0, 0), none, some (.invokevirtual 79, 43, 13, 1, 9), none, none, some (.ireturn, 44, 0, 0, 0), some (.aload 6, 46, 0, 0, 0), none, some (.getfield 94, 49, 5, 0, 1), none, none, some (.iload_n 2, 50, 0, 0, 0), some (.aload 6, 52, 0, 0, 0), none, some (.getfield 98, 55, 5, 2, 0), none, none, some (.lload_n 3, 56, 0, 0, 0), some (.invokestatic 102, 59, 21, 2, 0), none, none, some (.lastore, 60, 0, 0, 0), some (.iconst 1, 61, 0, 0, 0), some (.ireturn, 62, 0, 0, 0)]

noncomputable def jt_16 : List (List (Option jm_I)) := [jt_16_0]

set_option maxRecDepth 20000 in
noncomputable def jt_17_0 : List (Option jm_I) := [some (.iload_n 1, 1, 0, 0, 0), some (.invokestatic 75, 4, 12, 2, 0), none, none, some (.ifCond .ne 6, 7, 10, 0, 0), none, none, some (.bipush (-2), 9, 0, 0, 0), none, some (.ireturn, 10, 0, 0, 0), some (.aload_n 0, 11, 0, 0, 0), some (.getfield 67, 14, 9, 9, 1), none, none, some (.iload_n 1, 15, 0, 0, 0), some (.aaload, 16, 0, 0, 0), some (.astore_n 3, 17, 0, 0, 0), some (.aload_n 3, 18, 0, 0, 0), some (.invokevirtual 106, 21, 18, 1, 5), none, none, some (.ifCond .eq 6, 24, 27, 0, 0), none, none, some (.bipush (-3), 26, 0, 0, 0), none, some (.ireturn, 27, 0, 0, 0), some (.aload_n 3, 28, 0, 0, 0), some (.invokevirtual 120, 31, 19, 1, 5), none, none, some (.ifCond .ne 6, 34, 37, 0, 0), none, none, some (.bipush (-4), 36, 0, 0, 0), none, some (.ireturn, 37, 0, 0, 0), some (.aload_n 3, 38, 0, 0, 0), some (.getfield 355, 41, 5, 1, 0), none, none, some (.iload_n 2, 42, 0, 0, 0), some (.if_icmp .ge 8, 45, 50, 0, 0), none, none, some (.bipush (-2), 47, 0, 0, 0), none, some (.goto 4, 50, 51, 0, 0), none, none, some (.iconst 0, 51, 0, 0, 0), some (.ireturn, 52, 0, 0, 0)]

noncomputable def jt_17 : List (List (Option jm_I)) := [jt_17_0]

set_option maxRecDepth 20000 in
noncomputable def jt_18_0 : List (Option jm_I) := [some (.aload_n 0, 1, 0, 0, 0), some (.getfield 15, 4, 5, 2, 0), none, none, some (.bipush 10, 6, 0, 0, 0), none, some (.if_icmp .lt 7, 9, 13, 0, 0), none, none, some (.iconst 1, 10, 0, 0, 0), some (.goto 4, 13, 14, 0, 0), none, none, some (.iconst 0, 14, 0, 0, 0), some (.ireturn, 15, 1, 0, 0)]

noncomputable def jt_18 : List (List (Option jm_I)) := [jt_18_0]

set_option maxRecDepth 20000 in
noncomputable def jt_19_0 : List (Option jm_I) := [some (.aload_n 0, 1, 0, 0, 0), some (.getfield 15, 4, 5, 2, 0), none, none, some (.ifCond .lt 15, 7, 19, 0, 0), none, none, some (.aload_n 0, 8, 0, 0, 0), some (.getfield 15, 11, 5, 2, 0), none, none, some (.iconst 4, 12, 0, 0, 0), some (.if_icmp .gt 7, 15, 19, 0, 0), none, none, some (.iconst 1, 16, 0, 0, 0), some (.goto 4, 19, 20, 0, 0), none, none, some (.iconst 0, 20, 0, 0, 0), some (.ireturn, 21, 1, 0, 0)]

noncomputable def jt_19 : List (List (Option jm_I)) := [jt_19_0]

set_option maxRecDepth 20000 in
noncomputable def jt_20_0 : List (Option jm_I) := [some (.iload_n 1, 1, 0, 0, 0), some (.ifCond .lt 15, 4, 16, 0, 0), none, none, some (.iload_n 1, 5, 0, 0, 0), some (.aload_n 0, 6, 0, 0, 0), some (.getfield 25, 9, 5, 1, 0), none, none, some (.if_icmp .ge 7, 12, 16, 0, 0), none, none, some (.iconst 1, 13, 0, 0, 0), some (.goto 4, 16, 17, 0, 0), none, none, some (.iconst 0, 17, 0, 0, 0), some (.ireturn, 18, 1, 0, 0)]

noncomputable def jt_20 : List (List (Option jm_I)) := [jt_20_0]

set_option maxRecDepth 20000 in
noncomputable def jt_21_0 : List (Option jm_I) := [some (.iload_n 0, 1, 0, 0, 0), some (.tableswitch 61 0 4 #[35, 40, 45, 61, 49], 36, 0, 0, 0), none, none, none, none, none, none, none, none, none, none, none, none, none, none, none, none, none, none, none, none, none, none, none, none, none, none, none, none, none, none, none, none, none, none, some (.lload_n 1, 37, 0, 0, 0), some (.l2i, 38, 0, 0, 0), some (.i2b, 39, 0, 0, 0), some (.i2l, 40, 0, 0, 0), some (.lreturn, 41, 0, 0, 0), some (.lload_n 1, 42, 0, 0, 0), some (.l2i, 43, 0, 0, 0), some (.i2s, 44, 0, 0, 0), some (.i2l, 45, 0, 0, 0), some (.lreturn, 46, 0, 0, 0), some (.lload_n 1, 47, 0, 0, 0), some (.l2i, 48, 0, 0, 0), some (.i2l, 49, 0, 0, 0), some (.lreturn, 50, 0, 0, 0), some (.lload_n 1, 51, 0, 0, 0), some (.lconst 0, 52, 0, 0, 0), some (.lcmp, 53, 0, 0, 0), some (.ifCond .ne 7, 56, 60, 0, 0), none, none, some (.lconst 0, 57, 0, 0, 0), some (.goto 4, 60, 61, 0, 0), none, none, some (.lconst 1, 61, 0, 0, 0), some (.lreturn, 62, 0, 0, 0), some (.lload_n 1, 63, 0, 0, 0), some (.lreturn, 64, 0, 0, 0)]

noncomputable def jt_21 : List (List (Option jm_I)) := [jt_21_0]

set_option maxRecDepth 20000 in
noncomputable def jt_22_0 : List (Option jm_I) := [some (.iload_n 1, 1, 0, 0, 0), some (.invokestatic 75, 4, 12, 2, 0), none, none, some (.ifCond .eq 10, 7, 14, 0, 0), none, none, some (.iload_n 2, 8, 0, 0, 0), some (.invokestatic 75, 11, 12, 2, 0), none, none, some (.ifCond .ne 10, 14, 21, 0, 0), none, none, some (.aload_n 0, 15, 0, 0, 0), some (.bipush (-2), 17, 0, 0, 0), none, some (.invokevirtual 79, 20, 13, 1, 9), none, none, some (.ireturn, 21, 0, 0, 0), some (.aload_n 0, 22, 0, 0, 0), some (.getfield 67, 25, 9, 9, 1), none, none, some (.iload_n 1, 26, 0, 0, 0), some (.aaload, 27, 0, 0, 0), some (.astore 6, 29, 0, 0, 0), none, some (.aload_n 0, 30, 0, 0, 0), some (.getfield 67, 33, 9, 9, 1), none, none, some (.iload_n 2, 34, 0, 0, 0), some (.aaload, 35, 0, 0, 0), some (.astore 7, 37, 0, 0, 0), none, some (.aload 6, 39, 0, 0, 0), none, some (.getfield 98, 42, 5, 2, 0), none, none, some (.iconst (-1), 43, 0, 0, 0), some (.if_icmp .eq 16, 46, 59, 0, 0), none, none, some (.aload 7, 48, 0, 0, 0), none, some (.getfield 98, 51, 5, 2, 0), none, none, some (.iconst (-1), 52, 0, 0, 0), some (.if_icmp .eq 7, 55, 59, 0, 0), none, none, some (.iconst 1, 56, 0, 0, 0), some (.goto 4, 59, 60, 0, 0), none, none, some (.iconst 0, 60, 0, 0, 0), some (.istore 8, 62, 0, 0, 0), none, some (.aload 6, 64, 0, 0, 0), none]

set_option maxRecDepth 20000 in
noncomputable def jt_22_1 : List (Option jm_I) := [some (.invokevirtual 106, 67, 18, 1, 5), none, none, some (.ifCond .ne 29, 70, 96, 0, 0), none, none, some (.aload 7, 72, 0, 0, 0), none, some (.invokevirtual 106, 75, 18, 1, 5), none, none, some (.ifCond .ne 21, 78, 96, 0, 0), none, none, some (.iload 8, 80, 0, 0, 0), none, some (.ifCond .eq 23, 83, 103, 0, 0), none, none, some (.aload 6, 85, 0, 0, 0), none, some (.getfield 98, 88, 5, 2, 0), none, none, some (.aload 7, 90, 0, 0, 0), none, some (.getfield 98, 93, 5, 2, 0), none, none, some (.if_icmp .eq 10, 96, 103, 0, 0), none, none, some (.aload_n 0, 97, 0, 0, 0), some (.bipush (-3), 99, 0, 0, 0), none, some (.invokevirtual 79, 102, 13, 1, 9), none, none, some (.ireturn, 103, 0, 0, 0), some (.iload 8, 105, 0, 0, 0), none, some (.ifCond .ne 10, 108, 115, 0, 0), none, none, some (.aload_n 0, 109, 0, 0, 0), some (.bipush (-4), 111, 0, 0, 0), none, some (.invokevirtual 79, 114, 13, 1, 9), none, none, some (.ireturn, 115, 0, 0, 0), some (.aload 6, 117, 0, 0, 0), none, some (.iload_n 3, 118, 0, 0, 0), some (.iload 5, 120, 0, 0, 0), none, some (.invokevirtual 110, 123, 23, 1, 5), none, none, some (.ifCond .eq 15, 126, 138, 0, 0), none, none, some (.aload 7, 128, 0, 0, 0), none]

set_option maxRecDepth 20000 in
noncomputable def jt_22_2 : List (Option jm_I) := [some (.iload 4, 130, 0, 0, 0), none, some (.iload 5, 132, 0, 0, 0), none, some (.invokevirtual 110, 135, 23, 1, 5), none, none, some (.ifCond .ne 10, 138, 145, 0, 0), none, none, some (.aload_n 0, 139, 0, 0, 0), some (.bipush (-2), 141, 0, 0, 0), none, some (.invokevirtual 79, 144, 13, 1, 9), none, none, some (.ireturn, 145, 0, 0, 0), some (.aload 6, 147, 0, 0, 0), none, some (.getfield 94, 150, 5, 0, 1), none, none, some (.iload_n 3, 151, 0, 0, 0), some (.aload 7, 153, 0, 0, 0), none, some (.getfield 94, 156, 5, 0, 1), none, none, some (.iload 4, 158, 0, 0, 0), none, some (.iload 5, 160, 0, 0, 0), none, some (.invokestatic 114, 163, 0, 12, 0), none, none, some (.iload 5, 165, 0, 0, 0), none, some (.ireturn, 166, 0, 0, 0)]

noncomputable def jt_22 : List (List (Option jm_I)) := [jt_22_0, jt_22_1, jt_22_2]

set_option maxRecDepth 20000 in
noncomputable def jt_23_0 : List (Option jm_I) := [some (.iload_n 1, 1, 0, 0, 0), some (.ifCond .lt 29, 4, 30, 0, 0), none, none, some (.iload_n 2, 5, 0, 0, 0), some (.ifCond .lt 25, 8, 30, 0, 0), none, none, some (.iload_n 2, 9, 0, 0, 0), some (.aload_n 0, 10, 0, 0, 0), some (.getfield 25, 13, 5, 1, 0), none, none, some (.if_icmp .gt 17, 16, 30, 0, 0), none, none, some (.iload_n 1, 17, 0, 0, 0), some (.aload_n 0, 18, 0, 0, 0), some (.getfield 25, 21, 5, 1, 0), none, none, some (.iload_n 2, 22, 0, 0, 0), some (.isub, 23, 0, 0, 0), some (.if_icmp .gt 7, 26, 30, 0, 0), none, none, some (.iconst 1, 27, 0, 0, 0), some (.goto 4, 30, 31, 0, 0), none, none, some (.iconst 0, 31, 0, 0, 0), some (.ireturn, 32, 1, 0, 0)]

noncomputable def jt_23 : List (List (Option jm_I)) := [jt_23_0]

set_option maxRecDepth 20000 in
noncomputable def jt_24_0 : List (Option jm_I) := [some (.iload_n 1, 1, 0, 0, 0), some (.invokestatic 75, 4, 12, 2, 0), none, none, some (.ifCond .eq 28, 7, 32, 0, 0), none, none, some (.aload_n 0, 8, 0, 0, 0), some (.getfield 67, 11, 9, 9, 1), none, none, some (.iload_n 1, 12, 0, 0, 0), some (.aaload, 13, 0, 0, 0), some (.invokevirtual 120, 16, 19, 1, 5), none, none, some (.ifCond .eq 16, 19, 32, 0, 0), none, none, some (.aload_n 0, 20, 0, 0, 0), some (.getfield 67, 23, 9, 9, 1), none, none, some (.iload_n 1, 24, 0, 0, 0), some (.aaload, 25, 0, 0, 0), some (.iload_n 2, 26, 0, 0, 0), some (.invokevirtual 91, 29, 20, 1, 5), none, none, some (.ifCond .ne 5, 32, 34, 0, 0), none, none, some (.lconst 0, 33, 0, 0, 0), some (.lreturn, 34, 0, 0, 0), some (.aload_n 0, 35, 0, 0, 0), some (.getfield 67, 38, 9, 9, 1), none, none, some (.iload_n 1, 39, 0, 0, 0), some (.aaload, 40, 0, 0, 0), some (.getfield 94, 43, 5, 0, 1), none, none, some (.iload_n 2, 44, 0, 0, 0), some (.laload, 45, 0, 0, 0), some (.lreturn, 46, 0, 0, 0)]

noncomputable def jt_24 : List (List (Option jm_I)) := [jt_24_0]

set_option maxRecDepth 20000 in
noncomputable def jt_25_0 : List (Option jm_I) := [some (.iload_n 1, 1, 0, 0, 0), some (.invokestatic 75, 4, 12, 2, 0), none, none, some (.ifCond .eq 15, 7, 19, 0, 0), none, none, some (.aload_n 0, 8, 0, 0, 0), some (.getfield 67, 11, 9, 9, 1), none, none, some (.iload_n 1, 12, 0, 0, 0), some (.aaload, 13, 0, 0, 0), some (.getfield 98, 16, 5, 2, 0), none, none, some (.goto 4, 19, 20, 0, 0), none, none, some (.iconst (-1), 20, 0, 0, 0), some (.ireturn, 21, 0, 0, 0)]

noncomputable def jt_25 : List (List (Option jm_I)) := [jt_25_0]

set_option maxRecDepth 20000 in
noncomputable def jt_26_0 : List (Option jm_I) := [some (.iload_n 1, 1, 0, 0, 0), some (.invokestatic 75, 4, 12, 2, 0), none, none, some (.ifCond .eq 19, 7, 23, 0, 0), none, none, some (.iload_n 2, 8, 0, 0, 0), some (.iconst (-1), 9, 0, 0, 0), some (.if_icmp .eq 21, 12, 30, 0, 0), none, none, some (.aload_n 0, 13, 0, 0, 0), some (.getfield 22, 16, 9, 2, 1), none, none, some (.iload_n 2, 17, 0, 0, 0), some (.invokevirtual 123, 20, 27, 1, 2), none, none, some (.ifCond .ne 10, 23, 30, 0, 0), none, none, some (.aload_n 0, 24, 0, 0, 0), some (.bipush (-2), 26, 0, 0, 0), none, some (.invokevirtual 79, 29, 13, 1, 9), none, none, some (.ireturn, 30, 0, 0, 0), some (.aload_n 0, 31, 0, 0, 0), some (.getfield 67, 34, 9, 9, 1), none, none, some (.iload_n 1, 35, 0, 0, 0), some (.aaload, 36, 0, 0, 0), some (.iload_n 2, 37, 0, 0, 0), some (.iconst (-1), 38, 0, 0, 0), some (.if_icmp .ne 7, 41, 45, 0, 0), none, none, some (.iconst (-1), 42, 0, 0, 0), some (.goto 7, 45, 49, 0, 0), none, none, some (.bipush 10, 47, 0, 0, 0), none, some (.iload_n 2, 48, 0, 0, 0), some (.iadd, 49, 0, 0, 0), some (.putfield 98, 52, 5, 2, 0), none, none, some (.iconst 1, 53, 0, 0, 0), some (.ireturn, 54, 0, 0, 0)]

noncomputable def jt_26 : List (List (Option jm_I)) := [jt_26_0]

set_option maxRecDepth 20000 in
noncomputable def jt_27_0 : List (Option jm_I) := [some (.iload_n 1, 1, 0, 0, 0), some (.ifCond .lt 15, 4, 16, 0, 0), none, none, some (.iload_n 1, 5, 0, 0, 0), some (.aload_n 0, 6, 0, 0, 0), some (.getfield 18, 9, 2, 1, 0), none, none, some (.if_icmp .ge 7, 12, 16, 0, 0), none, none, some (.iconst 1, 13, 0, 0, 0), some (.goto 4, 16, 17, 0, 0), none, none, some (.iconst 0, 17, 0, 0, 0), some (.ireturn, 18, 1, 0, 0)]

noncomputable def jt_27 : List (List (Option jm_I)) := [jt_27_0]

set_option maxRecDepth 20000 in
noncomputable def jt_28_0 : List (Option jm_I) := [some (.iload_n 1, 1, 0, 0, 0), some (.invokestatic 75, 4, 12, 2, 0), none, none, some (.ifCond .eq 13, 7, 17, 0, 0), none, none, some (.iload_n 2, 8, 0, 0, 0), some (.ifCond .lt 9, 11, 17, 0, 0), none, none, some (.iload_n 2, 12, 0, 0, 0), some (.bipush 6, 14, 0, 0, 0), none, some (.if_icmp .le 10, 17, 24, 0, 0), none, none, some (.aload_n 0, 18, 0, 0, 0), some (.bipush (-2), 20, 0, 0, 0), none, some (.invokevirtual 79, 23, 13, 1, 9), none, none, some (.ireturn, 24, 0, 0, 0), some (.aload_n 0, 25, 0, 0, 0), some (.getfield 67, 28, 9, 9, 1), none, none, some (.iload_n 1, 29, 0, 0, 0), some (.aaload, 30, 0, 0, 0), some (.astore_n 3, 31, 0, 0, 0), some (.aload_n 3, 32, 0, 0, 0), some (.invokevirtual 120, 35, 19, 1, 5), none, none, some (.ifCond .eq 10, 38, 45, 0, 0), none, none, some (.aload_n 0, 39, 0, 0, 0), some (.bipush (-3), 41, 0, 0, 0), none, some (.invokevirtual 79, 44, 13, 1, 9), none, none, some (.ireturn, 45, 0, 0, 0), some (.aload_n 3, 46, 0, 0, 0), some (.getfield 98, 49, 5, 2, 0), none, none, some (.bipush 10, 51, 0, 0, 0), none, some (.isub, 52, 0, 0, 0), some (.istore 4, 54, 0, 0, 0), none, some (.aload_n 0, 55, 0, 0, 0), some (.getfield 22, 58, 9, 2, 1), none, none, some (.iload 4, 60, 0, 0, 0), none, some (.invokevirtual 123, 63, 27, 1, 2), none, none, some (.ifCond .ne 10, 66, 73, 0, 0)]

set_option maxRecDepth 20000 in
noncomputable def jt_28_1 : List (Option jm_I) := [none, none, some (.aload_n 0, 67, 0, 0, 0), some (.bipush (-4), 69, 0, 0, 0), none, some (.invokevirtual 79, 72, 13, 1, 9), none, none, some (.ireturn, 73, 0, 0, 0), some (.aload_n 0, 74, 0, 0, 0), some (.getfield 22, 77, 9, 2, 1), none, none, some (.getfield 126, 80, 2, 0, 1), none, none, some (.iload 4, 82, 0, 0, 0), none, some (.aaload, 83, 0, 0, 0), some (.getfield 130, 86, 0, 0, 0), none, none, some (.iload_n 2, 87, 0, 0, 0), some (.invokestatic 135, 90, 29, 2, 0), none, none, some (.ifCond .eq 13, 93, 103, 0, 0), none, none, some (.aload_n 0, 94, 0, 0, 0), some (.iload 4, 96, 0, 0, 0), none, some (.iload_n 2, 97, 0, 0, 0), some (.invokevirtual 138, 100, 31, 1, 9), none, none, some (.goto 9, 103, 109, 0, 0), none, none, some (.aload_n 0, 104, 0, 0, 0), some (.bipush (-3), 106, 0, 0, 0), none, some (.invokevirtual 79, 109, 13, 1, 9), none, none, some (.ireturn, 110, 0, 0, 0)]

noncomputable def jt_28 : List (List (Option jm_I)) := [jt_28_0, jt_28_1]

set_option maxRecDepth 20000 in
noncomputable def jt_29_0 : List (Option jm_I) := [some (.iload_n 1, 1, 0, 0, 0), some (.tableswitch 112 0 5 #[39, 41, 62, 67, 83, 100], 40, 0, 0, 0), none, none, none, none, none, none, none, none, none, none, none, none, none, none, none, none, none, none, none, none, none, none, none, none, none, none, none, none, none, none, none, none, none, none, none, none, none, none, some (.iconst 1, 41, 0, 0, 0), some (.ireturn, 42, 1, 0, 0), some (.iload_n 0, 43, 0, 0, 0), some (.ifCond .eq 14, 46, 57, 0, 0), none, none, some (.iload_n 0, 47, 0, 0, 0), some (.iconst 1, 48, 0, 0, 0), some (.if_icmp .eq 9, 51, 57, 0, 0), none, none, some (.iload_n 0, 52, 0, 0, 0), some (.bipush 9, 54, 0, 0, 0), none, some (.if_icmp .ne 7, 57, 61, 0, 0), none, none, some (.iconst 1, 58, 0, 0, 0), some (.goto 4, 61, 62, 0, 0), none, none, some (.iconst 0, 62, 0, 0, 0), some (.ireturn, 63, 1, 0, 0), some (.iload_n 0, 64, 0, 0, 0)]

set_option maxRecDepth 20000 in
noncomputable def jt_29_1 : List (Option jm_I) := [some (.invokestatic 198, 67, 30, 2, 0), none, none, some (.ireturn, 68, 1, 0, 0), some (.iload_n 0, 69, 0, 0, 0), some (.iconst 2, 70, 0, 0, 0), some (.if_icmp .lt 12, 73, 82, 0, 0), none, none, some (.iload_n 0, 74, 0, 0, 0), some (.iconst 4, 75, 0, 0, 0), some (.if_icmp .gt 7, 78, 82, 0, 0), none, none, some (.iconst 1, 79, 0, 0, 0), some (.goto 4, 82, 83, 0, 0), none, none, some (.iconst 0, 83, 0, 0, 0), some (.ireturn, 84, 1, 0, 0), some (.iload_n 0, 85, 0, 0, 0), some (.iconst 5, 86, 0, 0, 0), some (.if_icmp .lt 13, 89, 99, 0, 0), none, none, some (.iload_n 0, 90, 0, 0, 0), some (.bipush 8, 92, 0, 0, 0), none, some (.if_icmp .gt 7, 95, 99, 0, 0), none, none, some (.iconst 1, 96, 0, 0, 0), some (.goto 4, 99, 100, 0, 0), none, none, some (.iconst 0, 100, 0, 0, 0), some (.ireturn, 101, 1, 0, 0), some (.iload_n 0, 102, 0, 0, 0), some (.bipush 10, 104, 0, 0, 0), none, some (.if_icmp .ne 7, 107, 111, 0, 0), none, none, some (.iconst 1, 108, 0, 0, 0), some (.goto 4, 111, 112, 0, 0), none, none, some (.iconst 0, 112, 0, 0, 0), some (.ireturn, 113, 1, 0, 0), some (.iload_n 0, 114, 0, 0, 0), some (.bipush 11, 116, 0, 0, 0), none, some (.if_icmp .ne 7, 119, 123, 0, 0), none, none, some (.iconst 1, 120, 0, 0, 0), some (.goto 4, 123, 124, 0, 0), none, none, some (.iconst 0, 124, 0, 0, 0), some (.ireturn, 125, 1, 0, 0)]

noncomputable def jt_29 : List (List (Option jm_I)) := [jt_29_0, jt_29_1]

set_option maxRecDepth 20000 in
noncomputable def jt_30_0 : List (Option jm_I) := [some (.iload_n 0, 1, 0, 0, 0), some (.iconst 2, 2, 0, 0, 0), some (.if_icmp .lt 13, 5, 15, 0, 0), none, none, some (.iload_n 0, 6, 0, 0, 0), some (.bipush 8, 8, 0, 0, 0), none, some (.if_icmp .gt 7, 11, 15, 0, 0), none, none, some (.iconst 1, 12, 0, 0, 0), some (.goto 4, 15, 16, 0, 0), none, none, some (.iconst 0, 16, 0, 0, 0), some (.ireturn, 17, 1, 0, 0)]

noncomputable def jt_30 : List (List (Option jm_I)) := [jt_30_0]

set_option maxRecDepth 20000 in
noncomputable def jt_31_0 : List (Option jm_I) := [some (.aload_n 0, 1, 0, 0, 0), some (.getfield 22, 4, 9, 2, 1), none, none, some (.getfield 126, 7, 2, 0, 1), none, none, some (.iload_n 1, 8, 0, 0, 0), some (.aaload, 9, 0, 0, 0), some (.astore_n 3, 10, 0, 0, 0), some (.aload_n 0, 11, 0, 0, 0), some (.getfield 34, 14, 9, 4, 1), none, none, some (.iload_n 1, 15, 0, 0, 0), some (.invokevirtual 240, 18, 32, 1, 4), none, none, some (.getfield 244, 21, 6, 2, 0), none, none, some (.istore 4, 23, 0, 0, 0), none, some (.iload_n 2, 24, 0, 0, 0), some (.tableswitch 103 0 4 #[36, 103, 39, 52, 85], 60, 0, 0, 0), none, none, none, none, none, none, none, none, none, none, none, none, none, none, none, none, none, none, none, none, none, none, none, none, none, none, none, none, none, none, none, none, none, none, none, some (.iload 4, 62, 0, 0, 0), none, some (.ireturn, 63, 0, 0, 0), some (.bipush 100, 65, 0, 0, 0)]

set_option maxRecDepth 20000 in
noncomputable def jt_31_1 : List (Option jm_I) := [none, some (.aload_n 3, 66, 0, 0, 0), some (.getfield 211, 69, 0, 1, 0), none, none, some (.imul, 70, 0, 0, 0), some (.aload_n 3, 71, 0, 0, 0), some (.getfield 214, 74, 0, 2, 0), none, none, some (.iadd, 75, 0, 0, 0), some (.ireturn, 76, 0, 0, 0), some (.aload_n 0, 77, 0, 0, 0), some (.getfield 34, 80, 9, 4, 1), none, none, some (.aload_n 3, 81, 0, 0, 0), some (.getfield 211, 84, 0, 1, 0), none, none, some (.invokevirtual 240, 87, 32, 1, 4), none, none, some (.getfield 244, 90, 6, 2, 0), none, none, some (.aload_n 0, 91, 0, 0, 0), some (.getfield 34, 94, 9, 4, 1), none, none, some (.aload_n 3, 95, 0, 0, 0), some (.getfield 214, 98, 0, 2, 0), none, none, some (.invokevirtual 240, 101, 32, 1, 4), none, none, some (.getfield 244, 104, 6, 2, 0), none, none, some (.iadd, 105, 0, 0, 0), some (.iload 4, 107, 0, 0, 0), none, some (.isub, 108, 0, 0, 0), some (.ireturn, 109, 0, 0, 0), some (.aload_n 0, 110, 0, 0, 0), some (.getfield 34, 113, 9, 4, 1), none, none, some (.aload_n 3, 114, 0, 0, 0), some (.getfield 211, 117, 0, 1, 0), none, none, some (.invokevirtual 240, 120, 32, 1, 4), none, none, some (.getfield 244, 123, 6, 2, 0), none, none, some (.iload 4, 125, 0, 0, 0), none, some (.isub, 126, 0, 0, 0), some (.ireturn, 127, 0, 0, 0), some (.aload_n 3, 128, 0, 0, 0)]

set_option maxRecDepth 20000 in
noncomputable def jt_31_2 : List (Option jm_I) := [some (.getfield 220, 131, 0, 4, 0), none, none, some (.ireturn, 132, 0, 0, 0)]

noncomputable def jt_31 : List (List (Option jm_I)) := [jt_31_0, jt_31_1, jt_31_2]

set_option maxRecDepth 20000 in
noncomputable def jt_32_0 : List (Option jm_I) := [some (.aload_n 0, 1, 0, 0, 0), some (.getfield 37, 4, 4, 1, 1), none, none, some (.iload_n 1, 5, 0, 0, 0), some (.invokevirtual 44, 8, 27, 1, 2), none, none, some (.ifCond .ne 8, 11, 16, 0, 0), none, none, some (.aload_n 0, 12, 0, 0, 0), some (.getfield 18, 15, 4, 3, 1), none, none, some (.areturn, 16, 0, 0, 0), some (.aload_n 0, 17, 0, 0, 0), some (.getfield 37, 20, 4, 1, 1), none, none, some (.getfield 50, 23, 2, 0, 1), none, none, some (.iload_n 1, 24, 0, 0, 0), some (.aaload, 25, 0, 0, 0), some (.getfield 54, 28, 0, 10, 0), none, none, some (.aload_n 0, 29, 0, 0, 0), some (.getfield 41, 32, 4, 5, 0), none, none, some (.iconst (-1), 33, 0, 0, 0), some (.ixor, 34, 0, 0, 0), some (.iand, 35, 0, 0, 0), some (.istore_n 2, 36, 0, 0, 0), some (.iconst 0, 37, 0, 0, 0), some (.istore_n 3, 38, 0, 0, 0), some (.iload_n 3, 39, 0, 0, 0), some (.iload_n 1, 40, 0, 0, 0), some (.if_icmp .gt 22, 43, 62, 0, 0), none, none, some (.iload_n 2, 44, 0, 0, 0), some (.iload_n 3, 45, 0, 0, 0), some (.ishr, 46, 0, 0, 0), some (.iconst 1, 47, 0, 0, 0), some (.iand, 48, 0, 0, 0), some (.ifCond .eq 8, 51, 56, 0, 0), none, none, some (.aload_n 0, 52, 0, 0, 0), some (.iload_n 3, 53, 0, 0, 0), some (.invokevirtual 59, 56, 33, 1, 4), none, none, some (.iinc 3 1, 59, 0, 0, 0), none, none, some (.goto (-21), 62, 38, 0, 0), none, none, some (.aload_n 0, 63, 0, 0, 0), some (.dup, 64, 0, 0, 0)]

set_option maxRecDepth 20000 in
noncomputable def jt_32_1 : List (Option jm_I) := [some (.getfield 41, 67, 4, 5, 0), none, none, some (.iload_n 2, 68, 0, 0, 0), some (.ior, 69, 0, 0, 0), some (.putfield 41, 72, 4, 5, 0), none, none, some (.aload_n 0, 73, 0, 0, 0), some (.getfield 11, 76, 4, 2, 1), none, none, some (.iload_n 1, 77, 0, 0, 0), some (.aaload, 78, 0, 0, 0), some (.areturn, 79, 0, 0, 0)]

noncomputable def jt_32 : List (List (Option jm_I)) := [jt_32_0, jt_32_1]

set_option maxRecDepth 20000 in
noncomputable def jt_33_0 : List (Option jm_I) := [some (.aload_n 0, 1, 0, 0, 0), some (.getfield 37, 4, 4, 1, 1), none, none, some (.getfield 50, 7, 2, 0, 1), none, none, some (.iload_n 1, 8, 0, 0, 0), some (.aaload, 9, 0, 0, 0), some (.astore_n 2, 10, 0, 0, 0), some (.aload_n 0, 11, 0, 0, 0), some (.getfield 11, 14, 4, 2, 1), none, none, some (.iload_n 1, 15, 0, 0, 0), some (.aaload, 16, 0, 0, 0), some (.astore_n 3, 17, 0, 0, 0), some (.aload_n 2, 18, 0, 0, 0), some (.getfield 79, 21, 0, 0, 0), none, none, some (.ifCond .eq 11, 24, 32, 0, 0), none, none, some (.aload_n 2, 25, 0, 0, 0), some (.getfield 79, 28, 0, 0, 0), none, none, some (.iconst 1, 29, 0, 0, 0), some (.if_icmp .ne 12, 32, 41, 0, 0), none, none, some (.aload_n 0, 33, 0, 0, 0), some (.aload_n 2, 34, 0, 0, 0), some (.aload_n 3, 35, 0, 0, 0), some (.invokevirtual 82, 38, 34, 1, 4), none, none, some (.goto 140, 41, 178, 0, 0), none, none, some (.aload_n 2, 42, 0, 0, 0), some (.getfield 79, 45, 0, 0, 0), none, none, some (.bipush 9, 47, 0, 0, 0), none, some (.if_icmp .ne 18, 50, 65, 0, 0), none, none, some (.aload_n 0, 51, 0, 0, 0), some (.getfield 33, 54, 4, 0, 1), none, none, some (.aload_n 2, 55, 0, 0, 0), some (.getfield 86, 58, 0, 4, 0), none, none, some (.aload_n 3, 59, 0, 0, 0), some (.invokevirtual 89, 62, 38, 1, 8), none, none, some (.goto 116, 65, 178, 0, 0), none]

set_option maxRecDepth 20000 in
noncomputable def jt_33_1 : List (Option jm_I) := [none, some (.aload_n 2, 66, 0, 0, 0), some (.getfield 79, 69, 0, 0, 0), none, none, some (.bipush 10, 71, 0, 0, 0), none, some (.if_icmp .ne 23, 74, 94, 0, 0), none, none, some (.aload_n 0, 75, 0, 0, 0), some (.aload_n 0, 76, 0, 0, 0), some (.aload_n 2, 77, 0, 0, 0), some (.getfield 93, 80, 0, 1, 0), none, none, some (.invokevirtual 96, 83, 39, 1, 4), none, none, some (.aload_n 2, 84, 0, 0, 0), some (.getfield 86, 87, 0, 4, 0), none, none, some (.aload_n 3, 88, 0, 0, 0), some (.invokevirtual 99, 91, 40, 1, 4), none, none, some (.goto 87, 94, 178, 0, 0), none, none, some (.aload_n 2, 95, 0, 0, 0), some (.getfield 79, 98, 0, 0, 0), none, none, some (.bipush 11, 100, 0, 0, 0), none, some (.if_icmp .ne 53, 103, 153, 0, 0), none, none, some (.aload_n 0, 104, 0, 0, 0), some (.getfield 25, 107, 4, 4, 1), none, none, some (.invokevirtual 103, 110, 42, 1, 3), none, none, some (.aload_n 0, 111, 0, 0, 0), some (.aload_n 2, 112, 0, 0, 0), some (.getfield 86, 115, 0, 4, 0), none, none, some (.aload_n 0, 116, 0, 0, 0), some (.aload_n 2, 117, 0, 0, 0), some (.getfield 93, 120, 0, 1, 0), none, none, some (.invokevirtual 96, 123, 39, 1, 4), none, none, some (.aload_n 0, 124, 0, 0, 0), some (.aload_n 2, 125, 0, 0, 0), some (.getfield 106, 128, 0, 2, 0), none, none]

set_option maxRecDepth 20000 in
noncomputable def jt_33_2 : List (Option jm_I) := [some (.invokevirtual 96, 131, 39, 1, 4), none, none, some (.aload_n 0, 132, 0, 0, 0), some (.aload_n 2, 133, 0, 0, 0), some (.getfield 109, 136, 0, 3, 0), none, none, some (.invokevirtual 96, 139, 39, 1, 4), none, none, some (.invokevirtual 112, 142, 44, 1, 4), none, none, some (.aload_n 0, 143, 0, 0, 0), some (.getfield 25, 146, 4, 4, 1), none, none, some (.aload_n 3, 147, 0, 0, 0), some (.invokevirtual 116, 150, 52, 1, 3), none, none, some (.goto 28, 153, 178, 0, 0), none, none, some (.aload_n 0, 154, 0, 0, 0), some (.aload_n 2, 155, 0, 0, 0), some (.getfield 79, 158, 0, 0, 0), none, none, some (.aload_n 0, 159, 0, 0, 0), some (.aload_n 2, 160, 0, 0, 0), some (.getfield 93, 163, 0, 1, 0), none, none, some (.invokevirtual 96, 166, 39, 1, 4), none, none, some (.aload_n 0, 167, 0, 0, 0), some (.aload_n 2, 168, 0, 0, 0), some (.getfield 106, 171, 0, 2, 0), none, none, some (.invokevirtual 96, 174, 39, 1, 4), none, none, some (.aload_n 3, 175, 0, 0, 0), some (.invokevirtual 120, 178, 53, 1, 4), none, none, some (.return_, 179, 0, 0, 0)]

noncomputable def jt_33 : List (List (Option jm_I)) := [jt_33_0, jt_33_1, jt_33_2]

set_option maxRecDepth 20000 in
noncomputable def jt_34_0 : List (Option jm_I) := [some (.aload_n 2, 1, 0, 0, 0), some (.iconst 0, 2, 0, 0, 0), some (.putfield 70, 5, 6, 2, 0), none, none, some (.iconst 0, 6, 0, 0, 0), some (.istore_n 3, 7, 0, 0, 0), some (.iload_n 3, 8, 0, 0, 0), some (.aload_n 1, 9, 0, 0, 0), some (.getfield 123, 12, 0, 6, 0), none, none, some (.iadd, 13, 0, 0, 0), some (.aload_n 0, 14, 0, 0, 0), some (.getfield 33, 17, 4, 0, 1), none, none, some (.getfield 126, 20, 8, 3, 0), none, none, some (.if_icmp .gt 70, 23, 90, 0, 0), none, none, some (.iconst 0, 24, 0, 0, 0), some (.istore 4, 26, 0, 0, 0), none, some (.iload 4, 28, 0, 0, 0), none, some (.aload_n 1, 29, 0, 0, 0), some (.getfield 123, 32, 0, 6, 0), none, none, some (.if_icmp .ge 32, 35, 64, 0, 0), none, none, some (.aload_n 0, 36, 0, 0, 0), some (.iload_n 3, 37, 0, 0, 0), some (.iload 4, 39, 0, 0, 0), none, some (.iadd, 40, 0, 0, 0), some (.aload_n 1, 41, 0, 0, 0), some (.getfield 127, 44, 0, 5, 0), none, none, some (.iconst 4, 45, 0, 0, 0), some (.iload 4, 47, 0, 0, 0), none, some (.imul, 48, 0, 0, 0), some (.ishr, 49, 0, 0, 0), some (.bipush 15, 51, 0, 0, 0), none, some (.iand, 52, 0, 0, 0), some (.invokevirtual 130, 55, 35, 1, 4), none, none, some (.ifCond .eq 9, 58, 64, 0, 0), none, none, some (.iinc 4 1, 61, 0, 0, 0), none, none, some (.goto (-35), 64, 26, 0, 0), none, none]

set_option maxRecDepth 20000 in
noncomputable def jt_34_1 : List (Option jm_I) := [some (.iload 4, 66, 0, 0, 0), none, some (.aload_n 1, 67, 0, 0, 0), some (.getfield 123, 70, 0, 6, 0), none, none, some (.if_icmp .ne 14, 73, 84, 0, 0), none, none, some (.aload_n 2, 74, 0, 0, 0), some (.iload_n 3, 75, 0, 0, 0), some (.iload_n 3, 76, 0, 0, 0), some (.iload 4, 78, 0, 0, 0), none, some (.iadd, 79, 0, 0, 0), some (.iconst 1, 80, 0, 0, 0), some (.isub, 81, 0, 0, 0), some (.invokevirtual 134, 84, 37, 1, 6), none, none, some (.iinc 3 1, 87, 0, 0, 0), none, none, some (.goto (-80), 90, 7, 0, 0), none, none, some (.return_, 91, 0, 0, 0)]

noncomputable def jt_34 : List (List (Option jm_I)) := [jt_34_0, jt_34_1]

set_option maxRecDepth 20000 in
noncomputable def jt_35_0 : List (Option jm_I) := [some (.aload_n 0, 1, 0, 0, 0), some (.getfield 33, 4, 4, 0, 1), none, none, some (.getfield 73, 7, 8, 0, 1), none, none, some (.iload_n 1, 8, 0, 0, 0), some (.iaload, 9, 0, 0, 0), some (.aload_n 0, 10, 0, 0, 0), some (.getfield 29, 13, 4, 6, 0), none, none, some (.if_icmp .eq 22, 16, 35, 0, 0), none, none, some (.aload_n 0, 17, 0, 0, 0), some (.getfield 33, 20, 4, 0, 1), none, none, some (.iload_n 1, 21, 0, 0, 0), some (.invokevirtual 138, 24, 36, 1, 8), none, none, some (.iload_n 2, 25, 0, 0, 0), some (.ishr, 26, 0, 0, 0), some (.iconst 1, 27, 0, 0, 0), some (.iand, 28, 0, 0, 0), some (.ifCond .eq 7, 31, 35, 0, 0), none, none, some (.iconst 1, 32, 0, 0, 0), some (.goto 4, 35, 36, 0, 0), none, none, some (.iconst 0, 36, 0, 0, 0), some (.ireturn, 37, 1, 0, 0)]

noncomputable def jt_35 : List (List (Option jm_I)) := [jt_35_0]

set_option maxRecDepth 20000 in
noncomputable def jt_36_0 : List (Option jm_I) := [some (.aload_n 0, 1, 0, 0, 0), some (.getfield 9, 4, 8, 0, 1), none, none, some (.iload_n 1, 5, 0, 0, 0), some (.iaload, 6, 0, 0, 0), some (.istore_n 2, 7, 0, 0, 0), some (.iconst 1, 8, 0, 0, 0), some (.iload_n 2, 9, 0, 0, 0), some (.ishl, 10, 0, 0, 0), some (.aload_n 0, 11, 0, 0, 0), some (.getfield 18, 14, 8, 2, 1), none, none, some (.iload_n 2, 15, 0, 0, 0), some (.iaload, 16, 0, 0, 0), some (.ior, 17, 0, 0, 0), some (.ireturn, 18, 0, 0, 0)]

noncomputable def jt_36 : List (List (Option jm_I)) := [jt_36_0]

set_option maxRecDepth 20000 in
noncomputable def jt_37_0 : List (Option jm_I) := [some (.aload_n 0, 1, 0, 0, 0), some (.getfield 18, 4, 6, 2, 0), none, none, some (.bipush 60, 6, 0, 0, 0), none, some (.if_icmp .ge 33, 9, 39, 0, 0), none, none, some (.aload_n 0, 10, 0, 0, 0), some (.getfield 9, 13, 6, 0, 1), none, none, some (.aload_n 0, 14, 0, 0, 0), some (.getfield 18, 17, 6, 2, 0), none, none, some (.iload_n 1, 18, 0, 0, 0), some (.iastore, 19, 0, 0, 0), some (.aload_n 0, 20, 0, 0, 0), some (.getfield 15, 23, 6, 1, 1), none, none, some (.aload_n 0, 24, 0, 0, 0), some (.getfield 18, 27, 6, 2, 0), none, none, some (.iload_n 2, 28, 0, 0, 0), some (.iastore, 29, 0, 0, 0), some (.aload_n 0, 30, 0, 0, 0), some (.dup, 31, 0, 0, 0), some (.getfield 18, 34, 6, 2, 0), none, none, some (.iconst 1, 35, 0, 0, 0), some (.iadd, 36, 0, 0, 0), some (.putfield 18, 39, 6, 2, 0), none, none, some (.return_, 40, 0, 0, 0)]

noncomputable def jt_37 : List (List (Option jm_I)) := [jt_37_0]

set_option maxRecDepth 20000 in
noncomputable def jt_38_0 : List (Option jm_I) := [some (.aload_n 2, 1, 0, 0, 0), some (.iconst 0, 2, 0, 0, 0), some (.putfield 44, 5, 6, 2, 0), none, none, some (.iconst 0, 6, 0, 0, 0), some (.istore_n 3, 7, 0, 0, 0), some (.iconst 0, 8, 0, 0, 0), some (.istore 4, 10, 0, 0, 0), none, some (.iload 4, 12, 0, 0, 0), none, some (.aload_n 0, 13, 0, 0, 0), some (.getfield 31, 16, 8, 3, 0), none, none, some (.if_icmp .ge 43, 19, 59, 0, 0), none, none, some (.iload 4, 21, 0, 0, 0), none, some (.aload_n 0, 22, 0, 0, 0), some (.getfield 31, 25, 8, 3, 0), none, none, some (.iconst 1, 26, 0, 0, 0), some (.isub, 27, 0, 0, 0), some (.if_icmp .eq 14, 30, 41, 0, 0), none, none, some (.aload_n 0, 31, 0, 0, 0), some (.getfield 15, 34, 8, 1, 1), none, none, some (.iload 4, 36, 0, 0, 0), none, some (.iaload, 37, 0, 0, 0), some (.iload_n 1, 38, 0, 0, 0), some (.if_icmp .le 15, 41, 53, 0, 0), none, none, some (.aload_n 2, 42, 0, 0, 0), some (.iload_n 3, 43, 0, 0, 0), some (.iload 4, 45, 0, 0, 0), none, some (.invokevirtual 47, 48, 37, 1, 6), none, none, some (.iload 4, 50, 0, 0, 0), none, some (.iconst 1, 51, 0, 0, 0), some (.iadd, 52, 0, 0, 0), some (.istore_n 3, 53, 0, 0, 0), some (.iinc 4 1, 56, 0, 0, 0), none, none, some (.goto (-46), 59, 10, 0, 0), none, none, some (.return_, 60, 0, 0, 0)]

noncomputable def jt_38 : List (List (Option jm_I)) := [jt_38_0]

set_option maxRecDepth 20000 in
noncomputable def jt_39_0 : List (Option jm_I) := [some (.iload_n 1, 1, 0, 0, 0), some (.ifCond .lt 18, 4, 19, 0, 0), none, none, some (.iload_n 1, 5, 0, 0, 0), some (.bipush 24, 7, 0, 0, 0), none, some (.if_icmp .ge 12, 10, 19, 0, 0), none, none, some (.aload_n 0, 11, 0, 0, 0), some (.getfield 11, 14, 4, 2, 1), none, none, some (.iload_n 1, 15, 0, 0, 0), some (.aaload, 16, 0, 0, 0), some (.goto 7, 19, 23, 0, 0), none, none, some (.aload_n 0, 20, 0, 0, 0), some (.getfield 18, 23, 4, 3, 1), none, none, some (.areturn, 24, 0, 0, 0)]

noncomputable def jt_39 : List (List (Option jm_I)) := [jt_39_0]

set_option maxRecDepth 20000 in
noncomputable def jt_40_0 : List (Option jm_I) := [some (.aload_n 3, 1, 0, 0, 0), some (.iconst 0, 2, 0, 0, 0), some (.putfield 70, 5, 6, 2, 0), none, none, some (.iconst 0, 6, 0, 0, 0), some (.istore 4, 8, 0, 0, 0), none, some (.iload 4, 10, 0, 0, 0), none, some (.aload_n 1, 11, 0, 0, 0), some (.getfield 70, 14, 6, 2, 0), none, none, some (.if_icmp .ge 37, 17, 51, 0, 0), none, none, some (.aload_n 1, 18, 0, 0, 0), some (.iload 4, 20, 0, 0, 0), none, some (.invokevirtual 142, 23, 41, 1, 6), none, none, some (.iload_n 2, 24, 0, 0, 0), some (.if_icmp .gt 21, 27, 45, 0, 0), none, none, some (.aload_n 3, 28, 0, 0, 0), some (.aload_n 1, 29, 0, 0, 0), some (.getfield 145, 32, 6, 0, 1), none, none, some (.iload 4, 34, 0, 0, 0), none, some (.iaload, 35, 0, 0, 0), some (.aload_n 1, 36, 0, 0, 0), some (.getfield 148, 39, 6, 1, 1), none, none, some (.iload 4, 41, 0, 0, 0), none, some (.iaload, 42, 0, 0, 0), some (.invokevirtual 134, 45, 37, 1, 6), none, none, some (.iinc 4 1, 48, 0, 0, 0), none, none, some (.goto (-40), 51, 8, 0, 0), none, none, some (.return_, 52, 0, 0, 0)]

noncomputable def jt_40 : List (List (Option jm_I)) := [jt_40_0]

set_option maxRecDepth 20000 in
noncomputable def jt_41_0 : List (Option jm_I) := [some (.aload_n 0, 1, 0, 0, 0), some (.getfield 15, 4, 6, 1, 1), none, none, some (.iload_n 1, 5, 0, 0, 0), some (.iaload, 6, 0, 0, 0), some (.aload_n 0, 7, 0, 0, 0), some (.getfield 9, 10, 6, 0, 1), none, none, some (.iload_n 1, 11, 0, 0, 0), some (.iaload, 12, 0, 0, 0), some (.isub, 13, 0, 0, 0), some (.iconst 1, 14, 0, 0, 0), some (.iadd, 15, 0, 0, 0), some (.ireturn, 16, 0, 0, 0)]

noncomputable def jt_41 : List (List (Option jm_I)) := [jt_41_0]

set_option maxRecDepth 20000 in
noncomputable def jt_42_0 : List (Option jm_I) := [some (.aload_n 0, 1, 0, 0, 0), some (.getfield 9, 4, 3, 0, 1), none, none, some (.bipush 60, 6, 0, 0, 0), none, some (.invokestatic 15, 9, 43, 2, 0), none, none, some (.return_, 10, 0, 0, 0)]

noncomputable def jt_42 : List (List (Option jm_I)) := [jt_42_0]

set_option maxRecDepth 20000 in
noncomputable def jt_43_0 : List (Option jm_I) := [some (.iconst 0, 1, 0, 0, 0), some (.istore_n 2, 2, 0, 0, 0), some (.aload_n 0, 3, 0, 0, 0), some (.arraylength, 4, 0, 0, 0), some (.istore_n 3, 5, 0, 0, 0), some (.iload_n 2, 6, 0, 0, 0), some (.iload_n 3, 7, 0, 0, 0), some (.if_icmp .ge 13, 10, 20, 0, 0), none, none, some (.aload_n 0, 11, 0, 0, 0), some (.iload_n 2, 12, 0, 0, 0), some (.iload_n 1, 13, 0, 0, 0), some (.iastore, 14, 0, 0, 0), some (.iinc 2 1, 17, 0, 0, 0), none, none, some (.goto (-12), 20, 5, 0, 0), none, none, some (.return_, 21, 0, 0, 0)]

noncomputable def jt_43 : List (List (Option jm_I)) := [jt_43_0]

set_option maxRecDepth 20000 in
noncomputable def jt_44_0 : List (Option jm_I) := [some (.iconst 0, 1, 0, 0, 0), some (.istore 5, 3, 0, 0, 0), none, some (.iconst 0, 4, 0, 0, 0), some (.istore 6, 6, 0, 0, 0), none, some (.iconst 0, 7, 0, 0, 0), some (.istore 7, 9, 0, 0, 0), none, some (.iconst 0, 10, 0, 0, 0), some (.istore 8, 12, 0, 0, 0), none, some (.iload 8, 14, 0, 0, 0), none, some (.aload_n 0, 15, 0, 0, 0), some (.getfield 33, 18, 4, 0, 1), none, none, some (.getfield 126, 21, 8, 3, 0), none, none, some (.if_icmp .ge 75, 24, 96, 0, 0), none, none, some (.aload_n 2, 25, 0, 0, 0), some (.iload 5, 27, 0, 0, 0), none, some (.iload 8, 29, 0, 0, 0), none, some (.i2l, 30, 0, 0, 0), some (.invokevirtual 158, 33, 45, 1, 6), none, none, some (.istore 5, 35, 0, 0, 0), none, some (.aload_n 3, 36, 0, 0, 0), some (.iload 6, 38, 0, 0, 0), none, some (.iload 8, 40, 0, 0, 0), none, some (.i2l, 41, 0, 0, 0), some (.invokevirtual 158, 44, 45, 1, 6), none, none, some (.istore 6, 46, 0, 0, 0), none, some (.aload 4, 48, 0, 0, 0), none, some (.iload 7, 50, 0, 0, 0), none, some (.iload 8, 52, 0, 0, 0), none, some (.i2l, 53, 0, 0, 0), some (.invokevirtual 158, 56, 45, 1, 6), none, none, some (.istore 7, 58, 0, 0, 0), none, some (.aload_n 0, 59, 0, 0, 0), some (.getfield 25, 62, 4, 4, 1), none, none, some (.iload 8, 64, 0, 0, 0), none]

set_option maxRecDepth 20000 in
noncomputable def jt_44_1 : List (Option jm_I) := [some (.iload_n 1, 65, 0, 0, 0), some (.aload_n 2, 66, 0, 0, 0), some (.iload 5, 68, 0, 0, 0), none, some (.invokevirtual 162, 71, 46, 1, 6), none, none, some (.aload_n 3, 72, 0, 0, 0), some (.iload 6, 74, 0, 0, 0), none, some (.invokevirtual 162, 77, 46, 1, 6), none, none, some (.aload 4, 79, 0, 0, 0), none, some (.iload 7, 81, 0, 0, 0), none, some (.invokevirtual 162, 84, 46, 1, 6), none, none, some (.invokestatic 165, 87, 48, 2, 0), none, none, some (.invokevirtual 169, 90, 51, 1, 3), none, none, some (.iinc 8 1, 93, 0, 0, 0), none, none, some (.goto (-81), 96, 12, 0, 0), none, none, some (.return_, 97, 0, 0, 0)]

noncomputable def jt_44 : List (List (Option jm_I)) := [jt_44_0, jt_44_1]

set_option maxRecDepth 20000 in
noncomputable def jt_45_0 : List (Option jm_I) := [some (.iload_n 1, 1, 0, 0, 0), some (.istore 4, 3, 0, 0, 0), none, some (.iload 4, 5, 0, 0, 0), none, some (.aload_n 0, 6, 0, 0, 0), some (.getfield 18, 9, 6, 2, 0), none, none, some (.if_icmp .ge 22, 12, 31, 0, 0), none, none, some (.aload_n 0, 13, 0, 0, 0), some (.getfield 9, 16, 6, 0, 1), none, none, some (.iload 4, 18, 0, 0, 0), none, some (.iaload, 19, 0, 0, 0), some (.i2l, 20, 0, 0, 0), some (.lload_n 2, 21, 0, 0, 0), some (.lcmp, 22, 0, 0, 0), some (.ifCond .ge 9, 25, 31, 0, 0), none, none, some (.iinc 4 1, 28, 0, 0, 0), none, none, some (.goto (-25), 31, 3, 0, 0), none, none, some (.iload 4, 33, 0, 0, 0), none, some (.ireturn, 34, 0, 0, 0)]

noncomputable def jt_45 : List (List (Option jm_I)) := [jt_45_0]

set_option maxRecDepth 20000 in
noncomputable def jt_46_0 : List (Option jm_I) := [some (.aload_n 0, 1, 0, 0, 0), some (.iload_n 1, 2, 0, 0, 0), some (.invokevirtual 28, 5, 47, 1, 6), none, none, some (.ifCond .eq 12, 8, 17, 0, 0), none, none, some (.aload_n 0, 9, 0, 0, 0), some (.getfield 15, 12, 6, 1, 1), none, none, some (.iload_n 1, 13, 0, 0, 0), some (.iaload, 14, 0, 0, 0), some (.goto 5, 17, 19, 0, 0), none, none, some (.bipush 60, 19, 0, 0, 0), none, some (.ireturn, 20, 0, 0, 0)]

noncomputable def jt_46 : List (List (Option jm_I)) := [jt_46_0]

set_option maxRecDepth 20000 in
noncomputable def jt_47_0 : List (Option jm_I) := [some (.iload_n 1, 1, 0, 0, 0), some (.ifCond .lt 15, 4, 16, 0, 0), none, none, some (.iload_n 1, 5, 0, 0, 0), some (.aload_n 0, 6, 0, 0, 0), some (.getfield 18, 9, 6, 2, 0), none, none, some (.if_icmp .ge 7, 12, 16, 0, 0), none, none, some (.iconst 1, 13, 0, 0, 0), some (.goto 4, 16, 17, 0, 0), none, none, some (.iconst 0, 17, 0, 0, 0), some (.ireturn, 18, 1, 0, 0)]

noncomputable def jt_47 : List (List (Option jm_I)) := [jt_47_0]

set_option maxRecDepth 20000 in
noncomputable def jt_48_0 : List (Option jm_I) := [some (.iload_n 1, 1, 0, 0, 0), some (.iload_n 2, 2, 0, 0, 0), some (.iload_n 3, 3, 0, 0, 0), some (.invokestatic 172, 6, 0, 14, 0), none, none, some (.invokestatic 172, 9, 0, 14, 0), none, none, some (.istore 4, 11, 0, 0, 0), none, some (.iload_n 1, 12, 0, 0, 0), some (.iload_n 2, 13, 0, 0, 0), some (.iload_n 3, 14, 0, 0, 0), some (.invokestatic 178, 17, 0, 13, 0), none, none, some (.invokestatic 178, 20, 0, 13, 0), none, none, some (.istore 5, 22, 0, 0, 0), none, some (.iload_n 0, 23, 0, 0, 0), some (.iconst 1, 24, 0, 0, 0), some (.if_icmp .ne 8, 27, 32, 0, 0), none, none, some (.iload 4, 29, 0, 0, 0), none, some (.goto 24, 32, 53, 0, 0), none, none, some (.iload_n 0, 33, 0, 0, 0), some (.iconst 3, 34, 0, 0, 0), some (.if_icmp .ne 8, 37, 42, 0, 0), none, none, some (.iload 5, 39, 0, 0, 0), none, some (.goto 14, 42, 53, 0, 0), none, none, some (.iload_n 1, 43, 0, 0, 0), some (.iload_n 2, 44, 0, 0, 0), some (.iadd, 45, 0, 0, 0), some (.iload_n 3, 46, 0, 0, 0), some (.iadd, 47, 0, 0, 0), some (.iload 4, 49, 0, 0, 0), none, some (.isub, 50, 0, 0, 0), some (.iload 5, 52, 0, 0, 0), none, some (.isub, 53, 0, 0, 0), some (.ireturn, 54, 0, 0, 0)]

noncomputable def jt_48 : List (List (Option jm_I)) := [jt_48_0]

set_option maxRecDepth 20000 in
noncomputable def jt_49_0 : List (Option jm_I) := [some (.iload_n 0, 1, 0, 0, 0), some (.iload_n 1, 2, 0, 0, 0), some (.if_icmp .gt 7, 5, 9, 0, 0), none, none, some (.iload_n 0, 6, 0, 0, 0), some (.goto 4, 9, 10, 0, 0), none, none, some (.iload_n 1, 10, 0, 0, 0), some (.ireturn, 11, 0, 0, 0)]

noncomputable def jt_49 : List (List (Option jm_I)) := [jt_49_0]

set_option maxRecDepth 20000 in
noncomputable def jt_50_0 : List (Option jm_I) := [some (.iload_n 0, 1, 0, 0, 0), some (.iload_n 1, 2, 0, 0, 0), some (.if_icmp .lt 7, 5, 9, 0, 0), none, none, some (.iload_n 0, 6, 0, 0, 0), some (.goto 4, 9, 10, 0, 0), none, none, some (.iload_n 1, 10, 0, 0, 0), some (.ireturn, 11, 0, 0, 0)]

noncomputable def jt_50 : List (List (Option jm_I)) := [jt_50_0]

set_option maxRecDepth 20000 in
noncomputable def jt_51_0 : List (Option jm_I) := [some (.iload_n 1, 1, 0, 0, 0), some (.ifCond .lt 25, 4, 26, 0, 0), none, none, some (.iload_n 1, 5, 0, 0, 0), some (.bipush 60, 7, 0, 0, 0), none, some (.if_icmp .ge 19, 10, 26, 0, 0), none, none, some (.aload_n 0, 11, 0, 0, 0), some (.getfield 9, 14, 3, 0, 1), none, none, some (.iload_n 1, 15, 0, 0, 0), some (.aload_n 0, 16, 0, 0, 0), some (.getfield 9, 19, 3, 0, 1), none, none, some (.iload_n 1, 20, 0, 0, 0), some (.iaload, 21, 0, 0, 0), some (.iload_n 2, 22, 0, 0, 0), some (.invokestatic 21, 25, 0, 14, 0), none, none, some (.iastore, 26, 0, 0, 0), some (.return_, 27, 0, 0, 0)]

noncomputable def jt_51 : List (List (Option jm_I)) := [jt_51_0]

set_option maxRecDepth 20000 in
noncomputable def jt_52_0 : List (Option jm_I) := [some (.bipush 60, 2, 0, 0, 0), none, some (.istore_n 2, 3, 0, 0, 0), some (.bipush 59, 5, 0, 0, 0), none, some (.istore_n 3, 6, 0, 0, 0), some (.iload_n 3, 7, 0, 0, 0), some (.ifCond .lt 37, 10, 44, 0, 0), none, none, some (.aload_n 0, 11, 0, 0, 0), some (.getfield 9, 14, 3, 0, 1), none, none, some (.iload_n 3, 15, 0, 0, 0), some (.iaload, 16, 0, 0, 0), some (.iload_n 2, 17, 0, 0, 0), some (.if_icmp .ge 13, 20, 30, 0, 0), none, none, some (.aload_n 0, 21, 0, 0, 0), some (.getfield 9, 24, 3, 0, 1), none, none, some (.iload_n 3, 25, 0, 0, 0), some (.iaload, 26, 0, 0, 0), some (.istore_n 2, 27, 0, 0, 0), some (.goto 11, 30, 38, 0, 0), none, none, some (.aload_n 0, 31, 0, 0, 0), some (.getfield 9, 34, 3, 0, 1), none, none, some (.iload_n 3, 35, 0, 0, 0), some (.bipush 60, 37, 0, 0, 0), none, some (.iastore, 38, 0, 0, 0), some (.iinc 3 (-1), 41, 0, 0, 0), none, none, some (.goto (-35), 44, 6, 0, 0), none, none, some (.aload_n 1, 45, 0, 0, 0), some (.iconst 0, 46, 0, 0, 0), some (.putfield 27, 49, 6, 2, 0), none, none, some (.iconst 0, 50, 0, 0, 0), some (.istore_n 3, 51, 0, 0, 0), some (.iload_n 3, 52, 0, 0, 0), some (.bipush 60, 54, 0, 0, 0), none, some (.if_icmp .ge 31, 57, 85, 0, 0), none, none, some (.aload_n 0, 58, 0, 0, 0), some (.getfield 9, 61, 3, 0, 1), none, none, some (.iload_n 3, 62, 0, 0, 0), some (.iaload, 63, 0, 0, 0), some (.bipush 60, 65, 0, 0, 0)]

set_option maxRecDepth 20000 in
noncomputable def jt_52_1 : List (Option jm_I) := [none, some (.if_icmp .ge 14, 68, 79, 0, 0), none, none, some (.aload_n 1, 69, 0, 0, 0), some (.iload_n 3, 70, 0, 0, 0), some (.aload_n 0, 71, 0, 0, 0), some (.getfield 9, 74, 3, 0, 1), none, none, some (.iload_n 3, 75, 0, 0, 0), some (.iaload, 76, 0, 0, 0), some (.invokevirtual 33, 79, 37, 1, 6), none, none, some (.iinc 3 1, 82, 0, 0, 0), none, none, some (.goto (-31), 85, 51, 0, 0), none, none, some (.return_, 86, 0, 0, 0)]

noncomputable def jt_52 : List (List (Option jm_I)) := [jt_52_0, jt_52_1]

set_option maxRecDepth 20000 in
noncomputable def jt_53_0 : List (Option jm_I) := [some (.iload_n 1, 1, 0, 0, 0), some (.iconst 5, 2, 0, 0, 0), some (.if_icmp .lt 13, 5, 15, 0, 0), none, none, some (.aload_n 0, 6, 0, 0, 0), some (.iload_n 1, 7, 0, 0, 0), some (.aload_n 2, 8, 0, 0, 0), some (.aload_n 3, 9, 0, 0, 0), some (.aload 4, 11, 0, 0, 0), none, some (.invokevirtual 151, 14, 54, 1, 4), none, none, some (.return_, 15, 0, 0, 0), some (.aload_n 0, 16, 0, 0, 0), some (.getfield 25, 19, 4, 4, 1), none, none, some (.invokevirtual 103, 22, 42, 1, 3), none, none, some (.iload_n 1, 23, 0, 0, 0), some (.iconst 4, 24, 0, 0, 0), some (.if_icmp .ne 12, 27, 36, 0, 0), none, none, some (.aload_n 0, 28, 0, 0, 0), some (.aload_n 2, 29, 0, 0, 0), some (.aload_n 3, 30, 0, 0, 0), some (.invokevirtual 154, 33, 55, 1, 4), none, none, some (.goto 23, 36, 56, 0, 0), none, none, some (.aload_n 0, 37, 0, 0, 0), some (.iload_n 1, 38, 0, 0, 0), some (.iconst 2, 39, 0, 0, 0), some (.if_icmp .ne 7, 42, 46, 0, 0), none, none, some (.iconst 1, 43, 0, 0, 0), some (.goto 4, 46, 47, 0, 0), none, none, some (.iconst 2, 47, 0, 0, 0), some (.aload_n 2, 48, 0, 0, 0), some (.aload_n 3, 49, 0, 0, 0), some (.aload_n 0, 50, 0, 0, 0), some (.getfield 18, 53, 4, 3, 1), none, none, some (.invokevirtual 112, 56, 44, 1, 4), none, none, some (.aload_n 0, 57, 0, 0, 0), some (.getfield 25, 60, 4, 4, 1), none, none, some (.aload 4, 62, 0, 0, 0), none, some (.invokevirtual 116, 65, 52, 1, 3), none]

set_option maxRecDepth 20000 in
noncomputable def jt_53_1 : List (Option jm_I) := [none, some (.return_, 66, 0, 0, 0)]

noncomputable def jt_53 : List (List (Option jm_I)) := [jt_53_0, jt_53_1]

set_option maxRecDepth 20000 in
noncomputable def jt_54_0 : List (Option jm_I) := [some (.iload_n 1, 1, 0, 0, 0), some (.iconst 5, 2, 0, 0, 0), some (.if_icmp .eq 9, 5, 11, 0, 0), none, none, some (.iload_n 1, 6, 0, 0, 0), some (.bipush 6, 8, 0, 0, 0), none, some (.if_icmp .ne 7, 11, 15, 0, 0), none, none, some (.iconst 1, 12, 0, 0, 0), some (.goto 4, 15, 16, 0, 0), none, none, some (.iconst 0, 16, 0, 0, 0), some (.istore 5, 18, 0, 0, 0), none, some (.iload_n 1, 19, 0, 0, 0), some (.iconst 5, 20, 0, 0, 0), some (.if_icmp .eq 9, 23, 29, 0, 0), none, none, some (.iload_n 1, 24, 0, 0, 0), some (.bipush 7, 26, 0, 0, 0), none, some (.if_icmp .ne 7, 29, 33, 0, 0), none, none, some (.iconst 1, 30, 0, 0, 0), some (.goto 4, 33, 34, 0, 0), none, none, some (.iconst 0, 34, 0, 0, 0), some (.istore 6, 36, 0, 0, 0), none, some (.aload_n 2, 37, 0, 0, 0), some (.getfield 70, 40, 6, 2, 0), none, none, some (.istore 7, 42, 0, 0, 0), none, some (.iconst 0, 43, 0, 0, 0), some (.istore 8, 45, 0, 0, 0), none, some (.aload 4, 47, 0, 0, 0), none, some (.iconst 0, 48, 0, 0, 0), some (.putfield 70, 51, 6, 2, 0), none, none, some (.iconst 0, 52, 0, 0, 0), some (.istore 9, 54, 0, 0, 0), none, some (.iload 9, 56, 0, 0, 0), none, some (.iload 7, 58, 0, 0, 0), none, some (.if_icmp .ge 116, 61, 174, 0, 0), none, none, some (.aload_n 2, 62, 0, 0, 0), some (.getfield 145, 65, 6, 0, 1), none]

set_option maxRecDepth 20000 in
noncomputable def jt_54_1 : List (Option jm_I) := [none, some (.iload 9, 67, 0, 0, 0), none, some (.iaload, 68, 0, 0, 0), some (.istore 10, 70, 0, 0, 0), none, some (.aload_n 2, 71, 0, 0, 0), some (.getfield 148, 74, 6, 1, 1), none, none, some (.iload 9, 76, 0, 0, 0), none, some (.iaload, 77, 0, 0, 0), some (.istore 11, 79, 0, 0, 0), none, some (.aload_n 3, 80, 0, 0, 0), some (.iload 8, 82, 0, 0, 0), none, some (.iload 5, 84, 0, 0, 0), none, some (.ifCond .eq 11, 87, 95, 0, 0), none, none, some (.iload 10, 89, 0, 0, 0), none, some (.iconst 1, 90, 0, 0, 0), some (.iadd, 91, 0, 0, 0), some (.i2l, 92, 0, 0, 0), some (.goto 6, 95, 98, 0, 0), none, none, some (.iload 10, 97, 0, 0, 0), none, some (.i2l, 98, 0, 0, 0), some (.invokevirtual 158, 101, 45, 1, 6), none, none, some (.istore 8, 103, 0, 0, 0), none, some (.iload 5, 105, 0, 0, 0), none, some (.ifCond .eq 29, 108, 134, 0, 0), none, none, some (.iload 8, 110, 0, 0, 0), none, some (.ifCond .le 20, 113, 130, 0, 0), none, none, some (.aload_n 3, 114, 0, 0, 0), some (.iload 8, 116, 0, 0, 0), none, some (.iconst 1, 117, 0, 0, 0), some (.isub, 118, 0, 0, 0), some (.invokevirtual 162, 121, 46, 1, 6), none, none, some (.iload 11, 123, 0, 0, 0), none, some (.if_icmp .lt 7, 126, 130, 0, 0), none, none, some (.iconst 1, 127, 0, 0, 0), some (.goto 23, 130, 150, 0, 0)]

set_option maxRecDepth 20000 in
noncomputable def jt_54_2 : List (Option jm_I) := [none, none, some (.iconst 0, 131, 0, 0, 0), some (.goto 19, 134, 150, 0, 0), none, none, some (.aload_n 3, 135, 0, 0, 0), some (.iload 8, 137, 0, 0, 0), none, some (.invokevirtual 162, 140, 46, 1, 6), none, none, some (.iload 11, 142, 0, 0, 0), none, some (.if_icmp .gt 7, 145, 149, 0, 0), none, none, some (.iconst 1, 146, 0, 0, 0), some (.goto 4, 149, 150, 0, 0), none, none, some (.iconst 0, 150, 0, 0, 0), some (.istore 12, 152, 0, 0, 0), none, some (.iload 12, 154, 0, 0, 0), none, some (.iload 6, 156, 0, 0, 0), none, some (.if_icmp .ne 12, 159, 168, 0, 0), none, none, some (.aload 4, 161, 0, 0, 0), none, some (.iload 10, 163, 0, 0, 0), none, some (.iload 11, 165, 0, 0, 0), none, some (.invokevirtual 134, 168, 37, 1, 6), none, none, some (.iinc 9 1, 171, 0, 0, 0), none, none, some (.goto (-117), 174, 54, 0, 0), none, none, some (.return_, 175, 0, 0, 0)]

noncomputable def jt_54 : List (List (Option jm_I)) := [jt_54_0, jt_54_1, jt_54_2]

set_option maxRecDepth 20000 in
noncomputable def jt_55_0 : List (Option jm_I) := [some (.iconst 0, 1, 0, 0, 0), some (.istore_n 3, 2, 0, 0, 0), some (.iconst 0, 3, 0, 0, 0), some (.istore 4, 5, 0, 0, 0), none, some (.iload 4, 7, 0, 0, 0), none, some (.aload_n 1, 8, 0, 0, 0), some (.getfield 70, 11, 6, 2, 0), none, none, some (.if_icmp .ge 44, 14, 55, 0, 0), none, none, some (.aload_n 2, 15, 0, 0, 0), some (.iload_n 3, 16, 0, 0, 0), some (.aload_n 1, 17, 0, 0, 0), some (.getfield 148, 20, 6, 1, 1), none, none, some (.iload 4, 22, 0, 0, 0), none, some (.iaload, 23, 0, 0, 0), some (.iconst 1, 24, 0, 0, 0), some (.iadd, 25, 0, 0, 0), some (.i2l, 26, 0, 0, 0), some (.invokevirtual 158, 29, 45, 1, 6), none, none, some (.istore_n 3, 30, 0, 0, 0), some (.aload_n 0, 31, 0, 0, 0), some (.getfield 25, 34, 4, 4, 1), none, none, some (.aload_n 1, 35, 0, 0, 0), some (.getfield 145, 38, 6, 0, 1), none, none, some (.iload 4, 40, 0, 0, 0), none, some (.iaload, 41, 0, 0, 0), some (.aload_n 2, 42, 0, 0, 0), some (.iload_n 3, 43, 0, 0, 0), some (.invokevirtual 162, 46, 46, 1, 6), none, none, some (.invokevirtual 169, 49, 51, 1, 3), none, none, some (.iinc 4 1, 52, 0, 0, 0), none, none, some (.goto (-47), 55, 5, 0, 0), none, none, some (.return_, 56, 0, 0, 0)]

noncomputable def jt_55 : List (List (Option jm_I)) := [jt_55_0]

set_option maxRecDepth 20000 in
noncomputable def jt_56_0 : List (Option jm_I) := [some (.iload_n 1, 1, 0, 0, 0), some (.invokestatic 141, 4, 57, 2, 0), none, none, some (.ifCond .ne 10, 7, 14, 0, 0), none, none, some (.aload_n 0, 8, 0, 0, 0), some (.bipush (-2), 10, 0, 0, 0), none, some (.invokevirtual 79, 13, 13, 1, 9), none, none, some (.ireturn, 14, 0, 0, 0), some (.aload_n 0, 15, 0, 0, 0), some (.getfield 10, 18, 9, 0, 1), none, none, some (.getfield 144, 21, 8, 3, 0), none, none, some (.bipush 60, 23, 0, 0, 0), none, some (.if_icmp .lt 10, 26, 33, 0, 0), none, none, some (.aload_n 0, 27, 0, 0, 0), some (.bipush (-6), 29, 0, 0, 0), none, some (.invokevirtual 79, 32, 13, 1, 9), none, none, some (.ireturn, 33, 0, 0, 0), some (.aload_n 0, 34, 0, 0, 0), some (.getfield 10, 37, 9, 0, 1), none, none, some (.iload_n 1, 38, 0, 0, 0), some (.invokevirtual 147, 41, 58, 1, 8), none, none, some (.aload_n 0, 42, 0, 0, 0), some (.getfield 34, 45, 9, 4, 1), none, none, some (.invokevirtual 151, 48, 59, 1, 4), none, none, some (.aload_n 0, 49, 0, 0, 0), some (.getfield 10, 52, 9, 0, 1), none, none, some (.getfield 144, 55, 8, 3, 0), none, none, some (.iconst 1, 56, 0, 0, 0), some (.isub, 57, 0, 0, 0), some (.ireturn, 58, 0, 0, 0)]

noncomputable def jt_56 : List (List (Option jm_I)) := [jt_56_0]

set_option maxRecDepth 20000 in
noncomputable def jt_57_0 : List (Option jm_I) := [some (.iload_n 0, 1, 0, 0, 0), some (.ifCond .lt 13, 4, 14, 0, 0), none, none, some (.iload_n 0, 5, 0, 0, 0), some (.bipush 16, 7, 0, 0, 0), none, some (.if_icmp .ge 7, 10, 14, 0, 0), none, none, some (.iconst 1, 11, 0, 0, 0), some (.goto 4, 14, 15, 0, 0), none, none, some (.iconst 0, 15, 0, 0, 0), some (.ireturn, 16, 1, 0, 0)]

noncomputable def jt_57 : List (List (Option jm_I)) := [jt_57_0]

set_option maxRecDepth 20000 in
noncomputable def jt_58_0 : List (Option jm_I) := [some (.aload_n 0, 1, 0, 0, 0), some (.getfield 31, 4, 8, 3, 0), none, none, some (.bipush 60, 6, 0, 0, 0), none, some (.if_icmp .ge 33, 9, 39, 0, 0), none, none, some (.aload_n 0, 10, 0, 0, 0), some (.getfield 9, 13, 8, 0, 1), none, none, some (.aload_n 0, 14, 0, 0, 0), some (.getfield 31, 17, 8, 3, 0), none, none, some (.iload_n 1, 18, 0, 0, 0), some (.iastore, 19, 0, 0, 0), some (.aload_n 0, 20, 0, 0, 0), some (.getfield 15, 23, 8, 1, 1), none, none, some (.aload_n 0, 24, 0, 0, 0), some (.getfield 31, 27, 8, 3, 0), none, none, some (.iconst 0, 28, 0, 0, 0), some (.iastore, 29, 0, 0, 0), some (.aload_n 0, 30, 0, 0, 0), some (.dup, 31, 0, 0, 0), some (.getfield 31, 34, 8, 3, 0), none, none, some (.iconst 1, 35, 0, 0, 0), some (.iadd, 36, 0, 0, 0), some (.putfield 31, 39, 8, 3, 0), none, none, some (.return_, 40, 0, 0, 0)]

noncomputable def jt_58 : List (List (Option jm_I)) := [jt_58_0]

set_option maxRecDepth 20000 in
noncomputable def jt_59_0 : List (Option jm_I) := [some (.aload_n 0, 1, 0, 0, 0), some (.iconst 0, 2, 0, 0, 0), some (.putfield 41, 5, 4, 5, 0), none, none, some (.return_, 6, 0, 0, 0)]

noncomputable def jt_59 : List (List (Option jm_I)) := [jt_59_0]

set_option maxRecDepth 20000 in
noncomputable def jt_60_0 : List (Option jm_I) := [some (.iload_n 1, 1, 0, 0, 0), some (.iconst 1, 2, 0, 0, 0), some (.if_icmp .eq 15, 5, 17, 0, 0), none, none, some (.iload_n 1, 6, 0, 0, 0), some (.iconst 2, 7, 0, 0, 0), some (.if_icmp .eq 10, 10, 17, 0, 0), none, none, some (.aload_n 0, 11, 0, 0, 0), some (.bipush (-2), 13, 0, 0, 0), none, some (.invokevirtual 79, 16, 13, 1, 9), none, none, some (.ireturn, 17, 0, 0, 0), some (.aload_n 0, 18, 0, 0, 0), some (.getfield 10, 21, 9, 0, 1), none, none, some (.invokevirtual 154, 24, 61, 1, 8), none, none, some (.istore_n 2, 25, 0, 0, 0), some (.iload_n 2, 26, 0, 0, 0), some (.iload_n 1, 27, 0, 0, 0), some (.if_icmp .lt 10, 30, 37, 0, 0), none, none, some (.aload_n 0, 31, 0, 0, 0), some (.bipush (-5), 33, 0, 0, 0), none, some (.invokevirtual 79, 36, 13, 1, 9), none, none, some (.ireturn, 37, 0, 0, 0), some (.aload_n 0, 38, 0, 0, 0), some (.getfield 10, 41, 9, 0, 1), none, none, some (.iload_n 1, 42, 0, 0, 0), some (.invokevirtual 158, 45, 62, 1, 8), none, none, some (.aload_n 0, 46, 0, 0, 0), some (.getfield 34, 49, 9, 4, 1), none, none, some (.invokevirtual 151, 52, 59, 1, 4), none, none, some (.iload_n 2, 53, 0, 0, 0), some (.ireturn, 54, 0, 0, 0)]

noncomputable def jt_60 : List (List (Option jm_I)) := [jt_60_0]

set_option maxRecDepth 20000 in
noncomputable def jt_61_0 : List (Option jm_I) := [some (.aload_n 0, 1, 0, 0, 0), some (.getfield 31, 4, 8, 3, 0), none, none, some (.ifCond .le 17, 7, 21, 0, 0), none, none, some (.aload_n 0, 8, 0, 0, 0), some (.getfield 15, 11, 8, 1, 1), none, none, some (.aload_n 0, 12, 0, 0, 0), some (.getfield 31, 15, 8, 3, 0), none, none, some (.iconst 1, 16, 0, 0, 0), some (.isub, 17, 0, 0, 0), some (.iaload, 18, 0, 0, 0), some (.goto 4, 21, 22, 0, 0), none, none, some (.iconst 2, 22, 0, 0, 0), some (.ireturn, 23, 0, 0, 0)]

noncomputable def jt_61 : List (List (Option jm_I)) := [jt_61_0]

set_option maxRecDepth 20000 in
noncomputable def jt_62_0 : List (Option jm_I) := [some (.aload_n 0, 1, 0, 0, 0), some (.getfield 31, 4, 8, 3, 0), none, none, some (.ifCond .le 15, 7, 19, 0, 0), none, none, some (.aload_n 0, 8, 0, 0, 0), some (.getfield 15, 11, 8, 1, 1), none, none, some (.aload_n 0, 12, 0, 0, 0), some (.getfield 31, 15, 8, 3, 0), none, none, some (.iconst 1, 16, 0, 0, 0), some (.isub, 17, 0, 0, 0), some (.iload_n 1, 18, 0, 0, 0), some (.iastore, 19, 0, 0, 0), some (.return_, 20, 0, 0, 0)]

noncomputable def jt_62 : List (List (Option jm_I)) := [jt_62_0]

set_option maxRecDepth 20000 in
noncomputable def jt_63_0 : List (Option jm_I) := [some (.aload_n 0, 1, 0, 0, 0), some (.getfield 10, 4, 9, 0, 1), none, none, some (.iload_n 1, 5, 0, 0, 0), some (.invokevirtual 161, 8, 64, 1, 8), none, none, some (.ifCond .eq 10, 11, 18, 0, 0), none, none, some (.iload_n 2, 12, 0, 0, 0), some (.invokestatic 141, 15, 57, 2, 0), none, none, some (.ifCond .ne 10, 18, 25, 0, 0), none, none, some (.aload_n 0, 19, 0, 0, 0), some (.bipush (-2), 21, 0, 0, 0), none, some (.invokevirtual 79, 24, 13, 1, 9), none, none, some (.ireturn, 25, 0, 0, 0), some (.aload_n 0, 26, 0, 0, 0), some (.getfield 10, 29, 9, 0, 1), none, none, some (.getfield 164, 32, 8, 0, 1), none, none, some (.iload_n 1, 33, 0, 0, 0), some (.iaload, 34, 0, 0, 0), some (.istore_n 3, 35, 0, 0, 0), some (.aload_n 0, 36, 0, 0, 0), some (.getfield 10, 39, 9, 0, 1), none, none, some (.getfield 164, 42, 8, 0, 1), none, none, some (.iload_n 1, 43, 0, 0, 0), some (.iload_n 2, 44, 0, 0, 0), some (.iastore, 45, 0, 0, 0), some (.aload_n 0, 46, 0, 0, 0), some (.getfield 34, 49, 9, 4, 1), none, none, some (.invokevirtual 151, 52, 59, 1, 4), none, none, some (.iload_n 3, 53, 0, 0, 0), some (.ireturn, 54, 0, 0, 0)]

noncomputable def jt_63 : List (List (Option jm_I)) := [jt_63_0]

set_option maxRecDepth 20000 in
noncomputable def jt_64_0 : List (Option jm_I) := [some (.iload_n 1, 1, 0, 0, 0), some (.ifCond .lt 15, 4, 16, 0, 0), none, none, some (.iload_n 1, 5, 0, 0, 0), some (.aload_n 0, 6, 0, 0, 0), some (.getfield 31, 9, 8, 3, 0), none, none, some (.if_icmp .ge 7, 12, 16, 0, 0), none, none, some (.iconst 1, 13, 0, 0, 0), some (.goto 4, 16, 17, 0, 0), none, none, some (.iconst 0, 17, 0, 0, 0), some (.ireturn, 18, 1, 0, 0)]

noncomputable def jt_64 : List (List (Option jm_I)) := [jt_64_0]

set_option maxRecDepth 20000 in
noncomputable def jt_65_0 : List (Option jm_I) := [some (.iload_n 1, 1, 0, 0, 0), some (.invokestatic 141, 4, 57, 2, 0), none, none, some (.ifCond .eq 24, 7, 28, 0, 0), none, none, some (.iload_n 2, 8, 0, 0, 0), some (.invokestatic 141, 11, 57, 2, 0), none, none, some (.ifCond .eq 17, 14, 28, 0, 0), none, none, some (.iload_n 1, 15, 0, 0, 0), some (.iload_n 2, 16, 0, 0, 0), some (.if_icmp .eq 12, 19, 28, 0, 0), none, none, some (.iload_n 3, 20, 0, 0, 0), some (.ifCond .lt 8, 23, 28, 0, 0), none, none, some (.iload_n 3, 24, 0, 0, 0), some (.iconst 1, 25, 0, 0, 0), some (.if_icmp .le 10, 28, 35, 0, 0), none, none, some (.aload_n 0, 29, 0, 0, 0), some (.bipush (-2), 31, 0, 0, 0), none, some (.invokevirtual 79, 34, 13, 1, 9), none, none, some (.ireturn, 35, 0, 0, 0), some (.aload_n 0, 36, 0, 0, 0), some (.getfield 10, 39, 9, 0, 1), none, none, some (.getfield 167, 42, 8, 2, 1), none, none, some (.iload_n 1, 43, 0, 0, 0), some (.iaload, 44, 0, 0, 0), some (.iload_n 2, 45, 0, 0, 0), some (.ishr, 46, 0, 0, 0), some (.iconst 1, 47, 0, 0, 0), some (.iand, 48, 0, 0, 0), some (.istore 4, 50, 0, 0, 0), none, some (.iload 4, 52, 0, 0, 0), none, some (.iload_n 3, 53, 0, 0, 0), some (.if_icmp .eq 25, 56, 78, 0, 0), none, none, some (.aload_n 0, 57, 0, 0, 0), some (.getfield 10, 60, 9, 0, 1), none, none, some (.getfield 167, 63, 8, 2, 1), none, none, some (.iload_n 1, 64, 0, 0, 0)]

set_option maxRecDepth 20000 in
noncomputable def jt_65_1 : List (Option jm_I) := [some (.dup2, 65, 0, 0, 0), some (.iaload, 66, 0, 0, 0), some (.iconst 1, 67, 0, 0, 0), some (.iload_n 2, 68, 0, 0, 0), some (.ishl, 69, 0, 0, 0), some (.ixor, 70, 0, 0, 0), some (.iastore, 71, 0, 0, 0), some (.aload_n 0, 72, 0, 0, 0), some (.getfield 34, 75, 9, 4, 1), none, none, some (.invokevirtual 151, 78, 59, 1, 4), none, none, some (.iload 4, 80, 0, 0, 0), none, some (.ireturn, 81, 0, 0, 0)]

noncomputable def jt_65 : List (List (Option jm_I)) := [jt_65_0, jt_65_1]

set_option maxRecDepth 20000 in
noncomputable def jt_66_0 : List (Option jm_I) := [some (.iload_n 1, 1, 0, 0, 0), some (.ifCond .lt 10, 4, 11, 0, 0), none, none, some (.iload_n 1, 5, 0, 0, 0), some (.sipush 255, 8, 0, 0, 0), none, none, some (.if_icmp .le 10, 11, 18, 0, 0), none, none, some (.aload_n 0, 12, 0, 0, 0), some (.bipush (-2), 14, 0, 0, 0), none, some (.invokevirtual 79, 17, 13, 1, 9), none, none, some (.ireturn, 18, 0, 0, 0), some (.aload_n 0, 19, 0, 0, 0), some (.getfield 52, 22, 9, 7, 1), none, none, some (.getfield 170, 25, 7, 1, 0), none, none, some (.sipush 250, 28, 0, 0, 0), none, none, some (.if_icmp .lt 10, 31, 38, 0, 0), none, none, some (.aload_n 0, 32, 0, 0, 0), some (.bipush (-6), 34, 0, 0, 0), none, some (.invokevirtual 79, 37, 13, 1, 9), none, none, some (.ireturn, 38, 0, 0, 0), some (.aload_n 0, 39, 0, 0, 0), some (.getfield 52, 42, 9, 7, 1), none, none, some (.iload_n 1, 43, 0, 0, 0), some (.invokevirtual 171, 46, 67, 1, 7), none, none, some (.aload_n 0, 47, 0, 0, 0), some (.getfield 52, 50, 9, 7, 1), none, none, some (.getfield 170, 53, 7, 1, 0), none, none, some (.ireturn, 54, 0, 0, 0)]

noncomputable def jt_66 : List (List (Option jm_I)) := [jt_66_0]

set_option maxRecDepth 20000 in
noncomputable def jt_67_0 : List (Option jm_I) := [some (.aload_n 0, 1, 0, 0, 0), some (.getfield 15, 4, 7, 1, 0), none, none, some (.sipush 250, 7, 0, 0, 0), none, none, some (.if_icmp .ge 23, 10, 30, 0, 0), none, none, some (.aload_n 0, 11, 0, 0, 0), some (.getfield 9, 14, 7, 0, 1), none, none, some (.aload_n 0, 15, 0, 0, 0), some (.getfield 15, 18, 7, 1, 0), none, none, some (.iload_n 1, 19, 0, 0, 0), some (.iastore, 20, 0, 0, 0), some (.aload_n 0, 21, 0, 0, 0), some (.dup, 22, 0, 0, 0), some (.getfield 15, 25, 7, 1, 0), none, none, some (.iconst 1, 26, 0, 0, 0), some (.iadd, 27, 0, 0, 0), some (.putfield 15, 30, 7, 1, 0), none, none, some (.return_, 31, 0, 0, 0)]

noncomputable def jt_67 : List (List (Option jm_I)) := [jt_67_0]

set_option maxRecDepth 20000 in
noncomputable def jt_68_0 : List (Option jm_I) := [some (.aload_n 0, 1, 0, 0, 0), some (.getfield 52, 4, 9, 7, 1), none, none, some (.getfield 170, 7, 7, 1, 0), none, none, some (.istore_n 1, 8, 0, 0, 0), some (.aload_n 0, 9, 0, 0, 0), some (.getfield 52, 12, 9, 7, 1), none, none, some (.iconst 0, 13, 0, 0, 0), some (.putfield 170, 16, 7, 1, 0), none, none, some (.iload_n 1, 17, 0, 0, 0), some (.ireturn, 18, 0, 0, 0)]

noncomputable def jt_68 : List (List (Option jm_I)) := [jt_68_0]

set_option maxRecDepth 20000 in
noncomputable def jt_69_0 : List (Option jm_I) := [some (.aload_n 0, 1, 0, 0, 0), some (.getfield 52, 4, 9, 7, 1), none, none, some (.aload_n 0, 5, 0, 0, 0), some (.getfield 10, 8, 9, 0, 1), none, none, some (.invokevirtual 154, 11, 61, 1, 8), none, none, some (.invokevirtual 172, 14, 70, 1, 7), none, none, some (.istore_n 1, 15, 0, 0, 0), some (.aload_n 0, 16, 0, 0, 0), some (.getfield 52, 19, 9, 7, 1), none, none, some (.invokevirtual 175, 22, 73, 1, 7), none, none, some (.istore_n 2, 23, 0, 0, 0), some (.iload_n 1, 24, 0, 0, 0), some (.iconst (-1), 25, 0, 0, 0), some (.if_icmp .eq 17, 28, 42, 0, 0), none, none, some (.aload_n 0, 29, 0, 0, 0), some (.getfield 52, 32, 9, 7, 1), none, none, some (.iconst 0, 33, 0, 0, 0), some (.putfield 170, 36, 7, 1, 0), none, none, some (.aload_n 0, 37, 0, 0, 0), some (.iload_n 1, 38, 0, 0, 0), some (.invokevirtual 178, 41, 74, 1, 9), none, none, some (.ireturn, 42, 0, 0, 0), some (.aload_n 0, 43, 0, 0, 0), some (.getfield 10, 46, 9, 0, 1), none, none, some (.getfield 144, 49, 8, 3, 0), none, none, some (.iload_n 2, 50, 0, 0, 0), some (.iadd, 51, 0, 0, 0), some (.bipush 60, 53, 0, 0, 0), none, some (.if_icmp .le 18, 56, 71, 0, 0), none, none, some (.aload_n 0, 57, 0, 0, 0), some (.getfield 52, 60, 9, 7, 1), none, none, some (.iconst 0, 61, 0, 0, 0), some (.putfield 170, 64, 7, 1, 0), none, none]

set_option maxRecDepth 20000 in
noncomputable def jt_69_1 : List (Option jm_I) := [some (.aload_n 0, 65, 0, 0, 0), some (.bipush (-6), 67, 0, 0, 0), none, some (.invokevirtual 79, 70, 13, 1, 9), none, none, some (.ireturn, 71, 0, 0, 0), some (.aload_n 0, 72, 0, 0, 0), some (.getfield 52, 75, 9, 7, 1), none, none, some (.aload_n 0, 76, 0, 0, 0), some (.getfield 10, 79, 9, 0, 1), none, none, some (.invokevirtual 181, 82, 75, 1, 7), none, none, some (.aload_n 0, 83, 0, 0, 0), some (.getfield 52, 86, 9, 7, 1), none, none, some (.iconst 0, 87, 0, 0, 0), some (.putfield 170, 90, 7, 1, 0), none, none, some (.aload_n 0, 91, 0, 0, 0), some (.getfield 34, 94, 9, 4, 1), none, none, some (.invokevirtual 151, 97, 59, 1, 4), none, none, some (.iload_n 2, 98, 0, 0, 0), some (.ireturn, 99, 0, 0, 0)]

noncomputable def jt_69 : List (List (Option jm_I)) := [jt_69_0, jt_69_1]

set_option maxRecDepth 20000 in
noncomputable def jt_70_0 : List (Option jm_I) := [some (.iload_n 1, 1, 0, 0, 0), some (.istore_n 2, 2, 0, 0, 0), some (.iconst 1, 3, 0, 0, 0), some (.istore_n 3, 4, 0, 0, 0), some (.iconst 0, 5, 0, 0, 0), some (.istore 4, 7, 0, 0, 0), none, some (.iload 4, 9, 0, 0, 0), none, some (.aload_n 0, 10, 0, 0, 0), some (.getfield 15, 13, 7, 1, 0), none, none, some (.if_icmp .ge 64, 16, 77, 0, 0), none, none, some (.aload_n 0, 17, 0, 0, 0), some (.getfield 9, 20, 7, 0, 1), none, none, some (.iload 4, 22, 0, 0, 0), none, some (.iaload, 23, 0, 0, 0), some (.istore 5, 25, 0, 0, 0), none, some (.iload 5, 27, 0, 0, 0), none, some (.bipush 32, 29, 0, 0, 0), none, some (.if_icmp .ne 6, 32, 35, 0, 0), none, none, some (.goto 39, 35, 71, 0, 0), none, none, some (.iconst 0, 36, 0, 0, 0), some (.istore_n 3, 37, 0, 0, 0), some (.iload 5, 39, 0, 0, 0), none, some (.invokestatic 19, 42, 71, 2, 0), none, none, some (.ifCond .eq 8, 45, 50, 0, 0), none, none, some (.iconst 0, 46, 0, 0, 0), some (.istore_n 2, 47, 0, 0, 0), some (.goto 24, 50, 71, 0, 0), none, none, some (.iload 5, 52, 0, 0, 0), none, some (.invokestatic 23, 55, 72, 2, 0), none, none, some (.iload_n 2, 56, 0, 0, 0), some (.if_icmp .le 12, 59, 68, 0, 0), none, none, some (.iload 5, 61, 0, 0, 0), none, some (.invokestatic 23, 64, 72, 2, 0), none, none]

set_option maxRecDepth 20000 in
noncomputable def jt_70_1 : List (Option jm_I) := [some (.istore_n 2, 65, 0, 0, 0), some (.goto 6, 68, 71, 0, 0), none, none, some (.iload 4, 70, 0, 0, 0), none, some (.ireturn, 71, 0, 0, 0), some (.iinc 4 1, 74, 0, 0, 0), none, none, some (.goto (-67), 77, 7, 0, 0), none, none, some (.iload_n 3, 78, 0, 0, 0), some (.ifCond .eq 10, 81, 88, 0, 0), none, none, some (.aload_n 0, 82, 0, 0, 0), some (.getfield 15, 85, 7, 1, 0), none, none, some (.goto 4, 88, 89, 0, 0), none, none, some (.iconst (-1), 89, 0, 0, 0), some (.ireturn, 90, 0, 0, 0)]

noncomputable def jt_70 : List (List (Option jm_I)) := [jt_70_0, jt_70_1]

set_option maxRecDepth 20000 in
noncomputable def jt_71_0 : List (Option jm_I) := [some (.iload_n 0, 1, 0, 0, 0), some (.bipush 97, 3, 0, 0, 0), none, some (.if_icmp .lt 13, 6, 16, 0, 0), none, none, some (.iload_n 0, 7, 0, 0, 0), some (.bipush 113, 9, 0, 0, 0), none, some (.if_icmp .ge 7, 12, 16, 0, 0), none, none, some (.iconst 1, 13, 0, 0, 0), some (.goto 4, 16, 17, 0, 0), none, none, some (.iconst 0, 17, 0, 0, 0), some (.ireturn, 18, 1, 0, 0)]

noncomputable def jt_71 : List (List (Option jm_I)) := [jt_71_0]

set_option maxRecDepth 20000 in
noncomputable def jt_72_0 : List (Option jm_I) := [some (.iload_n 0, 1, 0, 0, 0), some (.bipush 46, 3, 0, 0, 0), none, some (.if_icmp .ne 7, 6, 10, 0, 0), none, none, some (.iconst 1, 7, 0, 0, 0), some (.goto 14, 10, 21, 0, 0), none, none, some (.iload_n 0, 11, 0, 0, 0), some (.bipush 47, 13, 0, 0, 0), none, some (.if_icmp .ne 7, 16, 20, 0, 0), none, none, some (.iconst 2, 17, 0, 0, 0), some (.goto 4, 20, 21, 0, 0), none, none, some (.iconst 0, 21, 0, 0, 0), some (.ireturn, 22, 0, 0, 0)]

noncomputable def jt_72 : List (List (Option jm_I)) := [jt_72_0]

set_option maxRecDepth 20000 in
noncomputable def jt_73_0 : List (Option jm_I) := [some (.iconst 0, 1, 0, 0, 0), some (.istore_n 1, 2, 0, 0, 0), some (.iconst 0, 3, 0, 0, 0), some (.istore_n 2, 4, 0, 0, 0), some (.iload_n 2, 5, 0, 0, 0), some (.aload_n 0, 6, 0, 0, 0), some (.getfield 15, 9, 7, 1, 0), none, none, some (.if_icmp .ge 29, 12, 38, 0, 0), none, none, some (.iload_n 1, 13, 0, 0, 0), some (.aload_n 0, 14, 0, 0, 0), some (.getfield 9, 17, 7, 0, 1), none, none, some (.iload_n 2, 18, 0, 0, 0), some (.iaload, 19, 0, 0, 0), some (.invokestatic 19, 22, 71, 2, 0), none, none, some (.ifCond .eq 7, 25, 29, 0, 0), none, none, some (.iconst 1, 26, 0, 0, 0), some (.goto 4, 29, 30, 0, 0), none, none, some (.iconst 0, 30, 0, 0, 0), some (.iadd, 31, 0, 0, 0), some (.istore_n 1, 32, 0, 0, 0), some (.iinc 2 1, 35, 0, 0, 0), none, none, some (.goto (-31), 38, 4, 0, 0), none, none, some (.iload_n 1, 39, 0, 0, 0), some (.ireturn, 40, 0, 0, 0)]

noncomputable def jt_73 : List (List (Option jm_I)) := [jt_73_0]

set_option maxRecDepth 20000 in
noncomputable def jt_74_0 : List (Option jm_I) := [some (.aload_n 0, 1, 0, 0, 0), some (.bipush (-2), 3, 0, 0, 0), none, some (.invokevirtual 79, 6, 13, 1, 9), none, none, some (.pop, 7, 0, 0, 0), some (.bipush (-20), 9, 0, 0, 0), none, some (.iload_n 1, 10, 0, 0, 0), some (.isub, 11, 0, 0, 0), some (.ireturn, 12, 0, 0, 0)]

noncomputable def jt_74 : List (List (Option jm_I)) := [jt_74_0]

set_option maxRecDepth 20000 in
noncomputable def jt_75_0 : List (Option jm_I) := [some (.iconst 0, 1, 0, 0, 0), some (.istore_n 2, 2, 0, 0, 0), some (.iload_n 2, 3, 0, 0, 0), some (.aload_n 0, 4, 0, 0, 0), some (.getfield 15, 7, 7, 1, 0), none, none, some (.if_icmp .ge 49, 10, 56, 0, 0), none, none, some (.aload_n 0, 11, 0, 0, 0), some (.getfield 9, 14, 7, 0, 1), none, none, some (.iload_n 2, 15, 0, 0, 0), some (.iaload, 16, 0, 0, 0), some (.istore_n 3, 17, 0, 0, 0), some (.iload_n 3, 18, 0, 0, 0), some (.invokestatic 19, 21, 71, 2, 0), none, none, some (.ifCond .eq 14, 24, 35, 0, 0), none, none, some (.aload_n 1, 25, 0, 0, 0), some (.iload_n 3, 26, 0, 0, 0), some (.bipush 97, 28, 0, 0, 0), none, some (.isub, 29, 0, 0, 0), some (.invokevirtual 27, 32, 58, 1, 8), none, none, some (.goto 18, 35, 50, 0, 0), none, none, some (.iload_n 3, 36, 0, 0, 0), some (.invokestatic 23, 39, 72, 2, 0), none, none, some (.ifCond .le 11, 42, 50, 0, 0), none, none, some (.aload_n 1, 43, 0, 0, 0), some (.iload_n 3, 44, 0, 0, 0), some (.invokestatic 23, 47, 72, 2, 0), none, none, some (.invokevirtual 33, 50, 62, 1, 8), none, none, some (.iinc 2 1, 53, 0, 0, 0), none, none, some (.goto (-51), 56, 2, 0, 0), none, none, some (.return_, 57, 0, 0, 0)]

noncomputable def jt_75 : List (List (Option jm_I)) := [jt_75_0]

set_option maxRecDepth 20000 in
noncomputable def jt_76_0 : List (Option jm_I) := [some (.aload_n 0, 1, 0, 0, 0), some (.getfield 61, 4, 9, 8, 1), none, none, some (.invokevirtual 185, 7, 77, 1, 1), none, none, some (.istore_n 1, 8, 0, 0, 0), some (.aload_n 0, 9, 0, 0, 0), some (.getfield 52, 12, 9, 7, 1), none, none, some (.iconst 0, 13, 0, 0, 0), some (.putfield 170, 16, 7, 1, 0), none, none, some (.iload_n 1, 17, 0, 0, 0), some (.iconst (-1), 18, 0, 0, 0), some (.if_icmp .eq 9, 21, 27, 0, 0), none, none, some (.aload_n 0, 22, 0, 0, 0), some (.iload_n 1, 23, 0, 0, 0), some (.invokevirtual 178, 26, 74, 1, 9), none, none, some (.ireturn, 27, 0, 0, 0), some (.aload_n 0, 28, 0, 0, 0), some (.getfield 61, 31, 9, 8, 1), none, none, some (.getfield 188, 34, 1, 9, 0), none, none, some (.bipush 24, 36, 0, 0, 0), none, some (.if_icmp .le 10, 39, 46, 0, 0), none, none, some (.aload_n 0, 40, 0, 0, 0), some (.bipush (-6), 42, 0, 0, 0), none, some (.invokevirtual 79, 45, 13, 1, 9), none, none, some (.ireturn, 46, 0, 0, 0), some (.aload_n 0, 47, 0, 0, 0), some (.getfield 22, 50, 9, 2, 1), none, none, some (.aload_n 0, 51, 0, 0, 0), some (.getfield 61, 54, 9, 8, 1), none, none, some (.getfield 188, 57, 1, 9, 0), none, none, some (.putfield 191, 60, 2, 1, 0), none, none, some (.aload_n 0, 61, 0, 0, 0), some (.getfield 22, 64, 9, 2, 1), none, none]

set_option maxRecDepth 20000 in
noncomputable def jt_76_1 : List (Option jm_I) := [some (.getfield 191, 67, 2, 1, 0), none, none, some (.iconst 1, 68, 0, 0, 0), some (.isub, 69, 0, 0, 0), some (.ireturn, 70, 0, 0, 0)]

noncomputable def jt_76 : List (List (Option jm_I)) := [jt_76_0, jt_76_1]

set_option maxRecDepth 20000 in
noncomputable def jt_77_0 : List (Option jm_I) := [some (.aload_n 0, 1, 0, 0, 0), some (.iconst 0, 2, 0, 0, 0), some (.putfield 26, 5, 1, 4, 0), none, none, some (.aload_n 0, 6, 0, 0, 0), some (.iconst 0, 7, 0, 0, 0), some (.putfield 30, 10, 1, 5, 0), none, none, some (.aload_n 0, 11, 0, 0, 0), some (.iconst 0, 12, 0, 0, 0), some (.putfield 33, 15, 1, 6, 0), none, none, some (.aload_n 0, 16, 0, 0, 0), some (.iconst (-1), 17, 0, 0, 0), some (.putfield 36, 20, 1, 7, 0), none, none, some (.aload_n 0, 21, 0, 0, 0), some (.iconst 1, 22, 0, 0, 0), some (.putfield 39, 25, 1, 8, 2), none, none, some (.aload_n 0, 26, 0, 0, 0), some (.aload_n 0, 27, 0, 0, 0), some (.getfield 22, 30, 1, 1, 1), none, none, some (.getfield 43, 33, 2, 1, 0), none, none, some (.putfield 48, 36, 1, 9, 0), none, none, some (.aload_n 0, 37, 0, 0, 0), some (.getfield 33, 40, 1, 6, 0), none, none, some (.aload_n 0, 41, 0, 0, 0), some (.getfield 18, 44, 1, 0, 1), none, none, some (.getfield 51, 47, 7, 1, 0), none, none, some (.if_icmp .ge 66, 50, 113, 0, 0), none, none, some (.aload_n 0, 51, 0, 0, 0), some (.getfield 36, 54, 1, 7, 0), none, none, some (.iconst (-1), 55, 0, 0, 0), some (.if_icmp .ne 58, 58, 113, 0, 0), none, none, some (.aload_n 0, 59, 0, 0, 0), some (.getfield 18, 62, 1, 0, 1), none, none, some (.getfield 54, 65, 7, 0, 1), none]

set_option maxRecDepth 20000 in
noncomputable def jt_77_1 : List (Option jm_I) := [none, some (.aload_n 0, 66, 0, 0, 0), some (.getfield 33, 69, 1, 6, 0), none, none, some (.iaload, 70, 0, 0, 0), some (.istore_n 1, 71, 0, 0, 0), some (.aload_n 0, 72, 0, 0, 0), some (.dup, 73, 0, 0, 0), some (.getfield 33, 76, 1, 6, 0), none, none, some (.iconst 1, 77, 0, 0, 0), some (.iadd, 78, 0, 0, 0), some (.putfield 33, 81, 1, 6, 0), none, none, some (.iload_n 1, 82, 0, 0, 0), some (.bipush 32, 84, 0, 0, 0), none, some (.if_icmp .ne 6, 87, 90, 0, 0), none, none, some (.goto (-51), 90, 36, 0, 0), none, none, some (.aload_n 0, 91, 0, 0, 0), some (.getfield 39, 94, 1, 8, 2), none, none, some (.ifCond .eq 11, 97, 105, 0, 0), none, none, some (.aload_n 0, 98, 0, 0, 0), some (.iload_n 1, 99, 0, 0, 0), some (.invokevirtual 57, 102, 78, 1, 1), none, none, some (.goto 8, 105, 110, 0, 0), none, none, some (.aload_n 0, 106, 0, 0, 0), some (.iload_n 1, 107, 0, 0, 0), some (.invokevirtual 61, 110, 86, 1, 1), none, none, some (.goto (-74), 113, 36, 0, 0), none, none, some (.aload_n 0, 114, 0, 0, 0), some (.getfield 36, 117, 1, 7, 0), none, none, some (.iconst (-1), 118, 0, 0, 0), some (.if_icmp .ne 15, 121, 133, 0, 0), none, none, some (.aload_n 0, 122, 0, 0, 0), some (.getfield 39, 125, 1, 8, 2), none, none, some (.ifCond .ne 8, 128, 133, 0, 0), none, none]

set_option maxRecDepth 20000 in
noncomputable def jt_77_2 : List (Option jm_I) := [some (.aload_n 0, 129, 0, 0, 0), some (.iconst 2, 130, 0, 0, 0), some (.invokevirtual 64, 133, 88, 1, 1), none, none, some (.aload_n 0, 134, 0, 0, 0), some (.getfield 36, 137, 1, 7, 0), none, none, some (.iconst (-1), 138, 0, 0, 0), some (.if_icmp .ne 28, 141, 166, 0, 0), none, none, some (.aload_n 0, 142, 0, 0, 0), some (.getfield 39, 145, 1, 8, 2), none, none, some (.ifCond .ne 10, 148, 155, 0, 0), none, none, some (.aload_n 0, 149, 0, 0, 0), some (.getfield 30, 152, 1, 5, 0), none, none, some (.ifCond .le 14, 155, 166, 0, 0), none, none, some (.aload_n 0, 156, 0, 0, 0), some (.aload_n 0, 157, 0, 0, 0), some (.getfield 18, 160, 1, 0, 1), none, none, some (.getfield 51, 163, 7, 1, 0), none, none, some (.putfield 36, 166, 1, 7, 0), none, none, some (.aload_n 0, 167, 0, 0, 0), some (.getfield 36, 170, 1, 7, 0), none, none, some (.ireturn, 171, 0, 0, 0)]

noncomputable def jt_77 : List (List (Option jm_I)) := [jt_77_0, jt_77_1, jt_77_2]

set_option maxRecDepth 20000 in
noncomputable def jt_78_0 : List (Option jm_I) := [some (.aload_n 0, 1, 0, 0, 0), some (.getfield 33, 4, 1, 6, 0), none, none, some (.iconst 1, 5, 0, 0, 0), some (.isub, 6, 0, 0, 0), some (.istore_n 2, 7, 0, 0, 0), some (.iload_n 1, 8, 0, 0, 0), some (.invokestatic 67, 11, 71, 2, 0), none, none, some (.ifCond .eq 16, 14, 27, 0, 0), none, none, some (.aload_n 0, 15, 0, 0, 0), some (.iconst 0, 16, 0, 0, 0), some (.iload_n 1, 17, 0, 0, 0), some (.bipush 97, 19, 0, 0, 0), none, some (.isub, 20, 0, 0, 0), some (.iconst 1, 21, 0, 0, 0), some (.invokevirtual 71, 24, 79, 1, 1), none, none, some (.goto 111, 27, 135, 0, 0), none, none, some (.iload_n 1, 28, 0, 0, 0), some (.bipush 83, 30, 0, 0, 0), none, some (.if_icmp .ne 14, 33, 44, 0, 0), none, none, some (.aload_n 0, 34, 0, 0, 0), some (.bipush 9, 36, 0, 0, 0), none, some (.iconst 0, 37, 0, 0, 0), some (.iconst 0, 38, 0, 0, 0), some (.invokevirtual 71, 41, 79, 1, 1), none, none, some (.goto 94, 44, 135, 0, 0), none, none, some (.iload_n 1, 45, 0, 0, 0), some (.bipush 80, 47, 0, 0, 0), none, some (.if_icmp .ne 14, 50, 61, 0, 0), none, none, some (.aload_n 0, 51, 0, 0, 0), some (.bipush 9, 53, 0, 0, 0), none, some (.iconst 1, 54, 0, 0, 0), some (.iconst 0, 55, 0, 0, 0), some (.invokevirtual 71, 58, 79, 1, 1), none, none, some (.goto 77, 61, 135, 0, 0), none, none, some (.iload_n 1, 62, 0, 0, 0), some (.bipush 84, 64, 0, 0, 0), none]

set_option maxRecDepth 20000 in
noncomputable def jt_78_1 : List (Option jm_I) := [some (.if_icmp .ne 14, 67, 78, 0, 0), none, none, some (.aload_n 0, 68, 0, 0, 0), some (.bipush 9, 70, 0, 0, 0), none, some (.iconst 2, 71, 0, 0, 0), some (.iconst 0, 72, 0, 0, 0), some (.invokevirtual 71, 75, 79, 1, 1), none, none, some (.goto 60, 78, 135, 0, 0), none, none, some (.iload_n 1, 79, 0, 0, 0), some (.bipush 39, 81, 0, 0, 0), none, some (.if_icmp .ne 10, 84, 91, 0, 0), none, none, some (.aload_n 0, 85, 0, 0, 0), some (.invokevirtual 75, 88, 83, 1, 1), none, none, some (.goto 47, 91, 135, 0, 0), none, none, some (.iload_n 1, 92, 0, 0, 0), some (.bipush 40, 94, 0, 0, 0), none, some (.if_icmp .ne 12, 97, 106, 0, 0), none, none, some (.aload_n 0, 98, 0, 0, 0), some (.bipush 20, 100, 0, 0, 0), none, some (.invokevirtual 78, 103, 84, 1, 1), none, none, some (.goto 32, 106, 135, 0, 0), none, none, some (.iload_n 1, 107, 0, 0, 0), some (.bipush 123, 109, 0, 0, 0), none, some (.if_icmp .ne 21, 112, 130, 0, 0), none, none, some (.aload_n 0, 113, 0, 0, 0), some (.bipush 100, 115, 0, 0, 0), none, some (.bipush 10, 117, 0, 0, 0), none, some (.aload_n 0, 118, 0, 0, 0), some (.iconst 3, 119, 0, 0, 0), some (.invokevirtual 81, 122, 85, 1, 1), none, none, some (.imul, 123, 0, 0, 0), some (.iadd, 124, 0, 0, 0), some (.invokevirtual 78, 127, 84, 1, 1), none, none, some (.goto 8, 130, 135, 0, 0)]

set_option maxRecDepth 20000 in
noncomputable def jt_78_2 : List (Option jm_I) := [none, none, some (.aload_n 0, 131, 0, 0, 0), some (.iload_n 2, 132, 0, 0, 0), some (.putfield 36, 135, 1, 7, 0), none, none, some (.return_, 136, 0, 0, 0)]

noncomputable def jt_78 : List (List (Option jm_I)) := [jt_78_0, jt_78_1, jt_78_2]

set_option maxRecDepth 20000 in
noncomputable def jt_79_0 : List (Option jm_I) := [some (.aload_n 0, 1, 0, 0, 0), some (.getfield 22, 4, 1, 1, 1), none, none, some (.aload_n 0, 5, 0, 0, 0), some (.getfield 48, 8, 1, 9, 0), none, none, some (.iload_n 1, 9, 0, 0, 0), some (.iload_n 2, 10, 0, 0, 0), some (.iload_n 3, 11, 0, 0, 0), some (.invokevirtual 117, 14, 80, 1, 2), none, none, some (.aload_n 0, 15, 0, 0, 0), some (.invokevirtual 121, 18, 82, 1, 1), none, none, some (.aload_n 0, 19, 0, 0, 0), some (.iconst 0, 20, 0, 0, 0), some (.putfield 39, 23, 1, 8, 2), none, none, some (.return_, 24, 0, 0, 0)]

noncomputable def jt_79 : List (List (Option jm_I)) := [jt_79_0]

set_option maxRecDepth 20000 in
noncomputable def jt_80_0 : List (Option jm_I) := [some (.iload_n 1, 1, 0, 0, 0), some (.ifCond .lt 9, 4, 10, 0, 0), none, none, some (.iload_n 1, 5, 0, 0, 0), some (.bipush 24, 7, 0, 0, 0), none, some (.if_icmp .lt 4, 10, 11, 0, 0), none, none, some (.return_, 11, 0, 0, 0), some (.aload_n 0, 12, 0, 0, 0), some (.getfield 11, 15, 2, 0, 1), none, none, some (.iload_n 1, 16, 0, 0, 0), some (.aaload, 17, 0, 0, 0), some (.astore 5, 19, 0, 0, 0), none, some (.aload 5, 21, 0, 0, 0), none, some (.iload_n 2, 22, 0, 0, 0), some (.iload_n 3, 23, 0, 0, 0), some (.bipush 15, 25, 0, 0, 0), none, some (.iand, 26, 0, 0, 0), some (.iload_n 1, 27, 0, 0, 0), some (.invokevirtual 26, 30, 81, 1, 0), none, none, some (.aload 5, 32, 0, 0, 0), none, some (.iload_n 3, 33, 0, 0, 0), some (.putfield 30, 36, 0, 5, 0), none, none, some (.aload 5, 38, 0, 0, 0), none, some (.iload 4, 40, 0, 0, 0), none, some (.putfield 33, 43, 0, 6, 0), none, none, some (.iconst 0, 44, 0, 0, 0), some (.istore 6, 46, 0, 0, 0), none, some (.iload 6, 48, 0, 0, 0), none, some (.iload 4, 50, 0, 0, 0), none, some (.if_icmp .ge 30, 53, 80, 0, 0), none, none, some (.aload 5, 55, 0, 0, 0), none, some (.dup, 56, 0, 0, 0), some (.getfield 36, 59, 0, 9, 0), none, none, some (.iconst 1, 60, 0, 0, 0), some (.iload_n 3, 61, 0, 0, 0), some (.iconst 4, 62, 0, 0, 0), some (.iload 6, 64, 0, 0, 0), none]

set_option maxRecDepth 20000 in
noncomputable def jt_80_1 : List (Option jm_I) := [some (.imul, 65, 0, 0, 0), some (.ishr, 66, 0, 0, 0), some (.bipush 15, 68, 0, 0, 0), none, some (.iand, 69, 0, 0, 0), some (.ishl, 70, 0, 0, 0), some (.ior, 71, 0, 0, 0), some (.putfield 36, 74, 0, 9, 0), none, none, some (.iinc 6 1, 77, 0, 0, 0), none, none, some (.goto (-31), 80, 46, 0, 0), none, none, some (.return_, 81, 0, 0, 0)]

noncomputable def jt_80 : List (List (Option jm_I)) := [jt_80_0, jt_80_1]

set_option maxRecDepth 20000 in
noncomputable def jt_81_0 : List (Option jm_I) := [some (.aload_n 0, 1, 0, 0, 0), some (.iload_n 1, 2, 0, 0, 0), some (.putfield 9, 5, 0, 0, 0), none, none, some (.aload_n 0, 6, 0, 0, 0), some (.iload_n 2, 7, 0, 0, 0), some (.putfield 15, 10, 0, 4, 0), none, none, some (.aload_n 0, 11, 0, 0, 0), some (.iconst (-1), 12, 0, 0, 0), some (.putfield 18, 15, 0, 1, 0), none, none, some (.aload_n 0, 16, 0, 0, 0), some (.iconst (-1), 17, 0, 0, 0), some (.putfield 21, 20, 0, 2, 0), none, none, some (.aload_n 0, 21, 0, 0, 0), some (.iconst (-1), 22, 0, 0, 0), some (.putfield 24, 25, 0, 3, 0), none, none, some (.aload_n 0, 26, 0, 0, 0), some (.iconst 0, 27, 0, 0, 0), some (.putfield 27, 30, 0, 5, 0), none, none, some (.aload_n 0, 31, 0, 0, 0), some (.iconst 0, 32, 0, 0, 0), some (.putfield 30, 35, 0, 6, 0), none, none, some (.aload_n 0, 36, 0, 0, 0), some (.iconst 1, 37, 0, 0, 0), some (.putfield 33, 40, 0, 7, 0), none, none, some (.aload_n 0, 41, 0, 0, 0), some (.iconst 0, 42, 0, 0, 0), some (.putfield 36, 45, 0, 8, 0), none, none, some (.aload_n 0, 46, 0, 0, 0), some (.iconst 0, 47, 0, 0, 0), some (.putfield 39, 50, 0, 9, 0), none, none, some (.aload_n 0, 51, 0, 0, 0), some (.iconst 1, 52, 0, 0, 0), some (.iload_n 3, 53, 0, 0, 0), some (.ishl, 54, 0, 0, 0), some (.putfield 42, 57, 0, 10, 0), none, none, some (.return_, 58, 0, 0, 0)]

noncomputable def jt_81 : List (List (Option jm_I)) := [jt_81_0]

set_option maxRecDepth 20000 in
noncomputable def jt_82_0 : List (Option jm_I) := [some (.aload_n 0, 1, 0, 0, 0), some (.getfield 26, 4, 1, 4, 0), none, none, some (.sipush 250, 7, 0, 0, 0), none, none, some (.if_icmp .ge 26, 10, 33, 0, 0), none, none, some (.aload_n 0, 11, 0, 0, 0), some (.getfield 9, 14, 1, 2, 1), none, none, some (.aload_n 0, 15, 0, 0, 0), some (.getfield 26, 18, 1, 4, 0), none, none, some (.aload_n 0, 19, 0, 0, 0), some (.getfield 48, 22, 1, 9, 0), none, none, some (.iastore, 23, 0, 0, 0), some (.aload_n 0, 24, 0, 0, 0), some (.dup, 25, 0, 0, 0), some (.getfield 26, 28, 1, 4, 0), none, none, some (.iconst 1, 29, 0, 0, 0), some (.iadd, 30, 0, 0, 0), some (.putfield 26, 33, 1, 4, 0), none, none, some (.aload_n 0, 34, 0, 0, 0), some (.dup, 35, 0, 0, 0), some (.getfield 48, 38, 1, 9, 0), none, none, some (.iconst 1, 39, 0, 0, 0), some (.iadd, 40, 0, 0, 0), some (.putfield 48, 43, 1, 9, 0), none, none, some (.return_, 44, 0, 0, 0)]

noncomputable def jt_82 : List (List (Option jm_I)) := [jt_82_0]

set_option maxRecDepth 20000 in
noncomputable def jt_83_0 : List (Option jm_I) := [some (.iconst 0, 1, 0, 0, 0), some (.istore_n 1, 2, 0, 0, 0), some (.iconst 0, 3, 0, 0, 0), some (.istore_n 2, 4, 0, 0, 0), some (.aload_n 0, 5, 0, 0, 0), some (.getfield 33, 8, 1, 6, 0), none, none, some (.aload_n 0, 9, 0, 0, 0), some (.getfield 18, 12, 1, 0, 1), none, none, some (.getfield 51, 15, 7, 1, 0), none, none, some (.if_icmp .ge 102, 18, 117, 0, 0), none, none, some (.aload_n 0, 19, 0, 0, 0), some (.getfield 18, 22, 1, 0, 1), none, none, some (.getfield 54, 25, 7, 0, 1), none, none, some (.aload_n 0, 26, 0, 0, 0), some (.getfield 33, 29, 1, 6, 0), none, none, some (.iaload, 30, 0, 0, 0), some (.istore_n 3, 31, 0, 0, 0), some (.iload_n 3, 32, 0, 0, 0), some (.invokestatic 67, 35, 71, 2, 0), none, none, some (.ifCond .eq 25, 38, 60, 0, 0), none, none, some (.iload_n 2, 39, 0, 0, 0), some (.iconst 4, 40, 0, 0, 0), some (.if_icmp .ge 20, 43, 60, 0, 0), none, none, some (.iload_n 1, 44, 0, 0, 0), some (.iload_n 3, 45, 0, 0, 0), some (.bipush 97, 47, 0, 0, 0), none, some (.isub, 48, 0, 0, 0), some (.iconst 4, 49, 0, 0, 0), some (.iload_n 2, 50, 0, 0, 0), some (.imul, 51, 0, 0, 0), some (.ishl, 52, 0, 0, 0), some (.ior, 53, 0, 0, 0), some (.istore_n 1, 54, 0, 0, 0), some (.iinc 2 1, 57, 0, 0, 0), none, none, some (.goto 47, 60, 104, 0, 0), none, none, some (.iload_n 3, 61, 0, 0, 0), some (.bipush 39, 63, 0, 0, 0), none, some (.if_icmp .ne 26, 66, 89, 0, 0)]

set_option maxRecDepth 20000 in
noncomputable def jt_83_1 : List (Option jm_I) := [none, none, some (.iload_n 2, 67, 0, 0, 0), some (.iconst 2, 68, 0, 0, 0), some (.if_icmp .lt 21, 71, 89, 0, 0), none, none, some (.aload_n 0, 72, 0, 0, 0), some (.dup, 73, 0, 0, 0), some (.getfield 33, 76, 1, 6, 0), none, none, some (.iconst 1, 77, 0, 0, 0), some (.iadd, 78, 0, 0, 0), some (.putfield 33, 81, 1, 6, 0), none, none, some (.aload_n 0, 82, 0, 0, 0), some (.iconst 1, 83, 0, 0, 0), some (.iload_n 1, 84, 0, 0, 0), some (.iload_n 2, 85, 0, 0, 0), some (.invokevirtual 71, 88, 79, 1, 1), none, none, some (.return_, 89, 0, 0, 0), some (.iload_n 3, 90, 0, 0, 0), some (.bipush 32, 92, 0, 0, 0), none, some (.if_icmp .eq 12, 95, 104, 0, 0), none, none, some (.aload_n 0, 96, 0, 0, 0), some (.aload_n 0, 97, 0, 0, 0), some (.getfield 33, 100, 1, 6, 0), none, none, some (.putfield 36, 103, 1, 7, 0), none, none, some (.return_, 104, 0, 0, 0), some (.aload_n 0, 105, 0, 0, 0), some (.dup, 106, 0, 0, 0), some (.getfield 33, 109, 1, 6, 0), none, none, some (.iconst 1, 110, 0, 0, 0), some (.iadd, 111, 0, 0, 0), some (.putfield 33, 114, 1, 6, 0), none, none, some (.goto (-110), 117, 4, 0, 0), none, none, some (.aload_n 0, 118, 0, 0, 0), some (.aload_n 0, 119, 0, 0, 0), some (.getfield 18, 122, 1, 0, 1), none, none, some (.getfield 51, 125, 7, 1, 0), none, none, some (.putfield 36, 128, 1, 7, 0), none, none]

set_option maxRecDepth 20000 in
noncomputable def jt_83_2 : List (Option jm_I) := [some (.return_, 129, 0, 0, 0)]

noncomputable def jt_83 : List (List (Option jm_I)) := [jt_83_0, jt_83_1, jt_83_2]

set_option maxRecDepth 20000 in
noncomputable def jt_84_0 : List (Option jm_I) := [some (.aload_n 0, 1, 0, 0, 0), some (.getfield 30, 4, 1, 5, 0), none, none, some (.sipush 250, 7, 0, 0, 0), none, none, some (.if_icmp .ge 23, 10, 30, 0, 0), none, none, some (.aload_n 0, 11, 0, 0, 0), some (.getfield 15, 14, 1, 3, 1), none, none, some (.aload_n 0, 15, 0, 0, 0), some (.getfield 30, 18, 1, 5, 0), none, none, some (.iload_n 1, 19, 0, 0, 0), some (.iastore, 20, 0, 0, 0), some (.aload_n 0, 21, 0, 0, 0), some (.dup, 22, 0, 0, 0), some (.getfield 30, 25, 1, 5, 0), none, none, some (.iconst 1, 26, 0, 0, 0), some (.iadd, 27, 0, 0, 0), some (.putfield 30, 30, 1, 5, 0), none, none, some (.return_, 31, 0, 0, 0)]

noncomputable def jt_84 : List (List (Option jm_I)) := [jt_84_0]

set_option maxRecDepth 20000 in
noncomputable def jt_85_0 : List (Option jm_I) := [some (.aload_n 0, 1, 0, 0, 0), some (.getfield 33, 4, 1, 6, 0), none, none, some (.aload_n 0, 5, 0, 0, 0), some (.getfield 18, 8, 1, 0, 1), none, none, some (.getfield 51, 11, 7, 1, 0), none, none, some (.if_icmp .ge 33, 14, 44, 0, 0), none, none, some (.aload_n 0, 15, 0, 0, 0), some (.getfield 18, 18, 1, 0, 1), none, none, some (.getfield 54, 21, 7, 0, 1), none, none, some (.aload_n 0, 22, 0, 0, 0), some (.getfield 33, 25, 1, 6, 0), none, none, some (.iaload, 26, 0, 0, 0), some (.bipush 32, 28, 0, 0, 0), none, some (.if_icmp .ne 16, 31, 44, 0, 0), none, none, some (.aload_n 0, 32, 0, 0, 0), some (.dup, 33, 0, 0, 0), some (.getfield 33, 36, 1, 6, 0), none, none, some (.iconst 1, 37, 0, 0, 0), some (.iadd, 38, 0, 0, 0), some (.putfield 33, 41, 1, 6, 0), none, none, some (.goto (-41), 44, 0, 0, 0), none, none, some (.aload_n 0, 45, 0, 0, 0), some (.getfield 33, 48, 1, 6, 0), none, none, some (.istore_n 2, 49, 0, 0, 0), some (.iconst 0, 50, 0, 0, 0), some (.istore_n 3, 51, 0, 0, 0), some (.aload_n 0, 52, 0, 0, 0), some (.getfield 33, 55, 1, 6, 0), none, none, some (.aload_n 0, 56, 0, 0, 0), some (.getfield 18, 59, 1, 0, 1), none, none, some (.getfield 51, 62, 7, 1, 0), none, none, some (.if_icmp .ge 87, 65, 149, 0, 0), none]

set_option maxRecDepth 20000 in
noncomputable def jt_85_1 : List (Option jm_I) := [none, some (.aload_n 0, 66, 0, 0, 0), some (.getfield 18, 69, 1, 0, 1), none, none, some (.getfield 54, 72, 7, 0, 1), none, none, some (.aload_n 0, 73, 0, 0, 0), some (.getfield 33, 76, 1, 6, 0), none, none, some (.iaload, 77, 0, 0, 0), some (.bipush 48, 79, 0, 0, 0), none, some (.if_icmp .lt 70, 82, 149, 0, 0), none, none, some (.aload_n 0, 83, 0, 0, 0), some (.getfield 18, 86, 1, 0, 1), none, none, some (.getfield 54, 89, 7, 0, 1), none, none, some (.aload_n 0, 90, 0, 0, 0), some (.getfield 33, 93, 1, 6, 0), none, none, some (.iaload, 94, 0, 0, 0), some (.bipush 57, 96, 0, 0, 0), none, some (.if_icmp .gt 53, 99, 149, 0, 0), none, none, some (.aload_n 0, 100, 0, 0, 0), some (.getfield 33, 103, 1, 6, 0), none, none, some (.iload_n 2, 104, 0, 0, 0), some (.isub, 105, 0, 0, 0), some (.iconst 2, 106, 0, 0, 0), some (.if_icmp .ge 26, 109, 132, 0, 0), none, none, some (.bipush 10, 111, 0, 0, 0), none, some (.iload_n 3, 112, 0, 0, 0), some (.imul, 113, 0, 0, 0), some (.aload_n 0, 114, 0, 0, 0), some (.getfield 18, 117, 1, 0, 1), none, none, some (.getfield 54, 120, 7, 0, 1), none, none, some (.aload_n 0, 121, 0, 0, 0), some (.getfield 33, 124, 1, 6, 0), none, none, some (.iaload, 125, 0, 0, 0), some (.iadd, 126, 0, 0, 0), some (.bipush 48, 128, 0, 0, 0), none]

set_option maxRecDepth 20000 in
noncomputable def jt_85_2 : List (Option jm_I) := [some (.isub, 129, 0, 0, 0), some (.goto 6, 132, 135, 0, 0), none, none, some (.iload_n 1, 133, 0, 0, 0), some (.iconst 1, 134, 0, 0, 0), some (.iadd, 135, 0, 0, 0), some (.istore_n 3, 136, 0, 0, 0), some (.aload_n 0, 137, 0, 0, 0), some (.dup, 138, 0, 0, 0), some (.getfield 33, 141, 1, 6, 0), none, none, some (.iconst 1, 142, 0, 0, 0), some (.iadd, 143, 0, 0, 0), some (.putfield 33, 146, 1, 6, 0), none, none, some (.goto (-95), 149, 51, 0, 0), none, none, some (.iload_n 3, 150, 0, 0, 0), some (.iconst 1, 151, 0, 0, 0), some (.if_icmp .lt 8, 154, 159, 0, 0), none, none, some (.iload_n 3, 155, 0, 0, 0), some (.iload_n 1, 156, 0, 0, 0), some (.if_icmp .le 10, 159, 166, 0, 0), none, none, some (.aload_n 0, 160, 0, 0, 0), some (.iload_n 2, 161, 0, 0, 0), some (.putfield 36, 164, 1, 7, 0), none, none, some (.iconst 0, 165, 0, 0, 0), some (.ireturn, 166, 0, 0, 0), some (.iload_n 3, 167, 0, 0, 0), some (.ireturn, 168, 0, 0, 0)]

noncomputable def jt_85 : List (List (Option jm_I)) := [jt_85_0, jt_85_1, jt_85_2]

set_option maxRecDepth 20000 in
noncomputable def jt_86_0 : List (Option jm_I) := [some (.aload_n 0, 1, 0, 0, 0), some (.getfield 33, 4, 1, 6, 0), none, none, some (.iconst 1, 5, 0, 0, 0), some (.isub, 6, 0, 0, 0), some (.istore_n 2, 7, 0, 0, 0), some (.iload_n 1, 8, 0, 0, 0), some (.invokestatic 85, 11, 87, 2, 0), none, none, some (.istore_n 3, 12, 0, 0, 0), some (.iload_n 3, 13, 0, 0, 0), some (.iconst (-1), 14, 0, 0, 0), some (.if_icmp .eq 21, 17, 35, 0, 0), none, none, some (.aload_n 0, 18, 0, 0, 0), some (.iload_n 3, 19, 0, 0, 0), some (.invokevirtual 64, 22, 88, 1, 1), none, none, some (.aload_n 0, 23, 0, 0, 0), some (.iload_n 3, 24, 0, 0, 0), some (.invokevirtual 78, 27, 84, 1, 1), none, none, some (.aload_n 0, 28, 0, 0, 0), some (.iconst 1, 29, 0, 0, 0), some (.putfield 39, 32, 1, 8, 2), none, none, some (.goto 39, 35, 71, 0, 0), none, none, some (.iload_n 1, 36, 0, 0, 0), some (.bipush 94, 38, 0, 0, 0), none, some (.if_icmp .ne 15, 41, 53, 0, 0), none, none, some (.aload_n 0, 42, 0, 0, 0), some (.iconst 5, 43, 0, 0, 0), some (.invokevirtual 64, 46, 88, 1, 1), none, none, some (.aload_n 0, 47, 0, 0, 0), some (.invokevirtual 88, 50, 95, 1, 1), none, none, some (.goto 21, 53, 71, 0, 0), none, none, some (.aload_n 0, 54, 0, 0, 0), some (.iconst 2, 55, 0, 0, 0), some (.invokevirtual 64, 58, 88, 1, 1), none, none, some (.aload_n 0, 59, 0, 0, 0), some (.iload_n 1, 60, 0, 0, 0), some (.invokevirtual 91, 63, 96, 1, 1), none, none, some (.ifCond .ne 8, 66, 71, 0, 0)]

set_option maxRecDepth 20000 in
noncomputable def jt_86_1 : List (Option jm_I) := [none, none, some (.aload_n 0, 67, 0, 0, 0), some (.iload_n 2, 68, 0, 0, 0), some (.putfield 36, 71, 1, 7, 0), none, none, some (.return_, 72, 0, 0, 0)]

noncomputable def jt_86 : List (List (Option jm_I)) := [jt_86_0, jt_86_1]

set_option maxRecDepth 20000 in
noncomputable def jt_87_0 : List (Option jm_I) := [some (.iload_n 0, 1, 0, 0, 0), some (.lookupswitch 84 #[(33, 75), (35, 78), (38, 69), (45, 81), (60, 71), (64, 73), (124, 67)], 68, 0, 0, 0), none, none, none, none, none, none, none, none, none, none, none, none, none, none, none, none, none, none, none, none, none, none, none, none, none, none, none, none, none, none, none, none, none, none, none, none, none, none, none, none, none, none, none, none, none, none, none, none, none, none, none, none, none, none, none, none, none, none, none, none, none, none]

set_option maxRecDepth 20000 in
noncomputable def jt_87_1 : List (Option jm_I) := [none, none, none, none, some (.iconst 2, 69, 0, 0, 0), some (.ireturn, 70, 0, 0, 0), some (.iconst 3, 71, 0, 0, 0), some (.ireturn, 72, 0, 0, 0), some (.iconst 4, 73, 0, 0, 0), some (.ireturn, 74, 0, 0, 0), some (.iconst 5, 75, 0, 0, 0), some (.ireturn, 76, 0, 0, 0), some (.bipush 6, 78, 0, 0, 0), none, some (.ireturn, 79, 0, 0, 0), some (.bipush 7, 81, 0, 0, 0), none, some (.ireturn, 82, 0, 0, 0), some (.bipush 8, 84, 0, 0, 0), none, some (.ireturn, 85, 0, 0, 0), some (.iconst (-1), 86, 0, 0, 0), some (.ireturn, 87, 0, 0, 0)]

noncomputable def jt_87 : List (List (Option jm_I)) := [jt_87_0, jt_87_1]

set_option maxRecDepth 20000 in
noncomputable def jt_88_0 : List (Option jm_I) := [some (.iload_n 1, 1, 0, 0, 0), some (.invokestatic 105, 4, 89, 2, 0), none, none, some (.istore_n 2, 5, 0, 0, 0), some (.aload_n 0, 6, 0, 0, 0), some (.getfield 30, 9, 1, 5, 0), none, none, some (.ifCond .le 65, 12, 74, 0, 0), none, none, some (.aload_n 0, 13, 0, 0, 0), some (.invokevirtual 102, 16, 90, 1, 1), none, none, some (.invokestatic 108, 19, 30, 4, 0), none, none, some (.ifCond .eq 55, 22, 74, 0, 0), none, none, some (.aload_n 0, 23, 0, 0, 0), some (.invokevirtual 102, 26, 90, 1, 1), none, none, some (.invokestatic 105, 29, 89, 2, 0), none, none, some (.iload_n 2, 30, 0, 0, 0), some (.if_icmp .lt 44, 33, 74, 0, 0), none, none, some (.aload_n 0, 34, 0, 0, 0), some (.invokevirtual 102, 37, 90, 1, 1), none, none, some (.istore_n 3, 38, 0, 0, 0), some (.aload_n 0, 39, 0, 0, 0), some (.dup, 40, 0, 0, 0), some (.getfield 30, 43, 1, 5, 0), none, none, some (.iconst 1, 44, 0, 0, 0), some (.isub, 45, 0, 0, 0), some (.putfield 30, 48, 1, 5, 0), none, none, some (.aload_n 0, 49, 0, 0, 0), some (.invokevirtual 94, 52, 91, 1, 1), none, none, some (.istore 4, 54, 0, 0, 0), none, some (.aload_n 0, 55, 0, 0, 0), some (.invokevirtual 94, 58, 91, 1, 1), none, none, some (.istore 5, 60, 0, 0, 0), none, some (.aload_n 0, 61, 0, 0, 0), some (.iload_n 3, 62, 0, 0, 0), some (.iconst (-1), 63, 0, 0, 0), some (.iload 5, 65, 0, 0, 0)]

set_option maxRecDepth 20000 in
noncomputable def jt_88_1 : List (Option jm_I) := [none, some (.iload 4, 67, 0, 0, 0), none, some (.iconst (-1), 68, 0, 0, 0), some (.invokevirtual 98, 71, 92, 1, 1), none, none, some (.goto (-66), 74, 5, 0, 0), none, none, some (.return_, 75, 0, 0, 0)]

noncomputable def jt_88 : List (List (Option jm_I)) := [jt_88_0, jt_88_1]

set_option maxRecDepth 20000 in
noncomputable def jt_89_0 : List (Option jm_I) := [some (.iload_n 0, 1, 0, 0, 0), some (.iconst 5, 2, 0, 0, 0), some (.invokestatic 111, 5, 0, 14, 0), none, none, some (.ireturn, 6, 0, 0, 0)]

noncomputable def jt_89 : List (List (Option jm_I)) := [jt_89_0]

set_option maxRecDepth 20000 in
noncomputable def jt_90_0 : List (Option jm_I) := [some (.aload_n 0, 1, 0, 0, 0), some (.getfield 30, 4, 1, 5, 0), none, none, some (.ifCond .le 17, 7, 21, 0, 0), none, none, some (.aload_n 0, 8, 0, 0, 0), some (.getfield 15, 11, 1, 3, 1), none, none, some (.aload_n 0, 12, 0, 0, 0), some (.getfield 30, 15, 1, 5, 0), none, none, some (.iconst 1, 16, 0, 0, 0), some (.isub, 17, 0, 0, 0), some (.iaload, 18, 0, 0, 0), some (.goto 4, 21, 22, 0, 0), none, none, some (.iconst (-1), 22, 0, 0, 0), some (.ireturn, 23, 0, 0, 0)]

noncomputable def jt_90 : List (List (Option jm_I)) := [jt_90_0]

set_option maxRecDepth 20000 in
noncomputable def jt_91_0 : List (Option jm_I) := [some (.aload_n 0, 1, 0, 0, 0), some (.getfield 26, 4, 1, 4, 0), none, none, some (.iconst 1, 5, 0, 0, 0), some (.if_icmp .ge 5, 8, 10, 0, 0), none, none, some (.iconst (-1), 9, 0, 0, 0), some (.ireturn, 10, 0, 0, 0), some (.aload_n 0, 11, 0, 0, 0), some (.dup, 12, 0, 0, 0), some (.getfield 26, 15, 1, 4, 0), none, none, some (.iconst 1, 16, 0, 0, 0), some (.isub, 17, 0, 0, 0), some (.putfield 26, 20, 1, 4, 0), none, none, some (.aload_n 0, 21, 0, 0, 0), some (.getfield 9, 24, 1, 2, 1), none, none, some (.aload_n 0, 25, 0, 0, 0), some (.getfield 26, 28, 1, 4, 0), none, none, some (.iaload, 29, 0, 0, 0), some (.ireturn, 30, 0, 0, 0)]

noncomputable def jt_91 : List (List (Option jm_I)) := [jt_91_0]

set_option maxRecDepth 20000 in
noncomputable def jt_92_0 : List (Option jm_I) := [some (.aload_n 0, 1, 0, 0, 0), some (.getfield 22, 4, 1, 1, 1), none, none, some (.aload_n 0, 5, 0, 0, 0), some (.getfield 48, 8, 1, 9, 0), none, none, some (.iload_n 1, 9, 0, 0, 0), some (.iload_n 2, 10, 0, 0, 0), some (.iload_n 3, 11, 0, 0, 0), some (.iload 4, 13, 0, 0, 0), none, some (.iload 5, 15, 0, 0, 0), none, some (.invokevirtual 124, 18, 93, 1, 2), none, none, some (.aload_n 0, 19, 0, 0, 0), some (.invokevirtual 121, 22, 82, 1, 1), none, none, some (.return_, 23, 0, 0, 0)]

noncomputable def jt_92 : List (List (Option jm_I)) := [jt_92_0]

set_option maxRecDepth 20000 in
noncomputable def jt_93_0 : List (Option jm_I) := [some (.iload_n 1, 1, 0, 0, 0), some (.ifCond .lt 9, 4, 10, 0, 0), none, none, some (.iload_n 1, 5, 0, 0, 0), some (.bipush 24, 7, 0, 0, 0), none, some (.if_icmp .lt 4, 10, 11, 0, 0), none, none, some (.return_, 11, 0, 0, 0), some (.aload_n 0, 12, 0, 0, 0), some (.getfield 11, 15, 2, 0, 1), none, none, some (.iload_n 1, 16, 0, 0, 0), some (.aaload, 17, 0, 0, 0), some (.astore 7, 19, 0, 0, 0), none, some (.aload 7, 21, 0, 0, 0), none, some (.iload_n 2, 22, 0, 0, 0), some (.iload_n 3, 23, 0, 0, 0), some (.iload_n 1, 24, 0, 0, 0), some (.invokevirtual 26, 27, 81, 1, 0), none, none, some (.aload 7, 29, 0, 0, 0), none, some (.iload 4, 31, 0, 0, 0), none, some (.putfield 39, 34, 0, 1, 0), none, none, some (.aload 7, 36, 0, 0, 0), none, some (.iload 5, 38, 0, 0, 0), none, some (.putfield 42, 41, 0, 2, 0), none, none, some (.aload 7, 43, 0, 0, 0), none, some (.iload 6, 45, 0, 0, 0), none, some (.putfield 45, 48, 0, 3, 0), none, none, some (.iload 4, 50, 0, 0, 0), none, some (.ifCond .lt 21, 53, 71, 0, 0), none, none, some (.iload 4, 55, 0, 0, 0), none, some (.iload_n 1, 56, 0, 0, 0), some (.if_icmp .ge 15, 59, 71, 0, 0), none, none, some (.aload 7, 61, 0, 0, 0), none, some (.aload_n 0, 62, 0, 0, 0), some (.getfield 11, 65, 2, 0, 1), none]

set_option maxRecDepth 20000 in
noncomputable def jt_93_1 : List (Option jm_I) := [none, some (.iload 4, 67, 0, 0, 0), none, some (.aaload, 68, 0, 0, 0), some (.invokevirtual 48, 71, 94, 1, 0), none, none, some (.iload 5, 73, 0, 0, 0), none, some (.ifCond .lt 21, 76, 94, 0, 0), none, none, some (.iload 5, 78, 0, 0, 0), none, some (.iload_n 1, 79, 0, 0, 0), some (.if_icmp .ge 15, 82, 94, 0, 0), none, none, some (.aload 7, 84, 0, 0, 0), none, some (.aload_n 0, 85, 0, 0, 0), some (.getfield 11, 88, 2, 0, 1), none, none, some (.iload 5, 90, 0, 0, 0), none, some (.aaload, 91, 0, 0, 0), some (.invokevirtual 48, 94, 94, 1, 0), none, none, some (.iload 6, 96, 0, 0, 0), none, some (.ifCond .lt 21, 99, 117, 0, 0), none, none, some (.iload 6, 101, 0, 0, 0), none, some (.iload_n 1, 102, 0, 0, 0), some (.if_icmp .ge 15, 105, 117, 0, 0), none, none, some (.aload 7, 107, 0, 0, 0), none, some (.aload_n 0, 108, 0, 0, 0), some (.getfield 11, 111, 2, 0, 1), none, none, some (.iload 6, 113, 0, 0, 0), none, some (.aaload, 114, 0, 0, 0), some (.invokevirtual 48, 117, 94, 1, 0), none, none, some (.return_, 118, 0, 0, 0)]

noncomputable def jt_93 : List (List (Option jm_I)) := [jt_93_0, jt_93_1]

set_option maxRecDepth 20000 in
noncomputable def jt_94_0 : List (Option jm_I) := [some (.aload_n 0, 1, 0, 0, 0), some (.ldc 45, 3, 0, 0, 1000000), none, some (.aload_n 0, 4, 0, 0, 0), some (.getfield 33, 7, 0, 7, 0), none, none, some (.aload_n 1, 8, 0, 0, 0), some (.getfield 33, 11, 0, 7, 0), none, none, some (.iadd, 12, 0, 0, 0), some (.invokestatic 46, 15, 0, 14, 0), none, none, some (.putfield 33, 18, 0, 7, 0), none, none, some (.aload_n 0, 19, 0, 0, 0), some (.aload_n 0, 20, 0, 0, 0), some (.getfield 36, 23, 0, 8, 0), none, none, some (.aload_n 1, 24, 0, 0, 0), some (.getfield 36, 27, 0, 8, 0), none, none, some (.iconst 1, 28, 0, 0, 0), some (.iadd, 29, 0, 0, 0), some (.invokestatic 52, 32, 0, 13, 0), none, none, some (.putfield 36, 35, 0, 8, 0), none, none, some (.aload_n 0, 36, 0, 0, 0), some (.dup, 37, 0, 0, 0), some (.getfield 39, 40, 0, 9, 0), none, none, some (.aload_n 1, 41, 0, 0, 0), some (.getfield 39, 44, 0, 9, 0), none, none, some (.ior, 45, 0, 0, 0), some (.putfield 39, 48, 0, 9, 0), none, none, some (.aload_n 0, 49, 0, 0, 0), some (.dup, 50, 0, 0, 0), some (.getfield 42, 53, 0, 10, 0), none, none, some (.aload_n 1, 54, 0, 0, 0), some (.getfield 42, 57, 0, 10, 0), none, none, some (.ior, 58, 0, 0, 0), some (.putfield 42, 61, 0, 10, 0), none, none, some (.return_, 62, 0, 0, 0)]

noncomputable def jt_94 : List (List (Option jm_I)) := [jt_94_0]

set_option maxRecDepth 20000 in
noncomputable def jt_95_0 : List (Option jm_I) := [some (.aload_n 0, 1, 0, 0, 0), some (.bipush 60, 3, 0, 0, 0), none, some (.invokevirtual 81, 6, 85, 1, 1), none, none, some (.istore_n 1, 7, 0, 0, 0), some (.aload_n 0, 8, 0, 0, 0), some (.getfield 36, 11, 1, 7, 0), none, none, some (.iconst (-1), 12, 0, 0, 0), some (.if_icmp .ne 16, 15, 28, 0, 0), none, none, some (.aload_n 0, 16, 0, 0, 0), some (.bipush 10, 18, 0, 0, 0), none, some (.iload_n 1, 19, 0, 0, 0), some (.aload_n 0, 20, 0, 0, 0), some (.invokevirtual 94, 23, 91, 1, 1), none, none, some (.iconst (-1), 24, 0, 0, 0), some (.iconst (-1), 25, 0, 0, 0), some (.invokevirtual 98, 28, 92, 1, 1), none, none, some (.return_, 29, 0, 0, 0)]

noncomputable def jt_95 : List (List (Option jm_I)) := [jt_95_0]

set_option maxRecDepth 20000 in
noncomputable def jt_96_0 : List (Option jm_I) := [some (.aload_n 0, 1, 0, 0, 0), some (.invokevirtual 102, 4, 90, 1, 1), none, none, some (.istore_n 2, 5, 0, 0, 0), some (.iload_n 2, 6, 0, 0, 0), some (.bipush 100, 8, 0, 0, 0), none, some (.if_icmp .lt 7, 11, 15, 0, 0), none, none, some (.iconst 1, 12, 0, 0, 0), some (.goto 4, 15, 16, 0, 0), none, none, some (.iconst 0, 16, 0, 0, 0), some (.istore_n 3, 17, 0, 0, 0), some (.iload_n 1, 18, 0, 0, 0), some (.bipush 41, 20, 0, 0, 0), none, some (.if_icmp .ne 21, 23, 41, 0, 0), none, none, some (.iload_n 2, 24, 0, 0, 0), some (.bipush 20, 26, 0, 0, 0), none, some (.if_icmp .ne 15, 29, 41, 0, 0), none, none, some (.aload_n 0, 30, 0, 0, 0), some (.dup, 31, 0, 0, 0), some (.getfield 30, 34, 1, 5, 0), none, none, some (.iconst 1, 35, 0, 0, 0), some (.isub, 36, 0, 0, 0), some (.putfield 30, 39, 1, 5, 0), none, none, some (.iconst 1, 40, 0, 0, 0), some (.ireturn, 41, 1, 0, 0), some (.iload_n 1, 42, 0, 0, 0), some (.bipush 44, 44, 0, 0, 0), none, some (.if_icmp .ne 39, 47, 83, 0, 0), none, none, some (.iload_n 3, 48, 0, 0, 0), some (.ifCond .eq 35, 51, 83, 0, 0), none, none, some (.iload_n 2, 52, 0, 0, 0), some (.bipush 10, 54, 0, 0, 0), none, some (.irem, 55, 0, 0, 0), some (.iconst 2, 56, 0, 0, 0), some (.if_icmp .ge 27, 59, 83, 0, 0), none, none, some (.aload_n 0, 60, 0, 0, 0), some (.dup, 61, 0, 0, 0), some (.getfield 30, 64, 1, 5, 0), none, none]

set_option maxRecDepth 20000 in
noncomputable def jt_96_1 : List (Option jm_I) := [some (.iconst 1, 65, 0, 0, 0), some (.isub, 66, 0, 0, 0), some (.putfield 30, 69, 1, 5, 0), none, none, some (.aload_n 0, 70, 0, 0, 0), some (.iload_n 2, 71, 0, 0, 0), some (.iconst 1, 72, 0, 0, 0), some (.iadd, 73, 0, 0, 0), some (.invokevirtual 78, 76, 84, 1, 1), none, none, some (.aload_n 0, 77, 0, 0, 0), some (.iconst 1, 78, 0, 0, 0), some (.putfield 39, 81, 1, 8, 2), none, none, some (.iconst 1, 82, 0, 0, 0), some (.ireturn, 83, 1, 0, 0), some (.iload_n 1, 84, 0, 0, 0), some (.bipush 125, 86, 0, 0, 0), none, some (.if_icmp .ne 64, 89, 150, 0, 0), none, none, some (.iload_n 3, 90, 0, 0, 0), some (.ifCond .eq 60, 93, 150, 0, 0), none, none, some (.iload_n 2, 94, 0, 0, 0), some (.bipush 10, 96, 0, 0, 0), none, some (.irem, 97, 0, 0, 0), some (.iconst 2, 98, 0, 0, 0), some (.if_icmp .ne 52, 101, 150, 0, 0), none, none, some (.aload_n 0, 102, 0, 0, 0), some (.dup, 103, 0, 0, 0), some (.getfield 30, 106, 1, 5, 0), none, none, some (.iconst 1, 107, 0, 0, 0), some (.isub, 108, 0, 0, 0), some (.putfield 30, 111, 1, 5, 0), none, none, some (.aload_n 0, 112, 0, 0, 0), some (.invokevirtual 94, 115, 91, 1, 1), none, none, some (.istore 4, 117, 0, 0, 0), none, some (.aload_n 0, 118, 0, 0, 0), some (.invokevirtual 94, 121, 91, 1, 1), none, none, some (.istore 5, 123, 0, 0, 0), none, some (.aload_n 0, 124, 0, 0, 0), some (.invokevirtual 94, 127, 91, 1, 1), none, none, some (.istore 6, 129, 0, 0, 0)]

set_option maxRecDepth 20000 in
noncomputable def jt_96_2 : List (Option jm_I) := [none, some (.aload_n 0, 130, 0, 0, 0), some (.bipush 11, 132, 0, 0, 0), none, some (.iload_n 2, 133, 0, 0, 0), some (.bipush 100, 135, 0, 0, 0), none, some (.isub, 136, 0, 0, 0), some (.bipush 10, 138, 0, 0, 0), none, some (.idiv, 139, 0, 0, 0), some (.iload 6, 141, 0, 0, 0), none, some (.iload 5, 143, 0, 0, 0), none, some (.iload 4, 145, 0, 0, 0), none, some (.invokevirtual 98, 148, 92, 1, 1), none, none, some (.iconst 1, 149, 0, 0, 0), some (.ireturn, 150, 1, 0, 0), some (.iconst 0, 151, 0, 0, 0), some (.ireturn, 152, 1, 0, 0)]

noncomputable def jt_96 : List (List (Option jm_I)) := [jt_96_0, jt_96_1, jt_96_2]

set_option maxRecDepth 20000 in
noncomputable def jt_97_0 : List (Option jm_I) := [some (.iload_n 1, 1, 0, 0, 0), some (.invokestatic 141, 4, 57, 2, 0), none, none, some (.ifCond .eq 13, 7, 17, 0, 0), none, none, some (.aload_n 0, 8, 0, 0, 0), some (.iconst 0, 9, 0, 0, 0), some (.iload_n 1, 10, 0, 0, 0), some (.iconst 1, 11, 0, 0, 0), some (.invokevirtual 192, 14, 98, 1, 9), none, none, some (.goto 9, 17, 23, 0, 0), none, none, some (.aload_n 0, 18, 0, 0, 0), some (.bipush (-2), 20, 0, 0, 0), none, some (.invokevirtual 79, 23, 13, 1, 9), none, none, some (.ireturn, 24, 0, 0, 0)]

noncomputable def jt_97 : List (List (Option jm_I)) := [jt_97_0]

set_option maxRecDepth 20000 in
noncomputable def jt_98_0 : List (Option jm_I) := [some (.aload_n 0, 1, 0, 0, 0), some (.getfield 22, 4, 9, 2, 1), none, none, some (.invokevirtual 356, 7, 99, 1, 2), none, none, some (.ifCond .eq 10, 10, 17, 0, 0), none, none, some (.aload_n 0, 11, 0, 0, 0), some (.bipush (-6), 13, 0, 0, 0), none, some (.invokevirtual 79, 16, 13, 1, 9), none, none, some (.ireturn, 17, 0, 0, 0), some (.aload_n 0, 18, 0, 0, 0), some (.getfield 22, 21, 9, 2, 1), none, none, some (.aload_n 0, 22, 0, 0, 0), some (.getfield 22, 25, 9, 2, 1), none, none, some (.getfield 191, 28, 2, 1, 0), none, none, some (.iload_n 1, 29, 0, 0, 0), some (.iload_n 2, 30, 0, 0, 0), some (.iload_n 3, 31, 0, 0, 0), some (.invokevirtual 359, 34, 80, 1, 2), none, none, some (.aload_n 0, 35, 0, 0, 0), some (.getfield 22, 38, 9, 2, 1), none, none, some (.invokevirtual 363, 41, 100, 1, 2), none, none, some (.ireturn, 42, 0, 0, 0)]

noncomputable def jt_98 : List (List (Option jm_I)) := [jt_98_0]

set_option maxRecDepth 20000 in
noncomputable def jt_99_0 : List (Option jm_I) := [some (.aload_n 0, 1, 0, 0, 0), some (.getfield 18, 4, 2, 1, 0), none, none, some (.bipush 24, 6, 0, 0, 0), none, some (.if_icmp .lt 7, 9, 13, 0, 0), none, none, some (.iconst 1, 10, 0, 0, 0), some (.goto 4, 13, 14, 0, 0), none, none, some (.iconst 0, 14, 0, 0, 0), some (.ireturn, 15, 1, 0, 0)]

noncomputable def jt_99 : List (List (Option jm_I)) := [jt_99_0]

set_option maxRecDepth 20000 in
noncomputable def jt_100_0 : List (Option jm_I) := [some (.aload_n 0, 1, 0, 0, 0), some (.dup, 2, 0, 0, 0), some (.getfield 18, 5, 2, 1, 0), none, none, some (.iconst 1, 6, 0, 0, 0), some (.iadd, 7, 0, 0, 0), some (.putfield 18, 10, 2, 1, 0), none, none, some (.aload_n 0, 11, 0, 0, 0), some (.getfield 18, 14, 2, 1, 0), none, none, some (.iconst 1, 15, 0, 0, 0), some (.isub, 16, 0, 0, 0), some (.ireturn, 17, 0, 0, 0)]

noncomputable def jt_100 : List (List (Option jm_I)) := [jt_100_0]

set_option maxRecDepth 20000 in
noncomputable def jt_101_0 : List (Option jm_I) := [some (.iload_n 2, 1, 0, 0, 0), some (.iconst 2, 2, 0, 0, 0), some (.if_icmp .lt 8, 5, 10, 0, 0), none, none, some (.iload_n 2, 6, 0, 0, 0), some (.iconst 4, 7, 0, 0, 0), some (.if_icmp .le 10, 10, 17, 0, 0), none, none, some (.aload_n 0, 11, 0, 0, 0), some (.bipush (-2), 13, 0, 0, 0), none, some (.invokevirtual 79, 16, 13, 1, 9), none, none, some (.ireturn, 17, 0, 0, 0), some (.aload_n 0, 18, 0, 0, 0), some (.iload_n 1, 19, 0, 0, 0), some (.iload_n 2, 20, 0, 0, 0), some (.invokevirtual 87, 23, 17, 1, 9), none, none, some (.istore_n 3, 24, 0, 0, 0), some (.iload_n 3, 25, 0, 0, 0), some (.ifCond .eq 9, 28, 34, 0, 0), none, none, some (.aload_n 0, 29, 0, 0, 0), some (.iload_n 3, 30, 0, 0, 0), some (.invokevirtual 79, 33, 13, 1, 9), none, none, some (.ireturn, 34, 0, 0, 0), some (.iconst 0, 35, 0, 0, 0), some (.istore 4, 37, 0, 0, 0), none, some (.iconst 0, 38, 0, 0, 0), some (.istore 5, 40, 0, 0, 0), none, some (.iload 5, 42, 0, 0, 0), none, some (.iload_n 2, 43, 0, 0, 0), some (.if_icmp .ge 59, 46, 102, 0, 0), none, none, some (.aload_n 0, 47, 0, 0, 0), some (.getfield 67, 50, 9, 9, 1), none, none, some (.iload_n 1, 51, 0, 0, 0), some (.aaload, 52, 0, 0, 0), some (.getfield 94, 55, 5, 0, 1), none, none, some (.iload 5, 57, 0, 0, 0), none, some (.laload, 58, 0, 0, 0), some (.lstore 6, 60, 0, 0, 0), none, some (.lload 6, 62, 0, 0, 0), none, some (.lconst 0, 63, 0, 0, 0), some (.lcmp, 64, 0, 0, 0)]

set_option maxRecDepth 20000 in
noncomputable def jt_101_1 : List (Option jm_I) := [some (.ifCond .lt 12, 67, 76, 0, 0), none, none, some (.lload 6, 69, 0, 0, 0), none, some (.ldc2_w 196, 72, 0, 0, 16), none, none, some (.lcmp, 73, 0, 0, 0), some (.ifCond .lt 10, 76, 83, 0, 0), none, none, some (.aload_n 0, 77, 0, 0, 0), some (.bipush (-5), 79, 0, 0, 0), none, some (.invokevirtual 79, 82, 13, 1, 9), none, none, some (.ireturn, 83, 0, 0, 0), some (.iload 4, 85, 0, 0, 0), none, some (.lload 6, 87, 0, 0, 0), none, some (.l2i, 88, 0, 0, 0), some (.iconst 4, 89, 0, 0, 0), some (.iload 5, 91, 0, 0, 0), none, some (.imul, 92, 0, 0, 0), some (.ishl, 93, 0, 0, 0), some (.ior, 94, 0, 0, 0), some (.istore 4, 96, 0, 0, 0), none, some (.iinc 5 1, 99, 0, 0, 0), none, none, some (.goto (-59), 102, 40, 0, 0), none, none, some (.aload_n 0, 103, 0, 0, 0), some (.iconst 1, 104, 0, 0, 0), some (.iload 4, 106, 0, 0, 0), none, some (.iload_n 2, 107, 0, 0, 0), some (.invokevirtual 192, 110, 98, 1, 9), none, none, some (.ireturn, 111, 0, 0, 0)]

noncomputable def jt_101 : List (List (Option jm_I)) := [jt_101_0, jt_101_1]

set_option maxRecDepth 20000 in
noncomputable def jt_102_0 : List (Option jm_I) := [some (.iload_n 1, 1, 0, 0, 0), some (.invokestatic 198, 4, 30, 2, 0), none, none, some (.ifCond .eq 25, 7, 29, 0, 0), none, none, some (.aload_n 0, 8, 0, 0, 0), some (.getfield 22, 11, 9, 2, 1), none, none, some (.iload_n 2, 12, 0, 0, 0), some (.invokevirtual 123, 15, 27, 1, 2), none, none, some (.ifCond .eq 14, 18, 29, 0, 0), none, none, some (.aload_n 0, 19, 0, 0, 0), some (.getfield 22, 22, 9, 2, 1), none, none, some (.iload_n 3, 23, 0, 0, 0), some (.invokevirtual 123, 26, 27, 1, 2), none, none, some (.ifCond .ne 10, 29, 36, 0, 0), none, none, some (.aload_n 0, 30, 0, 0, 0), some (.bipush (-2), 32, 0, 0, 0), none, some (.invokevirtual 79, 35, 13, 1, 9), none, none, some (.ireturn, 36, 0, 0, 0), some (.aload_n 0, 37, 0, 0, 0), some (.iload_n 1, 38, 0, 0, 0), some (.iconst (-1), 39, 0, 0, 0), some (.iload_n 2, 40, 0, 0, 0), some (.iload_n 3, 41, 0, 0, 0), some (.iconst (-1), 42, 0, 0, 0), some (.invokevirtual 201, 45, 103, 1, 9), none, none, some (.ireturn, 46, 0, 0, 0)]

noncomputable def jt_102 : List (List (Option jm_I)) := [jt_102_0]

set_option maxRecDepth 20000 in
noncomputable def jt_103_0 : List (Option jm_I) := [some (.aload_n 0, 1, 0, 0, 0), some (.getfield 22, 4, 9, 2, 1), none, none, some (.invokevirtual 356, 7, 99, 1, 2), none, none, some (.ifCond .eq 10, 10, 17, 0, 0), none, none, some (.aload_n 0, 11, 0, 0, 0), some (.bipush (-6), 13, 0, 0, 0), none, some (.invokevirtual 79, 16, 13, 1, 9), none, none, some (.ireturn, 17, 0, 0, 0), some (.aload_n 0, 18, 0, 0, 0), some (.getfield 22, 21, 9, 2, 1), none, none, some (.aload_n 0, 22, 0, 0, 0), some (.getfield 22, 25, 9, 2, 1), none, none, some (.getfield 191, 28, 2, 1, 0), none, none, some (.iload_n 1, 29, 0, 0, 0), some (.iload_n 2, 30, 0, 0, 0), some (.iload_n 3, 31, 0, 0, 0), some (.iload 4, 33, 0, 0, 0), none, some (.iload 5, 35, 0, 0, 0), none, some (.invokevirtual 366, 38, 93, 1, 2), none, none, some (.aload_n 0, 39, 0, 0, 0), some (.getfield 22, 42, 9, 2, 1), none, none, some (.invokevirtual 363, 45, 100, 1, 2), none, none, some (.ireturn, 46, 0, 0, 0)]

noncomputable def jt_103 : List (List (Option jm_I)) := [jt_103_0]

set_option maxRecDepth 20000 in
noncomputable def jt_104_0 : List (Option jm_I) := [some (.iload_n 1, 1, 0, 0, 0), some (.ifCond .lt 8, 4, 9, 0, 0), none, none, some (.iload_n 1, 5, 0, 0, 0), some (.iconst 2, 6, 0, 0, 0), some (.if_icmp .le 12, 9, 18, 0, 0), none, none, some (.aload_n 0, 10, 0, 0, 0), some (.bipush (-2), 12, 0, 0, 0), none, some (.invokevirtual 79, 15, 13, 1, 9), none, none, some (.goto 11, 18, 26, 0, 0), none, none, some (.aload_n 0, 19, 0, 0, 0), some (.bipush 9, 21, 0, 0, 0), none, some (.iload_n 1, 22, 0, 0, 0), some (.iconst 0, 23, 0, 0, 0), some (.invokevirtual 192, 26, 98, 1, 9), none, none, some (.ireturn, 27, 0, 0, 0)]

noncomputable def jt_104 : List (List (Option jm_I)) := [jt_104_0]

set_option maxRecDepth 20000 in
noncomputable def jt_105_0 : List (Option jm_I) := [some (.aload_n 0, 1, 0, 0, 0), some (.getfield 22, 4, 9, 2, 1), none, none, some (.iload_n 1, 5, 0, 0, 0), some (.invokevirtual 123, 8, 27, 1, 2), none, none, some (.ifCond .eq 14, 11, 22, 0, 0), none, none, some (.iload_n 2, 12, 0, 0, 0), some (.iconst 1, 13, 0, 0, 0), some (.if_icmp .lt 9, 16, 22, 0, 0), none, none, some (.iload_n 2, 17, 0, 0, 0), some (.bipush 60, 19, 0, 0, 0), none, some (.if_icmp .le 10, 22, 29, 0, 0), none, none, some (.aload_n 0, 23, 0, 0, 0), some (.bipush (-2), 25, 0, 0, 0), none, some (.invokevirtual 79, 28, 13, 1, 9), none, none, some (.ireturn, 29, 0, 0, 0), some (.aload_n 0, 30, 0, 0, 0), some (.bipush 10, 32, 0, 0, 0), none, some (.iload_n 2, 33, 0, 0, 0), some (.iload_n 1, 34, 0, 0, 0), some (.iconst (-1), 35, 0, 0, 0), some (.iconst (-1), 36, 0, 0, 0), some (.invokevirtual 201, 39, 103, 1, 9), none, none, some (.ireturn, 40, 0, 0, 0)]

noncomputable def jt_105 : List (List (Option jm_I)) := [jt_105_0]

set_option maxRecDepth 20000 in
noncomputable def jt_106_0 : List (Option jm_I) := [some (.iload_n 1, 1, 0, 0, 0), some (.iconst 1, 2, 0, 0, 0), some (.if_icmp .lt 42, 5, 44, 0, 0), none, none, some (.iload_n 1, 6, 0, 0, 0), some (.iconst 3, 7, 0, 0, 0), some (.if_icmp .gt 37, 10, 44, 0, 0), none, none, some (.aload_n 0, 11, 0, 0, 0), some (.getfield 22, 14, 9, 2, 1), none, none, some (.iload_n 2, 15, 0, 0, 0), some (.invokevirtual 123, 18, 27, 1, 2), none, none, some (.ifCond .eq 26, 21, 44, 0, 0), none, none, some (.aload_n 0, 22, 0, 0, 0), some (.getfield 22, 25, 9, 2, 1), none, none, some (.iload_n 3, 26, 0, 0, 0), some (.invokevirtual 123, 29, 27, 1, 2), none, none, some (.ifCond .eq 15, 32, 44, 0, 0), none, none, some (.aload_n 0, 33, 0, 0, 0), some (.getfield 22, 36, 9, 2, 1), none, none, some (.iload 4, 38, 0, 0, 0), none, some (.invokevirtual 123, 41, 27, 1, 2), none, none, some (.ifCond .ne 10, 44, 51, 0, 0), none, none, some (.aload_n 0, 45, 0, 0, 0), some (.bipush (-2), 47, 0, 0, 0), none, some (.invokevirtual 79, 50, 13, 1, 9), none, none, some (.ireturn, 51, 0, 0, 0), some (.aload_n 0, 52, 0, 0, 0), some (.bipush 11, 54, 0, 0, 0), none, some (.iload_n 1, 55, 0, 0, 0), some (.iload_n 2, 56, 0, 0, 0), some (.iload_n 3, 57, 0, 0, 0), some (.iload 4, 59, 0, 0, 0), none, some (.invokevirtual 201, 62, 103, 1, 9), none, none, some (.ireturn, 63, 0, 0, 0)]

noncomputable def jt_106 : List (List (Option jm_I)) := [jt_106_0]

set_option maxRecDepth 20000 in
noncomputable def jt_107_0 : List (Option jm_I) := [some (.aload_n 0, 1, 0, 0, 0), some (.getfield 22, 4, 9, 2, 1), none, none, some (.getfield 191, 7, 2, 1, 0), none, none, some (.iconst 1, 8, 0, 0, 0), some (.if_icmp .ge 10, 11, 18, 0, 0), none, none, some (.aload_n 0, 12, 0, 0, 0), some (.bipush (-5), 14, 0, 0, 0), none, some (.invokevirtual 79, 17, 13, 1, 9), none, none, some (.ireturn, 18, 0, 0, 0), some (.aload_n 0, 19, 0, 0, 0), some (.getfield 22, 22, 9, 2, 1), none, none, some (.dup, 23, 0, 0, 0), some (.getfield 191, 26, 2, 1, 0), none, none, some (.iconst 1, 27, 0, 0, 0), some (.isub, 28, 0, 0, 0), some (.putfield 191, 31, 2, 1, 0), none, none, some (.aload_n 0, 32, 0, 0, 0), some (.getfield 34, 35, 9, 4, 1), none, none, some (.aload_n 0, 36, 0, 0, 0), some (.getfield 22, 39, 9, 2, 1), none, none, some (.getfield 191, 42, 2, 1, 0), none, none, some (.invokevirtual 205, 45, 108, 1, 4), none, none, some (.aload_n 0, 46, 0, 0, 0), some (.invokevirtual 208, 49, 109, 1, 9), none, none, some (.aload_n 0, 50, 0, 0, 0), some (.getfield 22, 53, 9, 2, 1), none, none, some (.getfield 191, 56, 2, 1, 0), none, none, some (.ireturn, 57, 0, 0, 0)]

noncomputable def jt_107 : List (List (Option jm_I)) := [jt_107_0]

set_option maxRecDepth 20000 in
noncomputable def jt_108_0 : List (Option jm_I) := [some (.aload_n 0, 1, 0, 0, 0), some (.dup, 2, 0, 0, 0), some (.getfield 41, 5, 4, 5, 0), none, none, some (.iconst 1, 6, 0, 0, 0), some (.iload_n 1, 7, 0, 0, 0), some (.ishl, 8, 0, 0, 0), some (.iconst (-1), 9, 0, 0, 0), some (.ixor, 10, 0, 0, 0), some (.iand, 11, 0, 0, 0), some (.putfield 41, 14, 4, 5, 0), none, none, some (.return_, 15, 0, 0, 0)]

noncomputable def jt_108 : List (List (Option jm_I)) := [jt_108_0]

set_option maxRecDepth 20000 in
noncomputable def jt_109_0 : List (Option jm_I) := [some (.iconst 0, 1, 0, 0, 0), some (.istore_n 1, 2, 0, 0, 0), some (.iload_n 1, 3, 0, 0, 0), some (.bipush 8, 5, 0, 0, 0), none, some (.if_icmp .ge 41, 8, 46, 0, 0), none, none, some (.aload_n 0, 9, 0, 0, 0), some (.getfield 67, 12, 9, 9, 1), none, none, some (.iload_n 1, 13, 0, 0, 0), some (.aaload, 14, 0, 0, 0), some (.getfield 98, 17, 5, 2, 0), none, none, some (.bipush 10, 19, 0, 0, 0), none, some (.aload_n 0, 20, 0, 0, 0), some (.getfield 22, 23, 9, 2, 1), none, none, some (.getfield 191, 26, 2, 1, 0), none, none, some (.iadd, 27, 0, 0, 0), some (.if_icmp .lt 13, 30, 40, 0, 0), none, none, some (.aload_n 0, 31, 0, 0, 0), some (.getfield 67, 34, 9, 9, 1), none, none, some (.iload_n 1, 35, 0, 0, 0), some (.aaload, 36, 0, 0, 0), some (.iconst (-1), 37, 0, 0, 0), some (.putfield 98, 40, 5, 2, 0), none, none, some (.iinc 1 1, 43, 0, 0, 0), none, none, some (.goto (-41), 46, 2, 0, 0), none, none, some (.return_, 47, 0, 0, 0)]

noncomputable def jt_109 : List (List (Option jm_I)) := [jt_109_0]

set_option maxRecDepth 20000 in
noncomputable def jt_110_0 : List (Option jm_I) := [some (.aload_n 0, 1, 0, 0, 0), some (.getfield 22, 4, 9, 2, 1), none, none, some (.iload_n 1, 5, 0, 0, 0), some (.invokevirtual 123, 8, 27, 1, 2), none, none, some (.ifCond .ne 10, 11, 18, 0, 0), none, none, some (.aload_n 0, 12, 0, 0, 0), some (.bipush (-2), 14, 0, 0, 0), none, some (.invokevirtual 79, 17, 13, 1, 9), none, none, some (.ireturn, 18, 0, 0, 0), some (.aload_n 0, 19, 0, 0, 0), some (.getfield 22, 22, 9, 2, 1), none, none, some (.getfield 126, 25, 2, 0, 1), none, none, some (.iload_n 1, 26, 0, 0, 0), some (.aaload, 27, 0, 0, 0), some (.astore_n 3, 28, 0, 0, 0), some (.iload_n 2, 29, 0, 0, 0), some (.tableswitch 87 0 7 #[47, 52, 57, 62, 67, 72, 77, 82], 76, 0, 0, 0), none, none, none, none, none, none, none, none, none, none, none, none, none, none, none, none, none, none, none, none, none, none, none, none, none, none, none, none, none, none, none, none, none, none]

set_option maxRecDepth 20000 in
noncomputable def jt_110_1 : List (Option jm_I) := [none, none, none, none, none, none, none, none, none, none, none, none, some (.aload_n 3, 77, 0, 0, 0), some (.getfield 130, 80, 0, 0, 0), none, none, some (.ireturn, 81, 0, 0, 0), some (.aload_n 3, 82, 0, 0, 0), some (.getfield 211, 85, 0, 1, 0), none, none, some (.ireturn, 86, 0, 0, 0), some (.aload_n 3, 87, 0, 0, 0), some (.getfield 214, 90, 0, 2, 0), none, none, some (.ireturn, 91, 0, 0, 0), some (.aload_n 3, 92, 0, 0, 0), some (.getfield 217, 95, 0, 3, 0), none, none, some (.ireturn, 96, 0, 0, 0), some (.aload_n 3, 97, 0, 0, 0), some (.getfield 220, 100, 0, 4, 0), none, none, some (.ireturn, 101, 0, 0, 0), some (.aload_n 3, 102, 0, 0, 0), some (.getfield 223, 105, 0, 7, 0), none, none, some (.ireturn, 106, 0, 0, 0), some (.aload_n 3, 107, 0, 0, 0), some (.getfield 226, 110, 0, 8, 0), none, none, some (.ireturn, 111, 0, 0, 0), some (.aload_n 3, 112, 0, 0, 0), some (.getfield 229, 115, 0, 9, 0), none, none, some (.ireturn, 116, 0, 0, 0), some (.aload_n 0, 117, 0, 0, 0), some (.bipush (-2), 119, 0, 0, 0), none, some (.invokevirtual 79, 122, 13, 1, 9), none, none, some (.ireturn, 123, 0, 0, 0)]

noncomputable def jt_110 : List (List (Option jm_I)) := [jt_110_0, jt_110_1]

set_option maxRecDepth 20000 in
noncomputable def jt_111_0 : List (Option jm_I) := [some (.aload_n 0, 1, 0, 0, 0), some (.getfield 10, 4, 9, 0, 1), none, none, some (.iload_n 1, 5, 0, 0, 0), some (.invokevirtual 161, 8, 64, 1, 8), none, none, some (.ifCond .ne 10, 11, 18, 0, 0), none, none, some (.aload_n 0, 12, 0, 0, 0), some (.bipush (-2), 14, 0, 0, 0), none, some (.invokevirtual 79, 17, 13, 1, 9), none, none, some (.ireturn, 18, 0, 0, 0), some (.iload_n 2, 19, 0, 0, 0), some (.tableswitch 82 0 4 #[33, 43, 53, 63, 73], 52, 0, 0, 0), none, none, none, none, none, none, none, none, none, none, none, none, none, none, none, none, none, none, none, none, none, none, none, none, none, none, none, none, none, none, none, none, some (.aload_n 0, 53, 0, 0, 0), some (.getfield 10, 56, 9, 0, 1), none, none, some (.getfield 164, 59, 8, 0, 1), none, none, some (.iload_n 1, 60, 0, 0, 0), some (.iaload, 61, 0, 0, 0), some (.ireturn, 62, 0, 0, 0), some (.aload_n 0, 63, 0, 0, 0), some (.getfield 10, 66, 9, 0, 1)]

set_option maxRecDepth 20000 in
noncomputable def jt_111_1 : List (Option jm_I) := [none, none, some (.getfield 231, 69, 8, 1, 1), none, none, some (.iload_n 1, 70, 0, 0, 0), some (.iaload, 71, 0, 0, 0), some (.ireturn, 72, 0, 0, 0), some (.aload_n 0, 73, 0, 0, 0), some (.getfield 10, 76, 9, 0, 1), none, none, some (.iload_n 1, 77, 0, 0, 0), some (.iconst 1, 78, 0, 0, 0), some (.invokevirtual 234, 81, 112, 1, 8), none, none, some (.ireturn, 82, 0, 0, 0), some (.aload_n 0, 83, 0, 0, 0), some (.getfield 10, 86, 9, 0, 1), none, none, some (.iload_n 1, 87, 0, 0, 0), some (.iconst 2, 88, 0, 0, 0), some (.invokevirtual 234, 91, 112, 1, 8), none, none, some (.ireturn, 92, 0, 0, 0), some (.aload_n 0, 93, 0, 0, 0), some (.getfield 10, 96, 9, 0, 1), none, none, some (.iload_n 1, 97, 0, 0, 0), some (.invokevirtual 237, 100, 36, 1, 8), none, none, some (.ireturn, 101, 0, 0, 0), some (.aload_n 0, 102, 0, 0, 0), some (.bipush (-2), 104, 0, 0, 0), none, some (.invokevirtual 79, 107, 13, 1, 9), none, none, some (.ireturn, 108, 0, 0, 0)]

noncomputable def jt_111 : List (List (Option jm_I)) := [jt_111_0, jt_111_1]

set_option maxRecDepth 20000 in
noncomputable def jt_112_0 : List (Option jm_I) := [some (.iconst 0, 1, 0, 0, 0), some (.istore_n 3, 2, 0, 0, 0), some (.iconst 0, 3, 0, 0, 0), some (.istore 4, 5, 0, 0, 0), none, some (.iload 4, 7, 0, 0, 0), none, some (.iload_n 1, 8, 0, 0, 0), some (.if_icmp .ge 28, 11, 36, 0, 0), none, none, some (.iload_n 3, 12, 0, 0, 0), some (.aload_n 0, 13, 0, 0, 0), some (.getfield 15, 16, 8, 1, 1), none, none, some (.iload 4, 18, 0, 0, 0), none, some (.iaload, 19, 0, 0, 0), some (.iload_n 2, 20, 0, 0, 0), some (.if_icmp .lt 7, 23, 27, 0, 0), none, none, some (.iconst 1, 24, 0, 0, 0), some (.goto 4, 27, 28, 0, 0), none, none, some (.iconst 0, 28, 0, 0, 0), some (.iadd, 29, 0, 0, 0), some (.istore_n 3, 30, 0, 0, 0), some (.iinc 4 1, 33, 0, 0, 0), none, none, some (.goto (-28), 36, 5, 0, 0), none, none, some (.iload_n 3, 37, 0, 0, 0), some (.ireturn, 38, 0, 0, 0)]

noncomputable def jt_112 : List (List (Option jm_I)) := [jt_112_0]

set_option maxRecDepth 20000 in
noncomputable def jt_113_0 : List (Option jm_I) := [some (.aload_n 0, 1, 0, 0, 0), some (.getfield 22, 4, 9, 2, 1), none, none, some (.iload_n 1, 5, 0, 0, 0), some (.invokevirtual 123, 8, 27, 1, 2), none, none, some (.ifCond .eq 17, 11, 25, 0, 0), none, none, some (.aload_n 0, 12, 0, 0, 0), some (.getfield 34, 15, 9, 4, 1), none, none, some (.iload_n 1, 16, 0, 0, 0), some (.invokevirtual 240, 19, 32, 1, 4), none, none, some (.getfield 244, 22, 6, 2, 0), none, none, some (.goto 9, 25, 31, 0, 0), none, none, some (.aload_n 0, 26, 0, 0, 0), some (.bipush (-2), 28, 0, 0, 0), none, some (.invokevirtual 79, 31, 13, 1, 9), none, none, some (.ireturn, 32, 0, 0, 0)]

noncomputable def jt_113 : List (List (Option jm_I)) := [jt_113_0]

set_option maxRecDepth 20000 in
noncomputable def jt_114_0 : List (Option jm_I) := [some (.aload_n 0, 1, 0, 0, 0), some (.getfield 22, 4, 9, 2, 1), none, none, some (.iload_n 1, 5, 0, 0, 0), some (.invokevirtual 123, 8, 27, 1, 2), none, none, some (.ifCond .eq 18, 11, 26, 0, 0), none, none, some (.aload_n 0, 12, 0, 0, 0), some (.getfield 34, 15, 9, 4, 1), none, none, some (.iload_n 1, 16, 0, 0, 0), some (.invokevirtual 240, 19, 32, 1, 4), none, none, some (.iload_n 2, 20, 0, 0, 0), some (.invokevirtual 245, 23, 47, 1, 6), none, none, some (.ifCond .ne 10, 26, 33, 0, 0), none, none, some (.aload_n 0, 27, 0, 0, 0), some (.bipush (-2), 29, 0, 0, 0), none, some (.invokevirtual 79, 32, 13, 1, 9), none, none, some (.ireturn, 33, 0, 0, 0), some (.aload_n 0, 34, 0, 0, 0), some (.getfield 34, 37, 9, 4, 1), none, none, some (.iload_n 1, 38, 0, 0, 0), some (.invokevirtual 240, 41, 32, 1, 4), none, none, some (.iload_n 2, 42, 0, 0, 0), some (.invokevirtual 248, 45, 115, 1, 6), none, none, some (.ireturn, 46, 0, 0, 0)]

noncomputable def jt_114 : List (List (Option jm_I)) := [jt_114_0]

set_option maxRecDepth 20000 in
noncomputable def jt_115_0 : List (Option jm_I) := [some (.bipush 100, 2, 0, 0, 0), none, some (.aload_n 0, 3, 0, 0, 0), some (.getfield 9, 6, 6, 0, 1), none, none, some (.iload_n 1, 7, 0, 0, 0), some (.iaload, 8, 0, 0, 0), some (.imul, 9, 0, 0, 0), some (.aload_n 0, 10, 0, 0, 0), some (.getfield 15, 13, 6, 1, 1), none, none, some (.iload_n 1, 14, 0, 0, 0), some (.iaload, 15, 0, 0, 0), some (.iadd, 16, 0, 0, 0), some (.ireturn, 17, 0, 0, 0)]

noncomputable def jt_115 : List (List (Option jm_I)) := [jt_115_0]

set_option maxRecDepth 20000 in
noncomputable def jt_116_0 : List (Option jm_I) := [some (.aload_n 0, 1, 0, 0, 0), some (.getfield 22, 4, 9, 2, 1), none, none, some (.iload_n 1, 5, 0, 0, 0), some (.invokevirtual 123, 8, 27, 1, 2), none, none, some (.ifCond .eq 12, 11, 20, 0, 0), none, none, some (.iload_n 3, 12, 0, 0, 0), some (.ifCond .lt 8, 15, 20, 0, 0), none, none, some (.iload_n 3, 16, 0, 0, 0), some (.iconst 3, 17, 0, 0, 0), some (.if_icmp .le 10, 20, 27, 0, 0), none, none, some (.aload_n 0, 21, 0, 0, 0), some (.bipush (-2), 23, 0, 0, 0), none, some (.invokevirtual 79, 26, 13, 1, 9), none, none, some (.ireturn, 27, 0, 0, 0), some (.aload_n 0, 28, 0, 0, 0), some (.getfield 34, 31, 9, 4, 1), none, none, some (.iload_n 1, 32, 0, 0, 0), some (.invokevirtual 240, 35, 32, 1, 4), none, none, some (.astore 4, 37, 0, 0, 0), none, some (.iconst (-1), 38, 0, 0, 0), some (.iload_n 2, 39, 0, 0, 0), some (.bipush 60, 41, 0, 0, 0), none, some (.invokestatic 251, 44, 0, 14, 0), none, none, some (.invokestatic 256, 47, 0, 13, 0), none, none, some (.istore 5, 49, 0, 0, 0), none, some (.iload_n 3, 50, 0, 0, 0), some (.tableswitch 66 0 2 #[26, 41, 54], 76, 0, 0, 0), none, none, none, none, none, none, none, none, none, none, none, none, none]

set_option maxRecDepth 20000 in
noncomputable def jt_116_1 : List (Option jm_I) := [none, none, none, none, none, none, none, none, none, none, none, none, some (.aload 4, 78, 0, 0, 0), none, some (.aload 4, 80, 0, 0, 0), none, some (.iconst 0, 81, 0, 0, 0), some (.iload 5, 83, 0, 0, 0), none, some (.i2l, 84, 0, 0, 0), some (.invokevirtual 259, 87, 45, 1, 6), none, none, some (.invokevirtual 263, 90, 117, 1, 6), none, none, some (.ireturn, 91, 0, 0, 0), some (.aload 4, 93, 0, 0, 0), none, some (.aload 4, 95, 0, 0, 0), none, some (.iload 5, 97, 0, 0, 0), none, some (.invokevirtual 266, 100, 118, 1, 6), none, none, some (.invokevirtual 263, 103, 117, 1, 6), none, none, some (.ireturn, 104, 0, 0, 0), some (.aload 4, 106, 0, 0, 0), none, some (.iload 5, 108, 0, 0, 0), none, some (.iconst 1, 109, 0, 0, 0), some (.iadd, 110, 0, 0, 0), some (.invokevirtual 266, 113, 118, 1, 6), none, none, some (.iconst 1, 114, 0, 0, 0), some (.isub, 115, 0, 0, 0), some (.ireturn, 116, 0, 0, 0), some (.aload 4, 118, 0, 0, 0), none, some (.iconst 0, 119, 0, 0, 0), some (.iload 5, 121, 0, 0, 0), none, some (.iconst 1, 122, 0, 0, 0), some (.iadd, 123, 0, 0, 0), some (.i2l, 124, 0, 0, 0), some (.invokevirtual 259, 127, 45, 1, 6), none, none, some (.iconst 1, 128, 0, 0, 0)]

set_option maxRecDepth 20000 in
noncomputable def jt_116_2 : List (Option jm_I) := [some (.isub, 129, 0, 0, 0), some (.ireturn, 130, 0, 0, 0)]

noncomputable def jt_116 : List (List (Option jm_I)) := [jt_116_0, jt_116_1, jt_116_2]

set_option maxRecDepth 20000 in
noncomputable def jt_117_0 : List (Option jm_I) := [some (.aload_n 0, 1, 0, 0, 0), some (.iload_n 1, 2, 0, 0, 0), some (.invokevirtual 28, 5, 47, 1, 6), none, none, some (.ifCond .eq 7, 8, 12, 0, 0), none, none, some (.iload_n 1, 9, 0, 0, 0), some (.goto 4, 12, 13, 0, 0), none, none, some (.iconst (-1), 13, 0, 0, 0), some (.ireturn, 14, 0, 0, 0)]

noncomputable def jt_117 : List (List (Option jm_I)) := [jt_117_0]

set_option maxRecDepth 20000 in
noncomputable def jt_118_0 : List (Option jm_I) := [some (.iconst 0, 1, 0, 0, 0), some (.istore_n 2, 2, 0, 0, 0), some (.iload_n 2, 3, 0, 0, 0), some (.aload_n 0, 4, 0, 0, 0), some (.getfield 18, 7, 6, 2, 0), none, none, some (.if_icmp .ge 19, 10, 26, 0, 0), none, none, some (.aload_n 0, 11, 0, 0, 0), some (.getfield 15, 14, 6, 1, 1), none, none, some (.iload_n 2, 15, 0, 0, 0), some (.iaload, 16, 0, 0, 0), some (.iload_n 1, 17, 0, 0, 0), some (.if_icmp .ge 9, 20, 26, 0, 0), none, none, some (.iinc 2 1, 23, 0, 0, 0), none, none, some (.goto (-21), 26, 2, 0, 0), none, none, some (.iload_n 2, 27, 0, 0, 0), some (.ireturn, 28, 0, 0, 0)]

noncomputable def jt_118 : List (List (Option jm_I)) := [jt_118_0]

set_option maxRecDepth 20000 in
noncomputable def jt_119_0 : List (Option jm_I) := [some (.aload_n 0, 1, 0, 0, 0), some (.getfield 22, 4, 9, 2, 1), none, none, some (.iload_n 1, 5, 0, 0, 0), some (.invokevirtual 123, 8, 27, 1, 2), none, none, some (.ifCond .eq 14, 11, 22, 0, 0), none, none, some (.aload_n 0, 12, 0, 0, 0), some (.getfield 10, 15, 9, 0, 1), none, none, some (.iload_n 2, 16, 0, 0, 0), some (.invokevirtual 161, 19, 64, 1, 8), none, none, some (.ifCond .ne 10, 22, 29, 0, 0), none, none, some (.aload_n 0, 23, 0, 0, 0), some (.bipush (-2), 25, 0, 0, 0), none, some (.invokevirtual 79, 28, 13, 1, 9), none, none, some (.ireturn, 29, 0, 0, 0), some (.aload_n 0, 30, 0, 0, 0), some (.getfield 34, 33, 9, 4, 1), none, none, some (.iload_n 1, 34, 0, 0, 0), some (.invokevirtual 240, 37, 32, 1, 4), none, none, some (.iload_n 2, 38, 0, 0, 0), some (.invokevirtual 269, 41, 120, 1, 6), none, none, some (.ireturn, 42, 0, 0, 0)]

noncomputable def jt_119 : List (List (Option jm_I)) := [jt_119_0]

set_option maxRecDepth 20000 in
noncomputable def jt_120_0 : List (Option jm_I) := [some (.aload_n 0, 1, 0, 0, 0), some (.iconst 0, 2, 0, 0, 0), some (.iload_n 1, 3, 0, 0, 0), some (.iconst 1, 4, 0, 0, 0), some (.iadd, 5, 0, 0, 0), some (.i2l, 6, 0, 0, 0), some (.invokevirtual 32, 9, 45, 1, 6), none, none, some (.aload_n 0, 10, 0, 0, 0), some (.iload_n 1, 11, 0, 0, 0), some (.invokevirtual 36, 14, 118, 1, 6), none, none, some (.isub, 15, 0, 0, 0), some (.ireturn, 16, 0, 0, 0)]

noncomputable def jt_120 : List (List (Option jm_I)) := [jt_120_0]

set_option maxRecDepth 20000 in
noncomputable def jt_121_0 : List (Option jm_I) := [some (.aload_n 0, 1, 0, 0, 0), some (.getfield 22, 4, 9, 2, 1), none, none, some (.iload_n 1, 5, 0, 0, 0), some (.invokevirtual 123, 8, 27, 1, 2), none, none, some (.ifCond .ne 10, 11, 18, 0, 0), none, none, some (.aload_n 0, 12, 0, 0, 0), some (.bipush (-2), 14, 0, 0, 0), none, some (.invokevirtual 79, 17, 13, 1, 9), none, none, some (.ireturn, 18, 0, 0, 0), some (.aload_n 0, 19, 0, 0, 0), some (.getfield 34, 22, 9, 4, 1), none, none, some (.iload_n 1, 23, 0, 0, 0), some (.invokevirtual 240, 26, 32, 1, 4), none, none, some (.astore_n 2, 27, 0, 0, 0), some (.iconst (-1), 28, 0, 0, 0), some (.istore_n 3, 29, 0, 0, 0), some (.iconst 0, 30, 0, 0, 0), some (.istore 4, 32, 0, 0, 0), none, some (.iconst 0, 33, 0, 0, 0), some (.istore 5, 35, 0, 0, 0), none, some (.iload 5, 37, 0, 0, 0), none, some (.aload_n 0, 38, 0, 0, 0), some (.getfield 10, 41, 9, 0, 1), none, none, some (.getfield 144, 44, 8, 3, 0), none, none, some (.if_icmp .ge 31, 47, 75, 0, 0), none, none, some (.aload_n 2, 48, 0, 0, 0), some (.iload 5, 50, 0, 0, 0), none, some (.invokevirtual 269, 53, 120, 1, 6), none, none, some (.istore 6, 55, 0, 0, 0), none, some (.iload 6, 57, 0, 0, 0), none, some (.iload 4, 59, 0, 0, 0), none, some (.if_icmp .le 10, 62, 69, 0, 0), none, none, some (.iload 6, 64, 0, 0, 0), none]

set_option maxRecDepth 20000 in
noncomputable def jt_121_1 : List (Option jm_I) := [some (.istore 4, 66, 0, 0, 0), none, some (.iload 5, 68, 0, 0, 0), none, some (.istore_n 3, 69, 0, 0, 0), some (.iinc 5 1, 72, 0, 0, 0), none, none, some (.goto (-37), 75, 35, 0, 0), none, none, some (.iload_n 3, 76, 0, 0, 0), some (.ireturn, 77, 0, 0, 0)]

noncomputable def jt_121 : List (List (Option jm_I)) := [jt_121_0, jt_121_1]

set_option maxRecDepth 20000 in
noncomputable def jt_122_0 : List (Option jm_I) := [some (.aload_n 0, 1, 0, 0, 0), some (.getfield 22, 4, 9, 2, 1), none, none, some (.iload_n 1, 5, 0, 0, 0), some (.invokevirtual 123, 8, 27, 1, 2), none, none, some (.ifCond .eq 12, 11, 20, 0, 0), none, none, some (.iload_n 2, 12, 0, 0, 0), some (.ifCond .lt 8, 15, 20, 0, 0), none, none, some (.iload_n 2, 16, 0, 0, 0), some (.iconst 2, 17, 0, 0, 0), some (.if_icmp .le 10, 20, 27, 0, 0), none, none, some (.aload_n 0, 21, 0, 0, 0), some (.bipush (-2), 23, 0, 0, 0), none, some (.invokevirtual 79, 26, 13, 1, 9), none, none, some (.ireturn, 27, 0, 0, 0), some (.aload_n 0, 28, 0, 0, 0), some (.getfield 34, 31, 9, 4, 1), none, none, some (.iload_n 1, 32, 0, 0, 0), some (.invokevirtual 240, 35, 32, 1, 4), none, none, some (.astore_n 3, 36, 0, 0, 0), some (.iconst 0, 37, 0, 0, 0), some (.istore 4, 39, 0, 0, 0), none, some (.iconst 0, 40, 0, 0, 0), some (.istore 5, 42, 0, 0, 0), none, some (.iconst 0, 43, 0, 0, 0), some (.istore 6, 45, 0, 0, 0), none, some (.iconst 0, 46, 0, 0, 0), some (.istore 7, 48, 0, 0, 0), none, some (.iload 7, 50, 0, 0, 0), none, some (.aload_n 0, 51, 0, 0, 0), some (.getfield 10, 54, 9, 0, 1), none, none, some (.getfield 144, 57, 8, 3, 0), none, none, some (.if_icmp .ge 64, 60, 121, 0, 0), none, none, some (.aload_n 3, 61, 0, 0, 0), some (.iload 7, 63, 0, 0, 0), none, some (.invokevirtual 269, 66, 120, 1, 6)]

set_option maxRecDepth 20000 in
noncomputable def jt_122_1 : List (Option jm_I) := [none, none, some (.ifCond .le 7, 69, 73, 0, 0), none, none, some (.iconst 1, 70, 0, 0, 0), some (.goto 4, 73, 74, 0, 0), none, none, some (.iconst 0, 74, 0, 0, 0), some (.istore 8, 76, 0, 0, 0), none, some (.iload 4, 78, 0, 0, 0), none, some (.iload 8, 80, 0, 0, 0), none, some (.ifCond .eq 7, 83, 87, 0, 0), none, none, some (.iconst 1, 84, 0, 0, 0), some (.goto 4, 87, 88, 0, 0), none, none, some (.iconst 0, 88, 0, 0, 0), some (.iadd, 89, 0, 0, 0), some (.istore 4, 91, 0, 0, 0), none, some (.iload 8, 93, 0, 0, 0), none, some (.ifCond .eq 7, 96, 100, 0, 0), none, none, some (.iconst 0, 97, 0, 0, 0), some (.goto 7, 100, 104, 0, 0), none, none, some (.iload 5, 102, 0, 0, 0), none, some (.iconst 1, 103, 0, 0, 0), some (.iadd, 104, 0, 0, 0), some (.istore 5, 106, 0, 0, 0), none, some (.iload 6, 108, 0, 0, 0), none, some (.iload 5, 110, 0, 0, 0), none, some (.invokestatic 256, 113, 0, 13, 0), none, none, some (.istore 6, 115, 0, 0, 0), none, some (.iinc 7 1, 118, 0, 0, 0), none, none, some (.goto (-70), 121, 48, 0, 0), none, none, some (.iload_n 2, 122, 0, 0, 0), some (.ifCond .ne 8, 125, 130, 0, 0), none, none, some (.iload 4, 127, 0, 0, 0), none, some (.goto 23, 130, 150, 0, 0)]

set_option maxRecDepth 20000 in
noncomputable def jt_122_2 : List (Option jm_I) := [none, none, some (.iload_n 2, 131, 0, 0, 0), some (.iconst 1, 132, 0, 0, 0), some (.if_icmp .ne 16, 135, 148, 0, 0), none, none, some (.aload_n 0, 136, 0, 0, 0), some (.getfield 10, 139, 9, 0, 1), none, none, some (.getfield 144, 142, 8, 3, 0), none, none, some (.iload 4, 144, 0, 0, 0), none, some (.isub, 145, 0, 0, 0), some (.goto 5, 148, 150, 0, 0), none, none, some (.iload 6, 150, 0, 0, 0), none, some (.ireturn, 151, 0, 0, 0)]

noncomputable def jt_122 : List (List (Option jm_I)) := [jt_122_0, jt_122_1, jt_122_2]

set_option maxRecDepth 20000 in
noncomputable def jt_123_0 : List (Option jm_I) := [some (.aload_n 0, 1, 0, 0, 0), some (.getfield 22, 4, 9, 2, 1), none, none, some (.iload_n 1, 5, 0, 0, 0), some (.invokevirtual 123, 8, 27, 1, 2), none, none, some (.ifCond .eq 12, 11, 20, 0, 0), none, none, some (.iload_n 2, 12, 0, 0, 0), some (.ifCond .lt 8, 15, 20, 0, 0), none, none, some (.iload_n 2, 16, 0, 0, 0), some (.iconst 2, 17, 0, 0, 0), some (.if_icmp .le 10, 20, 27, 0, 0), none, none, some (.aload_n 0, 21, 0, 0, 0), some (.bipush (-2), 23, 0, 0, 0), none, some (.invokevirtual 79, 26, 13, 1, 9), none, none, some (.ireturn, 27, 0, 0, 0), some (.aload_n 0, 28, 0, 0, 0), some (.getfield 34, 31, 9, 4, 1), none, none, some (.iload_n 1, 32, 0, 0, 0), some (.invokevirtual 240, 35, 32, 1, 4), none, none, some (.astore_n 3, 36, 0, 0, 0), some (.aload_n 3, 37, 0, 0, 0), some (.getfield 244, 40, 6, 2, 0), none, none, some (.ifCond .ne 7, 43, 47, 0, 0), none, none, some (.iconst 0, 44, 0, 0, 0), some (.goto 5, 47, 49, 0, 0), none, none, some (.bipush 60, 49, 0, 0, 0), none, some (.istore 4, 51, 0, 0, 0), none, some (.iconst 0, 52, 0, 0, 0), some (.istore 5, 54, 0, 0, 0), none, some (.iconst 0, 55, 0, 0, 0), some (.istore 6, 57, 0, 0, 0), none, some (.iconst 0, 58, 0, 0, 0), some (.istore 7, 60, 0, 0, 0), none, some (.iload 7, 62, 0, 0, 0), none, some (.aload_n 3, 63, 0, 0, 0), some (.getfield 244, 66, 6, 2, 0)]

set_option maxRecDepth 20000 in
noncomputable def jt_123_1 : List (Option jm_I) := [none, none, some (.if_icmp .ge 42, 69, 108, 0, 0), none, none, some (.aload_n 3, 70, 0, 0, 0), some (.iload 7, 72, 0, 0, 0), none, some (.invokevirtual 272, 75, 41, 1, 6), none, none, some (.istore 8, 77, 0, 0, 0), none, some (.iload 4, 79, 0, 0, 0), none, some (.iload 8, 81, 0, 0, 0), none, some (.invokestatic 251, 84, 0, 14, 0), none, none, some (.istore 4, 86, 0, 0, 0), none, some (.iload 5, 88, 0, 0, 0), none, some (.iload 8, 90, 0, 0, 0), none, some (.invokestatic 256, 93, 0, 13, 0), none, none, some (.istore 5, 95, 0, 0, 0), none, some (.iload 6, 97, 0, 0, 0), none, some (.iload 8, 99, 0, 0, 0), none, some (.iadd, 100, 0, 0, 0), some (.istore 6, 102, 0, 0, 0), none, some (.iinc 7 1, 105, 0, 0, 0), none, none, some (.goto (-45), 108, 60, 0, 0), none, none, some (.iload_n 2, 109, 0, 0, 0), some (.ifCond .ne 8, 112, 117, 0, 0), none, none, some (.iload 4, 114, 0, 0, 0), none, some (.goto 15, 117, 129, 0, 0), none, none, some (.iload_n 2, 118, 0, 0, 0), some (.iconst 1, 119, 0, 0, 0), some (.if_icmp .ne 8, 122, 127, 0, 0), none, none, some (.iload 5, 124, 0, 0, 0), none, some (.goto 5, 127, 129, 0, 0), none, none, some (.iload 6, 129, 0, 0, 0)]

set_option maxRecDepth 20000 in
noncomputable def jt_123_2 : List (Option jm_I) := [none, some (.ireturn, 130, 0, 0, 0)]

noncomputable def jt_123 : List (List (Option jm_I)) := [jt_123_0, jt_123_1, jt_123_2]

set_option maxRecDepth 20000 in
noncomputable def jt_124_0 : List (Option jm_I) := [some (.aload_n 0, 1, 0, 0, 0), some (.getfield 22, 4, 9, 2, 1), none, none, some (.iload_n 1, 5, 0, 0, 0), some (.invokevirtual 123, 8, 27, 1, 2), none, none, some (.ifCond .eq 8, 11, 16, 0, 0), none, none, some (.iload_n 2, 12, 0, 0, 0), some (.iconst (-1), 13, 0, 0, 0), some (.if_icmp .ge 10, 16, 23, 0, 0), none, none, some (.aload_n 0, 17, 0, 0, 0), some (.bipush (-2), 19, 0, 0, 0), none, some (.invokevirtual 79, 22, 13, 1, 9), none, none, some (.ireturn, 23, 0, 0, 0), some (.aload_n 0, 24, 0, 0, 0), some (.getfield 34, 27, 9, 4, 1), none, none, some (.iload_n 1, 28, 0, 0, 0), some (.invokevirtual 240, 31, 32, 1, 4), none, none, some (.astore_n 3, 32, 0, 0, 0), some (.iload_n 2, 33, 0, 0, 0), some (.iconst (-1), 34, 0, 0, 0), some (.if_icmp .ne 8, 37, 42, 0, 0), none, none, some (.aload_n 3, 38, 0, 0, 0), some (.invokevirtual 275, 41, 125, 1, 6), none, none, some (.ireturn, 42, 0, 0, 0), some (.aload_n 3, 43, 0, 0, 0), some (.iload_n 2, 44, 0, 0, 0), some (.invokevirtual 278, 47, 126, 1, 6), none, none, some (.istore 4, 49, 0, 0, 0), none, some (.iload 4, 51, 0, 0, 0), none, some (.iconst (-1), 52, 0, 0, 0), some (.if_icmp .ne 12, 55, 64, 0, 0), none, none, some (.aload_n 0, 56, 0, 0, 0), some (.bipush (-2), 58, 0, 0, 0), none, some (.invokevirtual 79, 61, 13, 1, 9), none, none, some (.goto 5, 64, 66, 0, 0), none, none]

set_option maxRecDepth 20000 in
noncomputable def jt_124_1 : List (Option jm_I) := [some (.iload 4, 66, 0, 0, 0), none, some (.ireturn, 67, 0, 0, 0)]

noncomputable def jt_124 : List (List (Option jm_I)) := [jt_124_0, jt_124_1]

set_option maxRecDepth 20000 in
noncomputable def jt_125_0 : List (Option jm_I) := [some (.iconst 0, 1, 0, 0, 0), some (.istore_n 1, 2, 0, 0, 0), some (.iconst (-1), 3, 0, 0, 0), some (.istore_n 2, 4, 0, 0, 0), some (.iconst 0, 5, 0, 0, 0), some (.istore_n 3, 6, 0, 0, 0), some (.iload_n 3, 7, 0, 0, 0), some (.aload_n 0, 8, 0, 0, 0), some (.getfield 18, 11, 6, 2, 0), none, none, some (.if_icmp .ge 29, 14, 40, 0, 0), none, none, some (.aload_n 0, 15, 0, 0, 0), some (.getfield 9, 18, 6, 0, 1), none, none, some (.iload_n 3, 19, 0, 0, 0), some (.iaload, 20, 0, 0, 0), some (.iload_n 2, 21, 0, 0, 0), some (.if_icmp .le 13, 24, 34, 0, 0), none, none, some (.iinc 1 1, 27, 0, 0, 0), none, none, some (.aload_n 0, 28, 0, 0, 0), some (.getfield 15, 31, 6, 1, 1), none, none, some (.iload_n 3, 32, 0, 0, 0), some (.iaload, 33, 0, 0, 0), some (.istore_n 2, 34, 0, 0, 0), some (.iinc 3 1, 37, 0, 0, 0), none, none, some (.goto (-31), 40, 6, 0, 0), none, none, some (.iload_n 1, 41, 0, 0, 0), some (.ireturn, 42, 0, 0, 0)]

noncomputable def jt_125 : List (List (Option jm_I)) := [jt_125_0]

set_option maxRecDepth 20000 in
noncomputable def jt_126_0 : List (Option jm_I) := [some (.iconst 0, 1, 0, 0, 0), some (.istore_n 2, 2, 0, 0, 0), some (.iconst (-1), 3, 0, 0, 0), some (.istore_n 3, 4, 0, 0, 0), some (.iconst 0, 5, 0, 0, 0), some (.istore 4, 7, 0, 0, 0), none, some (.iload 4, 9, 0, 0, 0), none, some (.aload_n 0, 10, 0, 0, 0), some (.getfield 18, 13, 6, 2, 0), none, none, some (.if_icmp .ge 39, 16, 52, 0, 0), none, none, some (.aload_n 0, 17, 0, 0, 0), some (.getfield 9, 20, 6, 0, 1), none, none, some (.iload 4, 22, 0, 0, 0), none, some (.iaload, 23, 0, 0, 0), some (.iload_n 3, 24, 0, 0, 0), some (.if_icmp .le 22, 27, 46, 0, 0), none, none, some (.iload_n 2, 28, 0, 0, 0), some (.iload_n 1, 29, 0, 0, 0), some (.if_icmp .ne 6, 32, 35, 0, 0), none, none, some (.iload 4, 34, 0, 0, 0), none, some (.ireturn, 35, 0, 0, 0), some (.iinc 2 1, 38, 0, 0, 0), none, none, some (.aload_n 0, 39, 0, 0, 0), some (.getfield 15, 42, 6, 1, 1), none, none, some (.iload 4, 44, 0, 0, 0), none, some (.iaload, 45, 0, 0, 0), some (.istore_n 3, 46, 0, 0, 0), some (.iinc 4 1, 49, 0, 0, 0), none, none, some (.goto (-42), 52, 7, 0, 0), none, none, some (.iconst (-1), 53, 0, 0, 0), some (.ireturn, 54, 0, 0, 0)]

noncomputable def jt_126 : List (List (Option jm_I)) := [jt_126_0]

set_option maxRecDepth 20000 in
noncomputable def jt_127_0 : List (Option jm_I) := [some (.aload_n 0, 1, 0, 0, 0), some (.getfield 22, 4, 9, 2, 1), none, none, some (.iload_n 1, 5, 0, 0, 0), some (.invokevirtual 123, 8, 27, 1, 2), none, none, some (.ifCond .eq 8, 11, 16, 0, 0), none, none, some (.iload_n 2, 12, 0, 0, 0), some (.iconst (-1), 13, 0, 0, 0), some (.if_icmp .ge 10, 16, 23, 0, 0), none, none, some (.aload_n 0, 17, 0, 0, 0), some (.bipush (-2), 19, 0, 0, 0), none, some (.invokevirtual 79, 22, 13, 1, 9), none, none, some (.ireturn, 23, 0, 0, 0), some (.aload_n 0, 24, 0, 0, 0), some (.getfield 34, 27, 9, 4, 1), none, none, some (.iload_n 1, 28, 0, 0, 0), some (.invokevirtual 240, 31, 32, 1, 4), none, none, some (.astore_n 3, 32, 0, 0, 0), some (.iload_n 2, 33, 0, 0, 0), some (.iconst (-1), 34, 0, 0, 0), some (.if_icmp .ne 8, 37, 42, 0, 0), none, none, some (.aload_n 3, 38, 0, 0, 0), some (.invokevirtual 275, 41, 125, 1, 6), none, none, some (.ireturn, 42, 0, 0, 0), some (.aload_n 3, 43, 0, 0, 0), some (.iload_n 2, 44, 0, 0, 0), some (.invokevirtual 278, 47, 126, 1, 6), none, none, some (.istore 4, 49, 0, 0, 0), none, some (.iload 4, 51, 0, 0, 0), none, some (.iconst (-1), 52, 0, 0, 0), some (.if_icmp .ne 12, 55, 64, 0, 0), none, none, some (.aload_n 0, 56, 0, 0, 0), some (.bipush (-2), 58, 0, 0, 0), none, some (.invokevirtual 79, 61, 13, 1, 9), none, none, some (.goto 9, 64, 70, 0, 0), none, none]

set_option maxRecDepth 20000 in
noncomputable def jt_127_1 : List (Option jm_I) := [some (.aload_n 3, 65, 0, 0, 0), some (.iload 4, 67, 0, 0, 0), none, some (.invokevirtual 281, 70, 46, 1, 6), none, none, some (.ireturn, 71, 0, 0, 0)]

noncomputable def jt_127 : List (List (Option jm_I)) := [jt_127_0, jt_127_1]

set_option maxRecDepth 20000 in
noncomputable def jt_128_0 : List (Option jm_I) := [some (.aload_n 0, 1, 0, 0, 0), some (.getfield 22, 4, 9, 2, 1), none, none, some (.iload_n 1, 5, 0, 0, 0), some (.invokevirtual 123, 8, 27, 1, 2), none, none, some (.ifCond .eq 19, 11, 27, 0, 0), none, none, some (.iload_n 2, 12, 0, 0, 0), some (.ifCond .lt 15, 15, 27, 0, 0), none, none, some (.iload_n 2, 16, 0, 0, 0), some (.aload_n 0, 17, 0, 0, 0), some (.getfield 10, 20, 9, 0, 1), none, none, some (.iconst 2, 21, 0, 0, 0), some (.invokevirtual 284, 24, 129, 1, 8), none, none, some (.if_icmp .lt 10, 27, 34, 0, 0), none, none, some (.aload_n 0, 28, 0, 0, 0), some (.bipush (-2), 30, 0, 0, 0), none, some (.invokevirtual 79, 33, 13, 1, 9), none, none, some (.ireturn, 34, 0, 0, 0), some (.aload_n 0, 35, 0, 0, 0), some (.getfield 10, 38, 9, 0, 1), none, none, some (.iconst 1, 39, 0, 0, 0), some (.aload_n 0, 40, 0, 0, 0), some (.getfield 41, 43, 9, 5, 1), none, none, some (.invokevirtual 287, 46, 38, 1, 8), none, none, some (.aload_n 0, 47, 0, 0, 0), some (.aload_n 0, 48, 0, 0, 0), some (.getfield 34, 51, 9, 4, 1), none, none, some (.iload_n 1, 52, 0, 0, 0), some (.invokevirtual 240, 55, 32, 1, 4), none, none, some (.iload_n 2, 56, 0, 0, 0), some (.invokevirtual 291, 59, 130, 1, 9), none, none, some (.ireturn, 60, 0, 0, 0)]

noncomputable def jt_128 : List (List (Option jm_I)) := [jt_128_0]

set_option maxRecDepth 20000 in
noncomputable def jt_129_0 : List (Option jm_I) := [some (.aload_n 0, 1, 0, 0, 0), some (.getfield 31, 4, 8, 3, 0), none, none, some (.ifCond .ne 7, 7, 11, 0, 0), none, none, some (.iconst 0, 8, 0, 0, 0), some (.goto 16, 11, 24, 0, 0), none, none, some (.aload_n 0, 12, 0, 0, 0), some (.aload_n 0, 13, 0, 0, 0), some (.getfield 31, 16, 8, 3, 0), none, none, some (.iconst 1, 17, 0, 0, 0), some (.isub, 18, 0, 0, 0), some (.iload_n 1, 19, 0, 0, 0), some (.invokevirtual 34, 22, 112, 1, 8), none, none, some (.iconst 1, 23, 0, 0, 0), some (.iadd, 24, 0, 0, 0), some (.ireturn, 25, 0, 0, 0)]

noncomputable def jt_129 : List (List (Option jm_I)) := [jt_129_0]

set_option maxRecDepth 20000 in
noncomputable def jt_130_0 : List (Option jm_I) := [some (.aload_n 0, 1, 0, 0, 0), some (.getfield 41, 4, 9, 5, 1), none, none, some (.iload_n 2, 5, 0, 0, 0), some (.invokevirtual 245, 8, 47, 1, 6), none, none, some (.ifCond .ne 5, 11, 13, 0, 0), none, none, some (.iconst 0, 12, 0, 0, 0), some (.ireturn, 13, 0, 0, 0), some (.iconst 0, 14, 0, 0, 0), some (.istore_n 3, 15, 0, 0, 0), some (.aload_n 1, 16, 0, 0, 0), some (.aload_n 0, 17, 0, 0, 0), some (.getfield 41, 20, 9, 5, 1), none, none, some (.getfield 304, 23, 6, 1, 1), none, none, some (.iload_n 2, 24, 0, 0, 0), some (.iaload, 25, 0, 0, 0), some (.iconst 1, 26, 0, 0, 0), some (.iadd, 27, 0, 0, 0), some (.invokevirtual 266, 30, 118, 1, 6), none, none, some (.istore 4, 32, 0, 0, 0), none, some (.aload_n 1, 33, 0, 0, 0), some (.iconst 0, 34, 0, 0, 0), some (.aload_n 0, 35, 0, 0, 0), some (.getfield 41, 38, 9, 5, 1), none, none, some (.getfield 301, 41, 6, 0, 1), none, none, some (.iload_n 2, 42, 0, 0, 0), some (.iaload, 43, 0, 0, 0), some (.i2l, 44, 0, 0, 0), some (.invokevirtual 259, 47, 45, 1, 6), none, none, some (.istore 5, 49, 0, 0, 0), none, some (.iload 5, 51, 0, 0, 0), none, some (.iload 4, 53, 0, 0, 0), none, some (.if_icmp .ge 35, 56, 88, 0, 0), none, none, some (.aload_n 1, 57, 0, 0, 0), some (.iload 5, 59, 0, 0, 0), none, some (.invokevirtual 272, 62, 41, 1, 6), none, none, some (.istore 6, 64, 0, 0, 0), none]

set_option maxRecDepth 20000 in
noncomputable def jt_130_1 : List (Option jm_I) := [some (.iload_n 3, 65, 0, 0, 0), some (.iload 6, 67, 0, 0, 0), none, some (.ifCond .le 12, 70, 79, 0, 0), none, none, some (.sipush 5040, 73, 0, 0, 0), none, none, some (.iload 6, 75, 0, 0, 0), none, some (.idiv, 76, 0, 0, 0), some (.goto 4, 79, 80, 0, 0), none, none, some (.iconst 0, 80, 0, 0, 0), some (.iadd, 81, 0, 0, 0), some (.istore_n 3, 82, 0, 0, 0), some (.iinc 5 1, 85, 0, 0, 0), none, none, some (.goto (-36), 88, 49, 0, 0), none, none, some (.iload_n 3, 89, 0, 0, 0), some (.ireturn, 90, 0, 0, 0)]

noncomputable def jt_130 : List (List (Option jm_I)) := [jt_130_0, jt_130_1]

set_option maxRecDepth 20000 in
noncomputable def jt_131_0 : List (Option jm_I) := [some (.aload_n 0, 1, 0, 0, 0), some (.getfield 10, 4, 9, 0, 1), none, none, some (.iconst 2, 5, 0, 0, 0), some (.invokevirtual 284, 8, 129, 1, 8), none, none, some (.istore_n 3, 9, 0, 0, 0), some (.aload_n 0, 10, 0, 0, 0), some (.getfield 22, 13, 9, 2, 1), none, none, some (.iload_n 1, 14, 0, 0, 0), some (.invokevirtual 123, 17, 27, 1, 2), none, none, some (.ifCond .eq 12, 20, 29, 0, 0), none, none, some (.iload_n 2, 21, 0, 0, 0), some (.ifCond .lt 8, 24, 29, 0, 0), none, none, some (.iload_n 2, 25, 0, 0, 0), some (.iload_n 3, 26, 0, 0, 0), some (.if_icmp .lt 10, 29, 36, 0, 0), none, none, some (.aload_n 0, 30, 0, 0, 0), some (.bipush (-2), 32, 0, 0, 0), none, some (.invokevirtual 79, 35, 13, 1, 9), none, none, some (.ireturn, 36, 0, 0, 0), some (.aload_n 0, 37, 0, 0, 0), some (.getfield 34, 40, 9, 4, 1), none, none, some (.iload_n 1, 41, 0, 0, 0), some (.invokevirtual 240, 44, 32, 1, 4), none, none, some (.astore 4, 46, 0, 0, 0), none, some (.aload_n 0, 47, 0, 0, 0), some (.getfield 10, 50, 9, 0, 1), none, none, some (.iconst 1, 51, 0, 0, 0), some (.aload_n 0, 52, 0, 0, 0), some (.getfield 41, 55, 9, 5, 1), none, none, some (.invokevirtual 287, 58, 38, 1, 8), none, none, some (.iconst 0, 59, 0, 0, 0), some (.istore 5, 61, 0, 0, 0), none, some (.iload 5, 63, 0, 0, 0), none, some (.iload_n 3, 64, 0, 0, 0)]

set_option maxRecDepth 20000 in
noncomputable def jt_131_1 : List (Option jm_I) := [some (.if_icmp .ge 24, 67, 88, 0, 0), none, none, some (.aload_n 0, 68, 0, 0, 0), some (.getfield 45, 71, 9, 6, 1), none, none, some (.iload 5, 73, 0, 0, 0), none, some (.aload_n 0, 74, 0, 0, 0), some (.aload 4, 76, 0, 0, 0), none, some (.iload 5, 78, 0, 0, 0), none, some (.invokevirtual 291, 81, 130, 1, 9), none, none, some (.iastore, 82, 0, 0, 0), some (.iinc 5 1, 85, 0, 0, 0), none, none, some (.goto (-24), 88, 61, 0, 0), none, none, some (.iconst 0, 89, 0, 0, 0), some (.istore 5, 91, 0, 0, 0), none, some (.iload 5, 93, 0, 0, 0), none, some (.iload_n 3, 94, 0, 0, 0), some (.if_icmp .ge 23, 97, 117, 0, 0), none, none, some (.aload_n 0, 98, 0, 0, 0), some (.iload 5, 100, 0, 0, 0), none, some (.iload_n 3, 101, 0, 0, 0), some (.invokevirtual 295, 104, 132, 1, 9), none, none, some (.iload_n 2, 105, 0, 0, 0), some (.if_icmp .ne 6, 108, 111, 0, 0), none, none, some (.iload 5, 110, 0, 0, 0), none, some (.ireturn, 111, 0, 0, 0), some (.iinc 5 1, 114, 0, 0, 0), none, none, some (.goto (-23), 117, 91, 0, 0), none, none, some (.iconst (-1), 118, 0, 0, 0), some (.ireturn, 119, 0, 0, 0)]

noncomputable def jt_131 : List (List (Option jm_I)) := [jt_131_0, jt_131_1]

set_option maxRecDepth 20000 in
noncomputable def jt_132_0 : List (Option jm_I) := [some (.iconst 0, 1, 0, 0, 0), some (.istore_n 3, 2, 0, 0, 0), some (.iconst 0, 3, 0, 0, 0), some (.istore 4, 5, 0, 0, 0), none, some (.iload 4, 7, 0, 0, 0), none, some (.iload_n 2, 8, 0, 0, 0), some (.if_icmp .ge 62, 11, 70, 0, 0), none, none, some (.aload_n 0, 12, 0, 0, 0), some (.getfield 45, 15, 9, 6, 1), none, none, some (.iload 4, 17, 0, 0, 0), none, some (.iaload, 18, 0, 0, 0), some (.aload_n 0, 19, 0, 0, 0), some (.getfield 45, 22, 9, 6, 1), none, none, some (.iload_n 1, 23, 0, 0, 0), some (.iaload, 24, 0, 0, 0), some (.if_icmp .le 7, 27, 31, 0, 0), none, none, some (.iconst 1, 28, 0, 0, 0), some (.goto 4, 31, 32, 0, 0), none, none, some (.iconst 0, 32, 0, 0, 0), some (.istore 5, 34, 0, 0, 0), none, some (.iload 5, 36, 0, 0, 0), none, some (.ifCond .ne 25, 39, 61, 0, 0), none, none, some (.iload 4, 41, 0, 0, 0), none, some (.iload_n 1, 42, 0, 0, 0), some (.if_icmp .ge 22, 45, 64, 0, 0), none, none, some (.aload_n 0, 46, 0, 0, 0), some (.getfield 45, 49, 9, 6, 1), none, none, some (.iload 4, 51, 0, 0, 0), none, some (.iaload, 52, 0, 0, 0), some (.aload_n 0, 53, 0, 0, 0), some (.getfield 45, 56, 9, 6, 1), none, none, some (.iload_n 1, 57, 0, 0, 0), some (.iaload, 58, 0, 0, 0), some (.if_icmp .ne 6, 61, 64, 0, 0), none, none, some (.iinc 3 1, 64, 0, 0, 0), none, none]

set_option maxRecDepth 20000 in
noncomputable def jt_132_1 : List (Option jm_I) := [some (.iinc 4 1, 67, 0, 0, 0), none, none, some (.goto (-62), 70, 5, 0, 0), none, none, some (.iload_n 3, 71, 0, 0, 0), some (.ireturn, 72, 0, 0, 0)]

noncomputable def jt_132 : List (List (Option jm_I)) := [jt_132_0, jt_132_1]

set_option maxRecDepth 20000 in
noncomputable def jt_133_0 : List (Option jm_I) := [some (.aload_n 0, 1, 0, 0, 0), some (.getfield 22, 4, 9, 2, 1), none, none, some (.iload_n 1, 5, 0, 0, 0), some (.invokevirtual 123, 8, 27, 1, 2), none, none, some (.ifCond .eq 23, 11, 31, 0, 0), none, none, some (.iload_n 2, 12, 0, 0, 0), some (.iconst 1, 13, 0, 0, 0), some (.if_icmp .lt 18, 16, 31, 0, 0), none, none, some (.iload_n 2, 17, 0, 0, 0), some (.bipush 60, 19, 0, 0, 0), none, some (.if_icmp .gt 12, 22, 31, 0, 0), none, none, some (.iload_n 3, 23, 0, 0, 0), some (.ifCond .lt 8, 26, 31, 0, 0), none, none, some (.iload_n 3, 27, 0, 0, 0), some (.iconst 1, 28, 0, 0, 0), some (.if_icmp .le 10, 31, 38, 0, 0), none, none, some (.aload_n 0, 32, 0, 0, 0), some (.bipush (-2), 34, 0, 0, 0), none, some (.invokevirtual 79, 37, 13, 1, 9), none, none, some (.ireturn, 38, 0, 0, 0), some (.aload_n 0, 39, 0, 0, 0), some (.getfield 34, 42, 9, 4, 1), none, none, some (.iload_n 1, 43, 0, 0, 0), some (.invokevirtual 240, 46, 32, 1, 4), none, none, some (.astore 4, 48, 0, 0, 0), none, some (.iconst 0, 49, 0, 0, 0), some (.istore 5, 51, 0, 0, 0), none, some (.aload 4, 53, 0, 0, 0), none, some (.iconst 0, 54, 0, 0, 0), some (.iload_n 2, 55, 0, 0, 0), some (.iconst 1, 56, 0, 0, 0), some (.isub, 57, 0, 0, 0), some (.invokevirtual 298, 60, 134, 1, 6), none, none, some (.istore 6, 62, 0, 0, 0), none, some (.iconst 1, 63, 0, 0, 0), some (.istore 7, 65, 0, 0, 0)]

set_option maxRecDepth 20000 in
noncomputable def jt_133_1 : List (Option jm_I) := [none, some (.iload 7, 67, 0, 0, 0), none, some (.iload_n 2, 68, 0, 0, 0), some (.iadd, 69, 0, 0, 0), some (.aload_n 0, 70, 0, 0, 0), some (.getfield 10, 73, 9, 0, 1), none, none, some (.getfield 144, 76, 8, 3, 0), none, none, some (.if_icmp .gt 39, 79, 115, 0, 0), none, none, some (.aload 4, 81, 0, 0, 0), none, some (.iload 7, 83, 0, 0, 0), none, some (.iload 7, 85, 0, 0, 0), none, some (.iload_n 2, 86, 0, 0, 0), some (.iadd, 87, 0, 0, 0), some (.iconst 1, 88, 0, 0, 0), some (.isub, 89, 0, 0, 0), some (.invokevirtual 298, 92, 134, 1, 6), none, none, some (.istore 8, 94, 0, 0, 0), none, some (.iload 8, 96, 0, 0, 0), none, some (.iload 6, 98, 0, 0, 0), none, some (.if_icmp .le 11, 101, 109, 0, 0), none, none, some (.iload 8, 103, 0, 0, 0), none, some (.istore 6, 105, 0, 0, 0), none, some (.iload 7, 107, 0, 0, 0), none, some (.istore 5, 109, 0, 0, 0), none, some (.iinc 7 1, 112, 0, 0, 0), none, none, some (.goto (-47), 115, 65, 0, 0), none, none, some (.iload_n 3, 116, 0, 0, 0), some (.ifCond .ne 8, 119, 124, 0, 0), none, none, some (.iload 5, 121, 0, 0, 0), none, some (.goto 5, 124, 126, 0, 0), none, none, some (.iload 6, 126, 0, 0, 0), none, some (.ireturn, 127, 0, 0, 0)]

noncomputable def jt_133 : List (List (Option jm_I)) := [jt_133_0, jt_133_1]

set_option maxRecDepth 20000 in
noncomputable def jt_134_0 : List (Option jm_I) := [some (.iconst 0, 1, 0, 0, 0), some (.aload_n 0, 2, 0, 0, 0), some (.iload_n 2, 3, 0, 0, 0), some (.iconst 1, 4, 0, 0, 0), some (.iadd, 5, 0, 0, 0), some (.invokevirtual 36, 8, 118, 1, 6), none, none, some (.aload_n 0, 9, 0, 0, 0), some (.iconst 0, 10, 0, 0, 0), some (.iload_n 1, 11, 0, 0, 0), some (.i2l, 12, 0, 0, 0), some (.invokevirtual 32, 15, 45, 1, 6), none, none, some (.isub, 16, 0, 0, 0), some (.invokestatic 40, 19, 0, 13, 0), none, none, some (.ireturn, 20, 0, 0, 0)]

noncomputable def jt_134 : List (List (Option jm_I)) := [jt_134_0]

set_option maxRecDepth 20000 in
noncomputable def jt_135_0 : List (Option jm_I) := [some (.aload_n 0, 1, 0, 0, 0), some (.getfield 22, 4, 9, 2, 1), none, none, some (.iload_n 1, 5, 0, 0, 0), some (.invokevirtual 123, 8, 27, 1, 2), none, none, some (.ifCond .eq 14, 11, 22, 0, 0), none, none, some (.aload_n 0, 12, 0, 0, 0), some (.getfield 22, 15, 9, 2, 1), none, none, some (.iload_n 2, 16, 0, 0, 0), some (.invokevirtual 123, 19, 27, 1, 2), none, none, some (.ifCond .ne 10, 22, 29, 0, 0), none, none, some (.aload_n 0, 23, 0, 0, 0), some (.bipush (-2), 25, 0, 0, 0), none, some (.invokevirtual 79, 28, 13, 1, 9), none, none, some (.ireturn, 29, 0, 0, 0), some (.aload_n 0, 30, 0, 0, 0), some (.getfield 34, 33, 9, 4, 1), none, none, some (.iload_n 1, 34, 0, 0, 0), some (.invokevirtual 240, 37, 32, 1, 4), none, none, some (.astore_n 3, 38, 0, 0, 0), some (.aload_n 0, 39, 0, 0, 0), some (.getfield 34, 42, 9, 4, 1), none, none, some (.iload_n 2, 43, 0, 0, 0), some (.invokevirtual 240, 46, 32, 1, 4), none, none, some (.astore 4, 48, 0, 0, 0), none, some (.bipush 60, 50, 0, 0, 0), none, some (.istore 5, 52, 0, 0, 0), none, some (.iconst 0, 53, 0, 0, 0), some (.istore 6, 55, 0, 0, 0), none, some (.iload 6, 57, 0, 0, 0), none, some (.aload_n 3, 58, 0, 0, 0), some (.getfield 244, 61, 6, 2, 0), none, none, some (.if_icmp .ge 86, 64, 147, 0, 0), none, none]

set_option maxRecDepth 20000 in
noncomputable def jt_135_1 : List (Option jm_I) := [some (.iconst 0, 65, 0, 0, 0), some (.istore 7, 67, 0, 0, 0), none, some (.iload 7, 69, 0, 0, 0), none, some (.aload 4, 71, 0, 0, 0), none, some (.getfield 244, 74, 6, 2, 0), none, none, some (.if_icmp .ge 67, 77, 141, 0, 0), none, none, some (.aload_n 3, 78, 0, 0, 0), some (.getfield 301, 81, 6, 0, 1), none, none, some (.iload 6, 83, 0, 0, 0), none, some (.iaload, 84, 0, 0, 0), some (.aload 4, 86, 0, 0, 0), none, some (.getfield 301, 89, 6, 0, 1), none, none, some (.iload 7, 91, 0, 0, 0), none, some (.iaload, 92, 0, 0, 0), some (.invokestatic 256, 95, 0, 13, 0), none, none, some (.istore 8, 97, 0, 0, 0), none, some (.aload_n 3, 98, 0, 0, 0), some (.getfield 304, 101, 6, 1, 1), none, none, some (.iload 6, 103, 0, 0, 0), none, some (.iaload, 104, 0, 0, 0), some (.aload 4, 106, 0, 0, 0), none, some (.getfield 304, 109, 6, 1, 1), none, none, some (.iload 7, 111, 0, 0, 0), none, some (.iaload, 112, 0, 0, 0), some (.invokestatic 251, 115, 0, 14, 0), none, none, some (.istore 9, 117, 0, 0, 0), none, some (.iload 5, 119, 0, 0, 0), none, some (.iconst 0, 120, 0, 0, 0), some (.iload 8, 122, 0, 0, 0), none, some (.iload 9, 124, 0, 0, 0), none, some (.isub, 125, 0, 0, 0), some (.iconst 1, 126, 0, 0, 0), some (.isub, 127, 0, 0, 0), some (.invokestatic 256, 130, 0, 13, 0)]

set_option maxRecDepth 20000 in
noncomputable def jt_135_2 : List (Option jm_I) := [none, none, some (.invokestatic 251, 133, 0, 14, 0), none, none, some (.istore 5, 135, 0, 0, 0), none, some (.iinc 7 1, 138, 0, 0, 0), none, none, some (.goto (-71), 141, 67, 0, 0), none, none, some (.iinc 6 1, 144, 0, 0, 0), none, none, some (.goto (-89), 147, 55, 0, 0), none, none, some (.iload 5, 149, 0, 0, 0), none, some (.bipush 60, 151, 0, 0, 0), none, some (.if_icmp .ne 7, 154, 158, 0, 0), none, none, some (.iconst (-1), 155, 0, 0, 0), some (.goto 5, 158, 160, 0, 0), none, none, some (.iload 5, 160, 0, 0, 0), none, some (.ireturn, 161, 0, 0, 0)]

noncomputable def jt_135 : List (List (Option jm_I)) := [jt_135_0, jt_135_1, jt_135_2]

set_option maxRecDepth 20000 in
noncomputable def jt_136_0 : List (Option jm_I) := [some (.aload_n 0, 1, 0, 0, 0), some (.getfield 22, 4, 9, 2, 1), none, none, some (.iload_n 1, 5, 0, 0, 0), some (.invokevirtual 123, 8, 27, 1, 2), none, none, some (.ifCond .eq 23, 11, 31, 0, 0), none, none, some (.aload_n 0, 12, 0, 0, 0), some (.getfield 22, 15, 9, 2, 1), none, none, some (.iload_n 2, 16, 0, 0, 0), some (.invokevirtual 123, 19, 27, 1, 2), none, none, some (.ifCond .eq 12, 22, 31, 0, 0), none, none, some (.iload_n 3, 23, 0, 0, 0), some (.ifCond .lt 8, 26, 31, 0, 0), none, none, some (.iload_n 3, 27, 0, 0, 0), some (.iconst 2, 28, 0, 0, 0), some (.if_icmp .le 10, 31, 38, 0, 0), none, none, some (.aload_n 0, 32, 0, 0, 0), some (.bipush (-2), 34, 0, 0, 0), none, some (.invokevirtual 79, 37, 13, 1, 9), none, none, some (.ireturn, 38, 0, 0, 0), some (.aload_n 0, 39, 0, 0, 0), some (.getfield 34, 42, 9, 4, 1), none, none, some (.iload_n 1, 43, 0, 0, 0), some (.invokevirtual 240, 46, 32, 1, 4), none, none, some (.astore 4, 48, 0, 0, 0), none, some (.aload_n 0, 49, 0, 0, 0), some (.getfield 34, 52, 9, 4, 1), none, none, some (.iload_n 2, 53, 0, 0, 0), some (.invokevirtual 240, 56, 32, 1, 4), none, none, some (.astore 5, 58, 0, 0, 0), none, some (.iload_n 3, 59, 0, 0, 0), some (.iconst 2, 60, 0, 0, 0), some (.if_icmp .ne 11, 63, 71, 0, 0), none, none, some (.aload 4, 65, 0, 0, 0)]

set_option maxRecDepth 20000 in
noncomputable def jt_136_1 : List (Option jm_I) := [none, some (.aload 5, 67, 0, 0, 0), none, some (.invokevirtual 307, 70, 137, 1, 6), none, none, some (.ireturn, 71, 0, 0, 0), some (.aload_n 0, 72, 0, 0, 0), some (.getfield 34, 75, 9, 4, 1), none, none, some (.iload_n 3, 76, 0, 0, 0), some (.ifCond .ne 7, 79, 83, 0, 0), none, none, some (.iconst 5, 80, 0, 0, 0), some (.goto 5, 83, 85, 0, 0), none, none, some (.bipush 7, 85, 0, 0, 0), none, some (.aload 4, 87, 0, 0, 0), none, some (.aload 5, 89, 0, 0, 0), none, some (.aload_n 0, 90, 0, 0, 0), some (.getfield 41, 93, 9, 5, 1), none, none, some (.invokevirtual 311, 96, 53, 1, 4), none, none, some (.aload_n 0, 97, 0, 0, 0), some (.getfield 41, 100, 9, 5, 1), none, none, some (.getfield 244, 103, 6, 2, 0), none, none, some (.ireturn, 104, 0, 0, 0)]

noncomputable def jt_136 : List (List (Option jm_I)) := [jt_136_0, jt_136_1]

set_option maxRecDepth 20000 in
noncomputable def jt_137_0 : List (Option jm_I) := [some (.iconst 0, 1, 0, 0, 0), some (.istore_n 2, 2, 0, 0, 0), some (.iconst 0, 3, 0, 0, 0), some (.istore_n 3, 4, 0, 0, 0), some (.iconst 0, 5, 0, 0, 0), some (.istore 4, 7, 0, 0, 0), none, some (.iload 4, 9, 0, 0, 0), none, some (.aload_n 0, 10, 0, 0, 0), some (.getfield 18, 13, 6, 2, 0), none, none, some (.if_icmp .ge 48, 16, 61, 0, 0), none, none, some (.aload_n 1, 17, 0, 0, 0), some (.iload_n 3, 18, 0, 0, 0), some (.aload_n 0, 19, 0, 0, 0), some (.getfield 9, 22, 6, 0, 1), none, none, some (.iload 4, 24, 0, 0, 0), none, some (.iaload, 25, 0, 0, 0), some (.i2l, 26, 0, 0, 0), some (.invokevirtual 32, 29, 45, 1, 6), none, none, some (.istore_n 3, 30, 0, 0, 0), some (.aload_n 1, 31, 0, 0, 0), some (.iload_n 3, 32, 0, 0, 0), some (.invokevirtual 28, 35, 47, 1, 6), none, none, some (.ifCond .eq 20, 38, 55, 0, 0), none, none, some (.aload_n 0, 39, 0, 0, 0), some (.iload 4, 41, 0, 0, 0), none, some (.invokevirtual 49, 44, 115, 1, 6), none, none, some (.aload_n 1, 45, 0, 0, 0), some (.iload_n 3, 46, 0, 0, 0), some (.invokevirtual 49, 49, 115, 1, 6), none, none, some (.if_icmp .ne 6, 52, 55, 0, 0), none, none, some (.iinc 2 1, 55, 0, 0, 0), none, none, some (.iinc 4 1, 58, 0, 0, 0), none, none, some (.goto (-51), 61, 7, 0, 0), none, none, some (.iload_n 2, 62, 0, 0, 0), some (.ireturn, 63, 0, 0, 0)]

noncomputable def jt_137 : List (List (Option jm_I)) := [jt_137_0]

set_option maxRecDepth 20000 in
noncomputable def jt_138_0 : List (Option jm_I) := [some (.aload_n 0, 1, 0, 0, 0), some (.getfield 22, 4, 9, 2, 1), none, none, some (.iload_n 1, 5, 0, 0, 0), some (.invokevirtual 123, 8, 27, 1, 2), none, none, some (.ifCond .eq 14, 11, 22, 0, 0), none, none, some (.aload_n 0, 12, 0, 0, 0), some (.getfield 22, 15, 9, 2, 1), none, none, some (.iload_n 2, 16, 0, 0, 0), some (.invokevirtual 123, 19, 27, 1, 2), none, none, some (.ifCond .ne 10, 22, 29, 0, 0), none, none, some (.aload_n 0, 23, 0, 0, 0), some (.bipush (-2), 25, 0, 0, 0), none, some (.invokevirtual 79, 28, 13, 1, 9), none, none, some (.ireturn, 29, 0, 0, 0), some (.aload_n 0, 30, 0, 0, 0), some (.getfield 34, 33, 9, 4, 1), none, none, some (.iload_n 1, 34, 0, 0, 0), some (.invokevirtual 240, 37, 32, 1, 4), none, none, some (.aload_n 0, 38, 0, 0, 0), some (.getfield 34, 41, 9, 4, 1), none, none, some (.iload_n 2, 42, 0, 0, 0), some (.invokevirtual 240, 45, 32, 1, 4), none, none, some (.invokevirtual 315, 48, 139, 1, 6), none, none, some (.ireturn, 49, 0, 0, 0)]

noncomputable def jt_138 : List (List (Option jm_I)) := [jt_138_0]

set_option maxRecDepth 20000 in
noncomputable def jt_139_0 : List (Option jm_I) := [some (.aload_n 0, 1, 0, 0, 0), some (.getfield 18, 4, 6, 2, 0), none, none, some (.aload_n 1, 5, 0, 0, 0), some (.getfield 18, 8, 6, 2, 0), none, none, some (.invokestatic 46, 11, 0, 14, 0), none, none, some (.istore_n 2, 12, 0, 0, 0), some (.iconst 0, 13, 0, 0, 0), some (.istore_n 3, 14, 0, 0, 0), some (.iload_n 3, 15, 0, 0, 0), some (.iload_n 2, 16, 0, 0, 0), some (.if_icmp .ge 24, 19, 40, 0, 0), none, none, some (.aload_n 0, 20, 0, 0, 0), some (.iload_n 3, 21, 0, 0, 0), some (.invokevirtual 49, 24, 115, 1, 6), none, none, some (.aload_n 1, 25, 0, 0, 0), some (.iload_n 3, 26, 0, 0, 0), some (.invokevirtual 49, 29, 115, 1, 6), none, none, some (.if_icmp .eq 5, 32, 34, 0, 0), none, none, some (.iload_n 3, 33, 0, 0, 0), some (.ireturn, 34, 0, 0, 0), some (.iinc 3 1, 37, 0, 0, 0), none, none, some (.goto (-23), 40, 14, 0, 0), none, none, some (.aload_n 0, 41, 0, 0, 0), some (.getfield 18, 44, 6, 2, 0), none, none, some (.aload_n 1, 45, 0, 0, 0), some (.getfield 18, 48, 6, 2, 0), none, none, some (.if_icmp .ne 7, 51, 55, 0, 0), none, none, some (.iconst (-1), 52, 0, 0, 0), some (.goto 4, 55, 56, 0, 0), none, none, some (.iload_n 2, 56, 0, 0, 0), some (.ireturn, 57, 0, 0, 0)]

noncomputable def jt_139 : List (List (Option jm_I)) := [jt_139_0]

set_option maxRecDepth 20000 in
noncomputable def jt_140_0 : List (Option jm_I) := [some (.aload_n 0, 1, 0, 0, 0), some (.getfield 22, 4, 9, 2, 1), none, none, some (.iload_n 1, 5, 0, 0, 0), some (.invokevirtual 123, 8, 27, 1, 2), none, none, some (.ifCond .ne 10, 11, 18, 0, 0), none, none, some (.aload_n 0, 12, 0, 0, 0), some (.bipush (-2), 14, 0, 0, 0), none, some (.invokevirtual 79, 17, 13, 1, 9), none, none, some (.ireturn, 18, 0, 0, 0), some (.aload_n 0, 19, 0, 0, 0), some (.getfield 34, 22, 9, 4, 1), none, none, some (.iload_n 1, 23, 0, 0, 0), some (.invokevirtual 240, 26, 32, 1, 4), none, none, some (.astore_n 2, 27, 0, 0, 0), some (.iconst 0, 28, 0, 0, 0), some (.istore_n 3, 29, 0, 0, 0), some (.iload_n 3, 30, 0, 0, 0), some (.iload_n 1, 31, 0, 0, 0), some (.if_icmp .ge 27, 34, 58, 0, 0), none, none, some (.aload_n 0, 35, 0, 0, 0), some (.getfield 34, 38, 9, 4, 1), none, none, some (.iload_n 3, 39, 0, 0, 0), some (.invokevirtual 240, 42, 32, 1, 4), none, none, some (.aload_n 2, 43, 0, 0, 0), some (.invokevirtual 315, 46, 139, 1, 6), none, none, some (.iconst (-1), 47, 0, 0, 0), some (.if_icmp .ne 5, 50, 52, 0, 0), none, none, some (.iload_n 3, 51, 0, 0, 0), some (.ireturn, 52, 0, 0, 0), some (.iinc 3 1, 55, 0, 0, 0), none, none, some (.goto (-26), 58, 29, 0, 0), none, none, some (.iload_n 1, 59, 0, 0, 0), some (.ireturn, 60, 0, 0, 0)]

noncomputable def jt_140 : List (List (Option jm_I)) := [jt_140_0]

set_option maxRecDepth 20000 in
noncomputable def jt_141_0 : List (Option jm_I) := [some (.aload_n 0, 1, 0, 0, 0), some (.getfield 22, 4, 9, 2, 1), none, none, some (.iload_n 1, 5, 0, 0, 0), some (.invokevirtual 123, 8, 27, 1, 2), none, none, some (.ifCond .ne 10, 11, 18, 0, 0), none, none, some (.aload_n 0, 12, 0, 0, 0), some (.bipush (-2), 14, 0, 0, 0), none, some (.invokevirtual 79, 17, 13, 1, 9), none, none, some (.ireturn, 18, 0, 0, 0), some (.aload_n 0, 19, 0, 0, 0), some (.getfield 34, 22, 9, 4, 1), none, none, some (.iload_n 1, 23, 0, 0, 0), some (.invokevirtual 240, 26, 32, 1, 4), none, none, some (.astore_n 2, 27, 0, 0, 0), some (.iconst 0, 28, 0, 0, 0), some (.istore_n 3, 29, 0, 0, 0), some (.iconst 0, 30, 0, 0, 0), some (.istore 4, 32, 0, 0, 0), none, some (.iload 4, 34, 0, 0, 0), none, some (.aload_n 0, 35, 0, 0, 0), some (.getfield 22, 38, 9, 2, 1), none, none, some (.getfield 191, 41, 2, 1, 0), none, none, some (.if_icmp .ge 57, 44, 98, 0, 0), none, none, some (.aload_n 0, 45, 0, 0, 0), some (.getfield 34, 48, 9, 4, 1), none, none, some (.iload 4, 50, 0, 0, 0), none, some (.invokevirtual 240, 53, 32, 1, 4), none, none, some (.astore 5, 55, 0, 0, 0), none, some (.aload_n 0, 56, 0, 0, 0), some (.getfield 34, 59, 9, 4, 1), none, none, some (.iconst 5, 60, 0, 0, 0), some (.aload 5, 62, 0, 0, 0), none, some (.aload_n 2, 63, 0, 0, 0), some (.aload_n 0, 64, 0, 0, 0)]

set_option maxRecDepth 20000 in
noncomputable def jt_141_1 : List (Option jm_I) := [some (.getfield 41, 67, 9, 5, 1), none, none, some (.invokevirtual 311, 70, 53, 1, 4), none, none, some (.aload_n 0, 71, 0, 0, 0), some (.getfield 41, 74, 9, 5, 1), none, none, some (.getfield 244, 77, 6, 2, 0), none, none, some (.aload 5, 79, 0, 0, 0), none, some (.getfield 244, 82, 6, 2, 0), none, none, some (.if_icmp .ne 10, 85, 92, 0, 0), none, none, some (.iload_n 3, 86, 0, 0, 0), some (.iconst 1, 87, 0, 0, 0), some (.iload 4, 89, 0, 0, 0), none, some (.ishl, 90, 0, 0, 0), some (.ior, 91, 0, 0, 0), some (.istore_n 3, 92, 0, 0, 0), some (.iinc 4 1, 95, 0, 0, 0), none, none, some (.goto (-63), 98, 32, 0, 0), none, none, some (.iload_n 3, 99, 0, 0, 0), some (.ireturn, 100, 0, 0, 0)]

noncomputable def jt_141 : List (List (Option jm_I)) := [jt_141_0, jt_141_1]

set_option maxRecDepth 20000 in
noncomputable def jt_142_0 : List (Option jm_I) := [some (.aload_n 0, 1, 0, 0, 0), some (.getfield 22, 4, 9, 2, 1), none, none, some (.iload_n 1, 5, 0, 0, 0), some (.invokevirtual 123, 8, 27, 1, 2), none, none, some (.ifCond .eq 12, 11, 20, 0, 0), none, none, some (.iload_n 2, 12, 0, 0, 0), some (.ifCond .lt 8, 15, 20, 0, 0), none, none, some (.iload_n 2, 16, 0, 0, 0), some (.iconst 2, 17, 0, 0, 0), some (.if_icmp .le 10, 20, 27, 0, 0), none, none, some (.aload_n 0, 21, 0, 0, 0), some (.bipush (-2), 23, 0, 0, 0), none, some (.invokevirtual 79, 26, 13, 1, 9), none, none, some (.ireturn, 27, 0, 0, 0), some (.aload_n 0, 28, 0, 0, 0), some (.getfield 34, 31, 9, 4, 1), none, none, some (.iload_n 1, 32, 0, 0, 0), some (.invokevirtual 240, 35, 32, 1, 4), none, none, some (.getfield 244, 38, 6, 2, 0), none, none, some (.istore_n 3, 39, 0, 0, 0), some (.iconst 0, 40, 0, 0, 0), some (.istore 4, 42, 0, 0, 0), none, some (.iconst 0, 43, 0, 0, 0), some (.istore 5, 45, 0, 0, 0), none, some (.iload 5, 47, 0, 0, 0), none, some (.bipush 16, 49, 0, 0, 0), none, some (.if_icmp .ge 84, 52, 133, 0, 0), none, none, some (.aload_n 0, 53, 0, 0, 0), some (.getfield 34, 56, 9, 4, 1), none, none, some (.iload_n 1, 57, 0, 0, 0), some (.iload 5, 59, 0, 0, 0), none, some (.invokevirtual 318, 62, 143, 1, 4), none, none, some (.istore 6, 64, 0, 0, 0), none]

set_option maxRecDepth 20000 in
noncomputable def jt_142_1 : List (Option jm_I) := [some (.iload_n 2, 65, 0, 0, 0), some (.ifCond .ne 16, 68, 81, 0, 0), none, none, some (.iload 6, 70, 0, 0, 0), none, some (.ifCond .ne 7, 73, 77, 0, 0), none, none, some (.iconst 1, 74, 0, 0, 0), some (.goto 37, 77, 111, 0, 0), none, none, some (.iconst 0, 78, 0, 0, 0), some (.goto 33, 81, 111, 0, 0), none, none, some (.iload_n 2, 82, 0, 0, 0), some (.iconst 1, 83, 0, 0, 0), some (.if_icmp .ne 17, 86, 100, 0, 0), none, none, some (.iload 6, 88, 0, 0, 0), none, some (.iload_n 3, 89, 0, 0, 0), some (.if_icmp .le 7, 92, 96, 0, 0), none, none, some (.iconst 1, 93, 0, 0, 0), some (.goto 18, 96, 111, 0, 0), none, none, some (.iconst 0, 97, 0, 0, 0), some (.goto 14, 100, 111, 0, 0), none, none, some (.iload 6, 102, 0, 0, 0), none, some (.iload_n 3, 103, 0, 0, 0), some (.if_icmp .ge 7, 106, 110, 0, 0), none, none, some (.iconst 1, 107, 0, 0, 0), some (.goto 4, 110, 111, 0, 0), none, none, some (.iconst 0, 111, 0, 0, 0), some (.istore 7, 113, 0, 0, 0), none, some (.iload 7, 115, 0, 0, 0), none, some (.ifCond .eq 12, 118, 127, 0, 0), none, none, some (.iload 4, 120, 0, 0, 0), none, some (.iconst 1, 121, 0, 0, 0), some (.iload 5, 123, 0, 0, 0), none, some (.ishl, 124, 0, 0, 0), some (.ior, 125, 0, 0, 0), some (.istore 4, 127, 0, 0, 0), none, some (.iinc 5 1, 130, 0, 0, 0)]

set_option maxRecDepth 20000 in
noncomputable def jt_142_2 : List (Option jm_I) := [none, none, some (.goto (-85), 133, 45, 0, 0), none, none, some (.iload 4, 135, 0, 0, 0), none, some (.ireturn, 136, 0, 0, 0)]

noncomputable def jt_142 : List (List (Option jm_I)) := [jt_142_0, jt_142_1, jt_142_2]

set_option maxRecDepth 20000 in
noncomputable def jt_143_0 : List (Option jm_I) := [some (.aload_n 0, 1, 0, 0, 0), some (.iload_n 2, 2, 0, 0, 0), some (.putfield 29, 5, 4, 6, 0), none, none, some (.aload_n 0, 6, 0, 0, 0), some (.invokevirtual 63, 9, 59, 1, 4), none, none, some (.aload_n 0, 10, 0, 0, 0), some (.iload_n 1, 11, 0, 0, 0), some (.invokevirtual 66, 14, 32, 1, 4), none, none, some (.getfield 70, 17, 6, 2, 0), none, none, some (.istore_n 3, 18, 0, 0, 0), some (.aload_n 0, 19, 0, 0, 0), some (.iconst (-1), 20, 0, 0, 0), some (.putfield 29, 23, 4, 6, 0), none, none, some (.aload_n 0, 24, 0, 0, 0), some (.invokevirtual 63, 27, 59, 1, 4), none, none, some (.iload_n 3, 28, 0, 0, 0), some (.ireturn, 29, 0, 0, 0)]

noncomputable def jt_143 : List (List (Option jm_I)) := [jt_143_0]

set_option maxRecDepth 20000 in
noncomputable def jt_144_0 : List (Option jm_I) := [some (.aload_n 0, 1, 0, 0, 0), some (.getfield 22, 4, 9, 2, 1), none, none, some (.iload_n 1, 5, 0, 0, 0), some (.invokevirtual 123, 8, 27, 1, 2), none, none, some (.ifCond .eq 21, 11, 29, 0, 0), none, none, some (.aload_n 0, 12, 0, 0, 0), some (.getfield 10, 15, 9, 0, 1), none, none, some (.iload_n 2, 16, 0, 0, 0), some (.invokevirtual 161, 19, 64, 1, 8), none, none, some (.ifCond .eq 10, 22, 29, 0, 0), none, none, some (.iload_n 3, 23, 0, 0, 0), some (.invokestatic 141, 26, 57, 2, 0), none, none, some (.ifCond .ne 10, 29, 36, 0, 0), none, none, some (.aload_n 0, 30, 0, 0, 0), some (.bipush (-2), 32, 0, 0, 0), none, some (.invokevirtual 79, 35, 13, 1, 9), none, none, some (.ireturn, 36, 0, 0, 0), some (.aload_n 0, 37, 0, 0, 0), some (.getfield 34, 40, 9, 4, 1), none, none, some (.iload_n 1, 41, 0, 0, 0), some (.iload_n 2, 42, 0, 0, 0), some (.iload_n 3, 43, 0, 0, 0), some (.invokevirtual 321, 46, 145, 1, 4), none, none, some (.ireturn, 47, 0, 0, 0)]

noncomputable def jt_144 : List (List (Option jm_I)) := [jt_144_0]

set_option maxRecDepth 20000 in
noncomputable def jt_145_0 : List (Option jm_I) := [some (.aload_n 0, 1, 0, 0, 0), some (.getfield 33, 4, 4, 0, 1), none, none, some (.getfield 73, 7, 8, 0, 1), none, none, some (.iload_n 2, 8, 0, 0, 0), some (.iaload, 9, 0, 0, 0), some (.istore 4, 11, 0, 0, 0), none, some (.aload_n 0, 12, 0, 0, 0), some (.getfield 33, 15, 4, 0, 1), none, none, some (.getfield 73, 18, 8, 0, 1), none, none, some (.iload_n 2, 19, 0, 0, 0), some (.iload_n 3, 20, 0, 0, 0), some (.iastore, 21, 0, 0, 0), some (.aload_n 0, 22, 0, 0, 0), some (.invokevirtual 63, 25, 59, 1, 4), none, none, some (.aload_n 0, 26, 0, 0, 0), some (.iload_n 1, 27, 0, 0, 0), some (.invokevirtual 66, 30, 32, 1, 4), none, none, some (.getfield 70, 33, 6, 2, 0), none, none, some (.istore 5, 35, 0, 0, 0), none, some (.aload_n 0, 36, 0, 0, 0), some (.getfield 33, 39, 4, 0, 1), none, none, some (.getfield 73, 42, 8, 0, 1), none, none, some (.iload_n 2, 43, 0, 0, 0), some (.iload 4, 45, 0, 0, 0), none, some (.iastore, 46, 0, 0, 0), some (.aload_n 0, 47, 0, 0, 0), some (.invokevirtual 63, 50, 59, 1, 4), none, none, some (.iload 5, 52, 0, 0, 0), none, some (.ireturn, 53, 0, 0, 0)]

noncomputable def jt_145 : List (List (Option jm_I)) := [jt_145_0]

set_option maxRecDepth 20000 in
noncomputable def jt_146_0 : List (Option jm_I) := [some (.aload_n 0, 1, 0, 0, 0), some (.getfield 22, 4, 9, 2, 1), none, none, some (.iload_n 1, 5, 0, 0, 0), some (.invokevirtual 123, 8, 27, 1, 2), none, none, some (.ifCond .eq 14, 11, 22, 0, 0), none, none, some (.aload_n 0, 12, 0, 0, 0), some (.getfield 10, 15, 9, 0, 1), none, none, some (.iload_n 2, 16, 0, 0, 0), some (.invokevirtual 161, 19, 64, 1, 8), none, none, some (.ifCond .ne 10, 22, 29, 0, 0), none, none, some (.aload_n 0, 23, 0, 0, 0), some (.bipush (-2), 25, 0, 0, 0), none, some (.invokevirtual 79, 28, 13, 1, 9), none, none, some (.ireturn, 29, 0, 0, 0), some (.iconst 0, 30, 0, 0, 0), some (.istore_n 3, 31, 0, 0, 0), some (.iconst (-1), 32, 0, 0, 0), some (.istore 4, 34, 0, 0, 0), none, some (.iconst 0, 35, 0, 0, 0), some (.istore 5, 37, 0, 0, 0), none, some (.iload 5, 39, 0, 0, 0), none, some (.bipush 16, 41, 0, 0, 0), none, some (.if_icmp .ge 36, 44, 77, 0, 0), none, none, some (.aload_n 0, 45, 0, 0, 0), some (.getfield 34, 48, 9, 4, 1), none, none, some (.iload_n 1, 49, 0, 0, 0), some (.iload_n 2, 50, 0, 0, 0), some (.iload 5, 52, 0, 0, 0), none, some (.invokevirtual 321, 55, 145, 1, 4), none, none, some (.istore 6, 57, 0, 0, 0), none, some (.iload 6, 59, 0, 0, 0), none, some (.iload 4, 61, 0, 0, 0), none, some (.if_icmp .le 10, 64, 71, 0, 0), none, none]

set_option maxRecDepth 20000 in
noncomputable def jt_146_1 : List (Option jm_I) := [some (.iload 6, 66, 0, 0, 0), none, some (.istore 4, 68, 0, 0, 0), none, some (.iload 5, 70, 0, 0, 0), none, some (.istore_n 3, 71, 0, 0, 0), some (.iinc 5 1, 74, 0, 0, 0), none, none, some (.goto (-37), 77, 37, 0, 0), none, none, some (.iload_n 3, 78, 0, 0, 0), some (.ireturn, 79, 0, 0, 0)]

noncomputable def jt_146 : List (List (Option jm_I)) := [jt_146_0, jt_146_1]

set_option maxRecDepth 20000 in
noncomputable def jt_147_0 : List (Option jm_I) := [some (.aload_n 0, 1, 0, 0, 0), some (.getfield 22, 4, 9, 2, 1), none, none, some (.iload_n 1, 5, 0, 0, 0), some (.invokevirtual 123, 8, 27, 1, 2), none, none, some (.ifCond .eq 26, 11, 34, 0, 0), none, none, some (.aload_n 0, 12, 0, 0, 0), some (.getfield 22, 15, 9, 2, 1), none, none, some (.iload_n 2, 16, 0, 0, 0), some (.invokevirtual 123, 19, 27, 1, 2), none, none, some (.ifCond .eq 15, 22, 34, 0, 0), none, none, some (.iload 4, 24, 0, 0, 0), none, some (.ifCond .lt 10, 27, 34, 0, 0), none, none, some (.iload 4, 29, 0, 0, 0), none, some (.bipush 20, 31, 0, 0, 0), none, some (.if_icmp .le 10, 34, 41, 0, 0), none, none, some (.aload_n 0, 35, 0, 0, 0), some (.bipush (-2), 37, 0, 0, 0), none, some (.invokevirtual 79, 40, 13, 1, 9), none, none, some (.ireturn, 41, 0, 0, 0), some (.aload_n 0, 42, 0, 0, 0), some (.iload_n 3, 43, 0, 0, 0), some (.iconst 2, 44, 0, 0, 0), some (.iload 4, 46, 0, 0, 0), none, some (.imul, 47, 0, 0, 0), some (.invokevirtual 87, 50, 17, 1, 9), none, none, some (.istore 5, 52, 0, 0, 0), none, some (.iload 5, 54, 0, 0, 0), none, some (.ifCond .eq 10, 57, 64, 0, 0), none, none, some (.aload_n 0, 58, 0, 0, 0), some (.iload 5, 60, 0, 0, 0), none, some (.invokevirtual 79, 63, 13, 1, 9), none, none, some (.ireturn, 64, 0, 0, 0)]

set_option maxRecDepth 20000 in
noncomputable def jt_147_1 : List (Option jm_I) := [some (.aload_n 0, 65, 0, 0, 0), some (.getfield 34, 68, 9, 4, 1), none, none, some (.iload_n 1, 69, 0, 0, 0), some (.invokevirtual 240, 72, 32, 1, 4), none, none, some (.astore 6, 74, 0, 0, 0), none, some (.aload_n 0, 75, 0, 0, 0), some (.getfield 34, 78, 9, 4, 1), none, none, some (.iload_n 2, 79, 0, 0, 0), some (.invokevirtual 240, 82, 32, 1, 4), none, none, some (.astore 7, 84, 0, 0, 0), none, some (.iconst 0, 85, 0, 0, 0), some (.istore 8, 87, 0, 0, 0), none, some (.iconst 2, 88, 0, 0, 0), some (.istore 9, 90, 0, 0, 0), none, some (.iload 9, 92, 0, 0, 0), none, some (.bipush 8, 94, 0, 0, 0), none, some (.if_icmp .gt 54, 97, 148, 0, 0), none, none, some (.aload_n 0, 98, 0, 0, 0), some (.getfield 34, 101, 9, 4, 1), none, none, some (.iload 9, 103, 0, 0, 0), none, some (.aload 6, 105, 0, 0, 0), none, some (.aload 7, 107, 0, 0, 0), none, some (.aload_n 0, 108, 0, 0, 0), some (.getfield 41, 111, 9, 5, 1), none, none, some (.invokevirtual 311, 114, 53, 1, 4), none, none, some (.aload_n 0, 115, 0, 0, 0), some (.getfield 67, 118, 9, 9, 1), none, none, some (.iload_n 3, 119, 0, 0, 0), some (.aaload, 120, 0, 0, 0), some (.aload_n 0, 121, 0, 0, 0), some (.getfield 41, 124, 9, 5, 1), none, none, some (.iload 4, 126, 0, 0, 0), none, some (.invokevirtual 324, 129, 148, 1, 5), none]

set_option maxRecDepth 20000 in
noncomputable def jt_147_2 : List (Option jm_I) := [none, some (.iconst (-1), 130, 0, 0, 0), some (.if_icmp .ne 12, 133, 142, 0, 0), none, none, some (.iload 8, 135, 0, 0, 0), none, some (.iconst 1, 136, 0, 0, 0), some (.iload 9, 138, 0, 0, 0), none, some (.ishl, 139, 0, 0, 0), some (.ior, 140, 0, 0, 0), some (.istore 8, 142, 0, 0, 0), none, some (.iinc 9 1, 145, 0, 0, 0), none, none, some (.goto (-55), 148, 90, 0, 0), none, none, some (.iload 8, 150, 0, 0, 0), none, some (.ireturn, 151, 0, 0, 0)]

noncomputable def jt_147 : List (List (Option jm_I)) := [jt_147_0, jt_147_1, jt_147_2]

set_option maxRecDepth 20000 in
noncomputable def jt_148_0 : List (Option jm_I) := [some (.aload_n 0, 1, 0, 0, 0), some (.iconst 0, 2, 0, 0, 0), some (.iconst 2, 3, 0, 0, 0), some (.iload_n 2, 4, 0, 0, 0), some (.imul, 5, 0, 0, 0), some (.invokevirtual 28, 8, 23, 1, 5), none, none, some (.ifCond .ne 5, 11, 13, 0, 0), none, none, some (.iconst 0, 12, 0, 0, 0), some (.ireturn, 13, 0, 0, 0), some (.iconst 0, 14, 0, 0, 0), some (.istore_n 3, 15, 0, 0, 0), some (.iload_n 3, 16, 0, 0, 0), some (.iload_n 2, 17, 0, 0, 0), some (.if_icmp .ge 71, 20, 88, 0, 0), none, none, some (.aload_n 1, 21, 0, 0, 0), some (.iload_n 3, 22, 0, 0, 0), some (.invokevirtual 32, 25, 47, 1, 6), none, none, some (.ifCond .eq 47, 28, 72, 0, 0), none, none, some (.aload_n 1, 29, 0, 0, 0), some (.getfield 38, 32, 6, 0, 1), none, none, some (.iload_n 3, 33, 0, 0, 0), some (.iaload, 34, 0, 0, 0), some (.i2l, 35, 0, 0, 0), some (.aload_n 0, 36, 0, 0, 0), some (.getfield 9, 39, 5, 0, 1), none, none, some (.iconst 2, 40, 0, 0, 0), some (.iload_n 3, 41, 0, 0, 0), some (.imul, 42, 0, 0, 0), some (.laload, 43, 0, 0, 0), some (.lcmp, 44, 0, 0, 0), some (.ifCond .ne 28, 47, 72, 0, 0), none, none, some (.aload_n 1, 48, 0, 0, 0), some (.getfield 42, 51, 6, 1, 1), none, none, some (.iload_n 3, 52, 0, 0, 0), some (.iaload, 53, 0, 0, 0), some (.i2l, 54, 0, 0, 0), some (.aload_n 0, 55, 0, 0, 0), some (.getfield 9, 58, 5, 0, 1), none, none, some (.iconst 2, 59, 0, 0, 0), some (.iload_n 3, 60, 0, 0, 0), some (.imul, 61, 0, 0, 0), some (.iconst 1, 62, 0, 0, 0), some (.iadd, 63, 0, 0, 0), some (.laload, 64, 0, 0, 0)]

set_option maxRecDepth 20000 in
noncomputable def jt_148_1 : List (Option jm_I) := [some (.lcmp, 65, 0, 0, 0), some (.ifCond .ne 7, 68, 72, 0, 0), none, none, some (.iconst 1, 69, 0, 0, 0), some (.goto 4, 72, 73, 0, 0), none, none, some (.iconst 0, 73, 0, 0, 0), some (.istore 4, 75, 0, 0, 0), none, some (.iload 4, 77, 0, 0, 0), none, some (.ifCond .ne 5, 80, 82, 0, 0), none, none, some (.iload_n 3, 81, 0, 0, 0), some (.ireturn, 82, 0, 0, 0), some (.iinc 3 1, 85, 0, 0, 0), none, none, some (.goto (-70), 88, 15, 0, 0), none, none, some (.aload_n 1, 89, 0, 0, 0), some (.getfield 45, 92, 6, 2, 0), none, none, some (.iload_n 2, 93, 0, 0, 0), some (.if_icmp .le 7, 96, 100, 0, 0), none, none, some (.iload_n 2, 97, 0, 0, 0), some (.goto 4, 100, 101, 0, 0), none, none, some (.iconst (-1), 101, 0, 0, 0), some (.ireturn, 102, 0, 0, 0)]

noncomputable def jt_148 : List (List (Option jm_I)) := [jt_148_0, jt_148_1]

set_option maxRecDepth 20000 in
noncomputable def jt_149_0 : List (Option jm_I) := [some (.aload_n 0, 1, 0, 0, 0), some (.getfield 22, 4, 9, 2, 1), none, none, some (.iload_n 1, 5, 0, 0, 0), some (.invokevirtual 123, 8, 27, 1, 2), none, none, some (.ifCond .eq 13, 11, 21, 0, 0), none, none, some (.iload_n 3, 12, 0, 0, 0), some (.ifCond .lt 9, 15, 21, 0, 0), none, none, some (.iload_n 3, 16, 0, 0, 0), some (.bipush 20, 18, 0, 0, 0), none, some (.if_icmp .le 10, 21, 28, 0, 0), none, none, some (.aload_n 0, 22, 0, 0, 0), some (.bipush (-2), 24, 0, 0, 0), none, some (.invokevirtual 79, 27, 13, 1, 9), none, none, some (.ireturn, 28, 0, 0, 0), some (.aload_n 0, 29, 0, 0, 0), some (.iload_n 2, 30, 0, 0, 0), some (.iconst 2, 31, 0, 0, 0), some (.iload_n 3, 32, 0, 0, 0), some (.imul, 33, 0, 0, 0), some (.invokevirtual 87, 36, 17, 1, 9), none, none, some (.istore 4, 38, 0, 0, 0), none, some (.iload 4, 40, 0, 0, 0), none, some (.ifCond .eq 10, 43, 50, 0, 0), none, none, some (.aload_n 0, 44, 0, 0, 0), some (.iload 4, 46, 0, 0, 0), none, some (.invokevirtual 79, 49, 13, 1, 9), none, none, some (.ireturn, 50, 0, 0, 0), some (.aload_n 0, 51, 0, 0, 0), some (.getfield 67, 54, 9, 9, 1), none, none, some (.iload_n 2, 55, 0, 0, 0), some (.aaload, 56, 0, 0, 0), some (.aload_n 0, 57, 0, 0, 0), some (.getfield 34, 60, 9, 4, 1), none, none, some (.iload_n 1, 61, 0, 0, 0), some (.invokevirtual 240, 64, 32, 1, 4), none, none]

set_option maxRecDepth 20000 in
noncomputable def jt_149_1 : List (Option jm_I) := [some (.iload_n 3, 65, 0, 0, 0), some (.invokevirtual 324, 68, 148, 1, 5), none, none, some (.ireturn, 69, 0, 0, 0)]

noncomputable def jt_149 : List (List (Option jm_I)) := [jt_149_0, jt_149_1]

set_option maxRecDepth 20000 in
noncomputable def jt_150_0 : List (Option jm_I) := [some (.aload_n 0, 1, 0, 0, 0), some (.getfield 22, 4, 9, 2, 1), none, none, some (.iload_n 1, 5, 0, 0, 0), some (.invokevirtual 123, 8, 27, 1, 2), none, none, some (.ifCond .eq 13, 11, 21, 0, 0), none, none, some (.iload_n 3, 12, 0, 0, 0), some (.ifCond .lt 9, 15, 21, 0, 0), none, none, some (.iload_n 3, 16, 0, 0, 0), some (.bipush 40, 18, 0, 0, 0), none, some (.if_icmp .le 10, 21, 28, 0, 0), none, none, some (.aload_n 0, 22, 0, 0, 0), some (.bipush (-2), 24, 0, 0, 0), none, some (.invokevirtual 79, 27, 13, 1, 9), none, none, some (.ireturn, 28, 0, 0, 0), some (.aload_n 0, 29, 0, 0, 0), some (.iload_n 2, 30, 0, 0, 0), some (.iload_n 3, 31, 0, 0, 0), some (.invokevirtual 87, 34, 17, 1, 9), none, none, some (.istore 4, 36, 0, 0, 0), none, some (.iload 4, 38, 0, 0, 0), none, some (.ifCond .eq 10, 41, 48, 0, 0), none, none, some (.aload_n 0, 42, 0, 0, 0), some (.iload 4, 44, 0, 0, 0), none, some (.invokevirtual 79, 47, 13, 1, 9), none, none, some (.ireturn, 48, 0, 0, 0), some (.aload_n 0, 49, 0, 0, 0), some (.getfield 34, 52, 9, 4, 1), none, none, some (.iload_n 1, 53, 0, 0, 0), some (.invokevirtual 240, 56, 32, 1, 4), none, none, some (.astore 5, 58, 0, 0, 0), none, some (.iconst 0, 59, 0, 0, 0), some (.istore 6, 61, 0, 0, 0), none, some (.iconst 0, 62, 0, 0, 0), some (.istore 7, 64, 0, 0, 0), none]

set_option maxRecDepth 20000 in
noncomputable def jt_150_1 : List (Option jm_I) := [some (.iload 7, 66, 0, 0, 0), none, some (.iload_n 3, 67, 0, 0, 0), some (.if_icmp .ge 30, 70, 97, 0, 0), none, none, some (.aload 5, 72, 0, 0, 0), none, some (.iload 6, 74, 0, 0, 0), none, some (.aload_n 0, 75, 0, 0, 0), some (.getfield 67, 78, 9, 9, 1), none, none, some (.iload_n 2, 79, 0, 0, 0), some (.aaload, 80, 0, 0, 0), some (.getfield 94, 83, 5, 0, 1), none, none, some (.iload 7, 85, 0, 0, 0), none, some (.laload, 86, 0, 0, 0), some (.invokevirtual 259, 89, 45, 1, 6), none, none, some (.istore 6, 91, 0, 0, 0), none, some (.iinc 7 1, 94, 0, 0, 0), none, none, some (.goto (-30), 97, 64, 0, 0), none, none, some (.aload 5, 99, 0, 0, 0), none, some (.iload 6, 101, 0, 0, 0), none, some (.invokevirtual 263, 104, 117, 1, 6), none, none, some (.ireturn, 105, 0, 0, 0)]

noncomputable def jt_150 : List (List (Option jm_I)) := [jt_150_0, jt_150_1]

set_option maxRecDepth 20000 in
noncomputable def jt_151_0 : List (Option jm_I) := [some (.iload_n 1, 1, 0, 0, 0), some (.invokestatic 198, 4, 30, 2, 0), none, none, some (.ifCond .eq 20, 7, 24, 0, 0), none, none, some (.iload_n 3, 8, 0, 0, 0), some (.iconst 1, 9, 0, 0, 0), some (.if_icmp .lt 15, 12, 24, 0, 0), none, none, some (.iload_n 3, 13, 0, 0, 0), some (.bipush 6, 15, 0, 0, 0), none, some (.if_icmp .gt 9, 18, 24, 0, 0), none, none, some (.iload 4, 20, 0, 0, 0), none, some (.iconst (-1), 21, 0, 0, 0), some (.if_icmp .ge 10, 24, 31, 0, 0), none, none, some (.aload_n 0, 25, 0, 0, 0), some (.bipush (-2), 27, 0, 0, 0), none, some (.invokevirtual 79, 30, 13, 1, 9), none, none, some (.ireturn, 31, 0, 0, 0), some (.aload_n 0, 32, 0, 0, 0), some (.iload_n 2, 33, 0, 0, 0), some (.iload_n 3, 34, 0, 0, 0), some (.invokevirtual 87, 37, 17, 1, 9), none, none, some (.istore 5, 39, 0, 0, 0), none, some (.iload 5, 41, 0, 0, 0), none, some (.ifCond .eq 10, 44, 51, 0, 0), none, none, some (.aload_n 0, 45, 0, 0, 0), some (.iload 5, 47, 0, 0, 0), none, some (.invokevirtual 79, 50, 13, 1, 9), none, none, some (.ireturn, 51, 0, 0, 0), some (.aload_n 0, 52, 0, 0, 0), some (.getfield 67, 55, 9, 9, 1), none, none, some (.iload_n 2, 56, 0, 0, 0), some (.aaload, 57, 0, 0, 0), some (.getfield 94, 60, 5, 0, 1), none, none, some (.astore 6, 62, 0, 0, 0), none, some (.iconst 0, 63, 0, 0, 0), some (.istore 7, 65, 0, 0, 0)]

set_option maxRecDepth 20000 in
noncomputable def jt_151_1 : List (Option jm_I) := [none, some (.iload 7, 67, 0, 0, 0), none, some (.iload_n 3, 68, 0, 0, 0), some (.if_icmp .ge 43, 71, 111, 0, 0), none, none, some (.aload 6, 73, 0, 0, 0), none, some (.iload 7, 75, 0, 0, 0), none, some (.laload, 76, 0, 0, 0), some (.lconst 0, 77, 0, 0, 0), some (.lcmp, 78, 0, 0, 0), some (.ifCond .lt 20, 81, 98, 0, 0), none, none, some (.aload 6, 83, 0, 0, 0), none, some (.iload 7, 85, 0, 0, 0), none, some (.laload, 86, 0, 0, 0), some (.aload_n 0, 87, 0, 0, 0), some (.getfield 22, 90, 9, 2, 1), none, none, some (.getfield 191, 93, 2, 1, 0), none, none, some (.i2l, 94, 0, 0, 0), some (.lcmp, 95, 0, 0, 0), some (.ifCond .lt 10, 98, 105, 0, 0), none, none, some (.aload_n 0, 99, 0, 0, 0), some (.bipush (-5), 101, 0, 0, 0), none, some (.invokevirtual 79, 104, 13, 1, 9), none, none, some (.ireturn, 105, 0, 0, 0), some (.iinc 7 1, 108, 0, 0, 0), none, none, some (.goto (-43), 111, 65, 0, 0), none, none, some (.aload_n 0, 112, 0, 0, 0), some (.getfield 41, 115, 9, 5, 1), none, none, some (.aload_n 0, 116, 0, 0, 0), some (.getfield 34, 119, 9, 4, 1), none, none, some (.aload 6, 121, 0, 0, 0), none, some (.iconst 0, 122, 0, 0, 0), some (.laload, 123, 0, 0, 0), some (.l2i, 124, 0, 0, 0), some (.invokevirtual 240, 127, 32, 1, 4), none, none, some (.invokevirtual 327, 130, 152, 1, 6)]

set_option maxRecDepth 20000 in
noncomputable def jt_151_2 : List (Option jm_I) := [none, none, some (.iconst 1, 131, 0, 0, 0), some (.istore 7, 133, 0, 0, 0), none, some (.iload 7, 135, 0, 0, 0), none, some (.iload_n 3, 136, 0, 0, 0), some (.if_icmp .ge 38, 139, 174, 0, 0), none, none, some (.aload_n 0, 140, 0, 0, 0), some (.getfield 34, 143, 9, 4, 1), none, none, some (.iload_n 1, 144, 0, 0, 0), some (.aload_n 0, 145, 0, 0, 0), some (.getfield 41, 148, 9, 5, 1), none, none, some (.aload_n 0, 149, 0, 0, 0), some (.getfield 34, 152, 9, 4, 1), none, none, some (.aload 6, 154, 0, 0, 0), none, some (.iload 7, 156, 0, 0, 0), none, some (.laload, 157, 0, 0, 0), some (.l2i, 158, 0, 0, 0), some (.invokevirtual 240, 161, 32, 1, 4), none, none, some (.aload_n 0, 162, 0, 0, 0), some (.getfield 41, 165, 9, 5, 1), none, none, some (.invokevirtual 311, 168, 53, 1, 4), none, none, some (.iinc 7 1, 171, 0, 0, 0), none, none, some (.goto (-38), 174, 133, 0, 0), none, none, some (.iload 4, 176, 0, 0, 0), none, some (.iconst (-1), 177, 0, 0, 0), some (.if_icmp .ne 13, 180, 190, 0, 0), none, none, some (.aload_n 0, 181, 0, 0, 0), some (.getfield 41, 184, 9, 5, 1), none, none, some (.getfield 244, 187, 6, 2, 0), none, none, some (.goto 28, 190, 215, 0, 0), none, none, some (.aload_n 0, 191, 0, 0, 0), some (.getfield 41, 194, 9, 5, 1)]

set_option maxRecDepth 20000 in
noncomputable def jt_151_3 : List (Option jm_I) := [none, none, some (.iload 4, 196, 0, 0, 0), none, some (.invokevirtual 245, 199, 47, 1, 6), none, none, some (.ifCond .eq 15, 202, 214, 0, 0), none, none, some (.aload_n 0, 203, 0, 0, 0), some (.getfield 41, 206, 9, 5, 1), none, none, some (.iload 4, 208, 0, 0, 0), none, some (.invokevirtual 248, 211, 115, 1, 6), none, none, some (.goto 4, 214, 215, 0, 0), none, none, some (.iconst (-1), 215, 0, 0, 0), some (.ireturn, 216, 0, 0, 0)]

noncomputable def jt_151 : List (List (Option jm_I)) := [jt_151_0, jt_151_1, jt_151_2, jt_151_3]

set_option maxRecDepth 20000 in
noncomputable def jt_152_0 : List (Option jm_I) := [some (.aload_n 1, 1, 0, 0, 0), some (.getfield 9, 4, 6, 0, 1), none, none, some (.iconst 0, 5, 0, 0, 0), some (.aload_n 0, 6, 0, 0, 0), some (.getfield 9, 9, 6, 0, 1), none, none, some (.iconst 0, 10, 0, 0, 0), some (.bipush 60, 12, 0, 0, 0), none, some (.invokestatic 22, 15, 0, 12, 0), none, none, some (.aload_n 1, 16, 0, 0, 0), some (.getfield 15, 19, 6, 1, 1), none, none, some (.iconst 0, 20, 0, 0, 0), some (.aload_n 0, 21, 0, 0, 0), some (.getfield 15, 24, 6, 1, 1), none, none, some (.iconst 0, 25, 0, 0, 0), some (.bipush 60, 27, 0, 0, 0), none, some (.invokestatic 22, 30, 0, 12, 0), none, none, some (.aload_n 0, 31, 0, 0, 0), some (.aload_n 1, 32, 0, 0, 0), some (.getfield 18, 35, 6, 2, 0), none, none, some (.putfield 18, 38, 6, 2, 0), none, none, some (.return_, 39, 0, 0, 0)]

noncomputable def jt_152 : List (List (Option jm_I)) := [jt_152_0]

set_option maxRecDepth 20000 in
noncomputable def jt_153_0 : List (Option jm_I) := [some (.iload_n 1, 1, 0, 0, 0), some (.iconst 1, 2, 0, 0, 0), some (.if_icmp .lt 9, 5, 11, 0, 0), none, none, some (.iload_n 1, 6, 0, 0, 0), some (.bipush 60, 8, 0, 0, 0), none, some (.if_icmp .le 10, 11, 18, 0, 0), none, none, some (.aload_n 0, 12, 0, 0, 0), some (.bipush (-2), 14, 0, 0, 0), none, some (.invokevirtual 79, 17, 13, 1, 9), none, none, some (.ireturn, 18, 0, 0, 0), some (.iconst 0, 19, 0, 0, 0), some (.istore_n 2, 20, 0, 0, 0), some (.iload_n 2, 21, 0, 0, 0), some (.iload_n 1, 22, 0, 0, 0), some (.if_icmp .ge 16, 25, 38, 0, 0), none, none, some (.aload_n 0, 26, 0, 0, 0), some (.getfield 10, 29, 9, 0, 1), none, none, some (.invokevirtual 331, 32, 154, 1, 8), none, none, some (.iinc 2 1, 35, 0, 0, 0), none, none, some (.goto (-15), 38, 20, 0, 0), none, none, some (.aload_n 0, 39, 0, 0, 0), some (.getfield 34, 42, 9, 4, 1), none, none, some (.invokevirtual 151, 45, 59, 1, 4), none, none, some (.aload_n 0, 46, 0, 0, 0), some (.getfield 10, 49, 9, 0, 1), none, none, some (.getfield 144, 52, 8, 3, 0), none, none, some (.ireturn, 53, 0, 0, 0)]

noncomputable def jt_153 : List (List (Option jm_I)) := [jt_153_0]

set_option maxRecDepth 20000 in
noncomputable def jt_154_0 : List (Option jm_I) := [some (.aload_n 0, 1, 0, 0, 0), some (.bipush 16, 3, 0, 0, 0), none, some (.invokevirtual 52, 6, 155, 1, 8), none, none, some (.istore_n 1, 7, 0, 0, 0), some (.aload_n 0, 8, 0, 0, 0), some (.getfield 31, 11, 8, 3, 0), none, none, some (.bipush 60, 13, 0, 0, 0), none, some (.if_icmp .ge 11, 16, 24, 0, 0), none, none, some (.aload_n 0, 17, 0, 0, 0), some (.iload_n 1, 18, 0, 0, 0), some (.invokevirtual 55, 21, 58, 1, 8), none, none, some (.goto 15, 24, 36, 0, 0), none, none, some (.aload_n 0, 25, 0, 0, 0), some (.getfield 9, 28, 8, 0, 1), none, none, some (.aload_n 0, 29, 0, 0, 0), some (.bipush 60, 31, 0, 0, 0), none, some (.invokevirtual 52, 34, 155, 1, 8), none, none, some (.iload_n 1, 35, 0, 0, 0), some (.iastore, 36, 0, 0, 0), some (.aload_n 0, 37, 0, 0, 0), some (.bipush 8, 39, 0, 0, 0), none, some (.invokevirtual 52, 42, 155, 1, 8), none, none, some (.istore_n 2, 43, 0, 0, 0), some (.iload_n 2, 44, 0, 0, 0), some (.ifCond .ne 11, 47, 55, 0, 0), none, none, some (.aload_n 0, 48, 0, 0, 0), some (.iconst 2, 49, 0, 0, 0), some (.invokevirtual 59, 52, 62, 1, 8), none, none, some (.goto 20, 55, 72, 0, 0), none, none, some (.iload_n 2, 56, 0, 0, 0), some (.iconst 2, 57, 0, 0, 0), some (.if_icmp .gt 15, 60, 72, 0, 0), none, none, some (.aload_n 0, 61, 0, 0, 0), some (.invokevirtual 62, 64, 61, 1, 8), none, none]

set_option maxRecDepth 20000 in
noncomputable def jt_154_1 : List (Option jm_I) := [some (.ifCond .ne 8, 67, 72, 0, 0), none, none, some (.aload_n 0, 68, 0, 0, 0), some (.iconst 1, 69, 0, 0, 0), some (.invokevirtual 59, 72, 62, 1, 8), none, none, some (.return_, 73, 0, 0, 0)]

noncomputable def jt_154 : List (List (Option jm_I)) := [jt_154_0, jt_154_1]

set_option maxRecDepth 20000 in
noncomputable def jt_155_0 : List (Option jm_I) := [some (.aload_n 0, 1, 0, 0, 0), some (.aload_n 0, 2, 0, 0, 0), some (.getfield 21, 5, 8, 4, 0), none, none, some (.ldc 51, 7, 0, 0, 1103515245), none, some (.imul, 8, 0, 0, 0), some (.sipush 12345, 11, 0, 0, 0), none, none, some (.iadd, 12, 0, 0, 0), some (.putfield 21, 15, 8, 4, 0), none, none, some (.iload_n 1, 16, 0, 0, 0), some (.ifCond .le 15, 19, 31, 0, 0), none, none, some (.aload_n 0, 20, 0, 0, 0), some (.getfield 21, 23, 8, 4, 0), none, none, some (.bipush 16, 25, 0, 0, 0), none, some (.iushr, 26, 0, 0, 0), some (.iload_n 1, 27, 0, 0, 0), some (.irem, 28, 0, 0, 0), some (.goto 4, 31, 32, 0, 0), none, none, some (.iconst 0, 32, 0, 0, 0), some (.ireturn, 33, 0, 0, 0)]

noncomputable def jt_155 : List (List (Option jm_I)) := [jt_155_0]

set_option maxRecDepth 20000 in
noncomputable def jt_156_0 : List (Option jm_I) := [some (.aload_n 0, 1, 0, 0, 0), some (.getfield 10, 4, 9, 0, 1), none, none, some (.getfield 334, 7, 8, 4, 0), none, none, some (.istore_n 2, 8, 0, 0, 0), some (.aload_n 0, 9, 0, 0, 0), some (.getfield 10, 12, 9, 0, 1), none, none, some (.iload_n 1, 13, 0, 0, 0), some (.putfield 334, 16, 8, 4, 0), none, none, some (.iload_n 2, 17, 0, 0, 0), some (.ireturn, 18, 0, 0, 0)]

noncomputable def jt_156 : List (List (Option jm_I)) := [jt_156_0]

set_option maxRecDepth 20000 in
noncomputable def jt_157_0 : List (Option jm_I) := [some (.aload_n 0, 1, 0, 0, 0), some (.getfield 16, 4, 9, 1, 1), none, none, some (.aload_n 0, 5, 0, 0, 0), some (.getfield 10, 8, 9, 0, 1), none, none, some (.invokevirtual 337, 11, 158, 1, 8), none, none, some (.aload_n 0, 12, 0, 0, 0), some (.getfield 26, 15, 9, 3, 1), none, none, some (.aload_n 0, 16, 0, 0, 0), some (.getfield 22, 19, 9, 2, 1), none, none, some (.invokevirtual 339, 22, 159, 1, 2), none, none, some (.aload_n 0, 23, 0, 0, 0), some (.iconst 1, 24, 0, 0, 0), some (.putfield 342, 27, 9, 11, 2), none, none, some (.iconst 1, 28, 0, 0, 0), some (.ireturn, 29, 0, 0, 0)]

noncomputable def jt_157 : List (List (Option jm_I)) := [jt_157_0]

set_option maxRecDepth 20000 in
noncomputable def jt_158_0 : List (Option jm_I) := [some (.aload_n 1, 1, 0, 0, 0), some (.getfield 9, 4, 8, 0, 1), none, none, some (.iconst 0, 5, 0, 0, 0), some (.aload_n 0, 6, 0, 0, 0), some (.getfield 9, 9, 8, 0, 1), none, none, some (.iconst 0, 10, 0, 0, 0), some (.bipush 60, 12, 0, 0, 0), none, some (.invokestatic 25, 15, 0, 12, 0), none, none, some (.aload_n 1, 16, 0, 0, 0), some (.getfield 15, 19, 8, 1, 1), none, none, some (.iconst 0, 20, 0, 0, 0), some (.aload_n 0, 21, 0, 0, 0), some (.getfield 15, 24, 8, 1, 1), none, none, some (.iconst 0, 25, 0, 0, 0), some (.bipush 60, 27, 0, 0, 0), none, some (.invokestatic 25, 30, 0, 12, 0), none, none, some (.aload_n 1, 31, 0, 0, 0), some (.getfield 18, 34, 8, 2, 1), none, none, some (.iconst 0, 35, 0, 0, 0), some (.aload_n 0, 36, 0, 0, 0), some (.getfield 18, 39, 8, 2, 1), none, none, some (.iconst 0, 40, 0, 0, 0), some (.bipush 16, 42, 0, 0, 0), none, some (.invokestatic 25, 45, 0, 12, 0), none, none, some (.aload_n 0, 46, 0, 0, 0), some (.aload_n 1, 47, 0, 0, 0), some (.getfield 31, 50, 8, 3, 0), none, none, some (.putfield 31, 53, 8, 3, 0), none, none, some (.aload_n 0, 54, 0, 0, 0), some (.aload_n 1, 55, 0, 0, 0), some (.getfield 21, 58, 8, 4, 0), none, none, some (.putfield 21, 61, 8, 4, 0), none, none, some (.return_, 62, 0, 0, 0)]

noncomputable def jt_158 : List (List (Option jm_I)) := [jt_158_0]

set_option maxRecDepth 20000 in
noncomputable def jt_159_0 : List (Option jm_I) := [some (.aload_n 0, 1, 0, 0, 0), some (.aload_n 1, 2, 0, 0, 0), some (.getfield 18, 5, 2, 1, 0), none, none, some (.putfield 18, 8, 2, 1, 0), none, none, some (.iconst 0, 9, 0, 0, 0), some (.istore_n 2, 10, 0, 0, 0), some (.iload_n 2, 11, 0, 0, 0), some (.aload_n 0, 12, 0, 0, 0), some (.getfield 18, 15, 2, 1, 0), none, none, some (.if_icmp .ge 30, 18, 45, 0, 0), none, none, some (.iload_n 2, 19, 0, 0, 0), some (.bipush 24, 21, 0, 0, 0), none, some (.if_icmp .ge 24, 24, 45, 0, 0), none, none, some (.aload_n 0, 25, 0, 0, 0), some (.getfield 11, 28, 2, 0, 1), none, none, some (.iload_n 2, 29, 0, 0, 0), some (.aaload, 30, 0, 0, 0), some (.aload_n 1, 31, 0, 0, 0), some (.getfield 11, 34, 2, 0, 1), none, none, some (.iload_n 2, 35, 0, 0, 0), some (.aaload, 36, 0, 0, 0), some (.invokevirtual 22, 39, 160, 1, 0), none, none, some (.iinc 2 1, 42, 0, 0, 0), none, none, some (.goto (-32), 45, 10, 0, 0), none, none, some (.return_, 46, 0, 0, 0)]

noncomputable def jt_159 : List (List (Option jm_I)) := [jt_159_0]

set_option maxRecDepth 20000 in
noncomputable def jt_160_0 : List (Option jm_I) := [some (.aload_n 0, 1, 0, 0, 0), some (.aload_n 1, 2, 0, 0, 0), some (.getfield 9, 5, 0, 0, 0), none, none, some (.putfield 9, 8, 0, 0, 0), none, none, some (.aload_n 0, 9, 0, 0, 0), some (.aload_n 1, 10, 0, 0, 0), some (.getfield 18, 13, 0, 1, 0), none, none, some (.putfield 18, 16, 0, 1, 0), none, none, some (.aload_n 0, 17, 0, 0, 0), some (.aload_n 1, 18, 0, 0, 0), some (.getfield 21, 21, 0, 2, 0), none, none, some (.putfield 21, 24, 0, 2, 0), none, none, some (.aload_n 0, 25, 0, 0, 0), some (.aload_n 1, 26, 0, 0, 0), some (.getfield 24, 29, 0, 3, 0), none, none, some (.putfield 24, 32, 0, 3, 0), none, none, some (.aload_n 0, 33, 0, 0, 0), some (.aload_n 1, 34, 0, 0, 0), some (.getfield 15, 37, 0, 4, 0), none, none, some (.putfield 15, 40, 0, 4, 0), none, none, some (.aload_n 0, 41, 0, 0, 0), some (.aload_n 1, 42, 0, 0, 0), some (.getfield 27, 45, 0, 5, 0), none, none, some (.putfield 27, 48, 0, 5, 0), none, none, some (.aload_n 0, 49, 0, 0, 0), some (.aload_n 1, 50, 0, 0, 0), some (.getfield 30, 53, 0, 6, 0), none, none, some (.putfield 30, 56, 0, 6, 0), none, none, some (.aload_n 0, 57, 0, 0, 0), some (.aload_n 1, 58, 0, 0, 0), some (.getfield 33, 61, 0, 7, 0), none, none, some (.putfield 33, 64, 0, 7, 0), none, none]

set_option maxRecDepth 20000 in
noncomputable def jt_160_1 : List (Option jm_I) := [some (.aload_n 0, 65, 0, 0, 0), some (.aload_n 1, 66, 0, 0, 0), some (.getfield 36, 69, 0, 8, 0), none, none, some (.putfield 36, 72, 0, 8, 0), none, none, some (.aload_n 0, 73, 0, 0, 0), some (.aload_n 1, 74, 0, 0, 0), some (.getfield 39, 77, 0, 9, 0), none, none, some (.putfield 39, 80, 0, 9, 0), none, none, some (.aload_n 0, 81, 0, 0, 0), some (.aload_n 1, 82, 0, 0, 0), some (.getfield 42, 85, 0, 10, 0), none, none, some (.putfield 42, 88, 0, 10, 0), none, none, some (.return_, 89, 0, 0, 0)]

noncomputable def jt_160 : List (List (Option jm_I)) := [jt_160_0, jt_160_1]

set_option maxRecDepth 20000 in
noncomputable def jt_161_0 : List (Option jm_I) := [some (.aload_n 0, 1, 0, 0, 0), some (.getfield 342, 4, 9, 11, 2), none, none, some (.ifCond .ne 10, 7, 14, 0, 0), none, none, some (.aload_n 0, 8, 0, 0, 0), some (.bipush (-5), 10, 0, 0, 0), none, some (.invokevirtual 79, 13, 13, 1, 9), none, none, some (.ireturn, 14, 0, 0, 0), some (.aload_n 0, 15, 0, 0, 0), some (.getfield 10, 18, 9, 0, 1), none, none, some (.aload_n 0, 19, 0, 0, 0), some (.getfield 16, 22, 9, 1, 1), none, none, some (.invokevirtual 337, 25, 158, 1, 8), none, none, some (.aload_n 0, 26, 0, 0, 0), some (.getfield 22, 29, 9, 2, 1), none, none, some (.aload_n 0, 30, 0, 0, 0), some (.getfield 26, 33, 9, 3, 1), none, none, some (.invokevirtual 339, 36, 159, 1, 2), none, none, some (.aload_n 0, 37, 0, 0, 0), some (.getfield 34, 40, 9, 4, 1), none, none, some (.invokevirtual 151, 43, 59, 1, 4), none, none, some (.aload_n 0, 44, 0, 0, 0), some (.invokevirtual 208, 47, 109, 1, 9), none, none, some (.iconst 1, 48, 0, 0, 0), some (.ireturn, 49, 0, 0, 0)]

noncomputable def jt_161 : List (List (Option jm_I)) := [jt_161_0]

set_option maxRecDepth 20000 in
noncomputable def jt_162_0 : List (Option jm_I) := [some (.iload_n 1, 1, 0, 0, 0), some (.tableswitch 122 0 8 #[51, 59, 68, 77, 85, 93, 101, 109, 117], 52, 0, 0, 0), none, none, none, none, none, none, none, none, none, none, none, none, none, none, none, none, none, none, none, none, none, none, none, none, none, none, none, none, none, none, none, none, none, none, none, none, none, none, none, none, none, none, none, none, none, none, none, none, none, none, some (.aload_n 0, 53, 0, 0, 0), some (.getfield 10, 56, 9, 0, 1), none, none, some (.getfield 144, 59, 8, 3, 0), none, none, some (.ireturn, 60, 0, 0, 0), some (.aload_n 0, 61, 0, 0, 0), some (.getfield 10, 64, 9, 0, 1), none, none]

set_option maxRecDepth 20000 in
noncomputable def jt_162_1 : List (Option jm_I) := [some (.iconst 1, 65, 0, 0, 0), some (.invokevirtual 284, 68, 129, 1, 8), none, none, some (.ireturn, 69, 0, 0, 0), some (.aload_n 0, 70, 0, 0, 0), some (.getfield 10, 73, 9, 0, 1), none, none, some (.iconst 2, 74, 0, 0, 0), some (.invokevirtual 284, 77, 129, 1, 8), none, none, some (.ireturn, 78, 0, 0, 0), some (.aload_n 0, 79, 0, 0, 0), some (.getfield 22, 82, 9, 2, 1), none, none, some (.getfield 191, 85, 2, 1, 0), none, none, some (.ireturn, 86, 0, 0, 0), some (.aload_n 0, 87, 0, 0, 0), some (.getfield 10, 90, 9, 0, 1), none, none, some (.invokevirtual 346, 93, 163, 1, 8), none, none, some (.ireturn, 94, 0, 0, 0), some (.aload_n 0, 95, 0, 0, 0), some (.getfield 10, 98, 9, 0, 1), none, none, some (.invokevirtual 349, 101, 165, 1, 8), none, none, some (.ireturn, 102, 0, 0, 0), some (.aload_n 0, 103, 0, 0, 0), some (.getfield 52, 106, 9, 7, 1), none, none, some (.getfield 170, 109, 7, 1, 0), none, none, some (.ireturn, 110, 0, 0, 0), some (.aload_n 0, 111, 0, 0, 0), some (.getfield 10, 114, 9, 0, 1), none, none, some (.getfield 334, 117, 8, 4, 0), none, none, some (.ireturn, 118, 0, 0, 0), some (.aload_n 0, 119, 0, 0, 0), some (.invokevirtual 352, 122, 166, 1, 9), none, none, some (.ireturn, 123, 0, 0, 0), some (.iload_n 1, 124, 0, 0, 0), some (.bipush 12, 126, 0, 0, 0), none, some (.if_icmp .lt 21, 129, 147, 0, 0), none]

set_option maxRecDepth 20000 in
noncomputable def jt_162_2 : List (Option jm_I) := [none, some (.iload_n 1, 130, 0, 0, 0), some (.bipush 17, 132, 0, 0, 0), none, some (.if_icmp .ge 15, 135, 147, 0, 0), none, none, some (.aload_n 0, 136, 0, 0, 0), some (.getfield 71, 139, 9, 10, 1), none, none, some (.iload_n 1, 140, 0, 0, 0), some (.bipush 12, 142, 0, 0, 0), none, some (.isub, 143, 0, 0, 0), some (.iaload, 144, 0, 0, 0), some (.goto 4, 147, 148, 0, 0), none, none, some (.iconst (-1), 148, 0, 0, 0), some (.ireturn, 149, 0, 0, 0)]

noncomputable def jt_162 : List (List (Option jm_I)) := [jt_162_0, jt_162_1, jt_162_2]

set_option maxRecDepth 20000 in
noncomputable def jt_163_0 : List (Option jm_I) := [some (.iconst 0, 1, 0, 0, 0), some (.istore_n 1, 2, 0, 0, 0), some (.iconst 0, 3, 0, 0, 0), some (.istore_n 2, 4, 0, 0, 0), some (.iload_n 2, 5, 0, 0, 0), some (.aload_n 0, 6, 0, 0, 0), some (.getfield 31, 9, 8, 3, 0), none, none, some (.if_icmp .ge 20, 12, 29, 0, 0), none, none, some (.iload_n 1, 13, 0, 0, 0), some (.iconst 1, 14, 0, 0, 0), some (.aload_n 0, 15, 0, 0, 0), some (.getfield 9, 18, 8, 0, 1), none, none, some (.iload_n 2, 19, 0, 0, 0), some (.iaload, 20, 0, 0, 0), some (.ishl, 21, 0, 0, 0), some (.ior, 22, 0, 0, 0), some (.istore_n 1, 23, 0, 0, 0), some (.iinc 2 1, 26, 0, 0, 0), none, none, some (.goto (-22), 29, 4, 0, 0), none, none, some (.iload_n 1, 30, 0, 0, 0), some (.invokestatic 38, 33, 164, 2, 0), none, none, some (.ireturn, 34, 0, 0, 0)]

noncomputable def jt_163 : List (List (Option jm_I)) := [jt_163_0]

set_option maxRecDepth 20000 in
noncomputable def jt_164_0 : List (Option jm_I) := [some (.iload_n 0, 1, 0, 0, 0), some (.iload_n 0, 2, 0, 0, 0), some (.iconst 1, 3, 0, 0, 0), some (.iushr, 4, 0, 0, 0), some (.ldc_w 265, 7, 0, 0, 1431655765), none, none, some (.iand, 8, 0, 0, 0), some (.isub, 9, 0, 0, 0), some (.istore_n 0, 10, 0, 0, 0), some (.iload_n 0, 11, 0, 0, 0), some (.ldc_w 266, 14, 0, 0, 858993459), none, none, some (.iand, 15, 0, 0, 0), some (.iload_n 0, 16, 0, 0, 0), some (.iconst 2, 17, 0, 0, 0), some (.iushr, 18, 0, 0, 0), some (.ldc_w 266, 21, 0, 0, 858993459), none, none, some (.iand, 22, 0, 0, 0), some (.iadd, 23, 0, 0, 0), some (.istore_n 0, 24, 0, 0, 0), some (.iload_n 0, 25, 0, 0, 0), some (.iload_n 0, 26, 0, 0, 0), some (.iconst 4, 27, 0, 0, 0), some (.iushr, 28, 0, 0, 0), some (.iadd, 29, 0, 0, 0), some (.ldc_w 267, 32, 0, 0, 252645135), none, none, some (.iand, 33, 0, 0, 0), some (.istore_n 0, 34, 0, 0, 0), some (.iload_n 0, 35, 0, 0, 0), some (.iload_n 0, 36, 0, 0, 0), some (.bipush 8, 38, 0, 0, 0), none, some (.iushr, 39, 0, 0, 0), some (.iadd, 40, 0, 0, 0), some (.istore_n 0, 41, 0, 0, 0), some (.iload_n 0, 42, 0, 0, 0), some (.iload_n 0, 43, 0, 0, 0), some (.bipush 16, 45, 0, 0, 0), none, some (.iushr, 46, 0, 0, 0), some (.iadd, 47, 0, 0, 0), some (.istore_n 0, 48, 0, 0, 0), some (.iload_n 0, 49, 0, 0, 0), some (.bipush 63, 51, 0, 0, 0), none, some (.iand, 52, 0, 0, 0), some (.ireturn, 53, 0, 0, 0)]

noncomputable def jt_164 : List (List (Option jm_I)) := [jt_164_0]

set_option maxRecDepth 20000 in
noncomputable def jt_165_0 : List (Option jm_I) := [some (.iconst 0, 1, 0, 0, 0), some (.istore_n 1, 2, 0, 0, 0), some (.iconst 0, 3, 0, 0, 0), some (.istore_n 2, 4, 0, 0, 0), some (.iload_n 2, 5, 0, 0, 0), some (.bipush 16, 7, 0, 0, 0), none, some (.if_icmp .ge 21, 10, 28, 0, 0), none, none, some (.iload_n 1, 11, 0, 0, 0), some (.aload_n 0, 12, 0, 0, 0), some (.getfield 18, 15, 8, 2, 1), none, none, some (.iload_n 2, 16, 0, 0, 0), some (.iaload, 17, 0, 0, 0), some (.invokestatic 38, 20, 164, 2, 0), none, none, some (.iadd, 21, 0, 0, 0), some (.istore_n 1, 22, 0, 0, 0), some (.iinc 2 1, 25, 0, 0, 0), none, none, some (.goto (-21), 28, 4, 0, 0), none, none, some (.iload_n 1, 29, 0, 0, 0), some (.ireturn, 30, 0, 0, 0)]

noncomputable def jt_165 : List (List (Option jm_I)) := [jt_165_0]

set_option maxRecDepth 20000 in
noncomputable def jt_166_0 : List (Option jm_I) := [some (.iconst 0, 1, 0, 0, 0), some (.istore_n 1, 2, 0, 0, 0), some (.iconst 0, 3, 0, 0, 0), some (.istore_n 2, 4, 0, 0, 0), some (.iload_n 2, 5, 0, 0, 0), some (.bipush 8, 7, 0, 0, 0), none, some (.if_icmp .ge 30, 10, 37, 0, 0), none, none, some (.iload_n 1, 11, 0, 0, 0), some (.aload_n 0, 12, 0, 0, 0), some (.getfield 67, 15, 9, 9, 1), none, none, some (.iload_n 2, 16, 0, 0, 0), some (.aaload, 17, 0, 0, 0), some (.getfield 98, 20, 5, 2, 0), none, none, some (.iconst (-1), 21, 0, 0, 0), some (.if_icmp .ne 7, 24, 28, 0, 0), none, none, some (.iconst 0, 25, 0, 0, 0), some (.goto 4, 28, 29, 0, 0), none, none, some (.iconst 1, 29, 0, 0, 0), some (.iadd, 30, 0, 0, 0), some (.istore_n 1, 31, 0, 0, 0), some (.iinc 2 1, 34, 0, 0, 0), none, none, some (.goto (-30), 37, 4, 0, 0), none, none, some (.iload_n 1, 38, 0, 0, 0), some (.ireturn, 39, 0, 0, 0)]

noncomputable def jt_166 : List (List (Option jm_I)) := [jt_166_0]

set_option maxRecDepth 20000 in
noncomputable def jt_167_0 : List (Option jm_I) := [some (.aload_n 0, 1, 0, 0, 0), some (.invokespecial 3, 4, 1, 6, 0), none, none, some (.aload_n 0, 5, 0, 0, 0), some (.bipush 8, 7, 0, 0, 0), none, some (.newarray .int, 9, 0, 0, 0), none, some (.putfield 9, 12, 10, 0, 1), none, none, some (.aload_n 0, 13, 0, 0, 0), some (.bipush 8, 15, 0, 0, 0), none, some (.newarray .int, 17, 0, 0, 0), none, some (.putfield 13, 20, 10, 1, 1), none, none, some (.aload_n 0, 21, 0, 0, 0), some (.bipush 8, 23, 0, 0, 0), none, some (.newarray .int, 25, 0, 0, 0), none, some (.putfield 16, 28, 10, 2, 1), none, none, some (.aload_n 0, 29, 0, 0, 0), some (.bipush 8, 31, 0, 0, 0), none, some (.bipush 40, 33, 0, 0, 0), none, some (.multianewarray 19 2, 37, 0, 0, 0), none, none, none, some (.putfield 21, 40, 10, 3, 1), none, none, some (.aload_n 0, 41, 0, 0, 0), some (.bipush 40, 43, 0, 0, 0), none, some (.newarray .long, 45, 0, 0, 0), none, some (.putfield 24, 48, 10, 4, 1), none, none, some (.aload_n 0, 49, 0, 0, 0), some (.bipush 8, 51, 0, 0, 0), none, some (.newarray .int, 53, 0, 0, 0), none, some (.putfield 28, 56, 10, 5, 1), none, none, some (.aload_n 0, 57, 0, 0, 0), some (.sipush 250, 60, 0, 0, 0), none, none, some (.newarray .int, 62, 0, 0, 0), none, some (.putfield 31, 65, 10, 6, 1), none]

set_option maxRecDepth 20000 in
noncomputable def jt_167_1 : List (Option jm_I) := [none, some (.aload_n 0, 66, 0, 0, 0), some (.bipush 8, 68, 0, 0, 0), none, some (.newarray .int, 70, 0, 0, 0), none, some (.putfield 34, 73, 10, 8, 1), none, none, some (.aload_n 0, 74, 0, 0, 0), some (.iconst 1, 75, 0, 0, 0), some (.putfield 37, 78, 10, 11, 0), none, none, some (.aload_n 0, 79, 0, 0, 0), some (.bipush 60, 81, 0, 0, 0), none, some (.newarray .int, 83, 0, 0, 0), none, some (.putfield 41, 86, 10, 12, 1), none, none, some (.aload_n 0, 87, 0, 0, 0), some (.bipush 60, 89, 0, 0, 0), none, some (.newarray .int, 91, 0, 0, 0), none, some (.putfield 44, 94, 10, 13, 1), none, none, some (.aload_n 0, 95, 0, 0, 0), some (.bipush 16, 97, 0, 0, 0), none, some (.newarray .int, 99, 0, 0, 0), none, some (.putfield 47, 102, 10, 14, 1), none, none, some (.aload_n 0, 103, 0, 0, 0), some (.bipush 24, 105, 0, 0, 0), none, some (.newarray .int, 107, 0, 0, 0), none, some (.putfield 50, 110, 10, 15, 1), none, none, some (.aload_n 0, 111, 0, 0, 0), some (.bipush 96, 113, 0, 0, 0), none, some (.newarray .int, 115, 0, 0, 0), none, some (.putfield 53, 118, 10, 16, 1), none, none, some (.aload_n 0, 119, 0, 0, 0), some (.bipush 60, 121, 0, 0, 0), none, some (.newarray .int, 123, 0, 0, 0), none, some (.putfield 56, 126, 10, 21, 1), none, none, some (.aload_n 0, 127, 0, 0, 0), some (.bipush 60, 129, 0, 0, 0)]

set_option maxRecDepth 20000 in
noncomputable def jt_167_2 : List (Option jm_I) := [none, some (.newarray .int, 131, 0, 0, 0), none, some (.putfield 59, 134, 10, 22, 1), none, none, some (.aload_n 0, 135, 0, 0, 0), some (.bipush 16, 137, 0, 0, 0), none, some (.newarray .int, 139, 0, 0, 0), none, some (.putfield 62, 142, 10, 23, 1), none, none, some (.aload_n 0, 143, 0, 0, 0), some (.bipush 24, 145, 0, 0, 0), none, some (.newarray .int, 147, 0, 0, 0), none, some (.putfield 65, 150, 10, 24, 1), none, none, some (.aload_n 0, 151, 0, 0, 0), some (.bipush 96, 153, 0, 0, 0), none, some (.newarray .int, 155, 0, 0, 0), none, some (.putfield 68, 158, 10, 25, 1), none, none, some (.aload_n 0, 159, 0, 0, 0), some (.bipush 60, 161, 0, 0, 0), none, some (.newarray .int, 163, 0, 0, 0), none, some (.putfield 71, 166, 10, 27, 1), none, none, some (.aload_n 0, 167, 0, 0, 0), some (.bipush 27, 169, 0, 0, 0), none, some (.newarray .int, 171, 0, 0, 0), none, some (.putfield 74, 174, 10, 28, 1), none, none, some (.aload_n 0, 175, 0, 0, 0), some (.sipush 1620, 178, 0, 0, 0), none, none, some (.newarray .int, 180, 0, 0, 0), none, some (.putfield 77, 183, 10, 29, 1), none, none, some (.aload_n 0, 184, 0, 0, 0), some (.sipush 1620, 187, 0, 0, 0), none, none, some (.newarray .int, 189, 0, 0, 0), none, some (.putfield 80, 192, 10, 30, 1), none, none]

set_option maxRecDepth 20000 in
noncomputable def jt_167_3 : List (Option jm_I) := [some (.aload_n 0, 193, 0, 0, 0), some (.bipush 60, 195, 0, 0, 0), none, some (.newarray .int, 197, 0, 0, 0), none, some (.putfield 83, 200, 10, 31, 1), none, none, some (.aload_n 0, 201, 0, 0, 0), some (.bipush 24, 203, 0, 0, 0), none, some (.newarray .long, 205, 0, 0, 0), none, some (.putfield 86, 208, 10, 32, 1), none, none, some (.aload_n 0, 209, 0, 0, 0), some (.bipush 24, 211, 0, 0, 0), none, some (.newarray .int, 213, 0, 0, 0), none, some (.putfield 89, 216, 10, 33, 1), none, none, some (.aload_n 0, 217, 0, 0, 0), some (.bipush 24, 219, 0, 0, 0), none, some (.newarray .int, 221, 0, 0, 0), none, some (.putfield 92, 224, 10, 34, 1), none, none, some (.aload_n 0, 225, 0, 0, 0), some (.bipush 60, 227, 0, 0, 0), none, some (.newarray .int, 229, 0, 0, 0), none, some (.putfield 95, 232, 10, 35, 1), none, none, some (.aload_n 0, 233, 0, 0, 0), some (.bipush 60, 235, 0, 0, 0), none, some (.newarray .int, 237, 0, 0, 0), none, some (.putfield 98, 240, 10, 36, 1), none, none, some (.aload_n 0, 241, 0, 0, 0), some (.iconst (-1), 242, 0, 0, 0), some (.putfield 101, 245, 10, 37, 0), none, none, some (.aload_n 0, 246, 0, 0, 0), some (.iconst 4, 247, 0, 0, 0), some (.newarray .int, 249, 0, 0, 0), none, some (.putfield 104, 252, 10, 41, 1), none, none, some (.return_, 253, 0, 0, 0)]

noncomputable def jt_167 : List (List (Option jm_I)) := [jt_167_0, jt_167_1, jt_167_2, jt_167_3]

set_option maxRecDepth 20000 in
noncomputable def jt_168_0 : List (Option jm_I) := [some (.iload_n 1, 1, 0, 0, 0), some (.i2l, 2, 0, 0, 0), some (.lconst 0, 3, 0, 0, 0), some (.ldc2_w 117, 6, 0, 0, 7), none, none, some (.invokestatic 110, 9, 169, 2, 0), none, none, some (.ifCond .eq 27, 12, 36, 0, 0), none, none, some (.iload_n 2, 13, 0, 0, 0), some (.i2l, 14, 0, 0, 0), some (.lconst 0, 15, 0, 0, 0), some (.ldc2_w 119, 18, 0, 0, 4), none, none, some (.invokestatic 110, 21, 169, 2, 0), none, none, some (.ifCond .eq 15, 24, 36, 0, 0), none, none, some (.iload_n 3, 25, 0, 0, 0), some (.i2l, 26, 0, 0, 0), some (.lconst 0, 27, 0, 0, 0), some (.ldc2_w 121, 30, 0, 0, 40), none, none, some (.invokestatic 110, 33, 169, 2, 0), none, none, some (.ifCond .ne 10, 36, 43, 0, 0), none, none, some (.aload_n 0, 37, 0, 0, 0), some (.bipush (-2), 39, 0, 0, 0), none, some (.invokevirtual 123, 42, 170, 1, 10), none, none, some (.ireturn, 43, 0, 0, 0), some (.aload_n 0, 44, 0, 0, 0), some (.getfield 9, 47, 10, 0, 1), none, none, some (.iload_n 1, 48, 0, 0, 0), some (.iconst 1, 49, 0, 0, 0), some (.iastore, 50, 0, 0, 0), some (.aload_n 0, 51, 0, 0, 0), some (.getfield 13, 54, 10, 1, 1), none, none, some (.iload_n 1, 55, 0, 0, 0), some (.iload_n 2, 56, 0, 0, 0), some (.iastore, 57, 0, 0, 0), some (.aload_n 0, 58, 0, 0, 0), some (.getfield 16, 61, 10, 2, 1), none, none, some (.iload_n 1, 62, 0, 0, 0), some (.iload_n 3, 63, 0, 0, 0), some (.iastore, 64, 0, 0, 0)]

set_option maxRecDepth 20000 in
noncomputable def jt_168_1 : List (Option jm_I) := [some (.iconst 0, 65, 0, 0, 0), some (.istore 4, 67, 0, 0, 0), none, some (.iload 4, 69, 0, 0, 0), none, some (.bipush 40, 71, 0, 0, 0), none, some (.if_icmp .ge 19, 74, 90, 0, 0), none, none, some (.aload_n 0, 75, 0, 0, 0), some (.getfield 21, 78, 10, 3, 1), none, none, some (.iload_n 1, 79, 0, 0, 0), some (.aaload, 80, 0, 0, 0), some (.iload 4, 82, 0, 0, 0), none, some (.lconst 0, 83, 0, 0, 0), some (.lastore, 84, 0, 0, 0), some (.iinc 4 1, 87, 0, 0, 0), none, none, some (.goto (-20), 90, 67, 0, 0), none, none, some (.iconst 1, 91, 0, 0, 0), some (.ireturn, 92, 0, 0, 0)]

noncomputable def jt_168 : List (List (Option jm_I)) := [jt_168_0, jt_168_1]

set_option maxRecDepth 20000 in
noncomputable def jt_169_0 : List (Option jm_I) := [some (.lload_n 0, 1, 0, 0, 0), some (.lload_n 2, 2, 0, 0, 0), some (.lcmp, 3, 0, 0, 0), some (.ifCond .lt 14, 6, 17, 0, 0), none, none, some (.lload_n 0, 7, 0, 0, 0), some (.lload 4, 9, 0, 0, 0), none, some (.lcmp, 10, 0, 0, 0), some (.ifCond .gt 7, 13, 17, 0, 0), none, none, some (.iconst 1, 14, 0, 0, 0), some (.goto 4, 17, 18, 0, 0), none, none, some (.iconst 0, 18, 0, 0, 0), some (.ireturn, 19, 1, 0, 0)]

noncomputable def jt_169 : List (List (Option jm_I)) := [jt_169_0]

set_option maxRecDepth 20000 in
noncomputable def jt_170_0 : List (Option jm_I) := [some (.aload_n 0, 1, 0, 0, 0), some (.getfield 34, 4, 10, 8, 1), none, none, some (.iload_n 1, 5, 0, 0, 0), some (.ineg, 6, 0, 0, 0), some (.dup2, 7, 0, 0, 0), some (.iaload, 8, 0, 0, 0), some (.iconst 1, 9, 0, 0, 0), some (.iadd, 10, 0, 0, 0), some (.iastore, 11, 0, 0, 0), some (.iload_n 1, 12, 0, 0, 0), some (.ireturn, 13, 0, 0, 0)]

noncomputable def jt_170 : List (List (Option jm_I)) := [jt_170_0]

set_option maxRecDepth 20000 in
noncomputable def jt_171_0 : List (Option jm_I) := [some (.aload_n 0, 1, 0, 0, 0), some (.iload_n 1, 2, 0, 0, 0), some (.invokevirtual 127, 5, 172, 1, 10), none, none, some (.istore 5, 7, 0, 0, 0), none, some (.iload 5, 9, 0, 0, 0), none, some (.ifCond .eq 6, 12, 15, 0, 0), none, none, some (.iload 5, 14, 0, 0, 0), none, some (.ireturn, 15, 0, 0, 0), some (.iload_n 2, 16, 0, 0, 0), some (.i2l, 17, 0, 0, 0), some (.lconst 0, 18, 0, 0, 0), some (.aload_n 0, 19, 0, 0, 0), some (.getfield 16, 22, 10, 2, 1), none, none, some (.iload_n 1, 23, 0, 0, 0), some (.iaload, 24, 0, 0, 0), some (.iconst 1, 25, 0, 0, 0), some (.isub, 26, 0, 0, 0), some (.i2l, 27, 0, 0, 0), some (.invokestatic 110, 30, 169, 2, 0), none, none, some (.ifCond .ne 10, 33, 40, 0, 0), none, none, some (.aload_n 0, 34, 0, 0, 0), some (.bipush (-2), 36, 0, 0, 0), none, some (.invokevirtual 123, 39, 170, 1, 10), none, none, some (.ireturn, 40, 0, 0, 0), some (.aload_n 0, 41, 0, 0, 0), some (.getfield 21, 44, 10, 3, 1), none, none, some (.iload_n 1, 45, 0, 0, 0), some (.aaload, 46, 0, 0, 0), some (.iload_n 2, 47, 0, 0, 0), some (.aload_n 0, 48, 0, 0, 0), some (.getfield 13, 51, 10, 1, 1), none, none, some (.iload_n 1, 52, 0, 0, 0), some (.iaload, 53, 0, 0, 0), some (.lload_n 3, 54, 0, 0, 0), some (.invokestatic 130, 57, 173, 2, 0), none, none, some (.lastore, 58, 0, 0, 0), some (.iconst 1, 59, 0, 0, 0), some (.ireturn, 60, 0, 0, 0)]

noncomputable def jt_171 : List (List (Option jm_I)) := [jt_171_0]

set_option maxRecDepth 20000 in
noncomputable def jt_172_0 : List (Option jm_I) := [some (.iload_n 1, 1, 0, 0, 0), some (.i2l, 2, 0, 0, 0), some (.lconst 0, 3, 0, 0, 0), some (.ldc2_w 117, 6, 0, 0, 7), none, none, some (.invokestatic 110, 9, 169, 2, 0), none, none, some (.ifCond .ne 10, 12, 19, 0, 0), none, none, some (.aload_n 0, 13, 0, 0, 0), some (.bipush (-2), 15, 0, 0, 0), none, some (.invokevirtual 123, 18, 170, 1, 10), none, none, some (.ireturn, 19, 0, 0, 0), some (.aload_n 0, 20, 0, 0, 0), some (.getfield 9, 23, 10, 0, 1), none, none, some (.iload_n 1, 24, 0, 0, 0), some (.iaload, 25, 0, 0, 0), some (.iconst 2, 26, 0, 0, 0), some (.if_icmp .ne 10, 29, 36, 0, 0), none, none, some (.aload_n 0, 30, 0, 0, 0), some (.bipush (-3), 32, 0, 0, 0), none, some (.invokevirtual 123, 35, 170, 1, 10), none, none, some (.ireturn, 36, 0, 0, 0), some (.aload_n 0, 37, 0, 0, 0), some (.getfield 9, 40, 10, 0, 1), none, none, some (.iload_n 1, 41, 0, 0, 0), some (.iaload, 42, 0, 0, 0), some (.ifCond .ne 12, 45, 54, 0, 0), none, none, some (.aload_n 0, 46, 0, 0, 0), some (.bipush (-4), 48, 0, 0, 0), none, some (.invokevirtual 123, 51, 170, 1, 10), none, none, some (.goto 4, 54, 55, 0, 0), none, none, some (.iconst 0, 55, 0, 0, 0), some (.ireturn, 56, 0, 0, 0)]

noncomputable def jt_172 : List (List (Option jm_I)) := [jt_172_0]

set_option maxRecDepth 20000 in
noncomputable def jt_173_0 : List (Option jm_I) := [some (.iload_n 0, 1, 0, 0, 0), some (.tableswitch 47 0 3 #[31, 36, 41, 45], 32, 0, 0, 0), none, none, none, none, none, none, none, none, none, none, none, none, none, none, none, none, none, none, none, none, none, none, none, none, none, none, none, none, none, none, some (.lload_n 1, 33, 0, 0, 0), some (.l2i, 34, 0, 0, 0), some (.i2b, 35, 0, 0, 0), some (.i2l, 36, 0, 0, 0), some (.lreturn, 37, 0, 0, 0), some (.lload_n 1, 38, 0, 0, 0), some (.l2i, 39, 0, 0, 0), some (.i2s, 40, 0, 0, 0), some (.i2l, 41, 0, 0, 0), some (.lreturn, 42, 0, 0, 0), some (.lload_n 1, 43, 0, 0, 0), some (.l2i, 44, 0, 0, 0), some (.i2l, 45, 0, 0, 0), some (.lreturn, 46, 0, 0, 0), some (.lload_n 1, 47, 0, 0, 0), some (.lreturn, 48, 0, 0, 0), some (.lload_n 1, 49, 0, 0, 0), some (.lconst 0, 50, 0, 0, 0), some (.lcmp, 51, 0, 0, 0), some (.ifCond .eq 7, 54, 58, 0, 0), none, none, some (.lconst 1, 55, 0, 0, 0), some (.goto 4, 58, 59, 0, 0), none, none, some (.lconst 0, 59, 0, 0, 0), some (.lreturn, 60, 0, 0, 0)]

noncomputable def jt_173 : List (List (Option jm_I)) := [jt_173_0]

set_option maxRecDepth 20000 in
noncomputable def jt_174_0 : List (Option jm_I) := [some (.iload_n 1, 1, 0, 0, 0), some (.i2l, 2, 0, 0, 0), some (.lconst 0, 3, 0, 0, 0), some (.ldc2_w 117, 6, 0, 0, 7), none, none, some (.invokestatic 110, 9, 169, 2, 0), none, none, some (.ifCond .eq 15, 12, 24, 0, 0), none, none, some (.iload_n 2, 13, 0, 0, 0), some (.i2l, 14, 0, 0, 0), some (.lconst 0, 15, 0, 0, 0), some (.ldc2_w 117, 18, 0, 0, 7), none, none, some (.invokestatic 110, 21, 169, 2, 0), none, none, some (.ifCond .ne 10, 24, 31, 0, 0), none, none, some (.aload_n 0, 25, 0, 0, 0), some (.bipush (-2), 27, 0, 0, 0), none, some (.invokevirtual 123, 30, 170, 1, 10), none, none, some (.ireturn, 31, 0, 0, 0), some (.aload_n 0, 32, 0, 0, 0), some (.getfield 9, 35, 10, 0, 1), none, none, some (.iload_n 1, 36, 0, 0, 0), some (.iaload, 37, 0, 0, 0), some (.iconst 2, 38, 0, 0, 0), some (.if_icmp .eq 48, 41, 86, 0, 0), none, none, some (.aload_n 0, 42, 0, 0, 0), some (.getfield 9, 45, 10, 0, 1), none, none, some (.iload_n 2, 46, 0, 0, 0), some (.iaload, 47, 0, 0, 0), some (.iconst 2, 48, 0, 0, 0), some (.if_icmp .eq 38, 51, 86, 0, 0), none, none, some (.aload_n 0, 52, 0, 0, 0), some (.getfield 9, 55, 10, 0, 1), none, none, some (.iload_n 1, 56, 0, 0, 0), some (.iaload, 57, 0, 0, 0), some (.iconst 1, 58, 0, 0, 0), some (.if_icmp .ne 35, 61, 93, 0, 0), none, none, some (.aload_n 0, 62, 0, 0, 0), some (.getfield 9, 65, 10, 0, 1), none]

set_option maxRecDepth 20000 in
noncomputable def jt_174_1 : List (Option jm_I) := [none, some (.iload_n 2, 66, 0, 0, 0), some (.iaload, 67, 0, 0, 0), some (.iconst 1, 68, 0, 0, 0), some (.if_icmp .ne 25, 71, 93, 0, 0), none, none, some (.aload_n 0, 72, 0, 0, 0), some (.getfield 13, 75, 10, 1, 1), none, none, some (.iload_n 1, 76, 0, 0, 0), some (.iaload, 77, 0, 0, 0), some (.aload_n 0, 78, 0, 0, 0), some (.getfield 13, 81, 10, 1, 1), none, none, some (.iload_n 2, 82, 0, 0, 0), some (.iaload, 83, 0, 0, 0), some (.if_icmp .eq 10, 86, 93, 0, 0), none, none, some (.aload_n 0, 87, 0, 0, 0), some (.bipush (-3), 89, 0, 0, 0), none, some (.invokevirtual 123, 92, 170, 1, 10), none, none, some (.ireturn, 93, 0, 0, 0), some (.aload_n 0, 94, 0, 0, 0), some (.getfield 9, 97, 10, 0, 1), none, none, some (.iload_n 1, 98, 0, 0, 0), some (.iaload, 99, 0, 0, 0), some (.ifCond .eq 12, 102, 111, 0, 0), none, none, some (.aload_n 0, 103, 0, 0, 0), some (.getfield 9, 106, 10, 0, 1), none, none, some (.iload_n 2, 107, 0, 0, 0), some (.iaload, 108, 0, 0, 0), some (.ifCond .ne 10, 111, 118, 0, 0), none, none, some (.aload_n 0, 112, 0, 0, 0), some (.bipush (-4), 114, 0, 0, 0), none, some (.invokevirtual 123, 117, 170, 1, 10), none, none, some (.ireturn, 118, 0, 0, 0), some (.iload 5, 120, 0, 0, 0), none, some (.ifCond .lt 61, 123, 181, 0, 0), none, none, some (.iload_n 3, 124, 0, 0, 0), some (.ifCond .lt 57, 127, 181, 0, 0), none, none, some (.iload 4, 129, 0, 0, 0)]

set_option maxRecDepth 20000 in
noncomputable def jt_174_2 : List (Option jm_I) := [none, some (.ifCond .lt 52, 132, 181, 0, 0), none, none, some (.iload 5, 134, 0, 0, 0), none, some (.aload_n 0, 135, 0, 0, 0), some (.getfield 16, 138, 10, 2, 1), none, none, some (.iload_n 1, 139, 0, 0, 0), some (.iaload, 140, 0, 0, 0), some (.if_icmp .gt 41, 143, 181, 0, 0), none, none, some (.iload 5, 145, 0, 0, 0), none, some (.aload_n 0, 146, 0, 0, 0), some (.getfield 16, 149, 10, 2, 1), none, none, some (.iload_n 2, 150, 0, 0, 0), some (.iaload, 151, 0, 0, 0), some (.if_icmp .gt 30, 154, 181, 0, 0), none, none, some (.iload_n 3, 155, 0, 0, 0), some (.aload_n 0, 156, 0, 0, 0), some (.getfield 16, 159, 10, 2, 1), none, none, some (.iload_n 1, 160, 0, 0, 0), some (.iaload, 161, 0, 0, 0), some (.iload 5, 163, 0, 0, 0), none, some (.isub, 164, 0, 0, 0), some (.if_icmp .gt 17, 167, 181, 0, 0), none, none, some (.iload 4, 169, 0, 0, 0), none, some (.aload_n 0, 170, 0, 0, 0), some (.getfield 16, 173, 10, 2, 1), none, none, some (.iload_n 2, 174, 0, 0, 0), some (.iaload, 175, 0, 0, 0), some (.iload 5, 177, 0, 0, 0), none, some (.isub, 178, 0, 0, 0), some (.if_icmp .le 10, 181, 188, 0, 0), none, none, some (.aload_n 0, 182, 0, 0, 0), some (.bipush (-2), 184, 0, 0, 0), none, some (.invokevirtual 123, 187, 170, 1, 10), none, none, some (.ireturn, 188, 0, 0, 0), some (.iconst 0, 189, 0, 0, 0), some (.istore 6, 191, 0, 0, 0), none, some (.iload 6, 193, 0, 0, 0)]

set_option maxRecDepth 20000 in
noncomputable def jt_174_3 : List (Option jm_I) := [none, some (.iload 5, 195, 0, 0, 0), none, some (.if_icmp .ge 27, 198, 222, 0, 0), none, none, some (.aload_n 0, 199, 0, 0, 0), some (.getfield 24, 202, 10, 4, 1), none, none, some (.iload 6, 204, 0, 0, 0), none, some (.aload_n 0, 205, 0, 0, 0), some (.getfield 21, 208, 10, 3, 1), none, none, some (.iload_n 1, 209, 0, 0, 0), some (.aaload, 210, 0, 0, 0), some (.iload_n 3, 211, 0, 0, 0), some (.iload 6, 213, 0, 0, 0), none, some (.iadd, 214, 0, 0, 0), some (.laload, 215, 0, 0, 0), some (.lastore, 216, 0, 0, 0), some (.iinc 6 1, 219, 0, 0, 0), none, none, some (.goto (-28), 222, 191, 0, 0), none, none, some (.iconst 0, 223, 0, 0, 0), some (.istore 6, 225, 0, 0, 0), none, some (.iload 6, 227, 0, 0, 0), none, some (.iload 5, 229, 0, 0, 0), none, some (.if_icmp .ge 28, 232, 257, 0, 0), none, none, some (.aload_n 0, 233, 0, 0, 0), some (.getfield 21, 236, 10, 3, 1), none, none, some (.iload_n 2, 237, 0, 0, 0), some (.aaload, 238, 0, 0, 0), some (.iload 4, 240, 0, 0, 0), none, some (.iload 6, 242, 0, 0, 0), none, some (.iadd, 243, 0, 0, 0), some (.aload_n 0, 244, 0, 0, 0), some (.getfield 24, 247, 10, 4, 1), none, none, some (.iload 6, 249, 0, 0, 0), none, some (.laload, 250, 0, 0, 0), some (.lastore, 251, 0, 0, 0), some (.iinc 6 1, 254, 0, 0, 0), none, none, some (.goto (-29), 257, 225, 0, 0), none]

set_option maxRecDepth 20000 in
noncomputable def jt_174_4 : List (Option jm_I) := [none, some (.iload 5, 259, 0, 0, 0), none, some (.ireturn, 260, 0, 0, 0)]

noncomputable def jt_174 : List (List (Option jm_I)) := [jt_174_0, jt_174_1, jt_174_2, jt_174_3, jt_174_4]

set_option maxRecDepth 20000 in
noncomputable def jt_175_0 : List (Option jm_I) := [some (.iload_n 1, 1, 0, 0, 0), some (.i2l, 2, 0, 0, 0), some (.lconst 0, 3, 0, 0, 0), some (.ldc2_w 117, 6, 0, 0, 7), none, none, some (.invokestatic 110, 9, 169, 2, 0), none, none, some (.ifCond .eq 42, 12, 51, 0, 0), none, none, some (.aload_n 0, 13, 0, 0, 0), some (.getfield 9, 16, 10, 0, 1), none, none, some (.iload_n 1, 17, 0, 0, 0), some (.iaload, 18, 0, 0, 0), some (.iconst 1, 19, 0, 0, 0), some (.if_icmp .ne 32, 22, 51, 0, 0), none, none, some (.iload_n 2, 23, 0, 0, 0), some (.i2l, 24, 0, 0, 0), some (.lconst 0, 25, 0, 0, 0), some (.aload_n 0, 26, 0, 0, 0), some (.getfield 16, 29, 10, 2, 1), none, none, some (.iload_n 1, 30, 0, 0, 0), some (.iaload, 31, 0, 0, 0), some (.iconst 1, 32, 0, 0, 0), some (.isub, 33, 0, 0, 0), some (.i2l, 34, 0, 0, 0), some (.invokestatic 110, 37, 169, 2, 0), none, none, some (.ifCond .eq 14, 40, 51, 0, 0), none, none, some (.aload_n 0, 41, 0, 0, 0), some (.getfield 21, 44, 10, 3, 1), none, none, some (.iload_n 1, 45, 0, 0, 0), some (.aaload, 46, 0, 0, 0), some (.iload_n 2, 47, 0, 0, 0), some (.laload, 48, 0, 0, 0), some (.goto 4, 51, 52, 0, 0), none, none, some (.lconst 0, 52, 0, 0, 0), some (.lreturn, 53, 0, 0, 0)]

noncomputable def jt_175 : List (List (Option jm_I)) := [jt_175_0]

set_option maxRecDepth 20000 in
noncomputable def jt_176_0 : List (Option jm_I) := [some (.iload_n 1, 1, 0, 0, 0), some (.i2l, 2, 0, 0, 0), some (.lconst 0, 3, 0, 0, 0), some (.ldc2_w 117, 6, 0, 0, 7), none, none, some (.invokestatic 110, 9, 169, 2, 0), none, none, some (.ifCond .eq 12, 12, 21, 0, 0), none, none, some (.aload_n 0, 13, 0, 0, 0), some (.getfield 9, 16, 10, 0, 1), none, none, some (.iload_n 1, 17, 0, 0, 0), some (.iaload, 18, 0, 0, 0), some (.ifCond .ne 5, 21, 23, 0, 0), none, none, some (.iconst (-1), 22, 0, 0, 0), some (.ireturn, 23, 0, 0, 0), some (.aload_n 0, 24, 0, 0, 0), some (.getfield 9, 27, 10, 0, 1), none, none, some (.iload_n 1, 28, 0, 0, 0), some (.iaload, 29, 0, 0, 0), some (.iconst 1, 30, 0, 0, 0), some (.if_icmp .ne 12, 33, 42, 0, 0), none, none, some (.aload_n 0, 34, 0, 0, 0), some (.getfield 13, 37, 10, 1, 1), none, none, some (.iload_n 1, 38, 0, 0, 0), some (.iaload, 39, 0, 0, 0), some (.goto 12, 42, 51, 0, 0), none, none, some (.bipush 10, 44, 0, 0, 0), none, some (.aload_n 0, 45, 0, 0, 0), some (.getfield 28, 48, 10, 5, 1), none, none, some (.iload_n 1, 49, 0, 0, 0), some (.iaload, 50, 0, 0, 0), some (.iadd, 51, 0, 0, 0), some (.ireturn, 52, 0, 0, 0)]

noncomputable def jt_176 : List (List (Option jm_I)) := [jt_176_0]

set_option maxRecDepth 20000 in
noncomputable def jt_177_0 : List (Option jm_I) := [some (.iload_n 1, 1, 0, 0, 0), some (.i2l, 2, 0, 0, 0), some (.lconst 0, 3, 0, 0, 0), some (.ldc2_w 117, 6, 0, 0, 7), none, none, some (.invokestatic 110, 9, 169, 2, 0), none, none, some (.ifCond .eq 16, 12, 25, 0, 0), none, none, some (.iload_n 2, 13, 0, 0, 0), some (.iconst (-1), 14, 0, 0, 0), some (.if_icmp .eq 18, 17, 32, 0, 0), none, none, some (.aload_n 0, 18, 0, 0, 0), some (.iload_n 2, 19, 0, 0, 0), some (.invokevirtual 134, 22, 178, 1, 10), none, none, some (.ifCond .ne 10, 25, 32, 0, 0), none, none, some (.aload_n 0, 26, 0, 0, 0), some (.bipush (-2), 28, 0, 0, 0), none, some (.invokevirtual 123, 31, 170, 1, 10), none, none, some (.ireturn, 32, 0, 0, 0), some (.aload_n 0, 33, 0, 0, 0), some (.getfield 9, 36, 10, 0, 1), none, none, some (.iload_n 1, 37, 0, 0, 0), some (.iload_n 2, 38, 0, 0, 0), some (.iconst (-1), 39, 0, 0, 0), some (.if_icmp .ne 7, 42, 46, 0, 0), none, none, some (.iconst 0, 43, 0, 0, 0), some (.goto 4, 46, 47, 0, 0), none, none, some (.iconst 2, 47, 0, 0, 0), some (.iastore, 48, 0, 0, 0), some (.aload_n 0, 49, 0, 0, 0), some (.getfield 28, 52, 10, 5, 1), none, none, some (.iload_n 1, 53, 0, 0, 0), some (.iload_n 2, 54, 0, 0, 0), some (.iastore, 55, 0, 0, 0), some (.iconst 1, 56, 0, 0, 0), some (.ireturn, 57, 0, 0, 0)]

noncomputable def jt_177 : List (List (Option jm_I)) := [jt_177_0]

set_option maxRecDepth 20000 in
noncomputable def jt_178_0 : List (Option jm_I) := [some (.iload_n 1, 1, 0, 0, 0), some (.i2l, 2, 0, 0, 0), some (.lconst 0, 3, 0, 0, 0), some (.aload_n 0, 4, 0, 0, 0), some (.getfield 107, 7, 10, 10, 0), none, none, some (.iconst 1, 8, 0, 0, 0), some (.isub, 9, 0, 0, 0), some (.i2l, 10, 0, 0, 0), some (.invokestatic 110, 13, 169, 2, 0), none, none, some (.ireturn, 14, 1, 0, 0)]

noncomputable def jt_178 : List (List (Option jm_I)) := [jt_178_0]

set_option maxRecDepth 20000 in
noncomputable def jt_179_0 : List (Option jm_I) := [some (.iload_n 1, 1, 0, 0, 0), some (.i2l, 2, 0, 0, 0), some (.lconst 0, 3, 0, 0, 0), some (.ldc2_w 117, 6, 0, 0, 7), none, none, some (.invokestatic 110, 9, 169, 2, 0), none, none, some (.ifCond .eq 15, 12, 24, 0, 0), none, none, some (.iload_n 2, 13, 0, 0, 0), some (.i2l, 14, 0, 0, 0), some (.lconst 0, 15, 0, 0, 0), some (.ldc2_w 138, 18, 0, 0, 6), none, none, some (.invokestatic 110, 21, 169, 2, 0), none, none, some (.ifCond .ne 10, 24, 31, 0, 0), none, none, some (.aload_n 0, 25, 0, 0, 0), some (.bipush (-2), 27, 0, 0, 0), none, some (.invokevirtual 123, 30, 170, 1, 10), none, none, some (.ireturn, 31, 0, 0, 0), some (.aload_n 0, 32, 0, 0, 0), some (.getfield 28, 35, 10, 5, 1), none, none, some (.iload_n 1, 36, 0, 0, 0), some (.iaload, 37, 0, 0, 0), some (.istore_n 3, 38, 0, 0, 0), some (.aload_n 0, 39, 0, 0, 0), some (.getfield 9, 42, 10, 0, 1), none, none, some (.iload_n 1, 43, 0, 0, 0), some (.iaload, 44, 0, 0, 0), some (.iconst 1, 45, 0, 0, 0), some (.if_icmp .eq 26, 48, 71, 0, 0), none, none, some (.aload_n 0, 49, 0, 0, 0), some (.getfield 9, 52, 10, 0, 1), none, none, some (.iload_n 1, 53, 0, 0, 0), some (.iaload, 54, 0, 0, 0), some (.iconst 2, 55, 0, 0, 0), some (.if_icmp .ne 23, 58, 78, 0, 0), none, none, some (.aload_n 0, 59, 0, 0, 0), some (.getfield 50, 62, 10, 15, 1), none, none, some (.iload_n 3, 63, 0, 0, 0), some (.iaload, 64, 0, 0, 0)]

set_option maxRecDepth 20000 in
noncomputable def jt_179_1 : List (Option jm_I) := [some (.iload_n 2, 65, 0, 0, 0), some (.invokestatic 140, 68, 180, 2, 0), none, none, some (.ifCond .ne 10, 71, 78, 0, 0), none, none, some (.aload_n 0, 72, 0, 0, 0), some (.bipush (-3), 74, 0, 0, 0), none, some (.invokevirtual 123, 77, 170, 1, 10), none, none, some (.ireturn, 78, 0, 0, 0), some (.aload_n 0, 79, 0, 0, 0), some (.getfield 9, 82, 10, 0, 1), none, none, some (.iload_n 1, 83, 0, 0, 0), some (.iaload, 84, 0, 0, 0), some (.ifCond .ne 10, 87, 94, 0, 0), none, none, some (.aload_n 0, 88, 0, 0, 0), some (.bipush (-4), 90, 0, 0, 0), none, some (.invokevirtual 123, 93, 170, 1, 10), none, none, some (.ireturn, 94, 0, 0, 0), some (.aload_n 0, 95, 0, 0, 0), some (.invokevirtual 144, 98, 181, 1, 10), none, none, some (.aload_n 0, 99, 0, 0, 0), some (.getfield 53, 102, 10, 16, 1), none, none, some (.iconst 4, 103, 0, 0, 0), some (.iload_n 3, 104, 0, 0, 0), some (.imul, 105, 0, 0, 0), some (.iaload, 106, 0, 0, 0), some (.istore 4, 108, 0, 0, 0), none, some (.aload_n 0, 109, 0, 0, 0), some (.getfield 53, 112, 10, 16, 1), none, none, some (.iconst 4, 113, 0, 0, 0), some (.iload_n 3, 114, 0, 0, 0), some (.imul, 115, 0, 0, 0), some (.iconst 1, 116, 0, 0, 0), some (.iadd, 117, 0, 0, 0), some (.iaload, 118, 0, 0, 0), some (.istore 5, 120, 0, 0, 0), none, some (.iload_n 2, 121, 0, 0, 0), some (.tableswitch 99 0 5 #[39, 46, 49, 58, 81, 96], 160, 0, 0, 0), none, none, none, none, none, none]

set_option maxRecDepth 20000 in
noncomputable def jt_179_2 : List (Option jm_I) := [none, none, none, none, none, none, none, none, none, none, none, none, none, none, none, none, none, none, none, none, none, none, none, none, none, none, none, none, none, none, none, none, some (.aload_n 0, 161, 0, 0, 0), some (.getfield 74, 164, 10, 28, 1), none, none, some (.iload_n 3, 165, 0, 0, 0), some (.iaload, 166, 0, 0, 0), some (.ireturn, 167, 0, 0, 0), some (.iload 4, 169, 0, 0, 0), none, some (.ireturn, 170, 0, 0, 0), some (.bipush 100, 172, 0, 0, 0), none, some (.iload 4, 174, 0, 0, 0), none, some (.imul, 175, 0, 0, 0), some (.iload 5, 177, 0, 0, 0), none, some (.iadd, 178, 0, 0, 0), some (.ireturn, 179, 0, 0, 0), some (.aload_n 0, 180, 0, 0, 0), some (.getfield 74, 183, 10, 28, 1), none, none, some (.iload 4, 185, 0, 0, 0), none, some (.iaload, 186, 0, 0, 0), some (.aload_n 0, 187, 0, 0, 0), some (.getfield 74, 190, 10, 28, 1), none, none, some (.iload 5, 192, 0, 0, 0), none]

set_option maxRecDepth 20000 in
noncomputable def jt_179_3 : List (Option jm_I) := [some (.iaload, 193, 0, 0, 0), some (.iadd, 194, 0, 0, 0), some (.aload_n 0, 195, 0, 0, 0), some (.getfield 74, 198, 10, 28, 1), none, none, some (.iload_n 3, 199, 0, 0, 0), some (.iaload, 200, 0, 0, 0), some (.isub, 201, 0, 0, 0), some (.ireturn, 202, 0, 0, 0), some (.aload_n 0, 203, 0, 0, 0), some (.getfield 74, 206, 10, 28, 1), none, none, some (.iload 4, 208, 0, 0, 0), none, some (.iaload, 209, 0, 0, 0), some (.aload_n 0, 210, 0, 0, 0), some (.getfield 74, 213, 10, 28, 1), none, none, some (.iload_n 3, 214, 0, 0, 0), some (.iaload, 215, 0, 0, 0), some (.isub, 216, 0, 0, 0), some (.ireturn, 217, 0, 0, 0), some (.iload 5, 219, 0, 0, 0), none, some (.ireturn, 220, 0, 0, 0), some (.aload_n 0, 221, 0, 0, 0), some (.getfield 53, 224, 10, 16, 1), none, none, some (.iconst 4, 225, 0, 0, 0), some (.iload_n 3, 226, 0, 0, 0), some (.imul, 227, 0, 0, 0), some (.iconst 3, 228, 0, 0, 0), some (.iadd, 229, 0, 0, 0), some (.iaload, 230, 0, 0, 0), some (.ireturn, 231, 0, 0, 0)]

noncomputable def jt_179 : List (List (Option jm_I)) := [jt_179_0, jt_179_1, jt_179_2, jt_179_3]

set_option maxRecDepth 20000 in
noncomputable def jt_180_0 : List (Option jm_I) := [some (.iload_n 1, 1, 0, 0, 0), some (.tableswitch 124 0 5 #[39, 41, 62, 79, 95, 112], 40, 0, 0, 0), none, none, none, none, none, none, none, none, none, none, none, none, none, none, none, none, none, none, none, none, none, none, none, none, none, none, none, none, none, none, none, none, none, none, none, none, none, none, some (.iconst 1, 41, 0, 0, 0), some (.ireturn, 42, 1, 0, 0), some (.iload_n 0, 43, 0, 0, 0), some (.ifCond .eq 14, 46, 57, 0, 0), none, none, some (.iload_n 0, 47, 0, 0, 0), some (.iconst 1, 48, 0, 0, 0), some (.if_icmp .eq 9, 51, 57, 0, 0), none, none, some (.iload_n 0, 52, 0, 0, 0), some (.bipush 9, 54, 0, 0, 0), none, some (.if_icmp .ne 7, 57, 61, 0, 0), none, none, some (.iconst 1, 58, 0, 0, 0), some (.goto 4, 61, 62, 0, 0), none, none, some (.iconst 0, 62, 0, 0, 0), some (.ireturn, 63, 1, 0, 0), some (.iload_n 0, 64, 0, 0, 0)]

set_option maxRecDepth 20000 in
noncomputable def jt_180_1 : List (Option jm_I) := [some (.iconst 2, 65, 0, 0, 0), some (.if_icmp .lt 13, 68, 78, 0, 0), none, none, some (.iload_n 0, 69, 0, 0, 0), some (.bipush 8, 71, 0, 0, 0), none, some (.if_icmp .gt 7, 74, 78, 0, 0), none, none, some (.iconst 1, 75, 0, 0, 0), some (.goto 4, 78, 79, 0, 0), none, none, some (.iconst 0, 79, 0, 0, 0), some (.ireturn, 80, 1, 0, 0), some (.iload_n 0, 81, 0, 0, 0), some (.iconst 2, 82, 0, 0, 0), some (.if_icmp .lt 12, 85, 94, 0, 0), none, none, some (.iload_n 0, 86, 0, 0, 0), some (.iconst 4, 87, 0, 0, 0), some (.if_icmp .gt 7, 90, 94, 0, 0), none, none, some (.iconst 1, 91, 0, 0, 0), some (.goto 4, 94, 95, 0, 0), none, none, some (.iconst 0, 95, 0, 0, 0), some (.ireturn, 96, 1, 0, 0), some (.iload_n 0, 97, 0, 0, 0), some (.iconst 5, 98, 0, 0, 0), some (.if_icmp .lt 13, 101, 111, 0, 0), none, none, some (.iload_n 0, 102, 0, 0, 0), some (.bipush 8, 104, 0, 0, 0), none, some (.if_icmp .gt 7, 107, 111, 0, 0), none, none, some (.iconst 1, 108, 0, 0, 0), some (.goto 4, 111, 112, 0, 0), none, none, some (.iconst 0, 112, 0, 0, 0), some (.ireturn, 113, 1, 0, 0), some (.iload_n 0, 114, 0, 0, 0), some (.bipush 10, 116, 0, 0, 0), none, some (.if_icmp .ne 7, 119, 123, 0, 0), none, none, some (.iconst 1, 120, 0, 0, 0), some (.goto 4, 123, 124, 0, 0), none, none, some (.iconst 0, 124, 0, 0, 0), some (.ireturn, 125, 1, 0, 0), some (.iload_n 0, 126, 0, 0, 0), some (.bipush 11, 128, 0, 0, 0), none]

set_option maxRecDepth 20000 in
noncomputable def jt_180_2 : List (Option jm_I) := [some (.if_icmp .ne 7, 131, 135, 0, 0), none, none, some (.iconst 1, 132, 0, 0, 0), some (.goto 4, 135, 136, 0, 0), none, none, some (.iconst 0, 136, 0, 0, 0), some (.ireturn, 137, 1, 0, 0)]

noncomputable def jt_180 : List (List (Option jm_I)) := [jt_180_0, jt_180_1, jt_180_2]

set_option maxRecDepth 20000 in
noncomputable def jt_181_0 : List (Option jm_I) := [some (.aload_n 0, 1, 0, 0, 0), some (.getfield 205, 4, 10, 26, 2), none, none, some (.ifCond .ne 12, 7, 16, 0, 0), none, none, some (.aload_n 0, 8, 0, 0, 0), some (.invokevirtual 209, 11, 182, 1, 10), none, none, some (.aload_n 0, 12, 0, 0, 0), some (.iconst 1, 13, 0, 0, 0), some (.putfield 205, 16, 10, 26, 2), none, none, some (.return_, 17, 0, 0, 0)]

noncomputable def jt_181 : List (List (Option jm_I)) := [jt_181_0]

set_option maxRecDepth 20000 in
noncomputable def jt_182_0 : List (Option jm_I) := [some (.aload_n 0, 1, 0, 0, 0), some (.invokevirtual 190, 4, 183, 1, 10), none, none, some (.iconst 0, 5, 0, 0, 0), some (.istore_n 1, 6, 0, 0, 0), some (.iload_n 1, 7, 0, 0, 0), some (.aload_n 0, 8, 0, 0, 0), some (.getfield 107, 11, 10, 10, 0), none, none, some (.if_icmp .ge 99, 14, 110, 0, 0), none, none, some (.aload_n 0, 15, 0, 0, 0), some (.getfield 50, 18, 10, 15, 1), none, none, some (.iload_n 1, 19, 0, 0, 0), some (.iaload, 20, 0, 0, 0), some (.istore_n 2, 21, 0, 0, 0), some (.iload_n 2, 22, 0, 0, 0), some (.ifCond .eq 8, 25, 30, 0, 0), none, none, some (.iload_n 2, 26, 0, 0, 0), some (.iconst 1, 27, 0, 0, 0), some (.if_icmp .ne 11, 30, 38, 0, 0), none, none, some (.aload_n 0, 31, 0, 0, 0), some (.iload_n 1, 32, 0, 0, 0), some (.invokevirtual 193, 35, 184, 1, 10), none, none, some (.goto 69, 38, 104, 0, 0), none, none, some (.iload_n 2, 39, 0, 0, 0), some (.bipush 9, 41, 0, 0, 0), none, some (.if_icmp .ne 11, 44, 52, 0, 0), none, none, some (.aload_n 0, 45, 0, 0, 0), some (.iload_n 1, 46, 0, 0, 0), some (.invokevirtual 196, 49, 188, 1, 10), none, none, some (.goto 55, 52, 104, 0, 0), none, none, some (.iload_n 2, 53, 0, 0, 0), some (.bipush 10, 55, 0, 0, 0), none, some (.if_icmp .ne 11, 58, 66, 0, 0), none, none, some (.aload_n 0, 59, 0, 0, 0), some (.iload_n 1, 60, 0, 0, 0), some (.invokevirtual 199, 63, 190, 1, 10), none, none, some (.goto 41, 66, 104, 0, 0)]

set_option maxRecDepth 20000 in
noncomputable def jt_182_1 : List (Option jm_I) := [none, none, some (.iload_n 2, 67, 0, 0, 0), some (.bipush 11, 69, 0, 0, 0), none, some (.if_icmp .ne 11, 72, 80, 0, 0), none, none, some (.aload_n 0, 73, 0, 0, 0), some (.iload_n 1, 74, 0, 0, 0), some (.invokevirtual 202, 77, 193, 1, 10), none, none, some (.goto 27, 80, 104, 0, 0), none, none, some (.aload_n 0, 81, 0, 0, 0), some (.iload_n 1, 82, 0, 0, 0), some (.iload_n 2, 83, 0, 0, 0), some (.aload_n 0, 84, 0, 0, 0), some (.getfield 53, 87, 10, 16, 1), none, none, some (.iconst 4, 88, 0, 0, 0), some (.iload_n 1, 89, 0, 0, 0), some (.imul, 90, 0, 0, 0), some (.iaload, 91, 0, 0, 0), some (.aload_n 0, 92, 0, 0, 0), some (.getfield 53, 95, 10, 16, 1), none, none, some (.iconst 4, 96, 0, 0, 0), some (.iload_n 1, 97, 0, 0, 0), some (.imul, 98, 0, 0, 0), some (.iconst 1, 99, 0, 0, 0), some (.iadd, 100, 0, 0, 0), some (.iaload, 101, 0, 0, 0), some (.invokevirtual 186, 104, 194, 1, 10), none, none, some (.iinc 1 1, 107, 0, 0, 0), none, none, some (.goto (-101), 110, 6, 0, 0), none, none, some (.return_, 111, 0, 0, 0)]

noncomputable def jt_182 : List (List (Option jm_I)) := [jt_182_0, jt_182_1]

set_option maxRecDepth 20000 in
noncomputable def jt_183_0 : List (Option jm_I) := [some (.iconst 0, 1, 0, 0, 0), some (.istore_n 1, 2, 0, 0, 0), some (.iload_n 1, 3, 0, 0, 0), some (.aload_n 0, 4, 0, 0, 0), some (.getfield 114, 7, 10, 9, 0), none, none, some (.if_icmp .ge 44, 10, 51, 0, 0), none, none, some (.aload_n 0, 11, 0, 0, 0), some (.getfield 41, 14, 10, 12, 1), none, none, some (.iload_n 1, 15, 0, 0, 0), some (.iaload, 16, 0, 0, 0), some (.istore_n 2, 17, 0, 0, 0), some (.aload_n 0, 18, 0, 0, 0), some (.getfield 71, 21, 10, 27, 1), none, none, some (.iload_n 1, 22, 0, 0, 0), some (.iload_n 2, 23, 0, 0, 0), some (.aload_n 0, 24, 0, 0, 0), some (.getfield 101, 27, 10, 37, 0), none, none, some (.if_icmp .ne 7, 30, 34, 0, 0), none, none, some (.iconst 0, 31, 0, 0, 0), some (.goto 13, 34, 44, 0, 0), none, none, some (.iconst 1, 35, 0, 0, 0), some (.iload_n 2, 36, 0, 0, 0), some (.ishl, 37, 0, 0, 0), some (.aload_n 0, 38, 0, 0, 0), some (.getfield 47, 41, 10, 14, 1), none, none, some (.iload_n 2, 42, 0, 0, 0), some (.iaload, 43, 0, 0, 0), some (.ior, 44, 0, 0, 0), some (.iastore, 45, 0, 0, 0), some (.iinc 1 1, 48, 0, 0, 0), none, none, some (.goto (-46), 51, 2, 0, 0), none, none, some (.return_, 52, 0, 0, 0)]

noncomputable def jt_183 : List (List (Option jm_I)) := [jt_183_0]

set_option maxRecDepth 20000 in
noncomputable def jt_184_0 : List (Option jm_I) := [some (.aload_n 0, 1, 0, 0, 0), some (.invokevirtual 166, 4, 185, 1, 10), none, none, some (.aload_n 0, 5, 0, 0, 0), some (.getfield 50, 8, 10, 15, 1), none, none, some (.iload_n 1, 9, 0, 0, 0), some (.iaload, 10, 0, 0, 0), some (.ifCond .ne 7, 13, 17, 0, 0), none, none, some (.iconst 1, 14, 0, 0, 0), some (.goto 40, 17, 54, 0, 0), none, none, some (.aload_n 0, 18, 0, 0, 0), some (.getfield 53, 21, 10, 16, 1), none, none, some (.iconst 4, 22, 0, 0, 0), some (.iload_n 1, 23, 0, 0, 0), some (.imul, 24, 0, 0, 0), some (.iconst 3, 25, 0, 0, 0), some (.iadd, 26, 0, 0, 0), some (.iaload, 27, 0, 0, 0), some (.iconst (-1), 28, 0, 0, 0), some (.if_icmp .ne 25, 31, 53, 0, 0), none, none, some (.aload_n 0, 32, 0, 0, 0), some (.getfield 53, 35, 10, 16, 1), none, none, some (.iconst 4, 36, 0, 0, 0), some (.iload_n 1, 37, 0, 0, 0), some (.imul, 38, 0, 0, 0), some (.iconst 2, 39, 0, 0, 0), some (.iadd, 40, 0, 0, 0), some (.iaload, 41, 0, 0, 0), some (.iconst (-1), 42, 0, 0, 0), some (.if_icmp .ne 7, 45, 49, 0, 0), none, none, some (.iconst 2, 46, 0, 0, 0), some (.goto 8, 49, 54, 0, 0), none, none, some (.iconst 3, 50, 0, 0, 0), some (.goto 4, 53, 54, 0, 0), none, none, some (.iconst 4, 54, 0, 0, 0), some (.istore_n 2, 55, 0, 0, 0), some (.iconst 0, 56, 0, 0, 0), some (.istore_n 3, 57, 0, 0, 0), some (.iload_n 3, 58, 0, 0, 0), some (.iload_n 2, 59, 0, 0, 0), some (.iadd, 60, 0, 0, 0), some (.aload_n 0, 61, 0, 0, 0), some (.getfield 114, 64, 10, 9, 0), none, none]

set_option maxRecDepth 20000 in
noncomputable def jt_184_1 : List (Option jm_I) := [some (.if_icmp .gt 79, 67, 143, 0, 0), none, none, some (.iconst 1, 68, 0, 0, 0), some (.istore 4, 70, 0, 0, 0), none, some (.iconst 0, 71, 0, 0, 0), some (.istore 5, 73, 0, 0, 0), none, some (.iload 5, 75, 0, 0, 0), none, some (.iload_n 2, 76, 0, 0, 0), some (.if_icmp .ge 46, 79, 122, 0, 0), none, none, some (.iload 4, 81, 0, 0, 0), none, some (.aload_n 0, 82, 0, 0, 0), some (.getfield 71, 85, 10, 27, 1), none, none, some (.iload_n 3, 86, 0, 0, 0), some (.iload 5, 88, 0, 0, 0), none, some (.iadd, 89, 0, 0, 0), some (.iaload, 90, 0, 0, 0), some (.aload_n 0, 91, 0, 0, 0), some (.getfield 53, 94, 10, 16, 1), none, none, some (.iconst 4, 95, 0, 0, 0), some (.iload_n 1, 96, 0, 0, 0), some (.imul, 97, 0, 0, 0), some (.iload 5, 99, 0, 0, 0), none, some (.iadd, 100, 0, 0, 0), some (.iaload, 101, 0, 0, 0), some (.ishr, 102, 0, 0, 0), some (.iconst 1, 103, 0, 0, 0), some (.iand, 104, 0, 0, 0), some (.iconst 1, 105, 0, 0, 0), some (.if_icmp .ne 7, 108, 112, 0, 0), none, none, some (.iconst 1, 109, 0, 0, 0), some (.goto 4, 112, 113, 0, 0), none, none, some (.iconst 0, 113, 0, 0, 0), some (.iand, 114, 0, 0, 0), some (.istore 4, 116, 0, 0, 0), none, some (.iinc 5 1, 119, 0, 0, 0), none, none, some (.goto (-46), 122, 73, 0, 0), none, none, some (.iload 4, 124, 0, 0, 0), none, some (.ifCond .eq 13, 127, 137, 0, 0), none, none, some (.aload_n 0, 128, 0, 0, 0)]

set_option maxRecDepth 20000 in
noncomputable def jt_184_2 : List (Option jm_I) := [some (.iload_n 3, 129, 0, 0, 0), some (.iload_n 3, 130, 0, 0, 0), some (.iload_n 2, 131, 0, 0, 0), some (.iadd, 132, 0, 0, 0), some (.iconst 1, 133, 0, 0, 0), some (.isub, 134, 0, 0, 0), some (.invokevirtual 158, 137, 186, 1, 10), none, none, some (.iinc 3 1, 140, 0, 0, 0), none, none, some (.goto (-83), 143, 57, 0, 0), none, none, some (.aload_n 0, 144, 0, 0, 0), some (.iload_n 1, 145, 0, 0, 0), some (.invokevirtual 180, 148, 187, 1, 10), none, none, some (.return_, 149, 0, 0, 0)]

noncomputable def jt_184 : List (List (Option jm_I)) := [jt_184_0, jt_184_1, jt_184_2]

set_option maxRecDepth 20000 in
noncomputable def jt_185_0 : List (Option jm_I) := [some (.iconst 0, 1, 0, 0, 0), some (.istore_n 1, 2, 0, 0, 0), some (.iload_n 1, 3, 0, 0, 0), some (.bipush 60, 5, 0, 0, 0), none, some (.if_icmp .ge 16, 8, 21, 0, 0), none, none, some (.aload_n 0, 9, 0, 0, 0), some (.getfield 83, 12, 10, 31, 1), none, none, some (.iload_n 1, 13, 0, 0, 0), some (.iconst (-1), 14, 0, 0, 0), some (.iastore, 15, 0, 0, 0), some (.iinc 1 1, 18, 0, 0, 0), none, none, some (.goto (-16), 21, 2, 0, 0), none, none, some (.return_, 22, 0, 0, 0)]

noncomputable def jt_185 : List (List (Option jm_I)) := [jt_185_0]

set_option maxRecDepth 20000 in
noncomputable def jt_186_0 : List (Option jm_I) := [some (.aload_n 0, 1, 0, 0, 0), some (.getfield 83, 4, 10, 31, 1), none, none, some (.iload_n 1, 5, 0, 0, 0), some (.aload_n 0, 6, 0, 0, 0), some (.getfield 83, 9, 10, 31, 1), none, none, some (.iload_n 1, 10, 0, 0, 0), some (.iaload, 11, 0, 0, 0), some (.iconst (-1), 12, 0, 0, 0), some (.if_icmp .eq 13, 15, 25, 0, 0), none, none, some (.iload_n 2, 16, 0, 0, 0), some (.aload_n 0, 17, 0, 0, 0), some (.getfield 83, 20, 10, 31, 1), none, none, some (.iload_n 1, 21, 0, 0, 0), some (.iaload, 22, 0, 0, 0), some (.if_icmp .ge 7, 25, 29, 0, 0), none, none, some (.iload_n 2, 26, 0, 0, 0), some (.goto 9, 29, 35, 0, 0), none, none, some (.aload_n 0, 30, 0, 0, 0), some (.getfield 83, 33, 10, 31, 1), none, none, some (.iload_n 1, 34, 0, 0, 0), some (.iaload, 35, 0, 0, 0), some (.iastore, 36, 0, 0, 0), some (.return_, 37, 0, 0, 0)]

noncomputable def jt_186 : List (List (Option jm_I)) := [jt_186_0]

set_option maxRecDepth 20000 in
noncomputable def jt_187_0 : List (Option jm_I) := [some (.bipush 60, 2, 0, 0, 0), none, some (.istore_n 2, 3, 0, 0, 0), some (.bipush 59, 5, 0, 0, 0), none, some (.istore_n 3, 6, 0, 0, 0), some (.iload_n 3, 7, 0, 0, 0), some (.ifCond .lt 46, 10, 53, 0, 0), none, none, some (.aload_n 0, 11, 0, 0, 0), some (.getfield 83, 14, 10, 31, 1), none, none, some (.iload_n 3, 15, 0, 0, 0), some (.iaload, 16, 0, 0, 0), some (.iconst (-1), 17, 0, 0, 0), some (.if_icmp .eq 23, 20, 40, 0, 0), none, none, some (.aload_n 0, 21, 0, 0, 0), some (.getfield 83, 24, 10, 31, 1), none, none, some (.iload_n 3, 25, 0, 0, 0), some (.iaload, 26, 0, 0, 0), some (.iload_n 2, 27, 0, 0, 0), some (.if_icmp .ge 13, 30, 40, 0, 0), none, none, some (.aload_n 0, 31, 0, 0, 0), some (.getfield 83, 34, 10, 31, 1), none, none, some (.iload_n 3, 35, 0, 0, 0), some (.iaload, 36, 0, 0, 0), some (.istore_n 2, 37, 0, 0, 0), some (.goto 10, 40, 47, 0, 0), none, none, some (.aload_n 0, 41, 0, 0, 0), some (.getfield 83, 44, 10, 31, 1), none, none, some (.iload_n 3, 45, 0, 0, 0), some (.iconst (-1), 46, 0, 0, 0), some (.iastore, 47, 0, 0, 0), some (.iinc 3 (-1), 50, 0, 0, 0), none, none, some (.goto (-44), 53, 6, 0, 0), none, none, some (.aload_n 0, 54, 0, 0, 0), some (.getfield 74, 57, 10, 28, 1), none, none, some (.iload_n 1, 58, 0, 0, 0), some (.iconst 0, 59, 0, 0, 0), some (.iastore, 60, 0, 0, 0), some (.iconst 0, 61, 0, 0, 0), some (.istore_n 3, 62, 0, 0, 0), some (.iload_n 3, 63, 0, 0, 0), some (.bipush 60, 65, 0, 0, 0)]

set_option maxRecDepth 20000 in
noncomputable def jt_187_1 : List (Option jm_I) := [none, some (.if_icmp .ge 68, 68, 133, 0, 0), none, none, some (.aload_n 0, 69, 0, 0, 0), some (.getfield 83, 72, 10, 31, 1), none, none, some (.iload_n 3, 73, 0, 0, 0), some (.iaload, 74, 0, 0, 0), some (.iconst (-1), 75, 0, 0, 0), some (.if_icmp .eq 52, 78, 127, 0, 0), none, none, some (.aload_n 0, 79, 0, 0, 0), some (.getfield 77, 82, 10, 29, 1), none, none, some (.iload_n 1, 83, 0, 0, 0), some (.bipush 60, 85, 0, 0, 0), none, some (.imul, 86, 0, 0, 0), some (.aload_n 0, 87, 0, 0, 0), some (.getfield 74, 90, 10, 28, 1), none, none, some (.iload_n 1, 91, 0, 0, 0), some (.iaload, 92, 0, 0, 0), some (.iadd, 93, 0, 0, 0), some (.iload_n 3, 94, 0, 0, 0), some (.iastore, 95, 0, 0, 0), some (.aload_n 0, 96, 0, 0, 0), some (.getfield 80, 99, 10, 30, 1), none, none, some (.iload_n 1, 100, 0, 0, 0), some (.bipush 60, 102, 0, 0, 0), none, some (.imul, 103, 0, 0, 0), some (.aload_n 0, 104, 0, 0, 0), some (.getfield 74, 107, 10, 28, 1), none, none, some (.iload_n 1, 108, 0, 0, 0), some (.iaload, 109, 0, 0, 0), some (.iadd, 110, 0, 0, 0), some (.aload_n 0, 111, 0, 0, 0), some (.getfield 83, 114, 10, 31, 1), none, none, some (.iload_n 3, 115, 0, 0, 0), some (.iaload, 116, 0, 0, 0), some (.iastore, 117, 0, 0, 0), some (.aload_n 0, 118, 0, 0, 0), some (.getfield 74, 121, 10, 28, 1), none, none, some (.iload_n 1, 122, 0, 0, 0), some (.dup2, 123, 0, 0, 0), some (.iaload, 124, 0, 0, 0), some (.iconst 1, 125, 0, 0, 0), some (.iadd, 126, 0, 0, 0), some (.iastore, 127, 0, 0, 0), some (.iinc 3 1, 130, 0, 0, 0)]

set_option maxRecDepth 20000 in
noncomputable def jt_187_2 : List (Option jm_I) := [none, none, some (.goto (-68), 133, 62, 0, 0), none, none, some (.return_, 134, 0, 0, 0)]

noncomputable def jt_187 : List (List (Option jm_I)) := [jt_187_0, jt_187_1, jt_187_2]

set_option maxRecDepth 20000 in
noncomputable def jt_188_0 : List (Option jm_I) := [some (.aload_n 0, 1, 0, 0, 0), some (.invokevirtual 166, 4, 185, 1, 10), none, none, some (.aload_n 0, 5, 0, 0, 0), some (.getfield 53, 8, 10, 16, 1), none, none, some (.iconst 4, 9, 0, 0, 0), some (.iload_n 1, 10, 0, 0, 0), some (.imul, 11, 0, 0, 0), some (.iaload, 12, 0, 0, 0), some (.istore_n 2, 13, 0, 0, 0), some (.iconst 0, 14, 0, 0, 0), some (.istore_n 3, 15, 0, 0, 0), some (.iconst 0, 16, 0, 0, 0), some (.istore 4, 18, 0, 0, 0), none, some (.iload 4, 20, 0, 0, 0), none, some (.aload_n 0, 21, 0, 0, 0), some (.getfield 114, 24, 10, 9, 0), none, none, some (.if_icmp .ge 52, 27, 76, 0, 0), none, none, some (.iload_n 2, 28, 0, 0, 0), some (.iconst 2, 29, 0, 0, 0), some (.if_icmp .ne 17, 32, 46, 0, 0), none, none, some (.iload 4, 34, 0, 0, 0), none, some (.aload_n 0, 35, 0, 0, 0), some (.getfield 114, 38, 10, 9, 0), none, none, some (.iconst 1, 39, 0, 0, 0), some (.isub, 40, 0, 0, 0), some (.if_icmp .ne 30, 43, 70, 0, 0), none, none, some (.goto 15, 46, 58, 0, 0), none, none, some (.aload_n 0, 47, 0, 0, 0), some (.iload 4, 49, 0, 0, 0), none, some (.iload_n 2, 50, 0, 0, 0), some (.iconst 1, 51, 0, 0, 0), some (.iadd, 52, 0, 0, 0), some (.invokevirtual 183, 55, 189, 1, 10), none, none, some (.ifCond .eq 15, 58, 70, 0, 0), none, none, some (.aload_n 0, 59, 0, 0, 0), some (.iload_n 3, 60, 0, 0, 0), some (.iload 4, 62, 0, 0, 0), none, some (.invokevirtual 158, 65, 186, 1, 10), none]

set_option maxRecDepth 20000 in
noncomputable def jt_188_1 : List (Option jm_I) := [none, some (.iload 4, 67, 0, 0, 0), none, some (.iconst 1, 68, 0, 0, 0), some (.iadd, 69, 0, 0, 0), some (.istore_n 3, 70, 0, 0, 0), some (.iinc 4 1, 73, 0, 0, 0), none, none, some (.goto (-55), 76, 18, 0, 0), none, none, some (.aload_n 0, 77, 0, 0, 0), some (.iload_n 1, 78, 0, 0, 0), some (.invokevirtual 180, 81, 187, 1, 10), none, none, some (.return_, 82, 0, 0, 0)]

noncomputable def jt_188 : List (List (Option jm_I)) := [jt_188_0, jt_188_1]

set_option maxRecDepth 20000 in
noncomputable def jt_189_0 : List (Option jm_I) := [some (.iload_n 1, 1, 0, 0, 0), some (.aload_n 0, 2, 0, 0, 0), some (.getfield 114, 5, 10, 9, 0), none, none, some (.iconst 1, 6, 0, 0, 0), some (.isub, 7, 0, 0, 0), some (.if_icmp .eq 13, 10, 20, 0, 0), none, none, some (.aload_n 0, 11, 0, 0, 0), some (.getfield 44, 14, 10, 13, 1), none, none, some (.iload_n 1, 15, 0, 0, 0), some (.iaload, 16, 0, 0, 0), some (.iload_n 2, 17, 0, 0, 0), some (.if_icmp .lt 7, 20, 24, 0, 0), none, none, some (.iconst 1, 21, 0, 0, 0), some (.goto 4, 24, 25, 0, 0), none, none, some (.iconst 0, 25, 0, 0, 0), some (.ireturn, 26, 1, 0, 0)]

noncomputable def jt_189 : List (List (Option jm_I)) := [jt_189_0]

set_option maxRecDepth 20000 in
noncomputable def jt_190_0 : List (Option jm_I) := [some (.aload_n 0, 1, 0, 0, 0), some (.getfield 53, 4, 10, 16, 1), none, none, some (.iconst 4, 5, 0, 0, 0), some (.iload_n 1, 6, 0, 0, 0), some (.imul, 7, 0, 0, 0), some (.iaload, 8, 0, 0, 0), some (.istore_n 2, 9, 0, 0, 0), some (.aload_n 0, 10, 0, 0, 0), some (.invokevirtual 166, 13, 185, 1, 10), none, none, some (.iconst 0, 14, 0, 0, 0), some (.istore_n 3, 15, 0, 0, 0), some (.iload_n 3, 16, 0, 0, 0), some (.aload_n 0, 17, 0, 0, 0), some (.getfield 74, 20, 10, 28, 1), none, none, some (.iload_n 2, 21, 0, 0, 0), some (.iaload, 22, 0, 0, 0), some (.if_icmp .ge 51, 25, 73, 0, 0), none, none, some (.aload_n 0, 26, 0, 0, 0), some (.iload_n 2, 27, 0, 0, 0), some (.iload_n 3, 28, 0, 0, 0), some (.invokevirtual 151, 31, 191, 1, 10), none, none, some (.aload_n 0, 32, 0, 0, 0), some (.iload_n 2, 33, 0, 0, 0), some (.iload_n 3, 34, 0, 0, 0), some (.invokevirtual 147, 37, 192, 1, 10), none, none, some (.isub, 38, 0, 0, 0), some (.aload_n 0, 39, 0, 0, 0), some (.getfield 53, 42, 10, 16, 1), none, none, some (.iconst 4, 43, 0, 0, 0), some (.iload_n 1, 44, 0, 0, 0), some (.imul, 45, 0, 0, 0), some (.iconst 1, 46, 0, 0, 0), some (.iadd, 47, 0, 0, 0), some (.iaload, 48, 0, 0, 0), some (.if_icmp .ge 19, 51, 67, 0, 0), none, none, some (.aload_n 0, 52, 0, 0, 0), some (.aload_n 0, 53, 0, 0, 0), some (.iload_n 2, 54, 0, 0, 0), some (.iload_n 3, 55, 0, 0, 0), some (.invokevirtual 147, 58, 192, 1, 10), none, none, some (.aload_n 0, 59, 0, 0, 0), some (.iload_n 2, 60, 0, 0, 0), some (.iload_n 3, 61, 0, 0, 0), some (.invokevirtual 151, 64, 191, 1, 10), none, none]

set_option maxRecDepth 20000 in
noncomputable def jt_190_1 : List (Option jm_I) := [some (.invokevirtual 158, 67, 186, 1, 10), none, none, some (.iinc 3 1, 70, 0, 0, 0), none, none, some (.goto (-55), 73, 15, 0, 0), none, none, some (.aload_n 0, 74, 0, 0, 0), some (.iload_n 1, 75, 0, 0, 0), some (.invokevirtual 180, 78, 187, 1, 10), none, none, some (.return_, 79, 0, 0, 0)]

noncomputable def jt_190 : List (List (Option jm_I)) := [jt_190_0, jt_190_1]

set_option maxRecDepth 20000 in
noncomputable def jt_191_0 : List (Option jm_I) := [some (.aload_n 0, 1, 0, 0, 0), some (.getfield 80, 4, 10, 30, 1), none, none, some (.iload_n 1, 5, 0, 0, 0), some (.bipush 60, 7, 0, 0, 0), none, some (.imul, 8, 0, 0, 0), some (.iload_n 2, 9, 0, 0, 0), some (.iadd, 10, 0, 0, 0), some (.iaload, 11, 0, 0, 0), some (.ireturn, 12, 0, 0, 0)]

noncomputable def jt_191 : List (List (Option jm_I)) := [jt_191_0]

set_option maxRecDepth 20000 in
noncomputable def jt_192_0 : List (Option jm_I) := [some (.aload_n 0, 1, 0, 0, 0), some (.getfield 77, 4, 10, 29, 1), none, none, some (.iload_n 1, 5, 0, 0, 0), some (.bipush 60, 7, 0, 0, 0), none, some (.imul, 8, 0, 0, 0), some (.iload_n 2, 9, 0, 0, 0), some (.iadd, 10, 0, 0, 0), some (.iaload, 11, 0, 0, 0), some (.ireturn, 12, 0, 0, 0)]

noncomputable def jt_192 : List (List (Option jm_I)) := [jt_192_0]

set_option maxRecDepth 20000 in
noncomputable def jt_193_0 : List (Option jm_I) := [some (.aload_n 0, 1, 0, 0, 0), some (.getfield 53, 4, 10, 16, 1), none, none, some (.iconst 4, 5, 0, 0, 0), some (.iload_n 1, 6, 0, 0, 0), some (.imul, 7, 0, 0, 0), some (.iaload, 8, 0, 0, 0), some (.istore_n 2, 9, 0, 0, 0), some (.aload_n 0, 10, 0, 0, 0), some (.getfield 53, 13, 10, 16, 1), none, none, some (.iconst 4, 14, 0, 0, 0), some (.iload_n 1, 15, 0, 0, 0), some (.imul, 16, 0, 0, 0), some (.iconst 1, 17, 0, 0, 0), some (.iadd, 18, 0, 0, 0), some (.iaload, 19, 0, 0, 0), some (.istore_n 3, 20, 0, 0, 0), some (.aload_n 0, 21, 0, 0, 0), some (.getfield 53, 24, 10, 16, 1), none, none, some (.iconst 4, 25, 0, 0, 0), some (.iload_n 1, 26, 0, 0, 0), some (.imul, 27, 0, 0, 0), some (.iconst 2, 28, 0, 0, 0), some (.iadd, 29, 0, 0, 0), some (.iaload, 30, 0, 0, 0), some (.istore 4, 32, 0, 0, 0), none, some (.aload_n 0, 33, 0, 0, 0), some (.getfield 53, 36, 10, 16, 1), none, none, some (.iconst 4, 37, 0, 0, 0), some (.iload_n 1, 38, 0, 0, 0), some (.imul, 39, 0, 0, 0), some (.iconst 3, 40, 0, 0, 0), some (.iadd, 41, 0, 0, 0), some (.iaload, 42, 0, 0, 0), some (.istore 5, 44, 0, 0, 0), none, some (.iload 5, 46, 0, 0, 0), none, some (.iconst 3, 47, 0, 0, 0), some (.if_icmp .ne 23, 50, 70, 0, 0), none, none, some (.aload_n 0, 51, 0, 0, 0), some (.bipush 25, 53, 0, 0, 0), none, some (.iconst 3, 54, 0, 0, 0), some (.iload_n 2, 55, 0, 0, 0), some (.iload_n 3, 56, 0, 0, 0), some (.invokevirtual 186, 59, 194, 1, 10), none, none, some (.aload_n 0, 60, 0, 0, 0), some (.iload_n 1, 61, 0, 0, 0), some (.iconst 3, 62, 0, 0, 0), some (.bipush 25, 64, 0, 0, 0), none]

set_option maxRecDepth 20000 in
noncomputable def jt_193_1 : List (Option jm_I) := [some (.iload 4, 66, 0, 0, 0), none, some (.invokevirtual 186, 69, 194, 1, 10), none, none, some (.return_, 70, 0, 0, 0), some (.aload_n 0, 71, 0, 0, 0), some (.invokevirtual 166, 74, 185, 1, 10), none, none, some (.iload 5, 76, 0, 0, 0), none, some (.iconst 1, 77, 0, 0, 0), some (.if_icmp .ne 22, 80, 99, 0, 0), none, none, some (.aload_n 0, 81, 0, 0, 0), some (.iload_n 2, 82, 0, 0, 0), some (.invokevirtual 169, 85, 195, 1, 10), none, none, some (.aload_n 0, 86, 0, 0, 0), some (.iload_n 3, 87, 0, 0, 0), some (.invokevirtual 169, 90, 195, 1, 10), none, none, some (.aload_n 0, 91, 0, 0, 0), some (.iload 4, 93, 0, 0, 0), none, some (.invokevirtual 169, 96, 195, 1, 10), none, none, some (.goto 26, 99, 122, 0, 0), none, none, some (.aload_n 0, 100, 0, 0, 0), some (.iconst 3, 101, 0, 0, 0), some (.iload_n 2, 102, 0, 0, 0), some (.iload_n 3, 103, 0, 0, 0), some (.invokevirtual 173, 106, 196, 1, 10), none, none, some (.aload_n 0, 107, 0, 0, 0), some (.iconst 3, 108, 0, 0, 0), some (.iload_n 2, 109, 0, 0, 0), some (.iload 4, 111, 0, 0, 0), none, some (.invokevirtual 173, 114, 196, 1, 10), none, none, some (.aload_n 0, 115, 0, 0, 0), some (.iconst 3, 116, 0, 0, 0), some (.iload_n 3, 117, 0, 0, 0), some (.iload 4, 119, 0, 0, 0), none, some (.invokevirtual 173, 122, 196, 1, 10), none, none, some (.aload_n 0, 123, 0, 0, 0), some (.iload_n 1, 124, 0, 0, 0), some (.invokevirtual 180, 127, 187, 1, 10), none, none, some (.return_, 128, 0, 0, 0)]

noncomputable def jt_193 : List (List (Option jm_I)) := [jt_193_0, jt_193_1]

set_option maxRecDepth 20000 in
noncomputable def jt_194_0 : List (Option jm_I) := [some (.aload_n 0, 1, 0, 0, 0), some (.invokevirtual 166, 4, 185, 1, 10), none, none, some (.iload_n 2, 5, 0, 0, 0), some (.iconst 2, 6, 0, 0, 0), some (.if_icmp .ne 17, 9, 23, 0, 0), none, none, some (.aload_n 0, 10, 0, 0, 0), some (.iload_n 3, 11, 0, 0, 0), some (.invokevirtual 169, 14, 195, 1, 10), none, none, some (.aload_n 0, 15, 0, 0, 0), some (.iload 4, 17, 0, 0, 0), none, some (.invokevirtual 169, 20, 195, 1, 10), none, none, some (.goto 27, 23, 47, 0, 0), none, none, some (.iload_n 2, 24, 0, 0, 0), some (.iconst 4, 25, 0, 0, 0), some (.if_icmp .gt 14, 28, 39, 0, 0), none, none, some (.aload_n 0, 29, 0, 0, 0), some (.iload_n 2, 30, 0, 0, 0), some (.iload_n 3, 31, 0, 0, 0), some (.iload 4, 33, 0, 0, 0), none, some (.invokevirtual 173, 36, 196, 1, 10), none, none, some (.goto 11, 39, 47, 0, 0), none, none, some (.aload_n 0, 40, 0, 0, 0), some (.iload_n 2, 41, 0, 0, 0), some (.iload_n 3, 42, 0, 0, 0), some (.iload 4, 44, 0, 0, 0), none, some (.invokevirtual 177, 47, 197, 1, 10), none, none, some (.aload_n 0, 48, 0, 0, 0), some (.iload_n 1, 49, 0, 0, 0), some (.invokevirtual 180, 52, 187, 1, 10), none, none, some (.return_, 53, 0, 0, 0)]

noncomputable def jt_194 : List (List (Option jm_I)) := [jt_194_0]

set_option maxRecDepth 20000 in
noncomputable def jt_195_0 : List (Option jm_I) := [some (.iconst 0, 1, 0, 0, 0), some (.istore_n 2, 2, 0, 0, 0), some (.iload_n 2, 3, 0, 0, 0), some (.aload_n 0, 4, 0, 0, 0), some (.getfield 74, 7, 10, 28, 1), none, none, some (.iload_n 1, 8, 0, 0, 0), some (.iaload, 9, 0, 0, 0), some (.if_icmp .ge 25, 12, 34, 0, 0), none, none, some (.aload_n 0, 13, 0, 0, 0), some (.aload_n 0, 14, 0, 0, 0), some (.iload_n 1, 15, 0, 0, 0), some (.iload_n 2, 16, 0, 0, 0), some (.invokevirtual 147, 19, 192, 1, 10), none, none, some (.aload_n 0, 20, 0, 0, 0), some (.iload_n 1, 21, 0, 0, 0), some (.iload_n 2, 22, 0, 0, 0), some (.invokevirtual 151, 25, 191, 1, 10), none, none, some (.invokevirtual 158, 28, 186, 1, 10), none, none, some (.iinc 2 1, 31, 0, 0, 0), none, none, some (.goto (-29), 34, 2, 0, 0), none, none, some (.return_, 35, 0, 0, 0)]

noncomputable def jt_195 : List (List (Option jm_I)) := [jt_195_0]

set_option maxRecDepth 20000 in
noncomputable def jt_196_0 : List (Option jm_I) := [some (.iconst 0, 1, 0, 0, 0), some (.istore 4, 3, 0, 0, 0), none, some (.iload 4, 5, 0, 0, 0), none, some (.aload_n 0, 6, 0, 0, 0), some (.getfield 74, 9, 10, 28, 1), none, none, some (.iload_n 2, 10, 0, 0, 0), some (.iaload, 11, 0, 0, 0), some (.if_icmp .ge 152, 14, 163, 0, 0), none, none, some (.iconst 0, 15, 0, 0, 0), some (.istore 5, 17, 0, 0, 0), none, some (.iload 5, 19, 0, 0, 0), none, some (.aload_n 0, 20, 0, 0, 0), some (.getfield 74, 23, 10, 28, 1), none, none, some (.iload_n 3, 24, 0, 0, 0), some (.iaload, 25, 0, 0, 0), some (.if_icmp .ge 132, 28, 157, 0, 0), none, none, some (.aload_n 0, 29, 0, 0, 0), some (.iload_n 3, 30, 0, 0, 0), some (.iload 5, 32, 0, 0, 0), none, some (.invokevirtual 147, 35, 192, 1, 10), none, none, some (.aload_n 0, 36, 0, 0, 0), some (.iload_n 2, 37, 0, 0, 0), some (.iload 4, 39, 0, 0, 0), none, some (.invokevirtual 147, 42, 192, 1, 10), none, none, some (.if_icmp .ge 13, 45, 55, 0, 0), none, none, some (.aload_n 0, 46, 0, 0, 0), some (.iload_n 3, 47, 0, 0, 0), some (.iload 5, 49, 0, 0, 0), none, some (.invokevirtual 147, 52, 192, 1, 10), none, none, some (.goto 10, 55, 62, 0, 0), none, none, some (.aload_n 0, 56, 0, 0, 0), some (.iload_n 2, 57, 0, 0, 0), some (.iload 4, 59, 0, 0, 0), none, some (.invokevirtual 147, 62, 192, 1, 10), none, none, some (.istore 6, 64, 0, 0, 0), none]

set_option maxRecDepth 20000 in
noncomputable def jt_196_1 : List (Option jm_I) := [some (.aload_n 0, 65, 0, 0, 0), some (.iload_n 3, 66, 0, 0, 0), some (.iload 5, 68, 0, 0, 0), none, some (.invokevirtual 151, 71, 191, 1, 10), none, none, some (.aload_n 0, 72, 0, 0, 0), some (.iload_n 2, 73, 0, 0, 0), some (.iload 4, 75, 0, 0, 0), none, some (.invokevirtual 151, 78, 191, 1, 10), none, none, some (.if_icmp .le 13, 81, 91, 0, 0), none, none, some (.aload_n 0, 82, 0, 0, 0), some (.iload_n 3, 83, 0, 0, 0), some (.iload 5, 85, 0, 0, 0), none, some (.invokevirtual 151, 88, 191, 1, 10), none, none, some (.goto 10, 91, 98, 0, 0), none, none, some (.aload_n 0, 92, 0, 0, 0), some (.iload_n 2, 93, 0, 0, 0), some (.iload 4, 95, 0, 0, 0), none, some (.invokevirtual 151, 98, 191, 1, 10), none, none, some (.istore 7, 100, 0, 0, 0), none, some (.iload_n 1, 101, 0, 0, 0), some (.iconst 3, 102, 0, 0, 0), some (.if_icmp .ne 14, 105, 116, 0, 0), none, none, some (.aload_n 0, 106, 0, 0, 0), some (.iload 6, 108, 0, 0, 0), none, some (.iload 7, 110, 0, 0, 0), none, some (.invokevirtual 158, 113, 186, 1, 10), none, none, some (.goto 38, 116, 151, 0, 0), none, none, some (.aload_n 0, 117, 0, 0, 0), some (.iload_n 3, 118, 0, 0, 0), some (.iload 5, 120, 0, 0, 0), none, some (.invokevirtual 147, 123, 192, 1, 10), none, none, some (.aload_n 0, 124, 0, 0, 0), some (.iload_n 2, 125, 0, 0, 0), some (.iload 4, 127, 0, 0, 0), none, some (.invokevirtual 151, 130, 191, 1, 10)]

set_option maxRecDepth 20000 in
noncomputable def jt_196_2 : List (Option jm_I) := [none, none, some (.if_icmp .le 21, 133, 151, 0, 0), none, none, some (.aload_n 0, 134, 0, 0, 0), some (.aload_n 0, 135, 0, 0, 0), some (.iload_n 2, 136, 0, 0, 0), some (.iload 4, 138, 0, 0, 0), none, some (.invokevirtual 147, 141, 192, 1, 10), none, none, some (.aload_n 0, 142, 0, 0, 0), some (.iload_n 3, 143, 0, 0, 0), some (.iload 5, 145, 0, 0, 0), none, some (.invokevirtual 151, 148, 191, 1, 10), none, none, some (.invokevirtual 158, 151, 186, 1, 10), none, none, some (.iinc 5 1, 154, 0, 0, 0), none, none, some (.goto (-137), 157, 17, 0, 0), none, none, some (.iinc 4 1, 160, 0, 0, 0), none, none, some (.goto (-157), 163, 3, 0, 0), none, none, some (.return_, 164, 0, 0, 0)]

noncomputable def jt_196 : List (List (Option jm_I)) := [jt_196_0, jt_196_1, jt_196_2]

set_option maxRecDepth 20000 in
noncomputable def jt_197_0 : List (Option jm_I) := [some (.iconst 0, 1, 0, 0, 0), some (.istore 4, 3, 0, 0, 0), none, some (.iload 4, 5, 0, 0, 0), none, some (.aload_n 0, 6, 0, 0, 0), some (.getfield 74, 9, 10, 28, 1), none, none, some (.iload_n 2, 10, 0, 0, 0), some (.iaload, 11, 0, 0, 0), some (.if_icmp .ge 83, 14, 94, 0, 0), none, none, some (.aload_n 0, 15, 0, 0, 0), some (.iload_n 2, 16, 0, 0, 0), some (.iload 4, 18, 0, 0, 0), none, some (.iload_n 3, 19, 0, 0, 0), some (.iload_n 1, 20, 0, 0, 0), some (.bipush 7, 22, 0, 0, 0), none, some (.if_icmp .eq 9, 25, 31, 0, 0), none, none, some (.iload_n 1, 26, 0, 0, 0), some (.bipush 8, 28, 0, 0, 0), none, some (.if_icmp .ne 7, 31, 35, 0, 0), none, none, some (.iconst 1, 32, 0, 0, 0), some (.goto 4, 35, 36, 0, 0), none, none, some (.iconst 0, 36, 0, 0, 0), some (.invokevirtual 162, 39, 198, 1, 10), none, none, some (.ifCond .le 7, 42, 46, 0, 0), none, none, some (.iconst 1, 43, 0, 0, 0), some (.goto 4, 46, 47, 0, 0), none, none, some (.iconst 0, 47, 0, 0, 0), some (.istore 5, 49, 0, 0, 0), none, some (.iload 5, 51, 0, 0, 0), none, some (.iload_n 1, 52, 0, 0, 0), some (.iconst 5, 53, 0, 0, 0), some (.if_icmp .eq 9, 56, 62, 0, 0), none, none, some (.iload_n 1, 57, 0, 0, 0), some (.bipush 7, 59, 0, 0, 0), none, some (.if_icmp .ne 7, 62, 66, 0, 0), none, none, some (.iconst 1, 63, 0, 0, 0), some (.goto 4, 66, 67, 0, 0)]

set_option maxRecDepth 20000 in
noncomputable def jt_197_1 : List (Option jm_I) := [none, none, some (.iconst 0, 67, 0, 0, 0), some (.if_icmp .ne 21, 70, 88, 0, 0), none, none, some (.aload_n 0, 71, 0, 0, 0), some (.aload_n 0, 72, 0, 0, 0), some (.iload_n 2, 73, 0, 0, 0), some (.iload 4, 75, 0, 0, 0), none, some (.invokevirtual 147, 78, 192, 1, 10), none, none, some (.aload_n 0, 79, 0, 0, 0), some (.iload_n 2, 80, 0, 0, 0), some (.iload 4, 82, 0, 0, 0), none, some (.invokevirtual 151, 85, 191, 1, 10), none, none, some (.invokevirtual 158, 88, 186, 1, 10), none, none, some (.iinc 4 1, 91, 0, 0, 0), none, none, some (.goto (-88), 94, 3, 0, 0), none, none, some (.return_, 95, 0, 0, 0)]

noncomputable def jt_197 : List (List (Option jm_I)) := [jt_197_0, jt_197_1]

set_option maxRecDepth 20000 in
noncomputable def jt_198_0 : List (Option jm_I) := [some (.iconst 0, 1, 0, 0, 0), some (.istore 5, 3, 0, 0, 0), none, some (.iconst 0, 4, 0, 0, 0), some (.istore 6, 6, 0, 0, 0), none, some (.iload 6, 8, 0, 0, 0), none, some (.aload_n 0, 9, 0, 0, 0), some (.getfield 74, 12, 10, 28, 1), none, none, some (.iload_n 3, 13, 0, 0, 0), some (.iaload, 14, 0, 0, 0), some (.if_icmp .ge 56, 17, 70, 0, 0), none, none, some (.iload 5, 19, 0, 0, 0), none, some (.iload 4, 21, 0, 0, 0), none, some (.ifCond .eq 23, 24, 44, 0, 0), none, none, some (.aload_n 0, 25, 0, 0, 0), some (.iload_n 3, 26, 0, 0, 0), some (.iload 6, 28, 0, 0, 0), none, some (.iload_n 1, 29, 0, 0, 0), some (.iload_n 2, 30, 0, 0, 0), some (.invokevirtual 154, 33, 199, 1, 10), none, none, some (.ifCond .eq 7, 36, 40, 0, 0), none, none, some (.iconst 1, 37, 0, 0, 0), some (.goto 24, 40, 61, 0, 0), none, none, some (.iconst 0, 41, 0, 0, 0), some (.goto 20, 44, 61, 0, 0), none, none, some (.aload_n 0, 45, 0, 0, 0), some (.iload_n 1, 46, 0, 0, 0), some (.iload_n 2, 47, 0, 0, 0), some (.iload_n 3, 48, 0, 0, 0), some (.iload 6, 50, 0, 0, 0), none, some (.invokevirtual 154, 53, 199, 1, 10), none, none, some (.ifCond .eq 7, 56, 60, 0, 0), none, none, some (.iconst 1, 57, 0, 0, 0), some (.goto 4, 60, 61, 0, 0), none, none, some (.iconst 0, 61, 0, 0, 0), some (.iadd, 62, 0, 0, 0), some (.istore 5, 64, 0, 0, 0), none]

set_option maxRecDepth 20000 in
noncomputable def jt_198_1 : List (Option jm_I) := [some (.iinc 6 1, 67, 0, 0, 0), none, none, some (.goto (-61), 70, 6, 0, 0), none, none, some (.iload 5, 72, 0, 0, 0), none, some (.ireturn, 73, 0, 0, 0)]

noncomputable def jt_198 : List (List (Option jm_I)) := [jt_198_0, jt_198_1]

set_option maxRecDepth 20000 in
noncomputable def jt_199_0 : List (Option jm_I) := [some (.aload_n 0, 1, 0, 0, 0), some (.iload_n 1, 2, 0, 0, 0), some (.iload_n 2, 3, 0, 0, 0), some (.invokevirtual 147, 6, 192, 1, 10), none, none, some (.aload_n 0, 7, 0, 0, 0), some (.iload_n 3, 8, 0, 0, 0), some (.iload 4, 10, 0, 0, 0), none, some (.invokevirtual 147, 13, 192, 1, 10), none, none, some (.if_icmp .lt 23, 16, 36, 0, 0), none, none, some (.aload_n 0, 17, 0, 0, 0), some (.iload_n 1, 18, 0, 0, 0), some (.iload_n 2, 19, 0, 0, 0), some (.invokevirtual 151, 22, 191, 1, 10), none, none, some (.aload_n 0, 23, 0, 0, 0), some (.iload_n 3, 24, 0, 0, 0), some (.iload 4, 26, 0, 0, 0), none, some (.invokevirtual 151, 29, 191, 1, 10), none, none, some (.if_icmp .gt 7, 32, 36, 0, 0), none, none, some (.iconst 1, 33, 0, 0, 0), some (.goto 4, 36, 37, 0, 0), none, none, some (.iconst 0, 37, 0, 0, 0), some (.ireturn, 38, 1, 0, 0)]

noncomputable def jt_199 : List (List (Option jm_I)) := [jt_199_0]

set_option maxRecDepth 20000 in
noncomputable def jt_200_0 : List (Option jm_I) := [some (.iload_n 1, 1, 0, 0, 0), some (.i2l, 2, 0, 0, 0), some (.lconst 0, 3, 0, 0, 0), some (.ldc2_w 212, 6, 0, 0, 15), none, none, some (.invokestatic 110, 9, 169, 2, 0), none, none, some (.ifCond .ne 10, 12, 19, 0, 0), none, none, some (.aload_n 0, 13, 0, 0, 0), some (.bipush (-2), 15, 0, 0, 0), none, some (.invokevirtual 123, 18, 170, 1, 10), none, none, some (.ireturn, 19, 0, 0, 0), some (.aload_n 0, 20, 0, 0, 0), some (.getfield 114, 23, 10, 9, 0), none, none, some (.bipush 60, 25, 0, 0, 0), none, some (.if_icmp .ne 10, 28, 35, 0, 0), none, none, some (.aload_n 0, 29, 0, 0, 0), some (.bipush (-6), 31, 0, 0, 0), none, some (.invokevirtual 123, 34, 170, 1, 10), none, none, some (.ireturn, 35, 0, 0, 0), some (.aload_n 0, 36, 0, 0, 0), some (.iload_n 1, 37, 0, 0, 0), some (.invokevirtual 214, 40, 201, 1, 10), none, none, some (.aload_n 0, 41, 0, 0, 0), some (.getfield 114, 44, 10, 9, 0), none, none, some (.iconst 1, 45, 0, 0, 0), some (.isub, 46, 0, 0, 0), some (.ireturn, 47, 0, 0, 0)]

noncomputable def jt_200 : List (List (Option jm_I)) := [jt_200_0]

set_option maxRecDepth 20000 in
noncomputable def jt_201_0 : List (Option jm_I) := [some (.aload_n 0, 1, 0, 0, 0), some (.getfield 41, 4, 10, 12, 1), none, none, some (.aload_n 0, 5, 0, 0, 0), some (.getfield 114, 8, 10, 9, 0), none, none, some (.iload_n 1, 9, 0, 0, 0), some (.iastore, 10, 0, 0, 0), some (.aload_n 0, 11, 0, 0, 0), some (.getfield 44, 14, 10, 13, 1), none, none, some (.aload_n 0, 15, 0, 0, 0), some (.getfield 114, 18, 10, 9, 0), none, none, some (.iconst 0, 19, 0, 0, 0), some (.iastore, 20, 0, 0, 0), some (.aload_n 0, 21, 0, 0, 0), some (.dup, 22, 0, 0, 0), some (.getfield 114, 25, 10, 9, 0), none, none, some (.iconst 1, 26, 0, 0, 0), some (.iadd, 27, 0, 0, 0), some (.putfield 114, 30, 10, 9, 0), none, none, some (.aload_n 0, 31, 0, 0, 0), some (.iconst 0, 32, 0, 0, 0), some (.putfield 205, 35, 10, 26, 2), none, none, some (.return_, 36, 0, 0, 0)]

noncomputable def jt_201 : List (List (Option jm_I)) := [jt_201_0]

set_option maxRecDepth 20000 in
noncomputable def jt_202_0 : List (Option jm_I) := [some (.iload_n 1, 1, 0, 0, 0), some (.i2l, 2, 0, 0, 0), some (.lconst 1, 3, 0, 0, 0), some (.ldc2_w 217, 6, 0, 0, 2), none, none, some (.invokestatic 110, 9, 169, 2, 0), none, none, some (.ifCond .ne 10, 12, 19, 0, 0), none, none, some (.aload_n 0, 13, 0, 0, 0), some (.bipush (-2), 15, 0, 0, 0), none, some (.invokevirtual 123, 18, 170, 1, 10), none, none, some (.ireturn, 19, 0, 0, 0), some (.aload_n 0, 20, 0, 0, 0), some (.getfield 114, 23, 10, 9, 0), none, none, some (.ifCond .eq 18, 26, 41, 0, 0), none, none, some (.aload_n 0, 27, 0, 0, 0), some (.getfield 44, 30, 10, 13, 1), none, none, some (.aload_n 0, 31, 0, 0, 0), some (.getfield 114, 34, 10, 9, 0), none, none, some (.iconst 1, 35, 0, 0, 0), some (.isub, 36, 0, 0, 0), some (.iaload, 37, 0, 0, 0), some (.iload_n 1, 38, 0, 0, 0), some (.if_icmp .lt 10, 41, 48, 0, 0), none, none, some (.aload_n 0, 42, 0, 0, 0), some (.bipush (-5), 44, 0, 0, 0), none, some (.invokevirtual 123, 47, 170, 1, 10), none, none, some (.ireturn, 48, 0, 0, 0), some (.aload_n 0, 49, 0, 0, 0), some (.getfield 44, 52, 10, 13, 1), none, none, some (.aload_n 0, 53, 0, 0, 0), some (.getfield 114, 56, 10, 9, 0), none, none, some (.iconst 1, 57, 0, 0, 0), some (.isub, 58, 0, 0, 0), some (.iaload, 59, 0, 0, 0), some (.istore_n 2, 60, 0, 0, 0), some (.aload_n 0, 61, 0, 0, 0), some (.getfield 44, 64, 10, 13, 1), none, none]

set_option maxRecDepth 20000 in
noncomputable def jt_202_1 : List (Option jm_I) := [some (.aload_n 0, 65, 0, 0, 0), some (.getfield 114, 68, 10, 9, 0), none, none, some (.iconst 1, 69, 0, 0, 0), some (.isub, 70, 0, 0, 0), some (.iload_n 1, 71, 0, 0, 0), some (.iastore, 72, 0, 0, 0), some (.aload_n 0, 73, 0, 0, 0), some (.iconst 0, 74, 0, 0, 0), some (.putfield 205, 77, 10, 26, 2), none, none, some (.iload_n 2, 78, 0, 0, 0), some (.ireturn, 79, 0, 0, 0)]

noncomputable def jt_202 : List (List (Option jm_I)) := [jt_202_0, jt_202_1]

set_option maxRecDepth 20000 in
noncomputable def jt_203_0 : List (Option jm_I) := [some (.aload_n 0, 1, 0, 0, 0), some (.iload_n 1, 2, 0, 0, 0), some (.invokevirtual 219, 5, 204, 1, 10), none, none, some (.ifCond .eq 15, 8, 20, 0, 0), none, none, some (.iload_n 2, 9, 0, 0, 0), some (.i2l, 10, 0, 0, 0), some (.lconst 0, 11, 0, 0, 0), some (.ldc2_w 212, 14, 0, 0, 15), none, none, some (.invokestatic 110, 17, 169, 2, 0), none, none, some (.ifCond .ne 10, 20, 27, 0, 0), none, none, some (.aload_n 0, 21, 0, 0, 0), some (.bipush (-2), 23, 0, 0, 0), none, some (.invokevirtual 123, 26, 170, 1, 10), none, none, some (.ireturn, 27, 0, 0, 0), some (.aload_n 0, 28, 0, 0, 0), some (.getfield 41, 31, 10, 12, 1), none, none, some (.iload_n 1, 32, 0, 0, 0), some (.iaload, 33, 0, 0, 0), some (.istore_n 3, 34, 0, 0, 0), some (.aload_n 0, 35, 0, 0, 0), some (.getfield 41, 38, 10, 12, 1), none, none, some (.iload_n 1, 39, 0, 0, 0), some (.iload_n 2, 40, 0, 0, 0), some (.iastore, 41, 0, 0, 0), some (.aload_n 0, 42, 0, 0, 0), some (.iconst 0, 43, 0, 0, 0), some (.putfield 205, 46, 10, 26, 2), none, none, some (.iload_n 3, 47, 0, 0, 0), some (.ireturn, 48, 0, 0, 0)]

noncomputable def jt_203 : List (List (Option jm_I)) := [jt_203_0]

set_option maxRecDepth 20000 in
noncomputable def jt_204_0 : List (Option jm_I) := [some (.iload_n 1, 1, 0, 0, 0), some (.i2l, 2, 0, 0, 0), some (.lconst 0, 3, 0, 0, 0), some (.aload_n 0, 4, 0, 0, 0), some (.getfield 114, 7, 10, 9, 0), none, none, some (.iconst 1, 8, 0, 0, 0), some (.isub, 9, 0, 0, 0), some (.i2l, 10, 0, 0, 0), some (.invokestatic 110, 13, 169, 2, 0), none, none, some (.ireturn, 14, 1, 0, 0)]

noncomputable def jt_204 : List (List (Option jm_I)) := [jt_204_0]

set_option maxRecDepth 20000 in
noncomputable def jt_205_0 : List (Option jm_I) := [some (.iload_n 1, 1, 0, 0, 0), some (.i2l, 2, 0, 0, 0), some (.lconst 0, 3, 0, 0, 0), some (.ldc2_w 212, 6, 0, 0, 15), none, none, some (.invokestatic 110, 9, 169, 2, 0), none, none, some (.ifCond .eq 30, 12, 39, 0, 0), none, none, some (.iload_n 2, 13, 0, 0, 0), some (.i2l, 14, 0, 0, 0), some (.lconst 0, 15, 0, 0, 0), some (.ldc2_w 212, 18, 0, 0, 15), none, none, some (.invokestatic 110, 21, 169, 2, 0), none, none, some (.ifCond .eq 18, 24, 39, 0, 0), none, none, some (.iload_n 1, 25, 0, 0, 0), some (.iload_n 2, 26, 0, 0, 0), some (.if_icmp .eq 13, 29, 39, 0, 0), none, none, some (.iload_n 3, 30, 0, 0, 0), some (.i2l, 31, 0, 0, 0), some (.lconst 0, 32, 0, 0, 0), some (.lconst 1, 33, 0, 0, 0), some (.invokestatic 110, 36, 169, 2, 0), none, none, some (.ifCond .ne 10, 39, 46, 0, 0), none, none, some (.aload_n 0, 40, 0, 0, 0), some (.bipush (-2), 42, 0, 0, 0), none, some (.invokevirtual 123, 45, 170, 1, 10), none, none, some (.ireturn, 46, 0, 0, 0), some (.aload_n 0, 47, 0, 0, 0), some (.getfield 47, 50, 10, 14, 1), none, none, some (.iload_n 1, 51, 0, 0, 0), some (.iaload, 52, 0, 0, 0), some (.iload_n 2, 53, 0, 0, 0), some (.ishr, 54, 0, 0, 0), some (.iconst 1, 55, 0, 0, 0), some (.iand, 56, 0, 0, 0), some (.istore 4, 58, 0, 0, 0), none, some (.aload_n 0, 59, 0, 0, 0), some (.getfield 47, 62, 10, 14, 1), none, none, some (.iload_n 1, 63, 0, 0, 0), some (.iload_n 3, 64, 0, 0, 0)]

set_option maxRecDepth 20000 in
noncomputable def jt_205_1 : List (Option jm_I) := [some (.iconst 1, 65, 0, 0, 0), some (.if_icmp .ne 16, 68, 81, 0, 0), none, none, some (.aload_n 0, 69, 0, 0, 0), some (.getfield 47, 72, 10, 14, 1), none, none, some (.iload_n 1, 73, 0, 0, 0), some (.iaload, 74, 0, 0, 0), some (.iconst 1, 75, 0, 0, 0), some (.iload_n 2, 76, 0, 0, 0), some (.ishl, 77, 0, 0, 0), some (.ior, 78, 0, 0, 0), some (.goto 15, 81, 93, 0, 0), none, none, some (.aload_n 0, 82, 0, 0, 0), some (.getfield 47, 85, 10, 14, 1), none, none, some (.iload_n 1, 86, 0, 0, 0), some (.iaload, 87, 0, 0, 0), some (.iconst 1, 88, 0, 0, 0), some (.iload_n 2, 89, 0, 0, 0), some (.ishl, 90, 0, 0, 0), some (.iconst (-1), 91, 0, 0, 0), some (.ixor, 92, 0, 0, 0), some (.iand, 93, 0, 0, 0), some (.iastore, 94, 0, 0, 0), some (.aload_n 0, 95, 0, 0, 0), some (.iconst 0, 96, 0, 0, 0), some (.putfield 205, 99, 10, 26, 2), none, none, some (.iload 4, 101, 0, 0, 0), none, some (.ireturn, 102, 0, 0, 0)]

noncomputable def jt_205 : List (List (Option jm_I)) := [jt_205_0, jt_205_1]

set_option maxRecDepth 20000 in
noncomputable def jt_206_0 : List (Option jm_I) := [some (.iload_n 1, 1, 0, 0, 0), some (.i2l, 2, 0, 0, 0), some (.lconst 0, 3, 0, 0, 0), some (.ldc2_w 222, 6, 0, 0, 255), none, none, some (.invokestatic 110, 9, 169, 2, 0), none, none, some (.ifCond .ne 10, 12, 19, 0, 0), none, none, some (.aload_n 0, 13, 0, 0, 0), some (.bipush (-2), 15, 0, 0, 0), none, some (.invokevirtual 123, 18, 170, 1, 10), none, none, some (.ireturn, 19, 0, 0, 0), some (.aload_n 0, 20, 0, 0, 0), some (.getfield 224, 23, 10, 7, 0), none, none, some (.sipush 250, 26, 0, 0, 0), none, none, some (.if_icmp .ne 10, 29, 36, 0, 0), none, none, some (.aload_n 0, 30, 0, 0, 0), some (.bipush (-6), 32, 0, 0, 0), none, some (.invokevirtual 123, 35, 170, 1, 10), none, none, some (.ireturn, 36, 0, 0, 0), some (.aload_n 0, 37, 0, 0, 0), some (.getfield 31, 40, 10, 6, 1), none, none, some (.aload_n 0, 41, 0, 0, 0), some (.dup, 42, 0, 0, 0), some (.getfield 224, 45, 10, 7, 0), none, none, some (.dup_x1, 46, 0, 0, 0), some (.iconst 1, 47, 0, 0, 0), some (.iadd, 48, 0, 0, 0), some (.putfield 224, 51, 10, 7, 0), none, none, some (.iload_n 1, 52, 0, 0, 0), some (.iastore, 53, 0, 0, 0), some (.aload_n 0, 54, 0, 0, 0), some (.getfield 224, 57, 10, 7, 0), none, none, some (.ireturn, 58, 0, 0, 0)]

noncomputable def jt_206 : List (List (Option jm_I)) := [jt_206_0]

set_option maxRecDepth 20000 in
noncomputable def jt_207_0 : List (Option jm_I) := [some (.aload_n 0, 1, 0, 0, 0), some (.getfield 224, 4, 10, 7, 0), none, none, some (.istore_n 1, 5, 0, 0, 0), some (.aload_n 0, 6, 0, 0, 0), some (.iconst 0, 7, 0, 0, 0), some (.putfield 224, 10, 10, 7, 0), none, none, some (.iload_n 1, 11, 0, 0, 0), some (.ireturn, 12, 0, 0, 0)]

noncomputable def jt_207 : List (List (Option jm_I)) := [jt_207_0]

set_option maxRecDepth 20000 in
noncomputable def jt_208_0 : List (Option jm_I) := [some (.aload_n 0, 1, 0, 0, 0), some (.invokevirtual 231, 4, 209, 1, 10), none, none, some (.istore_n 1, 5, 0, 0, 0), some (.aload_n 0, 6, 0, 0, 0), some (.invokevirtual 235, 9, 210, 1, 10), none, none, some (.istore_n 2, 10, 0, 0, 0), some (.aload_n 0, 11, 0, 0, 0), some (.getfield 224, 14, 10, 7, 0), none, none, some (.istore_n 3, 15, 0, 0, 0), some (.aload_n 0, 16, 0, 0, 0), some (.iconst 0, 17, 0, 0, 0), some (.putfield 224, 20, 10, 7, 0), none, none, some (.iload_n 1, 21, 0, 0, 0), some (.iconst (-1), 22, 0, 0, 0), some (.if_icmp .eq 15, 25, 37, 0, 0), none, none, some (.aload_n 0, 26, 0, 0, 0), some (.bipush (-2), 28, 0, 0, 0), none, some (.invokevirtual 123, 31, 170, 1, 10), none, none, some (.pop, 32, 0, 0, 0), some (.bipush (-20), 34, 0, 0, 0), none, some (.iload_n 1, 35, 0, 0, 0), some (.isub, 36, 0, 0, 0), some (.ireturn, 37, 0, 0, 0), some (.aload_n 0, 38, 0, 0, 0), some (.getfield 114, 41, 10, 9, 0), none, none, some (.iload_n 2, 42, 0, 0, 0), some (.iadd, 43, 0, 0, 0), some (.bipush 60, 45, 0, 0, 0), none, some (.if_icmp .le 10, 48, 55, 0, 0), none, none, some (.aload_n 0, 49, 0, 0, 0), some (.bipush (-6), 51, 0, 0, 0), none, some (.invokevirtual 123, 54, 170, 1, 10), none, none, some (.ireturn, 55, 0, 0, 0), some (.iconst 0, 56, 0, 0, 0), some (.istore 4, 58, 0, 0, 0), none, some (.iload 4, 60, 0, 0, 0), none, some (.iload_n 3, 61, 0, 0, 0), some (.if_icmp .ge 86, 64, 147, 0, 0), none, none]

set_option maxRecDepth 20000 in
noncomputable def jt_208_1 : List (Option jm_I) := [some (.aload_n 0, 65, 0, 0, 0), some (.getfield 31, 68, 10, 6, 1), none, none, some (.iload 4, 70, 0, 0, 0), none, some (.iaload, 71, 0, 0, 0), some (.i2l, 72, 0, 0, 0), some (.ldc2_w 227, 75, 0, 0, 97), none, none, some (.ldc2_w 229, 78, 0, 0, 112), none, none, some (.invokestatic 110, 81, 169, 2, 0), none, none, some (.ifCond .eq 20, 84, 101, 0, 0), none, none, some (.aload_n 0, 85, 0, 0, 0), some (.aload_n 0, 86, 0, 0, 0), some (.getfield 31, 89, 10, 6, 1), none, none, some (.iload 4, 91, 0, 0, 0), none, some (.iaload, 92, 0, 0, 0), some (.bipush 97, 94, 0, 0, 0), none, some (.isub, 95, 0, 0, 0), some (.invokevirtual 214, 98, 201, 1, 10), none, none, some (.goto 43, 101, 141, 0, 0), none, none, some (.aload_n 0, 102, 0, 0, 0), some (.getfield 31, 105, 10, 6, 1), none, none, some (.iload 4, 107, 0, 0, 0), none, some (.iaload, 108, 0, 0, 0), some (.bipush 32, 110, 0, 0, 0), none, some (.if_icmp .eq 31, 113, 141, 0, 0), none, none, some (.aload_n 0, 114, 0, 0, 0), some (.getfield 44, 117, 10, 13, 1), none, none, some (.aload_n 0, 118, 0, 0, 0), some (.getfield 114, 121, 10, 9, 0), none, none, some (.iconst 1, 122, 0, 0, 0), some (.isub, 123, 0, 0, 0), some (.aload_n 0, 124, 0, 0, 0), some (.getfield 31, 127, 10, 6, 1), none, none, some (.iload 4, 129, 0, 0, 0)]

set_option maxRecDepth 20000 in
noncomputable def jt_208_2 : List (Option jm_I) := [none, some (.iaload, 130, 0, 0, 0), some (.bipush 46, 132, 0, 0, 0), none, some (.if_icmp .ne 7, 135, 139, 0, 0), none, none, some (.iconst 1, 136, 0, 0, 0), some (.goto 4, 139, 140, 0, 0), none, none, some (.iconst 2, 140, 0, 0, 0), some (.iastore, 141, 0, 0, 0), some (.iinc 4 1, 144, 0, 0, 0), none, none, some (.goto (-86), 147, 58, 0, 0), none, none, some (.aload_n 0, 148, 0, 0, 0), some (.iconst 0, 149, 0, 0, 0), some (.putfield 205, 152, 10, 26, 2), none, none, some (.iload_n 2, 153, 0, 0, 0), some (.ireturn, 154, 0, 0, 0)]

noncomputable def jt_208 : List (List (Option jm_I)) := [jt_208_0, jt_208_1, jt_208_2]

set_option maxRecDepth 20000 in
noncomputable def jt_209_0 : List (Option jm_I) := [some (.aload_n 0, 1, 0, 0, 0), some (.getfield 114, 4, 10, 9, 0), none, none, some (.ifCond .ne 7, 7, 11, 0, 0), none, none, some (.iconst 3, 8, 0, 0, 0), some (.goto 14, 11, 22, 0, 0), none, none, some (.aload_n 0, 12, 0, 0, 0), some (.getfield 44, 15, 10, 13, 1), none, none, some (.aload_n 0, 16, 0, 0, 0), some (.getfield 114, 19, 10, 9, 0), none, none, some (.iconst 1, 20, 0, 0, 0), some (.isub, 21, 0, 0, 0), some (.iaload, 22, 0, 0, 0), some (.istore_n 1, 23, 0, 0, 0), some (.iconst 0, 24, 0, 0, 0), some (.istore_n 2, 25, 0, 0, 0), some (.iconst 0, 26, 0, 0, 0), some (.istore_n 3, 27, 0, 0, 0), some (.iload_n 3, 28, 0, 0, 0), some (.aload_n 0, 29, 0, 0, 0), some (.getfield 224, 32, 10, 7, 0), none, none, some (.if_icmp .ge 94, 35, 126, 0, 0), none, none, some (.aload_n 0, 36, 0, 0, 0), some (.getfield 31, 39, 10, 6, 1), none, none, some (.iload_n 3, 40, 0, 0, 0), some (.iaload, 41, 0, 0, 0), some (.istore 4, 43, 0, 0, 0), none, some (.iload 4, 45, 0, 0, 0), none, some (.i2l, 46, 0, 0, 0), some (.ldc2_w 227, 49, 0, 0, 97), none, none, some (.ldc2_w 229, 52, 0, 0, 112), none, none, some (.invokestatic 110, 55, 169, 2, 0), none, none, some (.ifCond .eq 8, 58, 63, 0, 0), none, none, some (.iconst 0, 59, 0, 0, 0), some (.istore_n 1, 60, 0, 0, 0), some (.goto 45, 63, 105, 0, 0), none, none, some (.iload 4, 65, 0, 0, 0)]

set_option maxRecDepth 20000 in
noncomputable def jt_209_1 : List (Option jm_I) := [none, some (.bipush 46, 67, 0, 0, 0), none, some (.if_icmp .ne 12, 70, 79, 0, 0), none, none, some (.iload_n 1, 71, 0, 0, 0), some (.ifCond .ne 8, 74, 79, 0, 0), none, none, some (.iconst 1, 75, 0, 0, 0), some (.istore_n 1, 76, 0, 0, 0), some (.goto 29, 79, 105, 0, 0), none, none, some (.iload 4, 81, 0, 0, 0), none, some (.bipush 47, 83, 0, 0, 0), none, some (.if_icmp .ne 13, 86, 96, 0, 0), none, none, some (.iload_n 1, 87, 0, 0, 0), some (.iconst 2, 88, 0, 0, 0), some (.if_icmp .ge 8, 91, 96, 0, 0), none, none, some (.iconst 2, 92, 0, 0, 0), some (.istore_n 1, 93, 0, 0, 0), some (.goto 12, 96, 105, 0, 0), none, none, some (.iload 4, 98, 0, 0, 0), none, some (.bipush 32, 100, 0, 0, 0), none, some (.if_icmp .eq 5, 103, 105, 0, 0), none, none, some (.iload_n 3, 104, 0, 0, 0), some (.ireturn, 105, 0, 0, 0), some (.iload_n 2, 106, 0, 0, 0), some (.iload 4, 108, 0, 0, 0), none, some (.bipush 32, 110, 0, 0, 0), none, some (.if_icmp .eq 7, 113, 117, 0, 0), none, none, some (.iconst 1, 114, 0, 0, 0), some (.goto 4, 117, 118, 0, 0), none, none, some (.iconst 0, 118, 0, 0, 0), some (.ior, 119, 0, 0, 0), some (.istore_n 2, 120, 0, 0, 0), some (.iinc 3 1, 123, 0, 0, 0), none, none, some (.goto (-96), 126, 27, 0, 0), none, none, some (.iload_n 2, 127, 0, 0, 0), some (.ifCond .eq 7, 130, 134, 0, 0)]

set_option maxRecDepth 20000 in
noncomputable def jt_209_2 : List (Option jm_I) := [none, none, some (.iconst (-1), 131, 0, 0, 0), some (.goto 7, 134, 138, 0, 0), none, none, some (.aload_n 0, 135, 0, 0, 0), some (.getfield 224, 138, 10, 7, 0), none, none, some (.ireturn, 139, 0, 0, 0)]

noncomputable def jt_209 : List (List (Option jm_I)) := [jt_209_0, jt_209_1, jt_209_2]

set_option maxRecDepth 20000 in
noncomputable def jt_210_0 : List (Option jm_I) := [some (.iconst 0, 1, 0, 0, 0), some (.istore_n 1, 2, 0, 0, 0), some (.iconst 0, 3, 0, 0, 0), some (.istore_n 2, 4, 0, 0, 0), some (.iload_n 2, 5, 0, 0, 0), some (.aload_n 0, 6, 0, 0, 0), some (.getfield 224, 9, 10, 7, 0), none, none, some (.if_icmp .ge 36, 12, 45, 0, 0), none, none, some (.iload_n 1, 13, 0, 0, 0), some (.aload_n 0, 14, 0, 0, 0), some (.getfield 31, 17, 10, 6, 1), none, none, some (.iload_n 2, 18, 0, 0, 0), some (.iaload, 19, 0, 0, 0), some (.i2l, 20, 0, 0, 0), some (.ldc2_w 227, 23, 0, 0, 97), none, none, some (.ldc2_w 229, 26, 0, 0, 112), none, none, some (.invokestatic 110, 29, 169, 2, 0), none, none, some (.ifCond .eq 7, 32, 36, 0, 0), none, none, some (.iconst 1, 33, 0, 0, 0), some (.goto 4, 36, 37, 0, 0), none, none, some (.iconst 0, 37, 0, 0, 0), some (.iadd, 38, 0, 0, 0), some (.istore_n 1, 39, 0, 0, 0), some (.iinc 2 1, 42, 0, 0, 0), none, none, some (.goto (-38), 45, 4, 0, 0), none, none, some (.iload_n 1, 46, 0, 0, 0), some (.ireturn, 47, 0, 0, 0)]

noncomputable def jt_210 : List (List (Option jm_I)) := [jt_210_0]

set_option maxRecDepth 20000 in
noncomputable def jt_211_0 : List (Option jm_I) := [some (.aload_n 0, 1, 0, 0, 0), some (.iconst 0, 2, 0, 0, 0), some (.putfield 241, 5, 10, 38, 0), none, none, some (.aload_n 0, 6, 0, 0, 0), some (.iconst (-1), 7, 0, 0, 0), some (.putfield 244, 10, 10, 39, 0), none, none, some (.aload_n 0, 11, 0, 0, 0), some (.aload_n 0, 12, 0, 0, 0), some (.getfield 107, 15, 10, 10, 0), none, none, some (.putfield 238, 18, 10, 40, 0), none, none, some (.aload_n 0, 19, 0, 0, 0), some (.invokevirtual 270, 22, 212, 1, 10), none, none, some (.pop, 23, 0, 0, 0), some (.aload_n 0, 24, 0, 0, 0), some (.getfield 244, 27, 10, 39, 0), none, none, some (.iconst (-1), 28, 0, 0, 0), some (.if_icmp .ne 20, 31, 48, 0, 0), none, none, some (.aload_n 0, 32, 0, 0, 0), some (.invokevirtual 247, 35, 217, 1, 10), none, none, some (.iconst (-1), 36, 0, 0, 0), some (.if_icmp .eq 12, 39, 48, 0, 0), none, none, some (.aload_n 0, 40, 0, 0, 0), some (.aload_n 0, 41, 0, 0, 0), some (.getfield 241, 44, 10, 38, 0), none, none, some (.invokevirtual 253, 47, 220, 1, 10), none, none, some (.pop, 48, 0, 0, 0), some (.aload_n 0, 49, 0, 0, 0), some (.iconst 0, 50, 0, 0, 0), some (.putfield 224, 53, 10, 7, 0), none, none, some (.aload_n 0, 54, 0, 0, 0), some (.getfield 244, 57, 10, 39, 0), none, none, some (.iconst (-1), 58, 0, 0, 0), some (.if_icmp .eq 18, 61, 76, 0, 0), none, none, some (.aload_n 0, 62, 0, 0, 0), some (.bipush (-2), 64, 0, 0, 0), none]

set_option maxRecDepth 20000 in
noncomputable def jt_211_1 : List (Option jm_I) := [some (.invokevirtual 123, 67, 170, 1, 10), none, none, some (.pop, 68, 0, 0, 0), some (.bipush (-20), 70, 0, 0, 0), none, some (.aload_n 0, 71, 0, 0, 0), some (.getfield 244, 74, 10, 39, 0), none, none, some (.isub, 75, 0, 0, 0), some (.ireturn, 76, 0, 0, 0), some (.aload_n 0, 77, 0, 0, 0), some (.getfield 238, 80, 10, 40, 0), none, none, some (.bipush 24, 82, 0, 0, 0), none, some (.if_icmp .le 10, 85, 92, 0, 0), none, none, some (.aload_n 0, 86, 0, 0, 0), some (.bipush (-6), 88, 0, 0, 0), none, some (.invokevirtual 123, 91, 170, 1, 10), none, none, some (.ireturn, 92, 0, 0, 0), some (.aload_n 0, 93, 0, 0, 0), some (.aload_n 0, 94, 0, 0, 0), some (.getfield 238, 97, 10, 40, 0), none, none, some (.putfield 107, 100, 10, 10, 0), none, none, some (.aload_n 0, 101, 0, 0, 0), some (.iconst 0, 102, 0, 0, 0), some (.putfield 205, 105, 10, 26, 2), none, none, some (.aload_n 0, 106, 0, 0, 0), some (.getfield 107, 109, 10, 10, 0), none, none, some (.iconst 1, 110, 0, 0, 0), some (.isub, 111, 0, 0, 0), some (.ireturn, 112, 0, 0, 0)]

noncomputable def jt_211 : List (List (Option jm_I)) := [jt_211_0, jt_211_1]

set_option maxRecDepth 20000 in
noncomputable def jt_212_0 : List (Option jm_I) := [some (.aload_n 0, 1, 0, 0, 0), some (.invokevirtual 291, 4, 213, 1, 10), none, none, some (.istore_n 1, 5, 0, 0, 0), some (.aload_n 0, 6, 0, 0, 0), some (.bipush 124, 8, 0, 0, 0), none, some (.invokevirtual 250, 11, 222, 1, 10), none, none, some (.ifCond .eq 33, 14, 44, 0, 0), none, none, some (.aload_n 0, 15, 0, 0, 0), some (.invokevirtual 291, 18, 213, 1, 10), none, none, some (.istore_n 2, 19, 0, 0, 0), some (.aload_n 0, 20, 0, 0, 0), some (.getfield 244, 23, 10, 39, 0), none, none, some (.iconst (-1), 24, 0, 0, 0), some (.if_icmp .eq 7, 27, 31, 0, 0), none, none, some (.iconst 0, 28, 0, 0, 0), some (.goto 12, 31, 40, 0, 0), none, none, some (.aload_n 0, 32, 0, 0, 0), some (.iconst 2, 33, 0, 0, 0), some (.iload_n 1, 34, 0, 0, 0), some (.iload_n 2, 35, 0, 0, 0), some (.iconst (-1), 36, 0, 0, 0), some (.iconst (-1), 37, 0, 0, 0), some (.invokevirtual 263, 40, 218, 1, 10), none, none, some (.istore_n 1, 41, 0, 0, 0), some (.goto (-36), 44, 5, 0, 0), none, none, some (.iload_n 1, 45, 0, 0, 0), some (.ireturn, 46, 0, 0, 0)]

noncomputable def jt_212 : List (List (Option jm_I)) := [jt_212_0]

set_option maxRecDepth 20000 in
noncomputable def jt_213_0 : List (Option jm_I) := [some (.aload_n 0, 1, 0, 0, 0), some (.invokevirtual 288, 4, 214, 1, 10), none, none, some (.istore_n 1, 5, 0, 0, 0), some (.aload_n 0, 6, 0, 0, 0), some (.bipush 38, 8, 0, 0, 0), none, some (.invokevirtual 250, 11, 222, 1, 10), none, none, some (.ifCond .eq 33, 14, 44, 0, 0), none, none, some (.aload_n 0, 15, 0, 0, 0), some (.invokevirtual 288, 18, 214, 1, 10), none, none, some (.istore_n 2, 19, 0, 0, 0), some (.aload_n 0, 20, 0, 0, 0), some (.getfield 244, 23, 10, 39, 0), none, none, some (.iconst (-1), 24, 0, 0, 0), some (.if_icmp .eq 7, 27, 31, 0, 0), none, none, some (.iconst 0, 28, 0, 0, 0), some (.goto 12, 31, 40, 0, 0), none, none, some (.aload_n 0, 32, 0, 0, 0), some (.iconst 3, 33, 0, 0, 0), some (.iload_n 1, 34, 0, 0, 0), some (.iload_n 2, 35, 0, 0, 0), some (.iconst (-1), 36, 0, 0, 0), some (.iconst (-1), 37, 0, 0, 0), some (.invokevirtual 263, 40, 218, 1, 10), none, none, some (.istore_n 1, 41, 0, 0, 0), some (.goto (-36), 44, 5, 0, 0), none, none, some (.iload_n 1, 45, 0, 0, 0), some (.ireturn, 46, 0, 0, 0)]

noncomputable def jt_213 : List (List (Option jm_I)) := [jt_213_0]

set_option maxRecDepth 20000 in
noncomputable def jt_214_0 : List (Option jm_I) := [some (.aload_n 0, 1, 0, 0, 0), some (.invokevirtual 285, 4, 215, 1, 10), none, none, some (.istore_n 1, 5, 0, 0, 0), some (.aload_n 0, 6, 0, 0, 0), some (.bipush 60, 8, 0, 0, 0), none, some (.invokevirtual 250, 11, 222, 1, 10), none, none, some (.ifCond .eq 33, 14, 44, 0, 0), none, none, some (.aload_n 0, 15, 0, 0, 0), some (.invokevirtual 285, 18, 215, 1, 10), none, none, some (.istore_n 2, 19, 0, 0, 0), some (.aload_n 0, 20, 0, 0, 0), some (.getfield 244, 23, 10, 39, 0), none, none, some (.iconst (-1), 24, 0, 0, 0), some (.if_icmp .eq 7, 27, 31, 0, 0), none, none, some (.iconst 0, 28, 0, 0, 0), some (.goto 12, 31, 40, 0, 0), none, none, some (.aload_n 0, 32, 0, 0, 0), some (.iconst 4, 33, 0, 0, 0), some (.iload_n 1, 34, 0, 0, 0), some (.iload_n 2, 35, 0, 0, 0), some (.iconst (-1), 36, 0, 0, 0), some (.iconst (-1), 37, 0, 0, 0), some (.invokevirtual 263, 40, 218, 1, 10), none, none, some (.istore_n 1, 41, 0, 0, 0), some (.goto (-36), 44, 5, 0, 0), none, none, some (.iload_n 1, 45, 0, 0, 0), some (.ireturn, 46, 0, 0, 0)]

noncomputable def jt_214 : List (List (Option jm_I)) := [jt_214_0]

set_option maxRecDepth 20000 in
noncomputable def jt_215_0 : List (Option jm_I) := [some (.aload_n 0, 1, 0, 0, 0), some (.invokevirtual 279, 4, 216, 1, 10), none, none, some (.istore_n 1, 5, 0, 0, 0), some (.aload_n 0, 6, 0, 0, 0), some (.getfield 244, 9, 10, 39, 0), none, none, some (.iconst (-1), 10, 0, 0, 0), some (.if_icmp .ne 13, 13, 23, 0, 0), none, none, some (.aload_n 0, 14, 0, 0, 0), some (.invokevirtual 247, 17, 217, 1, 10), none, none, some (.invokestatic 282, 20, 225, 2, 0), none, none, some (.goto 4, 23, 24, 0, 0), none, none, some (.iconst (-1), 24, 0, 0, 0), some (.istore_n 2, 25, 0, 0, 0), some (.iload_n 2, 26, 0, 0, 0), some (.iconst (-1), 27, 0, 0, 0), some (.if_icmp .eq 79, 30, 106, 0, 0), none, none, some (.aload_n 0, 31, 0, 0, 0), some (.dup, 32, 0, 0, 0), some (.getfield 241, 35, 10, 38, 0), none, none, some (.iconst 1, 36, 0, 0, 0), some (.iadd, 37, 0, 0, 0), some (.putfield 241, 40, 10, 38, 0), none, none, some (.iload_n 2, 41, 0, 0, 0), some (.bipush 10, 43, 0, 0, 0), none, some (.if_icmp .ne 13, 46, 56, 0, 0), none, none, some (.aload_n 0, 47, 0, 0, 0), some (.iconst 1, 48, 0, 0, 0), some (.bipush 60, 50, 0, 0, 0), none, some (.invokevirtual 267, 53, 224, 1, 10), none, none, some (.goto 7, 56, 60, 0, 0), none, none, some (.aload_n 0, 57, 0, 0, 0), some (.invokevirtual 279, 60, 216, 1, 10), none, none, some (.istore_n 3, 61, 0, 0, 0), some (.aload_n 0, 62, 0, 0, 0), some (.getfield 244, 65, 10, 39, 0), none]

set_option maxRecDepth 20000 in
noncomputable def jt_215_1 : List (Option jm_I) := [none, some (.iconst (-1), 66, 0, 0, 0), some (.if_icmp .eq 7, 69, 73, 0, 0), none, none, some (.iconst 0, 70, 0, 0, 0), some (.goto 12, 73, 82, 0, 0), none, none, some (.aload_n 0, 74, 0, 0, 0), some (.iload_n 2, 75, 0, 0, 0), some (.iload_n 1, 76, 0, 0, 0), some (.iload_n 3, 77, 0, 0, 0), some (.iconst (-1), 78, 0, 0, 0), some (.iconst (-1), 79, 0, 0, 0), some (.invokevirtual 263, 82, 218, 1, 10), none, none, some (.istore_n 1, 83, 0, 0, 0), some (.aload_n 0, 84, 0, 0, 0), some (.getfield 244, 87, 10, 39, 0), none, none, some (.iconst (-1), 88, 0, 0, 0), some (.if_icmp .ne 13, 91, 101, 0, 0), none, none, some (.aload_n 0, 92, 0, 0, 0), some (.invokevirtual 247, 95, 217, 1, 10), none, none, some (.invokestatic 282, 98, 225, 2, 0), none, none, some (.goto 4, 101, 102, 0, 0), none, none, some (.iconst (-1), 102, 0, 0, 0), some (.istore_n 2, 103, 0, 0, 0), some (.goto (-78), 106, 25, 0, 0), none, none, some (.iload_n 1, 107, 0, 0, 0), some (.ireturn, 108, 0, 0, 0)]

noncomputable def jt_215 : List (List (Option jm_I)) := [jt_215_0, jt_215_1]

set_option maxRecDepth 20000 in
noncomputable def jt_216_0 : List (Option jm_I) := [some (.aload_n 0, 1, 0, 0, 0), some (.getfield 244, 4, 10, 39, 0), none, none, some (.iconst (-1), 5, 0, 0, 0), some (.if_icmp .eq 5, 8, 10, 0, 0), none, none, some (.iconst 0, 9, 0, 0, 0), some (.ireturn, 10, 0, 0, 0), some (.aload_n 0, 11, 0, 0, 0), some (.invokevirtual 247, 14, 217, 1, 10), none, none, some (.istore_n 1, 15, 0, 0, 0), some (.aload_n 0, 16, 0, 0, 0), some (.dup, 17, 0, 0, 0), some (.getfield 241, 20, 10, 38, 0), none, none, some (.iconst 1, 21, 0, 0, 0), some (.iadd, 22, 0, 0, 0), some (.putfield 241, 25, 10, 38, 0), none, none, some (.iload_n 1, 26, 0, 0, 0), some (.i2l, 27, 0, 0, 0), some (.ldc2_w 227, 30, 0, 0, 97), none, none, some (.ldc2_w 229, 33, 0, 0, 112), none, none, some (.invokestatic 110, 36, 169, 2, 0), none, none, some (.ifCond .eq 16, 39, 52, 0, 0), none, none, some (.aload_n 0, 40, 0, 0, 0), some (.iconst 0, 41, 0, 0, 0), some (.iload_n 1, 42, 0, 0, 0), some (.bipush 97, 44, 0, 0, 0), none, some (.isub, 45, 0, 0, 0), some (.iconst (-1), 46, 0, 0, 0), some (.iconst (-1), 47, 0, 0, 0), some (.iconst (-1), 48, 0, 0, 0), some (.invokevirtual 263, 51, 218, 1, 10), none, none, some (.ireturn, 52, 0, 0, 0), some (.iload_n 1, 53, 0, 0, 0), some (.lookupswitch 115 #[(39, 59), (40, 97), (80, 75), (83, 64), (84, 86), (123, 110)], 112, 0, 0, 0), none, none, none, none, none, none, none, none, none, none]

set_option maxRecDepth 20000 in
noncomputable def jt_216_1 : List (Option jm_I) := [none, none, none, none, none, none, none, none, none, none, none, none, none, none, none, none, none, none, none, none, none, none, none, none, none, none, none, none, none, none, none, none, none, none, none, none, none, none, none, none, none, none, none, none, none, none, none, none, some (.aload_n 0, 113, 0, 0, 0), some (.invokevirtual 273, 116, 219, 1, 10), none, none, some (.ireturn, 117, 0, 0, 0), some (.aload_n 0, 118, 0, 0, 0), some (.bipush 9, 120, 0, 0, 0), none, some (.iconst 0, 121, 0, 0, 0), some (.iconst (-1), 122, 0, 0, 0), some (.iconst (-1), 123, 0, 0, 0), some (.iconst (-1), 124, 0, 0, 0), some (.invokevirtual 263, 127, 218, 1, 10), none, none, some (.ireturn, 128, 0, 0, 0)]

set_option maxRecDepth 20000 in
noncomputable def jt_216_2 : List (Option jm_I) := [some (.aload_n 0, 129, 0, 0, 0), some (.bipush 9, 131, 0, 0, 0), none, some (.iconst 1, 132, 0, 0, 0), some (.iconst (-1), 133, 0, 0, 0), some (.iconst (-1), 134, 0, 0, 0), some (.iconst (-1), 135, 0, 0, 0), some (.invokevirtual 263, 138, 218, 1, 10), none, none, some (.ireturn, 139, 0, 0, 0), some (.aload_n 0, 140, 0, 0, 0), some (.bipush 9, 142, 0, 0, 0), none, some (.iconst 2, 143, 0, 0, 0), some (.iconst (-1), 144, 0, 0, 0), some (.iconst (-1), 145, 0, 0, 0), some (.iconst (-1), 146, 0, 0, 0), some (.invokevirtual 263, 149, 218, 1, 10), none, none, some (.ireturn, 150, 0, 0, 0), some (.aload_n 0, 151, 0, 0, 0), some (.invokevirtual 270, 154, 212, 1, 10), none, none, some (.istore_n 2, 155, 0, 0, 0), some (.aload_n 0, 156, 0, 0, 0), some (.bipush 41, 158, 0, 0, 0), none, some (.invokevirtual 260, 161, 221, 1, 10), none, none, some (.iload_n 2, 162, 0, 0, 0), some (.ireturn, 163, 0, 0, 0), some (.aload_n 0, 164, 0, 0, 0), some (.invokevirtual 276, 167, 223, 1, 10), none, none, some (.ireturn, 168, 0, 0, 0), some (.aload_n 0, 169, 0, 0, 0), some (.dup, 170, 0, 0, 0), some (.getfield 241, 173, 10, 38, 0), none, none, some (.iconst 1, 174, 0, 0, 0), some (.isub, 175, 0, 0, 0), some (.putfield 241, 178, 10, 38, 0), none, none, some (.aload_n 0, 179, 0, 0, 0), some (.aload_n 0, 180, 0, 0, 0), some (.getfield 241, 183, 10, 38, 0), none, none, some (.invokevirtual 253, 186, 220, 1, 10), none, none, some (.ireturn, 187, 0, 0, 0)]

noncomputable def jt_216 : List (List (Option jm_I)) := [jt_216_0, jt_216_1, jt_216_2]

set_option maxRecDepth 20000 in
noncomputable def jt_217_0 : List (Option jm_I) := [some (.aload_n 0, 1, 0, 0, 0), some (.getfield 241, 4, 10, 38, 0), none, none, some (.aload_n 0, 5, 0, 0, 0), some (.getfield 224, 8, 10, 7, 0), none, none, some (.if_icmp .ge 30, 11, 38, 0, 0), none, none, some (.aload_n 0, 12, 0, 0, 0), some (.getfield 31, 15, 10, 6, 1), none, none, some (.aload_n 0, 16, 0, 0, 0), some (.getfield 241, 19, 10, 38, 0), none, none, some (.iaload, 20, 0, 0, 0), some (.bipush 32, 22, 0, 0, 0), none, some (.if_icmp .ne 16, 25, 38, 0, 0), none, none, some (.aload_n 0, 26, 0, 0, 0), some (.dup, 27, 0, 0, 0), some (.getfield 241, 30, 10, 38, 0), none, none, some (.iconst 1, 31, 0, 0, 0), some (.iadd, 32, 0, 0, 0), some (.putfield 241, 35, 10, 38, 0), none, none, some (.goto (-35), 38, 0, 0, 0), none, none, some (.aload_n 0, 39, 0, 0, 0), some (.getfield 241, 42, 10, 38, 0), none, none, some (.aload_n 0, 43, 0, 0, 0), some (.getfield 224, 46, 10, 7, 0), none, none, some (.if_icmp .ge 15, 49, 61, 0, 0), none, none, some (.aload_n 0, 50, 0, 0, 0), some (.getfield 31, 53, 10, 6, 1), none, none, some (.aload_n 0, 54, 0, 0, 0), some (.getfield 241, 57, 10, 38, 0), none, none, some (.iaload, 58, 0, 0, 0), some (.goto 4, 61, 62, 0, 0), none, none, some (.iconst (-1), 62, 0, 0, 0), some (.ireturn, 63, 0, 0, 0)]

noncomputable def jt_217 : List (List (Option jm_I)) := [jt_217_0]

set_option maxRecDepth 20000 in
noncomputable def jt_218_0 : List (Option jm_I) := [some (.aload_n 0, 1, 0, 0, 0), some (.getfield 238, 4, 10, 40, 0), none, none, some (.bipush 24, 6, 0, 0, 0), none, some (.if_icmp .ge 69, 9, 75, 0, 0), none, none, some (.aload_n 0, 10, 0, 0, 0), some (.getfield 50, 13, 10, 15, 1), none, none, some (.aload_n 0, 14, 0, 0, 0), some (.getfield 238, 17, 10, 40, 0), none, none, some (.iload_n 1, 18, 0, 0, 0), some (.iastore, 19, 0, 0, 0), some (.aload_n 0, 20, 0, 0, 0), some (.getfield 53, 23, 10, 16, 1), none, none, some (.iconst 4, 24, 0, 0, 0), some (.aload_n 0, 25, 0, 0, 0), some (.getfield 238, 28, 10, 40, 0), none, none, some (.imul, 29, 0, 0, 0), some (.iload_n 2, 30, 0, 0, 0), some (.iastore, 31, 0, 0, 0), some (.aload_n 0, 32, 0, 0, 0), some (.getfield 53, 35, 10, 16, 1), none, none, some (.iconst 4, 36, 0, 0, 0), some (.aload_n 0, 37, 0, 0, 0), some (.getfield 238, 40, 10, 40, 0), none, none, some (.imul, 41, 0, 0, 0), some (.iconst 1, 42, 0, 0, 0), some (.iadd, 43, 0, 0, 0), some (.iload_n 3, 44, 0, 0, 0), some (.iastore, 45, 0, 0, 0), some (.aload_n 0, 46, 0, 0, 0), some (.getfield 53, 49, 10, 16, 1), none, none, some (.iconst 4, 50, 0, 0, 0), some (.aload_n 0, 51, 0, 0, 0), some (.getfield 238, 54, 10, 40, 0), none, none, some (.imul, 55, 0, 0, 0), some (.iconst 2, 56, 0, 0, 0), some (.iadd, 57, 0, 0, 0), some (.iload 4, 59, 0, 0, 0), none, some (.iastore, 60, 0, 0, 0), some (.aload_n 0, 61, 0, 0, 0), some (.getfield 53, 64, 10, 16, 1), none, none]

set_option maxRecDepth 20000 in
noncomputable def jt_218_1 : List (Option jm_I) := [some (.iconst 4, 65, 0, 0, 0), some (.aload_n 0, 66, 0, 0, 0), some (.getfield 238, 69, 10, 40, 0), none, none, some (.imul, 70, 0, 0, 0), some (.iconst 3, 71, 0, 0, 0), some (.iadd, 72, 0, 0, 0), some (.iload 5, 74, 0, 0, 0), none, some (.iastore, 75, 0, 0, 0), some (.aload_n 0, 76, 0, 0, 0), some (.dup, 77, 0, 0, 0), some (.getfield 238, 80, 10, 40, 0), none, none, some (.iconst 1, 81, 0, 0, 0), some (.iadd, 82, 0, 0, 0), some (.putfield 238, 85, 10, 40, 0), none, none, some (.aload_n 0, 86, 0, 0, 0), some (.getfield 238, 89, 10, 40, 0), none, none, some (.iconst 1, 90, 0, 0, 0), some (.isub, 91, 0, 0, 0), some (.ireturn, 92, 0, 0, 0)]

noncomputable def jt_218 : List (List (Option jm_I)) := [jt_218_0, jt_218_1]

set_option maxRecDepth 20000 in
noncomputable def jt_219_0 : List (Option jm_I) := [some (.iconst 0, 1, 0, 0, 0), some (.istore_n 1, 2, 0, 0, 0), some (.iconst 0, 3, 0, 0, 0), some (.istore_n 2, 4, 0, 0, 0), some (.iload_n 2, 5, 0, 0, 0), some (.iconst 4, 6, 0, 0, 0), some (.if_icmp .ge 16, 9, 22, 0, 0), none, none, some (.aload_n 0, 10, 0, 0, 0), some (.getfield 104, 13, 10, 41, 1), none, none, some (.iload_n 2, 14, 0, 0, 0), some (.iconst (-1), 15, 0, 0, 0), some (.iastore, 16, 0, 0, 0), some (.iinc 2 1, 19, 0, 0, 0), none, none, some (.goto (-15), 22, 4, 0, 0), none, none, some (.iload_n 1, 23, 0, 0, 0), some (.iconst 4, 24, 0, 0, 0), some (.if_icmp .ge 51, 27, 75, 0, 0), none, none, some (.aload_n 0, 28, 0, 0, 0), some (.invokevirtual 247, 31, 217, 1, 10), none, none, some (.i2l, 32, 0, 0, 0), some (.ldc2_w 227, 35, 0, 0, 97), none, none, some (.ldc2_w 229, 38, 0, 0, 112), none, none, some (.invokestatic 110, 41, 169, 2, 0), none, none, some (.ifCond .eq 34, 44, 75, 0, 0), none, none, some (.aload_n 0, 45, 0, 0, 0), some (.getfield 104, 48, 10, 41, 1), none, none, some (.iload_n 1, 49, 0, 0, 0), some (.iinc 1 1, 52, 0, 0, 0), none, none, some (.aload_n 0, 53, 0, 0, 0), some (.getfield 31, 56, 10, 6, 1), none, none, some (.aload_n 0, 57, 0, 0, 0), some (.dup, 58, 0, 0, 0), some (.getfield 241, 61, 10, 38, 0), none, none, some (.dup_x1, 62, 0, 0, 0), some (.iconst 1, 63, 0, 0, 0), some (.iadd, 64, 0, 0, 0)]

set_option maxRecDepth 20000 in
noncomputable def jt_219_1 : List (Option jm_I) := [some (.putfield 241, 67, 10, 38, 0), none, none, some (.iaload, 68, 0, 0, 0), some (.bipush 97, 70, 0, 0, 0), none, some (.isub, 71, 0, 0, 0), some (.iastore, 72, 0, 0, 0), some (.goto (-50), 75, 22, 0, 0), none, none, some (.iload_n 1, 76, 0, 0, 0), some (.iconst 2, 77, 0, 0, 0), some (.if_icmp .ge 12, 80, 89, 0, 0), none, none, some (.aload_n 0, 81, 0, 0, 0), some (.aload_n 0, 82, 0, 0, 0), some (.getfield 241, 85, 10, 38, 0), none, none, some (.invokevirtual 253, 88, 220, 1, 10), none, none, some (.ireturn, 89, 0, 0, 0), some (.aload_n 0, 90, 0, 0, 0), some (.bipush 39, 92, 0, 0, 0), none, some (.invokevirtual 260, 95, 221, 1, 10), none, none, some (.aload_n 0, 96, 0, 0, 0), some (.getfield 244, 99, 10, 39, 0), none, none, some (.iconst (-1), 100, 0, 0, 0), some (.if_icmp .eq 7, 103, 107, 0, 0), none, none, some (.iconst 0, 104, 0, 0, 0), some (.goto 32, 107, 136, 0, 0), none, none, some (.aload_n 0, 108, 0, 0, 0), some (.iconst 1, 109, 0, 0, 0), some (.aload_n 0, 110, 0, 0, 0), some (.getfield 104, 113, 10, 41, 1), none, none, some (.iconst 0, 114, 0, 0, 0), some (.iaload, 115, 0, 0, 0), some (.aload_n 0, 116, 0, 0, 0), some (.getfield 104, 119, 10, 41, 1), none, none, some (.iconst 1, 120, 0, 0, 0), some (.iaload, 121, 0, 0, 0), some (.aload_n 0, 122, 0, 0, 0), some (.getfield 104, 125, 10, 41, 1), none, none, some (.iconst 2, 126, 0, 0, 0), some (.iaload, 127, 0, 0, 0), some (.aload_n 0, 128, 0, 0, 0)]

set_option maxRecDepth 20000 in
noncomputable def jt_219_2 : List (Option jm_I) := [some (.getfield 104, 131, 10, 41, 1), none, none, some (.iconst 3, 132, 0, 0, 0), some (.iaload, 133, 0, 0, 0), some (.invokevirtual 263, 136, 218, 1, 10), none, none, some (.ireturn, 137, 0, 0, 0)]

noncomputable def jt_219 : List (List (Option jm_I)) := [jt_219_0, jt_219_1, jt_219_2]

set_option maxRecDepth 20000 in
noncomputable def jt_220_0 : List (Option jm_I) := [some (.aload_n 0, 1, 0, 0, 0), some (.aload_n 0, 2, 0, 0, 0), some (.getfield 244, 5, 10, 39, 0), none, none, some (.iconst (-1), 6, 0, 0, 0), some (.if_icmp .ne 7, 9, 13, 0, 0), none, none, some (.iload_n 1, 10, 0, 0, 0), some (.goto 7, 13, 17, 0, 0), none, none, some (.aload_n 0, 14, 0, 0, 0), some (.getfield 244, 17, 10, 39, 0), none, none, some (.putfield 244, 20, 10, 39, 0), none, none, some (.iconst 0, 21, 0, 0, 0), some (.ireturn, 22, 0, 0, 0)]

noncomputable def jt_220 : List (List (Option jm_I)) := [jt_220_0]

set_option maxRecDepth 20000 in
noncomputable def jt_221_0 : List (Option jm_I) := [some (.aload_n 0, 1, 0, 0, 0), some (.getfield 244, 4, 10, 39, 0), none, none, some (.iconst (-1), 5, 0, 0, 0), some (.if_icmp .ne 20, 8, 25, 0, 0), none, none, some (.aload_n 0, 9, 0, 0, 0), some (.iload_n 1, 10, 0, 0, 0), some (.invokevirtual 250, 13, 222, 1, 10), none, none, some (.ifCond .ne 12, 16, 25, 0, 0), none, none, some (.aload_n 0, 17, 0, 0, 0), some (.aload_n 0, 18, 0, 0, 0), some (.getfield 241, 21, 10, 38, 0), none, none, some (.invokevirtual 253, 24, 220, 1, 10), none, none, some (.pop, 25, 0, 0, 0), some (.return_, 26, 0, 0, 0)]

noncomputable def jt_221 : List (List (Option jm_I)) := [jt_221_0]

set_option maxRecDepth 20000 in
noncomputable def jt_222_0 : List (Option jm_I) := [some (.aload_n 0, 1, 0, 0, 0), some (.getfield 244, 4, 10, 39, 0), none, none, some (.iconst (-1), 5, 0, 0, 0), some (.if_icmp .ne 15, 8, 20, 0, 0), none, none, some (.aload_n 0, 9, 0, 0, 0), some (.invokevirtual 247, 12, 217, 1, 10), none, none, some (.iload_n 1, 13, 0, 0, 0), some (.if_icmp .ne 7, 16, 20, 0, 0), none, none, some (.iconst 1, 17, 0, 0, 0), some (.goto 4, 20, 21, 0, 0), none, none, some (.iconst 0, 21, 0, 0, 0), some (.istore_n 2, 22, 0, 0, 0), some (.aload_n 0, 23, 0, 0, 0), some (.dup, 24, 0, 0, 0), some (.getfield 241, 27, 10, 38, 0), none, none, some (.iload_n 2, 28, 0, 0, 0), some (.ifCond .eq 7, 31, 35, 0, 0), none, none, some (.iconst 1, 32, 0, 0, 0), some (.goto 4, 35, 36, 0, 0), none, none, some (.iconst 0, 36, 0, 0, 0), some (.iadd, 37, 0, 0, 0), some (.putfield 241, 40, 10, 38, 0), none, none, some (.iload_n 2, 41, 0, 0, 0), some (.ireturn, 42, 1, 0, 0)]

noncomputable def jt_222 : List (List (Option jm_I)) := [jt_222_0]

set_option maxRecDepth 20000 in
noncomputable def jt_223_0 : List (Option jm_I) := [some (.aload_n 0, 1, 0, 0, 0), some (.iconst 1, 2, 0, 0, 0), some (.iconst 3, 3, 0, 0, 0), some (.invokevirtual 267, 6, 224, 1, 10), none, none, some (.istore_n 1, 7, 0, 0, 0), some (.aload_n 0, 8, 0, 0, 0), some (.invokevirtual 270, 11, 212, 1, 10), none, none, some (.istore_n 2, 12, 0, 0, 0), some (.aload_n 0, 13, 0, 0, 0), some (.bipush 44, 15, 0, 0, 0), none, some (.invokevirtual 260, 18, 221, 1, 10), none, none, some (.aload_n 0, 19, 0, 0, 0), some (.invokevirtual 270, 22, 212, 1, 10), none, none, some (.istore_n 3, 23, 0, 0, 0), some (.aload_n 0, 24, 0, 0, 0), some (.bipush 44, 26, 0, 0, 0), none, some (.invokevirtual 260, 29, 221, 1, 10), none, none, some (.aload_n 0, 30, 0, 0, 0), some (.invokevirtual 270, 33, 212, 1, 10), none, none, some (.istore 4, 35, 0, 0, 0), none, some (.aload_n 0, 36, 0, 0, 0), some (.bipush 125, 38, 0, 0, 0), none, some (.invokevirtual 260, 41, 221, 1, 10), none, none, some (.aload_n 0, 42, 0, 0, 0), some (.getfield 244, 45, 10, 39, 0), none, none, some (.iconst (-1), 46, 0, 0, 0), some (.if_icmp .eq 7, 49, 53, 0, 0), none, none, some (.iconst 0, 50, 0, 0, 0), some (.goto 14, 53, 64, 0, 0), none, none, some (.aload_n 0, 54, 0, 0, 0), some (.bipush 11, 56, 0, 0, 0), none, some (.iload_n 2, 57, 0, 0, 0), some (.iload_n 3, 58, 0, 0, 0), some (.iload 4, 60, 0, 0, 0), none, some (.iload_n 1, 61, 0, 0, 0), some (.invokevirtual 263, 64, 218, 1, 10), none, none]

set_option maxRecDepth 20000 in
noncomputable def jt_223_1 : List (Option jm_I) := [some (.ireturn, 65, 0, 0, 0)]

noncomputable def jt_223 : List (List (Option jm_I)) := [jt_223_0, jt_223_1]

set_option maxRecDepth 20000 in
noncomputable def jt_224_0 : List (Option jm_I) := [some (.aload_n 0, 1, 0, 0, 0), some (.getfield 244, 4, 10, 39, 0), none, none, some (.iconst (-1), 5, 0, 0, 0), some (.if_icmp .eq 5, 8, 10, 0, 0), none, none, some (.iconst 0, 9, 0, 0, 0), some (.ireturn, 10, 0, 0, 0), some (.aload_n 0, 11, 0, 0, 0), some (.invokevirtual 247, 14, 217, 1, 10), none, none, some (.pop, 15, 0, 0, 0), some (.aload_n 0, 16, 0, 0, 0), some (.getfield 241, 19, 10, 38, 0), none, none, some (.istore_n 3, 20, 0, 0, 0), some (.iconst 0, 21, 0, 0, 0), some (.istore 4, 23, 0, 0, 0), none, some (.aload_n 0, 24, 0, 0, 0), some (.getfield 241, 27, 10, 38, 0), none, none, some (.aload_n 0, 28, 0, 0, 0), some (.getfield 224, 31, 10, 7, 0), none, none, some (.if_icmp .ge 73, 34, 104, 0, 0), none, none, some (.aload_n 0, 35, 0, 0, 0), some (.getfield 31, 38, 10, 6, 1), none, none, some (.aload_n 0, 39, 0, 0, 0), some (.getfield 241, 42, 10, 38, 0), none, none, some (.iaload, 43, 0, 0, 0), some (.i2l, 44, 0, 0, 0), some (.ldc2_w 256, 47, 0, 0, 48), none, none, some (.ldc2_w 258, 50, 0, 0, 57), none, none, some (.invokestatic 110, 53, 169, 2, 0), none, none, some (.ifCond .eq 51, 56, 104, 0, 0), none, none, some (.aload_n 0, 57, 0, 0, 0), some (.getfield 241, 60, 10, 38, 0), none, none, some (.iload_n 3, 61, 0, 0, 0), some (.isub, 62, 0, 0, 0), some (.iconst 2, 63, 0, 0, 0), some (.if_icmp .ge 24, 66, 87, 0, 0)]

set_option maxRecDepth 20000 in
noncomputable def jt_224_1 : List (Option jm_I) := [none, none, some (.bipush 10, 68, 0, 0, 0), none, some (.iload 4, 70, 0, 0, 0), none, some (.imul, 71, 0, 0, 0), some (.aload_n 0, 72, 0, 0, 0), some (.getfield 31, 75, 10, 6, 1), none, none, some (.aload_n 0, 76, 0, 0, 0), some (.getfield 241, 79, 10, 38, 0), none, none, some (.iaload, 80, 0, 0, 0), some (.iadd, 81, 0, 0, 0), some (.bipush 48, 83, 0, 0, 0), none, some (.isub, 84, 0, 0, 0), some (.goto 5, 87, 89, 0, 0), none, none, some (.iload 4, 89, 0, 0, 0), none, some (.istore 4, 91, 0, 0, 0), none, some (.aload_n 0, 92, 0, 0, 0), some (.dup, 93, 0, 0, 0), some (.getfield 241, 96, 10, 38, 0), none, none, some (.iconst 1, 97, 0, 0, 0), some (.iadd, 98, 0, 0, 0), some (.putfield 241, 101, 10, 38, 0), none, none, some (.goto (-78), 104, 23, 0, 0), none, none, some (.aload_n 0, 105, 0, 0, 0), some (.getfield 241, 108, 10, 38, 0), none, none, some (.iload_n 3, 109, 0, 0, 0), some (.if_icmp .eq 26, 112, 135, 0, 0), none, none, some (.aload_n 0, 113, 0, 0, 0), some (.getfield 241, 116, 10, 38, 0), none, none, some (.iload_n 3, 117, 0, 0, 0), some (.isub, 118, 0, 0, 0), some (.iconst 2, 119, 0, 0, 0), some (.if_icmp .gt 16, 122, 135, 0, 0), none, none, some (.iload 4, 124, 0, 0, 0), none, some (.i2l, 125, 0, 0, 0), some (.iload_n 1, 126, 0, 0, 0), some (.i2l, 127, 0, 0, 0), some (.iload_n 2, 128, 0, 0, 0)]

set_option maxRecDepth 20000 in
noncomputable def jt_224_2 : List (Option jm_I) := [some (.i2l, 129, 0, 0, 0), some (.invokestatic 110, 132, 169, 2, 0), none, none, some (.ifCond .ne 11, 135, 143, 0, 0), none, none, some (.aload_n 0, 136, 0, 0, 0), some (.iload_n 3, 137, 0, 0, 0), some (.invokevirtual 253, 140, 220, 1, 10), none, none, some (.goto 5, 143, 145, 0, 0), none, none, some (.iload 4, 145, 0, 0, 0), none, some (.ireturn, 146, 0, 0, 0)]

noncomputable def jt_224 : List (List (Option jm_I)) := [jt_224_0, jt_224_1, jt_224_2]

set_option maxRecDepth 20000 in
noncomputable def jt_225_0 : List (Option jm_I) := [some (.iload_n 0, 1, 0, 0, 0), some (.bipush 64, 3, 0, 0, 0), none, some (.if_icmp .ne 7, 6, 10, 0, 0), none, none, some (.iconst 5, 7, 0, 0, 0), some (.goto 48, 10, 55, 0, 0), none, none, some (.iload_n 0, 11, 0, 0, 0), some (.bipush 33, 13, 0, 0, 0), none, some (.if_icmp .ne 8, 16, 21, 0, 0), none, none, some (.bipush 6, 18, 0, 0, 0), none, some (.goto 37, 21, 55, 0, 0), none, none, some (.iload_n 0, 22, 0, 0, 0), some (.bipush 35, 24, 0, 0, 0), none, some (.if_icmp .ne 8, 27, 32, 0, 0), none, none, some (.bipush 7, 29, 0, 0, 0), none, some (.goto 26, 32, 55, 0, 0), none, none, some (.iload_n 0, 33, 0, 0, 0), some (.bipush 45, 35, 0, 0, 0), none, some (.if_icmp .ne 8, 38, 43, 0, 0), none, none, some (.bipush 8, 40, 0, 0, 0), none, some (.goto 15, 43, 55, 0, 0), none, none, some (.iload_n 0, 44, 0, 0, 0), some (.bipush 94, 46, 0, 0, 0), none, some (.if_icmp .ne 8, 49, 54, 0, 0), none, none, some (.bipush 10, 51, 0, 0, 0), none, some (.goto 4, 54, 55, 0, 0), none, none, some (.iconst (-1), 55, 0, 0, 0), some (.ireturn, 56, 0, 0, 0)]

noncomputable def jt_225 : List (List (Option jm_I)) := [jt_225_0]

set_option maxRecDepth 20000 in
noncomputable def jt_226_0 : List (Option jm_I) := [some (.iload_n 1, 1, 0, 0, 0), some (.i2l, 2, 0, 0, 0), some (.lconst 0, 3, 0, 0, 0), some (.ldc2_w 212, 6, 0, 0, 15), none, none, some (.invokestatic 110, 9, 169, 2, 0), none, none, some (.ifCond .eq 15, 12, 24, 0, 0), none, none, some (.aload_n 0, 13, 0, 0, 0), some (.iconst 0, 14, 0, 0, 0), some (.iload_n 1, 15, 0, 0, 0), some (.iconst (-1), 16, 0, 0, 0), some (.iconst (-1), 17, 0, 0, 0), some (.iconst (-1), 18, 0, 0, 0), some (.invokevirtual 294, 21, 227, 1, 10), none, none, some (.goto 9, 24, 30, 0, 0), none, none, some (.aload_n 0, 25, 0, 0, 0), some (.bipush (-2), 27, 0, 0, 0), none, some (.invokevirtual 123, 30, 170, 1, 10), none, none, some (.ireturn, 31, 0, 0, 0)]

noncomputable def jt_226 : List (List (Option jm_I)) := [jt_226_0]

set_option maxRecDepth 20000 in
noncomputable def jt_227_0 : List (Option jm_I) := [some (.aload_n 0, 1, 0, 0, 0), some (.getfield 107, 4, 10, 10, 0), none, none, some (.bipush 24, 6, 0, 0, 0), none, some (.if_icmp .ne 10, 9, 16, 0, 0), none, none, some (.aload_n 0, 10, 0, 0, 0), some (.bipush (-6), 12, 0, 0, 0), none, some (.invokevirtual 123, 15, 170, 1, 10), none, none, some (.ireturn, 16, 0, 0, 0), some (.aload_n 0, 17, 0, 0, 0), some (.aload_n 0, 18, 0, 0, 0), some (.getfield 107, 21, 10, 10, 0), none, none, some (.putfield 238, 24, 10, 40, 0), none, none, some (.aload_n 0, 25, 0, 0, 0), some (.iload_n 1, 26, 0, 0, 0), some (.iload_n 2, 27, 0, 0, 0), some (.iload_n 3, 28, 0, 0, 0), some (.iload 4, 30, 0, 0, 0), none, some (.iload 5, 32, 0, 0, 0), none, some (.invokevirtual 263, 35, 218, 1, 10), none, none, some (.pop, 36, 0, 0, 0), some (.aload_n 0, 37, 0, 0, 0), some (.dup, 38, 0, 0, 0), some (.getfield 107, 41, 10, 10, 0), none, none, some (.iconst 1, 42, 0, 0, 0), some (.iadd, 43, 0, 0, 0), some (.putfield 107, 46, 10, 10, 0), none, none, some (.aload_n 0, 47, 0, 0, 0), some (.iconst 0, 48, 0, 0, 0), some (.putfield 205, 51, 10, 26, 2), none, none, some (.aload_n 0, 52, 0, 0, 0), some (.getfield 107, 55, 10, 10, 0), none, none, some (.iconst 1, 56, 0, 0, 0), some (.isub, 57, 0, 0, 0), some (.ireturn, 58, 0, 0, 0)]

noncomputable def jt_227 : List (List (Option jm_I)) := [jt_227_0]

set_option maxRecDepth 20000 in
noncomputable def jt_228_0 : List (Option jm_I) := [some (.iload_n 1, 1, 0, 0, 0), some (.i2l, 2, 0, 0, 0), some (.lconst 0, 3, 0, 0, 0), some (.ldc2_w 117, 6, 0, 0, 7), none, none, some (.invokestatic 110, 9, 169, 2, 0), none, none, some (.ifCond .eq 17, 12, 26, 0, 0), none, none, some (.iload_n 2, 13, 0, 0, 0), some (.i2l, 14, 0, 0, 0), some (.ldc2_w 217, 17, 0, 0, 2), none, none, some (.ldc2_w 119, 20, 0, 0, 4), none, none, some (.invokestatic 110, 23, 169, 2, 0), none, none, some (.ifCond .ne 10, 26, 33, 0, 0), none, none, some (.aload_n 0, 27, 0, 0, 0), some (.bipush (-2), 29, 0, 0, 0), none, some (.invokevirtual 123, 32, 170, 1, 10), none, none, some (.ireturn, 33, 0, 0, 0), some (.aload_n 0, 34, 0, 0, 0), some (.iload_n 1, 35, 0, 0, 0), some (.iload_n 2, 36, 0, 0, 0), some (.invokevirtual 297, 39, 229, 1, 10), none, none, some (.istore_n 3, 40, 0, 0, 0), some (.iload_n 3, 41, 0, 0, 0), some (.ifCond .eq 5, 44, 46, 0, 0), none, none, some (.iload_n 3, 45, 0, 0, 0), some (.ireturn, 46, 0, 0, 0), some (.iconst 0, 47, 0, 0, 0), some (.istore 4, 49, 0, 0, 0), none, some (.iload 4, 51, 0, 0, 0), none, some (.iload_n 2, 52, 0, 0, 0), some (.if_icmp .ge 35, 55, 87, 0, 0), none, none, some (.aload_n 0, 56, 0, 0, 0), some (.getfield 21, 59, 10, 3, 1), none, none, some (.iload_n 1, 60, 0, 0, 0), some (.aaload, 61, 0, 0, 0), some (.iload 4, 63, 0, 0, 0), none, some (.laload, 64, 0, 0, 0)]

set_option maxRecDepth 20000 in
noncomputable def jt_228_1 : List (Option jm_I) := [some (.lconst 0, 65, 0, 0, 0), some (.ldc2_w 212, 68, 0, 0, 15), none, none, some (.invokestatic 110, 71, 169, 2, 0), none, none, some (.ifCond .ne 10, 74, 81, 0, 0), none, none, some (.aload_n 0, 75, 0, 0, 0), some (.bipush (-5), 77, 0, 0, 0), none, some (.invokevirtual 123, 80, 170, 1, 10), none, none, some (.ireturn, 81, 0, 0, 0), some (.iinc 4 1, 84, 0, 0, 0), none, none, some (.goto (-35), 87, 49, 0, 0), none, none, some (.aload_n 0, 88, 0, 0, 0), some (.iconst 1, 89, 0, 0, 0), some (.aload_n 0, 90, 0, 0, 0), some (.getfield 21, 93, 10, 3, 1), none, none, some (.iload_n 1, 94, 0, 0, 0), some (.aaload, 95, 0, 0, 0), some (.iconst 0, 96, 0, 0, 0), some (.laload, 97, 0, 0, 0), some (.l2i, 98, 0, 0, 0), some (.aload_n 0, 99, 0, 0, 0), some (.getfield 21, 102, 10, 3, 1), none, none, some (.iload_n 1, 103, 0, 0, 0), some (.aaload, 104, 0, 0, 0), some (.iconst 1, 105, 0, 0, 0), some (.laload, 106, 0, 0, 0), some (.l2i, 107, 0, 0, 0), some (.iload_n 2, 108, 0, 0, 0), some (.iconst 2, 109, 0, 0, 0), some (.if_icmp .le 15, 112, 124, 0, 0), none, none, some (.aload_n 0, 113, 0, 0, 0), some (.getfield 21, 116, 10, 3, 1), none, none, some (.iload_n 1, 117, 0, 0, 0), some (.aaload, 118, 0, 0, 0), some (.iconst 2, 119, 0, 0, 0), some (.laload, 120, 0, 0, 0), some (.l2i, 121, 0, 0, 0), some (.goto 4, 124, 125, 0, 0), none, none, some (.iconst (-1), 125, 0, 0, 0), some (.iload_n 2, 126, 0, 0, 0), some (.iconst 3, 127, 0, 0, 0), some (.if_icmp .le 15, 130, 142, 0, 0)]

set_option maxRecDepth 20000 in
noncomputable def jt_228_2 : List (Option jm_I) := [none, none, some (.aload_n 0, 131, 0, 0, 0), some (.getfield 21, 134, 10, 3, 1), none, none, some (.iload_n 1, 135, 0, 0, 0), some (.aaload, 136, 0, 0, 0), some (.iconst 3, 137, 0, 0, 0), some (.laload, 138, 0, 0, 0), some (.l2i, 139, 0, 0, 0), some (.goto 4, 142, 143, 0, 0), none, none, some (.iconst (-1), 143, 0, 0, 0), some (.invokevirtual 294, 146, 227, 1, 10), none, none, some (.ireturn, 147, 0, 0, 0)]

noncomputable def jt_228 : List (List (Option jm_I)) := [jt_228_0, jt_228_1, jt_228_2]

set_option maxRecDepth 20000 in
noncomputable def jt_229_0 : List (Option jm_I) := [some (.aload_n 0, 1, 0, 0, 0), some (.iload_n 1, 2, 0, 0, 0), some (.invokevirtual 127, 5, 172, 1, 10), none, none, some (.istore_n 3, 6, 0, 0, 0), some (.iload_n 3, 7, 0, 0, 0), some (.ifCond .eq 7, 10, 14, 0, 0), none, none, some (.iload_n 3, 11, 0, 0, 0), some (.goto 23, 14, 34, 0, 0), none, none, some (.iload_n 2, 15, 0, 0, 0), some (.aload_n 0, 16, 0, 0, 0), some (.getfield 16, 19, 10, 2, 1), none, none, some (.iload_n 1, 20, 0, 0, 0), some (.iaload, 21, 0, 0, 0), some (.if_icmp .le 12, 24, 33, 0, 0), none, none, some (.aload_n 0, 25, 0, 0, 0), some (.bipush (-2), 27, 0, 0, 0), none, some (.invokevirtual 123, 30, 170, 1, 10), none, none, some (.goto 4, 33, 34, 0, 0), none, none, some (.iconst 0, 34, 0, 0, 0), some (.ireturn, 35, 0, 0, 0)]

noncomputable def jt_229 : List (List (Option jm_I)) := [jt_229_0]

set_option maxRecDepth 20000 in
noncomputable def jt_230_0 : List (Option jm_I) := [some (.iload_n 1, 1, 0, 0, 0), some (.i2l, 2, 0, 0, 0), some (.ldc2_w 217, 5, 0, 0, 2), none, none, some (.ldc2_w 300, 8, 0, 0, 8), none, none, some (.invokestatic 110, 11, 169, 2, 0), none, none, some (.ifCond .eq 31, 14, 42, 0, 0), none, none, some (.aload_n 0, 15, 0, 0, 0), some (.iload_n 2, 16, 0, 0, 0), some (.invokevirtual 134, 19, 178, 1, 10), none, none, some (.ifCond .eq 23, 22, 42, 0, 0), none, none, some (.aload_n 0, 23, 0, 0, 0), some (.iload_n 3, 24, 0, 0, 0), some (.invokevirtual 134, 27, 178, 1, 10), none, none, some (.ifCond .eq 15, 30, 42, 0, 0), none, none, some (.aload_n 0, 31, 0, 0, 0), some (.iload_n 1, 32, 0, 0, 0), some (.iload_n 2, 33, 0, 0, 0), some (.iload_n 3, 34, 0, 0, 0), some (.iconst (-1), 35, 0, 0, 0), some (.iconst (-1), 36, 0, 0, 0), some (.invokevirtual 294, 39, 227, 1, 10), none, none, some (.goto 9, 42, 48, 0, 0), none, none, some (.aload_n 0, 43, 0, 0, 0), some (.bipush (-2), 45, 0, 0, 0), none, some (.invokevirtual 123, 48, 170, 1, 10), none, none, some (.ireturn, 49, 0, 0, 0)]

noncomputable def jt_230 : List (List (Option jm_I)) := [jt_230_0]

set_option maxRecDepth 20000 in
noncomputable def jt_231_0 : List (Option jm_I) := [some (.iload_n 1, 1, 0, 0, 0), some (.i2l, 2, 0, 0, 0), some (.lconst 0, 3, 0, 0, 0), some (.ldc2_w 217, 6, 0, 0, 2), none, none, some (.invokestatic 110, 9, 169, 2, 0), none, none, some (.ifCond .eq 16, 12, 25, 0, 0), none, none, some (.aload_n 0, 13, 0, 0, 0), some (.bipush 9, 15, 0, 0, 0), none, some (.iload_n 1, 16, 0, 0, 0), some (.iconst (-1), 17, 0, 0, 0), some (.iconst (-1), 18, 0, 0, 0), some (.iconst (-1), 19, 0, 0, 0), some (.invokevirtual 294, 22, 227, 1, 10), none, none, some (.goto 9, 25, 31, 0, 0), none, none, some (.aload_n 0, 26, 0, 0, 0), some (.bipush (-2), 28, 0, 0, 0), none, some (.invokevirtual 123, 31, 170, 1, 10), none, none, some (.ireturn, 32, 0, 0, 0)]

noncomputable def jt_231 : List (List (Option jm_I)) := [jt_231_0]

set_option maxRecDepth 20000 in
noncomputable def jt_232_0 : List (Option jm_I) := [some (.aload_n 0, 1, 0, 0, 0), some (.iload_n 1, 2, 0, 0, 0), some (.invokevirtual 134, 5, 178, 1, 10), none, none, some (.ifCond .eq 28, 8, 33, 0, 0), none, none, some (.iload_n 2, 9, 0, 0, 0), some (.i2l, 10, 0, 0, 0), some (.lconst 1, 11, 0, 0, 0), some (.ldc2_w 302, 14, 0, 0, 60), none, none, some (.invokestatic 110, 17, 169, 2, 0), none, none, some (.ifCond .eq 16, 20, 33, 0, 0), none, none, some (.aload_n 0, 21, 0, 0, 0), some (.bipush 10, 23, 0, 0, 0), none, some (.iload_n 1, 24, 0, 0, 0), some (.iload_n 2, 25, 0, 0, 0), some (.iconst (-1), 26, 0, 0, 0), some (.iconst (-1), 27, 0, 0, 0), some (.invokevirtual 294, 30, 227, 1, 10), none, none, some (.goto 9, 33, 39, 0, 0), none, none, some (.aload_n 0, 34, 0, 0, 0), some (.bipush (-2), 36, 0, 0, 0), none, some (.invokevirtual 123, 39, 170, 1, 10), none, none, some (.ireturn, 40, 0, 0, 0)]

noncomputable def jt_232 : List (List (Option jm_I)) := [jt_232_0]

set_option maxRecDepth 20000 in
noncomputable def jt_233_0 : List (Option jm_I) := [some (.iload_n 1, 1, 0, 0, 0), some (.i2l, 2, 0, 0, 0), some (.lconst 1, 3, 0, 0, 0), some (.ldc2_w 304, 6, 0, 0, 3), none, none, some (.invokestatic 110, 9, 169, 2, 0), none, none, some (.ifCond .eq 42, 12, 51, 0, 0), none, none, some (.aload_n 0, 13, 0, 0, 0), some (.iload_n 2, 14, 0, 0, 0), some (.invokevirtual 134, 17, 178, 1, 10), none, none, some (.ifCond .eq 34, 20, 51, 0, 0), none, none, some (.aload_n 0, 21, 0, 0, 0), some (.iload_n 3, 22, 0, 0, 0), some (.invokevirtual 134, 25, 178, 1, 10), none, none, some (.ifCond .eq 26, 28, 51, 0, 0), none, none, some (.aload_n 0, 29, 0, 0, 0), some (.iload 4, 31, 0, 0, 0), none, some (.invokevirtual 134, 34, 178, 1, 10), none, none, some (.ifCond .eq 17, 37, 51, 0, 0), none, none, some (.aload_n 0, 38, 0, 0, 0), some (.bipush 11, 40, 0, 0, 0), none, some (.iload_n 2, 41, 0, 0, 0), some (.iload_n 3, 42, 0, 0, 0), some (.iload 4, 44, 0, 0, 0), none, some (.iload_n 1, 45, 0, 0, 0), some (.invokevirtual 294, 48, 227, 1, 10), none, none, some (.goto 9, 51, 57, 0, 0), none, none, some (.aload_n 0, 52, 0, 0, 0), some (.bipush (-2), 54, 0, 0, 0), none, some (.invokevirtual 123, 57, 170, 1, 10), none, none, some (.ireturn, 58, 0, 0, 0)]

noncomputable def jt_233 : List (List (Option jm_I)) := [jt_233_0]

set_option maxRecDepth 20000 in
noncomputable def jt_234_0 : List (Option jm_I) := [some (.aload_n 0, 1, 0, 0, 0), some (.getfield 107, 4, 10, 10, 0), none, none, some (.ifCond .ne 10, 7, 14, 0, 0), none, none, some (.aload_n 0, 8, 0, 0, 0), some (.bipush (-5), 10, 0, 0, 0), none, some (.invokevirtual 123, 13, 170, 1, 10), none, none, some (.ireturn, 14, 0, 0, 0), some (.aload_n 0, 15, 0, 0, 0), some (.dup, 16, 0, 0, 0), some (.getfield 107, 19, 10, 10, 0), none, none, some (.iconst 1, 20, 0, 0, 0), some (.isub, 21, 0, 0, 0), some (.putfield 107, 24, 10, 10, 0), none, none, some (.iconst 0, 25, 0, 0, 0), some (.istore_n 1, 26, 0, 0, 0), some (.iload_n 1, 27, 0, 0, 0), some (.bipush 8, 29, 0, 0, 0), none, some (.if_icmp .ge 48, 32, 77, 0, 0), none, none, some (.aload_n 0, 33, 0, 0, 0), some (.getfield 9, 36, 10, 0, 1), none, none, some (.iload_n 1, 37, 0, 0, 0), some (.aload_n 0, 38, 0, 0, 0), some (.getfield 9, 41, 10, 0, 1), none, none, some (.iload_n 1, 42, 0, 0, 0), some (.iaload, 43, 0, 0, 0), some (.iconst 2, 44, 0, 0, 0), some (.if_icmp .ne 20, 47, 64, 0, 0), none, none, some (.aload_n 0, 48, 0, 0, 0), some (.getfield 28, 51, 10, 5, 1), none, none, some (.iload_n 1, 52, 0, 0, 0), some (.iaload, 53, 0, 0, 0), some (.aload_n 0, 54, 0, 0, 0), some (.getfield 107, 57, 10, 10, 0), none, none, some (.if_icmp .ne 7, 60, 64, 0, 0), none, none, some (.iconst 0, 61, 0, 0, 0), some (.goto 9, 64, 70, 0, 0), none, none]

set_option maxRecDepth 20000 in
noncomputable def jt_234_1 : List (Option jm_I) := [some (.aload_n 0, 65, 0, 0, 0), some (.getfield 9, 68, 10, 0, 1), none, none, some (.iload_n 1, 69, 0, 0, 0), some (.iaload, 70, 0, 0, 0), some (.iastore, 71, 0, 0, 0), some (.iinc 1 1, 74, 0, 0, 0), none, none, some (.goto (-48), 77, 26, 0, 0), none, none, some (.aload_n 0, 78, 0, 0, 0), some (.getfield 107, 81, 10, 10, 0), none, none, some (.ireturn, 82, 0, 0, 0)]

noncomputable def jt_234 : List (List (Option jm_I)) := [jt_234_0, jt_234_1]

set_option maxRecDepth 20000 in
noncomputable def jt_235_0 : List (Option jm_I) := [some (.aload_n 0, 1, 0, 0, 0), some (.iload_n 1, 2, 0, 0, 0), some (.invokevirtual 134, 5, 178, 1, 10), none, none, some (.ifCond .eq 15, 8, 20, 0, 0), none, none, some (.iload_n 2, 9, 0, 0, 0), some (.i2l, 10, 0, 0, 0), some (.lconst 0, 11, 0, 0, 0), some (.ldc2_w 117, 14, 0, 0, 7), none, none, some (.invokestatic 110, 17, 169, 2, 0), none, none, some (.ifCond .ne 10, 20, 27, 0, 0), none, none, some (.aload_n 0, 21, 0, 0, 0), some (.bipush (-2), 23, 0, 0, 0), none, some (.invokevirtual 123, 26, 170, 1, 10), none, none, some (.ireturn, 27, 0, 0, 0), some (.aload_n 0, 28, 0, 0, 0), some (.getfield 50, 31, 10, 15, 1), none, none, some (.iload_n 1, 32, 0, 0, 0), some (.iaload, 33, 0, 0, 0), some (.istore_n 3, 34, 0, 0, 0), some (.aload_n 0, 35, 0, 0, 0), some (.invokevirtual 312, 38, 236, 1, 10), none, none, some (.iload_n 2, 39, 0, 0, 0), some (.tableswitch 161 0 6 #[41, 43, 43, 43, 68, 127, 154], 80, 0, 0, 0), none, none, none, none, none, none, none, none, none, none, none, none, none, none, none, none, none, none, none, none, none, none, none, none]

set_option maxRecDepth 20000 in
noncomputable def jt_235_1 : List (Option jm_I) := [none, none, none, none, none, none, none, none, none, none, none, none, none, none, none, none, some (.iload_n 3, 81, 0, 0, 0), some (.ireturn, 82, 0, 0, 0), some (.iload_n 2, 83, 0, 0, 0), some (.iload_n 3, 84, 0, 0, 0), some (.invokestatic 309, 87, 238, 2, 0), none, none, some (.if_icmp .gt 18, 90, 105, 0, 0), none, none, some (.aload_n 0, 91, 0, 0, 0), some (.getfield 53, 94, 10, 16, 1), none, none, some (.iconst 4, 95, 0, 0, 0), some (.iload_n 1, 96, 0, 0, 0), some (.imul, 97, 0, 0, 0), some (.iload_n 2, 98, 0, 0, 0), some (.iadd, 99, 0, 0, 0), some (.iconst 1, 100, 0, 0, 0), some (.isub, 101, 0, 0, 0), some (.iaload, 102, 0, 0, 0), some (.goto 4, 105, 106, 0, 0), none, none, some (.iconst (-1), 106, 0, 0, 0), some (.ireturn, 107, 0, 0, 0), some (.iload_n 3, 108, 0, 0, 0), some (.bipush 11, 110, 0, 0, 0), none, some (.if_icmp .ne 16, 113, 126, 0, 0), none, none, some (.aload_n 0, 114, 0, 0, 0), some (.getfield 53, 117, 10, 16, 1), none, none, some (.iconst 4, 118, 0, 0, 0), some (.iload_n 1, 119, 0, 0, 0), some (.imul, 120, 0, 0, 0), some (.iconst 3, 121, 0, 0, 0), some (.iadd, 122, 0, 0, 0), some (.iaload, 123, 0, 0, 0), some (.goto 42, 126, 165, 0, 0), none, none, some (.iload_n 3, 127, 0, 0, 0), some (.bipush 10, 129, 0, 0, 0)]

set_option maxRecDepth 20000 in
noncomputable def jt_235_2 : List (Option jm_I) := [none, some (.if_icmp .ne 16, 132, 145, 0, 0), none, none, some (.aload_n 0, 133, 0, 0, 0), some (.getfield 53, 136, 10, 16, 1), none, none, some (.iconst 4, 137, 0, 0, 0), some (.iload_n 1, 138, 0, 0, 0), some (.imul, 139, 0, 0, 0), some (.iconst 1, 140, 0, 0, 0), some (.iadd, 141, 0, 0, 0), some (.iaload, 142, 0, 0, 0), some (.goto 23, 145, 165, 0, 0), none, none, some (.iload_n 3, 146, 0, 0, 0), some (.invokestatic 309, 149, 238, 2, 0), none, none, some (.iconst 2, 150, 0, 0, 0), some (.if_icmp .ne 7, 153, 157, 0, 0), none, none, some (.iconst (-1), 154, 0, 0, 0), some (.goto 11, 157, 165, 0, 0), none, none, some (.aload_n 0, 158, 0, 0, 0), some (.getfield 53, 161, 10, 16, 1), none, none, some (.iconst 4, 162, 0, 0, 0), some (.iload_n 1, 163, 0, 0, 0), some (.imul, 164, 0, 0, 0), some (.iaload, 165, 0, 0, 0), some (.ireturn, 166, 0, 0, 0), some (.aload_n 0, 167, 0, 0, 0), some (.getfield 86, 170, 10, 32, 1), none, none, some (.iload_n 1, 171, 0, 0, 0), some (.laload, 172, 0, 0, 0), some (.ldc2_w 315, 175, 0, 0, 1000000), none, none, some (.lcmp, 176, 0, 0, 0), some (.ifCond .le 9, 179, 185, 0, 0), none, none, some (.ldc_w 317, 182, 0, 0, 1000000), none, none, some (.goto 10, 185, 192, 0, 0), none, none, some (.aload_n 0, 186, 0, 0, 0), some (.getfield 86, 189, 10, 32, 1), none, none, some (.iload_n 1, 190, 0, 0, 0), some (.laload, 191, 0, 0, 0), some (.l2i, 192, 0, 0, 0)]

set_option maxRecDepth 20000 in
noncomputable def jt_235_3 : List (Option jm_I) := [some (.ireturn, 193, 0, 0, 0), some (.aload_n 0, 194, 0, 0, 0), some (.getfield 89, 197, 10, 33, 1), none, none, some (.iload_n 1, 198, 0, 0, 0), some (.iaload, 199, 0, 0, 0), some (.ireturn, 200, 0, 0, 0), some (.aload_n 0, 201, 0, 0, 0), some (.getfield 92, 204, 10, 34, 1), none, none, some (.iload_n 1, 205, 0, 0, 0), some (.iaload, 206, 0, 0, 0), some (.ireturn, 207, 0, 0, 0)]

noncomputable def jt_235 : List (List (Option jm_I)) := [jt_235_0, jt_235_1, jt_235_2, jt_235_3]

set_option maxRecDepth 20000 in
noncomputable def jt_236_0 : List (Option jm_I) := [some (.iconst 0, 1, 0, 0, 0), some (.istore_n 1, 2, 0, 0, 0), some (.iload_n 1, 3, 0, 0, 0), some (.aload_n 0, 4, 0, 0, 0), some (.getfield 107, 7, 10, 10, 0), none, none, some (.if_icmp .ge 159, 10, 166, 0, 0), none, none, some (.aload_n 0, 11, 0, 0, 0), some (.getfield 86, 14, 10, 32, 1), none, none, some (.iload_n 1, 15, 0, 0, 0), some (.lconst 1, 16, 0, 0, 0), some (.lastore, 17, 0, 0, 0), some (.aload_n 0, 18, 0, 0, 0), some (.getfield 89, 21, 10, 33, 1), none, none, some (.iload_n 1, 22, 0, 0, 0), some (.iconst 0, 23, 0, 0, 0), some (.iastore, 24, 0, 0, 0), some (.aload_n 0, 25, 0, 0, 0), some (.getfield 92, 28, 10, 34, 1), none, none, some (.iload_n 1, 29, 0, 0, 0), some (.aload_n 0, 30, 0, 0, 0), some (.getfield 50, 33, 10, 15, 1), none, none, some (.iload_n 1, 34, 0, 0, 0), some (.iaload, 35, 0, 0, 0), some (.ifCond .eq 13, 38, 48, 0, 0), none, none, some (.aload_n 0, 39, 0, 0, 0), some (.getfield 50, 42, 10, 15, 1), none, none, some (.iload_n 1, 43, 0, 0, 0), some (.iaload, 44, 0, 0, 0), some (.iconst 1, 45, 0, 0, 0), some (.if_icmp .ne 11, 48, 56, 0, 0), none, none, some (.aload_n 0, 49, 0, 0, 0), some (.iload_n 1, 50, 0, 0, 0), some (.invokevirtual 306, 53, 237, 1, 10), none, none, some (.goto 4, 56, 57, 0, 0), none, none, some (.iconst 0, 57, 0, 0, 0), some (.iastore, 58, 0, 0, 0), some (.iconst 0, 59, 0, 0, 0), some (.istore_n 2, 60, 0, 0, 0), some (.iload_n 2, 61, 0, 0, 0), some (.aload_n 0, 62, 0, 0, 0), some (.getfield 50, 65, 10, 15, 1), none]

set_option maxRecDepth 20000 in
noncomputable def jt_236_1 : List (Option jm_I) := [none, some (.iload_n 1, 66, 0, 0, 0), some (.iaload, 67, 0, 0, 0), some (.invokestatic 309, 70, 238, 2, 0), none, none, some (.if_icmp .ge 90, 73, 160, 0, 0), none, none, some (.aload_n 0, 74, 0, 0, 0), some (.getfield 53, 77, 10, 16, 1), none, none, some (.iconst 4, 78, 0, 0, 0), some (.iload_n 1, 79, 0, 0, 0), some (.imul, 80, 0, 0, 0), some (.iload_n 2, 81, 0, 0, 0), some (.iadd, 82, 0, 0, 0), some (.iaload, 83, 0, 0, 0), some (.istore_n 3, 84, 0, 0, 0), some (.aload_n 0, 85, 0, 0, 0), some (.getfield 86, 88, 10, 32, 1), none, none, some (.iload_n 1, 89, 0, 0, 0), some (.dup2, 90, 0, 0, 0), some (.laload, 91, 0, 0, 0), some (.aload_n 0, 92, 0, 0, 0), some (.getfield 86, 95, 10, 32, 1), none, none, some (.iload_n 3, 96, 0, 0, 0), some (.laload, 97, 0, 0, 0), some (.ladd, 98, 0, 0, 0), some (.lastore, 99, 0, 0, 0), some (.aload_n 0, 100, 0, 0, 0), some (.getfield 89, 103, 10, 33, 1), none, none, some (.iload_n 1, 104, 0, 0, 0), some (.aload_n 0, 105, 0, 0, 0), some (.getfield 89, 108, 10, 33, 1), none, none, some (.iload_n 3, 109, 0, 0, 0), some (.iaload, 110, 0, 0, 0), some (.iconst 1, 111, 0, 0, 0), some (.iadd, 112, 0, 0, 0), some (.aload_n 0, 113, 0, 0, 0), some (.getfield 89, 116, 10, 33, 1), none, none, some (.iload_n 1, 117, 0, 0, 0), some (.iaload, 118, 0, 0, 0), some (.if_icmp .le 14, 121, 132, 0, 0), none, none, some (.aload_n 0, 122, 0, 0, 0), some (.getfield 89, 125, 10, 33, 1), none, none, some (.iload_n 3, 126, 0, 0, 0), some (.iaload, 127, 0, 0, 0), some (.iconst 1, 128, 0, 0, 0)]

set_option maxRecDepth 20000 in
noncomputable def jt_236_2 : List (Option jm_I) := [some (.iadd, 129, 0, 0, 0), some (.goto 9, 132, 138, 0, 0), none, none, some (.aload_n 0, 133, 0, 0, 0), some (.getfield 89, 136, 10, 33, 1), none, none, some (.iload_n 1, 137, 0, 0, 0), some (.iaload, 138, 0, 0, 0), some (.iastore, 139, 0, 0, 0), some (.aload_n 0, 140, 0, 0, 0), some (.getfield 92, 143, 10, 34, 1), none, none, some (.iload_n 1, 144, 0, 0, 0), some (.dup2, 145, 0, 0, 0), some (.iaload, 146, 0, 0, 0), some (.aload_n 0, 147, 0, 0, 0), some (.getfield 92, 150, 10, 34, 1), none, none, some (.iload_n 3, 151, 0, 0, 0), some (.iaload, 152, 0, 0, 0), some (.ior, 153, 0, 0, 0), some (.iastore, 154, 0, 0, 0), some (.iinc 2 1, 157, 0, 0, 0), none, none, some (.goto (-97), 160, 60, 0, 0), none, none, some (.iinc 1 1, 163, 0, 0, 0), none, none, some (.goto (-161), 166, 2, 0, 0), none, none, some (.return_, 167, 0, 0, 0)]

noncomputable def jt_236 : List (List (Option jm_I)) := [jt_236_0, jt_236_1, jt_236_2]

set_option maxRecDepth 20000 in
noncomputable def jt_237_0 : List (Option jm_I) := [some (.iconst 0, 1, 0, 0, 0), some (.istore_n 2, 2, 0, 0, 0), some (.iconst 0, 3, 0, 0, 0), some (.istore_n 3, 4, 0, 0, 0), some (.iload_n 3, 5, 0, 0, 0), some (.iconst 4, 6, 0, 0, 0), some (.if_icmp .ge 42, 9, 48, 0, 0), none, none, some (.iload_n 2, 10, 0, 0, 0), some (.aload_n 0, 11, 0, 0, 0), some (.getfield 53, 14, 10, 16, 1), none, none, some (.iconst 4, 15, 0, 0, 0), some (.iload_n 1, 16, 0, 0, 0), some (.imul, 17, 0, 0, 0), some (.iload_n 3, 18, 0, 0, 0), some (.iadd, 19, 0, 0, 0), some (.iaload, 20, 0, 0, 0), some (.iconst (-1), 21, 0, 0, 0), some (.if_icmp .ne 7, 24, 28, 0, 0), none, none, some (.iconst 0, 25, 0, 0, 0), some (.goto 15, 28, 40, 0, 0), none, none, some (.iconst 1, 29, 0, 0, 0), some (.aload_n 0, 30, 0, 0, 0), some (.getfield 53, 33, 10, 16, 1), none, none, some (.iconst 4, 34, 0, 0, 0), some (.iload_n 1, 35, 0, 0, 0), some (.imul, 36, 0, 0, 0), some (.iload_n 3, 37, 0, 0, 0), some (.iadd, 38, 0, 0, 0), some (.iaload, 39, 0, 0, 0), some (.ishl, 40, 0, 0, 0), some (.ior, 41, 0, 0, 0), some (.istore_n 2, 42, 0, 0, 0), some (.iinc 3 1, 45, 0, 0, 0), none, none, some (.goto (-41), 48, 4, 0, 0), none, none, some (.iload_n 2, 49, 0, 0, 0), some (.ireturn, 50, 0, 0, 0)]

noncomputable def jt_237 : List (List (Option jm_I)) := [jt_237_0]

set_option maxRecDepth 20000 in
noncomputable def jt_238_0 : List (Option jm_I) := [some (.iload_n 0, 1, 0, 0, 0), some (.bipush 11, 3, 0, 0, 0), none, some (.if_icmp .ne 7, 6, 10, 0, 0), none, none, some (.iconst 3, 7, 0, 0, 0), some (.goto 29, 10, 36, 0, 0), none, none, some (.iload_n 0, 11, 0, 0, 0), some (.bipush 10, 13, 0, 0, 0), none, some (.if_icmp .ne 7, 16, 20, 0, 0), none, none, some (.iconst 1, 17, 0, 0, 0), some (.goto 19, 20, 36, 0, 0), none, none, some (.iload_n 0, 21, 0, 0, 0), some (.iconst 2, 22, 0, 0, 0), some (.if_icmp .lt 13, 25, 35, 0, 0), none, none, some (.iload_n 0, 26, 0, 0, 0), some (.bipush 8, 28, 0, 0, 0), none, some (.if_icmp .gt 7, 31, 35, 0, 0), none, none, some (.iconst 2, 32, 0, 0, 0), some (.goto 4, 35, 36, 0, 0), none, none, some (.iconst 0, 36, 0, 0, 0), some (.ireturn, 37, 0, 0, 0)]

noncomputable def jt_238 : List (List (Option jm_I)) := [jt_238_0]

set_option maxRecDepth 20000 in
noncomputable def jt_239_0 : List (Option jm_I) := [some (.aload_n 0, 1, 0, 0, 0), some (.iload_n 1, 2, 0, 0, 0), some (.invokevirtual 219, 5, 204, 1, 10), none, none, some (.ifCond .eq 15, 8, 20, 0, 0), none, none, some (.iload_n 2, 9, 0, 0, 0), some (.i2l, 10, 0, 0, 0), some (.lconst 0, 11, 0, 0, 0), some (.ldc2_w 119, 14, 0, 0, 4), none, none, some (.invokestatic 110, 17, 169, 2, 0), none, none, some (.ifCond .ne 10, 20, 27, 0, 0), none, none, some (.aload_n 0, 21, 0, 0, 0), some (.bipush (-2), 23, 0, 0, 0), none, some (.invokevirtual 123, 26, 170, 1, 10), none, none, some (.ireturn, 27, 0, 0, 0), some (.iload_n 2, 28, 0, 0, 0), some (.tableswitch 60 0 3 #[32, 39, 46, 53], 60, 0, 0, 0), none, none, none, none, none, none, none, none, none, none, none, none, none, none, none, none, none, none, none, none, none, none, none, none, none, none, none, none, none, none, none, some (.aload_n 0, 61, 0, 0, 0), some (.getfield 41, 64, 10, 12, 1), none, none]

set_option maxRecDepth 20000 in
noncomputable def jt_239_1 : List (Option jm_I) := [some (.iload_n 1, 65, 0, 0, 0), some (.iaload, 66, 0, 0, 0), some (.ireturn, 67, 0, 0, 0), some (.aload_n 0, 68, 0, 0, 0), some (.getfield 44, 71, 10, 13, 1), none, none, some (.iload_n 1, 72, 0, 0, 0), some (.iaload, 73, 0, 0, 0), some (.ireturn, 74, 0, 0, 0), some (.aload_n 0, 75, 0, 0, 0), some (.iload_n 1, 76, 0, 0, 0), some (.iconst 1, 77, 0, 0, 0), some (.invokevirtual 318, 80, 240, 1, 10), none, none, some (.ireturn, 81, 0, 0, 0), some (.aload_n 0, 82, 0, 0, 0), some (.iload_n 1, 83, 0, 0, 0), some (.iconst 2, 84, 0, 0, 0), some (.invokevirtual 318, 87, 240, 1, 10), none, none, some (.ireturn, 88, 0, 0, 0), some (.iconst 1, 89, 0, 0, 0), some (.aload_n 0, 90, 0, 0, 0), some (.getfield 41, 93, 10, 12, 1), none, none, some (.iload_n 1, 94, 0, 0, 0), some (.iaload, 95, 0, 0, 0), some (.ishl, 96, 0, 0, 0), some (.aload_n 0, 97, 0, 0, 0), some (.getfield 47, 100, 10, 14, 1), none, none, some (.aload_n 0, 101, 0, 0, 0), some (.getfield 41, 104, 10, 12, 1), none, none, some (.iload_n 1, 105, 0, 0, 0), some (.iaload, 106, 0, 0, 0), some (.iaload, 107, 0, 0, 0), some (.ior, 108, 0, 0, 0), some (.ireturn, 109, 0, 0, 0)]

noncomputable def jt_239 : List (List (Option jm_I)) := [jt_239_0, jt_239_1]

set_option maxRecDepth 20000 in
noncomputable def jt_240_0 : List (Option jm_I) := [some (.iconst 0, 1, 0, 0, 0), some (.istore_n 3, 2, 0, 0, 0), some (.iconst 0, 3, 0, 0, 0), some (.istore 4, 5, 0, 0, 0), none, some (.iload 4, 7, 0, 0, 0), none, some (.iload_n 1, 8, 0, 0, 0), some (.if_icmp .ge 28, 11, 36, 0, 0), none, none, some (.iload_n 3, 12, 0, 0, 0), some (.aload_n 0, 13, 0, 0, 0), some (.getfield 44, 16, 10, 13, 1), none, none, some (.iload 4, 18, 0, 0, 0), none, some (.iaload, 19, 0, 0, 0), some (.iload_n 2, 20, 0, 0, 0), some (.if_icmp .lt 7, 23, 27, 0, 0), none, none, some (.iconst 1, 24, 0, 0, 0), some (.goto 4, 27, 28, 0, 0), none, none, some (.iconst 0, 28, 0, 0, 0), some (.iadd, 29, 0, 0, 0), some (.istore_n 3, 30, 0, 0, 0), some (.iinc 4 1, 33, 0, 0, 0), none, none, some (.goto (-28), 36, 5, 0, 0), none, none, some (.iload_n 3, 37, 0, 0, 0), some (.ireturn, 38, 0, 0, 0)]

noncomputable def jt_240 : List (List (Option jm_I)) := [jt_240_0]

set_option maxRecDepth 20000 in
noncomputable def jt_241_0 : List (Option jm_I) := [some (.aload_n 0, 1, 0, 0, 0), some (.iload_n 1, 2, 0, 0, 0), some (.invokevirtual 134, 5, 178, 1, 10), none, none, some (.ifCond .ne 10, 8, 15, 0, 0), none, none, some (.aload_n 0, 9, 0, 0, 0), some (.bipush (-2), 11, 0, 0, 0), none, some (.invokevirtual 123, 14, 170, 1, 10), none, none, some (.ireturn, 15, 0, 0, 0), some (.aload_n 0, 16, 0, 0, 0), some (.invokevirtual 144, 19, 181, 1, 10), none, none, some (.aload_n 0, 20, 0, 0, 0), some (.getfield 74, 23, 10, 28, 1), none, none, some (.iload_n 1, 24, 0, 0, 0), some (.iaload, 25, 0, 0, 0), some (.ireturn, 26, 0, 0, 0)]

noncomputable def jt_241 : List (List (Option jm_I)) := [jt_241_0]

set_option maxRecDepth 20000 in
noncomputable def jt_242_0 : List (Option jm_I) := [some (.aload_n 0, 1, 0, 0, 0), some (.iload_n 1, 2, 0, 0, 0), some (.invokevirtual 134, 5, 178, 1, 10), none, none, some (.ifCond .eq 7, 8, 12, 0, 0), none, none, some (.aload_n 0, 9, 0, 0, 0), some (.invokevirtual 144, 12, 181, 1, 10), none, none, some (.aload_n 0, 13, 0, 0, 0), some (.iload_n 1, 14, 0, 0, 0), some (.invokevirtual 134, 17, 178, 1, 10), none, none, some (.ifCond .eq 30, 20, 47, 0, 0), none, none, some (.iload_n 2, 21, 0, 0, 0), some (.i2l, 22, 0, 0, 0), some (.lconst 0, 23, 0, 0, 0), some (.aload_n 0, 24, 0, 0, 0), some (.getfield 74, 27, 10, 28, 1), none, none, some (.iload_n 1, 28, 0, 0, 0), some (.iaload, 29, 0, 0, 0), some (.iconst 1, 30, 0, 0, 0), some (.isub, 31, 0, 0, 0), some (.i2l, 32, 0, 0, 0), some (.invokestatic 110, 35, 169, 2, 0), none, none, some (.ifCond .eq 12, 38, 47, 0, 0), none, none, some (.aload_n 0, 39, 0, 0, 0), some (.iload_n 1, 40, 0, 0, 0), some (.iload_n 2, 41, 0, 0, 0), some (.invokevirtual 321, 44, 243, 1, 10), none, none, some (.goto 9, 47, 53, 0, 0), none, none, some (.aload_n 0, 48, 0, 0, 0), some (.bipush (-2), 50, 0, 0, 0), none, some (.invokevirtual 123, 53, 170, 1, 10), none, none, some (.ireturn, 54, 0, 0, 0)]

noncomputable def jt_242 : List (List (Option jm_I)) := [jt_242_0]

set_option maxRecDepth 20000 in
noncomputable def jt_243_0 : List (Option jm_I) := [some (.bipush 100, 2, 0, 0, 0), none, some (.aload_n 0, 3, 0, 0, 0), some (.iload_n 1, 4, 0, 0, 0), some (.iload_n 2, 5, 0, 0, 0), some (.invokevirtual 147, 8, 192, 1, 10), none, none, some (.imul, 9, 0, 0, 0), some (.aload_n 0, 10, 0, 0, 0), some (.iload_n 1, 11, 0, 0, 0), some (.iload_n 2, 12, 0, 0, 0), some (.invokevirtual 151, 15, 191, 1, 10), none, none, some (.iadd, 16, 0, 0, 0), some (.ireturn, 17, 0, 0, 0)]

noncomputable def jt_243 : List (List (Option jm_I)) := [jt_243_0]

set_option maxRecDepth 20000 in
noncomputable def jt_244_0 : List (Option jm_I) := [some (.aload_n 0, 1, 0, 0, 0), some (.iload_n 1, 2, 0, 0, 0), some (.invokevirtual 134, 5, 178, 1, 10), none, none, some (.ifCond .eq 15, 8, 20, 0, 0), none, none, some (.iload_n 3, 9, 0, 0, 0), some (.i2l, 10, 0, 0, 0), some (.lconst 0, 11, 0, 0, 0), some (.ldc2_w 304, 14, 0, 0, 3), none, none, some (.invokestatic 110, 17, 169, 2, 0), none, none, some (.ifCond .ne 10, 20, 27, 0, 0), none, none, some (.aload_n 0, 21, 0, 0, 0), some (.bipush (-2), 23, 0, 0, 0), none, some (.invokevirtual 123, 26, 170, 1, 10), none, none, some (.ireturn, 27, 0, 0, 0), some (.aload_n 0, 28, 0, 0, 0), some (.invokevirtual 144, 31, 181, 1, 10), none, none, some (.iconst (-1), 32, 0, 0, 0), some (.istore 4, 34, 0, 0, 0), none, some (.iconst 0, 35, 0, 0, 0), some (.istore 5, 37, 0, 0, 0), none, some (.iload 5, 39, 0, 0, 0), none, some (.aload_n 0, 40, 0, 0, 0), some (.getfield 74, 43, 10, 28, 1), none, none, some (.iload_n 1, 44, 0, 0, 0), some (.iaload, 45, 0, 0, 0), some (.if_icmp .ge 94, 48, 139, 0, 0), none, none, some (.iload_n 3, 49, 0, 0, 0), some (.ifCond .eq 8, 52, 57, 0, 0), none, none, some (.iload_n 3, 53, 0, 0, 0), some (.iconst 3, 54, 0, 0, 0), some (.if_icmp .ne 13, 57, 67, 0, 0), none, none, some (.aload_n 0, 58, 0, 0, 0), some (.iload_n 1, 59, 0, 0, 0), some (.iload 5, 61, 0, 0, 0), none, some (.invokevirtual 147, 64, 192, 1, 10), none, none]

set_option maxRecDepth 20000 in
noncomputable def jt_244_1 : List (Option jm_I) := [some (.goto 10, 67, 74, 0, 0), none, none, some (.aload_n 0, 68, 0, 0, 0), some (.iload_n 1, 69, 0, 0, 0), some (.iload 5, 71, 0, 0, 0), none, some (.invokevirtual 151, 74, 191, 1, 10), none, none, some (.istore 6, 76, 0, 0, 0), none, some (.iload_n 3, 77, 0, 0, 0), some (.iconst 2, 78, 0, 0, 0), some (.if_icmp .ge 17, 81, 95, 0, 0), none, none, some (.iload 6, 83, 0, 0, 0), none, some (.iload_n 2, 84, 0, 0, 0), some (.if_icmp .lt 7, 87, 91, 0, 0), none, none, some (.iconst 1, 88, 0, 0, 0), some (.goto 18, 91, 106, 0, 0), none, none, some (.iconst 0, 92, 0, 0, 0), some (.goto 14, 95, 106, 0, 0), none, none, some (.iload 6, 97, 0, 0, 0), none, some (.iload_n 2, 98, 0, 0, 0), some (.if_icmp .gt 7, 101, 105, 0, 0), none, none, some (.iconst 1, 102, 0, 0, 0), some (.goto 4, 105, 106, 0, 0), none, none, some (.iconst 0, 106, 0, 0, 0), some (.istore 7, 108, 0, 0, 0), none, some (.iload 7, 110, 0, 0, 0), none, some (.ifCond .eq 19, 113, 129, 0, 0), none, none, some (.iload_n 3, 114, 0, 0, 0), some (.iconst 2, 115, 0, 0, 0), some (.if_icmp .ge 9, 118, 124, 0, 0), none, none, some (.iload 4, 120, 0, 0, 0), none, some (.iconst (-1), 121, 0, 0, 0), some (.if_icmp .ne 8, 124, 129, 0, 0), none, none, some (.iload 5, 126, 0, 0, 0), none, some (.goto 5, 129, 131, 0, 0), none]

set_option maxRecDepth 20000 in
noncomputable def jt_244_2 : List (Option jm_I) := [none, some (.iload 4, 131, 0, 0, 0), none, some (.istore 4, 133, 0, 0, 0), none, some (.iinc 5 1, 136, 0, 0, 0), none, none, some (.goto (-99), 139, 37, 0, 0), none, none, some (.iload 4, 141, 0, 0, 0), none, some (.ireturn, 142, 0, 0, 0)]

noncomputable def jt_244 : List (List (Option jm_I)) := [jt_244_0, jt_244_1, jt_244_2]

set_option maxRecDepth 20000 in
noncomputable def jt_245_0 : List (Option jm_I) := [some (.aload_n 0, 1, 0, 0, 0), some (.iload_n 1, 2, 0, 0, 0), some (.invokevirtual 134, 5, 178, 1, 10), none, none, some (.ifCond .eq 11, 8, 16, 0, 0), none, none, some (.aload_n 0, 9, 0, 0, 0), some (.iload_n 2, 10, 0, 0, 0), some (.invokevirtual 219, 13, 204, 1, 10), none, none, some (.ifCond .ne 10, 16, 23, 0, 0), none, none, some (.aload_n 0, 17, 0, 0, 0), some (.bipush (-2), 19, 0, 0, 0), none, some (.invokevirtual 123, 22, 170, 1, 10), none, none, some (.ireturn, 23, 0, 0, 0), some (.aload_n 0, 24, 0, 0, 0), some (.invokevirtual 144, 27, 181, 1, 10), none, none, some (.aload_n 0, 28, 0, 0, 0), some (.iload_n 1, 29, 0, 0, 0), some (.iload_n 2, 30, 0, 0, 0), some (.invokevirtual 324, 33, 246, 1, 10), none, none, some (.ireturn, 34, 0, 0, 0)]

noncomputable def jt_245 : List (List (Option jm_I)) := [jt_245_0]

set_option maxRecDepth 20000 in
noncomputable def jt_246_0 : List (Option jm_I) := [some (.iconst 0, 1, 0, 0, 0), some (.istore_n 3, 2, 0, 0, 0), some (.iconst 0, 3, 0, 0, 0), some (.istore 4, 5, 0, 0, 0), none, some (.iload 4, 7, 0, 0, 0), none, some (.aload_n 0, 8, 0, 0, 0), some (.getfield 74, 11, 10, 28, 1), none, none, some (.iload_n 1, 12, 0, 0, 0), some (.iaload, 13, 0, 0, 0), some (.if_icmp .ge 39, 16, 52, 0, 0), none, none, some (.iload_n 3, 17, 0, 0, 0), some (.aload_n 0, 18, 0, 0, 0), some (.iload_n 1, 19, 0, 0, 0), some (.iload 4, 21, 0, 0, 0), none, some (.invokevirtual 147, 24, 192, 1, 10), none, none, some (.iload_n 2, 25, 0, 0, 0), some (.if_icmp .gt 18, 28, 43, 0, 0), none, none, some (.iload_n 2, 29, 0, 0, 0), some (.aload_n 0, 30, 0, 0, 0), some (.iload_n 1, 31, 0, 0, 0), some (.iload 4, 33, 0, 0, 0), none, some (.invokevirtual 151, 36, 191, 1, 10), none, none, some (.if_icmp .gt 7, 39, 43, 0, 0), none, none, some (.iconst 1, 40, 0, 0, 0), some (.goto 4, 43, 44, 0, 0), none, none, some (.iconst 0, 44, 0, 0, 0), some (.iadd, 45, 0, 0, 0), some (.istore_n 3, 46, 0, 0, 0), some (.iinc 4 1, 49, 0, 0, 0), none, none, some (.goto (-44), 52, 5, 0, 0), none, none, some (.iload_n 3, 53, 0, 0, 0), some (.ireturn, 54, 0, 0, 0)]

noncomputable def jt_246 : List (List (Option jm_I)) := [jt_246_0]

set_option maxRecDepth 20000 in
noncomputable def jt_247_0 : List (Option jm_I) := [some (.aload_n 0, 1, 0, 0, 0), some (.iload_n 1, 2, 0, 0, 0), some (.invokevirtual 134, 5, 178, 1, 10), none, none, some (.ifCond .ne 10, 8, 15, 0, 0), none, none, some (.aload_n 0, 9, 0, 0, 0), some (.bipush (-2), 11, 0, 0, 0), none, some (.invokevirtual 123, 14, 170, 1, 10), none, none, some (.ireturn, 15, 0, 0, 0), some (.aload_n 0, 16, 0, 0, 0), some (.invokevirtual 144, 19, 181, 1, 10), none, none, some (.iconst (-1), 20, 0, 0, 0), some (.istore_n 2, 21, 0, 0, 0), some (.iconst 0, 22, 0, 0, 0), some (.istore_n 3, 23, 0, 0, 0), some (.iload_n 3, 24, 0, 0, 0), some (.aload_n 0, 25, 0, 0, 0), some (.getfield 114, 28, 10, 9, 0), none, none, some (.if_icmp .ge 43, 31, 71, 0, 0), none, none, some (.aload_n 0, 32, 0, 0, 0), some (.iload_n 1, 33, 0, 0, 0), some (.iload_n 3, 34, 0, 0, 0), some (.invokevirtual 324, 37, 246, 1, 10), none, none, some (.istore 4, 39, 0, 0, 0), none, some (.iload 4, 41, 0, 0, 0), none, some (.iload_n 2, 42, 0, 0, 0), some (.iconst (-1), 43, 0, 0, 0), some (.if_icmp .ne 7, 46, 50, 0, 0), none, none, some (.iconst 0, 47, 0, 0, 0), some (.goto 9, 50, 56, 0, 0), none, none, some (.aload_n 0, 51, 0, 0, 0), some (.iload_n 1, 52, 0, 0, 0), some (.iload_n 2, 53, 0, 0, 0), some (.invokevirtual 324, 56, 246, 1, 10), none, none, some (.if_icmp .le 7, 59, 63, 0, 0), none, none, some (.iload_n 3, 60, 0, 0, 0), some (.goto 4, 63, 64, 0, 0), none, none, some (.iload_n 2, 64, 0, 0, 0)]

set_option maxRecDepth 20000 in
noncomputable def jt_247_1 : List (Option jm_I) := [some (.istore_n 2, 65, 0, 0, 0), some (.iinc 3 1, 68, 0, 0, 0), none, none, some (.goto (-45), 71, 23, 0, 0), none, none, some (.iload_n 2, 72, 0, 0, 0), some (.ireturn, 73, 0, 0, 0)]

noncomputable def jt_247 : List (List (Option jm_I)) := [jt_247_0, jt_247_1]

set_option maxRecDepth 20000 in
noncomputable def jt_248_0 : List (Option jm_I) := [some (.aload_n 0, 1, 0, 0, 0), some (.iload_n 1, 2, 0, 0, 0), some (.invokevirtual 134, 5, 178, 1, 10), none, none, some (.ifCond .eq 15, 8, 20, 0, 0), none, none, some (.iload_n 2, 9, 0, 0, 0), some (.i2l, 10, 0, 0, 0), some (.lconst 0, 11, 0, 0, 0), some (.ldc2_w 217, 14, 0, 0, 2), none, none, some (.invokestatic 110, 17, 169, 2, 0), none, none, some (.ifCond .ne 10, 20, 27, 0, 0), none, none, some (.aload_n 0, 21, 0, 0, 0), some (.bipush (-2), 23, 0, 0, 0), none, some (.invokevirtual 123, 26, 170, 1, 10), none, none, some (.ireturn, 27, 0, 0, 0), some (.aload_n 0, 28, 0, 0, 0), some (.invokevirtual 144, 31, 181, 1, 10), none, none, some (.iconst 0, 32, 0, 0, 0), some (.istore_n 3, 33, 0, 0, 0), some (.iconst 0, 34, 0, 0, 0), some (.istore 4, 36, 0, 0, 0), none, some (.iconst 0, 37, 0, 0, 0), some (.istore 5, 39, 0, 0, 0), none, some (.iconst 0, 40, 0, 0, 0), some (.istore 6, 42, 0, 0, 0), none, some (.iload 6, 44, 0, 0, 0), none, some (.aload_n 0, 45, 0, 0, 0), some (.getfield 114, 48, 10, 9, 0), none, none, some (.if_icmp .ge 70, 51, 118, 0, 0), none, none, some (.aload_n 0, 52, 0, 0, 0), some (.iload_n 1, 53, 0, 0, 0), some (.iload 6, 55, 0, 0, 0), none, some (.invokevirtual 324, 58, 246, 1, 10), none, none, some (.ifCond .le 7, 61, 65, 0, 0), none, none, some (.iconst 1, 62, 0, 0, 0), some (.goto 4, 65, 66, 0, 0), none]

set_option maxRecDepth 20000 in
noncomputable def jt_248_1 : List (Option jm_I) := [none, some (.iconst 0, 66, 0, 0, 0), some (.istore 7, 68, 0, 0, 0), none, some (.iload_n 3, 69, 0, 0, 0), some (.iload 7, 71, 0, 0, 0), none, some (.ifCond .eq 7, 74, 78, 0, 0), none, none, some (.iconst 1, 75, 0, 0, 0), some (.goto 4, 78, 79, 0, 0), none, none, some (.iconst 0, 79, 0, 0, 0), some (.iadd, 80, 0, 0, 0), some (.istore_n 3, 81, 0, 0, 0), some (.iload 7, 83, 0, 0, 0), none, some (.ifCond .eq 7, 86, 90, 0, 0), none, none, some (.iconst 0, 87, 0, 0, 0), some (.goto 7, 90, 94, 0, 0), none, none, some (.iload 4, 92, 0, 0, 0), none, some (.iconst 1, 93, 0, 0, 0), some (.iadd, 94, 0, 0, 0), some (.istore 4, 96, 0, 0, 0), none, some (.iload 4, 98, 0, 0, 0), none, some (.iload 5, 100, 0, 0, 0), none, some (.if_icmp .le 8, 103, 108, 0, 0), none, none, some (.iload 4, 105, 0, 0, 0), none, some (.goto 5, 108, 110, 0, 0), none, none, some (.iload 5, 110, 0, 0, 0), none, some (.istore 5, 112, 0, 0, 0), none, some (.iinc 6 1, 115, 0, 0, 0), none, none, some (.goto (-73), 118, 42, 0, 0), none, none, some (.iload_n 2, 119, 0, 0, 0), some (.ifCond .ne 7, 122, 126, 0, 0), none, none, some (.iload_n 3, 123, 0, 0, 0), some (.goto 19, 126, 142, 0, 0), none, none, some (.iload_n 2, 127, 0, 0, 0), some (.iconst 1, 128, 0, 0, 0)]

set_option maxRecDepth 20000 in
noncomputable def jt_248_2 : List (Option jm_I) := [some (.if_icmp .ne 12, 131, 140, 0, 0), none, none, some (.aload_n 0, 132, 0, 0, 0), some (.getfield 114, 135, 10, 9, 0), none, none, some (.iload_n 3, 136, 0, 0, 0), some (.isub, 137, 0, 0, 0), some (.goto 5, 140, 142, 0, 0), none, none, some (.iload 5, 142, 0, 0, 0), none, some (.ireturn, 143, 0, 0, 0)]

noncomputable def jt_248 : List (List (Option jm_I)) := [jt_248_0, jt_248_1, jt_248_2]

set_option maxRecDepth 20000 in
noncomputable def jt_249_0 : List (Option jm_I) := [some (.aload_n 0, 1, 0, 0, 0), some (.iload_n 1, 2, 0, 0, 0), some (.invokevirtual 134, 5, 178, 1, 10), none, none, some (.ifCond .eq 15, 8, 20, 0, 0), none, none, some (.iload_n 2, 9, 0, 0, 0), some (.i2l, 10, 0, 0, 0), some (.lconst 0, 11, 0, 0, 0), some (.ldc2_w 217, 14, 0, 0, 2), none, none, some (.invokestatic 110, 17, 169, 2, 0), none, none, some (.ifCond .ne 10, 20, 27, 0, 0), none, none, some (.aload_n 0, 21, 0, 0, 0), some (.bipush (-2), 23, 0, 0, 0), none, some (.invokevirtual 123, 26, 170, 1, 10), none, none, some (.ireturn, 27, 0, 0, 0), some (.aload_n 0, 28, 0, 0, 0), some (.invokevirtual 144, 31, 181, 1, 10), none, none, some (.iconst 0, 32, 0, 0, 0), some (.istore_n 3, 33, 0, 0, 0), some (.iconst 0, 34, 0, 0, 0), some (.istore 4, 36, 0, 0, 0), none, some (.iload 4, 38, 0, 0, 0), none, some (.aload_n 0, 39, 0, 0, 0), some (.getfield 74, 42, 10, 28, 1), none, none, some (.iload_n 1, 43, 0, 0, 0), some (.iaload, 44, 0, 0, 0), some (.if_icmp .ge 61, 47, 105, 0, 0), none, none, some (.aload_n 0, 48, 0, 0, 0), some (.iload_n 1, 49, 0, 0, 0), some (.iload 4, 51, 0, 0, 0), none, some (.invokevirtual 327, 54, 250, 1, 10), none, none, some (.istore 5, 56, 0, 0, 0), none, some (.iload_n 2, 57, 0, 0, 0), some (.iconst 2, 58, 0, 0, 0), some (.if_icmp .ne 10, 61, 68, 0, 0), none, none, some (.iload_n 3, 62, 0, 0, 0), some (.iload 5, 64, 0, 0, 0), none]

set_option maxRecDepth 20000 in
noncomputable def jt_249_1 : List (Option jm_I) := [some (.iadd, 65, 0, 0, 0), some (.goto 33, 68, 98, 0, 0), none, none, some (.iload 4, 70, 0, 0, 0), none, some (.ifCond .eq 22, 73, 92, 0, 0), none, none, some (.iload_n 2, 74, 0, 0, 0), some (.ifCond .ne 12, 77, 86, 0, 0), none, none, some (.iload 5, 79, 0, 0, 0), none, some (.iload_n 3, 80, 0, 0, 0), some (.if_icmp .ge 17, 83, 97, 0, 0), none, none, some (.goto 9, 86, 92, 0, 0), none, none, some (.iload 5, 88, 0, 0, 0), none, some (.iload_n 3, 89, 0, 0, 0), some (.if_icmp .le 8, 92, 97, 0, 0), none, none, some (.iload 5, 94, 0, 0, 0), none, some (.goto 4, 97, 98, 0, 0), none, none, some (.iload_n 3, 98, 0, 0, 0), some (.istore_n 3, 99, 0, 0, 0), some (.iinc 4 1, 102, 0, 0, 0), none, none, some (.goto (-66), 105, 36, 0, 0), none, none, some (.iload_n 3, 106, 0, 0, 0), some (.ireturn, 107, 0, 0, 0)]

noncomputable def jt_249 : List (List (Option jm_I)) := [jt_249_0, jt_249_1]

set_option maxRecDepth 20000 in
noncomputable def jt_250_0 : List (Option jm_I) := [some (.aload_n 0, 1, 0, 0, 0), some (.iload_n 1, 2, 0, 0, 0), some (.iload_n 2, 3, 0, 0, 0), some (.invokevirtual 151, 6, 191, 1, 10), none, none, some (.aload_n 0, 7, 0, 0, 0), some (.iload_n 1, 8, 0, 0, 0), some (.iload_n 2, 9, 0, 0, 0), some (.invokevirtual 147, 12, 192, 1, 10), none, none, some (.isub, 13, 0, 0, 0), some (.iconst 1, 14, 0, 0, 0), some (.iadd, 15, 0, 0, 0), some (.ireturn, 16, 0, 0, 0)]

noncomputable def jt_250 : List (List (Option jm_I)) := [jt_250_0]

set_option maxRecDepth 20000 in
noncomputable def jt_251_0 : List (Option jm_I) := [some (.aload_n 0, 1, 0, 0, 0), some (.iload_n 1, 2, 0, 0, 0), some (.invokevirtual 134, 5, 178, 1, 10), none, none, some (.ifCond .eq 8, 8, 13, 0, 0), none, none, some (.iload_n 2, 9, 0, 0, 0), some (.iconst (-1), 10, 0, 0, 0), some (.if_icmp .ge 10, 13, 20, 0, 0), none, none, some (.aload_n 0, 14, 0, 0, 0), some (.bipush (-2), 16, 0, 0, 0), none, some (.invokevirtual 123, 19, 170, 1, 10), none, none, some (.ireturn, 20, 0, 0, 0), some (.aload_n 0, 21, 0, 0, 0), some (.invokevirtual 144, 24, 181, 1, 10), none, none, some (.iconst 0, 25, 0, 0, 0), some (.istore_n 3, 26, 0, 0, 0), some (.iconst (-1), 27, 0, 0, 0), some (.istore 4, 29, 0, 0, 0), none, some (.iconst 0, 30, 0, 0, 0), some (.istore 5, 32, 0, 0, 0), none, some (.iload 5, 34, 0, 0, 0), none, some (.aload_n 0, 35, 0, 0, 0), some (.getfield 74, 38, 10, 28, 1), none, none, some (.iload_n 1, 39, 0, 0, 0), some (.iaload, 40, 0, 0, 0), some (.if_icmp .ge 41, 43, 81, 0, 0), none, none, some (.aload_n 0, 44, 0, 0, 0), some (.iload_n 1, 45, 0, 0, 0), some (.iload 5, 47, 0, 0, 0), none, some (.invokevirtual 147, 50, 192, 1, 10), none, none, some (.iload 4, 52, 0, 0, 0), none, some (.if_icmp .le 23, 55, 75, 0, 0), none, none, some (.aload_n 0, 56, 0, 0, 0), some (.iload_n 1, 57, 0, 0, 0), some (.iload 5, 59, 0, 0, 0), none, some (.invokevirtual 151, 62, 191, 1, 10), none, none, some (.istore 4, 64, 0, 0, 0), none]

set_option maxRecDepth 20000 in
noncomputable def jt_251_1 : List (Option jm_I) := [some (.iload_n 3, 65, 0, 0, 0), some (.iinc 3 1, 68, 0, 0, 0), none, none, some (.iload_n 2, 69, 0, 0, 0), some (.if_icmp .ne 6, 72, 75, 0, 0), none, none, some (.iload 5, 74, 0, 0, 0), none, some (.ireturn, 75, 0, 0, 0), some (.iinc 5 1, 78, 0, 0, 0), none, none, some (.goto (-46), 81, 32, 0, 0), none, none, some (.iload_n 2, 82, 0, 0, 0), some (.iconst (-1), 83, 0, 0, 0), some (.if_icmp .ne 7, 86, 90, 0, 0), none, none, some (.iload_n 3, 87, 0, 0, 0), some (.goto 9, 90, 96, 0, 0), none, none, some (.aload_n 0, 91, 0, 0, 0), some (.bipush (-2), 93, 0, 0, 0), none, some (.invokevirtual 123, 96, 170, 1, 10), none, none, some (.ireturn, 97, 0, 0, 0)]

noncomputable def jt_251 : List (List (Option jm_I)) := [jt_251_0, jt_251_1]

set_option maxRecDepth 20000 in
noncomputable def jt_252_0 : List (Option jm_I) := [some (.aload_n 0, 1, 0, 0, 0), some (.iload_n 1, 2, 0, 0, 0), some (.invokevirtual 134, 5, 178, 1, 10), none, none, some (.ifCond .eq 8, 8, 13, 0, 0), none, none, some (.iload_n 2, 9, 0, 0, 0), some (.iconst (-1), 10, 0, 0, 0), some (.if_icmp .ge 10, 13, 20, 0, 0), none, none, some (.aload_n 0, 14, 0, 0, 0), some (.bipush (-2), 16, 0, 0, 0), none, some (.invokevirtual 123, 19, 170, 1, 10), none, none, some (.ireturn, 20, 0, 0, 0), some (.aload_n 0, 21, 0, 0, 0), some (.invokevirtual 144, 24, 181, 1, 10), none, none, some (.iconst 0, 25, 0, 0, 0), some (.istore_n 3, 26, 0, 0, 0), some (.iconst (-1), 27, 0, 0, 0), some (.istore 4, 29, 0, 0, 0), none, some (.iconst 0, 30, 0, 0, 0), some (.istore 5, 32, 0, 0, 0), none, some (.iload 5, 34, 0, 0, 0), none, some (.aload_n 0, 35, 0, 0, 0), some (.getfield 74, 38, 10, 28, 1), none, none, some (.iload_n 1, 39, 0, 0, 0), some (.iaload, 40, 0, 0, 0), some (.if_icmp .ge 41, 43, 81, 0, 0), none, none, some (.aload_n 0, 44, 0, 0, 0), some (.iload_n 1, 45, 0, 0, 0), some (.iload 5, 47, 0, 0, 0), none, some (.invokevirtual 147, 50, 192, 1, 10), none, none, some (.iload 4, 52, 0, 0, 0), none, some (.if_icmp .le 23, 55, 75, 0, 0), none, none, some (.aload_n 0, 56, 0, 0, 0), some (.iload_n 1, 57, 0, 0, 0), some (.iload 5, 59, 0, 0, 0), none, some (.invokevirtual 151, 62, 191, 1, 10), none, none, some (.istore 4, 64, 0, 0, 0), none]

set_option maxRecDepth 20000 in
noncomputable def jt_252_1 : List (Option jm_I) := [some (.iload_n 3, 65, 0, 0, 0), some (.iinc 3 1, 68, 0, 0, 0), none, none, some (.iload_n 2, 69, 0, 0, 0), some (.if_icmp .ne 6, 72, 75, 0, 0), none, none, some (.iload 4, 74, 0, 0, 0), none, some (.ireturn, 75, 0, 0, 0), some (.iinc 5 1, 78, 0, 0, 0), none, none, some (.goto (-46), 81, 32, 0, 0), none, none, some (.iload_n 2, 82, 0, 0, 0), some (.iconst (-1), 83, 0, 0, 0), some (.if_icmp .ne 7, 86, 90, 0, 0), none, none, some (.iload_n 3, 87, 0, 0, 0), some (.goto 9, 90, 96, 0, 0), none, none, some (.aload_n 0, 91, 0, 0, 0), some (.bipush (-2), 93, 0, 0, 0), none, some (.invokevirtual 123, 96, 170, 1, 10), none, none, some (.ireturn, 97, 0, 0, 0)]

noncomputable def jt_252 : List (List (Option jm_I)) := [jt_252_0, jt_252_1]

set_option maxRecDepth 20000 in
noncomputable def jt_253_0 : List (Option jm_I) := [some (.aload_n 0, 1, 0, 0, 0), some (.iload_n 1, 2, 0, 0, 0), some (.invokevirtual 134, 5, 178, 1, 10), none, none, some (.ifCond .eq 19, 8, 24, 0, 0), none, none, some (.iload_n 2, 9, 0, 0, 0), some (.i2l, 10, 0, 0, 0), some (.lconst 0, 11, 0, 0, 0), some (.aload_n 0, 12, 0, 0, 0), some (.invokevirtual 330, 15, 254, 1, 10), none, none, some (.iconst 1, 16, 0, 0, 0), some (.isub, 17, 0, 0, 0), some (.i2l, 18, 0, 0, 0), some (.invokestatic 110, 21, 169, 2, 0), none, none, some (.ifCond .ne 10, 24, 31, 0, 0), none, none, some (.aload_n 0, 25, 0, 0, 0), some (.bipush (-2), 27, 0, 0, 0), none, some (.invokevirtual 123, 30, 170, 1, 10), none, none, some (.ireturn, 31, 0, 0, 0), some (.aload_n 0, 32, 0, 0, 0), some (.invokevirtual 144, 35, 181, 1, 10), none, none, some (.aload_n 0, 36, 0, 0, 0), some (.iload_n 1, 37, 0, 0, 0), some (.iload_n 2, 38, 0, 0, 0), some (.invokevirtual 333, 41, 255, 1, 10), none, none, some (.ireturn, 42, 0, 0, 0)]

noncomputable def jt_253 : List (List (Option jm_I)) := [jt_253_0]

set_option maxRecDepth 20000 in
noncomputable def jt_254_0 : List (Option jm_I) := [some (.aload_n 0, 1, 0, 0, 0), some (.getfield 114, 4, 10, 9, 0), none, none, some (.ifCond .ne 7, 7, 11, 0, 0), none, none, some (.iconst 0, 8, 0, 0, 0), some (.goto 16, 11, 24, 0, 0), none, none, some (.aload_n 0, 12, 0, 0, 0), some (.aload_n 0, 13, 0, 0, 0), some (.getfield 114, 16, 10, 9, 0), none, none, some (.iconst 1, 17, 0, 0, 0), some (.isub, 18, 0, 0, 0), some (.iconst 2, 19, 0, 0, 0), some (.invokevirtual 318, 22, 240, 1, 10), none, none, some (.iconst 1, 23, 0, 0, 0), some (.iadd, 24, 0, 0, 0), some (.ireturn, 25, 0, 0, 0)]

noncomputable def jt_254 : List (List (Option jm_I)) := [jt_254_0]

set_option maxRecDepth 20000 in
noncomputable def jt_255_0 : List (Option jm_I) := [some (.iconst 0, 1, 0, 0, 0), some (.istore_n 3, 2, 0, 0, 0), some (.iconst 0, 3, 0, 0, 0), some (.istore 4, 5, 0, 0, 0), none, some (.iload 4, 7, 0, 0, 0), none, some (.aload_n 0, 8, 0, 0, 0), some (.getfield 74, 11, 10, 28, 1), none, none, some (.iload_n 1, 12, 0, 0, 0), some (.iaload, 13, 0, 0, 0), some (.if_icmp .ge 71, 16, 84, 0, 0), none, none, some (.aload_n 0, 17, 0, 0, 0), some (.aload_n 0, 18, 0, 0, 0), some (.iload_n 1, 19, 0, 0, 0), some (.iload 4, 21, 0, 0, 0), none, some (.invokevirtual 147, 24, 192, 1, 10), none, none, some (.iconst 2, 25, 0, 0, 0), some (.invokevirtual 318, 28, 240, 1, 10), none, none, some (.iload_n 2, 29, 0, 0, 0), some (.if_icmp .ne 23, 32, 52, 0, 0), none, none, some (.aload_n 0, 33, 0, 0, 0), some (.aload_n 0, 34, 0, 0, 0), some (.iload_n 1, 35, 0, 0, 0), some (.iload 4, 37, 0, 0, 0), none, some (.invokevirtual 151, 40, 191, 1, 10), none, none, some (.iconst 2, 41, 0, 0, 0), some (.invokevirtual 318, 44, 240, 1, 10), none, none, some (.iload_n 2, 45, 0, 0, 0), some (.if_icmp .ne 7, 48, 52, 0, 0), none, none, some (.iconst 1, 49, 0, 0, 0), some (.goto 4, 52, 53, 0, 0), none, none, some (.iconst 0, 53, 0, 0, 0), some (.istore 5, 55, 0, 0, 0), none, some (.iload_n 3, 56, 0, 0, 0), some (.iload 5, 58, 0, 0, 0), none, some (.ifCond .eq 17, 61, 75, 0, 0), none, none, some (.sipush 5040, 64, 0, 0, 0), none, none]

set_option maxRecDepth 20000 in
noncomputable def jt_255_1 : List (Option jm_I) := [some (.aload_n 0, 65, 0, 0, 0), some (.iload_n 1, 66, 0, 0, 0), some (.iload 4, 68, 0, 0, 0), none, some (.invokevirtual 327, 71, 250, 1, 10), none, none, some (.idiv, 72, 0, 0, 0), some (.goto 4, 75, 76, 0, 0), none, none, some (.iconst 0, 76, 0, 0, 0), some (.iadd, 77, 0, 0, 0), some (.istore_n 3, 78, 0, 0, 0), some (.iinc 4 1, 81, 0, 0, 0), none, none, some (.goto (-76), 84, 5, 0, 0), none, none, some (.iload_n 3, 85, 0, 0, 0), some (.ireturn, 86, 0, 0, 0)]

noncomputable def jt_255 : List (List (Option jm_I)) := [jt_255_0, jt_255_1]

set_option maxRecDepth 20000 in
noncomputable def jt_256_0 : List (Option jm_I) := [some (.aload_n 0, 1, 0, 0, 0), some (.iload_n 1, 2, 0, 0, 0), some (.invokevirtual 134, 5, 178, 1, 10), none, none, some (.ifCond .eq 19, 8, 24, 0, 0), none, none, some (.iload_n 2, 9, 0, 0, 0), some (.i2l, 10, 0, 0, 0), some (.lconst 0, 11, 0, 0, 0), some (.aload_n 0, 12, 0, 0, 0), some (.invokevirtual 330, 15, 254, 1, 10), none, none, some (.iconst 1, 16, 0, 0, 0), some (.isub, 17, 0, 0, 0), some (.i2l, 18, 0, 0, 0), some (.invokestatic 110, 21, 169, 2, 0), none, none, some (.ifCond .ne 10, 24, 31, 0, 0), none, none, some (.aload_n 0, 25, 0, 0, 0), some (.bipush (-2), 27, 0, 0, 0), none, some (.invokevirtual 123, 30, 170, 1, 10), none, none, some (.ireturn, 31, 0, 0, 0), some (.aload_n 0, 32, 0, 0, 0), some (.invokevirtual 144, 35, 181, 1, 10), none, none, some (.aload_n 0, 36, 0, 0, 0), some (.invokevirtual 330, 39, 254, 1, 10), none, none, some (.istore_n 3, 40, 0, 0, 0), some (.iconst 0, 41, 0, 0, 0), some (.istore 4, 43, 0, 0, 0), none, some (.iload 4, 45, 0, 0, 0), none, some (.iload_n 3, 46, 0, 0, 0), some (.if_icmp .ge 23, 49, 69, 0, 0), none, none, some (.aload_n 0, 50, 0, 0, 0), some (.getfield 95, 53, 10, 35, 1), none, none, some (.iload 4, 55, 0, 0, 0), none, some (.aload_n 0, 56, 0, 0, 0), some (.iload_n 1, 57, 0, 0, 0), some (.iload 4, 59, 0, 0, 0), none, some (.invokevirtual 333, 62, 255, 1, 10), none, none, some (.iastore, 63, 0, 0, 0), some (.iinc 4 1, 66, 0, 0, 0)]

set_option maxRecDepth 20000 in
noncomputable def jt_256_1 : List (Option jm_I) := [none, none, some (.goto (-23), 69, 43, 0, 0), none, none, some (.iconst 0, 70, 0, 0, 0), some (.istore 4, 72, 0, 0, 0), none, some (.iload 4, 74, 0, 0, 0), none, some (.iload_n 3, 75, 0, 0, 0), some (.if_icmp .ge 87, 78, 162, 0, 0), none, none, some (.iconst 0, 79, 0, 0, 0), some (.istore 5, 81, 0, 0, 0), none, some (.iconst 0, 82, 0, 0, 0), some (.istore 6, 84, 0, 0, 0), none, some (.iload 6, 86, 0, 0, 0), none, some (.iload_n 3, 87, 0, 0, 0), some (.if_icmp .ge 60, 90, 147, 0, 0), none, none, some (.iload 5, 92, 0, 0, 0), none, some (.aload_n 0, 93, 0, 0, 0), some (.getfield 95, 96, 10, 35, 1), none, none, some (.iload 6, 98, 0, 0, 0), none, some (.iaload, 99, 0, 0, 0), some (.aload_n 0, 100, 0, 0, 0), some (.getfield 95, 103, 10, 35, 1), none, none, some (.iload 4, 105, 0, 0, 0), none, some (.iaload, 106, 0, 0, 0), some (.if_icmp .gt 27, 109, 133, 0, 0), none, none, some (.aload_n 0, 110, 0, 0, 0), some (.getfield 95, 113, 10, 35, 1), none, none, some (.iload 6, 115, 0, 0, 0), none, some (.iaload, 116, 0, 0, 0), some (.aload_n 0, 117, 0, 0, 0), some (.getfield 95, 120, 10, 35, 1), none, none, some (.iload 4, 122, 0, 0, 0), none, some (.iaload, 123, 0, 0, 0), some (.if_icmp .ne 14, 126, 137, 0, 0), none, none, some (.iload 6, 128, 0, 0, 0), none]

set_option maxRecDepth 20000 in
noncomputable def jt_256_2 : List (Option jm_I) := [some (.iload 4, 130, 0, 0, 0), none, some (.if_icmp .ge 7, 133, 137, 0, 0), none, none, some (.iconst 1, 134, 0, 0, 0), some (.goto 4, 137, 138, 0, 0), none, none, some (.iconst 0, 138, 0, 0, 0), some (.iadd, 139, 0, 0, 0), some (.istore 5, 141, 0, 0, 0), none, some (.iinc 6 1, 144, 0, 0, 0), none, none, some (.goto (-60), 147, 84, 0, 0), none, none, some (.aload_n 0, 148, 0, 0, 0), some (.getfield 98, 151, 10, 36, 1), none, none, some (.iload 5, 153, 0, 0, 0), none, some (.iload 4, 155, 0, 0, 0), none, some (.iastore, 156, 0, 0, 0), some (.iinc 4 1, 159, 0, 0, 0), none, none, some (.goto (-87), 162, 72, 0, 0), none, none, some (.aload_n 0, 163, 0, 0, 0), some (.getfield 98, 166, 10, 36, 1), none, none, some (.iload_n 2, 167, 0, 0, 0), some (.iaload, 168, 0, 0, 0), some (.ireturn, 169, 0, 0, 0)]

noncomputable def jt_256 : List (List (Option jm_I)) := [jt_256_0, jt_256_1, jt_256_2]

set_option maxRecDepth 20000 in
noncomputable def jt_257_0 : List (Option jm_I) := [some (.aload_n 0, 1, 0, 0, 0), some (.iload_n 1, 2, 0, 0, 0), some (.invokevirtual 134, 5, 178, 1, 10), none, none, some (.ifCond .eq 25, 8, 30, 0, 0), none, none, some (.iload_n 2, 9, 0, 0, 0), some (.i2l, 10, 0, 0, 0), some (.lconst 1, 11, 0, 0, 0), some (.ldc2_w 302, 14, 0, 0, 60), none, none, some (.invokestatic 110, 17, 169, 2, 0), none, none, some (.ifCond .eq 13, 20, 30, 0, 0), none, none, some (.iload_n 3, 21, 0, 0, 0), some (.i2l, 22, 0, 0, 0), some (.lconst 0, 23, 0, 0, 0), some (.lconst 1, 24, 0, 0, 0), some (.invokestatic 110, 27, 169, 2, 0), none, none, some (.ifCond .ne 10, 30, 37, 0, 0), none, none, some (.aload_n 0, 31, 0, 0, 0), some (.bipush (-2), 33, 0, 0, 0), none, some (.invokevirtual 123, 36, 170, 1, 10), none, none, some (.ireturn, 37, 0, 0, 0), some (.aload_n 0, 38, 0, 0, 0), some (.invokevirtual 144, 41, 181, 1, 10), none, none, some (.iconst 0, 42, 0, 0, 0), some (.istore 4, 44, 0, 0, 0), none, some (.iconst (-1), 45, 0, 0, 0), some (.istore 5, 47, 0, 0, 0), none, some (.iconst 0, 48, 0, 0, 0), some (.istore 6, 50, 0, 0, 0), none, some (.iload 6, 52, 0, 0, 0), none, some (.ifCond .eq 14, 55, 66, 0, 0), none, none, some (.iload 6, 57, 0, 0, 0), none, some (.iload_n 2, 58, 0, 0, 0), some (.iadd, 59, 0, 0, 0), some (.aload_n 0, 60, 0, 0, 0), some (.getfield 114, 63, 10, 9, 0), none, none, some (.if_icmp .gt 100, 66, 163, 0, 0)]

set_option maxRecDepth 20000 in
noncomputable def jt_257_1 : List (Option jm_I) := [none, none, some (.iconst 0, 67, 0, 0, 0), some (.istore 7, 69, 0, 0, 0), none, some (.iconst 0, 70, 0, 0, 0), some (.istore 8, 72, 0, 0, 0), none, some (.iload 8, 74, 0, 0, 0), none, some (.aload_n 0, 75, 0, 0, 0), some (.getfield 74, 78, 10, 28, 1), none, none, some (.iload_n 1, 79, 0, 0, 0), some (.iaload, 80, 0, 0, 0), some (.if_icmp .ge 45, 83, 125, 0, 0), none, none, some (.iload 7, 85, 0, 0, 0), none, some (.aload_n 0, 86, 0, 0, 0), some (.iload_n 1, 87, 0, 0, 0), some (.iload 8, 89, 0, 0, 0), none, some (.invokevirtual 147, 92, 192, 1, 10), none, none, some (.iload 6, 94, 0, 0, 0), none, some (.if_icmp .lt 21, 97, 115, 0, 0), none, none, some (.aload_n 0, 98, 0, 0, 0), some (.iload_n 1, 99, 0, 0, 0), some (.iload 8, 101, 0, 0, 0), none, some (.invokevirtual 151, 104, 191, 1, 10), none, none, some (.iload 6, 106, 0, 0, 0), none, some (.iload_n 2, 107, 0, 0, 0), some (.iadd, 108, 0, 0, 0), some (.if_icmp .ge 7, 111, 115, 0, 0), none, none, some (.iconst 1, 112, 0, 0, 0), some (.goto 4, 115, 116, 0, 0), none, none, some (.iconst 0, 116, 0, 0, 0), some (.iadd, 117, 0, 0, 0), some (.istore 7, 119, 0, 0, 0), none, some (.iinc 8 1, 122, 0, 0, 0), none, none, some (.goto (-50), 125, 72, 0, 0), none, none, some (.iload 7, 127, 0, 0, 0), none, some (.iload 5, 129, 0, 0, 0)]

set_option maxRecDepth 20000 in
noncomputable def jt_257_2 : List (Option jm_I) := [none, some (.if_icmp .le 8, 132, 137, 0, 0), none, none, some (.iload 6, 134, 0, 0, 0), none, some (.goto 5, 137, 139, 0, 0), none, none, some (.iload 4, 139, 0, 0, 0), none, some (.istore 4, 141, 0, 0, 0), none, some (.iload 7, 143, 0, 0, 0), none, some (.iload 5, 145, 0, 0, 0), none, some (.if_icmp .le 8, 148, 153, 0, 0), none, none, some (.iload 7, 150, 0, 0, 0), none, some (.goto 5, 153, 155, 0, 0), none, none, some (.iload 5, 155, 0, 0, 0), none, some (.istore 5, 157, 0, 0, 0), none, some (.iinc 6 1, 160, 0, 0, 0), none, none, some (.goto (-110), 163, 50, 0, 0), none, none, some (.iload_n 3, 164, 0, 0, 0), some (.ifCond .ne 8, 167, 172, 0, 0), none, none, some (.iload 4, 169, 0, 0, 0), none, some (.goto 5, 172, 174, 0, 0), none, none, some (.iload 5, 174, 0, 0, 0), none, some (.ireturn, 175, 0, 0, 0)]

noncomputable def jt_257 : List (List (Option jm_I)) := [jt_257_0, jt_257_1, jt_257_2]

set_option maxRecDepth 20000 in
noncomputable def jt_258_0 : List (Option jm_I) := [some (.aload_n 0, 1, 0, 0, 0), some (.iload_n 1, 2, 0, 0, 0), some (.invokevirtual 134, 5, 178, 1, 10), none, none, some (.ifCond .eq 11, 8, 16, 0, 0), none, none, some (.aload_n 0, 9, 0, 0, 0), some (.iload_n 2, 10, 0, 0, 0), some (.invokevirtual 134, 13, 178, 1, 10), none, none, some (.ifCond .ne 10, 16, 23, 0, 0), none, none, some (.aload_n 0, 17, 0, 0, 0), some (.bipush (-2), 19, 0, 0, 0), none, some (.invokevirtual 123, 22, 170, 1, 10), none, none, some (.ireturn, 23, 0, 0, 0), some (.aload_n 0, 24, 0, 0, 0), some (.invokevirtual 144, 27, 181, 1, 10), none, none, some (.iconst (-1), 28, 0, 0, 0), some (.istore_n 3, 29, 0, 0, 0), some (.iconst 0, 30, 0, 0, 0), some (.istore 4, 32, 0, 0, 0), none, some (.iload 4, 34, 0, 0, 0), none, some (.aload_n 0, 35, 0, 0, 0), some (.getfield 74, 38, 10, 28, 1), none, none, some (.iload_n 1, 39, 0, 0, 0), some (.iaload, 40, 0, 0, 0), some (.if_icmp .ge 114, 43, 154, 0, 0), none, none, some (.iconst 0, 44, 0, 0, 0), some (.istore 5, 46, 0, 0, 0), none, some (.iload 5, 48, 0, 0, 0), none, some (.aload_n 0, 49, 0, 0, 0), some (.getfield 74, 52, 10, 28, 1), none, none, some (.iload_n 2, 53, 0, 0, 0), some (.iaload, 54, 0, 0, 0), some (.if_icmp .ge 94, 57, 148, 0, 0), none, none, some (.aload_n 0, 58, 0, 0, 0), some (.iload_n 2, 59, 0, 0, 0), some (.iload 5, 61, 0, 0, 0), none, some (.invokevirtual 147, 64, 192, 1, 10), none, none]

set_option maxRecDepth 20000 in
noncomputable def jt_258_1 : List (Option jm_I) := [some (.aload_n 0, 65, 0, 0, 0), some (.iload_n 1, 66, 0, 0, 0), some (.iload 4, 68, 0, 0, 0), none, some (.invokevirtual 151, 71, 191, 1, 10), none, none, some (.isub, 72, 0, 0, 0), some (.iconst 1, 73, 0, 0, 0), some (.isub, 74, 0, 0, 0), some (.istore 6, 76, 0, 0, 0), none, some (.aload_n 0, 77, 0, 0, 0), some (.iload_n 1, 78, 0, 0, 0), some (.iload 4, 80, 0, 0, 0), none, some (.invokevirtual 147, 83, 192, 1, 10), none, none, some (.aload_n 0, 84, 0, 0, 0), some (.iload_n 2, 85, 0, 0, 0), some (.iload 5, 87, 0, 0, 0), none, some (.invokevirtual 151, 90, 191, 1, 10), none, none, some (.isub, 91, 0, 0, 0), some (.iconst 1, 92, 0, 0, 0), some (.isub, 93, 0, 0, 0), some (.istore 7, 95, 0, 0, 0), none, some (.iload 6, 97, 0, 0, 0), none, some (.iload 7, 99, 0, 0, 0), none, some (.if_icmp .le 8, 102, 107, 0, 0), none, none, some (.iload 6, 104, 0, 0, 0), none, some (.goto 5, 107, 109, 0, 0), none, none, some (.iload 7, 109, 0, 0, 0), none, some (.istore 8, 111, 0, 0, 0), none, some (.iload 8, 113, 0, 0, 0), none, some (.ifCond .ge 7, 116, 120, 0, 0), none, none, some (.iconst 0, 117, 0, 0, 0), some (.goto 5, 120, 122, 0, 0), none, none, some (.iload 8, 122, 0, 0, 0), none, some (.istore 8, 124, 0, 0, 0), none, some (.iload_n 3, 125, 0, 0, 0), some (.iconst (-1), 126, 0, 0, 0), some (.if_icmp .eq 9, 129, 135, 0, 0), none]

set_option maxRecDepth 20000 in
noncomputable def jt_258_2 : List (Option jm_I) := [none, some (.iload 8, 131, 0, 0, 0), none, some (.iload_n 3, 132, 0, 0, 0), some (.if_icmp .ge 8, 135, 140, 0, 0), none, none, some (.iload 8, 137, 0, 0, 0), none, some (.goto 4, 140, 141, 0, 0), none, none, some (.iload_n 3, 141, 0, 0, 0), some (.istore_n 3, 142, 0, 0, 0), some (.iinc 5 1, 145, 0, 0, 0), none, none, some (.goto (-99), 148, 46, 0, 0), none, none, some (.iinc 4 1, 151, 0, 0, 0), none, none, some (.goto (-119), 154, 32, 0, 0), none, none, some (.iload_n 3, 155, 0, 0, 0), some (.ireturn, 156, 0, 0, 0)]

noncomputable def jt_258 : List (List (Option jm_I)) := [jt_258_0, jt_258_1, jt_258_2]

set_option maxRecDepth 20000 in
noncomputable def jt_259_0 : List (Option jm_I) := [some (.aload_n 0, 1, 0, 0, 0), some (.iload_n 1, 2, 0, 0, 0), some (.invokevirtual 134, 5, 178, 1, 10), none, none, some (.ifCond .eq 23, 8, 28, 0, 0), none, none, some (.aload_n 0, 9, 0, 0, 0), some (.iload_n 2, 10, 0, 0, 0), some (.invokevirtual 134, 13, 178, 1, 10), none, none, some (.ifCond .eq 15, 16, 28, 0, 0), none, none, some (.iload_n 3, 17, 0, 0, 0), some (.i2l, 18, 0, 0, 0), some (.lconst 0, 19, 0, 0, 0), some (.ldc2_w 217, 22, 0, 0, 2), none, none, some (.invokestatic 110, 25, 169, 2, 0), none, none, some (.ifCond .ne 10, 28, 35, 0, 0), none, none, some (.aload_n 0, 29, 0, 0, 0), some (.bipush (-2), 31, 0, 0, 0), none, some (.invokevirtual 123, 34, 170, 1, 10), none, none, some (.ireturn, 35, 0, 0, 0), some (.aload_n 0, 36, 0, 0, 0), some (.invokevirtual 144, 39, 181, 1, 10), none, none, some (.iconst 0, 40, 0, 0, 0), some (.istore 4, 42, 0, 0, 0), none, some (.iconst 0, 43, 0, 0, 0), some (.istore 5, 45, 0, 0, 0), none, some (.iload 5, 47, 0, 0, 0), none, some (.aload_n 0, 48, 0, 0, 0), some (.getfield 74, 51, 10, 28, 1), none, none, some (.iload_n 1, 52, 0, 0, 0), some (.iaload, 53, 0, 0, 0), some (.if_icmp .ge 68, 56, 121, 0, 0), none, none, some (.iload_n 3, 57, 0, 0, 0), some (.iconst 2, 58, 0, 0, 0), some (.if_icmp .ne 14, 61, 72, 0, 0), none, none, some (.aload_n 0, 62, 0, 0, 0), some (.iload_n 1, 63, 0, 0, 0), some (.iload 5, 65, 0, 0, 0)]

set_option maxRecDepth 20000 in
noncomputable def jt_259_1 : List (Option jm_I) := [none, some (.iload_n 2, 66, 0, 0, 0), some (.invokevirtual 336, 69, 260, 1, 10), none, none, some (.goto 29, 72, 98, 0, 0), none, none, some (.aload_n 0, 73, 0, 0, 0), some (.iload_n 1, 74, 0, 0, 0), some (.iload 5, 76, 0, 0, 0), none, some (.iload_n 2, 77, 0, 0, 0), some (.iload_n 3, 78, 0, 0, 0), some (.iconst 1, 79, 0, 0, 0), some (.if_icmp .ne 7, 82, 86, 0, 0), none, none, some (.iconst 1, 83, 0, 0, 0), some (.goto 4, 86, 87, 0, 0), none, none, some (.iconst 0, 87, 0, 0, 0), some (.invokevirtual 162, 90, 198, 1, 10), none, none, some (.ifCond .le 7, 93, 97, 0, 0), none, none, some (.iconst 1, 94, 0, 0, 0), some (.goto 4, 97, 98, 0, 0), none, none, some (.iconst 0, 98, 0, 0, 0), some (.istore 6, 100, 0, 0, 0), none, some (.iload 4, 102, 0, 0, 0), none, some (.iload 6, 104, 0, 0, 0), none, some (.ifCond .eq 7, 107, 111, 0, 0), none, none, some (.iconst 1, 108, 0, 0, 0), some (.goto 4, 111, 112, 0, 0), none, none, some (.iconst 0, 112, 0, 0, 0), some (.iadd, 113, 0, 0, 0), some (.istore 4, 115, 0, 0, 0), none, some (.iinc 5 1, 118, 0, 0, 0), none, none, some (.goto (-73), 121, 45, 0, 0), none, none, some (.iload 4, 123, 0, 0, 0), none, some (.ireturn, 124, 0, 0, 0)]

noncomputable def jt_259 : List (List (Option jm_I)) := [jt_259_0, jt_259_1]

set_option maxRecDepth 20000 in
noncomputable def jt_260_0 : List (Option jm_I) := [some (.iconst 0, 1, 0, 0, 0), some (.istore 4, 3, 0, 0, 0), none, some (.iload 4, 5, 0, 0, 0), none, some (.aload_n 0, 6, 0, 0, 0), some (.getfield 74, 9, 10, 28, 1), none, none, some (.iload_n 3, 10, 0, 0, 0), some (.iaload, 11, 0, 0, 0), some (.if_icmp .ge 43, 14, 54, 0, 0), none, none, some (.aload_n 0, 15, 0, 0, 0), some (.iload_n 3, 16, 0, 0, 0), some (.iload 4, 18, 0, 0, 0), none, some (.invokevirtual 147, 21, 192, 1, 10), none, none, some (.aload_n 0, 22, 0, 0, 0), some (.iload_n 1, 23, 0, 0, 0), some (.iload_n 2, 24, 0, 0, 0), some (.invokevirtual 147, 27, 192, 1, 10), none, none, some (.if_icmp .ne 21, 30, 48, 0, 0), none, none, some (.aload_n 0, 31, 0, 0, 0), some (.iload_n 3, 32, 0, 0, 0), some (.iload 4, 34, 0, 0, 0), none, some (.invokevirtual 151, 37, 191, 1, 10), none, none, some (.aload_n 0, 38, 0, 0, 0), some (.iload_n 1, 39, 0, 0, 0), some (.iload_n 2, 40, 0, 0, 0), some (.invokevirtual 151, 43, 191, 1, 10), none, none, some (.if_icmp .ne 5, 46, 48, 0, 0), none, none, some (.iconst 1, 47, 0, 0, 0), some (.ireturn, 48, 1, 0, 0), some (.iinc 4 1, 51, 0, 0, 0), none, none, some (.goto (-48), 54, 3, 0, 0), none, none, some (.iconst 0, 55, 0, 0, 0), some (.ireturn, 56, 1, 0, 0)]

noncomputable def jt_260 : List (List (Option jm_I)) := [jt_260_0]

set_option maxRecDepth 20000 in
noncomputable def jt_261_0 : List (Option jm_I) := [some (.aload_n 0, 1, 0, 0, 0), some (.iload_n 1, 2, 0, 0, 0), some (.invokevirtual 134, 5, 178, 1, 10), none, none, some (.ifCond .eq 11, 8, 16, 0, 0), none, none, some (.aload_n 0, 9, 0, 0, 0), some (.iload_n 2, 10, 0, 0, 0), some (.invokevirtual 134, 13, 178, 1, 10), none, none, some (.ifCond .ne 10, 16, 23, 0, 0), none, none, some (.aload_n 0, 17, 0, 0, 0), some (.bipush (-2), 19, 0, 0, 0), none, some (.invokevirtual 123, 22, 170, 1, 10), none, none, some (.ireturn, 23, 0, 0, 0), some (.aload_n 0, 24, 0, 0, 0), some (.invokevirtual 144, 27, 181, 1, 10), none, none, some (.aload_n 0, 28, 0, 0, 0), some (.iload_n 1, 29, 0, 0, 0), some (.iload_n 2, 30, 0, 0, 0), some (.invokevirtual 340, 33, 262, 1, 10), none, none, some (.ireturn, 34, 0, 0, 0)]

noncomputable def jt_261 : List (List (Option jm_I)) := [jt_261_0]

set_option maxRecDepth 20000 in
noncomputable def jt_262_0 : List (Option jm_I) := [some (.iconst 0, 1, 0, 0, 0), some (.istore_n 3, 2, 0, 0, 0), some (.iload_n 3, 3, 0, 0, 0), some (.aload_n 0, 4, 0, 0, 0), some (.getfield 74, 7, 10, 28, 1), none, none, some (.iload_n 1, 8, 0, 0, 0), some (.iaload, 9, 0, 0, 0), some (.if_icmp .ge 34, 12, 43, 0, 0), none, none, some (.iload_n 3, 13, 0, 0, 0), some (.aload_n 0, 14, 0, 0, 0), some (.getfield 74, 17, 10, 28, 1), none, none, some (.iload_n 2, 18, 0, 0, 0), some (.iaload, 19, 0, 0, 0), some (.if_icmp .ge 24, 22, 43, 0, 0), none, none, some (.aload_n 0, 23, 0, 0, 0), some (.iload_n 1, 24, 0, 0, 0), some (.iload_n 3, 25, 0, 0, 0), some (.invokevirtual 321, 28, 243, 1, 10), none, none, some (.aload_n 0, 29, 0, 0, 0), some (.iload_n 2, 30, 0, 0, 0), some (.iload_n 3, 31, 0, 0, 0), some (.invokevirtual 321, 34, 243, 1, 10), none, none, some (.if_icmp .ne 9, 37, 43, 0, 0), none, none, some (.iinc 3 1, 40, 0, 0, 0), none, none, some (.goto (-38), 43, 2, 0, 0), none, none, some (.iload_n 3, 44, 0, 0, 0), some (.aload_n 0, 45, 0, 0, 0), some (.getfield 74, 48, 10, 28, 1), none, none, some (.iload_n 1, 49, 0, 0, 0), some (.iaload, 50, 0, 0, 0), some (.if_icmp .lt 13, 53, 63, 0, 0), none, none, some (.iload_n 3, 54, 0, 0, 0), some (.aload_n 0, 55, 0, 0, 0), some (.getfield 74, 58, 10, 28, 1), none, none, some (.iload_n 2, 59, 0, 0, 0), some (.iaload, 60, 0, 0, 0), some (.if_icmp .ge 7, 63, 67, 0, 0), none, none, some (.iload_n 3, 64, 0, 0, 0)]

set_option maxRecDepth 20000 in
noncomputable def jt_262_1 : List (Option jm_I) := [some (.goto 4, 67, 68, 0, 0), none, none, some (.iconst (-1), 68, 0, 0, 0), some (.ireturn, 69, 0, 0, 0)]

noncomputable def jt_262 : List (List (Option jm_I)) := [jt_262_0, jt_262_1]

set_option maxRecDepth 20000 in
noncomputable def jt_263_0 : List (Option jm_I) := [some (.aload_n 0, 1, 0, 0, 0), some (.iload_n 1, 2, 0, 0, 0), some (.invokevirtual 134, 5, 178, 1, 10), none, none, some (.ifCond .ne 10, 8, 15, 0, 0), none, none, some (.aload_n 0, 9, 0, 0, 0), some (.bipush (-2), 11, 0, 0, 0), none, some (.invokevirtual 123, 14, 170, 1, 10), none, none, some (.ireturn, 15, 0, 0, 0), some (.aload_n 0, 16, 0, 0, 0), some (.invokevirtual 144, 19, 181, 1, 10), none, none, some (.iconst 0, 20, 0, 0, 0), some (.istore_n 2, 21, 0, 0, 0), some (.aload_n 0, 22, 0, 0, 0), some (.iload_n 2, 23, 0, 0, 0), some (.iload_n 1, 24, 0, 0, 0), some (.invokevirtual 340, 27, 262, 1, 10), none, none, some (.iconst (-1), 28, 0, 0, 0), some (.if_icmp .eq 9, 31, 37, 0, 0), none, none, some (.iinc 2 1, 34, 0, 0, 0), none, none, some (.goto (-13), 37, 21, 0, 0), none, none, some (.iload_n 2, 38, 0, 0, 0), some (.ireturn, 39, 0, 0, 0)]

noncomputable def jt_263 : List (List (Option jm_I)) := [jt_263_0]

set_option maxRecDepth 20000 in
noncomputable def jt_264_0 : List (Option jm_I) := [some (.aload_n 0, 1, 0, 0, 0), some (.iload_n 1, 2, 0, 0, 0), some (.invokevirtual 134, 5, 178, 1, 10), none, none, some (.ifCond .ne 10, 8, 15, 0, 0), none, none, some (.aload_n 0, 9, 0, 0, 0), some (.bipush (-2), 11, 0, 0, 0), none, some (.invokevirtual 123, 14, 170, 1, 10), none, none, some (.ireturn, 15, 0, 0, 0), some (.aload_n 0, 16, 0, 0, 0), some (.invokevirtual 144, 19, 181, 1, 10), none, none, some (.iconst 0, 20, 0, 0, 0), some (.istore_n 2, 21, 0, 0, 0), some (.iconst 0, 22, 0, 0, 0), some (.istore_n 3, 23, 0, 0, 0), some (.iload_n 3, 24, 0, 0, 0), some (.aload_n 0, 25, 0, 0, 0), some (.getfield 107, 28, 10, 10, 0), none, none, some (.if_icmp .ge 28, 31, 56, 0, 0), none, none, some (.iload_n 2, 32, 0, 0, 0), some (.aload_n 0, 33, 0, 0, 0), some (.iload_n 3, 34, 0, 0, 0), some (.iload_n 1, 35, 0, 0, 0), some (.invokevirtual 343, 38, 265, 1, 10), none, none, some (.ifCond .eq 9, 41, 47, 0, 0), none, none, some (.iconst 1, 42, 0, 0, 0), some (.iload_n 3, 43, 0, 0, 0), some (.ishl, 44, 0, 0, 0), some (.goto 4, 47, 48, 0, 0), none, none, some (.iconst 0, 48, 0, 0, 0), some (.ior, 49, 0, 0, 0), some (.istore_n 2, 50, 0, 0, 0), some (.iinc 3 1, 53, 0, 0, 0), none, none, some (.goto (-30), 56, 23, 0, 0), none, none, some (.iload_n 2, 57, 0, 0, 0), some (.ireturn, 58, 0, 0, 0)]

noncomputable def jt_264 : List (List (Option jm_I)) := [jt_264_0]

set_option maxRecDepth 20000 in
noncomputable def jt_265_0 : List (Option jm_I) := [some (.iconst 0, 1, 0, 0, 0), some (.istore_n 3, 2, 0, 0, 0), some (.iload_n 3, 3, 0, 0, 0), some (.aload_n 0, 4, 0, 0, 0), some (.getfield 74, 7, 10, 28, 1), none, none, some (.iload_n 1, 8, 0, 0, 0), some (.iaload, 9, 0, 0, 0), some (.if_icmp .ge 22, 12, 31, 0, 0), none, none, some (.aload_n 0, 13, 0, 0, 0), some (.iload_n 1, 14, 0, 0, 0), some (.iload_n 3, 15, 0, 0, 0), some (.iload_n 2, 16, 0, 0, 0), some (.iconst 0, 17, 0, 0, 0), some (.invokevirtual 162, 20, 198, 1, 10), none, none, some (.ifCond .ne 5, 23, 25, 0, 0), none, none, some (.iconst 0, 24, 0, 0, 0), some (.ireturn, 25, 1, 0, 0), some (.iinc 3 1, 28, 0, 0, 0), none, none, some (.goto (-26), 31, 2, 0, 0), none, none, some (.iconst 1, 32, 0, 0, 0), some (.ireturn, 33, 1, 0, 0)]

noncomputable def jt_265 : List (List (Option jm_I)) := [jt_265_0]

set_option maxRecDepth 20000 in
noncomputable def jt_266_0 : List (Option jm_I) := [some (.aload_n 0, 1, 0, 0, 0), some (.iload_n 1, 2, 0, 0, 0), some (.invokevirtual 134, 5, 178, 1, 10), none, none, some (.ifCond .eq 15, 8, 20, 0, 0), none, none, some (.iload_n 2, 9, 0, 0, 0), some (.i2l, 10, 0, 0, 0), some (.lconst 0, 11, 0, 0, 0), some (.ldc2_w 217, 14, 0, 0, 2), none, none, some (.invokestatic 110, 17, 169, 2, 0), none, none, some (.ifCond .ne 10, 20, 27, 0, 0), none, none, some (.aload_n 0, 21, 0, 0, 0), some (.bipush (-2), 23, 0, 0, 0), none, some (.invokevirtual 123, 26, 170, 1, 10), none, none, some (.ireturn, 27, 0, 0, 0), some (.aload_n 0, 28, 0, 0, 0), some (.invokevirtual 144, 31, 181, 1, 10), none, none, some (.aload_n 0, 32, 0, 0, 0), some (.getfield 74, 35, 10, 28, 1), none, none, some (.iload_n 1, 36, 0, 0, 0), some (.iaload, 37, 0, 0, 0), some (.istore_n 3, 38, 0, 0, 0), some (.iconst 0, 39, 0, 0, 0), some (.istore 4, 41, 0, 0, 0), none, some (.iconst 0, 42, 0, 0, 0), some (.istore 5, 44, 0, 0, 0), none, some (.iload 5, 46, 0, 0, 0), none, some (.bipush 16, 48, 0, 0, 0), none, some (.if_icmp .ge 94, 51, 142, 0, 0), none, none, some (.aload_n 0, 52, 0, 0, 0), some (.iload 5, 54, 0, 0, 0), none, some (.putfield 101, 57, 10, 37, 0), none, none, some (.aload_n 0, 58, 0, 0, 0), some (.invokevirtual 209, 61, 182, 1, 10), none, none, some (.aload_n 0, 62, 0, 0, 0), some (.getfield 74, 65, 10, 28, 1), none]

set_option maxRecDepth 20000 in
noncomputable def jt_266_1 : List (Option jm_I) := [none, some (.iload_n 1, 66, 0, 0, 0), some (.iaload, 67, 0, 0, 0), some (.istore 6, 69, 0, 0, 0), none, some (.iload_n 2, 70, 0, 0, 0), some (.ifCond .ne 16, 73, 86, 0, 0), none, none, some (.iload 6, 75, 0, 0, 0), none, some (.ifCond .ne 7, 78, 82, 0, 0), none, none, some (.iconst 1, 79, 0, 0, 0), some (.goto 37, 82, 116, 0, 0), none, none, some (.iconst 0, 83, 0, 0, 0), some (.goto 33, 86, 116, 0, 0), none, none, some (.iload_n 2, 87, 0, 0, 0), some (.iconst 1, 88, 0, 0, 0), some (.if_icmp .ne 17, 91, 105, 0, 0), none, none, some (.iload 6, 93, 0, 0, 0), none, some (.iload_n 3, 94, 0, 0, 0), some (.if_icmp .le 7, 97, 101, 0, 0), none, none, some (.iconst 1, 98, 0, 0, 0), some (.goto 18, 101, 116, 0, 0), none, none, some (.iconst 0, 102, 0, 0, 0), some (.goto 14, 105, 116, 0, 0), none, none, some (.iload 6, 107, 0, 0, 0), none, some (.iload_n 3, 108, 0, 0, 0), some (.if_icmp .ge 7, 111, 115, 0, 0), none, none, some (.iconst 1, 112, 0, 0, 0), some (.goto 4, 115, 116, 0, 0), none, none, some (.iconst 0, 116, 0, 0, 0), some (.istore 7, 118, 0, 0, 0), none, some (.iload 4, 120, 0, 0, 0), none, some (.iload 7, 122, 0, 0, 0), none, some (.ifCond .eq 10, 125, 132, 0, 0), none, none, some (.iconst 1, 126, 0, 0, 0), some (.iload 5, 128, 0, 0, 0), none]

set_option maxRecDepth 20000 in
noncomputable def jt_266_2 : List (Option jm_I) := [some (.ishl, 129, 0, 0, 0), some (.goto 4, 132, 133, 0, 0), none, none, some (.iconst 0, 133, 0, 0, 0), some (.ior, 134, 0, 0, 0), some (.istore 4, 136, 0, 0, 0), none, some (.iinc 5 1, 139, 0, 0, 0), none, none, some (.goto (-95), 142, 44, 0, 0), none, none, some (.aload_n 0, 143, 0, 0, 0), some (.iconst (-1), 144, 0, 0, 0), some (.putfield 101, 147, 10, 37, 0), none, none, some (.aload_n 0, 148, 0, 0, 0), some (.invokevirtual 209, 151, 182, 1, 10), none, none, some (.iload 4, 153, 0, 0, 0), none, some (.ireturn, 154, 0, 0, 0)]

noncomputable def jt_266 : List (List (Option jm_I)) := [jt_266_0, jt_266_1, jt_266_2]

set_option maxRecDepth 20000 in
noncomputable def jt_267_0 : List (Option jm_I) := [some (.aload_n 0, 1, 0, 0, 0), some (.iload_n 1, 2, 0, 0, 0), some (.invokevirtual 134, 5, 178, 1, 10), none, none, some (.ifCond .eq 33, 8, 38, 0, 0), none, none, some (.aload_n 0, 9, 0, 0, 0), some (.iload_n 2, 10, 0, 0, 0), some (.invokevirtual 219, 13, 204, 1, 10), none, none, some (.ifCond .eq 25, 16, 38, 0, 0), none, none, some (.iload_n 3, 17, 0, 0, 0), some (.i2l, 18, 0, 0, 0), some (.lconst 0, 19, 0, 0, 0), some (.ldc2_w 212, 22, 0, 0, 15), none, none, some (.invokestatic 110, 25, 169, 2, 0), none, none, some (.ifCond .eq 13, 28, 38, 0, 0), none, none, some (.aload_n 0, 29, 0, 0, 0), some (.iload_n 1, 30, 0, 0, 0), some (.iload_n 2, 31, 0, 0, 0), some (.iload_n 3, 32, 0, 0, 0), some (.invokevirtual 346, 35, 268, 1, 10), none, none, some (.goto 9, 38, 44, 0, 0), none, none, some (.aload_n 0, 39, 0, 0, 0), some (.bipush (-2), 41, 0, 0, 0), none, some (.invokevirtual 123, 44, 170, 1, 10), none, none, some (.ireturn, 45, 0, 0, 0)]

noncomputable def jt_267 : List (List (Option jm_I)) := [jt_267_0]

set_option maxRecDepth 20000 in
noncomputable def jt_268_0 : List (Option jm_I) := [some (.aload_n 0, 1, 0, 0, 0), some (.getfield 41, 4, 10, 12, 1), none, none, some (.iload_n 2, 5, 0, 0, 0), some (.iaload, 6, 0, 0, 0), some (.istore 4, 8, 0, 0, 0), none, some (.aload_n 0, 9, 0, 0, 0), some (.getfield 41, 12, 10, 12, 1), none, none, some (.iload_n 2, 13, 0, 0, 0), some (.iload_n 3, 14, 0, 0, 0), some (.iastore, 15, 0, 0, 0), some (.aload_n 0, 16, 0, 0, 0), some (.invokevirtual 209, 19, 182, 1, 10), none, none, some (.aload_n 0, 20, 0, 0, 0), some (.getfield 41, 23, 10, 12, 1), none, none, some (.iload_n 2, 24, 0, 0, 0), some (.iload 4, 26, 0, 0, 0), none, some (.iastore, 27, 0, 0, 0), some (.aload_n 0, 28, 0, 0, 0), some (.iconst 0, 29, 0, 0, 0), some (.putfield 205, 32, 10, 26, 2), none, none, some (.aload_n 0, 33, 0, 0, 0), some (.getfield 74, 36, 10, 28, 1), none, none, some (.iload_n 1, 37, 0, 0, 0), some (.iaload, 38, 0, 0, 0), some (.ireturn, 39, 0, 0, 0)]

noncomputable def jt_268 : List (List (Option jm_I)) := [jt_268_0]

set_option maxRecDepth 20000 in
noncomputable def jt_269_0 : List (Option jm_I) := [some (.aload_n 0, 1, 0, 0, 0), some (.iload_n 1, 2, 0, 0, 0), some (.invokevirtual 134, 5, 178, 1, 10), none, none, some (.ifCond .eq 11, 8, 16, 0, 0), none, none, some (.aload_n 0, 9, 0, 0, 0), some (.iload_n 2, 10, 0, 0, 0), some (.invokevirtual 219, 13, 204, 1, 10), none, none, some (.ifCond .ne 10, 16, 23, 0, 0), none, none, some (.aload_n 0, 17, 0, 0, 0), some (.bipush (-2), 19, 0, 0, 0), none, some (.invokevirtual 123, 22, 170, 1, 10), none, none, some (.ireturn, 23, 0, 0, 0), some (.iconst (-1), 24, 0, 0, 0), some (.istore_n 3, 25, 0, 0, 0), some (.iconst (-1), 26, 0, 0, 0), some (.istore 4, 28, 0, 0, 0), none, some (.iconst 0, 29, 0, 0, 0), some (.istore 5, 31, 0, 0, 0), none, some (.iload 5, 33, 0, 0, 0), none, some (.bipush 16, 35, 0, 0, 0), none, some (.if_icmp .ge 49, 38, 84, 0, 0), none, none, some (.aload_n 0, 39, 0, 0, 0), some (.iload_n 1, 40, 0, 0, 0), some (.iload_n 2, 41, 0, 0, 0), some (.iload 5, 43, 0, 0, 0), none, some (.invokevirtual 346, 46, 268, 1, 10), none, none, some (.istore 6, 48, 0, 0, 0), none, some (.iload 6, 50, 0, 0, 0), none, some (.iload 4, 52, 0, 0, 0), none, some (.if_icmp .le 8, 55, 60, 0, 0), none, none, some (.iload 5, 57, 0, 0, 0), none, some (.goto 4, 60, 61, 0, 0), none, none, some (.iload_n 3, 61, 0, 0, 0), some (.istore_n 3, 62, 0, 0, 0), some (.iload 6, 64, 0, 0, 0), none]

set_option maxRecDepth 20000 in
noncomputable def jt_269_1 : List (Option jm_I) := [some (.iload 4, 66, 0, 0, 0), none, some (.if_icmp .le 8, 69, 74, 0, 0), none, none, some (.iload 6, 71, 0, 0, 0), none, some (.goto 5, 74, 76, 0, 0), none, none, some (.iload 4, 76, 0, 0, 0), none, some (.istore 4, 78, 0, 0, 0), none, some (.iinc 5 1, 81, 0, 0, 0), none, none, some (.goto (-50), 84, 31, 0, 0), none, none, some (.iload_n 3, 85, 0, 0, 0), some (.ireturn, 86, 0, 0, 0)]

noncomputable def jt_269 : List (List (Option jm_I)) := [jt_269_0, jt_269_1]

set_option maxRecDepth 20000 in
noncomputable def jt_270_0 : List (Option jm_I) := [some (.aload_n 0, 1, 0, 0, 0), some (.iload_n 1, 2, 0, 0, 0), some (.invokevirtual 134, 5, 178, 1, 10), none, none, some (.ifCond .eq 36, 8, 41, 0, 0), none, none, some (.aload_n 0, 9, 0, 0, 0), some (.iload_n 2, 10, 0, 0, 0), some (.invokevirtual 134, 13, 178, 1, 10), none, none, some (.ifCond .eq 28, 16, 41, 0, 0), none, none, some (.iload_n 3, 17, 0, 0, 0), some (.i2l, 18, 0, 0, 0), some (.lconst 0, 19, 0, 0, 0), some (.ldc2_w 117, 22, 0, 0, 7), none, none, some (.invokestatic 110, 25, 169, 2, 0), none, none, some (.ifCond .eq 16, 28, 41, 0, 0), none, none, some (.iload 4, 30, 0, 0, 0), none, some (.i2l, 31, 0, 0, 0), some (.lconst 0, 32, 0, 0, 0), some (.ldc2_w 350, 35, 0, 0, 20), none, none, some (.invokestatic 110, 38, 169, 2, 0), none, none, some (.ifCond .ne 10, 41, 48, 0, 0), none, none, some (.aload_n 0, 42, 0, 0, 0), some (.bipush (-2), 44, 0, 0, 0), none, some (.invokevirtual 123, 47, 170, 1, 10), none, none, some (.ireturn, 48, 0, 0, 0), some (.aload_n 0, 49, 0, 0, 0), some (.iload_n 3, 50, 0, 0, 0), some (.iconst 2, 51, 0, 0, 0), some (.iload 4, 53, 0, 0, 0), none, some (.imul, 54, 0, 0, 0), some (.invokevirtual 297, 57, 229, 1, 10), none, none, some (.istore 5, 59, 0, 0, 0), none, some (.iload 5, 61, 0, 0, 0), none, some (.ifCond .eq 6, 64, 67, 0, 0), none, none]

set_option maxRecDepth 20000 in
noncomputable def jt_270_1 : List (Option jm_I) := [some (.iload 5, 66, 0, 0, 0), none, some (.ireturn, 67, 0, 0, 0), some (.aload_n 0, 68, 0, 0, 0), some (.invokevirtual 144, 71, 181, 1, 10), none, none, some (.iconst 0, 72, 0, 0, 0), some (.istore 6, 74, 0, 0, 0), none, some (.iconst 2, 75, 0, 0, 0), some (.istore 7, 77, 0, 0, 0), none, some (.iload 7, 79, 0, 0, 0), none, some (.bipush 8, 81, 0, 0, 0), none, some (.if_icmp .gt 45, 84, 126, 0, 0), none, none, some (.aload_n 0, 85, 0, 0, 0), some (.bipush 24, 87, 0, 0, 0), none, some (.iload 7, 89, 0, 0, 0), none, some (.iload_n 1, 90, 0, 0, 0), some (.iload_n 2, 91, 0, 0, 0), some (.invokevirtual 186, 94, 194, 1, 10), none, none, some (.iload 6, 96, 0, 0, 0), none, some (.aload_n 0, 97, 0, 0, 0), some (.bipush 24, 99, 0, 0, 0), none, some (.iload_n 3, 100, 0, 0, 0), some (.iload 4, 102, 0, 0, 0), none, some (.invokevirtual 352, 105, 271, 1, 10), none, none, some (.iconst (-1), 106, 0, 0, 0), some (.if_icmp .ne 10, 109, 116, 0, 0), none, none, some (.iconst 1, 110, 0, 0, 0), some (.iload 7, 112, 0, 0, 0), none, some (.ishl, 113, 0, 0, 0), some (.goto 4, 116, 117, 0, 0), none, none, some (.iconst 0, 117, 0, 0, 0), some (.ior, 118, 0, 0, 0), some (.istore 6, 120, 0, 0, 0), none, some (.iinc 7 1, 123, 0, 0, 0), none, none, some (.goto (-46), 126, 77, 0, 0), none, none, some (.iload 6, 128, 0, 0, 0), none]

set_option maxRecDepth 20000 in
noncomputable def jt_270_2 : List (Option jm_I) := [some (.ireturn, 129, 0, 0, 0)]

noncomputable def jt_270 : List (List (Option jm_I)) := [jt_270_0, jt_270_1, jt_270_2]

set_option maxRecDepth 20000 in
noncomputable def jt_271_0 : List (Option jm_I) := [some (.iconst 0, 1, 0, 0, 0), some (.istore 4, 3, 0, 0, 0), none, some (.iload 4, 5, 0, 0, 0), none, some (.iload_n 3, 6, 0, 0, 0), some (.if_icmp .ge 71, 9, 77, 0, 0), none, none, some (.iload 4, 11, 0, 0, 0), none, some (.aload_n 0, 12, 0, 0, 0), some (.getfield 74, 15, 10, 28, 1), none, none, some (.iload_n 1, 16, 0, 0, 0), some (.iaload, 17, 0, 0, 0), some (.if_icmp .ge 51, 20, 68, 0, 0), none, none, some (.aload_n 0, 21, 0, 0, 0), some (.getfield 21, 24, 10, 3, 1), none, none, some (.iload_n 2, 25, 0, 0, 0), some (.aaload, 26, 0, 0, 0), some (.iconst 2, 27, 0, 0, 0), some (.iload 4, 29, 0, 0, 0), none, some (.imul, 30, 0, 0, 0), some (.laload, 31, 0, 0, 0), some (.aload_n 0, 32, 0, 0, 0), some (.iload_n 1, 33, 0, 0, 0), some (.iload 4, 35, 0, 0, 0), none, some (.invokevirtual 147, 38, 192, 1, 10), none, none, some (.i2l, 39, 0, 0, 0), some (.lcmp, 40, 0, 0, 0), some (.ifCond .ne 28, 43, 68, 0, 0), none, none, some (.aload_n 0, 44, 0, 0, 0), some (.getfield 21, 47, 10, 3, 1), none, none, some (.iload_n 2, 48, 0, 0, 0), some (.aaload, 49, 0, 0, 0), some (.iconst 2, 50, 0, 0, 0), some (.iload 4, 52, 0, 0, 0), none, some (.imul, 53, 0, 0, 0), some (.iconst 1, 54, 0, 0, 0), some (.iadd, 55, 0, 0, 0), some (.laload, 56, 0, 0, 0), some (.aload_n 0, 57, 0, 0, 0), some (.iload_n 1, 58, 0, 0, 0), some (.iload 4, 60, 0, 0, 0), none, some (.invokevirtual 151, 63, 191, 1, 10), none, none, some (.i2l, 64, 0, 0, 0)]

set_option maxRecDepth 20000 in
noncomputable def jt_271_1 : List (Option jm_I) := [some (.lcmp, 65, 0, 0, 0), some (.ifCond .eq 6, 68, 71, 0, 0), none, none, some (.iload 4, 70, 0, 0, 0), none, some (.ireturn, 71, 0, 0, 0), some (.iinc 4 1, 74, 0, 0, 0), none, none, some (.goto (-71), 77, 3, 0, 0), none, none, some (.aload_n 0, 78, 0, 0, 0), some (.getfield 74, 81, 10, 28, 1), none, none, some (.iload_n 1, 82, 0, 0, 0), some (.iaload, 83, 0, 0, 0), some (.iload_n 3, 84, 0, 0, 0), some (.if_icmp .le 7, 87, 91, 0, 0), none, none, some (.iload_n 3, 88, 0, 0, 0), some (.goto 4, 91, 92, 0, 0), none, none, some (.iconst (-1), 92, 0, 0, 0), some (.ireturn, 93, 0, 0, 0)]

noncomputable def jt_271 : List (List (Option jm_I)) := [jt_271_0, jt_271_1]

set_option maxRecDepth 20000 in
noncomputable def jt_272_0 : List (Option jm_I) := [some (.aload_n 0, 1, 0, 0, 0), some (.iload_n 1, 2, 0, 0, 0), some (.invokevirtual 134, 5, 178, 1, 10), none, none, some (.ifCond .eq 27, 8, 32, 0, 0), none, none, some (.iload_n 2, 9, 0, 0, 0), some (.i2l, 10, 0, 0, 0), some (.lconst 0, 11, 0, 0, 0), some (.ldc2_w 117, 14, 0, 0, 7), none, none, some (.invokestatic 110, 17, 169, 2, 0), none, none, some (.ifCond .eq 15, 20, 32, 0, 0), none, none, some (.iload_n 3, 21, 0, 0, 0), some (.i2l, 22, 0, 0, 0), some (.lconst 0, 23, 0, 0, 0), some (.ldc2_w 350, 26, 0, 0, 20), none, none, some (.invokestatic 110, 29, 169, 2, 0), none, none, some (.ifCond .ne 10, 32, 39, 0, 0), none, none, some (.aload_n 0, 33, 0, 0, 0), some (.bipush (-2), 35, 0, 0, 0), none, some (.invokevirtual 123, 38, 170, 1, 10), none, none, some (.ireturn, 39, 0, 0, 0), some (.aload_n 0, 40, 0, 0, 0), some (.iload_n 2, 41, 0, 0, 0), some (.iconst 2, 42, 0, 0, 0), some (.iload_n 3, 43, 0, 0, 0), some (.imul, 44, 0, 0, 0), some (.invokevirtual 297, 47, 229, 1, 10), none, none, some (.istore 4, 49, 0, 0, 0), none, some (.iload 4, 51, 0, 0, 0), none, some (.ifCond .eq 6, 54, 57, 0, 0), none, none, some (.iload 4, 56, 0, 0, 0), none, some (.ireturn, 57, 0, 0, 0), some (.aload_n 0, 58, 0, 0, 0), some (.invokevirtual 144, 61, 181, 1, 10), none, none, some (.aload_n 0, 62, 0, 0, 0), some (.iload_n 1, 63, 0, 0, 0), some (.iload_n 2, 64, 0, 0, 0)]

set_option maxRecDepth 20000 in
noncomputable def jt_272_1 : List (Option jm_I) := [some (.iload_n 3, 65, 0, 0, 0), some (.invokevirtual 352, 68, 271, 1, 10), none, none, some (.ireturn, 69, 0, 0, 0)]

noncomputable def jt_272 : List (List (Option jm_I)) := [jt_272_0, jt_272_1]

set_option maxRecDepth 20000 in
noncomputable def jt_273_0 : List (Option jm_I) := [some (.aload_n 0, 1, 0, 0, 0), some (.iload_n 1, 2, 0, 0, 0), some (.invokevirtual 134, 5, 178, 1, 10), none, none, some (.ifCond .eq 27, 8, 32, 0, 0), none, none, some (.iload_n 2, 9, 0, 0, 0), some (.i2l, 10, 0, 0, 0), some (.lconst 0, 11, 0, 0, 0), some (.ldc2_w 117, 14, 0, 0, 7), none, none, some (.invokestatic 110, 17, 169, 2, 0), none, none, some (.ifCond .eq 15, 20, 32, 0, 0), none, none, some (.iload_n 3, 21, 0, 0, 0), some (.i2l, 22, 0, 0, 0), some (.lconst 0, 23, 0, 0, 0), some (.ldc2_w 121, 26, 0, 0, 40), none, none, some (.invokestatic 110, 29, 169, 2, 0), none, none, some (.ifCond .ne 10, 32, 39, 0, 0), none, none, some (.aload_n 0, 33, 0, 0, 0), some (.bipush (-2), 35, 0, 0, 0), none, some (.invokevirtual 123, 38, 170, 1, 10), none, none, some (.ireturn, 39, 0, 0, 0), some (.aload_n 0, 40, 0, 0, 0), some (.iload_n 2, 41, 0, 0, 0), some (.iload_n 3, 42, 0, 0, 0), some (.invokevirtual 297, 45, 229, 1, 10), none, none, some (.istore 4, 47, 0, 0, 0), none, some (.iload 4, 49, 0, 0, 0), none, some (.ifCond .eq 6, 52, 55, 0, 0), none, none, some (.iload 4, 54, 0, 0, 0), none, some (.ireturn, 55, 0, 0, 0), some (.aload_n 0, 56, 0, 0, 0), some (.invokevirtual 144, 59, 181, 1, 10), none, none, some (.iconst 0, 60, 0, 0, 0), some (.istore 5, 62, 0, 0, 0), none, some (.iconst 0, 63, 0, 0, 0), some (.istore 6, 65, 0, 0, 0)]

set_option maxRecDepth 20000 in
noncomputable def jt_273_1 : List (Option jm_I) := [none, some (.iload 6, 67, 0, 0, 0), none, some (.iload_n 3, 68, 0, 0, 0), some (.if_icmp .ge 47, 71, 115, 0, 0), none, none, some (.iload 5, 73, 0, 0, 0), none, some (.aload_n 0, 74, 0, 0, 0), some (.getfield 74, 77, 10, 28, 1), none, none, some (.iload_n 1, 78, 0, 0, 0), some (.iaload, 79, 0, 0, 0), some (.if_icmp .ge 30, 82, 109, 0, 0), none, none, some (.aload_n 0, 83, 0, 0, 0), some (.iload_n 1, 84, 0, 0, 0), some (.iload 5, 86, 0, 0, 0), none, some (.invokevirtual 147, 89, 192, 1, 10), none, none, some (.i2l, 90, 0, 0, 0), some (.aload_n 0, 91, 0, 0, 0), some (.getfield 21, 94, 10, 3, 1), none, none, some (.iload_n 2, 95, 0, 0, 0), some (.aaload, 96, 0, 0, 0), some (.iload 6, 98, 0, 0, 0), none, some (.laload, 99, 0, 0, 0), some (.lcmp, 100, 0, 0, 0), some (.ifCond .ge 9, 103, 109, 0, 0), none, none, some (.iinc 5 1, 106, 0, 0, 0), none, none, some (.goto (-35), 109, 71, 0, 0), none, none, some (.iinc 6 1, 112, 0, 0, 0), none, none, some (.goto (-47), 115, 65, 0, 0), none, none, some (.iload 5, 117, 0, 0, 0), none, some (.aload_n 0, 118, 0, 0, 0), some (.getfield 74, 121, 10, 28, 1), none, none, some (.iload_n 1, 122, 0, 0, 0), some (.iaload, 123, 0, 0, 0), some (.if_icmp .ge 8, 126, 131, 0, 0), none, none, some (.iload 5, 128, 0, 0, 0), none]

set_option maxRecDepth 20000 in
noncomputable def jt_273_2 : List (Option jm_I) := [some (.goto 4, 131, 132, 0, 0), none, none, some (.iconst (-1), 132, 0, 0, 0), some (.ireturn, 133, 0, 0, 0)]

noncomputable def jt_273 : List (List (Option jm_I)) := [jt_273_0, jt_273_1, jt_273_2]

set_option maxRecDepth 20000 in
noncomputable def jt_274_0 : List (Option jm_I) := [some (.iload_n 1, 1, 0, 0, 0), some (.i2l, 2, 0, 0, 0), some (.ldc2_w 217, 5, 0, 0, 2), none, none, some (.ldc2_w 300, 8, 0, 0, 8), none, none, some (.invokestatic 110, 11, 169, 2, 0), none, none, some (.ifCond .eq 33, 14, 44, 0, 0), none, none, some (.iload_n 2, 15, 0, 0, 0), some (.i2l, 16, 0, 0, 0), some (.lconst 0, 17, 0, 0, 0), some (.ldc2_w 117, 20, 0, 0, 7), none, none, some (.invokestatic 110, 23, 169, 2, 0), none, none, some (.ifCond .eq 21, 26, 44, 0, 0), none, none, some (.iload_n 3, 27, 0, 0, 0), some (.i2l, 28, 0, 0, 0), some (.lconst 1, 29, 0, 0, 0), some (.ldc2_w 138, 32, 0, 0, 6), none, none, some (.invokestatic 110, 35, 169, 2, 0), none, none, some (.ifCond .eq 9, 38, 44, 0, 0), none, none, some (.iload 4, 40, 0, 0, 0), none, some (.iconst (-1), 41, 0, 0, 0), some (.if_icmp .ge 10, 44, 51, 0, 0), none, none, some (.aload_n 0, 45, 0, 0, 0), some (.bipush (-2), 47, 0, 0, 0), none, some (.invokevirtual 123, 50, 170, 1, 10), none, none, some (.ireturn, 51, 0, 0, 0), some (.aload_n 0, 52, 0, 0, 0), some (.iload_n 2, 53, 0, 0, 0), some (.iload_n 3, 54, 0, 0, 0), some (.invokevirtual 297, 57, 229, 1, 10), none, none, some (.istore 5, 59, 0, 0, 0), none, some (.iload 5, 61, 0, 0, 0), none, some (.ifCond .eq 6, 64, 67, 0, 0), none, none]

set_option maxRecDepth 20000 in
noncomputable def jt_274_1 : List (Option jm_I) := [some (.iload 5, 66, 0, 0, 0), none, some (.ireturn, 67, 0, 0, 0), some (.iconst 0, 68, 0, 0, 0), some (.istore 6, 70, 0, 0, 0), none, some (.iload 6, 72, 0, 0, 0), none, some (.iload_n 3, 73, 0, 0, 0), some (.if_icmp .ge 39, 76, 112, 0, 0), none, none, some (.aload_n 0, 77, 0, 0, 0), some (.getfield 21, 80, 10, 3, 1), none, none, some (.iload_n 2, 81, 0, 0, 0), some (.aaload, 82, 0, 0, 0), some (.iload 6, 84, 0, 0, 0), none, some (.laload, 85, 0, 0, 0), some (.lconst 0, 86, 0, 0, 0), some (.aload_n 0, 87, 0, 0, 0), some (.getfield 107, 90, 10, 10, 0), none, none, some (.iconst 1, 91, 0, 0, 0), some (.isub, 92, 0, 0, 0), some (.i2l, 93, 0, 0, 0), some (.invokestatic 110, 96, 169, 2, 0), none, none, some (.ifCond .ne 10, 99, 106, 0, 0), none, none, some (.aload_n 0, 100, 0, 0, 0), some (.bipush (-5), 102, 0, 0, 0), none, some (.invokevirtual 123, 105, 170, 1, 10), none, none, some (.ireturn, 106, 0, 0, 0), some (.iinc 6 1, 109, 0, 0, 0), none, none, some (.goto (-39), 112, 70, 0, 0), none, none, some (.aload_n 0, 113, 0, 0, 0), some (.invokevirtual 144, 116, 181, 1, 10), none, none, some (.aload_n 0, 117, 0, 0, 0), some (.getfield 21, 120, 10, 3, 1), none, none, some (.iload_n 2, 121, 0, 0, 0), some (.aaload, 122, 0, 0, 0), some (.iconst 0, 123, 0, 0, 0), some (.laload, 124, 0, 0, 0), some (.l2i, 125, 0, 0, 0), some (.istore 6, 127, 0, 0, 0), none, some (.iconst 1, 128, 0, 0, 0)]

set_option maxRecDepth 20000 in
noncomputable def jt_274_2 : List (Option jm_I) := [some (.istore 7, 130, 0, 0, 0), none, some (.iload 7, 132, 0, 0, 0), none, some (.iload_n 3, 133, 0, 0, 0), some (.if_icmp .ge 48, 136, 181, 0, 0), none, none, some (.iload 6, 138, 0, 0, 0), none, some (.bipush 24, 140, 0, 0, 0), none, some (.if_icmp .ne 8, 143, 148, 0, 0), none, none, some (.bipush 26, 145, 0, 0, 0), none, some (.goto 5, 148, 150, 0, 0), none, none, some (.bipush 24, 150, 0, 0, 0), none, some (.istore 8, 152, 0, 0, 0), none, some (.aload_n 0, 153, 0, 0, 0), some (.iload 8, 155, 0, 0, 0), none, some (.iload_n 1, 156, 0, 0, 0), some (.iload 6, 158, 0, 0, 0), none, some (.aload_n 0, 159, 0, 0, 0), some (.getfield 21, 162, 10, 3, 1), none, none, some (.iload_n 2, 163, 0, 0, 0), some (.aaload, 164, 0, 0, 0), some (.iload 7, 166, 0, 0, 0), none, some (.laload, 167, 0, 0, 0), some (.l2i, 168, 0, 0, 0), some (.invokevirtual 186, 171, 194, 1, 10), none, none, some (.iload 8, 173, 0, 0, 0), none, some (.istore 6, 175, 0, 0, 0), none, some (.iinc 7 1, 178, 0, 0, 0), none, none, some (.goto (-48), 181, 130, 0, 0), none, none, some (.iload 4, 183, 0, 0, 0), none, some (.iconst (-1), 184, 0, 0, 0), some (.if_icmp .ne 13, 187, 197, 0, 0), none, none, some (.aload_n 0, 188, 0, 0, 0), some (.getfield 74, 191, 10, 28, 1), none, none, some (.iload 6, 193, 0, 0, 0)]

set_option maxRecDepth 20000 in
noncomputable def jt_274_3 : List (Option jm_I) := [none, some (.iaload, 194, 0, 0, 0), some (.goto 27, 197, 221, 0, 0), none, none, some (.iload 4, 199, 0, 0, 0), none, some (.aload_n 0, 200, 0, 0, 0), some (.getfield 74, 203, 10, 28, 1), none, none, some (.iload 6, 205, 0, 0, 0), none, some (.iaload, 206, 0, 0, 0), some (.if_icmp .ge 14, 209, 220, 0, 0), none, none, some (.aload_n 0, 210, 0, 0, 0), some (.iload 6, 212, 0, 0, 0), none, some (.iload 4, 214, 0, 0, 0), none, some (.invokevirtual 321, 217, 243, 1, 10), none, none, some (.goto 4, 220, 221, 0, 0), none, none, some (.iconst (-1), 221, 0, 0, 0), some (.ireturn, 222, 0, 0, 0)]

noncomputable def jt_274 : List (List (Option jm_I)) := [jt_274_0, jt_274_1, jt_274_2, jt_274_3]

set_option maxRecDepth 20000 in
noncomputable def jt_275_0 : List (Option jm_I) := [some (.iload_n 1, 1, 0, 0, 0), some (.i2l, 2, 0, 0, 0), some (.lconst 1, 3, 0, 0, 0), some (.ldc2_w 302, 6, 0, 0, 60), none, none, some (.invokestatic 110, 9, 169, 2, 0), none, none, some (.ifCond .ne 10, 12, 19, 0, 0), none, none, some (.aload_n 0, 13, 0, 0, 0), some (.bipush (-2), 15, 0, 0, 0), none, some (.invokevirtual 123, 18, 170, 1, 10), none, none, some (.ireturn, 19, 0, 0, 0), some (.iconst 0, 20, 0, 0, 0), some (.istore_n 2, 21, 0, 0, 0), some (.iload_n 2, 22, 0, 0, 0), some (.iload_n 1, 23, 0, 0, 0), some (.if_icmp .ge 105, 26, 128, 0, 0), none, none, some (.aload_n 0, 27, 0, 0, 0), some (.bipush 16, 29, 0, 0, 0), none, some (.invokevirtual 356, 32, 276, 1, 10), none, none, some (.istore_n 3, 33, 0, 0, 0), some (.aload_n 0, 34, 0, 0, 0), some (.getfield 114, 37, 10, 9, 0), none, none, some (.bipush 60, 39, 0, 0, 0), none, some (.if_icmp .ge 11, 42, 50, 0, 0), none, none, some (.aload_n 0, 43, 0, 0, 0), some (.iload_n 3, 44, 0, 0, 0), some (.invokevirtual 214, 47, 201, 1, 10), none, none, some (.goto 15, 50, 62, 0, 0), none, none, some (.aload_n 0, 51, 0, 0, 0), some (.getfield 41, 54, 10, 12, 1), none, none, some (.aload_n 0, 55, 0, 0, 0), some (.bipush 60, 57, 0, 0, 0), none, some (.invokevirtual 356, 60, 276, 1, 10), none, none, some (.iload_n 3, 61, 0, 0, 0), some (.iastore, 62, 0, 0, 0), some (.aload_n 0, 63, 0, 0, 0), some (.bipush 8, 65, 0, 0, 0)]

set_option maxRecDepth 20000 in
noncomputable def jt_275_1 : List (Option jm_I) := [none, some (.invokevirtual 356, 68, 276, 1, 10), none, none, some (.istore 4, 70, 0, 0, 0), none, some (.iload 4, 72, 0, 0, 0), none, some (.ifCond .ne 18, 75, 90, 0, 0), none, none, some (.aload_n 0, 76, 0, 0, 0), some (.getfield 44, 79, 10, 13, 1), none, none, some (.aload_n 0, 80, 0, 0, 0), some (.getfield 114, 83, 10, 9, 0), none, none, some (.iconst 1, 84, 0, 0, 0), some (.isub, 85, 0, 0, 0), some (.iconst 2, 86, 0, 0, 0), some (.iastore, 87, 0, 0, 0), some (.goto 35, 90, 122, 0, 0), none, none, some (.iload 4, 92, 0, 0, 0), none, some (.iconst 2, 93, 0, 0, 0), some (.if_icmp .gt 29, 96, 122, 0, 0), none, none, some (.aload_n 0, 97, 0, 0, 0), some (.getfield 44, 100, 10, 13, 1), none, none, some (.aload_n 0, 101, 0, 0, 0), some (.getfield 114, 104, 10, 9, 0), none, none, some (.iconst 1, 105, 0, 0, 0), some (.isub, 106, 0, 0, 0), some (.iaload, 107, 0, 0, 0), some (.ifCond .ne 15, 110, 122, 0, 0), none, none, some (.aload_n 0, 111, 0, 0, 0), some (.getfield 44, 114, 10, 13, 1), none, none, some (.aload_n 0, 115, 0, 0, 0), some (.getfield 114, 118, 10, 9, 0), none, none, some (.iconst 1, 119, 0, 0, 0), some (.isub, 120, 0, 0, 0), some (.iconst 1, 121, 0, 0, 0), some (.iastore, 122, 0, 0, 0), some (.iinc 2 1, 125, 0, 0, 0), none, none, some (.goto (-104), 128, 21, 0, 0), none, none]

set_option maxRecDepth 20000 in
noncomputable def jt_275_2 : List (Option jm_I) := [some (.aload_n 0, 129, 0, 0, 0), some (.iconst 0, 130, 0, 0, 0), some (.putfield 205, 133, 10, 26, 2), none, none, some (.aload_n 0, 134, 0, 0, 0), some (.getfield 114, 137, 10, 9, 0), none, none, some (.ireturn, 138, 0, 0, 0)]

noncomputable def jt_275 : List (List (Option jm_I)) := [jt_275_0, jt_275_1, jt_275_2]

set_option maxRecDepth 20000 in
noncomputable def jt_276_0 : List (Option jm_I) := [some (.aload_n 0, 1, 0, 0, 0), some (.aload_n 0, 2, 0, 0, 0), some (.getfield 37, 5, 10, 11, 0), none, none, some (.ldc_w 355, 8, 0, 0, 1103515245), none, none, some (.imul, 9, 0, 0, 0), some (.sipush 12345, 12, 0, 0, 0), none, none, some (.iadd, 13, 0, 0, 0), some (.putfield 37, 16, 10, 11, 0), none, none, some (.aload_n 0, 17, 0, 0, 0), some (.getfield 37, 20, 10, 11, 0), none, none, some (.bipush 16, 22, 0, 0, 0), none, some (.iushr, 23, 0, 0, 0), some (.iload_n 1, 24, 0, 0, 0), some (.irem, 25, 0, 0, 0), some (.ireturn, 26, 0, 0, 0)]

noncomputable def jt_276 : List (List (Option jm_I)) := [jt_276_0]

set_option maxRecDepth 20000 in
noncomputable def jt_277_0 : List (Option jm_I) := [some (.aload_n 0, 1, 0, 0, 0), some (.getfield 37, 4, 10, 11, 0), none, none, some (.istore_n 2, 5, 0, 0, 0), some (.aload_n 0, 6, 0, 0, 0), some (.iload_n 1, 7, 0, 0, 0), some (.putfield 37, 10, 10, 11, 0), none, none, some (.iload_n 2, 11, 0, 0, 0), some (.ireturn, 12, 0, 0, 0)]

noncomputable def jt_277 : List (List (Option jm_I)) := [jt_277_0]

set_option maxRecDepth 20000 in
noncomputable def jt_278_0 : List (Option jm_I) := [some (.aload_n 0, 1, 0, 0, 0), some (.iconst 1, 2, 0, 0, 0), some (.putfield 359, 5, 10, 17, 2), none, none, some (.aload_n 0, 6, 0, 0, 0), some (.aload_n 0, 7, 0, 0, 0), some (.getfield 114, 10, 10, 9, 0), none, none, some (.putfield 362, 13, 10, 18, 0), none, none, some (.aload_n 0, 14, 0, 0, 0), some (.aload_n 0, 15, 0, 0, 0), some (.getfield 107, 18, 10, 10, 0), none, none, some (.putfield 365, 21, 10, 19, 0), none, none, some (.aload_n 0, 22, 0, 0, 0), some (.aload_n 0, 23, 0, 0, 0), some (.getfield 37, 26, 10, 11, 0), none, none, some (.putfield 368, 29, 10, 20, 0), none, none, some (.aload_n 0, 30, 0, 0, 0), some (.getfield 41, 33, 10, 12, 1), none, none, some (.aload_n 0, 34, 0, 0, 0), some (.getfield 56, 37, 10, 21, 1), none, none, some (.invokestatic 371, 40, 279, 2, 0), none, none, some (.aload_n 0, 41, 0, 0, 0), some (.getfield 44, 44, 10, 13, 1), none, none, some (.aload_n 0, 45, 0, 0, 0), some (.getfield 59, 48, 10, 22, 1), none, none, some (.invokestatic 371, 51, 279, 2, 0), none, none, some (.aload_n 0, 52, 0, 0, 0), some (.getfield 47, 55, 10, 14, 1), none, none, some (.aload_n 0, 56, 0, 0, 0), some (.getfield 62, 59, 10, 23, 1), none, none, some (.invokestatic 371, 62, 279, 2, 0), none, none, some (.aload_n 0, 63, 0, 0, 0), some (.getfield 50, 66, 10, 15, 1)]

set_option maxRecDepth 20000 in
noncomputable def jt_278_1 : List (Option jm_I) := [none, none, some (.aload_n 0, 67, 0, 0, 0), some (.getfield 65, 70, 10, 24, 1), none, none, some (.invokestatic 371, 73, 279, 2, 0), none, none, some (.aload_n 0, 74, 0, 0, 0), some (.getfield 53, 77, 10, 16, 1), none, none, some (.aload_n 0, 78, 0, 0, 0), some (.getfield 68, 81, 10, 25, 1), none, none, some (.invokestatic 371, 84, 279, 2, 0), none, none, some (.iconst 1, 85, 0, 0, 0), some (.ireturn, 86, 0, 0, 0)]

noncomputable def jt_278 : List (List (Option jm_I)) := [jt_278_0, jt_278_1]

set_option maxRecDepth 20000 in
noncomputable def jt_279_0 : List (Option jm_I) := [some (.iconst 0, 1, 0, 0, 0), some (.istore_n 2, 2, 0, 0, 0), some (.iload_n 2, 3, 0, 0, 0), some (.aload_n 1, 4, 0, 0, 0), some (.arraylength, 5, 0, 0, 0), some (.if_icmp .ge 15, 8, 20, 0, 0), none, none, some (.aload_n 1, 9, 0, 0, 0), some (.iload_n 2, 10, 0, 0, 0), some (.aload_n 0, 11, 0, 0, 0), some (.iload_n 2, 12, 0, 0, 0), some (.iaload, 13, 0, 0, 0), some (.iastore, 14, 0, 0, 0), some (.iinc 2 1, 17, 0, 0, 0), none, none, some (.goto (-15), 20, 2, 0, 0), none, none, some (.return_, 21, 0, 0, 0)]

noncomputable def jt_279 : List (List (Option jm_I)) := [jt_279_0]

set_option maxRecDepth 20000 in
noncomputable def jt_280_0 : List (Option jm_I) := [some (.aload_n 0, 1, 0, 0, 0), some (.getfield 359, 4, 10, 17, 2), none, none, some (.ifCond .ne 10, 7, 14, 0, 0), none, none, some (.aload_n 0, 8, 0, 0, 0), some (.bipush (-5), 10, 0, 0, 0), none, some (.invokevirtual 123, 13, 170, 1, 10), none, none, some (.ireturn, 14, 0, 0, 0), some (.aload_n 0, 15, 0, 0, 0), some (.aload_n 0, 16, 0, 0, 0), some (.getfield 362, 19, 10, 18, 0), none, none, some (.putfield 114, 22, 10, 9, 0), none, none, some (.aload_n 0, 23, 0, 0, 0), some (.aload_n 0, 24, 0, 0, 0), some (.getfield 365, 27, 10, 19, 0), none, none, some (.putfield 107, 30, 10, 10, 0), none, none, some (.aload_n 0, 31, 0, 0, 0), some (.aload_n 0, 32, 0, 0, 0), some (.getfield 368, 35, 10, 20, 0), none, none, some (.putfield 37, 38, 10, 11, 0), none, none, some (.aload_n 0, 39, 0, 0, 0), some (.getfield 56, 42, 10, 21, 1), none, none, some (.aload_n 0, 43, 0, 0, 0), some (.getfield 41, 46, 10, 12, 1), none, none, some (.invokestatic 371, 49, 279, 2, 0), none, none, some (.aload_n 0, 50, 0, 0, 0), some (.getfield 59, 53, 10, 22, 1), none, none, some (.aload_n 0, 54, 0, 0, 0), some (.getfield 44, 57, 10, 13, 1), none, none, some (.invokestatic 371, 60, 279, 2, 0), none, none, some (.aload_n 0, 61, 0, 0, 0), some (.getfield 62, 64, 10, 23, 1), none, none]

set_option maxRecDepth 20000 in
noncomputable def jt_280_1 : List (Option jm_I) := [some (.aload_n 0, 65, 0, 0, 0), some (.getfield 47, 68, 10, 14, 1), none, none, some (.invokestatic 371, 71, 279, 2, 0), none, none, some (.aload_n 0, 72, 0, 0, 0), some (.getfield 65, 75, 10, 24, 1), none, none, some (.aload_n 0, 76, 0, 0, 0), some (.getfield 50, 79, 10, 15, 1), none, none, some (.invokestatic 371, 82, 279, 2, 0), none, none, some (.aload_n 0, 83, 0, 0, 0), some (.getfield 68, 86, 10, 25, 1), none, none, some (.aload_n 0, 87, 0, 0, 0), some (.getfield 53, 90, 10, 16, 1), none, none, some (.invokestatic 371, 93, 279, 2, 0), none, none, some (.aload_n 0, 94, 0, 0, 0), some (.iconst 0, 95, 0, 0, 0), some (.putfield 205, 98, 10, 26, 2), none, none, some (.iconst 0, 99, 0, 0, 0), some (.istore_n 1, 100, 0, 0, 0), some (.iload_n 1, 101, 0, 0, 0), some (.bipush 8, 103, 0, 0, 0), none, some (.if_icmp .ge 48, 106, 151, 0, 0), none, none, some (.aload_n 0, 107, 0, 0, 0), some (.getfield 9, 110, 10, 0, 1), none, none, some (.iload_n 1, 111, 0, 0, 0), some (.aload_n 0, 112, 0, 0, 0), some (.getfield 9, 115, 10, 0, 1), none, none, some (.iload_n 1, 116, 0, 0, 0), some (.iaload, 117, 0, 0, 0), some (.iconst 2, 118, 0, 0, 0), some (.if_icmp .ne 20, 121, 138, 0, 0), none, none, some (.aload_n 0, 122, 0, 0, 0), some (.getfield 28, 125, 10, 5, 1), none, none, some (.iload_n 1, 126, 0, 0, 0), some (.iaload, 127, 0, 0, 0), some (.aload_n 0, 128, 0, 0, 0)]

set_option maxRecDepth 20000 in
noncomputable def jt_280_2 : List (Option jm_I) := [some (.getfield 107, 131, 10, 10, 0), none, none, some (.if_icmp .lt 7, 134, 138, 0, 0), none, none, some (.iconst 0, 135, 0, 0, 0), some (.goto 9, 138, 144, 0, 0), none, none, some (.aload_n 0, 139, 0, 0, 0), some (.getfield 9, 142, 10, 0, 1), none, none, some (.iload_n 1, 143, 0, 0, 0), some (.iaload, 144, 0, 0, 0), some (.iastore, 145, 0, 0, 0), some (.iinc 1 1, 148, 0, 0, 0), none, none, some (.goto (-48), 151, 100, 0, 0), none, none, some (.iconst 1, 152, 0, 0, 0), some (.ireturn, 153, 0, 0, 0)]

noncomputable def jt_280 : List (List (Option jm_I)) := [jt_280_0, jt_280_1, jt_280_2]

set_option maxRecDepth 20000 in
noncomputable def jt_281_0 : List (Option jm_I) := [some (.iconst 0, 1, 0, 0, 0), some (.istore_n 2, 2, 0, 0, 0), some (.iload_n 1, 3, 0, 0, 0), some (.tableswitch 192 0 8 #[49, 54, 79, 84, 89, 121, 149, 154, 159], 52, 0, 0, 0), none, none, none, none, none, none, none, none, none, none, none, none, none, none, none, none, none, none, none, none, none, none, none, none, none, none, none, none, none, none, none, none, none, none, none, none, none, none, none, none, none, none, none, none, none, none, none, none, some (.aload_n 0, 53, 0, 0, 0), some (.getfield 114, 56, 10, 9, 0), none, none, some (.ireturn, 57, 0, 0, 0), some (.aload_n 0, 58, 0, 0, 0), some (.getfield 114, 61, 10, 9, 0), none, none, some (.ifCond .ne 7, 64, 68, 0, 0), none, none]

set_option maxRecDepth 20000 in
noncomputable def jt_281_1 : List (Option jm_I) := [some (.iconst 0, 65, 0, 0, 0), some (.goto 16, 68, 81, 0, 0), none, none, some (.aload_n 0, 69, 0, 0, 0), some (.aload_n 0, 70, 0, 0, 0), some (.getfield 114, 73, 10, 9, 0), none, none, some (.iconst 1, 74, 0, 0, 0), some (.isub, 75, 0, 0, 0), some (.iconst 1, 76, 0, 0, 0), some (.invokevirtual 318, 79, 240, 1, 10), none, none, some (.iconst 1, 80, 0, 0, 0), some (.iadd, 81, 0, 0, 0), some (.ireturn, 82, 0, 0, 0), some (.aload_n 0, 83, 0, 0, 0), some (.invokevirtual 330, 86, 254, 1, 10), none, none, some (.ireturn, 87, 0, 0, 0), some (.aload_n 0, 88, 0, 0, 0), some (.getfield 107, 91, 10, 10, 0), none, none, some (.ireturn, 92, 0, 0, 0), some (.iconst 0, 93, 0, 0, 0), some (.istore_n 3, 94, 0, 0, 0), some (.iload_n 3, 95, 0, 0, 0), some (.aload_n 0, 96, 0, 0, 0), some (.getfield 114, 99, 10, 9, 0), none, none, some (.if_icmp .ge 20, 102, 119, 0, 0), none, none, some (.iload_n 2, 103, 0, 0, 0), some (.iconst 1, 104, 0, 0, 0), some (.aload_n 0, 105, 0, 0, 0), some (.getfield 41, 108, 10, 12, 1), none, none, some (.iload_n 3, 109, 0, 0, 0), some (.iaload, 110, 0, 0, 0), some (.ishl, 111, 0, 0, 0), some (.ior, 112, 0, 0, 0), some (.istore_n 2, 113, 0, 0, 0), some (.iinc 3 1, 116, 0, 0, 0), none, none, some (.goto (-22), 119, 94, 0, 0), none, none, some (.iload_n 2, 120, 0, 0, 0), some (.invokestatic 375, 123, 282, 2, 0), none, none, some (.ireturn, 124, 0, 0, 0), some (.iconst 0, 125, 0, 0, 0), some (.istore_n 3, 126, 0, 0, 0), some (.iload_n 3, 127, 0, 0, 0), some (.bipush 16, 129, 0, 0, 0)]

set_option maxRecDepth 20000 in
noncomputable def jt_281_2 : List (Option jm_I) := [none, some (.if_icmp .ge 21, 132, 150, 0, 0), none, none, some (.iload_n 2, 133, 0, 0, 0), some (.aload_n 0, 134, 0, 0, 0), some (.getfield 47, 137, 10, 14, 1), none, none, some (.iload_n 3, 138, 0, 0, 0), some (.iaload, 139, 0, 0, 0), some (.invokestatic 375, 142, 282, 2, 0), none, none, some (.iadd, 143, 0, 0, 0), some (.istore_n 2, 144, 0, 0, 0), some (.iinc 3 1, 147, 0, 0, 0), none, none, some (.goto (-21), 150, 126, 0, 0), none, none, some (.iload_n 2, 151, 0, 0, 0), some (.ireturn, 152, 0, 0, 0), some (.aload_n 0, 153, 0, 0, 0), some (.getfield 224, 156, 10, 7, 0), none, none, some (.ireturn, 157, 0, 0, 0), some (.aload_n 0, 158, 0, 0, 0), some (.getfield 37, 161, 10, 11, 0), none, none, some (.ireturn, 162, 0, 0, 0), some (.iconst 0, 163, 0, 0, 0), some (.istore_n 3, 164, 0, 0, 0), some (.iload_n 3, 165, 0, 0, 0), some (.bipush 8, 167, 0, 0, 0), none, some (.if_icmp .ge 26, 170, 193, 0, 0), none, none, some (.iload_n 2, 171, 0, 0, 0), some (.aload_n 0, 172, 0, 0, 0), some (.getfield 9, 175, 10, 0, 1), none, none, some (.iload_n 3, 176, 0, 0, 0), some (.iaload, 177, 0, 0, 0), some (.ifCond .eq 7, 180, 184, 0, 0), none, none, some (.iconst 1, 181, 0, 0, 0), some (.goto 4, 184, 185, 0, 0), none, none, some (.iconst 0, 185, 0, 0, 0), some (.iadd, 186, 0, 0, 0), some (.istore_n 2, 187, 0, 0, 0), some (.iinc 3 1, 190, 0, 0, 0), none, none, some (.goto (-26), 193, 164, 0, 0), none]

set_option maxRecDepth 20000 in
noncomputable def jt_281_3 : List (Option jm_I) := [none, some (.iload_n 2, 194, 0, 0, 0), some (.ireturn, 195, 0, 0, 0), some (.iload_n 1, 196, 0, 0, 0), some (.i2l, 197, 0, 0, 0), some (.ldc2_w 378, 200, 0, 0, 12), none, none, some (.ldc2_w 380, 203, 0, 0, 16), none, none, some (.invokestatic 110, 206, 169, 2, 0), none, none, some (.ifCond .eq 15, 209, 221, 0, 0), none, none, some (.aload_n 0, 210, 0, 0, 0), some (.getfield 34, 213, 10, 8, 1), none, none, some (.iload_n 1, 214, 0, 0, 0), some (.bipush 10, 216, 0, 0, 0), none, some (.isub, 217, 0, 0, 0), some (.iaload, 218, 0, 0, 0), some (.goto 4, 221, 222, 0, 0), none, none, some (.iconst (-1), 222, 0, 0, 0), some (.ireturn, 223, 0, 0, 0)]

noncomputable def jt_281 : List (List (Option jm_I)) := [jt_281_0, jt_281_1, jt_281_2, jt_281_3]

set_option maxRecDepth 20000 in
noncomputable def jt_282_0 : List (Option jm_I) := [some (.iconst 0, 1, 0, 0, 0), some (.istore_n 1, 2, 0, 0, 0), some (.iload_n 0, 3, 0, 0, 0), some (.istore_n 2, 4, 0, 0, 0), some (.iload_n 2, 5, 0, 0, 0), some (.ifCond .eq 15, 8, 20, 0, 0), none, none, some (.iinc 1 1, 11, 0, 0, 0), none, none, some (.iload_n 2, 12, 0, 0, 0), some (.iload_n 2, 13, 0, 0, 0), some (.iconst 1, 14, 0, 0, 0), some (.isub, 15, 0, 0, 0), some (.iand, 16, 0, 0, 0), some (.istore_n 2, 17, 0, 0, 0), some (.goto (-13), 20, 4, 0, 0), none, none, some (.iload_n 1, 21, 0, 0, 0), some (.ireturn, 22, 0, 0, 0)]

noncomputable def jt_282 : List (List (Option jm_I)) := [jt_282_0]

set_option maxRecDepth 20000 in
noncomputable def jt_283_0 : List (Option jm_I) := [some (.new 7, 3, 9, 12, 0), none, none, some (.dup, 4, 0, 0, 0), some (.invokespecial 9, 7, 0, 3, 0), none, none, some (.astore_n 1, 8, 0, 0, 0), some (.new 10, 11, 10, 42, 0), none, none, some (.dup, 12, 0, 0, 0), some (.invokespecial 12, 15, 167, 3, 0), none, none, some (.astore_n 2, 16, 0, 0, 0), some (.iconst 0, 17, 0, 0, 0), some (.istore_n 3, 18, 0, 0, 0), some (.iload_n 3, 19, 0, 0, 0), some (.aload_n 0, 20, 0, 0, 0), some (.arraylength, 21, 0, 0, 0), some (.bipush 6, 23, 0, 0, 0), none, some (.isub, 24, 0, 0, 0), some (.if_icmp .gt 1962, 27, 1986, 0, 0), none, none, some (.aload_n 0, 28, 0, 0, 0), some (.iload_n 3, 29, 0, 0, 0), some (.iaload, 30, 0, 0, 0), some (.bipush 63, 32, 0, 0, 0), none, some (.iand, 33, 0, 0, 0), some (.tableswitch 1947 0 52 #[227, 270, 343, 406, 440, 463, 496, 529, 552, 575, 608, 651, 674, 687, 700, 713, 736, 769, 812, 835, 868, 921, 934, 967, 1000, 1023, 1056, 1099, 1132, 1155, 1188, 1221, 1254, 1287, 1320, 1353, 1396, 1429, 1472, 1505, 1528, 1551, 1584, 1627, 1660, 1713, 1756, 1799, 1852, 1875, 1898, 1911, 1924], 260, 0, 0, 0), none, none, none, none, none, none, none, none, none, none, none, none, none, none, none, none, none, none, none, none, none, none, none, none, none, none, none, none, none, none]

set_option maxRecDepth 20000 in
noncomputable def jt_283_1 : List (Option jm_I) := [none, none, none, none, none, none, none, none, none, none, none, none, none, none, none, none, none, none, none, none, none, none, none, none, none, none, none, none, none, none, none, none, none, none, none, none, none, none, none, none, none, none, none, none, none, none, none, none, none, none, none, none, none, none, none, none, none, none, none, none, none, none, none, none]

set_option maxRecDepth 20000 in
noncomputable def jt_283_2 : List (Option jm_I) := [none, none, none, none, none, none, none, none, none, none, none, none, none, none, none, none, none, none, none, none, none, none, none, none, none, none, none, none, none, none, none, none, none, none, none, none, none, none, none, none, none, none, none, none, none, none, none, none, none, none, none, none, none, none, none, none, none, none, none, none, none, none, none, none]

set_option maxRecDepth 20000 in
noncomputable def jt_283_3 : List (Option jm_I) := [none, none, none, none, none, none, none, none, none, none, none, none, none, none, none, none, none, none, none, none, none, none, none, none, none, none, none, none, none, none, none, none, none, none, none, none, none, none, none, none, none, none, none, none, none, none, none, none, none, none, none, none, none, none, none, none, none, none, none, none, none, none, none, none]

set_option maxRecDepth 20000 in
noncomputable def jt_283_4 : List (Option jm_I) := [none, none, none, none, some (.aload_n 1, 261, 0, 0, 0), some (.aload_n 0, 262, 0, 0, 0), some (.iload_n 3, 263, 0, 0, 0), some (.iconst 1, 264, 0, 0, 0), some (.iadd, 265, 0, 0, 0), some (.iaload, 266, 0, 0, 0), some (.aload_n 0, 267, 0, 0, 0), some (.iload_n 3, 268, 0, 0, 0), some (.iconst 2, 269, 0, 0, 0), some (.iadd, 270, 0, 0, 0), some (.iaload, 271, 0, 0, 0), some (.aload_n 0, 272, 0, 0, 0), some (.iload_n 3, 273, 0, 0, 0), some (.iconst 3, 274, 0, 0, 0), some (.iadd, 275, 0, 0, 0), some (.iaload, 276, 0, 0, 0), some (.invokevirtual 13, 279, 11, 1, 9), none, none, some (.aload_n 2, 280, 0, 0, 0), some (.aload_n 0, 281, 0, 0, 0), some (.iload_n 3, 282, 0, 0, 0), some (.iconst 1, 283, 0, 0, 0), some (.iadd, 284, 0, 0, 0), some (.iaload, 285, 0, 0, 0), some (.aload_n 0, 286, 0, 0, 0), some (.iload_n 3, 287, 0, 0, 0), some (.iconst 2, 288, 0, 0, 0), some (.iadd, 289, 0, 0, 0), some (.iaload, 290, 0, 0, 0), some (.aload_n 0, 291, 0, 0, 0), some (.iload_n 3, 292, 0, 0, 0), some (.iconst 3, 293, 0, 0, 0), some (.iadd, 294, 0, 0, 0), some (.iaload, 295, 0, 0, 0), some (.invokevirtual 17, 298, 168, 1, 10), none, none, some (.if_icmp .eq 1682, 301, 1980, 0, 0), none, none, some (.iconst 0, 302, 0, 0, 0), some (.ireturn, 303, 1, 0, 0), some (.aload_n 1, 304, 0, 0, 0), some (.aload_n 0, 305, 0, 0, 0), some (.iload_n 3, 306, 0, 0, 0), some (.iconst 1, 307, 0, 0, 0), some (.iadd, 308, 0, 0, 0), some (.iaload, 309, 0, 0, 0), some (.aload_n 0, 310, 0, 0, 0), some (.iload_n 3, 311, 0, 0, 0), some (.iconst 2, 312, 0, 0, 0), some (.iadd, 313, 0, 0, 0), some (.iaload, 314, 0, 0, 0), some (.aload_n 0, 315, 0, 0, 0), some (.iload_n 3, 316, 0, 0, 0), some (.iconst 3, 317, 0, 0, 0), some (.iadd, 318, 0, 0, 0), some (.iaload, 319, 0, 0, 0), some (.i2l, 320, 0, 0, 0)]

set_option maxRecDepth 20000 in
noncomputable def jt_283_5 : List (Option jm_I) := [some (.bipush 32, 322, 0, 0, 0), none, some (.lshl, 323, 0, 0, 0), some (.aload_n 0, 324, 0, 0, 0), some (.iload_n 3, 325, 0, 0, 0), some (.iconst 4, 326, 0, 0, 0), some (.iadd, 327, 0, 0, 0), some (.iaload, 328, 0, 0, 0), some (.i2l, 329, 0, 0, 0), some (.ldc2_w 18, 332, 0, 0, 4294967295), none, none, some (.land, 333, 0, 0, 0), some (.lor, 334, 0, 0, 0), some (.invokevirtual 20, 337, 16, 1, 9), none, none, some (.aload_n 2, 338, 0, 0, 0), some (.aload_n 0, 339, 0, 0, 0), some (.iload_n 3, 340, 0, 0, 0), some (.iconst 1, 341, 0, 0, 0), some (.iadd, 342, 0, 0, 0), some (.iaload, 343, 0, 0, 0), some (.aload_n 0, 344, 0, 0, 0), some (.iload_n 3, 345, 0, 0, 0), some (.iconst 2, 346, 0, 0, 0), some (.iadd, 347, 0, 0, 0), some (.iaload, 348, 0, 0, 0), some (.aload_n 0, 349, 0, 0, 0), some (.iload_n 3, 350, 0, 0, 0), some (.iconst 3, 351, 0, 0, 0), some (.iadd, 352, 0, 0, 0), some (.iaload, 353, 0, 0, 0), some (.i2l, 354, 0, 0, 0), some (.bipush 32, 356, 0, 0, 0), none, some (.lshl, 357, 0, 0, 0), some (.aload_n 0, 358, 0, 0, 0), some (.iload_n 3, 359, 0, 0, 0), some (.iconst 4, 360, 0, 0, 0), some (.iadd, 361, 0, 0, 0), some (.iaload, 362, 0, 0, 0), some (.i2l, 363, 0, 0, 0), some (.ldc2_w 18, 366, 0, 0, 4294967295), none, none, some (.land, 367, 0, 0, 0), some (.lor, 368, 0, 0, 0), some (.invokevirtual 24, 371, 171, 1, 10), none, none, some (.if_icmp .eq 1609, 374, 1980, 0, 0), none, none, some (.iconst 0, 375, 0, 0, 0), some (.ireturn, 376, 1, 0, 0), some (.aload_n 1, 377, 0, 0, 0), some (.aload_n 0, 378, 0, 0, 0), some (.iload_n 3, 379, 0, 0, 0), some (.iconst 1, 380, 0, 0, 0), some (.iadd, 381, 0, 0, 0), some (.iaload, 382, 0, 0, 0), some (.aload_n 0, 383, 0, 0, 0), some (.iload_n 3, 384, 0, 0, 0)]

set_option maxRecDepth 20000 in
noncomputable def jt_283_6 : List (Option jm_I) := [some (.iconst 2, 385, 0, 0, 0), some (.iadd, 386, 0, 0, 0), some (.iaload, 387, 0, 0, 0), some (.aload_n 0, 388, 0, 0, 0), some (.iload_n 3, 389, 0, 0, 0), some (.iconst 3, 390, 0, 0, 0), some (.iadd, 391, 0, 0, 0), some (.iaload, 392, 0, 0, 0), some (.aload_n 0, 393, 0, 0, 0), some (.iload_n 3, 394, 0, 0, 0), some (.iconst 4, 395, 0, 0, 0), some (.iadd, 396, 0, 0, 0), some (.iaload, 397, 0, 0, 0), some (.aload_n 0, 398, 0, 0, 0), some (.iload_n 3, 399, 0, 0, 0), some (.iconst 5, 400, 0, 0, 0), some (.iadd, 401, 0, 0, 0), some (.iaload, 402, 0, 0, 0), some (.invokevirtual 25, 405, 22, 1, 9), none, none, some (.aload_n 2, 406, 0, 0, 0), some (.aload_n 0, 407, 0, 0, 0), some (.iload_n 3, 408, 0, 0, 0), some (.iconst 1, 409, 0, 0, 0), some (.iadd, 410, 0, 0, 0), some (.iaload, 411, 0, 0, 0), some (.aload_n 0, 412, 0, 0, 0), some (.iload_n 3, 413, 0, 0, 0), some (.iconst 2, 414, 0, 0, 0), some (.iadd, 415, 0, 0, 0), some (.iaload, 416, 0, 0, 0), some (.aload_n 0, 417, 0, 0, 0), some (.iload_n 3, 418, 0, 0, 0), some (.iconst 3, 419, 0, 0, 0), some (.iadd, 420, 0, 0, 0), some (.iaload, 421, 0, 0, 0), some (.aload_n 0, 422, 0, 0, 0), some (.iload_n 3, 423, 0, 0, 0), some (.iconst 4, 424, 0, 0, 0), some (.iadd, 425, 0, 0, 0), some (.iaload, 426, 0, 0, 0), some (.aload_n 0, 427, 0, 0, 0), some (.iload_n 3, 428, 0, 0, 0), some (.iconst 5, 429, 0, 0, 0), some (.iadd, 430, 0, 0, 0), some (.iaload, 431, 0, 0, 0), some (.invokevirtual 29, 434, 174, 1, 10), none, none, some (.if_icmp .eq 1546, 437, 1980, 0, 0), none, none, some (.iconst 0, 438, 0, 0, 0), some (.ireturn, 439, 1, 0, 0), some (.aload_n 1, 440, 0, 0, 0), some (.aload_n 0, 441, 0, 0, 0), some (.iload_n 3, 442, 0, 0, 0), some (.iconst 1, 443, 0, 0, 0), some (.iadd, 444, 0, 0, 0), some (.iaload, 445, 0, 0, 0), some (.aload_n 0, 446, 0, 0, 0), some (.iload_n 3, 447, 0, 0, 0), some (.iconst 2, 448, 0, 0, 0)]

set_option maxRecDepth 20000 in
noncomputable def jt_283_7 : List (Option jm_I) := [some (.iadd, 449, 0, 0, 0), some (.iaload, 450, 0, 0, 0), some (.invokevirtual 30, 453, 24, 1, 9), none, none, some (.aload_n 2, 454, 0, 0, 0), some (.aload_n 0, 455, 0, 0, 0), some (.iload_n 3, 456, 0, 0, 0), some (.iconst 1, 457, 0, 0, 0), some (.iadd, 458, 0, 0, 0), some (.iaload, 459, 0, 0, 0), some (.aload_n 0, 460, 0, 0, 0), some (.iload_n 3, 461, 0, 0, 0), some (.iconst 2, 462, 0, 0, 0), some (.iadd, 463, 0, 0, 0), some (.iaload, 464, 0, 0, 0), some (.invokevirtual 34, 467, 175, 1, 10), none, none, some (.lcmp, 468, 0, 0, 0), some (.ifCond .eq 1512, 471, 1980, 0, 0), none, none, some (.iconst 0, 472, 0, 0, 0), some (.ireturn, 473, 1, 0, 0), some (.aload_n 1, 474, 0, 0, 0), some (.aload_n 0, 475, 0, 0, 0), some (.iload_n 3, 476, 0, 0, 0), some (.iconst 1, 477, 0, 0, 0), some (.iadd, 478, 0, 0, 0), some (.iaload, 479, 0, 0, 0), some (.invokevirtual 35, 482, 25, 1, 9), none, none, some (.aload_n 2, 483, 0, 0, 0), some (.aload_n 0, 484, 0, 0, 0), some (.iload_n 3, 485, 0, 0, 0), some (.iconst 1, 486, 0, 0, 0), some (.iadd, 487, 0, 0, 0), some (.iaload, 488, 0, 0, 0), some (.invokevirtual 39, 491, 176, 1, 10), none, none, some (.if_icmp .eq 1489, 494, 1980, 0, 0), none, none, some (.iconst 0, 495, 0, 0, 0), some (.ireturn, 496, 1, 0, 0), some (.aload_n 1, 497, 0, 0, 0), some (.aload_n 0, 498, 0, 0, 0), some (.iload_n 3, 499, 0, 0, 0), some (.iconst 1, 500, 0, 0, 0), some (.iadd, 501, 0, 0, 0), some (.iaload, 502, 0, 0, 0), some (.aload_n 0, 503, 0, 0, 0), some (.iload_n 3, 504, 0, 0, 0), some (.iconst 2, 505, 0, 0, 0), some (.iadd, 506, 0, 0, 0), some (.iaload, 507, 0, 0, 0), some (.invokevirtual 40, 510, 26, 1, 9), none, none, some (.aload_n 2, 511, 0, 0, 0), some (.aload_n 0, 512, 0, 0, 0)]

set_option maxRecDepth 20000 in
noncomputable def jt_283_8 : List (Option jm_I) := [some (.iload_n 3, 513, 0, 0, 0), some (.iconst 1, 514, 0, 0, 0), some (.iadd, 515, 0, 0, 0), some (.iaload, 516, 0, 0, 0), some (.aload_n 0, 517, 0, 0, 0), some (.iload_n 3, 518, 0, 0, 0), some (.iconst 2, 519, 0, 0, 0), some (.iadd, 520, 0, 0, 0), some (.iaload, 521, 0, 0, 0), some (.invokevirtual 44, 524, 177, 1, 10), none, none, some (.if_icmp .eq 1456, 527, 1980, 0, 0), none, none, some (.iconst 0, 528, 0, 0, 0), some (.ireturn, 529, 1, 0, 0), some (.aload_n 1, 530, 0, 0, 0), some (.aload_n 0, 531, 0, 0, 0), some (.iload_n 3, 532, 0, 0, 0), some (.iconst 1, 533, 0, 0, 0), some (.iadd, 534, 0, 0, 0), some (.iaload, 535, 0, 0, 0), some (.aload_n 0, 536, 0, 0, 0), some (.iload_n 3, 537, 0, 0, 0), some (.iconst 2, 538, 0, 0, 0), some (.iadd, 539, 0, 0, 0), some (.iaload, 540, 0, 0, 0), some (.invokevirtual 45, 543, 28, 1, 9), none, none, some (.aload_n 2, 544, 0, 0, 0), some (.aload_n 0, 545, 0, 0, 0), some (.iload_n 3, 546, 0, 0, 0), some (.iconst 1, 547, 0, 0, 0), some (.iadd, 548, 0, 0, 0), some (.iaload, 549, 0, 0, 0), some (.aload_n 0, 550, 0, 0, 0), some (.iload_n 3, 551, 0, 0, 0), some (.iconst 2, 552, 0, 0, 0), some (.iadd, 553, 0, 0, 0), some (.iaload, 554, 0, 0, 0), some (.invokevirtual 48, 557, 179, 1, 10), none, none, some (.if_icmp .eq 1423, 560, 1980, 0, 0), none, none, some (.iconst 0, 561, 0, 0, 0), some (.ireturn, 562, 1, 0, 0), some (.aload_n 1, 563, 0, 0, 0), some (.aload_n 0, 564, 0, 0, 0), some (.iload_n 3, 565, 0, 0, 0), some (.iconst 1, 566, 0, 0, 0), some (.iadd, 567, 0, 0, 0), some (.iaload, 568, 0, 0, 0), some (.invokevirtual 49, 571, 56, 1, 9), none, none, some (.aload_n 2, 572, 0, 0, 0), some (.aload_n 0, 573, 0, 0, 0), some (.iload_n 3, 574, 0, 0, 0), some (.iconst 1, 575, 0, 0, 0), some (.iadd, 576, 0, 0, 0)]

set_option maxRecDepth 20000 in
noncomputable def jt_283_9 : List (Option jm_I) := [some (.iaload, 577, 0, 0, 0), some (.invokevirtual 52, 580, 200, 1, 10), none, none, some (.if_icmp .eq 1400, 583, 1980, 0, 0), none, none, some (.iconst 0, 584, 0, 0, 0), some (.ireturn, 585, 1, 0, 0), some (.aload_n 1, 586, 0, 0, 0), some (.aload_n 0, 587, 0, 0, 0), some (.iload_n 3, 588, 0, 0, 0), some (.iconst 1, 589, 0, 0, 0), some (.iadd, 590, 0, 0, 0), some (.iaload, 591, 0, 0, 0), some (.invokevirtual 53, 594, 60, 1, 9), none, none, some (.aload_n 2, 595, 0, 0, 0), some (.aload_n 0, 596, 0, 0, 0), some (.iload_n 3, 597, 0, 0, 0), some (.iconst 1, 598, 0, 0, 0), some (.iadd, 599, 0, 0, 0), some (.iaload, 600, 0, 0, 0), some (.invokevirtual 56, 603, 202, 1, 10), none, none, some (.if_icmp .eq 1377, 606, 1980, 0, 0), none, none, some (.iconst 0, 607, 0, 0, 0), some (.ireturn, 608, 1, 0, 0), some (.aload_n 1, 609, 0, 0, 0), some (.aload_n 0, 610, 0, 0, 0), some (.iload_n 3, 611, 0, 0, 0), some (.iconst 1, 612, 0, 0, 0), some (.iadd, 613, 0, 0, 0), some (.iaload, 614, 0, 0, 0), some (.aload_n 0, 615, 0, 0, 0), some (.iload_n 3, 616, 0, 0, 0), some (.iconst 2, 617, 0, 0, 0), some (.iadd, 618, 0, 0, 0), some (.iaload, 619, 0, 0, 0), some (.invokevirtual 57, 622, 63, 1, 9), none, none, some (.aload_n 2, 623, 0, 0, 0), some (.aload_n 0, 624, 0, 0, 0), some (.iload_n 3, 625, 0, 0, 0), some (.iconst 1, 626, 0, 0, 0), some (.iadd, 627, 0, 0, 0), some (.iaload, 628, 0, 0, 0), some (.aload_n 0, 629, 0, 0, 0), some (.iload_n 3, 630, 0, 0, 0), some (.iconst 2, 631, 0, 0, 0), some (.iadd, 632, 0, 0, 0), some (.iaload, 633, 0, 0, 0), some (.invokevirtual 60, 636, 203, 1, 10), none, none, some (.if_icmp .eq 1344, 639, 1980, 0, 0), none, none, some (.iconst 0, 640, 0, 0, 0)]

set_option maxRecDepth 20000 in
noncomputable def jt_283_10 : List (Option jm_I) := [some (.ireturn, 641, 1, 0, 0), some (.aload_n 1, 642, 0, 0, 0), some (.aload_n 0, 643, 0, 0, 0), some (.iload_n 3, 644, 0, 0, 0), some (.iconst 1, 645, 0, 0, 0), some (.iadd, 646, 0, 0, 0), some (.iaload, 647, 0, 0, 0), some (.aload_n 0, 648, 0, 0, 0), some (.iload_n 3, 649, 0, 0, 0), some (.iconst 2, 650, 0, 0, 0), some (.iadd, 651, 0, 0, 0), some (.iaload, 652, 0, 0, 0), some (.aload_n 0, 653, 0, 0, 0), some (.iload_n 3, 654, 0, 0, 0), some (.iconst 3, 655, 0, 0, 0), some (.iadd, 656, 0, 0, 0), some (.iaload, 657, 0, 0, 0), some (.invokevirtual 61, 660, 65, 1, 9), none, none, some (.aload_n 2, 661, 0, 0, 0), some (.aload_n 0, 662, 0, 0, 0), some (.iload_n 3, 663, 0, 0, 0), some (.iconst 1, 664, 0, 0, 0), some (.iadd, 665, 0, 0, 0), some (.iaload, 666, 0, 0, 0), some (.aload_n 0, 667, 0, 0, 0), some (.iload_n 3, 668, 0, 0, 0), some (.iconst 2, 669, 0, 0, 0), some (.iadd, 670, 0, 0, 0), some (.iaload, 671, 0, 0, 0), some (.aload_n 0, 672, 0, 0, 0), some (.iload_n 3, 673, 0, 0, 0), some (.iconst 3, 674, 0, 0, 0), some (.iadd, 675, 0, 0, 0), some (.iaload, 676, 0, 0, 0), some (.invokevirtual 64, 679, 205, 1, 10), none, none, some (.if_icmp .eq 1301, 682, 1980, 0, 0), none, none, some (.iconst 0, 683, 0, 0, 0), some (.ireturn, 684, 1, 0, 0), some (.aload_n 1, 685, 0, 0, 0), some (.aload_n 0, 686, 0, 0, 0), some (.iload_n 3, 687, 0, 0, 0), some (.iconst 1, 688, 0, 0, 0), some (.iadd, 689, 0, 0, 0), some (.iaload, 690, 0, 0, 0), some (.invokevirtual 65, 693, 66, 1, 9), none, none, some (.aload_n 2, 694, 0, 0, 0), some (.aload_n 0, 695, 0, 0, 0), some (.iload_n 3, 696, 0, 0, 0), some (.iconst 1, 697, 0, 0, 0), some (.iadd, 698, 0, 0, 0), some (.iaload, 699, 0, 0, 0), some (.invokevirtual 68, 702, 206, 1, 10), none, none, some (.if_icmp .eq 1278, 705, 1980, 0, 0), none]

set_option maxRecDepth 20000 in
noncomputable def jt_283_11 : List (Option jm_I) := [none, some (.iconst 0, 706, 0, 0, 0), some (.ireturn, 707, 1, 0, 0), some (.aload_n 1, 708, 0, 0, 0), some (.invokevirtual 69, 711, 68, 1, 9), none, none, some (.aload_n 2, 712, 0, 0, 0), some (.invokevirtual 73, 715, 207, 1, 10), none, none, some (.if_icmp .eq 1265, 718, 1980, 0, 0), none, none, some (.iconst 0, 719, 0, 0, 0), some (.ireturn, 720, 1, 0, 0), some (.aload_n 1, 721, 0, 0, 0), some (.invokevirtual 74, 724, 69, 1, 9), none, none, some (.aload_n 2, 725, 0, 0, 0), some (.invokevirtual 77, 728, 208, 1, 10), none, none, some (.if_icmp .eq 1252, 731, 1980, 0, 0), none, none, some (.iconst 0, 732, 0, 0, 0), some (.ireturn, 733, 1, 0, 0), some (.aload_n 1, 734, 0, 0, 0), some (.invokevirtual 78, 737, 76, 1, 9), none, none, some (.aload_n 2, 738, 0, 0, 0), some (.invokevirtual 81, 741, 211, 1, 10), none, none, some (.if_icmp .eq 1239, 744, 1980, 0, 0), none, none, some (.iconst 0, 745, 0, 0, 0), some (.ireturn, 746, 1, 0, 0), some (.aload_n 1, 747, 0, 0, 0), some (.aload_n 0, 748, 0, 0, 0), some (.iload_n 3, 749, 0, 0, 0), some (.iconst 1, 750, 0, 0, 0), some (.iadd, 751, 0, 0, 0), some (.iaload, 752, 0, 0, 0), some (.invokevirtual 82, 755, 97, 1, 9), none, none, some (.aload_n 2, 756, 0, 0, 0), some (.aload_n 0, 757, 0, 0, 0), some (.iload_n 3, 758, 0, 0, 0), some (.iconst 1, 759, 0, 0, 0), some (.iadd, 760, 0, 0, 0), some (.iaload, 761, 0, 0, 0), some (.invokevirtual 85, 764, 226, 1, 10), none, none, some (.if_icmp .eq 1216, 767, 1980, 0, 0), none, none, some (.iconst 0, 768, 0, 0, 0)]

set_option maxRecDepth 20000 in
noncomputable def jt_283_12 : List (Option jm_I) := [some (.ireturn, 769, 1, 0, 0), some (.aload_n 1, 770, 0, 0, 0), some (.aload_n 0, 771, 0, 0, 0), some (.iload_n 3, 772, 0, 0, 0), some (.iconst 1, 773, 0, 0, 0), some (.iadd, 774, 0, 0, 0), some (.iaload, 775, 0, 0, 0), some (.aload_n 0, 776, 0, 0, 0), some (.iload_n 3, 777, 0, 0, 0), some (.iconst 2, 778, 0, 0, 0), some (.iadd, 779, 0, 0, 0), some (.iaload, 780, 0, 0, 0), some (.invokevirtual 86, 783, 101, 1, 9), none, none, some (.aload_n 2, 784, 0, 0, 0), some (.aload_n 0, 785, 0, 0, 0), some (.iload_n 3, 786, 0, 0, 0), some (.iconst 1, 787, 0, 0, 0), some (.iadd, 788, 0, 0, 0), some (.iaload, 789, 0, 0, 0), some (.aload_n 0, 790, 0, 0, 0), some (.iload_n 3, 791, 0, 0, 0), some (.iconst 2, 792, 0, 0, 0), some (.iadd, 793, 0, 0, 0), some (.iaload, 794, 0, 0, 0), some (.invokevirtual 89, 797, 228, 1, 10), none, none, some (.if_icmp .eq 1183, 800, 1980, 0, 0), none, none, some (.iconst 0, 801, 0, 0, 0), some (.ireturn, 802, 1, 0, 0), some (.aload_n 1, 803, 0, 0, 0), some (.aload_n 0, 804, 0, 0, 0), some (.iload_n 3, 805, 0, 0, 0), some (.iconst 1, 806, 0, 0, 0), some (.iadd, 807, 0, 0, 0), some (.iaload, 808, 0, 0, 0), some (.aload_n 0, 809, 0, 0, 0), some (.iload_n 3, 810, 0, 0, 0), some (.iconst 2, 811, 0, 0, 0), some (.iadd, 812, 0, 0, 0), some (.iaload, 813, 0, 0, 0), some (.aload_n 0, 814, 0, 0, 0), some (.iload_n 3, 815, 0, 0, 0), some (.iconst 3, 816, 0, 0, 0), some (.iadd, 817, 0, 0, 0), some (.iaload, 818, 0, 0, 0), some (.invokevirtual 90, 821, 102, 1, 9), none, none, some (.aload_n 2, 822, 0, 0, 0), some (.aload_n 0, 823, 0, 0, 0), some (.iload_n 3, 824, 0, 0, 0), some (.iconst 1, 825, 0, 0, 0), some (.iadd, 826, 0, 0, 0), some (.iaload, 827, 0, 0, 0), some (.aload_n 0, 828, 0, 0, 0), some (.iload_n 3, 829, 0, 0, 0), some (.iconst 2, 830, 0, 0, 0), some (.iadd, 831, 0, 0, 0), some (.iaload, 832, 0, 0, 0)]

set_option maxRecDepth 20000 in
noncomputable def jt_283_13 : List (Option jm_I) := [some (.aload_n 0, 833, 0, 0, 0), some (.iload_n 3, 834, 0, 0, 0), some (.iconst 3, 835, 0, 0, 0), some (.iadd, 836, 0, 0, 0), some (.iaload, 837, 0, 0, 0), some (.invokevirtual 93, 840, 230, 1, 10), none, none, some (.if_icmp .eq 1140, 843, 1980, 0, 0), none, none, some (.iconst 0, 844, 0, 0, 0), some (.ireturn, 845, 1, 0, 0), some (.aload_n 1, 846, 0, 0, 0), some (.aload_n 0, 847, 0, 0, 0), some (.iload_n 3, 848, 0, 0, 0), some (.iconst 1, 849, 0, 0, 0), some (.iadd, 850, 0, 0, 0), some (.iaload, 851, 0, 0, 0), some (.invokevirtual 94, 854, 104, 1, 9), none, none, some (.aload_n 2, 855, 0, 0, 0), some (.aload_n 0, 856, 0, 0, 0), some (.iload_n 3, 857, 0, 0, 0), some (.iconst 1, 858, 0, 0, 0), some (.iadd, 859, 0, 0, 0), some (.iaload, 860, 0, 0, 0), some (.invokevirtual 97, 863, 231, 1, 10), none, none, some (.if_icmp .eq 1117, 866, 1980, 0, 0), none, none, some (.iconst 0, 867, 0, 0, 0), some (.ireturn, 868, 1, 0, 0), some (.aload_n 1, 869, 0, 0, 0), some (.aload_n 0, 870, 0, 0, 0), some (.iload_n 3, 871, 0, 0, 0), some (.iconst 1, 872, 0, 0, 0), some (.iadd, 873, 0, 0, 0), some (.iaload, 874, 0, 0, 0), some (.aload_n 0, 875, 0, 0, 0), some (.iload_n 3, 876, 0, 0, 0), some (.iconst 2, 877, 0, 0, 0), some (.iadd, 878, 0, 0, 0), some (.iaload, 879, 0, 0, 0), some (.invokevirtual 98, 882, 105, 1, 9), none, none, some (.aload_n 2, 883, 0, 0, 0), some (.aload_n 0, 884, 0, 0, 0), some (.iload_n 3, 885, 0, 0, 0), some (.iconst 1, 886, 0, 0, 0), some (.iadd, 887, 0, 0, 0), some (.iaload, 888, 0, 0, 0), some (.aload_n 0, 889, 0, 0, 0), some (.iload_n 3, 890, 0, 0, 0), some (.iconst 2, 891, 0, 0, 0), some (.iadd, 892, 0, 0, 0), some (.iaload, 893, 0, 0, 0), some (.invokevirtual 101, 896, 232, 1, 10), none, none]

set_option maxRecDepth 20000 in
noncomputable def jt_283_14 : List (Option jm_I) := [some (.if_icmp .eq 1084, 899, 1980, 0, 0), none, none, some (.iconst 0, 900, 0, 0, 0), some (.ireturn, 901, 1, 0, 0), some (.aload_n 1, 902, 0, 0, 0), some (.aload_n 0, 903, 0, 0, 0), some (.iload_n 3, 904, 0, 0, 0), some (.iconst 1, 905, 0, 0, 0), some (.iadd, 906, 0, 0, 0), some (.iaload, 907, 0, 0, 0), some (.aload_n 0, 908, 0, 0, 0), some (.iload_n 3, 909, 0, 0, 0), some (.iconst 2, 910, 0, 0, 0), some (.iadd, 911, 0, 0, 0), some (.iaload, 912, 0, 0, 0), some (.aload_n 0, 913, 0, 0, 0), some (.iload_n 3, 914, 0, 0, 0), some (.iconst 3, 915, 0, 0, 0), some (.iadd, 916, 0, 0, 0), some (.iaload, 917, 0, 0, 0), some (.aload_n 0, 918, 0, 0, 0), some (.iload_n 3, 919, 0, 0, 0), some (.iconst 4, 920, 0, 0, 0), some (.iadd, 921, 0, 0, 0), some (.iaload, 922, 0, 0, 0), some (.invokevirtual 102, 925, 106, 1, 9), none, none, some (.aload_n 2, 926, 0, 0, 0), some (.aload_n 0, 927, 0, 0, 0), some (.iload_n 3, 928, 0, 0, 0), some (.iconst 1, 929, 0, 0, 0), some (.iadd, 930, 0, 0, 0), some (.iaload, 931, 0, 0, 0), some (.aload_n 0, 932, 0, 0, 0), some (.iload_n 3, 933, 0, 0, 0), some (.iconst 2, 934, 0, 0, 0), some (.iadd, 935, 0, 0, 0), some (.iaload, 936, 0, 0, 0), some (.aload_n 0, 937, 0, 0, 0), some (.iload_n 3, 938, 0, 0, 0), some (.iconst 3, 939, 0, 0, 0), some (.iadd, 940, 0, 0, 0), some (.iaload, 941, 0, 0, 0), some (.aload_n 0, 942, 0, 0, 0), some (.iload_n 3, 943, 0, 0, 0), some (.iconst 4, 944, 0, 0, 0), some (.iadd, 945, 0, 0, 0), some (.iaload, 946, 0, 0, 0), some (.invokevirtual 106, 949, 233, 1, 10), none, none, some (.if_icmp .eq 1031, 952, 1980, 0, 0), none, none, some (.iconst 0, 953, 0, 0, 0), some (.ireturn, 954, 1, 0, 0), some (.aload_n 1, 955, 0, 0, 0), some (.invokevirtual 107, 958, 107, 1, 9), none, none, some (.aload_n 2, 959, 0, 0, 0), some (.invokevirtual 110, 962, 234, 1, 10)]

set_option maxRecDepth 20000 in
noncomputable def jt_283_15 : List (Option jm_I) := [none, none, some (.if_icmp .eq 1018, 965, 1980, 0, 0), none, none, some (.iconst 0, 966, 0, 0, 0), some (.ireturn, 967, 1, 0, 0), some (.aload_n 1, 968, 0, 0, 0), some (.aload_n 0, 969, 0, 0, 0), some (.iload_n 3, 970, 0, 0, 0), some (.iconst 1, 971, 0, 0, 0), some (.iadd, 972, 0, 0, 0), some (.iaload, 973, 0, 0, 0), some (.aload_n 0, 974, 0, 0, 0), some (.iload_n 3, 975, 0, 0, 0), some (.iconst 2, 976, 0, 0, 0), some (.iadd, 977, 0, 0, 0), some (.iaload, 978, 0, 0, 0), some (.invokevirtual 111, 981, 110, 1, 9), none, none, some (.aload_n 2, 982, 0, 0, 0), some (.aload_n 0, 983, 0, 0, 0), some (.iload_n 3, 984, 0, 0, 0), some (.iconst 1, 985, 0, 0, 0), some (.iadd, 986, 0, 0, 0), some (.iaload, 987, 0, 0, 0), some (.aload_n 0, 988, 0, 0, 0), some (.iload_n 3, 989, 0, 0, 0), some (.iconst 2, 990, 0, 0, 0), some (.iadd, 991, 0, 0, 0), some (.iaload, 992, 0, 0, 0), some (.invokevirtual 114, 995, 235, 1, 10), none, none, some (.if_icmp .eq 985, 998, 1980, 0, 0), none, none, some (.iconst 0, 999, 0, 0, 0), some (.ireturn, 1000, 1, 0, 0), some (.aload_n 1, 1001, 0, 0, 0), some (.aload_n 0, 1002, 0, 0, 0), some (.iload_n 3, 1003, 0, 0, 0), some (.iconst 1, 1004, 0, 0, 0), some (.iadd, 1005, 0, 0, 0), some (.iaload, 1006, 0, 0, 0), some (.aload_n 0, 1007, 0, 0, 0), some (.iload_n 3, 1008, 0, 0, 0), some (.iconst 2, 1009, 0, 0, 0), some (.iadd, 1010, 0, 0, 0), some (.iaload, 1011, 0, 0, 0), some (.invokevirtual 115, 1014, 111, 1, 9), none, none, some (.aload_n 2, 1015, 0, 0, 0), some (.aload_n 0, 1016, 0, 0, 0), some (.iload_n 3, 1017, 0, 0, 0), some (.iconst 1, 1018, 0, 0, 0), some (.iadd, 1019, 0, 0, 0), some (.iaload, 1020, 0, 0, 0), some (.aload_n 0, 1021, 0, 0, 0), some (.iload_n 3, 1022, 0, 0, 0), some (.iconst 2, 1023, 0, 0, 0), some (.iadd, 1024, 0, 0, 0)]

set_option maxRecDepth 20000 in
noncomputable def jt_283_16 : List (Option jm_I) := [some (.iaload, 1025, 0, 0, 0), some (.invokevirtual 118, 1028, 239, 1, 10), none, none, some (.if_icmp .eq 952, 1031, 1980, 0, 0), none, none, some (.iconst 0, 1032, 0, 0, 0), some (.ireturn, 1033, 1, 0, 0), some (.aload_n 1, 1034, 0, 0, 0), some (.aload_n 0, 1035, 0, 0, 0), some (.iload_n 3, 1036, 0, 0, 0), some (.iconst 1, 1037, 0, 0, 0), some (.iadd, 1038, 0, 0, 0), some (.iaload, 1039, 0, 0, 0), some (.invokevirtual 119, 1042, 113, 1, 9), none, none, some (.aload_n 2, 1043, 0, 0, 0), some (.aload_n 0, 1044, 0, 0, 0), some (.iload_n 3, 1045, 0, 0, 0), some (.iconst 1, 1046, 0, 0, 0), some (.iadd, 1047, 0, 0, 0), some (.iaload, 1048, 0, 0, 0), some (.invokevirtual 122, 1051, 241, 1, 10), none, none, some (.if_icmp .eq 929, 1054, 1980, 0, 0), none, none, some (.iconst 0, 1055, 0, 0, 0), some (.ireturn, 1056, 1, 0, 0), some (.aload_n 1, 1057, 0, 0, 0), some (.aload_n 0, 1058, 0, 0, 0), some (.iload_n 3, 1059, 0, 0, 0), some (.iconst 1, 1060, 0, 0, 0), some (.iadd, 1061, 0, 0, 0), some (.iaload, 1062, 0, 0, 0), some (.aload_n 0, 1063, 0, 0, 0), some (.iload_n 3, 1064, 0, 0, 0), some (.iconst 2, 1065, 0, 0, 0), some (.iadd, 1066, 0, 0, 0), some (.iaload, 1067, 0, 0, 0), some (.invokevirtual 123, 1070, 114, 1, 9), none, none, some (.aload_n 2, 1071, 0, 0, 0), some (.aload_n 0, 1072, 0, 0, 0), some (.iload_n 3, 1073, 0, 0, 0), some (.iconst 1, 1074, 0, 0, 0), some (.iadd, 1075, 0, 0, 0), some (.iaload, 1076, 0, 0, 0), some (.aload_n 0, 1077, 0, 0, 0), some (.iload_n 3, 1078, 0, 0, 0), some (.iconst 2, 1079, 0, 0, 0), some (.iadd, 1080, 0, 0, 0), some (.iaload, 1081, 0, 0, 0), some (.invokevirtual 126, 1084, 242, 1, 10), none, none, some (.if_icmp .eq 896, 1087, 1980, 0, 0), none, none, some (.iconst 0, 1088, 0, 0, 0)]

set_option maxRecDepth 20000 in
noncomputable def jt_283_17 : List (Option jm_I) := [some (.ireturn, 1089, 1, 0, 0), some (.aload_n 1, 1090, 0, 0, 0), some (.aload_n 0, 1091, 0, 0, 0), some (.iload_n 3, 1092, 0, 0, 0), some (.iconst 1, 1093, 0, 0, 0), some (.iadd, 1094, 0, 0, 0), some (.iaload, 1095, 0, 0, 0), some (.aload_n 0, 1096, 0, 0, 0), some (.iload_n 3, 1097, 0, 0, 0), some (.iconst 2, 1098, 0, 0, 0), some (.iadd, 1099, 0, 0, 0), some (.iaload, 1100, 0, 0, 0), some (.aload_n 0, 1101, 0, 0, 0), some (.iload_n 3, 1102, 0, 0, 0), some (.iconst 3, 1103, 0, 0, 0), some (.iadd, 1104, 0, 0, 0), some (.iaload, 1105, 0, 0, 0), some (.invokevirtual 127, 1108, 116, 1, 9), none, none, some (.aload_n 2, 1109, 0, 0, 0), some (.aload_n 0, 1110, 0, 0, 0), some (.iload_n 3, 1111, 0, 0, 0), some (.iconst 1, 1112, 0, 0, 0), some (.iadd, 1113, 0, 0, 0), some (.iaload, 1114, 0, 0, 0), some (.aload_n 0, 1115, 0, 0, 0), some (.iload_n 3, 1116, 0, 0, 0), some (.iconst 2, 1117, 0, 0, 0), some (.iadd, 1118, 0, 0, 0), some (.iaload, 1119, 0, 0, 0), some (.aload_n 0, 1120, 0, 0, 0), some (.iload_n 3, 1121, 0, 0, 0), some (.iconst 3, 1122, 0, 0, 0), some (.iadd, 1123, 0, 0, 0), some (.iaload, 1124, 0, 0, 0), some (.invokevirtual 130, 1127, 244, 1, 10), none, none, some (.if_icmp .eq 853, 1130, 1980, 0, 0), none, none, some (.iconst 0, 1131, 0, 0, 0), some (.ireturn, 1132, 1, 0, 0), some (.aload_n 1, 1133, 0, 0, 0), some (.aload_n 0, 1134, 0, 0, 0), some (.iload_n 3, 1135, 0, 0, 0), some (.iconst 1, 1136, 0, 0, 0), some (.iadd, 1137, 0, 0, 0), some (.iaload, 1138, 0, 0, 0), some (.aload_n 0, 1139, 0, 0, 0), some (.iload_n 3, 1140, 0, 0, 0), some (.iconst 2, 1141, 0, 0, 0), some (.iadd, 1142, 0, 0, 0), some (.iaload, 1143, 0, 0, 0), some (.invokevirtual 131, 1146, 119, 1, 9), none, none, some (.aload_n 2, 1147, 0, 0, 0), some (.aload_n 0, 1148, 0, 0, 0), some (.iload_n 3, 1149, 0, 0, 0), some (.iconst 1, 1150, 0, 0, 0), some (.iadd, 1151, 0, 0, 0), some (.iaload, 1152, 0, 0, 0)]

set_option maxRecDepth 20000 in
noncomputable def jt_283_18 : List (Option jm_I) := [some (.aload_n 0, 1153, 0, 0, 0), some (.iload_n 3, 1154, 0, 0, 0), some (.iconst 2, 1155, 0, 0, 0), some (.iadd, 1156, 0, 0, 0), some (.iaload, 1157, 0, 0, 0), some (.invokevirtual 134, 1160, 245, 1, 10), none, none, some (.if_icmp .eq 820, 1163, 1980, 0, 0), none, none, some (.iconst 0, 1164, 0, 0, 0), some (.ireturn, 1165, 1, 0, 0), some (.aload_n 1, 1166, 0, 0, 0), some (.aload_n 0, 1167, 0, 0, 0), some (.iload_n 3, 1168, 0, 0, 0), some (.iconst 1, 1169, 0, 0, 0), some (.iadd, 1170, 0, 0, 0), some (.iaload, 1171, 0, 0, 0), some (.invokevirtual 135, 1174, 121, 1, 9), none, none, some (.aload_n 2, 1175, 0, 0, 0), some (.aload_n 0, 1176, 0, 0, 0), some (.iload_n 3, 1177, 0, 0, 0), some (.iconst 1, 1178, 0, 0, 0), some (.iadd, 1179, 0, 0, 0), some (.iaload, 1180, 0, 0, 0), some (.invokevirtual 138, 1183, 247, 1, 10), none, none, some (.if_icmp .eq 797, 1186, 1980, 0, 0), none, none, some (.iconst 0, 1187, 0, 0, 0), some (.ireturn, 1188, 1, 0, 0), some (.aload_n 1, 1189, 0, 0, 0), some (.aload_n 0, 1190, 0, 0, 0), some (.iload_n 3, 1191, 0, 0, 0), some (.iconst 1, 1192, 0, 0, 0), some (.iadd, 1193, 0, 0, 0), some (.iaload, 1194, 0, 0, 0), some (.aload_n 0, 1195, 0, 0, 0), some (.iload_n 3, 1196, 0, 0, 0), some (.iconst 2, 1197, 0, 0, 0), some (.iadd, 1198, 0, 0, 0), some (.iaload, 1199, 0, 0, 0), some (.invokevirtual 139, 1202, 122, 1, 9), none, none, some (.aload_n 2, 1203, 0, 0, 0), some (.aload_n 0, 1204, 0, 0, 0), some (.iload_n 3, 1205, 0, 0, 0), some (.iconst 1, 1206, 0, 0, 0), some (.iadd, 1207, 0, 0, 0), some (.iaload, 1208, 0, 0, 0), some (.aload_n 0, 1209, 0, 0, 0), some (.iload_n 3, 1210, 0, 0, 0), some (.iconst 2, 1211, 0, 0, 0), some (.iadd, 1212, 0, 0, 0), some (.iaload, 1213, 0, 0, 0), some (.invokevirtual 142, 1216, 248, 1, 10), none, none]

set_option maxRecDepth 20000 in
noncomputable def jt_283_19 : List (Option jm_I) := [some (.if_icmp .eq 764, 1219, 1980, 0, 0), none, none, some (.iconst 0, 1220, 0, 0, 0), some (.ireturn, 1221, 1, 0, 0), some (.aload_n 1, 1222, 0, 0, 0), some (.aload_n 0, 1223, 0, 0, 0), some (.iload_n 3, 1224, 0, 0, 0), some (.iconst 1, 1225, 0, 0, 0), some (.iadd, 1226, 0, 0, 0), some (.iaload, 1227, 0, 0, 0), some (.aload_n 0, 1228, 0, 0, 0), some (.iload_n 3, 1229, 0, 0, 0), some (.iconst 2, 1230, 0, 0, 0), some (.iadd, 1231, 0, 0, 0), some (.iaload, 1232, 0, 0, 0), some (.invokevirtual 143, 1235, 123, 1, 9), none, none, some (.aload_n 2, 1236, 0, 0, 0), some (.aload_n 0, 1237, 0, 0, 0), some (.iload_n 3, 1238, 0, 0, 0), some (.iconst 1, 1239, 0, 0, 0), some (.iadd, 1240, 0, 0, 0), some (.iaload, 1241, 0, 0, 0), some (.aload_n 0, 1242, 0, 0, 0), some (.iload_n 3, 1243, 0, 0, 0), some (.iconst 2, 1244, 0, 0, 0), some (.iadd, 1245, 0, 0, 0), some (.iaload, 1246, 0, 0, 0), some (.invokevirtual 146, 1249, 249, 1, 10), none, none, some (.if_icmp .eq 731, 1252, 1980, 0, 0), none, none, some (.iconst 0, 1253, 0, 0, 0), some (.ireturn, 1254, 1, 0, 0), some (.aload_n 1, 1255, 0, 0, 0), some (.aload_n 0, 1256, 0, 0, 0), some (.iload_n 3, 1257, 0, 0, 0), some (.iconst 1, 1258, 0, 0, 0), some (.iadd, 1259, 0, 0, 0), some (.iaload, 1260, 0, 0, 0), some (.aload_n 0, 1261, 0, 0, 0), some (.iload_n 3, 1262, 0, 0, 0), some (.iconst 2, 1263, 0, 0, 0), some (.iadd, 1264, 0, 0, 0), some (.iaload, 1265, 0, 0, 0), some (.invokevirtual 147, 1268, 124, 1, 9), none, none, some (.aload_n 2, 1269, 0, 0, 0), some (.aload_n 0, 1270, 0, 0, 0), some (.iload_n 3, 1271, 0, 0, 0), some (.iconst 1, 1272, 0, 0, 0), some (.iadd, 1273, 0, 0, 0), some (.iaload, 1274, 0, 0, 0), some (.aload_n 0, 1275, 0, 0, 0), some (.iload_n 3, 1276, 0, 0, 0), some (.iconst 2, 1277, 0, 0, 0), some (.iadd, 1278, 0, 0, 0), some (.iaload, 1279, 0, 0, 0), some (.invokevirtual 150, 1282, 251, 1, 10)]

set_option maxRecDepth 20000 in
noncomputable def jt_283_20 : List (Option jm_I) := [none, none, some (.if_icmp .eq 698, 1285, 1980, 0, 0), none, none, some (.iconst 0, 1286, 0, 0, 0), some (.ireturn, 1287, 1, 0, 0), some (.aload_n 1, 1288, 0, 0, 0), some (.aload_n 0, 1289, 0, 0, 0), some (.iload_n 3, 1290, 0, 0, 0), some (.iconst 1, 1291, 0, 0, 0), some (.iadd, 1292, 0, 0, 0), some (.iaload, 1293, 0, 0, 0), some (.aload_n 0, 1294, 0, 0, 0), some (.iload_n 3, 1295, 0, 0, 0), some (.iconst 2, 1296, 0, 0, 0), some (.iadd, 1297, 0, 0, 0), some (.iaload, 1298, 0, 0, 0), some (.invokevirtual 151, 1301, 127, 1, 9), none, none, some (.aload_n 2, 1302, 0, 0, 0), some (.aload_n 0, 1303, 0, 0, 0), some (.iload_n 3, 1304, 0, 0, 0), some (.iconst 1, 1305, 0, 0, 0), some (.iadd, 1306, 0, 0, 0), some (.iaload, 1307, 0, 0, 0), some (.aload_n 0, 1308, 0, 0, 0), some (.iload_n 3, 1309, 0, 0, 0), some (.iconst 2, 1310, 0, 0, 0), some (.iadd, 1311, 0, 0, 0), some (.iaload, 1312, 0, 0, 0), some (.invokevirtual 154, 1315, 252, 1, 10), none, none, some (.if_icmp .eq 665, 1318, 1980, 0, 0), none, none, some (.iconst 0, 1319, 0, 0, 0), some (.ireturn, 1320, 1, 0, 0), some (.aload_n 1, 1321, 0, 0, 0), some (.aload_n 0, 1322, 0, 0, 0), some (.iload_n 3, 1323, 0, 0, 0), some (.iconst 1, 1324, 0, 0, 0), some (.iadd, 1325, 0, 0, 0), some (.iaload, 1326, 0, 0, 0), some (.aload_n 0, 1327, 0, 0, 0), some (.iload_n 3, 1328, 0, 0, 0), some (.iconst 2, 1329, 0, 0, 0), some (.iadd, 1330, 0, 0, 0), some (.iaload, 1331, 0, 0, 0), some (.invokevirtual 155, 1334, 128, 1, 9), none, none, some (.aload_n 2, 1335, 0, 0, 0), some (.aload_n 0, 1336, 0, 0, 0), some (.iload_n 3, 1337, 0, 0, 0), some (.iconst 1, 1338, 0, 0, 0), some (.iadd, 1339, 0, 0, 0), some (.iaload, 1340, 0, 0, 0), some (.aload_n 0, 1341, 0, 0, 0), some (.iload_n 3, 1342, 0, 0, 0), some (.iconst 2, 1343, 0, 0, 0), some (.iadd, 1344, 0, 0, 0)]

set_option maxRecDepth 20000 in
noncomputable def jt_283_21 : List (Option jm_I) := [some (.iaload, 1345, 0, 0, 0), some (.invokevirtual 158, 1348, 253, 1, 10), none, none, some (.if_icmp .eq 632, 1351, 1980, 0, 0), none, none, some (.iconst 0, 1352, 0, 0, 0), some (.ireturn, 1353, 1, 0, 0), some (.aload_n 1, 1354, 0, 0, 0), some (.aload_n 0, 1355, 0, 0, 0), some (.iload_n 3, 1356, 0, 0, 0), some (.iconst 1, 1357, 0, 0, 0), some (.iadd, 1358, 0, 0, 0), some (.iaload, 1359, 0, 0, 0), some (.aload_n 0, 1360, 0, 0, 0), some (.iload_n 3, 1361, 0, 0, 0), some (.iconst 2, 1362, 0, 0, 0), some (.iadd, 1363, 0, 0, 0), some (.iaload, 1364, 0, 0, 0), some (.invokevirtual 159, 1367, 131, 1, 9), none, none, some (.aload_n 2, 1368, 0, 0, 0), some (.aload_n 0, 1369, 0, 0, 0), some (.iload_n 3, 1370, 0, 0, 0), some (.iconst 1, 1371, 0, 0, 0), some (.iadd, 1372, 0, 0, 0), some (.iaload, 1373, 0, 0, 0), some (.aload_n 0, 1374, 0, 0, 0), some (.iload_n 3, 1375, 0, 0, 0), some (.iconst 2, 1376, 0, 0, 0), some (.iadd, 1377, 0, 0, 0), some (.iaload, 1378, 0, 0, 0), some (.invokevirtual 162, 1381, 256, 1, 10), none, none, some (.if_icmp .eq 599, 1384, 1980, 0, 0), none, none, some (.iconst 0, 1385, 0, 0, 0), some (.ireturn, 1386, 1, 0, 0), some (.aload_n 1, 1387, 0, 0, 0), some (.aload_n 0, 1388, 0, 0, 0), some (.iload_n 3, 1389, 0, 0, 0), some (.iconst 1, 1390, 0, 0, 0), some (.iadd, 1391, 0, 0, 0), some (.iaload, 1392, 0, 0, 0), some (.aload_n 0, 1393, 0, 0, 0), some (.iload_n 3, 1394, 0, 0, 0), some (.iconst 2, 1395, 0, 0, 0), some (.iadd, 1396, 0, 0, 0), some (.iaload, 1397, 0, 0, 0), some (.aload_n 0, 1398, 0, 0, 0), some (.iload_n 3, 1399, 0, 0, 0), some (.iconst 3, 1400, 0, 0, 0), some (.iadd, 1401, 0, 0, 0), some (.iaload, 1402, 0, 0, 0), some (.invokevirtual 163, 1405, 133, 1, 9), none, none, some (.aload_n 2, 1406, 0, 0, 0), some (.aload_n 0, 1407, 0, 0, 0), some (.iload_n 3, 1408, 0, 0, 0)]

set_option maxRecDepth 20000 in
noncomputable def jt_283_22 : List (Option jm_I) := [some (.iconst 1, 1409, 0, 0, 0), some (.iadd, 1410, 0, 0, 0), some (.iaload, 1411, 0, 0, 0), some (.aload_n 0, 1412, 0, 0, 0), some (.iload_n 3, 1413, 0, 0, 0), some (.iconst 2, 1414, 0, 0, 0), some (.iadd, 1415, 0, 0, 0), some (.iaload, 1416, 0, 0, 0), some (.aload_n 0, 1417, 0, 0, 0), some (.iload_n 3, 1418, 0, 0, 0), some (.iconst 3, 1419, 0, 0, 0), some (.iadd, 1420, 0, 0, 0), some (.iaload, 1421, 0, 0, 0), some (.invokevirtual 166, 1424, 257, 1, 10), none, none, some (.if_icmp .eq 556, 1427, 1980, 0, 0), none, none, some (.iconst 0, 1428, 0, 0, 0), some (.ireturn, 1429, 1, 0, 0), some (.aload_n 1, 1430, 0, 0, 0), some (.aload_n 0, 1431, 0, 0, 0), some (.iload_n 3, 1432, 0, 0, 0), some (.iconst 1, 1433, 0, 0, 0), some (.iadd, 1434, 0, 0, 0), some (.iaload, 1435, 0, 0, 0), some (.aload_n 0, 1436, 0, 0, 0), some (.iload_n 3, 1437, 0, 0, 0), some (.iconst 2, 1438, 0, 0, 0), some (.iadd, 1439, 0, 0, 0), some (.iaload, 1440, 0, 0, 0), some (.invokevirtual 167, 1443, 135, 1, 9), none, none, some (.aload_n 2, 1444, 0, 0, 0), some (.aload_n 0, 1445, 0, 0, 0), some (.iload_n 3, 1446, 0, 0, 0), some (.iconst 1, 1447, 0, 0, 0), some (.iadd, 1448, 0, 0, 0), some (.iaload, 1449, 0, 0, 0), some (.aload_n 0, 1450, 0, 0, 0), some (.iload_n 3, 1451, 0, 0, 0), some (.iconst 2, 1452, 0, 0, 0), some (.iadd, 1453, 0, 0, 0), some (.iaload, 1454, 0, 0, 0), some (.invokevirtual 170, 1457, 258, 1, 10), none, none, some (.if_icmp .eq 523, 1460, 1980, 0, 0), none, none, some (.iconst 0, 1461, 0, 0, 0), some (.ireturn, 1462, 1, 0, 0), some (.aload_n 1, 1463, 0, 0, 0), some (.aload_n 0, 1464, 0, 0, 0), some (.iload_n 3, 1465, 0, 0, 0), some (.iconst 1, 1466, 0, 0, 0), some (.iadd, 1467, 0, 0, 0), some (.iaload, 1468, 0, 0, 0), some (.aload_n 0, 1469, 0, 0, 0), some (.iload_n 3, 1470, 0, 0, 0), some (.iconst 2, 1471, 0, 0, 0), some (.iadd, 1472, 0, 0, 0)]

set_option maxRecDepth 20000 in
noncomputable def jt_283_23 : List (Option jm_I) := [some (.iaload, 1473, 0, 0, 0), some (.aload_n 0, 1474, 0, 0, 0), some (.iload_n 3, 1475, 0, 0, 0), some (.iconst 3, 1476, 0, 0, 0), some (.iadd, 1477, 0, 0, 0), some (.iaload, 1478, 0, 0, 0), some (.invokevirtual 171, 1481, 136, 1, 9), none, none, some (.aload_n 2, 1482, 0, 0, 0), some (.aload_n 0, 1483, 0, 0, 0), some (.iload_n 3, 1484, 0, 0, 0), some (.iconst 1, 1485, 0, 0, 0), some (.iadd, 1486, 0, 0, 0), some (.iaload, 1487, 0, 0, 0), some (.aload_n 0, 1488, 0, 0, 0), some (.iload_n 3, 1489, 0, 0, 0), some (.iconst 2, 1490, 0, 0, 0), some (.iadd, 1491, 0, 0, 0), some (.iaload, 1492, 0, 0, 0), some (.aload_n 0, 1493, 0, 0, 0), some (.iload_n 3, 1494, 0, 0, 0), some (.iconst 3, 1495, 0, 0, 0), some (.iadd, 1496, 0, 0, 0), some (.iaload, 1497, 0, 0, 0), some (.invokevirtual 174, 1500, 259, 1, 10), none, none, some (.if_icmp .eq 480, 1503, 1980, 0, 0), none, none, some (.iconst 0, 1504, 0, 0, 0), some (.ireturn, 1505, 1, 0, 0), some (.aload_n 1, 1506, 0, 0, 0), some (.aload_n 0, 1507, 0, 0, 0), some (.iload_n 3, 1508, 0, 0, 0), some (.iconst 1, 1509, 0, 0, 0), some (.iadd, 1510, 0, 0, 0), some (.iaload, 1511, 0, 0, 0), some (.aload_n 0, 1512, 0, 0, 0), some (.iload_n 3, 1513, 0, 0, 0), some (.iconst 2, 1514, 0, 0, 0), some (.iadd, 1515, 0, 0, 0), some (.iaload, 1516, 0, 0, 0), some (.invokevirtual 175, 1519, 138, 1, 9), none, none, some (.aload_n 2, 1520, 0, 0, 0), some (.aload_n 0, 1521, 0, 0, 0), some (.iload_n 3, 1522, 0, 0, 0), some (.iconst 1, 1523, 0, 0, 0), some (.iadd, 1524, 0, 0, 0), some (.iaload, 1525, 0, 0, 0), some (.aload_n 0, 1526, 0, 0, 0), some (.iload_n 3, 1527, 0, 0, 0), some (.iconst 2, 1528, 0, 0, 0), some (.iadd, 1529, 0, 0, 0), some (.iaload, 1530, 0, 0, 0), some (.invokevirtual 178, 1533, 261, 1, 10), none, none, some (.if_icmp .eq 447, 1536, 1980, 0, 0), none, none]

set_option maxRecDepth 20000 in
noncomputable def jt_283_24 : List (Option jm_I) := [some (.iconst 0, 1537, 0, 0, 0), some (.ireturn, 1538, 1, 0, 0), some (.aload_n 1, 1539, 0, 0, 0), some (.aload_n 0, 1540, 0, 0, 0), some (.iload_n 3, 1541, 0, 0, 0), some (.iconst 1, 1542, 0, 0, 0), some (.iadd, 1543, 0, 0, 0), some (.iaload, 1544, 0, 0, 0), some (.invokevirtual 179, 1547, 140, 1, 9), none, none, some (.aload_n 2, 1548, 0, 0, 0), some (.aload_n 0, 1549, 0, 0, 0), some (.iload_n 3, 1550, 0, 0, 0), some (.iconst 1, 1551, 0, 0, 0), some (.iadd, 1552, 0, 0, 0), some (.iaload, 1553, 0, 0, 0), some (.invokevirtual 182, 1556, 263, 1, 10), none, none, some (.if_icmp .eq 424, 1559, 1980, 0, 0), none, none, some (.iconst 0, 1560, 0, 0, 0), some (.ireturn, 1561, 1, 0, 0), some (.aload_n 1, 1562, 0, 0, 0), some (.aload_n 0, 1563, 0, 0, 0), some (.iload_n 3, 1564, 0, 0, 0), some (.iconst 1, 1565, 0, 0, 0), some (.iadd, 1566, 0, 0, 0), some (.iaload, 1567, 0, 0, 0), some (.invokevirtual 183, 1570, 141, 1, 9), none, none, some (.aload_n 2, 1571, 0, 0, 0), some (.aload_n 0, 1572, 0, 0, 0), some (.iload_n 3, 1573, 0, 0, 0), some (.iconst 1, 1574, 0, 0, 0), some (.iadd, 1575, 0, 0, 0), some (.iaload, 1576, 0, 0, 0), some (.invokevirtual 186, 1579, 264, 1, 10), none, none, some (.if_icmp .eq 401, 1582, 1980, 0, 0), none, none, some (.iconst 0, 1583, 0, 0, 0), some (.ireturn, 1584, 1, 0, 0), some (.aload_n 1, 1585, 0, 0, 0), some (.aload_n 0, 1586, 0, 0, 0), some (.iload_n 3, 1587, 0, 0, 0), some (.iconst 1, 1588, 0, 0, 0), some (.iadd, 1589, 0, 0, 0), some (.iaload, 1590, 0, 0, 0), some (.aload_n 0, 1591, 0, 0, 0), some (.iload_n 3, 1592, 0, 0, 0), some (.iconst 2, 1593, 0, 0, 0), some (.iadd, 1594, 0, 0, 0), some (.iaload, 1595, 0, 0, 0), some (.invokevirtual 187, 1598, 142, 1, 9), none, none, some (.aload_n 2, 1599, 0, 0, 0), some (.aload_n 0, 1600, 0, 0, 0)]

set_option maxRecDepth 20000 in
noncomputable def jt_283_25 : List (Option jm_I) := [some (.iload_n 3, 1601, 0, 0, 0), some (.iconst 1, 1602, 0, 0, 0), some (.iadd, 1603, 0, 0, 0), some (.iaload, 1604, 0, 0, 0), some (.aload_n 0, 1605, 0, 0, 0), some (.iload_n 3, 1606, 0, 0, 0), some (.iconst 2, 1607, 0, 0, 0), some (.iadd, 1608, 0, 0, 0), some (.iaload, 1609, 0, 0, 0), some (.invokevirtual 190, 1612, 266, 1, 10), none, none, some (.if_icmp .eq 368, 1615, 1980, 0, 0), none, none, some (.iconst 0, 1616, 0, 0, 0), some (.ireturn, 1617, 1, 0, 0), some (.aload_n 1, 1618, 0, 0, 0), some (.aload_n 0, 1619, 0, 0, 0), some (.iload_n 3, 1620, 0, 0, 0), some (.iconst 1, 1621, 0, 0, 0), some (.iadd, 1622, 0, 0, 0), some (.iaload, 1623, 0, 0, 0), some (.aload_n 0, 1624, 0, 0, 0), some (.iload_n 3, 1625, 0, 0, 0), some (.iconst 2, 1626, 0, 0, 0), some (.iadd, 1627, 0, 0, 0), some (.iaload, 1628, 0, 0, 0), some (.aload_n 0, 1629, 0, 0, 0), some (.iload_n 3, 1630, 0, 0, 0), some (.iconst 3, 1631, 0, 0, 0), some (.iadd, 1632, 0, 0, 0), some (.iaload, 1633, 0, 0, 0), some (.invokevirtual 191, 1636, 144, 1, 9), none, none, some (.aload_n 2, 1637, 0, 0, 0), some (.aload_n 0, 1638, 0, 0, 0), some (.iload_n 3, 1639, 0, 0, 0), some (.iconst 1, 1640, 0, 0, 0), some (.iadd, 1641, 0, 0, 0), some (.iaload, 1642, 0, 0, 0), some (.aload_n 0, 1643, 0, 0, 0), some (.iload_n 3, 1644, 0, 0, 0), some (.iconst 2, 1645, 0, 0, 0), some (.iadd, 1646, 0, 0, 0), some (.iaload, 1647, 0, 0, 0), some (.aload_n 0, 1648, 0, 0, 0), some (.iload_n 3, 1649, 0, 0, 0), some (.iconst 3, 1650, 0, 0, 0), some (.iadd, 1651, 0, 0, 0), some (.iaload, 1652, 0, 0, 0), some (.invokevirtual 194, 1655, 267, 1, 10), none, none, some (.if_icmp .eq 325, 1658, 1980, 0, 0), none, none, some (.iconst 0, 1659, 0, 0, 0), some (.ireturn, 1660, 1, 0, 0), some (.aload_n 1, 1661, 0, 0, 0), some (.aload_n 0, 1662, 0, 0, 0), some (.iload_n 3, 1663, 0, 0, 0), some (.iconst 1, 1664, 0, 0, 0)]

set_option maxRecDepth 20000 in
noncomputable def jt_283_26 : List (Option jm_I) := [some (.iadd, 1665, 0, 0, 0), some (.iaload, 1666, 0, 0, 0), some (.aload_n 0, 1667, 0, 0, 0), some (.iload_n 3, 1668, 0, 0, 0), some (.iconst 2, 1669, 0, 0, 0), some (.iadd, 1670, 0, 0, 0), some (.iaload, 1671, 0, 0, 0), some (.invokevirtual 195, 1674, 146, 1, 9), none, none, some (.aload_n 2, 1675, 0, 0, 0), some (.aload_n 0, 1676, 0, 0, 0), some (.iload_n 3, 1677, 0, 0, 0), some (.iconst 1, 1678, 0, 0, 0), some (.iadd, 1679, 0, 0, 0), some (.iaload, 1680, 0, 0, 0), some (.aload_n 0, 1681, 0, 0, 0), some (.iload_n 3, 1682, 0, 0, 0), some (.iconst 2, 1683, 0, 0, 0), some (.iadd, 1684, 0, 0, 0), some (.iaload, 1685, 0, 0, 0), some (.invokevirtual 198, 1688, 269, 1, 10), none, none, some (.if_icmp .eq 292, 1691, 1980, 0, 0), none, none, some (.iconst 0, 1692, 0, 0, 0), some (.ireturn, 1693, 1, 0, 0), some (.aload_n 1, 1694, 0, 0, 0), some (.aload_n 0, 1695, 0, 0, 0), some (.iload_n 3, 1696, 0, 0, 0), some (.iconst 1, 1697, 0, 0, 0), some (.iadd, 1698, 0, 0, 0), some (.iaload, 1699, 0, 0, 0), some (.aload_n 0, 1700, 0, 0, 0), some (.iload_n 3, 1701, 0, 0, 0), some (.iconst 2, 1702, 0, 0, 0), some (.iadd, 1703, 0, 0, 0), some (.iaload, 1704, 0, 0, 0), some (.aload_n 0, 1705, 0, 0, 0), some (.iload_n 3, 1706, 0, 0, 0), some (.iconst 3, 1707, 0, 0, 0), some (.iadd, 1708, 0, 0, 0), some (.iaload, 1709, 0, 0, 0), some (.aload_n 0, 1710, 0, 0, 0), some (.iload_n 3, 1711, 0, 0, 0), some (.iconst 4, 1712, 0, 0, 0), some (.iadd, 1713, 0, 0, 0), some (.iaload, 1714, 0, 0, 0), some (.invokevirtual 199, 1717, 147, 1, 9), none, none, some (.aload_n 2, 1718, 0, 0, 0), some (.aload_n 0, 1719, 0, 0, 0), some (.iload_n 3, 1720, 0, 0, 0), some (.iconst 1, 1721, 0, 0, 0), some (.iadd, 1722, 0, 0, 0), some (.iaload, 1723, 0, 0, 0), some (.aload_n 0, 1724, 0, 0, 0), some (.iload_n 3, 1725, 0, 0, 0), some (.iconst 2, 1726, 0, 0, 0), some (.iadd, 1727, 0, 0, 0), some (.iaload, 1728, 0, 0, 0)]

set_option maxRecDepth 20000 in
noncomputable def jt_283_27 : List (Option jm_I) := [some (.aload_n 0, 1729, 0, 0, 0), some (.iload_n 3, 1730, 0, 0, 0), some (.iconst 3, 1731, 0, 0, 0), some (.iadd, 1732, 0, 0, 0), some (.iaload, 1733, 0, 0, 0), some (.aload_n 0, 1734, 0, 0, 0), some (.iload_n 3, 1735, 0, 0, 0), some (.iconst 4, 1736, 0, 0, 0), some (.iadd, 1737, 0, 0, 0), some (.iaload, 1738, 0, 0, 0), some (.invokevirtual 202, 1741, 270, 1, 10), none, none, some (.if_icmp .eq 239, 1744, 1980, 0, 0), none, none, some (.iconst 0, 1745, 0, 0, 0), some (.ireturn, 1746, 1, 0, 0), some (.aload_n 1, 1747, 0, 0, 0), some (.aload_n 0, 1748, 0, 0, 0), some (.iload_n 3, 1749, 0, 0, 0), some (.iconst 1, 1750, 0, 0, 0), some (.iadd, 1751, 0, 0, 0), some (.iaload, 1752, 0, 0, 0), some (.aload_n 0, 1753, 0, 0, 0), some (.iload_n 3, 1754, 0, 0, 0), some (.iconst 2, 1755, 0, 0, 0), some (.iadd, 1756, 0, 0, 0), some (.iaload, 1757, 0, 0, 0), some (.aload_n 0, 1758, 0, 0, 0), some (.iload_n 3, 1759, 0, 0, 0), some (.iconst 3, 1760, 0, 0, 0), some (.iadd, 1761, 0, 0, 0), some (.iaload, 1762, 0, 0, 0), some (.invokevirtual 203, 1765, 149, 1, 9), none, none, some (.aload_n 2, 1766, 0, 0, 0), some (.aload_n 0, 1767, 0, 0, 0), some (.iload_n 3, 1768, 0, 0, 0), some (.iconst 1, 1769, 0, 0, 0), some (.iadd, 1770, 0, 0, 0), some (.iaload, 1771, 0, 0, 0), some (.aload_n 0, 1772, 0, 0, 0), some (.iload_n 3, 1773, 0, 0, 0), some (.iconst 2, 1774, 0, 0, 0), some (.iadd, 1775, 0, 0, 0), some (.iaload, 1776, 0, 0, 0), some (.aload_n 0, 1777, 0, 0, 0), some (.iload_n 3, 1778, 0, 0, 0), some (.iconst 3, 1779, 0, 0, 0), some (.iadd, 1780, 0, 0, 0), some (.iaload, 1781, 0, 0, 0), some (.invokevirtual 206, 1784, 272, 1, 10), none, none, some (.if_icmp .eq 196, 1787, 1980, 0, 0), none, none, some (.iconst 0, 1788, 0, 0, 0), some (.ireturn, 1789, 1, 0, 0), some (.aload_n 1, 1790, 0, 0, 0), some (.aload_n 0, 1791, 0, 0, 0), some (.iload_n 3, 1792, 0, 0, 0)]

set_option maxRecDepth 20000 in
noncomputable def jt_283_28 : List (Option jm_I) := [some (.iconst 1, 1793, 0, 0, 0), some (.iadd, 1794, 0, 0, 0), some (.iaload, 1795, 0, 0, 0), some (.aload_n 0, 1796, 0, 0, 0), some (.iload_n 3, 1797, 0, 0, 0), some (.iconst 2, 1798, 0, 0, 0), some (.iadd, 1799, 0, 0, 0), some (.iaload, 1800, 0, 0, 0), some (.aload_n 0, 1801, 0, 0, 0), some (.iload_n 3, 1802, 0, 0, 0), some (.iconst 3, 1803, 0, 0, 0), some (.iadd, 1804, 0, 0, 0), some (.iaload, 1805, 0, 0, 0), some (.invokevirtual 207, 1808, 150, 1, 9), none, none, some (.aload_n 2, 1809, 0, 0, 0), some (.aload_n 0, 1810, 0, 0, 0), some (.iload_n 3, 1811, 0, 0, 0), some (.iconst 1, 1812, 0, 0, 0), some (.iadd, 1813, 0, 0, 0), some (.iaload, 1814, 0, 0, 0), some (.aload_n 0, 1815, 0, 0, 0), some (.iload_n 3, 1816, 0, 0, 0), some (.iconst 2, 1817, 0, 0, 0), some (.iadd, 1818, 0, 0, 0), some (.iaload, 1819, 0, 0, 0), some (.aload_n 0, 1820, 0, 0, 0), some (.iload_n 3, 1821, 0, 0, 0), some (.iconst 3, 1822, 0, 0, 0), some (.iadd, 1823, 0, 0, 0), some (.iaload, 1824, 0, 0, 0), some (.invokevirtual 210, 1827, 273, 1, 10), none, none, some (.if_icmp .eq 153, 1830, 1980, 0, 0), none, none, some (.iconst 0, 1831, 0, 0, 0), some (.ireturn, 1832, 1, 0, 0), some (.aload_n 1, 1833, 0, 0, 0), some (.aload_n 0, 1834, 0, 0, 0), some (.iload_n 3, 1835, 0, 0, 0), some (.iconst 1, 1836, 0, 0, 0), some (.iadd, 1837, 0, 0, 0), some (.iaload, 1838, 0, 0, 0), some (.aload_n 0, 1839, 0, 0, 0), some (.iload_n 3, 1840, 0, 0, 0), some (.iconst 2, 1841, 0, 0, 0), some (.iadd, 1842, 0, 0, 0), some (.iaload, 1843, 0, 0, 0), some (.aload_n 0, 1844, 0, 0, 0), some (.iload_n 3, 1845, 0, 0, 0), some (.iconst 3, 1846, 0, 0, 0), some (.iadd, 1847, 0, 0, 0), some (.iaload, 1848, 0, 0, 0), some (.aload_n 0, 1849, 0, 0, 0), some (.iload_n 3, 1850, 0, 0, 0), some (.iconst 4, 1851, 0, 0, 0), some (.iadd, 1852, 0, 0, 0), some (.iaload, 1853, 0, 0, 0), some (.invokevirtual 211, 1856, 151, 1, 9), none, none]

set_option maxRecDepth 20000 in
noncomputable def jt_283_29 : List (Option jm_I) := [some (.aload_n 2, 1857, 0, 0, 0), some (.aload_n 0, 1858, 0, 0, 0), some (.iload_n 3, 1859, 0, 0, 0), some (.iconst 1, 1860, 0, 0, 0), some (.iadd, 1861, 0, 0, 0), some (.iaload, 1862, 0, 0, 0), some (.aload_n 0, 1863, 0, 0, 0), some (.iload_n 3, 1864, 0, 0, 0), some (.iconst 2, 1865, 0, 0, 0), some (.iadd, 1866, 0, 0, 0), some (.iaload, 1867, 0, 0, 0), some (.aload_n 0, 1868, 0, 0, 0), some (.iload_n 3, 1869, 0, 0, 0), some (.iconst 3, 1870, 0, 0, 0), some (.iadd, 1871, 0, 0, 0), some (.iaload, 1872, 0, 0, 0), some (.aload_n 0, 1873, 0, 0, 0), some (.iload_n 3, 1874, 0, 0, 0), some (.iconst 4, 1875, 0, 0, 0), some (.iadd, 1876, 0, 0, 0), some (.iaload, 1877, 0, 0, 0), some (.invokevirtual 214, 1880, 274, 1, 10), none, none, some (.if_icmp .eq 100, 1883, 1980, 0, 0), none, none, some (.iconst 0, 1884, 0, 0, 0), some (.ireturn, 1885, 1, 0, 0), some (.aload_n 1, 1886, 0, 0, 0), some (.aload_n 0, 1887, 0, 0, 0), some (.iload_n 3, 1888, 0, 0, 0), some (.iconst 1, 1889, 0, 0, 0), some (.iadd, 1890, 0, 0, 0), some (.iaload, 1891, 0, 0, 0), some (.invokevirtual 215, 1894, 153, 1, 9), none, none, some (.aload_n 2, 1895, 0, 0, 0), some (.aload_n 0, 1896, 0, 0, 0), some (.iload_n 3, 1897, 0, 0, 0), some (.iconst 1, 1898, 0, 0, 0), some (.iadd, 1899, 0, 0, 0), some (.iaload, 1900, 0, 0, 0), some (.invokevirtual 218, 1903, 275, 1, 10), none, none, some (.if_icmp .eq 77, 1906, 1980, 0, 0), none, none, some (.iconst 0, 1907, 0, 0, 0), some (.ireturn, 1908, 1, 0, 0), some (.aload_n 1, 1909, 0, 0, 0), some (.aload_n 0, 1910, 0, 0, 0), some (.iload_n 3, 1911, 0, 0, 0), some (.iconst 1, 1912, 0, 0, 0), some (.iadd, 1913, 0, 0, 0), some (.iaload, 1914, 0, 0, 0), some (.invokevirtual 219, 1917, 156, 1, 9), none, none, some (.aload_n 2, 1918, 0, 0, 0), some (.aload_n 0, 1919, 0, 0, 0), some (.iload_n 3, 1920, 0, 0, 0)]

set_option maxRecDepth 20000 in
noncomputable def jt_283_30 : List (Option jm_I) := [some (.iconst 1, 1921, 0, 0, 0), some (.iadd, 1922, 0, 0, 0), some (.iaload, 1923, 0, 0, 0), some (.invokevirtual 222, 1926, 277, 1, 10), none, none, some (.if_icmp .eq 54, 1929, 1980, 0, 0), none, none, some (.iconst 0, 1930, 0, 0, 0), some (.ireturn, 1931, 1, 0, 0), some (.aload_n 1, 1932, 0, 0, 0), some (.invokevirtual 223, 1935, 157, 1, 9), none, none, some (.aload_n 2, 1936, 0, 0, 0), some (.invokevirtual 226, 1939, 278, 1, 10), none, none, some (.if_icmp .eq 41, 1942, 1980, 0, 0), none, none, some (.iconst 0, 1943, 0, 0, 0), some (.ireturn, 1944, 1, 0, 0), some (.aload_n 1, 1945, 0, 0, 0), some (.invokevirtual 227, 1948, 161, 1, 9), none, none, some (.aload_n 2, 1949, 0, 0, 0), some (.invokevirtual 230, 1952, 280, 1, 10), none, none, some (.if_icmp .eq 28, 1955, 1980, 0, 0), none, none, some (.iconst 0, 1956, 0, 0, 0), some (.ireturn, 1957, 1, 0, 0), some (.aload_n 1, 1958, 0, 0, 0), some (.aload_n 0, 1959, 0, 0, 0), some (.iload_n 3, 1960, 0, 0, 0), some (.iconst 1, 1961, 0, 0, 0), some (.iadd, 1962, 0, 0, 0), some (.iaload, 1963, 0, 0, 0), some (.invokevirtual 231, 1966, 162, 1, 9), none, none, some (.aload_n 2, 1967, 0, 0, 0), some (.aload_n 0, 1968, 0, 0, 0), some (.iload_n 3, 1969, 0, 0, 0), some (.iconst 1, 1970, 0, 0, 0), some (.iadd, 1971, 0, 0, 0), some (.iaload, 1972, 0, 0, 0), some (.invokevirtual 234, 1975, 281, 1, 10), none, none, some (.if_icmp .eq 5, 1978, 1980, 0, 0), none, none, some (.iconst 0, 1979, 0, 0, 0), some (.ireturn, 1980, 1, 0, 0), some (.iinc 3 6, 1983, 0, 0, 0), none, none, some (.goto (-1965), 1986, 18, 0, 0)]

set_option maxRecDepth 20000 in
noncomputable def jt_283_31 : List (Option jm_I) := [none, none, some (.iconst 1, 1987, 0, 0, 0), some (.ireturn, 1988, 1, 0, 0)]

noncomputable def jt_283 : List (List (Option jm_I)) := [jt_283_0, jt_283_1, jt_283_2, jt_283_3, jt_283_4, jt_283_5, jt_283_6, jt_283_7, jt_283_8, jt_283_9, jt_283_10, jt_283_11, jt_283_12, jt_283_13, jt_283_14, jt_283_15, jt_283_16, jt_283_17, jt_283_18, jt_283_19, jt_283_20, jt_283_21, jt_283_22, jt_283_23, jt_283_24, jt_283_25, jt_283_26, jt_283_27, jt_283_28, jt_283_29, jt_283_30, jt_283_31]

noncomputable def jm_JT_0 : List (List (List (Option jm_I))) := [jt_0, jt_1, jt_2, jt_3, jt_4, jt_5, jt_6, jt_7, jt_8, jt_9, jt_10, jt_11, jt_12, jt_13, jt_14, jt_15]

noncomputable def jm_JT_1 : List (List (List (Option jm_I))) := [jt_16, jt_17, jt_18, jt_19, jt_20, jt_21, jt_22, jt_23, jt_24, jt_25, jt_26, jt_27, jt_28, jt_29, jt_30, jt_31]

noncomputable def jm_JT_2 : List (List (List (Option jm_I))) := [jt_32, jt_33, jt_34, jt_35, jt_36, jt_37, jt_38, jt_39, jt_40, jt_41, jt_42, jt_43, jt_44, jt_45, jt_46, jt_47]

noncomputable def jm_JT_3 : List (List (List (Option jm_I))) := [jt_48, jt_49, jt_50, jt_51, jt_52, jt_53, jt_54, jt_55, jt_56, jt_57, jt_58, jt_59, jt_60, jt_61, jt_62, jt_63]

noncomputable def jm_JT_4 : List (List (List (Option jm_I))) := [jt_64, jt_65, jt_66, jt_67, jt_68, jt_69, jt_70, jt_71, jt_72, jt_73, jt_74, jt_75, jt_76, jt_77, jt_78, jt_79]

noncomputable def jm_JT_5 : List (List (List (Option jm_I))) := [jt_80, jt_81, jt_82, jt_83, jt_84, jt_85, jt_86, jt_87, jt_88, jt_89, jt_90, jt_91, jt_92, jt_93, jt_94, jt_95]

noncomputable def jm_JT_6 : List (List (List (Option jm_I))) := [jt_96, jt_97, jt_98, jt_99, jt_100, jt_101, jt_102, jt_103, jt_104, jt_105, jt_106, jt_107, jt_108, jt_109, jt_110, jt_111]

noncomputable def jm_JT_7 : List (List (List (Option jm_I))) := [jt_112, jt_113, jt_114, jt_115, jt_116, jt_117, jt_118, jt_119, jt_120, jt_121, jt_122, jt_123, jt_124, jt_125, jt_126, jt_127]

noncomputable def jm_JT_8 : List (List (List (Option jm_I))) := [jt_128, jt_129, jt_130, jt_131, jt_132, jt_133, jt_134, jt_135, jt_136, jt_137, jt_138, jt_139, jt_140, jt_141, jt_142, jt_143]

noncomputable def jm_JT_9 : List (List (List (Option jm_I))) := [jt_144, jt_145, jt_146, jt_147, jt_148, jt_149, jt_150, jt_151, jt_152, jt_153, jt_154, jt_155, jt_156, jt_157, jt_158, jt_159]

noncomputable def jm_JT_10 : List (List (List (Option jm_I))) := [jt_160, jt_161, jt_162, jt_163, jt_164, jt_165, jt_166, jt_167, jt_168, jt_169, jt_170, jt_171, jt_172, jt_173, jt_174, jt_175]

noncomputable def jm_JT_11 : List (List (List (Option jm_I))) := [jt_176, jt_177, jt_178, jt_179, jt_180, jt_181, jt_182, jt_183, jt_184, jt_185, jt_186, jt_187, jt_188, jt_189, jt_190, jt_191]

noncomputable def jm_JT_12 : List (List (List (Option jm_I))) := [jt_192, jt_193, jt_194, jt_195, jt_196, jt_197, jt_198, jt_199, jt_200, jt_201, jt_202, jt_203, jt_204, jt_205, jt_206, jt_207]

noncomputable def jm_JT_13 : List (List (List (Option jm_I))) := [jt_208, jt_209, jt_210, jt_211, jt_212, jt_213, jt_214, jt_215, jt_216, jt_217, jt_218, jt_219, jt_220, jt_221, jt_222, jt_223]

noncomputable def jm_JT_14 : List (List (List (Option jm_I))) := [jt_224, jt_225, jt_226, jt_227, jt_228, jt_229, jt_230, jt_231, jt_232, jt_233, jt_234, jt_235, jt_236, jt_237, jt_238, jt_239]

noncomputable def jm_JT_15 : List (List (List (Option jm_I))) := [jt_240, jt_241, jt_242, jt_243, jt_244, jt_245, jt_246, jt_247, jt_248, jt_249, jt_250, jt_251, jt_252, jt_253, jt_254, jt_255]

noncomputable def jm_JT_16 : List (List (List (Option jm_I))) := [jt_256, jt_257, jt_258, jt_259, jt_260, jt_261, jt_262, jt_263, jt_264, jt_265, jt_266, jt_267, jt_268, jt_269, jt_270, jt_271]

noncomputable def jm_JT_17 : List (List (List (Option jm_I))) := [jt_272, jt_273, jt_274, jt_275, jt_276, jt_277, jt_278, jt_279, jt_280, jt_281, jt_282, jt_283]

noncomputable def jm_JT : List (List (List (List (Option jm_I)))) := [jm_JT_0, jm_JT_1, jm_JT_2, jm_JT_3, jm_JT_4, jm_JT_5, jm_JT_6, jm_JT_7, jm_JT_8, jm_JT_9, jm_JT_10, jm_JT_11, jm_JT_12, jm_JT_13, jm_JT_14, jm_JT_15, jm_JT_16, jm_JT_17]

noncomputable def jm_tab (mi pc : Nat) : Option jm_I := match jm_JT[mi / 16]? with
  | some g => match g[mi % 16]? with
    | some l => match l[pc / 64]? with
      | some q => match q[pc % 64]? with
        | some e => e
        | none => none
      | none => none
    | none => none
  | none => none
end
section
/-! Every row of the tables is what the class files' bytes and the Statement's words say. -/
def jm_len (i : Instr) (pc npc : Nat) : Nat := match i with
  | .bipush _ | .ldc _ | .iload _ | .lload _ | .aload _ | .istore _ | .lstore _ | .astore _ | .newarray _ => 2
  | .sipush _ | .ldc_w _ | .ldc2_w _ | .iinc _ _ | .ifCond _ _ | .if_icmp _ _ | .goto _ | .getfield _ | .putfield _ | .invokevirtual _ | .invokespecial _ | .invokestatic _ | .new _ | .anewarray _ => 3
  | .multianewarray _ _ => 4
  | .tableswitch _ _ _ _ | .lookupswitch _ _ => npc - pc
  | _ => 1
def jm_need (e : jm_I) : Option jm_K := match e.1 with
  | .getfield i | .putfield i => some (i, 0, e.2.2.1, e.2.2.2.1, e.2.2.2.2)
  | .invokevirtual i => some (i, 1, e.2.2.1, 0, e.2.2.2.2)
  | .invokespecial i | .invokestatic i => some (i, e.2.2.2.1, e.2.2.1, 0, 0)
  | .new i => some (i, 7, e.2.2.1, e.2.2.2.1, 0)
  | .anewarray i => some (i, 8, e.2.2.1, 0, 0)
  | .multianewarray i _ => some (i, 9, 0, 0, 0)
  | .ldc i | .ldc_w i => some (i, 10, 0, 0, e.2.2.2.2)
  | .ldc2_w i => some (i, 11, 0, 0, e.2.2.2.2)
  | _ => none
def jm_tyz (t : FieldType) (z : Int) : Bool := match t with
  | .int => z == 0
  | .boolean => z == 2
  | .object _ | .array _ => z == 1
  | _ => false
/-- what a link says of itself -/
noncomputable def jm_lok (own : String) (k : jm_K) : Bool := match k.2.1 with
  | 0 => decide (k.2.2.1 < 11) && decide (k.2.2.2.1 < jm_N k.2.2.1) && jm_tyz (jm_ty k.2.2.1 k.2.2.2.1) k.2.2.2.2
  | 1 => decide (0 ≤ k.2.2.2.2) && decide (k.2.2.2.2 < 11) && decide (k.2.2.1 < 283) && (match jm_MT[k.2.2.1]? with
    | some r => decide (jm_R k.2.2.2.2.toNat = r.1.cls) && plainName r.1.cls
    | none => false)
  | 2 | 4 => decide (k.2.2.1 < 283) && (match jm_MT[k.2.2.1]? with
    | some r => plainName r.1.cls
    | none => false)
  | 3 | 5 => decide (k.2.2.1 < 283) && (match jm_MT[k.2.2.1]? with
    | some r => decide (r.1.name = "<init>") && decide (r.2.2.2.1 = none) && plainName r.1.cls
    | none => false)
  | 6 => (match jm_MT[k.2.2.1]? with
    | some r => decide (r.1 = Lib.objectInit) && decide (r.2.1.data.toList = [0xb1]) && decide (r.2.2.1 = 1) && decide (r.2.2.2.1 = none) && decide (r.2.2.2.2.1 = 0)
    | none => false)
  | 7 => decide (k.2.2.1 < 11) && decide (k.2.2.2.1 = jm_N k.2.2.1)
  | _ => true
noncomputable def jm_side (q : jm_M) (pc : Nat) (e : jm_I) : Bool := match e.1 with
  | .ifCond _ off | .if_icmp _ off | .goto off => decide ((pc : Int) + off = (e.2.2.1 : Int))
  | .putfield _ => (!(jm_T e.2.2.1 e.2.2.2.1).2.2.2 || (decide (q.1.name = "<init>") && decide ((jm_T e.2.2.1 e.2.2.2.1).1 = q.1.cls)))
  | .invokespecial _ => (e.2.2.2.1 == 6 || e.2.2.2.1 == 3 || e.2.2.2.1 == 5)
  | .invokestatic _ => (e.2.2.2.1 == 12 || e.2.2.2.1 == 13 || e.2.2.2.1 == 14 || e.2.2.2.1 == 2 || e.2.2.2.1 == 4)
  | .multianewarray _ d => d == 2
  | .lookupswitch _ ps => (ps.toList.zip (ps.toList.drop 1)).all (fun (a, next) => a.1 < next.1)
  | .ireturn => (e.2.2.1 == 0 && decide (q.2.2.2.1 = some .int)) || (e.2.2.1 == 1 && decide (q.2.2.2.1 = some .boolean))
  | .lreturn => decide (q.2.2.2.1 = some .long)
  | .areturn => (match q.2.2.2.1 with
    | some (.object _) => true
    | _ => false)
  | .return_ => decide (q.2.2.2.1 = none)
  | _ => true
def jm_keq (a b : jm_K) : Bool := a.1 == b.1 && a.2.1 == b.2.1 && a.2.2.1 == b.2.2.1 && a.2.2.2.1 == b.2.2.2.1 && a.2.2.2.2 == b.2.2.2.2
/-- the bytes from pc on, and the rows of the table from pc on -/
noncomputable def jm_lin (q : jm_M) : List (Option jm_I) → List UInt8 → Nat → Bool
  | [], _, _ => true
  | none :: t, bs, pc => jm_lin q t bs.tail (pc + 1)
  | some e :: t, bs, pc => (match Decoder.instr pc (Jvm.Free.DS.win bs pc (jm_len e.1 pc e.2.1)) (pc % 4) with
      | .ok (j, p) => decide (j = e.1) && p == pc % 4 + jm_len e.1 pc e.2.1
      | .error _ => false) && e.2.1 == pc + jm_len e.1 pc e.2.1 && (match jm_need e with
    | some k => (jm_LK q.2.2.2.2.2).any (jm_keq k)
    | none => true) && jm_side q pc e && jm_lin q t bs.tail (pc + 1)
noncomputable def jm_okm (mi : Nat) : Bool := match jm_MT[mi]? with
  | some q => decide (q.1.cls ≠ "java/lang/invoke/MethodHandle" ∧ q.1.cls ≠ "java/lang/invoke/VarHandle") && decide ((parseMethodDescriptor q.1.desc).map (fun d => d.parameters.length) = some q.2.2.2.2.1) && decide (q.2.2.1 ≤ 22) && (plainName q.1.cls || q.2.2.2.2.2 == 12 || q.2.2.2.2.2 == 14 || q.2.2.2.2.2 == 13) && decide (jm_own[q.2.2.2.2.2]? = some q.1.cls) && (match jm_JT[mi / 16]? with
    | some g => match g[mi % 16]? with
      | some l => jm_lin q l.flatten q.2.1.data.toList 0 && decide (l.flatten.length ≤ q.2.1.size) && l.dropLast.all (fun c => c.length == 64)
      | none => true
    | none => true)
  | none => false
def jm_on (o : Nat) : String := match jm_own[o]? with
  | some s => s
  | none => ""
noncomputable def jm_lw (o : Nat) (q : jm_K) : List Cond := match q.2.1 with
  | 0 => [.fieldLink (jm_on o) q.1 (jm_T q.2.2.1 q.2.2.2.1).1 (jm_T q.2.2.1 q.2.2.2.1).2.1 (jm_T q.2.2.1 q.2.2.2.1).2.2.1]
  | 1 => match jm_MT[q.2.2.1]? with
    | some r => [.methodLink (jm_on o) q.1 r.1, .instanceMethod r.1, .selects r.1.cls r.1 r.1, .initialized r.1.cls, .code r.1 r.2.1 r.2.2.1 r.2.2.2.1]
    | none => []
  | 2 => match jm_MT[q.2.2.1]? with
    | some r => [.methodLink (jm_on o) q.1 r.1, .static r.1, .initialized r.1.cls, .code r.1 r.2.1 r.2.2.1 r.2.2.2.1]
    | none => []
  | 3 => match jm_MT[q.2.2.1]? with
    | some r => [.methodLink (jm_on o) q.1 r.1, .instanceMethod r.1, .initialized r.1.cls, .code r.1 r.2.1 r.2.2.1 r.2.2.2.1]
    | none => []
  | 4 => match jm_MT[q.2.2.1]? with
    | some r => [.methodLinkNest (jm_on o) q.1 r.1 "LeapingPassages", .static r.1, .initialized r.1.cls, .code r.1 r.2.1 r.2.2.1 r.2.2.2.1]
    | none => []
  | 5 => match jm_MT[q.2.2.1]? with
    | some r => [.methodLinkNest (jm_on o) q.1 r.1 "LeapingPassages", .instanceMethod r.1, .initialized r.1.cls, .code r.1 r.2.1 r.2.2.1 r.2.2.2.1]
    | none => []
  | 6 => match jm_MT[q.2.2.1]? with
    | some r => [.methodLink (jm_on o) q.1 r.1, .instanceMethod r.1, .code r.1 r.2.1 r.2.2.1 r.2.2.2.1]
    | none => []
  | 7 => [.classLink (jm_on o) q.1 (jm_R q.2.2.1), .instantiable (jm_R q.2.2.1) (jm_N q.2.2.1), .initialized (jm_R q.2.2.1)]
  | 8 => [.classLink (jm_on o) q.1 (match q.2.2.1 with | 0 => "LeapingPassages$Shelf" | 1 => "LeapingPassages$Ask" | _ => "LeapingPassages$Spans"), .arrayOver (.object (match q.2.2.1 with | 0 => "LeapingPassages$Shelf" | 1 => "LeapingPassages$Ask" | _ => "LeapingPassages$Spans"))]
  | 9 => [.classLink (jm_on o) q.1 "[[J", .arrayOver (.array .long), .arrayClass .long]
  | 10 => [.constant (jm_on o) q.1 (Int32.ofInt q.2.2.2.2)]
  | 11 => [.constantLong (jm_on o) q.1 (Int64.ofInt q.2.2.2.2)]
  | 13 => [.methodLink (jm_on o) q.1 Lib.Math.max.name, .static Lib.Math.max.name, .initialized "java/lang/Math", .code Lib.Math.max.name Lib.Math.max.code 2 (some .int)]
  | 14 => [.methodLink (jm_on o) q.1 Lib.Math.min.name, .static Lib.Math.min.name, .initialized "java/lang/Math", .code Lib.Math.min.name Lib.Math.min.code 2 (some .int)]
  | _ => [.methodLink (jm_on o) q.1 arraycopyName, .native arraycopyName, .static arraycopyName, .initialized "java/lang/System"]
noncomputable def jm_tc : List (List Cond) := [k2_sels lw_privs, tables_1_1, tables_1_2, tables_1_3, tables_1_4, tables_1_5, tables_1_6, tables_1_7]
theorem jm_tc_in : ∀ l ∈ jm_tc, ∀ w ∈ l, w ∈ lw_tbl := by
  intro l hl w hw
  simp only [jm_tc, List.mem_cons, List.not_mem_nil, or_false] at hl
  simp only [lw_tbl, tables_1, List.mem_append]
  rcases hl with h | h | h | h | h | h | h | h <;> subst h <;> simp only [hw, true_or, or_true]
noncomputable def jm_tw (p : Nat × Nat) : Option Cond := match jm_tc[p.1]? with
  | some l => l[p.2]?
  | none => none
theorem jm_tw_in {p : Nat × Nat} {w : Cond} (h : jm_tw p = some w) : w ∈ lw_tbl := by
  unfold jm_tw at h
  split at h
  · rename_i l hl
    exact jm_tc_in l (List.mem_of_getElem? hl) w (List.mem_of_getElem? h)
  · cases h
theorem jm_lwk {o : Nat} {l : List jm_K} {ps : List (List (Nat × Nat))} (h : l.map (jm_lw o) = ps.map (fun r => r.filterMap jm_tw)) : ∀ q ∈ l, ∀ w ∈ jm_lw o q, w ∈ lw_tbl := by
  intro q hq w hw
  have hm : jm_lw o q ∈ l.map (jm_lw o) := List.mem_map.mpr ⟨q, hq, rfl⟩
  rw [h] at hm
  obtain ⟨r, -, hr⟩ := List.mem_map.mp hm
  rw [← hr] at hw
  obtain ⟨p, -, hp⟩ := List.mem_filterMap.mp hw
  exact jm_tw_in hp
set_option maxRecDepth 100000 in
theorem jm_lkw0 : ∀ q ∈ jm_lk0, ∀ w ∈ jm_lw 0 q, w ∈ lw_tbl := jm_lwk (ps := [[(1, 21), (1, 22), (1, 23)], [(1, 24), (1, 25), (1, 2)], [(1, 26), (1, 27), (1, 2), (1, 28)], [(2, 37)], [(2, 38)], [(1, 54), (1, 55), (1, 3)], [(1, 56), (1, 57), (1, 3), (1, 58)], [(2, 39)], [(2, 40)], [(1, 134), (1, 135), (1, 5)], [(1, 136), (1, 137), (1, 5), (1, 138)], [(2, 41)], [(1, 200), (1, 142), (1, 6)], [(1, 201), (1, 144), (1, 6), (1, 145)], [(2, 42)], [(2, 43)], [(1, 202), (1, 203), (1, 8)], [(1, 204), (1, 205), (1, 8), (1, 206)], [(2, 44)], [(1, 218), (1, 219), (1, 9)], [(1, 220), (1, 221), (1, 9), (1, 222)], [(2, 45)], [(2, 16), (2, 17)], [(2, 46)], [(2, 47)], [(2, 16), (2, 18), (1, 10)], [(2, 19), (2, 20), (1, 10), (2, 21)], [(2, 78), (2, 79), (1, 1), (2, 80)], [(2, 81), (2, 83), (0, 0), (1, 1), (2, 84)], [(2, 85), (2, 86), (2, 87), (1, 10), (2, 88)], [(2, 96), (2, 98), (0, 1), (1, 1), (2, 99)], [(2, 108), (2, 109), (2, 110), (1, 10), (2, 111)], [(2, 24)], [(2, 28)], [(2, 112), (2, 113), (1, 1), (2, 114)], [(2, 100), (2, 101), (2, 102), (1, 10), (2, 103)], [(2, 104), (2, 105), (2, 106), (1, 10), (2, 107)], [(2, 26)], [(2, 119), (2, 120), (2, 121), (1, 10), (2, 122)], [(2, 123), (2, 125), (2, 124), (1, 13)], [(2, 138), (2, 139), (2, 140), (1, 3), (2, 141)], [(1, 125)], [(1, 69)], [(2, 146), (2, 147), (1, 1), (2, 148)], [(2, 152), (2, 154), (0, 2), (1, 1), (2, 155)], [(2, 149), (2, 150), (1, 1), (2, 151)], [(2, 156), (2, 157), (2, 158), (1, 5), (2, 159)], [(1, 160)], [(1, 73)], [(1, 77)], [(1, 84)], [(3, 16), (3, 17), (1, 1), (3, 18)], [(1, 39)], [(3, 19), (3, 20), (3, 21), (1, 2), (3, 22)], [(3, 23), (3, 24), (3, 25), (1, 5), (3, 26)], [(3, 31), (3, 32), (3, 33), (1, 2), (3, 34)], [(3, 35), (3, 36), (3, 37), (1, 2), (3, 38)], [(3, 43), (3, 44), (3, 45), (1, 2), (3, 46)], [(1, 32)], [(1, 36)], [(1, 212)], [(3, 55), (3, 56), (3, 57), (1, 8), (3, 58)], [(3, 67), (3, 68), (3, 69), (1, 8), (3, 70)], [(3, 77), (3, 78), (3, 79), (1, 8), (3, 80)], [(3, 81), (3, 83), (0, 11), (1, 1), (3, 84)], [(3, 85), (3, 86), (3, 87), (1, 8), (3, 88)], [(3, 95), (3, 96), (3, 97), (1, 9), (3, 98)], [(1, 234)], [(1, 128)], [(3, 183), (3, 185), (0, 25), (1, 1), (3, 186)], [(3, 187), (3, 188), (3, 189), (1, 3), (3, 190)], [(3, 191), (3, 109), (3, 110), (1, 3), (3, 111)], [(3, 192), (3, 193), (3, 194), (1, 3), (3, 195)], [(3, 200)], [(3, 205), (3, 207), (0, 26), (1, 1), (3, 208)], [(3, 209), (3, 161), (3, 162), (1, 3), (3, 163)], [(3, 226), (3, 227), (3, 228), (1, 5), (3, 229)], [(3, 230), (3, 232), (0, 27), (1, 1), (3, 233)], [(1, 81)], [(1, 92)], [(1, 94)], [(1, 97)], [(1, 34)], [(4, 2), (4, 3), (4, 4), (1, 2), (4, 5)], [(4, 6), (2, 174), (2, 175), (1, 2), (2, 176)], [(4, 15), (2, 218), (2, 219), (1, 6), (2, 220)], [(4, 16), (4, 17), (4, 18), (1, 6), (4, 19)], [(4, 24), (2, 225), (1, 14), (2, 226)], [(4, 25), (2, 228), (1, 14), (2, 229)], [(4, 26), (2, 210), (2, 211), (1, 6), (2, 212)], [(4, 27), (4, 28), (4, 29), (1, 6), (4, 30)], [(4, 31), (4, 32), (4, 33), (1, 6), (4, 34)], [(4, 39), (4, 40), (4, 41), (1, 6), (4, 42)], [(4, 57), (2, 195), (2, 196), (1, 6), (2, 197)], [(4, 62), (4, 63), (4, 64), (1, 6), (4, 65)], [(4, 66), (4, 67), (4, 68), (1, 6), (4, 69)], [(4, 74), (2, 214), (2, 215), (1, 6), (2, 216)], [(4, 79), (4, 80), (4, 81), (1, 2), (4, 82)], [(4, 84), (2, 182), (2, 183), (1, 2), (2, 184)], [(4, 85), (4, 87), (0, 28), (1, 1), (4, 88)], [(1, 154)], [(1, 150)], [(4, 93), (4, 95), (0, 29), (1, 1), (4, 96)], [(4, 101), (4, 102), (4, 103), (1, 6), (4, 104)], [(4, 114), (4, 115), (4, 116), (1, 6), (4, 117)], [(4, 119), (3, 1), (3, 2), (1, 5), (3, 3)], [(4, 124), (4, 125), (4, 126), (1, 6), (4, 127)], [(4, 141), (4, 142), (4, 143), (1, 5), (4, 144)], [(4, 151), (4, 152), (4, 153), (1, 5), (4, 154)], [(4, 163), (4, 164), (4, 165), (1, 10), (4, 166)], [(4, 181), (4, 182), (4, 183), (1, 6), (4, 184)], [(4, 190), (4, 191), (4, 192), (1, 2), (4, 193)], [(1, 41)], [(4, 210), (4, 211), (4, 212), (1, 2), (4, 213)], [(4, 215), (4, 216), (4, 217), (1, 3), (4, 218)], [(2, 48)], [(4, 231), (4, 232), (4, 233), (1, 2), (4, 234)], [(5, 1), (5, 2), (5, 3), (1, 2), (5, 4)], [(5, 5), (5, 7), (0, 30), (1, 1), (5, 8)]]) rfl
set_option maxRecDepth 100000 in
theorem jm_lkw1 : ∀ q ∈ jm_lk1, ∀ w ∈ jm_lw 1 q, w ∈ lw_tbl := jm_lwk (ps := [[(1, 66), (1, 22), (1, 23)], [(1, 67)], [(1, 82)], [(1, 70)], [(1, 74)], [(1, 78)], [(1, 85)], [(1, 88)], [(1, 91)], [(1, 93)], [(1, 95)], [(1, 98)], [(3, 168)], [(3, 169), (2, 225), (1, 14), (2, 226)], [(3, 170), (2, 228), (1, 14), (2, 229)]]) rfl
set_option maxRecDepth 100000 in
theorem jm_lkw2 : ∀ q ∈ jm_lk2, ∀ w ∈ jm_lw 2 q, w ∈ lw_tbl := jm_lwk (ps := [[(1, 223), (1, 22), (1, 23)], [(1, 226)], [(1, 227)], [(1, 224)], [(1, 225)], [(1, 228)], [(1, 229)], [(1, 230)], [(1, 231)], [(1, 232)], [(1, 127)], [(1, 233)], [(1, 211)], [(1, 209)], [(3, 99), (3, 101), (0, 12), (1, 9), (3, 102)], [(3, 132), (3, 134), (0, 18), (1, 9), (3, 135)], [(3, 139), (3, 141), (0, 19), (1, 9), (3, 142)], [(3, 103), (3, 72), (1, 8), (3, 73)], [(3, 104), (3, 106), (0, 13), (1, 9), (3, 107)], [(3, 120), (3, 122), (0, 15), (1, 9), (3, 123)], [(3, 124), (3, 126), (0, 16), (1, 9), (3, 127)], [(3, 128), (3, 130), (0, 17), (1, 9), (3, 131)], [(3, 108), (3, 109), (3, 110), (1, 3), (3, 111)], [(3, 116), (3, 118), (0, 14), (1, 9), (3, 119)], [(3, 136), (3, 137), (1, 9), (3, 138)], [(3, 171), (3, 173), (0, 23), (1, 9), (3, 174)], [(3, 175), (3, 177), (0, 24), (1, 9), (3, 178)], [(3, 143), (3, 144), (1, 9), (3, 145)], [(3, 147), (3, 149), (0, 20), (1, 9), (3, 150)], [(3, 151), (2, 150), (1, 1), (2, 151)], [(3, 152), (3, 154), (0, 21), (1, 9), (3, 155)], [(3, 156), (3, 158), (0, 22), (1, 9), (3, 159)], [(3, 146), (2, 225), (1, 14), (2, 226)], [(3, 160), (3, 161), (3, 162), (1, 3), (3, 163)]]) rfl
set_option maxRecDepth 100000 in
theorem jm_lkw3 : ∀ q ∈ jm_lk3, ∀ w ∈ jm_lw 3 q, w ∈ lw_tbl := jm_lwk (ps := [[(1, 59), (1, 22), (1, 23)], [(1, 60), (1, 61)], [(1, 123)], [(1, 60), (1, 62), (1, 4)], [(1, 63), (1, 64), (1, 4), (1, 65)], [(1, 126)], [(3, 112), (3, 113), (3, 114), (1, 4), (3, 115)], [(1, 86)], [(1, 89)], [(1, 96)], [(1, 71)], [(1, 75)], [(1, 79)], [(3, 164), (3, 165), (3, 166), (1, 4), (3, 167)], [(4, 219), (4, 220), (4, 221), (1, 4), (4, 222)]]) rfl
set_option maxRecDepth 100000 in
theorem jm_lkw4 : ∀ q ∈ jm_lk4, ∀ w ∈ jm_lw 4 q, w ∈ lw_tbl := jm_lwk (ps := [[(1, 173), (1, 22), (1, 23)], [(1, 174)], [(2, 202), (2, 203), (1, 12), (2, 204)], [(2, 234), (2, 225), (1, 14), (2, 226)], [(1, 156)], [(2, 239), (2, 178), (2, 179), (1, 6), (2, 180)]]) rfl
set_option maxRecDepth 100000 in
theorem jm_lkw5 : ∀ q ∈ jm_lk5, ∀ w ∈ jm_lw 5 q, w ∈ lw_tbl := jm_lwk (ps := [[(1, 139), (1, 22), (1, 23)], [(1, 140), (1, 141)], [(1, 180)], [(1, 140), (1, 142), (1, 6)], [(1, 143), (1, 144), (1, 6), (1, 145)], [(1, 181)], [(1, 168), (1, 169), (1, 7)], [(1, 170), (1, 171), (1, 7), (1, 172)], [(1, 182)], [(1, 184)], [(1, 178)], [(1, 179)], [(2, 160), (2, 139), (2, 140), (1, 3), (2, 141)], [(1, 124)], [(1, 99)], [(1, 183)], [(2, 161), (2, 163), (0, 3), (1, 5), (2, 164)], [(1, 68)], [(2, 165), (2, 167), (0, 4), (1, 5), (2, 168)], [(1, 83)], [(2, 181), (2, 182), (2, 183), (1, 2), (2, 184)], [(1, 72)], [(2, 186), (2, 188), (0, 6), (1, 5), (2, 189)], [(2, 190), (2, 192), (0, 7), (1, 5), (2, 193)], [(2, 198), (2, 199), (2, 200), (1, 7), (2, 201)], [(1, 76)], [(1, 80)], [(2, 205), (2, 207), (0, 8), (1, 5), (2, 208)], [(2, 235), (2, 236), (2, 237), (1, 7), (2, 238)], [(3, 0), (3, 1), (3, 2), (1, 5), (3, 3)], [(1, 157)], [(1, 90)], [(1, 38)], [(1, 87)], [(2, 169), (2, 171), (0, 5), (1, 5), (2, 172)], [(2, 177), (2, 178), (2, 179), (1, 6), (2, 180)], [(1, 31)], [(2, 173), (2, 174), (2, 175), (1, 2), (2, 176)], [(2, 194), (2, 195), (2, 196), (1, 6), (2, 197)], [(1, 149)], [(1, 153)], [(2, 209), (2, 210), (2, 211), (1, 6), (2, 212)], [(2, 213), (2, 214), (2, 215), (1, 6), (2, 216)], [(2, 221), (2, 222), (1, 5), (2, 223)], [(2, 230), (2, 231), (2, 232), (1, 7), (2, 233)], [(2, 224), (2, 225), (1, 14), (2, 226)], [(2, 227), (2, 228), (1, 14), (2, 229)], [(3, 4), (3, 6), (0, 9), (1, 5), (3, 7)], [(3, 8), (3, 10), (0, 10), (1, 5), (3, 11)], [(4, 145), (3, 24), (3, 25), (1, 5), (3, 26)], [(4, 146), (2, 157), (2, 158), (1, 5), (2, 159)]]) rfl
set_option maxRecDepth 100000 in
theorem jm_lkw6 : ∀ q ∈ jm_lk6, ∀ w ∈ jm_lw 6 q, w ∈ lw_tbl := jm_lwk (ps := [[(2, 22), (1, 22), (1, 23)], [(2, 23)], [(2, 27)], [(2, 89), (2, 90), (1, 12), (2, 91)], [(2, 25)], [(4, 167), (2, 120), (2, 121), (1, 10), (2, 122)], [(4, 168), (2, 218), (2, 219), (1, 6), (2, 220)], [(1, 148)], [(1, 152)], [(1, 158)]]) rfl
set_option maxRecDepth 100000 in
theorem jm_lkw7 : ∀ q ∈ jm_lk7, ∀ w ∈ jm_lw 7 q, w ∈ lw_tbl := jm_lwk (ps := [[(1, 146), (1, 22), (1, 23)], [(1, 147)], [(1, 151)], [(1, 155)], [(2, 217), (2, 218), (2, 219), (1, 6), (2, 220)], [(4, 43), (2, 210), (2, 211), (1, 6), (2, 212)], [(4, 44), (4, 32), (4, 33), (1, 6), (4, 34)], [(4, 105), (2, 228), (1, 14), (2, 229)], [(4, 118), (4, 17), (4, 18), (1, 6), (4, 19)], [(4, 128), (2, 225), (1, 14), (2, 226)], [(4, 185), (2, 125), (2, 124), (1, 13)]]) rfl
set_option maxRecDepth 100000 in
theorem jm_lkw8 : ∀ q ∈ jm_lk8, ∀ w ∈ jm_lw 8 q, w ∈ lw_tbl := jm_lwk (ps := [[(1, 207), (1, 22), (1, 23)], [(1, 208)], [(1, 210)], [(3, 71), (3, 72), (1, 8), (3, 73)], [(3, 74), (3, 75), (1, 8), (3, 76)], [(3, 89), (3, 20), (3, 21), (1, 2), (3, 22)], [(3, 90), (3, 36), (3, 37), (1, 2), (3, 38)]]) rfl
set_option maxRecDepth 100000 in
theorem jm_lkw9 : ∀ q ∈ jm_lk9, ∀ w ∈ jm_lw 9 q, w ∈ lw_tbl := jm_lwk (ps := [[(1, 29), (1, 22), (1, 23)], [(1, 30)], [(1, 33)], [(1, 35)], [(1, 40)], [(1, 159)], [(1, 37)], [(2, 185), (2, 178), (2, 179), (1, 6), (2, 180)], [(4, 83), (4, 3), (4, 4), (1, 2), (4, 5)], [(4, 194), (4, 195), (4, 196), (1, 2), (4, 197)], [(4, 199), (3, 20), (3, 21), (1, 2), (3, 22)], [(4, 200), (3, 36), (3, 37), (1, 2), (3, 38)], [(4, 201), (3, 32), (3, 33), (1, 2), (3, 34)], [(4, 198)], [(4, 214), (2, 125), (2, 124), (1, 13)], [(4, 235), (4, 236), (1, 15), (4, 237)]]) rfl
set_option maxRecDepth 100000 in
theorem jm_lkw10 : ∀ q ∈ jm_lk10, ∀ w ∈ jm_lw 10 q, w ∈ lw_tbl := jm_lwk (ps := [[(1, 16), (1, 17), (1, 1)], [(1, 18), (1, 19), (1, 1), (1, 20)], [(5, 9), (5, 10), (1, 11)], [(5, 11), (5, 12), (1, 11), (5, 13)], [(2, 74), (2, 75), (2, 76), (1, 1), (2, 77)], [(5, 144), (5, 145), (5, 146), (1, 11), (5, 147)], [(7, 137)], [(2, 92), (2, 93), (2, 94), (1, 1), (2, 95)], [(5, 158), (5, 159), (5, 160), (1, 11), (5, 161)], [(2, 115), (2, 116), (2, 117), (1, 1), (2, 118)], [(5, 169), (5, 170), (5, 171), (1, 11), (5, 172)], [(2, 126), (2, 127), (2, 128), (1, 1), (2, 129)], [(5, 173), (5, 174), (5, 175), (1, 11), (5, 176)], [(2, 130), (2, 131), (2, 132), (1, 1), (2, 133)], [(5, 177), (5, 178), (5, 179), (1, 11), (5, 180)], [(2, 134), (2, 135), (2, 136), (1, 1), (2, 137)], [(5, 181), (5, 182), (5, 183), (1, 11), (5, 184)], [(2, 142), (2, 143), (2, 144), (1, 1), (2, 145)], [(5, 189), (5, 190), (5, 191), (1, 11), (5, 192)], [(3, 12), (3, 13), (3, 14), (1, 1), (3, 15)], [(6, 33), (6, 34), (6, 35), (1, 11), (6, 36)], [(3, 27), (3, 28), (3, 29), (1, 1), (3, 30)], [(6, 42), (6, 43), (6, 44), (1, 11), (6, 45)], [(3, 39), (3, 40), (3, 41), (1, 1), (3, 42)], [(6, 47), (6, 48), (6, 49), (1, 11), (6, 50)], [(3, 47), (3, 48), (3, 49), (1, 1), (3, 50)], [(6, 55), (6, 56), (6, 57), (1, 11), (6, 58)], [(3, 51), (3, 52), (3, 53), (1, 1), (3, 54)], [(6, 59), (6, 60), (6, 61), (1, 11), (6, 62)], [(3, 59), (3, 60), (3, 61), (1, 1), (3, 62)], [(6, 64), (6, 65), (6, 66), (1, 11), (6, 67)], [(3, 63), (3, 64), (3, 65), (1, 1), (3, 66)], [(6, 68), (6, 69), (6, 70), (1, 11), (6, 71)], [(3, 91), (3, 92), (3, 93), (1, 1), (3, 94)], [(6, 82), (6, 83), (6, 84), (1, 11), (6, 85)], [(3, 179), (3, 180), (3, 181), (1, 1), (3, 182)], [(6, 143), (6, 144), (6, 145), (1, 11), (6, 146)], [(3, 196), (3, 197), (3, 198), (1, 1), (3, 199)], [(6, 151), (6, 152), (6, 153), (1, 11), (6, 154)], [(3, 201), (3, 202), (3, 203), (1, 1), (3, 204)], [(6, 159), (6, 160), (6, 161), (1, 11), (6, 162)], [(3, 210), (3, 211), (3, 212), (1, 1), (3, 213)], [(6, 164), (6, 165), (6, 166), (1, 11), (6, 167)], [(3, 214), (3, 215), (3, 216), (1, 1), (3, 217)], [(6, 168), (6, 169), (6, 170), (1, 11), (6, 171)], [(3, 218), (3, 219), (3, 220), (1, 1), (3, 221)], [(6, 173), (6, 174), (6, 175), (1, 11), (6, 176)], [(3, 222), (3, 223), (3, 224), (1, 1), (3, 225)], [(6, 178), (6, 179), (6, 180), (1, 11), (6, 181)], [(3, 234), (3, 235), (3, 236), (1, 1), (3, 237)], [(6, 182), (6, 183), (6, 184), (1, 11), (6, 185)], [(3, 238), (3, 239), (4, 0), (1, 1), (4, 1)], [(6, 199), (6, 200), (6, 201), (1, 11), (6, 202)], [(4, 7), (4, 8), (4, 9), (1, 1), (4, 10)], [(6, 207), (6, 208), (6, 209), (1, 11), (6, 210)], [(4, 11), (4, 12), (4, 13), (1, 1), (4, 14)], [(6, 211), (6, 212), (6, 213), (1, 11), (6, 214)], [(4, 20), (4, 21), (4, 22), (1, 1), (4, 23)], [(6, 219), (6, 220), (6, 221), (1, 11), (6, 222)], [(4, 35), (4, 36), (4, 37), (1, 1), (4, 38)], [(6, 223), (6, 224), (6, 225), (1, 11), (6, 226)], [(4, 45), (4, 46), (4, 47), (1, 1), (4, 48)], [(6, 231), (6, 232), (6, 233), (1, 11), (6, 234)], [(4, 49), (4, 50), (4, 51), (1, 1), (4, 52)], [(6, 235), (6, 236), (6, 237), (1, 11), (6, 238)], [(4, 53), (4, 54), (4, 55), (1, 1), (4, 56)], [(6, 239), (7, 0), (7, 1), (1, 11), (7, 2)], [(4, 58), (4, 59), (4, 60), (1, 1), (4, 61)], [(7, 7), (7, 8), (7, 9), (1, 11), (7, 10)], [(4, 70), (4, 71), (4, 72), (1, 1), (4, 73)], [(7, 11), (7, 12), (7, 13), (1, 11), (7, 14)], [(4, 75), (4, 76), (4, 77), (1, 1), (4, 78)], [(7, 15), (7, 16), (7, 17), (1, 11), (7, 18)], [(4, 89), (4, 90), (4, 91), (1, 1), (4, 92)], [(7, 27), (7, 28), (7, 29), (1, 11), (7, 30)], [(4, 97), (4, 98), (4, 99), (1, 1), (4, 100)], [(7, 31), (7, 32), (7, 33), (1, 11), (7, 34)], [(4, 106), (4, 107), (4, 108), (1, 1), (4, 109)], [(7, 35), (7, 36), (7, 37), (1, 11), (7, 38)], [(4, 110), (4, 111), (4, 112), (1, 1), (4, 113)], [(7, 39), (7, 40), (7, 41), (1, 11), (7, 42)], [(4, 120), (4, 121), (4, 122), (1, 1), (4, 123)], [(7, 47), (7, 48), (7, 49), (1, 11), (7, 50)], [(4, 129), (4, 130), (4, 131), (1, 1), (4, 132)], [(7, 55), (7, 56), (7, 57), (1, 11), (7, 58)], [(4, 133), (4, 134), (4, 135), (1, 1), (4, 136)], [(7, 59), (7, 60), (7, 61), (1, 11), (7, 62)], [(4, 137), (4, 138), (4, 139), (1, 1), (4, 140)], [(7, 67), (7, 68), (7, 69), (1, 11), (7, 70)], [(4, 147), (4, 148), (4, 149), (1, 1), (4, 150)], [(7, 71), (7, 72), (7, 73), (1, 11), (7, 74)], [(4, 155), (4, 156), (4, 157), (1, 1), (4, 158)], [(7, 79), (7, 80), (7, 81), (1, 11), (7, 82)], [(4, 159), (4, 160), (4, 161), (1, 1), (4, 162)], [(7, 83), (7, 84), (7, 85), (1, 11), (7, 86)], [(4, 169), (4, 170), (4, 171), (1, 1), (4, 172)], [(7, 92), (7, 93), (7, 94), (1, 11), (7, 95)], [(4, 173), (4, 174), (4, 175), (1, 1), (4, 176)], [(7, 96), (7, 97), (7, 98), (1, 11), (7, 99)], [(4, 177), (4, 178), (4, 179), (1, 1), (4, 180)], [(7, 100), (7, 101), (7, 102), (1, 11), (7, 103)], [(4, 186), (4, 187), (4, 188), (1, 1), (4, 189)], [(7, 104), (7, 105), (7, 106), (1, 11), (7, 107)], [(4, 202), (4, 203), (4, 204), (1, 1), (4, 205)], [(7, 113), (7, 114), (7, 115), (1, 11), (7, 116)], [(4, 206), (4, 207), (4, 208), (1, 1), (4, 209)], [(7, 117), (7, 118), (7, 119), (1, 11), (7, 120)], [(4, 223), (4, 224), (4, 225), (1, 1), (4, 226)], [(7, 124), (7, 125), (7, 126), (1, 11), (7, 127)], [(4, 227), (4, 228), (4, 229), (1, 1), (4, 230)], [(7, 128), (7, 129), (7, 130), (1, 11), (7, 131)]]) rfl
set_option maxRecDepth 100000 in
theorem jm_lkw11 : ∀ q ∈ jm_lk11, ∀ w ∈ jm_lw 11 q, w ∈ lw_tbl := jm_lwk (ps := [[(5, 14), (1, 22), (1, 23)], [(5, 17)], [(5, 18)], [(5, 19)], [(5, 15), (5, 16), (2, 36)], [(5, 20)], [(5, 21)], [(5, 22)], [(5, 23)], [(5, 25)], [(5, 28)], [(5, 29)], [(5, 30)], [(5, 31)], [(5, 32)], [(5, 33)], [(5, 38)], [(5, 39)], [(5, 40)], [(5, 41)], [(5, 42)], [(5, 44)], [(5, 45)], [(5, 46)], [(5, 47)], [(5, 48)], [(5, 49)], [(5, 50)], [(5, 51)], [(5, 52)], [(5, 53)], [(5, 54)], [(5, 58)], [(5, 148)], [(5, 149), (5, 150), (1, 11), (5, 151)], [(5, 152)], [(5, 153)], [(5, 154), (5, 156), (0, 31), (1, 11), (5, 157)], [(5, 162), (5, 164), (0, 32), (1, 11), (5, 165)], [(5, 166), (5, 167), (1, 11), (5, 168)], [(5, 185), (5, 187), (0, 33), (1, 11), (5, 188)], [(5, 27)], [(5, 193)], [(5, 194), (5, 195), (1, 11), (5, 196)], [(5, 197), (5, 199), (0, 34), (1, 11), (5, 200)], [(5, 43)], [(5, 201), (5, 203), (0, 35), (1, 11), (5, 204)], [(5, 205), (5, 207), (0, 36), (1, 11), (5, 208)], [(5, 209), (5, 211), (0, 37), (1, 11), (5, 212)], [(5, 225), (5, 227), (0, 41), (1, 11), (5, 228)], [(5, 233), (5, 235), (0, 43), (1, 11), (5, 236)], [(6, 5), (6, 7), (0, 46), (1, 11), (6, 8)], [(6, 9), (6, 11), (0, 47), (1, 11), (6, 12)], [(5, 26)], [(5, 213), (5, 215), (0, 38), (1, 11), (5, 216)], [(5, 217), (5, 219), (0, 39), (1, 11), (5, 220)], [(5, 221), (5, 223), (0, 40), (1, 11), (5, 224)], [(5, 229), (5, 231), (0, 42), (1, 11), (5, 232)], [(5, 237), (5, 239), (0, 44), (1, 11), (6, 0)], [(6, 1), (6, 3), (0, 45), (1, 11), (6, 4)], [(6, 13), (6, 15), (0, 48), (1, 11), (6, 16)], [(6, 17), (6, 19), (0, 49), (1, 11), (6, 20)], [(6, 21), (6, 23), (0, 50), (1, 11), (6, 24)], [(6, 25), (6, 27), (0, 51), (1, 11), (6, 28)], [(6, 29), (6, 31), (0, 52), (1, 11), (6, 32)], [(6, 37)], [(6, 38), (6, 40), (0, 53), (1, 11), (6, 41)], [(6, 46)], [(6, 51), (6, 53), (0, 54), (1, 11), (6, 54)], [(6, 63)], [(5, 24)], [(6, 72), (6, 74), (0, 55), (1, 11), (6, 75)], [(6, 78), (6, 80), (0, 56), (1, 11), (6, 81)], [(6, 76)], [(6, 77)], [(5, 55)], [(5, 56)], [(5, 57)], [(6, 86), (6, 88), (0, 57), (1, 11), (6, 89)], [(6, 106), (6, 108), (0, 62), (1, 11), (6, 109)], [(6, 118), (6, 120), (0, 65), (1, 11), (6, 121)], [(6, 90), (6, 92), (0, 58), (1, 11), (6, 93)], [(6, 126), (6, 128), (0, 67), (1, 11), (6, 129)], [(6, 110), (6, 112), (0, 63), (1, 11), (6, 113)], [(6, 94), (6, 96), (0, 59), (1, 11), (6, 97)], [(6, 98), (6, 100), (0, 60), (1, 11), (6, 101)], [(6, 102), (6, 104), (0, 61), (1, 11), (6, 105)], [(6, 140), (6, 141), (1, 11), (6, 142)], [(6, 134), (6, 136), (0, 69), (1, 11), (6, 137)], [(6, 114), (6, 116), (0, 64), (1, 11), (6, 117)], [(6, 122), (6, 124), (0, 66), (1, 11), (6, 125)], [(6, 130), (6, 132), (0, 68), (1, 11), (6, 133)], [(6, 138)], [(6, 139)], [(6, 147), (6, 149), (0, 70), (1, 11), (6, 150)], [(6, 155), (6, 157), (0, 71), (1, 11), (6, 158)], [(6, 163)], [(6, 172)], [(6, 177)], [(6, 186), (6, 188), (0, 72), (1, 11), (6, 189)], [(6, 194), (6, 195), (1, 11), (6, 196)], [(6, 197)], [(6, 198)], [(6, 190), (6, 192), (0, 73), (1, 11), (6, 193)], [(6, 203), (6, 205), (0, 74), (1, 11), (6, 206)], [(6, 215), (6, 217), (0, 75), (1, 11), (6, 218)], [(6, 227), (6, 229), (0, 76), (1, 11), (6, 230)], [(7, 3), (7, 5), (0, 77), (1, 11), (7, 6)], [(7, 19), (7, 21), (0, 78), (1, 11), (7, 22)], [(7, 23), (7, 25), (0, 79), (1, 11), (7, 26)], [(7, 43), (7, 45), (0, 80), (1, 11), (7, 46)], [(7, 51), (7, 53), (0, 81), (1, 11), (7, 54)], [(7, 63), (7, 65), (0, 82), (1, 11), (7, 66)], [(7, 75), (7, 77), (0, 83), (1, 11), (7, 78)], [(7, 87)], [(7, 88), (7, 90), (0, 84), (1, 11), (7, 91)], [(7, 108), (7, 110), (0, 85), (1, 11), (7, 111)], [(7, 112)], [(5, 34)], [(5, 35)], [(5, 36)], [(5, 37)], [(7, 121), (7, 122), (1, 11), (7, 123)], [(7, 132), (7, 133), (1, 11), (7, 134)], [(7, 135)], [(7, 136)]]) rfl
set_option maxRecDepth 100000 in
theorem jm_lkw12 : ∀ q ∈ jm_lk12, ∀ w ∈ jm_lw 12 q, w ∈ lw_tbl := jm_lwk (ps := [[(4, 238)], [(4, 239)], [(5, 0)]]) rfl
theorem jm_lk_in (o : Nat) : ∀ q ∈ jm_LK o, ∀ w ∈ jm_lw o q, w ∈ lw_tbl := by
  intro q hq w hw
  unfold jm_LK at hq
  split at hq
  · exact jm_lkw0 q hq w hw
  · exact jm_lkw1 q hq w hw
  · exact jm_lkw2 q hq w hw
  · exact jm_lkw3 q hq w hw
  · exact jm_lkw4 q hq w hw
  · exact jm_lkw5 q hq w hw
  · exact jm_lkw6 q hq w hw
  · exact jm_lkw7 q hq w hw
  · exact jm_lkw8 q hq w hw
  · exact jm_lkw9 q hq w hw
  · exact jm_lkw10 q hq w hw
  · exact jm_lkw11 q hq w hw
  · exact jm_lkw12 q hq w hw
  · cases hq
set_option maxRecDepth 100000 in
theorem jm_loks : ((List.range 13).all fun o => (jm_LK o).all (jm_lok (jm_on o))) = true := by decide +kernel
set_option maxRecDepth 100000 in
set_option maxHeartbeats 4000000 in
theorem jm_okg0 : ((List.range 16).all fun j => jm_okm (0 + j)) = true := by decide +kernel
set_option maxRecDepth 100000 in
set_option maxHeartbeats 4000000 in
theorem jm_okg1 : ((List.range 16).all fun j => jm_okm (16 + j)) = true := by decide +kernel
set_option maxRecDepth 100000 in
set_option maxHeartbeats 4000000 in
theorem jm_okg2 : ((List.range 16).all fun j => jm_okm (32 + j)) = true := by decide +kernel
set_option maxRecDepth 100000 in
set_option maxHeartbeats 4000000 in
theorem jm_okg3 : ((List.range 16).all fun j => jm_okm (48 + j)) = true := by decide +kernel
set_option maxRecDepth 100000 in
set_option maxHeartbeats 4000000 in
theorem jm_okg4 : ((List.range 16).all fun j => jm_okm (64 + j)) = true := by decide +kernel
set_option maxRecDepth 100000 in
set_option maxHeartbeats 4000000 in
theorem jm_okg5 : ((List.range 16).all fun j => jm_okm (80 + j)) = true := by decide +kernel
set_option maxRecDepth 100000 in
set_option maxHeartbeats 4000000 in
theorem jm_okg6 : ((List.range 16).all fun j => jm_okm (96 + j)) = true := by decide +kernel
set_option maxRecDepth 100000 in
set_option maxHeartbeats 4000000 in
theorem jm_okg7 : ((List.range 16).all fun j => jm_okm (112 + j)) = true := by decide +kernel
set_option maxRecDepth 100000 in
set_option maxHeartbeats 4000000 in
theorem jm_okg8 : ((List.range 16).all fun j => jm_okm (128 + j)) = true := by decide +kernel
set_option maxRecDepth 100000 in
set_option maxHeartbeats 4000000 in
theorem jm_okg9 : ((List.range 16).all fun j => jm_okm (144 + j)) = true := by decide +kernel
set_option maxRecDepth 100000 in
set_option maxHeartbeats 4000000 in
theorem jm_okg10 : ((List.range 16).all fun j => jm_okm (160 + j)) = true := by decide +kernel
set_option maxRecDepth 100000 in
set_option maxHeartbeats 4000000 in
theorem jm_okg11 : ((List.range 16).all fun j => jm_okm (176 + j)) = true := by decide +kernel
set_option maxRecDepth 100000 in
set_option maxHeartbeats 4000000 in
theorem jm_okg12 : ((List.range 16).all fun j => jm_okm (192 + j)) = true := by decide +kernel
set_option maxRecDepth 100000 in
set_option maxHeartbeats 4000000 in
theorem jm_okg13 : ((List.range 16).all fun j => jm_okm (208 + j)) = true := by decide +kernel
set_option maxRecDepth 100000 in
set_option maxHeartbeats 4000000 in
theorem jm_okg14 : ((List.range 16).all fun j => jm_okm (224 + j)) = true := by decide +kernel
set_option maxRecDepth 100000 in
set_option maxHeartbeats 4000000 in
theorem jm_okg15 : ((List.range 16).all fun j => jm_okm (240 + j)) = true := by decide +kernel
set_option maxRecDepth 100000 in
set_option maxHeartbeats 4000000 in
theorem jm_okg16 : ((List.range 16).all fun j => jm_okm (256 + j)) = true := by decide +kernel
set_option maxRecDepth 100000 in
set_option maxHeartbeats 4000000 in
theorem jm_okg17 : ((List.range 12).all fun j => jm_okm (272 + j)) = true := by decide +kernel
theorem jm_okm_all : ∀ mi, mi < 284 → jm_okm mi = true := by
  intro mi h
  have key : ∀ (n g : Nat), ((List.range n).all fun j => jm_okm (g + j)) = true → g ≤ mi → mi < g + n → jm_okm mi = true := fun n g h h1 h2 => by
    have := List.all_eq_true.mp h (mi - g) (List.mem_range.mpr (by omega))
    rwa [show g + (mi - g) = mi by omega] at this
  by_cases h0 : mi < 16
  · exact key _ _ jm_okg0 (by omega) (by omega)
  by_cases h1 : mi < 32
  · exact key _ _ jm_okg1 (by omega) (by omega)
  by_cases h2 : mi < 48
  · exact key _ _ jm_okg2 (by omega) (by omega)
  by_cases h3 : mi < 64
  · exact key _ _ jm_okg3 (by omega) (by omega)
  by_cases h4 : mi < 80
  · exact key _ _ jm_okg4 (by omega) (by omega)
  by_cases h5 : mi < 96
  · exact key _ _ jm_okg5 (by omega) (by omega)
  by_cases h6 : mi < 112
  · exact key _ _ jm_okg6 (by omega) (by omega)
  by_cases h7 : mi < 128
  · exact key _ _ jm_okg7 (by omega) (by omega)
  by_cases h8 : mi < 144
  · exact key _ _ jm_okg8 (by omega) (by omega)
  by_cases h9 : mi < 160
  · exact key _ _ jm_okg9 (by omega) (by omega)
  by_cases h10 : mi < 176
  · exact key _ _ jm_okg10 (by omega) (by omega)
  by_cases h11 : mi < 192
  · exact key _ _ jm_okg11 (by omega) (by omega)
  by_cases h12 : mi < 208
  · exact key _ _ jm_okg12 (by omega) (by omega)
  by_cases h13 : mi < 224
  · exact key _ _ jm_okg13 (by omega) (by omega)
  by_cases h14 : mi < 240
  · exact key _ _ jm_okg14 (by omega) (by omega)
  by_cases h15 : mi < 256
  · exact key _ _ jm_okg15 (by omega) (by omega)
  by_cases h16 : mi < 272
  · exact key _ _ jm_okg16 (by omega) (by omega)
  by_cases h17 : mi < 284
  · exact key _ _ jm_okg17 (by omega) (by omega)
  omega
end
section
/-! A small machine of our own over an abstract heap: a cell is a kind, a length and its references; ints and longs stand beside, by cell and place.
kinds: 1 an int array, 2 a long array, 3, 4, 5 arrays of Shelf, Ask, Spans, 6 an array of long arrays, 10 + c an object of class c. A reference is the cell's number; the script is 'retAddr'. -/
abbrev jm_S : Type := Nat × Nat × (Nat → Option Nat)
abbrev jm_H : Type := List jm_S × (Nat → Nat → Int32) × (Nat → Nat → Int64)
abbrev jm_L : Type := List (Option Value)
abbrev jm_C : Type := Nat × jm_L × List Value × jm_H
abbrev jm_O : Type := Option Value × jm_H
abbrev jm_E : Type := Nat → List Value → jm_H → Option jm_O
def jm_up {α : Type} (f : Nat → Nat → α) (a k : Nat) (v : α) : Nat → Nat → α := fun x y => if x = a ∧ y = k then v else f x y
def jm_row {α : Type} (f : Nat → Nat → α) (a : Nat) (g : Nat → α) : Nat → Nat → α := fun x => if x = a then g else f x
def jm_ref (r : Option Nat) : Value := match r with
  | some a => .ref a
  | none => .null
def jm_nx (pc : Nat) (ls : jm_L) (st : List Value) (H : jm_H) : Option (jm_C ⊕ jm_O) := some (.inl (pc, ls, st, H))
def jm_kd (H : jm_H) (a : Nat) : Nat := match H.1[a]? with
  | some s => s.1
  | none => 0
def jm_ln (H : jm_H) (a : Nat) : Nat := match H.1[a]? with
  | some s => s.2.1
  | none => 0
def jm_rf (H : jm_H) (a k : Nat) : Option Nat := match H.1[a]? with
  | some s => s.2.2 k
  | none => none
def jm_cat (st : List Value) : Nat := (st.map fun v => v.category).sum
noncomputable def jm_np (mi : Nat) : Nat := match jm_MT[mi]? with
  | some q => q.2.2.2.2.1
  | none => 0
/-- storing into a local: a long behind whose first half it goes is forgotten -/
def jm_st1 (ls : jm_L) (i : Nat) (v : Value) : Option jm_L :=
  if i < ls.length then
    match i with
    | 0 => some (ls.set 0 (some v))
    | j + 1 => match ls[j]? with
      | some (some (.long _)) => some ((ls.set (j + 1) (some v)).set j none)
      | some (some (.double _)) => none
      | _ => some (ls.set (j + 1) (some v))
  else none
def jm_st2 (ls : jm_L) (i : Nat) (v : Value) : Option jm_L :=
  if i + 1 < ls.length then
    match i with
    | 0 => some ((ls.set 0 (some v)).set 1 none)
    | j + 1 => match ls[j]? with
      | some (some (.long _)) => some (((ls.set (j + 1) (some v)).set (j + 2) none).set j none)
      | some (some (.double _)) => none
      | _ => some ((ls.set (j + 1) (some v)).set (j + 2) none)
  else none
def jm_sto (npc : Nat) (o : Option jm_L) (st : List Value) (H : jm_H) : Option (jm_C ⊕ jm_O) := match o with
  | some ls => jm_nx npc ls st H
  | none => none
def jm_call (npc : Nat) (ls : jm_L) (r : List Value) (o : Option jm_O) : Option (jm_C ⊕ jm_O) := match o with
  | some q => jm_nx npc ls (q.1.toList ++ r) q.2
  | none => none
def jm_jmp (pc : Nat) (off : Int) (ls : jm_L) (st : List Value) (H : jm_H) : Option (jm_C ⊕ jm_O) := if 0 ≤ (pc : Int) + off then jm_nx ((pc : Int) + off).toNat ls st H else none
def jm_ifb (p : Prop) (i : Decidable p) (a b : Nat) (ls : jm_L) (st : List Value) (H : jm_H) : Option (jm_C ⊕ jm_O) := if p then jm_nx a ls st H else jm_nx b ls st H
def jm_new (H : jm_H) (s : jm_S) : jm_H := (H.1 ++ [s], jm_row H.2.1 H.1.length (fun _ => 0), jm_row H.2.2 H.1.length (fun _ => 0))
def jm_newg (H : jm_H) (n k : Nat) : jm_H := (H.1 ++ [(6, n, fun i => if i < n then some (H.1.length + 1 + i) else none)] ++ List.replicate n (2, k, fun _ => none), (fun x => if H.1.length ≤ x then fun _ => 0 else H.2.1 x), (fun x => if H.1.length ≤ x then fun _ => 0 else H.2.2 x))
/-- the kind of what an array of references of this kind holds -/
def jm_ek (k : Nat) : Nat := if k = 3 then 15 else if k = 4 then 10 else 16
/-- one instruction: the next configuration, or the answer. xs, L: the script; E: what a call does -/
noncomputable def jm_stp (xs : Nat → Int32) (L : Nat) (E : jm_E) (e : jm_I) (pc : Nat) (ls : jm_L) (st : List Value) (H : jm_H) : Option (jm_C ⊕ jm_O) :=
  match e.1 with
  | .iconst n => jm_nx e.2.1 ls (.int (Int32.ofInt n) :: st) H
  | .bipush n => jm_nx e.2.1 ls (.int (Int8.ofInt n).toInt32 :: st) H
  | .sipush n => jm_nx e.2.1 ls (.int (Int16.ofInt n).toInt32 :: st) H
  | .lconst n => jm_nx e.2.1 ls (.long (Int64.ofNat (n : Nat)) :: st) H
  | .ldc _ => jm_nx e.2.1 ls (.int (Int32.ofInt e.2.2.2.2) :: st) H
  | .ldc_w _ => jm_nx e.2.1 ls (.int (Int32.ofInt e.2.2.2.2) :: st) H
  | .ldc2_w _ => jm_nx e.2.1 ls (.long (Int64.ofInt e.2.2.2.2) :: st) H
  | .iload_n k => match ls[(k : Nat)]? with
    | some (some (.int x)) => jm_nx e.2.1 ls (.int x :: st) H
    | _ => none
  | .iload k => match ls[k]? with
    | some (some (.int x)) => jm_nx e.2.1 ls (.int x :: st) H
    | _ => none
  | .lload_n k => match ls[(k : Nat)]? with
    | some (some (.long x)) => jm_nx e.2.1 ls (.long x :: st) H
    | _ => none
  | .lload k => match ls[k]? with
    | some (some (.long x)) => jm_nx e.2.1 ls (.long x :: st) H
    | _ => none
  | .aload_n k => match ls[(k : Nat)]? with
    | some (some (.ref x)) => jm_nx e.2.1 ls (.ref x :: st) H
    | some (some (.retAddr x)) => jm_nx e.2.1 ls (.retAddr x :: st) H
    | _ => none
  | .aload k => match ls[k]? with
    | some (some (.ref x)) => jm_nx e.2.1 ls (.ref x :: st) H
    | _ => none
  | .istore_n k => match st with
    | .int x :: r => jm_sto e.2.1 (jm_st1 ls (k : Nat) (.int x)) r H
    | _ => none
  | .istore k => match st with
    | .int x :: r => jm_sto e.2.1 (jm_st1 ls k (.int x)) r H
    | _ => none
  | .lstore k => match st with
    | .long x :: r => jm_sto e.2.1 (jm_st2 ls k (.long x)) r H
    | _ => none
  | .astore_n k => match st with
    | .ref x :: r => jm_sto e.2.1 (jm_st1 ls (k : Nat) (.ref x)) r H
    | _ => none
  | .astore k => match st with
    | .ref x :: r => jm_sto e.2.1 (jm_st1 ls k (.ref x)) r H
    | _ => none
  | .iinc k n => match ls[k]? with
    | some (some (.int x)) => jm_sto e.2.1 (jm_st1 ls k (.int (x + Int32.ofInt n))) st H
    | _ => none
  | .iadd => match st with
    | .int y :: .int x :: r => jm_nx e.2.1 ls (.int (x + y) :: r) H
    | _ => none
  | .isub => match st with
    | .int y :: .int x :: r => jm_nx e.2.1 ls (.int (x - y) :: r) H
    | _ => none
  | .imul => match st with
    | .int y :: .int x :: r => jm_nx e.2.1 ls (.int (x * y) :: r) H
    | _ => none
  | .iand => match st with
    | .int y :: .int x :: r => jm_nx e.2.1 ls (.int (x &&& y) :: r) H
    | _ => none
  | .ior => match st with
    | .int y :: .int x :: r => jm_nx e.2.1 ls (.int (x ||| y) :: r) H
    | _ => none
  | .ixor => match st with
    | .int y :: .int x :: r => jm_nx e.2.1 ls (.int (x ^^^ y) :: r) H
    | _ => none
  | .ishl => match st with
    | .int y :: .int x :: r => jm_nx e.2.1 ls (.int (x <<< (y &&& 31)) :: r) H
    | _ => none
  | .ishr => match st with
    | .int y :: .int x :: r => jm_nx e.2.1 ls (.int (x >>> (y &&& 31)) :: r) H
    | _ => none
  | .iushr => match st with
    | .int y :: .int x :: r => jm_nx e.2.1 ls (.int (x.toUInt32 >>> (y.toUInt32 &&& Int32.toUInt32 31)).toInt32 :: r) H
    | _ => none
  | .idiv => match st with
    | .int y :: .int x :: r => if y = 0 then none else jm_nx e.2.1 ls (.int (x / y) :: r) H
    | _ => none
  | .irem => match st with
    | .int y :: .int x :: r => if y = 0 then none else jm_nx e.2.1 ls (.int (x - x / y * y) :: r) H
    | _ => none
  | .ineg => match st with
    | .int x :: r => jm_nx e.2.1 ls (.int (-x) :: r) H
    | _ => none
  | .ladd => match st with
    | .long y :: .long x :: r => jm_nx e.2.1 ls (.long (x + y) :: r) H
    | _ => none
  | .land => match st with
    | .long y :: .long x :: r => jm_nx e.2.1 ls (.long (x &&& y) :: r) H
    | _ => none
  | .lor => match st with
    | .long y :: .long x :: r => jm_nx e.2.1 ls (.long (x ||| y) :: r) H
    | _ => none
  | .lshl => match st with
    | .int y :: .long x :: r => jm_nx e.2.1 ls (.long (x <<< (y.toInt64 &&& 63)) :: r) H
    | _ => none
  | .lcmp => match st with
    | .long y :: .long x :: r => jm_nx e.2.1 ls (.int (lg_cmp x y) :: r) H
    | _ => none
  | .i2l => match st with
    | .int x :: r => jm_nx e.2.1 ls (.long x.toInt64 :: r) H
    | _ => none
  | .l2i => match st with
    | .long x :: r => jm_nx e.2.1 ls (.int x.toInt32 :: r) H
    | _ => none
  | .i2b => match st with
    | .int x :: r => jm_nx e.2.1 ls (.int x.toInt8.toInt32 :: r) H
    | _ => none
  | .i2s => match st with
    | .int x :: r => jm_nx e.2.1 ls (.int x.toInt16.toInt32 :: r) H
    | _ => none
  | .dup => match st with
    | .int x :: r => jm_nx e.2.1 ls (.int x :: .int x :: r) H
    | .ref x :: r => jm_nx e.2.1 ls (.ref x :: .ref x :: r) H
    | _ => none
  | .pop => match st with
    | .int _ :: r => jm_nx e.2.1 ls r H
    | .ref _ :: r => jm_nx e.2.1 ls r H
    | _ => none
  | .dup_x1 => match st with
    | .int x :: .ref y :: r => jm_nx e.2.1 ls (.int x :: .ref y :: .int x :: r) H
    | .int x :: .int y :: r => jm_nx e.2.1 ls (.int x :: .int y :: .int x :: r) H
    | _ => none
  | .dup2 => match st with
    | .int x :: .ref y :: r => jm_nx e.2.1 ls (.int x :: .ref y :: .int x :: .ref y :: r) H
    | _ => none
  | .ifCond c _ => match st with
    | .int x :: r => match c with
      | .eq => jm_ifb (x = 0) inferInstance e.2.2.1 e.2.1 ls r H
      | .ne => jm_ifb (¬ x = 0) inferInstance e.2.2.1 e.2.1 ls r H
      | .lt => jm_ifb (x < 0) inferInstance e.2.2.1 e.2.1 ls r H
      | .ge => jm_ifb (0 ≤ x) inferInstance e.2.2.1 e.2.1 ls r H
      | .gt => jm_ifb (0 < x) inferInstance e.2.2.1 e.2.1 ls r H
      | .le => jm_ifb (x ≤ 0) inferInstance e.2.2.1 e.2.1 ls r H
    | _ => none
  | .if_icmp c _ => match st with
    | .int y :: .int x :: r => match c with
      | .eq => jm_ifb (x = y) inferInstance e.2.2.1 e.2.1 ls r H
      | .ne => jm_ifb (¬ x = y) inferInstance e.2.2.1 e.2.1 ls r H
      | .lt => jm_ifb (x < y) inferInstance e.2.2.1 e.2.1 ls r H
      | .ge => jm_ifb (y ≤ x) inferInstance e.2.2.1 e.2.1 ls r H
      | .gt => jm_ifb (y < x) inferInstance e.2.2.1 e.2.1 ls r H
      | .le => jm_ifb (x ≤ y) inferInstance e.2.2.1 e.2.1 ls r H
    | _ => none
  | .goto _ => jm_nx e.2.2.1 ls st H
  | .tableswitch d lo hi offs => match st with
    | .int x :: r => if x.toInt < lo ∨ hi < x.toInt then jm_jmp pc d ls r H else match offs[(x.toInt - lo).toNat]? with
      | some o => jm_jmp pc o ls r H
      | none => none
    | _ => none
  | .lookupswitch d ps => match st with
    | .int x :: r => jm_jmp pc (Op.lookupswitch.offset ps.toList d x.toInt) ls r H
    | _ => none
  | .getfield _ => match st with
    | .ref a :: r => if jm_kd H a = 10 + e.2.2.1 then (if e.2.2.2.2 = 1 then jm_nx e.2.1 ls (jm_ref (jm_rf H a e.2.2.2.1) :: r) H else jm_nx e.2.1 ls (.int (H.2.1 a e.2.2.2.1) :: r) H) else none
    | _ => none
  | .putfield _ => match st with
    | .int v :: .ref a :: r => if jm_kd H a = 10 + e.2.2.1 ∧ ¬ e.2.2.2.2 = 1 ∧ (e.2.2.2.2 = 2 → v = 0 ∨ v = 1) then jm_nx e.2.1 ls r (H.1, jm_up H.2.1 a e.2.2.2.1 v, H.2.2) else none
    | .ref v :: .ref a :: r => if jm_kd H a = 10 + e.2.2.1 ∧ e.2.2.2.2 = 1 then jm_nx e.2.1 ls r (H.1.set a (jm_kd H a, jm_ln H a, fun k => if k = e.2.2.2.1 then some v else jm_rf H a k), H.2.1, H.2.2) else none
    | _ => none
  | .arraylength => match st with
    | .ref a :: r => if 1 ≤ jm_kd H a ∧ jm_kd H a ≤ 6 then jm_nx e.2.1 ls (.int (Int32.ofNat (jm_ln H a)) :: r) H else none
    | .retAddr _ :: r => if L < 2147483648 then jm_nx e.2.1 ls (.int (Int32.ofNat L) :: r) H else none
    | _ => none
  | .iaload => match st with
    | .int i :: .ref a :: r => if jm_kd H a = 1 ∧ 0 ≤ i ∧ i.toNatClampNeg < jm_ln H a then jm_nx e.2.1 ls (.int (H.2.1 a i.toNatClampNeg) :: r) H else none
    | .int i :: .retAddr _ :: r => if L < 2147483648 ∧ 0 ≤ i ∧ i.toNatClampNeg < L then jm_nx e.2.1 ls (.int (xs i.toNatClampNeg) :: r) H else none
    | _ => none
  | .laload => match st with
    | .int i :: .ref a :: r => if jm_kd H a = 2 ∧ 0 ≤ i ∧ i.toNatClampNeg < jm_ln H a then jm_nx e.2.1 ls (.long (H.2.2 a i.toNatClampNeg) :: r) H else none
    | _ => none
  | .aaload => match st with
    | .int i :: .ref a :: r => if (3 ≤ jm_kd H a ∧ jm_kd H a ≤ 6) ∧ 0 ≤ i ∧ i.toNatClampNeg < jm_ln H a then jm_nx e.2.1 ls (jm_ref (jm_rf H a i.toNatClampNeg) :: r) H else none
    | _ => none
  | .iastore => match st with
    | .int v :: .int i :: .ref a :: r => if jm_kd H a = 1 ∧ 0 ≤ i ∧ i.toNatClampNeg < jm_ln H a then jm_nx e.2.1 ls r (H.1, jm_up H.2.1 a i.toNatClampNeg v, H.2.2) else none
    | _ => none
  | .lastore => match st with
    | .long v :: .int i :: .ref a :: r => if jm_kd H a = 2 ∧ 0 ≤ i ∧ i.toNatClampNeg < jm_ln H a then jm_nx e.2.1 ls r (H.1, H.2.1, jm_up H.2.2 a i.toNatClampNeg v) else none
    | _ => none
  | .aastore => match st with
    | .ref v :: .int i :: .ref a :: r => if (3 ≤ jm_kd H a ∧ jm_kd H a ≤ 5) ∧ 0 ≤ i ∧ i.toNatClampNeg < jm_ln H a ∧ jm_kd H v = jm_ek (jm_kd H a) then jm_nx e.2.1 ls r (H.1.set a (jm_kd H a, jm_ln H a, fun k => if k = i.toNatClampNeg then some v else jm_rf H a k), H.2.1, H.2.2) else none
    | _ => none
  | .new _ => jm_nx e.2.1 ls (.ref H.1.length :: st) (jm_new H (10 + e.2.2.1, e.2.2.2.1, fun _ => none))
  | .newarray t => match st with
    | .int n :: r => if 0 ≤ n ∧ n.toNatClampNeg ≤ 100000 then (match t with
      | .int => jm_nx e.2.1 ls (.ref H.1.length :: r) (jm_new H (1, n.toNatClampNeg, fun _ => none))
      | .long => jm_nx e.2.1 ls (.ref H.1.length :: r) (jm_new H (2, n.toNatClampNeg, fun _ => none))
      | _ => none) else none
    | _ => none
  | .anewarray _ => match st with
    | .int n :: r => if 0 ≤ n ∧ n.toNatClampNeg ≤ 100000 ∧ e.2.2.1 ≤ 2 then jm_nx e.2.1 ls (.ref H.1.length :: r) (jm_new H (3 + e.2.2.1, n.toNatClampNeg, fun _ => none)) else none
    | _ => none
  | .multianewarray _ _ => match st with
    | .int k :: .int n :: r => if 0 ≤ n ∧ n.toNatClampNeg ≤ 1000 ∧ 0 ≤ k ∧ k.toNatClampNeg ≤ 1000 then jm_nx e.2.1 ls (.ref H.1.length :: r) (jm_newg H n.toNatClampNeg k.toNatClampNeg) else none
    | _ => none
  | .invokevirtual _ => match st.drop (jm_np e.2.2.1) with
    | .ref o :: r => if jm_np e.2.2.1 ≤ st.length ∧ jm_cat r ≤ 8 ∧ (jm_kd H o : Int) = 10 + e.2.2.2.2 then jm_call e.2.1 ls r (E e.2.2.1 (.ref o :: (st.take (jm_np e.2.2.1)).reverse) H) else none
    | _ => none
  | .invokespecial _ => match st.drop (jm_np e.2.2.1) with
    | .ref o :: r => if jm_np e.2.2.1 ≤ st.length ∧ jm_cat r ≤ 8 then (if e.2.2.2.1 = 6 then jm_nx e.2.1 ls r H else jm_call e.2.1 ls r (E e.2.2.1 (.ref o :: (st.take (jm_np e.2.2.1)).reverse) H)) else none
    | _ => none
  | .invokestatic _ => if e.2.2.2.1 = 12 then (match st with
    | .int n :: .int dp :: .ref d :: .int sp :: .ref s :: r => if jm_cat r ≤ 8 ∧ 0 ≤ sp ∧ 0 ≤ dp ∧ 0 ≤ n ∧ sp.toNatClampNeg + n.toNatClampNeg ≤ jm_ln H s ∧ dp.toNatClampNeg + n.toNatClampNeg ≤ jm_ln H d then
        (if jm_kd H s = 1 ∧ jm_kd H d = 1 then jm_nx e.2.1 ls r (H.1, jm_row H.2.1 d (va_cpy (H.2.1 s) (H.2.1 d) sp.toNatClampNeg dp.toNatClampNeg n.toNatClampNeg), H.2.2)
        else if jm_kd H s = 2 ∧ jm_kd H d = 2 then jm_nx e.2.1 ls r (H.1, H.2.1, jm_row H.2.2 d (va_cpy (H.2.2 s) (H.2.2 d) sp.toNatClampNeg dp.toNatClampNeg n.toNatClampNeg)) else none) else none
    | _ => none)
    else if e.2.2.2.1 = 13 then (match st with
    | .int y :: .int x :: r => if jm_cat r ≤ 8 then jm_nx e.2.1 ls (.int (if x < y then y else x) :: r) H else none
    | _ => none)
    else if e.2.2.2.1 = 14 then (match st with
    | .int y :: .int x :: r => if jm_cat r ≤ 8 then jm_nx e.2.1 ls (.int (if y < x then y else x) :: r) H else none
    | _ => none)
    else if jm_np e.2.2.1 ≤ st.length ∧ jm_cat (st.drop (jm_np e.2.2.1)) ≤ 8 then jm_call e.2.1 ls (st.drop (jm_np e.2.2.1)) (E e.2.2.1 (st.take (jm_np e.2.2.1)).reverse H) else none
  | .ireturn => match st with
    | [.int v] => if e.2.2.1 = 1 → v = 0 ∨ v = 1 then some (.inr (some (.int v), H)) else none
    | _ => none
  | .lreturn => match st with
    | [.long v] => some (.inr (some (.long v), H))
    | _ => none
  | .areturn => match st with
    | [.ref v] => some (.inr (some (.ref v), H))
    | _ => none
  | .return_ => match st with
    | [] => some (.inr (none, H))
    | _ => none
  | _ => none
/-- a method's run: at most n instructions -/
noncomputable def jm_run (xs : Nat → Int32) (L : Nat) (E : jm_E) (mi : Nat) : Nat → jm_C → Option jm_O
  | 0, _ => none
  | n + 1, c => match jm_tab mi c.1 with
    | some e => match jm_stp xs L E e c.1 c.2.1 c.2.2.1 c.2.2.2 with
      | some (.inl c') => jm_run xs L E mi n c'
      | some (.inr r) => some r
      | none => none
    | none => none
def jm_ent (vs : List Value) (n : Nat) : jm_L := (vs.flatMap fun v => if v.category = 2 then [some v, none] else [some v]) ++ List.replicate (n - (lg_sl vs).length) none
noncomputable def jm_lim (f : Nat → Option jm_O) : Option jm_O := match Classical.propDecidable (∃ q : Nat × jm_O, f q.1 = some q.2) with
  | .isTrue h => some (Classical.choose h).2
  | .isFalse _ => none
/-- what a call of method mi with d frames above it answers -/
noncomputable def jm_ex (xs : Nat → Int32) (L : Nat) : Nat → jm_E
  | 0 => fun _ _ _ => none
  | d + 1 => fun mi args H => match jm_MT[mi]? with
    | some q => if (lg_sl args).length ≤ q.2.2.1 then jm_lim (fun n => jm_run xs L (jm_ex xs L d) mi n (0, jm_ent args q.2.2.1, [], H)) else none
    | none => none
theorem jm_run_le {xs : Nat → Int32} {L : Nat} {E : jm_E} {mi : Nat} : ∀ (n k : Nat) (c : jm_C) (r : jm_O), jm_run xs L E mi n c = some r → jm_run xs L E mi (n + k) c = some r
  | 0, _, _, _, h => by simp [jm_run] at h
  | n + 1, k, c, r, h => by
    rw [show n + 1 + k = (n + k) + 1 by omega]
    simp only [jm_run] at h ⊢
    split at h
    · split at h
      · exact jm_run_le n k _ _ h
      · exact h
      · cases h
    · cases h
theorem jm_run_det {xs : Nat → Int32} {L : Nat} {E : jm_E} {mi n k : Nat} {c : jm_C} {r r' : jm_O} (h : jm_run xs L E mi n c = some r) (h' : jm_run xs L E mi k c = some r') : r = r' := by
  have h1 := jm_run_le n k c r h
  have h2 := jm_run_le k n c r' h'
  rw [Nat.add_comm] at h2
  exact Option.some.inj (h1.symm.trans h2)
theorem jm_lim_some {f : Nat → Option jm_O} {r : jm_O} (h : jm_lim f = some r) : ∃ n, f n = some r := by
  unfold jm_lim at h
  split at h
  · rename_i hx _
    cases h
    exact ⟨_, Classical.choose_spec hx⟩
  · cases h
theorem jm_lim_of {f : Nat → Option jm_O} {r : jm_O} {n : Nat} (h : f n = some r) (hd : ∀ k r', f k = some r' → r' = r) : jm_lim f = some r := by
  unfold jm_lim
  split
  · rename_i hx _
    exact congrArg some (hd _ _ (Classical.choose_spec hx))
  · rename_i hx _
    exact absurd ⟨(n, r), h⟩ hx
/-- from a configuration, with d frames above: the method ends, and its answer has P -/
def jm_W (xs : Nat → Int32) (L d mi pc : Nat) (ls : jm_L) (st : List Value) (H : jm_H) (P : Option Value → jm_H → Prop) : Prop :=
  ∃ (n : Nat) (r : jm_O), jm_run xs L (jm_ex xs L d) mi n (pc, ls, st, H) = some r ∧ P r.1 r.2
/-- a call -/
def jm_Q (xs : Nat → Int32) (L d mi : Nat) (args : List Value) (H : jm_H) (P : Option Value → jm_H → Prop) : Prop :=
  ∃ r : jm_O, jm_ex xs L d mi args H = some r ∧ P r.1 r.2
section JMW
variable {xs : Nat → Int32} {L d mi pc : Nat} {ls : jm_L} {st : List Value} {H : jm_H} {P : Option Value → jm_H → Prop} {e : jm_I}
theorem jm_W.next {pc' : Nat} {ls' : jm_L} {st' : List Value} {H' : jm_H} (ht : jm_tab mi pc = some e) (hs : jm_stp xs L (jm_ex xs L d) e pc ls st H = jm_nx pc' ls' st' H') :
    jm_W xs L d mi pc ls st H P = jm_W xs L d mi pc' ls' st' H' P := by
  refine propext ⟨?_, ?_⟩
  · rintro ⟨n, r, h, hp⟩
    cases n with
    | zero => simp [jm_run] at h
    | succ n =>
      simp only [jm_run, ht, hs, jm_nx] at h
      exact ⟨n, r, h, hp⟩
  · rintro ⟨n, r, h, hp⟩
    refine ⟨n + 1, r, ?_, hp⟩
    simp only [jm_run, ht, hs, jm_nx]
    exact h
theorem jm_W.ret {r : jm_O} (ht : jm_tab mi pc = some e) (hs : jm_stp xs L (jm_ex xs L d) e pc ls st H = some (.inr r)) : jm_W xs L d mi pc ls st H P = P r.1 r.2 := by
  refine propext ⟨?_, ?_⟩
  · rintro ⟨n, r', h, hp⟩
    cases n with
    | zero => simp [jm_run] at h
    | succ n =>
      simp only [jm_run, ht, hs] at h
      cases h
      exact hp
  · intro hp
    refine ⟨1, r, ?_, hp⟩
    simp only [jm_run, ht, hs]
theorem jm_W.call {pc' a : Nat} {ls' : jm_L} {st' as : List Value} (ht : jm_tab mi pc = some e) (hs : jm_stp xs L (jm_ex xs L d) e pc ls st H = jm_call pc' ls' st' (jm_ex xs L d a as H)) :
    jm_W xs L d mi pc ls st H P = jm_Q xs L d a as H (fun v H' => jm_W xs L d mi pc' ls' (v.toList ++ st') H' P) := by
  refine propext ⟨?_, ?_⟩
  · rintro ⟨n, r, h, hp⟩
    cases n with
    | zero => simp [jm_run] at h
    | succ n =>
      simp only [jm_run, ht, hs] at h
      cases hq : jm_ex xs L d a as H with
      | none => rw [hq] at h; simp [jm_call] at h
      | some q =>
        rw [hq] at h
        simp only [jm_call, jm_nx] at h
        exact ⟨q, hq, n, r, h, hp⟩
  · rintro ⟨q, hq, n, r, h, hp⟩
    refine ⟨n + 1, r, ?_, hp⟩
    simp only [jm_run, ht, hs, hq, jm_call, jm_nx]
    exact h
theorem jm_Q.enter {q : jm_M} {args : List Value} (hm : jm_MT[mi]? = some q) (hl : (lg_sl args).length ≤ q.2.2.1) : jm_Q xs L (d + 1) mi args H P = jm_W xs L d mi 0 (jm_ent args q.2.2.1) [] H P := by
  refine propext ⟨?_, ?_⟩
  · rintro ⟨r, h, hp⟩
    simp only [jm_ex, hm, hl, if_true] at h
    obtain ⟨n, h⟩ := jm_lim_some h
    exact ⟨n, r, h, hp⟩
  · rintro ⟨n, r, h, hp⟩
    refine ⟨r, ?_, hp⟩
    simp only [jm_ex, hm, hl, if_true]
    exact jm_lim_of (n := n) h (fun k r' h' => jm_run_det h' h)
theorem jm_W.mono {P' : Option Value → jm_H → Prop} (h : jm_W xs L d mi pc ls st H P) (hp : ∀ v H', P v H' → P' v H') : jm_W xs L d mi pc ls st H P' := by
  obtain ⟨n, r, h1, h2⟩ := h
  exact ⟨n, r, h1, hp _ _ h2⟩
theorem jm_Q.mono {args : List Value} {P' : Option Value → jm_H → Prop} (h : jm_Q xs L d mi args H P) (hp : ∀ v H', P v H' → P' v H') : jm_Q xs L d mi args H P' := by
  obtain ⟨r, h1, h2⟩ := h
  exact ⟨r, h1, hp _ _ h2⟩
/-- a call whose answer is known -/
theorem jm_Q.use {args : List Value} {v : Option Value} {H' : jm_H} {P' : Option Value → jm_H → Prop} (h : jm_Q xs L d mi args H (fun a b => a = v ∧ b = H')) : jm_Q xs L d mi args H P' = P' v H' := by
  obtain ⟨⟨a, b⟩, h1, h2, h3⟩ := h
  dsimp only at h2 h3
  subst h2 h3
  refine propext ⟨?_, fun h => ⟨_, h1, h⟩⟩
  rintro ⟨r, h4, h5⟩
  cases h1.symm.trans h4
  exact h5
end JMW
end
section
/-! The abstract heap and the machine's: cell k stands at base + k. -/
def jm_cv (base b : Nat) (v : Value) : Value := match v with
  | .ref a => .ref (base + a)
  | .retAddr _ => .ref b
  | .int x => .int x
  | .long x => .long x
  | .null => .null
  | v => v
def jm_isr (ci k : Nat) : Bool := match jm_ty ci k with
  | .object _ | .array _ => true
  | _ => false
def jm_fd (base ci : Nat) (rf : Nat → Option Nat) (i : Nat → Int32) (k : Nat) : Value := if jm_isr ci k then va_rf ((rf k).map (base + ·)) else .int (i k)
def jm_cell (dA : Nat → ClassId) (base kd ln : Nat) (rf : Nat → Option Nat) (i : Nat → Int32) (g : Nat → Int64) : va_E :=
  if kd = 1 then .inl (dA 0, ln, .inl i)
  else if kd = 2 then .inl (dA 1, ln, .inr (.inl g))
  else if kd < 10 then .inl (dA (kd - 1), ln, .inr (.inr (.inr (.inr (fun j => (rf j).map (base + ·))))))
  else .inr (kd - 10, (List.range (jm_N (kd - 10))).map (jm_fd base (kd - 10) rf i))
def jm_at (dA : Nat → ClassId) (base : Nat) (H : jm_H) (k : Nat) : Nat × va_E := (base + k, jm_cell dA base (jm_kd H k) (jm_ln H k) (jm_rf H k) (H.2.1 k) (H.2.2 k))
def jm_ws (dA : Nat → ClassId) (base : Nat) (H : jm_H) : va_W := (List.range H.1.length).map (jm_at dA base H)
def jm_tys (dA : Nat → ClassId) : List (ClassId × FieldType) := [(dA 0, .int), (dA 1, .long), (dA 2, .object "LeapingPassages$Shelf"), (dA 3, .object "LeapingPassages$Ask"), (dA 4, .object "LeapingPassages$Spans"), (dA 5, .array .long)]
def jm_sl (H : jm_H) : Nat := (H.1.map (fun s => s.2.1)).sum
def jm_A (base : Nat) : Nat → Prop := fun q => base ≤ q
def jm_Rl (dC : Nat → ClassId) (dI : Nat → Nat → Nat) (dA : Nat → ClassId) (base : Nat) (H : jm_H) (Hc : Heap) : Prop := va_P (dC, dI) jm_cl (jm_ws dA base H) Hc ∧ Hc.size = base + H.1.length
section JMR
variable {dC : Nat → ClassId} {dI : Nat → Nat → Nat} {dA : Nat → ClassId} {base b : Nat} {H H' : jm_H} {Hc : Heap}
theorem jm_ws_get {k : Nat} (h : k < H.1.length) : (jm_ws dA base H)[k]? = some (jm_at dA base H k) := by
  unfold jm_ws
  rw [List.getElem?_map, List.getElem?_range h]
  rfl
theorem jm_ws_len : (jm_ws dA base H).length = H.1.length := by simp [jm_ws]
theorem jm_ws_inv {k : Nat} {q : Nat × va_E} (h : (jm_ws dA base H)[k]? = some q) : k < H.1.length ∧ q = jm_at dA base H k := by
  have hl : k < H.1.length := by
    have := (List.getElem?_eq_some_iff.mp h).1
    rwa [jm_ws_len] at this
  rw [jm_ws_get hl] at h
  exact ⟨hl, (Option.some.inj h).symm⟩
theorem jm_kd_lt {a : Nat} (h : jm_kd H a ≠ 0) : a < H.1.length := by
  unfold jm_kd at h
  split at h
  · rename_i s hs
    exact (List.getElem?_eq_some_iff.mp hs).1
  · exact absurd rfl h
theorem jm_ws_D (A : Nat → Prop) (hA : ∀ q, base ≤ q → A q) : va_D A (jm_ws dA base H) := by
  refine ⟨fun i j p q hi hj hpq => ?_, fun k q hk => ?_⟩
  · obtain ⟨-, rfl⟩ := jm_ws_inv hi
    obtain ⟨-, rfl⟩ := jm_ws_inv hj
    have : base + i = base + j := hpq
    omega
  · obtain ⟨-, rfl⟩ := jm_ws_inv hk
    exact hA _ (Nat.le_add_right _ _)
/-- one cell has changed -/
theorem jm_ws_set {a : Nat} {e : va_E} (hl : H'.1.length = H.1.length) (hk : ∀ j, j ≠ a → jm_at dA base H' j = jm_at dA base H j) (he : jm_at dA base H' a = (base + a, e)) : jm_ws dA base H' = (jm_ws dA base H).set a (base + a, e) := by
  apply List.ext_getElem?
  intro j
  by_cases hj : j < H.1.length
  · rw [jm_ws_get (by omega)]
    by_cases e1 : j = a
    · subst e1
      rw [List.getElem?_set_self (by rw [jm_ws_len]; exact hj), he]
    · rw [List.getElem?_set_ne (Ne.symm e1), jm_ws_get hj, hk j e1]
  · rw [List.getElem?_eq_none (by rw [jm_ws_len]; omega), List.getElem?_eq_none (by rw [List.length_set, jm_ws_len]; omega)]
theorem jm_at_congr {j : Nat} (h1 : H'.1[j]? = H.1[j]?) (h2 : H'.2.1 j = H.2.1 j) (h3 : H'.2.2 j = H.2.2 j) : jm_at dA base H' j = jm_at dA base H j := by
  unfold jm_at jm_kd jm_ln jm_rf
  rw [h1, h2, h3]
theorem jm_ws_push {s : jm_S} : jm_ws dA base (jm_new H s) = jm_ws dA base H ++ [(base + H.1.length, jm_cell dA base s.1 s.2.1 s.2.2 (fun _ => 0) (fun _ => 0))] := by
  apply List.ext_getElem?
  intro j
  have hlen : (jm_new H s).1.length = H.1.length + 1 := by simp [jm_new]
  by_cases hj : j < H.1.length
  · rw [List.getElem?_append_left (by rw [jm_ws_len]; exact hj), jm_ws_get (by omega), jm_ws_get hj]
    congr 1
    refine jm_at_congr ?_ ?_ ?_
    · simp [jm_new, List.getElem?_append_left hj]
    · simp [jm_new, jm_row, Nat.ne_of_lt hj]
    · simp [jm_new, jm_row, Nat.ne_of_lt hj]
  · by_cases e1 : j = H.1.length
    · subst e1
      rw [jm_ws_get (by omega), List.getElem?_append_right (by rw [jm_ws_len]; exact Nat.le_refl _), jm_ws_len, Nat.sub_self]
      show some _ = some _
      unfold jm_at jm_kd jm_ln jm_rf
      simp [jm_new, jm_row]
    · rw [List.getElem?_eq_none (by rw [jm_ws_len]; omega), List.getElem?_eq_none (by simp [jm_ws_len]; omega)]
theorem jm_obj {a ci : Nat} (h : jm_kd H a = 10 + ci) : (jm_ws dA base H)[a]? = some (base + a, .inr (ci, (List.range (jm_N ci)).map (jm_fd base ci (jm_rf H a) (H.2.1 a)))) := by
  rw [jm_ws_get (jm_kd_lt (by omega))]
  unfold jm_at jm_cell
  rw [h, if_neg (by omega), if_neg (by omega), if_neg (by omega), Nat.add_sub_cancel_left]
theorem jm_iar {a : Nat} (h : jm_kd H a = 1) : (jm_ws dA base H)[a]? = some (base + a, .inl (dA 0, jm_ln H a, .inl (H.2.1 a))) := by
  rw [jm_ws_get (jm_kd_lt (by omega))]
  unfold jm_at jm_cell
  rw [if_pos h]
theorem jm_lar {a : Nat} (h : jm_kd H a = 2) : (jm_ws dA base H)[a]? = some (base + a, .inl (dA 1, jm_ln H a, .inr (.inl (H.2.2 a)))) := by
  rw [jm_ws_get (jm_kd_lt (by omega))]
  unfold jm_at jm_cell
  rw [if_neg (by omega), if_pos h]
theorem jm_rar {a : Nat} (h1 : 3 ≤ jm_kd H a) (h2 : jm_kd H a ≤ 6) : (jm_ws dA base H)[a]? = some (base + a, .inl (dA (jm_kd H a - 1), jm_ln H a, .inr (.inr (.inr (.inr (fun j => (jm_rf H a j).map (base + ·))))))) := by
  rw [jm_ws_get (jm_kd_lt (by omega))]
  unfold jm_at jm_cell
  rw [if_neg (by omega), if_neg (by omega), if_pos (by omega)]
theorem jm_clg {ci : Nat} (h : ci < 11) : jm_cl[ci]? = some (jm_R ci, jm_T ci, jm_N ci) := by
  rcases (show ci = 0 ∨ ci = 1 ∨ ci = 2 ∨ ci = 3 ∨ ci = 4 ∨ ci = 5 ∨ ci = 6 ∨ ci = 7 ∨ ci = 8 ∨ ci = 9 ∨ ci = 10 by omega) with h | h | h | h | h | h | h | h | h | h | h <;> subst h <;> rfl
theorem jm_tok {ci : Nat} (h : ci < 11) : ∀ k, k < jm_N ci → parseFieldDescriptor (jm_T ci k).2.2.1 = some (jm_ty ci k) := by
  rcases (show ci = 0 ∨ ci = 1 ∨ ci = 2 ∨ ci = 3 ∨ ci = 4 ∨ ci = 5 ∨ ci = 6 ∨ ci = 7 ∨ ci = 8 ∨ ci = 9 ∨ ci = 10 by omega) with h | h | h | h | h | h | h | h | h | h | h <;> subst h
  · exact tyX0_ok
  · exact tyX1_ok
  · exact tyX2_ok
  · exact tyX3_ok
  · exact tyX4_ok
  · exact tyX5_ok
  · exact tyX6_ok
  · exact tyX7_ok
  · exact tyX8_ok
  · exact tyX9_ok
  · exact tyX10_ok
theorem jm_nok {ci : Nat} (h : ci < 11) : ∀ a, a < jm_N ci → ∀ b, b < jm_N ci → a ≠ b → (jm_T ci a).2.1 ≠ (jm_T ci b).2.1 := by
  rcases (show ci = 0 ∨ ci = 1 ∨ ci = 2 ∨ ci = 3 ∨ ci = 4 ∨ ci = 5 ∨ ci = 6 ∨ ci = 7 ∨ ci = 8 ∨ ci = 9 ∨ ci = 10 by omega) with h | h | h | h | h | h | h | h | h | h | h <;> subst h
  · exact nmX0
  · exact nmX1
  · exact nmX2
  · exact nmX3
  · exact nmX4
  · exact nmX5
  · exact nmX6
  · exact nmX7
  · exact nmX8
  · exact nmX9
  · exact nmX10
theorem jm_fdg {ci k : Nat} {rf : Nat → Option Nat} {i : Nat → Int32} (h : k < jm_N ci) : ((List.range (jm_N ci)).map (jm_fd base ci rf i))[k]? = some (jm_fd base ci rf i k) := by
  rw [List.getElem?_map, List.getElem?_range h]
  rfl
theorem jm_cvr (r : Option Nat) : jm_cv base b (jm_ref r) = va_rf (r.map (base + ·)) := by cases r <;> rfl
theorem jm_up_ne {α : Type} {f : Nat → Nat → α} {a k j : Nat} {v : α} (h : j ≠ a) : jm_up f a k v j = f j := by
  funext y
  simp [jm_up, h]
theorem jm_up_eq {α : Type} {f : Nat → Nat → α} {a k : Nat} {v : α} : jm_up f a k v a = fun j => if j = k then v else f a j := by
  funext y
  simp [jm_up]
theorem jm_row_ne {α : Type} {f : Nat → Nat → α} {a j : Nat} {g : Nat → α} (h : j ≠ a) : jm_row f a g j = f j := by simp [jm_row, h]
theorem jm_row_eq {α : Type} {f : Nat → Nat → α} {a : Nat} {g : Nat → α} : jm_row f a g a = g := by simp [jm_row]
end JMR
def jm_lr (base b : Nat) (ls : jm_L) (arr : Array Slot) (nL : Nat) : Prop := arr.size = nL ∧ ls.length = nL ∧ lv_wf arr ∧ ∀ (i : Nat) (v : Value), ls[i]? = some (some v) → arr[i]? = some (.val (jm_cv base b v))
def jm_kl (base b : Nat) (ls : jm_L) : List (Nat × Value) := (List.range ls.length).filterMap (fun i => match ls[i]? with
  | some (some v) => some (i, jm_cv base b v)
  | _ => none)
section JML
variable {base b nL : Nat} {ls ls' : jm_L} {arr : Array Slot}
theorem jm_kl_mem {q : Nat × Value} : q ∈ jm_kl base b ls ↔ ∃ v, ls[q.1]? = some (some v) ∧ q.2 = jm_cv base b v := by
  unfold jm_kl
  rw [List.mem_filterMap]
  constructor
  · rintro ⟨i, hi, h⟩
    split at h
    · rename_i v hv
      cases h
      exact ⟨v, hv, rfl⟩
    · cases h
  · rintro ⟨v, hv, hq⟩
    refine ⟨q.1, List.mem_range.mpr (List.getElem?_eq_some_iff.mp hv).1, ?_⟩
    rw [hv]
    show some (q.1, jm_cv base b v) = some q
    rw [← hq]
theorem jm_lr.has (h : jm_lr base b ls arr nL) : lv_has arr nL (jm_kl base b ls) := by
  refine ⟨h.1, h.2.2.1, fun q hq => ?_⟩
  obtain ⟨v, hv, hq⟩ := jm_kl_mem.mp hq
  rw [hq]
  exact h.2.2.2 _ _ hv
theorem jm_st1_len {i : Nat} {v : Value} (h : jm_st1 ls i v = some ls') : ls'.length = ls.length ∧ i < ls.length := by
  unfold jm_st1 at h
  split at h
  · rename_i hi
    split at h
    · cases h
      exact ⟨by simp, hi⟩
    · split at h
      · cases h; exact ⟨by simp, hi⟩
      · cases h
      · cases h; exact ⟨by simp, hi⟩
  · cases h
theorem jm_st1_get {i : Nat} {v : Value} (h : jm_st1 ls i v = some ls') {k : Nat} {w : Value} (hk : ls'[k]? = some (some w)) : (k = i ∧ w = v) ∨ (k ≠ i ∧ ls[k]? = some (some w) ∧ ¬ (k + 1 = i ∧ ((∃ x, w = .long x) ∨ ∃ x, w = .double x))) := by
  unfold jm_st1 at h
  split at h
  · rename_i hi
    split at h
    · cases h
      by_cases e : k = 0
      · subst e
        rw [List.getElem?_set_self hi] at hk
        cases hk
        exact Or.inl ⟨rfl, rfl⟩
      · rw [List.getElem?_set_ne (Ne.symm e)] at hk
        exact Or.inr ⟨e, hk, by omega⟩
    · rename_i j
      split at h
      · cases h
        by_cases e0 : k = j
        · subst e0
          rw [List.getElem?_set_self (by simp; omega)] at hk
          cases hk
        · rw [List.getElem?_set_ne (Ne.symm e0)] at hk
          by_cases e : k = j + 1
          · subst e
            rw [List.getElem?_set_self hi] at hk
            cases hk
            exact Or.inl ⟨rfl, rfl⟩
          · rw [List.getElem?_set_ne (Ne.symm e)] at hk
            exact Or.inr ⟨e, hk, by omega⟩
      · cases h
      · rename_i hn hn2
        cases h
        by_cases e : k = j + 1
        · subst e
          rw [List.getElem?_set_self hi] at hk
          cases hk
          exact Or.inl ⟨rfl, rfl⟩
        · rw [List.getElem?_set_ne (Ne.symm e)] at hk
          refine Or.inr ⟨e, hk, ?_⟩
          rintro ⟨e1, ⟨x, rfl⟩ | ⟨x, rfl⟩⟩
          · have e2 : k = j := by omega
            subst e2
            exact hn x hk
          · have e2 : k = j := by omega
            subst e2
            exact hn2 x hk
  · cases h
theorem jm_cv_cat (v : Value) : (jm_cv base b v).category = 2 → (∃ x, v = .long x) ∨ ∃ x, v = .double x := by
  cases v <;> simp [jm_cv, Value.category]
theorem jm_st2_len {i : Nat} {v : Value} (h : jm_st2 ls i v = some ls') : ls'.length = ls.length ∧ i + 1 < ls.length := by
  unfold jm_st2 at h
  split at h
  · rename_i hi
    split at h
    · cases h
      exact ⟨by simp, hi⟩
    · split at h
      · cases h; exact ⟨by simp, hi⟩
      · cases h
      · cases h; exact ⟨by simp, hi⟩
  · cases h
theorem jm_st2_get {i : Nat} {v : Value} (h : jm_st2 ls i v = some ls') {k : Nat} {w : Value} (hk : ls'[k]? = some (some w)) : (k = i ∧ w = v) ∨ (k ≠ i ∧ k ≠ i + 1 ∧ ls[k]? = some (some w) ∧ ¬ (k + 1 = i ∧ ((∃ x, w = .long x) ∨ ∃ x, w = .double x))) := by
  unfold jm_st2 at h
  split at h
  · rename_i hi
    split at h
    · cases h
      by_cases e1 : k = 1
      · subst e1
        rw [List.getElem?_set_self (by simp; omega)] at hk
        cases hk
      · rw [List.getElem?_set_ne (Ne.symm e1)] at hk
        by_cases e : k = 0
        · subst e
          rw [List.getElem?_set_self (by omega)] at hk
          cases hk
          exact Or.inl ⟨rfl, rfl⟩
        · rw [List.getElem?_set_ne (Ne.symm e)] at hk
          exact Or.inr ⟨e, e1, hk, by omega⟩
    · rename_i j
      split at h
      · cases h
        by_cases e0 : k = j
        · subst e0
          rw [List.getElem?_set_self (by simp; omega)] at hk
          cases hk
        · rw [List.getElem?_set_ne (Ne.symm e0)] at hk
          by_cases e2 : k = j + 2
          · subst e2
            rw [List.getElem?_set_self (by simp; omega)] at hk
            cases hk
          · rw [List.getElem?_set_ne (Ne.symm e2)] at hk
            by_cases e : k = j + 1
            · subst e
              rw [List.getElem?_set_self (by omega)] at hk
              cases hk
              exact Or.inl ⟨rfl, rfl⟩
            · rw [List.getElem?_set_ne (Ne.symm e)] at hk
              exact Or.inr ⟨e, by omega, hk, by omega⟩
      · cases h
      · rename_i hn hn2
        cases h
        by_cases e2 : k = j + 2
        · subst e2
          rw [List.getElem?_set_self (by simp; omega)] at hk
          cases hk
        · rw [List.getElem?_set_ne (Ne.symm e2)] at hk
          by_cases e : k = j + 1
          · subst e
            rw [List.getElem?_set_self (by omega)] at hk
            cases hk
            exact Or.inl ⟨rfl, rfl⟩
          · rw [List.getElem?_set_ne (Ne.symm e)] at hk
            refine Or.inr ⟨e, by omega, hk, ?_⟩
            rintro ⟨e1, ⟨x, rfl⟩ | ⟨x, rfl⟩⟩
            · have e3 : k = j := by omega
              subst e3
              exact hn x hk
            · have e3 : k = j := by omega
              subst e3
              exact hn2 x hk
  · cases h
theorem jm_lr.st1 (h : jm_lr base b ls arr nL) {i : Nat} {v : Value} (hs : jm_st1 ls i v = some ls') {arr' : Array Slot} (h' : lv_has arr' nL ((i, jm_cv base b v) :: (jm_kl base b ls).filter (fun q => !(q.1 == i) && !(q.1 + 1 == i && q.2.category == 2)))) : jm_lr base b ls' arr' nL := by
  refine ⟨h'.1, by rw [(jm_st1_len hs).1]; exact h.2.1, h'.2.1, fun k w hk => ?_⟩
  rcases jm_st1_get hs hk with ⟨rfl, rfl⟩ | ⟨h1, h2, h3⟩
  · exact h'.2.2 _ List.mem_cons_self
  · refine h'.2.2 (k, jm_cv base b w) (List.mem_cons_of_mem _ (List.mem_filter.mpr ⟨jm_kl_mem.mpr ⟨w, h2, rfl⟩, ?_⟩))
    simp only [Bool.and_eq_true, Bool.not_eq_true', beq_eq_false_iff_ne, ne_eq, Bool.and_eq_false_iff]
    refine ⟨h1, ?_⟩
    by_cases e : k + 1 = i
    · right
      intro hc
      exact h3 ⟨e, jm_cv_cat w hc⟩
    · exact Or.inl e
theorem jm_lr.st2 (h : jm_lr base b ls arr nL) {i : Nat} {v : Value} (hs : jm_st2 ls i v = some ls') {arr' : Array Slot} (h' : lv_has arr' nL ((i, jm_cv base b v) :: (jm_kl base b ls).filter (fun q => !(q.1 == i) && (!(q.1 == i + 1) && !(q.1 + 1 == i && q.2.category == 2))))) : jm_lr base b ls' arr' nL := by
  refine ⟨h'.1, by rw [(jm_st2_len hs).1]; exact h.2.1, h'.2.1, fun k w hk => ?_⟩
  rcases jm_st2_get hs hk with ⟨rfl, rfl⟩ | ⟨h1, h1', h2, h3⟩
  · exact h'.2.2 _ List.mem_cons_self
  · refine h'.2.2 (k, jm_cv base b w) (List.mem_cons_of_mem _ (List.mem_filter.mpr ⟨jm_kl_mem.mpr ⟨w, h2, rfl⟩, ?_⟩))
    simp only [Bool.and_eq_true, Bool.not_eq_true', beq_eq_false_iff_ne, ne_eq, Bool.and_eq_false_iff]
    refine ⟨h1, h1', ?_⟩
    by_cases e : k + 1 = i
    · right
      intro hc
      exact h3 ⟨e, jm_cv_cat w hc⟩
    · exact Or.inl e
end JML
end
section
/-! The machine does what the small machine does: an instruction at a time. -/
theorem jm_MTlen : jm_MT.length = 284 := by decide +kernel
theorem jm_nx_inj {pc : Nat} {ls : jm_L} {st : List Value} {H : jm_H} {cf : jm_C} (h : jm_nx pc ls st H = some (.inl cf)) : cf = (pc, ls, st, H) := by
  unfold jm_nx at h
  cases h
  rfl
theorem jm_keq_eq {a b : jm_K} (h : jm_keq a b = true) : a = b := by
  obtain ⟨a1, a2, a3, a4, a5⟩ := a
  obtain ⟨b1, b2, b3, b4, b5⟩ := b
  simp only [jm_keq, Bool.and_eq_true, beq_iff_eq] at h
  obtain ⟨⟨⟨⟨h1, h2⟩, h3⟩, h4⟩, h5⟩ := h
  subst h1 h2 h3 h4 h5
  rfl
/-- what the check says of a row -/
def jm_Fa (q : jm_M) (pc : Nat) (e : jm_I) : Prop := decode q.2.1 pc = .ok (e.1, jm_len e.1 pc e.2.1) ∧ e.2.1 = pc + jm_len e.1 pc e.2.1 ∧ (∀ k, jm_need e = some k → k ∈ jm_LK q.2.2.2.2.2) ∧ jm_side q pc e = true
theorem jm_lin_ok {q : jm_M} : ∀ (t : List (Option jm_I)) (bs : List UInt8) (pc : Nat), jm_lin q t bs pc = true → (∀ j, bs[j]? = q.2.1.data.toList[pc + j]?) → pc + t.length ≤ q.2.1.size → ∀ (k : Nat) (e : jm_I), t[k]? = some (some e) → jm_Fa q (pc + k) e
  | [], _, _, _, _, _, k, e, he => by simp at he
  | none :: t, bs, pc, h, hb, hs, k, e, he => by
    simp only [jm_lin] at h
    cases k with
    | zero => simp at he
    | succ k =>
      rw [List.getElem?_cons_succ] at he
      have := jm_lin_ok t bs.tail (pc + 1) h (fun j => by rw [List.getElem?_tail, hb, show pc + (j + 1) = pc + 1 + j by omega]) (by simp only [List.length_cons] at hs; omega) k e he
      rwa [show pc + 1 + k = pc + (k + 1) by omega] at this
  | some e0 :: t, bs, pc, h, hb, hs, k, e, he => by
    simp only [jm_lin, Bool.and_eq_true] at h
    obtain ⟨⟨⟨⟨h1, h2⟩, h3⟩, h4⟩, h5⟩ := h
    cases k with
    | zero =>
      rw [List.getElem?_cons_zero] at he
      cases he
      refine ⟨?_, by simpa using h2, fun k hk => ?_, h4⟩
      · split at h1
        · rename_i j p hr
          simp only [Bool.and_eq_true, decide_eq_true_eq, beq_iff_eq] at h1
          obtain ⟨rfl, rfl⟩ := h1
          have := Jvm.Free.DS.shift (Jvm.Free.DS.win_agree (n := jm_len e0.1 pc e0.2.1) (fun j => hb j) (by omega)) hr
          rw [Nat.add_sub_cancel_left] at this
          exact this
        · cases h1
      · rw [hk] at h3
        obtain ⟨x, hx, hxe⟩ := List.any_eq_true.mp h3
        rw [jm_keq_eq hxe]
        exact hx
    | succ k =>
      rw [List.getElem?_cons_succ] at he
      have := jm_lin_ok t bs.tail (pc + 1) h5 (fun j => by rw [List.getElem?_tail, hb, show pc + (j + 1) = pc + 1 + j by omega]) (by simp only [List.length_cons] at hs; omega) k e he
      rwa [show pc + 1 + k = pc + (k + 1) by omega] at this
theorem jm_flat : ∀ (l : List (List (Option jm_I))), (∀ c ∈ l.dropLast, c.length = 64) → ∀ (i j : Nat) (q : List (Option jm_I)), j < 64 → l[i]? = some q → ∀ e, q[j]? = some e → l.flatten[64 * i + j]? = some e
  | [], _, i, j, q, _, h, _, _ => by simp at h
  | a :: t, hl, i, j, q, hj, h, e, he => by
    rw [List.flatten_cons]
    cases i with
    | zero =>
      rw [List.getElem?_cons_zero] at h
      cases h
      have hlt := (List.getElem?_eq_some_iff.mp he).1
      rw [Nat.mul_zero, Nat.zero_add, List.getElem?_append_left hlt]
      exact he
    | succ i =>
      rw [List.getElem?_cons_succ] at h
      cases t with
      | nil => simp at h
      | cons b t =>
        have ha : a.length = 64 := hl a (by simp)
        rw [List.getElem?_append_right (by omega), show 64 * (i + 1) + j - a.length = 64 * i + j by omega]
        exact jm_flat (b :: t) (fun c hc => hl c (by rw [List.dropLast_cons_of_ne_nil (by simp)]; exact List.mem_cons_of_mem _ hc)) i j q hj h e he
theorem jm_fact {mi pc : Nat} {q : jm_M} {e : jm_I} (hm : jm_MT[mi]? = some q) (ht : jm_tab mi pc = some e) : jm_Fa q pc e := by
  have hlt : mi < 284 := by
    have := (List.getElem?_eq_some_iff.mp hm).1
    rwa [jm_MTlen] at this
  have ho := jm_okm_all mi hlt
  unfold jm_okm at ho
  rw [hm] at ho
  simp only [Bool.and_eq_true] at ho
  obtain ⟨-, ho⟩ := ho
  unfold jm_tab at ht
  split at ht
  · rename_i g hg
    rw [hg] at ho
    split at ht
    · rename_i l hl
      simp only [hl, Bool.and_eq_true, decide_eq_true_eq] at ho
      obtain ⟨⟨h1, h2⟩, h3⟩ := ho
      split at ht
      · rename_i c hc
        split at ht
        · rename_i e' he
          subst ht
          have hf := jm_flat l (fun c hc => by have := List.all_eq_true.mp h3 c hc; simpa using this) (pc / 64) (pc % 64) c (Nat.mod_lt _ (by omega)) hc _ he
          rw [Nat.div_add_mod] at hf
          have := jm_lin_ok _ _ 0 h1 (fun j => by rw [Nat.zero_add]) (by rw [Nat.zero_add]; exact h2) pc e hf
          rwa [Nat.zero_add] at this
        · cases ht
      · cases ht
    · cases ht
  · cases ht
/-- what the check says of a method -/
theorem jm_mfact {mi : Nat} {q : jm_M} (hm : jm_MT[mi]? = some q) : (q.1.cls ≠ "java/lang/invoke/MethodHandle" ∧ q.1.cls ≠ "java/lang/invoke/VarHandle") ∧ (parseMethodDescriptor q.1.desc).map (fun d => d.parameters.length) = some q.2.2.2.2.1 ∧ q.2.2.1 ≤ 22 ∧ jm_own[q.2.2.2.2.2]? = some q.1.cls := by
  have hlt : mi < 284 := by
    have := (List.getElem?_eq_some_iff.mp hm).1
    rwa [jm_MTlen] at this
  have ho := jm_okm_all mi hlt
  unfold jm_okm at ho
  rw [hm] at ho
  simp only [Bool.and_eq_true, decide_eq_true_eq] at ho
  exact ⟨ho.1.1.1.1.1, ho.1.1.1.1.2, ho.1.1.1.2, ho.1.2⟩
theorem jm_lkok {o : Nat} {k : jm_K} (h : k ∈ jm_LK o) : jm_lok (jm_on o) k = true := by
  by_cases ho : o < 13
  · exact List.all_eq_true.mp (List.all_eq_true.mp jm_loks o (List.mem_range.mpr ho)) k h
  · unfold jm_LK at h
    split at h <;> first | (exfalso; omega) | cases h
/-- the words that a warm state keeps -/
def jm_TW : List Cond := lw_tbl.filter goodWord
theorem jm_good : GoodIn jm_TW jm_TW := fun w h => ⟨h, good_of_word (List.mem_filter.mp h).2⟩
/-- words that are carried beside: links to nest mates, arrays of references -/
def jm_xw : Cond → Bool
  | .methodLinkNest _ _ _ _ => true
  | .arrayOver (.object _) => true
  | .arrayOver (.array _) => true
  | _ => false
set_option maxRecDepth 100000 in
theorem jm_lwg : ((List.range 13).all fun o => (jm_LK o).all fun q => (jm_lw o q).all fun w => goodWord w || jm_xw w) = true := by decide +kernel
theorem jm_lk_tw {o : Nat} {q : jm_K} (h : q ∈ jm_LK o) : ∀ w ∈ jm_lw o q, w ∈ lw_tbl ∧ (goodWord w || jm_xw w) = true := fun w hw => by
  refine ⟨jm_lk_in o q h w hw, ?_⟩
  by_cases ho : o < 13
  · exact List.all_eq_true.mp (List.all_eq_true.mp (List.all_eq_true.mp jm_lwg o (List.mem_range.mpr ho)) q h) w hw
  · unfold jm_LK at h
    split at h <;> first | (exfalso; omega) | cases h
def jm_X (U : State) : Prop := ∀ w ∈ lw_tbl, jm_xw w = true → va_Nw w U
theorem jm_X.warm {s U : State} (hW : s.WarmedH U.vm) (h : jm_X s) : jm_X U := by
  intro w hw hx
  have hz := h w hw hx
  unfold jm_xw at hx
  split at hx
  · exact hz.warmM hW
  · exact va_AO.moved hW.alike hz
  · exact arrayOver_alikeB hW.alike hz
  · cases hx
theorem jm_X.same {s U : State} (hv : s.vm = U.vm) (h : jm_X s) : jm_X U := by
  intro w hw hx
  have hz := h w hw hx
  unfold jm_xw at hx
  split at hx
  · exact va_Nw.same rfl hv hz
  · exact va_AO.moved (by rw [hv]; exact Vm.Alike.refl _) hz
  · exact arrayOver_alikeB (by rw [hv]; exact Vm.Alike.refl _) hz
  · cases hx
/-- a link's word, as the state has it -/
theorem jm_word {args : Array Value} {s : State} (ht : ∀ w ∈ jm_TW, w.before args s = true) (hx : jm_X s) {o : Nat} {q : jm_K} (h : q ∈ jm_LK o) {w : Cond} (hw : w ∈ jm_lw o q) : w.before args s = true := by
  obtain ⟨h1, h2⟩ := jm_lk_tw h w hw
  cases hg : goodWord w with
  | true => exact ht w (List.mem_filter.mpr ⟨h1, hg⟩)
  | false =>
    rw [hg, Bool.false_or] at h2
    have hz := hx w h1 h2
    unfold jm_xw at h2
    split at h2
    · exact va_Nw.use rfl hz
    · exact hz
    · exact hz
    · cases h2
theorem jm_lay {ci : Nat} (h : ci < 11) : ∀ w ∈ u_ws (jm_R ci) (jm_T ci) (jm_N ci), w ∈ jm_TW := by
  have key : ∀ (l : List Cond), (l.all fun w => decide (w ∈ lw_tbl) && goodWord w) = true → ∀ w ∈ l, w ∈ jm_TW := fun l hl w hw => by
    have := List.all_eq_true.mp hl w hw
    simp only [Bool.and_eq_true, decide_eq_true_eq] at this
    exact List.mem_filter.mpr this
  rcases (show ci = 0 ∨ ci = 1 ∨ ci = 2 ∨ ci = 3 ∨ ci = 4 ∨ ci = 5 ∨ ci = 6 ∨ ci = 7 ∨ ci = 8 ∨ ci = 9 ∨ ci = 10 by omega) with h | h | h | h | h | h | h | h | h | h | h <;> subst h <;> exact key _ (by decide +kernel)
def jm_wd (r : jm_M) : List Cond := Cond.code r.1 r.2.1 r.2.2.1 r.2.2.2.1 :: jm_TW
section JMX
variable {p : Program} {l : Launch} {e : Env} {R : Room} {s : State} {m : MethodId} {args : Array Value} {below : List Frame} {meth : Method} {c : Code} {Q : State → Prop}
variable {dC : Nat → ClassId} {dI : Nat → Nat → Nat} {dA : Nat → ClassId} {base b L : Nat} {xs : Nat → Int32} {q : jm_M} {n0 s0 : Nat}
def jm_Cx (p : Program) (s : State) (m : MethodId) (args : Array Value) (meth : Method) (c : Code) (dC : Nat → ClassId) (dI : Nat → Nat → Nat) (dA : Nat → ClassId) (base b L : Nat) (xs : Nat → Int32) (q : jm_M) : Prop :=
  p.tables.exec = Jvm.exec ∧ c.code = q.2.1 ∧ c.maxLocals = q.2.2.1 ∧ s.vm.findClass q.1.cls = some m.cls ∧ (∀ w ∈ jm_TW, w.before args s = true) ∧ jm_X s ∧ va_K (dC, dI) jm_cl (jm_tys dA) s ∧ va_X b L xs s s.heap ∧ b < base ∧ base ≤ s.heap.size ∧ (q.1.name = "<init>" → meth.name = "<init>")
def jm_G (p : Program) (l : Launch) (e : Env) (R : Room) (s : State) (m : MethodId) (args : Array Value) (below : List Frame) (meth : Method) (c : Code) (Q : State → Prop) (dC : Nat → ClassId) (dI : Nat → Nat → Nat) (dA : Nat → ClassId) (base b : Nat) (q : jm_M) (n0 s0 : Nat) (cf : jm_C) : Prop :=
  ∀ (Hc : Heap) (locs : List Loc) (arr : Array Slot) (cells slots : Nat), jm_Rl dC dI dA base cf.2.2.2 Hc → va_S (jm_A base) s.heap Hc locs → jm_lr base b cf.2.1 arr q.2.2.1 → cells + n0 = cf.2.2.2.1.length → slots + s0 = jm_sl cf.2.2.2 → W p l e R s m args below meth c Hc locs cells slots Q (F0 m cf.1 arr (cf.2.2.1.map (jm_cv base b)))
theorem jm_size {Hc : Heap} {locs : List Loc} {cells slots : Nat} {g : JFrame} (h : Hc.size ≤ s.heap.size + cells → W p l e R s m args below meth c Hc locs cells slots Q g) : W p l e R s m args below meth c Hc locs cells slots Q g := fun T hT X => h (by rw [← hT]; exact X.heapSize) T hT X
theorem jm_inA {q : Nat} (h : base ≤ s.heap.size) (h2 : s.heap.size ≤ q) : jm_A base q := Nat.le_trans h h2
/-- a cell has changed, no cell is new -/
theorem jm_Rl_set {H H' : jm_H} {Hc H1 : Heap} {a cells : Nat} {ev : va_E} (hR : jm_Rl dC dI dA base H Hc) (hl : H'.1.length = H.1.length) (hk : ∀ j, j ≠ a → jm_at dA base H' j = jm_at dA base H j) (he : jm_at dA base H' a = (base + a, ev)) (hP : va_P (dC, dI) jm_cl ((jm_ws dA base H).set a (base + a, ev)) H1) (ha : a < H.1.length) (hn : s.heap.size = base + n0) (hc : cells + n0 = H.1.length) (hz : H1.size ≤ s.heap.size + cells) : jm_Rl dC dI dA base H' H1 := by
  have hP' : va_P (dC, dI) jm_cl (jm_ws dA base H') H1 := by rw [jm_ws_set hl hk he]; exact hP
  refine ⟨hP', ?_⟩
  have h1 := (hP' (H'.1.length - 1) _ (jm_ws_get (by omega))).lt
  have h2 : base + (H'.1.length - 1) < H1.size := h1
  omega
/-- a cell is new -/
theorem jm_Rl_push {H : jm_H} {H1 : Heap} {x : jm_S} {cells qq : Nat} {A : Nat → Prop} (hA : ∀ z, A z → base ≤ z) (hP : va_P (dC, dI) jm_cl (jm_ws dA base H ++ [(qq, jm_cell dA base x.1 x.2.1 x.2.2 (fun _ => 0) (fun _ => 0))]) H1) (hD : va_D A (jm_ws dA base H ++ [(qq, jm_cell dA base x.1 x.2.1 x.2.2 (fun _ => 0) (fun _ => 0))])) (hn : s.heap.size = base + n0) (hc : cells + n0 = H.1.length) (hz : H1.size ≤ s.heap.size + (cells + 1)) : qq = base + H.1.length ∧ jm_Rl dC dI dA base (jm_new H x) H1 := by
  have hg : (jm_ws dA base H ++ [(qq, jm_cell dA base x.1 x.2.1 x.2.2 (fun _ => 0) (fun _ => 0))])[H.1.length]? = some (qq, jm_cell dA base x.1 x.2.1 x.2.2 (fun _ => 0) (fun _ => 0)) := by
    rw [List.getElem?_append_right (by rw [jm_ws_len]; exact Nat.le_refl _), jm_ws_len, Nat.sub_self]
    rfl
  have hlt : qq < H1.size := (hP _ _ hg).lt
  have hge : base ≤ qq := hA _ (hD.2 _ _ hg)
  have hq : qq = base + H.1.length := by
    rcases Nat.lt_or_ge (qq - base) H.1.length with h | h
    · have h1 : (jm_ws dA base H ++ [(qq, jm_cell dA base x.1 x.2.1 x.2.2 (fun _ => 0) (fun _ => 0))])[qq - base]? = some (jm_at dA base H (qq - base)) := by
        rw [List.getElem?_append_left (by rw [jm_ws_len]; exact h), jm_ws_get h]
      have := hD.1 _ _ _ _ h1 hg (show base + (qq - base) = qq by omega)
      omega
    · omega
  subst hq
  refine ⟨rfl, ?_, ?_⟩
  · rw [jm_ws_push]; exact hP
  · have : (jm_new H x).1.length = H.1.length + 1 := by simp [jm_new]
    omega
/-- the instructions whose steps stand apart -/
def jm_big : Instr → Bool
  | .iinc _ _ | .ifCond _ _ | .if_icmp _ _ | .goto _ | .tableswitch _ _ _ _ | .lookupswitch _ _ | .getfield _ | .putfield _ | .arraylength | .iaload | .laload | .aaload | .iastore | .lastore | .aastore | .new _ | .newarray _ | .anewarray _ | .multianewarray _ _ | .invokevirtual _ | .invokespecial _ | .invokestatic _ => true
  | _ => false
set_option maxHeartbeats 8000000 in
theorem jm_stepA {d mi pc npc a0 b0 : Nat} {z0 : Int} {ins : Instr} {ls : jm_L} {st : List Value} {H : jm_H} {cf : jm_C} {E : jm_E} (C : jm_Cx p s m args meth c dC dI dA base b L xs q) (hF : jm_Fa q pc (ins, npc, a0, b0, z0)) (ho : jm_on q.2.2.2.2.2 = q.1.cls)
    (hs : jm_stp xs L E (ins, npc, a0, b0, z0) pc ls st H = some (.inl cf)) (G' : jm_G p l e R s m args below meth c Q dC dI dA base b q n0 s0 cf)
    (hX : jm_big ins = false) : jm_G p l e R s m args below meth c Q dC dI dA base b q n0 s0 (pc, ls, st, H) := by
  obtain ⟨hx, hb, hml, hown, hts, hXw, hK, hXs, hbb, hbs, hmn⟩ := C
  obtain ⟨hd, hn, hk, hsd⟩ := hF
  have hw : ∀ k, jm_need (ins, npc, a0, b0, z0) = some k → ∀ w ∈ jm_lw q.2.2.2.2.2 k, w.before args s = true := fun k h w hw => jm_word hts hXw (hk k h) hw
  rw [← ho] at hown
  cases ins
  case iconst n =>
    have hn : npc = pc + 1 := hn
    subst hn
    have hcf := jm_nx_inj hs
    subst hcf
    intro Hc locs arr cells slots hR hS hl h1 h2
    exact lv_iconst hx hb hd rfl (G' Hc locs arr cells slots hR hS hl h1 h2)
  case bipush n =>
    have hn : npc = pc + 2 := hn
    subst hn
    have hcf := jm_nx_inj hs
    subst hcf
    intro Hc locs arr cells slots hR hS hl h1 h2
    exact lv_bipush hx hb hd rfl (G' Hc locs arr cells slots hR hS hl h1 h2)
  case sipush n =>
    have hn : npc = pc + 3 := hn
    subst hn
    have hcf := jm_nx_inj hs
    subst hcf
    intro Hc locs arr cells slots hR hS hl h1 h2
    exact lv_sipush hx hb hd rfl (G' Hc locs arr cells slots hR hS hl h1 h2)
  case lconst n =>
    have hn : npc = pc + 1 := hn
    subst hn
    have hcf := jm_nx_inj hs
    subst hcf
    intro Hc locs arr cells slots hR hS hl h1 h2
    exact lv_lconst hx hb hd rfl (G' Hc locs arr cells slots hR hS hl h1 h2)
  case ldc i =>
    have hn : npc = pc + 2 := hn
    subst hn
    have hcf := jm_nx_inj hs
    subst hcf
    intro Hc locs arr cells slots hR hS hl h1 h2
    exact lv_ldc hx hb hown (hw _ rfl _ (List.mem_singleton.mpr rfl)) hd (G' Hc locs arr cells slots hR hS hl h1 h2)
  case ldc_w i =>
    have hn : npc = pc + 3 := hn
    subst hn
    have hcf := jm_nx_inj hs
    subst hcf
    intro Hc locs arr cells slots hR hS hl h1 h2
    exact lv_ldcw hx hb hown (hw _ rfl _ (List.mem_singleton.mpr rfl)) hd (G' Hc locs arr cells slots hR hS hl h1 h2)
  case ldc2_w i =>
    have hn : npc = pc + 3 := hn
    subst hn
    have hcf := jm_nx_inj hs
    subst hcf
    intro Hc locs arr cells slots hR hS hl h1 h2
    exact lv_ldc2 hx hb hown (hw _ rfl _ (List.mem_singleton.mpr rfl)) hd (G' Hc locs arr cells slots hR hS hl h1 h2)
  case iload_n k =>
    have hn : npc = pc + 1 := hn
    subst hn
    simp only [jm_stp] at hs
    split at hs
    · rename_i hq
      have hcf := jm_nx_inj hs
      subst hcf
      intro Hc locs arr cells slots hR hS hl h1 h2
      exact lv_iload_n hx hb hd rfl (hl.2.2.2 _ _ hq) (G' Hc locs arr cells slots hR hS hl h1 h2)
    · cases hs
  case iload k =>
    have hn : npc = pc + 2 := hn
    subst hn
    simp only [jm_stp] at hs
    split at hs
    · rename_i hq
      have hcf := jm_nx_inj hs
      subst hcf
      intro Hc locs arr cells slots hR hS hl h1 h2
      exact lv_iload hx hb hd (hl.2.2.2 _ _ hq) (G' Hc locs arr cells slots hR hS hl h1 h2)
    · cases hs
  case lload_n k =>
    have hn : npc = pc + 1 := hn
    subst hn
    simp only [jm_stp] at hs
    split at hs
    · rename_i hq
      have hcf := jm_nx_inj hs
      subst hcf
      intro Hc locs arr cells slots hR hS hl h1 h2
      exact lv_lload_n hx hb hd rfl (hl.2.2.2 _ _ hq) (G' Hc locs arr cells slots hR hS hl h1 h2)
    · cases hs
  case lload k =>
    have hn : npc = pc + 2 := hn
    subst hn
    simp only [jm_stp] at hs
    split at hs
    · rename_i hq
      have hcf := jm_nx_inj hs
      subst hcf
      intro Hc locs arr cells slots hR hS hl h1 h2
      exact lv_lload hx hb hd (hl.2.2.2 _ _ hq) (G' Hc locs arr cells slots hR hS hl h1 h2)
    · cases hs
  case aload k =>
    have hn : npc = pc + 2 := hn
    subst hn
    simp only [jm_stp] at hs
    split at hs
    · rename_i hq
      have hcf := jm_nx_inj hs
      subst hcf
      intro Hc locs arr cells slots hR hS hl h1 h2
      exact lv_aload hx hb hd (hl.2.2.2 _ _ hq) (G' Hc locs arr cells slots hR hS hl h1 h2)
    · cases hs
  case aload_n k =>
    have hn : npc = pc + 1 := hn
    subst hn
    simp only [jm_stp] at hs
    split at hs
    · rename_i hq
      have hcf := jm_nx_inj hs
      subst hcf
      intro Hc locs arr cells slots hR hS hl h1 h2
      exact lv_aload_n hx hb hd rfl (hl.2.2.2 _ _ hq) (G' Hc locs arr cells slots hR hS hl h1 h2)
    · rename_i hq
      have hcf := jm_nx_inj hs
      subst hcf
      intro Hc locs arr cells slots hR hS hl h1 h2
      exact lv_aload_n hx hb hd rfl (hl.2.2.2 _ _ hq) (G' Hc locs arr cells slots hR hS hl h1 h2)
    · cases hs
  case istore_n k =>
    have hn : npc = pc + 1 := hn
    subst hn
    simp only [jm_stp] at hs
    split at hs
    · unfold jm_sto at hs
      split at hs
      · rename_i hq
        have hcf := jm_nx_inj hs
        subst hcf
        intro Hc locs arr cells slots hR hS hl h1 h2
        have hlen := (jm_st1_len hq).2
        refine lv_istore_n hx hb hd rfl hl.has (by have hll : ls.length = q.2.2.1 := hl.2.1; omega) rfl (fun arr1 h3 => ?_)
        exact G' Hc locs arr1 cells slots hR hS (hl.st1 hq h3) h1 h2
      · cases hs
    · cases hs
  case istore k =>
    have hn : npc = pc + 2 := hn
    subst hn
    simp only [jm_stp] at hs
    split at hs
    · unfold jm_sto at hs
      split at hs
      · rename_i hq
        have hcf := jm_nx_inj hs
        subst hcf
        intro Hc locs arr cells slots hR hS hl h1 h2
        have hlen := (jm_st1_len hq).2
        refine lv_istore hx hb hd hl.has (by have hll : ls.length = q.2.2.1 := hl.2.1; omega) rfl (fun arr1 h3 => ?_)
        exact G' Hc locs arr1 cells slots hR hS (hl.st1 hq h3) h1 h2
      · cases hs
    · cases hs
  case lstore k =>
    have hn : npc = pc + 2 := hn
    subst hn
    simp only [jm_stp] at hs
    split at hs
    · unfold jm_sto at hs
      split at hs
      · rename_i hq
        have hcf := jm_nx_inj hs
        subst hcf
        intro Hc locs arr cells slots hR hS hl h1 h2
        have hlen := (jm_st2_len hq).2
        refine lv_lstore hx hb hd hl.has (by have hll : ls.length = q.2.2.1 := hl.2.1; omega) rfl (fun arr1 h3 => ?_)
        exact G' Hc locs arr1 cells slots hR hS (hl.st2 hq h3) h1 h2
      · cases hs
    · cases hs
  case astore_n k =>
    have hn : npc = pc + 1 := hn
    subst hn
    simp only [jm_stp] at hs
    split at hs
    · unfold jm_sto at hs
      split at hs
      · rename_i hq
        have hcf := jm_nx_inj hs
        subst hcf
        intro Hc locs arr cells slots hR hS hl h1 h2
        have hlen := (jm_st1_len hq).2
        refine lv_astore_n hx hb hd rfl hl.has (by have hll : ls.length = q.2.2.1 := hl.2.1; omega) rfl (fun arr1 h3 => ?_)
        exact G' Hc locs arr1 cells slots hR hS (hl.st1 hq h3) h1 h2
      · cases hs
    · cases hs
  case astore k =>
    have hn : npc = pc + 2 := hn
    subst hn
    simp only [jm_stp] at hs
    split at hs
    · unfold jm_sto at hs
      split at hs
      · rename_i hq
        have hcf := jm_nx_inj hs
        subst hcf
        intro Hc locs arr cells slots hR hS hl h1 h2
        have hlen := (jm_st1_len hq).2
        refine lv_astore hx hb hd hl.has (by have hll : ls.length = q.2.2.1 := hl.2.1; omega) rfl (fun arr1 h3 => ?_)
        exact G' Hc locs arr1 cells slots hR hS (hl.st1 hq h3) h1 h2
      · cases hs
    · cases hs
  case iadd =>
    have hn : npc = pc + 1 := hn
    subst hn
    simp only [jm_stp] at hs
    split at hs
    · have hcf := jm_nx_inj hs
      subst hcf
      intro Hc locs arr cells slots hR hS hl h1 h2
      exact lv_iadd hx hb hd (G' Hc locs arr cells slots hR hS hl h1 h2)
    · cases hs
  case isub =>
    have hn : npc = pc + 1 := hn
    subst hn
    simp only [jm_stp] at hs
    split at hs
    · have hcf := jm_nx_inj hs
      subst hcf
      intro Hc locs arr cells slots hR hS hl h1 h2
      exact lv_isub hx hb hd (G' Hc locs arr cells slots hR hS hl h1 h2)
    · cases hs
  case imul =>
    have hn : npc = pc + 1 := hn
    subst hn
    simp only [jm_stp] at hs
    split at hs
    · have hcf := jm_nx_inj hs
      subst hcf
      intro Hc locs arr cells slots hR hS hl h1 h2
      exact lv_imul hx hb hd (G' Hc locs arr cells slots hR hS hl h1 h2)
    · cases hs
  case iand =>
    have hn : npc = pc + 1 := hn
    subst hn
    simp only [jm_stp] at hs
    split at hs
    · have hcf := jm_nx_inj hs
      subst hcf
      intro Hc locs arr cells slots hR hS hl h1 h2
      exact lv_iand hx hb hd (G' Hc locs arr cells slots hR hS hl h1 h2)
    · cases hs
  case ior =>
    have hn : npc = pc + 1 := hn
    subst hn
    simp only [jm_stp] at hs
    split at hs
    · have hcf := jm_nx_inj hs
      subst hcf
      intro Hc locs arr cells slots hR hS hl h1 h2
      exact lv_ior hx hb hd (G' Hc locs arr cells slots hR hS hl h1 h2)
    · cases hs
  case ixor =>
    have hn : npc = pc + 1 := hn
    subst hn
    simp only [jm_stp] at hs
    split at hs
    · have hcf := jm_nx_inj hs
      subst hcf
      intro Hc locs arr cells slots hR hS hl h1 h2
      exact lv_ixor hx hb hd (G' Hc locs arr cells slots hR hS hl h1 h2)
    · cases hs
  case ishl =>
    have hn : npc = pc + 1 := hn
    subst hn
    simp only [jm_stp] at hs
    split at hs
    · have hcf := jm_nx_inj hs
      subst hcf
      intro Hc locs arr cells slots hR hS hl h1 h2
      exact lv_ishl hx hb hd (G' Hc locs arr cells slots hR hS hl h1 h2)
    · cases hs
  case ishr =>
    have hn : npc = pc + 1 := hn
    subst hn
    simp only [jm_stp] at hs
    split at hs
    · have hcf := jm_nx_inj hs
      subst hcf
      intro Hc locs arr cells slots hR hS hl h1 h2
      exact lv_ishr hx hb hd (G' Hc locs arr cells slots hR hS hl h1 h2)
    · cases hs
  case iushr =>
    have hn : npc = pc + 1 := hn
    subst hn
    simp only [jm_stp] at hs
    split at hs
    · have hcf := jm_nx_inj hs
      subst hcf
      intro Hc locs arr cells slots hR hS hl h1 h2
      exact lv_iushr hx hb hd rfl (G' Hc locs arr cells slots hR hS hl h1 h2)
    · cases hs
  case ineg =>
    have hn : npc = pc + 1 := hn
    subst hn
    simp only [jm_stp] at hs
    split at hs
    · have hcf := jm_nx_inj hs
      subst hcf
      intro Hc locs arr cells slots hR hS hl h1 h2
      exact lv_ineg hx hb hd (G' Hc locs arr cells slots hR hS hl h1 h2)
    · cases hs
  case ladd =>
    have hn : npc = pc + 1 := hn
    subst hn
    simp only [jm_stp] at hs
    split at hs
    · have hcf := jm_nx_inj hs
      subst hcf
      intro Hc locs arr cells slots hR hS hl h1 h2
      exact lv_ladd hx hb hd (G' Hc locs arr cells slots hR hS hl h1 h2)
    · cases hs
  case land =>
    have hn : npc = pc + 1 := hn
    subst hn
    simp only [jm_stp] at hs
    split at hs
    · have hcf := jm_nx_inj hs
      subst hcf
      intro Hc locs arr cells slots hR hS hl h1 h2
      exact lv_land hx hb hd (G' Hc locs arr cells slots hR hS hl h1 h2)
    · cases hs
  case lor =>
    have hn : npc = pc + 1 := hn
    subst hn
    simp only [jm_stp] at hs
    split at hs
    · have hcf := jm_nx_inj hs
      subst hcf
      intro Hc locs arr cells slots hR hS hl h1 h2
      exact lv_lor hx hb hd (G' Hc locs arr cells slots hR hS hl h1 h2)
    · cases hs
  case lshl =>
    have hn : npc = pc + 1 := hn
    subst hn
    simp only [jm_stp] at hs
    split at hs
    · have hcf := jm_nx_inj hs
      subst hcf
      intro Hc locs arr cells slots hR hS hl h1 h2
      exact lv_lshl hx hb hd rfl (G' Hc locs arr cells slots hR hS hl h1 h2)
    · cases hs
  case lcmp =>
    have hn : npc = pc + 1 := hn
    subst hn
    simp only [jm_stp] at hs
    split at hs
    · have hcf := jm_nx_inj hs
      subst hcf
      intro Hc locs arr cells slots hR hS hl h1 h2
      exact W.lcmp hx hb hd (G' Hc locs arr cells slots hR hS hl h1 h2)
    · cases hs
  case i2l =>
    have hn : npc = pc + 1 := hn
    subst hn
    simp only [jm_stp] at hs
    split at hs
    · have hcf := jm_nx_inj hs
      subst hcf
      intro Hc locs arr cells slots hR hS hl h1 h2
      exact lv_i2l hx hb hd rfl (G' Hc locs arr cells slots hR hS hl h1 h2)
    · cases hs
  case l2i =>
    have hn : npc = pc + 1 := hn
    subst hn
    simp only [jm_stp] at hs
    split at hs
    · have hcf := jm_nx_inj hs
      subst hcf
      intro Hc locs arr cells slots hR hS hl h1 h2
      exact lv_l2i hx hb hd rfl (G' Hc locs arr cells slots hR hS hl h1 h2)
    · cases hs
  case i2b =>
    have hn : npc = pc + 1 := hn
    subst hn
    simp only [jm_stp] at hs
    split at hs
    · have hcf := jm_nx_inj hs
      subst hcf
      intro Hc locs arr cells slots hR hS hl h1 h2
      exact lv_i2b hx hb hd rfl (G' Hc locs arr cells slots hR hS hl h1 h2)
    · cases hs
  case i2s =>
    have hn : npc = pc + 1 := hn
    subst hn
    simp only [jm_stp] at hs
    split at hs
    · have hcf := jm_nx_inj hs
      subst hcf
      intro Hc locs arr cells slots hR hS hl h1 h2
      exact lv_i2s hx hb hd rfl (G' Hc locs arr cells slots hR hS hl h1 h2)
    · cases hs
  case dup =>
    have hn : npc = pc + 1 := hn
    subst hn
    simp only [jm_stp] at hs
    split at hs
    · have hcf := jm_nx_inj hs
      subst hcf
      intro Hc locs arr cells slots hR hS hl h1 h2
      exact lv_dup hx hb hd rfl (G' Hc locs arr cells slots hR hS hl h1 h2)
    · have hcf := jm_nx_inj hs
      subst hcf
      intro Hc locs arr cells slots hR hS hl h1 h2
      exact lv_dup hx hb hd rfl (G' Hc locs arr cells slots hR hS hl h1 h2)
    · cases hs
  case pop =>
    have hn : npc = pc + 1 := hn
    subst hn
    simp only [jm_stp] at hs
    split at hs
    · have hcf := jm_nx_inj hs
      subst hcf
      intro Hc locs arr cells slots hR hS hl h1 h2
      exact lv_pop hx hb hd rfl (G' Hc locs arr cells slots hR hS hl h1 h2)
    · have hcf := jm_nx_inj hs
      subst hcf
      intro Hc locs arr cells slots hR hS hl h1 h2
      exact lv_pop hx hb hd rfl (G' Hc locs arr cells slots hR hS hl h1 h2)
    · cases hs
  case dup_x1 =>
    have hn : npc = pc + 1 := hn
    subst hn
    simp only [jm_stp] at hs
    split at hs
    · have hcf := jm_nx_inj hs
      subst hcf
      intro Hc locs arr cells slots hR hS hl h1 h2
      exact lv_dup_x1 hx hb hd rfl rfl (G' Hc locs arr cells slots hR hS hl h1 h2)
    · have hcf := jm_nx_inj hs
      subst hcf
      intro Hc locs arr cells slots hR hS hl h1 h2
      exact lv_dup_x1 hx hb hd rfl rfl (G' Hc locs arr cells slots hR hS hl h1 h2)
    · cases hs
  case dup2 =>
    have hn : npc = pc + 1 := hn
    subst hn
    simp only [jm_stp] at hs
    split at hs
    · have hcf := jm_nx_inj hs
      subst hcf
      intro Hc locs arr cells slots hR hS hl h1 h2
      exact lv_dup2_11 hx hb hd rfl rfl (G' Hc locs arr cells slots hR hS hl h1 h2)
    · cases hs
  case idiv =>
    have hn : npc = pc + 1 := hn
    subst hn
    simp only [jm_stp] at hs
    split at hs
    · split at hs
      · cases hs
      · rename_i hne
        have hcf := jm_nx_inj hs
        subst hcf
        intro Hc locs arr cells slots hR hS hl h1 h2
        exact lv_idiv hx hb hd hne (G' Hc locs arr cells slots hR hS hl h1 h2)
    · cases hs
  case irem =>
    have hn : npc = pc + 1 := hn
    subst hn
    simp only [jm_stp] at hs
    split at hs
    · split at hs
      · cases hs
      · rename_i hne
        have hcf := jm_nx_inj hs
        subst hcf
        intro Hc locs arr cells slots hR hS hl h1 h2
        exact lv_irem hx hb hd hne (G' Hc locs arr cells slots hR hS hl h1 h2)
    · cases hs
  all_goals first | exact Bool.noConfusion (show true = false from hX) | (simp [jm_stp] at hs; done) | (simp only [jm_stp] at hs; (repeat' split at hs) <;> cases hs)
end JMX
end
section
section JMY
variable {p : Program} {l : Launch} {e : Env} {R : Room} {s : State} {m : MethodId} {args : Array Value} {below : List Frame} {meth : Method} {c : Code} {Q : State → Prop}
variable {dC : Nat → ClassId} {dI : Nat → Nat → Nat} {dA : Nat → ClassId} {base b L : Nat} {xs : Nat → Int32} {q : jm_M} {n0 s0 : Nat}
variable {pc npc a0 b0 : Nat} {z0 : Int} {ls : jm_L} {st : List Value} {H : jm_H} {cf : jm_C} {E : jm_E}
theorem jm_vin {i : Int32} {n : Nat} (h0 : 0 ≤ i) (h : i.toNatClampNeg < n) : vp_in i n := by
  rintro (h1 | h1)
  · rw [Int32.lt_iff_toInt_lt] at h1
    rw [Int32.le_iff_toInt_le] at h0
    omega
  · omega
theorem jm_fset {N k : Nat} {f g : Nat → Value} {x : Value} (hk : g k = x) (ho : ∀ j, j ≠ k → g j = f j) : ((List.range N).map f).set k x = (List.range N).map g := by
  apply List.ext_getElem?
  intro j
  by_cases hj : j < N
  · by_cases e1 : j = k
    · subst e1
      rw [List.getElem?_set_self (by simp; exact hj), List.getElem?_map, List.getElem?_range hj, ← hk]
      rfl
    · rw [List.getElem?_set_ne (Ne.symm e1), List.getElem?_map, List.getElem?_map, List.getElem?_range hj]
      show some (f j) = some (g j)
      rw [ho j e1]
  · rw [List.getElem?_eq_none (by simp; omega), List.getElem?_eq_none (by simp; omega)]
theorem jm_sl_set {H : jm_H} {a : Nat} {f : Nat → Option Nat} : ((H.1.set a (jm_kd H a, jm_ln H a, f)).map (fun s => s.2.1)).sum = (H.1.map (fun s => s.2.1)).sum := by
  rw [List.map_set]
  congr 1
  apply List.ext_getElem?
  intro j
  by_cases e1 : j = a
  · subst e1
    by_cases hj : j < H.1.length
    · rw [List.getElem?_set_self (by simp; exact hj), List.getElem?_map]
      unfold jm_ln
      rw [List.getElem?_eq_getElem hj]
      rfl
    · rw [List.getElem?_eq_none (by simp; omega), List.getElem?_eq_none (by simp; omega)]
  · rw [List.getElem?_set_ne (Ne.symm e1)]
theorem jm_rset_at {H : jm_H} {a v k : Nat} (ha : a < H.1.length) : jm_kd (H.1.set a (jm_kd H a, jm_ln H a, fun j => if j = k then some v else jm_rf H a j), H.2.1, H.2.2) a = jm_kd H a ∧ jm_ln (H.1.set a (jm_kd H a, jm_ln H a, fun j => if j = k then some v else jm_rf H a j), H.2.1, H.2.2) a = jm_ln H a ∧ jm_rf (H.1.set a (jm_kd H a, jm_ln H a, fun j => if j = k then some v else jm_rf H a j), H.2.1, H.2.2) a = fun j => if j = k then some v else jm_rf H a j := by
  have hg : (H.1.set a (jm_kd H a, jm_ln H a, fun j => if j = k then some v else jm_rf H a j))[a]? = some (jm_kd H a, jm_ln H a, fun j => if j = k then some v else jm_rf H a j) := List.getElem?_set_self ha
  refine ⟨?_, ?_, ?_⟩
  · show (match (H.1.set a (jm_kd H a, jm_ln H a, fun j => if j = k then some v else jm_rf H a j))[a]? with | some s => s.1 | none => 0) = _
    rw [hg]
  · show (match (H.1.set a (jm_kd H a, jm_ln H a, fun j => if j = k then some v else jm_rf H a j))[a]? with | some s => s.2.1 | none => 0) = _
    rw [hg]
  · funext x
    show (match (H.1.set a (jm_kd H a, jm_ln H a, fun j => if j = k then some v else jm_rf H a j))[a]? with | some s => s.2.2 x | none => none) = _
    rw [hg]
theorem jm_tyz_isr {ci k : Nat} {z : Int} (h : jm_tyz (jm_ty ci k) z = true) : jm_isr ci k = true ↔ z = 1 := by
  unfold jm_isr
  cases ht : jm_ty ci k <;> rw [ht] at h <;> simp [jm_tyz] at h ⊢ <;> omega
theorem jm_rset_ne {H : jm_H} {a j : Nat} {s : jm_S} (h : j ≠ a) : (H.1.set a s)[j]? = H.1[j]? := List.getElem?_set_ne (Ne.symm h)
set_option maxHeartbeats 4000000 in
theorem jm_s_iinc {k : Nat} {n : Int} (C : jm_Cx p s m args meth c dC dI dA base b L xs q) (hF : jm_Fa q pc (.iinc k n, npc, a0, b0, z0)) (ho : jm_on q.2.2.2.2.2 = q.1.cls)
    (hs : jm_stp xs L E (.iinc k n, npc, a0, b0, z0) pc ls st H = some (.inl cf)) (G' : jm_G p l e R s m args below meth c Q dC dI dA base b q n0 s0 cf) : jm_G p l e R s m args below meth c Q dC dI dA base b q n0 s0 (pc, ls, st, H) := by
  obtain ⟨hx, hb, hml, hown, hts, hXw, hK, hXs, hbb, hbs, hmn⟩ := C
  obtain ⟨hd, hn, hk, hsd⟩ := hF
  have hw : ∀ k9 : jm_K, jm_need (.iinc k n, npc, a0, b0, z0) = some k9 → ∀ w ∈ jm_lw q.2.2.2.2.2 k9, w.before args s = true := fun k9 h w hw => jm_word hts hXw (hk k9 h) hw
  rw [← ho] at hown
  simp only [jm_stp] at hs
  have hn : npc = pc + 3 := hn
  subst hn
  split at hs
  · rename_i x hq
    unfold jm_sto at hs
    split at hs
    · rename_i ls' hq2
      have hcf := jm_nx_inj hs
      subst hcf
      intro Hc locs arr cells slots hR hS hl h1 h2
      have hm : ((k, Value.int x) : Nat × Value) ∈ jm_kl base b ls := jm_kl_mem.mpr ⟨.int x, hq, rfl⟩
      obtain ⟨j, hj⟩ := List.getElem?_of_mem hm
      have hlen := (jm_st1_len hq2).2
      have hll : ls.length = q.2.2.1 := hl.2.1
      refine lv_iinc hx hb hd hl.has (k := j) hj rfl (by omega) rfl (fun arr1 h3 => ?_)
      exact G' Hc locs arr1 cells slots hR hS (hl.st1 hq2 h3) h1 h2
    · cases hs
  · cases hs
set_option maxHeartbeats 4000000 in
theorem jm_s_ifc {cc : ClassFile.Cond} {off : Int} (C : jm_Cx p s m args meth c dC dI dA base b L xs q) (hF : jm_Fa q pc (.ifCond cc off, npc, a0, b0, z0)) (ho : jm_on q.2.2.2.2.2 = q.1.cls)
    (hs : jm_stp xs L E (.ifCond cc off, npc, a0, b0, z0) pc ls st H = some (.inl cf)) (G' : jm_G p l e R s m args below meth c Q dC dI dA base b q n0 s0 cf) : jm_G p l e R s m args below meth c Q dC dI dA base b q n0 s0 (pc, ls, st, H) := by
  obtain ⟨hx, hb, hml, hown, hts, hXw, hK, hXs, hbb, hbs, hmn⟩ := C
  obtain ⟨hd, hn, hk, hsd⟩ := hF
  have hw : ∀ k9 : jm_K, jm_need (.ifCond cc off, npc, a0, b0, z0) = some k9 → ∀ w ∈ jm_lw q.2.2.2.2.2 k9, w.before args s = true := fun k9 h w hw => jm_word hts hXw (hk k9 h) hw
  rw [← ho] at hown
  simp only [jm_stp] at hs
  have hn : npc = pc + 3 := hn
  subst hn
  have ht : (pc : Int) + off = (a0 : Int) := of_decide_eq_true hsd
  split at hs
  · cases cc
    case eq =>
      simp only [jm_ifb] at hs
      split at hs
      · rename_i hc
        have hcf := jm_nx_inj hs
        subst hcf
        intro Hc locs arr cells slots hR hS hl h1 h2
        exact lv_if_eq hx hb hd ht (fun _ => G' Hc locs arr cells slots hR hS hl h1 h2) (fun h => absurd hc h)
      · rename_i hc
        have hcf := jm_nx_inj hs
        subst hcf
        intro Hc locs arr cells slots hR hS hl h1 h2
        exact lv_if_eq hx hb hd ht (fun h => absurd h hc) (fun _ => G' Hc locs arr cells slots hR hS hl h1 h2)
    case ne =>
      simp only [jm_ifb] at hs
      split at hs
      · rename_i hc
        have hcf := jm_nx_inj hs
        subst hcf
        intro Hc locs arr cells slots hR hS hl h1 h2
        exact lv_if_ne hx hb hd ht (fun _ => G' Hc locs arr cells slots hR hS hl h1 h2) (fun h => absurd h hc)
      · rename_i hc
        have hcf := jm_nx_inj hs
        subst hcf
        intro Hc locs arr cells slots hR hS hl h1 h2
        exact lv_if_ne hx hb hd ht (fun h => absurd h hc) (fun _ => G' Hc locs arr cells slots hR hS hl h1 h2)
    case lt =>
      simp only [jm_ifb] at hs
      split at hs
      · rename_i hc
        have hcf := jm_nx_inj hs
        subst hcf
        intro Hc locs arr cells slots hR hS hl h1 h2
        exact lv_if_lt hx hb hd ht (fun _ => G' Hc locs arr cells slots hR hS hl h1 h2) (fun h => absurd hc h)
      · rename_i hc
        have hcf := jm_nx_inj hs
        subst hcf
        intro Hc locs arr cells slots hR hS hl h1 h2
        exact lv_if_lt hx hb hd ht (fun h => absurd h hc) (fun _ => G' Hc locs arr cells slots hR hS hl h1 h2)
    case ge =>
      simp only [jm_ifb] at hs
      split at hs
      · rename_i hc
        have hcf := jm_nx_inj hs
        subst hcf
        intro Hc locs arr cells slots hR hS hl h1 h2
        exact lv_if_ge hx hb hd ht (fun _ => G' Hc locs arr cells slots hR hS hl h1 h2) (fun h => absurd hc h)
      · rename_i hc
        have hcf := jm_nx_inj hs
        subst hcf
        intro Hc locs arr cells slots hR hS hl h1 h2
        exact lv_if_ge hx hb hd ht (fun h => absurd h hc) (fun _ => G' Hc locs arr cells slots hR hS hl h1 h2)
    case gt =>
      simp only [jm_ifb] at hs
      split at hs
      · rename_i hc
        have hcf := jm_nx_inj hs
        subst hcf
        intro Hc locs arr cells slots hR hS hl h1 h2
        exact lv_if_gt hx hb hd ht (fun _ => G' Hc locs arr cells slots hR hS hl h1 h2) (fun h => absurd hc h)
      · rename_i hc
        have hcf := jm_nx_inj hs
        subst hcf
        intro Hc locs arr cells slots hR hS hl h1 h2
        exact lv_if_gt hx hb hd ht (fun h => absurd h hc) (fun _ => G' Hc locs arr cells slots hR hS hl h1 h2)
    case le =>
      simp only [jm_ifb] at hs
      split at hs
      · rename_i hc
        have hcf := jm_nx_inj hs
        subst hcf
        intro Hc locs arr cells slots hR hS hl h1 h2
        exact lv_if_le hx hb hd ht (fun _ => G' Hc locs arr cells slots hR hS hl h1 h2) (fun h => absurd hc h)
      · rename_i hc
        have hcf := jm_nx_inj hs
        subst hcf
        intro Hc locs arr cells slots hR hS hl h1 h2
        exact lv_if_le hx hb hd ht (fun h => absurd h hc) (fun _ => G' Hc locs arr cells slots hR hS hl h1 h2)
  · cases hs
set_option maxHeartbeats 4000000 in
theorem jm_s_icmp {cc : ClassFile.Cond} {off : Int} (C : jm_Cx p s m args meth c dC dI dA base b L xs q) (hF : jm_Fa q pc (.if_icmp cc off, npc, a0, b0, z0)) (ho : jm_on q.2.2.2.2.2 = q.1.cls)
    (hs : jm_stp xs L E (.if_icmp cc off, npc, a0, b0, z0) pc ls st H = some (.inl cf)) (G' : jm_G p l e R s m args below meth c Q dC dI dA base b q n0 s0 cf) : jm_G p l e R s m args below meth c Q dC dI dA base b q n0 s0 (pc, ls, st, H) := by
  obtain ⟨hx, hb, hml, hown, hts, hXw, hK, hXs, hbb, hbs, hmn⟩ := C
  obtain ⟨hd, hn, hk, hsd⟩ := hF
  have hw : ∀ k9 : jm_K, jm_need (.if_icmp cc off, npc, a0, b0, z0) = some k9 → ∀ w ∈ jm_lw q.2.2.2.2.2 k9, w.before args s = true := fun k9 h w hw => jm_word hts hXw (hk k9 h) hw
  rw [← ho] at hown
  simp only [jm_stp] at hs
  have hn : npc = pc + 3 := hn
  subst hn
  have ht : (pc : Int) + off = (a0 : Int) := of_decide_eq_true hsd
  split at hs
  · cases cc
    case eq =>
      simp only [jm_ifb] at hs
      split at hs
      · rename_i hc
        have hcf := jm_nx_inj hs
        subst hcf
        intro Hc locs arr cells slots hR hS hl h1 h2
        exact lv_icmp_eq hx hb hd ht (fun _ => G' Hc locs arr cells slots hR hS hl h1 h2) (fun h => absurd hc h)
      · rename_i hc
        have hcf := jm_nx_inj hs
        subst hcf
        intro Hc locs arr cells slots hR hS hl h1 h2
        exact lv_icmp_eq hx hb hd ht (fun h => absurd h hc) (fun _ => G' Hc locs arr cells slots hR hS hl h1 h2)
    case ne =>
      simp only [jm_ifb] at hs
      split at hs
      · rename_i hc
        have hcf := jm_nx_inj hs
        subst hcf
        intro Hc locs arr cells slots hR hS hl h1 h2
        exact lv_icmp_ne hx hb hd ht (fun _ => G' Hc locs arr cells slots hR hS hl h1 h2) (fun h => absurd h hc)
      · rename_i hc
        have hcf := jm_nx_inj hs
        subst hcf
        intro Hc locs arr cells slots hR hS hl h1 h2
        exact lv_icmp_ne hx hb hd ht (fun h => absurd h hc) (fun _ => G' Hc locs arr cells slots hR hS hl h1 h2)
    case lt =>
      simp only [jm_ifb] at hs
      split at hs
      · rename_i hc
        have hcf := jm_nx_inj hs
        subst hcf
        intro Hc locs arr cells slots hR hS hl h1 h2
        exact lv_icmp_lt hx hb hd ht (fun _ => G' Hc locs arr cells slots hR hS hl h1 h2) (fun h => absurd hc h)
      · rename_i hc
        have hcf := jm_nx_inj hs
        subst hcf
        intro Hc locs arr cells slots hR hS hl h1 h2
        exact lv_icmp_lt hx hb hd ht (fun h => absurd h hc) (fun _ => G' Hc locs arr cells slots hR hS hl h1 h2)
    case ge =>
      simp only [jm_ifb] at hs
      split at hs
      · rename_i hc
        have hcf := jm_nx_inj hs
        subst hcf
        intro Hc locs arr cells slots hR hS hl h1 h2
        exact lv_icmp_ge hx hb hd ht (fun _ => G' Hc locs arr cells slots hR hS hl h1 h2) (fun h => absurd hc h)
      · rename_i hc
        have hcf := jm_nx_inj hs
        subst hcf
        intro Hc locs arr cells slots hR hS hl h1 h2
        exact lv_icmp_ge hx hb hd ht (fun h => absurd h hc) (fun _ => G' Hc locs arr cells slots hR hS hl h1 h2)
    case gt =>
      simp only [jm_ifb] at hs
      split at hs
      · rename_i hc
        have hcf := jm_nx_inj hs
        subst hcf
        intro Hc locs arr cells slots hR hS hl h1 h2
        exact lv_icmp_gt hx hb hd ht (fun _ => G' Hc locs arr cells slots hR hS hl h1 h2) (fun h => absurd hc h)
      · rename_i hc
        have hcf := jm_nx_inj hs
        subst hcf
        intro Hc locs arr cells slots hR hS hl h1 h2
        exact lv_icmp_gt hx hb hd ht (fun h => absurd h hc) (fun _ => G' Hc locs arr cells slots hR hS hl h1 h2)
    case le =>
      simp only [jm_ifb] at hs
      split at hs
      · rename_i hc
        have hcf := jm_nx_inj hs
        subst hcf
        intro Hc locs arr cells slots hR hS hl h1 h2
        exact lv_icmp_le hx hb hd ht (fun _ => G' Hc locs arr cells slots hR hS hl h1 h2) (fun h => absurd hc h)
      · rename_i hc
        have hcf := jm_nx_inj hs
        subst hcf
        intro Hc locs arr cells slots hR hS hl h1 h2
        exact lv_icmp_le hx hb hd ht (fun h => absurd h hc) (fun _ => G' Hc locs arr cells slots hR hS hl h1 h2)
  · cases hs
set_option maxHeartbeats 4000000 in
theorem jm_s_goto {off : Int} (C : jm_Cx p s m args meth c dC dI dA base b L xs q) (hF : jm_Fa q pc (.goto off, npc, a0, b0, z0)) (ho : jm_on q.2.2.2.2.2 = q.1.cls)
    (hs : jm_stp xs L E (.goto off, npc, a0, b0, z0) pc ls st H = some (.inl cf)) (G' : jm_G p l e R s m args below meth c Q dC dI dA base b q n0 s0 cf) : jm_G p l e R s m args below meth c Q dC dI dA base b q n0 s0 (pc, ls, st, H) := by
  obtain ⟨hx, hb, hml, hown, hts, hXw, hK, hXs, hbb, hbs, hmn⟩ := C
  obtain ⟨hd, hn, hk, hsd⟩ := hF
  have hw : ∀ k9 : jm_K, jm_need (.goto off, npc, a0, b0, z0) = some k9 → ∀ w ∈ jm_lw q.2.2.2.2.2 k9, w.before args s = true := fun k9 h w hw => jm_word hts hXw (hk k9 h) hw
  rw [← ho] at hown
  simp only [jm_stp] at hs
  have ht : (pc : Int) + off = (a0 : Int) := of_decide_eq_true hsd
  have hcf := jm_nx_inj hs
  subst hcf
  intro Hc locs arr cells slots hR hS hl h1 h2
  exact lv_goto hx hb hd ht (G' Hc locs arr cells slots hR hS hl h1 h2)
theorem jm_jmp_inj {off : Int} {st : List Value} (h : jm_jmp pc off ls st H = some (.inl cf)) : ∃ t : Nat, (pc : Int) + off = (t : Int) ∧ cf = (t, ls, st, H) := by
  unfold jm_jmp at h
  split at h
  · rename_i h0
    exact ⟨_, (Int.toNat_of_nonneg h0).symm, jm_nx_inj h⟩
  · cases h
set_option maxHeartbeats 4000000 in
theorem jm_s_tsw {dd lo hi : Int} {offs : Array Int} (C : jm_Cx p s m args meth c dC dI dA base b L xs q) (hF : jm_Fa q pc (.tableswitch dd lo hi offs, npc, a0, b0, z0)) (ho : jm_on q.2.2.2.2.2 = q.1.cls)
    (hs : jm_stp xs L E (.tableswitch dd lo hi offs, npc, a0, b0, z0) pc ls st H = some (.inl cf)) (G' : jm_G p l e R s m args below meth c Q dC dI dA base b q n0 s0 cf) : jm_G p l e R s m args below meth c Q dC dI dA base b q n0 s0 (pc, ls, st, H) := by
  obtain ⟨hx, hb, hml, hown, hts, hXw, hK, hXs, hbb, hbs, hmn⟩ := C
  obtain ⟨hd, hn, hk, hsd⟩ := hF
  have hw : ∀ k9 : jm_K, jm_need (.tableswitch dd lo hi offs, npc, a0, b0, z0) = some k9 → ∀ w ∈ jm_lw q.2.2.2.2.2 k9, w.before args s = true := fun k9 h w hw => jm_word hts hXw (hk k9 h) hw
  rw [← ho] at hown
  simp only [jm_stp] at hs
  split at hs
  · split at hs
    · rename_i hc
      obtain ⟨t, ht, hcf⟩ := jm_jmp_inj hs
      subst hcf
      intro Hc locs arr cells slots hR hS hl h1 h2
      exact lv_tableOut hx hb hd hc ht (G' Hc locs arr cells slots hR hS hl h1 h2)
    · rename_i hc
      split at hs
      · rename_i o hof
        obtain ⟨t, ht, hcf⟩ := jm_jmp_inj hs
        subst hcf
        intro Hc locs arr cells slots hR hS hl h1 h2
        exact lv_tableIn hx hb hd (fun h => hc (Or.inl h)) (fun h => hc (Or.inr h)) hof ht (G' Hc locs arr cells slots hR hS hl h1 h2)
      · cases hs
  · cases hs
set_option maxHeartbeats 4000000 in
theorem jm_s_lsw {dd : Int} {ps : Array (Int × Int)} (C : jm_Cx p s m args meth c dC dI dA base b L xs q) (hF : jm_Fa q pc (.lookupswitch dd ps, npc, a0, b0, z0)) (ho : jm_on q.2.2.2.2.2 = q.1.cls)
    (hs : jm_stp xs L E (.lookupswitch dd ps, npc, a0, b0, z0) pc ls st H = some (.inl cf)) (G' : jm_G p l e R s m args below meth c Q dC dI dA base b q n0 s0 cf) : jm_G p l e R s m args below meth c Q dC dI dA base b q n0 s0 (pc, ls, st, H) := by
  obtain ⟨hx, hb, hml, hown, hts, hXw, hK, hXs, hbb, hbs, hmn⟩ := C
  obtain ⟨hd, hn, hk, hsd⟩ := hF
  have hw : ∀ k9 : jm_K, jm_need (.lookupswitch dd ps, npc, a0, b0, z0) = some k9 → ∀ w ∈ jm_lw q.2.2.2.2.2 k9, w.before args s = true := fun k9 h w hw => jm_word hts hXw (hk k9 h) hw
  rw [← ho] at hown
  simp only [jm_stp] at hs
  split at hs
  · obtain ⟨t, ht, hcf⟩ := jm_jmp_inj hs
    subst hcf
    intro Hc locs arr cells slots hR hS hl h1 h2
    exact lv_lookup hx hb hd hsd rfl ht (G' Hc locs arr cells slots hR hS hl h1 h2)
  · cases hs
set_option maxHeartbeats 4000000 in
theorem jm_s_getf {ix : Nat} (C : jm_Cx p s m args meth c dC dI dA base b L xs q) (hF : jm_Fa q pc (.getfield ix, npc, a0, b0, z0)) (ho : jm_on q.2.2.2.2.2 = q.1.cls)
    (hs : jm_stp xs L E (.getfield ix, npc, a0, b0, z0) pc ls st H = some (.inl cf)) (G' : jm_G p l e R s m args below meth c Q dC dI dA base b q n0 s0 cf) : jm_G p l e R s m args below meth c Q dC dI dA base b q n0 s0 (pc, ls, st, H) := by
  obtain ⟨hx, hb, hml, hown, hts, hXw, hK, hXs, hbb, hbs, hmn⟩ := C
  obtain ⟨hd, hn, hk, hsd⟩ := hF
  have hw : ∀ k9 : jm_K, jm_need (.getfield ix, npc, a0, b0, z0) = some k9 → ∀ w ∈ jm_lw q.2.2.2.2.2 k9, w.before args s = true := fun k9 h w hw => jm_word hts hXw (hk k9 h) hw
  rw [← ho] at hown
  simp only [jm_stp] at hs
  have hn : npc = pc + 3 := hn
  subst hn
  have hlk := jm_lkok (hk _ rfl)
  simp only [jm_lok, Bool.and_eq_true, decide_eq_true_eq] at hlk
  obtain ⟨⟨hci, hkb⟩, htz⟩ := hlk
  have hlink : (Cond.fieldLink (jm_on q.2.2.2.2.2) ix (jm_T a0 b0).1 (jm_T a0 b0).2.1 (jm_T a0 b0).2.2.1).before args s = true := hw _ rfl _ (List.mem_singleton.mpr rfl)
  split at hs
  · rename_i a r
    split at hs
    · rename_i hkd
      have hobj := jm_obj (dA := dA) (base := base) hkd
      split at hs
      · rename_i hz
        have hcf := jm_nx_inj hs
        subst hcf
        intro Hc locs arr cells slots hR hS hl h1 h2
        have hir : jm_isr a0 b0 = true := (jm_tyz_isr htz).mpr hz
        refine va_get hx hb hts (jm_lay hci) hown hK hR.1 a hobj (jm_clg hci) b0 hkb hlink (fun x h => h) (jm_fdg hkb) hd ?_
        have G2 := G' Hc locs arr cells slots hR hS hl h1 h2
        simp only [List.map_cons, jm_cvr] at G2
        unfold jm_fd
        rw [if_pos hir]
        exact G2
      · rename_i hz
        have hcf := jm_nx_inj hs
        subst hcf
        intro Hc locs arr cells slots hR hS hl h1 h2
        have hir : ¬ jm_isr a0 b0 = true := fun h => hz ((jm_tyz_isr htz).mp h)
        refine va_get hx hb hts (jm_lay hci) hown hK hR.1 a hobj (jm_clg hci) b0 hkb hlink (fun x h => h) (jm_fdg hkb) hd ?_
        unfold jm_fd
        rw [if_neg hir]
        exact G' Hc locs arr cells slots hR hS hl h1 h2
    · cases hs
  · cases hs
set_option maxHeartbeats 4000000 in
theorem jm_s_putf {ix : Nat} (C : jm_Cx p s m args meth c dC dI dA base b L xs q) (hF : jm_Fa q pc (.putfield ix, npc, a0, b0, z0)) (ho : jm_on q.2.2.2.2.2 = q.1.cls) (hn0 : s.heap.size = base + n0)
    (hs : jm_stp xs L E (.putfield ix, npc, a0, b0, z0) pc ls st H = some (.inl cf)) (G' : jm_G p l e R s m args below meth c Q dC dI dA base b q n0 s0 cf) : jm_G p l e R s m args below meth c Q dC dI dA base b q n0 s0 (pc, ls, st, H) := by
  obtain ⟨hx, hb, hml, hown, hts, hXw, hK, hXs, hbb, hbs, hmn⟩ := C
  obtain ⟨hd, hn, hk, hsd⟩ := hF
  have hw : ∀ k9 : jm_K, jm_need (.putfield ix, npc, a0, b0, z0) = some k9 → ∀ w ∈ jm_lw q.2.2.2.2.2 k9, w.before args s = true := fun k9 h w hw => jm_word hts hXw (hk k9 h) hw
  rw [← ho] at hown
  simp only [jm_stp] at hs
  have hn : npc = pc + 3 := hn
  subst hn
  have hlk := jm_lkok (hk _ rfl)
  simp only [jm_lok, Bool.and_eq_true, decide_eq_true_eq] at hlk
  obtain ⟨⟨hci, hkb⟩, htz⟩ := hlk
  have hlink : (Cond.fieldLink (jm_on q.2.2.2.2.2) ix (jm_T a0 b0).1 (jm_T a0 b0).2.1 (jm_T a0 b0).2.2.1).before args s = true := hw _ rfl _ (List.mem_singleton.mpr rfl)
  split at hs
  · rename_i v a r
    split at hs
    · rename_i hc
      obtain ⟨hkd, hz, hbz⟩ := hc
      have hcf := jm_nx_inj hs
      subst hcf
      have hobj := jm_obj (dA := dA) (base := base) hkd
      have hir : ¬ jm_isr a0 b0 = true := fun h => hz ((jm_tyz_isr htz).mp h)
      have hnf : narrow (jm_ty a0 b0) (.int v) = .int v ∧ fits (jm_ty a0 b0) (.int v) = true := by
        cases hty : jm_ty a0 b0 with
        | int => exact ⟨rfl, rfl⟩
        | boolean =>
          have hz2 : z0 = 2 := by
            rw [hty] at htz
            simpa [jm_tyz] using htz
          rcases hbz hz2 with h | h <;> subst h <;> exact ⟨rfl, rfl⟩
        | object n =>
          rw [hty] at htz
          exact absurd (by simpa [jm_tyz] using htz) hz
        | array n =>
          rw [hty] at htz
          exact absurd (by simpa [jm_tyz] using htz) hz
        | _ =>
          rw [hty] at htz
          exact Bool.noConfusion (show false = true from htz)
      obtain ⟨hnar, hfit⟩ := hnf
      intro Hc locs arr cells slots hR hS hl h1 h2
      have hD := jm_ws_D (dA := dA) (base := base) (H := H) (jm_A base) (fun _ h => h)
      have ha : a < H.1.length := jm_kd_lt (by omega)
      have kk : ∀ (H1 : Heap) (locs1 : List Loc), va_P (dC, dI) jm_cl ((jm_ws dA base H).set a (base + a, .inr (a0, ((List.range (jm_N a0)).map (jm_fd base a0 (jm_rf H a) (H.2.1 a))).set b0 (.int v)))) H1 → va_D (jm_A base) ((jm_ws dA base H).set a (base + a, .inr (a0, ((List.range (jm_N a0)).map (jm_fd base a0 (jm_rf H a) (H.2.1 a))).set b0 (.int v)))) → va_S (jm_A base) s.heap H1 locs1 → W p l e R s m args below meth c H1 locs1 cells slots Q (F0 m (pc + 3) arr (r.map (jm_cv base b))) := by
        intro H1 locs1 hP1 hD1 hS1
        refine jm_size fun hz => ?_
        refine G' H1 locs1 arr cells slots (jm_Rl_set hR rfl (fun j hj => jm_at_congr rfl (jm_up_ne hj) rfl) ?_ hP1 ha hn0 h1 hz) hS1 hl h1 h2
        unfold jm_at
        show (base + a, jm_cell dA base (jm_kd H a) (jm_ln H a) (jm_rf H a) (jm_up H.2.1 a b0 v a) (H.2.2 a)) = _
        unfold jm_cell
        rw [hkd, if_neg (by omega), if_neg (by omega), if_neg (by omega), Nat.add_sub_cancel_left]
        congr 3
        refine (jm_fset ?_ ?_).symm
        · unfold jm_fd
          rw [if_neg hir, jm_up_eq]
          exact congrArg Value.int (if_pos rfl)
        · intro j hj
          unfold jm_fd
          rw [jm_up_eq]
          simp only [if_neg hj]
      cases hfin : (jm_T a0 b0).2.2.2 with
      | false => exact va_put hx hb hts (jm_lay hci) (jm_ty a0) (jm_tok hci) (jm_nok hci) hown hK hR.1 hD hS a hobj (jm_clg hci) b0 hkb hlink (fun x h => h) hfin (jm_tok hci b0 hkb) hnar hfit (by simp; exact hkb) hd kk
      | true =>
        have hsd' : (!(jm_T a0 b0).2.2.2 || (decide (q.1.name = "<init>") && decide ((jm_T a0 b0).1 = q.1.cls))) = true := hsd
        rw [hfin] at hsd'
        simp only [Bool.not_true, Bool.false_or, Bool.and_eq_true, decide_eq_true_eq] at hsd'
        exact va_putF hx hb hts (jm_lay hci) (jm_ty a0) (jm_tok hci) (jm_nok hci) hown hK hR.1 hD hS a hobj (jm_clg hci) b0 hkb hlink (fun x h => h) hfin (hmn hsd'.1) (hsd'.2.trans ho.symm) (jm_tok hci b0 hkb) hnar hfit (by simp; exact hkb) hd kk
    · cases hs
  · rename_i v a r
    split at hs
    · rename_i hc
      obtain ⟨hkd, hz⟩ := hc
      have hcf := jm_nx_inj hs
      subst hcf
      have hobj := jm_obj (dA := dA) (base := base) hkd
      have hir : jm_isr a0 b0 = true := (jm_tyz_isr htz).mpr hz
      have hnf : narrow (jm_ty a0 b0) (.ref (base + v)) = .ref (base + v) ∧ fits (jm_ty a0 b0) (.ref (base + v)) = true := by
        cases hty : jm_ty a0 b0 with
        | object n => exact ⟨rfl, rfl⟩
        | array n => exact ⟨rfl, rfl⟩
        | int =>
          rw [hty] at htz
          exact absurd (hz.symm.trans (by simpa [jm_tyz] using htz)) (by decide)
        | boolean =>
          rw [hty] at htz
          exact absurd (hz.symm.trans (by simpa [jm_tyz] using htz)) (by decide)
        | _ =>
          rw [hty] at htz
          exact Bool.noConfusion (show false = true from htz)
      obtain ⟨hnar, hfit⟩ := hnf
      intro Hc locs arr cells slots hR hS hl h1 h2
      have hD := jm_ws_D (dA := dA) (base := base) (H := H) (jm_A base) (fun _ h => h)
      have ha : a < H.1.length := jm_kd_lt (by omega)
      have kk : ∀ (H1 : Heap) (locs1 : List Loc), va_P (dC, dI) jm_cl ((jm_ws dA base H).set a (base + a, .inr (a0, ((List.range (jm_N a0)).map (jm_fd base a0 (jm_rf H a) (H.2.1 a))).set b0 (.ref (base + v))))) H1 → va_D (jm_A base) ((jm_ws dA base H).set a (base + a, .inr (a0, ((List.range (jm_N a0)).map (jm_fd base a0 (jm_rf H a) (H.2.1 a))).set b0 (.ref (base + v))))) → va_S (jm_A base) s.heap H1 locs1 → W p l e R s m args below meth c H1 locs1 cells slots Q (F0 m (pc + 3) arr (r.map (jm_cv base b))) := by
        intro H1 locs1 hP1 hD1 hS1
        refine jm_size fun hz => ?_
        refine G' H1 locs1 arr cells slots (jm_Rl_set hR (List.length_set ..) (fun j hj => jm_at_congr (jm_rset_ne hj) rfl rfl) ?_ hP1 ha hn0 h1 hz) hS1 hl (h1.trans (List.length_set ..).symm) (h2.trans jm_sl_set.symm)
        obtain ⟨e1, e2, e3⟩ := jm_rset_at (H := H) (v := v) (k := b0) ha
        unfold jm_at
        rw [e1, e2, e3]
        unfold jm_cell
        rw [hkd, if_neg (by omega), if_neg (by omega), if_neg (by omega), Nat.add_sub_cancel_left]
        congr 3
        refine (jm_fset ?_ ?_).symm
        · unfold jm_fd
          rw [if_pos hir]
          simp only [if_true, Option.map, va_rf]
        · intro j hj
          unfold jm_fd
          simp only [if_neg hj]
      cases hfin : (jm_T a0 b0).2.2.2 with
      | false => exact va_put hx hb hts (jm_lay hci) (jm_ty a0) (jm_tok hci) (jm_nok hci) hown hK hR.1 hD hS a hobj (jm_clg hci) b0 hkb hlink (fun x h => h) hfin (jm_tok hci b0 hkb) hnar hfit (by simp; exact hkb) hd kk
      | true =>
        have hsd' : (!(jm_T a0 b0).2.2.2 || (decide (q.1.name = "<init>") && decide ((jm_T a0 b0).1 = q.1.cls))) = true := hsd
        rw [hfin] at hsd'
        simp only [Bool.not_true, Bool.false_or, Bool.and_eq_true, decide_eq_true_eq] at hsd'
        exact va_putF hx hb hts (jm_lay hci) (jm_ty a0) (jm_tok hci) (jm_nok hci) hown hK hR.1 hD hS a hobj (jm_clg hci) b0 hkb hlink (fun x h => h) hfin (hmn hsd'.1) (hsd'.2.trans ho.symm) (jm_tok hci b0 hkb) hnar hfit (by simp; exact hkb) hd kk
    · cases hs
  · cases hs
end JMY
end
section
section JMY
variable {p : Program} {l : Launch} {e : Env} {R : Room} {s : State} {m : MethodId} {args : Array Value} {below : List Frame} {meth : Method} {c : Code} {Q : State → Prop}
variable {dC : Nat → ClassId} {dI : Nat → Nat → Nat} {dA : Nat → ClassId} {base b L : Nat} {xs : Nat → Int32} {q : jm_M} {n0 s0 : Nat}
variable {pc npc a0 b0 : Nat} {z0 : Int} {ls : jm_L} {st : List Value} {H : jm_H} {cf : jm_C} {E : jm_E}
set_option maxHeartbeats 4000000 in
theorem jm_s_alen (C : jm_Cx p s m args meth c dC dI dA base b L xs q) (hF : jm_Fa q pc (.arraylength, npc, a0, b0, z0)) (ho : jm_on q.2.2.2.2.2 = q.1.cls)
    (hs : jm_stp xs L E (.arraylength, npc, a0, b0, z0) pc ls st H = some (.inl cf)) (G' : jm_G p l e R s m args below meth c Q dC dI dA base b q n0 s0 cf) : jm_G p l e R s m args below meth c Q dC dI dA base b q n0 s0 (pc, ls, st, H) := by
  obtain ⟨hx, hb, hml, hown, hts, hXw, hK, hXs, hbb, hbs, hmn⟩ := C
  obtain ⟨hd, hn, hk, hsd⟩ := hF
  have hw : ∀ k9 : jm_K, jm_need (.arraylength, npc, a0, b0, z0) = some k9 → ∀ w ∈ jm_lw q.2.2.2.2.2 k9, w.before args s = true := fun k9 h w hw => jm_word hts hXw (hk k9 h) hw
  rw [← ho] at hown
  simp only [jm_stp] at hs
  have hn : npc = pc + 1 := hn
  subst hn
  split at hs
  · rename_i a r
    split at hs
    · rename_i hc
      have hcf := jm_nx_inj hs
      subst hcf
      intro Hc locs arr cells slots hR hS hl h1 h2
      rcases (show jm_kd H a = 1 ∨ jm_kd H a = 2 ∨ (3 ≤ jm_kd H a ∧ jm_kd H a ≤ 6) by omega) with h | h | h
      · exact va_alen hx hb hK hR.1 a 0 (jm_iar h) (by rfl) rfl hd (G' Hc locs arr cells slots hR hS hl h1 h2)
      · exact va_alen hx hb hK hR.1 a 1 (jm_lar h) (by rfl) rfl hd (G' Hc locs arr cells slots hR hS hl h1 h2)
      · rcases (show jm_kd H a = 3 ∨ jm_kd H a = 4 ∨ jm_kd H a = 5 ∨ jm_kd H a = 6 by omega) with h9 | h9 | h9 | h9 <;> refine va_alen hx hb hK hR.1 a (jm_kd H a - 1) (jm_rar h.1 h.2) (by rw [h9]; rfl) rfl hd (G' Hc locs arr cells slots hR hS hl h1 h2)
    · cases hs
  · split at hs
    case isFalse => cases hs
    have hcf := jm_nx_inj hs
    subst hcf
    intro Hc locs arr cells slots hR hS hl h1 h2
    exact va_slen hx hb hXs (Nat.lt_of_lt_of_le hbb hbs) (fun h => absurd hbb (Nat.not_lt.mpr h)) hS hd (G' Hc locs arr cells slots hR hS hl h1 h2)
  · cases hs
set_option maxHeartbeats 4000000 in
theorem jm_s_iald (C : jm_Cx p s m args meth c dC dI dA base b L xs q) (hF : jm_Fa q pc (.iaload, npc, a0, b0, z0)) (ho : jm_on q.2.2.2.2.2 = q.1.cls)
    (hs : jm_stp xs L E (.iaload, npc, a0, b0, z0) pc ls st H = some (.inl cf)) (G' : jm_G p l e R s m args below meth c Q dC dI dA base b q n0 s0 cf) : jm_G p l e R s m args below meth c Q dC dI dA base b q n0 s0 (pc, ls, st, H) := by
  obtain ⟨hx, hb, hml, hown, hts, hXw, hK, hXs, hbb, hbs, hmn⟩ := C
  obtain ⟨hd, hn, hk, hsd⟩ := hF
  have hw : ∀ k9 : jm_K, jm_need (.iaload, npc, a0, b0, z0) = some k9 → ∀ w ∈ jm_lw q.2.2.2.2.2 k9, w.before args s = true := fun k9 h w hw => jm_word hts hXw (hk k9 h) hw
  rw [← ho] at hown
  simp only [jm_stp] at hs
  have hn : npc = pc + 1 := hn
  subst hn
  split at hs
  · rename_i i a r
    split at hs
    · rename_i hc
      have hcf := jm_nx_inj hs
      subst hcf
      intro Hc locs arr cells slots hR hS hl h1 h2
      exact va_iald hx hb hK hR.1 a 0 (jm_iar hc.1) rfl (jm_vin hc.2.1 hc.2.2) hd (G' Hc locs arr cells slots hR hS hl h1 h2)
    · cases hs
  · rename_i i a r
    split at hs
    · rename_i hc
      have hcf := jm_nx_inj hs
      subst hcf
      intro Hc locs arr cells slots hR hS hl h1 h2
      exact va_sld hx hb hXs (Nat.lt_of_lt_of_le hbb hbs) (fun h => absurd hbb (Nat.not_lt.mpr h)) hS (jm_vin hc.2.1 hc.2.2) hd (G' Hc locs arr cells slots hR hS hl h1 h2)
    · cases hs
  · cases hs
set_option maxHeartbeats 4000000 in
theorem jm_s_lald (C : jm_Cx p s m args meth c dC dI dA base b L xs q) (hF : jm_Fa q pc (.laload, npc, a0, b0, z0)) (ho : jm_on q.2.2.2.2.2 = q.1.cls)
    (hs : jm_stp xs L E (.laload, npc, a0, b0, z0) pc ls st H = some (.inl cf)) (G' : jm_G p l e R s m args below meth c Q dC dI dA base b q n0 s0 cf) : jm_G p l e R s m args below meth c Q dC dI dA base b q n0 s0 (pc, ls, st, H) := by
  obtain ⟨hx, hb, hml, hown, hts, hXw, hK, hXs, hbb, hbs, hmn⟩ := C
  obtain ⟨hd, hn, hk, hsd⟩ := hF
  have hw : ∀ k9 : jm_K, jm_need (.laload, npc, a0, b0, z0) = some k9 → ∀ w ∈ jm_lw q.2.2.2.2.2 k9, w.before args s = true := fun k9 h w hw => jm_word hts hXw (hk k9 h) hw
  rw [← ho] at hown
  simp only [jm_stp] at hs
  have hn : npc = pc + 1 := hn
  subst hn
  split at hs
  · rename_i i a r
    split at hs
    · rename_i hc
      have hcf := jm_nx_inj hs
      subst hcf
      intro Hc locs arr cells slots hR hS hl h1 h2
      exact va_lald hx hb hK hR.1 a 1 (jm_lar hc.1) rfl (jm_vin hc.2.1 hc.2.2) hd (G' Hc locs arr cells slots hR hS hl h1 h2)
    · cases hs
  · cases hs
set_option maxHeartbeats 4000000 in
theorem jm_s_aald (C : jm_Cx p s m args meth c dC dI dA base b L xs q) (hF : jm_Fa q pc (.aaload, npc, a0, b0, z0)) (ho : jm_on q.2.2.2.2.2 = q.1.cls)
    (hs : jm_stp xs L E (.aaload, npc, a0, b0, z0) pc ls st H = some (.inl cf)) (G' : jm_G p l e R s m args below meth c Q dC dI dA base b q n0 s0 cf) : jm_G p l e R s m args below meth c Q dC dI dA base b q n0 s0 (pc, ls, st, H) := by
  obtain ⟨hx, hb, hml, hown, hts, hXw, hK, hXs, hbb, hbs, hmn⟩ := C
  obtain ⟨hd, hn, hk, hsd⟩ := hF
  have hw : ∀ k9 : jm_K, jm_need (.aaload, npc, a0, b0, z0) = some k9 → ∀ w ∈ jm_lw q.2.2.2.2.2 k9, w.before args s = true := fun k9 h w hw => jm_word hts hXw (hk k9 h) hw
  rw [← ho] at hown
  simp only [jm_stp] at hs
  have hn : npc = pc + 1 := hn
  subst hn
  split at hs
  · rename_i i a r
    split at hs
    · rename_i hc
      have hcf := jm_nx_inj hs
      subst hcf
      intro Hc locs arr cells slots hR hS hl h1 h2
      obtain ⟨⟨hc1, hc2⟩, hc3, hc4⟩ := hc
      have hin := jm_vin hc3 hc4
      have G2 := G' Hc locs arr cells slots hR hS hl h1 h2
      simp only [List.map_cons, jm_cvr] at G2
      have hP := hR.1 a _ (jm_rar hc1 hc2)
      have hty : ∃ ty : FieldType, (jm_tys dA)[jm_kd H a - 1]? = some (dA (jm_kd H a - 1), ty) ∧ ty.isReference = true := by
        rcases (show jm_kd H a = 3 ∨ jm_kd H a = 4 ∨ jm_kd H a = 5 ∨ jm_kd H a = 6 by omega) with h9 | h9 | h9 | h9 <;> rw [h9] <;> exact ⟨_, rfl, rfl⟩
      obtain ⟨ty, ht, hrt⟩ := hty
      exact W.aald (v := va_rf ((jm_rf H a i.toNatClampNeg).map (base + ·))) (ty := ty) hx hb hP ((hK.2 _ _ ht).1 (jm_ln H a) (fun j => va_rf ((jm_rf H a j).map (base + ·)))) hrt (fun h => by cases h) (by show ¬ (i < 0 ∨ (arrV _ _ _).slots.size ≤ _); rw [arrV_size]; exact hin) (by show (arrV _ _ _).slots[_]? = _; rw [arrV_read _ _ hc4]) rfl rfl hd G2
    · cases hs
  · cases hs
set_option maxHeartbeats 4000000 in
theorem jm_s_iast (C : jm_Cx p s m args meth c dC dI dA base b L xs q) (hF : jm_Fa q pc (.iastore, npc, a0, b0, z0)) (ho : jm_on q.2.2.2.2.2 = q.1.cls) (hn0 : s.heap.size = base + n0)
    (hs : jm_stp xs L E (.iastore, npc, a0, b0, z0) pc ls st H = some (.inl cf)) (G' : jm_G p l e R s m args below meth c Q dC dI dA base b q n0 s0 cf) : jm_G p l e R s m args below meth c Q dC dI dA base b q n0 s0 (pc, ls, st, H) := by
  obtain ⟨hx, hb, hml, hown, hts, hXw, hK, hXs, hbb, hbs, hmn⟩ := C
  obtain ⟨hd, hn, hk, hsd⟩ := hF
  have hw : ∀ k9 : jm_K, jm_need (.iastore, npc, a0, b0, z0) = some k9 → ∀ w ∈ jm_lw q.2.2.2.2.2 k9, w.before args s = true := fun k9 h w hw => jm_word hts hXw (hk k9 h) hw
  rw [← ho] at hown
  simp only [jm_stp] at hs
  have hn : npc = pc + 1 := hn
  subst hn
  split at hs
  · rename_i v i a r
    split at hs
    · rename_i hc
      have hcf := jm_nx_inj hs
      subst hcf
      intro Hc locs arr cells slots hR hS hl h1 h2
      have hD := jm_ws_D (dA := dA) (base := base) (H := H) (jm_A base) (fun _ h => h)
      have ha : a < H.1.length := jm_kd_lt (by omega)
      refine va_iast hx hb hK hR.1 hD hS a 0 (jm_iar hc.1) rfl (jm_vin hc.2.1 hc.2.2) hd (fun H1 locs1 hP1 hD1 hS1 => ?_)
      refine jm_size fun hz => ?_
      refine G' H1 locs1 arr cells slots (jm_Rl_set hR rfl (fun j hj => jm_at_congr rfl (jm_up_ne hj) rfl) ?_ hP1 ha hn0 h1 hz) hS1 hl h1 h2
      unfold jm_at
      show (base + a, jm_cell dA base (jm_kd H a) (jm_ln H a) (jm_rf H a) (jm_up H.2.1 a i.toNatClampNeg v a) (H.2.2 a)) = _
      unfold jm_cell
      rw [hc.1, if_pos rfl, jm_up_eq]
      rfl
    · cases hs
  · cases hs
set_option maxHeartbeats 4000000 in
theorem jm_s_last (C : jm_Cx p s m args meth c dC dI dA base b L xs q) (hF : jm_Fa q pc (.lastore, npc, a0, b0, z0)) (ho : jm_on q.2.2.2.2.2 = q.1.cls) (hn0 : s.heap.size = base + n0)
    (hs : jm_stp xs L E (.lastore, npc, a0, b0, z0) pc ls st H = some (.inl cf)) (G' : jm_G p l e R s m args below meth c Q dC dI dA base b q n0 s0 cf) : jm_G p l e R s m args below meth c Q dC dI dA base b q n0 s0 (pc, ls, st, H) := by
  obtain ⟨hx, hb, hml, hown, hts, hXw, hK, hXs, hbb, hbs, hmn⟩ := C
  obtain ⟨hd, hn, hk, hsd⟩ := hF
  have hw : ∀ k9 : jm_K, jm_need (.lastore, npc, a0, b0, z0) = some k9 → ∀ w ∈ jm_lw q.2.2.2.2.2 k9, w.before args s = true := fun k9 h w hw => jm_word hts hXw (hk k9 h) hw
  rw [← ho] at hown
  simp only [jm_stp] at hs
  have hn : npc = pc + 1 := hn
  subst hn
  split at hs
  · rename_i v i a r
    split at hs
    · rename_i hc
      have hcf := jm_nx_inj hs
      subst hcf
      intro Hc locs arr cells slots hR hS hl h1 h2
      have hD := jm_ws_D (dA := dA) (base := base) (H := H) (jm_A base) (fun _ h => h)
      have ha : a < H.1.length := jm_kd_lt (by omega)
      refine va_last hx hb hK hR.1 hD hS a 1 (jm_lar hc.1) rfl (jm_vin hc.2.1 hc.2.2) hd (fun H1 locs1 hP1 hD1 hS1 => ?_)
      refine jm_size fun hz => ?_
      refine G' H1 locs1 arr cells slots (jm_Rl_set hR rfl (fun j hj => jm_at_congr rfl rfl (jm_up_ne hj)) ?_ hP1 ha hn0 h1 hz) hS1 hl h1 h2
      unfold jm_at
      show (base + a, jm_cell dA base (jm_kd H a) (jm_ln H a) (jm_rf H a) (H.2.1 a) (jm_up H.2.2 a i.toNatClampNeg v a)) = _
      unfold jm_cell
      rw [hc.1, if_neg (by omega), if_pos rfl, jm_up_eq]
      rfl
    · cases hs
  · cases hs
set_option maxHeartbeats 4000000 in
theorem jm_s_aast (C : jm_Cx p s m args meth c dC dI dA base b L xs q) (hF : jm_Fa q pc (.aastore, npc, a0, b0, z0)) (ho : jm_on q.2.2.2.2.2 = q.1.cls) (hn0 : s.heap.size = base + n0)
    (hs : jm_stp xs L E (.aastore, npc, a0, b0, z0) pc ls st H = some (.inl cf)) (G' : jm_G p l e R s m args below meth c Q dC dI dA base b q n0 s0 cf) : jm_G p l e R s m args below meth c Q dC dI dA base b q n0 s0 (pc, ls, st, H) := by
  obtain ⟨hx, hb, hml, hown, hts, hXw, hK, hXs, hbb, hbs, hmn⟩ := C
  obtain ⟨hd, hn, hk, hsd⟩ := hF
  have hw : ∀ k9 : jm_K, jm_need (.aastore, npc, a0, b0, z0) = some k9 → ∀ w ∈ jm_lw q.2.2.2.2.2 k9, w.before args s = true := fun k9 h w hw => jm_word hts hXw (hk k9 h) hw
  rw [← ho] at hown
  simp only [jm_stp] at hs
  have hn : npc = pc + 1 := hn
  subst hn
  split at hs
  · rename_i v i a r
    split at hs
    · rename_i hc
      have hcf := jm_nx_inj hs
      subst hcf
      intro Hc locs arr cells slots hR hS hl h1 h2
      have hD := jm_ws_D (dA := dA) (base := base) (H := H) (jm_A base) (fun _ h => h)
      have ha : a < H.1.length := jm_kd_lt (by omega)
      obtain ⟨⟨hc1, hc2⟩, hc3, hc4, hc5⟩ := hc
      have kk : ∀ (H1 : Heap) (locs1 : List Loc), va_P (dC, dI) jm_cl ((jm_ws dA base H).set a (base + a, .inl (dA (jm_kd H a - 1), jm_ln H a, .inr (.inr (.inr (.inr (va_up (fun j => (jm_rf H a j).map (base + ·)) i.toNatClampNeg (some (base + v))))))))) H1 → va_D (jm_A base) ((jm_ws dA base H).set a (base + a, .inl (dA (jm_kd H a - 1), jm_ln H a, .inr (.inr (.inr (.inr (va_up (fun j => (jm_rf H a j).map (base + ·)) i.toNatClampNeg (some (base + v))))))))) → va_S (jm_A base) s.heap H1 locs1 → W p l e R s m args below meth c H1 locs1 cells slots Q (F0 m (pc + 1) arr (r.map (jm_cv base b))) := by
        intro H1 locs1 hP1 hD1 hS1
        refine jm_size fun hz => ?_
        refine G' H1 locs1 arr cells slots (jm_Rl_set hR (List.length_set ..) (fun j hj => jm_at_congr (jm_rset_ne hj) rfl rfl) ?_ hP1 ha hn0 h1 hz) hS1 hl (h1.trans (List.length_set ..).symm) (h2.trans jm_sl_set.symm)
        obtain ⟨e1, e2, e3⟩ := jm_rset_at (H := H) (v := v) (k := i.toNatClampNeg) ha
        unfold jm_at
        rw [e1, e2, e3]
        unfold jm_cell
        rw [if_neg (by omega), if_neg (by omega), if_pos (by omega)]
        congr 8
        funext j
        unfold va_up
        by_cases hj : j = i.toNatClampNeg
        · simp only [if_pos hj, Option.map]
        · simp only [if_neg hj]
      have hin := jm_vin hc3 hc4
      rcases (show jm_kd H a = 3 ∨ jm_kd H a = 4 ∨ jm_kd H a = 5 by omega) with h9 | h9 | h9
      · have hc5 : jm_kd H v = 10 + 5 := by rw [hc5, h9]; rfl
        exact va_astq hx hb hK hR.1 hD hS a (jm_kd H a - 1) v 5 (jm_rar hc1 (Nat.le_trans hc2 (by decide))) (by rw [h9]; rfl) (jm_obj hc5) (jm_clg (by omega)) hin hd kk
      · have hc5 : jm_kd H v = 10 + 0 := by rw [hc5, h9]; rfl
        exact va_astq hx hb hK hR.1 hD hS a (jm_kd H a - 1) v 0 (jm_rar hc1 (Nat.le_trans hc2 (by decide))) (by rw [h9]; rfl) (jm_obj hc5) (jm_clg (by omega)) hin hd kk
      · have hc5 : jm_kd H v = 10 + 6 := by rw [hc5, h9]; rfl
        exact va_astq hx hb hK hR.1 hD hS a (jm_kd H a - 1) v 6 (jm_rar hc1 (Nat.le_trans hc2 (by decide))) (by rw [h9]; rfl) (jm_obj hc5) (jm_clg (by omega)) hin hd kk
    · cases hs
  · cases hs
end JMY
end
section
section JMY
variable {p : Program} {l : Launch} {e : Env} {R : Room} {s : State} {m : MethodId} {args : Array Value} {below : List Frame} {meth : Method} {c : Code} {Q : State → Prop}
variable {dC : Nat → ClassId} {dI : Nat → Nat → Nat} {dA : Nat → ClassId} {base b L : Nat} {xs : Nat → Int32} {q : jm_M} {n0 s0 : Nat}
variable {pc npc a0 b0 : Nat} {z0 : Int} {ls : jm_L} {st : List Value} {H : jm_H} {cf : jm_C} {E : jm_E}
theorem jm_new_len {H : jm_H} {x : jm_S} : (jm_new H x).1.length = H.1.length + 1 := by simp [jm_new]
theorem jm_new_sl {H : jm_H} {x : jm_S} : jm_sl (jm_new H x) = jm_sl H + x.2.1 := by simp [jm_new, jm_sl]
theorem jm_isr_ty {ci k : Nat} (h : ci < 11) (hk : k < jm_N ci) : defaultValue (jm_ty ci k) = if jm_isr ci k then .null else .int 0 := by
  have key : ((List.range 11).all fun ci => (List.range (jm_N ci)).all fun k => decide (defaultValue (jm_ty ci k) = if jm_isr ci k then .null else .int 0)) = true := by decide +kernel
  exact of_decide_eq_true (List.all_eq_true.mp (List.all_eq_true.mp key ci (List.mem_range.mpr h)) k (List.mem_range.mpr hk))
set_option maxHeartbeats 4000000 in
theorem jm_s_newo {ix : Nat} (C : jm_Cx p s m args meth c dC dI dA base b L xs q) (hF : jm_Fa q pc (.new ix, npc, a0, b0, z0)) (ho : jm_on q.2.2.2.2.2 = q.1.cls) (hn0 : s.heap.size = base + n0) (hroom : cf.2.2.2.1.length ≤ n0 + R.cells ∧ jm_sl cf.2.2.2 ≤ s0 + R.slots)
    (hs : jm_stp xs L E (.new ix, npc, a0, b0, z0) pc ls st H = some (.inl cf)) (G' : jm_G p l e R s m args below meth c Q dC dI dA base b q n0 s0 cf) : jm_G p l e R s m args below meth c Q dC dI dA base b q n0 s0 (pc, ls, st, H) := by
  obtain ⟨hx, hb, hml, hown, hts, hXw, hK, hXs, hbb, hbs, hmn⟩ := C
  obtain ⟨hd, hn, hk, hsd⟩ := hF
  have hw : ∀ k9 : jm_K, jm_need (.new ix, npc, a0, b0, z0) = some k9 → ∀ w ∈ jm_lw q.2.2.2.2.2 k9, w.before args s = true := fun k9 h w hw => jm_word hts hXw (hk k9 h) hw
  rw [← ho] at hown
  simp only [jm_stp] at hs
  have hn : npc = pc + 3 := hn
  subst hn
  have hlk := jm_lkok (hk _ rfl)
  simp only [jm_lok, Bool.and_eq_true, decide_eq_true_eq] at hlk
  obtain ⟨hci, hkb⟩ := hlk
  have hb0 : b0 = jm_N a0 := hkb
  subst hb0
  have w1 : (Cond.classLink (jm_on q.2.2.2.2.2) ix (jm_R a0)).before args s = true := hw _ rfl _ (by simp [jm_lw])
  have w2 : (Cond.instantiable (jm_R a0) (jm_N a0)).before args s = true := hw _ rfl _ (by simp [jm_lw])
  have w3 : (Cond.initialized (jm_R a0)).before args s = true := hw _ rfl _ (by simp [jm_lw])
  have hcf := jm_nx_inj hs
  subst hcf
  intro Hc locs arr cells slots hR hS hl h1 h2
  have hD := jm_ws_D (dA := dA) (base := base) (H := H) (jm_A base) (fun _ h => h)
  have r1 : cells + 1 ≤ R.cells := by
    have := hroom.1
    rw [show (pc + 3, ls, Value.ref H.1.length :: st, jm_new H (10 + a0, jm_N a0, fun _ => none)).2.2.2.1.length = H.1.length + 1 from jm_new_len] at this
    have h1' : cells + n0 = H.1.length := h1
    omega
  have r2 : slots + jm_N a0 ≤ R.slots := by
    have := hroom.2
    rw [show jm_sl (pc + 3, ls, Value.ref H.1.length :: st, jm_new H (10 + a0, jm_N a0, fun _ => none)).2.2.2 = jm_sl H + jm_N a0 from jm_new_sl] at this
    have h2' : slots + s0 = jm_sl H := h2
    omega
  refine va_new hx hb hts (jm_lay hci) (jm_ty a0) (jm_tok hci) hown w1 w2 w3 hK hR.1 hD hS (fun q h => jm_inA hbs h) (jm_clg hci) (fs := (List.range (jm_N a0)).map (jm_fd base a0 (fun _ => none) (fun _ => 0))) (fun j hj => ?_) r1 r2 hd (fun q1 H1 hP1 hD1 hS1 => ?_)
  · rw [jm_isr_ty hci hj]
    unfold vp_V
    rw [List.getD_eq_getElem?_getD, jm_fdg hj]
    show _ = jm_fd base a0 (fun _ => none) (fun _ => 0) j
    unfold jm_fd
    split <;> rfl
  · refine jm_size fun hz => ?_
    have hcell : jm_cell dA base (10 + a0) (jm_N a0) (fun _ => none) (fun _ => 0) (fun _ => 0) = .inr (a0, (List.range (jm_N a0)).map (jm_fd base a0 (fun _ => none) (fun _ => 0))) := by
      unfold jm_cell
      rw [if_neg (by omega), if_neg (by omega), if_neg (by omega), Nat.add_sub_cancel_left]
    obtain ⟨hq, hR1⟩ := jm_Rl_push (x := (10 + a0, jm_N a0, fun _ => none)) (A := jm_A base) (fun z h => h) (by rw [hcell]; exact hP1) (by rw [hcell]; exact hD1) hn0 h1 hz
    subst hq
    exact G' H1 locs arr (cells + 1) (slots + jm_N a0) hR1 hS1 hl (by rw [show (pc + 3, ls, Value.ref H.1.length :: st, jm_new H (10 + a0, jm_N a0, fun _ => none)).2.2.2.1.length = H.1.length + 1 from jm_new_len]; have h1' : cells + n0 = H.1.length := h1; omega) (by rw [show jm_sl (pc + 3, ls, Value.ref H.1.length :: st, jm_new H (10 + a0, jm_N a0, fun _ => none)).2.2.2 = jm_sl H + jm_N a0 from jm_new_sl]; have h2' : slots + s0 = jm_sl H := h2; omega)
theorem jm_acint : Cond.arrayClass .int ∈ jm_TW := List.mem_filter.mpr ⟨by decide +kernel, rfl⟩
theorem jm_aclong : Cond.arrayClass .long ∈ jm_TW := List.mem_filter.mpr ⟨by decide +kernel, rfl⟩
theorem jm_nneg {n : Int32} (h : 0 ≤ n) : ¬ n < 0 := by
  rw [Int32.le_iff_toInt_le] at h
  rw [Int32.lt_iff_toInt_lt]
  omega
set_option maxHeartbeats 4000000 in
theorem jm_s_newa {tt : ArrayType} (C : jm_Cx p s m args meth c dC dI dA base b L xs q) (hF : jm_Fa q pc (.newarray tt, npc, a0, b0, z0)) (ho : jm_on q.2.2.2.2.2 = q.1.cls) (hn0 : s.heap.size = base + n0) (hroom : cf.2.2.2.1.length ≤ n0 + R.cells ∧ jm_sl cf.2.2.2 ≤ s0 + R.slots)
    (hs : jm_stp xs L E (.newarray tt, npc, a0, b0, z0) pc ls st H = some (.inl cf)) (G' : jm_G p l e R s m args below meth c Q dC dI dA base b q n0 s0 cf) : jm_G p l e R s m args below meth c Q dC dI dA base b q n0 s0 (pc, ls, st, H) := by
  obtain ⟨hx, hb, hml, hown, hts, hXw, hK, hXs, hbb, hbs, hmn⟩ := C
  obtain ⟨hd, hn, hk, hsd⟩ := hF
  have hw : ∀ k9 : jm_K, jm_need (.newarray tt, npc, a0, b0, z0) = some k9 → ∀ w ∈ jm_lw q.2.2.2.2.2 k9, w.before args s = true := fun k9 h w hw => jm_word hts hXw (hk k9 h) hw
  rw [← ho] at hown
  simp only [jm_stp] at hs
  have hn : npc = pc + 2 := hn
  subst hn
  split at hs
  · rename_i n r
    split at hs
    · rename_i hc
      obtain ⟨hc1, hc2⟩ := hc
      have hneg := jm_nneg hc1
      cases tt
      case int =>
        have hcf := jm_nx_inj hs
        subst hcf
        intro Hc locs arr cells slots hR hS hl h1 h2
        have hD := jm_ws_D (dA := dA) (base := base) (H := H) (jm_A base) (fun _ h => h)
        have r1 : cells + 1 ≤ R.cells := by
          have := hroom.1
          rw [show (pc + 2, ls, Value.ref H.1.length :: r, jm_new H (1, n.toNatClampNeg, fun _ => none)).2.2.2.1.length = H.1.length + 1 from jm_new_len] at this
          have h1' : cells + n0 = H.1.length := h1
          omega
        have r2 : slots + n.toNatClampNeg ≤ R.slots := by
          have := hroom.2
          rw [show jm_sl (pc + 2, ls, Value.ref H.1.length :: r, jm_new H (1, n.toNatClampNeg, fun _ => none)).2.2.2 = jm_sl H + n.toNatClampNeg from jm_new_sl] at this
          have h2' : slots + s0 = jm_sl H := h2
          omega
        refine va_newa (atype := .int) (ty := .int) (N' := n.toNatClampNeg) hx hb (hts (.arrayClass .int) jm_acint) rfl hK hR.1 hD hS (fun q h => jm_inA hbs h) (a0 := (n.toNatClampNeg, .inl (fun _ => 0))) (fun _ => rfl) hneg rfl (by show n.toNatClampNeg * 4 ≤ _; omega) r1 r2 hd (fun q1 cA H1 hK1 hP1 hD1 hS1 => ?_)
        refine jm_size fun hz => ?_
        have hcA : cA = dA 0 := by
          have e1 := (hK1.2 6 (cA, .int) rfl).2
          have e2 := (hK1.2 0 (dA 0, .int) rfl).2
          exact Option.some.inj (e1.symm.trans e2)
        subst hcA
        obtain ⟨hq, hR1⟩ := jm_Rl_push (x := (1, n.toNatClampNeg, fun _ => none)) (A := jm_A base) (fun z h => h) hP1 hD1 hn0 h1 hz
        subst hq
        exact G' H1 locs arr (cells + 1) (slots + n.toNatClampNeg) hR1 hS1 hl (by rw [show (pc + 2, ls, Value.ref H.1.length :: r, jm_new H (1, n.toNatClampNeg, fun _ => none)).2.2.2.1.length = H.1.length + 1 from jm_new_len]; have h1' : cells + n0 = H.1.length := h1; omega) (by rw [show jm_sl (pc + 2, ls, Value.ref H.1.length :: r, jm_new H (1, n.toNatClampNeg, fun _ => none)).2.2.2 = jm_sl H + n.toNatClampNeg from jm_new_sl]; have h2' : slots + s0 = jm_sl H := h2; omega)
      case long =>
        have hcf := jm_nx_inj hs
        subst hcf
        intro Hc locs arr cells slots hR hS hl h1 h2
        have hD := jm_ws_D (dA := dA) (base := base) (H := H) (jm_A base) (fun _ h => h)
        have r1 : cells + 1 ≤ R.cells := by
          have := hroom.1
          rw [show (pc + 2, ls, Value.ref H.1.length :: r, jm_new H (2, n.toNatClampNeg, fun _ => none)).2.2.2.1.length = H.1.length + 1 from jm_new_len] at this
          have h1' : cells + n0 = H.1.length := h1
          omega
        have r2 : slots + n.toNatClampNeg ≤ R.slots := by
          have := hroom.2
          rw [show jm_sl (pc + 2, ls, Value.ref H.1.length :: r, jm_new H (2, n.toNatClampNeg, fun _ => none)).2.2.2 = jm_sl H + n.toNatClampNeg from jm_new_sl] at this
          have h2' : slots + s0 = jm_sl H := h2
          omega
        refine va_newa (atype := .long) (ty := .long) (N' := n.toNatClampNeg) hx hb (hts (.arrayClass .long) jm_aclong) rfl hK hR.1 hD hS (fun q h => jm_inA hbs h) (a0 := (n.toNatClampNeg, .inr (.inl (fun _ => 0)))) (fun _ => rfl) hneg rfl (by show n.toNatClampNeg * 8 ≤ _; omega) r1 r2 hd (fun q1 cA H1 hK1 hP1 hD1 hS1 => ?_)
        refine jm_size fun hz => ?_
        have hcA : cA = dA 1 := by
          have e1 := (hK1.2 6 (cA, .long) rfl).2
          have e2 := (hK1.2 1 (dA 1, .long) rfl).2
          exact Option.some.inj (e1.symm.trans e2)
        subst hcA
        obtain ⟨hq, hR1⟩ := jm_Rl_push (x := (2, n.toNatClampNeg, fun _ => none)) (A := jm_A base) (fun z h => h) hP1 hD1 hn0 h1 hz
        subst hq
        exact G' H1 locs arr (cells + 1) (slots + n.toNatClampNeg) hR1 hS1 hl (by rw [show (pc + 2, ls, Value.ref H.1.length :: r, jm_new H (2, n.toNatClampNeg, fun _ => none)).2.2.2.1.length = H.1.length + 1 from jm_new_len]; have h1' : cells + n0 = H.1.length := h1; omega) (by rw [show jm_sl (pc + 2, ls, Value.ref H.1.length :: r, jm_new H (2, n.toNatClampNeg, fun _ => none)).2.2.2 = jm_sl H + n.toNatClampNeg from jm_new_sl]; have h2' : slots + s0 = jm_sl H := h2; omega)
      all_goals cases hs
    · cases hs
  · cases hs
end JMY
end
section
section JMY
variable {p : Program} {l : Launch} {e : Env} {R : Room} {s : State} {m : MethodId} {args : Array Value} {below : List Frame} {meth : Method} {c : Code} {Q : State → Prop}
variable {dC : Nat → ClassId} {dI : Nat → Nat → Nat} {dA : Nat → ClassId} {base b L : Nat} {xs : Nat → Int32} {q : jm_M} {n0 s0 : Nat}
variable {pc npc a0 b0 : Nat} {z0 : Int} {ls : jm_L} {st : List Value} {H : jm_H} {cf : jm_C} {E : jm_E}
set_option maxHeartbeats 4000000 in
theorem jm_s_anewa {ix : Nat} (C : jm_Cx p s m args meth c dC dI dA base b L xs q) (hF : jm_Fa q pc (.anewarray ix, npc, a0, b0, z0)) (ho : jm_on q.2.2.2.2.2 = q.1.cls) (hn0 : s.heap.size = base + n0) (hroom : cf.2.2.2.1.length ≤ n0 + R.cells ∧ jm_sl cf.2.2.2 ≤ s0 + R.slots)
    (hs : jm_stp xs L E (.anewarray ix, npc, a0, b0, z0) pc ls st H = some (.inl cf)) (G' : jm_G p l e R s m args below meth c Q dC dI dA base b q n0 s0 cf) : jm_G p l e R s m args below meth c Q dC dI dA base b q n0 s0 (pc, ls, st, H) := by
  obtain ⟨hx, hb, hml, hown, hts, hXw, hK, hXs, hbb, hbs, hmn⟩ := C
  obtain ⟨hd, hn, hk, hsd⟩ := hF
  have hw : ∀ k9 : jm_K, jm_need (.anewarray ix, npc, a0, b0, z0) = some k9 → ∀ w ∈ jm_lw q.2.2.2.2.2 k9, w.before args s = true := fun k9 h w hw => jm_word hts hXw (hk k9 h) hw
  rw [← ho] at hown
  simp only [jm_stp] at hs
  have hn : npc = pc + 3 := hn
  subst hn
  split at hs
  · rename_i n r
    split at hs
    · rename_i hc
      obtain ⟨hc1, hc2, hc3⟩ := hc
      have hc3 : a0 ≤ 2 := hc3
      have hneg := jm_nneg hc1
      have hcf := jm_nx_inj hs
      subst hcf
      intro Hc locs arr cells slots hR hS hl h1 h2
      have hD := jm_ws_D (dA := dA) (base := base) (H := H) (jm_A base) (fun _ h => h)
      have r1 : cells + 1 ≤ R.cells := by
        have := hroom.1
        rw [show (pc + 3, ls, Value.ref H.1.length :: r, jm_new H (3 + a0, n.toNatClampNeg, fun _ => none)).2.2.2.1.length = H.1.length + 1 from jm_new_len] at this
        have h1' : cells + n0 = H.1.length := h1
        omega
      have r2 : slots + n.toNatClampNeg ≤ R.slots := by
        have := hroom.2
        rw [show jm_sl (pc + 3, ls, Value.ref H.1.length :: r, jm_new H (3 + a0, n.toNatClampNeg, fun _ => none)).2.2.2 = jm_sl H + n.toNatClampNeg from jm_new_sl] at this
        have h2' : slots + s0 = jm_sl H := h2
        omega
      rcases (show a0 = 0 ∨ a0 = 1 ∨ a0 = 2 by omega) with h9 | h9 | h9
      · subst h9
        have w1 : (Cond.classLink (jm_on q.2.2.2.2.2) ix "LeapingPassages$Shelf").before args s = true := hw _ rfl _ (List.mem_cons_self)
        have w2 : (Cond.arrayOver (.object "LeapingPassages$Shelf")).before args s = true := hw _ rfl _ (List.mem_cons_of_mem _ List.mem_cons_self)
        refine va_newq (N' := n.toNatClampNeg) hx hb hown w1 (show va_AO "LeapingPassages$Shelf" s from w2) hK hR.1 hD hS (fun q h => jm_inA hbs h) hneg rfl (by omega) r1 r2 hd (fun q1 cA H1 hK1 hP1 hD1 hS1 => ?_)
        refine jm_size fun hz => ?_
        have hcA : cA = dA 2 := by
          obtain ⟨-, -, -, -, -, e1⟩ := (hK1.2 6 (cA, .object "LeapingPassages$Shelf") rfl).2
          obtain ⟨-, -, -, -, -, e2⟩ := (hK1.2 2 (dA 2, .object "LeapingPassages$Shelf") rfl).2
          exact Option.some.inj (e1.symm.trans e2)
        subst hcA
        obtain ⟨hq, hR1⟩ := jm_Rl_push (x := (3 + 0, n.toNatClampNeg, fun _ => none)) (A := jm_A base) (fun z h => h) hP1 hD1 hn0 h1 hz
        subst hq
        exact G' H1 locs arr (cells + 1) (slots + n.toNatClampNeg) hR1 hS1 hl (by rw [show (pc + 3, ls, Value.ref H.1.length :: r, jm_new H (3 + 0, n.toNatClampNeg, fun _ => none)).2.2.2.1.length = H.1.length + 1 from jm_new_len]; have h1' : cells + n0 = H.1.length := h1; omega) (by rw [show jm_sl (pc + 3, ls, Value.ref H.1.length :: r, jm_new H (3 + 0, n.toNatClampNeg, fun _ => none)).2.2.2 = jm_sl H + n.toNatClampNeg from jm_new_sl]; have h2' : slots + s0 = jm_sl H := h2; omega)
      · subst h9
        have w1 : (Cond.classLink (jm_on q.2.2.2.2.2) ix "LeapingPassages$Ask").before args s = true := hw _ rfl _ (List.mem_cons_self)
        have w2 : (Cond.arrayOver (.object "LeapingPassages$Ask")).before args s = true := hw _ rfl _ (List.mem_cons_of_mem _ List.mem_cons_self)
        refine va_newq (N' := n.toNatClampNeg) hx hb hown w1 (show va_AO "LeapingPassages$Ask" s from w2) hK hR.1 hD hS (fun q h => jm_inA hbs h) hneg rfl (by omega) r1 r2 hd (fun q1 cA H1 hK1 hP1 hD1 hS1 => ?_)
        refine jm_size fun hz => ?_
        have hcA : cA = dA 3 := by
          obtain ⟨-, -, -, -, -, e1⟩ := (hK1.2 6 (cA, .object "LeapingPassages$Ask") rfl).2
          obtain ⟨-, -, -, -, -, e2⟩ := (hK1.2 3 (dA 3, .object "LeapingPassages$Ask") rfl).2
          exact Option.some.inj (e1.symm.trans e2)
        subst hcA
        obtain ⟨hq, hR1⟩ := jm_Rl_push (x := (3 + 1, n.toNatClampNeg, fun _ => none)) (A := jm_A base) (fun z h => h) hP1 hD1 hn0 h1 hz
        subst hq
        exact G' H1 locs arr (cells + 1) (slots + n.toNatClampNeg) hR1 hS1 hl (by rw [show (pc + 3, ls, Value.ref H.1.length :: r, jm_new H (3 + 1, n.toNatClampNeg, fun _ => none)).2.2.2.1.length = H.1.length + 1 from jm_new_len]; have h1' : cells + n0 = H.1.length := h1; omega) (by rw [show jm_sl (pc + 3, ls, Value.ref H.1.length :: r, jm_new H (3 + 1, n.toNatClampNeg, fun _ => none)).2.2.2 = jm_sl H + n.toNatClampNeg from jm_new_sl]; have h2' : slots + s0 = jm_sl H := h2; omega)
      · subst h9
        have w1 : (Cond.classLink (jm_on q.2.2.2.2.2) ix "LeapingPassages$Spans").before args s = true := hw _ rfl _ (List.mem_cons_self)
        have w2 : (Cond.arrayOver (.object "LeapingPassages$Spans")).before args s = true := hw _ rfl _ (List.mem_cons_of_mem _ List.mem_cons_self)
        refine va_newq (N' := n.toNatClampNeg) hx hb hown w1 (show va_AO "LeapingPassages$Spans" s from w2) hK hR.1 hD hS (fun q h => jm_inA hbs h) hneg rfl (by omega) r1 r2 hd (fun q1 cA H1 hK1 hP1 hD1 hS1 => ?_)
        refine jm_size fun hz => ?_
        have hcA : cA = dA 4 := by
          obtain ⟨-, -, -, -, -, e1⟩ := (hK1.2 6 (cA, .object "LeapingPassages$Spans") rfl).2
          obtain ⟨-, -, -, -, -, e2⟩ := (hK1.2 4 (dA 4, .object "LeapingPassages$Spans") rfl).2
          exact Option.some.inj (e1.symm.trans e2)
        subst hcA
        obtain ⟨hq, hR1⟩ := jm_Rl_push (x := (3 + 2, n.toNatClampNeg, fun _ => none)) (A := jm_A base) (fun z h => h) hP1 hD1 hn0 h1 hz
        subst hq
        exact G' H1 locs arr (cells + 1) (slots + n.toNatClampNeg) hR1 hS1 hl (by rw [show (pc + 3, ls, Value.ref H.1.length :: r, jm_new H (3 + 2, n.toNatClampNeg, fun _ => none)).2.2.2.1.length = H.1.length + 1 from jm_new_len]; have h1' : cells + n0 = H.1.length := h1; omega) (by rw [show jm_sl (pc + 3, ls, Value.ref H.1.length :: r, jm_new H (3 + 2, n.toNatClampNeg, fun _ => none)).2.2.2 = jm_sl H + n.toNatClampNeg from jm_new_sl]; have h2' : slots + s0 = jm_sl H := h2; omega)
    · cases hs
  · cases hs
/-- a grid's world behind its making -/
theorem jm_newg_at {H : jm_H} {n k j : Nat} : jm_at dA base (jm_newg H n k) j = if j < H.1.length then jm_at dA base H j else if j = H.1.length then (base + j, .inl (dA 5, n, .inr (.inr (.inr (.inr (fun i => (if i < n then some (H.1.length + 1 + i) else none).map (base + ·))))))) else if j < H.1.length + 1 + n then (base + j, .inl (dA 1, k, .inr (.inl (fun _ => 0)))) else (base + j, jm_cell dA base 0 0 (fun _ => none) (fun _ => 0) (fun _ => 0)) := by
  have hg : (jm_newg H n k).1[j]? = if j < H.1.length then H.1[j]? else if j = H.1.length then some (6, n, fun i => if i < n then some (H.1.length + 1 + i) else none) else if j < H.1.length + 1 + n then some (2, k, fun _ => none) else none := by
    unfold jm_newg
    by_cases h1 : j < H.1.length
    · rw [if_pos h1, List.append_assoc, List.getElem?_append_left h1]
    · rw [if_neg h1, List.append_assoc, List.getElem?_append_right (by omega)]
      by_cases h2 : j = H.1.length
      · rw [if_pos h2, h2, Nat.sub_self]
        rfl
      · rw [if_neg h2, List.getElem?_append_right (by simp; omega), List.getElem?_replicate]
        by_cases h3 : j < H.1.length + 1 + n
        · rw [if_pos h3, if_pos (by simp; omega)]
        · rw [if_neg h3, if_neg (by simp; omega)]
  unfold jm_at jm_kd jm_ln jm_rf
  rw [hg]
  by_cases h1 : j < H.1.length
  · simp only [if_pos h1]
    have e1 : (jm_newg H n k).2.1 j = H.2.1 j := by simp [jm_newg, Nat.not_le.mpr h1]
    have e2 : (jm_newg H n k).2.2 j = H.2.2 j := by simp [jm_newg, Nat.not_le.mpr h1]
    rw [e1, e2]
  · have e1 : (jm_newg H n k).2.1 j = fun _ => 0 := by simp [jm_newg, Nat.not_lt.mp h1]
    have e2 : (jm_newg H n k).2.2 j = fun _ => 0 := by simp [jm_newg, Nat.not_lt.mp h1]
    rw [e1, e2]
    by_cases h2 : j = H.1.length
    · simp only [if_neg h1, if_pos h2]
      rfl
    · by_cases h3 : j < H.1.length + 1 + n
      · simp only [if_neg h1, if_neg h2, if_pos h3]
        rfl
      · simp only [if_neg h1, if_neg h2, if_neg h3]
theorem jm_newg_len {H : jm_H} {n k : Nat} : (jm_newg H n k).1.length = H.1.length + 1 + n := by
  simp [jm_newg]
  omega
theorem jm_newg_sl {H : jm_H} {n k : Nat} : jm_sl (jm_newg H n k) = jm_sl H + n + n * k := by
  simp [jm_newg, jm_sl]
  omega
theorem jm_outer (c : ClassId) (N h0 : Nat) : ∀ i : Nat, Jvm.Free.Multi.outerC c N h0 i = arrV c N (fun j => va_rf (if j < i then some (h0 + 1 + j) else none))
  | 0 => by
    show ({ cls := c, slots := Array.replicate N .null, vm := .none } : Cell) = _
    rw [arrV_new]
    refine congrArg (arrV c N) (funext fun j => ?_)
    simp [va_rf]
  | i + 1 => by
    show (Jvm.Free.Multi.outerC c N h0 i).setSlot i (.ref (h0 + 1 + i)) = _
    rw [jm_outer c N h0 i, arrV_store]
    refine congrArg (arrV c N) (funext fun j => ?_)
    by_cases e : j = i
    · subst e
      simp [updV, va_rf]
    · by_cases h : j < i
      · simp [updV, e, h, Nat.lt_succ_of_lt h]
      · simp [updV, e, h, show ¬ j < i + 1 by omega]
set_option maxHeartbeats 4000000 in
theorem jm_s_mnewa {ix dm : Nat} (C : jm_Cx p s m args meth c dC dI dA base b L xs q) (hF : jm_Fa q pc (.multianewarray ix dm, npc, a0, b0, z0)) (ho : jm_on q.2.2.2.2.2 = q.1.cls) (hn0 : s.heap.size = base + n0) (hroom : cf.2.2.2.1.length ≤ n0 + R.cells ∧ jm_sl cf.2.2.2 ≤ s0 + R.slots)
    (hs : jm_stp xs L E (.multianewarray ix dm, npc, a0, b0, z0) pc ls st H = some (.inl cf)) (G' : jm_G p l e R s m args below meth c Q dC dI dA base b q n0 s0 cf) : jm_G p l e R s m args below meth c Q dC dI dA base b q n0 s0 (pc, ls, st, H) := by
  obtain ⟨hx, hb, hml, hown, hts, hXw, hK, hXs, hbb, hbs, hmn⟩ := C
  obtain ⟨hd, hn, hk, hsd⟩ := hF
  have hw : ∀ k9 : jm_K, jm_need (.multianewarray ix dm, npc, a0, b0, z0) = some k9 → ∀ w ∈ jm_lw q.2.2.2.2.2 k9, w.before args s = true := fun k9 h w hw => jm_word hts hXw (hk k9 h) hw
  rw [← ho] at hown
  simp only [jm_stp] at hs
  have hn : npc = pc + 4 := hn
  subst hn
  have hdm : dm = 2 := eq_of_beq (show (dm == 2) = true from hsd)
  subst hdm
  have w1 : (Cond.classLink (jm_on q.2.2.2.2.2) ix "[[J").before args s = true := hw _ rfl _ List.mem_cons_self
  have w2 : (Cond.arrayOver (.array .long)).before args s = true := hw _ rfl _ (List.mem_cons_of_mem _ List.mem_cons_self)
  have w3 : (Cond.arrayClass .long).before args s = true := hw _ rfl _ (List.mem_cons_of_mem _ (List.mem_cons_of_mem _ List.mem_cons_self))
  split at hs
  · rename_i k n r
    split at hs
    · rename_i hc
      obtain ⟨hc1, hc2, hc3, hc4⟩ := hc
      have hneg := jm_nneg hc1
      have hnek := jm_nneg hc3
      have hcf := jm_nx_inj hs
      subst hcf
      intro Hc locs arr cells slots hR hS hl h1 h2 T hT X
      have h1' : cells + n0 = H.1.length := h1
      have h2' : slots + s0 = jm_sl H := h2
      have r1 : cells + (1 + n.toNatClampNeg) ≤ R.cells := by
        have := hroom.1
        rw [show (pc + 4, ls, Value.ref H.1.length :: r, jm_newg H n.toNatClampNeg k.toNatClampNeg).2.2.2.1.length = H.1.length + 1 + n.toNatClampNeg from jm_newg_len] at this
        omega
      have r2 : slots + (n.toNatClampNeg + n.toNatClampNeg * k.toNatClampNeg) ≤ R.slots := by
        have := hroom.2
        rw [show jm_sl (pc + 4, ls, Value.ref H.1.length :: r, jm_newg H n.toNatClampNeg k.toNatClampNeg).2.2.2 = jm_sl H + n.toNatClampNeg + n.toNatClampNeg * k.toNatClampNeg from jm_newg_sl] at this
        omega
      obtain ⟨vm₁, cA, comp, -, fA, fC, -, -, X', step⟩ := X.multianewarray2F hx (ty := .long) hown w1 w2 w3 (g := F0 m pc arr (.int k :: .int n :: r.map (jm_cv base b))) rfl (by rw [hb]; exact hd) rfl hneg hnek (by omega) (by show k.toNatClampNeg * 8 ≤ _; omega) (by omega) rfl rfl r1 r2
      have e1 : cA = dA 5 := by
        have e2 := (hK.2 5 (dA 5, .array .long) rfl).2
        exact Option.some.inj (fA.symm.trans e2)
      have e3 : comp = dA 1 := by
        have e2 := (hK.2 1 (dA 1, .long) rfl).2
        exact Option.some.inj (fC.symm.trans e2)
      subst e1 e3
      generalize hFl : Jvm.Free.Multi.fill (T.setVm vm₁) (dA 5) (dA 1) n.toNatClampNeg k.toNatClampNeg (defaultValue .long) n.toNatClampNeg = F at X' step
      have hTh : (T.setVm vm₁).heap = Hc := hT
      obtain ⟨f1, f2, -, -⟩ := Jvm.Free.Multi.fill_facts (T.setVm vm₁) (dA 5) (dA 1) n.toNatClampNeg k.toNatClampNeg (defaultValue .long) n.toNatClampNeg
      rw [hFl, hTh] at f1 f2
      have hold : ∀ x : Nat, x < Hc.size → F.heap[x]? = Hc[x]? := fun x hx => by
        have := Jvm.Free.Multi.fill_old (T.setVm vm₁) (dA 5) (dA 1) n.toNatClampNeg k.toNatClampNeg (defaultValue .long) (a := x) (by rw [hTh]; exact hx) n.toNatClampNeg
        rwa [hFl, hTh] at this
      have hrow : ∀ j : Nat, j < n.toNatClampNeg → F.heap[Hc.size + 1 + j]? = some (Jvm.Free.Multi.innerC (dA 1) k.toNatClampNeg (defaultValue .long)) := fun j hj => by
        have := Jvm.Free.Multi.fill_inner (T.setVm vm₁) (dA 5) (dA 1) n.toNatClampNeg k.toNatClampNeg (defaultValue .long) n.toNatClampNeg j hj
        rwa [hFl, hTh] at this
      have hsz : Hc.size = base + H.1.length := hR.2
      have hP' : va_P (dC, dI) jm_cl (jm_ws dA base (jm_newg H n.toNatClampNeg k.toNatClampNeg)) F.heap := by
        intro j x hj
        obtain ⟨hjl, rfl⟩ := jm_ws_inv hj
        rw [jm_newg_len] at hjl
        rw [jm_newg_at]
        by_cases c1 : j < H.1.length
        · rw [if_pos c1]
          have hj0 := hR.1 j _ (jm_ws_get c1)
          exact hj0.kept (hold _ hj0.lt)
        · rw [if_neg c1]
          by_cases c2 : j = H.1.length
          · rw [if_pos c2]
            subst c2
            show F.heap[base + H.1.length]? = some (vp_cell _ _)
            rw [← hsz, f2, vp_cell_q, jm_outer]
            congr 2
            funext i
            by_cases c3 : i < n.toNatClampNeg
            · rw [if_pos c3, if_pos c3, hsz]
              show va_rf (some _) = va_rf (some _)
              congr 2
              show _ = base + (H.1.length + 1 + i)
              omega
            · rw [if_neg c3, if_neg c3]
              rfl
          · rw [if_neg c2, if_pos (by omega)]
            show F.heap[base + j]? = some (vp_cell _ _)
            have := hrow (j - H.1.length - 1) (by omega)
            rw [show Hc.size + 1 + (j - H.1.length - 1) = base + j by omega] at this
            rw [this, vp_cell_l]
            congr 1
            exact arrV_new _ _ _
      have hS' : va_S (jm_A base) s.heap F.heap locs := ⟨by rw [f1]; have := hS.1; omega, fun x g1 g2 => (hold x (Nat.lt_of_lt_of_le g1 hS.1)).trans (hS.2.1 x g1 g2), hS.2.2⟩
      obtain ⟨t, a1, b1⟩ := G' F.heap locs arr (cells + 1 + n.toNatClampNeg) (slots + n.toNatClampNeg + n.toNatClampNeg * k.toNatClampNeg) ⟨hP', by rw [f1, hsz]; show _ = base + (jm_newg H n.toNatClampNeg k.toNatClampNeg).1.length; rw [jm_newg_len]; omega⟩ hS' hl (by show _ = (jm_newg H n.toNatClampNeg k.toNatClampNeg).1.length; rw [jm_newg_len]; omega) (by show _ = jm_sl (jm_newg H n.toNatClampNeg k.toNatClampNeg); rw [jm_newg_sl]; omega) F rfl X'
      refine ⟨t, step t ?_, b1⟩
      have e : T.heap.size = base + H.1.length := by rw [hT]; exact hsz
      rw [e]
      exact a1
    · cases hs
  · cases hs
end JMY
end
section
section JMY
variable {p : Program} {l : Launch} {e : Env} {R : Room} {s : State} {m : MethodId} {args : Array Value} {below : List Frame} {meth : Method} {c : Code} {Q : State → Prop}
variable {dC : Nat → ClassId} {dI : Nat → Nat → Nat} {dA : Nat → ClassId} {base b L : Nat} {xs : Nat → Int32} {q : jm_M} {n0 s0 : Nat}
variable {pc npc a0 b0 : Nat} {z0 : Int} {ls : jm_L} {st : List Value} {H : jm_H} {cf : jm_C} {E : jm_E}
/-- a method's start and end -/
def jm_Pc (dC : Nat → ClassId) (dI : Nat → Nat → Nat) (dA : Nat → ClassId) (base b L : Nat) (xs : Nat → Int32) (H : jm_H) (as : List Value) : Array Value → State → Prop :=
  va_Pc (as.map (jm_cv base b)) (fun U => jm_Rl dC dI dA base H U.heap ∧ va_K (dC, dI) jm_cl (jm_tys dA) U ∧ va_X b L xs U U.heap ∧ jm_X U)
def jm_Qc (dC : Nat → ClassId) (dI : Nat → Nat → Nat) (dA : Nat → ClassId) (base b : Nat) (v : Option Value) (H : jm_H) : Array Value → State → Outcome → State → Prop :=
  fun _ st oc t => oc = .returned (v.map (jm_cv base b)) ∧ jm_Rl dC dI dA base H t.heap ∧ va_F (jm_A base) st t
def jm_rm (d : Nat) (H H' : jm_H) : Room := { frames := d, cells := H'.1.length - H.1.length, slots := jm_sl H' - jm_sl H, locals := 41 * d }
/-- the calls of the small machine are the machine's -/
def jm_Sn (l : Launch) (dC : Nat → ClassId) (dI : Nat → Nat → Nat) (dA : Nat → ClassId) (base b L : Nat) (xs : Nat → Int32) (d : Nat) (E : jm_E) : Prop :=
  ∀ (a : Nat) (r : jm_M) (as : List Value) (H1 : jm_H) (o : jm_O), jm_MT[a]? = some r → plainName r.1.cls = true → E a as H1 = some o → H1.1.length ≤ o.2.1.length ∧ jm_sl H1 ≤ jm_sl o.2 ∧ (b < base → Met l r.1 (jm_wd r) (jm_rm d H1 o.2) (jm_Pc dC dI dA base b L xs H1 as) (jm_Qc dC dI dA base b o.1 o.2) (o.2.1.length - H1.1.length) (jm_sl o.2 - jm_sl H1) (jm_A base))
theorem jm_Pc_blind {as : List Value} : FrameBlind (jm_Pc dC dI dA base b L xs H as) := fun a U g mk hq => by
  obtain ⟨h0, h1, h2, h3, h4⟩ := hq
  exact ⟨h0, h1, va_K.moved (u := U) (U := U.calling g mk a) (Vm.Alike.refl U.vm) h2, va_X.moved (u := U) (U := U.calling g mk a) (Vm.Alike.refl U.vm) h3, jm_X.same (s := U) (U := U.calling g mk a) rfl h4⟩
theorem jm_cont {Hc : Heap} {locs : List Loc} {cells slots mc ms : Nat} {arr : Array Slot} {st0 rest : List Value} {v : Option Value} {H1 : jm_H} {a : Array Value} (hr : va_Run p l e R s m args below meth c Hc locs cells slots mc ms (F0 m pc arr st0) rest (jm_Qc dC dI dA base b v H1 a) (jm_A base)) (hS : va_S (jm_A base) s.heap Hc locs)
    (kk : ∀ (Hc1 : Heap) (locs1 : List Loc), jm_Rl dC dI dA base H1 Hc1 → va_S (jm_A base) s.heap Hc1 locs1 → W p l e R s m args below meth c Hc1 locs1 (cells + mc) (slots + ms) Q (F0 m (pc + 3) arr ((v.map (jm_cv base b)).toList ++ rest))) : W p l e R s m args below meth c Hc locs cells slots Q (F0 m pc arr st0) := by
  intro T hT X
  obtain ⟨v', st₀, t, T', L9, h0, X', hL, e1, e2, ⟨hv, hRl, hz, hk⟩, st⟩ := hr T hT X
  cases hv
  rw [h0] at hz hk
  obtain ⟨t2, a1, b1⟩ := kk T'.heap (locs ++ L9) (by rw [e1]; exact hRl) ⟨Nat.le_trans hS.1 (by rw [e1]; exact hz), fun q h1 h2 => by rw [e1, hk q (Nat.lt_of_lt_of_le h1 hS.1) h2]; exact hS.2.1 q h1 h2, fun q hq => by
      rcases List.mem_append.mp hq with h | h
      · exact hS.2.2 q h
      · exact hL q h⟩ T' rfl X'
  exact ⟨t2, st t2 a1, b1⟩
theorem jm_call_inj {r : List Value} {o : Option jm_O} (h : jm_call npc ls r o = some (.inl cf)) : ∃ x : jm_O, o = some x ∧ cf = (npc, ls, x.1.toList ++ r, x.2) := by
  unfold jm_call at h
  split at h
  · rename_i x
    exact ⟨x, rfl, jm_nx_inj h⟩
  · cases h
theorem jm_code_tw {o : Nat} {k : jm_K} (h : k ∈ jm_LK o) {y : MethodName} {bb : ByteArray} {n : Nat} {t : Option FieldType} (hw : Cond.code y bb n t ∈ jm_lw o k) : Cond.code y bb n t ∈ jm_TW := by
  obtain ⟨h1, h2⟩ := jm_lk_tw h _ hw
  refine List.mem_filter.mpr ⟨h1, ?_⟩
  simpa [jm_xw] using h2
theorem jm_wd_good {r : jm_M} (h : Cond.code r.1 r.2.1 r.2.2.1 r.2.2.2.1 ∈ jm_TW) : GoodIn jm_TW (jm_wd r) := fun w hw => by
  rcases List.mem_cons.mp hw with rfl | hw
  · exact jm_good _ h
  · exact jm_good _ hw
theorem jm_stk {st r : List Value} {n o : Nat} (h : st.drop n = .ref o :: r) : st.map (jm_cv base b) = ((st.take n).reverse.map (jm_cv base b)).reverse ++ .ref (base + o) :: r.map (jm_cv base b) := by
  rw [← List.map_reverse, List.reverse_reverse]
  conv => lhs; rw [← List.take_append_drop n st, h, List.map_append]
  rfl
theorem jm_stkS {st : List Value} {n : Nat} : st.map (jm_cv base b) = ((st.take n).reverse.map (jm_cv base b)).reverse ++ (st.drop n).map (jm_cv base b) := by
  rw [← List.map_reverse, List.reverse_reverse, ← List.map_append, List.take_append_drop]
theorem jm_catc (st : List Value) : ((st.map (jm_cv base b)).map fun v => v.category).sum = jm_cat st := by
  unfold jm_cat
  rw [List.map_map]
  congr 1
  apply List.map_congr_left
  intro v _
  cases v <;> rfl
theorem jm_npe {a : Nat} {r : jm_M} (h : jm_MT[a]? = some r) : jm_np a = r.2.2.2.2.1 := by
  unfold jm_np
  rw [h]
theorem jm_ols (x : Option Value) (r : List Value) : (x.map (jm_cv base b)).toList ++ r.map (jm_cv base b) = (x.toList ++ r).map (jm_cv base b) := by cases x <;> rfl
set_option maxHeartbeats 4000000 in
theorem jm_s_invv {ix d : Nat} (C : jm_Cx p s m args meth c dC dI dA base b L xs q) (hF : jm_Fa q pc (.invokevirtual ix, npc, a0, b0, z0)) (ho : jm_on q.2.2.2.2.2 = q.1.cls) (hbbE : b < base) (hE : jm_Sn l dC dI dA base b L xs d E) (hRf : d + 1 ≤ R.frames ∧ 41 * (d + 1) ≤ R.locals) (hroom : cf.2.2.2.1.length ≤ n0 + R.cells ∧ jm_sl cf.2.2.2 ≤ s0 + R.slots)
    (hs : jm_stp xs L E (.invokevirtual ix, npc, a0, b0, z0) pc ls st H = some (.inl cf)) (G' : jm_G p l e R s m args below meth c Q dC dI dA base b q n0 s0 cf) : jm_G p l e R s m args below meth c Q dC dI dA base b q n0 s0 (pc, ls, st, H) := by
  obtain ⟨hx, hb, hml, hown, hts, hXw, hK, hXs, hbb, hbs, hmn⟩ := C
  obtain ⟨hd, hn, hk, hsd⟩ := hF
  have hw : ∀ k9 : jm_K, jm_need (.invokevirtual ix, npc, a0, b0, z0) = some k9 → ∀ w ∈ jm_lw q.2.2.2.2.2 k9, w.before args s = true := fun k9 h w hw => jm_word hts hXw (hk k9 h) hw
  rw [← ho] at hown
  simp only [jm_stp] at hs
  have hn : npc = pc + 3 := hn
  subst hn
  have hkm := hk _ rfl
  have hlk := jm_lkok hkm
  simp only [jm_lok, Bool.and_eq_true, decide_eq_true_eq] at hlk
  obtain ⟨⟨⟨hz0, hz1⟩, ha⟩, hyy⟩ := hlk
  split at hyy
  · rename_i y hy
    simp only [Bool.and_eq_true, decide_eq_true_eq] at hyy
    obtain ⟨hcn, hpl⟩ := hyy
    have hlw : jm_lw q.2.2.2.2.2 (ix, 1, a0, 0, z0) = [.methodLink (jm_on q.2.2.2.2.2) ix y.1, .instanceMethod y.1, .selects y.1.cls y.1 y.1, .initialized y.1.cls, .code y.1 y.2.1 y.2.2.1 y.2.2.2.1] := by
      unfold jm_lw
      simp only [hy]
    have hww : ∀ w ∈ ([.methodLink (jm_on q.2.2.2.2.2) ix y.1, .instanceMethod y.1, .selects y.1.cls y.1 y.1, .initialized y.1.cls, .code y.1 y.2.1 y.2.2.1 y.2.2.2.1] : List Cond), w.before args s = true := fun w h => hw _ rfl w (by rw [hlw]; exact h)
    have hcd : Cond.code y.1 y.2.1 y.2.2.1 y.2.2.2.1 ∈ jm_TW := jm_code_tw hkm (by rw [hlw]; simp)
    split at hs
    · rename_i o r hst
      split at hs
      · rename_i hc
        obtain ⟨hc1, hc2, hc3⟩ := hc
        have hci : ∃ ci : Nat, z0 = (ci : Int) ∧ ci < 11 := ⟨z0.toNat, (Int.toNat_of_nonneg hz0).symm, by have hz1' : z0 < 11 := hz1; have hz0' : 0 ≤ z0 := hz0; omega⟩
        obtain ⟨ci, rfl, hci⟩ := hci
        have hkd : jm_kd H o = 10 + ci := by have h9 : (jm_kd H o : Int) = 10 + (ci : Int) := hc3; omega
        obtain ⟨x, hx1, hcf⟩ := jm_call_inj hs
        subst hcf
        obtain ⟨hg1, hg2, hM⟩ := hE a0 y _ H x hy hpl hx1
        have hM := hM hbbE
        obtain ⟨hcls, hpar, hmx, -⟩ := jm_mfact hy
        intro Hc locs arr cells slots hR hS hl h1 h2
        have h1' : cells + n0 = H.1.length := h1
        have h2' : slots + s0 = jm_sl H := h2
        have hrm := hroom
        have hrm1 : x.2.1.length ≤ n0 + R.cells := hroom.1
        have hrm2 : jm_sl x.2 ≤ s0 + R.slots := hroom.2
        have hf : cells + (x.2.1.length - H.1.length) ≤ R.cells ∧ slots + (jm_sl x.2 - jm_sl H) ≤ R.slots := ⟨by omega, by omega⟩
        have hRR : (jm_rm d H x.2).frames + 1 ≤ R.frames ∧ 8 + (y.2.2.1 + 11) + (jm_rm d H x.2).locals ≤ R.locals := ⟨hRf.1, by have hmx9 : y.2.2.1 ≤ 22 := hmx; show 8 + (y.2.2.1 + 11) + 41 * d ≤ _; omega⟩
        have hPcU : ∀ U : State, U.heap = Hc → s.WarmedH U.vm → ∀ as : List Value, jm_Pc dC dI dA base b L xs H as (as.map (jm_cv base b)).toArray U := fun U hU hW as => ⟨rfl, by rw [hU]; exact hR, va_K.moved hW.alike hK, va_X.moved hW.alike (by rw [hU]; exact va_X.kept hXs (hS.2.1 b (Nat.lt_of_lt_of_le hbb hbs) (fun h => absurd hbb (Nat.not_lt.mpr h)))), hXw.warm hW⟩
        have hend : ∀ (Hc1 : Heap) (locs1 : List Loc), jm_Rl dC dI dA base x.2 Hc1 → va_S (jm_A base) s.heap Hc1 locs1 → W p l e R s m args below meth c Hc1 locs1 (cells + (x.2.1.length - H.1.length)) (slots + (jm_sl x.2 - jm_sl H)) Q (F0 m (pc + 3) arr ((x.1.map (jm_cv base b)).toList ++ r.map (jm_cv base b))) := fun Hc1 locs1 hR1 hS1 => by
          rw [jm_ols]
          exact G' Hc1 locs1 arr _ _ hR1 hS1 hl (by show _ = x.2.1.length; omega) (by show _ = jm_sl x.2; omega)
        refine jm_cont (va_runV (C := y.1.cls) (b := base + o) (As := (st.take (jm_np a0)).reverse.map (jm_cv base b)) (rest := r.map (jm_cv base b)) ⟨hx, hb, hml, hown, hts⟩ hM ⟨callB_of (ws' := jm_TW) y.2.2.2.2.1 hts (jm_wd_good hcd) rfl rfl rfl (hww _ (by simp)) (hww _ (by simp)) ⟨hcls.1, hcls.2, hpar⟩ hRR, hww _ (by simp), hww _ (by simp)⟩ ⟨jm_Pc_blind, ?_, fun U hU hW => hPcU U hU hW (.ref o :: (st.take (jm_np a0)).reverse)⟩ rfl ?_ hl.1 (jm_stk hst) (lv_room (by rw [jm_catc]; exact hc2)) hd hf) hS hend
        · have hrv := va_recv hK hR.1 (jm_clg hci) (jm_obj hkd)
          rw [show (jm_R ci, jm_T ci, jm_N ci).1 = y.1.cls from hcn] at hrv
          exact hrv
        · rw [List.length_map, List.length_reverse, List.length_take, ← jm_npe hy]
          exact Nat.min_eq_left hc1
      · cases hs
    · cases hs
  · cases hyy
set_option maxHeartbeats 4000000 in
theorem jm_s_invsp {ix d : Nat} (C : jm_Cx p s m args meth c dC dI dA base b L xs q) (hF : jm_Fa q pc (.invokespecial ix, npc, a0, b0, z0)) (ho : jm_on q.2.2.2.2.2 = q.1.cls) (hbbE : b < base) (hE : jm_Sn l dC dI dA base b L xs d E) (hRf : d + 1 ≤ R.frames ∧ 41 * (d + 1) ≤ R.locals) (hroom : cf.2.2.2.1.length ≤ n0 + R.cells ∧ jm_sl cf.2.2.2 ≤ s0 + R.slots)
    (hs : jm_stp xs L E (.invokespecial ix, npc, a0, b0, z0) pc ls st H = some (.inl cf)) (G' : jm_G p l e R s m args below meth c Q dC dI dA base b q n0 s0 cf) : jm_G p l e R s m args below meth c Q dC dI dA base b q n0 s0 (pc, ls, st, H) := by
  obtain ⟨hx, hb, hml, hown, hts, hXw, hK, hXs, hbb, hbs, hmn⟩ := C
  obtain ⟨hd, hn, hk, hsd⟩ := hF
  have hw : ∀ k9 : jm_K, jm_need (.invokespecial ix, npc, a0, b0, z0) = some k9 → ∀ w ∈ jm_lw q.2.2.2.2.2 k9, w.before args s = true := fun k9 h w hw => jm_word hts hXw (hk k9 h) hw
  rw [← ho] at hown
  simp only [jm_stp] at hs
  have hn : npc = pc + 3 := hn
  subst hn
  have hkm := hk _ rfl
  have hlk := jm_lkok hkm
  have hb0 : ((b0 == 6 || b0 == 3) || b0 == 5) = true := hsd
  simp only [Bool.or_eq_true, beq_iff_eq] at hb0
  rcases hb0 with (hb0 | hb0) | hb0
  · subst hb0
    simp only [jm_lok] at hlk
    split at hlk
    · rename_i y hy
      simp only [Bool.and_eq_true, decide_eq_true_eq] at hlk
      obtain ⟨⟨⟨⟨g1, g2⟩, g3⟩, g4⟩, g5⟩ := hlk
      have hlw : jm_lw q.2.2.2.2.2 (ix, 6, a0, 0, 0) = [.methodLink (jm_on q.2.2.2.2.2) ix y.1, .instanceMethod y.1, .code y.1 y.2.1 y.2.2.1 y.2.2.2.1] := by
        unfold jm_lw
        simp only [hy]
      have hww : ∀ w ∈ ([.methodLink (jm_on q.2.2.2.2.2) ix y.1, .instanceMethod y.1, .code y.1 y.2.1 y.2.2.1 y.2.2.2.1] : List Cond), w.before args s = true := fun w h => hw _ rfl w (by rw [hlw]; exact h)
      obtain ⟨yy, ybytes, ymx, yret, ynp, yo⟩ := y
      dsimp only at g1 g2 g3 g4 g5 hww
      have g2' : ybytes = ⟨#[0xb1]⟩ := by
        obtain ⟨⟨dd⟩⟩ := ybytes
        dsimp only at g2
        subst g2
        rfl
      subst g1 g2' g3 g4
      have hnp : jm_np a0 = 0 := (jm_npe hy).trans g5
      rw [hnp] at hs
      split at hs
      · rename_i o r hst
        rw [List.drop_zero] at hst
        subst hst
        split at hs
        · rename_i hc
          rw [if_pos rfl] at hs
          have hcf := jm_nx_inj hs
          subst hcf
          intro Hc locs arr cells slots hR hS hl h1 h2
          exact W.objInit hx hb hown (hww _ (by simp)) (hww _ (by simp)) (hww _ (by simp)) rfl (hl.1.trans hml.symm) rfl hd (by omega) (by show 2 * 0 + _ + 12 ≤ _; rw [jm_catc]; omega) (G' Hc locs arr cells slots hR hS hl h1 h2)
        · cases hs
      · cases hs
    · cases hlk
  · subst hb0
    simp only [jm_lok, Bool.and_eq_true, decide_eq_true_eq] at hlk
    obtain ⟨ha, hyy⟩ := hlk
    split at hyy
    · rename_i y hy
      simp only [Bool.and_eq_true, decide_eq_true_eq] at hyy
      obtain ⟨⟨hin, hrn⟩, hpl⟩ := hyy
      have hlw : jm_lw q.2.2.2.2.2 (ix, 3, a0, 0, 0) = [.methodLink (jm_on q.2.2.2.2.2) ix y.1, .instanceMethod y.1, .initialized y.1.cls, .code y.1 y.2.1 y.2.2.1 y.2.2.2.1] := by
        unfold jm_lw
        simp only [hy]
      have hww : ∀ w ∈ ([.methodLink (jm_on q.2.2.2.2.2) ix y.1, .instanceMethod y.1, .initialized y.1.cls, .code y.1 y.2.1 y.2.2.1 y.2.2.2.1] : List Cond), w.before args s = true := fun w h => hw _ rfl w (by rw [hlw]; exact h)
      have hcd : Cond.code y.1 y.2.1 y.2.2.1 y.2.2.2.1 ∈ jm_TW := jm_code_tw hkm (by rw [hlw]; simp)
      split at hs
      · rename_i o r hst
        split at hs
        · rename_i hc
          obtain ⟨hc1, hc2⟩ := hc
          rw [if_neg (by decide)] at hs
          obtain ⟨⟨yc, yn, yd⟩, ybytes, ymx, yret, ynp, yo⟩ := y
          dsimp only at hin hrn
          subst hin hrn
          obtain ⟨x, hx1, hcf⟩ := jm_call_inj hs
          subst hcf
          obtain ⟨hg1, hg2, hM⟩ := hE a0 _ _ H x hy hpl hx1
          have hM := hM hbbE
          obtain ⟨hcls, hpar, hmx, -⟩ := jm_mfact hy
          intro Hc locs arr cells slots hR hS hl h1 h2
          have h1' : cells + n0 = H.1.length := h1
          have h2' : slots + s0 = jm_sl H := h2
          have hrm := hroom
          have hrm1 : x.2.1.length ≤ n0 + R.cells := hroom.1
          have hrm2 : jm_sl x.2 ≤ s0 + R.slots := hroom.2
          have hf : cells + (x.2.1.length - H.1.length) ≤ R.cells ∧ slots + (jm_sl x.2 - jm_sl H) ≤ R.slots := ⟨by omega, by omega⟩
          have hRR : (jm_rm d H x.2).frames + 1 ≤ R.frames ∧ 8 + (ymx + 11) + (jm_rm d H x.2).locals ≤ R.locals := ⟨hRf.1, by have hmx9 : ymx ≤ 22 := hmx; show 8 + (ymx + 11) + 41 * d ≤ _; omega⟩
          have hPcU : ∀ U : State, U.heap = Hc → s.WarmedH U.vm → ∀ as : List Value, jm_Pc dC dI dA base b L xs H as (as.map (jm_cv base b)).toArray U := fun U hU hW as => ⟨rfl, by rw [hU]; exact hR, va_K.moved hW.alike hK, va_X.moved hW.alike (by rw [hU]; exact va_X.kept hXs (hS.2.1 b (Nat.lt_of_lt_of_le hbb hbs) (fun h => absurd hbb (Nat.not_lt.mpr h)))), hXw.warm hW⟩
          have hend : ∀ (Hc1 : Heap) (locs1 : List Loc), jm_Rl dC dI dA base x.2 Hc1 → va_S (jm_A base) s.heap Hc1 locs1 → W p l e R s m args below meth c Hc1 locs1 (cells + (x.2.1.length - H.1.length)) (slots + (jm_sl x.2 - jm_sl H)) Q (F0 m (pc + 3) arr ((x.1.map (jm_cv base b)).toList ++ r.map (jm_cv base b))) := fun Hc1 locs1 hR1 hS1 => by
            rw [jm_ols]
            exact G' Hc1 locs1 arr _ _ hR1 hS1 hl (by show _ = x.2.1.length; omega) (by show _ = jm_sl x.2; omega)
          refine jm_cont (va_runI (b := base + o) (As := (st.take (jm_np a0)).reverse.map (jm_cv base b)) (rest := r.map (jm_cv base b)) ⟨hx, hb, hml, hown, hts⟩ hM ⟨callB_of (ws' := jm_TW) ynp hts (jm_wd_good hcd) rfl rfl rfl (hww _ (by simp)) (hww _ (by simp)) ⟨hcls.1, hcls.2, hpar⟩ hRR, rfl, hww _ (by simp)⟩ ⟨jm_Pc_blind, fun U hU hW => hPcU U hU hW (.ref o :: (st.take (jm_np a0)).reverse)⟩ rfl ?_ hl.1 (jm_stk hst) (lv_room (by rw [jm_catc]; exact hc2)) hd hf) hS hend
          · rw [List.length_map, List.length_reverse, List.length_take]
            exact (Nat.min_eq_left hc1).trans (jm_npe hy)
        · cases hs
      · cases hs
    · cases hyy
  · subst hb0
    simp only [jm_lok, Bool.and_eq_true, decide_eq_true_eq] at hlk
    obtain ⟨ha, hyy⟩ := hlk
    split at hyy
    · rename_i y hy
      simp only [Bool.and_eq_true, decide_eq_true_eq] at hyy
      obtain ⟨⟨hin, hrn⟩, hpl⟩ := hyy
      have hlw : jm_lw q.2.2.2.2.2 (ix, 5, a0, 0, 0) = [.methodLinkNest (jm_on q.2.2.2.2.2) ix y.1 "LeapingPassages", .instanceMethod y.1, .initialized y.1.cls, .code y.1 y.2.1 y.2.2.1 y.2.2.2.1] := by
        unfold jm_lw
        simp only [hy]
      have hww : ∀ w ∈ ([.methodLinkNest (jm_on q.2.2.2.2.2) ix y.1 "LeapingPassages", .instanceMethod y.1, .initialized y.1.cls, .code y.1 y.2.1 y.2.2.1 y.2.2.2.1] : List Cond), w.before args s = true := fun w h => hw _ rfl w (by rw [hlw]; exact h)
      have hcd : Cond.code y.1 y.2.1 y.2.2.1 y.2.2.2.1 ∈ jm_TW := jm_code_tw hkm (by rw [hlw]; simp)
      split at hs
      · rename_i o r hst
        split at hs
        · rename_i hc
          obtain ⟨hc1, hc2⟩ := hc
          rw [if_neg (by decide)] at hs
          obtain ⟨⟨yc, yn, yd⟩, ybytes, ymx, yret, ynp, yo⟩ := y
          dsimp only at hin hrn
          subst hin hrn
          obtain ⟨x, hx1, hcf⟩ := jm_call_inj hs
          subst hcf
          obtain ⟨hg1, hg2, hM⟩ := hE a0 _ _ H x hy hpl hx1
          have hM := hM hbbE
          obtain ⟨hcls, hpar, hmx, -⟩ := jm_mfact hy
          intro Hc locs arr cells slots hR hS hl h1 h2
          have h1' : cells + n0 = H.1.length := h1
          have h2' : slots + s0 = jm_sl H := h2
          have hrm := hroom
          have hrm1 : x.2.1.length ≤ n0 + R.cells := hroom.1
          have hrm2 : jm_sl x.2 ≤ s0 + R.slots := hroom.2
          have hf : cells + (x.2.1.length - H.1.length) ≤ R.cells ∧ slots + (jm_sl x.2 - jm_sl H) ≤ R.slots := ⟨by omega, by omega⟩
          have hRR : (jm_rm d H x.2).frames + 1 ≤ R.frames ∧ 8 + (ymx + 11) + (jm_rm d H x.2).locals ≤ R.locals := ⟨hRf.1, by have hmx9 : ymx ≤ 22 := hmx; show 8 + (ymx + 11) + 41 * d ≤ _; omega⟩
          have hPcU : ∀ U : State, U.heap = Hc → s.WarmedH U.vm → ∀ as : List Value, jm_Pc dC dI dA base b L xs H as (as.map (jm_cv base b)).toArray U := fun U hU hW as => ⟨rfl, by rw [hU]; exact hR, va_K.moved hW.alike hK, va_X.moved hW.alike (by rw [hU]; exact va_X.kept hXs (hS.2.1 b (Nat.lt_of_lt_of_le hbb hbs) (fun h => absurd hbb (Nat.not_lt.mpr h)))), hXw.warm hW⟩
          have hend : ∀ (Hc1 : Heap) (locs1 : List Loc), jm_Rl dC dI dA base x.2 Hc1 → va_S (jm_A base) s.heap Hc1 locs1 → W p l e R s m args below meth c Hc1 locs1 (cells + (x.2.1.length - H.1.length)) (slots + (jm_sl x.2 - jm_sl H)) Q (F0 m (pc + 3) arr ((x.1.map (jm_cv base b)).toList ++ r.map (jm_cv base b))) := fun Hc1 locs1 hR1 hS1 => by
            rw [jm_ols]
            exact G' Hc1 locs1 arr _ _ hR1 hS1 hl (by show _ = x.2.1.length; omega) (by show _ = jm_sl x.2; omega)
          refine jm_cont (va_runIN (b := base + o) (As := (st.take (jm_np a0)).reverse.map (jm_cv base b)) (rest := r.map (jm_cv base b)) ⟨hx, hb, hml, hown, hts⟩ hM ⟨va_cnB (ws' := jm_TW) ynp hts (jm_wd_good hcd) rfl rfl rfl (va_Nw.of rfl (hww _ List.mem_cons_self)) (hww _ (by simp)) ⟨hcls.1, hcls.2, hpar⟩ hRR, rfl, hww _ (by simp)⟩ ⟨jm_Pc_blind, fun U hU hW => hPcU U hU hW (.ref o :: (st.take (jm_np a0)).reverse)⟩ rfl ?_ hl.1 (jm_stk hst) (lv_room (by rw [jm_catc]; exact hc2)) hd hf) hS hend
          · rw [List.length_map, List.length_reverse, List.length_take]
            exact (Nat.min_eq_left hc1).trans (jm_npe hy)
        · cases hs
      · cases hs
    · cases hyy
set_option maxHeartbeats 4000000 in
theorem jm_s_invst {ix d : Nat} (C : jm_Cx p s m args meth c dC dI dA base b L xs q) (hF : jm_Fa q pc (.invokestatic ix, npc, a0, b0, z0)) (ho : jm_on q.2.2.2.2.2 = q.1.cls) (hbbE : b < base) (hE : jm_Sn l dC dI dA base b L xs d E) (hRf : d + 1 ≤ R.frames ∧ 41 * (d + 1) ≤ R.locals) (hroom : cf.2.2.2.1.length ≤ n0 + R.cells ∧ jm_sl cf.2.2.2 ≤ s0 + R.slots) (hn0 : s.heap.size = base + n0)
    (hs : jm_stp xs L E (.invokestatic ix, npc, a0, b0, z0) pc ls st H = some (.inl cf)) (G' : jm_G p l e R s m args below meth c Q dC dI dA base b q n0 s0 cf) : jm_G p l e R s m args below meth c Q dC dI dA base b q n0 s0 (pc, ls, st, H) := by
  obtain ⟨hx, hb, hml, hown, hts, hXw, hK, hXs, hbb, hbs, hmn⟩ := C
  obtain ⟨hd, hn, hk, hsd⟩ := hF
  have hw : ∀ k9 : jm_K, jm_need (.invokestatic ix, npc, a0, b0, z0) = some k9 → ∀ w ∈ jm_lw q.2.2.2.2.2 k9, w.before args s = true := fun k9 h w hw => jm_word hts hXw (hk k9 h) hw
  rw [← ho] at hown
  simp only [jm_stp] at hs
  have hn : npc = pc + 3 := hn
  subst hn
  have hkm := hk _ rfl
  have hlk := jm_lkok hkm
  have hb0 : ((((b0 == 12 || b0 == 13) || b0 == 14) || b0 == 2) || b0 == 4) = true := hsd
  simp only [Bool.or_eq_true, beq_iff_eq] at hb0
  rcases hb0 with (((hb0 | hb0) | hb0) | hb0) | hb0
  · subst hb0
    have hlw : jm_lw q.2.2.2.2.2 (ix, 12, a0, 0, 0) = [.methodLink (jm_on q.2.2.2.2.2) ix arraycopyName, .native arraycopyName, .static arraycopyName, .initialized "java/lang/System"] := rfl
    have hww : ∀ w ∈ ([.methodLink (jm_on q.2.2.2.2.2) ix arraycopyName, .native arraycopyName, .static arraycopyName, .initialized "java/lang/System"] : List Cond), w.before args s = true := fun w h => hw _ rfl w (by rw [hlw]; exact h)
    rw [if_pos rfl] at hs
    split at hs
    · rename_i n dp dd sp ss r
      split at hs
      · rename_i hc
        obtain ⟨hc1, hc2, hc3, hc4, hc5, hc6⟩ := hc
        have hlw9 : (r.map (jm_cv base b) |>.map fun v => v.category).sum + (nativeFrameWords "java/lang/System" "arraycopy" 5 + 11) ≤ R.locals := by
          rw [jm_catc, show nativeFrameWords "java/lang/System" "arraycopy" 5 = 7 by decide +kernel]
          omega
        split at hs
        · rename_i hk1
          have hcf := jm_nx_inj hs
          subst hcf
          intro Hc locs arr cells slots hR hS hl h1 h2
          have hD := jm_ws_D (dA := dA) (base := base) (H := H) (jm_A base) (fun _ h => h)
          refine va_copyi hx hb (hml.trans hl.1.symm) hown (hww _ (by simp)) (hww _ (by simp)) (hww _ (by simp)) (hww _ (by simp)) hK hR.1 hD hS ss dd 0 0 (jm_iar hk1.1) (jm_iar hk1.2) rfl rfl rfl (jm_nneg hc2) (jm_nneg hc3) (jm_nneg hc4) hc5 hc6 (fun _ _ => rfl) (by omega) hlw9 hd (fun H1 locs1 hP1 hD1 hS1 => ?_)
          refine jm_size fun hz => ?_
          refine G' H1 locs1 arr cells slots (jm_Rl_set hR rfl (fun j hj => jm_at_congr rfl (jm_row_ne hj) rfl) ?_ hP1 (jm_kd_lt (H := H) (a := dd) (by rw [hk1.2]; decide)) hn0 h1 hz) hS1 hl h1 h2
          unfold jm_at
          show (base + dd, jm_cell dA base (jm_kd H dd) (jm_ln H dd) (jm_rf H dd) (jm_row H.2.1 dd _ dd) (H.2.2 dd)) = _
          rw [jm_row_eq]
          unfold jm_cell
          rw [hk1.2, if_pos rfl]
        · split at hs
          · rename_i hk1
            have hcf := jm_nx_inj hs
            subst hcf
            intro Hc locs arr cells slots hR hS hl h1 h2
            have hD := jm_ws_D (dA := dA) (base := base) (H := H) (jm_A base) (fun _ h => h)
            refine va_copyl hx hb (hml.trans hl.1.symm) hown (hww _ (by simp)) (hww _ (by simp)) (hww _ (by simp)) (hww _ (by simp)) hK hR.1 hD hS ss dd 1 1 (jm_lar hk1.1) (jm_lar hk1.2) rfl rfl rfl (jm_nneg hc2) (jm_nneg hc3) (jm_nneg hc4) hc5 hc6 (fun _ _ => rfl) (by omega) hlw9 hd (fun H1 locs1 hP1 hD1 hS1 => ?_)
            refine jm_size fun hz => ?_
            refine G' H1 locs1 arr cells slots (jm_Rl_set hR rfl (fun j hj => jm_at_congr rfl rfl (jm_row_ne hj)) ?_ hP1 (jm_kd_lt (H := H) (a := dd) (by rw [hk1.2]; decide)) hn0 h1 hz) hS1 hl h1 h2
            unfold jm_at
            show (base + dd, jm_cell dA base (jm_kd H dd) (jm_ln H dd) (jm_rf H dd) (H.2.1 dd) (jm_row H.2.2 dd _ dd)) = _
            rw [jm_row_eq]
            unfold jm_cell
            rw [hk1.2, if_neg (by omega), if_pos rfl]
          · cases hs
      · cases hs
    · cases hs
  · subst hb0
    have hlw : jm_lw q.2.2.2.2.2 (ix, 13, a0, 0, 0) = [.methodLink (jm_on q.2.2.2.2.2) ix Lib.Math.max.name, .static Lib.Math.max.name, .initialized "java/lang/Math", .code Lib.Math.max.name Lib.Math.max.code 2 (some .int)] := rfl
    have hww : ∀ w ∈ ([.methodLink (jm_on q.2.2.2.2.2) ix Lib.Math.max.name, .static Lib.Math.max.name, .initialized "java/lang/Math", .code Lib.Math.max.name Lib.Math.max.code 2 (some .int)] : List Cond), w.before args s = true := fun w h => hw _ rfl w (by rw [hlw]; exact h)
    rw [if_neg (show ¬ (13 : Nat) = 12 by decide), if_pos rfl] at hs
    split at hs
    · rename_i y x r
      split at hs
      · rename_i hc
        have hcf := jm_nx_inj hs
        subst hcf
        intro Hc locs arr cells slots hR hS hl h1 h2
        have h1' : cells + n0 = H.1.length := h1
        have h2' : slots + s0 = jm_sl H := h2
        have hrm1 : H.1.length ≤ n0 + R.cells := hroom.1
        have hrm2 : jm_sl H ≤ s0 + R.slots := hroom.2
        exact va_mmax hx hb (hml.trans hl.1.symm) hown (hww _ (by simp)) (hww _ (by simp)) (hww _ (by simp)) (hww _ (by simp)) (by omega) (by rw [jm_catc]; omega) (by omega) (by omega) hd (G' Hc locs arr cells slots hR hS hl h1 h2)
      · cases hs
    · cases hs
  · subst hb0
    have hlw : jm_lw q.2.2.2.2.2 (ix, 14, a0, 0, 0) = [.methodLink (jm_on q.2.2.2.2.2) ix Lib.Math.min.name, .static Lib.Math.min.name, .initialized "java/lang/Math", .code Lib.Math.min.name Lib.Math.min.code 2 (some .int)] := rfl
    have hww : ∀ w ∈ ([.methodLink (jm_on q.2.2.2.2.2) ix Lib.Math.min.name, .static Lib.Math.min.name, .initialized "java/lang/Math", .code Lib.Math.min.name Lib.Math.min.code 2 (some .int)] : List Cond), w.before args s = true := fun w h => hw _ rfl w (by rw [hlw]; exact h)
    rw [if_neg (show ¬ (14 : Nat) = 12 by decide), if_neg (show ¬ (14 : Nat) = 13 by decide), if_pos rfl] at hs
    split at hs
    · rename_i y x r
      split at hs
      · rename_i hc
        have hcf := jm_nx_inj hs
        subst hcf
        intro Hc locs arr cells slots hR hS hl h1 h2
        have h1' : cells + n0 = H.1.length := h1
        have h2' : slots + s0 = jm_sl H := h2
        have hrm1 : H.1.length ≤ n0 + R.cells := hroom.1
        have hrm2 : jm_sl H ≤ s0 + R.slots := hroom.2
        exact va_mmin hx hb (hml.trans hl.1.symm) hown (hww _ (by simp)) (hww _ (by simp)) (hww _ (by simp)) (hww _ (by simp)) (by omega) (by rw [jm_catc]; omega) (by omega) (by omega) hd (G' Hc locs arr cells slots hR hS hl h1 h2)
      · cases hs
    · cases hs
  · subst hb0
    simp only [jm_lok, Bool.and_eq_true, decide_eq_true_eq] at hlk
    obtain ⟨ha, hyy⟩ := hlk
    split at hyy
    · rename_i y hy
      have hpl := hyy
      have hlw : jm_lw q.2.2.2.2.2 (ix, 2, a0, 0, 0) = [.methodLink (jm_on q.2.2.2.2.2) ix y.1, .static y.1, .initialized y.1.cls, .code y.1 y.2.1 y.2.2.1 y.2.2.2.1] := by
        unfold jm_lw
        simp only [hy]
      have hww : ∀ w ∈ ([.methodLink (jm_on q.2.2.2.2.2) ix y.1, .static y.1, .initialized y.1.cls, .code y.1 y.2.1 y.2.2.1 y.2.2.2.1] : List Cond), w.before args s = true := fun w h => hw _ rfl w (by rw [hlw]; exact h)
      have hcd : Cond.code y.1 y.2.1 y.2.2.1 y.2.2.2.1 ∈ jm_TW := jm_code_tw hkm (by rw [hlw]; simp)
      rw [if_neg (show ¬ (2 : Nat) = 12 by decide), if_neg (show ¬ (2 : Nat) = 13 by decide), if_neg (show ¬ (2 : Nat) = 14 by decide)] at hs
      split at hs
      · rename_i hc
        obtain ⟨hc1, hc2⟩ := hc
        obtain ⟨x, hx1, hcf⟩ := jm_call_inj hs
        subst hcf
        obtain ⟨hg1, hg2, hM⟩ := hE a0 y _ H x hy hpl hx1
        have hM := hM hbbE
        obtain ⟨hcls, hpar, hmx, -⟩ := jm_mfact hy
        intro Hc locs arr cells slots hR hS hl h1 h2
        have h1' : cells + n0 = H.1.length := h1
        have h2' : slots + s0 = jm_sl H := h2
        have hrm := hroom
        have hrm1 : x.2.1.length ≤ n0 + R.cells := hroom.1
        have hrm2 : jm_sl x.2 ≤ s0 + R.slots := hroom.2
        have hf : cells + (x.2.1.length - H.1.length) ≤ R.cells ∧ slots + (jm_sl x.2 - jm_sl H) ≤ R.slots := ⟨by omega, by omega⟩
        have hRR : (jm_rm d H x.2).frames + 1 ≤ R.frames ∧ 8 + (y.2.2.1 + 11) + (jm_rm d H x.2).locals ≤ R.locals := ⟨hRf.1, by have hmx9 : y.2.2.1 ≤ 22 := hmx; show 8 + (y.2.2.1 + 11) + 41 * d ≤ _; omega⟩
        have hPcU : ∀ U : State, U.heap = Hc → s.WarmedH U.vm → ∀ as : List Value, jm_Pc dC dI dA base b L xs H as (as.map (jm_cv base b)).toArray U := fun U hU hW as => ⟨rfl, by rw [hU]; exact hR, va_K.moved hW.alike hK, va_X.moved hW.alike (by rw [hU]; exact va_X.kept hXs (hS.2.1 b (Nat.lt_of_lt_of_le hbb hbs) (fun h => absurd hbb (Nat.not_lt.mpr h)))), hXw.warm hW⟩
        have hend : ∀ (Hc1 : Heap) (locs1 : List Loc), jm_Rl dC dI dA base x.2 Hc1 → va_S (jm_A base) s.heap Hc1 locs1 → W p l e R s m args below meth c Hc1 locs1 (cells + (x.2.1.length - H.1.length)) (slots + (jm_sl x.2 - jm_sl H)) Q (F0 m (pc + 3) arr ((x.1.map (jm_cv base b)).toList ++ (st.drop (jm_np a0)).map (jm_cv base b))) := fun Hc1 locs1 hR1 hS1 => by
          rw [jm_ols]
          exact G' Hc1 locs1 arr _ _ hR1 hS1 hl (by show _ = x.2.1.length; omega) (by show _ = jm_sl x.2; omega)
        refine jm_cont (va_runS (As := (st.take (jm_np a0)).reverse.map (jm_cv base b)) (rest := (st.drop (jm_np a0)).map (jm_cv base b)) ⟨hx, hb, hml, hown, hts⟩ hM ⟨callB_of (ws' := jm_TW) y.2.2.2.2.1 hts (jm_wd_good hcd) rfl rfl rfl (hww _ (by simp)) (hww _ (by simp)) ⟨hcls.1, hcls.2, hpar⟩ hRR, hww _ (by simp)⟩ ⟨jm_Pc_blind, fun U hU hW => hPcU U hU hW (st.take (jm_np a0)).reverse⟩ rfl ?_ hl.1 jm_stkS (lv_room (by rw [jm_catc]; exact hc2)) hd hf) hS hend
        · rw [List.length_map, List.length_reverse, List.length_take, ← jm_npe hy]
          exact Nat.min_eq_left hc1
      · cases hs
    · cases hyy
  · subst hb0
    simp only [jm_lok, Bool.and_eq_true, decide_eq_true_eq] at hlk
    obtain ⟨ha, hyy⟩ := hlk
    split at hyy
    · rename_i y hy
      have hpl := hyy
      have hlw : jm_lw q.2.2.2.2.2 (ix, 4, a0, 0, 0) = [.methodLinkNest (jm_on q.2.2.2.2.2) ix y.1 "LeapingPassages", .static y.1, .initialized y.1.cls, .code y.1 y.2.1 y.2.2.1 y.2.2.2.1] := by
        unfold jm_lw
        simp only [hy]
      have hww : ∀ w ∈ ([.methodLinkNest (jm_on q.2.2.2.2.2) ix y.1 "LeapingPassages", .static y.1, .initialized y.1.cls, .code y.1 y.2.1 y.2.2.1 y.2.2.2.1] : List Cond), w.before args s = true := fun w h => hw _ rfl w (by rw [hlw]; exact h)
      have hcd : Cond.code y.1 y.2.1 y.2.2.1 y.2.2.2.1 ∈ jm_TW := jm_code_tw hkm (by rw [hlw]; simp)
      rw [if_neg (show ¬ (4 : Nat) = 12 by decide), if_neg (show ¬ (4 : Nat) = 13 by decide), if_neg (show ¬ (4 : Nat) = 14 by decide)] at hs
      split at hs
      · rename_i hc
        obtain ⟨hc1, hc2⟩ := hc
        obtain ⟨x, hx1, hcf⟩ := jm_call_inj hs
        subst hcf
        obtain ⟨hg1, hg2, hM⟩ := hE a0 y _ H x hy hpl hx1
        have hM := hM hbbE
        obtain ⟨hcls, hpar, hmx, -⟩ := jm_mfact hy
        intro Hc locs arr cells slots hR hS hl h1 h2
        have h1' : cells + n0 = H.1.length := h1
        have h2' : slots + s0 = jm_sl H := h2
        have hrm := hroom
        have hrm1 : x.2.1.length ≤ n0 + R.cells := hroom.1
        have hrm2 : jm_sl x.2 ≤ s0 + R.slots := hroom.2
        have hf : cells + (x.2.1.length - H.1.length) ≤ R.cells ∧ slots + (jm_sl x.2 - jm_sl H) ≤ R.slots := ⟨by omega, by omega⟩
        have hRR : (jm_rm d H x.2).frames + 1 ≤ R.frames ∧ 8 + (y.2.2.1 + 11) + (jm_rm d H x.2).locals ≤ R.locals := ⟨hRf.1, by have hmx9 : y.2.2.1 ≤ 22 := hmx; show 8 + (y.2.2.1 + 11) + 41 * d ≤ _; omega⟩
        have hPcU : ∀ U : State, U.heap = Hc → s.WarmedH U.vm → ∀ as : List Value, jm_Pc dC dI dA base b L xs H as (as.map (jm_cv base b)).toArray U := fun U hU hW as => ⟨rfl, by rw [hU]; exact hR, va_K.moved hW.alike hK, va_X.moved hW.alike (by rw [hU]; exact va_X.kept hXs (hS.2.1 b (Nat.lt_of_lt_of_le hbb hbs) (fun h => absurd hbb (Nat.not_lt.mpr h)))), hXw.warm hW⟩
        have hend : ∀ (Hc1 : Heap) (locs1 : List Loc), jm_Rl dC dI dA base x.2 Hc1 → va_S (jm_A base) s.heap Hc1 locs1 → W p l e R s m args below meth c Hc1 locs1 (cells + (x.2.1.length - H.1.length)) (slots + (jm_sl x.2 - jm_sl H)) Q (F0 m (pc + 3) arr ((x.1.map (jm_cv base b)).toList ++ (st.drop (jm_np a0)).map (jm_cv base b))) := fun Hc1 locs1 hR1 hS1 => by
          rw [jm_ols]
          exact G' Hc1 locs1 arr _ _ hR1 hS1 hl (by show _ = x.2.1.length; omega) (by show _ = jm_sl x.2; omega)
        refine jm_cont (va_runSN (As := (st.take (jm_np a0)).reverse.map (jm_cv base b)) (rest := (st.drop (jm_np a0)).map (jm_cv base b)) ⟨hx, hb, hml, hown, hts⟩ hM ⟨va_cnB (ws' := jm_TW) y.2.2.2.2.1 hts (jm_wd_good hcd) rfl rfl rfl (va_Nw.of rfl (hww _ List.mem_cons_self)) (hww _ (by simp)) ⟨hcls.1, hcls.2, hpar⟩ hRR, hww _ (by simp), trivial⟩ ⟨jm_Pc_blind, fun U hU hW => hPcU U hU hW (st.take (jm_np a0)).reverse⟩ rfl ?_ hl.1 jm_stkS (lv_room (by rw [jm_catc]; exact hc2)) hd hf) hS hend
        · rw [List.length_map, List.length_reverse, List.length_take, ← jm_npe hy]
          exact Nat.min_eq_left hc1
      · cases hs
    · cases hyy
end JMY
end
section
/-! A whole run, a whole call. -/
def jm_Gr (E : jm_E) : Prop := ∀ (a : Nat) (as : List Value) (H1 : jm_H) (o : jm_O), E a as H1 = some o → H1.1.length ≤ o.2.1.length ∧ jm_sl H1 ≤ jm_sl o.2
section JMZ
variable {p : Program} {l : Launch} {e : Env} {R : Room} {s : State} {m : MethodId} {args : Array Value} {below : List Frame} {meth : Method} {c : Code} {Q : State → Prop}
variable {dC : Nat → ClassId} {dI : Nat → Nat → Nat} {dA : Nat → ClassId} {base b L : Nat} {xs : Nat → Int32} {q : jm_M} {n0 s0 : Nat}
theorem jm_set_grow {H : jm_H} {a : Nat} {f : Nat → Option Nat} : H.1.length ≤ (H.1.set a (jm_kd H a, jm_ln H a, f)).length ∧ jm_sl H ≤ jm_sl (H.1.set a (jm_kd H a, jm_ln H a, f), H.2.1, H.2.2) := ⟨Nat.le_of_eq (List.length_set ..).symm, Nat.le_of_eq jm_sl_set.symm⟩
theorem jm_new_grow {H : jm_H} {x : jm_S} : H.1.length ≤ (jm_new H x).1.length ∧ jm_sl H ≤ jm_sl (jm_new H x) := ⟨by rw [jm_new_len]; omega, by rw [jm_new_sl]; omega⟩
theorem jm_newg_grow {H : jm_H} {n k : Nat} : H.1.length ≤ (jm_newg H n k).1.length ∧ jm_sl H ≤ jm_sl (jm_newg H n k) := ⟨by rw [jm_newg_len]; omega, by rw [jm_newg_sl]; omega⟩
set_option maxHeartbeats 8000000 in
theorem jm_grow {E : jm_E} (hE : jm_Gr E) {e0 : jm_I} {pc : Nat} {ls : jm_L} {st : List Value} {H : jm_H} {cf : jm_C} (hs : jm_stp xs L E e0 pc ls st H = some (.inl cf)) : H.1.length ≤ cf.2.2.2.1.length ∧ jm_sl H ≤ jm_sl cf.2.2.2 := by
  obtain ⟨ins, npc, a0, b0, z0⟩ := e0
  have key : ∀ {pc' : Nat} {ls' : jm_L} {st' : List Value}, jm_nx pc' ls' st' H = some (.inl cf) → H.1.length ≤ cf.2.2.2.1.length ∧ jm_sl H ≤ jm_sl cf.2.2.2 := fun h => by
    have hcf := jm_nx_inj h
    subst hcf
    exact ⟨Nat.le_refl _, Nat.le_refl _⟩
  have keyC : ∀ {pc' : Nat} {r : List Value} {a : Nat} {as : List Value}, jm_call pc' ls r (E a as H) = some (.inl cf) → H.1.length ≤ cf.2.2.2.1.length ∧ jm_sl H ≤ jm_sl cf.2.2.2 := fun h => by
    obtain ⟨x, h1, h2⟩ := jm_call_inj h
    subst h2
    exact hE _ _ _ _ h1
  cases ins <;> simp only [jm_stp, jm_sto, jm_ifb, jm_jmp] at hs <;> (repeat' split at hs) <;> first
    | exact key hs
    | exact keyC hs
    | (cases hs; done)
    | (have hcf := jm_nx_inj hs
       subst hcf
       first
         | exact ⟨Nat.le_refl _, Nat.le_refl _⟩
         | exact jm_set_grow
         | exact jm_new_grow
         | exact jm_newg_grow)
set_option maxHeartbeats 8000000 in
theorem jm_retH {E : jm_E} {e0 : jm_I} {pc : Nat} {ls : jm_L} {st : List Value} {H : jm_H} {r : jm_O} (hs : jm_stp xs L E e0 pc ls st H = some (.inr r)) : r.2 = H ∧ ((∃ v, e0.1 = .ireturn ∧ st = [.int v] ∧ r.1 = some (.int v) ∧ (e0.2.2.1 = 1 → v = 0 ∨ v = 1)) ∨ (∃ v, e0.1 = .lreturn ∧ st = [.long v] ∧ r.1 = some (.long v)) ∨ (∃ v, e0.1 = .areturn ∧ st = [.ref v] ∧ r.1 = some (.ref v)) ∨ (e0.1 = .return_ ∧ st = [] ∧ r.1 = none)) := by
  obtain ⟨ins, npc, a0, b0, z0⟩ := e0
  cases ins <;> simp only [jm_stp, jm_sto, jm_ifb, jm_jmp, jm_call, jm_nx] at hs <;> (repeat' split at hs) <;> first
    | (cases hs; done)
    | (cases hs; exact ⟨rfl, Or.inl ⟨_, rfl, rfl, rfl, by assumption⟩⟩)
    | (cases hs; exact ⟨rfl, Or.inr (Or.inl ⟨_, rfl, rfl, rfl⟩)⟩)
    | (cases hs; exact ⟨rfl, Or.inr (Or.inr (Or.inl ⟨_, rfl, rfl, rfl⟩))⟩)
    | (cases hs; exact ⟨rfl, Or.inr (Or.inr (Or.inr ⟨rfl, rfl, rfl⟩))⟩)
theorem jm_run_grow {E : jm_E} (hE : jm_Gr E) {mi : Nat} : ∀ (n : Nat) (cf : jm_C) (r : jm_O), jm_run xs L E mi n cf = some r → cf.2.2.2.1.length ≤ r.2.1.length ∧ jm_sl cf.2.2.2 ≤ jm_sl r.2
  | 0, _, _, h => by simp [jm_run] at h
  | n + 1, (pc, ls, st, H), r, h => by
    simp only [jm_run] at h
    split at h
    · split at h
      · rename_i cf' hs
        have h1 := jm_grow hE hs
        have h2 := jm_run_grow hE n cf' r h
        exact ⟨Nat.le_trans h1.1 h2.1, Nat.le_trans h1.2 h2.2⟩
      · rename_i r' hs
        cases h
        rw [(jm_retH hs).1]
        exact ⟨Nat.le_refl _, Nat.le_refl _⟩
      · cases h
    · cases h
theorem jm_ex_grow : ∀ d : Nat, jm_Gr (jm_ex xs L d)
  | 0 => fun _ _ _ _ h => by simp [jm_ex] at h
  | d + 1 => fun a as H1 o h => by
    simp only [jm_ex] at h
    split at h
    · split at h
      · obtain ⟨n, h⟩ := jm_lim_some h
        exact jm_run_grow (jm_ex_grow d) n _ _ h
      · cases h
    · cases h
set_option maxHeartbeats 8000000 in
/-- a step, whatever the instruction -/
theorem jm_step {d pc : Nat} {e0 : jm_I} {ls : jm_L} {st : List Value} {H : jm_H} {cf : jm_C} {E : jm_E} (C : jm_Cx p s m args meth c dC dI dA base b L xs q) (hF : jm_Fa q pc e0) (ho : jm_on q.2.2.2.2.2 = q.1.cls) (hbbE : b < base) (hE : jm_Sn l dC dI dA base b L xs d E) (hRf : d + 1 ≤ R.frames ∧ 41 * (d + 1) ≤ R.locals) (hn0 : s.heap.size = base + n0)
    (hroom : cf.2.2.2.1.length ≤ n0 + R.cells ∧ jm_sl cf.2.2.2 ≤ s0 + R.slots) (hs : jm_stp xs L E e0 pc ls st H = some (.inl cf)) (G' : jm_G p l e R s m args below meth c Q dC dI dA base b q n0 s0 cf) : jm_G p l e R s m args below meth c Q dC dI dA base b q n0 s0 (pc, ls, st, H) := by
  obtain ⟨ins, npc, a0, b0, z0⟩ := e0
  cases hX : jm_big ins with
  | false => exact jm_stepA (d := 0) (mi := 0) C hF ho hs G' hX
  | true =>
    cases ins
    case iinc k n => exact jm_s_iinc C hF ho hs G'
    case ifCond cc off => exact jm_s_ifc C hF ho hs G'
    case if_icmp cc off => exact jm_s_icmp C hF ho hs G'
    case goto off => exact jm_s_goto C hF ho hs G'
    case tableswitch dd lo hi offs => exact jm_s_tsw C hF ho hs G'
    case lookupswitch dd ps => exact jm_s_lsw C hF ho hs G'
    case getfield ix => exact jm_s_getf C hF ho hs G'
    case putfield ix => exact jm_s_putf C hF ho hn0 hs G'
    case arraylength => exact jm_s_alen C hF ho hs G'
    case iaload => exact jm_s_iald C hF ho hs G'
    case laload => exact jm_s_lald C hF ho hs G'
    case aaload => exact jm_s_aald C hF ho hs G'
    case iastore => exact jm_s_iast C hF ho hn0 hs G'
    case lastore => exact jm_s_last C hF ho hn0 hs G'
    case aastore => exact jm_s_aast C hF ho hn0 hs G'
    case new ix => exact jm_s_newo C hF ho hn0 hroom hs G'
    case newarray tt => exact jm_s_newa C hF ho hn0 hroom hs G'
    case anewarray ix => exact jm_s_anewa C hF ho hn0 hroom hs G'
    case multianewarray ix dm => exact jm_s_mnewa C hF ho hn0 hroom hs G'
    case invokevirtual ix => exact jm_s_invv C hF ho hbbE hE hRf hroom hs G'
    case invokespecial ix => exact jm_s_invsp C hF ho hbbE hE hRf hroom hs G'
    case invokestatic ix => exact jm_s_invst C hF ho hbbE hE hRf hroom hn0 hs G'
    all_goals exact Bool.noConfusion (show false = true from hX)
theorem jm_ownn {mi : Nat} (hm : jm_MT[mi]? = some q) : jm_on q.2.2.2.2.2 = q.1.cls := by
  unfold jm_on
  rw [(jm_mfact hm).2.2.2]
/-- a run that ends: from its first configuration -/
theorem jm_runs {d mi : Nat} {E : jm_E} {r : jm_O} (C : jm_Cx p s m args meth c dC dI dA base b L xs q) (hm : jm_MT[mi]? = some q) (hbbE : b < base) (hE : jm_Sn l dC dI dA base b L xs d E) (hG : jm_Gr E) (hRf : d + 1 ≤ R.frames ∧ 41 * (d + 1) ≤ R.locals) (hn0 : s.heap.size = base + n0)
    (hroom : r.2.1.length ≤ n0 + R.cells ∧ jm_sl r.2 ≤ s0 + R.slots)
    (hend : ∀ (e0 : jm_I) (pc : Nat) (ls : jm_L) (st : List Value) (H : jm_H), jm_Fa q pc e0 → jm_stp xs L E e0 pc ls st H = some (.inr r) → jm_G p l e R s m args below meth c Q dC dI dA base b q n0 s0 (pc, ls, st, H)) :
    ∀ (n : Nat) (cf : jm_C), jm_run xs L E mi n cf = some r → jm_G p l e R s m args below meth c Q dC dI dA base b q n0 s0 cf
  | 0, _, h => by simp [jm_run] at h
  | n + 1, (pc, ls, st, H), h => by
    simp only [jm_run] at h
    split at h
    · rename_i e0 ht
      have hF := jm_fact hm ht
      split at h
      · rename_i cf' hs
        have h2 := jm_run_grow hG n cf' r h
        exact jm_step C hF (jm_ownn hm) hbbE hE hRf hn0 ⟨Nat.le_trans h2.1 hroom.1, Nat.le_trans h2.2 hroom.2⟩ hs (jm_runs C hm hbbE hE hG hRf hn0 hroom hend n cf' h)
      · rename_i r' hs
        cases h
        exact hend e0 pc ls st H hF hs
      · cases h
    · cases h
theorem jm_ent_get : ∀ (vs : List Value) (i : Nat) (k : Nat) (w : Value), (vs.flatMap fun v => if v.category = 2 then [some v, none] else [some v])[k]? = some (some w) → (i + k, jm_cv base b w) ∈ lv_args i (vs.map (jm_cv base b))
  | [], _, _, _, h => by simp at h
  | v :: vs, i, k, w, h => by
    have hc : (jm_cv base b v).category = v.category := by cases v <;> rfl
    rw [List.flatMap_cons] at h
    show _ ∈ (i, jm_cv base b v) :: lv_args (if (jm_cv base b v).category = 2 then i + 2 else i + 1) (vs.map (jm_cv base b))
    rw [hc]
    by_cases h2 : v.category = 2
    · rw [if_pos h2] at h ⊢
      match k, h with
      | 0, h =>
        simp at h
        subst h
        exact List.mem_cons_self
      | 1, h => simp at h
      | k + 2, h =>
        have := jm_ent_get vs (i + 2) k w (by simpa using h)
        rw [show i + (k + 2) = i + 2 + k by omega]
        exact List.mem_cons_of_mem _ this
    · rw [if_neg h2] at h ⊢
      match k, h with
      | 0, h =>
        simp at h
        subst h
        exact List.mem_cons_self
      | k + 1, h =>
        have := jm_ent_get vs (i + 1) k w (by simpa using h)
        rw [show i + (k + 1) = i + 1 + k by omega]
        exact List.mem_cons_of_mem _ this
theorem jm_ent_flen : ∀ vs : List Value, (vs.flatMap fun v => if v.category = 2 then [some v, none] else [some v]).length = (lg_sl vs).length
  | [] => rfl
  | v :: vs => by
    rw [List.flatMap_cons, List.length_append, jm_ent_flen vs]
    show _ = (lg_sl (v :: vs)).length
    unfold lg_sl
    rw [List.flatMap_cons, List.length_append]
    congr 1
    split <;> rfl
theorem jm_sl_cv (vs : List Value) : (lg_sl (vs.map (jm_cv base b))).length = (lg_sl vs).length := by
  induction vs with
  | nil => rfl
  | cons v vs ih =>
    unfold lg_sl at ih ⊢
    rw [List.map_cons, List.flatMap_cons, List.flatMap_cons, List.length_append, List.length_append, ih]
    congr 1
    have hc : (jm_cv base b v).category = v.category := by cases v <;> rfl
    rw [hc]
    split <;> rfl
theorem jm_lr_ent {vs : List Value} {n : Nat} (h : (lg_sl vs).length ≤ n) : jm_lr base b (jm_ent vs n) ((lg_sl (vs.map (jm_cv base b)) ++ List.replicate (n - (lg_sl (vs.map (jm_cv base b))).length) Slot.unset).toArray) n := by
  have hh := lv_entry (vs.map (jm_cv base b)) (n := n) (by rw [jm_sl_cv]; exact h)
  refine ⟨hh.1, ?_, hh.2.1, fun k w hk => ?_⟩
  · unfold jm_ent
    rw [List.length_append, jm_ent_flen, List.length_replicate]
    omega
  · unfold jm_ent at hk
    by_cases hl : k < (vs.flatMap fun v => if v.category = 2 then [some v, none] else [some v]).length
    · rw [List.getElem?_append_left hl] at hk
      have := jm_ent_get (base := base) (b := b) vs 0 k w hk
      rw [Nat.zero_add] at this
      exact hh.2.2 _ this
    · rw [List.getElem?_append_right (by omega), List.getElem?_replicate] at hk
      split at hk <;> cases hk
/-- a call of the small machine is a call of the machine -/
theorem jm_sn : ∀ d : Nat, jm_Sn l dC dI dA base b L xs d (jm_ex xs L d)
  | 0 => fun a r as H1 o _ _ h => by simp [jm_ex] at h
  | d + 1 => fun a r as H1 o hm hpl h => by
    have hgr := jm_ex_grow (d + 1) a as H1 o h
    refine ⟨hgr.1, hgr.2, fun hbb => ?_⟩
    simp only [jm_ex, hm] at h
    split at h
    · rename_i hlen
      obtain ⟨n, hrun⟩ := jm_lim_some h
      refine Met.ofW (cc := r.2.1) (maxL := r.2.2.1) (ret := r.2.2.2.1) hpl rfl ?_
      intro p e s m args below meth c s₁ B hml hv
      obtain ⟨rfl, hR, hK, hX, hXw⟩ := hv
      have hx := B.exec
      have hb := B.bytes
      have hr := B.returns
      have hts := atoms_spec (ws := jm_wd r) B.pre
      have hown : s.vm.findClass r.1.cls = some m.cls := findClass_of_methodNamed B.named
      have hlocks := B.notSynchronized
      have hin : meth.name = r.1.name := (name_of_methodNamed B.named B.method).1
      have hsz : s.heap.size = base + H1.1.length := hR.2
      have C : jm_Cx p s m (as.map (jm_cv base b)).toArray meth c dC dI dA base b L xs r := ⟨hx, hb, hml, hown, fun w hw => hts w (List.mem_cons_of_mem _ hw), hXw, hK, hX, hbb, by omega, fun h => hin.trans h⟩
      have hG := jm_runs (l := l) (e := e) (below := below) (R := (headSpec (jm_wd r) (jm_rm (d + 1) H1 o.2)).room) (Q := MQ below (jm_Qc dC dI dA base b o.1 o.2) (as.map (jm_cv base b)).toArray s (o.2.1.length - H1.1.length) (jm_sl o.2 - jm_sl H1) (jm_A base)) (n0 := H1.1.length) (s0 := jm_sl H1) C hm hbb (jm_sn d) (jm_ex_grow d) ⟨Nat.le_refl _, Nat.le_refl _⟩ hsz ⟨by show o.2.1.length ≤ H1.1.length + (o.2.1.length - H1.1.length); omega, by show jm_sl o.2 ≤ jm_sl H1 + (jm_sl o.2 - jm_sl H1); omega⟩ ?_ n _ hrun
      · have hl := jm_lr_ent (base := base) (b := b) hlen
        have := hG s.heap [] _ 0 0 hR va_S.rf hl (by show 0 + H1.1.length = H1.1.length; omega) (by show 0 + jm_sl H1 = jm_sl H1; omega)
        rw [lg_entry_eq]
        exact this
      · intro e0 pc ls st H hF hs Hc locs arr cells slots hR1 hS hl h1 h2
        obtain ⟨hH, hk⟩ := jm_retH hs
        obtain ⟨hd, -, -, hsd⟩ := hF
        have h1' : cells + H1.1.length = H.1.length := h1
        have h2' : slots + jm_sl H1 = jm_sl H := h2
        have ec : o.2.1.length - H1.1.length = cells := by rw [hH]; omega
        have es : jm_sl o.2 - jm_sl H1 = slots := by rw [hH]; omega
        rw [ec, es]
        have hq : ∀ t : State, t.heap = Hc → jm_Qc dC dI dA base b o.1 o.2 (as.map (jm_cv base b)).toArray s (.returned (o.1.map (jm_cv base b))) t := fun t ht => ⟨rfl, by rw [ht, hH]; exact hR1, hS.F ht⟩
        obtain ⟨ins, npc, a0, b0, z0⟩ := e0
        obtain ⟨o1, oH⟩ := o
        rcases hk with ⟨v, rfl, rfl, hv, hbz⟩ | ⟨v, rfl, rfl, hv⟩ | ⟨v, rfl, rfl, hv⟩ | ⟨rfl, rfl, hv⟩
        · dsimp only at hv
          subst hv
          have hsd' : ((a0 == 0 && decide (r.2.2.2.1 = some .int)) || (a0 == 1 && decide (r.2.2.2.1 = some .boolean))) = true := hsd
          simp only [Bool.or_eq_true, Bool.and_eq_true, beq_iff_eq, decide_eq_true_eq] at hsd'
          rcases hsd' with ⟨ha, hrt⟩ | ⟨ha, hrt⟩
          · exact W.iret hx hb (hr.trans hrt) (fun t ht _ => hq t ht) hS.2.2 hd hlocks
          · have hn : narrow .boolean (.int v) = .int v := by rcases hbz ha with h | h <;> subst h <;> rfl
            exact W.zret hx hb (hr.trans hrt) hn (fun t ht _ => hq t ht) hS.2.2 hd hlocks
        · dsimp only at hv
          subst hv
          have hsd' : r.2.2.2.1 = some .long := of_decide_eq_true hsd
          exact W.lret hx hb (hr.trans hsd') (fun t ht _ => hq t ht) hS.2.2 hd hlocks
        · dsimp only at hv
          subst hv
          have hsd' : (match r.2.2.2.1 with | some (.object _) => true | _ => false) = true := hsd
          split at hsd'
          · rename_i nm hrt
            exact W.aret hx hb (hr.trans hrt) (Or.inl ⟨nm, rfl⟩) (Or.inr ⟨_, rfl⟩) (fun t ht _ => hq t ht) hS.2.2 hd hlocks
          · cases hsd'
        · dsimp only at hv
          subst hv
          have hsd' : r.2.2.2.1 = none := of_decide_eq_true hsd
          exact W.vret hx hb (hr.trans hsd') (fun t ht _ => hq t ht) hS.2.2 hd hlocks
    · cases h
end JMZ
end
section
/-! THE CLAIM OUT OF ONE WALK OF THE LAW'S BODY. Your part is whole_start (and what it stands on); all else here is the same for every law, but numbers. -/
def R_law : String := "LeapingPassagesLaw"
def lw_P (b : Addr) (xs : List Int32) (args : Array Value) (s : State) : Prop := args = #[.ref b] ∧ s.IntsAt b xs ∧ xs.length ≤ 3072 ∧ (Jvm.Cond.and given_1 narrow_1).before args s = true
def lw_Q (_ : Array Value) (s : State) (o : Outcome) (t : State) : Prop := o = .returned (some (.int 1)) ∧ Framed s o t [] 600000 7302250
def lw_Z (below : List Frame) (a : Array Value) (s : State) : State → Prop := fun t => ∃ o, t.status = .running ∧ Ended t below o ∧ lw_Q a s o t
/-- the law's own end, with 1 on the stack, nothing written that was there before, its room as the claim has it -/
theorem lw_ret {p : Program} {l : Launch} {e : Env} {s : State} {m : MethodId} {below : List Frame} {meth : Method} {c : Code} {b : Nat} (hx : p.tables.exec = Jvm.exec) (hb : c.code = code) (hr : meth.sig.returnType = ret) (hlocks : meth.locks = false) {pc : Nat} {H : Heap} {ls : Array Slot} (hdg : decode code pc = .ok (.ireturn, 1)) : W p l e room_1 s m #[Value.ref b] below meth c H [] 600000 7302250 (lw_Z below #[Value.ref b] s) (F0 m pc ls [.int 1]) := by
  intro T hT X
  obtain ⟨fs, hret, hrun, hended, hW, hframe⟩ := X.leave (v := some (.int 1)) (hlocks := hlocks) (fun h => by rw [hr] at h; cases h)
  have hmeth' : T.vm.method? m = some meth := X.method'
  refine ⟨T.setFrames fs, ?_, .returned (some (.int 1)), hrun, hended, rfl, ⟨_, rfl⟩, hW, hframe⟩
  jvm_step X.here [X.here.top, hx, hb, hdg, hmeth', hr, ret, narrow_b1]
  (try refine ⟨rfl, ?_⟩); (try refine ⟨rfl, ?_⟩)
  first | (intro acts; rw [hret _ acts rfl rfl rfl]) | rw [hret _ _ rfl rfl rfl]
  exact Steps.refl _
/-- what holds at the law's entry: the machine, the code, the tables' words (any of lw_tbl by 'hts w (by decide +kernel)'), the script of L ints xs at the cell b, what the Statement gives of the start (any of its parts by flat_of_before) -/
def lw_At (p : Program) (s : State) (m : MethodId) (meth : Method) (c : Code) (b L : Nat) (xs : Nat → Int32) : Prop :=
  p.tables.exec = Jvm.exec ∧ c.code = code ∧ meth.sig.returnType = ret ∧ c.maxLocals = 4 ∧ s.vm.findClass R_law = some m.cls ∧ (∀ w ∈ lw_tbl, w.before #[Value.ref b] s = true) ∧ va_X b L xs s s.heap ∧ b < s.heap.size ∧ meth.locks = false ∧ (Jvm.Cond.and given_1 narrow_1).before #[Value.ref b] s = true

/-! From the law's entry: the small machine's run of the law gives the machine's. -/
theorem jm_arr_of {args : Array Value} {s : State} {ty : FieldType} (h : (Cond.arrayClass ty).before args s = true) : ∃ cA, ArrOfT s cA ty ∧ s.vm.findClass ("[" ++ ty.toString) = some cA := by
  obtain ⟨c, k, comp, h1, h2, h3⟩ := Cond.arrayClass_spec h
  exact ⟨c, fun n z => ⟨fun k h => (by cases h), k, h2, comp, h3⟩, h1⟩
theorem jm_arr_ov {args : Array Value} {s : State} {C : String} (h : (Cond.arrayOver (.object C)).before args s = true) : ∃ cA, ArrOfT s cA (.object C) ∧ va_RA s cA (.object C) := by
  obtain ⟨comp, c, k, h1, -, h3, h4, h5⟩ := Cond.arrayOver_spec h
  exact ⟨c, fun n z => ⟨fun k h => (by cases h), k, h3, comp, h4⟩, k, comp, h3, h4, h1, h5⟩
theorem jm_arr_oa {args : Array Value} {s : State} {ty : FieldType} (h : (Cond.arrayOver (.array ty)).before args s = true) : ∃ cA, ArrOfT s cA (.array ty) ∧ s.vm.findClass ("[" ++ (FieldType.array ty).toString) = some cA := by
  obtain ⟨comp, c, k, h1, -, h3, h4, h5⟩ := arrayOver_specB h
  exact ⟨c, fun n z => ⟨fun k h => (by cases h), k, h3, comp, h4⟩, h5⟩
theorem jm_ins {ci : Nat} (h : ci < 11) : Cond.instantiable (jm_R ci) (jm_N ci) ∈ lw_tbl := by
  rcases (show ci = 0 ∨ ci = 1 ∨ ci = 2 ∨ ci = 3 ∨ ci = 4 ∨ ci = 5 ∨ ci = 6 ∨ ci = 7 ∨ ci = 8 ∨ ci = 9 ∨ ci = 10 by omega) with h | h | h | h | h | h | h | h | h | h | h <;> subst h <;> decide +kernel
def jm_H0 : jm_H := ([], fun _ _ => 0, fun _ _ => 0)
theorem jm_start {p : Program} {e : Env} {s : State} {m : MethodId} {below : List Frame} {meth : Method} {c : Code} (l : Launch) {b L : Nat} {xs : Nat → Int32} (C0 : lw_At p s m meth c b L xs) {d n : Nat} {H' : jm_H} (hd : d ≤ 2047)
    (hrun : jm_run xs L (jm_ex xs L d) 283 n (0, [some (.retAddr 0), none, none, none], [], jm_H0) = some (some (.int 1), H')) (hc : H'.1.length ≤ 600000) (hsl : jm_sl H' ≤ 7302250) :
    W p l e room_1 s m #[Value.ref b] below meth c s.heap [] 0 0 (lw_Z below #[Value.ref b] s) (entryFrame m ([Value.ref b] : List Value).toArray 4) := by
  obtain ⟨hx, hb, hr, hml, hown, hts, hX, hbl, hlocks, hgv⟩ := C0
  have hcls : ∀ ci, ∃ (cC : ClassId) (iS : Nat → Nat), ci < 11 → u_Kn s (jm_R ci) (jm_T ci) (jm_N ci) cC iS := fun ci => by
    by_cases h : ci < 11
    · obtain ⟨cC, iS, hk⟩ := u_known (C := jm_R ci) (T := jm_T ci) (N := jm_N ci) (n := jm_N ci) hts (fun w hw => (List.mem_filter.mp (jm_lay h w hw)).1) (hts _ (jm_ins h))
      exact ⟨cC, iS, fun _ => hk⟩
    · exact ⟨0, fun _ => 0, fun h' => absurd h' h⟩
  obtain ⟨dC, dI, hK1⟩ : ∃ (dC : Nat → ClassId) (dI : Nat → Nat → Nat), ∀ ci, ci < 11 → u_Kn s (jm_R ci) (jm_T ci) (jm_N ci) (dC ci) (dI ci) :=
    ⟨fun ci => Classical.choose (hcls ci), fun ci => Classical.choose (Classical.choose_spec (hcls ci)), fun ci h => Classical.choose_spec (Classical.choose_spec (hcls ci)) h⟩
  obtain ⟨a0, p0, q0⟩ := jm_arr_of (hts (.arrayClass .int) (List.mem_filter.mp jm_acint).1)
  obtain ⟨a1, p1, q1⟩ := jm_arr_of (hts (.arrayClass .long) (List.mem_filter.mp jm_aclong).1)
  obtain ⟨a2, p2, q2⟩ := jm_arr_ov (hts (.arrayOver (.object "LeapingPassages$Shelf")) (by decide +kernel))
  obtain ⟨a3, p3, q3⟩ := jm_arr_ov (hts (.arrayOver (.object "LeapingPassages$Ask")) (by decide +kernel))
  obtain ⟨a4, p4, q4⟩ := jm_arr_ov (hts (.arrayOver (.object "LeapingPassages$Spans")) (by decide +kernel))
  obtain ⟨a5, p5, q5⟩ := jm_arr_oa (hts (.arrayOver (.array .long)) (by decide +kernel))
  have hK : va_K (dC, dI) jm_cl (jm_tys (fun k => match k with | 0 => a0 | 1 => a1 | 2 => a2 | 3 => a3 | 4 => a4 | _ => a5)) s := by
    refine ⟨fun ci q hq => ?_, fun k q hq => ?_⟩
    · have h : ci < 11 := (List.getElem?_eq_some_iff.mp hq).1
      rw [jm_clg h] at hq
      cases hq
      exact hK1 ci h
    · have h : k < 6 := (List.getElem?_eq_some_iff.mp hq).1
      rcases (show k = 0 ∨ k = 1 ∨ k = 2 ∨ k = 3 ∨ k = 4 ∨ k = 5 by omega) with h | h | h | h | h | h <;> subst h <;> cases hq
      · exact ⟨p0, q0⟩
      · exact ⟨p1, q1⟩
      · exact ⟨p2, q2⟩
      · exact ⟨p3, q3⟩
      · exact ⟨p4, q4⟩
      · exact ⟨p5, q5⟩
  have hXw : jm_X s := by
    intro w hw hxw
    have h := hts w hw
    unfold jm_xw at hxw
    split at hxw
    · exact va_Nw.of rfl h
    · exact h
    · exact h
    · cases hxw
  have hm : jm_MT[283]? = some (x, code, maxLocals, ret, 1, 10) := by rfl
  have C : jm_Cx p s m #[Value.ref b] meth c dC dI (fun k => match k with | 0 => a0 | 1 => a1 | 2 => a2 | 3 => a3 | 4 => a4 | _ => a5) s.heap.size b L xs (x, code, maxLocals, ret, 1, 10) := ⟨hx, hb, hml, hown, fun w hw => hts w (List.mem_filter.mp hw).1, hXw, hK, hX, hbl, Nat.le_refl _, fun h => absurd h (by decide)⟩
  have hG := jm_runs (l := l) (e := e) (below := below) (R := room_1) (Q := lw_Z below #[Value.ref b] s) (n0 := 0) (s0 := 0) C hm hbl (jm_sn d) (jm_ex_grow d) ⟨by show d + 1 ≤ 2048; omega, by show 41 * (d + 1) ≤ 84000; omega⟩ rfl ⟨by show H'.1.length ≤ 0 + 600000; omega, by show jm_sl H' ≤ 0 + 7302250; omega⟩ ?_ n _ hrun
  · have hl := jm_lr_ent (base := s.heap.size) (b := b) (vs := [.retAddr 0]) (n := 4) (by decide)
    have := hG s.heap [] _ 0 0 ⟨fun k q h => by simp [jm_ws, jm_H0] at h, rfl⟩ va_S.rf hl rfl rfl
    rw [lg_entry_eq]
    exact this
  · intro e0 pc ls st H hF hs Hc locs arr cells slots hR1 hS hl h1 h2
    obtain ⟨hH, hk⟩ := jm_retH hs
    obtain ⟨hdd, -, -, hsd⟩ := hF
    have h1' : cells + 0 = H.1.length := h1
    have h2' : slots + 0 = jm_sl H := h2
    have hH' : H' = H := hH
    subst hH'
    refine W.widen (k := 600000) (n := 7302250) (by omega) (by omega) ?_
    refine va_forget hS.2.2 ?_
    obtain ⟨ins, npc, a9, b9, z9⟩ := e0
    rcases hk with ⟨v, rfl, rfl, hv, -⟩ | ⟨v, rfl, rfl, hv⟩ | ⟨v, rfl, rfl, hv⟩ | ⟨rfl, rfl, hv⟩
    · cases hv
      exact lw_ret hx hb hr hlocks hdd
    · cases hv
    · cases hv
    · cases hv
end
section
/-! The small machine by computation: calls with fuel. -/
def jm_le (E E' : jm_E) : Prop := ∀ (a : Nat) (as : List Value) (H : jm_H) (o : jm_O), E a as H = some o → E' a as H = some o
section JMM
variable {xs xs' : Nat → Int32} {L : Nat} {E E' : jm_E}
set_option maxHeartbeats 8000000 in
theorem jm_stp_le (hE : jm_le E E') {e0 : jm_I} {pc : Nat} {ls : jm_L} {st : List Value} {H : jm_H} {r : jm_C ⊕ jm_O} (hs : jm_stp xs 4294967296 E e0 pc ls st H = some r) : jm_stp xs' L E' e0 pc ls st H = some r := by
  have keyC : ∀ {pc' : Nat} {r' : List Value} {a : Nat} {as : List Value}, jm_call pc' ls r' (E a as H) = some r → jm_call pc' ls r' (E' a as H) = some r := fun {pc' r' a as} h => by
    unfold jm_call at h ⊢
    cases hq : E a as H with
    | none => rw [hq] at h; cases h
    | some o =>
      rw [hE _ _ _ _ hq]
      rw [hq] at h
      exact h
  obtain ⟨ins, npc, a0, b0, z0⟩ := e0
  cases ins
  case invokevirtual ix =>
    simp only [jm_stp] at hs ⊢
    split at hs
    · split at hs
      · rename_i h
        rw [if_pos h]
        exact keyC hs
      · cases hs
    · cases hs
  case invokespecial ix =>
    simp only [jm_stp] at hs ⊢
    split at hs
    · split at hs
      · rename_i h
        rw [if_pos h]
        split at hs
        · rename_i h2
          rw [if_pos h2]
          exact hs
        · rename_i h2
          rw [if_neg h2]
          exact keyC hs
      · cases hs
    · cases hs
  case invokestatic ix =>
    simp only [jm_stp] at hs ⊢
    split at hs
    · rename_i h
      rw [if_pos h]
      exact hs
    · rename_i h
      rw [if_neg h]
      split at hs
      · rename_i h1
        rw [if_pos h1]
        exact hs
      · rename_i h1
        rw [if_neg h1]
        split at hs
        · rename_i h2
          rw [if_pos h2]
          exact hs
        · rename_i h2
          rw [if_neg h2]
          split at hs
          · rename_i h3
            rw [if_pos h3]
            exact keyC hs
          · cases hs
  case arraylength =>
    simp only [jm_stp] at hs ⊢
    split at hs
    · exact hs
    · rw [if_neg (by omega)] at hs
      cases hs
    · cases hs
  case iaload =>
    simp only [jm_stp] at hs ⊢
    split at hs
    · exact hs
    · rw [if_neg (by omega)] at hs
      cases hs
    · cases hs
  all_goals exact hs
theorem jm_run_mono (hE : jm_le E E') {mi : Nat} : ∀ (n : Nat) (cf : jm_C) (r : jm_O), jm_run xs 4294967296 E mi n cf = some r → jm_run xs' L E' mi n cf = some r
  | 0, _, _, h => by simp [jm_run] at h
  | n + 1, (pc, ls, st, H), r, h => by
    simp only [jm_run] at h ⊢
    split at h
    · split at h
      · rename_i cf' hs
        rw [jm_stp_le (xs' := xs') (L := L) hE hs]
        exact jm_run_mono hE n cf' r h
      · rename_i r' hs
        rw [jm_stp_le (xs' := xs') (L := L) hE hs]
        exact h
      · cases h
    · cases h
/-- calls with fuel n at every depth, without a script -/
noncomputable def jm_exC (n : Nat) : Nat → jm_E
  | 0 => fun _ _ _ => none
  | d + 1 => fun mi args H => match jm_MT[mi]? with
    | some q => if (lg_sl args).length ≤ q.2.2.1 then jm_run (fun _ => 0) 4294967296 (jm_exC n d) mi n (0, jm_ent args q.2.2.1, [], H) else none
    | none => none
theorem jm_exC_le (n : Nat) : ∀ d : Nat, jm_le (jm_exC n d) (jm_ex xs' L d)
  | 0 => fun _ _ _ _ h => by simp [jm_exC] at h
  | d + 1 => fun mi args H o h => by
    simp only [jm_exC] at h
    simp only [jm_ex]
    split at h
    · split at h
      · rename_i q0 hq0 hl
        simp only [hq0, if_pos hl]
        have h1 := jm_run_mono (xs' := xs') (L := L) (jm_exC_le n d) n _ _ h
        exact jm_lim_of h1 (fun k r' h' => jm_run_det h' h1)
      · cases h
    · cases h
set_option maxHeartbeats 8000000 in
theorem jm_stp_leS (hE : jm_le E E') {e0 : jm_I} {pc : Nat} {ls : jm_L} {st : List Value} {H : jm_H} {r : jm_C ⊕ jm_O} (hs : jm_stp xs L E e0 pc ls st H = some r) : jm_stp xs L E' e0 pc ls st H = some r := by
  have keyC : ∀ {pc' : Nat} {r' : List Value} {a : Nat} {as : List Value}, jm_call pc' ls r' (E a as H) = some r → jm_call pc' ls r' (E' a as H) = some r := fun {pc' r' a as} h => by
    unfold jm_call at h ⊢
    cases hq : E a as H with
    | none => rw [hq] at h; cases h
    | some o =>
      rw [hE _ _ _ _ hq]
      rw [hq] at h
      exact h
  obtain ⟨ins, npc, a0, b0, z0⟩ := e0
  cases ins
  case invokevirtual ix =>
    simp only [jm_stp] at hs ⊢
    split at hs
    · split at hs
      · rename_i h
        rw [if_pos h]
        exact keyC hs
      · cases hs
    · cases hs
  case invokespecial ix =>
    simp only [jm_stp] at hs ⊢
    split at hs
    · split at hs
      · rename_i h
        rw [if_pos h]
        split at hs
        · rename_i h2
          rw [if_pos h2]
          exact hs
        · rename_i h2
          rw [if_neg h2]
          exact keyC hs
      · cases hs
    · cases hs
  case invokestatic ix =>
    simp only [jm_stp] at hs ⊢
    split at hs
    · rename_i h
      rw [if_pos h]
      exact hs
    · rename_i h
      rw [if_neg h]
      split at hs
      · rename_i h1
        rw [if_pos h1]
        exact hs
      · rename_i h1
        rw [if_neg h1]
        split at hs
        · rename_i h2
          rw [if_pos h2]
          exact hs
        · rename_i h2
          rw [if_neg h2]
          split at hs
          · rename_i h3
            rw [if_pos h3]
            exact keyC hs
          · cases hs
  all_goals exact hs
theorem jm_run_monoS (hE : jm_le E E') {mi : Nat} : ∀ (n : Nat) (cf : jm_C) (r : jm_O), jm_run xs L E mi n cf = some r → jm_run xs L E' mi n cf = some r
  | 0, _, _, h => by simp [jm_run] at h
  | n + 1, (pc, ls, st, H), r, h => by
    simp only [jm_run] at h ⊢
    split at h
    · split at h
      · rename_i cf' hs
        rw [jm_stp_leS hE hs]
        exact jm_run_monoS hE n cf' r h
      · rename_i r' hs
        rw [jm_stp_leS hE hs]
        exact h
      · cases h
    · cases h
theorem jm_ex_mono : ∀ d : Nat, jm_le (jm_ex xs L d) (jm_ex xs L (d + 1))
  | 0 => fun _ _ _ _ h => by simp [jm_ex] at h
  | d + 1 => fun mi args H o h => by
    rw [jm_ex] at h ⊢
    dsimp only at h ⊢
    split at h
    · split at h
      · rename_i q0 hq0 hl
        simp only [hq0, if_pos hl]
        obtain ⟨n, h⟩ := jm_lim_some h
        have h1 := jm_run_monoS (jm_ex_mono d) n _ _ h
        exact jm_lim_of h1 (fun k r' h' => jm_run_det h' h1)
      · cases h
    · cases h
theorem jm_ex_le {d d' : Nat} (h : d ≤ d') : jm_le (jm_ex xs L d) (jm_ex xs L d') := by
  obtain ⟨k, rfl⟩ := Nat.exists_eq_add_of_le h
  induction k with
  | zero => exact fun _ _ _ _ h => h
  | succ k ih => exact fun a as H o h => jm_ex_mono (d + k) _ _ _ _ (ih (Nat.le_add_right _ _) _ _ _ _ h)
end JMM
end
section
/-! What the two constructors make: 205 cells. -/
def jm_lay0 : List (Nat × Nat × List (Option Nat)) := [(19, 12, [some 1, some 5, some 9, some 35, some 61, some 140, some 143, some 144, some 146, some 149, some 150]),
  (18, 5, [some 2, some 3, some 4]),
  (1, 60, []),
  (1, 60, []),
  (1, 16, []),
  (18, 5, [some 6, some 7, some 8]),
  (1, 60, []),
  (1, 60, []),
  (1, 16, []),
  (12, 2, [some 10]),
  (4, 24, [some 11, some 12, some 13, some 14, some 15, some 16, some 17, some 18, some 19, some 20, some 21, some 22, some 23, some 24, some 25, some 26, some 27, some 28, some 29, some 30, some 31, some 32, some 33, some 34]),
  (10, 11, []),
  (10, 11, []),
  (10, 11, []),
  (10, 11, []),
  (10, 11, []),
  (10, 11, []),
  (10, 11, []),
  (10, 11, []),
  (10, 11, []),
  (10, 11, []),
  (10, 11, []),
  (10, 11, []),
  (10, 11, []),
  (10, 11, []),
  (10, 11, []),
  (10, 11, []),
  (10, 11, []),
  (10, 11, []),
  (10, 11, []),
  (10, 11, []),
  (10, 11, []),
  (10, 11, []),
  (10, 11, []),
  (10, 11, []),
  (12, 2, [some 36]),
  (4, 24, [some 37, some 38, some 39, some 40, some 41, some 42, some 43, some 44, some 45, some 46, some 47, some 48, some 49, some 50, some 51, some 52, some 53, some 54, some 55, some 56, some 57, some 58, some 59, some 60]),
  (10, 11, []),
  (10, 11, []),
  (10, 11, []),
  (10, 11, []),
  (10, 11, []),
  (10, 11, []),
  (10, 11, []),
  (10, 11, []),
  (10, 11, []),
  (10, 11, []),
  (10, 11, []),
  (10, 11, []),
  (10, 11, []),
  (10, 11, []),
  (10, 11, []),
  (10, 11, []),
  (10, 11, []),
  (10, 11, []),
  (10, 11, []),
  (10, 11, []),
  (10, 11, []),
  (10, 11, []),
  (10, 11, []),
  (10, 11, []),
  (14, 7, [some 1, some 9, some 62, some 63, some 66]),
  (5, 24, [some 68, some 71, some 74, some 77, some 80, some 83, some 86, some 89, some 92, some 95, some 98, some 101, some 104, some 107, some 110, some 113, some 116, some 119, some 122, some 125, some 128, some 131, some 134, some 137]),
  (16, 3, [some 64, some 65]),
  (1, 60, []),
  (1, 60, []),
  (13, 1, [some 67]),
  (1, 60, []),
  (16, 3, [some 69, some 70]),
  (1, 60, []),
  (1, 60, []),
  (16, 3, [some 72, some 73]),
  (1, 60, []),
  (1, 60, []),
  (16, 3, [some 75, some 76]),
  (1, 60, []),
  (1, 60, []),
  (16, 3, [some 78, some 79]),
  (1, 60, []),
  (1, 60, []),
  (16, 3, [some 81, some 82]),
  (1, 60, []),
  (1, 60, []),
  (16, 3, [some 84, some 85]),
  (1, 60, []),
  (1, 60, []),
  (16, 3, [some 87, some 88]),
  (1, 60, []),
  (1, 60, []),
  (16, 3, [some 90, some 91]),
  (1, 60, []),
  (1, 60, []),
  (16, 3, [some 93, some 94]),
  (1, 60, []),
  (1, 60, []),
  (16, 3, [some 96, some 97]),
  (1, 60, []),
  (1, 60, []),
  (16, 3, [some 99, some 100]),
  (1, 60, []),
  (1, 60, []),
  (16, 3, [some 102, some 103]),
  (1, 60, []),
  (1, 60, []),
  (16, 3, [some 105, some 106]),
  (1, 60, []),
  (1, 60, []),
  (16, 3, [some 108, some 109]),
  (1, 60, []),
  (1, 60, []),
  (16, 3, [some 111, some 112]),
  (1, 60, []),
  (1, 60, []),
  (16, 3, [some 114, some 115]),
  (1, 60, []),
  (1, 60, []),
  (16, 3, [some 117, some 118]),
  (1, 60, []),
  (1, 60, []),
  (16, 3, [some 120, some 121]),
  (1, 60, []),
  (1, 60, []),
  (16, 3, [some 123, some 124]),
  (1, 60, []),
  (1, 60, []),
  (16, 3, [some 126, some 127]),
  (1, 60, []),
  (1, 60, []),
  (16, 3, [some 129, some 130]),
  (1, 60, []),
  (1, 60, []),
  (16, 3, [some 132, some 133]),
  (1, 60, []),
  (1, 60, []),
  (16, 3, [some 135, some 136]),
  (1, 60, []),
  (1, 60, []),
  (16, 3, [some 138, some 139]),
  (1, 60, []),
  (1, 60, []),
  (16, 3, [some 141, some 142]),
  (1, 60, []),
  (1, 60, []),
  (1, 60, []),
  (17, 2, [some 145]),
  (1, 250, []),
  (11, 10, [some 144, some 9, some 147, some 148]),
  (1, 250, []),
  (1, 250, []),
  (3, 8, [some 151, some 153, some 155, some 157, some 159, some 161, some 163, some 165]),
  (1, 5, []),
  (15, 3, [some 152]),
  (2, 40, []),
  (15, 3, [some 154]),
  (2, 40, []),
  (15, 3, [some 156]),
  (2, 40, []),
  (15, 3, [some 158]),
  (2, 40, []),
  (15, 3, [some 160]),
  (2, 40, []),
  (15, 3, [some 162]),
  (2, 40, []),
  (15, 3, [some 164]),
  (2, 40, []),
  (15, 3, [some 166]),
  (2, 40, []),
  (20, 42, [some 168, some 169, some 170, some 171, some 180, some 181, some 182, none, some 183, none, none, none, some 184, some 185, some 186, some 187, some 188, none, none, none, none, some 189, some 190, some 191, some 192, some 193, none, some 194, some 195, some 196, some 197, some 198, some 199, some 200, some 201, some 202, some 203, none, none, none, none, some 204]),
  (1, 8, []),
  (1, 8, []),
  (1, 8, []),
  (6, 8, [some 172, some 173, some 174, some 175, some 176, some 177, some 178, some 179]),
  (2, 40, []),
  (2, 40, []),
  (2, 40, []),
  (2, 40, []),
  (2, 40, []),
  (2, 40, []),
  (2, 40, []),
  (2, 40, []),
  (2, 40, []),
  (1, 8, []),
  (1, 250, []),
  (1, 8, []),
  (1, 60, []),
  (1, 60, []),
  (1, 16, []),
  (1, 24, []),
  (1, 96, []),
  (1, 60, []),
  (1, 60, []),
  (1, 16, []),
  (1, 24, []),
  (1, 96, []),
  (1, 60, []),
  (1, 27, []),
  (1, 1620, []),
  (1, 1620, []),
  (1, 60, []),
  (2, 24, []),
  (1, 24, []),
  (1, 24, []),
  (1, 60, []),
  (1, 60, []),
  (1, 4, [])]
noncomputable def jm_Ha : jm_H := jm_new jm_H0 (19, 12, fun _ => none)
/-- what holds of the heap behind the constructors -/
noncomputable def jm_okc (H : jm_H) (a : Nat) : Bool := match jm_lay0[a]? with
  | some q => jm_kd H a == q.1 && jm_ln H a == q.2.1 && (q.2.2.zipIdx.all fun r => jm_rf H a r.2 == r.1)
  | none => true
noncomputable def jm_oks (i n : Nat) (H : jm_H) : Bool := (List.range n).all fun j => jm_okc H (i + j)
noncomputable def jm_okz (H : jm_H) : Bool := ([(4, 16), (150, 5), (186, 16), (183, 8), (168, 8)] : List (Nat × Nat)).all fun q => (List.range q.2).all fun k => H.2.1 q.1 k == 0
noncomputable def jm_oki (H : jm_H) : Bool := ([(0, 11, 0), (1, 3, 0), (9, 1, 0), (61, 5, 0), (144, 1, 0), (167, 7, 0), (167, 9, 0), (167, 10, 0), (167, 17, 0), (167, 26, 0), (1, 4, 1), (5, 4, 1), (61, 6, (-1)), (151, 2, (-1)), (153, 2, (-1)), (155, 2, (-1)), (157, 2, (-1)), (159, 2, (-1)), (161, 2, (-1)), (163, 2, (-1)), (165, 2, (-1)), (167, 11, 1), (167, 37, (-1))] : List (Nat × Nat × Int)).all fun q => H.2.1 q.1 q.2.1 == Int32.ofInt q.2.2
noncomputable def jm_okr (o : Option jm_O) (f : jm_H → Bool) : Bool := match o with
  | some (none, H) => f H
  | _ => false
theorem jm_okr_some {o : Option jm_O} {f : jm_H → Bool} (h : jm_okr o f = true) : ∃ H, o = some (none, H) ∧ f H = true := by
  unfold jm_okr at h
  split at h
  · exact ⟨_, rfl, h⟩
  · cases h
noncomputable def jm_i0 (f : jm_H → Bool) : Bool := jm_okr (jm_exC 2000 6 0 [.ref 0] jm_Ha) (fun Hb => Hb.1.length == 167 && jm_okr (jm_exC 2000 6 167 [.ref 167] (jm_new Hb (20, 42, fun _ => none))) f)
set_option maxRecDepth 100000 in
theorem jm_i0a : jm_i0 (jm_oks 0 70) = true := by decide +kernel
set_option maxRecDepth 100000 in
theorem jm_i0b : jm_i0 (jm_oks 70 70) = true := by decide +kernel
set_option maxRecDepth 100000 in
theorem jm_i0c : jm_i0 (jm_oks 140 70) = true := by decide +kernel
set_option maxRecDepth 100000 in
theorem jm_i0d : jm_i0 jm_okz = true := by decide +kernel
set_option maxRecDepth 100000 in
theorem jm_i0e : jm_i0 jm_oki = true := by decide +kernel
set_option maxRecDepth 100000 in
theorem jm_i0f : jm_i0 (fun H => H.1.length == 205 && decide (jm_sl H ≤ 100000)) = true := by decide +kernel
theorem jm_i2 : ∃ q : jm_H × jm_H, jm_exC 2000 6 0 [.ref 0] jm_Ha = some (none, q.1) ∧ q.1.1.length = 167 ∧ jm_exC 2000 6 167 [.ref 167] (jm_new q.1 (20, 42, fun _ => none)) = some (none, q.2) ∧ ∀ f, jm_i0 f = true → f q.2 = true := by
  obtain ⟨Hb, h1, h2⟩ := jm_okr_some jm_i0f
  rw [Bool.and_eq_true] at h2
  obtain ⟨h2, h3⟩ := h2
  obtain ⟨Hd, h4, h5⟩ := jm_okr_some h3
  refine ⟨(Hb, Hd), h1, eq_of_beq h2, h4, fun f hf => ?_⟩
  obtain ⟨Hb', h1', h2'⟩ := jm_okr_some hf
  rw [Bool.and_eq_true] at h2'
  obtain ⟨h2', h3'⟩ := h2'
  obtain ⟨Hd', h4', h5'⟩ := jm_okr_some h3'
  have e1 : Hb = Hb' := (Prod.mk.inj (Option.some.inj (h1.symm.trans h1'))).2
  subst e1
  have e2 : Hd = Hd' := (Prod.mk.inj (Option.some.inj (h4.symm.trans h4'))).2
  subst e2
  exact h5'
noncomputable def jm_Hb : jm_H := (Classical.choose jm_i2).1
noncomputable def jm_Hd : jm_H := (Classical.choose jm_i2).2
noncomputable def jm_Hc : jm_H := jm_new jm_Hb (20, 42, fun _ => none)
noncomputable def jm_S0 : List jm_S := jm_Hd.1
theorem jm_i1 : jm_exC 2000 6 0 [.ref 0] jm_Ha = some (none, jm_Hb) ∧ jm_Hb.1.length = 167 ∧ jm_exC 2000 6 167 [.ref 167] jm_Hc = some (none, jm_Hd) := ⟨(Classical.choose_spec jm_i2).1, (Classical.choose_spec jm_i2).2.1, (Classical.choose_spec jm_i2).2.2.1⟩
theorem jm_i3 {f : jm_H → Bool} (h : jm_i0 f = true) : f jm_Hd = true := (Classical.choose_spec jm_i2).2.2.2 f h
theorem jm_i4 (a : Nat) : jm_okc jm_Hd a = true := by
  have key : ∀ i n, jm_oks i n jm_Hd = true → i ≤ a → a < i + n → jm_okc jm_Hd a = true := fun i n h h1 h2 => by
    have h3 := List.all_eq_true.mp h (a - i) (List.mem_range.mpr (by omega))
    rwa [show i + (a - i) = a by omega] at h3
  by_cases h1 : a < 70
  · exact key 0 70 (jm_i3 jm_i0a) (by omega) (by omega)
  · by_cases h2 : a < 140
    · exact key 70 70 (jm_i3 jm_i0b) (by omega) (by omega)
    · by_cases h3 : a < 210
      · exact key 140 70 (jm_i3 jm_i0c) (by omega) (by omega)
      · unfold jm_okc
        rw [List.getElem?_eq_none (by have : jm_lay0.length = 205 := by decide +kernel
                                      omega)]
theorem jm_law0 {xs : Nat → Int32} {L d : Nat} {P : Option Value → jm_H → Prop} (hd : 6 ≤ d) (h : jm_W xs L d 283 18 [some (.retAddr 0), some (.ref 0), some (.ref 167), some (.int 0)] [] jm_Hd P) : jm_W xs L d 283 0 [some (.retAddr 0), none, none, none] [] jm_H0 P := by
  obtain ⟨h1, h2, h3⟩ := jm_i1
  have k1 := jm_ex_le (xs := xs) (L := L) hd _ _ _ _ (jm_exC_le (xs' := xs) (L := L) 2000 6 _ _ _ _ h1)
  have k3 := jm_ex_le (xs := xs) (L := L) hd _ _ _ _ (jm_exC_le (xs' := xs) (L := L) 2000 6 _ _ _ _ h3)
  rw [jm_W.next (e := (.new 7, 3, 9, 12, 0)) (pc' := 3) (ls' := [some (.retAddr 0), none, none, none]) (st' := [.ref 0]) (H' := jm_Ha) rfl rfl]
  rw [jm_W.next (e := (.dup, 4, 0, 0, 0)) (pc' := 4) (ls' := [some (.retAddr 0), none, none, none]) (st' := [.ref 0, .ref 0]) (H' := jm_Ha) rfl rfl]
  rw [jm_W.call (e := (.invokespecial 9, 7, 0, 3, 0)) (pc' := 7) (a := 0) (ls' := [some (.retAddr 0), none, none, none]) (st' := [.ref 0]) (as := [.ref 0]) rfl rfl]
  refine ⟨_, k1, ?_⟩
  show jm_W xs L d 283 7 [some (.retAddr 0), none, none, none] [.ref 0] jm_Hb P
  rw [jm_W.next (e := (.astore_n 1, 8, 0, 0, 0)) (pc' := 8) (ls' := [some (.retAddr 0), some (.ref 0), none, none]) (st' := []) (H' := jm_Hb) rfl rfl]
  rw [jm_W.next (e := (.new 10, 11, 10, 42, 0)) (pc' := 11) (ls' := [some (.retAddr 0), some (.ref 0), none, none]) (st' := [.ref jm_Hb.1.length]) (H' := jm_Hc) rfl rfl]
  rw [h2]
  rw [jm_W.next (e := (.dup, 12, 0, 0, 0)) (pc' := 12) (ls' := [some (.retAddr 0), some (.ref 0), none, none]) (st' := [.ref 167, .ref 167]) (H' := jm_Hc) rfl rfl]
  rw [jm_W.call (e := (.invokespecial 12, 15, 167, 3, 0)) (pc' := 15) (a := 167) (ls' := [some (.retAddr 0), some (.ref 0), none, none]) (st' := [.ref 167]) (as := [.ref 167]) rfl rfl]
  refine ⟨_, k3, ?_⟩
  show jm_W xs L d 283 15 [some (.retAddr 0), some (.ref 0), none, none] [.ref 167] jm_Hd P
  rw [jm_W.next (e := (.astore_n 2, 16, 0, 0, 0)) (pc' := 16) (ls' := [some (.retAddr 0), some (.ref 0), some (.ref 167), none]) (st' := []) (H' := jm_Hd) rfl rfl]
  rw [jm_W.next (e := (.iconst 0, 17, 0, 0, 0)) (pc' := 17) (ls' := [some (.retAddr 0), some (.ref 0), some (.ref 167), none]) (st' := [.int 0]) (H' := jm_Hd) rfl rfl]
  rw [jm_W.next (e := (.istore_n 3, 18, 0, 0, 0)) (pc' := 18) (ls' := [some (.retAddr 0), some (.ref 0), some (.ref 167), some (.int 0)]) (st' := []) (H' := jm_Hd) rfl rfl]
  exact h
end
section
/-! The small machine with integers for its numbers: instructions as rows, goal first. -/
abbrev jZ : Type := Nat → Nat → Int
def jz_kd (a : Nat) : Nat := match jm_lay0[a]? with
  | some q => q.1
  | none => 0
def jz_ln (a : Nat) : Nat := match jm_lay0[a]? with
  | some q => q.2.1
  | none => 0
def jz_rf (a k : Nat) : Option Nat := match jm_lay0[a]? with
  | some q => (match q.2.2[k]? with
    | some r => r
    | none => none)
  | none => none
noncomputable def jz_H (J K : jZ) : jm_H := (jm_S0, fun a k => Int32.ofInt (J a k), fun a k => Int64.ofInt (K a k))
theorem jz_cell {J K : jZ} {a : Nat} {q : Nat × Nat × List (Option Nat)} (h : jm_lay0[a]? = some q) : jm_kd (jz_H J K) a = q.1 ∧ jm_ln (jz_H J K) a = q.2.1 ∧ ∀ k r, q.2.2[k]? = some r → jm_rf (jz_H J K) a k = r := by
  have h0 := jm_i4 a
  unfold jm_okc at h0
  rw [h] at h0
  simp only [Bool.and_eq_true, beq_iff_eq] at h0
  obtain ⟨⟨h6, h7⟩, h8⟩ := h0
  rw [List.all_eq_true] at h8
  refine ⟨h6, h7, fun k r hk => ?_⟩
  have h9 := h8 (r, k) (List.mem_zipIdx_iff_getElem?.mpr hk)
  simp only [beq_iff_eq] at h9
  exact h9
theorem jz_kdH {J K : jZ} {a n : Nat} (h : jz_kd a = n + 1) : jm_kd (jz_H J K) a = n + 1 := by
  unfold jz_kd at h
  split at h
  · rename_i q hq
    rw [(jz_cell hq).1, h]
  · cases h
theorem jz_lnH {J K : jZ} {a n : Nat} (h : jz_kd a = n + 1) : jm_ln (jz_H J K) a = jz_ln a := by
  unfold jz_kd at h
  unfold jz_ln
  split at h
  · rename_i q hq
    rw [(jz_cell hq).2.1]
  · cases h
theorem jz_rfH {J K : jZ} {a k b : Nat} (h : jz_rf a k = some b) : jm_rf (jz_H J K) a k = some b := by
  unfold jz_rf at h
  split at h
  · rename_i q hq
    split at h
    · rename_i r hr
      rw [(jz_cell hq).2.2 k r hr, h]
    · cases h
  · cases h
theorem jz_i32 {x : Int} (h : -2147483648 ≤ x ∧ x < 2147483648) : (Int32.ofInt x).toInt = x := Int32.toInt_ofInt_of_le (by omega) (by omega)
theorem jz_i64 {x : Int} (h : -9223372036854775808 ≤ x ∧ x < 9223372036854775808) : (Int64.ofInt x).toInt = x := Int64.toInt_ofInt_of_le (by omega) (by omega)
theorem jz_lt {x y : Int} (hx : -2147483648 ≤ x ∧ x < 2147483648) (hy : -2147483648 ≤ y ∧ y < 2147483648) : Int32.ofInt x < Int32.ofInt y ↔ x < y := by rw [Int32.lt_iff_toInt_lt, jz_i32 hx, jz_i32 hy]
theorem jz_le {x y : Int} (hx : -2147483648 ≤ x ∧ x < 2147483648) (hy : -2147483648 ≤ y ∧ y < 2147483648) : Int32.ofInt x ≤ Int32.ofInt y ↔ x ≤ y := by rw [Int32.le_iff_toInt_le, jz_i32 hx, jz_i32 hy]
theorem jz_eq {x y : Int} (hx : -2147483648 ≤ x ∧ x < 2147483648) (hy : -2147483648 ≤ y ∧ y < 2147483648) : Int32.ofInt x = Int32.ofInt y ↔ x = y := by rw [← Int32.toInt_inj, jz_i32 hx, jz_i32 hy]
theorem jz_nat {i : Int} {n : Nat} (h : 0 ≤ i ∧ i < (n : Int)) (hn : n ≤ 2147483648) : 0 ≤ Int32.ofInt i ∧ (Int32.ofInt i).toNatClampNeg < n ∧ (Int32.ofInt i).toNatClampNeg = i.toNat := by
  have h1 : (Int32.ofInt i).toInt = i := jz_i32 (by omega)
  refine ⟨?_, ?_, ?_⟩
  · rw [Int32.le_iff_toInt_le, h1]
    exact h.1
  · rw [Int32.toNatClampNeg, h1]
    omega
  · rw [Int32.toNatClampNeg, h1]
theorem jz_up {J : jZ} {a k : Nat} {v : Int} : (jm_up (fun a k => Int32.ofInt (J a k)) a k (Int32.ofInt v)) = fun x y => Int32.ofInt (jm_up J a k v x y) := by
  funext x y
  unfold jm_up
  split <;> rfl
theorem jz_upl {J : jZ} {a k : Nat} {v : Int} : (jm_up (fun a k => Int64.ofInt (J a k)) a k (Int64.ofInt v)) = fun x y => Int64.ofInt (jm_up J a k v x y) := by
  funext x y
  unfold jm_up
  split <;> rfl
/-- n elements of cell s from sp on come into cell d from dp on -/
def jz_cpy (J : jZ) (s sp d dp n : Nat) : jZ := fun x y => if x = d then (if dp ≤ y ∧ y < dp + n then J s (sp + (y - dp)) else J d y) else J x y
theorem jz_cp {J : jZ} {s sp d dp n : Nat} : (jm_row (fun a k => Int32.ofInt (J a k)) d (va_cpy (fun k => Int32.ofInt (J s k)) (fun k => Int32.ofInt (J d k)) sp dp n)) = fun x y => Int32.ofInt (jz_cpy J s sp d dp n x y) := by
  funext x y
  unfold jm_row jz_cpy va_cpy
  split
  · dsimp only
    split <;> rfl
  · rfl
theorem jz_cpl {J : jZ} {s sp d dp n : Nat} : (jm_row (fun a k => Int64.ofInt (J a k)) d (va_cpy (fun k => Int64.ofInt (J s k)) (fun k => Int64.ofInt (J d k)) sp dp n)) = fun x y => Int64.ofInt (jz_cpy J s sp d dp n x y) := by
  funext x y
  unfold jm_row jz_cpy va_cpy
  split
  · dsimp only
    split <;> rfl
  · rfl
def jz_and (x y : Int) : Int := (Int32.ofInt x &&& Int32.ofInt y).toInt
def jz_or (x y : Int) : Int := (Int32.ofInt x ||| Int32.ofInt y).toInt
def jz_xor (x y : Int) : Int := (Int32.ofInt x ^^^ Int32.ofInt y).toInt
def jz_shl (x y : Int) : Int := (Int32.ofInt x <<< (Int32.ofInt y &&& 31)).toInt
def jz_shr (x y : Int) : Int := (Int32.ofInt x >>> (Int32.ofInt y &&& 31)).toInt
def jz_ushr (x y : Int) : Int := ((Int32.ofInt x).toUInt32 >>> ((Int32.ofInt y).toUInt32 &&& Int32.toUInt32 31)).toInt32.toInt
def jz_div (x y : Int) : Int := (Int32.ofInt x / Int32.ofInt y).toInt
def jz_rem (x y : Int) : Int := (Int32.ofInt x - Int32.ofInt x / Int32.ofInt y * Int32.ofInt y).toInt
def jz_b (x : Int) : Int := (Int32.ofInt x).toInt8.toInt32.toInt
def jz_s (x : Int) : Int := (Int32.ofInt x).toInt16.toInt32.toInt
def jz_lor (x y : Int) : Int := (Int64.ofInt x ||| Int64.ofInt y).toInt
def jz_land (x y : Int) : Int := (Int64.ofInt x &&& Int64.ofInt y).toInt
def jz_lshl (x y : Int) : Int := (Int64.ofInt x <<< ((Int32.ofInt y).toInt64 &&& 63)).toInt
theorem jz_and_r {x y : Int} : -2147483648 ≤ jz_and x y ∧ jz_and x y < 2147483648 := ⟨Int32.le_toInt _, Int32.toInt_lt _⟩
theorem jz_or_r {x y : Int} : -2147483648 ≤ jz_or x y ∧ jz_or x y < 2147483648 := ⟨Int32.le_toInt _, Int32.toInt_lt _⟩
theorem jz_shr_r {x y : Int} : -2147483648 ≤ jz_shr x y ∧ jz_shr x y < 2147483648 := ⟨Int32.le_toInt _, Int32.toInt_lt _⟩
theorem jz_ushr_r {x y : Int} : -2147483648 ≤ jz_ushr x y ∧ jz_ushr x y < 2147483648 := ⟨Int32.le_toInt _, Int32.toInt_lt _⟩
theorem jz_b_r {x : Int} : -2147483648 ≤ jz_b x ∧ jz_b x < 2147483648 := ⟨Int32.le_toInt _, Int32.toInt_lt _⟩
theorem jz_s_r {x : Int} : -2147483648 ≤ jz_s x ∧ jz_s x < 2147483648 := ⟨Int32.le_toInt _, Int32.toInt_lt _⟩
/-- what a method answers, by its sort -/
def jp_i (P : Int → jZ → jZ → Prop) : Option Value → jm_H → Prop := fun v H => ∃ r J K, v = some (.int (Int32.ofInt r)) ∧ H = jz_H J K ∧ P r J K
def jp_l (P : Int → jZ → jZ → Prop) : Option Value → jm_H → Prop := fun v H => ∃ r J K, v = some (.long (Int64.ofInt r)) ∧ H = jz_H J K ∧ P r J K
def jp_r (P : Nat → jZ → jZ → Prop) : Option Value → jm_H → Prop := fun v H => ∃ r J K, v = some (.ref r) ∧ H = jz_H J K ∧ P r J K
def jp_v (P : jZ → jZ → Prop) : Option Value → jm_H → Prop := fun v H => ∃ J K, v = none ∧ H = jz_H J K ∧ P J K
theorem jp_i_mono {P Q : Int → jZ → jZ → Prop} (h : ∀ r J K, P r J K → Q r J K) : ∀ v H, jp_i P v H → jp_i Q v H := fun _ _ ⟨r, J, K, h1, h2, h3⟩ => ⟨r, J, K, h1, h2, h _ _ _ h3⟩
theorem jp_l_mono {P Q : Int → jZ → jZ → Prop} (h : ∀ r J K, P r J K → Q r J K) : ∀ v H, jp_l P v H → jp_l Q v H := fun _ _ ⟨r, J, K, h1, h2, h3⟩ => ⟨r, J, K, h1, h2, h _ _ _ h3⟩
theorem jp_r_mono {P Q : Nat → jZ → jZ → Prop} (h : ∀ r J K, P r J K → Q r J K) : ∀ v H, jp_r P v H → jp_r Q v H := fun _ _ ⟨r, J, K, h1, h2, h3⟩ => ⟨r, J, K, h1, h2, h _ _ _ h3⟩
theorem jp_v_mono {P Q : jZ → jZ → Prop} (h : ∀ J K, P J K → Q J K) : ∀ v H, jp_v P v H → jp_v Q v H := fun _ _ ⟨J, K, h1, h2, h3⟩ => ⟨J, K, h1, h2, h _ _ h3⟩
section JZW
variable {xs : Nat → Int32} {L d mi pc n a b : Nat} {z : Int} {ls ls' : jm_L} {st : List Value} {H : jm_H} {J K : jZ} {P : Option Value → jm_H → Prop}
theorem jw_n {e : jm_I} {pc' : Nat} {st' : List Value} {H' : jm_H} (ht : jm_tab mi pc = some e) (hs : jm_stp xs L (jm_ex xs L d) e pc ls st H = jm_nx pc' ls' st' H') (h : jm_W xs L d mi pc' ls' st' H' P) : jm_W xs L d mi pc ls st H P := by
  rw [jm_W.next ht hs]
  exact h
theorem jw_iconst {c : Int} (ht : jm_tab mi pc = some (.iconst c, n, a, b, z)) (h : jm_W xs L d mi n ls (.int (Int32.ofInt c) :: st) H P) : jm_W xs L d mi pc ls st H P := jw_n ht rfl h
theorem jw_bipush {c : Int} (ht : jm_tab mi pc = some (.bipush c, n, a, b, z)) (hc : (Int8.ofInt c).toInt32 = Int32.ofInt c) (h : jm_W xs L d mi n ls (.int (Int32.ofInt c) :: st) H P) : jm_W xs L d mi pc ls st H P := jw_n ht rfl (by rw [hc]; exact h)
theorem jw_sipush {c : Int} (ht : jm_tab mi pc = some (.sipush c, n, a, b, z)) (hc : (Int16.ofInt c).toInt32 = Int32.ofInt c) (h : jm_W xs L d mi n ls (.int (Int32.ofInt c) :: st) H P) : jm_W xs L d mi pc ls st H P := jw_n ht rfl (by rw [hc]; exact h)
theorem jw_ldc {c : Nat} (ht : jm_tab mi pc = some (.ldc c, n, a, b, z)) (h : jm_W xs L d mi n ls (.int (Int32.ofInt z) :: st) H P) : jm_W xs L d mi pc ls st H P := jw_n ht rfl h
theorem jw_ldc_w {c : Nat} (ht : jm_tab mi pc = some (.ldc_w c, n, a, b, z)) (h : jm_W xs L d mi n ls (.int (Int32.ofInt z) :: st) H P) : jm_W xs L d mi pc ls st H P := jw_n ht rfl h
theorem jw_ldc2_w {c : Nat} (ht : jm_tab mi pc = some (.ldc2_w c, n, a, b, z)) (h : jm_W xs L d mi n ls (.long (Int64.ofInt z) :: st) H P) : jm_W xs L d mi pc ls st H P := jw_n ht rfl h
theorem jw_lconst {c : Fin 2} {x : Int} (ht : jm_tab mi pc = some (.lconst c, n, a, b, z)) (hx : Int64.ofNat (c : Nat) = Int64.ofInt x) (h : jm_W xs L d mi n ls (.long (Int64.ofInt x) :: st) H P) : jm_W xs L d mi pc ls st H P := jw_n ht (by show jm_nx _ _ (.long (Int64.ofNat (c : Nat)) :: st) _ = _; rw [hx]) h
theorem jw_iload_n {k : Fin 4} {x : Int} (ht : jm_tab mi pc = some (.iload_n k, n, a, b, z)) (hl : ls[(k : Nat)]? = some (some (.int (Int32.ofInt x)))) (h : jm_W xs L d mi n ls (.int (Int32.ofInt x) :: st) H P) : jm_W xs L d mi pc ls st H P := jw_n ht (by simp only [jm_stp, hl]) h
theorem jw_iload {k : Nat} {x : Int} (ht : jm_tab mi pc = some (.iload k, n, a, b, z)) (hl : ls[k]? = some (some (.int (Int32.ofInt x)))) (h : jm_W xs L d mi n ls (.int (Int32.ofInt x) :: st) H P) : jm_W xs L d mi pc ls st H P := jw_n ht (by simp only [jm_stp, hl]) h
theorem jw_lload_n {k : Fin 4} {x : Int} (ht : jm_tab mi pc = some (.lload_n k, n, a, b, z)) (hl : ls[(k : Nat)]? = some (some (.long (Int64.ofInt x)))) (h : jm_W xs L d mi n ls (.long (Int64.ofInt x) :: st) H P) : jm_W xs L d mi pc ls st H P := jw_n ht (by simp only [jm_stp, hl]) h
theorem jw_lload {k : Nat} {x : Int} (ht : jm_tab mi pc = some (.lload k, n, a, b, z)) (hl : ls[k]? = some (some (.long (Int64.ofInt x)))) (h : jm_W xs L d mi n ls (.long (Int64.ofInt x) :: st) H P) : jm_W xs L d mi pc ls st H P := jw_n ht (by simp only [jm_stp, hl]) h
theorem jw_aload_n {k : Fin 4} {x : Nat} (ht : jm_tab mi pc = some (.aload_n k, n, a, b, z)) (hl : ls[(k : Nat)]? = some (some (.ref x))) (h : jm_W xs L d mi n ls (.ref x :: st) H P) : jm_W xs L d mi pc ls st H P := jw_n ht (by simp only [jm_stp, hl]) h
theorem jw_aload_s {k : Fin 4} {x : Nat} (ht : jm_tab mi pc = some (.aload_n k, n, a, b, z)) (hl : ls[(k : Nat)]? = some (some (.retAddr x))) (h : jm_W xs L d mi n ls (.retAddr x :: st) H P) : jm_W xs L d mi pc ls st H P := jw_n ht (by simp only [jm_stp, hl]) h
theorem jw_aload {k : Nat} {x : Nat} (ht : jm_tab mi pc = some (.aload k, n, a, b, z)) (hl : ls[k]? = some (some (.ref x))) (h : jm_W xs L d mi n ls (.ref x :: st) H P) : jm_W xs L d mi pc ls st H P := jw_n ht (by simp only [jm_stp, hl]) h
theorem jw_istore_n {k : Fin 4} {x : Int32} (ht : jm_tab mi pc = some (.istore_n k, n, a, b, z)) (hl : jm_st1 ls (k : Nat) (.int x) = some ls') (h : jm_W xs L d mi n ls' st H P) : jm_W xs L d mi pc ls (.int x :: st) H P := jw_n ht (by simp only [jm_stp, hl, jm_sto]) h
theorem jw_istore {k : Nat} {x : Int32} (ht : jm_tab mi pc = some (.istore k, n, a, b, z)) (hl : jm_st1 ls k (.int x) = some ls') (h : jm_W xs L d mi n ls' st H P) : jm_W xs L d mi pc ls (.int x :: st) H P := jw_n ht (by simp only [jm_stp, hl, jm_sto]) h
theorem jw_lstore {k : Nat} {x : Int64} (ht : jm_tab mi pc = some (.lstore k, n, a, b, z)) (hl : jm_st2 ls k (.long x) = some ls') (h : jm_W xs L d mi n ls' st H P) : jm_W xs L d mi pc ls (.long x :: st) H P := jw_n ht (by simp only [jm_stp, hl, jm_sto]) h
theorem jw_astore_n {k : Fin 4} {x : Nat} (ht : jm_tab mi pc = some (.astore_n k, n, a, b, z)) (hl : jm_st1 ls (k : Nat) (.ref x) = some ls') (h : jm_W xs L d mi n ls' st H P) : jm_W xs L d mi pc ls (.ref x :: st) H P := jw_n ht (by simp only [jm_stp, hl, jm_sto]) h
theorem jw_astore {k : Nat} {x : Nat} (ht : jm_tab mi pc = some (.astore k, n, a, b, z)) (hl : jm_st1 ls k (.ref x) = some ls') (h : jm_W xs L d mi n ls' st H P) : jm_W xs L d mi pc ls (.ref x :: st) H P := jw_n ht (by simp only [jm_stp, hl, jm_sto]) h
theorem jw_iinc {k : Nat} {c x : Int} (ht : jm_tab mi pc = some (.iinc k c, n, a, b, z)) (hx : ls[k]? = some (some (.int (Int32.ofInt x)))) (hl : jm_st1 ls k (.int (Int32.ofInt (x + c))) = some ls') (h : jm_W xs L d mi n ls' st H P) : jm_W xs L d mi pc ls st H P := jw_n ht (by simp only [jm_stp, hx, ← Int32.ofInt_add, hl, jm_sto]) h
theorem jw_iadd {x y : Int} (ht : jm_tab mi pc = some (.iadd, n, a, b, z)) (h : jm_W xs L d mi n ls (.int (Int32.ofInt (x + y)) :: st) H P) : jm_W xs L d mi pc ls (.int (Int32.ofInt y) :: .int (Int32.ofInt x) :: st) H P := jw_n ht rfl (by rw [← Int32.ofInt_add]; exact h)
theorem jw_isub {x y : Int} (ht : jm_tab mi pc = some (.isub, n, a, b, z)) (h : jm_W xs L d mi n ls (.int (Int32.ofInt (x - y)) :: st) H P) : jm_W xs L d mi pc ls (.int (Int32.ofInt y) :: .int (Int32.ofInt x) :: st) H P := jw_n ht rfl (by rw [← Int32.ofInt_sub]; exact h)
theorem jw_imul {x y : Int} (ht : jm_tab mi pc = some (.imul, n, a, b, z)) (h : jm_W xs L d mi n ls (.int (Int32.ofInt (x * y)) :: st) H P) : jm_W xs L d mi pc ls (.int (Int32.ofInt y) :: .int (Int32.ofInt x) :: st) H P := jw_n ht rfl (by rw [← Int32.ofInt_mul]; exact h)
theorem jw_ineg {x : Int} (ht : jm_tab mi pc = some (.ineg, n, a, b, z)) (h : jm_W xs L d mi n ls (.int (Int32.ofInt (-x)) :: st) H P) : jm_W xs L d mi pc ls (.int (Int32.ofInt x) :: st) H P := jw_n ht rfl (by rw [← Int32.ofInt_neg]; exact h)
theorem jw_iand {x y : Int} (ht : jm_tab mi pc = some (.iand, n, a, b, z)) (h : jm_W xs L d mi n ls (.int (Int32.ofInt (jz_and x y)) :: st) H P) : jm_W xs L d mi pc ls (.int (Int32.ofInt y) :: .int (Int32.ofInt x) :: st) H P := jw_n ht rfl (by unfold jz_and at h; rw [Int32.ofInt_toInt] at h; exact h)
theorem jw_ior {x y : Int} (ht : jm_tab mi pc = some (.ior, n, a, b, z)) (h : jm_W xs L d mi n ls (.int (Int32.ofInt (jz_or x y)) :: st) H P) : jm_W xs L d mi pc ls (.int (Int32.ofInt y) :: .int (Int32.ofInt x) :: st) H P := jw_n ht rfl (by unfold jz_or at h; rw [Int32.ofInt_toInt] at h; exact h)
theorem jw_ixor {x y : Int} (ht : jm_tab mi pc = some (.ixor, n, a, b, z)) (h : jm_W xs L d mi n ls (.int (Int32.ofInt (jz_xor x y)) :: st) H P) : jm_W xs L d mi pc ls (.int (Int32.ofInt y) :: .int (Int32.ofInt x) :: st) H P := jw_n ht rfl (by unfold jz_xor at h; rw [Int32.ofInt_toInt] at h; exact h)
theorem jw_ishl {x y : Int} (ht : jm_tab mi pc = some (.ishl, n, a, b, z)) (h : jm_W xs L d mi n ls (.int (Int32.ofInt (jz_shl x y)) :: st) H P) : jm_W xs L d mi pc ls (.int (Int32.ofInt y) :: .int (Int32.ofInt x) :: st) H P := jw_n ht rfl (by unfold jz_shl at h; rw [Int32.ofInt_toInt] at h; exact h)
theorem jw_ishr {x y : Int} (ht : jm_tab mi pc = some (.ishr, n, a, b, z)) (h : jm_W xs L d mi n ls (.int (Int32.ofInt (jz_shr x y)) :: st) H P) : jm_W xs L d mi pc ls (.int (Int32.ofInt y) :: .int (Int32.ofInt x) :: st) H P := jw_n ht rfl (by unfold jz_shr at h; rw [Int32.ofInt_toInt] at h; exact h)
theorem jw_iushr {x y : Int} (ht : jm_tab mi pc = some (.iushr, n, a, b, z)) (h : jm_W xs L d mi n ls (.int (Int32.ofInt (jz_ushr x y)) :: st) H P) : jm_W xs L d mi pc ls (.int (Int32.ofInt y) :: .int (Int32.ofInt x) :: st) H P := jw_n ht rfl (by unfold jz_ushr at h; rw [Int32.ofInt_toInt] at h; exact h)
theorem jz_ne0 {y : Int} (hr : -2147483648 ≤ y ∧ y < 2147483648) (hy : ¬ y = 0) : ¬ Int32.ofInt y = 0 := fun h => hy ((jz_eq hr (show -2147483648 ≤ (0 : Int) ∧ (0 : Int) < 2147483648 by omega)).mp h)
theorem jw_idiv {x y : Int} (ht : jm_tab mi pc = some (.idiv, n, a, b, z)) (hr : -2147483648 ≤ y ∧ y < 2147483648) (hy : ¬ y = 0) (h : jm_W xs L d mi n ls (.int (Int32.ofInt (jz_div x y)) :: st) H P) : jm_W xs L d mi pc ls (.int (Int32.ofInt y) :: .int (Int32.ofInt x) :: st) H P := jw_n ht (by simp only [jm_stp]; rw [if_neg (jz_ne0 hr hy)]) (by unfold jz_div at h; rw [Int32.ofInt_toInt] at h; exact h)
theorem jw_irem {x y : Int} (ht : jm_tab mi pc = some (.irem, n, a, b, z)) (hr : -2147483648 ≤ y ∧ y < 2147483648) (hy : ¬ y = 0) (h : jm_W xs L d mi n ls (.int (Int32.ofInt (jz_rem x y)) :: st) H P) : jm_W xs L d mi pc ls (.int (Int32.ofInt y) :: .int (Int32.ofInt x) :: st) H P := jw_n ht (by simp only [jm_stp]; rw [if_neg (jz_ne0 hr hy)]) (by unfold jz_rem at h; rw [Int32.ofInt_toInt] at h; exact h)
theorem jw_i2b {x : Int} (ht : jm_tab mi pc = some (.i2b, n, a, b, z)) (h : jm_W xs L d mi n ls (.int (Int32.ofInt (jz_b x)) :: st) H P) : jm_W xs L d mi pc ls (.int (Int32.ofInt x) :: st) H P := jw_n ht rfl (by unfold jz_b at h; rw [Int32.ofInt_toInt] at h; exact h)
theorem jw_i2s {x : Int} (ht : jm_tab mi pc = some (.i2s, n, a, b, z)) (h : jm_W xs L d mi n ls (.int (Int32.ofInt (jz_s x)) :: st) H P) : jm_W xs L d mi pc ls (.int (Int32.ofInt x) :: st) H P := jw_n ht rfl (by unfold jz_s at h; rw [Int32.ofInt_toInt] at h; exact h)
theorem jw_ladd {x y : Int} (ht : jm_tab mi pc = some (.ladd, n, a, b, z)) (h : jm_W xs L d mi n ls (.long (Int64.ofInt (x + y)) :: st) H P) : jm_W xs L d mi pc ls (.long (Int64.ofInt y) :: .long (Int64.ofInt x) :: st) H P := jw_n ht rfl (by rw [← Int64.ofInt_add]; exact h)
theorem jw_land {x y : Int} (ht : jm_tab mi pc = some (.land, n, a, b, z)) (h : jm_W xs L d mi n ls (.long (Int64.ofInt (jz_land x y)) :: st) H P) : jm_W xs L d mi pc ls (.long (Int64.ofInt y) :: .long (Int64.ofInt x) :: st) H P := jw_n ht rfl (by unfold jz_land at h; rw [Int64.ofInt_toInt] at h; exact h)
theorem jw_lor {x y : Int} (ht : jm_tab mi pc = some (.lor, n, a, b, z)) (h : jm_W xs L d mi n ls (.long (Int64.ofInt (jz_lor x y)) :: st) H P) : jm_W xs L d mi pc ls (.long (Int64.ofInt y) :: .long (Int64.ofInt x) :: st) H P := jw_n ht rfl (by unfold jz_lor at h; rw [Int64.ofInt_toInt] at h; exact h)
theorem jw_lshl {x y : Int} (ht : jm_tab mi pc = some (.lshl, n, a, b, z)) (h : jm_W xs L d mi n ls (.long (Int64.ofInt (jz_lshl x y)) :: st) H P) : jm_W xs L d mi pc ls (.int (Int32.ofInt y) :: .long (Int64.ofInt x) :: st) H P := jw_n ht rfl (by unfold jz_lshl at h; rw [Int64.ofInt_toInt] at h; exact h)
theorem jw_i2l {x : Int} (ht : jm_tab mi pc = some (.i2l, n, a, b, z)) (hx : -2147483648 ≤ x ∧ x < 2147483648) (h : jm_W xs L d mi n ls (.long (Int64.ofInt x) :: st) H P) : jm_W xs L d mi pc ls (.int (Int32.ofInt x) :: st) H P := jw_n ht rfl (by
  have h1 : (Int32.ofInt x).toInt64 = Int64.ofInt x := Int64.toInt_inj.mp (by rw [Int32.toInt_toInt64, jz_i32 hx, jz_i64 (by omega)])
  rw [h1]
  exact h)
theorem jw_l2i {x : Int} (ht : jm_tab mi pc = some (.l2i, n, a, b, z)) (h : jm_W xs L d mi n ls (.int (Int32.ofInt x) :: st) H P) : jm_W xs L d mi pc ls (.long (Int64.ofInt x) :: st) H P := jw_n ht rfl (by rw [Int64.toInt32_ofInt]; exact h)
theorem jw_dup_i {x : Int32} (ht : jm_tab mi pc = some (.dup, n, a, b, z)) (h : jm_W xs L d mi n ls (.int x :: .int x :: st) H P) : jm_W xs L d mi pc ls (.int x :: st) H P := jw_n ht rfl h
theorem jw_dup_r {x : Nat} (ht : jm_tab mi pc = some (.dup, n, a, b, z)) (h : jm_W xs L d mi n ls (.ref x :: .ref x :: st) H P) : jm_W xs L d mi pc ls (.ref x :: st) H P := jw_n ht rfl h
theorem jw_pop_i {x : Int32} (ht : jm_tab mi pc = some (.pop, n, a, b, z)) (h : jm_W xs L d mi n ls st H P) : jm_W xs L d mi pc ls (.int x :: st) H P := jw_n ht rfl h
theorem jw_pop_r {x : Nat} (ht : jm_tab mi pc = some (.pop, n, a, b, z)) (h : jm_W xs L d mi n ls st H P) : jm_W xs L d mi pc ls (.ref x :: st) H P := jw_n ht rfl h
theorem jw_dup_x1 {x : Int32} {y : Nat} (ht : jm_tab mi pc = some (.dup_x1, n, a, b, z)) (h : jm_W xs L d mi n ls (.int x :: .ref y :: .int x :: st) H P) : jm_W xs L d mi pc ls (.int x :: .ref y :: st) H P := jw_n ht rfl h
theorem jw_dup_x1i {x y : Int32} (ht : jm_tab mi pc = some (.dup_x1, n, a, b, z)) (h : jm_W xs L d mi n ls (.int x :: .int y :: .int x :: st) H P) : jm_W xs L d mi pc ls (.int x :: .int y :: st) H P := jw_n ht rfl h
theorem jw_dup2 {x : Int32} {y : Nat} (ht : jm_tab mi pc = some (.dup2, n, a, b, z)) (h : jm_W xs L d mi n ls (.int x :: .ref y :: .int x :: .ref y :: st) H P) : jm_W xs L d mi pc ls (.int x :: .ref y :: st) H P := jw_n ht rfl h
theorem jw_goto {o : Int} (ht : jm_tab mi pc = some (.goto o, n, a, b, z)) (h : jm_W xs L d mi a ls st H P) : jm_W xs L d mi pc ls st H P := jw_n ht rfl h
theorem jw_ifp {p : Prop} {i : Decidable p} {e : jm_I} {c c' : Prop} (ht : jm_tab mi pc = some e) (hs : jm_stp xs L (jm_ex xs L d) e pc ls st H = jm_ifb p i a n ls' st H) (hp : p ↔ c) (hc : ¬ c ↔ c') (h1 : c → jm_W xs L d mi a ls' st H P) (h2 : c' → jm_W xs L d mi n ls' st H P) : jm_W xs L d mi pc ls st H P := by
  by_cases h : p
  · exact jw_n ht (by rw [hs]; unfold jm_ifb; rw [if_pos h]) (h1 (hp.mp h))
  · exact jw_n ht (by rw [hs]; unfold jm_ifb; rw [if_neg h]) (h2 (hc.mp (fun h' => h (hp.mpr h'))))
theorem jz_0r : -2147483648 ≤ (0 : Int) ∧ (0 : Int) < 2147483648 := by omega
theorem jz_b2 {e : jm_I} {pc' : Nat} {st' : List Value} {p : Prop} {i : Decidable p} {c c' : Prop} (ht : jm_tab mi pc = some e) (hs : jm_stp xs L (jm_ex xs L d) e pc ls st H = jm_ifb p i a n ls st' H) (hp : p ↔ c) (hc : ¬ c ↔ c') (h1 : c → jm_W xs L d mi a ls st' H P) (h2 : c' → jm_W xs L d mi n ls st' H P) : jm_W xs L d mi pc ls st H P := by
  by_cases h : p
  · exact jw_n ht (by rw [hs]; unfold jm_ifb; rw [if_pos h]) (h1 (hp.mp h))
  · exact jw_n ht (by rw [hs]; unfold jm_ifb; rw [if_neg h]) (h2 (hc.mp (fun h' => h (hp.mpr h'))))
section CMP
variable {x y o : Int} (hx : -2147483648 ≤ x ∧ x < 2147483648) (hy : -2147483648 ≤ y ∧ y < 2147483648)
theorem jw_if_eq (ht : jm_tab mi pc = some (.ifCond .eq o, n, a, b, z)) (hx : -2147483648 ≤ x ∧ x < 2147483648) (h1 : x = 0 → jm_W xs L d mi a ls st H P) (h2 : ¬ x = 0 → jm_W xs L d mi n ls st H P) : jm_W xs L d mi pc ls (.int (Int32.ofInt x) :: st) H P := jz_b2 (pc' := 0) ht rfl (jz_eq hx jz_0r) Iff.rfl h1 h2
theorem jw_if_ne (ht : jm_tab mi pc = some (.ifCond .ne o, n, a, b, z)) (hx : -2147483648 ≤ x ∧ x < 2147483648) (h1 : ¬ x = 0 → jm_W xs L d mi a ls st H P) (h2 : x = 0 → jm_W xs L d mi n ls st H P) : jm_W xs L d mi pc ls (.int (Int32.ofInt x) :: st) H P := jz_b2 (pc' := 0) ht rfl (not_congr (jz_eq hx jz_0r)) Decidable.not_not h1 h2
theorem jw_if_lt (ht : jm_tab mi pc = some (.ifCond .lt o, n, a, b, z)) (hx : -2147483648 ≤ x ∧ x < 2147483648) (h1 : x < 0 → jm_W xs L d mi a ls st H P) (h2 : 0 ≤ x → jm_W xs L d mi n ls st H P) : jm_W xs L d mi pc ls (.int (Int32.ofInt x) :: st) H P := jz_b2 (pc' := 0) ht rfl (jz_lt hx jz_0r) Int.not_lt h1 h2
theorem jw_if_ge (ht : jm_tab mi pc = some (.ifCond .ge o, n, a, b, z)) (hx : -2147483648 ≤ x ∧ x < 2147483648) (h1 : 0 ≤ x → jm_W xs L d mi a ls st H P) (h2 : x < 0 → jm_W xs L d mi n ls st H P) : jm_W xs L d mi pc ls (.int (Int32.ofInt x) :: st) H P := jz_b2 (pc' := 0) ht rfl (jz_le jz_0r hx) Int.not_le h1 h2
theorem jw_if_gt (ht : jm_tab mi pc = some (.ifCond .gt o, n, a, b, z)) (hx : -2147483648 ≤ x ∧ x < 2147483648) (h1 : 0 < x → jm_W xs L d mi a ls st H P) (h2 : x ≤ 0 → jm_W xs L d mi n ls st H P) : jm_W xs L d mi pc ls (.int (Int32.ofInt x) :: st) H P := jz_b2 (pc' := 0) ht rfl (jz_lt jz_0r hx) Int.not_lt h1 h2
theorem jw_if_le (ht : jm_tab mi pc = some (.ifCond .le o, n, a, b, z)) (hx : -2147483648 ≤ x ∧ x < 2147483648) (h1 : x ≤ 0 → jm_W xs L d mi a ls st H P) (h2 : 0 < x → jm_W xs L d mi n ls st H P) : jm_W xs L d mi pc ls (.int (Int32.ofInt x) :: st) H P := jz_b2 (pc' := 0) ht rfl (jz_le hx jz_0r) Int.not_le h1 h2
theorem jw_ic_eq (ht : jm_tab mi pc = some (.if_icmp .eq o, n, a, b, z)) (hx : -2147483648 ≤ x ∧ x < 2147483648) (hy : -2147483648 ≤ y ∧ y < 2147483648) (h1 : x = y → jm_W xs L d mi a ls st H P) (h2 : ¬ x = y → jm_W xs L d mi n ls st H P) : jm_W xs L d mi pc ls (.int (Int32.ofInt y) :: .int (Int32.ofInt x) :: st) H P := jz_b2 (pc' := 0) ht rfl (jz_eq hx hy) Iff.rfl h1 h2
theorem jw_ic_ne (ht : jm_tab mi pc = some (.if_icmp .ne o, n, a, b, z)) (hx : -2147483648 ≤ x ∧ x < 2147483648) (hy : -2147483648 ≤ y ∧ y < 2147483648) (h1 : ¬ x = y → jm_W xs L d mi a ls st H P) (h2 : x = y → jm_W xs L d mi n ls st H P) : jm_W xs L d mi pc ls (.int (Int32.ofInt y) :: .int (Int32.ofInt x) :: st) H P := jz_b2 (pc' := 0) ht rfl (not_congr (jz_eq hx hy)) Decidable.not_not h1 h2
theorem jw_ic_lt (ht : jm_tab mi pc = some (.if_icmp .lt o, n, a, b, z)) (hx : -2147483648 ≤ x ∧ x < 2147483648) (hy : -2147483648 ≤ y ∧ y < 2147483648) (h1 : x < y → jm_W xs L d mi a ls st H P) (h2 : y ≤ x → jm_W xs L d mi n ls st H P) : jm_W xs L d mi pc ls (.int (Int32.ofInt y) :: .int (Int32.ofInt x) :: st) H P := jz_b2 (pc' := 0) ht rfl (jz_lt hx hy) Int.not_lt h1 h2
theorem jw_ic_ge (ht : jm_tab mi pc = some (.if_icmp .ge o, n, a, b, z)) (hx : -2147483648 ≤ x ∧ x < 2147483648) (hy : -2147483648 ≤ y ∧ y < 2147483648) (h1 : y ≤ x → jm_W xs L d mi a ls st H P) (h2 : x < y → jm_W xs L d mi n ls st H P) : jm_W xs L d mi pc ls (.int (Int32.ofInt y) :: .int (Int32.ofInt x) :: st) H P := jz_b2 (pc' := 0) ht rfl (jz_le hy hx) Int.not_le h1 h2
theorem jw_ic_gt (ht : jm_tab mi pc = some (.if_icmp .gt o, n, a, b, z)) (hx : -2147483648 ≤ x ∧ x < 2147483648) (hy : -2147483648 ≤ y ∧ y < 2147483648) (h1 : y < x → jm_W xs L d mi a ls st H P) (h2 : x ≤ y → jm_W xs L d mi n ls st H P) : jm_W xs L d mi pc ls (.int (Int32.ofInt y) :: .int (Int32.ofInt x) :: st) H P := jz_b2 (pc' := 0) ht rfl (jz_lt hy hx) Int.not_lt h1 h2
theorem jw_ic_le (ht : jm_tab mi pc = some (.if_icmp .le o, n, a, b, z)) (hx : -2147483648 ≤ x ∧ x < 2147483648) (hy : -2147483648 ≤ y ∧ y < 2147483648) (h1 : x ≤ y → jm_W xs L d mi a ls st H P) (h2 : y < x → jm_W xs L d mi n ls st H P) : jm_W xs L d mi pc ls (.int (Int32.ofInt y) :: .int (Int32.ofInt x) :: st) H P := jz_b2 (pc' := 0) ht rfl (jz_le hx hy) Int.not_le h1 h2
end CMP
theorem jz_cmp {x y : Int} (hx : -9223372036854775808 ≤ x ∧ x < 9223372036854775808) (hy : -9223372036854775808 ≤ y ∧ y < 9223372036854775808) : lg_cmp (Int64.ofInt x) (Int64.ofInt y) = if y < x then 1 else if x = y then 0 else -1 := by
  unfold lg_cmp
  simp only [gt_iff_lt, Int64.lt_iff_toInt_lt, ← Int64.toInt_inj, jz_i64 hx, jz_i64 hy]
section LCMP
variable {x y o : Int} {n2 a2 b2 : Nat} {z2 : Int}
theorem jw_lc_lt (ht : jm_tab mi pc = some (.lcmp, n, a, b, z)) (ht2 : jm_tab mi n = some (.ifCond .lt o, n2, a2, b2, z2)) (hx : -9223372036854775808 ≤ x ∧ x < 9223372036854775808) (hy : -9223372036854775808 ≤ y ∧ y < 9223372036854775808) (h1 : x < y → jm_W xs L d mi a2 ls st H P) (h2 : y ≤ x → jm_W xs L d mi n2 ls st H P) : jm_W xs L d mi pc ls (.long (Int64.ofInt y) :: .long (Int64.ofInt x) :: st) H P := by
  refine jw_n ht rfl (jz_b2 (pc' := 0) ht2 rfl (c := x < y) ?_ Int.not_lt h1 h2)
  rw [jz_cmp hx hy]
  repeat' split
  · exact ⟨fun h => absurd h (by decide), fun h => by omega⟩
  · exact ⟨fun h => absurd h (by decide), fun h => by omega⟩
  · exact ⟨fun h => by omega, fun h => by decide⟩
theorem jw_lc_ge (ht : jm_tab mi pc = some (.lcmp, n, a, b, z)) (ht2 : jm_tab mi n = some (.ifCond .ge o, n2, a2, b2, z2)) (hx : -9223372036854775808 ≤ x ∧ x < 9223372036854775808) (hy : -9223372036854775808 ≤ y ∧ y < 9223372036854775808) (h1 : y ≤ x → jm_W xs L d mi a2 ls st H P) (h2 : x < y → jm_W xs L d mi n2 ls st H P) : jm_W xs L d mi pc ls (.long (Int64.ofInt y) :: .long (Int64.ofInt x) :: st) H P := by
  refine jw_n ht rfl (jz_b2 (pc' := 0) ht2 rfl (c := y ≤ x) ?_ Int.not_le h1 h2)
  rw [jz_cmp hx hy]
  repeat' split
  · exact ⟨fun h => by omega, fun h => by decide⟩
  · exact ⟨fun h => by omega, fun h => by decide⟩
  · exact ⟨fun h => absurd h (by decide), fun h => by omega⟩
theorem jw_lc_gt (ht : jm_tab mi pc = some (.lcmp, n, a, b, z)) (ht2 : jm_tab mi n = some (.ifCond .gt o, n2, a2, b2, z2)) (hx : -9223372036854775808 ≤ x ∧ x < 9223372036854775808) (hy : -9223372036854775808 ≤ y ∧ y < 9223372036854775808) (h1 : y < x → jm_W xs L d mi a2 ls st H P) (h2 : x ≤ y → jm_W xs L d mi n2 ls st H P) : jm_W xs L d mi pc ls (.long (Int64.ofInt y) :: .long (Int64.ofInt x) :: st) H P := by
  refine jw_n ht rfl (jz_b2 (pc' := 0) ht2 rfl (c := y < x) ?_ Int.not_lt h1 h2)
  rw [jz_cmp hx hy]
  repeat' split
  · exact ⟨fun h => by omega, fun h => by decide⟩
  · exact ⟨fun h => absurd h (by decide), fun h => by omega⟩
  · exact ⟨fun h => absurd h (by decide), fun h => by omega⟩
theorem jw_lc_le (ht : jm_tab mi pc = some (.lcmp, n, a, b, z)) (ht2 : jm_tab mi n = some (.ifCond .le o, n2, a2, b2, z2)) (hx : -9223372036854775808 ≤ x ∧ x < 9223372036854775808) (hy : -9223372036854775808 ≤ y ∧ y < 9223372036854775808) (h1 : x ≤ y → jm_W xs L d mi a2 ls st H P) (h2 : y < x → jm_W xs L d mi n2 ls st H P) : jm_W xs L d mi pc ls (.long (Int64.ofInt y) :: .long (Int64.ofInt x) :: st) H P := by
  refine jw_n ht rfl (jz_b2 (pc' := 0) ht2 rfl (c := x ≤ y) ?_ Int.not_le h1 h2)
  rw [jz_cmp hx hy]
  repeat' split
  · exact ⟨fun h => absurd h (by decide), fun h => by omega⟩
  · exact ⟨fun h => by omega, fun h => by decide⟩
  · exact ⟨fun h => by omega, fun h => by decide⟩
theorem jw_lc_eq (ht : jm_tab mi pc = some (.lcmp, n, a, b, z)) (ht2 : jm_tab mi n = some (.ifCond .eq o, n2, a2, b2, z2)) (hx : -9223372036854775808 ≤ x ∧ x < 9223372036854775808) (hy : -9223372036854775808 ≤ y ∧ y < 9223372036854775808) (h1 : x = y → jm_W xs L d mi a2 ls st H P) (h2 : ¬ x = y → jm_W xs L d mi n2 ls st H P) : jm_W xs L d mi pc ls (.long (Int64.ofInt y) :: .long (Int64.ofInt x) :: st) H P := by
  refine jw_n ht rfl (jz_b2 (pc' := 0) ht2 rfl (c := x = y) ?_ Iff.rfl h1 h2)
  rw [jz_cmp hx hy]
  repeat' split
  · exact ⟨fun h => absurd h (by decide), fun h => by omega⟩
  · exact ⟨fun h => by omega, fun h => by decide⟩
  · exact ⟨fun h => absurd h (by decide), fun h => by omega⟩
theorem jw_lc_ne (ht : jm_tab mi pc = some (.lcmp, n, a, b, z)) (ht2 : jm_tab mi n = some (.ifCond .ne o, n2, a2, b2, z2)) (hx : -9223372036854775808 ≤ x ∧ x < 9223372036854775808) (hy : -9223372036854775808 ≤ y ∧ y < 9223372036854775808) (h1 : ¬ x = y → jm_W xs L d mi a2 ls st H P) (h2 : x = y → jm_W xs L d mi n2 ls st H P) : jm_W xs L d mi pc ls (.long (Int64.ofInt y) :: .long (Int64.ofInt x) :: st) H P := by
  refine jw_n ht rfl (jz_b2 (pc' := 0) ht2 rfl (c := ¬ x = y) ?_ Decidable.not_not h1 h2)
  rw [jz_cmp hx hy]
  repeat' split
  · exact ⟨fun h => by omega, fun h => by decide⟩
  · exact ⟨fun h => absurd rfl h, fun h => absurd ‹x = y› h⟩
  · exact ⟨fun h => by assumption, fun h => by decide⟩
end LCMP
theorem jw_tab_out {x dd lo hi : Int} {offs : Array Int} {pc2 : Nat} (ht : jm_tab mi pc = some (.tableswitch dd lo hi offs, n, a, b, z)) (hx : -2147483648 ≤ x ∧ x < 2147483648) (ho : x < lo ∨ hi < x) (hp : (pc : Int) + dd = (pc2 : Int)) (h : jm_W xs L d mi pc2 ls st H P) : jm_W xs L d mi pc ls (.int (Int32.ofInt x) :: st) H P := jw_n ht (by
  simp only [jm_stp, jz_i32 hx, if_pos ho, jm_jmp, hp]
  rw [if_pos (by omega)]
  rfl) h
theorem jw_tab_in {x dd lo hi v : Int} {offs : Array Int} {pc2 : Nat} {o : Int} (ht : jm_tab mi pc = some (.tableswitch dd lo hi offs, n, a, b, z)) (hx : -2147483648 ≤ x ∧ x < 2147483648) (hv : x = v) (hl : lo ≤ v ∧ v ≤ hi) (ho : offs[(v - lo).toNat]? = some o) (hp : (pc : Int) + o = (pc2 : Int)) (h : jm_W xs L d mi pc2 ls st H P) : jm_W xs L d mi pc ls (.int (Int32.ofInt x) :: st) H P := jw_n ht (by
  subst hv
  simp only [jm_stp, jz_i32 hx, jm_jmp]
  rw [if_neg (by omega), ho]
  dsimp only
  rw [hp, if_pos (by omega)]
  rfl) h
theorem jw_look {x dd o : Int} {ps : Array (Int × Int)} {pc2 : Nat} (ht : jm_tab mi pc = some (.lookupswitch dd ps, n, a, b, z)) (hx : -2147483648 ≤ x ∧ x < 2147483648) (ho : Op.lookupswitch.offset ps.toList dd x = o) (hp : (pc : Int) + o = (pc2 : Int)) (h : jm_W xs L d mi pc2 ls st H P) : jm_W xs L d mi pc ls (.int (Int32.ofInt x) :: st) H P := jw_n ht (by
  simp only [jm_stp, jz_i32 hx, jm_jmp, ho]
  rw [hp, if_pos (by omega)]
  rfl) h
theorem jw_gf {ix o : Nat} {v : Int} (ht : jm_tab mi pc = some (.getfield ix, n, a, b, z)) (hz : ¬ z = 1) (hk : jz_kd o = 10 + a) (hv : J o b = v) (h : jm_W xs L d mi n ls (.int (Int32.ofInt v) :: st) (jz_H J K) P) : jm_W xs L d mi pc ls (.ref o :: st) (jz_H J K) P := jw_n ht (by
  have h1 : jm_kd (jz_H J K) o = 10 + a := by
    rw [show 10 + a = (9 + a) + 1 by omega] at hk ⊢
    exact jz_kdH hk
  simp only [jm_stp]
  rw [if_pos h1, if_neg hz]) (by rw [← hv] at h; exact h)
theorem jw_gr {ix o q : Nat} (ht : jm_tab mi pc = some (.getfield ix, n, a, b, 1)) (hk : jz_kd o = 10 + a) (hr : jz_rf o b = some q) (h : jm_W xs L d mi n ls (.ref q :: st) (jz_H J K) P) : jm_W xs L d mi pc ls (.ref o :: st) (jz_H J K) P := jw_n ht (by
  have h1 : jm_kd (jz_H J K) o = 10 + a := by
    rw [show 10 + a = (9 + a) + 1 by omega] at hk ⊢
    exact jz_kdH hk
  simp only [jm_stp]
  rw [if_pos h1, if_pos trivial, jz_rfH hr]
  rfl) h
theorem jw_pf {ix o : Nat} {v : Int} (ht : jm_tab mi pc = some (.putfield ix, n, a, b, 0)) (hk : jz_kd o = 10 + a) (h : jm_W xs L d mi n ls st (jz_H (jm_up J o b v) K) P) : jm_W xs L d mi pc ls (.int (Int32.ofInt v) :: .ref o :: st) (jz_H J K) P := jw_n ht (by
  have h1 : jm_kd (jz_H J K) o = 10 + a := by
    rw [show 10 + a = (9 + a) + 1 by omega] at hk ⊢
    exact jz_kdH hk
  simp only [jm_stp]
  rw [if_pos ⟨h1, by decide, fun h => absurd h (by decide)⟩]) (by
  unfold jz_H at h ⊢
  rw [← jz_up] at h
  exact h)
theorem jw_pfz {ix o : Nat} {v : Int} (ht : jm_tab mi pc = some (.putfield ix, n, a, b, 2)) (hk : jz_kd o = 10 + a) (hv : v = 0 ∨ v = 1) (h : jm_W xs L d mi n ls st (jz_H (jm_up J o b v) K) P) : jm_W xs L d mi pc ls (.int (Int32.ofInt v) :: .ref o :: st) (jz_H J K) P := jw_n ht (by
  have h1 : jm_kd (jz_H J K) o = 10 + a := by
    rw [show 10 + a = (9 + a) + 1 by omega] at hk ⊢
    exact jz_kdH hk
  simp only [jm_stp]
  rw [if_pos ⟨h1, by decide, fun _ => by rcases hv with rfl | rfl <;> decide⟩]) (by
  unfold jz_H at h ⊢
  rw [← jz_up] at h
  exact h)
theorem jz_rng {N : Int} {i : Int} {o : Nat} (hl : (jz_ln o : Int) = N) (hN : N ≤ 2147483648) (hi : 0 ≤ i ∧ i < N) : 0 ≤ Int32.ofInt i ∧ (Int32.ofInt i).toNatClampNeg < jz_ln o ∧ (Int32.ofInt i).toNatClampNeg = i.toNat := jz_nat (by omega) (by omega)
theorem jw_iald {o : Nat} {i v N : Int} (ht : jm_tab mi pc = some (.iaload, n, a, b, z)) (hk : jz_kd o = 1) (hl : (jz_ln o : Int) = N) (hN : N ≤ 2147483648) (hi : 0 ≤ i ∧ i < N) (hv : J o i.toNat = v) (h : jm_W xs L d mi n ls (.int (Int32.ofInt v) :: st) (jz_H J K) P) : jm_W xs L d mi pc ls (.int (Int32.ofInt i) :: .ref o :: st) (jz_H J K) P := jw_n ht (by
  obtain ⟨h1, h2, h3⟩ := jz_rng hl hN hi
  simp only [jm_stp]
  rw [if_pos ⟨jz_kdH hk, h1, by rw [jz_lnH hk]; exact h2⟩, h3]) (by rw [← hv] at h; exact h)
theorem jw_lald {o : Nat} {i v N : Int} (ht : jm_tab mi pc = some (.laload, n, a, b, z)) (hk : jz_kd o = 2) (hl : (jz_ln o : Int) = N) (hN : N ≤ 2147483648) (hi : 0 ≤ i ∧ i < N) (hv : K o i.toNat = v) (h : jm_W xs L d mi n ls (.long (Int64.ofInt v) :: st) (jz_H J K) P) : jm_W xs L d mi pc ls (.int (Int32.ofInt i) :: .ref o :: st) (jz_H J K) P := jw_n ht (by
  obtain ⟨h1, h2, h3⟩ := jz_rng hl hN hi
  simp only [jm_stp]
  rw [if_pos ⟨jz_kdH hk, h1, by rw [jz_lnH hk]; exact h2⟩, h3]) (by rw [← hv] at h; exact h)
theorem jw_aald {o q k : Nat} {i N : Int} (ht : jm_tab mi pc = some (.aaload, n, a, b, z)) (hk : jz_kd o = k + 1) (hkk : 3 ≤ k + 1 ∧ k + 1 ≤ 6) (hl : (jz_ln o : Int) = N) (hN : N ≤ 2147483648) (hi : 0 ≤ i ∧ i < N) (hr : jz_rf o i.toNat = some q) (h : jm_W xs L d mi n ls (.ref q :: st) (jz_H J K) P) : jm_W xs L d mi pc ls (.int (Int32.ofInt i) :: .ref o :: st) (jz_H J K) P := jw_n ht (by
  obtain ⟨h1, h2, h3⟩ := jz_rng hl hN hi
  simp only [jm_stp]
  rw [if_pos ⟨by rw [jz_kdH hk]; exact hkk, h1, by rw [jz_lnH hk]; exact h2⟩, h3, jz_rfH hr]
  rfl) h
theorem jw_iast {o : Nat} {i v N : Int} (ht : jm_tab mi pc = some (.iastore, n, a, b, z)) (hk : jz_kd o = 1) (hl : (jz_ln o : Int) = N) (hN : N ≤ 2147483648) (hi : 0 ≤ i ∧ i < N) (h : jm_W xs L d mi n ls st (jz_H (jm_up J o i.toNat v) K) P) : jm_W xs L d mi pc ls (.int (Int32.ofInt v) :: .int (Int32.ofInt i) :: .ref o :: st) (jz_H J K) P := jw_n ht (by
  obtain ⟨h1, h2, h3⟩ := jz_rng hl hN hi
  simp only [jm_stp]
  rw [if_pos ⟨jz_kdH hk, h1, by rw [jz_lnH hk]; exact h2⟩, h3]) (by
  unfold jz_H at h ⊢
  rw [← jz_up] at h
  exact h)
theorem jw_last {o : Nat} {i v N : Int} (ht : jm_tab mi pc = some (.lastore, n, a, b, z)) (hk : jz_kd o = 2) (hl : (jz_ln o : Int) = N) (hN : N ≤ 2147483648) (hi : 0 ≤ i ∧ i < N) (h : jm_W xs L d mi n ls st (jz_H J (jm_up K o i.toNat v)) P) : jm_W xs L d mi pc ls (.long (Int64.ofInt v) :: .int (Int32.ofInt i) :: .ref o :: st) (jz_H J K) P := jw_n ht (by
  obtain ⟨h1, h2, h3⟩ := jz_rng hl hN hi
  simp only [jm_stp]
  rw [if_pos ⟨jz_kdH hk, h1, by rw [jz_lnH hk]; exact h2⟩, h3]) (by
  unfold jz_H at h ⊢
  rw [← jz_upl] at h
  exact h)
theorem jw_alen {o k : Nat} {N : Int} (ht : jm_tab mi pc = some (.arraylength, n, a, b, z)) (hk : jz_kd o = k + 1) (hkk : k + 1 ≤ 6) (hl : (jz_ln o : Int) = N) (h : jm_W xs L d mi n ls (.int (Int32.ofInt N) :: st) (jz_H J K) P) : jm_W xs L d mi pc ls (.ref o :: st) (jz_H J K) P := jw_n ht (by
  simp only [jm_stp]
  rw [if_pos ⟨by rw [jz_kdH hk]; omega, by rw [jz_kdH hk]; exact hkk⟩, jz_lnH hk]) (by rw [← hl] at h; exact h)
theorem jw_slen {x : Nat} (ht : jm_tab mi pc = some (.arraylength, n, a, b, z)) (hL : L < 2147483648) (h : jm_W xs L d mi n ls (.int (Int32.ofInt (L : Int)) :: st) H P) : jm_W xs L d mi pc ls (.retAddr x :: st) H P := jw_n ht (by
  simp only [jm_stp]
  rw [if_pos hL, Int32.ofInt_eq_ofNat]) h
theorem jw_sld {x : Nat} {i : Int} (ht : jm_tab mi pc = some (.iaload, n, a, b, z)) (hL : L < 2147483648) (hi : 0 ≤ i ∧ i < (L : Int)) (h : jm_W xs L d mi n ls (.int (Int32.ofInt (xs i.toNat).toInt) :: st) H P) : jm_W xs L d mi pc ls (.int (Int32.ofInt i) :: .retAddr x :: st) H P := jw_n ht (by
  obtain ⟨h1, h2, h3⟩ := jz_nat hi (by omega)
  simp only [jm_stp]
  rw [if_pos ⟨hL, h1, h2⟩, h3]) (by rw [Int32.ofInt_toInt] at h; exact h)
theorem jw_max {ix : Nat} {x y : Int} (ht : jm_tab mi pc = some (.invokestatic ix, n, a, 13, z)) (hx : -2147483648 ≤ x ∧ x < 2147483648) (hy : -2147483648 ≤ y ∧ y < 2147483648) (hc : jm_cat st ≤ 8) (h : jm_W xs L d mi n ls (.int (Int32.ofInt (max x y)) :: st) H P) : jm_W xs L d mi pc ls (.int (Int32.ofInt y) :: .int (Int32.ofInt x) :: st) H P := jw_n (st' := .int (Int32.ofInt (max x y)) :: st) ht (by
  simp only [jm_stp]
  rw [if_neg (by decide), if_pos trivial, if_pos hc]
  congr 3
  by_cases h : x < y
  · rw [if_pos ((jz_lt hx hy).mpr h), show max x y = y by omega]
  · rw [if_neg (fun h' => h ((jz_lt hx hy).mp h')), show max x y = x by omega]) h
theorem jw_min {ix : Nat} {x y : Int} (ht : jm_tab mi pc = some (.invokestatic ix, n, a, 14, z)) (hx : -2147483648 ≤ x ∧ x < 2147483648) (hy : -2147483648 ≤ y ∧ y < 2147483648) (hc : jm_cat st ≤ 8) (h : jm_W xs L d mi n ls (.int (Int32.ofInt (min x y)) :: st) H P) : jm_W xs L d mi pc ls (.int (Int32.ofInt y) :: .int (Int32.ofInt x) :: st) H P := jw_n (st' := .int (Int32.ofInt (min x y)) :: st) ht (by
  simp only [jm_stp]
  rw [if_neg (by decide), if_neg (by decide), if_pos trivial, if_pos hc]
  congr 3
  by_cases h : y < x
  · rw [if_pos ((jz_lt hy hx).mpr h), show min x y = y by omega]
  · rw [if_neg (fun h' => h ((jz_lt hy hx).mp h')), show min x y = x by omega]) h
theorem jw_cpi {ix s t : Nat} {sp tp m N M : Int} (ht : jm_tab mi pc = some (.invokestatic ix, n, a, 12, z)) (hks : jz_kd s = 1) (hkt : jz_kd t = 1) (hls : (jz_ln s : Int) = N) (hlt : (jz_ln t : Int) = M) (hN : N ≤ 100000 ∧ M ≤ 100000) (hs : 0 ≤ sp ∧ 0 ≤ tp ∧ 0 ≤ m ∧ sp + m ≤ N ∧ tp + m ≤ M) (hc : jm_cat st ≤ 8) (h : jm_W xs L d mi n ls st (jz_H (jz_cpy J s sp.toNat t tp.toNat m.toNat) K) P) : jm_W xs L d mi pc ls (.int (Int32.ofInt m) :: .int (Int32.ofInt tp) :: .ref t :: .int (Int32.ofInt sp) :: .ref s :: st) (jz_H J K) P := jw_n (H' := jz_H (jz_cpy J s sp.toNat t tp.toNat m.toNat) K) ht (by
  obtain ⟨a1, -, a3⟩ := jz_nat (i := sp) (n := 200000) (by omega) (by omega)
  obtain ⟨b1, -, b3⟩ := jz_nat (i := tp) (n := 200000) (by omega) (by omega)
  obtain ⟨c1, -, c3⟩ := jz_nat (i := m) (n := 200000) (by omega) (by omega)
  simp only [jm_stp]
  rw [if_pos trivial, if_pos ⟨hc, a1, b1, c1, by rw [a3, c3, jz_lnH hks]; omega, by rw [b3, c3, jz_lnH hkt]; omega⟩, if_pos ⟨jz_kdH hks, jz_kdH hkt⟩, a3, b3, c3]
  unfold jz_H
  dsimp only
  rw [jz_cp]) h
theorem jw_cpl {ix s t : Nat} {sp tp m N M : Int} (ht : jm_tab mi pc = some (.invokestatic ix, n, a, 12, z)) (hks : jz_kd s = 2) (hkt : jz_kd t = 2) (hls : (jz_ln s : Int) = N) (hlt : (jz_ln t : Int) = M) (hN : N ≤ 100000 ∧ M ≤ 100000) (hs : 0 ≤ sp ∧ 0 ≤ tp ∧ 0 ≤ m ∧ sp + m ≤ N ∧ tp + m ≤ M) (hc : jm_cat st ≤ 8) (h : jm_W xs L d mi n ls st (jz_H J (jz_cpy K s sp.toNat t tp.toNat m.toNat)) P) : jm_W xs L d mi pc ls (.int (Int32.ofInt m) :: .int (Int32.ofInt tp) :: .ref t :: .int (Int32.ofInt sp) :: .ref s :: st) (jz_H J K) P := jw_n (H' := jz_H J (jz_cpy K s sp.toNat t tp.toNat m.toNat)) ht (by
  obtain ⟨a1, -, a3⟩ := jz_nat (i := sp) (n := 200000) (by omega) (by omega)
  obtain ⟨b1, -, b3⟩ := jz_nat (i := tp) (n := 200000) (by omega) (by omega)
  obtain ⟨c1, -, c3⟩ := jz_nat (i := m) (n := 200000) (by omega) (by omega)
  simp only [jm_stp]
  rw [if_pos trivial, if_pos ⟨hc, a1, b1, c1, by rw [a3, c3, jz_lnH hks]; omega, by rw [b3, c3, jz_lnH hkt]; omega⟩, if_neg (fun h => by rw [jz_kdH (n := 1) hks] at h; omega), if_pos ⟨jz_kdH hks, jz_kdH hkt⟩, a3, b3, c3]
  unfold jz_H
  dsimp only
  rw [jz_cpl]) h
theorem jw_virt {ix o k c : Nat} {as r : List Value} (ht : jm_tab mi pc = some (.invokevirtual ix, n, a, b, z)) (hn : jm_np a = k) (hd : st.drop k = .ref o :: r) (hl : k ≤ st.length) (ha : (st.take k).reverse = as) (hc : jm_cat r ≤ 8) (hk : jz_kd o = c + 1) (hz : ((c + 1 : Nat) : Int) = 10 + z) (h : jm_Q xs L d a (.ref o :: as) (jz_H J K) (fun v H' => jm_W xs L d mi n ls (v.toList ++ r) H' P)) : jm_W xs L d mi pc ls st (jz_H J K) P := by
  rw [jm_W.call (e := (.invokevirtual ix, n, a, b, z)) (pc' := n) (a := a) (ls' := ls) (st' := r) (as := .ref o :: as) ht ?_]
  · exact h
  · subst hn
    simp only [jm_stp]
    rw [hd]
    dsimp only
    rw [if_pos ⟨hl, hc, by rw [jz_kdH hk]; exact hz⟩, ha]
theorem jw_spec {ix o k : Nat} {as r : List Value} (ht : jm_tab mi pc = some (.invokespecial ix, n, a, b, z)) (hb : ¬ b = 6) (hn : jm_np a = k) (hd : st.drop k = .ref o :: r) (hl : k ≤ st.length) (ha : (st.take k).reverse = as) (hc : jm_cat r ≤ 8) (h : jm_Q xs L d a (.ref o :: as) H (fun v H' => jm_W xs L d mi n ls (v.toList ++ r) H' P)) : jm_W xs L d mi pc ls st H P := by
  rw [jm_W.call (e := (.invokespecial ix, n, a, b, z)) (pc' := n) (a := a) (ls' := ls) (st' := r) (as := .ref o :: as) ht ?_]
  · exact h
  · subst hn
    simp only [jm_stp]
    rw [hd]
    dsimp only
    rw [if_pos ⟨hl, hc⟩, if_neg hb, ha]
theorem jw_stat {ix k : Nat} {as r : List Value} (ht : jm_tab mi pc = some (.invokestatic ix, n, a, b, z)) (hb : ¬ b = 12 ∧ ¬ b = 13 ∧ ¬ b = 14) (hn : jm_np a = k) (hd : st.drop k = r) (hl : k ≤ st.length) (ha : (st.take k).reverse = as) (hc : jm_cat r ≤ 8) (h : jm_Q xs L d a as H (fun v H' => jm_W xs L d mi n ls (v.toList ++ r) H' P)) : jm_W xs L d mi pc ls st H P := by
  rw [jm_W.call (e := (.invokestatic ix, n, a, b, z)) (pc' := n) (a := a) (ls' := ls) (st' := r) (as := as) ht ?_]
  · exact h
  · subst hn
    simp only [jm_stp]
    rw [if_neg hb.1, if_neg hb.2.1, if_neg hb.2.2, hd, if_pos ⟨hl, hc⟩, ha]
theorem jz_ci {args : List Value} (h : jm_Q xs L d a args H (jp_i (fun r J' K' => jm_W xs L d mi n ls (.int (Int32.ofInt r) :: st) (jz_H J' K') P))) : jm_Q xs L d a args H (fun v H' => jm_W xs L d mi n ls (v.toList ++ st) H' P) := jm_Q.mono h (by
  rintro _ _ ⟨r, J', K', rfl, rfl, h⟩
  exact h)
theorem jz_cl {args : List Value} (h : jm_Q xs L d a args H (jp_l (fun r J' K' => jm_W xs L d mi n ls (.long (Int64.ofInt r) :: st) (jz_H J' K') P))) : jm_Q xs L d a args H (fun v H' => jm_W xs L d mi n ls (v.toList ++ st) H' P) := jm_Q.mono h (by
  rintro _ _ ⟨r, J', K', rfl, rfl, h⟩
  exact h)
theorem jz_cr {args : List Value} (h : jm_Q xs L d a args H (jp_r (fun r J' K' => jm_W xs L d mi n ls (.ref r :: st) (jz_H J' K') P))) : jm_Q xs L d a args H (fun v H' => jm_W xs L d mi n ls (v.toList ++ st) H' P) := jm_Q.mono h (by
  rintro _ _ ⟨r, J', K', rfl, rfl, h⟩
  exact h)
theorem jz_cv {args : List Value} (h : jm_Q xs L d a args H (jp_v (fun J' K' => jm_W xs L d mi n ls st (jz_H J' K') P))) : jm_Q xs L d a args H (fun v H' => jm_W xs L d mi n ls (v.toList ++ st) H' P) := jm_Q.mono h (by
  rintro _ _ ⟨J', K', rfl, rfl, h⟩
  exact h)
theorem jq_in {q : jm_M} {args : List Value} (hm : jm_MT[mi]? = some q) (hl : (lg_sl args).length ≤ q.2.2.1) (he : jm_ent args q.2.2.1 = ls) (h : jm_W xs L d mi 0 ls [] H P) : jm_Q xs L (d + 1) mi args H P := by
  rw [jm_Q.enter hm hl, he]
  exact h
theorem jw_iret {x : Int} {R : Int → jZ → jZ → Prop} (ht : jm_tab mi pc = some (.ireturn, n, 0, b, z)) (h : R x J K) : jm_W xs L d mi pc ls [.int (Int32.ofInt x)] (jz_H J K) (jp_i R) := by
  rw [jm_W.ret (r := (some (.int (Int32.ofInt x)), jz_H J K)) ht (by
    simp only [jm_stp]
    rw [if_pos (fun h => absurd h (by decide))])]
  exact ⟨x, J, K, rfl, rfl, h⟩
theorem jw_zret {x : Int} {R : Int → jZ → jZ → Prop} (ht : jm_tab mi pc = some (.ireturn, n, 1, b, z)) (hx : x = 0 ∨ x = 1) (h : R x J K) : jm_W xs L d mi pc ls [.int (Int32.ofInt x)] (jz_H J K) (jp_i R) := by
  rw [jm_W.ret (r := (some (.int (Int32.ofInt x)), jz_H J K)) ht (by
    simp only [jm_stp]
    rw [if_pos (fun _ => by rcases hx with rfl | rfl <;> decide)])]
  exact ⟨x, J, K, rfl, rfl, h⟩
theorem jw_lret {x : Int} {R : Int → jZ → jZ → Prop} (ht : jm_tab mi pc = some (.lreturn, n, a, b, z)) (h : R x J K) : jm_W xs L d mi pc ls [.long (Int64.ofInt x)] (jz_H J K) (jp_l R) := by
  rw [jm_W.ret (r := (some (.long (Int64.ofInt x)), jz_H J K)) ht rfl]
  exact ⟨x, J, K, rfl, rfl, h⟩
theorem jw_aret {x : Nat} {R : Nat → jZ → jZ → Prop} (ht : jm_tab mi pc = some (.areturn, n, a, b, z)) (h : R x J K) : jm_W xs L d mi pc ls [.ref x] (jz_H J K) (jp_r R) := by
  rw [jm_W.ret (r := (some (.ref x), jz_H J K)) ht rfl]
  exact ⟨x, J, K, rfl, rfl, h⟩
theorem jw_vret {R : jZ → jZ → Prop} (ht : jm_tab mi pc = some (.return_, n, a, b, z)) (h : R J K) : jm_W xs L d mi pc ls [] (jz_H J K) (jp_v R) := by
  rw [jm_W.ret (r := (none, jz_H J K)) ht rfl]
  exact ⟨J, K, rfl, rfl, h⟩
end JZW
end
