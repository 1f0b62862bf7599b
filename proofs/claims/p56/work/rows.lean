section
-- ===== PART A: goes FIRST, ahead of the names: the tables' words, and 'selects' of the private methods out of them =====
/-- a private method of a class that the tables say can be made, by its rows of tables_1 -/
def lw_okq (q : MethodName × Nat) : Prop := (q.1.cls ≠ "java/lang/invoke/MethodHandle" ∧ q.1.cls ≠ "java/lang/invoke/VarHandle") ∧ Cond.instantiable q.1.cls q.2 ∈ tables_1 ∧ Cond.privateMethod q.1 ∈ tables_1 ∧ Cond.instanceMethod q.1 ∈ tables_1
theorem lw_p0 : lw_okq (⟨"LeapingPassages", "refuse", "(I)I"⟩, 12) := ⟨⟨by decide +kernel, by decide +kernel⟩, List.mem_of_getElem? (i := 20) (by decide +kernel), List.mem_of_getElem? (i := 320) (by decide +kernel), List.mem_of_getElem? (i := 321) (by decide +kernel)⟩
theorem lw_p1 : lw_okq (⟨"LeapingPassages", "emptyShelvesOfLostAsks", "()V"⟩, 12) := ⟨⟨by decide +kernel, by decide +kernel⟩, List.mem_of_getElem? (i := 20) (by decide +kernel), List.mem_of_getElem? (i := 328) (by decide +kernel), List.mem_of_getElem? (i := 329) (by decide +kernel)⟩
theorem lw_p2 : lw_okq (⟨"LeapingPassages$Lists", "make", "(I)V"⟩, 7) := ⟨⟨by decide +kernel, by decide +kernel⟩, List.mem_of_getElem? (i := 138) (by decide +kernel), List.mem_of_getElem? (i := 361) (by decide +kernel), List.mem_of_getElem? (i := 362) (by decide +kernel)⟩
theorem lw_p3 : lw_okq (⟨"LeapingPassages$Lists", "findRun", "(LLeapingPassages$Ask;LLeapingPassages$Spans;)V"⟩, 7) := ⟨⟨by decide +kernel, by decide +kernel⟩, List.mem_of_getElem? (i := 138) (by decide +kernel), List.mem_of_getElem? (i := 365) (by decide +kernel), List.mem_of_getElem? (i := 366) (by decide +kernel)⟩
theorem lw_p4 : lw_okq (⟨"LeapingPassages$Lists", "hasWord", "(II)Z"⟩, 7) := ⟨⟨by decide +kernel, by decide +kernel⟩, List.mem_of_getElem? (i := 138) (by decide +kernel), List.mem_of_getElem? (i := 369) (by decide +kernel), List.mem_of_getElem? (i := 370) (by decide +kernel)⟩
theorem lw_p5 : lw_okq (⟨"LeapingPassages$Lists", "listOf", "(I)LLeapingPassages$Spans;"⟩, 7) := ⟨⟨by decide +kernel, by decide +kernel⟩, List.mem_of_getElem? (i := 138) (by decide +kernel), List.mem_of_getElem? (i := 383) (by decide +kernel), List.mem_of_getElem? (i := 384) (by decide +kernel)⟩
theorem lw_p6 : lw_okq (⟨"LeapingPassages$Lists", "keepShort", "(LLeapingPassages$Spans;ILLeapingPassages$Spans;)V"⟩, 7) := ⟨⟨by decide +kernel, by decide +kernel⟩, List.mem_of_getElem? (i := 138) (by decide +kernel), List.mem_of_getElem? (i := 387) (by decide +kernel), List.mem_of_getElem? (i := 388) (by decide +kernel)⟩
theorem lw_p7 : lw_okq (⟨"LeapingPassages$Lists", "gather", "(ILLeapingPassages$Spans;LLeapingPassages$Spans;LLeapingPassages$Spans;)V"⟩, 7) := ⟨⟨by decide +kernel, by decide +kernel⟩, List.mem_of_getElem? (i := 138) (by decide +kernel), List.mem_of_getElem? (i := 402) (by decide +kernel), List.mem_of_getElem? (i := 403) (by decide +kernel)⟩
theorem lw_p8 : lw_okq (⟨"LeapingPassages$Lists", "sift", "(ILLeapingPassages$Spans;LLeapingPassages$Spans;LLeapingPassages$Spans;)V"⟩, 7) := ⟨⟨by decide +kernel, by decide +kernel⟩, List.mem_of_getElem? (i := 138) (by decide +kernel), List.mem_of_getElem? (i := 441) (by decide +kernel), List.mem_of_getElem? (i := 442) (by decide +kernel)⟩
theorem lw_p9 : lw_okq (⟨"LeapingPassages$Lists", "follow", "(LLeapingPassages$Spans;LLeapingPassages$Spans;)V"⟩, 7) := ⟨⟨by decide +kernel, by decide +kernel⟩, List.mem_of_getElem? (i := 138) (by decide +kernel), List.mem_of_getElem? (i := 445) (by decide +kernel), List.mem_of_getElem? (i := 446) (by decide +kernel)⟩
theorem lw_p10 : lw_okq (⟨"LeapingPassages", "shelvesInUse", "()I"⟩, 12) := ⟨⟨by decide +kernel, by decide +kernel⟩, List.mem_of_getElem? (i := 20) (by decide +kernel), List.mem_of_getElem? (i := 524) (by decide +kernel), List.mem_of_getElem? (i := 525) (by decide +kernel)⟩
theorem lw_p11 : lw_okq (⟨"LeapingPassages", "addedLeaf", "(III)I"⟩, 12) := ⟨⟨by decide +kernel, by decide +kernel⟩, List.mem_of_getElem? (i := 20) (by decide +kernel), List.mem_of_getElem? (i := 553) (by decide +kernel), List.mem_of_getElem? (i := 554) (by decide +kernel)⟩
theorem lw_p12 : lw_okq (⟨"LeapingPassages", "addedOver", "(IIIII)I"⟩, 12) := ⟨⟨by decide +kernel, by decide +kernel⟩, List.mem_of_getElem? (i := 20) (by decide +kernel), List.mem_of_getElem? (i := 580) (by decide +kernel), List.mem_of_getElem? (i := 581) (by decide +kernel)⟩
theorem lw_p13 : lw_okq (⟨"LeapingPassages$AskReader", "readPlain", "(I)V"⟩, 10) := ⟨⟨by decide +kernel, by decide +kernel⟩, List.mem_of_getElem? (i := 220) (by decide +kernel), List.mem_of_getElem? (i := 672) (by decide +kernel), List.mem_of_getElem? (i := 673) (by decide +kernel)⟩
theorem lw_p14 : lw_okq (⟨"LeapingPassages$AskReader", "leaf", "(III)V"⟩, 10) := ⟨⟨by decide +kernel, by decide +kernel⟩, List.mem_of_getElem? (i := 220) (by decide +kernel), List.mem_of_getElem? (i := 679) (by decide +kernel), List.mem_of_getElem? (i := 680) (by decide +kernel)⟩
theorem lw_p15 : lw_okq (⟨"LeapingPassages$AskReader", "pushWhole", "()V"⟩, 10) := ⟨⟨by decide +kernel, by decide +kernel⟩, List.mem_of_getElem? (i := 220) (by decide +kernel), List.mem_of_getElem? (i := 684) (by decide +kernel), List.mem_of_getElem? (i := 685) (by decide +kernel)⟩
def lw_privs_1 : List (MethodName × Nat) := [(⟨"LeapingPassages", "refuse", "(I)I"⟩, 12), (⟨"LeapingPassages", "emptyShelvesOfLostAsks", "()V"⟩, 12), (⟨"LeapingPassages$Lists", "make", "(I)V"⟩, 7), (⟨"LeapingPassages$Lists", "findRun", "(LLeapingPassages$Ask;LLeapingPassages$Spans;)V"⟩, 7), (⟨"LeapingPassages$Lists", "hasWord", "(II)Z"⟩, 7), (⟨"LeapingPassages$Lists", "listOf", "(I)LLeapingPassages$Spans;"⟩, 7), (⟨"LeapingPassages$Lists", "keepShort", "(LLeapingPassages$Spans;ILLeapingPassages$Spans;)V"⟩, 7), (⟨"LeapingPassages$Lists", "gather", "(ILLeapingPassages$Spans;LLeapingPassages$Spans;LLeapingPassages$Spans;)V"⟩, 7), (⟨"LeapingPassages$Lists", "sift", "(ILLeapingPassages$Spans;LLeapingPassages$Spans;LLeapingPassages$Spans;)V"⟩, 7), (⟨"LeapingPassages$Lists", "follow", "(LLeapingPassages$Spans;LLeapingPassages$Spans;)V"⟩, 7), (⟨"LeapingPassages", "shelvesInUse", "()I"⟩, 12), (⟨"LeapingPassages", "addedLeaf", "(III)I"⟩, 12), (⟨"LeapingPassages", "addedOver", "(IIIII)I"⟩, 12), (⟨"LeapingPassages$AskReader", "readPlain", "(I)V"⟩, 10), (⟨"LeapingPassages$AskReader", "leaf", "(III)V"⟩, 10), (⟨"LeapingPassages$AskReader", "pushWhole", "()V"⟩, 10)]
theorem lw_r1 : ∀ q ∈ lw_privs_1, lw_okq q := List.forall_mem_cons.mpr ⟨lw_p0, List.forall_mem_cons.mpr ⟨lw_p1, List.forall_mem_cons.mpr ⟨lw_p2, List.forall_mem_cons.mpr ⟨lw_p3, List.forall_mem_cons.mpr ⟨lw_p4, List.forall_mem_cons.mpr ⟨lw_p5, List.forall_mem_cons.mpr ⟨lw_p6, List.forall_mem_cons.mpr ⟨lw_p7, List.forall_mem_cons.mpr ⟨lw_p8, List.forall_mem_cons.mpr ⟨lw_p9, List.forall_mem_cons.mpr ⟨lw_p10, List.forall_mem_cons.mpr ⟨lw_p11, List.forall_mem_cons.mpr ⟨lw_p12, List.forall_mem_cons.mpr ⟨lw_p13, List.forall_mem_cons.mpr ⟨lw_p14, List.forall_mem_cons.mpr ⟨lw_p15, fun _ h => absurd h List.not_mem_nil⟩⟩⟩⟩⟩⟩⟩⟩⟩⟩⟩⟩⟩⟩⟩⟩
theorem lw_p16 : lw_okq (⟨"LeapingPassages$AskReader", "readPhrase", "()V"⟩, 10) := ⟨⟨by decide +kernel, by decide +kernel⟩, List.mem_of_getElem? (i := 220) (by decide +kernel), List.mem_of_getElem? (i := 688) (by decide +kernel), List.mem_of_getElem? (i := 689) (by decide +kernel)⟩
theorem lw_p17 : lw_okq (⟨"LeapingPassages$AskReader", "pushSign", "(I)V"⟩, 10) := ⟨⟨by decide +kernel, by decide +kernel⟩, List.mem_of_getElem? (i := 220) (by decide +kernel), List.mem_of_getElem? (i := 692) (by decide +kernel), List.mem_of_getElem? (i := 693) (by decide +kernel)⟩
theorem lw_p18 : lw_okq (⟨"LeapingPassages$AskReader", "readNumber", "(I)I"⟩, 10) := ⟨⟨by decide +kernel, by decide +kernel⟩, List.mem_of_getElem? (i := 220) (by decide +kernel), List.mem_of_getElem? (i := 696) (by decide +kernel), List.mem_of_getElem? (i := 697) (by decide +kernel)⟩
theorem lw_p19 : lw_okq (⟨"LeapingPassages$AskReader", "readBehind", "(I)V"⟩, 10) := ⟨⟨by decide +kernel, by decide +kernel⟩, List.mem_of_getElem? (i := 220) (by decide +kernel), List.mem_of_getElem? (i := 700) (by decide +kernel), List.mem_of_getElem? (i := 701) (by decide +kernel)⟩
theorem lw_p20 : lw_okq (⟨"LeapingPassages$AskReader", "joinDownTo", "(I)V"⟩, 10) := ⟨⟨by decide +kernel, by decide +kernel⟩, List.mem_of_getElem? (i := 220) (by decide +kernel), List.mem_of_getElem? (i := 707) (by decide +kernel), List.mem_of_getElem? (i := 708) (by decide +kernel)⟩
theorem lw_p21 : lw_okq (⟨"LeapingPassages$AskReader", "topSign", "()I"⟩, 10) := ⟨⟨by decide +kernel, by decide +kernel⟩, List.mem_of_getElem? (i := 220) (by decide +kernel), List.mem_of_getElem? (i := 715) (by decide +kernel), List.mem_of_getElem? (i := 716) (by decide +kernel)⟩
theorem lw_p22 : lw_okq (⟨"LeapingPassages$AskReader", "popWhole", "()I"⟩, 10) := ⟨⟨by decide +kernel, by decide +kernel⟩, List.mem_of_getElem? (i := 220) (by decide +kernel), List.mem_of_getElem? (i := 720) (by decide +kernel), List.mem_of_getElem? (i := 721) (by decide +kernel)⟩
theorem lw_p23 : lw_okq (⟨"LeapingPassages$AskReader", "over", "(IIIII)V"⟩, 10) := ⟨⟨by decide +kernel, by decide +kernel⟩, List.mem_of_getElem? (i := 220) (by decide +kernel), List.mem_of_getElem? (i := 724) (by decide +kernel), List.mem_of_getElem? (i := 725) (by decide +kernel)⟩
theorem lw_p24 : lw_okq (⟨"LeapingPassages$AskReader", "readShort", "()V"⟩, 10) := ⟨⟨by decide +kernel, by decide +kernel⟩, List.mem_of_getElem? (i := 220) (by decide +kernel), List.mem_of_getElem? (i := 729) (by decide +kernel), List.mem_of_getElem? (i := 730) (by decide +kernel)⟩
theorem lw_p25 : lw_okq (⟨"LeapingPassages$AskReader", "readClosing", "(I)Z"⟩, 10) := ⟨⟨by decide +kernel, by decide +kernel⟩, List.mem_of_getElem? (i := 220) (by decide +kernel), List.mem_of_getElem? (i := 733) (by decide +kernel), List.mem_of_getElem? (i := 734) (by decide +kernel)⟩
theorem lw_p26 : lw_okq (⟨"LeapingPassages", "refuseFault", "(I)I"⟩, 12) := ⟨⟨by decide +kernel, by decide +kernel⟩, List.mem_of_getElem? (i := 20) (by decide +kernel), List.mem_of_getElem? (i := 737) (by decide +kernel), List.mem_of_getElem? (i := 738) (by decide +kernel)⟩
theorem lw_p27 : lw_okq (⟨"LeapingPassages", "rowRefusal", "(II)I"⟩, 12) := ⟨⟨by decide +kernel, by decide +kernel⟩, List.mem_of_getElem? (i := 20) (by decide +kernel), List.mem_of_getElem? (i := 822) (by decide +kernel), List.mem_of_getElem? (i := 823) (by decide +kernel)⟩
def lw_privs_2 : List (MethodName × Nat) := [(⟨"LeapingPassages$AskReader", "readPhrase", "()V"⟩, 10), (⟨"LeapingPassages$AskReader", "pushSign", "(I)V"⟩, 10), (⟨"LeapingPassages$AskReader", "readNumber", "(I)I"⟩, 10), (⟨"LeapingPassages$AskReader", "readBehind", "(I)V"⟩, 10), (⟨"LeapingPassages$AskReader", "joinDownTo", "(I)V"⟩, 10), (⟨"LeapingPassages$AskReader", "topSign", "()I"⟩, 10), (⟨"LeapingPassages$AskReader", "popWhole", "()I"⟩, 10), (⟨"LeapingPassages$AskReader", "over", "(IIIII)V"⟩, 10), (⟨"LeapingPassages$AskReader", "readShort", "()V"⟩, 10), (⟨"LeapingPassages$AskReader", "readClosing", "(I)Z"⟩, 10), (⟨"LeapingPassages", "refuseFault", "(I)I"⟩, 12), (⟨"LeapingPassages", "rowRefusal", "(II)I"⟩, 12)]
theorem lw_r2 : ∀ q ∈ lw_privs_2, lw_okq q := List.forall_mem_cons.mpr ⟨lw_p16, List.forall_mem_cons.mpr ⟨lw_p17, List.forall_mem_cons.mpr ⟨lw_p18, List.forall_mem_cons.mpr ⟨lw_p19, List.forall_mem_cons.mpr ⟨lw_p20, List.forall_mem_cons.mpr ⟨lw_p21, List.forall_mem_cons.mpr ⟨lw_p22, List.forall_mem_cons.mpr ⟨lw_p23, List.forall_mem_cons.mpr ⟨lw_p24, List.forall_mem_cons.mpr ⟨lw_p25, List.forall_mem_cons.mpr ⟨lw_p26, List.forall_mem_cons.mpr ⟨lw_p27, fun _ h => absurd h List.not_mem_nil⟩⟩⟩⟩⟩⟩⟩⟩⟩⟩⟩⟩
def lw_privs : List (MethodName × Nat) := lw_privs_1 ++ (lw_privs_2)
def lw_tbl : List Cond := k2_sels lw_privs ++ tables_1
theorem lw_privs_ok : ∀ q ∈ lw_privs, lw_okq q := by
  show ∀ q ∈ lw_privs_1 ++ (lw_privs_2), lw_okq q
  exact List.forall_mem_append.mpr ⟨lw_r1, lw_r2⟩

def RX0 : String := "LeapingPassages$Ask"
def TX0 : u_T := fun k => match k with
  | 0 => ("LeapingPassages$Ask", "kind", "I", false)
  | 1 => ("LeapingPassages$Ask", "x", "I", false)
  | 2 => ("LeapingPassages$Ask", "y", "I", false)
  | 3 => ("LeapingPassages$Ask", "z", "I", false)
  | 4 => ("LeapingPassages$Ask", "number", "I", false)
  | 5 => ("LeapingPassages$Ask", "run", "I", false)
  | 6 => ("LeapingPassages$Ask", "length", "I", false)
  | 7 => ("LeapingPassages$Ask", "weight", "I", false)
  | 8 => ("LeapingPassages$Ask", "depth", "I", false)
  | 9 => ("LeapingPassages$Ask", "words", "I", false)
  | _ => ("LeapingPassages$Ask", "reach", "I", false)
def tyX0 : Nat → FieldType := fun k => match k with
  | 0 => .int
  | 1 => .int
  | 2 => .int
  | 3 => .int
  | 4 => .int
  | 5 => .int
  | 6 => .int
  | 7 => .int
  | 8 => .int
  | 9 => .int
  | _ => .int
abbrev wsX00 : List Cond := u_ws RX0 TX0 11
theorem nmX0 : ∀ a, a < 11 → ∀ b, b < 11 → a ≠ b → (TX0 a).2.1 ≠ (TX0 b).2.1 := by decide +kernel
theorem tyX0_ok : ∀ k, k < 11 → parseFieldDescriptor (TX0 k).2.2.1 = some (tyX0 k) := by decide +kernel
def RX1 : String := "LeapingPassages$AskReader"
def TX1 : u_T := fun k => match k with
  | 0 => ("LeapingPassages$AskReader", "tape", "LLeapingPassages$Tape;", true)
  | 1 => ("LeapingPassages$AskReader", "asks", "LLeapingPassages$Asks;", true)
  | 2 => ("LeapingPassages$AskReader", "wholes", "[I", true)
  | 3 => ("LeapingPassages$AskReader", "signs", "[I", true)
  | 4 => ("LeapingPassages$AskReader", "wholeCount", "I", false)
  | 5 => ("LeapingPassages$AskReader", "signCount", "I", false)
  | 6 => ("LeapingPassages$AskReader", "spot", "I", false)
  | 7 => ("LeapingPassages$AskReader", "fault", "I", false)
  | 8 => ("LeapingPassages$AskReader", "wantsPlain", "Z", false)
  | _ => ("LeapingPassages$AskReader", "askCount", "I", false)
def tyX1 : Nat → FieldType := fun k => match k with
  | 0 => .object "LeapingPassages$Tape"
  | 1 => .object "LeapingPassages$Asks"
  | 2 => .array .int
  | 3 => .array .int
  | 4 => .int
  | 5 => .int
  | 6 => .int
  | 7 => .int
  | 8 => .boolean
  | _ => .int
abbrev wsX10 : List Cond := u_ws RX1 TX1 10
theorem nmX1 : ∀ a, a < 10 → ∀ b, b < 10 → a ≠ b → (TX1 a).2.1 ≠ (TX1 b).2.1 := by decide +kernel
theorem tyX1_ok : ∀ k, k < 10 → parseFieldDescriptor (TX1 k).2.2.1 = some (tyX1 k) := by decide +kernel
def RX2 : String := "LeapingPassages$Asks"
def TX2 : u_T := fun k => match k with
  | 0 => ("LeapingPassages$Asks", "row", "[LLeapingPassages$Ask;", true)
  | _ => ("LeapingPassages$Asks", "size", "I", false)
def tyX2 : Nat → FieldType := fun k => match k with
  | 0 => .array (.object "LeapingPassages$Ask")
  | _ => .int
abbrev wsX20 : List Cond := u_ws RX2 TX2 2
theorem nmX2 : ∀ a, a < 2 → ∀ b, b < 2 → a ≠ b → (TX2 a).2.1 ≠ (TX2 b).2.1 := by decide +kernel
theorem tyX2_ok : ∀ k, k < 2 → parseFieldDescriptor (TX2 k).2.2.1 = some (tyX2 k) := by decide +kernel
def RX3 : String := "LeapingPassages$Least"
def TX3 : u_T := fun k => match k with
  | _ => ("LeapingPassages$Least", "lasts", "[I", true)
def tyX3 : Nat → FieldType := fun k => match k with
  | _ => .array .int
abbrev wsX30 : List Cond := u_ws RX3 TX3 1
theorem nmX3 : ∀ a, a < 1 → ∀ b, b < 1 → a ≠ b → (TX3 a).2.1 ≠ (TX3 b).2.1 := by decide +kernel
theorem tyX3_ok : ∀ k, k < 1 → parseFieldDescriptor (TX3 k).2.2.1 = some (tyX3 k) := by decide +kernel
def RX4 : String := "LeapingPassages$Lists"
def TX4 : u_T := fun k => match k with
  | 0 => ("LeapingPassages$Lists", "page", "LLeapingPassages$Text;", true)
  | 1 => ("LeapingPassages$Lists", "asks", "LLeapingPassages$Asks;", true)
  | 2 => ("LeapingPassages$Lists", "found", "[LLeapingPassages$Spans;", true)
  | 3 => ("LeapingPassages$Lists", "empty", "LLeapingPassages$Spans;", true)
  | 4 => ("LeapingPassages$Lists", "least", "LLeapingPassages$Least;", true)
  | 5 => ("LeapingPassages$Lists", "known", "I", false)
  | _ => ("LeapingPassages$Lists", "without", "I", false)
def tyX4 : Nat → FieldType := fun k => match k with
  | 0 => .object "LeapingPassages$Text"
  | 1 => .object "LeapingPassages$Asks"
  | 2 => .array (.object "LeapingPassages$Spans")
  | 3 => .object "LeapingPassages$Spans"
  | 4 => .object "LeapingPassages$Least"
  | 5 => .int
  | _ => .int
abbrev wsX40 : List Cond := u_ws RX4 TX4 7
theorem nmX4 : ∀ a, a < 7 → ∀ b, b < 7 → a ≠ b → (TX4 a).2.1 ≠ (TX4 b).2.1 := by decide +kernel
theorem tyX4_ok : ∀ k, k < 7 → parseFieldDescriptor (TX4 k).2.2.1 = some (tyX4 k) := by decide +kernel
def RX5 : String := "LeapingPassages$Shelf"
def TX5 : u_T := fun k => match k with
  | 0 => ("LeapingPassages$Shelf", "values", "[J", true)
  | 1 => ("LeapingPassages$Shelf", "size", "I", false)
  | _ => ("LeapingPassages$Shelf", "holds", "I", false)
def tyX5 : Nat → FieldType := fun k => match k with
  | 0 => .array .long
  | 1 => .int
  | _ => .int
abbrev wsX50 : List Cond := u_ws RX5 TX5 3
theorem nmX5 : ∀ a, a < 3 → ∀ b, b < 3 → a ≠ b → (TX5 a).2.1 ≠ (TX5 b).2.1 := by decide +kernel
theorem tyX5_ok : ∀ k, k < 3 → parseFieldDescriptor (TX5 k).2.2.1 = some (tyX5 k) := by decide +kernel
def RX6 : String := "LeapingPassages$Spans"
def TX6 : u_T := fun k => match k with
  | 0 => ("LeapingPassages$Spans", "firsts", "[I", true)
  | 1 => ("LeapingPassages$Spans", "lasts", "[I", true)
  | _ => ("LeapingPassages$Spans", "size", "I", false)
def tyX6 : Nat → FieldType := fun k => match k with
  | 0 => .array .int
  | 1 => .array .int
  | _ => .int
abbrev wsX60 : List Cond := u_ws RX6 TX6 3
theorem nmX6 : ∀ a, a < 3 → ∀ b, b < 3 → a ≠ b → (TX6 a).2.1 ≠ (TX6 b).2.1 := by decide +kernel
theorem tyX6_ok : ∀ k, k < 3 → parseFieldDescriptor (TX6 k).2.2.1 = some (tyX6 k) := by decide +kernel
def RX7 : String := "LeapingPassages$Tape"
def TX7 : u_T := fun k => match k with
  | 0 => ("LeapingPassages$Tape", "bytes", "[I", true)
  | _ => ("LeapingPassages$Tape", "size", "I", false)
def tyX7 : Nat → FieldType := fun k => match k with
  | 0 => .array .int
  | _ => .int
abbrev wsX70 : List Cond := u_ws RX7 TX7 2
theorem nmX7 : ∀ a, a < 2 → ∀ b, b < 2 → a ≠ b → (TX7 a).2.1 ≠ (TX7 b).2.1 := by decide +kernel
theorem tyX7_ok : ∀ k, k < 2 → parseFieldDescriptor (TX7 k).2.2.1 = some (tyX7 k) := by decide +kernel
def RX8 : String := "LeapingPassages$Text"
def TX8 : u_T := fun k => match k with
  | 0 => ("LeapingPassages$Text", "words", "[I", true)
  | 1 => ("LeapingPassages$Text", "marks", "[I", true)
  | 2 => ("LeapingPassages$Text", "standing", "[I", true)
  | 3 => ("LeapingPassages$Text", "size", "I", false)
  | _ => ("LeapingPassages$Text", "seed", "I", false)
def tyX8 : Nat → FieldType := fun k => match k with
  | 0 => .array .int
  | 1 => .array .int
  | 2 => .array .int
  | 3 => .int
  | _ => .int
abbrev wsX80 : List Cond := u_ws RX8 TX8 5
theorem nmX8 : ∀ a, a < 5 → ∀ b, b < 5 → a ≠ b → (TX8 a).2.1 ≠ (TX8 b).2.1 := by decide +kernel
theorem tyX8_ok : ∀ k, k < 5 → parseFieldDescriptor (TX8 k).2.2.1 = some (tyX8 k) := by decide +kernel
def RX9 : String := "LeapingPassages"
def TX9 : u_T := fun k => match k with
  | 0 => ("LeapingPassages", "page", "LLeapingPassages$Text;", true)
  | 1 => ("LeapingPassages", "pageKept", "LLeapingPassages$Text;", true)
  | 2 => ("LeapingPassages", "asks", "LLeapingPassages$Asks;", true)
  | 3 => ("LeapingPassages", "asksKept", "LLeapingPassages$Asks;", true)
  | 4 => ("LeapingPassages", "lists", "LLeapingPassages$Lists;", true)
  | 5 => ("LeapingPassages", "made", "LLeapingPassages$Spans;", true)
  | 6 => ("LeapingPassages", "scores", "[I", true)
  | 7 => ("LeapingPassages", "tape", "LLeapingPassages$Tape;", true)
  | 8 => ("LeapingPassages", "reader", "LLeapingPassages$AskReader;", true)
  | 9 => ("LeapingPassages", "shelves", "[LLeapingPassages$Shelf;", true)
  | 10 => ("LeapingPassages", "refusals", "[I", true)
  | _ => ("LeapingPassages", "isKept", "Z", false)
def tyX9 : Nat → FieldType := fun k => match k with
  | 0 => .object "LeapingPassages$Text"
  | 1 => .object "LeapingPassages$Text"
  | 2 => .object "LeapingPassages$Asks"
  | 3 => .object "LeapingPassages$Asks"
  | 4 => .object "LeapingPassages$Lists"
  | 5 => .object "LeapingPassages$Spans"
  | 6 => .array .int
  | 7 => .object "LeapingPassages$Tape"
  | 8 => .object "LeapingPassages$AskReader"
  | 9 => .array (.object "LeapingPassages$Shelf")
  | 10 => .array .int
  | _ => .boolean
abbrev wsX90 : List Cond := u_ws RX9 TX9 12
theorem nmX9 : ∀ a, a < 12 → ∀ b, b < 12 → a ≠ b → (TX9 a).2.1 ≠ (TX9 b).2.1 := by decide +kernel
theorem tyX9_ok : ∀ k, k < 12 → parseFieldDescriptor (TX9 k).2.2.1 = some (tyX9 k) := by decide +kernel
def RX10 : String := "LeapingPassagesModel"
def TX10 : u_T := fun k => match k with
  | _ => ("", "", "", false)
def tyX10 : Nat → FieldType := fun k => match k with
  | _ => .int
abbrev wsX100 : List Cond := u_ws RX10 TX10 0
theorem nmX10 : ∀ a, a < 0 → ∀ b, b < 0 → a ≠ b → (TX10 a).2.1 ≠ (TX10 b).2.1 := by decide +kernel
theorem tyX10_ok : ∀ k, k < 0 → parseFieldDescriptor (TX10 k).2.2.1 = some (tyX10 k) := by decide +kernel
def RL : String := "LeapingPassagesLaw"

abbrev jm_cl : List vw_C := [(RX0, TX0, 11), (RX1, TX1, 10), (RX2, TX2, 2), (RX3, TX3, 1), (RX4, TX4, 7), (RX5, TX5, 3), (RX6, TX6, 3), (RX7, TX7, 2), (RX8, TX8, 5), (RX9, TX9, 12)]

def jm_ty (ci : Nat) : Nat → FieldType := match ci with
  | 0 => tyX0
  | 1 => tyX1
  | 2 => tyX2
  | 3 => tyX3
  | 4 => tyX4
  | 5 => tyX5
  | 6 => tyX6
  | 7 => tyX7
  | 8 => tyX8
  | _ => tyX9

def jm_T (ci : Nat) : u_T := match ci with
  | 0 => TX0
  | 1 => TX1
  | 2 => TX2
  | 3 => TX3
  | 4 => TX4
  | 5 => TX5
  | 6 => TX6
  | 7 => TX7
  | 8 => TX8
  | _ => TX9

def jm_R (ci : Nat) : String := match ci with
  | 0 => RX0
  | 1 => RX1
  | 2 => RX2
  | 3 => RX3
  | 4 => RX4
  | 5 => RX5
  | 6 => RX6
  | 7 => RX7
  | 8 => RX8
  | _ => RX9

def jm_N (ci : Nat) : Nat := match ci with
  | 0 => 11
  | 1 => 10
  | 2 => 2
  | 3 => 1
  | 4 => 7
  | 5 => 3
  | 6 => 3
  | 7 => 2
  | 8 => 5
  | _ => 12

/-- methods: name, bytes, locals, return type, how many parameters, number of the class -/
abbrev jm_M : Type := MethodName × ByteArray × Nat × Option FieldType × Nat × Nat

def jm_own : List String := ["LeapingPassages", "LeapingPassages$Ask", "LeapingPassages$AskReader", "LeapingPassages$Asks", "LeapingPassages$Least", "LeapingPassages$Lists", "LeapingPassages$Shelf", "LeapingPassages$Spans", "LeapingPassages$Tape", "LeapingPassages$Text", "LeapingPassagesLaw", "LeapingPassagesModel", "java/lang/Integer", "java/lang/Math", "java/lang/Object", "java/util/Arrays", "java/lang/String"]

set_option maxRecDepth 20000 in
noncomputable def jm_MT : List jm_M := [(⟨"LeapingPassages", "<init>", "()V"⟩, prog_1_method_1_code, 2, none, 0, 0),
  (⟨"java/lang/Object", "<init>", "()V"⟩, object_method_1_code, 1, none, 0, 14),
  (⟨"LeapingPassages$Text", "<init>", "()V"⟩, prog_10_method_1_code, 1, none, 0, 9),
  (⟨"LeapingPassages$Asks", "<init>", "()V"⟩, prog_4_method_1_code, 2, none, 0, 3),
  (⟨"LeapingPassages$Ask", "<init>", "()V"⟩, prog_2_method_1_code, 1, none, 0, 1),
  (⟨"LeapingPassages$Lists", "<init>", "(LLeapingPassages$Text;LLeapingPassages$Asks;)V"⟩, prog_6_method_1_code, 4, none, 2, 5),
  (⟨"LeapingPassages$Spans", "<init>", "()V"⟩, prog_8_method_1_code, 1, none, 0, 7),
  (⟨"LeapingPassages$Least", "<init>", "()V"⟩, prog_5_method_1_code, 1, none, 0, 4),
  (⟨"LeapingPassages$Tape", "<init>", "()V"⟩, prog_9_method_1_code, 1, none, 0, 8),
  (⟨"LeapingPassages$AskReader", "<init>", "(LLeapingPassages$Tape;LLeapingPassages$Asks;)V"⟩, prog_3_method_1_code, 3, none, 2, 2),
  (⟨"LeapingPassages$Shelf", "<init>", "()V"⟩, prog_7_method_1_code, 1, none, 0, 6),
  (⟨"LeapingPassages", "row", "(III)I"⟩, prog_1_method_2_code, 4, some FieldType.int, 3, 0),
  (⟨"LeapingPassages", "isShelf", "(I)Z"⟩, prog_1_method_65_code, 1, some FieldType.boolean, 1, 0),
  (⟨"LeapingPassages", "refuse", "(I)I"⟩, prog_1_method_55_code, 3, some FieldType.int, 1, 0),
  (⟨"LeapingPassages$Shelf", "holdRow", "(II)V"⟩, prog_7_method_2_code, 3, none, 2, 6),
  (⟨"java/util/Arrays", "fill", "([JJ)V"⟩, prog_19_method_101_code, 5, none, 2, 15),
  (⟨"LeapingPassages", "set", "(IIJ)I"⟩, prog_1_method_3_code, 7, some FieldType.int, 3, 0),
  (⟨"LeapingPassages", "rowRefusal", "(II)I"⟩, prog_1_method_57_code, 4, some FieldType.int, 2, 0),
  (⟨"LeapingPassages$Shelf", "holdsAsk", "()Z"⟩, prog_7_method_4_code, 1, some FieldType.boolean, 0, 6),
  (⟨"LeapingPassages$Shelf", "holdsRow", "()Z"⟩, prog_7_method_3_code, 1, some FieldType.boolean, 0, 6),
  (⟨"LeapingPassages$Shelf", "isElement", "(I)Z"⟩, prog_7_method_5_code, 2, some FieldType.boolean, 1, 6),
  (⟨"LeapingPassages", "narrowed", "(IJ)J"⟩, prog_1_method_69_code, 3, some FieldType.long, 2, 0),
  (⟨"LeapingPassages", "<init>", "()V"⟩, prog_1_method_1_code, 2, none, 0, 0),
  (⟨"LeapingPassages$Shelf", "hasRun", "(II)Z"⟩, prog_7_method_6_code, 3, some FieldType.boolean, 2, 6),
  (⟨"LeapingPassages", "<init>", "()V"⟩, prog_1_method_1_code, 2, none, 0, 0),
  (⟨"LeapingPassages", "<init>", "()V"⟩, prog_1_method_1_code, 2, none, 0, 0),
  (⟨"LeapingPassages", "<init>", "()V"⟩, prog_1_method_1_code, 2, none, 0, 0),
  (⟨"LeapingPassages$Asks", "isAsk", "(I)Z"⟩, prog_4_method_3_code, 2, some FieldType.boolean, 1, 3),
  (⟨"LeapingPassages", "<init>", "()V"⟩, prog_1_method_1_code, 2, none, 0, 0),
  (⟨"LeapingPassages", "<init>", "()V"⟩, prog_1_method_1_code, 2, none, 0, 0),
  (⟨"LeapingPassages", "isPair", "(I)Z"⟩, prog_1_method_67_code, 1, some FieldType.boolean, 1, 0),
  (⟨"LeapingPassages", "<init>", "()V"⟩, prog_1_method_1_code, 2, none, 0, 0),
  (⟨"LeapingPassages$Lists", "of", "(I)LLeapingPassages$Spans;"⟩, prog_6_method_4_code, 4, some (FieldType.object "LeapingPassages$Spans"), 1, 5),
  (⟨"LeapingPassages$Lists", "make", "(I)V"⟩, prog_6_method_7_code, 4, none, 1, 5),
  (⟨"LeapingPassages$Lists", "findRun", "(LLeapingPassages$Ask;LLeapingPassages$Spans;)V"⟩, prog_6_method_9_code, 5, none, 2, 5),
  (⟨"LeapingPassages$Lists", "hasWord", "(II)Z"⟩, prog_6_method_10_code, 3, some FieldType.boolean, 2, 5),
  (⟨"LeapingPassages$Text", "wordsHad", "(I)I"⟩, prog_10_method_7_code, 3, some FieldType.int, 1, 9),
  (⟨"LeapingPassages$Spans", "add", "(II)V"⟩, prog_8_method_2_code, 3, none, 2, 7),
  (⟨"LeapingPassages$Text", "regionsInto", "(ILLeapingPassages$Spans;)V"⟩, prog_10_method_12_code, 5, none, 2, 9),
  (⟨"LeapingPassages$Lists", "listOf", "(I)LLeapingPassages$Spans;"⟩, prog_6_method_8_code, 2, some (FieldType.object "LeapingPassages$Spans"), 1, 5),
  (⟨"LeapingPassages$Lists", "keepShort", "(LLeapingPassages$Spans;ILLeapingPassages$Spans;)V"⟩, prog_6_method_11_code, 5, none, 3, 5),
  (⟨"LeapingPassages$Spans", "lengthOf", "(I)I"⟩, prog_8_method_7_code, 2, some FieldType.int, 1, 7),
  (⟨"LeapingPassages$Least", "clear", "()V"⟩, prog_5_method_2_code, 1, none, 0, 4),
  (⟨"java/util/Arrays", "fill", "([II)V"⟩, prog_19_method_103_code, 4, none, 2, 15),
  (⟨"LeapingPassages$Lists", "gather", "(ILLeapingPassages$Spans;LLeapingPassages$Spans;LLeapingPassages$Spans;)V"⟩, prog_6_method_13_code, 9, none, 4, 5),
  (⟨"LeapingPassages$Spans", "onward", "(IJ)I"⟩, prog_8_method_8_code, 5, some FieldType.int, 2, 7),
  (⟨"LeapingPassages$Spans", "lastAt", "(I)I"⟩, prog_8_method_10_code, 2, some FieldType.int, 1, 7),
  (⟨"LeapingPassages$Spans", "isSpan", "(I)Z"⟩, prog_8_method_4_code, 2, some FieldType.boolean, 1, 7),
  (⟨"LeapingPassages$Lists", "ofThree", "(IIII)I"⟩, prog_6_method_14_code, 6, some FieldType.int, 4, 5),
  (⟨"java/lang/Math", "min", "(II)I"⟩, prog_14_method_69_code, 2, some FieldType.int, 2, 13),
  (⟨"java/lang/Math", "max", "(II)I"⟩, prog_14_method_65_code, 2, some FieldType.int, 2, 13),
  (⟨"LeapingPassages$Least", "offer", "(II)V"⟩, prog_5_method_3_code, 3, none, 2, 4),
  (⟨"LeapingPassages$Least", "into", "(LLeapingPassages$Spans;)V"⟩, prog_5_method_4_code, 4, none, 1, 4),
  (⟨"LeapingPassages$Lists", "join", "(ILLeapingPassages$Spans;LLeapingPassages$Spans;LLeapingPassages$Spans;)V"⟩, prog_6_method_12_code, 5, none, 4, 5),
  (⟨"LeapingPassages$Lists", "sift", "(ILLeapingPassages$Spans;LLeapingPassages$Spans;LLeapingPassages$Spans;)V"⟩, prog_6_method_16_code, 13, none, 4, 5),
  (⟨"LeapingPassages$Lists", "follow", "(LLeapingPassages$Spans;LLeapingPassages$Spans;)V"⟩, prog_6_method_15_code, 5, none, 2, 5),
  (⟨"LeapingPassages", "write", "(I)I"⟩, prog_1_method_9_code, 2, some FieldType.int, 1, 0),
  (⟨"LeapingPassages", "isWord", "(I)Z"⟩, prog_1_method_66_code, 1, some FieldType.boolean, 1, 0),
  (⟨"LeapingPassages$Text", "push", "(I)V"⟩, prog_10_method_4_code, 2, none, 1, 9),
  (⟨"LeapingPassages$Lists", "forgetAll", "()V"⟩, prog_6_method_2_code, 1, none, 0, 5),
  (⟨"LeapingPassages", "end", "(I)I"⟩, prog_1_method_10_code, 3, some FieldType.int, 1, 0),
  (⟨"LeapingPassages$Text", "lastMark", "()I"⟩, prog_10_method_5_code, 1, some FieldType.int, 0, 9),
  (⟨"LeapingPassages$Text", "markLast", "(I)V"⟩, prog_10_method_6_code, 2, none, 1, 9),
  (⟨"LeapingPassages", "change", "(II)I"⟩, prog_1_method_11_code, 4, some FieldType.int, 2, 0),
  (⟨"LeapingPassages$Text", "isPlace", "(I)Z"⟩, prog_10_method_3_code, 2, some FieldType.boolean, 1, 9),
  (⟨"LeapingPassages", "stand", "(III)I"⟩, prog_1_method_12_code, 5, some FieldType.int, 3, 0),
  (⟨"LeapingPassages", "feed", "(I)I"⟩, prog_1_method_13_code, 2, some FieldType.int, 1, 0),
  (⟨"LeapingPassages$Tape", "push", "(I)V"⟩, prog_9_method_2_code, 2, none, 1, 8),
  (⟨"LeapingPassages", "<init>", "()V"⟩, prog_1_method_1_code, 2, none, 0, 0),
  (⟨"LeapingPassages", "<init>", "()V"⟩, prog_1_method_1_code, 2, none, 0, 0),
  (⟨"LeapingPassages", "<init>", "()V"⟩, prog_1_method_1_code, 2, none, 0, 0),
  (⟨"LeapingPassages$Tape", "isLetter", "(I)Z"⟩, prog_9_method_3_code, 1, some FieldType.boolean, 1, 8),
  (⟨"LeapingPassages", "<init>", "()V"⟩, prog_1_method_1_code, 2, none, 0, 0),
  (⟨"LeapingPassages", "<init>", "()V"⟩, prog_1_method_1_code, 2, none, 0, 0),
  (⟨"LeapingPassages", "refuseFault", "(I)I"⟩, prog_1_method_56_code, 2, some FieldType.int, 1, 0),
  (⟨"LeapingPassages", "<init>", "()V"⟩, prog_1_method_1_code, 2, none, 0, 0),
  (⟨"LeapingPassages", "ask", "()I"⟩, prog_1_method_16_code, 2, some FieldType.int, 0, 0),
  (⟨"LeapingPassages$AskReader", "read", "()I"⟩, prog_3_method_2_code, 2, some FieldType.int, 0, 2),
  (⟨"LeapingPassages$AskReader", "readPlain", "(I)V"⟩, prog_3_method_3_code, 3, none, 1, 2),
  (⟨"LeapingPassages$AskReader", "leaf", "(III)V"⟩, prog_3_method_12_code, 4, none, 3, 2),
  (⟨"LeapingPassages$Asks", "putLeaf", "(IIII)V"⟩, prog_4_method_6_code, 7, none, 4, 3),
  (⟨"LeapingPassages$Ask", "become", "(III)V"⟩, prog_2_method_2_code, 4, none, 3, 1),
  (⟨"LeapingPassages$AskReader", "pushWhole", "()V"⟩, prog_3_method_14_code, 1, none, 0, 2),
  (⟨"LeapingPassages$AskReader", "readPhrase", "()V"⟩, prog_3_method_4_code, 4, none, 0, 2),
  (⟨"LeapingPassages$AskReader", "pushSign", "(I)V"⟩, prog_3_method_16_code, 2, none, 1, 2),
  (⟨"LeapingPassages$AskReader", "readNumber", "(I)I"⟩, prog_3_method_5_code, 4, some FieldType.int, 1, 2),
  (⟨"LeapingPassages$AskReader", "readBehind", "(I)V"⟩, prog_3_method_6_code, 4, none, 1, 2),
  (⟨"LeapingPassages$AskReader", "kindOf", "(I)I"⟩, prog_3_method_7_code, 1, some FieldType.int, 1, 2),
  (⟨"LeapingPassages$AskReader", "joinDownTo", "(I)V"⟩, prog_3_method_10_code, 6, none, 1, 2),
  (⟨"LeapingPassages$AskReader", "bondOf", "(I)I"⟩, prog_3_method_11_code, 1, some FieldType.int, 1, 2),
  (⟨"LeapingPassages$AskReader", "topSign", "()I"⟩, prog_3_method_17_code, 1, some FieldType.int, 0, 2),
  (⟨"LeapingPassages$AskReader", "popWhole", "()I"⟩, prog_3_method_15_code, 1, some FieldType.int, 0, 2),
  (⟨"LeapingPassages$AskReader", "over", "(IIIII)V"⟩, prog_3_method_13_code, 6, none, 5, 2),
  (⟨"LeapingPassages$Asks", "putOver", "(IIIIII)V"⟩, prog_4_method_7_code, 8, none, 6, 3),
  (⟨"LeapingPassages$Ask", "goOver", "(LLeapingPassages$Ask;)V"⟩, prog_2_method_3_code, 2, none, 1, 1),
  (⟨"LeapingPassages$AskReader", "readShort", "()V"⟩, prog_3_method_8_code, 2, none, 0, 2),
  (⟨"LeapingPassages$AskReader", "readClosing", "(I)Z"⟩, prog_3_method_9_code, 7, some FieldType.boolean, 1, 2),
  (⟨"LeapingPassages", "word", "(I)I"⟩, prog_1_method_17_code, 2, some FieldType.int, 1, 0),
  (⟨"LeapingPassages", "addedLeaf", "(III)I"⟩, prog_1_method_58_code, 4, some FieldType.int, 3, 0),
  (⟨"LeapingPassages$Asks", "isFull", "()Z"⟩, prog_4_method_4_code, 1, some FieldType.boolean, 0, 3),
  (⟨"LeapingPassages$Asks", "grow", "()I"⟩, prog_4_method_5_code, 1, some FieldType.int, 0, 3),
  (⟨"LeapingPassages", "<init>", "()V"⟩, prog_1_method_1_code, 2, none, 0, 0),
  (⟨"LeapingPassages", "pair", "(III)I"⟩, prog_1_method_19_code, 4, some FieldType.int, 3, 0),
  (⟨"LeapingPassages", "addedOver", "(IIIII)I"⟩, prog_1_method_59_code, 6, some FieldType.int, 5, 0),
  (⟨"LeapingPassages", "region", "(I)I"⟩, prog_1_method_20_code, 2, some FieldType.int, 1, 0),
  (⟨"LeapingPassages", "brief", "(II)I"⟩, prog_1_method_21_code, 3, some FieldType.int, 2, 0),
  (⟨"LeapingPassages", "some", "(IIII)I"⟩, prog_1_method_22_code, 5, some FieldType.int, 4, 0),
  (⟨"LeapingPassages", "drop", "()I"⟩, prog_1_method_23_code, 1, some FieldType.int, 0, 0),
  (⟨"LeapingPassages$Lists", "forget", "(I)V"⟩, prog_6_method_3_code, 2, none, 1, 5),
  (⟨"LeapingPassages", "emptyShelvesOfLostAsks", "()V"⟩, prog_1_method_61_code, 2, none, 0, 0),
  (⟨"LeapingPassages", "askOf", "(II)I"⟩, prog_1_method_24_code, 4, some FieldType.int, 2, 0),
  (⟨"LeapingPassages", "placeOf", "(II)I"⟩, prog_1_method_25_code, 3, some FieldType.int, 2, 0),
  (⟨"LeapingPassages$Text", "endsAhead", "(II)I"⟩, prog_10_method_8_code, 5, some FieldType.int, 2, 9),
  (⟨"LeapingPassages", "many", "(I)I"⟩, prog_1_method_26_code, 2, some FieldType.int, 1, 0),
  (⟨"LeapingPassages", "span", "(II)I"⟩, prog_1_method_27_code, 3, some FieldType.int, 2, 0),
  (⟨"LeapingPassages$Spans", "told", "(I)I"⟩, prog_8_method_6_code, 2, some FieldType.int, 1, 7),
  (⟨"LeapingPassages", "next", "(III)I"⟩, prog_1_method_28_code, 6, some FieldType.int, 3, 0),
  (⟨"LeapingPassages$Spans", "orNone", "(I)I"⟩, prog_8_method_5_code, 2, some FieldType.int, 1, 7),
  (⟨"LeapingPassages$Spans", "lastsBelow", "(I)I"⟩, prog_8_method_9_code, 3, some FieldType.int, 1, 7),
  (⟨"LeapingPassages", "<init>", "()V"⟩, prog_1_method_1_code, 2, none, 0, 0),
  (⟨"LeapingPassages", "<init>", "()V"⟩, prog_1_method_1_code, 2, none, 0, 0),
  (⟨"LeapingPassages", "<init>", "()V"⟩, prog_1_method_1_code, 2, none, 0, 0),
  (⟨"LeapingPassages", "<init>", "()V"⟩, prog_1_method_1_code, 2, none, 0, 0),
  (⟨"LeapingPassages", "lengths", "(II)I"⟩, prog_1_method_32_code, 9, some FieldType.int, 2, 0),
  (⟨"LeapingPassages", "apart", "(II)I"⟩, prog_1_method_33_code, 5, some FieldType.int, 2, 0),
  (⟨"LeapingPassages$Spans", "apartCount", "()I"⟩, prog_8_method_15_code, 4, some FieldType.int, 0, 7),
  (⟨"LeapingPassages$Spans", "apartNumber", "(I)I"⟩, prog_8_method_16_code, 5, some FieldType.int, 1, 7),
  (⟨"LeapingPassages", "pins", "(II)I"⟩, prog_1_method_34_code, 5, some FieldType.int, 2, 0),
  (⟨"LeapingPassages", "<init>", "()V"⟩, prog_1_method_1_code, 2, none, 0, 0),
  (⟨"LeapingPassages$Text", "count", "(I)I"⟩, prog_10_method_9_code, 2, some FieldType.int, 1, 9),
  (⟨"LeapingPassages", "<init>", "()V"⟩, prog_1_method_1_code, 2, none, 0, 0),
  (⟨"LeapingPassages", "<init>", "()V"⟩, prog_1_method_1_code, 2, none, 0, 0),
  (⟨"LeapingPassages", "<init>", "()V"⟩, prog_1_method_1_code, 2, none, 0, 0),
  (⟨"LeapingPassages", "<init>", "()V"⟩, prog_1_method_1_code, 2, none, 0, 0),
  (⟨"LeapingPassages", "<init>", "()V"⟩, prog_1_method_1_code, 2, none, 0, 0),
  (⟨"LeapingPassages", "<init>", "()V"⟩, prog_1_method_1_code, 2, none, 0, 0),
  (⟨"LeapingPassages", "under", "(III)I"⟩, prog_1_method_39_code, 6, some FieldType.int, 3, 0),
  (⟨"LeapingPassages$Spans", "common", "(LLeapingPassages$Spans;)I"⟩, prog_8_method_14_code, 5, some FieldType.int, 1, 7),
  (⟨"LeapingPassages", "alike", "(II)I"⟩, prog_1_method_40_code, 3, some FieldType.int, 2, 0),
  (⟨"LeapingPassages$Spans", "firstUnlike", "(LLeapingPassages$Spans;)I"⟩, prog_8_method_13_code, 4, some FieldType.int, 1, 7),
  (⟨"LeapingPassages", "<init>", "()V"⟩, prog_1_method_1_code, 2, none, 0, 0),
  (⟨"LeapingPassages", "inside", "(I)I"⟩, prog_1_method_42_code, 6, some FieldType.int, 1, 0),
  (⟨"LeapingPassages", "<init>", "()V"⟩, prog_1_method_1_code, 2, none, 0, 0),
  (⟨"LeapingPassages", "<init>", "()V"⟩, prog_1_method_1_code, 2, none, 0, 0),
  (⟨"LeapingPassages", "<init>", "()V"⟩, prog_1_method_1_code, 2, none, 0, 0),
  (⟨"LeapingPassages", "<init>", "()V"⟩, prog_1_method_1_code, 2, none, 0, 0),
  (⟨"LeapingPassages", "<init>", "()V"⟩, prog_1_method_1_code, 2, none, 0, 0),
  (⟨"LeapingPassages", "<init>", "()V"⟩, prog_1_method_1_code, 2, none, 0, 0),
  (⟨"LeapingPassages$Shelf", "judged", "(LLeapingPassages$Spans;I)I"⟩, prog_7_method_7_code, 5, some FieldType.int, 2, 6),
  (⟨"LeapingPassages", "judge", "(III)I"⟩, prog_1_method_47_code, 5, some FieldType.int, 3, 0),
  (⟨"LeapingPassages", "<init>", "()V"⟩, prog_1_method_1_code, 2, none, 0, 0),
  (⟨"LeapingPassages", "<init>", "()V"⟩, prog_1_method_1_code, 2, none, 0, 0),
  (⟨"LeapingPassages", "<init>", "()V"⟩, prog_1_method_1_code, 2, none, 0, 0),
  (⟨"LeapingPassages", "days", "(I)I"⟩, prog_1_method_50_code, 3, some FieldType.int, 1, 0),
  (⟨"LeapingPassages$Text", "live", "()V"⟩, prog_10_method_14_code, 3, none, 0, 9),
  (⟨"LeapingPassages$Text", "draw", "(I)I"⟩, prog_10_method_13_code, 2, some FieldType.int, 1, 9),
  (⟨"LeapingPassages", "<init>", "()V"⟩, prog_1_method_1_code, 2, none, 0, 0),
  (⟨"LeapingPassages", "image", "()I"⟩, prog_1_method_52_code, 1, some FieldType.int, 0, 0),
  (⟨"LeapingPassages$Text", "take", "(LLeapingPassages$Text;)V"⟩, prog_10_method_2_code, 2, none, 1, 9),
  (⟨"LeapingPassages$Asks", "take", "(LLeapingPassages$Asks;)V"⟩, prog_4_method_2_code, 3, none, 1, 3),
  (⟨"LeapingPassages$Ask", "take", "(LLeapingPassages$Ask;)V"⟩, prog_2_method_4_code, 2, none, 1, 1),
  (⟨"LeapingPassages", "back", "()I"⟩, prog_1_method_53_code, 1, some FieldType.int, 0, 0),
  (⟨"LeapingPassages", "status", "(I)I"⟩, prog_1_method_54_code, 2, some FieldType.int, 1, 0),
  (⟨"LeapingPassages$Text", "differentWords", "()I"⟩, prog_10_method_10_code, 3, some FieldType.int, 0, 9),
  (⟨"java/lang/Integer", "bitCount", "(I)I"⟩, prog_13_method_49_code, 1, some FieldType.int, 1, 12),
  (⟨"LeapingPassages$Text", "twosStanding", "()I"⟩, prog_10_method_11_code, 3, some FieldType.int, 0, 9),
  (⟨"LeapingPassages", "shelvesInUse", "()I"⟩, prog_1_method_62_code, 3, some FieldType.int, 0, 0),
  (⟨"LeapingPassagesLaw", "cell", "([II)I"⟩, method_2_code, 2, some FieldType.int, 2, 10),
  (⟨"LeapingPassagesLaw", "act", "(LLeapingPassages;[II)V"⟩, method_3_code, 5, none, 3, 10),
  (⟨"LeapingPassagesLaw", "refusals", "(LLeapingPassages;)I"⟩, method_4_code, 3, some FieldType.int, 1, 10),
  (⟨"LeapingPassagesLaw", "isFair", "(LLeapingPassages;I)Z"⟩, method_5_code, 8, some FieldType.boolean, 2, 10),
  (⟨"LeapingPassagesLaw", "isKind", "(LLeapingPassages;I)Z"⟩, method_6_code, 6, some FieldType.boolean, 2, 10),
  (⟨"java/lang/String", "charAt", "(I)C"⟩, prog_15_method_56_code, 2, some FieldType.char, 1, 16),
  (x, code, maxLocals, ret, 1, 10)]

abbrev jm_K : Type := Nat × Nat × Nat × Nat × Int

noncomputable def jm_lk0 : List jm_K := [(1, 6, 1, 0, 0), (7, 7, 8, 5, 0), (9, 5, 2, 0, 0), (10, 0, 9, 0, 1), (16, 0, 9, 1, 1), (19, 7, 2, 2, 0), (21, 3, 3, 0, 0), (22, 0, 9, 2, 1), (26, 0, 9, 3, 1), (29, 7, 4, 7, 0), (31, 3, 5, 0, 0), (34, 0, 9, 4, 1), (38, 7, 6, 3, 0), (40, 5, 6, 0, 0), (41, 0, 9, 5, 1), (45, 0, 9, 6, 1), (49, 7, 7, 2, 0), (51, 5, 8, 0, 0), (52, 0, 9, 7, 1), (56, 7, 1, 10, 0), (58, 3, 9, 0, 0), (61, 0, 9, 8, 1), (65, 8, 0, 0, 0), (67, 0, 9, 9, 1), (71, 0, 9, 10, 1), (65, 7, 5, 3, 0), (74, 5, 10, 0, 0), (75, 2, 12, 0, 0), (79, 1, 13, 0, 9), (83, 1, 14, 0, 5), (87, 1, 17, 0, 9), (91, 1, 20, 0, 5), (94, 0, 5, 0, 1), (98, 0, 5, 2, 0), (102, 2, 21, 0, 0), (106, 1, 18, 0, 5), (120, 1, 19, 0, 5), (355, 0, 5, 1, 0), (141, 2, 57, 0, 0), (144, 0, 8, 3, 0), (147, 1, 58, 0, 8), (151, 1, 59, 0, 4), (154, 1, 61, 0, 8), (158, 1, 62, 0, 8), (161, 1, 64, 0, 8), (164, 0, 8, 0, 1), (167, 0, 8, 2, 1), (170, 0, 7, 1, 0), (171, 1, 67, 0, 7), (185, 1, 77, 0, 1), (178, 1, 74, 0, 9), (188, 0, 1, 9, 0), (191, 0, 2, 1, 0), (192, 1, 98, 0, 9), (356, 1, 99, 0, 2), (359, 1, 80, 0, 2), (363, 1, 100, 0, 2), (198, 2, 30, 0, 0), (123, 1, 27, 0, 2), (201, 1, 103, 0, 9), (366, 1, 93, 0, 2), (205, 1, 108, 0, 4), (208, 1, 109, 0, 9), (126, 0, 2, 0, 1), (130, 0, 0, 0, 0), (211, 0, 0, 1, 0), (214, 0, 0, 2, 0), (217, 0, 0, 3, 0), (220, 0, 0, 4, 0), (223, 0, 0, 7, 0), (226, 0, 0, 8, 0), (229, 0, 0, 9, 0), (231, 0, 8, 1, 1), (234, 1, 112, 0, 8), (237, 1, 36, 0, 8), (240, 1, 32, 0, 4), (244, 0, 6, 2, 0), (245, 1, 47, 0, 6), (248, 1, 115, 0, 6), (251, 14, 0, 0, 0), (256, 13, 0, 0, 0), (259, 1, 45, 0, 6), (263, 1, 117, 0, 6), (266, 1, 118, 0, 6), (272, 1, 41, 0, 6), (275, 1, 125, 0, 6), (278, 1, 126, 0, 6), (281, 1, 46, 0, 6), (307, 1, 137, 0, 6), (311, 1, 53, 0, 4), (315, 1, 139, 0, 6), (324, 1, 148, 0, 5), (331, 1, 154, 0, 8), (337, 1, 158, 0, 8), (339, 1, 159, 0, 2), (342, 0, 9, 11, 2), (284, 1, 129, 0, 8), (346, 1, 163, 0, 8), (349, 1, 165, 0, 8), (334, 0, 8, 4, 0), (352, 1, 166, 0, 9)]

noncomputable def jm_lk1 : List jm_K := [(3, 6, 1, 0, 0), (9, 0, 0, 0, 0), (15, 0, 0, 4, 0), (18, 0, 0, 1, 0), (21, 0, 0, 2, 0), (24, 0, 0, 3, 0), (27, 0, 0, 5, 0), (30, 0, 0, 6, 0), (33, 0, 0, 7, 0), (36, 0, 0, 8, 0), (39, 0, 0, 9, 0), (42, 0, 0, 10, 0), (45, 10, 0, 0, 1000000), (46, 14, 0, 0, 0), (52, 13, 0, 0, 0)]

noncomputable def jm_lk2 : List jm_K := [(3, 6, 1, 0, 0), (9, 0, 1, 2, 1), (15, 0, 1, 3, 1), (18, 0, 1, 0, 1), (22, 0, 1, 1, 1), (26, 0, 1, 4, 0), (30, 0, 1, 5, 0), (33, 0, 1, 6, 0), (36, 0, 1, 7, 0), (39, 0, 1, 8, 2), (43, 0, 2, 1, 0), (48, 0, 1, 9, 0), (51, 0, 7, 1, 0), (54, 0, 7, 0, 1), (57, 1, 78, 0, 1), (61, 1, 86, 0, 1), (64, 1, 88, 0, 1), (67, 2, 71, 0, 0), (71, 1, 79, 0, 1), (75, 1, 83, 0, 1), (78, 1, 84, 0, 1), (81, 1, 85, 0, 1), (117, 1, 80, 0, 2), (121, 1, 82, 0, 1), (85, 2, 87, 0, 0), (88, 1, 95, 0, 1), (91, 1, 96, 0, 1), (105, 2, 89, 0, 0), (102, 1, 90, 0, 1), (108, 4, 30, 0, 0), (94, 1, 91, 0, 1), (98, 1, 92, 0, 1), (111, 14, 0, 0, 0), (124, 1, 93, 0, 2)]

noncomputable def jm_lk3 : List jm_K := [(3, 6, 1, 0, 0), (9, 8, 1, 0, 0), (11, 0, 2, 0, 1), (9, 7, 0, 11, 0), (17, 5, 4, 0, 0), (18, 0, 2, 1, 0), (26, 1, 81, 0, 0), (30, 0, 0, 5, 0), (33, 0, 0, 6, 0), (36, 0, 0, 9, 0), (39, 0, 0, 1, 0), (42, 0, 0, 2, 0), (45, 0, 0, 3, 0), (48, 1, 94, 0, 0), (22, 1, 160, 0, 0)]

noncomputable def jm_lk4 : List jm_K := [(3, 6, 1, 0, 0), (9, 0, 3, 0, 1), (15, 2, 43, 0, 0), (21, 14, 0, 0, 0), (27, 0, 6, 2, 0), (33, 1, 37, 0, 6)]

noncomputable def jm_lk5 : List jm_K := [(3, 6, 1, 0, 0), (9, 8, 2, 0, 0), (11, 0, 4, 2, 1), (9, 7, 6, 3, 0), (17, 5, 6, 0, 0), (18, 0, 4, 3, 1), (22, 7, 3, 1, 0), (24, 5, 7, 0, 0), (25, 0, 4, 4, 1), (29, 0, 4, 6, 0), (33, 0, 4, 0, 1), (37, 0, 4, 1, 1), (44, 1, 27, 0, 2), (50, 0, 2, 0, 1), (54, 0, 0, 10, 0), (41, 0, 4, 5, 0), (59, 1, 33, 0, 4), (79, 0, 0, 0, 0), (82, 1, 34, 0, 4), (86, 0, 0, 4, 0), (89, 1, 38, 0, 8), (93, 0, 0, 1, 0), (96, 1, 39, 0, 4), (99, 1, 40, 0, 4), (103, 1, 42, 0, 3), (106, 0, 0, 2, 0), (109, 0, 0, 3, 0), (112, 1, 44, 0, 4), (116, 1, 52, 0, 3), (120, 1, 53, 0, 4), (70, 0, 6, 2, 0), (123, 0, 0, 6, 0), (126, 0, 8, 3, 0), (127, 0, 0, 5, 0), (130, 1, 35, 0, 4), (134, 1, 37, 0, 6), (73, 0, 8, 0, 1), (138, 1, 36, 0, 8), (142, 1, 41, 0, 6), (145, 0, 6, 0, 1), (148, 0, 6, 1, 1), (158, 1, 45, 0, 6), (162, 1, 46, 0, 6), (165, 2, 48, 0, 0), (169, 1, 51, 0, 3), (172, 14, 0, 0, 0), (178, 13, 0, 0, 0), (151, 1, 54, 0, 4), (154, 1, 55, 0, 4)]

noncomputable def jm_lk6 : List jm_K := [(3, 6, 1, 0, 0), (9, 0, 5, 0, 1), (15, 0, 5, 2, 0), (19, 2, 15, 0, 0), (25, 0, 5, 1, 0), (28, 1, 23, 0, 5), (32, 1, 47, 0, 6), (38, 0, 6, 0, 1), (42, 0, 6, 1, 1), (45, 0, 6, 2, 0)]

noncomputable def jm_lk7 : List jm_K := [(3, 6, 1, 0, 0), (9, 0, 6, 0, 1), (15, 0, 6, 1, 1), (18, 0, 6, 2, 0), (28, 1, 47, 0, 6), (32, 1, 45, 0, 6), (49, 1, 115, 0, 6), (46, 14, 0, 0, 0)]

noncomputable def jm_lk8 : List jm_K := [(3, 6, 1, 0, 0), (9, 0, 7, 0, 1), (15, 0, 7, 1, 0)]

noncomputable def jm_lk9 : List jm_K := [(3, 6, 1, 0, 0), (9, 0, 8, 0, 1), (15, 0, 8, 1, 1), (18, 0, 8, 2, 1), (21, 0, 8, 4, 0), (44, 0, 6, 2, 0), (31, 0, 8, 3, 0), (47, 1, 37, 0, 6), (34, 1, 112, 0, 8), (52, 1, 155, 0, 8), (55, 1, 58, 0, 8), (59, 1, 62, 0, 8), (62, 1, 61, 0, 8), (51, 10, 0, 0, 1103515245), (25, 12, 0, 0, 0), (38, 2, 164, 0, 0)]

noncomputable def jm_lk10 : List jm_K := [(7, 10, 0, 0, 65535), (8, 2, 167, 0, 0), (14, 1, 56, 0, 9), (20, 1, 60, 0, 9), (23, 1, 97, 0, 9), (26, 1, 102, 0, 9), (30, 1, 104, 0, 9), (33, 1, 105, 0, 9), (37, 1, 106, 0, 9), (41, 1, 65, 0, 9), (44, 1, 63, 0, 9), (47, 1, 153, 0, 9), (50, 1, 66, 0, 9), (53, 16, 1, 0, 0), (55, 15, 172, 0, 0), (61, 1, 76, 0, 9), (65, 1, 157, 0, 9), (68, 1, 161, 0, 9), (71, 1, 107, 0, 9), (74, 1, 162, 0, 9), (77, 1, 113, 0, 9), (80, 1, 114, 0, 9), (83, 1, 116, 0, 9), (86, 1, 124, 0, 9), (89, 1, 127, 0, 9), (92, 1, 138, 0, 9), (95, 1, 141, 0, 9), (98, 1, 11, 0, 9), (101, 1, 16, 0, 9), (105, 1, 149, 0, 9), (108, 1, 110, 0, 9), (111, 1, 136, 0, 9), (114, 1, 123, 0, 9), (15, 7, 9, 12, 0), (117, 3, 0, 0, 0), (118, 2, 168, 0, 0), (122, 2, 169, 0, 0), (126, 1, 111, 0, 9), (129, 2, 170, 0, 0), (133, 2, 171, 0, 0)]

noncomputable def jm_lk11 : List jm_K := []

noncomputable def jm_lk12 : List jm_K := [(265, 10, 0, 0, 1431655765), (266, 10, 0, 0, 858993459), (267, 10, 0, 0, 252645135)]

noncomputable def jm_LK (o : Nat) : List jm_K := match o with
  | 0 => jm_lk0
  | 1 => jm_lk1
  | 2 => jm_lk2
  | 3 => jm_lk3
  | 4 => jm_lk4
  | 5 => jm_lk5
  | 6 => jm_lk6
  | 7 => jm_lk7
  | 8 => jm_lk8
  | 9 => jm_lk9
  | 10 => jm_lk10
  | 11 => jm_lk11
  | 12 => jm_lk12
  | _ => []

abbrev jm_I : Type := Instr × Nat × Nat × Nat × Int

set_option maxRecDepth 20000 in
noncomputable def jt_0_0 : List (Option jm_I) := [some (.aload_n 0, 1, 0, 0, 0), some (.invokespecial 1, 4, 1, 6, 0), none, none, some (.aload_n 0, 5, 0, 0, 0), some (.new 7, 8, 8, 5, 0), none, none, some (.dup, 9, 0, 0, 0), some (.invokespecial 9, 12, 2, 5, 0), none, none, some (.putfield 10, 15, 9, 0, 1), none, none, some (.aload_n 0, 16, 0, 0, 0), some (.new 7, 19, 8, 5, 0), none, none, some (.dup, 20, 0, 0, 0), some (.invokespecial 9, 23, 2, 5, 0), none, none, some (.putfield 16, 26, 9, 1, 1), none, none, some (.aload_n 0, 27, 0, 0, 0), some (.new 19, 30, 2, 2, 0), none, none, some (.dup, 31, 0, 0, 0), some (.invokespecial 21, 34, 3, 3, 0), none, none, some (.putfield 22, 37, 9, 2, 1), none, none, some (.aload_n 0, 38, 0, 0, 0), some (.new 19, 41, 2, 2, 0), none, none, some (.dup, 42, 0, 0, 0), some (.invokespecial 21, 45, 3, 3, 0), none, none, some (.putfield 26, 48, 9, 3, 1), none, none, some (.aload_n 0, 49, 0, 0, 0), some (.new 29, 52, 4, 7, 0), none, none, some (.dup, 53, 0, 0, 0), some (.aload_n 0, 54, 0, 0, 0), some (.getfield 10, 57, 9, 0, 1), none, none, some (.aload_n 0, 58, 0, 0, 0), some (.getfield 22, 61, 9, 2, 1), none, none, some (.invokespecial 31, 64, 5, 3, 0), none, none]

set_option maxRecDepth 20000 in
noncomputable def jt_0_1 : List (Option jm_I) := [some (.putfield 34, 67, 9, 4, 1), none, none, some (.aload_n 0, 68, 0, 0, 0), some (.new 38, 71, 6, 3, 0), none, none, some (.dup, 72, 0, 0, 0), some (.invokespecial 40, 75, 6, 5, 0), none, none, some (.putfield 41, 78, 9, 5, 1), none, none, some (.aload_n 0, 79, 0, 0, 0), some (.bipush 60, 81, 0, 0, 0), none, some (.newarray .int, 83, 0, 0, 0), none, some (.putfield 45, 86, 9, 6, 1), none, none, some (.aload_n 0, 87, 0, 0, 0), some (.new 49, 90, 7, 2, 0), none, none, some (.dup, 91, 0, 0, 0), some (.invokespecial 51, 94, 8, 5, 0), none, none, some (.putfield 52, 97, 9, 7, 1), none, none, some (.aload_n 0, 98, 0, 0, 0), some (.new 56, 101, 1, 10, 0), none, none, some (.dup, 102, 0, 0, 0), some (.aload_n 0, 103, 0, 0, 0), some (.getfield 52, 106, 9, 7, 1), none, none, some (.aload_n 0, 107, 0, 0, 0), some (.getfield 22, 110, 9, 2, 1), none, none, some (.invokespecial 58, 113, 9, 3, 0), none, none, some (.putfield 61, 116, 9, 8, 1), none, none, some (.aload_n 0, 117, 0, 0, 0), some (.bipush 8, 119, 0, 0, 0), none, some (.anewarray 65, 122, 0, 0, 0), none, none, some (.putfield 67, 125, 9, 9, 1), none, none, some (.aload_n 0, 126, 0, 0, 0), some (.iconst 5, 127, 0, 0, 0), some (.newarray .int, 129, 0, 0, 0)]

set_option maxRecDepth 20000 in
noncomputable def jt_0_2 : List (Option jm_I) := [none, some (.putfield 71, 132, 9, 10, 1), none, none, some (.iconst 0, 133, 0, 0, 0), some (.istore_n 1, 134, 0, 0, 0), some (.iload_n 1, 135, 0, 0, 0), some (.bipush 8, 137, 0, 0, 0), none, some (.if_icmp .ge 22, 140, 159, 0, 0), none, none, some (.aload_n 0, 141, 0, 0, 0), some (.getfield 67, 144, 9, 9, 1), none, none, some (.iload_n 1, 145, 0, 0, 0), some (.new 65, 148, 5, 3, 0), none, none, some (.dup, 149, 0, 0, 0), some (.invokespecial 74, 152, 10, 5, 0), none, none, some (.aastore, 153, 0, 0, 0), some (.iinc 1 1, 156, 0, 0, 0), none, none, some (.goto (-22), 159, 134, 0, 0), none, none, some (.return_, 160, 0, 0, 0)]

noncomputable def jt_0 : List (List (Option jm_I)) := [jt_0_0, jt_0_1, jt_0_2]

set_option maxRecDepth 20000 in
noncomputable def jt_1_0 : List (Option jm_I) := [some (.return_, 1, 0, 0, 0)]

noncomputable def jt_1 : List (List (Option jm_I)) := [jt_1_0]

set_option maxRecDepth 20000 in
noncomputable def jt_2_0 : List (Option jm_I) := [some (.aload_n 0, 1, 0, 0, 0), some (.invokespecial 3, 4, 1, 6, 0), none, none, some (.aload_n 0, 5, 0, 0, 0), some (.bipush 60, 7, 0, 0, 0), none, some (.newarray .int, 9, 0, 0, 0), none, some (.putfield 9, 12, 8, 0, 1), none, none, some (.aload_n 0, 13, 0, 0, 0), some (.bipush 60, 15, 0, 0, 0), none, some (.newarray .int, 17, 0, 0, 0), none, some (.putfield 15, 20, 8, 1, 1), none, none, some (.aload_n 0, 21, 0, 0, 0), some (.bipush 16, 23, 0, 0, 0), none, some (.newarray .int, 25, 0, 0, 0), none, some (.putfield 18, 28, 8, 2, 1), none, none, some (.aload_n 0, 29, 0, 0, 0), some (.iconst 1, 30, 0, 0, 0), some (.putfield 21, 33, 8, 4, 0), none, none, some (.return_, 34, 0, 0, 0)]

noncomputable def jt_2 : List (List (Option jm_I)) := [jt_2_0]

set_option maxRecDepth 20000 in
noncomputable def jt_3_0 : List (Option jm_I) := [some (.aload_n 0, 1, 0, 0, 0), some (.invokespecial 3, 4, 1, 6, 0), none, none, some (.aload_n 0, 5, 0, 0, 0), some (.bipush 24, 7, 0, 0, 0), none, some (.anewarray 9, 10, 1, 0, 0), none, none, some (.putfield 11, 13, 2, 0, 1), none, none, some (.iconst 0, 14, 0, 0, 0), some (.istore_n 1, 15, 0, 0, 0), some (.iload_n 1, 16, 0, 0, 0), some (.bipush 24, 18, 0, 0, 0), none, some (.if_icmp .ge 22, 21, 40, 0, 0), none, none, some (.aload_n 0, 22, 0, 0, 0), some (.getfield 11, 25, 2, 0, 1), none, none, some (.iload_n 1, 26, 0, 0, 0), some (.new 9, 29, 0, 11, 0), none, none, some (.dup, 30, 0, 0, 0), some (.invokespecial 17, 33, 4, 5, 0), none, none, some (.aastore, 34, 0, 0, 0), some (.iinc 1 1, 37, 0, 0, 0), none, none, some (.goto (-22), 40, 15, 0, 0), none, none, some (.return_, 41, 0, 0, 0)]

noncomputable def jt_3 : List (List (Option jm_I)) := [jt_3_0]

set_option maxRecDepth 20000 in
noncomputable def jt_4_0 : List (Option jm_I) := [some (.aload_n 0, 1, 0, 0, 0), some (.invokespecial 3, 4, 1, 6, 0), none, none, some (.return_, 5, 0, 0, 0)]

noncomputable def jt_4 : List (List (Option jm_I)) := [jt_4_0]

set_option maxRecDepth 20000 in
noncomputable def jt_5_0 : List (Option jm_I) := [some (.aload_n 0, 1, 0, 0, 0), some (.invokespecial 3, 4, 1, 6, 0), none, none, some (.aload_n 0, 5, 0, 0, 0), some (.bipush 24, 7, 0, 0, 0), none, some (.anewarray 9, 10, 2, 0, 0), none, none, some (.putfield 11, 13, 4, 2, 1), none, none, some (.aload_n 0, 14, 0, 0, 0), some (.new 9, 17, 6, 3, 0), none, none, some (.dup, 18, 0, 0, 0), some (.invokespecial 17, 21, 6, 5, 0), none, none, some (.putfield 18, 24, 4, 3, 1), none, none, some (.aload_n 0, 25, 0, 0, 0), some (.new 22, 28, 3, 1, 0), none, none, some (.dup, 29, 0, 0, 0), some (.invokespecial 24, 32, 7, 5, 0), none, none, some (.putfield 25, 35, 4, 4, 1), none, none, some (.aload_n 0, 36, 0, 0, 0), some (.iconst (-1), 37, 0, 0, 0), some (.putfield 29, 40, 4, 6, 0), none, none, some (.aload_n 0, 41, 0, 0, 0), some (.aload_n 1, 42, 0, 0, 0), some (.putfield 33, 45, 4, 0, 1), none, none, some (.aload_n 0, 46, 0, 0, 0), some (.aload_n 2, 47, 0, 0, 0), some (.putfield 37, 50, 4, 1, 1), none, none, some (.iconst 0, 51, 0, 0, 0), some (.istore_n 3, 52, 0, 0, 0), some (.iload_n 3, 53, 0, 0, 0), some (.bipush 24, 55, 0, 0, 0), none, some (.if_icmp .ge 22, 58, 77, 0, 0), none, none, some (.aload_n 0, 59, 0, 0, 0), some (.getfield 11, 62, 4, 2, 1), none, none, some (.iload_n 3, 63, 0, 0, 0), some (.new 9, 66, 6, 3, 0)]

set_option maxRecDepth 20000 in
noncomputable def jt_5_1 : List (Option jm_I) := [none, none, some (.dup, 67, 0, 0, 0), some (.invokespecial 17, 70, 6, 5, 0), none, none, some (.aastore, 71, 0, 0, 0), some (.iinc 3 1, 74, 0, 0, 0), none, none, some (.goto (-22), 77, 52, 0, 0), none, none, some (.return_, 78, 0, 0, 0)]

noncomputable def jt_5 : List (List (Option jm_I)) := [jt_5_0, jt_5_1]

set_option maxRecDepth 20000 in
noncomputable def jt_6_0 : List (Option jm_I) := [some (.aload_n 0, 1, 0, 0, 0), some (.invokespecial 3, 4, 1, 6, 0), none, none, some (.aload_n 0, 5, 0, 0, 0), some (.bipush 60, 7, 0, 0, 0), none, some (.newarray .int, 9, 0, 0, 0), none, some (.putfield 9, 12, 6, 0, 1), none, none, some (.aload_n 0, 13, 0, 0, 0), some (.bipush 60, 15, 0, 0, 0), none, some (.newarray .int, 17, 0, 0, 0), none, some (.putfield 15, 20, 6, 1, 1), none, none, some (.return_, 21, 0, 0, 0)]

noncomputable def jt_6 : List (List (Option jm_I)) := [jt_6_0]

set_option maxRecDepth 20000 in
noncomputable def jt_7_0 : List (Option jm_I) := [some (.aload_n 0, 1, 0, 0, 0), some (.invokespecial 3, 4, 1, 6, 0), none, none, some (.aload_n 0, 5, 0, 0, 0), some (.bipush 60, 7, 0, 0, 0), none, some (.newarray .int, 9, 0, 0, 0), none, some (.putfield 9, 12, 3, 0, 1), none, none, some (.return_, 13, 0, 0, 0)]

noncomputable def jt_7 : List (List (Option jm_I)) := [jt_7_0]

set_option maxRecDepth 20000 in
noncomputable def jt_8_0 : List (Option jm_I) := [some (.aload_n 0, 1, 0, 0, 0), some (.invokespecial 3, 4, 1, 6, 0), none, none, some (.aload_n 0, 5, 0, 0, 0), some (.sipush 250, 8, 0, 0, 0), none, none, some (.newarray .int, 10, 0, 0, 0), none, some (.putfield 9, 13, 7, 0, 1), none, none, some (.return_, 14, 0, 0, 0)]

noncomputable def jt_8 : List (List (Option jm_I)) := [jt_8_0]

set_option maxRecDepth 20000 in
noncomputable def jt_9_0 : List (Option jm_I) := [some (.aload_n 0, 1, 0, 0, 0), some (.invokespecial 3, 4, 1, 6, 0), none, none, some (.aload_n 0, 5, 0, 0, 0), some (.sipush 250, 8, 0, 0, 0), none, none, some (.newarray .int, 10, 0, 0, 0), none, some (.putfield 9, 13, 1, 2, 1), none, none, some (.aload_n 0, 14, 0, 0, 0), some (.sipush 250, 17, 0, 0, 0), none, none, some (.newarray .int, 19, 0, 0, 0), none, some (.putfield 15, 22, 1, 3, 1), none, none, some (.aload_n 0, 23, 0, 0, 0), some (.aload_n 1, 24, 0, 0, 0), some (.putfield 18, 27, 1, 0, 1), none, none, some (.aload_n 0, 28, 0, 0, 0), some (.aload_n 2, 29, 0, 0, 0), some (.putfield 22, 32, 1, 1, 1), none, none, some (.return_, 33, 0, 0, 0)]

noncomputable def jt_9 : List (List (Option jm_I)) := [jt_9_0]

set_option maxRecDepth 20000 in
noncomputable def jt_10_0 : List (Option jm_I) := [some (.aload_n 0, 1, 0, 0, 0), some (.invokespecial 3, 4, 1, 6, 0), none, none, some (.aload_n 0, 5, 0, 0, 0), some (.bipush 40, 7, 0, 0, 0), none, some (.newarray .long, 9, 0, 0, 0), none, some (.putfield 9, 12, 5, 0, 1), none, none, some (.aload_n 0, 13, 0, 0, 0), some (.iconst (-1), 14, 0, 0, 0), some (.putfield 15, 17, 5, 2, 0), none, none, some (.return_, 18, 0, 0, 0)]

noncomputable def jt_10 : List (List (Option jm_I)) := [jt_10_0]

set_option maxRecDepth 20000 in
noncomputable def jt_11_0 : List (Option jm_I) := [some (.iload_n 1, 1, 0, 0, 0), some (.invokestatic 75, 4, 12, 2, 0), none, none, some (.ifCond .eq 22, 7, 26, 0, 0), none, none, some (.iload_n 2, 8, 0, 0, 0), some (.ifCond .lt 18, 11, 26, 0, 0), none, none, some (.iload_n 2, 12, 0, 0, 0), some (.iconst 4, 13, 0, 0, 0), some (.if_icmp .gt 13, 16, 26, 0, 0), none, none, some (.iload_n 3, 17, 0, 0, 0), some (.ifCond .lt 9, 20, 26, 0, 0), none, none, some (.iload_n 3, 21, 0, 0, 0), some (.bipush 40, 23, 0, 0, 0), none, some (.if_icmp .le 10, 26, 33, 0, 0), none, none, some (.aload_n 0, 27, 0, 0, 0), some (.bipush (-2), 29, 0, 0, 0), none, some (.invokevirtual 79, 32, 13, 1, 9), none, none, some (.ireturn, 33, 0, 0, 0), some (.aload_n 0, 34, 0, 0, 0), some (.getfield 67, 37, 9, 9, 1), none, none, some (.iload_n 1, 38, 0, 0, 0), some (.aaload, 39, 0, 0, 0), some (.iload_n 2, 40, 0, 0, 0), some (.iload_n 3, 41, 0, 0, 0), some (.invokevirtual 83, 44, 14, 1, 5), none, none, some (.iconst 1, 45, 0, 0, 0), some (.ireturn, 46, 0, 0, 0)]

noncomputable def jt_11 : List (List (Option jm_I)) := [jt_11_0]

set_option maxRecDepth 20000 in
noncomputable def jt_12_0 : List (Option jm_I) := [some (.iload_n 0, 1, 0, 0, 0), some (.ifCond .lt 13, 4, 14, 0, 0), none, none, some (.iload_n 0, 5, 0, 0, 0), some (.bipush 8, 7, 0, 0, 0), none, some (.if_icmp .ge 7, 10, 14, 0, 0), none, none, some (.iconst 1, 11, 0, 0, 0), some (.goto 4, 14, 15, 0, 0), none, none, some (.iconst 0, 15, 0, 0, 0), some (.ireturn, 16, 1, 0, 0)]

noncomputable def jt_12 : List (List (Option jm_I)) := [jt_12_0]

set_option maxRecDepth 20000 in
noncomputable def jt_13_0 : List (Option jm_I) := [some (.bipush (-2), 2, 0, 0, 0), none, some (.iload_n 1, 3, 0, 0, 0), some (.isub, 4, 0, 0, 0), some (.istore_n 2, 5, 0, 0, 0), some (.iload_n 2, 6, 0, 0, 0), some (.ifCond .lt 18, 9, 24, 0, 0), none, none, some (.iload_n 2, 10, 0, 0, 0), some (.iconst 5, 11, 0, 0, 0), some (.if_icmp .ge 13, 14, 24, 0, 0), none, none, some (.aload_n 0, 15, 0, 0, 0), some (.getfield 71, 18, 9, 10, 1), none, none, some (.iload_n 2, 19, 0, 0, 0), some (.dup2, 20, 0, 0, 0), some (.iaload, 21, 0, 0, 0), some (.iconst 1, 22, 0, 0, 0), some (.iadd, 23, 0, 0, 0), some (.iastore, 24, 0, 0, 0), some (.iload_n 1, 25, 0, 0, 0), some (.ireturn, 26, 0, 0, 0)]

noncomputable def jt_13 : List (List (Option jm_I)) := [jt_13_0]

set_option maxRecDepth 20000 in
noncomputable def jt_14_0 : List (Option jm_I) := [some (.aload_n 0, 1, 0, 0, 0), some (.getfield 9, 4, 5, 0, 1), none, none, some (.lconst 0, 5, 0, 0, 0), some (.invokestatic 19, 8, 15, 2, 0), none, none, some (.aload_n 0, 9, 0, 0, 0), some (.iload_n 2, 10, 0, 0, 0), some (.putfield 25, 13, 5, 1, 0), none, none, some (.aload_n 0, 14, 0, 0, 0), some (.iload_n 1, 15, 0, 0, 0), some (.putfield 15, 18, 5, 2, 0), none, none, some (.return_, 19, 0, 0, 0)]

noncomputable def jt_14 : List (List (Option jm_I)) := [jt_14_0]

set_option maxRecDepth 20000 in
noncomputable def jt_15_0 : List (Option jm_I) := [some (.iconst 0, 1, 0, 0, 0), some (.istore_n 3, 2, 0, 0, 0), some (.aload_n 0, 3, 0, 0, 0), some (.arraylength, 4, 0, 0, 0), some (.istore 4, 6, 0, 0, 0), none, some (.iload_n 3, 7, 0, 0, 0), some (.iload 4, 9, 0, 0, 0), none, some (.if_icmp .ge 13, 12, 22, 0, 0), none, none, some (.aload_n 0, 13, 0, 0, 0), some (.iload_n 3, 14, 0, 0, 0), some (.lload_n 1, 15, 0, 0, 0), some (.lastore, 16, 0, 0, 0), some (.iinc 3 1, 19, 0, 0, 0), none, none, some (.goto (-13), 22, 6, 0, 0), none, none, some (.return_, 23, 0, 0, 0)]

noncomputable def jt_15 : List (List (Option jm_I)) := [jt_15_0]

set_option maxRecDepth 20000 in
noncomputable def jt_16_0 : List (Option jm_I) := [some (.aload_n 0, 1, 0, 0, 0), some (.iload_n 1, 2, 0, 0, 0), some (.iconst 0, 3, 0, 0, 0), some (.invokevirtual 87, 6, 17, 1, 9), none, none, some (.istore 5, 8, 0, 0, 0), none, some (.iload 5, 10, 0, 0, 0), none, some (.ifCond .eq 10, 13, 20, 0, 0), none, none, some (.aload_n 0, 14, 0, 0, 0), some (.iload 5, 16, 0, 0, 0), none, some (.invokevirtual 79, 19, 13, 1, 9), none, none, some (.ireturn, 20, 0, 0, 0), some (.aload_n 0, 21, 0, 0, 0), some (.getfield 67, 24, 9, 9, 1), none, none, some (.iload_n 1, 25, 0, 0, 0), some (.aaload, 26, 0, 0, 0), some (.astore 6, 28, 0, 0, 0), none, some (.aload 6, 30, 0, 0, 0), none, some (.iload_n 2, 31, 0, 0, 0), some (.invokevirtual 91, 34, 20, 1, 5), none, none, some (.ifCond .ne 10, 37, 44, 0, 0), none, none, some (.aload_n 0, 38, 0, 0, 0), some (.bipush (-2), 40, 0, 0, 0), none, some (.invokevirtual 79, 43, 13, 1, 9), none, none, some (.ireturn, 44, 0, 0, 0), some (.aload 6, 46, 0, 0, 0), none, some (.getfield 94, 49, 5, 0, 1), none, none, some (.iload_n 2, 50, 0, 0, 0), some (.aload 6, 52, 0, 0, 0), none, some (.getfield 98, 55, 5, 2, 0), none, none, some (.lload_n 3, 56, 0, 0, 0), some (.invokestatic 102, 59, 21, 2, 0), none, none, some (.lastore, 60, 0, 0, 0), some (.iconst 1, 61, 0, 0, 0), some (.ireturn, 62, 0, 0, 0)]

noncomputable def jt_16 : List (List (Option jm_I)) := [jt_16_0]

set_option maxRecDepth 20000 in
noncomputable def jt_17_0 : List (Option jm_I) := [some (.iload_n 1, 1, 0, 0, 0), some (.invokestatic 75, 4, 12, 2, 0), none, none, some (.ifCond .ne 6, 7, 10, 0, 0), none, none, some (.bipush (-2), 9, 0, 0, 0), none, some (.ireturn, 10, 0, 0, 0), some (.aload_n 0, 11, 0, 0, 0), some (.getfield 67, 14, 9, 9, 1), none, none, some (.iload_n 1, 15, 0, 0, 0), some (.aaload, 16, 0, 0, 0), some (.astore_n 3, 17, 0, 0, 0), some (.aload_n 3, 18, 0, 0, 0), some (.invokevirtual 106, 21, 18, 1, 5), none, none, some (.ifCond .eq 6, 24, 27, 0, 0), none, none, some (.bipush (-3), 26, 0, 0, 0), none, some (.ireturn, 27, 0, 0, 0), some (.aload_n 3, 28, 0, 0, 0), some (.invokevirtual 120, 31, 19, 1, 5), none, none, some (.ifCond .ne 6, 34, 37, 0, 0), none, none, some (.bipush (-4), 36, 0, 0, 0), none, some (.ireturn, 37, 0, 0, 0), some (.aload_n 3, 38, 0, 0, 0), some (.getfield 355, 41, 5, 1, 0), none, none, some (.iload_n 2, 42, 0, 0, 0), some (.if_icmp .ge 8, 45, 50, 0, 0), none, none, some (.bipush (-2), 47, 0, 0, 0), none, some (.goto 4, 50, 51, 0, 0), none, none, some (.iconst 0, 51, 0, 0, 0), some (.ireturn, 52, 0, 0, 0)]

noncomputable def jt_17 : List (List (Option jm_I)) := [jt_17_0]

set_option maxRecDepth 20000 in
noncomputable def jt_18_0 : List (Option jm_I) := [some (.aload_n 0, 1, 0, 0, 0), some (.getfield 15, 4, 5, 2, 0), none, none, some (.bipush 10, 6, 0, 0, 0), none, some (.if_icmp .lt 7, 9, 13, 0, 0), none, none, some (.iconst 1, 10, 0, 0, 0), some (.goto 4, 13, 14, 0, 0), none, none, some (.iconst 0, 14, 0, 0, 0), some (.ireturn, 15, 1, 0, 0)]

noncomputable def jt_18 : List (List (Option jm_I)) := [jt_18_0]

set_option maxRecDepth 20000 in
noncomputable def jt_19_0 : List (Option jm_I) := [some (.aload_n 0, 1, 0, 0, 0), some (.getfield 15, 4, 5, 2, 0), none, none, some (.ifCond .lt 15, 7, 19, 0, 0), none, none, some (.aload_n 0, 8, 0, 0, 0), some (.getfield 15, 11, 5, 2, 0), none, none, some (.iconst 4, 12, 0, 0, 0), some (.if_icmp .gt 7, 15, 19, 0, 0), none, none, some (.iconst 1, 16, 0, 0, 0), some (.goto 4, 19, 20, 0, 0), none, none, some (.iconst 0, 20, 0, 0, 0), some (.ireturn, 21, 1, 0, 0)]

noncomputable def jt_19 : List (List (Option jm_I)) := [jt_19_0]

set_option maxRecDepth 20000 in
noncomputable def jt_20_0 : List (Option jm_I) := [some (.iload_n 1, 1, 0, 0, 0), some (.ifCond .lt 15, 4, 16, 0, 0), none, none, some (.iload_n 1, 5, 0, 0, 0), some (.aload_n 0, 6, 0, 0, 0), some (.getfield 25, 9, 5, 1, 0), none, none, some (.if_icmp .ge 7, 12, 16, 0, 0), none, none, some (.iconst 1, 13, 0, 0, 0), some (.goto 4, 16, 17, 0, 0), none, none, some (.iconst 0, 17, 0, 0, 0), some (.ireturn, 18, 1, 0, 0)]

noncomputable def jt_20 : List (List (Option jm_I)) := [jt_20_0]

set_option maxRecDepth 20000 in
noncomputable def jt_21_0 : List (Option jm_I) := [some (.iload_n 0, 1, 0, 0, 0), some (.tableswitch 61 0 4 #[35, 40, 45, 61, 49], 36, 0, 0, 0), none, none, none, none, none, none, none, none, none, none, none, none, none, none, none, none, none, none, none, none, none, none, none, none, none, none, none, none, none, none, none, none, none, none, some (.lload_n 1, 37, 0, 0, 0), some (.l2i, 38, 0, 0, 0), some (.i2b, 39, 0, 0, 0), some (.i2l, 40, 0, 0, 0), some (.lreturn, 41, 0, 0, 0), some (.lload_n 1, 42, 0, 0, 0), some (.l2i, 43, 0, 0, 0), some (.i2s, 44, 0, 0, 0), some (.i2l, 45, 0, 0, 0), some (.lreturn, 46, 0, 0, 0), some (.lload_n 1, 47, 0, 0, 0), some (.l2i, 48, 0, 0, 0), some (.i2l, 49, 0, 0, 0), some (.lreturn, 50, 0, 0, 0), some (.lload_n 1, 51, 0, 0, 0), some (.lconst 0, 52, 0, 0, 0), some (.lcmp, 53, 0, 0, 0), some (.ifCond .ne 7, 56, 60, 0, 0), none, none, some (.lconst 0, 57, 0, 0, 0), some (.goto 4, 60, 61, 0, 0), none, none, some (.lconst 1, 61, 0, 0, 0), some (.lreturn, 62, 0, 0, 0), some (.lload_n 1, 63, 0, 0, 0), some (.lreturn, 64, 0, 0, 0)]

noncomputable def jt_21 : List (List (Option jm_I)) := [jt_21_0]

noncomputable def jt_22 : List (List (Option jm_I)) := []

set_option maxRecDepth 20000 in
noncomputable def jt_23_0 : List (Option jm_I) := [some (.iload_n 1, 1, 0, 0, 0), some (.ifCond .lt 29, 4, 30, 0, 0), none, none, some (.iload_n 2, 5, 0, 0, 0), some (.ifCond .lt 25, 8, 30, 0, 0), none, none, some (.iload_n 2, 9, 0, 0, 0), some (.aload_n 0, 10, 0, 0, 0), some (.getfield 25, 13, 5, 1, 0), none, none, some (.if_icmp .gt 17, 16, 30, 0, 0), none, none, some (.iload_n 1, 17, 0, 0, 0), some (.aload_n 0, 18, 0, 0, 0), some (.getfield 25, 21, 5, 1, 0), none, none, some (.iload_n 2, 22, 0, 0, 0), some (.isub, 23, 0, 0, 0), some (.if_icmp .gt 7, 26, 30, 0, 0), none, none, some (.iconst 1, 27, 0, 0, 0), some (.goto 4, 30, 31, 0, 0), none, none, some (.iconst 0, 31, 0, 0, 0), some (.ireturn, 32, 1, 0, 0)]

noncomputable def jt_23 : List (List (Option jm_I)) := [jt_23_0]

noncomputable def jt_24 : List (List (Option jm_I)) := []

noncomputable def jt_25 : List (List (Option jm_I)) := []

noncomputable def jt_26 : List (List (Option jm_I)) := []

set_option maxRecDepth 20000 in
noncomputable def jt_27_0 : List (Option jm_I) := [some (.iload_n 1, 1, 0, 0, 0), some (.ifCond .lt 15, 4, 16, 0, 0), none, none, some (.iload_n 1, 5, 0, 0, 0), some (.aload_n 0, 6, 0, 0, 0), some (.getfield 18, 9, 2, 1, 0), none, none, some (.if_icmp .ge 7, 12, 16, 0, 0), none, none, some (.iconst 1, 13, 0, 0, 0), some (.goto 4, 16, 17, 0, 0), none, none, some (.iconst 0, 17, 0, 0, 0), some (.ireturn, 18, 1, 0, 0)]

noncomputable def jt_27 : List (List (Option jm_I)) := [jt_27_0]

noncomputable def jt_28 : List (List (Option jm_I)) := []

noncomputable def jt_29 : List (List (Option jm_I)) := []

set_option maxRecDepth 20000 in
noncomputable def jt_30_0 : List (Option jm_I) := [some (.iload_n 0, 1, 0, 0, 0), some (.iconst 2, 2, 0, 0, 0), some (.if_icmp .lt 13, 5, 15, 0, 0), none, none, some (.iload_n 0, 6, 0, 0, 0), some (.bipush 8, 8, 0, 0, 0), none, some (.if_icmp .gt 7, 11, 15, 0, 0), none, none, some (.iconst 1, 12, 0, 0, 0), some (.goto 4, 15, 16, 0, 0), none, none, some (.iconst 0, 16, 0, 0, 0), some (.ireturn, 17, 1, 0, 0)]

noncomputable def jt_30 : List (List (Option jm_I)) := [jt_30_0]

noncomputable def jt_31 : List (List (Option jm_I)) := []

set_option maxRecDepth 20000 in
noncomputable def jt_32_0 : List (Option jm_I) := [some (.aload_n 0, 1, 0, 0, 0), some (.getfield 37, 4, 4, 1, 1), none, none, some (.iload_n 1, 5, 0, 0, 0), some (.invokevirtual 44, 8, 27, 1, 2), none, none, some (.ifCond .ne 8, 11, 16, 0, 0), none, none, some (.aload_n 0, 12, 0, 0, 0), some (.getfield 18, 15, 4, 3, 1), none, none, some (.areturn, 16, 0, 0, 0), some (.aload_n 0, 17, 0, 0, 0), some (.getfield 37, 20, 4, 1, 1), none, none, some (.getfield 50, 23, 2, 0, 1), none, none, some (.iload_n 1, 24, 0, 0, 0), some (.aaload, 25, 0, 0, 0), some (.getfield 54, 28, 0, 10, 0), none, none, some (.aload_n 0, 29, 0, 0, 0), some (.getfield 41, 32, 4, 5, 0), none, none, some (.iconst (-1), 33, 0, 0, 0), some (.ixor, 34, 0, 0, 0), some (.iand, 35, 0, 0, 0), some (.istore_n 2, 36, 0, 0, 0), some (.iconst 0, 37, 0, 0, 0), some (.istore_n 3, 38, 0, 0, 0), some (.iload_n 3, 39, 0, 0, 0), some (.iload_n 1, 40, 0, 0, 0), some (.if_icmp .gt 22, 43, 62, 0, 0), none, none, some (.iload_n 2, 44, 0, 0, 0), some (.iload_n 3, 45, 0, 0, 0), some (.ishr, 46, 0, 0, 0), some (.iconst 1, 47, 0, 0, 0), some (.iand, 48, 0, 0, 0), some (.ifCond .eq 8, 51, 56, 0, 0), none, none, some (.aload_n 0, 52, 0, 0, 0), some (.iload_n 3, 53, 0, 0, 0), some (.invokevirtual 59, 56, 33, 1, 4), none, none, some (.iinc 3 1, 59, 0, 0, 0), none, none, some (.goto (-21), 62, 38, 0, 0), none, none, some (.aload_n 0, 63, 0, 0, 0), some (.dup, 64, 0, 0, 0)]

set_option maxRecDepth 20000 in
noncomputable def jt_32_1 : List (Option jm_I) := [some (.getfield 41, 67, 4, 5, 0), none, none, some (.iload_n 2, 68, 0, 0, 0), some (.ior, 69, 0, 0, 0), some (.putfield 41, 72, 4, 5, 0), none, none, some (.aload_n 0, 73, 0, 0, 0), some (.getfield 11, 76, 4, 2, 1), none, none, some (.iload_n 1, 77, 0, 0, 0), some (.aaload, 78, 0, 0, 0), some (.areturn, 79, 0, 0, 0)]

noncomputable def jt_32 : List (List (Option jm_I)) := [jt_32_0, jt_32_1]

set_option maxRecDepth 20000 in
noncomputable def jt_33_0 : List (Option jm_I) := [some (.aload_n 0, 1, 0, 0, 0), some (.getfield 37, 4, 4, 1, 1), none, none, some (.getfield 50, 7, 2, 0, 1), none, none, some (.iload_n 1, 8, 0, 0, 0), some (.aaload, 9, 0, 0, 0), some (.astore_n 2, 10, 0, 0, 0), some (.aload_n 0, 11, 0, 0, 0), some (.getfield 11, 14, 4, 2, 1), none, none, some (.iload_n 1, 15, 0, 0, 0), some (.aaload, 16, 0, 0, 0), some (.astore_n 3, 17, 0, 0, 0), some (.aload_n 2, 18, 0, 0, 0), some (.getfield 79, 21, 0, 0, 0), none, none, some (.ifCond .eq 11, 24, 32, 0, 0), none, none, some (.aload_n 2, 25, 0, 0, 0), some (.getfield 79, 28, 0, 0, 0), none, none, some (.iconst 1, 29, 0, 0, 0), some (.if_icmp .ne 12, 32, 41, 0, 0), none, none, some (.aload_n 0, 33, 0, 0, 0), some (.aload_n 2, 34, 0, 0, 0), some (.aload_n 3, 35, 0, 0, 0), some (.invokevirtual 82, 38, 34, 1, 4), none, none, some (.goto 140, 41, 178, 0, 0), none, none, some (.aload_n 2, 42, 0, 0, 0), some (.getfield 79, 45, 0, 0, 0), none, none, some (.bipush 9, 47, 0, 0, 0), none, some (.if_icmp .ne 18, 50, 65, 0, 0), none, none, some (.aload_n 0, 51, 0, 0, 0), some (.getfield 33, 54, 4, 0, 1), none, none, some (.aload_n 2, 55, 0, 0, 0), some (.getfield 86, 58, 0, 4, 0), none, none, some (.aload_n 3, 59, 0, 0, 0), some (.invokevirtual 89, 62, 38, 1, 8), none, none, some (.goto 116, 65, 178, 0, 0), none]

set_option maxRecDepth 20000 in
noncomputable def jt_33_1 : List (Option jm_I) := [none, some (.aload_n 2, 66, 0, 0, 0), some (.getfield 79, 69, 0, 0, 0), none, none, some (.bipush 10, 71, 0, 0, 0), none, some (.if_icmp .ne 23, 74, 94, 0, 0), none, none, some (.aload_n 0, 75, 0, 0, 0), some (.aload_n 0, 76, 0, 0, 0), some (.aload_n 2, 77, 0, 0, 0), some (.getfield 93, 80, 0, 1, 0), none, none, some (.invokevirtual 96, 83, 39, 1, 4), none, none, some (.aload_n 2, 84, 0, 0, 0), some (.getfield 86, 87, 0, 4, 0), none, none, some (.aload_n 3, 88, 0, 0, 0), some (.invokevirtual 99, 91, 40, 1, 4), none, none, some (.goto 87, 94, 178, 0, 0), none, none, some (.aload_n 2, 95, 0, 0, 0), some (.getfield 79, 98, 0, 0, 0), none, none, some (.bipush 11, 100, 0, 0, 0), none, some (.if_icmp .ne 53, 103, 153, 0, 0), none, none, some (.aload_n 0, 104, 0, 0, 0), some (.getfield 25, 107, 4, 4, 1), none, none, some (.invokevirtual 103, 110, 42, 1, 3), none, none, some (.aload_n 0, 111, 0, 0, 0), some (.aload_n 2, 112, 0, 0, 0), some (.getfield 86, 115, 0, 4, 0), none, none, some (.aload_n 0, 116, 0, 0, 0), some (.aload_n 2, 117, 0, 0, 0), some (.getfield 93, 120, 0, 1, 0), none, none, some (.invokevirtual 96, 123, 39, 1, 4), none, none, some (.aload_n 0, 124, 0, 0, 0), some (.aload_n 2, 125, 0, 0, 0), some (.getfield 106, 128, 0, 2, 0), none, none]

set_option maxRecDepth 20000 in
noncomputable def jt_33_2 : List (Option jm_I) := [some (.invokevirtual 96, 131, 39, 1, 4), none, none, some (.aload_n 0, 132, 0, 0, 0), some (.aload_n 2, 133, 0, 0, 0), some (.getfield 109, 136, 0, 3, 0), none, none, some (.invokevirtual 96, 139, 39, 1, 4), none, none, some (.invokevirtual 112, 142, 44, 1, 4), none, none, some (.aload_n 0, 143, 0, 0, 0), some (.getfield 25, 146, 4, 4, 1), none, none, some (.aload_n 3, 147, 0, 0, 0), some (.invokevirtual 116, 150, 52, 1, 3), none, none, some (.goto 28, 153, 178, 0, 0), none, none, some (.aload_n 0, 154, 0, 0, 0), some (.aload_n 2, 155, 0, 0, 0), some (.getfield 79, 158, 0, 0, 0), none, none, some (.aload_n 0, 159, 0, 0, 0), some (.aload_n 2, 160, 0, 0, 0), some (.getfield 93, 163, 0, 1, 0), none, none, some (.invokevirtual 96, 166, 39, 1, 4), none, none, some (.aload_n 0, 167, 0, 0, 0), some (.aload_n 2, 168, 0, 0, 0), some (.getfield 106, 171, 0, 2, 0), none, none, some (.invokevirtual 96, 174, 39, 1, 4), none, none, some (.aload_n 3, 175, 0, 0, 0), some (.invokevirtual 120, 178, 53, 1, 4), none, none, some (.return_, 179, 0, 0, 0)]

noncomputable def jt_33 : List (List (Option jm_I)) := [jt_33_0, jt_33_1, jt_33_2]

set_option maxRecDepth 20000 in
noncomputable def jt_34_0 : List (Option jm_I) := [some (.aload_n 2, 1, 0, 0, 0), some (.iconst 0, 2, 0, 0, 0), some (.putfield 70, 5, 6, 2, 0), none, none, some (.iconst 0, 6, 0, 0, 0), some (.istore_n 3, 7, 0, 0, 0), some (.iload_n 3, 8, 0, 0, 0), some (.aload_n 1, 9, 0, 0, 0), some (.getfield 123, 12, 0, 6, 0), none, none, some (.iadd, 13, 0, 0, 0), some (.aload_n 0, 14, 0, 0, 0), some (.getfield 33, 17, 4, 0, 1), none, none, some (.getfield 126, 20, 8, 3, 0), none, none, some (.if_icmp .gt 70, 23, 90, 0, 0), none, none, some (.iconst 0, 24, 0, 0, 0), some (.istore 4, 26, 0, 0, 0), none, some (.iload 4, 28, 0, 0, 0), none, some (.aload_n 1, 29, 0, 0, 0), some (.getfield 123, 32, 0, 6, 0), none, none, some (.if_icmp .ge 32, 35, 64, 0, 0), none, none, some (.aload_n 0, 36, 0, 0, 0), some (.iload_n 3, 37, 0, 0, 0), some (.iload 4, 39, 0, 0, 0), none, some (.iadd, 40, 0, 0, 0), some (.aload_n 1, 41, 0, 0, 0), some (.getfield 127, 44, 0, 5, 0), none, none, some (.iconst 4, 45, 0, 0, 0), some (.iload 4, 47, 0, 0, 0), none, some (.imul, 48, 0, 0, 0), some (.ishr, 49, 0, 0, 0), some (.bipush 15, 51, 0, 0, 0), none, some (.iand, 52, 0, 0, 0), some (.invokevirtual 130, 55, 35, 1, 4), none, none, some (.ifCond .eq 9, 58, 64, 0, 0), none, none, some (.iinc 4 1, 61, 0, 0, 0), none, none, some (.goto (-35), 64, 26, 0, 0), none, none]

set_option maxRecDepth 20000 in
noncomputable def jt_34_1 : List (Option jm_I) := [some (.iload 4, 66, 0, 0, 0), none, some (.aload_n 1, 67, 0, 0, 0), some (.getfield 123, 70, 0, 6, 0), none, none, some (.if_icmp .ne 14, 73, 84, 0, 0), none, none, some (.aload_n 2, 74, 0, 0, 0), some (.iload_n 3, 75, 0, 0, 0), some (.iload_n 3, 76, 0, 0, 0), some (.iload 4, 78, 0, 0, 0), none, some (.iadd, 79, 0, 0, 0), some (.iconst 1, 80, 0, 0, 0), some (.isub, 81, 0, 0, 0), some (.invokevirtual 134, 84, 37, 1, 6), none, none, some (.iinc 3 1, 87, 0, 0, 0), none, none, some (.goto (-80), 90, 7, 0, 0), none, none, some (.return_, 91, 0, 0, 0)]

noncomputable def jt_34 : List (List (Option jm_I)) := [jt_34_0, jt_34_1]

set_option maxRecDepth 20000 in
noncomputable def jt_35_0 : List (Option jm_I) := [some (.aload_n 0, 1, 0, 0, 0), some (.getfield 33, 4, 4, 0, 1), none, none, some (.getfield 73, 7, 8, 0, 1), none, none, some (.iload_n 1, 8, 0, 0, 0), some (.iaload, 9, 0, 0, 0), some (.aload_n 0, 10, 0, 0, 0), some (.getfield 29, 13, 4, 6, 0), none, none, some (.if_icmp .eq 22, 16, 35, 0, 0), none, none, some (.aload_n 0, 17, 0, 0, 0), some (.getfield 33, 20, 4, 0, 1), none, none, some (.iload_n 1, 21, 0, 0, 0), some (.invokevirtual 138, 24, 36, 1, 8), none, none, some (.iload_n 2, 25, 0, 0, 0), some (.ishr, 26, 0, 0, 0), some (.iconst 1, 27, 0, 0, 0), some (.iand, 28, 0, 0, 0), some (.ifCond .eq 7, 31, 35, 0, 0), none, none, some (.iconst 1, 32, 0, 0, 0), some (.goto 4, 35, 36, 0, 0), none, none, some (.iconst 0, 36, 0, 0, 0), some (.ireturn, 37, 1, 0, 0)]

noncomputable def jt_35 : List (List (Option jm_I)) := [jt_35_0]

set_option maxRecDepth 20000 in
noncomputable def jt_36_0 : List (Option jm_I) := [some (.aload_n 0, 1, 0, 0, 0), some (.getfield 9, 4, 8, 0, 1), none, none, some (.iload_n 1, 5, 0, 0, 0), some (.iaload, 6, 0, 0, 0), some (.istore_n 2, 7, 0, 0, 0), some (.iconst 1, 8, 0, 0, 0), some (.iload_n 2, 9, 0, 0, 0), some (.ishl, 10, 0, 0, 0), some (.aload_n 0, 11, 0, 0, 0), some (.getfield 18, 14, 8, 2, 1), none, none, some (.iload_n 2, 15, 0, 0, 0), some (.iaload, 16, 0, 0, 0), some (.ior, 17, 0, 0, 0), some (.ireturn, 18, 0, 0, 0)]

noncomputable def jt_36 : List (List (Option jm_I)) := [jt_36_0]

set_option maxRecDepth 20000 in
noncomputable def jt_37_0 : List (Option jm_I) := [some (.aload_n 0, 1, 0, 0, 0), some (.getfield 18, 4, 6, 2, 0), none, none, some (.bipush 60, 6, 0, 0, 0), none, some (.if_icmp .ge 33, 9, 39, 0, 0), none, none, some (.aload_n 0, 10, 0, 0, 0), some (.getfield 9, 13, 6, 0, 1), none, none, some (.aload_n 0, 14, 0, 0, 0), some (.getfield 18, 17, 6, 2, 0), none, none, some (.iload_n 1, 18, 0, 0, 0), some (.iastore, 19, 0, 0, 0), some (.aload_n 0, 20, 0, 0, 0), some (.getfield 15, 23, 6, 1, 1), none, none, some (.aload_n 0, 24, 0, 0, 0), some (.getfield 18, 27, 6, 2, 0), none, none, some (.iload_n 2, 28, 0, 0, 0), some (.iastore, 29, 0, 0, 0), some (.aload_n 0, 30, 0, 0, 0), some (.dup, 31, 0, 0, 0), some (.getfield 18, 34, 6, 2, 0), none, none, some (.iconst 1, 35, 0, 0, 0), some (.iadd, 36, 0, 0, 0), some (.putfield 18, 39, 6, 2, 0), none, none, some (.return_, 40, 0, 0, 0)]

noncomputable def jt_37 : List (List (Option jm_I)) := [jt_37_0]

set_option maxRecDepth 20000 in
noncomputable def jt_38_0 : List (Option jm_I) := [some (.aload_n 2, 1, 0, 0, 0), some (.iconst 0, 2, 0, 0, 0), some (.putfield 44, 5, 6, 2, 0), none, none, some (.iconst 0, 6, 0, 0, 0), some (.istore_n 3, 7, 0, 0, 0), some (.iconst 0, 8, 0, 0, 0), some (.istore 4, 10, 0, 0, 0), none, some (.iload 4, 12, 0, 0, 0), none, some (.aload_n 0, 13, 0, 0, 0), some (.getfield 31, 16, 8, 3, 0), none, none, some (.if_icmp .ge 43, 19, 59, 0, 0), none, none, some (.iload 4, 21, 0, 0, 0), none, some (.aload_n 0, 22, 0, 0, 0), some (.getfield 31, 25, 8, 3, 0), none, none, some (.iconst 1, 26, 0, 0, 0), some (.isub, 27, 0, 0, 0), some (.if_icmp .eq 14, 30, 41, 0, 0), none, none, some (.aload_n 0, 31, 0, 0, 0), some (.getfield 15, 34, 8, 1, 1), none, none, some (.iload 4, 36, 0, 0, 0), none, some (.iaload, 37, 0, 0, 0), some (.iload_n 1, 38, 0, 0, 0), some (.if_icmp .le 15, 41, 53, 0, 0), none, none, some (.aload_n 2, 42, 0, 0, 0), some (.iload_n 3, 43, 0, 0, 0), some (.iload 4, 45, 0, 0, 0), none, some (.invokevirtual 47, 48, 37, 1, 6), none, none, some (.iload 4, 50, 0, 0, 0), none, some (.iconst 1, 51, 0, 0, 0), some (.iadd, 52, 0, 0, 0), some (.istore_n 3, 53, 0, 0, 0), some (.iinc 4 1, 56, 0, 0, 0), none, none, some (.goto (-46), 59, 10, 0, 0), none, none, some (.return_, 60, 0, 0, 0)]

noncomputable def jt_38 : List (List (Option jm_I)) := [jt_38_0]

set_option maxRecDepth 20000 in
noncomputable def jt_39_0 : List (Option jm_I) := [some (.iload_n 1, 1, 0, 0, 0), some (.ifCond .lt 18, 4, 19, 0, 0), none, none, some (.iload_n 1, 5, 0, 0, 0), some (.bipush 24, 7, 0, 0, 0), none, some (.if_icmp .ge 12, 10, 19, 0, 0), none, none, some (.aload_n 0, 11, 0, 0, 0), some (.getfield 11, 14, 4, 2, 1), none, none, some (.iload_n 1, 15, 0, 0, 0), some (.aaload, 16, 0, 0, 0), some (.goto 7, 19, 23, 0, 0), none, none, some (.aload_n 0, 20, 0, 0, 0), some (.getfield 18, 23, 4, 3, 1), none, none, some (.areturn, 24, 0, 0, 0)]

noncomputable def jt_39 : List (List (Option jm_I)) := [jt_39_0]

set_option maxRecDepth 20000 in
noncomputable def jt_40_0 : List (Option jm_I) := [some (.aload_n 3, 1, 0, 0, 0), some (.iconst 0, 2, 0, 0, 0), some (.putfield 70, 5, 6, 2, 0), none, none, some (.iconst 0, 6, 0, 0, 0), some (.istore 4, 8, 0, 0, 0), none, some (.iload 4, 10, 0, 0, 0), none, some (.aload_n 1, 11, 0, 0, 0), some (.getfield 70, 14, 6, 2, 0), none, none, some (.if_icmp .ge 37, 17, 51, 0, 0), none, none, some (.aload_n 1, 18, 0, 0, 0), some (.iload 4, 20, 0, 0, 0), none, some (.invokevirtual 142, 23, 41, 1, 6), none, none, some (.iload_n 2, 24, 0, 0, 0), some (.if_icmp .gt 21, 27, 45, 0, 0), none, none, some (.aload_n 3, 28, 0, 0, 0), some (.aload_n 1, 29, 0, 0, 0), some (.getfield 145, 32, 6, 0, 1), none, none, some (.iload 4, 34, 0, 0, 0), none, some (.iaload, 35, 0, 0, 0), some (.aload_n 1, 36, 0, 0, 0), some (.getfield 148, 39, 6, 1, 1), none, none, some (.iload 4, 41, 0, 0, 0), none, some (.iaload, 42, 0, 0, 0), some (.invokevirtual 134, 45, 37, 1, 6), none, none, some (.iinc 4 1, 48, 0, 0, 0), none, none, some (.goto (-40), 51, 8, 0, 0), none, none, some (.return_, 52, 0, 0, 0)]

noncomputable def jt_40 : List (List (Option jm_I)) := [jt_40_0]

set_option maxRecDepth 20000 in
noncomputable def jt_41_0 : List (Option jm_I) := [some (.aload_n 0, 1, 0, 0, 0), some (.getfield 15, 4, 6, 1, 1), none, none, some (.iload_n 1, 5, 0, 0, 0), some (.iaload, 6, 0, 0, 0), some (.aload_n 0, 7, 0, 0, 0), some (.getfield 9, 10, 6, 0, 1), none, none, some (.iload_n 1, 11, 0, 0, 0), some (.iaload, 12, 0, 0, 0), some (.isub, 13, 0, 0, 0), some (.iconst 1, 14, 0, 0, 0), some (.iadd, 15, 0, 0, 0), some (.ireturn, 16, 0, 0, 0)]

noncomputable def jt_41 : List (List (Option jm_I)) := [jt_41_0]

set_option maxRecDepth 20000 in
noncomputable def jt_42_0 : List (Option jm_I) := [some (.aload_n 0, 1, 0, 0, 0), some (.getfield 9, 4, 3, 0, 1), none, none, some (.bipush 60, 6, 0, 0, 0), none, some (.invokestatic 15, 9, 43, 2, 0), none, none, some (.return_, 10, 0, 0, 0)]

noncomputable def jt_42 : List (List (Option jm_I)) := [jt_42_0]

set_option maxRecDepth 20000 in
noncomputable def jt_43_0 : List (Option jm_I) := [some (.iconst 0, 1, 0, 0, 0), some (.istore_n 2, 2, 0, 0, 0), some (.aload_n 0, 3, 0, 0, 0), some (.arraylength, 4, 0, 0, 0), some (.istore_n 3, 5, 0, 0, 0), some (.iload_n 2, 6, 0, 0, 0), some (.iload_n 3, 7, 0, 0, 0), some (.if_icmp .ge 13, 10, 20, 0, 0), none, none, some (.aload_n 0, 11, 0, 0, 0), some (.iload_n 2, 12, 0, 0, 0), some (.iload_n 1, 13, 0, 0, 0), some (.iastore, 14, 0, 0, 0), some (.iinc 2 1, 17, 0, 0, 0), none, none, some (.goto (-12), 20, 5, 0, 0), none, none, some (.return_, 21, 0, 0, 0)]

noncomputable def jt_43 : List (List (Option jm_I)) := [jt_43_0]

set_option maxRecDepth 20000 in
noncomputable def jt_44_0 : List (Option jm_I) := [some (.iconst 0, 1, 0, 0, 0), some (.istore 5, 3, 0, 0, 0), none, some (.iconst 0, 4, 0, 0, 0), some (.istore 6, 6, 0, 0, 0), none, some (.iconst 0, 7, 0, 0, 0), some (.istore 7, 9, 0, 0, 0), none, some (.iconst 0, 10, 0, 0, 0), some (.istore 8, 12, 0, 0, 0), none, some (.iload 8, 14, 0, 0, 0), none, some (.aload_n 0, 15, 0, 0, 0), some (.getfield 33, 18, 4, 0, 1), none, none, some (.getfield 126, 21, 8, 3, 0), none, none, some (.if_icmp .ge 75, 24, 96, 0, 0), none, none, some (.aload_n 2, 25, 0, 0, 0), some (.iload 5, 27, 0, 0, 0), none, some (.iload 8, 29, 0, 0, 0), none, some (.i2l, 30, 0, 0, 0), some (.invokevirtual 158, 33, 45, 1, 6), none, none, some (.istore 5, 35, 0, 0, 0), none, some (.aload_n 3, 36, 0, 0, 0), some (.iload 6, 38, 0, 0, 0), none, some (.iload 8, 40, 0, 0, 0), none, some (.i2l, 41, 0, 0, 0), some (.invokevirtual 158, 44, 45, 1, 6), none, none, some (.istore 6, 46, 0, 0, 0), none, some (.aload 4, 48, 0, 0, 0), none, some (.iload 7, 50, 0, 0, 0), none, some (.iload 8, 52, 0, 0, 0), none, some (.i2l, 53, 0, 0, 0), some (.invokevirtual 158, 56, 45, 1, 6), none, none, some (.istore 7, 58, 0, 0, 0), none, some (.aload_n 0, 59, 0, 0, 0), some (.getfield 25, 62, 4, 4, 1), none, none, some (.iload 8, 64, 0, 0, 0), none]

set_option maxRecDepth 20000 in
noncomputable def jt_44_1 : List (Option jm_I) := [some (.iload_n 1, 65, 0, 0, 0), some (.aload_n 2, 66, 0, 0, 0), some (.iload 5, 68, 0, 0, 0), none, some (.invokevirtual 162, 71, 46, 1, 6), none, none, some (.aload_n 3, 72, 0, 0, 0), some (.iload 6, 74, 0, 0, 0), none, some (.invokevirtual 162, 77, 46, 1, 6), none, none, some (.aload 4, 79, 0, 0, 0), none, some (.iload 7, 81, 0, 0, 0), none, some (.invokevirtual 162, 84, 46, 1, 6), none, none, some (.invokestatic 165, 87, 48, 2, 0), none, none, some (.invokevirtual 169, 90, 51, 1, 3), none, none, some (.iinc 8 1, 93, 0, 0, 0), none, none, some (.goto (-81), 96, 12, 0, 0), none, none, some (.return_, 97, 0, 0, 0)]

noncomputable def jt_44 : List (List (Option jm_I)) := [jt_44_0, jt_44_1]

set_option maxRecDepth 20000 in
noncomputable def jt_45_0 : List (Option jm_I) := [some (.iload_n 1, 1, 0, 0, 0), some (.istore 4, 3, 0, 0, 0), none, some (.iload 4, 5, 0, 0, 0), none, some (.aload_n 0, 6, 0, 0, 0), some (.getfield 18, 9, 6, 2, 0), none, none, some (.if_icmp .ge 22, 12, 31, 0, 0), none, none, some (.aload_n 0, 13, 0, 0, 0), some (.getfield 9, 16, 6, 0, 1), none, none, some (.iload 4, 18, 0, 0, 0), none, some (.iaload, 19, 0, 0, 0), some (.i2l, 20, 0, 0, 0), some (.lload_n 2, 21, 0, 0, 0), some (.lcmp, 22, 0, 0, 0), some (.ifCond .ge 9, 25, 31, 0, 0), none, none, some (.iinc 4 1, 28, 0, 0, 0), none, none, some (.goto (-25), 31, 3, 0, 0), none, none, some (.iload 4, 33, 0, 0, 0), none, some (.ireturn, 34, 0, 0, 0)]

noncomputable def jt_45 : List (List (Option jm_I)) := [jt_45_0]

set_option maxRecDepth 20000 in
noncomputable def jt_46_0 : List (Option jm_I) := [some (.aload_n 0, 1, 0, 0, 0), some (.iload_n 1, 2, 0, 0, 0), some (.invokevirtual 28, 5, 47, 1, 6), none, none, some (.ifCond .eq 12, 8, 17, 0, 0), none, none, some (.aload_n 0, 9, 0, 0, 0), some (.getfield 15, 12, 6, 1, 1), none, none, some (.iload_n 1, 13, 0, 0, 0), some (.iaload, 14, 0, 0, 0), some (.goto 5, 17, 19, 0, 0), none, none, some (.bipush 60, 19, 0, 0, 0), none, some (.ireturn, 20, 0, 0, 0)]

noncomputable def jt_46 : List (List (Option jm_I)) := [jt_46_0]

set_option maxRecDepth 20000 in
noncomputable def jt_47_0 : List (Option jm_I) := [some (.iload_n 1, 1, 0, 0, 0), some (.ifCond .lt 15, 4, 16, 0, 0), none, none, some (.iload_n 1, 5, 0, 0, 0), some (.aload_n 0, 6, 0, 0, 0), some (.getfield 18, 9, 6, 2, 0), none, none, some (.if_icmp .ge 7, 12, 16, 0, 0), none, none, some (.iconst 1, 13, 0, 0, 0), some (.goto 4, 16, 17, 0, 0), none, none, some (.iconst 0, 17, 0, 0, 0), some (.ireturn, 18, 1, 0, 0)]

noncomputable def jt_47 : List (List (Option jm_I)) := [jt_47_0]

set_option maxRecDepth 20000 in
noncomputable def jt_48_0 : List (Option jm_I) := [some (.iload_n 1, 1, 0, 0, 0), some (.iload_n 2, 2, 0, 0, 0), some (.iload_n 3, 3, 0, 0, 0), some (.invokestatic 172, 6, 0, 14, 0), none, none, some (.invokestatic 172, 9, 0, 14, 0), none, none, some (.istore 4, 11, 0, 0, 0), none, some (.iload_n 1, 12, 0, 0, 0), some (.iload_n 2, 13, 0, 0, 0), some (.iload_n 3, 14, 0, 0, 0), some (.invokestatic 178, 17, 0, 13, 0), none, none, some (.invokestatic 178, 20, 0, 13, 0), none, none, some (.istore 5, 22, 0, 0, 0), none, some (.iload_n 0, 23, 0, 0, 0), some (.iconst 1, 24, 0, 0, 0), some (.if_icmp .ne 8, 27, 32, 0, 0), none, none, some (.iload 4, 29, 0, 0, 0), none, some (.goto 24, 32, 53, 0, 0), none, none, some (.iload_n 0, 33, 0, 0, 0), some (.iconst 3, 34, 0, 0, 0), some (.if_icmp .ne 8, 37, 42, 0, 0), none, none, some (.iload 5, 39, 0, 0, 0), none, some (.goto 14, 42, 53, 0, 0), none, none, some (.iload_n 1, 43, 0, 0, 0), some (.iload_n 2, 44, 0, 0, 0), some (.iadd, 45, 0, 0, 0), some (.iload_n 3, 46, 0, 0, 0), some (.iadd, 47, 0, 0, 0), some (.iload 4, 49, 0, 0, 0), none, some (.isub, 50, 0, 0, 0), some (.iload 5, 52, 0, 0, 0), none, some (.isub, 53, 0, 0, 0), some (.ireturn, 54, 0, 0, 0)]

noncomputable def jt_48 : List (List (Option jm_I)) := [jt_48_0]

set_option maxRecDepth 20000 in
noncomputable def jt_49_0 : List (Option jm_I) := [some (.iload_n 0, 1, 0, 0, 0), some (.iload_n 1, 2, 0, 0, 0), some (.if_icmp .gt 7, 5, 9, 0, 0), none, none, some (.iload_n 0, 6, 0, 0, 0), some (.goto 4, 9, 10, 0, 0), none, none, some (.iload_n 1, 10, 0, 0, 0), some (.ireturn, 11, 0, 0, 0)]

noncomputable def jt_49 : List (List (Option jm_I)) := [jt_49_0]

set_option maxRecDepth 20000 in
noncomputable def jt_50_0 : List (Option jm_I) := [some (.iload_n 0, 1, 0, 0, 0), some (.iload_n 1, 2, 0, 0, 0), some (.if_icmp .lt 7, 5, 9, 0, 0), none, none, some (.iload_n 0, 6, 0, 0, 0), some (.goto 4, 9, 10, 0, 0), none, none, some (.iload_n 1, 10, 0, 0, 0), some (.ireturn, 11, 0, 0, 0)]

noncomputable def jt_50 : List (List (Option jm_I)) := [jt_50_0]

set_option maxRecDepth 20000 in
noncomputable def jt_51_0 : List (Option jm_I) := [some (.iload_n 1, 1, 0, 0, 0), some (.ifCond .lt 25, 4, 26, 0, 0), none, none, some (.iload_n 1, 5, 0, 0, 0), some (.bipush 60, 7, 0, 0, 0), none, some (.if_icmp .ge 19, 10, 26, 0, 0), none, none, some (.aload_n 0, 11, 0, 0, 0), some (.getfield 9, 14, 3, 0, 1), none, none, some (.iload_n 1, 15, 0, 0, 0), some (.aload_n 0, 16, 0, 0, 0), some (.getfield 9, 19, 3, 0, 1), none, none, some (.iload_n 1, 20, 0, 0, 0), some (.iaload, 21, 0, 0, 0), some (.iload_n 2, 22, 0, 0, 0), some (.invokestatic 21, 25, 0, 14, 0), none, none, some (.iastore, 26, 0, 0, 0), some (.return_, 27, 0, 0, 0)]

noncomputable def jt_51 : List (List (Option jm_I)) := [jt_51_0]

set_option maxRecDepth 20000 in
noncomputable def jt_52_0 : List (Option jm_I) := [some (.bipush 60, 2, 0, 0, 0), none, some (.istore_n 2, 3, 0, 0, 0), some (.bipush 59, 5, 0, 0, 0), none, some (.istore_n 3, 6, 0, 0, 0), some (.iload_n 3, 7, 0, 0, 0), some (.ifCond .lt 37, 10, 44, 0, 0), none, none, some (.aload_n 0, 11, 0, 0, 0), some (.getfield 9, 14, 3, 0, 1), none, none, some (.iload_n 3, 15, 0, 0, 0), some (.iaload, 16, 0, 0, 0), some (.iload_n 2, 17, 0, 0, 0), some (.if_icmp .ge 13, 20, 30, 0, 0), none, none, some (.aload_n 0, 21, 0, 0, 0), some (.getfield 9, 24, 3, 0, 1), none, none, some (.iload_n 3, 25, 0, 0, 0), some (.iaload, 26, 0, 0, 0), some (.istore_n 2, 27, 0, 0, 0), some (.goto 11, 30, 38, 0, 0), none, none, some (.aload_n 0, 31, 0, 0, 0), some (.getfield 9, 34, 3, 0, 1), none, none, some (.iload_n 3, 35, 0, 0, 0), some (.bipush 60, 37, 0, 0, 0), none, some (.iastore, 38, 0, 0, 0), some (.iinc 3 (-1), 41, 0, 0, 0), none, none, some (.goto (-35), 44, 6, 0, 0), none, none, some (.aload_n 1, 45, 0, 0, 0), some (.iconst 0, 46, 0, 0, 0), some (.putfield 27, 49, 6, 2, 0), none, none, some (.iconst 0, 50, 0, 0, 0), some (.istore_n 3, 51, 0, 0, 0), some (.iload_n 3, 52, 0, 0, 0), some (.bipush 60, 54, 0, 0, 0), none, some (.if_icmp .ge 31, 57, 85, 0, 0), none, none, some (.aload_n 0, 58, 0, 0, 0), some (.getfield 9, 61, 3, 0, 1), none, none, some (.iload_n 3, 62, 0, 0, 0), some (.iaload, 63, 0, 0, 0), some (.bipush 60, 65, 0, 0, 0)]

set_option maxRecDepth 20000 in
noncomputable def jt_52_1 : List (Option jm_I) := [none, some (.if_icmp .ge 14, 68, 79, 0, 0), none, none, some (.aload_n 1, 69, 0, 0, 0), some (.iload_n 3, 70, 0, 0, 0), some (.aload_n 0, 71, 0, 0, 0), some (.getfield 9, 74, 3, 0, 1), none, none, some (.iload_n 3, 75, 0, 0, 0), some (.iaload, 76, 0, 0, 0), some (.invokevirtual 33, 79, 37, 1, 6), none, none, some (.iinc 3 1, 82, 0, 0, 0), none, none, some (.goto (-31), 85, 51, 0, 0), none, none, some (.return_, 86, 0, 0, 0)]

noncomputable def jt_52 : List (List (Option jm_I)) := [jt_52_0, jt_52_1]

set_option maxRecDepth 20000 in
noncomputable def jt_53_0 : List (Option jm_I) := [some (.iload_n 1, 1, 0, 0, 0), some (.iconst 5, 2, 0, 0, 0), some (.if_icmp .lt 13, 5, 15, 0, 0), none, none, some (.aload_n 0, 6, 0, 0, 0), some (.iload_n 1, 7, 0, 0, 0), some (.aload_n 2, 8, 0, 0, 0), some (.aload_n 3, 9, 0, 0, 0), some (.aload 4, 11, 0, 0, 0), none, some (.invokevirtual 151, 14, 54, 1, 4), none, none, some (.return_, 15, 0, 0, 0), some (.aload_n 0, 16, 0, 0, 0), some (.getfield 25, 19, 4, 4, 1), none, none, some (.invokevirtual 103, 22, 42, 1, 3), none, none, some (.iload_n 1, 23, 0, 0, 0), some (.iconst 4, 24, 0, 0, 0), some (.if_icmp .ne 12, 27, 36, 0, 0), none, none, some (.aload_n 0, 28, 0, 0, 0), some (.aload_n 2, 29, 0, 0, 0), some (.aload_n 3, 30, 0, 0, 0), some (.invokevirtual 154, 33, 55, 1, 4), none, none, some (.goto 23, 36, 56, 0, 0), none, none, some (.aload_n 0, 37, 0, 0, 0), some (.iload_n 1, 38, 0, 0, 0), some (.iconst 2, 39, 0, 0, 0), some (.if_icmp .ne 7, 42, 46, 0, 0), none, none, some (.iconst 1, 43, 0, 0, 0), some (.goto 4, 46, 47, 0, 0), none, none, some (.iconst 2, 47, 0, 0, 0), some (.aload_n 2, 48, 0, 0, 0), some (.aload_n 3, 49, 0, 0, 0), some (.aload_n 0, 50, 0, 0, 0), some (.getfield 18, 53, 4, 3, 1), none, none, some (.invokevirtual 112, 56, 44, 1, 4), none, none, some (.aload_n 0, 57, 0, 0, 0), some (.getfield 25, 60, 4, 4, 1), none, none, some (.aload 4, 62, 0, 0, 0), none, some (.invokevirtual 116, 65, 52, 1, 3), none]

set_option maxRecDepth 20000 in
noncomputable def jt_53_1 : List (Option jm_I) := [none, some (.return_, 66, 0, 0, 0)]

noncomputable def jt_53 : List (List (Option jm_I)) := [jt_53_0, jt_53_1]

set_option maxRecDepth 20000 in
noncomputable def jt_54_0 : List (Option jm_I) := [some (.iload_n 1, 1, 0, 0, 0), some (.iconst 5, 2, 0, 0, 0), some (.if_icmp .eq 9, 5, 11, 0, 0), none, none, some (.iload_n 1, 6, 0, 0, 0), some (.bipush 6, 8, 0, 0, 0), none, some (.if_icmp .ne 7, 11, 15, 0, 0), none, none, some (.iconst 1, 12, 0, 0, 0), some (.goto 4, 15, 16, 0, 0), none, none, some (.iconst 0, 16, 0, 0, 0), some (.istore 5, 18, 0, 0, 0), none, some (.iload_n 1, 19, 0, 0, 0), some (.iconst 5, 20, 0, 0, 0), some (.if_icmp .eq 9, 23, 29, 0, 0), none, none, some (.iload_n 1, 24, 0, 0, 0), some (.bipush 7, 26, 0, 0, 0), none, some (.if_icmp .ne 7, 29, 33, 0, 0), none, none, some (.iconst 1, 30, 0, 0, 0), some (.goto 4, 33, 34, 0, 0), none, none, some (.iconst 0, 34, 0, 0, 0), some (.istore 6, 36, 0, 0, 0), none, some (.aload_n 2, 37, 0, 0, 0), some (.getfield 70, 40, 6, 2, 0), none, none, some (.istore 7, 42, 0, 0, 0), none, some (.iconst 0, 43, 0, 0, 0), some (.istore 8, 45, 0, 0, 0), none, some (.aload 4, 47, 0, 0, 0), none, some (.iconst 0, 48, 0, 0, 0), some (.putfield 70, 51, 6, 2, 0), none, none, some (.iconst 0, 52, 0, 0, 0), some (.istore 9, 54, 0, 0, 0), none, some (.iload 9, 56, 0, 0, 0), none, some (.iload 7, 58, 0, 0, 0), none, some (.if_icmp .ge 116, 61, 174, 0, 0), none, none, some (.aload_n 2, 62, 0, 0, 0), some (.getfield 145, 65, 6, 0, 1), none]

set_option maxRecDepth 20000 in
noncomputable def jt_54_1 : List (Option jm_I) := [none, some (.iload 9, 67, 0, 0, 0), none, some (.iaload, 68, 0, 0, 0), some (.istore 10, 70, 0, 0, 0), none, some (.aload_n 2, 71, 0, 0, 0), some (.getfield 148, 74, 6, 1, 1), none, none, some (.iload 9, 76, 0, 0, 0), none, some (.iaload, 77, 0, 0, 0), some (.istore 11, 79, 0, 0, 0), none, some (.aload_n 3, 80, 0, 0, 0), some (.iload 8, 82, 0, 0, 0), none, some (.iload 5, 84, 0, 0, 0), none, some (.ifCond .eq 11, 87, 95, 0, 0), none, none, some (.iload 10, 89, 0, 0, 0), none, some (.iconst 1, 90, 0, 0, 0), some (.iadd, 91, 0, 0, 0), some (.i2l, 92, 0, 0, 0), some (.goto 6, 95, 98, 0, 0), none, none, some (.iload 10, 97, 0, 0, 0), none, some (.i2l, 98, 0, 0, 0), some (.invokevirtual 158, 101, 45, 1, 6), none, none, some (.istore 8, 103, 0, 0, 0), none, some (.iload 5, 105, 0, 0, 0), none, some (.ifCond .eq 29, 108, 134, 0, 0), none, none, some (.iload 8, 110, 0, 0, 0), none, some (.ifCond .le 20, 113, 130, 0, 0), none, none, some (.aload_n 3, 114, 0, 0, 0), some (.iload 8, 116, 0, 0, 0), none, some (.iconst 1, 117, 0, 0, 0), some (.isub, 118, 0, 0, 0), some (.invokevirtual 162, 121, 46, 1, 6), none, none, some (.iload 11, 123, 0, 0, 0), none, some (.if_icmp .lt 7, 126, 130, 0, 0), none, none, some (.iconst 1, 127, 0, 0, 0), some (.goto 23, 130, 150, 0, 0)]

set_option maxRecDepth 20000 in
noncomputable def jt_54_2 : List (Option jm_I) := [none, none, some (.iconst 0, 131, 0, 0, 0), some (.goto 19, 134, 150, 0, 0), none, none, some (.aload_n 3, 135, 0, 0, 0), some (.iload 8, 137, 0, 0, 0), none, some (.invokevirtual 162, 140, 46, 1, 6), none, none, some (.iload 11, 142, 0, 0, 0), none, some (.if_icmp .gt 7, 145, 149, 0, 0), none, none, some (.iconst 1, 146, 0, 0, 0), some (.goto 4, 149, 150, 0, 0), none, none, some (.iconst 0, 150, 0, 0, 0), some (.istore 12, 152, 0, 0, 0), none, some (.iload 12, 154, 0, 0, 0), none, some (.iload 6, 156, 0, 0, 0), none, some (.if_icmp .ne 12, 159, 168, 0, 0), none, none, some (.aload 4, 161, 0, 0, 0), none, some (.iload 10, 163, 0, 0, 0), none, some (.iload 11, 165, 0, 0, 0), none, some (.invokevirtual 134, 168, 37, 1, 6), none, none, some (.iinc 9 1, 171, 0, 0, 0), none, none, some (.goto (-117), 174, 54, 0, 0), none, none, some (.return_, 175, 0, 0, 0)]

noncomputable def jt_54 : List (List (Option jm_I)) := [jt_54_0, jt_54_1, jt_54_2]

set_option maxRecDepth 20000 in
noncomputable def jt_55_0 : List (Option jm_I) := [some (.iconst 0, 1, 0, 0, 0), some (.istore_n 3, 2, 0, 0, 0), some (.iconst 0, 3, 0, 0, 0), some (.istore 4, 5, 0, 0, 0), none, some (.iload 4, 7, 0, 0, 0), none, some (.aload_n 1, 8, 0, 0, 0), some (.getfield 70, 11, 6, 2, 0), none, none, some (.if_icmp .ge 44, 14, 55, 0, 0), none, none, some (.aload_n 2, 15, 0, 0, 0), some (.iload_n 3, 16, 0, 0, 0), some (.aload_n 1, 17, 0, 0, 0), some (.getfield 148, 20, 6, 1, 1), none, none, some (.iload 4, 22, 0, 0, 0), none, some (.iaload, 23, 0, 0, 0), some (.iconst 1, 24, 0, 0, 0), some (.iadd, 25, 0, 0, 0), some (.i2l, 26, 0, 0, 0), some (.invokevirtual 158, 29, 45, 1, 6), none, none, some (.istore_n 3, 30, 0, 0, 0), some (.aload_n 0, 31, 0, 0, 0), some (.getfield 25, 34, 4, 4, 1), none, none, some (.aload_n 1, 35, 0, 0, 0), some (.getfield 145, 38, 6, 0, 1), none, none, some (.iload 4, 40, 0, 0, 0), none, some (.iaload, 41, 0, 0, 0), some (.aload_n 2, 42, 0, 0, 0), some (.iload_n 3, 43, 0, 0, 0), some (.invokevirtual 162, 46, 46, 1, 6), none, none, some (.invokevirtual 169, 49, 51, 1, 3), none, none, some (.iinc 4 1, 52, 0, 0, 0), none, none, some (.goto (-47), 55, 5, 0, 0), none, none, some (.return_, 56, 0, 0, 0)]

noncomputable def jt_55 : List (List (Option jm_I)) := [jt_55_0]

set_option maxRecDepth 20000 in
noncomputable def jt_56_0 : List (Option jm_I) := [some (.iload_n 1, 1, 0, 0, 0), some (.invokestatic 141, 4, 57, 2, 0), none, none, some (.ifCond .ne 10, 7, 14, 0, 0), none, none, some (.aload_n 0, 8, 0, 0, 0), some (.bipush (-2), 10, 0, 0, 0), none, some (.invokevirtual 79, 13, 13, 1, 9), none, none, some (.ireturn, 14, 0, 0, 0), some (.aload_n 0, 15, 0, 0, 0), some (.getfield 10, 18, 9, 0, 1), none, none, some (.getfield 144, 21, 8, 3, 0), none, none, some (.bipush 60, 23, 0, 0, 0), none, some (.if_icmp .lt 10, 26, 33, 0, 0), none, none, some (.aload_n 0, 27, 0, 0, 0), some (.bipush (-6), 29, 0, 0, 0), none, some (.invokevirtual 79, 32, 13, 1, 9), none, none, some (.ireturn, 33, 0, 0, 0), some (.aload_n 0, 34, 0, 0, 0), some (.getfield 10, 37, 9, 0, 1), none, none, some (.iload_n 1, 38, 0, 0, 0), some (.invokevirtual 147, 41, 58, 1, 8), none, none, some (.aload_n 0, 42, 0, 0, 0), some (.getfield 34, 45, 9, 4, 1), none, none, some (.invokevirtual 151, 48, 59, 1, 4), none, none, some (.aload_n 0, 49, 0, 0, 0), some (.getfield 10, 52, 9, 0, 1), none, none, some (.getfield 144, 55, 8, 3, 0), none, none, some (.iconst 1, 56, 0, 0, 0), some (.isub, 57, 0, 0, 0), some (.ireturn, 58, 0, 0, 0)]

noncomputable def jt_56 : List (List (Option jm_I)) := [jt_56_0]

set_option maxRecDepth 20000 in
noncomputable def jt_57_0 : List (Option jm_I) := [some (.iload_n 0, 1, 0, 0, 0), some (.ifCond .lt 13, 4, 14, 0, 0), none, none, some (.iload_n 0, 5, 0, 0, 0), some (.bipush 16, 7, 0, 0, 0), none, some (.if_icmp .ge 7, 10, 14, 0, 0), none, none, some (.iconst 1, 11, 0, 0, 0), some (.goto 4, 14, 15, 0, 0), none, none, some (.iconst 0, 15, 0, 0, 0), some (.ireturn, 16, 1, 0, 0)]

noncomputable def jt_57 : List (List (Option jm_I)) := [jt_57_0]

set_option maxRecDepth 20000 in
noncomputable def jt_58_0 : List (Option jm_I) := [some (.aload_n 0, 1, 0, 0, 0), some (.getfield 31, 4, 8, 3, 0), none, none, some (.bipush 60, 6, 0, 0, 0), none, some (.if_icmp .ge 33, 9, 39, 0, 0), none, none, some (.aload_n 0, 10, 0, 0, 0), some (.getfield 9, 13, 8, 0, 1), none, none, some (.aload_n 0, 14, 0, 0, 0), some (.getfield 31, 17, 8, 3, 0), none, none, some (.iload_n 1, 18, 0, 0, 0), some (.iastore, 19, 0, 0, 0), some (.aload_n 0, 20, 0, 0, 0), some (.getfield 15, 23, 8, 1, 1), none, none, some (.aload_n 0, 24, 0, 0, 0), some (.getfield 31, 27, 8, 3, 0), none, none, some (.iconst 0, 28, 0, 0, 0), some (.iastore, 29, 0, 0, 0), some (.aload_n 0, 30, 0, 0, 0), some (.dup, 31, 0, 0, 0), some (.getfield 31, 34, 8, 3, 0), none, none, some (.iconst 1, 35, 0, 0, 0), some (.iadd, 36, 0, 0, 0), some (.putfield 31, 39, 8, 3, 0), none, none, some (.return_, 40, 0, 0, 0)]

noncomputable def jt_58 : List (List (Option jm_I)) := [jt_58_0]

set_option maxRecDepth 20000 in
noncomputable def jt_59_0 : List (Option jm_I) := [some (.aload_n 0, 1, 0, 0, 0), some (.iconst 0, 2, 0, 0, 0), some (.putfield 41, 5, 4, 5, 0), none, none, some (.return_, 6, 0, 0, 0)]

noncomputable def jt_59 : List (List (Option jm_I)) := [jt_59_0]

set_option maxRecDepth 20000 in
noncomputable def jt_60_0 : List (Option jm_I) := [some (.iload_n 1, 1, 0, 0, 0), some (.iconst 1, 2, 0, 0, 0), some (.if_icmp .eq 15, 5, 17, 0, 0), none, none, some (.iload_n 1, 6, 0, 0, 0), some (.iconst 2, 7, 0, 0, 0), some (.if_icmp .eq 10, 10, 17, 0, 0), none, none, some (.aload_n 0, 11, 0, 0, 0), some (.bipush (-2), 13, 0, 0, 0), none, some (.invokevirtual 79, 16, 13, 1, 9), none, none, some (.ireturn, 17, 0, 0, 0), some (.aload_n 0, 18, 0, 0, 0), some (.getfield 10, 21, 9, 0, 1), none, none, some (.invokevirtual 154, 24, 61, 1, 8), none, none, some (.istore_n 2, 25, 0, 0, 0), some (.iload_n 2, 26, 0, 0, 0), some (.iload_n 1, 27, 0, 0, 0), some (.if_icmp .lt 10, 30, 37, 0, 0), none, none, some (.aload_n 0, 31, 0, 0, 0), some (.bipush (-5), 33, 0, 0, 0), none, some (.invokevirtual 79, 36, 13, 1, 9), none, none, some (.ireturn, 37, 0, 0, 0), some (.aload_n 0, 38, 0, 0, 0), some (.getfield 10, 41, 9, 0, 1), none, none, some (.iload_n 1, 42, 0, 0, 0), some (.invokevirtual 158, 45, 62, 1, 8), none, none, some (.aload_n 0, 46, 0, 0, 0), some (.getfield 34, 49, 9, 4, 1), none, none, some (.invokevirtual 151, 52, 59, 1, 4), none, none, some (.iload_n 2, 53, 0, 0, 0), some (.ireturn, 54, 0, 0, 0)]

noncomputable def jt_60 : List (List (Option jm_I)) := [jt_60_0]

set_option maxRecDepth 20000 in
noncomputable def jt_61_0 : List (Option jm_I) := [some (.aload_n 0, 1, 0, 0, 0), some (.getfield 31, 4, 8, 3, 0), none, none, some (.ifCond .le 17, 7, 21, 0, 0), none, none, some (.aload_n 0, 8, 0, 0, 0), some (.getfield 15, 11, 8, 1, 1), none, none, some (.aload_n 0, 12, 0, 0, 0), some (.getfield 31, 15, 8, 3, 0), none, none, some (.iconst 1, 16, 0, 0, 0), some (.isub, 17, 0, 0, 0), some (.iaload, 18, 0, 0, 0), some (.goto 4, 21, 22, 0, 0), none, none, some (.iconst 2, 22, 0, 0, 0), some (.ireturn, 23, 0, 0, 0)]

noncomputable def jt_61 : List (List (Option jm_I)) := [jt_61_0]

set_option maxRecDepth 20000 in
noncomputable def jt_62_0 : List (Option jm_I) := [some (.aload_n 0, 1, 0, 0, 0), some (.getfield 31, 4, 8, 3, 0), none, none, some (.ifCond .le 15, 7, 19, 0, 0), none, none, some (.aload_n 0, 8, 0, 0, 0), some (.getfield 15, 11, 8, 1, 1), none, none, some (.aload_n 0, 12, 0, 0, 0), some (.getfield 31, 15, 8, 3, 0), none, none, some (.iconst 1, 16, 0, 0, 0), some (.isub, 17, 0, 0, 0), some (.iload_n 1, 18, 0, 0, 0), some (.iastore, 19, 0, 0, 0), some (.return_, 20, 0, 0, 0)]

noncomputable def jt_62 : List (List (Option jm_I)) := [jt_62_0]

set_option maxRecDepth 20000 in
noncomputable def jt_63_0 : List (Option jm_I) := [some (.aload_n 0, 1, 0, 0, 0), some (.getfield 10, 4, 9, 0, 1), none, none, some (.iload_n 1, 5, 0, 0, 0), some (.invokevirtual 161, 8, 64, 1, 8), none, none, some (.ifCond .eq 10, 11, 18, 0, 0), none, none, some (.iload_n 2, 12, 0, 0, 0), some (.invokestatic 141, 15, 57, 2, 0), none, none, some (.ifCond .ne 10, 18, 25, 0, 0), none, none, some (.aload_n 0, 19, 0, 0, 0), some (.bipush (-2), 21, 0, 0, 0), none, some (.invokevirtual 79, 24, 13, 1, 9), none, none, some (.ireturn, 25, 0, 0, 0), some (.aload_n 0, 26, 0, 0, 0), some (.getfield 10, 29, 9, 0, 1), none, none, some (.getfield 164, 32, 8, 0, 1), none, none, some (.iload_n 1, 33, 0, 0, 0), some (.iaload, 34, 0, 0, 0), some (.istore_n 3, 35, 0, 0, 0), some (.aload_n 0, 36, 0, 0, 0), some (.getfield 10, 39, 9, 0, 1), none, none, some (.getfield 164, 42, 8, 0, 1), none, none, some (.iload_n 1, 43, 0, 0, 0), some (.iload_n 2, 44, 0, 0, 0), some (.iastore, 45, 0, 0, 0), some (.aload_n 0, 46, 0, 0, 0), some (.getfield 34, 49, 9, 4, 1), none, none, some (.invokevirtual 151, 52, 59, 1, 4), none, none, some (.iload_n 3, 53, 0, 0, 0), some (.ireturn, 54, 0, 0, 0)]

noncomputable def jt_63 : List (List (Option jm_I)) := [jt_63_0]

set_option maxRecDepth 20000 in
noncomputable def jt_64_0 : List (Option jm_I) := [some (.iload_n 1, 1, 0, 0, 0), some (.ifCond .lt 15, 4, 16, 0, 0), none, none, some (.iload_n 1, 5, 0, 0, 0), some (.aload_n 0, 6, 0, 0, 0), some (.getfield 31, 9, 8, 3, 0), none, none, some (.if_icmp .ge 7, 12, 16, 0, 0), none, none, some (.iconst 1, 13, 0, 0, 0), some (.goto 4, 16, 17, 0, 0), none, none, some (.iconst 0, 17, 0, 0, 0), some (.ireturn, 18, 1, 0, 0)]

noncomputable def jt_64 : List (List (Option jm_I)) := [jt_64_0]

set_option maxRecDepth 20000 in
noncomputable def jt_65_0 : List (Option jm_I) := [some (.iload_n 1, 1, 0, 0, 0), some (.invokestatic 141, 4, 57, 2, 0), none, none, some (.ifCond .eq 24, 7, 28, 0, 0), none, none, some (.iload_n 2, 8, 0, 0, 0), some (.invokestatic 141, 11, 57, 2, 0), none, none, some (.ifCond .eq 17, 14, 28, 0, 0), none, none, some (.iload_n 1, 15, 0, 0, 0), some (.iload_n 2, 16, 0, 0, 0), some (.if_icmp .eq 12, 19, 28, 0, 0), none, none, some (.iload_n 3, 20, 0, 0, 0), some (.ifCond .lt 8, 23, 28, 0, 0), none, none, some (.iload_n 3, 24, 0, 0, 0), some (.iconst 1, 25, 0, 0, 0), some (.if_icmp .le 10, 28, 35, 0, 0), none, none, some (.aload_n 0, 29, 0, 0, 0), some (.bipush (-2), 31, 0, 0, 0), none, some (.invokevirtual 79, 34, 13, 1, 9), none, none, some (.ireturn, 35, 0, 0, 0), some (.aload_n 0, 36, 0, 0, 0), some (.getfield 10, 39, 9, 0, 1), none, none, some (.getfield 167, 42, 8, 2, 1), none, none, some (.iload_n 1, 43, 0, 0, 0), some (.iaload, 44, 0, 0, 0), some (.iload_n 2, 45, 0, 0, 0), some (.ishr, 46, 0, 0, 0), some (.iconst 1, 47, 0, 0, 0), some (.iand, 48, 0, 0, 0), some (.istore 4, 50, 0, 0, 0), none, some (.iload 4, 52, 0, 0, 0), none, some (.iload_n 3, 53, 0, 0, 0), some (.if_icmp .eq 25, 56, 78, 0, 0), none, none, some (.aload_n 0, 57, 0, 0, 0), some (.getfield 10, 60, 9, 0, 1), none, none, some (.getfield 167, 63, 8, 2, 1), none, none, some (.iload_n 1, 64, 0, 0, 0)]

set_option maxRecDepth 20000 in
noncomputable def jt_65_1 : List (Option jm_I) := [some (.dup2, 65, 0, 0, 0), some (.iaload, 66, 0, 0, 0), some (.iconst 1, 67, 0, 0, 0), some (.iload_n 2, 68, 0, 0, 0), some (.ishl, 69, 0, 0, 0), some (.ixor, 70, 0, 0, 0), some (.iastore, 71, 0, 0, 0), some (.aload_n 0, 72, 0, 0, 0), some (.getfield 34, 75, 9, 4, 1), none, none, some (.invokevirtual 151, 78, 59, 1, 4), none, none, some (.iload 4, 80, 0, 0, 0), none, some (.ireturn, 81, 0, 0, 0)]

noncomputable def jt_65 : List (List (Option jm_I)) := [jt_65_0, jt_65_1]

set_option maxRecDepth 20000 in
noncomputable def jt_66_0 : List (Option jm_I) := [some (.iload_n 1, 1, 0, 0, 0), some (.ifCond .lt 10, 4, 11, 0, 0), none, none, some (.iload_n 1, 5, 0, 0, 0), some (.sipush 255, 8, 0, 0, 0), none, none, some (.if_icmp .le 10, 11, 18, 0, 0), none, none, some (.aload_n 0, 12, 0, 0, 0), some (.bipush (-2), 14, 0, 0, 0), none, some (.invokevirtual 79, 17, 13, 1, 9), none, none, some (.ireturn, 18, 0, 0, 0), some (.aload_n 0, 19, 0, 0, 0), some (.getfield 52, 22, 9, 7, 1), none, none, some (.getfield 170, 25, 7, 1, 0), none, none, some (.sipush 250, 28, 0, 0, 0), none, none, some (.if_icmp .lt 10, 31, 38, 0, 0), none, none, some (.aload_n 0, 32, 0, 0, 0), some (.bipush (-6), 34, 0, 0, 0), none, some (.invokevirtual 79, 37, 13, 1, 9), none, none, some (.ireturn, 38, 0, 0, 0), some (.aload_n 0, 39, 0, 0, 0), some (.getfield 52, 42, 9, 7, 1), none, none, some (.iload_n 1, 43, 0, 0, 0), some (.invokevirtual 171, 46, 67, 1, 7), none, none, some (.aload_n 0, 47, 0, 0, 0), some (.getfield 52, 50, 9, 7, 1), none, none, some (.getfield 170, 53, 7, 1, 0), none, none, some (.ireturn, 54, 0, 0, 0)]

noncomputable def jt_66 : List (List (Option jm_I)) := [jt_66_0]

set_option maxRecDepth 20000 in
noncomputable def jt_67_0 : List (Option jm_I) := [some (.aload_n 0, 1, 0, 0, 0), some (.getfield 15, 4, 7, 1, 0), none, none, some (.sipush 250, 7, 0, 0, 0), none, none, some (.if_icmp .ge 23, 10, 30, 0, 0), none, none, some (.aload_n 0, 11, 0, 0, 0), some (.getfield 9, 14, 7, 0, 1), none, none, some (.aload_n 0, 15, 0, 0, 0), some (.getfield 15, 18, 7, 1, 0), none, none, some (.iload_n 1, 19, 0, 0, 0), some (.iastore, 20, 0, 0, 0), some (.aload_n 0, 21, 0, 0, 0), some (.dup, 22, 0, 0, 0), some (.getfield 15, 25, 7, 1, 0), none, none, some (.iconst 1, 26, 0, 0, 0), some (.iadd, 27, 0, 0, 0), some (.putfield 15, 30, 7, 1, 0), none, none, some (.return_, 31, 0, 0, 0)]

noncomputable def jt_67 : List (List (Option jm_I)) := [jt_67_0]

noncomputable def jt_68 : List (List (Option jm_I)) := []

noncomputable def jt_69 : List (List (Option jm_I)) := []

noncomputable def jt_70 : List (List (Option jm_I)) := []

set_option maxRecDepth 20000 in
noncomputable def jt_71_0 : List (Option jm_I) := [some (.iload_n 0, 1, 0, 0, 0), some (.bipush 97, 3, 0, 0, 0), none, some (.if_icmp .lt 13, 6, 16, 0, 0), none, none, some (.iload_n 0, 7, 0, 0, 0), some (.bipush 113, 9, 0, 0, 0), none, some (.if_icmp .ge 7, 12, 16, 0, 0), none, none, some (.iconst 1, 13, 0, 0, 0), some (.goto 4, 16, 17, 0, 0), none, none, some (.iconst 0, 17, 0, 0, 0), some (.ireturn, 18, 1, 0, 0)]

noncomputable def jt_71 : List (List (Option jm_I)) := [jt_71_0]

noncomputable def jt_72 : List (List (Option jm_I)) := []

noncomputable def jt_73 : List (List (Option jm_I)) := []

set_option maxRecDepth 20000 in
noncomputable def jt_74_0 : List (Option jm_I) := [some (.aload_n 0, 1, 0, 0, 0), some (.bipush (-2), 3, 0, 0, 0), none, some (.invokevirtual 79, 6, 13, 1, 9), none, none, some (.pop, 7, 0, 0, 0), some (.bipush (-20), 9, 0, 0, 0), none, some (.iload_n 1, 10, 0, 0, 0), some (.isub, 11, 0, 0, 0), some (.ireturn, 12, 0, 0, 0)]

noncomputable def jt_74 : List (List (Option jm_I)) := [jt_74_0]

noncomputable def jt_75 : List (List (Option jm_I)) := []

set_option maxRecDepth 20000 in
noncomputable def jt_76_0 : List (Option jm_I) := [some (.aload_n 0, 1, 0, 0, 0), some (.getfield 61, 4, 9, 8, 1), none, none, some (.invokevirtual 185, 7, 77, 1, 1), none, none, some (.istore_n 1, 8, 0, 0, 0), some (.aload_n 0, 9, 0, 0, 0), some (.getfield 52, 12, 9, 7, 1), none, none, some (.iconst 0, 13, 0, 0, 0), some (.putfield 170, 16, 7, 1, 0), none, none, some (.iload_n 1, 17, 0, 0, 0), some (.iconst (-1), 18, 0, 0, 0), some (.if_icmp .eq 9, 21, 27, 0, 0), none, none, some (.aload_n 0, 22, 0, 0, 0), some (.iload_n 1, 23, 0, 0, 0), some (.invokevirtual 178, 26, 74, 1, 9), none, none, some (.ireturn, 27, 0, 0, 0), some (.aload_n 0, 28, 0, 0, 0), some (.getfield 61, 31, 9, 8, 1), none, none, some (.getfield 188, 34, 1, 9, 0), none, none, some (.bipush 24, 36, 0, 0, 0), none, some (.if_icmp .le 10, 39, 46, 0, 0), none, none, some (.aload_n 0, 40, 0, 0, 0), some (.bipush (-6), 42, 0, 0, 0), none, some (.invokevirtual 79, 45, 13, 1, 9), none, none, some (.ireturn, 46, 0, 0, 0), some (.aload_n 0, 47, 0, 0, 0), some (.getfield 22, 50, 9, 2, 1), none, none, some (.aload_n 0, 51, 0, 0, 0), some (.getfield 61, 54, 9, 8, 1), none, none, some (.getfield 188, 57, 1, 9, 0), none, none, some (.putfield 191, 60, 2, 1, 0), none, none, some (.aload_n 0, 61, 0, 0, 0), some (.getfield 22, 64, 9, 2, 1), none, none]

set_option maxRecDepth 20000 in
noncomputable def jt_76_1 : List (Option jm_I) := [some (.getfield 191, 67, 2, 1, 0), none, none, some (.iconst 1, 68, 0, 0, 0), some (.isub, 69, 0, 0, 0), some (.ireturn, 70, 0, 0, 0)]

noncomputable def jt_76 : List (List (Option jm_I)) := [jt_76_0, jt_76_1]

set_option maxRecDepth 20000 in
noncomputable def jt_77_0 : List (Option jm_I) := [some (.aload_n 0, 1, 0, 0, 0), some (.iconst 0, 2, 0, 0, 0), some (.putfield 26, 5, 1, 4, 0), none, none, some (.aload_n 0, 6, 0, 0, 0), some (.iconst 0, 7, 0, 0, 0), some (.putfield 30, 10, 1, 5, 0), none, none, some (.aload_n 0, 11, 0, 0, 0), some (.iconst 0, 12, 0, 0, 0), some (.putfield 33, 15, 1, 6, 0), none, none, some (.aload_n 0, 16, 0, 0, 0), some (.iconst (-1), 17, 0, 0, 0), some (.putfield 36, 20, 1, 7, 0), none, none, some (.aload_n 0, 21, 0, 0, 0), some (.iconst 1, 22, 0, 0, 0), some (.putfield 39, 25, 1, 8, 2), none, none, some (.aload_n 0, 26, 0, 0, 0), some (.aload_n 0, 27, 0, 0, 0), some (.getfield 22, 30, 1, 1, 1), none, none, some (.getfield 43, 33, 2, 1, 0), none, none, some (.putfield 48, 36, 1, 9, 0), none, none, some (.aload_n 0, 37, 0, 0, 0), some (.getfield 33, 40, 1, 6, 0), none, none, some (.aload_n 0, 41, 0, 0, 0), some (.getfield 18, 44, 1, 0, 1), none, none, some (.getfield 51, 47, 7, 1, 0), none, none, some (.if_icmp .ge 66, 50, 113, 0, 0), none, none, some (.aload_n 0, 51, 0, 0, 0), some (.getfield 36, 54, 1, 7, 0), none, none, some (.iconst (-1), 55, 0, 0, 0), some (.if_icmp .ne 58, 58, 113, 0, 0), none, none, some (.aload_n 0, 59, 0, 0, 0), some (.getfield 18, 62, 1, 0, 1), none, none, some (.getfield 54, 65, 7, 0, 1), none]

set_option maxRecDepth 20000 in
noncomputable def jt_77_1 : List (Option jm_I) := [none, some (.aload_n 0, 66, 0, 0, 0), some (.getfield 33, 69, 1, 6, 0), none, none, some (.iaload, 70, 0, 0, 0), some (.istore_n 1, 71, 0, 0, 0), some (.aload_n 0, 72, 0, 0, 0), some (.dup, 73, 0, 0, 0), some (.getfield 33, 76, 1, 6, 0), none, none, some (.iconst 1, 77, 0, 0, 0), some (.iadd, 78, 0, 0, 0), some (.putfield 33, 81, 1, 6, 0), none, none, some (.iload_n 1, 82, 0, 0, 0), some (.bipush 32, 84, 0, 0, 0), none, some (.if_icmp .ne 6, 87, 90, 0, 0), none, none, some (.goto (-51), 90, 36, 0, 0), none, none, some (.aload_n 0, 91, 0, 0, 0), some (.getfield 39, 94, 1, 8, 2), none, none, some (.ifCond .eq 11, 97, 105, 0, 0), none, none, some (.aload_n 0, 98, 0, 0, 0), some (.iload_n 1, 99, 0, 0, 0), some (.invokevirtual 57, 102, 78, 1, 1), none, none, some (.goto 8, 105, 110, 0, 0), none, none, some (.aload_n 0, 106, 0, 0, 0), some (.iload_n 1, 107, 0, 0, 0), some (.invokevirtual 61, 110, 86, 1, 1), none, none, some (.goto (-74), 113, 36, 0, 0), none, none, some (.aload_n 0, 114, 0, 0, 0), some (.getfield 36, 117, 1, 7, 0), none, none, some (.iconst (-1), 118, 0, 0, 0), some (.if_icmp .ne 15, 121, 133, 0, 0), none, none, some (.aload_n 0, 122, 0, 0, 0), some (.getfield 39, 125, 1, 8, 2), none, none, some (.ifCond .ne 8, 128, 133, 0, 0), none, none]

set_option maxRecDepth 20000 in
noncomputable def jt_77_2 : List (Option jm_I) := [some (.aload_n 0, 129, 0, 0, 0), some (.iconst 2, 130, 0, 0, 0), some (.invokevirtual 64, 133, 88, 1, 1), none, none, some (.aload_n 0, 134, 0, 0, 0), some (.getfield 36, 137, 1, 7, 0), none, none, some (.iconst (-1), 138, 0, 0, 0), some (.if_icmp .ne 28, 141, 166, 0, 0), none, none, some (.aload_n 0, 142, 0, 0, 0), some (.getfield 39, 145, 1, 8, 2), none, none, some (.ifCond .ne 10, 148, 155, 0, 0), none, none, some (.aload_n 0, 149, 0, 0, 0), some (.getfield 30, 152, 1, 5, 0), none, none, some (.ifCond .le 14, 155, 166, 0, 0), none, none, some (.aload_n 0, 156, 0, 0, 0), some (.aload_n 0, 157, 0, 0, 0), some (.getfield 18, 160, 1, 0, 1), none, none, some (.getfield 51, 163, 7, 1, 0), none, none, some (.putfield 36, 166, 1, 7, 0), none, none, some (.aload_n 0, 167, 0, 0, 0), some (.getfield 36, 170, 1, 7, 0), none, none, some (.ireturn, 171, 0, 0, 0)]

noncomputable def jt_77 : List (List (Option jm_I)) := [jt_77_0, jt_77_1, jt_77_2]

set_option maxRecDepth 20000 in
noncomputable def jt_78_0 : List (Option jm_I) := [some (.aload_n 0, 1, 0, 0, 0), some (.getfield 33, 4, 1, 6, 0), none, none, some (.iconst 1, 5, 0, 0, 0), some (.isub, 6, 0, 0, 0), some (.istore_n 2, 7, 0, 0, 0), some (.iload_n 1, 8, 0, 0, 0), some (.invokestatic 67, 11, 71, 2, 0), none, none, some (.ifCond .eq 16, 14, 27, 0, 0), none, none, some (.aload_n 0, 15, 0, 0, 0), some (.iconst 0, 16, 0, 0, 0), some (.iload_n 1, 17, 0, 0, 0), some (.bipush 97, 19, 0, 0, 0), none, some (.isub, 20, 0, 0, 0), some (.iconst 1, 21, 0, 0, 0), some (.invokevirtual 71, 24, 79, 1, 1), none, none, some (.goto 111, 27, 135, 0, 0), none, none, some (.iload_n 1, 28, 0, 0, 0), some (.bipush 83, 30, 0, 0, 0), none, some (.if_icmp .ne 14, 33, 44, 0, 0), none, none, some (.aload_n 0, 34, 0, 0, 0), some (.bipush 9, 36, 0, 0, 0), none, some (.iconst 0, 37, 0, 0, 0), some (.iconst 0, 38, 0, 0, 0), some (.invokevirtual 71, 41, 79, 1, 1), none, none, some (.goto 94, 44, 135, 0, 0), none, none, some (.iload_n 1, 45, 0, 0, 0), some (.bipush 80, 47, 0, 0, 0), none, some (.if_icmp .ne 14, 50, 61, 0, 0), none, none, some (.aload_n 0, 51, 0, 0, 0), some (.bipush 9, 53, 0, 0, 0), none, some (.iconst 1, 54, 0, 0, 0), some (.iconst 0, 55, 0, 0, 0), some (.invokevirtual 71, 58, 79, 1, 1), none, none, some (.goto 77, 61, 135, 0, 0), none, none, some (.iload_n 1, 62, 0, 0, 0), some (.bipush 84, 64, 0, 0, 0), none]

set_option maxRecDepth 20000 in
noncomputable def jt_78_1 : List (Option jm_I) := [some (.if_icmp .ne 14, 67, 78, 0, 0), none, none, some (.aload_n 0, 68, 0, 0, 0), some (.bipush 9, 70, 0, 0, 0), none, some (.iconst 2, 71, 0, 0, 0), some (.iconst 0, 72, 0, 0, 0), some (.invokevirtual 71, 75, 79, 1, 1), none, none, some (.goto 60, 78, 135, 0, 0), none, none, some (.iload_n 1, 79, 0, 0, 0), some (.bipush 39, 81, 0, 0, 0), none, some (.if_icmp .ne 10, 84, 91, 0, 0), none, none, some (.aload_n 0, 85, 0, 0, 0), some (.invokevirtual 75, 88, 83, 1, 1), none, none, some (.goto 47, 91, 135, 0, 0), none, none, some (.iload_n 1, 92, 0, 0, 0), some (.bipush 40, 94, 0, 0, 0), none, some (.if_icmp .ne 12, 97, 106, 0, 0), none, none, some (.aload_n 0, 98, 0, 0, 0), some (.bipush 20, 100, 0, 0, 0), none, some (.invokevirtual 78, 103, 84, 1, 1), none, none, some (.goto 32, 106, 135, 0, 0), none, none, some (.iload_n 1, 107, 0, 0, 0), some (.bipush 123, 109, 0, 0, 0), none, some (.if_icmp .ne 21, 112, 130, 0, 0), none, none, some (.aload_n 0, 113, 0, 0, 0), some (.bipush 100, 115, 0, 0, 0), none, some (.bipush 10, 117, 0, 0, 0), none, some (.aload_n 0, 118, 0, 0, 0), some (.iconst 3, 119, 0, 0, 0), some (.invokevirtual 81, 122, 85, 1, 1), none, none, some (.imul, 123, 0, 0, 0), some (.iadd, 124, 0, 0, 0), some (.invokevirtual 78, 127, 84, 1, 1), none, none, some (.goto 8, 130, 135, 0, 0)]

set_option maxRecDepth 20000 in
noncomputable def jt_78_2 : List (Option jm_I) := [none, none, some (.aload_n 0, 131, 0, 0, 0), some (.iload_n 2, 132, 0, 0, 0), some (.putfield 36, 135, 1, 7, 0), none, none, some (.return_, 136, 0, 0, 0)]

noncomputable def jt_78 : List (List (Option jm_I)) := [jt_78_0, jt_78_1, jt_78_2]

set_option maxRecDepth 20000 in
noncomputable def jt_79_0 : List (Option jm_I) := [some (.aload_n 0, 1, 0, 0, 0), some (.getfield 22, 4, 1, 1, 1), none, none, some (.aload_n 0, 5, 0, 0, 0), some (.getfield 48, 8, 1, 9, 0), none, none, some (.iload_n 1, 9, 0, 0, 0), some (.iload_n 2, 10, 0, 0, 0), some (.iload_n 3, 11, 0, 0, 0), some (.invokevirtual 117, 14, 80, 1, 2), none, none, some (.aload_n 0, 15, 0, 0, 0), some (.invokevirtual 121, 18, 82, 1, 1), none, none, some (.aload_n 0, 19, 0, 0, 0), some (.iconst 0, 20, 0, 0, 0), some (.putfield 39, 23, 1, 8, 2), none, none, some (.return_, 24, 0, 0, 0)]

noncomputable def jt_79 : List (List (Option jm_I)) := [jt_79_0]

set_option maxRecDepth 20000 in
noncomputable def jt_80_0 : List (Option jm_I) := [some (.iload_n 1, 1, 0, 0, 0), some (.ifCond .lt 9, 4, 10, 0, 0), none, none, some (.iload_n 1, 5, 0, 0, 0), some (.bipush 24, 7, 0, 0, 0), none, some (.if_icmp .lt 4, 10, 11, 0, 0), none, none, some (.return_, 11, 0, 0, 0), some (.aload_n 0, 12, 0, 0, 0), some (.getfield 11, 15, 2, 0, 1), none, none, some (.iload_n 1, 16, 0, 0, 0), some (.aaload, 17, 0, 0, 0), some (.astore 5, 19, 0, 0, 0), none, some (.aload 5, 21, 0, 0, 0), none, some (.iload_n 2, 22, 0, 0, 0), some (.iload_n 3, 23, 0, 0, 0), some (.bipush 15, 25, 0, 0, 0), none, some (.iand, 26, 0, 0, 0), some (.iload_n 1, 27, 0, 0, 0), some (.invokevirtual 26, 30, 81, 1, 0), none, none, some (.aload 5, 32, 0, 0, 0), none, some (.iload_n 3, 33, 0, 0, 0), some (.putfield 30, 36, 0, 5, 0), none, none, some (.aload 5, 38, 0, 0, 0), none, some (.iload 4, 40, 0, 0, 0), none, some (.putfield 33, 43, 0, 6, 0), none, none, some (.iconst 0, 44, 0, 0, 0), some (.istore 6, 46, 0, 0, 0), none, some (.iload 6, 48, 0, 0, 0), none, some (.iload 4, 50, 0, 0, 0), none, some (.if_icmp .ge 30, 53, 80, 0, 0), none, none, some (.aload 5, 55, 0, 0, 0), none, some (.dup, 56, 0, 0, 0), some (.getfield 36, 59, 0, 9, 0), none, none, some (.iconst 1, 60, 0, 0, 0), some (.iload_n 3, 61, 0, 0, 0), some (.iconst 4, 62, 0, 0, 0), some (.iload 6, 64, 0, 0, 0), none]

set_option maxRecDepth 20000 in
noncomputable def jt_80_1 : List (Option jm_I) := [some (.imul, 65, 0, 0, 0), some (.ishr, 66, 0, 0, 0), some (.bipush 15, 68, 0, 0, 0), none, some (.iand, 69, 0, 0, 0), some (.ishl, 70, 0, 0, 0), some (.ior, 71, 0, 0, 0), some (.putfield 36, 74, 0, 9, 0), none, none, some (.iinc 6 1, 77, 0, 0, 0), none, none, some (.goto (-31), 80, 46, 0, 0), none, none, some (.return_, 81, 0, 0, 0)]

noncomputable def jt_80 : List (List (Option jm_I)) := [jt_80_0, jt_80_1]

set_option maxRecDepth 20000 in
noncomputable def jt_81_0 : List (Option jm_I) := [some (.aload_n 0, 1, 0, 0, 0), some (.iload_n 1, 2, 0, 0, 0), some (.putfield 9, 5, 0, 0, 0), none, none, some (.aload_n 0, 6, 0, 0, 0), some (.iload_n 2, 7, 0, 0, 0), some (.putfield 15, 10, 0, 4, 0), none, none, some (.aload_n 0, 11, 0, 0, 0), some (.iconst (-1), 12, 0, 0, 0), some (.putfield 18, 15, 0, 1, 0), none, none, some (.aload_n 0, 16, 0, 0, 0), some (.iconst (-1), 17, 0, 0, 0), some (.putfield 21, 20, 0, 2, 0), none, none, some (.aload_n 0, 21, 0, 0, 0), some (.iconst (-1), 22, 0, 0, 0), some (.putfield 24, 25, 0, 3, 0), none, none, some (.aload_n 0, 26, 0, 0, 0), some (.iconst 0, 27, 0, 0, 0), some (.putfield 27, 30, 0, 5, 0), none, none, some (.aload_n 0, 31, 0, 0, 0), some (.iconst 0, 32, 0, 0, 0), some (.putfield 30, 35, 0, 6, 0), none, none, some (.aload_n 0, 36, 0, 0, 0), some (.iconst 1, 37, 0, 0, 0), some (.putfield 33, 40, 0, 7, 0), none, none, some (.aload_n 0, 41, 0, 0, 0), some (.iconst 0, 42, 0, 0, 0), some (.putfield 36, 45, 0, 8, 0), none, none, some (.aload_n 0, 46, 0, 0, 0), some (.iconst 0, 47, 0, 0, 0), some (.putfield 39, 50, 0, 9, 0), none, none, some (.aload_n 0, 51, 0, 0, 0), some (.iconst 1, 52, 0, 0, 0), some (.iload_n 3, 53, 0, 0, 0), some (.ishl, 54, 0, 0, 0), some (.putfield 42, 57, 0, 10, 0), none, none, some (.return_, 58, 0, 0, 0)]

noncomputable def jt_81 : List (List (Option jm_I)) := [jt_81_0]

set_option maxRecDepth 20000 in
noncomputable def jt_82_0 : List (Option jm_I) := [some (.aload_n 0, 1, 0, 0, 0), some (.getfield 26, 4, 1, 4, 0), none, none, some (.sipush 250, 7, 0, 0, 0), none, none, some (.if_icmp .ge 26, 10, 33, 0, 0), none, none, some (.aload_n 0, 11, 0, 0, 0), some (.getfield 9, 14, 1, 2, 1), none, none, some (.aload_n 0, 15, 0, 0, 0), some (.getfield 26, 18, 1, 4, 0), none, none, some (.aload_n 0, 19, 0, 0, 0), some (.getfield 48, 22, 1, 9, 0), none, none, some (.iastore, 23, 0, 0, 0), some (.aload_n 0, 24, 0, 0, 0), some (.dup, 25, 0, 0, 0), some (.getfield 26, 28, 1, 4, 0), none, none, some (.iconst 1, 29, 0, 0, 0), some (.iadd, 30, 0, 0, 0), some (.putfield 26, 33, 1, 4, 0), none, none, some (.aload_n 0, 34, 0, 0, 0), some (.dup, 35, 0, 0, 0), some (.getfield 48, 38, 1, 9, 0), none, none, some (.iconst 1, 39, 0, 0, 0), some (.iadd, 40, 0, 0, 0), some (.putfield 48, 43, 1, 9, 0), none, none, some (.return_, 44, 0, 0, 0)]

noncomputable def jt_82 : List (List (Option jm_I)) := [jt_82_0]

set_option maxRecDepth 20000 in
noncomputable def jt_83_0 : List (Option jm_I) := [some (.iconst 0, 1, 0, 0, 0), some (.istore_n 1, 2, 0, 0, 0), some (.iconst 0, 3, 0, 0, 0), some (.istore_n 2, 4, 0, 0, 0), some (.aload_n 0, 5, 0, 0, 0), some (.getfield 33, 8, 1, 6, 0), none, none, some (.aload_n 0, 9, 0, 0, 0), some (.getfield 18, 12, 1, 0, 1), none, none, some (.getfield 51, 15, 7, 1, 0), none, none, some (.if_icmp .ge 102, 18, 117, 0, 0), none, none, some (.aload_n 0, 19, 0, 0, 0), some (.getfield 18, 22, 1, 0, 1), none, none, some (.getfield 54, 25, 7, 0, 1), none, none, some (.aload_n 0, 26, 0, 0, 0), some (.getfield 33, 29, 1, 6, 0), none, none, some (.iaload, 30, 0, 0, 0), some (.istore_n 3, 31, 0, 0, 0), some (.iload_n 3, 32, 0, 0, 0), some (.invokestatic 67, 35, 71, 2, 0), none, none, some (.ifCond .eq 25, 38, 60, 0, 0), none, none, some (.iload_n 2, 39, 0, 0, 0), some (.iconst 4, 40, 0, 0, 0), some (.if_icmp .ge 20, 43, 60, 0, 0), none, none, some (.iload_n 1, 44, 0, 0, 0), some (.iload_n 3, 45, 0, 0, 0), some (.bipush 97, 47, 0, 0, 0), none, some (.isub, 48, 0, 0, 0), some (.iconst 4, 49, 0, 0, 0), some (.iload_n 2, 50, 0, 0, 0), some (.imul, 51, 0, 0, 0), some (.ishl, 52, 0, 0, 0), some (.ior, 53, 0, 0, 0), some (.istore_n 1, 54, 0, 0, 0), some (.iinc 2 1, 57, 0, 0, 0), none, none, some (.goto 47, 60, 104, 0, 0), none, none, some (.iload_n 3, 61, 0, 0, 0), some (.bipush 39, 63, 0, 0, 0), none, some (.if_icmp .ne 26, 66, 89, 0, 0)]

set_option maxRecDepth 20000 in
noncomputable def jt_83_1 : List (Option jm_I) := [none, none, some (.iload_n 2, 67, 0, 0, 0), some (.iconst 2, 68, 0, 0, 0), some (.if_icmp .lt 21, 71, 89, 0, 0), none, none, some (.aload_n 0, 72, 0, 0, 0), some (.dup, 73, 0, 0, 0), some (.getfield 33, 76, 1, 6, 0), none, none, some (.iconst 1, 77, 0, 0, 0), some (.iadd, 78, 0, 0, 0), some (.putfield 33, 81, 1, 6, 0), none, none, some (.aload_n 0, 82, 0, 0, 0), some (.iconst 1, 83, 0, 0, 0), some (.iload_n 1, 84, 0, 0, 0), some (.iload_n 2, 85, 0, 0, 0), some (.invokevirtual 71, 88, 79, 1, 1), none, none, some (.return_, 89, 0, 0, 0), some (.iload_n 3, 90, 0, 0, 0), some (.bipush 32, 92, 0, 0, 0), none, some (.if_icmp .eq 12, 95, 104, 0, 0), none, none, some (.aload_n 0, 96, 0, 0, 0), some (.aload_n 0, 97, 0, 0, 0), some (.getfield 33, 100, 1, 6, 0), none, none, some (.putfield 36, 103, 1, 7, 0), none, none, some (.return_, 104, 0, 0, 0), some (.aload_n 0, 105, 0, 0, 0), some (.dup, 106, 0, 0, 0), some (.getfield 33, 109, 1, 6, 0), none, none, some (.iconst 1, 110, 0, 0, 0), some (.iadd, 111, 0, 0, 0), some (.putfield 33, 114, 1, 6, 0), none, none, some (.goto (-110), 117, 4, 0, 0), none, none, some (.aload_n 0, 118, 0, 0, 0), some (.aload_n 0, 119, 0, 0, 0), some (.getfield 18, 122, 1, 0, 1), none, none, some (.getfield 51, 125, 7, 1, 0), none, none, some (.putfield 36, 128, 1, 7, 0), none, none]

set_option maxRecDepth 20000 in
noncomputable def jt_83_2 : List (Option jm_I) := [some (.return_, 129, 0, 0, 0)]

noncomputable def jt_83 : List (List (Option jm_I)) := [jt_83_0, jt_83_1, jt_83_2]

set_option maxRecDepth 20000 in
noncomputable def jt_84_0 : List (Option jm_I) := [some (.aload_n 0, 1, 0, 0, 0), some (.getfield 30, 4, 1, 5, 0), none, none, some (.sipush 250, 7, 0, 0, 0), none, none, some (.if_icmp .ge 23, 10, 30, 0, 0), none, none, some (.aload_n 0, 11, 0, 0, 0), some (.getfield 15, 14, 1, 3, 1), none, none, some (.aload_n 0, 15, 0, 0, 0), some (.getfield 30, 18, 1, 5, 0), none, none, some (.iload_n 1, 19, 0, 0, 0), some (.iastore, 20, 0, 0, 0), some (.aload_n 0, 21, 0, 0, 0), some (.dup, 22, 0, 0, 0), some (.getfield 30, 25, 1, 5, 0), none, none, some (.iconst 1, 26, 0, 0, 0), some (.iadd, 27, 0, 0, 0), some (.putfield 30, 30, 1, 5, 0), none, none, some (.return_, 31, 0, 0, 0)]

noncomputable def jt_84 : List (List (Option jm_I)) := [jt_84_0]

set_option maxRecDepth 20000 in
noncomputable def jt_85_0 : List (Option jm_I) := [some (.aload_n 0, 1, 0, 0, 0), some (.getfield 33, 4, 1, 6, 0), none, none, some (.aload_n 0, 5, 0, 0, 0), some (.getfield 18, 8, 1, 0, 1), none, none, some (.getfield 51, 11, 7, 1, 0), none, none, some (.if_icmp .ge 33, 14, 44, 0, 0), none, none, some (.aload_n 0, 15, 0, 0, 0), some (.getfield 18, 18, 1, 0, 1), none, none, some (.getfield 54, 21, 7, 0, 1), none, none, some (.aload_n 0, 22, 0, 0, 0), some (.getfield 33, 25, 1, 6, 0), none, none, some (.iaload, 26, 0, 0, 0), some (.bipush 32, 28, 0, 0, 0), none, some (.if_icmp .ne 16, 31, 44, 0, 0), none, none, some (.aload_n 0, 32, 0, 0, 0), some (.dup, 33, 0, 0, 0), some (.getfield 33, 36, 1, 6, 0), none, none, some (.iconst 1, 37, 0, 0, 0), some (.iadd, 38, 0, 0, 0), some (.putfield 33, 41, 1, 6, 0), none, none, some (.goto (-41), 44, 0, 0, 0), none, none, some (.aload_n 0, 45, 0, 0, 0), some (.getfield 33, 48, 1, 6, 0), none, none, some (.istore_n 2, 49, 0, 0, 0), some (.iconst 0, 50, 0, 0, 0), some (.istore_n 3, 51, 0, 0, 0), some (.aload_n 0, 52, 0, 0, 0), some (.getfield 33, 55, 1, 6, 0), none, none, some (.aload_n 0, 56, 0, 0, 0), some (.getfield 18, 59, 1, 0, 1), none, none, some (.getfield 51, 62, 7, 1, 0), none, none, some (.if_icmp .ge 87, 65, 149, 0, 0), none]

set_option maxRecDepth 20000 in
noncomputable def jt_85_1 : List (Option jm_I) := [none, some (.aload_n 0, 66, 0, 0, 0), some (.getfield 18, 69, 1, 0, 1), none, none, some (.getfield 54, 72, 7, 0, 1), none, none, some (.aload_n 0, 73, 0, 0, 0), some (.getfield 33, 76, 1, 6, 0), none, none, some (.iaload, 77, 0, 0, 0), some (.bipush 48, 79, 0, 0, 0), none, some (.if_icmp .lt 70, 82, 149, 0, 0), none, none, some (.aload_n 0, 83, 0, 0, 0), some (.getfield 18, 86, 1, 0, 1), none, none, some (.getfield 54, 89, 7, 0, 1), none, none, some (.aload_n 0, 90, 0, 0, 0), some (.getfield 33, 93, 1, 6, 0), none, none, some (.iaload, 94, 0, 0, 0), some (.bipush 57, 96, 0, 0, 0), none, some (.if_icmp .gt 53, 99, 149, 0, 0), none, none, some (.aload_n 0, 100, 0, 0, 0), some (.getfield 33, 103, 1, 6, 0), none, none, some (.iload_n 2, 104, 0, 0, 0), some (.isub, 105, 0, 0, 0), some (.iconst 2, 106, 0, 0, 0), some (.if_icmp .ge 26, 109, 132, 0, 0), none, none, some (.bipush 10, 111, 0, 0, 0), none, some (.iload_n 3, 112, 0, 0, 0), some (.imul, 113, 0, 0, 0), some (.aload_n 0, 114, 0, 0, 0), some (.getfield 18, 117, 1, 0, 1), none, none, some (.getfield 54, 120, 7, 0, 1), none, none, some (.aload_n 0, 121, 0, 0, 0), some (.getfield 33, 124, 1, 6, 0), none, none, some (.iaload, 125, 0, 0, 0), some (.iadd, 126, 0, 0, 0), some (.bipush 48, 128, 0, 0, 0), none]

set_option maxRecDepth 20000 in
noncomputable def jt_85_2 : List (Option jm_I) := [some (.isub, 129, 0, 0, 0), some (.goto 6, 132, 135, 0, 0), none, none, some (.iload_n 1, 133, 0, 0, 0), some (.iconst 1, 134, 0, 0, 0), some (.iadd, 135, 0, 0, 0), some (.istore_n 3, 136, 0, 0, 0), some (.aload_n 0, 137, 0, 0, 0), some (.dup, 138, 0, 0, 0), some (.getfield 33, 141, 1, 6, 0), none, none, some (.iconst 1, 142, 0, 0, 0), some (.iadd, 143, 0, 0, 0), some (.putfield 33, 146, 1, 6, 0), none, none, some (.goto (-95), 149, 51, 0, 0), none, none, some (.iload_n 3, 150, 0, 0, 0), some (.iconst 1, 151, 0, 0, 0), some (.if_icmp .lt 8, 154, 159, 0, 0), none, none, some (.iload_n 3, 155, 0, 0, 0), some (.iload_n 1, 156, 0, 0, 0), some (.if_icmp .le 10, 159, 166, 0, 0), none, none, some (.aload_n 0, 160, 0, 0, 0), some (.iload_n 2, 161, 0, 0, 0), some (.putfield 36, 164, 1, 7, 0), none, none, some (.iconst 0, 165, 0, 0, 0), some (.ireturn, 166, 0, 0, 0), some (.iload_n 3, 167, 0, 0, 0), some (.ireturn, 168, 0, 0, 0)]

noncomputable def jt_85 : List (List (Option jm_I)) := [jt_85_0, jt_85_1, jt_85_2]

set_option maxRecDepth 20000 in
noncomputable def jt_86_0 : List (Option jm_I) := [some (.aload_n 0, 1, 0, 0, 0), some (.getfield 33, 4, 1, 6, 0), none, none, some (.iconst 1, 5, 0, 0, 0), some (.isub, 6, 0, 0, 0), some (.istore_n 2, 7, 0, 0, 0), some (.iload_n 1, 8, 0, 0, 0), some (.invokestatic 85, 11, 87, 2, 0), none, none, some (.istore_n 3, 12, 0, 0, 0), some (.iload_n 3, 13, 0, 0, 0), some (.iconst (-1), 14, 0, 0, 0), some (.if_icmp .eq 21, 17, 35, 0, 0), none, none, some (.aload_n 0, 18, 0, 0, 0), some (.iload_n 3, 19, 0, 0, 0), some (.invokevirtual 64, 22, 88, 1, 1), none, none, some (.aload_n 0, 23, 0, 0, 0), some (.iload_n 3, 24, 0, 0, 0), some (.invokevirtual 78, 27, 84, 1, 1), none, none, some (.aload_n 0, 28, 0, 0, 0), some (.iconst 1, 29, 0, 0, 0), some (.putfield 39, 32, 1, 8, 2), none, none, some (.goto 39, 35, 71, 0, 0), none, none, some (.iload_n 1, 36, 0, 0, 0), some (.bipush 94, 38, 0, 0, 0), none, some (.if_icmp .ne 15, 41, 53, 0, 0), none, none, some (.aload_n 0, 42, 0, 0, 0), some (.iconst 5, 43, 0, 0, 0), some (.invokevirtual 64, 46, 88, 1, 1), none, none, some (.aload_n 0, 47, 0, 0, 0), some (.invokevirtual 88, 50, 95, 1, 1), none, none, some (.goto 21, 53, 71, 0, 0), none, none, some (.aload_n 0, 54, 0, 0, 0), some (.iconst 2, 55, 0, 0, 0), some (.invokevirtual 64, 58, 88, 1, 1), none, none, some (.aload_n 0, 59, 0, 0, 0), some (.iload_n 1, 60, 0, 0, 0), some (.invokevirtual 91, 63, 96, 1, 1), none, none, some (.ifCond .ne 8, 66, 71, 0, 0)]

set_option maxRecDepth 20000 in
noncomputable def jt_86_1 : List (Option jm_I) := [none, none, some (.aload_n 0, 67, 0, 0, 0), some (.iload_n 2, 68, 0, 0, 0), some (.putfield 36, 71, 1, 7, 0), none, none, some (.return_, 72, 0, 0, 0)]

noncomputable def jt_86 : List (List (Option jm_I)) := [jt_86_0, jt_86_1]

set_option maxRecDepth 20000 in
noncomputable def jt_87_0 : List (Option jm_I) := [some (.iload_n 0, 1, 0, 0, 0), some (.lookupswitch 84 #[(33, 75), (35, 78), (38, 69), (45, 81), (60, 71), (64, 73), (124, 67)], 68, 0, 0, 0), none, none, none, none, none, none, none, none, none, none, none, none, none, none, none, none, none, none, none, none, none, none, none, none, none, none, none, none, none, none, none, none, none, none, none, none, none, none, none, none, none, none, none, none, none, none, none, none, none, none, none, none, none, none, none, none, none, none, none, none, none, none]

set_option maxRecDepth 20000 in
noncomputable def jt_87_1 : List (Option jm_I) := [none, none, none, none, some (.iconst 2, 69, 0, 0, 0), some (.ireturn, 70, 0, 0, 0), some (.iconst 3, 71, 0, 0, 0), some (.ireturn, 72, 0, 0, 0), some (.iconst 4, 73, 0, 0, 0), some (.ireturn, 74, 0, 0, 0), some (.iconst 5, 75, 0, 0, 0), some (.ireturn, 76, 0, 0, 0), some (.bipush 6, 78, 0, 0, 0), none, some (.ireturn, 79, 0, 0, 0), some (.bipush 7, 81, 0, 0, 0), none, some (.ireturn, 82, 0, 0, 0), some (.bipush 8, 84, 0, 0, 0), none, some (.ireturn, 85, 0, 0, 0), some (.iconst (-1), 86, 0, 0, 0), some (.ireturn, 87, 0, 0, 0)]

noncomputable def jt_87 : List (List (Option jm_I)) := [jt_87_0, jt_87_1]

set_option maxRecDepth 20000 in
noncomputable def jt_88_0 : List (Option jm_I) := [some (.iload_n 1, 1, 0, 0, 0), some (.invokestatic 105, 4, 89, 2, 0), none, none, some (.istore_n 2, 5, 0, 0, 0), some (.aload_n 0, 6, 0, 0, 0), some (.getfield 30, 9, 1, 5, 0), none, none, some (.ifCond .le 65, 12, 74, 0, 0), none, none, some (.aload_n 0, 13, 0, 0, 0), some (.invokevirtual 102, 16, 90, 1, 1), none, none, some (.invokestatic 108, 19, 30, 4, 0), none, none, some (.ifCond .eq 55, 22, 74, 0, 0), none, none, some (.aload_n 0, 23, 0, 0, 0), some (.invokevirtual 102, 26, 90, 1, 1), none, none, some (.invokestatic 105, 29, 89, 2, 0), none, none, some (.iload_n 2, 30, 0, 0, 0), some (.if_icmp .lt 44, 33, 74, 0, 0), none, none, some (.aload_n 0, 34, 0, 0, 0), some (.invokevirtual 102, 37, 90, 1, 1), none, none, some (.istore_n 3, 38, 0, 0, 0), some (.aload_n 0, 39, 0, 0, 0), some (.dup, 40, 0, 0, 0), some (.getfield 30, 43, 1, 5, 0), none, none, some (.iconst 1, 44, 0, 0, 0), some (.isub, 45, 0, 0, 0), some (.putfield 30, 48, 1, 5, 0), none, none, some (.aload_n 0, 49, 0, 0, 0), some (.invokevirtual 94, 52, 91, 1, 1), none, none, some (.istore 4, 54, 0, 0, 0), none, some (.aload_n 0, 55, 0, 0, 0), some (.invokevirtual 94, 58, 91, 1, 1), none, none, some (.istore 5, 60, 0, 0, 0), none, some (.aload_n 0, 61, 0, 0, 0), some (.iload_n 3, 62, 0, 0, 0), some (.iconst (-1), 63, 0, 0, 0), some (.iload 5, 65, 0, 0, 0)]

set_option maxRecDepth 20000 in
noncomputable def jt_88_1 : List (Option jm_I) := [none, some (.iload 4, 67, 0, 0, 0), none, some (.iconst (-1), 68, 0, 0, 0), some (.invokevirtual 98, 71, 92, 1, 1), none, none, some (.goto (-66), 74, 5, 0, 0), none, none, some (.return_, 75, 0, 0, 0)]

noncomputable def jt_88 : List (List (Option jm_I)) := [jt_88_0, jt_88_1]

set_option maxRecDepth 20000 in
noncomputable def jt_89_0 : List (Option jm_I) := [some (.iload_n 0, 1, 0, 0, 0), some (.iconst 5, 2, 0, 0, 0), some (.invokestatic 111, 5, 0, 14, 0), none, none, some (.ireturn, 6, 0, 0, 0)]

noncomputable def jt_89 : List (List (Option jm_I)) := [jt_89_0]

set_option maxRecDepth 20000 in
noncomputable def jt_90_0 : List (Option jm_I) := [some (.aload_n 0, 1, 0, 0, 0), some (.getfield 30, 4, 1, 5, 0), none, none, some (.ifCond .le 17, 7, 21, 0, 0), none, none, some (.aload_n 0, 8, 0, 0, 0), some (.getfield 15, 11, 1, 3, 1), none, none, some (.aload_n 0, 12, 0, 0, 0), some (.getfield 30, 15, 1, 5, 0), none, none, some (.iconst 1, 16, 0, 0, 0), some (.isub, 17, 0, 0, 0), some (.iaload, 18, 0, 0, 0), some (.goto 4, 21, 22, 0, 0), none, none, some (.iconst (-1), 22, 0, 0, 0), some (.ireturn, 23, 0, 0, 0)]

noncomputable def jt_90 : List (List (Option jm_I)) := [jt_90_0]

set_option maxRecDepth 20000 in
noncomputable def jt_91_0 : List (Option jm_I) := [some (.aload_n 0, 1, 0, 0, 0), some (.getfield 26, 4, 1, 4, 0), none, none, some (.iconst 1, 5, 0, 0, 0), some (.if_icmp .ge 5, 8, 10, 0, 0), none, none, some (.iconst (-1), 9, 0, 0, 0), some (.ireturn, 10, 0, 0, 0), some (.aload_n 0, 11, 0, 0, 0), some (.dup, 12, 0, 0, 0), some (.getfield 26, 15, 1, 4, 0), none, none, some (.iconst 1, 16, 0, 0, 0), some (.isub, 17, 0, 0, 0), some (.putfield 26, 20, 1, 4, 0), none, none, some (.aload_n 0, 21, 0, 0, 0), some (.getfield 9, 24, 1, 2, 1), none, none, some (.aload_n 0, 25, 0, 0, 0), some (.getfield 26, 28, 1, 4, 0), none, none, some (.iaload, 29, 0, 0, 0), some (.ireturn, 30, 0, 0, 0)]

noncomputable def jt_91 : List (List (Option jm_I)) := [jt_91_0]

set_option maxRecDepth 20000 in
noncomputable def jt_92_0 : List (Option jm_I) := [some (.aload_n 0, 1, 0, 0, 0), some (.getfield 22, 4, 1, 1, 1), none, none, some (.aload_n 0, 5, 0, 0, 0), some (.getfield 48, 8, 1, 9, 0), none, none, some (.iload_n 1, 9, 0, 0, 0), some (.iload_n 2, 10, 0, 0, 0), some (.iload_n 3, 11, 0, 0, 0), some (.iload 4, 13, 0, 0, 0), none, some (.iload 5, 15, 0, 0, 0), none, some (.invokevirtual 124, 18, 93, 1, 2), none, none, some (.aload_n 0, 19, 0, 0, 0), some (.invokevirtual 121, 22, 82, 1, 1), none, none, some (.return_, 23, 0, 0, 0)]

noncomputable def jt_92 : List (List (Option jm_I)) := [jt_92_0]

set_option maxRecDepth 20000 in
noncomputable def jt_93_0 : List (Option jm_I) := [some (.iload_n 1, 1, 0, 0, 0), some (.ifCond .lt 9, 4, 10, 0, 0), none, none, some (.iload_n 1, 5, 0, 0, 0), some (.bipush 24, 7, 0, 0, 0), none, some (.if_icmp .lt 4, 10, 11, 0, 0), none, none, some (.return_, 11, 0, 0, 0), some (.aload_n 0, 12, 0, 0, 0), some (.getfield 11, 15, 2, 0, 1), none, none, some (.iload_n 1, 16, 0, 0, 0), some (.aaload, 17, 0, 0, 0), some (.astore 7, 19, 0, 0, 0), none, some (.aload 7, 21, 0, 0, 0), none, some (.iload_n 2, 22, 0, 0, 0), some (.iload_n 3, 23, 0, 0, 0), some (.iload_n 1, 24, 0, 0, 0), some (.invokevirtual 26, 27, 81, 1, 0), none, none, some (.aload 7, 29, 0, 0, 0), none, some (.iload 4, 31, 0, 0, 0), none, some (.putfield 39, 34, 0, 1, 0), none, none, some (.aload 7, 36, 0, 0, 0), none, some (.iload 5, 38, 0, 0, 0), none, some (.putfield 42, 41, 0, 2, 0), none, none, some (.aload 7, 43, 0, 0, 0), none, some (.iload 6, 45, 0, 0, 0), none, some (.putfield 45, 48, 0, 3, 0), none, none, some (.iload 4, 50, 0, 0, 0), none, some (.ifCond .lt 21, 53, 71, 0, 0), none, none, some (.iload 4, 55, 0, 0, 0), none, some (.iload_n 1, 56, 0, 0, 0), some (.if_icmp .ge 15, 59, 71, 0, 0), none, none, some (.aload 7, 61, 0, 0, 0), none, some (.aload_n 0, 62, 0, 0, 0), some (.getfield 11, 65, 2, 0, 1), none]

set_option maxRecDepth 20000 in
noncomputable def jt_93_1 : List (Option jm_I) := [none, some (.iload 4, 67, 0, 0, 0), none, some (.aaload, 68, 0, 0, 0), some (.invokevirtual 48, 71, 94, 1, 0), none, none, some (.iload 5, 73, 0, 0, 0), none, some (.ifCond .lt 21, 76, 94, 0, 0), none, none, some (.iload 5, 78, 0, 0, 0), none, some (.iload_n 1, 79, 0, 0, 0), some (.if_icmp .ge 15, 82, 94, 0, 0), none, none, some (.aload 7, 84, 0, 0, 0), none, some (.aload_n 0, 85, 0, 0, 0), some (.getfield 11, 88, 2, 0, 1), none, none, some (.iload 5, 90, 0, 0, 0), none, some (.aaload, 91, 0, 0, 0), some (.invokevirtual 48, 94, 94, 1, 0), none, none, some (.iload 6, 96, 0, 0, 0), none, some (.ifCond .lt 21, 99, 117, 0, 0), none, none, some (.iload 6, 101, 0, 0, 0), none, some (.iload_n 1, 102, 0, 0, 0), some (.if_icmp .ge 15, 105, 117, 0, 0), none, none, some (.aload 7, 107, 0, 0, 0), none, some (.aload_n 0, 108, 0, 0, 0), some (.getfield 11, 111, 2, 0, 1), none, none, some (.iload 6, 113, 0, 0, 0), none, some (.aaload, 114, 0, 0, 0), some (.invokevirtual 48, 117, 94, 1, 0), none, none, some (.return_, 118, 0, 0, 0)]

noncomputable def jt_93 : List (List (Option jm_I)) := [jt_93_0, jt_93_1]

set_option maxRecDepth 20000 in
noncomputable def jt_94_0 : List (Option jm_I) := [some (.aload_n 0, 1, 0, 0, 0), some (.ldc 45, 3, 0, 0, 1000000), none, some (.aload_n 0, 4, 0, 0, 0), some (.getfield 33, 7, 0, 7, 0), none, none, some (.aload_n 1, 8, 0, 0, 0), some (.getfield 33, 11, 0, 7, 0), none, none, some (.iadd, 12, 0, 0, 0), some (.invokestatic 46, 15, 0, 14, 0), none, none, some (.putfield 33, 18, 0, 7, 0), none, none, some (.aload_n 0, 19, 0, 0, 0), some (.aload_n 0, 20, 0, 0, 0), some (.getfield 36, 23, 0, 8, 0), none, none, some (.aload_n 1, 24, 0, 0, 0), some (.getfield 36, 27, 0, 8, 0), none, none, some (.iconst 1, 28, 0, 0, 0), some (.iadd, 29, 0, 0, 0), some (.invokestatic 52, 32, 0, 13, 0), none, none, some (.putfield 36, 35, 0, 8, 0), none, none, some (.aload_n 0, 36, 0, 0, 0), some (.dup, 37, 0, 0, 0), some (.getfield 39, 40, 0, 9, 0), none, none, some (.aload_n 1, 41, 0, 0, 0), some (.getfield 39, 44, 0, 9, 0), none, none, some (.ior, 45, 0, 0, 0), some (.putfield 39, 48, 0, 9, 0), none, none, some (.aload_n 0, 49, 0, 0, 0), some (.dup, 50, 0, 0, 0), some (.getfield 42, 53, 0, 10, 0), none, none, some (.aload_n 1, 54, 0, 0, 0), some (.getfield 42, 57, 0, 10, 0), none, none, some (.ior, 58, 0, 0, 0), some (.putfield 42, 61, 0, 10, 0), none, none, some (.return_, 62, 0, 0, 0)]

noncomputable def jt_94 : List (List (Option jm_I)) := [jt_94_0]

set_option maxRecDepth 20000 in
noncomputable def jt_95_0 : List (Option jm_I) := [some (.aload_n 0, 1, 0, 0, 0), some (.bipush 60, 3, 0, 0, 0), none, some (.invokevirtual 81, 6, 85, 1, 1), none, none, some (.istore_n 1, 7, 0, 0, 0), some (.aload_n 0, 8, 0, 0, 0), some (.getfield 36, 11, 1, 7, 0), none, none, some (.iconst (-1), 12, 0, 0, 0), some (.if_icmp .ne 16, 15, 28, 0, 0), none, none, some (.aload_n 0, 16, 0, 0, 0), some (.bipush 10, 18, 0, 0, 0), none, some (.iload_n 1, 19, 0, 0, 0), some (.aload_n 0, 20, 0, 0, 0), some (.invokevirtual 94, 23, 91, 1, 1), none, none, some (.iconst (-1), 24, 0, 0, 0), some (.iconst (-1), 25, 0, 0, 0), some (.invokevirtual 98, 28, 92, 1, 1), none, none, some (.return_, 29, 0, 0, 0)]

noncomputable def jt_95 : List (List (Option jm_I)) := [jt_95_0]

set_option maxRecDepth 20000 in
noncomputable def jt_96_0 : List (Option jm_I) := [some (.aload_n 0, 1, 0, 0, 0), some (.invokevirtual 102, 4, 90, 1, 1), none, none, some (.istore_n 2, 5, 0, 0, 0), some (.iload_n 2, 6, 0, 0, 0), some (.bipush 100, 8, 0, 0, 0), none, some (.if_icmp .lt 7, 11, 15, 0, 0), none, none, some (.iconst 1, 12, 0, 0, 0), some (.goto 4, 15, 16, 0, 0), none, none, some (.iconst 0, 16, 0, 0, 0), some (.istore_n 3, 17, 0, 0, 0), some (.iload_n 1, 18, 0, 0, 0), some (.bipush 41, 20, 0, 0, 0), none, some (.if_icmp .ne 21, 23, 41, 0, 0), none, none, some (.iload_n 2, 24, 0, 0, 0), some (.bipush 20, 26, 0, 0, 0), none, some (.if_icmp .ne 15, 29, 41, 0, 0), none, none, some (.aload_n 0, 30, 0, 0, 0), some (.dup, 31, 0, 0, 0), some (.getfield 30, 34, 1, 5, 0), none, none, some (.iconst 1, 35, 0, 0, 0), some (.isub, 36, 0, 0, 0), some (.putfield 30, 39, 1, 5, 0), none, none, some (.iconst 1, 40, 0, 0, 0), some (.ireturn, 41, 1, 0, 0), some (.iload_n 1, 42, 0, 0, 0), some (.bipush 44, 44, 0, 0, 0), none, some (.if_icmp .ne 39, 47, 83, 0, 0), none, none, some (.iload_n 3, 48, 0, 0, 0), some (.ifCond .eq 35, 51, 83, 0, 0), none, none, some (.iload_n 2, 52, 0, 0, 0), some (.bipush 10, 54, 0, 0, 0), none, some (.irem, 55, 0, 0, 0), some (.iconst 2, 56, 0, 0, 0), some (.if_icmp .ge 27, 59, 83, 0, 0), none, none, some (.aload_n 0, 60, 0, 0, 0), some (.dup, 61, 0, 0, 0), some (.getfield 30, 64, 1, 5, 0), none, none]

set_option maxRecDepth 20000 in
noncomputable def jt_96_1 : List (Option jm_I) := [some (.iconst 1, 65, 0, 0, 0), some (.isub, 66, 0, 0, 0), some (.putfield 30, 69, 1, 5, 0), none, none, some (.aload_n 0, 70, 0, 0, 0), some (.iload_n 2, 71, 0, 0, 0), some (.iconst 1, 72, 0, 0, 0), some (.iadd, 73, 0, 0, 0), some (.invokevirtual 78, 76, 84, 1, 1), none, none, some (.aload_n 0, 77, 0, 0, 0), some (.iconst 1, 78, 0, 0, 0), some (.putfield 39, 81, 1, 8, 2), none, none, some (.iconst 1, 82, 0, 0, 0), some (.ireturn, 83, 1, 0, 0), some (.iload_n 1, 84, 0, 0, 0), some (.bipush 125, 86, 0, 0, 0), none, some (.if_icmp .ne 64, 89, 150, 0, 0), none, none, some (.iload_n 3, 90, 0, 0, 0), some (.ifCond .eq 60, 93, 150, 0, 0), none, none, some (.iload_n 2, 94, 0, 0, 0), some (.bipush 10, 96, 0, 0, 0), none, some (.irem, 97, 0, 0, 0), some (.iconst 2, 98, 0, 0, 0), some (.if_icmp .ne 52, 101, 150, 0, 0), none, none, some (.aload_n 0, 102, 0, 0, 0), some (.dup, 103, 0, 0, 0), some (.getfield 30, 106, 1, 5, 0), none, none, some (.iconst 1, 107, 0, 0, 0), some (.isub, 108, 0, 0, 0), some (.putfield 30, 111, 1, 5, 0), none, none, some (.aload_n 0, 112, 0, 0, 0), some (.invokevirtual 94, 115, 91, 1, 1), none, none, some (.istore 4, 117, 0, 0, 0), none, some (.aload_n 0, 118, 0, 0, 0), some (.invokevirtual 94, 121, 91, 1, 1), none, none, some (.istore 5, 123, 0, 0, 0), none, some (.aload_n 0, 124, 0, 0, 0), some (.invokevirtual 94, 127, 91, 1, 1), none, none, some (.istore 6, 129, 0, 0, 0)]

set_option maxRecDepth 20000 in
noncomputable def jt_96_2 : List (Option jm_I) := [none, some (.aload_n 0, 130, 0, 0, 0), some (.bipush 11, 132, 0, 0, 0), none, some (.iload_n 2, 133, 0, 0, 0), some (.bipush 100, 135, 0, 0, 0), none, some (.isub, 136, 0, 0, 0), some (.bipush 10, 138, 0, 0, 0), none, some (.idiv, 139, 0, 0, 0), some (.iload 6, 141, 0, 0, 0), none, some (.iload 5, 143, 0, 0, 0), none, some (.iload 4, 145, 0, 0, 0), none, some (.invokevirtual 98, 148, 92, 1, 1), none, none, some (.iconst 1, 149, 0, 0, 0), some (.ireturn, 150, 1, 0, 0), some (.iconst 0, 151, 0, 0, 0), some (.ireturn, 152, 1, 0, 0)]

noncomputable def jt_96 : List (List (Option jm_I)) := [jt_96_0, jt_96_1, jt_96_2]

set_option maxRecDepth 20000 in
noncomputable def jt_97_0 : List (Option jm_I) := [some (.iload_n 1, 1, 0, 0, 0), some (.invokestatic 141, 4, 57, 2, 0), none, none, some (.ifCond .eq 13, 7, 17, 0, 0), none, none, some (.aload_n 0, 8, 0, 0, 0), some (.iconst 0, 9, 0, 0, 0), some (.iload_n 1, 10, 0, 0, 0), some (.iconst 1, 11, 0, 0, 0), some (.invokevirtual 192, 14, 98, 1, 9), none, none, some (.goto 9, 17, 23, 0, 0), none, none, some (.aload_n 0, 18, 0, 0, 0), some (.bipush (-2), 20, 0, 0, 0), none, some (.invokevirtual 79, 23, 13, 1, 9), none, none, some (.ireturn, 24, 0, 0, 0)]

noncomputable def jt_97 : List (List (Option jm_I)) := [jt_97_0]

set_option maxRecDepth 20000 in
noncomputable def jt_98_0 : List (Option jm_I) := [some (.aload_n 0, 1, 0, 0, 0), some (.getfield 22, 4, 9, 2, 1), none, none, some (.invokevirtual 356, 7, 99, 1, 2), none, none, some (.ifCond .eq 10, 10, 17, 0, 0), none, none, some (.aload_n 0, 11, 0, 0, 0), some (.bipush (-6), 13, 0, 0, 0), none, some (.invokevirtual 79, 16, 13, 1, 9), none, none, some (.ireturn, 17, 0, 0, 0), some (.aload_n 0, 18, 0, 0, 0), some (.getfield 22, 21, 9, 2, 1), none, none, some (.aload_n 0, 22, 0, 0, 0), some (.getfield 22, 25, 9, 2, 1), none, none, some (.getfield 191, 28, 2, 1, 0), none, none, some (.iload_n 1, 29, 0, 0, 0), some (.iload_n 2, 30, 0, 0, 0), some (.iload_n 3, 31, 0, 0, 0), some (.invokevirtual 359, 34, 80, 1, 2), none, none, some (.aload_n 0, 35, 0, 0, 0), some (.getfield 22, 38, 9, 2, 1), none, none, some (.invokevirtual 363, 41, 100, 1, 2), none, none, some (.ireturn, 42, 0, 0, 0)]

noncomputable def jt_98 : List (List (Option jm_I)) := [jt_98_0]

set_option maxRecDepth 20000 in
noncomputable def jt_99_0 : List (Option jm_I) := [some (.aload_n 0, 1, 0, 0, 0), some (.getfield 18, 4, 2, 1, 0), none, none, some (.bipush 24, 6, 0, 0, 0), none, some (.if_icmp .lt 7, 9, 13, 0, 0), none, none, some (.iconst 1, 10, 0, 0, 0), some (.goto 4, 13, 14, 0, 0), none, none, some (.iconst 0, 14, 0, 0, 0), some (.ireturn, 15, 1, 0, 0)]

noncomputable def jt_99 : List (List (Option jm_I)) := [jt_99_0]

set_option maxRecDepth 20000 in
noncomputable def jt_100_0 : List (Option jm_I) := [some (.aload_n 0, 1, 0, 0, 0), some (.dup, 2, 0, 0, 0), some (.getfield 18, 5, 2, 1, 0), none, none, some (.iconst 1, 6, 0, 0, 0), some (.iadd, 7, 0, 0, 0), some (.putfield 18, 10, 2, 1, 0), none, none, some (.aload_n 0, 11, 0, 0, 0), some (.getfield 18, 14, 2, 1, 0), none, none, some (.iconst 1, 15, 0, 0, 0), some (.isub, 16, 0, 0, 0), some (.ireturn, 17, 0, 0, 0)]

noncomputable def jt_100 : List (List (Option jm_I)) := [jt_100_0]

noncomputable def jt_101 : List (List (Option jm_I)) := []

set_option maxRecDepth 20000 in
noncomputable def jt_102_0 : List (Option jm_I) := [some (.iload_n 1, 1, 0, 0, 0), some (.invokestatic 198, 4, 30, 2, 0), none, none, some (.ifCond .eq 25, 7, 29, 0, 0), none, none, some (.aload_n 0, 8, 0, 0, 0), some (.getfield 22, 11, 9, 2, 1), none, none, some (.iload_n 2, 12, 0, 0, 0), some (.invokevirtual 123, 15, 27, 1, 2), none, none, some (.ifCond .eq 14, 18, 29, 0, 0), none, none, some (.aload_n 0, 19, 0, 0, 0), some (.getfield 22, 22, 9, 2, 1), none, none, some (.iload_n 3, 23, 0, 0, 0), some (.invokevirtual 123, 26, 27, 1, 2), none, none, some (.ifCond .ne 10, 29, 36, 0, 0), none, none, some (.aload_n 0, 30, 0, 0, 0), some (.bipush (-2), 32, 0, 0, 0), none, some (.invokevirtual 79, 35, 13, 1, 9), none, none, some (.ireturn, 36, 0, 0, 0), some (.aload_n 0, 37, 0, 0, 0), some (.iload_n 1, 38, 0, 0, 0), some (.iconst (-1), 39, 0, 0, 0), some (.iload_n 2, 40, 0, 0, 0), some (.iload_n 3, 41, 0, 0, 0), some (.iconst (-1), 42, 0, 0, 0), some (.invokevirtual 201, 45, 103, 1, 9), none, none, some (.ireturn, 46, 0, 0, 0)]

noncomputable def jt_102 : List (List (Option jm_I)) := [jt_102_0]

set_option maxRecDepth 20000 in
noncomputable def jt_103_0 : List (Option jm_I) := [some (.aload_n 0, 1, 0, 0, 0), some (.getfield 22, 4, 9, 2, 1), none, none, some (.invokevirtual 356, 7, 99, 1, 2), none, none, some (.ifCond .eq 10, 10, 17, 0, 0), none, none, some (.aload_n 0, 11, 0, 0, 0), some (.bipush (-6), 13, 0, 0, 0), none, some (.invokevirtual 79, 16, 13, 1, 9), none, none, some (.ireturn, 17, 0, 0, 0), some (.aload_n 0, 18, 0, 0, 0), some (.getfield 22, 21, 9, 2, 1), none, none, some (.aload_n 0, 22, 0, 0, 0), some (.getfield 22, 25, 9, 2, 1), none, none, some (.getfield 191, 28, 2, 1, 0), none, none, some (.iload_n 1, 29, 0, 0, 0), some (.iload_n 2, 30, 0, 0, 0), some (.iload_n 3, 31, 0, 0, 0), some (.iload 4, 33, 0, 0, 0), none, some (.iload 5, 35, 0, 0, 0), none, some (.invokevirtual 366, 38, 93, 1, 2), none, none, some (.aload_n 0, 39, 0, 0, 0), some (.getfield 22, 42, 9, 2, 1), none, none, some (.invokevirtual 363, 45, 100, 1, 2), none, none, some (.ireturn, 46, 0, 0, 0)]

noncomputable def jt_103 : List (List (Option jm_I)) := [jt_103_0]

set_option maxRecDepth 20000 in
noncomputable def jt_104_0 : List (Option jm_I) := [some (.iload_n 1, 1, 0, 0, 0), some (.ifCond .lt 8, 4, 9, 0, 0), none, none, some (.iload_n 1, 5, 0, 0, 0), some (.iconst 2, 6, 0, 0, 0), some (.if_icmp .le 12, 9, 18, 0, 0), none, none, some (.aload_n 0, 10, 0, 0, 0), some (.bipush (-2), 12, 0, 0, 0), none, some (.invokevirtual 79, 15, 13, 1, 9), none, none, some (.goto 11, 18, 26, 0, 0), none, none, some (.aload_n 0, 19, 0, 0, 0), some (.bipush 9, 21, 0, 0, 0), none, some (.iload_n 1, 22, 0, 0, 0), some (.iconst 0, 23, 0, 0, 0), some (.invokevirtual 192, 26, 98, 1, 9), none, none, some (.ireturn, 27, 0, 0, 0)]

noncomputable def jt_104 : List (List (Option jm_I)) := [jt_104_0]

set_option maxRecDepth 20000 in
noncomputable def jt_105_0 : List (Option jm_I) := [some (.aload_n 0, 1, 0, 0, 0), some (.getfield 22, 4, 9, 2, 1), none, none, some (.iload_n 1, 5, 0, 0, 0), some (.invokevirtual 123, 8, 27, 1, 2), none, none, some (.ifCond .eq 14, 11, 22, 0, 0), none, none, some (.iload_n 2, 12, 0, 0, 0), some (.iconst 1, 13, 0, 0, 0), some (.if_icmp .lt 9, 16, 22, 0, 0), none, none, some (.iload_n 2, 17, 0, 0, 0), some (.bipush 60, 19, 0, 0, 0), none, some (.if_icmp .le 10, 22, 29, 0, 0), none, none, some (.aload_n 0, 23, 0, 0, 0), some (.bipush (-2), 25, 0, 0, 0), none, some (.invokevirtual 79, 28, 13, 1, 9), none, none, some (.ireturn, 29, 0, 0, 0), some (.aload_n 0, 30, 0, 0, 0), some (.bipush 10, 32, 0, 0, 0), none, some (.iload_n 2, 33, 0, 0, 0), some (.iload_n 1, 34, 0, 0, 0), some (.iconst (-1), 35, 0, 0, 0), some (.iconst (-1), 36, 0, 0, 0), some (.invokevirtual 201, 39, 103, 1, 9), none, none, some (.ireturn, 40, 0, 0, 0)]

noncomputable def jt_105 : List (List (Option jm_I)) := [jt_105_0]

set_option maxRecDepth 20000 in
noncomputable def jt_106_0 : List (Option jm_I) := [some (.iload_n 1, 1, 0, 0, 0), some (.iconst 1, 2, 0, 0, 0), some (.if_icmp .lt 42, 5, 44, 0, 0), none, none, some (.iload_n 1, 6, 0, 0, 0), some (.iconst 3, 7, 0, 0, 0), some (.if_icmp .gt 37, 10, 44, 0, 0), none, none, some (.aload_n 0, 11, 0, 0, 0), some (.getfield 22, 14, 9, 2, 1), none, none, some (.iload_n 2, 15, 0, 0, 0), some (.invokevirtual 123, 18, 27, 1, 2), none, none, some (.ifCond .eq 26, 21, 44, 0, 0), none, none, some (.aload_n 0, 22, 0, 0, 0), some (.getfield 22, 25, 9, 2, 1), none, none, some (.iload_n 3, 26, 0, 0, 0), some (.invokevirtual 123, 29, 27, 1, 2), none, none, some (.ifCond .eq 15, 32, 44, 0, 0), none, none, some (.aload_n 0, 33, 0, 0, 0), some (.getfield 22, 36, 9, 2, 1), none, none, some (.iload 4, 38, 0, 0, 0), none, some (.invokevirtual 123, 41, 27, 1, 2), none, none, some (.ifCond .ne 10, 44, 51, 0, 0), none, none, some (.aload_n 0, 45, 0, 0, 0), some (.bipush (-2), 47, 0, 0, 0), none, some (.invokevirtual 79, 50, 13, 1, 9), none, none, some (.ireturn, 51, 0, 0, 0), some (.aload_n 0, 52, 0, 0, 0), some (.bipush 11, 54, 0, 0, 0), none, some (.iload_n 1, 55, 0, 0, 0), some (.iload_n 2, 56, 0, 0, 0), some (.iload_n 3, 57, 0, 0, 0), some (.iload 4, 59, 0, 0, 0), none, some (.invokevirtual 201, 62, 103, 1, 9), none, none, some (.ireturn, 63, 0, 0, 0)]

noncomputable def jt_106 : List (List (Option jm_I)) := [jt_106_0]

set_option maxRecDepth 20000 in
noncomputable def jt_107_0 : List (Option jm_I) := [some (.aload_n 0, 1, 0, 0, 0), some (.getfield 22, 4, 9, 2, 1), none, none, some (.getfield 191, 7, 2, 1, 0), none, none, some (.iconst 1, 8, 0, 0, 0), some (.if_icmp .ge 10, 11, 18, 0, 0), none, none, some (.aload_n 0, 12, 0, 0, 0), some (.bipush (-5), 14, 0, 0, 0), none, some (.invokevirtual 79, 17, 13, 1, 9), none, none, some (.ireturn, 18, 0, 0, 0), some (.aload_n 0, 19, 0, 0, 0), some (.getfield 22, 22, 9, 2, 1), none, none, some (.dup, 23, 0, 0, 0), some (.getfield 191, 26, 2, 1, 0), none, none, some (.iconst 1, 27, 0, 0, 0), some (.isub, 28, 0, 0, 0), some (.putfield 191, 31, 2, 1, 0), none, none, some (.aload_n 0, 32, 0, 0, 0), some (.getfield 34, 35, 9, 4, 1), none, none, some (.aload_n 0, 36, 0, 0, 0), some (.getfield 22, 39, 9, 2, 1), none, none, some (.getfield 191, 42, 2, 1, 0), none, none, some (.invokevirtual 205, 45, 108, 1, 4), none, none, some (.aload_n 0, 46, 0, 0, 0), some (.invokevirtual 208, 49, 109, 1, 9), none, none, some (.aload_n 0, 50, 0, 0, 0), some (.getfield 22, 53, 9, 2, 1), none, none, some (.getfield 191, 56, 2, 1, 0), none, none, some (.ireturn, 57, 0, 0, 0)]

noncomputable def jt_107 : List (List (Option jm_I)) := [jt_107_0]

set_option maxRecDepth 20000 in
noncomputable def jt_108_0 : List (Option jm_I) := [some (.aload_n 0, 1, 0, 0, 0), some (.dup, 2, 0, 0, 0), some (.getfield 41, 5, 4, 5, 0), none, none, some (.iconst 1, 6, 0, 0, 0), some (.iload_n 1, 7, 0, 0, 0), some (.ishl, 8, 0, 0, 0), some (.iconst (-1), 9, 0, 0, 0), some (.ixor, 10, 0, 0, 0), some (.iand, 11, 0, 0, 0), some (.putfield 41, 14, 4, 5, 0), none, none, some (.return_, 15, 0, 0, 0)]

noncomputable def jt_108 : List (List (Option jm_I)) := [jt_108_0]

set_option maxRecDepth 20000 in
noncomputable def jt_109_0 : List (Option jm_I) := [some (.iconst 0, 1, 0, 0, 0), some (.istore_n 1, 2, 0, 0, 0), some (.iload_n 1, 3, 0, 0, 0), some (.bipush 8, 5, 0, 0, 0), none, some (.if_icmp .ge 41, 8, 46, 0, 0), none, none, some (.aload_n 0, 9, 0, 0, 0), some (.getfield 67, 12, 9, 9, 1), none, none, some (.iload_n 1, 13, 0, 0, 0), some (.aaload, 14, 0, 0, 0), some (.getfield 98, 17, 5, 2, 0), none, none, some (.bipush 10, 19, 0, 0, 0), none, some (.aload_n 0, 20, 0, 0, 0), some (.getfield 22, 23, 9, 2, 1), none, none, some (.getfield 191, 26, 2, 1, 0), none, none, some (.iadd, 27, 0, 0, 0), some (.if_icmp .lt 13, 30, 40, 0, 0), none, none, some (.aload_n 0, 31, 0, 0, 0), some (.getfield 67, 34, 9, 9, 1), none, none, some (.iload_n 1, 35, 0, 0, 0), some (.aaload, 36, 0, 0, 0), some (.iconst (-1), 37, 0, 0, 0), some (.putfield 98, 40, 5, 2, 0), none, none, some (.iinc 1 1, 43, 0, 0, 0), none, none, some (.goto (-41), 46, 2, 0, 0), none, none, some (.return_, 47, 0, 0, 0)]

noncomputable def jt_109 : List (List (Option jm_I)) := [jt_109_0]

set_option maxRecDepth 20000 in
noncomputable def jt_110_0 : List (Option jm_I) := [some (.aload_n 0, 1, 0, 0, 0), some (.getfield 22, 4, 9, 2, 1), none, none, some (.iload_n 1, 5, 0, 0, 0), some (.invokevirtual 123, 8, 27, 1, 2), none, none, some (.ifCond .ne 10, 11, 18, 0, 0), none, none, some (.aload_n 0, 12, 0, 0, 0), some (.bipush (-2), 14, 0, 0, 0), none, some (.invokevirtual 79, 17, 13, 1, 9), none, none, some (.ireturn, 18, 0, 0, 0), some (.aload_n 0, 19, 0, 0, 0), some (.getfield 22, 22, 9, 2, 1), none, none, some (.getfield 126, 25, 2, 0, 1), none, none, some (.iload_n 1, 26, 0, 0, 0), some (.aaload, 27, 0, 0, 0), some (.astore_n 3, 28, 0, 0, 0), some (.iload_n 2, 29, 0, 0, 0), some (.tableswitch 87 0 7 #[47, 52, 57, 62, 67, 72, 77, 82], 76, 0, 0, 0), none, none, none, none, none, none, none, none, none, none, none, none, none, none, none, none, none, none, none, none, none, none, none, none, none, none, none, none, none, none, none, none, none, none]

set_option maxRecDepth 20000 in
noncomputable def jt_110_1 : List (Option jm_I) := [none, none, none, none, none, none, none, none, none, none, none, none, some (.aload_n 3, 77, 0, 0, 0), some (.getfield 130, 80, 0, 0, 0), none, none, some (.ireturn, 81, 0, 0, 0), some (.aload_n 3, 82, 0, 0, 0), some (.getfield 211, 85, 0, 1, 0), none, none, some (.ireturn, 86, 0, 0, 0), some (.aload_n 3, 87, 0, 0, 0), some (.getfield 214, 90, 0, 2, 0), none, none, some (.ireturn, 91, 0, 0, 0), some (.aload_n 3, 92, 0, 0, 0), some (.getfield 217, 95, 0, 3, 0), none, none, some (.ireturn, 96, 0, 0, 0), some (.aload_n 3, 97, 0, 0, 0), some (.getfield 220, 100, 0, 4, 0), none, none, some (.ireturn, 101, 0, 0, 0), some (.aload_n 3, 102, 0, 0, 0), some (.getfield 223, 105, 0, 7, 0), none, none, some (.ireturn, 106, 0, 0, 0), some (.aload_n 3, 107, 0, 0, 0), some (.getfield 226, 110, 0, 8, 0), none, none, some (.ireturn, 111, 0, 0, 0), some (.aload_n 3, 112, 0, 0, 0), some (.getfield 229, 115, 0, 9, 0), none, none, some (.ireturn, 116, 0, 0, 0), some (.aload_n 0, 117, 0, 0, 0), some (.bipush (-2), 119, 0, 0, 0), none, some (.invokevirtual 79, 122, 13, 1, 9), none, none, some (.ireturn, 123, 0, 0, 0)]

noncomputable def jt_110 : List (List (Option jm_I)) := [jt_110_0, jt_110_1]

set_option maxRecDepth 20000 in
noncomputable def jt_111_0 : List (Option jm_I) := [some (.aload_n 0, 1, 0, 0, 0), some (.getfield 10, 4, 9, 0, 1), none, none, some (.iload_n 1, 5, 0, 0, 0), some (.invokevirtual 161, 8, 64, 1, 8), none, none, some (.ifCond .ne 10, 11, 18, 0, 0), none, none, some (.aload_n 0, 12, 0, 0, 0), some (.bipush (-2), 14, 0, 0, 0), none, some (.invokevirtual 79, 17, 13, 1, 9), none, none, some (.ireturn, 18, 0, 0, 0), some (.iload_n 2, 19, 0, 0, 0), some (.tableswitch 82 0 4 #[33, 43, 53, 63, 73], 52, 0, 0, 0), none, none, none, none, none, none, none, none, none, none, none, none, none, none, none, none, none, none, none, none, none, none, none, none, none, none, none, none, none, none, none, none, some (.aload_n 0, 53, 0, 0, 0), some (.getfield 10, 56, 9, 0, 1), none, none, some (.getfield 164, 59, 8, 0, 1), none, none, some (.iload_n 1, 60, 0, 0, 0), some (.iaload, 61, 0, 0, 0), some (.ireturn, 62, 0, 0, 0), some (.aload_n 0, 63, 0, 0, 0), some (.getfield 10, 66, 9, 0, 1)]

set_option maxRecDepth 20000 in
noncomputable def jt_111_1 : List (Option jm_I) := [none, none, some (.getfield 231, 69, 8, 1, 1), none, none, some (.iload_n 1, 70, 0, 0, 0), some (.iaload, 71, 0, 0, 0), some (.ireturn, 72, 0, 0, 0), some (.aload_n 0, 73, 0, 0, 0), some (.getfield 10, 76, 9, 0, 1), none, none, some (.iload_n 1, 77, 0, 0, 0), some (.iconst 1, 78, 0, 0, 0), some (.invokevirtual 234, 81, 112, 1, 8), none, none, some (.ireturn, 82, 0, 0, 0), some (.aload_n 0, 83, 0, 0, 0), some (.getfield 10, 86, 9, 0, 1), none, none, some (.iload_n 1, 87, 0, 0, 0), some (.iconst 2, 88, 0, 0, 0), some (.invokevirtual 234, 91, 112, 1, 8), none, none, some (.ireturn, 92, 0, 0, 0), some (.aload_n 0, 93, 0, 0, 0), some (.getfield 10, 96, 9, 0, 1), none, none, some (.iload_n 1, 97, 0, 0, 0), some (.invokevirtual 237, 100, 36, 1, 8), none, none, some (.ireturn, 101, 0, 0, 0), some (.aload_n 0, 102, 0, 0, 0), some (.bipush (-2), 104, 0, 0, 0), none, some (.invokevirtual 79, 107, 13, 1, 9), none, none, some (.ireturn, 108, 0, 0, 0)]

noncomputable def jt_111 : List (List (Option jm_I)) := [jt_111_0, jt_111_1]

set_option maxRecDepth 20000 in
noncomputable def jt_112_0 : List (Option jm_I) := [some (.iconst 0, 1, 0, 0, 0), some (.istore_n 3, 2, 0, 0, 0), some (.iconst 0, 3, 0, 0, 0), some (.istore 4, 5, 0, 0, 0), none, some (.iload 4, 7, 0, 0, 0), none, some (.iload_n 1, 8, 0, 0, 0), some (.if_icmp .ge 28, 11, 36, 0, 0), none, none, some (.iload_n 3, 12, 0, 0, 0), some (.aload_n 0, 13, 0, 0, 0), some (.getfield 15, 16, 8, 1, 1), none, none, some (.iload 4, 18, 0, 0, 0), none, some (.iaload, 19, 0, 0, 0), some (.iload_n 2, 20, 0, 0, 0), some (.if_icmp .lt 7, 23, 27, 0, 0), none, none, some (.iconst 1, 24, 0, 0, 0), some (.goto 4, 27, 28, 0, 0), none, none, some (.iconst 0, 28, 0, 0, 0), some (.iadd, 29, 0, 0, 0), some (.istore_n 3, 30, 0, 0, 0), some (.iinc 4 1, 33, 0, 0, 0), none, none, some (.goto (-28), 36, 5, 0, 0), none, none, some (.iload_n 3, 37, 0, 0, 0), some (.ireturn, 38, 0, 0, 0)]

noncomputable def jt_112 : List (List (Option jm_I)) := [jt_112_0]

set_option maxRecDepth 20000 in
noncomputable def jt_113_0 : List (Option jm_I) := [some (.aload_n 0, 1, 0, 0, 0), some (.getfield 22, 4, 9, 2, 1), none, none, some (.iload_n 1, 5, 0, 0, 0), some (.invokevirtual 123, 8, 27, 1, 2), none, none, some (.ifCond .eq 17, 11, 25, 0, 0), none, none, some (.aload_n 0, 12, 0, 0, 0), some (.getfield 34, 15, 9, 4, 1), none, none, some (.iload_n 1, 16, 0, 0, 0), some (.invokevirtual 240, 19, 32, 1, 4), none, none, some (.getfield 244, 22, 6, 2, 0), none, none, some (.goto 9, 25, 31, 0, 0), none, none, some (.aload_n 0, 26, 0, 0, 0), some (.bipush (-2), 28, 0, 0, 0), none, some (.invokevirtual 79, 31, 13, 1, 9), none, none, some (.ireturn, 32, 0, 0, 0)]

noncomputable def jt_113 : List (List (Option jm_I)) := [jt_113_0]

set_option maxRecDepth 20000 in
noncomputable def jt_114_0 : List (Option jm_I) := [some (.aload_n 0, 1, 0, 0, 0), some (.getfield 22, 4, 9, 2, 1), none, none, some (.iload_n 1, 5, 0, 0, 0), some (.invokevirtual 123, 8, 27, 1, 2), none, none, some (.ifCond .eq 18, 11, 26, 0, 0), none, none, some (.aload_n 0, 12, 0, 0, 0), some (.getfield 34, 15, 9, 4, 1), none, none, some (.iload_n 1, 16, 0, 0, 0), some (.invokevirtual 240, 19, 32, 1, 4), none, none, some (.iload_n 2, 20, 0, 0, 0), some (.invokevirtual 245, 23, 47, 1, 6), none, none, some (.ifCond .ne 10, 26, 33, 0, 0), none, none, some (.aload_n 0, 27, 0, 0, 0), some (.bipush (-2), 29, 0, 0, 0), none, some (.invokevirtual 79, 32, 13, 1, 9), none, none, some (.ireturn, 33, 0, 0, 0), some (.aload_n 0, 34, 0, 0, 0), some (.getfield 34, 37, 9, 4, 1), none, none, some (.iload_n 1, 38, 0, 0, 0), some (.invokevirtual 240, 41, 32, 1, 4), none, none, some (.iload_n 2, 42, 0, 0, 0), some (.invokevirtual 248, 45, 115, 1, 6), none, none, some (.ireturn, 46, 0, 0, 0)]

noncomputable def jt_114 : List (List (Option jm_I)) := [jt_114_0]

set_option maxRecDepth 20000 in
noncomputable def jt_115_0 : List (Option jm_I) := [some (.bipush 100, 2, 0, 0, 0), none, some (.aload_n 0, 3, 0, 0, 0), some (.getfield 9, 6, 6, 0, 1), none, none, some (.iload_n 1, 7, 0, 0, 0), some (.iaload, 8, 0, 0, 0), some (.imul, 9, 0, 0, 0), some (.aload_n 0, 10, 0, 0, 0), some (.getfield 15, 13, 6, 1, 1), none, none, some (.iload_n 1, 14, 0, 0, 0), some (.iaload, 15, 0, 0, 0), some (.iadd, 16, 0, 0, 0), some (.ireturn, 17, 0, 0, 0)]

noncomputable def jt_115 : List (List (Option jm_I)) := [jt_115_0]

set_option maxRecDepth 20000 in
noncomputable def jt_116_0 : List (Option jm_I) := [some (.aload_n 0, 1, 0, 0, 0), some (.getfield 22, 4, 9, 2, 1), none, none, some (.iload_n 1, 5, 0, 0, 0), some (.invokevirtual 123, 8, 27, 1, 2), none, none, some (.ifCond .eq 12, 11, 20, 0, 0), none, none, some (.iload_n 3, 12, 0, 0, 0), some (.ifCond .lt 8, 15, 20, 0, 0), none, none, some (.iload_n 3, 16, 0, 0, 0), some (.iconst 3, 17, 0, 0, 0), some (.if_icmp .le 10, 20, 27, 0, 0), none, none, some (.aload_n 0, 21, 0, 0, 0), some (.bipush (-2), 23, 0, 0, 0), none, some (.invokevirtual 79, 26, 13, 1, 9), none, none, some (.ireturn, 27, 0, 0, 0), some (.aload_n 0, 28, 0, 0, 0), some (.getfield 34, 31, 9, 4, 1), none, none, some (.iload_n 1, 32, 0, 0, 0), some (.invokevirtual 240, 35, 32, 1, 4), none, none, some (.astore 4, 37, 0, 0, 0), none, some (.iconst (-1), 38, 0, 0, 0), some (.iload_n 2, 39, 0, 0, 0), some (.bipush 60, 41, 0, 0, 0), none, some (.invokestatic 251, 44, 0, 14, 0), none, none, some (.invokestatic 256, 47, 0, 13, 0), none, none, some (.istore 5, 49, 0, 0, 0), none, some (.iload_n 3, 50, 0, 0, 0), some (.tableswitch 66 0 2 #[26, 41, 54], 76, 0, 0, 0), none, none, none, none, none, none, none, none, none, none, none, none, none]

set_option maxRecDepth 20000 in
noncomputable def jt_116_1 : List (Option jm_I) := [none, none, none, none, none, none, none, none, none, none, none, none, some (.aload 4, 78, 0, 0, 0), none, some (.aload 4, 80, 0, 0, 0), none, some (.iconst 0, 81, 0, 0, 0), some (.iload 5, 83, 0, 0, 0), none, some (.i2l, 84, 0, 0, 0), some (.invokevirtual 259, 87, 45, 1, 6), none, none, some (.invokevirtual 263, 90, 117, 1, 6), none, none, some (.ireturn, 91, 0, 0, 0), some (.aload 4, 93, 0, 0, 0), none, some (.aload 4, 95, 0, 0, 0), none, some (.iload 5, 97, 0, 0, 0), none, some (.invokevirtual 266, 100, 118, 1, 6), none, none, some (.invokevirtual 263, 103, 117, 1, 6), none, none, some (.ireturn, 104, 0, 0, 0), some (.aload 4, 106, 0, 0, 0), none, some (.iload 5, 108, 0, 0, 0), none, some (.iconst 1, 109, 0, 0, 0), some (.iadd, 110, 0, 0, 0), some (.invokevirtual 266, 113, 118, 1, 6), none, none, some (.iconst 1, 114, 0, 0, 0), some (.isub, 115, 0, 0, 0), some (.ireturn, 116, 0, 0, 0), some (.aload 4, 118, 0, 0, 0), none, some (.iconst 0, 119, 0, 0, 0), some (.iload 5, 121, 0, 0, 0), none, some (.iconst 1, 122, 0, 0, 0), some (.iadd, 123, 0, 0, 0), some (.i2l, 124, 0, 0, 0), some (.invokevirtual 259, 127, 45, 1, 6), none, none, some (.iconst 1, 128, 0, 0, 0)]

set_option maxRecDepth 20000 in
noncomputable def jt_116_2 : List (Option jm_I) := [some (.isub, 129, 0, 0, 0), some (.ireturn, 130, 0, 0, 0)]

noncomputable def jt_116 : List (List (Option jm_I)) := [jt_116_0, jt_116_1, jt_116_2]

set_option maxRecDepth 20000 in
noncomputable def jt_117_0 : List (Option jm_I) := [some (.aload_n 0, 1, 0, 0, 0), some (.iload_n 1, 2, 0, 0, 0), some (.invokevirtual 28, 5, 47, 1, 6), none, none, some (.ifCond .eq 7, 8, 12, 0, 0), none, none, some (.iload_n 1, 9, 0, 0, 0), some (.goto 4, 12, 13, 0, 0), none, none, some (.iconst (-1), 13, 0, 0, 0), some (.ireturn, 14, 0, 0, 0)]

noncomputable def jt_117 : List (List (Option jm_I)) := [jt_117_0]

set_option maxRecDepth 20000 in
noncomputable def jt_118_0 : List (Option jm_I) := [some (.iconst 0, 1, 0, 0, 0), some (.istore_n 2, 2, 0, 0, 0), some (.iload_n 2, 3, 0, 0, 0), some (.aload_n 0, 4, 0, 0, 0), some (.getfield 18, 7, 6, 2, 0), none, none, some (.if_icmp .ge 19, 10, 26, 0, 0), none, none, some (.aload_n 0, 11, 0, 0, 0), some (.getfield 15, 14, 6, 1, 1), none, none, some (.iload_n 2, 15, 0, 0, 0), some (.iaload, 16, 0, 0, 0), some (.iload_n 1, 17, 0, 0, 0), some (.if_icmp .ge 9, 20, 26, 0, 0), none, none, some (.iinc 2 1, 23, 0, 0, 0), none, none, some (.goto (-21), 26, 2, 0, 0), none, none, some (.iload_n 2, 27, 0, 0, 0), some (.ireturn, 28, 0, 0, 0)]

noncomputable def jt_118 : List (List (Option jm_I)) := [jt_118_0]

noncomputable def jt_119 : List (List (Option jm_I)) := []

noncomputable def jt_120 : List (List (Option jm_I)) := []

noncomputable def jt_121 : List (List (Option jm_I)) := []

noncomputable def jt_122 : List (List (Option jm_I)) := []

set_option maxRecDepth 20000 in
noncomputable def jt_123_0 : List (Option jm_I) := [some (.aload_n 0, 1, 0, 0, 0), some (.getfield 22, 4, 9, 2, 1), none, none, some (.iload_n 1, 5, 0, 0, 0), some (.invokevirtual 123, 8, 27, 1, 2), none, none, some (.ifCond .eq 12, 11, 20, 0, 0), none, none, some (.iload_n 2, 12, 0, 0, 0), some (.ifCond .lt 8, 15, 20, 0, 0), none, none, some (.iload_n 2, 16, 0, 0, 0), some (.iconst 2, 17, 0, 0, 0), some (.if_icmp .le 10, 20, 27, 0, 0), none, none, some (.aload_n 0, 21, 0, 0, 0), some (.bipush (-2), 23, 0, 0, 0), none, some (.invokevirtual 79, 26, 13, 1, 9), none, none, some (.ireturn, 27, 0, 0, 0), some (.aload_n 0, 28, 0, 0, 0), some (.getfield 34, 31, 9, 4, 1), none, none, some (.iload_n 1, 32, 0, 0, 0), some (.invokevirtual 240, 35, 32, 1, 4), none, none, some (.astore_n 3, 36, 0, 0, 0), some (.aload_n 3, 37, 0, 0, 0), some (.getfield 244, 40, 6, 2, 0), none, none, some (.ifCond .ne 7, 43, 47, 0, 0), none, none, some (.iconst 0, 44, 0, 0, 0), some (.goto 5, 47, 49, 0, 0), none, none, some (.bipush 60, 49, 0, 0, 0), none, some (.istore 4, 51, 0, 0, 0), none, some (.iconst 0, 52, 0, 0, 0), some (.istore 5, 54, 0, 0, 0), none, some (.iconst 0, 55, 0, 0, 0), some (.istore 6, 57, 0, 0, 0), none, some (.iconst 0, 58, 0, 0, 0), some (.istore 7, 60, 0, 0, 0), none, some (.iload 7, 62, 0, 0, 0), none, some (.aload_n 3, 63, 0, 0, 0), some (.getfield 244, 66, 6, 2, 0)]

set_option maxRecDepth 20000 in
noncomputable def jt_123_1 : List (Option jm_I) := [none, none, some (.if_icmp .ge 42, 69, 108, 0, 0), none, none, some (.aload_n 3, 70, 0, 0, 0), some (.iload 7, 72, 0, 0, 0), none, some (.invokevirtual 272, 75, 41, 1, 6), none, none, some (.istore 8, 77, 0, 0, 0), none, some (.iload 4, 79, 0, 0, 0), none, some (.iload 8, 81, 0, 0, 0), none, some (.invokestatic 251, 84, 0, 14, 0), none, none, some (.istore 4, 86, 0, 0, 0), none, some (.iload 5, 88, 0, 0, 0), none, some (.iload 8, 90, 0, 0, 0), none, some (.invokestatic 256, 93, 0, 13, 0), none, none, some (.istore 5, 95, 0, 0, 0), none, some (.iload 6, 97, 0, 0, 0), none, some (.iload 8, 99, 0, 0, 0), none, some (.iadd, 100, 0, 0, 0), some (.istore 6, 102, 0, 0, 0), none, some (.iinc 7 1, 105, 0, 0, 0), none, none, some (.goto (-45), 108, 60, 0, 0), none, none, some (.iload_n 2, 109, 0, 0, 0), some (.ifCond .ne 8, 112, 117, 0, 0), none, none, some (.iload 4, 114, 0, 0, 0), none, some (.goto 15, 117, 129, 0, 0), none, none, some (.iload_n 2, 118, 0, 0, 0), some (.iconst 1, 119, 0, 0, 0), some (.if_icmp .ne 8, 122, 127, 0, 0), none, none, some (.iload 5, 124, 0, 0, 0), none, some (.goto 5, 127, 129, 0, 0), none, none, some (.iload 6, 129, 0, 0, 0)]

set_option maxRecDepth 20000 in
noncomputable def jt_123_2 : List (Option jm_I) := [none, some (.ireturn, 130, 0, 0, 0)]

noncomputable def jt_123 : List (List (Option jm_I)) := [jt_123_0, jt_123_1, jt_123_2]

set_option maxRecDepth 20000 in
noncomputable def jt_124_0 : List (Option jm_I) := [some (.aload_n 0, 1, 0, 0, 0), some (.getfield 22, 4, 9, 2, 1), none, none, some (.iload_n 1, 5, 0, 0, 0), some (.invokevirtual 123, 8, 27, 1, 2), none, none, some (.ifCond .eq 8, 11, 16, 0, 0), none, none, some (.iload_n 2, 12, 0, 0, 0), some (.iconst (-1), 13, 0, 0, 0), some (.if_icmp .ge 10, 16, 23, 0, 0), none, none, some (.aload_n 0, 17, 0, 0, 0), some (.bipush (-2), 19, 0, 0, 0), none, some (.invokevirtual 79, 22, 13, 1, 9), none, none, some (.ireturn, 23, 0, 0, 0), some (.aload_n 0, 24, 0, 0, 0), some (.getfield 34, 27, 9, 4, 1), none, none, some (.iload_n 1, 28, 0, 0, 0), some (.invokevirtual 240, 31, 32, 1, 4), none, none, some (.astore_n 3, 32, 0, 0, 0), some (.iload_n 2, 33, 0, 0, 0), some (.iconst (-1), 34, 0, 0, 0), some (.if_icmp .ne 8, 37, 42, 0, 0), none, none, some (.aload_n 3, 38, 0, 0, 0), some (.invokevirtual 275, 41, 125, 1, 6), none, none, some (.ireturn, 42, 0, 0, 0), some (.aload_n 3, 43, 0, 0, 0), some (.iload_n 2, 44, 0, 0, 0), some (.invokevirtual 278, 47, 126, 1, 6), none, none, some (.istore 4, 49, 0, 0, 0), none, some (.iload 4, 51, 0, 0, 0), none, some (.iconst (-1), 52, 0, 0, 0), some (.if_icmp .ne 12, 55, 64, 0, 0), none, none, some (.aload_n 0, 56, 0, 0, 0), some (.bipush (-2), 58, 0, 0, 0), none, some (.invokevirtual 79, 61, 13, 1, 9), none, none, some (.goto 5, 64, 66, 0, 0), none, none]

set_option maxRecDepth 20000 in
noncomputable def jt_124_1 : List (Option jm_I) := [some (.iload 4, 66, 0, 0, 0), none, some (.ireturn, 67, 0, 0, 0)]

noncomputable def jt_124 : List (List (Option jm_I)) := [jt_124_0, jt_124_1]

set_option maxRecDepth 20000 in
noncomputable def jt_125_0 : List (Option jm_I) := [some (.iconst 0, 1, 0, 0, 0), some (.istore_n 1, 2, 0, 0, 0), some (.iconst (-1), 3, 0, 0, 0), some (.istore_n 2, 4, 0, 0, 0), some (.iconst 0, 5, 0, 0, 0), some (.istore_n 3, 6, 0, 0, 0), some (.iload_n 3, 7, 0, 0, 0), some (.aload_n 0, 8, 0, 0, 0), some (.getfield 18, 11, 6, 2, 0), none, none, some (.if_icmp .ge 29, 14, 40, 0, 0), none, none, some (.aload_n 0, 15, 0, 0, 0), some (.getfield 9, 18, 6, 0, 1), none, none, some (.iload_n 3, 19, 0, 0, 0), some (.iaload, 20, 0, 0, 0), some (.iload_n 2, 21, 0, 0, 0), some (.if_icmp .le 13, 24, 34, 0, 0), none, none, some (.iinc 1 1, 27, 0, 0, 0), none, none, some (.aload_n 0, 28, 0, 0, 0), some (.getfield 15, 31, 6, 1, 1), none, none, some (.iload_n 3, 32, 0, 0, 0), some (.iaload, 33, 0, 0, 0), some (.istore_n 2, 34, 0, 0, 0), some (.iinc 3 1, 37, 0, 0, 0), none, none, some (.goto (-31), 40, 6, 0, 0), none, none, some (.iload_n 1, 41, 0, 0, 0), some (.ireturn, 42, 0, 0, 0)]

noncomputable def jt_125 : List (List (Option jm_I)) := [jt_125_0]

set_option maxRecDepth 20000 in
noncomputable def jt_126_0 : List (Option jm_I) := [some (.iconst 0, 1, 0, 0, 0), some (.istore_n 2, 2, 0, 0, 0), some (.iconst (-1), 3, 0, 0, 0), some (.istore_n 3, 4, 0, 0, 0), some (.iconst 0, 5, 0, 0, 0), some (.istore 4, 7, 0, 0, 0), none, some (.iload 4, 9, 0, 0, 0), none, some (.aload_n 0, 10, 0, 0, 0), some (.getfield 18, 13, 6, 2, 0), none, none, some (.if_icmp .ge 39, 16, 52, 0, 0), none, none, some (.aload_n 0, 17, 0, 0, 0), some (.getfield 9, 20, 6, 0, 1), none, none, some (.iload 4, 22, 0, 0, 0), none, some (.iaload, 23, 0, 0, 0), some (.iload_n 3, 24, 0, 0, 0), some (.if_icmp .le 22, 27, 46, 0, 0), none, none, some (.iload_n 2, 28, 0, 0, 0), some (.iload_n 1, 29, 0, 0, 0), some (.if_icmp .ne 6, 32, 35, 0, 0), none, none, some (.iload 4, 34, 0, 0, 0), none, some (.ireturn, 35, 0, 0, 0), some (.iinc 2 1, 38, 0, 0, 0), none, none, some (.aload_n 0, 39, 0, 0, 0), some (.getfield 15, 42, 6, 1, 1), none, none, some (.iload 4, 44, 0, 0, 0), none, some (.iaload, 45, 0, 0, 0), some (.istore_n 3, 46, 0, 0, 0), some (.iinc 4 1, 49, 0, 0, 0), none, none, some (.goto (-42), 52, 7, 0, 0), none, none, some (.iconst (-1), 53, 0, 0, 0), some (.ireturn, 54, 0, 0, 0)]

noncomputable def jt_126 : List (List (Option jm_I)) := [jt_126_0]

set_option maxRecDepth 20000 in
noncomputable def jt_127_0 : List (Option jm_I) := [some (.aload_n 0, 1, 0, 0, 0), some (.getfield 22, 4, 9, 2, 1), none, none, some (.iload_n 1, 5, 0, 0, 0), some (.invokevirtual 123, 8, 27, 1, 2), none, none, some (.ifCond .eq 8, 11, 16, 0, 0), none, none, some (.iload_n 2, 12, 0, 0, 0), some (.iconst (-1), 13, 0, 0, 0), some (.if_icmp .ge 10, 16, 23, 0, 0), none, none, some (.aload_n 0, 17, 0, 0, 0), some (.bipush (-2), 19, 0, 0, 0), none, some (.invokevirtual 79, 22, 13, 1, 9), none, none, some (.ireturn, 23, 0, 0, 0), some (.aload_n 0, 24, 0, 0, 0), some (.getfield 34, 27, 9, 4, 1), none, none, some (.iload_n 1, 28, 0, 0, 0), some (.invokevirtual 240, 31, 32, 1, 4), none, none, some (.astore_n 3, 32, 0, 0, 0), some (.iload_n 2, 33, 0, 0, 0), some (.iconst (-1), 34, 0, 0, 0), some (.if_icmp .ne 8, 37, 42, 0, 0), none, none, some (.aload_n 3, 38, 0, 0, 0), some (.invokevirtual 275, 41, 125, 1, 6), none, none, some (.ireturn, 42, 0, 0, 0), some (.aload_n 3, 43, 0, 0, 0), some (.iload_n 2, 44, 0, 0, 0), some (.invokevirtual 278, 47, 126, 1, 6), none, none, some (.istore 4, 49, 0, 0, 0), none, some (.iload 4, 51, 0, 0, 0), none, some (.iconst (-1), 52, 0, 0, 0), some (.if_icmp .ne 12, 55, 64, 0, 0), none, none, some (.aload_n 0, 56, 0, 0, 0), some (.bipush (-2), 58, 0, 0, 0), none, some (.invokevirtual 79, 61, 13, 1, 9), none, none, some (.goto 9, 64, 70, 0, 0), none, none]

set_option maxRecDepth 20000 in
noncomputable def jt_127_1 : List (Option jm_I) := [some (.aload_n 3, 65, 0, 0, 0), some (.iload 4, 67, 0, 0, 0), none, some (.invokevirtual 281, 70, 46, 1, 6), none, none, some (.ireturn, 71, 0, 0, 0)]

noncomputable def jt_127 : List (List (Option jm_I)) := [jt_127_0, jt_127_1]

noncomputable def jt_128 : List (List (Option jm_I)) := []

set_option maxRecDepth 20000 in
noncomputable def jt_129_0 : List (Option jm_I) := [some (.aload_n 0, 1, 0, 0, 0), some (.getfield 31, 4, 8, 3, 0), none, none, some (.ifCond .ne 7, 7, 11, 0, 0), none, none, some (.iconst 0, 8, 0, 0, 0), some (.goto 16, 11, 24, 0, 0), none, none, some (.aload_n 0, 12, 0, 0, 0), some (.aload_n 0, 13, 0, 0, 0), some (.getfield 31, 16, 8, 3, 0), none, none, some (.iconst 1, 17, 0, 0, 0), some (.isub, 18, 0, 0, 0), some (.iload_n 1, 19, 0, 0, 0), some (.invokevirtual 34, 22, 112, 1, 8), none, none, some (.iconst 1, 23, 0, 0, 0), some (.iadd, 24, 0, 0, 0), some (.ireturn, 25, 0, 0, 0)]

noncomputable def jt_129 : List (List (Option jm_I)) := [jt_129_0]

noncomputable def jt_130 : List (List (Option jm_I)) := []

noncomputable def jt_131 : List (List (Option jm_I)) := []

noncomputable def jt_132 : List (List (Option jm_I)) := []

noncomputable def jt_133 : List (List (Option jm_I)) := []

noncomputable def jt_134 : List (List (Option jm_I)) := []

noncomputable def jt_135 : List (List (Option jm_I)) := []

set_option maxRecDepth 20000 in
noncomputable def jt_136_0 : List (Option jm_I) := [some (.aload_n 0, 1, 0, 0, 0), some (.getfield 22, 4, 9, 2, 1), none, none, some (.iload_n 1, 5, 0, 0, 0), some (.invokevirtual 123, 8, 27, 1, 2), none, none, some (.ifCond .eq 23, 11, 31, 0, 0), none, none, some (.aload_n 0, 12, 0, 0, 0), some (.getfield 22, 15, 9, 2, 1), none, none, some (.iload_n 2, 16, 0, 0, 0), some (.invokevirtual 123, 19, 27, 1, 2), none, none, some (.ifCond .eq 12, 22, 31, 0, 0), none, none, some (.iload_n 3, 23, 0, 0, 0), some (.ifCond .lt 8, 26, 31, 0, 0), none, none, some (.iload_n 3, 27, 0, 0, 0), some (.iconst 2, 28, 0, 0, 0), some (.if_icmp .le 10, 31, 38, 0, 0), none, none, some (.aload_n 0, 32, 0, 0, 0), some (.bipush (-2), 34, 0, 0, 0), none, some (.invokevirtual 79, 37, 13, 1, 9), none, none, some (.ireturn, 38, 0, 0, 0), some (.aload_n 0, 39, 0, 0, 0), some (.getfield 34, 42, 9, 4, 1), none, none, some (.iload_n 1, 43, 0, 0, 0), some (.invokevirtual 240, 46, 32, 1, 4), none, none, some (.astore 4, 48, 0, 0, 0), none, some (.aload_n 0, 49, 0, 0, 0), some (.getfield 34, 52, 9, 4, 1), none, none, some (.iload_n 2, 53, 0, 0, 0), some (.invokevirtual 240, 56, 32, 1, 4), none, none, some (.astore 5, 58, 0, 0, 0), none, some (.iload_n 3, 59, 0, 0, 0), some (.iconst 2, 60, 0, 0, 0), some (.if_icmp .ne 11, 63, 71, 0, 0), none, none, some (.aload 4, 65, 0, 0, 0)]

set_option maxRecDepth 20000 in
noncomputable def jt_136_1 : List (Option jm_I) := [none, some (.aload 5, 67, 0, 0, 0), none, some (.invokevirtual 307, 70, 137, 1, 6), none, none, some (.ireturn, 71, 0, 0, 0), some (.aload_n 0, 72, 0, 0, 0), some (.getfield 34, 75, 9, 4, 1), none, none, some (.iload_n 3, 76, 0, 0, 0), some (.ifCond .ne 7, 79, 83, 0, 0), none, none, some (.iconst 5, 80, 0, 0, 0), some (.goto 5, 83, 85, 0, 0), none, none, some (.bipush 7, 85, 0, 0, 0), none, some (.aload 4, 87, 0, 0, 0), none, some (.aload 5, 89, 0, 0, 0), none, some (.aload_n 0, 90, 0, 0, 0), some (.getfield 41, 93, 9, 5, 1), none, none, some (.invokevirtual 311, 96, 53, 1, 4), none, none, some (.aload_n 0, 97, 0, 0, 0), some (.getfield 41, 100, 9, 5, 1), none, none, some (.getfield 244, 103, 6, 2, 0), none, none, some (.ireturn, 104, 0, 0, 0)]

noncomputable def jt_136 : List (List (Option jm_I)) := [jt_136_0, jt_136_1]

set_option maxRecDepth 20000 in
noncomputable def jt_137_0 : List (Option jm_I) := [some (.iconst 0, 1, 0, 0, 0), some (.istore_n 2, 2, 0, 0, 0), some (.iconst 0, 3, 0, 0, 0), some (.istore_n 3, 4, 0, 0, 0), some (.iconst 0, 5, 0, 0, 0), some (.istore 4, 7, 0, 0, 0), none, some (.iload 4, 9, 0, 0, 0), none, some (.aload_n 0, 10, 0, 0, 0), some (.getfield 18, 13, 6, 2, 0), none, none, some (.if_icmp .ge 48, 16, 61, 0, 0), none, none, some (.aload_n 1, 17, 0, 0, 0), some (.iload_n 3, 18, 0, 0, 0), some (.aload_n 0, 19, 0, 0, 0), some (.getfield 9, 22, 6, 0, 1), none, none, some (.iload 4, 24, 0, 0, 0), none, some (.iaload, 25, 0, 0, 0), some (.i2l, 26, 0, 0, 0), some (.invokevirtual 32, 29, 45, 1, 6), none, none, some (.istore_n 3, 30, 0, 0, 0), some (.aload_n 1, 31, 0, 0, 0), some (.iload_n 3, 32, 0, 0, 0), some (.invokevirtual 28, 35, 47, 1, 6), none, none, some (.ifCond .eq 20, 38, 55, 0, 0), none, none, some (.aload_n 0, 39, 0, 0, 0), some (.iload 4, 41, 0, 0, 0), none, some (.invokevirtual 49, 44, 115, 1, 6), none, none, some (.aload_n 1, 45, 0, 0, 0), some (.iload_n 3, 46, 0, 0, 0), some (.invokevirtual 49, 49, 115, 1, 6), none, none, some (.if_icmp .ne 6, 52, 55, 0, 0), none, none, some (.iinc 2 1, 55, 0, 0, 0), none, none, some (.iinc 4 1, 58, 0, 0, 0), none, none, some (.goto (-51), 61, 7, 0, 0), none, none, some (.iload_n 2, 62, 0, 0, 0), some (.ireturn, 63, 0, 0, 0)]

noncomputable def jt_137 : List (List (Option jm_I)) := [jt_137_0]

set_option maxRecDepth 20000 in
noncomputable def jt_138_0 : List (Option jm_I) := [some (.aload_n 0, 1, 0, 0, 0), some (.getfield 22, 4, 9, 2, 1), none, none, some (.iload_n 1, 5, 0, 0, 0), some (.invokevirtual 123, 8, 27, 1, 2), none, none, some (.ifCond .eq 14, 11, 22, 0, 0), none, none, some (.aload_n 0, 12, 0, 0, 0), some (.getfield 22, 15, 9, 2, 1), none, none, some (.iload_n 2, 16, 0, 0, 0), some (.invokevirtual 123, 19, 27, 1, 2), none, none, some (.ifCond .ne 10, 22, 29, 0, 0), none, none, some (.aload_n 0, 23, 0, 0, 0), some (.bipush (-2), 25, 0, 0, 0), none, some (.invokevirtual 79, 28, 13, 1, 9), none, none, some (.ireturn, 29, 0, 0, 0), some (.aload_n 0, 30, 0, 0, 0), some (.getfield 34, 33, 9, 4, 1), none, none, some (.iload_n 1, 34, 0, 0, 0), some (.invokevirtual 240, 37, 32, 1, 4), none, none, some (.aload_n 0, 38, 0, 0, 0), some (.getfield 34, 41, 9, 4, 1), none, none, some (.iload_n 2, 42, 0, 0, 0), some (.invokevirtual 240, 45, 32, 1, 4), none, none, some (.invokevirtual 315, 48, 139, 1, 6), none, none, some (.ireturn, 49, 0, 0, 0)]

noncomputable def jt_138 : List (List (Option jm_I)) := [jt_138_0]

set_option maxRecDepth 20000 in
noncomputable def jt_139_0 : List (Option jm_I) := [some (.aload_n 0, 1, 0, 0, 0), some (.getfield 18, 4, 6, 2, 0), none, none, some (.aload_n 1, 5, 0, 0, 0), some (.getfield 18, 8, 6, 2, 0), none, none, some (.invokestatic 46, 11, 0, 14, 0), none, none, some (.istore_n 2, 12, 0, 0, 0), some (.iconst 0, 13, 0, 0, 0), some (.istore_n 3, 14, 0, 0, 0), some (.iload_n 3, 15, 0, 0, 0), some (.iload_n 2, 16, 0, 0, 0), some (.if_icmp .ge 24, 19, 40, 0, 0), none, none, some (.aload_n 0, 20, 0, 0, 0), some (.iload_n 3, 21, 0, 0, 0), some (.invokevirtual 49, 24, 115, 1, 6), none, none, some (.aload_n 1, 25, 0, 0, 0), some (.iload_n 3, 26, 0, 0, 0), some (.invokevirtual 49, 29, 115, 1, 6), none, none, some (.if_icmp .eq 5, 32, 34, 0, 0), none, none, some (.iload_n 3, 33, 0, 0, 0), some (.ireturn, 34, 0, 0, 0), some (.iinc 3 1, 37, 0, 0, 0), none, none, some (.goto (-23), 40, 14, 0, 0), none, none, some (.aload_n 0, 41, 0, 0, 0), some (.getfield 18, 44, 6, 2, 0), none, none, some (.aload_n 1, 45, 0, 0, 0), some (.getfield 18, 48, 6, 2, 0), none, none, some (.if_icmp .ne 7, 51, 55, 0, 0), none, none, some (.iconst (-1), 52, 0, 0, 0), some (.goto 4, 55, 56, 0, 0), none, none, some (.iload_n 2, 56, 0, 0, 0), some (.ireturn, 57, 0, 0, 0)]

noncomputable def jt_139 : List (List (Option jm_I)) := [jt_139_0]

noncomputable def jt_140 : List (List (Option jm_I)) := []

set_option maxRecDepth 20000 in
noncomputable def jt_141_0 : List (Option jm_I) := [some (.aload_n 0, 1, 0, 0, 0), some (.getfield 22, 4, 9, 2, 1), none, none, some (.iload_n 1, 5, 0, 0, 0), some (.invokevirtual 123, 8, 27, 1, 2), none, none, some (.ifCond .ne 10, 11, 18, 0, 0), none, none, some (.aload_n 0, 12, 0, 0, 0), some (.bipush (-2), 14, 0, 0, 0), none, some (.invokevirtual 79, 17, 13, 1, 9), none, none, some (.ireturn, 18, 0, 0, 0), some (.aload_n 0, 19, 0, 0, 0), some (.getfield 34, 22, 9, 4, 1), none, none, some (.iload_n 1, 23, 0, 0, 0), some (.invokevirtual 240, 26, 32, 1, 4), none, none, some (.astore_n 2, 27, 0, 0, 0), some (.iconst 0, 28, 0, 0, 0), some (.istore_n 3, 29, 0, 0, 0), some (.iconst 0, 30, 0, 0, 0), some (.istore 4, 32, 0, 0, 0), none, some (.iload 4, 34, 0, 0, 0), none, some (.aload_n 0, 35, 0, 0, 0), some (.getfield 22, 38, 9, 2, 1), none, none, some (.getfield 191, 41, 2, 1, 0), none, none, some (.if_icmp .ge 57, 44, 98, 0, 0), none, none, some (.aload_n 0, 45, 0, 0, 0), some (.getfield 34, 48, 9, 4, 1), none, none, some (.iload 4, 50, 0, 0, 0), none, some (.invokevirtual 240, 53, 32, 1, 4), none, none, some (.astore 5, 55, 0, 0, 0), none, some (.aload_n 0, 56, 0, 0, 0), some (.getfield 34, 59, 9, 4, 1), none, none, some (.iconst 5, 60, 0, 0, 0), some (.aload 5, 62, 0, 0, 0), none, some (.aload_n 2, 63, 0, 0, 0), some (.aload_n 0, 64, 0, 0, 0)]

set_option maxRecDepth 20000 in
noncomputable def jt_141_1 : List (Option jm_I) := [some (.getfield 41, 67, 9, 5, 1), none, none, some (.invokevirtual 311, 70, 53, 1, 4), none, none, some (.aload_n 0, 71, 0, 0, 0), some (.getfield 41, 74, 9, 5, 1), none, none, some (.getfield 244, 77, 6, 2, 0), none, none, some (.aload 5, 79, 0, 0, 0), none, some (.getfield 244, 82, 6, 2, 0), none, none, some (.if_icmp .ne 10, 85, 92, 0, 0), none, none, some (.iload_n 3, 86, 0, 0, 0), some (.iconst 1, 87, 0, 0, 0), some (.iload 4, 89, 0, 0, 0), none, some (.ishl, 90, 0, 0, 0), some (.ior, 91, 0, 0, 0), some (.istore_n 3, 92, 0, 0, 0), some (.iinc 4 1, 95, 0, 0, 0), none, none, some (.goto (-63), 98, 32, 0, 0), none, none, some (.iload_n 3, 99, 0, 0, 0), some (.ireturn, 100, 0, 0, 0)]

noncomputable def jt_141 : List (List (Option jm_I)) := [jt_141_0, jt_141_1]

noncomputable def jt_142 : List (List (Option jm_I)) := []

noncomputable def jt_143 : List (List (Option jm_I)) := []

noncomputable def jt_144 : List (List (Option jm_I)) := []

noncomputable def jt_145 : List (List (Option jm_I)) := []

noncomputable def jt_146 : List (List (Option jm_I)) := []

noncomputable def jt_147 : List (List (Option jm_I)) := []

set_option maxRecDepth 20000 in
noncomputable def jt_148_0 : List (Option jm_I) := [some (.aload_n 0, 1, 0, 0, 0), some (.iconst 0, 2, 0, 0, 0), some (.iconst 2, 3, 0, 0, 0), some (.iload_n 2, 4, 0, 0, 0), some (.imul, 5, 0, 0, 0), some (.invokevirtual 28, 8, 23, 1, 5), none, none, some (.ifCond .ne 5, 11, 13, 0, 0), none, none, some (.iconst 0, 12, 0, 0, 0), some (.ireturn, 13, 0, 0, 0), some (.iconst 0, 14, 0, 0, 0), some (.istore_n 3, 15, 0, 0, 0), some (.iload_n 3, 16, 0, 0, 0), some (.iload_n 2, 17, 0, 0, 0), some (.if_icmp .ge 71, 20, 88, 0, 0), none, none, some (.aload_n 1, 21, 0, 0, 0), some (.iload_n 3, 22, 0, 0, 0), some (.invokevirtual 32, 25, 47, 1, 6), none, none, some (.ifCond .eq 47, 28, 72, 0, 0), none, none, some (.aload_n 1, 29, 0, 0, 0), some (.getfield 38, 32, 6, 0, 1), none, none, some (.iload_n 3, 33, 0, 0, 0), some (.iaload, 34, 0, 0, 0), some (.i2l, 35, 0, 0, 0), some (.aload_n 0, 36, 0, 0, 0), some (.getfield 9, 39, 5, 0, 1), none, none, some (.iconst 2, 40, 0, 0, 0), some (.iload_n 3, 41, 0, 0, 0), some (.imul, 42, 0, 0, 0), some (.laload, 43, 0, 0, 0), some (.lcmp, 44, 0, 0, 0), some (.ifCond .ne 28, 47, 72, 0, 0), none, none, some (.aload_n 1, 48, 0, 0, 0), some (.getfield 42, 51, 6, 1, 1), none, none, some (.iload_n 3, 52, 0, 0, 0), some (.iaload, 53, 0, 0, 0), some (.i2l, 54, 0, 0, 0), some (.aload_n 0, 55, 0, 0, 0), some (.getfield 9, 58, 5, 0, 1), none, none, some (.iconst 2, 59, 0, 0, 0), some (.iload_n 3, 60, 0, 0, 0), some (.imul, 61, 0, 0, 0), some (.iconst 1, 62, 0, 0, 0), some (.iadd, 63, 0, 0, 0), some (.laload, 64, 0, 0, 0)]

set_option maxRecDepth 20000 in
noncomputable def jt_148_1 : List (Option jm_I) := [some (.lcmp, 65, 0, 0, 0), some (.ifCond .ne 7, 68, 72, 0, 0), none, none, some (.iconst 1, 69, 0, 0, 0), some (.goto 4, 72, 73, 0, 0), none, none, some (.iconst 0, 73, 0, 0, 0), some (.istore 4, 75, 0, 0, 0), none, some (.iload 4, 77, 0, 0, 0), none, some (.ifCond .ne 5, 80, 82, 0, 0), none, none, some (.iload_n 3, 81, 0, 0, 0), some (.ireturn, 82, 0, 0, 0), some (.iinc 3 1, 85, 0, 0, 0), none, none, some (.goto (-70), 88, 15, 0, 0), none, none, some (.aload_n 1, 89, 0, 0, 0), some (.getfield 45, 92, 6, 2, 0), none, none, some (.iload_n 2, 93, 0, 0, 0), some (.if_icmp .le 7, 96, 100, 0, 0), none, none, some (.iload_n 2, 97, 0, 0, 0), some (.goto 4, 100, 101, 0, 0), none, none, some (.iconst (-1), 101, 0, 0, 0), some (.ireturn, 102, 0, 0, 0)]

noncomputable def jt_148 : List (List (Option jm_I)) := [jt_148_0, jt_148_1]

set_option maxRecDepth 20000 in
noncomputable def jt_149_0 : List (Option jm_I) := [some (.aload_n 0, 1, 0, 0, 0), some (.getfield 22, 4, 9, 2, 1), none, none, some (.iload_n 1, 5, 0, 0, 0), some (.invokevirtual 123, 8, 27, 1, 2), none, none, some (.ifCond .eq 13, 11, 21, 0, 0), none, none, some (.iload_n 3, 12, 0, 0, 0), some (.ifCond .lt 9, 15, 21, 0, 0), none, none, some (.iload_n 3, 16, 0, 0, 0), some (.bipush 20, 18, 0, 0, 0), none, some (.if_icmp .le 10, 21, 28, 0, 0), none, none, some (.aload_n 0, 22, 0, 0, 0), some (.bipush (-2), 24, 0, 0, 0), none, some (.invokevirtual 79, 27, 13, 1, 9), none, none, some (.ireturn, 28, 0, 0, 0), some (.aload_n 0, 29, 0, 0, 0), some (.iload_n 2, 30, 0, 0, 0), some (.iconst 2, 31, 0, 0, 0), some (.iload_n 3, 32, 0, 0, 0), some (.imul, 33, 0, 0, 0), some (.invokevirtual 87, 36, 17, 1, 9), none, none, some (.istore 4, 38, 0, 0, 0), none, some (.iload 4, 40, 0, 0, 0), none, some (.ifCond .eq 10, 43, 50, 0, 0), none, none, some (.aload_n 0, 44, 0, 0, 0), some (.iload 4, 46, 0, 0, 0), none, some (.invokevirtual 79, 49, 13, 1, 9), none, none, some (.ireturn, 50, 0, 0, 0), some (.aload_n 0, 51, 0, 0, 0), some (.getfield 67, 54, 9, 9, 1), none, none, some (.iload_n 2, 55, 0, 0, 0), some (.aaload, 56, 0, 0, 0), some (.aload_n 0, 57, 0, 0, 0), some (.getfield 34, 60, 9, 4, 1), none, none, some (.iload_n 1, 61, 0, 0, 0), some (.invokevirtual 240, 64, 32, 1, 4), none, none]

set_option maxRecDepth 20000 in
noncomputable def jt_149_1 : List (Option jm_I) := [some (.iload_n 3, 65, 0, 0, 0), some (.invokevirtual 324, 68, 148, 1, 5), none, none, some (.ireturn, 69, 0, 0, 0)]

noncomputable def jt_149 : List (List (Option jm_I)) := [jt_149_0, jt_149_1]

noncomputable def jt_150 : List (List (Option jm_I)) := []

noncomputable def jt_151 : List (List (Option jm_I)) := []

noncomputable def jt_152 : List (List (Option jm_I)) := []

set_option maxRecDepth 20000 in
noncomputable def jt_153_0 : List (Option jm_I) := [some (.iload_n 1, 1, 0, 0, 0), some (.iconst 1, 2, 0, 0, 0), some (.if_icmp .lt 9, 5, 11, 0, 0), none, none, some (.iload_n 1, 6, 0, 0, 0), some (.bipush 60, 8, 0, 0, 0), none, some (.if_icmp .le 10, 11, 18, 0, 0), none, none, some (.aload_n 0, 12, 0, 0, 0), some (.bipush (-2), 14, 0, 0, 0), none, some (.invokevirtual 79, 17, 13, 1, 9), none, none, some (.ireturn, 18, 0, 0, 0), some (.iconst 0, 19, 0, 0, 0), some (.istore_n 2, 20, 0, 0, 0), some (.iload_n 2, 21, 0, 0, 0), some (.iload_n 1, 22, 0, 0, 0), some (.if_icmp .ge 16, 25, 38, 0, 0), none, none, some (.aload_n 0, 26, 0, 0, 0), some (.getfield 10, 29, 9, 0, 1), none, none, some (.invokevirtual 331, 32, 154, 1, 8), none, none, some (.iinc 2 1, 35, 0, 0, 0), none, none, some (.goto (-15), 38, 20, 0, 0), none, none, some (.aload_n 0, 39, 0, 0, 0), some (.getfield 34, 42, 9, 4, 1), none, none, some (.invokevirtual 151, 45, 59, 1, 4), none, none, some (.aload_n 0, 46, 0, 0, 0), some (.getfield 10, 49, 9, 0, 1), none, none, some (.getfield 144, 52, 8, 3, 0), none, none, some (.ireturn, 53, 0, 0, 0)]

noncomputable def jt_153 : List (List (Option jm_I)) := [jt_153_0]

set_option maxRecDepth 20000 in
noncomputable def jt_154_0 : List (Option jm_I) := [some (.aload_n 0, 1, 0, 0, 0), some (.bipush 16, 3, 0, 0, 0), none, some (.invokevirtual 52, 6, 155, 1, 8), none, none, some (.istore_n 1, 7, 0, 0, 0), some (.aload_n 0, 8, 0, 0, 0), some (.getfield 31, 11, 8, 3, 0), none, none, some (.bipush 60, 13, 0, 0, 0), none, some (.if_icmp .ge 11, 16, 24, 0, 0), none, none, some (.aload_n 0, 17, 0, 0, 0), some (.iload_n 1, 18, 0, 0, 0), some (.invokevirtual 55, 21, 58, 1, 8), none, none, some (.goto 15, 24, 36, 0, 0), none, none, some (.aload_n 0, 25, 0, 0, 0), some (.getfield 9, 28, 8, 0, 1), none, none, some (.aload_n 0, 29, 0, 0, 0), some (.bipush 60, 31, 0, 0, 0), none, some (.invokevirtual 52, 34, 155, 1, 8), none, none, some (.iload_n 1, 35, 0, 0, 0), some (.iastore, 36, 0, 0, 0), some (.aload_n 0, 37, 0, 0, 0), some (.bipush 8, 39, 0, 0, 0), none, some (.invokevirtual 52, 42, 155, 1, 8), none, none, some (.istore_n 2, 43, 0, 0, 0), some (.iload_n 2, 44, 0, 0, 0), some (.ifCond .ne 11, 47, 55, 0, 0), none, none, some (.aload_n 0, 48, 0, 0, 0), some (.iconst 2, 49, 0, 0, 0), some (.invokevirtual 59, 52, 62, 1, 8), none, none, some (.goto 20, 55, 72, 0, 0), none, none, some (.iload_n 2, 56, 0, 0, 0), some (.iconst 2, 57, 0, 0, 0), some (.if_icmp .gt 15, 60, 72, 0, 0), none, none, some (.aload_n 0, 61, 0, 0, 0), some (.invokevirtual 62, 64, 61, 1, 8), none, none]

set_option maxRecDepth 20000 in
noncomputable def jt_154_1 : List (Option jm_I) := [some (.ifCond .ne 8, 67, 72, 0, 0), none, none, some (.aload_n 0, 68, 0, 0, 0), some (.iconst 1, 69, 0, 0, 0), some (.invokevirtual 59, 72, 62, 1, 8), none, none, some (.return_, 73, 0, 0, 0)]

noncomputable def jt_154 : List (List (Option jm_I)) := [jt_154_0, jt_154_1]

set_option maxRecDepth 20000 in
noncomputable def jt_155_0 : List (Option jm_I) := [some (.aload_n 0, 1, 0, 0, 0), some (.aload_n 0, 2, 0, 0, 0), some (.getfield 21, 5, 8, 4, 0), none, none, some (.ldc 51, 7, 0, 0, 1103515245), none, some (.imul, 8, 0, 0, 0), some (.sipush 12345, 11, 0, 0, 0), none, none, some (.iadd, 12, 0, 0, 0), some (.putfield 21, 15, 8, 4, 0), none, none, some (.iload_n 1, 16, 0, 0, 0), some (.ifCond .le 15, 19, 31, 0, 0), none, none, some (.aload_n 0, 20, 0, 0, 0), some (.getfield 21, 23, 8, 4, 0), none, none, some (.bipush 16, 25, 0, 0, 0), none, some (.iushr, 26, 0, 0, 0), some (.iload_n 1, 27, 0, 0, 0), some (.irem, 28, 0, 0, 0), some (.goto 4, 31, 32, 0, 0), none, none, some (.iconst 0, 32, 0, 0, 0), some (.ireturn, 33, 0, 0, 0)]

noncomputable def jt_155 : List (List (Option jm_I)) := [jt_155_0]

noncomputable def jt_156 : List (List (Option jm_I)) := []

set_option maxRecDepth 20000 in
noncomputable def jt_157_0 : List (Option jm_I) := [some (.aload_n 0, 1, 0, 0, 0), some (.getfield 16, 4, 9, 1, 1), none, none, some (.aload_n 0, 5, 0, 0, 0), some (.getfield 10, 8, 9, 0, 1), none, none, some (.invokevirtual 337, 11, 158, 1, 8), none, none, some (.aload_n 0, 12, 0, 0, 0), some (.getfield 26, 15, 9, 3, 1), none, none, some (.aload_n 0, 16, 0, 0, 0), some (.getfield 22, 19, 9, 2, 1), none, none, some (.invokevirtual 339, 22, 159, 1, 2), none, none, some (.aload_n 0, 23, 0, 0, 0), some (.iconst 1, 24, 0, 0, 0), some (.putfield 342, 27, 9, 11, 2), none, none, some (.iconst 1, 28, 0, 0, 0), some (.ireturn, 29, 0, 0, 0)]

noncomputable def jt_157 : List (List (Option jm_I)) := [jt_157_0]

set_option maxRecDepth 20000 in
noncomputable def jt_158_0 : List (Option jm_I) := [some (.aload_n 1, 1, 0, 0, 0), some (.getfield 9, 4, 8, 0, 1), none, none, some (.iconst 0, 5, 0, 0, 0), some (.aload_n 0, 6, 0, 0, 0), some (.getfield 9, 9, 8, 0, 1), none, none, some (.iconst 0, 10, 0, 0, 0), some (.bipush 60, 12, 0, 0, 0), none, some (.invokestatic 25, 15, 0, 12, 0), none, none, some (.aload_n 1, 16, 0, 0, 0), some (.getfield 15, 19, 8, 1, 1), none, none, some (.iconst 0, 20, 0, 0, 0), some (.aload_n 0, 21, 0, 0, 0), some (.getfield 15, 24, 8, 1, 1), none, none, some (.iconst 0, 25, 0, 0, 0), some (.bipush 60, 27, 0, 0, 0), none, some (.invokestatic 25, 30, 0, 12, 0), none, none, some (.aload_n 1, 31, 0, 0, 0), some (.getfield 18, 34, 8, 2, 1), none, none, some (.iconst 0, 35, 0, 0, 0), some (.aload_n 0, 36, 0, 0, 0), some (.getfield 18, 39, 8, 2, 1), none, none, some (.iconst 0, 40, 0, 0, 0), some (.bipush 16, 42, 0, 0, 0), none, some (.invokestatic 25, 45, 0, 12, 0), none, none, some (.aload_n 0, 46, 0, 0, 0), some (.aload_n 1, 47, 0, 0, 0), some (.getfield 31, 50, 8, 3, 0), none, none, some (.putfield 31, 53, 8, 3, 0), none, none, some (.aload_n 0, 54, 0, 0, 0), some (.aload_n 1, 55, 0, 0, 0), some (.getfield 21, 58, 8, 4, 0), none, none, some (.putfield 21, 61, 8, 4, 0), none, none, some (.return_, 62, 0, 0, 0)]

noncomputable def jt_158 : List (List (Option jm_I)) := [jt_158_0]

set_option maxRecDepth 20000 in
noncomputable def jt_159_0 : List (Option jm_I) := [some (.aload_n 0, 1, 0, 0, 0), some (.aload_n 1, 2, 0, 0, 0), some (.getfield 18, 5, 2, 1, 0), none, none, some (.putfield 18, 8, 2, 1, 0), none, none, some (.iconst 0, 9, 0, 0, 0), some (.istore_n 2, 10, 0, 0, 0), some (.iload_n 2, 11, 0, 0, 0), some (.aload_n 0, 12, 0, 0, 0), some (.getfield 18, 15, 2, 1, 0), none, none, some (.if_icmp .ge 30, 18, 45, 0, 0), none, none, some (.iload_n 2, 19, 0, 0, 0), some (.bipush 24, 21, 0, 0, 0), none, some (.if_icmp .ge 24, 24, 45, 0, 0), none, none, some (.aload_n 0, 25, 0, 0, 0), some (.getfield 11, 28, 2, 0, 1), none, none, some (.iload_n 2, 29, 0, 0, 0), some (.aaload, 30, 0, 0, 0), some (.aload_n 1, 31, 0, 0, 0), some (.getfield 11, 34, 2, 0, 1), none, none, some (.iload_n 2, 35, 0, 0, 0), some (.aaload, 36, 0, 0, 0), some (.invokevirtual 22, 39, 160, 1, 0), none, none, some (.iinc 2 1, 42, 0, 0, 0), none, none, some (.goto (-32), 45, 10, 0, 0), none, none, some (.return_, 46, 0, 0, 0)]

noncomputable def jt_159 : List (List (Option jm_I)) := [jt_159_0]

set_option maxRecDepth 20000 in
noncomputable def jt_160_0 : List (Option jm_I) := [some (.aload_n 0, 1, 0, 0, 0), some (.aload_n 1, 2, 0, 0, 0), some (.getfield 9, 5, 0, 0, 0), none, none, some (.putfield 9, 8, 0, 0, 0), none, none, some (.aload_n 0, 9, 0, 0, 0), some (.aload_n 1, 10, 0, 0, 0), some (.getfield 18, 13, 0, 1, 0), none, none, some (.putfield 18, 16, 0, 1, 0), none, none, some (.aload_n 0, 17, 0, 0, 0), some (.aload_n 1, 18, 0, 0, 0), some (.getfield 21, 21, 0, 2, 0), none, none, some (.putfield 21, 24, 0, 2, 0), none, none, some (.aload_n 0, 25, 0, 0, 0), some (.aload_n 1, 26, 0, 0, 0), some (.getfield 24, 29, 0, 3, 0), none, none, some (.putfield 24, 32, 0, 3, 0), none, none, some (.aload_n 0, 33, 0, 0, 0), some (.aload_n 1, 34, 0, 0, 0), some (.getfield 15, 37, 0, 4, 0), none, none, some (.putfield 15, 40, 0, 4, 0), none, none, some (.aload_n 0, 41, 0, 0, 0), some (.aload_n 1, 42, 0, 0, 0), some (.getfield 27, 45, 0, 5, 0), none, none, some (.putfield 27, 48, 0, 5, 0), none, none, some (.aload_n 0, 49, 0, 0, 0), some (.aload_n 1, 50, 0, 0, 0), some (.getfield 30, 53, 0, 6, 0), none, none, some (.putfield 30, 56, 0, 6, 0), none, none, some (.aload_n 0, 57, 0, 0, 0), some (.aload_n 1, 58, 0, 0, 0), some (.getfield 33, 61, 0, 7, 0), none, none, some (.putfield 33, 64, 0, 7, 0), none, none]

set_option maxRecDepth 20000 in
noncomputable def jt_160_1 : List (Option jm_I) := [some (.aload_n 0, 65, 0, 0, 0), some (.aload_n 1, 66, 0, 0, 0), some (.getfield 36, 69, 0, 8, 0), none, none, some (.putfield 36, 72, 0, 8, 0), none, none, some (.aload_n 0, 73, 0, 0, 0), some (.aload_n 1, 74, 0, 0, 0), some (.getfield 39, 77, 0, 9, 0), none, none, some (.putfield 39, 80, 0, 9, 0), none, none, some (.aload_n 0, 81, 0, 0, 0), some (.aload_n 1, 82, 0, 0, 0), some (.getfield 42, 85, 0, 10, 0), none, none, some (.putfield 42, 88, 0, 10, 0), none, none, some (.return_, 89, 0, 0, 0)]

noncomputable def jt_160 : List (List (Option jm_I)) := [jt_160_0, jt_160_1]

set_option maxRecDepth 20000 in
noncomputable def jt_161_0 : List (Option jm_I) := [some (.aload_n 0, 1, 0, 0, 0), some (.getfield 342, 4, 9, 11, 2), none, none, some (.ifCond .ne 10, 7, 14, 0, 0), none, none, some (.aload_n 0, 8, 0, 0, 0), some (.bipush (-5), 10, 0, 0, 0), none, some (.invokevirtual 79, 13, 13, 1, 9), none, none, some (.ireturn, 14, 0, 0, 0), some (.aload_n 0, 15, 0, 0, 0), some (.getfield 10, 18, 9, 0, 1), none, none, some (.aload_n 0, 19, 0, 0, 0), some (.getfield 16, 22, 9, 1, 1), none, none, some (.invokevirtual 337, 25, 158, 1, 8), none, none, some (.aload_n 0, 26, 0, 0, 0), some (.getfield 22, 29, 9, 2, 1), none, none, some (.aload_n 0, 30, 0, 0, 0), some (.getfield 26, 33, 9, 3, 1), none, none, some (.invokevirtual 339, 36, 159, 1, 2), none, none, some (.aload_n 0, 37, 0, 0, 0), some (.getfield 34, 40, 9, 4, 1), none, none, some (.invokevirtual 151, 43, 59, 1, 4), none, none, some (.aload_n 0, 44, 0, 0, 0), some (.invokevirtual 208, 47, 109, 1, 9), none, none, some (.iconst 1, 48, 0, 0, 0), some (.ireturn, 49, 0, 0, 0)]

noncomputable def jt_161 : List (List (Option jm_I)) := [jt_161_0]

set_option maxRecDepth 20000 in
noncomputable def jt_162_0 : List (Option jm_I) := [some (.iload_n 1, 1, 0, 0, 0), some (.tableswitch 122 0 8 #[51, 59, 68, 77, 85, 93, 101, 109, 117], 52, 0, 0, 0), none, none, none, none, none, none, none, none, none, none, none, none, none, none, none, none, none, none, none, none, none, none, none, none, none, none, none, none, none, none, none, none, none, none, none, none, none, none, none, none, none, none, none, none, none, none, none, none, none, none, some (.aload_n 0, 53, 0, 0, 0), some (.getfield 10, 56, 9, 0, 1), none, none, some (.getfield 144, 59, 8, 3, 0), none, none, some (.ireturn, 60, 0, 0, 0), some (.aload_n 0, 61, 0, 0, 0), some (.getfield 10, 64, 9, 0, 1), none, none]

set_option maxRecDepth 20000 in
noncomputable def jt_162_1 : List (Option jm_I) := [some (.iconst 1, 65, 0, 0, 0), some (.invokevirtual 284, 68, 129, 1, 8), none, none, some (.ireturn, 69, 0, 0, 0), some (.aload_n 0, 70, 0, 0, 0), some (.getfield 10, 73, 9, 0, 1), none, none, some (.iconst 2, 74, 0, 0, 0), some (.invokevirtual 284, 77, 129, 1, 8), none, none, some (.ireturn, 78, 0, 0, 0), some (.aload_n 0, 79, 0, 0, 0), some (.getfield 22, 82, 9, 2, 1), none, none, some (.getfield 191, 85, 2, 1, 0), none, none, some (.ireturn, 86, 0, 0, 0), some (.aload_n 0, 87, 0, 0, 0), some (.getfield 10, 90, 9, 0, 1), none, none, some (.invokevirtual 346, 93, 163, 1, 8), none, none, some (.ireturn, 94, 0, 0, 0), some (.aload_n 0, 95, 0, 0, 0), some (.getfield 10, 98, 9, 0, 1), none, none, some (.invokevirtual 349, 101, 165, 1, 8), none, none, some (.ireturn, 102, 0, 0, 0), some (.aload_n 0, 103, 0, 0, 0), some (.getfield 52, 106, 9, 7, 1), none, none, some (.getfield 170, 109, 7, 1, 0), none, none, some (.ireturn, 110, 0, 0, 0), some (.aload_n 0, 111, 0, 0, 0), some (.getfield 10, 114, 9, 0, 1), none, none, some (.getfield 334, 117, 8, 4, 0), none, none, some (.ireturn, 118, 0, 0, 0), some (.aload_n 0, 119, 0, 0, 0), some (.invokevirtual 352, 122, 166, 1, 9), none, none, some (.ireturn, 123, 0, 0, 0), some (.iload_n 1, 124, 0, 0, 0), some (.bipush 12, 126, 0, 0, 0), none, some (.if_icmp .lt 21, 129, 147, 0, 0), none]

set_option maxRecDepth 20000 in
noncomputable def jt_162_2 : List (Option jm_I) := [none, some (.iload_n 1, 130, 0, 0, 0), some (.bipush 17, 132, 0, 0, 0), none, some (.if_icmp .ge 15, 135, 147, 0, 0), none, none, some (.aload_n 0, 136, 0, 0, 0), some (.getfield 71, 139, 9, 10, 1), none, none, some (.iload_n 1, 140, 0, 0, 0), some (.bipush 12, 142, 0, 0, 0), none, some (.isub, 143, 0, 0, 0), some (.iaload, 144, 0, 0, 0), some (.goto 4, 147, 148, 0, 0), none, none, some (.iconst (-1), 148, 0, 0, 0), some (.ireturn, 149, 0, 0, 0)]

noncomputable def jt_162 : List (List (Option jm_I)) := [jt_162_0, jt_162_1, jt_162_2]

set_option maxRecDepth 20000 in
noncomputable def jt_163_0 : List (Option jm_I) := [some (.iconst 0, 1, 0, 0, 0), some (.istore_n 1, 2, 0, 0, 0), some (.iconst 0, 3, 0, 0, 0), some (.istore_n 2, 4, 0, 0, 0), some (.iload_n 2, 5, 0, 0, 0), some (.aload_n 0, 6, 0, 0, 0), some (.getfield 31, 9, 8, 3, 0), none, none, some (.if_icmp .ge 20, 12, 29, 0, 0), none, none, some (.iload_n 1, 13, 0, 0, 0), some (.iconst 1, 14, 0, 0, 0), some (.aload_n 0, 15, 0, 0, 0), some (.getfield 9, 18, 8, 0, 1), none, none, some (.iload_n 2, 19, 0, 0, 0), some (.iaload, 20, 0, 0, 0), some (.ishl, 21, 0, 0, 0), some (.ior, 22, 0, 0, 0), some (.istore_n 1, 23, 0, 0, 0), some (.iinc 2 1, 26, 0, 0, 0), none, none, some (.goto (-22), 29, 4, 0, 0), none, none, some (.iload_n 1, 30, 0, 0, 0), some (.invokestatic 38, 33, 164, 2, 0), none, none, some (.ireturn, 34, 0, 0, 0)]

noncomputable def jt_163 : List (List (Option jm_I)) := [jt_163_0]

set_option maxRecDepth 20000 in
noncomputable def jt_164_0 : List (Option jm_I) := [some (.iload_n 0, 1, 0, 0, 0), some (.iload_n 0, 2, 0, 0, 0), some (.iconst 1, 3, 0, 0, 0), some (.iushr, 4, 0, 0, 0), some (.ldc_w 265, 7, 0, 0, 1431655765), none, none, some (.iand, 8, 0, 0, 0), some (.isub, 9, 0, 0, 0), some (.istore_n 0, 10, 0, 0, 0), some (.iload_n 0, 11, 0, 0, 0), some (.ldc_w 266, 14, 0, 0, 858993459), none, none, some (.iand, 15, 0, 0, 0), some (.iload_n 0, 16, 0, 0, 0), some (.iconst 2, 17, 0, 0, 0), some (.iushr, 18, 0, 0, 0), some (.ldc_w 266, 21, 0, 0, 858993459), none, none, some (.iand, 22, 0, 0, 0), some (.iadd, 23, 0, 0, 0), some (.istore_n 0, 24, 0, 0, 0), some (.iload_n 0, 25, 0, 0, 0), some (.iload_n 0, 26, 0, 0, 0), some (.iconst 4, 27, 0, 0, 0), some (.iushr, 28, 0, 0, 0), some (.iadd, 29, 0, 0, 0), some (.ldc_w 267, 32, 0, 0, 252645135), none, none, some (.iand, 33, 0, 0, 0), some (.istore_n 0, 34, 0, 0, 0), some (.iload_n 0, 35, 0, 0, 0), some (.iload_n 0, 36, 0, 0, 0), some (.bipush 8, 38, 0, 0, 0), none, some (.iushr, 39, 0, 0, 0), some (.iadd, 40, 0, 0, 0), some (.istore_n 0, 41, 0, 0, 0), some (.iload_n 0, 42, 0, 0, 0), some (.iload_n 0, 43, 0, 0, 0), some (.bipush 16, 45, 0, 0, 0), none, some (.iushr, 46, 0, 0, 0), some (.iadd, 47, 0, 0, 0), some (.istore_n 0, 48, 0, 0, 0), some (.iload_n 0, 49, 0, 0, 0), some (.bipush 63, 51, 0, 0, 0), none, some (.iand, 52, 0, 0, 0), some (.ireturn, 53, 0, 0, 0)]

noncomputable def jt_164 : List (List (Option jm_I)) := [jt_164_0]

set_option maxRecDepth 20000 in
noncomputable def jt_165_0 : List (Option jm_I) := [some (.iconst 0, 1, 0, 0, 0), some (.istore_n 1, 2, 0, 0, 0), some (.iconst 0, 3, 0, 0, 0), some (.istore_n 2, 4, 0, 0, 0), some (.iload_n 2, 5, 0, 0, 0), some (.bipush 16, 7, 0, 0, 0), none, some (.if_icmp .ge 21, 10, 28, 0, 0), none, none, some (.iload_n 1, 11, 0, 0, 0), some (.aload_n 0, 12, 0, 0, 0), some (.getfield 18, 15, 8, 2, 1), none, none, some (.iload_n 2, 16, 0, 0, 0), some (.iaload, 17, 0, 0, 0), some (.invokestatic 38, 20, 164, 2, 0), none, none, some (.iadd, 21, 0, 0, 0), some (.istore_n 1, 22, 0, 0, 0), some (.iinc 2 1, 25, 0, 0, 0), none, none, some (.goto (-21), 28, 4, 0, 0), none, none, some (.iload_n 1, 29, 0, 0, 0), some (.ireturn, 30, 0, 0, 0)]

noncomputable def jt_165 : List (List (Option jm_I)) := [jt_165_0]

set_option maxRecDepth 20000 in
noncomputable def jt_166_0 : List (Option jm_I) := [some (.iconst 0, 1, 0, 0, 0), some (.istore_n 1, 2, 0, 0, 0), some (.iconst 0, 3, 0, 0, 0), some (.istore_n 2, 4, 0, 0, 0), some (.iload_n 2, 5, 0, 0, 0), some (.bipush 8, 7, 0, 0, 0), none, some (.if_icmp .ge 30, 10, 37, 0, 0), none, none, some (.iload_n 1, 11, 0, 0, 0), some (.aload_n 0, 12, 0, 0, 0), some (.getfield 67, 15, 9, 9, 1), none, none, some (.iload_n 2, 16, 0, 0, 0), some (.aaload, 17, 0, 0, 0), some (.getfield 98, 20, 5, 2, 0), none, none, some (.iconst (-1), 21, 0, 0, 0), some (.if_icmp .ne 7, 24, 28, 0, 0), none, none, some (.iconst 0, 25, 0, 0, 0), some (.goto 4, 28, 29, 0, 0), none, none, some (.iconst 1, 29, 0, 0, 0), some (.iadd, 30, 0, 0, 0), some (.istore_n 1, 31, 0, 0, 0), some (.iinc 2 1, 34, 0, 0, 0), none, none, some (.goto (-30), 37, 4, 0, 0), none, none, some (.iload_n 1, 38, 0, 0, 0), some (.ireturn, 39, 0, 0, 0)]

noncomputable def jt_166 : List (List (Option jm_I)) := [jt_166_0]

set_option maxRecDepth 20000 in
noncomputable def jt_167_0 : List (Option jm_I) := [some (.aload_n 0, 1, 0, 0, 0), some (.arraylength, 2, 0, 0, 0), some (.ifCond .ne 11, 5, 13, 0, 0), none, none, some (.sipush 367, 8, 0, 0, 0), none, none, some (.iload_n 1, 9, 0, 0, 0), some (.imul, 10, 0, 0, 0), some (.goto 12, 13, 22, 0, 0), none, none, some (.aload_n 0, 14, 0, 0, 0), some (.iload_n 1, 15, 0, 0, 0), some (.ldc 7, 17, 0, 0, 65535), none, some (.iand, 18, 0, 0, 0), some (.aload_n 0, 19, 0, 0, 0), some (.arraylength, 20, 0, 0, 0), some (.irem, 21, 0, 0, 0), some (.iaload, 22, 0, 0, 0), some (.ireturn, 23, 0, 0, 0)]

noncomputable def jt_167 : List (List (Option jm_I)) := [jt_167_0]

set_option maxRecDepth 20000 in
noncomputable def jt_168_0 : List (Option jm_I) := [some (.aload_n 1, 1, 0, 0, 0), some (.iload_n 2, 2, 0, 0, 0), some (.invokestatic 8, 5, 167, 2, 0), none, none, some (.istore_n 3, 6, 0, 0, 0), some (.iload_n 3, 7, 0, 0, 0), some (.iconst 4, 8, 0, 0, 0), some (.ishr, 9, 0, 0, 0), some (.ldc 7, 11, 0, 0, 65535), none, some (.iand, 12, 0, 0, 0), some (.istore 4, 14, 0, 0, 0), none, some (.iload_n 3, 15, 0, 0, 0), some (.bipush 15, 17, 0, 0, 0), none, some (.iand, 18, 0, 0, 0), some (.tableswitch 340 0 14 #[74, 74, 74, 86, 100, 112, 112, 145, 159, 181, 219, 243, 262, 277, 332], 92, 0, 0, 0), none, none, none, none, none, none, none, none, none, none, none, none, none, none, none, none, none, none, none, none, none, none, none, none, none, none, none, none, none, none, none, none, none, none, none, none, none, none, none, none, none, none, none, none, none]

set_option maxRecDepth 20000 in
noncomputable def jt_168_1 : List (Option jm_I) := [none, none, none, none, none, none, none, none, none, none, none, none, none, none, none, none, none, none, none, none, none, none, none, none, none, none, none, none, some (.aload_n 0, 93, 0, 0, 0), some (.iload 4, 95, 0, 0, 0), none, some (.iconst 3, 96, 0, 0, 0), some (.iand, 97, 0, 0, 0), some (.invokevirtual 14, 100, 56, 1, 9), none, none, some (.pop, 101, 0, 0, 0), some (.goto 277, 104, 378, 0, 0), none, none, some (.aload_n 0, 105, 0, 0, 0), some (.iconst 1, 106, 0, 0, 0), some (.iload 4, 108, 0, 0, 0), none, some (.iconst 1, 109, 0, 0, 0), some (.iand, 110, 0, 0, 0), some (.iadd, 111, 0, 0, 0), some (.invokevirtual 20, 114, 60, 1, 9), none, none, some (.pop, 115, 0, 0, 0), some (.goto 263, 118, 378, 0, 0), none, none, some (.aload_n 0, 119, 0, 0, 0), some (.iload 4, 121, 0, 0, 0), none, some (.iconst 3, 122, 0, 0, 0), some (.iand, 123, 0, 0, 0), some (.invokevirtual 23, 126, 97, 1, 9), none, none, some (.pop, 127, 0, 0, 0), some (.goto 251, 130, 378, 0, 0)]

set_option maxRecDepth 20000 in
noncomputable def jt_168_2 : List (Option jm_I) := [none, none, some (.aload_n 0, 131, 0, 0, 0), some (.iconst 2, 132, 0, 0, 0), some (.iload 4, 134, 0, 0, 0), none, some (.bipush 7, 136, 0, 0, 0), none, some (.iand, 137, 0, 0, 0), some (.bipush 7, 139, 0, 0, 0), none, some (.irem, 140, 0, 0, 0), some (.iadd, 141, 0, 0, 0), some (.iload 4, 143, 0, 0, 0), none, some (.iconst 3, 144, 0, 0, 0), some (.ishr, 145, 0, 0, 0), some (.bipush 15, 147, 0, 0, 0), none, some (.iand, 148, 0, 0, 0), some (.iload 4, 150, 0, 0, 0), none, some (.bipush 7, 152, 0, 0, 0), none, some (.ishr, 153, 0, 0, 0), some (.bipush 15, 155, 0, 0, 0), none, some (.iand, 156, 0, 0, 0), some (.invokevirtual 26, 159, 102, 1, 9), none, none, some (.pop, 160, 0, 0, 0), some (.goto 218, 163, 378, 0, 0), none, none, some (.aload_n 0, 164, 0, 0, 0), some (.iload 4, 166, 0, 0, 0), none, some (.iconst 3, 167, 0, 0, 0), some (.iand, 168, 0, 0, 0), some (.iconst 3, 169, 0, 0, 0), some (.irem, 170, 0, 0, 0), some (.invokevirtual 30, 173, 104, 1, 9), none, none, some (.pop, 174, 0, 0, 0), some (.goto 204, 177, 378, 0, 0), none, none, some (.aload_n 0, 178, 0, 0, 0), some (.iload 4, 180, 0, 0, 0), none, some (.bipush 15, 182, 0, 0, 0), none, some (.iand, 183, 0, 0, 0), some (.iconst 1, 184, 0, 0, 0), some (.iload 4, 186, 0, 0, 0), none, some (.iconst 4, 187, 0, 0, 0), some (.ishr, 188, 0, 0, 0), some (.bipush 7, 190, 0, 0, 0), none, some (.iand, 191, 0, 0, 0), some (.iadd, 192, 0, 0, 0)]

set_option maxRecDepth 20000 in
noncomputable def jt_168_3 : List (Option jm_I) := [some (.invokevirtual 33, 195, 105, 1, 9), none, none, some (.pop, 196, 0, 0, 0), some (.goto 182, 199, 378, 0, 0), none, none, some (.aload_n 0, 200, 0, 0, 0), some (.iconst 1, 201, 0, 0, 0), some (.iload 4, 203, 0, 0, 0), none, some (.iconst 3, 204, 0, 0, 0), some (.iand, 205, 0, 0, 0), some (.iconst 3, 206, 0, 0, 0), some (.irem, 207, 0, 0, 0), some (.iadd, 208, 0, 0, 0), some (.iload 4, 210, 0, 0, 0), none, some (.iconst 2, 211, 0, 0, 0), some (.ishr, 212, 0, 0, 0), some (.bipush 7, 214, 0, 0, 0), none, some (.iand, 215, 0, 0, 0), some (.iload 4, 217, 0, 0, 0), none, some (.iconst 5, 218, 0, 0, 0), some (.ishr, 219, 0, 0, 0), some (.bipush 7, 221, 0, 0, 0), none, some (.iand, 222, 0, 0, 0), some (.iload 4, 224, 0, 0, 0), none, some (.bipush 8, 226, 0, 0, 0), none, some (.ishr, 227, 0, 0, 0), some (.bipush 7, 229, 0, 0, 0), none, some (.iand, 230, 0, 0, 0), some (.invokevirtual 37, 233, 106, 1, 9), none, none, some (.pop, 234, 0, 0, 0), some (.goto 144, 237, 378, 0, 0), none, none, some (.aload_n 0, 238, 0, 0, 0), some (.iload 4, 240, 0, 0, 0), none, some (.iconst 3, 241, 0, 0, 0), some (.iand, 242, 0, 0, 0), some (.iload 4, 244, 0, 0, 0), none, some (.iconst 2, 245, 0, 0, 0), some (.ishr, 246, 0, 0, 0), some (.iconst 3, 247, 0, 0, 0), some (.iand, 248, 0, 0, 0), some (.iload 4, 250, 0, 0, 0), none, some (.iconst 4, 251, 0, 0, 0), some (.ishr, 252, 0, 0, 0), some (.iconst 1, 253, 0, 0, 0), some (.iand, 254, 0, 0, 0), some (.invokevirtual 41, 257, 65, 1, 9), none]

set_option maxRecDepth 20000 in
noncomputable def jt_168_4 : List (Option jm_I) := [none, some (.pop, 258, 0, 0, 0), some (.goto 120, 261, 378, 0, 0), none, none, some (.aload_n 0, 262, 0, 0, 0), some (.iload 4, 264, 0, 0, 0), none, some (.bipush 31, 266, 0, 0, 0), none, some (.iand, 267, 0, 0, 0), some (.iload 4, 269, 0, 0, 0), none, some (.iconst 5, 270, 0, 0, 0), some (.ishr, 271, 0, 0, 0), some (.iconst 3, 272, 0, 0, 0), some (.iand, 273, 0, 0, 0), some (.invokevirtual 44, 276, 63, 1, 9), none, none, some (.pop, 277, 0, 0, 0), some (.goto 101, 280, 378, 0, 0), none, none, some (.aload_n 0, 281, 0, 0, 0), some (.iconst 1, 282, 0, 0, 0), some (.iload 4, 284, 0, 0, 0), none, some (.bipush 7, 286, 0, 0, 0), none, some (.iand, 287, 0, 0, 0), some (.iadd, 288, 0, 0, 0), some (.invokevirtual 47, 291, 153, 1, 9), none, none, some (.pop, 292, 0, 0, 0), some (.goto 86, 295, 378, 0, 0), none, none, some (.aload_n 0, 296, 0, 0, 0), some (.bipush 97, 298, 0, 0, 0), none, some (.iload 4, 300, 0, 0, 0), none, some (.iconst 3, 301, 0, 0, 0), some (.iand, 302, 0, 0, 0), some (.iadd, 303, 0, 0, 0), some (.invokevirtual 50, 306, 66, 1, 9), none, none, some (.pop, 307, 0, 0, 0), some (.aload_n 0, 308, 0, 0, 0), some (.ldc 53, 310, 1, 0, 0), none, some (.iload 4, 312, 0, 0, 0), none, some (.iconst 2, 313, 0, 0, 0), some (.ishr, 314, 0, 0, 0), some (.bipush 15, 316, 0, 0, 0), none, some (.iand, 317, 0, 0, 0), some (.bipush 7, 319, 0, 0, 0), none, some (.irem, 320, 0, 0, 0)]

set_option maxRecDepth 20000 in
noncomputable def jt_168_5 : List (Option jm_I) := [some (.invokevirtual 55, 323, 172, 15, 0), none, none, some (.invokevirtual 50, 326, 66, 1, 9), none, none, some (.pop, 327, 0, 0, 0), some (.aload_n 0, 328, 0, 0, 0), some (.bipush 97, 330, 0, 0, 0), none, some (.iload 4, 332, 0, 0, 0), none, some (.bipush 6, 334, 0, 0, 0), none, some (.ishr, 335, 0, 0, 0), some (.iconst 3, 336, 0, 0, 0), some (.iand, 337, 0, 0, 0), some (.iadd, 338, 0, 0, 0), some (.invokevirtual 50, 341, 66, 1, 9), none, none, some (.pop, 342, 0, 0, 0), some (.aload_n 0, 343, 0, 0, 0), some (.invokevirtual 61, 346, 76, 1, 9), none, none, some (.pop, 347, 0, 0, 0), some (.goto 31, 350, 378, 0, 0), none, none, some (.aload_n 0, 351, 0, 0, 0), some (.invokevirtual 65, 354, 157, 1, 9), none, none, some (.pop, 355, 0, 0, 0), some (.goto 23, 358, 378, 0, 0), none, none, some (.iload 4, 360, 0, 0, 0), none, some (.iconst 3, 361, 0, 0, 0), some (.iand, 362, 0, 0, 0), some (.ifCond .ne 11, 365, 373, 0, 0), none, none, some (.aload_n 0, 366, 0, 0, 0), some (.invokevirtual 68, 369, 161, 1, 9), none, none, some (.pop, 370, 0, 0, 0), some (.goto 8, 373, 378, 0, 0), none, none, some (.aload_n 0, 374, 0, 0, 0), some (.invokevirtual 71, 377, 107, 1, 9), none, none, some (.pop, 378, 0, 0, 0), some (.return_, 379, 0, 0, 0)]

noncomputable def jt_168 : List (List (Option jm_I)) := [jt_168_0, jt_168_1, jt_168_2, jt_168_3, jt_168_4, jt_168_5]

set_option maxRecDepth 20000 in
noncomputable def jt_169_0 : List (Option jm_I) := [some (.iconst 0, 1, 0, 0, 0), some (.istore_n 1, 2, 0, 0, 0), some (.bipush 12, 4, 0, 0, 0), none, some (.istore_n 2, 5, 0, 0, 0), some (.iload_n 2, 6, 0, 0, 0), some (.bipush 16, 8, 0, 0, 0), none, some (.if_icmp .gt 17, 11, 25, 0, 0), none, none, some (.iload_n 1, 12, 0, 0, 0), some (.aload_n 0, 13, 0, 0, 0), some (.iload_n 2, 14, 0, 0, 0), some (.invokevirtual 74, 17, 162, 1, 9), none, none, some (.iadd, 18, 0, 0, 0), some (.istore_n 1, 19, 0, 0, 0), some (.iinc 2 1, 22, 0, 0, 0), none, none, some (.goto (-17), 25, 5, 0, 0), none, none, some (.iload_n 1, 26, 0, 0, 0), some (.ireturn, 27, 0, 0, 0)]

noncomputable def jt_169 : List (List (Option jm_I)) := [jt_169_0]

set_option maxRecDepth 20000 in
noncomputable def jt_170_0 : List (Option jm_I) := [some (.aload_n 0, 1, 0, 0, 0), some (.iload_n 1, 2, 0, 0, 0), some (.invokevirtual 77, 5, 113, 1, 9), none, none, some (.istore_n 2, 6, 0, 0, 0), some (.iconst (-1), 7, 0, 0, 0), some (.istore_n 3, 8, 0, 0, 0), some (.iconst (-1), 9, 0, 0, 0), some (.istore 4, 11, 0, 0, 0), none, some (.iconst (-1), 12, 0, 0, 0), some (.istore 5, 14, 0, 0, 0), none, some (.iconst 0, 15, 0, 0, 0), some (.istore 6, 17, 0, 0, 0), none, some (.iload 6, 19, 0, 0, 0), none, some (.iload_n 2, 20, 0, 0, 0), some (.if_icmp .ge 98, 23, 118, 0, 0), none, none, some (.aload_n 0, 24, 0, 0, 0), some (.iload_n 1, 25, 0, 0, 0), some (.iload 6, 27, 0, 0, 0), none, some (.invokevirtual 80, 30, 114, 1, 9), none, none, some (.istore 7, 32, 0, 0, 0), none, some (.aload_n 0, 33, 0, 0, 0), some (.iload_n 1, 34, 0, 0, 0), some (.iload_n 3, 35, 0, 0, 0), some (.iconst 1, 36, 0, 0, 0), some (.iadd, 37, 0, 0, 0), some (.iconst 0, 38, 0, 0, 0), some (.invokevirtual 83, 41, 116, 1, 9), none, none, some (.istore 5, 43, 0, 0, 0), none, some (.iload 5, 45, 0, 0, 0), none, some (.iload 6, 47, 0, 0, 0), none, some (.if_icmp .ne 50, 50, 97, 0, 0), none, none, some (.iload 7, 52, 0, 0, 0), none, some (.bipush 100, 54, 0, 0, 0), none, some (.idiv, 55, 0, 0, 0), some (.iload_n 3, 56, 0, 0, 0), some (.if_icmp .le 41, 59, 97, 0, 0), none, none, some (.iload 7, 61, 0, 0, 0), none, some (.bipush 100, 63, 0, 0, 0), none, some (.irem, 64, 0, 0, 0)]

set_option maxRecDepth 20000 in
noncomputable def jt_170_1 : List (Option jm_I) := [some (.iload 4, 66, 0, 0, 0), none, some (.if_icmp .le 31, 69, 97, 0, 0), none, none, some (.aload_n 0, 70, 0, 0, 0), some (.iload_n 1, 71, 0, 0, 0), some (.iload 4, 73, 0, 0, 0), none, some (.iconst 1, 74, 0, 0, 0), some (.iadd, 75, 0, 0, 0), some (.iconst 1, 76, 0, 0, 0), some (.invokevirtual 83, 79, 116, 1, 9), none, none, some (.iload 6, 81, 0, 0, 0), none, some (.if_icmp .ne 16, 84, 97, 0, 0), none, none, some (.iload 7, 86, 0, 0, 0), none, some (.bipush 100, 88, 0, 0, 0), none, some (.irem, 89, 0, 0, 0), some (.aload_n 0, 90, 0, 0, 0), some (.iconst 0, 91, 0, 0, 0), some (.invokevirtual 74, 94, 162, 1, 9), none, none, some (.if_icmp .lt 5, 97, 99, 0, 0), none, none, some (.iconst 0, 98, 0, 0, 0), some (.ireturn, 99, 1, 0, 0), some (.iload 7, 101, 0, 0, 0), none, some (.bipush 100, 103, 0, 0, 0), none, some (.idiv, 104, 0, 0, 0), some (.istore_n 3, 105, 0, 0, 0), some (.iload 7, 107, 0, 0, 0), none, some (.bipush 100, 109, 0, 0, 0), none, some (.irem, 110, 0, 0, 0), some (.istore 4, 112, 0, 0, 0), none, some (.iinc 6 1, 115, 0, 0, 0), none, none, some (.goto (-98), 118, 17, 0, 0), none, none, some (.aload_n 0, 119, 0, 0, 0), some (.iload_n 1, 120, 0, 0, 0), some (.iload_n 3, 121, 0, 0, 0), some (.iconst 1, 122, 0, 0, 0), some (.iadd, 123, 0, 0, 0), some (.iconst 0, 124, 0, 0, 0), some (.invokevirtual 83, 127, 116, 1, 9), none, none, some (.iconst (-1), 128, 0, 0, 0)]

set_option maxRecDepth 20000 in
noncomputable def jt_170_2 : List (Option jm_I) := [some (.if_icmp .ne 68, 131, 196, 0, 0), none, none, some (.aload_n 0, 132, 0, 0, 0), some (.iload_n 1, 133, 0, 0, 0), some (.iload_n 3, 134, 0, 0, 0), some (.iconst 3, 135, 0, 0, 0), some (.invokevirtual 83, 138, 116, 1, 9), none, none, some (.iload_n 2, 139, 0, 0, 0), some (.iconst 1, 140, 0, 0, 0), some (.isub, 141, 0, 0, 0), some (.if_icmp .ne 55, 144, 196, 0, 0), none, none, some (.aload_n 0, 145, 0, 0, 0), some (.iload_n 1, 146, 0, 0, 0), some (.iload 4, 148, 0, 0, 0), none, some (.iconst 2, 149, 0, 0, 0), some (.invokevirtual 83, 152, 116, 1, 9), none, none, some (.iload_n 2, 153, 0, 0, 0), some (.iconst 1, 154, 0, 0, 0), some (.isub, 155, 0, 0, 0), some (.if_icmp .ne 41, 158, 196, 0, 0), none, none, some (.aload_n 0, 159, 0, 0, 0), some (.iload_n 1, 160, 0, 0, 0), some (.iconst (-1), 161, 0, 0, 0), some (.invokevirtual 86, 164, 124, 1, 9), none, none, some (.aload_n 0, 165, 0, 0, 0), some (.iload_n 1, 166, 0, 0, 0), some (.iconst (-1), 167, 0, 0, 0), some (.invokevirtual 89, 170, 127, 1, 9), none, none, some (.if_icmp .ne 26, 173, 196, 0, 0), none, none, some (.aload_n 0, 174, 0, 0, 0), some (.iload_n 1, 175, 0, 0, 0), some (.iload_n 1, 176, 0, 0, 0), some (.invokevirtual 92, 179, 138, 1, 9), none, none, some (.iconst (-1), 180, 0, 0, 0), some (.if_icmp .ne 16, 183, 196, 0, 0), none, none, some (.aload_n 0, 184, 0, 0, 0), some (.iload_n 1, 185, 0, 0, 0), some (.invokevirtual 95, 188, 141, 1, 9), none, none, some (.iload_n 1, 189, 0, 0, 0), some (.ishr, 190, 0, 0, 0), some (.iconst 1, 191, 0, 0, 0), some (.iand, 192, 0, 0, 0)]

set_option maxRecDepth 20000 in
noncomputable def jt_170_3 : List (Option jm_I) := [some (.iconst 1, 193, 0, 0, 0), some (.if_icmp .eq 5, 196, 198, 0, 0), none, none, some (.iconst 0, 197, 0, 0, 0), some (.ireturn, 198, 1, 0, 0), some (.iload_n 2, 199, 0, 0, 0), some (.bipush 20, 201, 0, 0, 0), none, some (.if_icmp .ge 7, 204, 208, 0, 0), none, none, some (.iload_n 2, 205, 0, 0, 0), some (.goto 5, 208, 210, 0, 0), none, none, some (.bipush 20, 210, 0, 0, 0), none, some (.istore 6, 212, 0, 0, 0), none, some (.aload_n 0, 213, 0, 0, 0), some (.bipush 7, 215, 0, 0, 0), none, some (.iconst 0, 216, 0, 0, 0), some (.bipush 40, 218, 0, 0, 0), none, some (.invokevirtual 98, 221, 11, 1, 9), none, none, some (.pop, 222, 0, 0, 0), some (.iconst 0, 223, 0, 0, 0), some (.istore 7, 225, 0, 0, 0), none, some (.iload 7, 227, 0, 0, 0), none, some (.iload 6, 229, 0, 0, 0), none, some (.if_icmp .ge 55, 232, 284, 0, 0), none, none, some (.aload_n 0, 233, 0, 0, 0), some (.bipush 7, 235, 0, 0, 0), none, some (.iconst 2, 236, 0, 0, 0), some (.iload 7, 238, 0, 0, 0), none, some (.imul, 239, 0, 0, 0), some (.aload_n 0, 240, 0, 0, 0), some (.iload_n 1, 241, 0, 0, 0), some (.iload 7, 243, 0, 0, 0), none, some (.invokevirtual 80, 246, 114, 1, 9), none, none, some (.bipush 100, 248, 0, 0, 0), none, some (.idiv, 249, 0, 0, 0), some (.i2l, 250, 0, 0, 0), some (.invokevirtual 101, 253, 16, 1, 9), none, none, some (.pop, 254, 0, 0, 0), some (.aload_n 0, 255, 0, 0, 0), some (.bipush 7, 257, 0, 0, 0)]

set_option maxRecDepth 20000 in
noncomputable def jt_170_4 : List (Option jm_I) := [none, some (.iconst 2, 258, 0, 0, 0), some (.iload 7, 260, 0, 0, 0), none, some (.imul, 261, 0, 0, 0), some (.iconst 1, 262, 0, 0, 0), some (.iadd, 263, 0, 0, 0), some (.aload_n 0, 264, 0, 0, 0), some (.iload_n 1, 265, 0, 0, 0), some (.iload 7, 267, 0, 0, 0), none, some (.invokevirtual 80, 270, 114, 1, 9), none, none, some (.bipush 100, 272, 0, 0, 0), none, some (.irem, 273, 0, 0, 0), some (.i2l, 274, 0, 0, 0), some (.invokevirtual 101, 277, 16, 1, 9), none, none, some (.pop, 278, 0, 0, 0), some (.iinc 7 1, 281, 0, 0, 0), none, none, some (.goto (-56), 284, 225, 0, 0), none, none, some (.aload_n 0, 285, 0, 0, 0), some (.iload_n 1, 286, 0, 0, 0), some (.bipush 7, 288, 0, 0, 0), none, some (.iload 6, 290, 0, 0, 0), none, some (.invokevirtual 105, 293, 149, 1, 9), none, none, some (.iload_n 2, 294, 0, 0, 0), some (.iload 6, 296, 0, 0, 0), none, some (.if_icmp .le 8, 299, 304, 0, 0), none, none, some (.iload 6, 301, 0, 0, 0), none, some (.goto 4, 304, 305, 0, 0), none, none, some (.iconst (-1), 305, 0, 0, 0), some (.if_icmp .ne 7, 308, 312, 0, 0), none, none, some (.iconst 1, 309, 0, 0, 0), some (.goto 4, 312, 313, 0, 0), none, none, some (.iconst 0, 313, 0, 0, 0), some (.ireturn, 314, 1, 0, 0)]

noncomputable def jt_170 : List (List (Option jm_I)) := [jt_170_0, jt_170_1, jt_170_2, jt_170_3, jt_170_4]

set_option maxRecDepth 20000 in
noncomputable def jt_171_0 : List (Option jm_I) := [some (.aload_n 0, 1, 0, 0, 0), some (.iload_n 1, 2, 0, 0, 0), some (.iconst 0, 3, 0, 0, 0), some (.invokevirtual 108, 6, 110, 1, 9), none, none, some (.istore_n 2, 7, 0, 0, 0), some (.aload_n 0, 8, 0, 0, 0), some (.iload_n 1, 9, 0, 0, 0), some (.iconst 1, 10, 0, 0, 0), some (.invokevirtual 108, 13, 110, 1, 9), none, none, some (.istore_n 3, 14, 0, 0, 0), some (.aload_n 0, 15, 0, 0, 0), some (.iload_n 1, 16, 0, 0, 0), some (.iconst 2, 17, 0, 0, 0), some (.invokevirtual 108, 20, 110, 1, 9), none, none, some (.istore 4, 22, 0, 0, 0), none, some (.iload_n 2, 23, 0, 0, 0), some (.iconst 5, 24, 0, 0, 0), some (.if_icmp .lt 30, 27, 54, 0, 0), none, none, some (.iload_n 2, 28, 0, 0, 0), some (.bipush 8, 30, 0, 0, 0), none, some (.if_icmp .gt 24, 33, 54, 0, 0), none, none, some (.aload_n 0, 34, 0, 0, 0), some (.iload_n 3, 35, 0, 0, 0), some (.iload 4, 37, 0, 0, 0), none, some (.iload_n 2, 38, 0, 0, 0), some (.bipush 7, 40, 0, 0, 0), none, some (.if_icmp .lt 7, 43, 47, 0, 0), none, none, some (.iconst 1, 44, 0, 0, 0), some (.goto 4, 47, 48, 0, 0), none, none, some (.iconst 0, 48, 0, 0, 0), some (.invokevirtual 111, 51, 136, 1, 9), none, none, some (.goto 4, 54, 55, 0, 0), none, none, some (.iconst 0, 55, 0, 0, 0), some (.istore 5, 57, 0, 0, 0), none, some (.iload_n 2, 58, 0, 0, 0), some (.tableswitch 226 2 10 #[115, 153, 153, 50, 78, 50, 78, 226, 190], 108, 0, 0, 0), none, none, none, none, none]

set_option maxRecDepth 20000 in
noncomputable def jt_171_1 : List (Option jm_I) := [none, none, none, none, none, none, none, none, none, none, none, none, none, none, none, none, none, none, none, none, none, none, none, none, none, none, none, none, none, none, none, none, none, none, none, none, none, none, none, none, none, none, none, none, some (.aload_n 0, 109, 0, 0, 0), some (.iload_n 1, 110, 0, 0, 0), some (.invokevirtual 77, 113, 113, 1, 9), none, none, some (.iload 5, 115, 0, 0, 0), none, some (.if_icmp .ne 19, 118, 134, 0, 0), none, none, some (.aload_n 0, 119, 0, 0, 0), some (.iload_n 1, 120, 0, 0, 0), some (.iload_n 3, 121, 0, 0, 0), some (.iconst 2, 122, 0, 0, 0), some (.invokevirtual 111, 125, 136, 1, 9), none, none, some (.iload 5, 127, 0, 0, 0), none, some (.if_icmp .ne 7, 130, 134, 0, 0)]

set_option maxRecDepth 20000 in
noncomputable def jt_171_2 : List (Option jm_I) := [none, none, some (.iconst 1, 131, 0, 0, 0), some (.goto 4, 134, 135, 0, 0), none, none, some (.iconst 0, 135, 0, 0, 0), some (.ireturn, 136, 1, 0, 0), some (.aload_n 0, 137, 0, 0, 0), some (.iload_n 1, 138, 0, 0, 0), some (.invokevirtual 77, 141, 113, 1, 9), none, none, some (.aload_n 0, 142, 0, 0, 0), some (.iload_n 3, 143, 0, 0, 0), some (.invokevirtual 77, 146, 113, 1, 9), none, none, some (.iload 5, 148, 0, 0, 0), none, some (.isub, 149, 0, 0, 0), some (.if_icmp .ne 22, 152, 171, 0, 0), none, none, some (.aload_n 0, 153, 0, 0, 0), some (.iload_n 1, 154, 0, 0, 0), some (.iload_n 3, 155, 0, 0, 0), some (.iconst 2, 156, 0, 0, 0), some (.invokevirtual 111, 159, 136, 1, 9), none, none, some (.aload_n 0, 160, 0, 0, 0), some (.iload_n 1, 161, 0, 0, 0), some (.invokevirtual 77, 164, 113, 1, 9), none, none, some (.if_icmp .ne 7, 167, 171, 0, 0), none, none, some (.iconst 1, 168, 0, 0, 0), some (.goto 4, 171, 172, 0, 0), none, none, some (.iconst 0, 172, 0, 0, 0), some (.ireturn, 173, 1, 0, 0), some (.aload_n 0, 174, 0, 0, 0), some (.iload_n 3, 175, 0, 0, 0), some (.iload_n 1, 176, 0, 0, 0), some (.iconst 1, 177, 0, 0, 0), some (.invokevirtual 111, 180, 136, 1, 9), none, none, some (.aload_n 0, 181, 0, 0, 0), some (.iload_n 3, 182, 0, 0, 0), some (.invokevirtual 77, 185, 113, 1, 9), none, none, some (.if_icmp .ne 24, 188, 209, 0, 0), none, none, some (.aload_n 0, 189, 0, 0, 0), some (.iload 4, 191, 0, 0, 0), none, some (.iload_n 1, 192, 0, 0, 0)]

set_option maxRecDepth 20000 in
noncomputable def jt_171_3 : List (Option jm_I) := [some (.iconst 1, 193, 0, 0, 0), some (.invokevirtual 111, 196, 136, 1, 9), none, none, some (.aload_n 0, 197, 0, 0, 0), some (.iload 4, 199, 0, 0, 0), none, some (.invokevirtual 77, 202, 113, 1, 9), none, none, some (.if_icmp .ne 7, 205, 209, 0, 0), none, none, some (.iconst 1, 206, 0, 0, 0), some (.goto 4, 209, 210, 0, 0), none, none, some (.iconst 0, 210, 0, 0, 0), some (.ireturn, 211, 1, 0, 0), some (.aload_n 0, 212, 0, 0, 0), some (.iload_n 1, 213, 0, 0, 0), some (.iload_n 3, 214, 0, 0, 0), some (.iconst 1, 215, 0, 0, 0), some (.invokevirtual 111, 218, 136, 1, 9), none, none, some (.aload_n 0, 219, 0, 0, 0), some (.iload_n 1, 220, 0, 0, 0), some (.invokevirtual 77, 223, 113, 1, 9), none, none, some (.if_icmp .ne 23, 226, 246, 0, 0), none, none, some (.aload_n 0, 227, 0, 0, 0), some (.iload_n 1, 228, 0, 0, 0), some (.iload 4, 230, 0, 0, 0), none, some (.iconst 1, 231, 0, 0, 0), some (.invokevirtual 111, 234, 136, 1, 9), none, none, some (.aload_n 0, 235, 0, 0, 0), some (.iload_n 1, 236, 0, 0, 0), some (.invokevirtual 77, 239, 113, 1, 9), none, none, some (.if_icmp .ne 7, 242, 246, 0, 0), none, none, some (.iconst 1, 243, 0, 0, 0), some (.goto 4, 246, 247, 0, 0), none, none, some (.iconst 0, 247, 0, 0, 0), some (.ireturn, 248, 1, 0, 0), some (.aload_n 0, 249, 0, 0, 0), some (.iload_n 1, 250, 0, 0, 0), some (.iconst 1, 251, 0, 0, 0), some (.invokevirtual 114, 254, 123, 1, 9), none, none, some (.aload_n 0, 255, 0, 0, 0), some (.iload_n 1, 256, 0, 0, 0)]

set_option maxRecDepth 20000 in
noncomputable def jt_171_4 : List (Option jm_I) := [some (.iconst 4, 257, 0, 0, 0), some (.invokevirtual 108, 260, 110, 1, 9), none, none, some (.if_icmp .gt 22, 263, 282, 0, 0), none, none, some (.aload_n 0, 264, 0, 0, 0), some (.iload_n 1, 265, 0, 0, 0), some (.iload_n 3, 266, 0, 0, 0), some (.iconst 2, 267, 0, 0, 0), some (.invokevirtual 111, 270, 136, 1, 9), none, none, some (.aload_n 0, 271, 0, 0, 0), some (.iload_n 1, 272, 0, 0, 0), some (.invokevirtual 77, 275, 113, 1, 9), none, none, some (.if_icmp .ne 7, 278, 282, 0, 0), none, none, some (.iconst 1, 279, 0, 0, 0), some (.goto 4, 282, 283, 0, 0), none, none, some (.iconst 0, 283, 0, 0, 0), some (.ireturn, 284, 1, 0, 0), some (.iconst 1, 285, 0, 0, 0), some (.ireturn, 286, 1, 0, 0)]

noncomputable def jt_171 : List (List (Option jm_I)) := [jt_171_0, jt_171_1, jt_171_2, jt_171_3, jt_171_4]

noncomputable def jt_172 : List (List (Option jm_I)) := []

set_option maxRecDepth 20000 in
noncomputable def jt_173_0 : List (Option jm_I) := [some (.new 15, 3, 9, 12, 0), none, none, some (.dup, 4, 0, 0, 0), some (.invokespecial 117, 7, 0, 3, 0), none, none, some (.astore_n 1, 8, 0, 0, 0), some (.aload_n 0, 9, 0, 0, 0), some (.arraylength, 10, 0, 0, 0), some (.bipush 60, 12, 0, 0, 0), none, some (.if_icmp .ge 8, 15, 20, 0, 0), none, none, some (.aload_n 0, 16, 0, 0, 0), some (.arraylength, 17, 0, 0, 0), some (.goto 5, 20, 22, 0, 0), none, none, some (.bipush 60, 22, 0, 0, 0), none, some (.istore_n 2, 23, 0, 0, 0), some (.iconst 0, 24, 0, 0, 0), some (.istore_n 3, 25, 0, 0, 0), some (.iload_n 3, 26, 0, 0, 0), some (.iload_n 2, 27, 0, 0, 0), some (.if_icmp .ge 80, 30, 107, 0, 0), none, none, some (.aload_n 1, 31, 0, 0, 0), some (.aload_n 0, 32, 0, 0, 0), some (.iload_n 3, 33, 0, 0, 0), some (.invokestatic 118, 36, 168, 2, 0), none, none, some (.aload_n 1, 37, 0, 0, 0), some (.iconst 0, 38, 0, 0, 0), some (.invokevirtual 74, 41, 162, 1, 9), none, none, some (.ifCond .lt 58, 44, 99, 0, 0), none, none, some (.aload_n 1, 45, 0, 0, 0), some (.iconst 0, 46, 0, 0, 0), some (.invokevirtual 74, 49, 162, 1, 9), none, none, some (.bipush 60, 51, 0, 0, 0), none, some (.if_icmp .gt 48, 54, 99, 0, 0), none, none, some (.aload_n 1, 55, 0, 0, 0), some (.iconst 3, 56, 0, 0, 0), some (.invokevirtual 74, 59, 162, 1, 9), none, none, some (.bipush 24, 61, 0, 0, 0), none, some (.if_icmp .gt 38, 64, 99, 0, 0), none, none]

set_option maxRecDepth 20000 in
noncomputable def jt_173_1 : List (Option jm_I) := [some (.aload_n 1, 65, 0, 0, 0), some (.bipush 6, 67, 0, 0, 0), none, some (.invokevirtual 74, 70, 162, 1, 9), none, none, some (.ifCond .ne 29, 73, 99, 0, 0), none, none, some (.aload_n 1, 74, 0, 0, 0), some (.iconst 2, 75, 0, 0, 0), some (.invokevirtual 74, 78, 162, 1, 9), none, none, some (.aload_n 1, 79, 0, 0, 0), some (.iconst 1, 80, 0, 0, 0), some (.invokevirtual 74, 83, 162, 1, 9), none, none, some (.if_icmp .gt 16, 86, 99, 0, 0), none, none, some (.aload_n 1, 87, 0, 0, 0), some (.iconst 1, 88, 0, 0, 0), some (.invokevirtual 74, 91, 162, 1, 9), none, none, some (.aload_n 1, 92, 0, 0, 0), some (.iconst 0, 93, 0, 0, 0), some (.invokevirtual 74, 96, 162, 1, 9), none, none, some (.if_icmp .le 5, 99, 101, 0, 0), none, none, some (.iconst 0, 100, 0, 0, 0), some (.ireturn, 101, 1, 0, 0), some (.iinc 3 1, 104, 0, 0, 0), none, none, some (.goto (-79), 107, 25, 0, 0), none, none, some (.aload_n 1, 108, 0, 0, 0), some (.invokestatic 122, 111, 169, 2, 0), none, none, some (.istore_n 3, 112, 0, 0, 0), some (.aload_n 1, 113, 0, 0, 0), some (.iconst (-1), 114, 0, 0, 0), some (.iconst 0, 115, 0, 0, 0), some (.invokevirtual 126, 118, 111, 1, 9), none, none, some (.bipush (-2), 120, 0, 0, 0), none, some (.if_icmp .ne 24, 123, 144, 0, 0), none, none, some (.aload_n 1, 124, 0, 0, 0), some (.bipush 24, 126, 0, 0, 0), none, some (.invokevirtual 77, 129, 113, 1, 9), none]

set_option maxRecDepth 20000 in
noncomputable def jt_173_2 : List (Option jm_I) := [none, some (.bipush (-2), 131, 0, 0, 0), none, some (.if_icmp .ne 13, 134, 144, 0, 0), none, none, some (.aload_n 1, 135, 0, 0, 0), some (.invokestatic 122, 138, 169, 2, 0), none, none, some (.iload_n 3, 139, 0, 0, 0), some (.iconst 2, 140, 0, 0, 0), some (.iadd, 141, 0, 0, 0), some (.if_icmp .eq 5, 144, 146, 0, 0), none, none, some (.iconst 0, 145, 0, 0, 0), some (.ireturn, 146, 1, 0, 0), some (.aload_n 1, 147, 0, 0, 0), some (.iconst 3, 148, 0, 0, 0), some (.invokevirtual 74, 151, 162, 1, 9), none, none, some (.istore 4, 153, 0, 0, 0), none, some (.iconst 0, 154, 0, 0, 0), some (.istore 5, 156, 0, 0, 0), none, some (.iload 5, 158, 0, 0, 0), none, some (.iload 4, 160, 0, 0, 0), none, some (.if_icmp .ge 29, 163, 189, 0, 0), none, none, some (.aload_n 1, 164, 0, 0, 0), some (.iload 5, 166, 0, 0, 0), none, some (.invokestatic 129, 169, 170, 2, 0), none, none, some (.ifCond .eq 12, 172, 181, 0, 0), none, none, some (.aload_n 1, 173, 0, 0, 0), some (.iload 5, 175, 0, 0, 0), none, some (.invokestatic 133, 178, 171, 2, 0), none, none, some (.ifCond .ne 5, 181, 183, 0, 0), none, none, some (.iconst 0, 182, 0, 0, 0), some (.ireturn, 183, 1, 0, 0), some (.iinc 5 1, 186, 0, 0, 0), none, none, some (.goto (-30), 189, 156, 0, 0), none, none, some (.aload_n 1, 190, 0, 0, 0), some (.iconst 0, 191, 0, 0, 0), some (.invokevirtual 74, 194, 162, 1, 9)]

set_option maxRecDepth 20000 in
noncomputable def jt_173_3 : List (Option jm_I) := [none, none, some (.istore 5, 196, 0, 0, 0), none, some (.aload_n 1, 197, 0, 0, 0), some (.bipush 7, 199, 0, 0, 0), none, some (.invokevirtual 74, 202, 162, 1, 9), none, none, some (.istore 6, 204, 0, 0, 0), none, some (.aload_n 1, 205, 0, 0, 0), some (.invokevirtual 65, 208, 157, 1, 9), none, none, some (.iconst 1, 209, 0, 0, 0), some (.if_icmp .eq 5, 212, 214, 0, 0), none, none, some (.iconst 0, 213, 0, 0, 0), some (.ireturn, 214, 1, 0, 0), some (.iconst 0, 215, 0, 0, 0), some (.istore 7, 217, 0, 0, 0), none, some (.iconst 0, 218, 0, 0, 0), some (.istore 8, 220, 0, 0, 0), none, some (.iload 8, 222, 0, 0, 0), none, some (.iload 4, 224, 0, 0, 0), none, some (.if_icmp .ge 20, 227, 244, 0, 0), none, none, some (.iload 7, 229, 0, 0, 0), none, some (.aload_n 1, 230, 0, 0, 0), some (.iload 8, 232, 0, 0, 0), none, some (.invokevirtual 77, 235, 113, 1, 9), none, none, some (.iadd, 236, 0, 0, 0), some (.istore 7, 238, 0, 0, 0), none, some (.iinc 8 1, 241, 0, 0, 0), none, none, some (.goto (-21), 244, 220, 0, 0), none, none, some (.aload_n 1, 245, 0, 0, 0), some (.bipush 7, 247, 0, 0, 0), none, some (.invokevirtual 47, 250, 153, 1, 9), none, none, some (.pop, 251, 0, 0, 0), some (.aload_n 1, 252, 0, 0, 0), some (.invokevirtual 71, 255, 107, 1, 9), none, none, some (.pop, 256, 0, 0, 0)]

set_option maxRecDepth 20000 in
noncomputable def jt_173_4 : List (Option jm_I) := [some (.aload_n 1, 257, 0, 0, 0), some (.invokevirtual 68, 260, 161, 1, 9), none, none, some (.iconst 1, 261, 0, 0, 0), some (.if_icmp .ne 34, 264, 295, 0, 0), none, none, some (.aload_n 1, 265, 0, 0, 0), some (.iconst 0, 266, 0, 0, 0), some (.invokevirtual 74, 269, 162, 1, 9), none, none, some (.iload 5, 271, 0, 0, 0), none, some (.if_icmp .ne 24, 274, 295, 0, 0), none, none, some (.aload_n 1, 275, 0, 0, 0), some (.iconst 3, 276, 0, 0, 0), some (.invokevirtual 74, 279, 162, 1, 9), none, none, some (.iload 4, 281, 0, 0, 0), none, some (.if_icmp .ne 14, 284, 295, 0, 0), none, none, some (.aload_n 1, 285, 0, 0, 0), some (.bipush 7, 287, 0, 0, 0), none, some (.invokevirtual 74, 290, 162, 1, 9), none, none, some (.iload 6, 292, 0, 0, 0), none, some (.if_icmp .eq 5, 295, 297, 0, 0), none, none, some (.iconst 0, 296, 0, 0, 0), some (.ireturn, 297, 1, 0, 0), some (.iconst 0, 298, 0, 0, 0), some (.istore 8, 300, 0, 0, 0), none, some (.iload 8, 302, 0, 0, 0), none, some (.iload 4, 304, 0, 0, 0), none, some (.if_icmp .ge 20, 307, 324, 0, 0), none, none, some (.iload 7, 309, 0, 0, 0), none, some (.aload_n 1, 310, 0, 0, 0), some (.iload 8, 312, 0, 0, 0), none, some (.invokevirtual 77, 315, 113, 1, 9), none, none, some (.isub, 316, 0, 0, 0), some (.istore 7, 318, 0, 0, 0), none, some (.iinc 8 1, 321, 0, 0, 0), none]

set_option maxRecDepth 20000 in
noncomputable def jt_173_5 : List (Option jm_I) := [none, some (.goto (-21), 324, 300, 0, 0), none, none, some (.iload 7, 326, 0, 0, 0), none, some (.ifCond .ne 7, 329, 333, 0, 0), none, none, some (.iconst 1, 330, 0, 0, 0), some (.goto 4, 333, 334, 0, 0), none, none, some (.iconst 0, 334, 0, 0, 0), some (.ireturn, 335, 1, 0, 0)]

noncomputable def jt_173 : List (List (Option jm_I)) := [jt_173_0, jt_173_1, jt_173_2, jt_173_3, jt_173_4, jt_173_5]

noncomputable def jm_JT_0 : List (List (List (Option jm_I))) := [jt_0, jt_1, jt_2, jt_3, jt_4, jt_5, jt_6, jt_7, jt_8, jt_9, jt_10, jt_11, jt_12, jt_13, jt_14, jt_15]

noncomputable def jm_JT_1 : List (List (List (Option jm_I))) := [jt_16, jt_17, jt_18, jt_19, jt_20, jt_21, jt_22, jt_23, jt_24, jt_25, jt_26, jt_27, jt_28, jt_29, jt_30, jt_31]

noncomputable def jm_JT_2 : List (List (List (Option jm_I))) := [jt_32, jt_33, jt_34, jt_35, jt_36, jt_37, jt_38, jt_39, jt_40, jt_41, jt_42, jt_43, jt_44, jt_45, jt_46, jt_47]

noncomputable def jm_JT_3 : List (List (List (Option jm_I))) := [jt_48, jt_49, jt_50, jt_51, jt_52, jt_53, jt_54, jt_55, jt_56, jt_57, jt_58, jt_59, jt_60, jt_61, jt_62, jt_63]

noncomputable def jm_JT_4 : List (List (List (Option jm_I))) := [jt_64, jt_65, jt_66, jt_67, jt_68, jt_69, jt_70, jt_71, jt_72, jt_73, jt_74, jt_75, jt_76, jt_77, jt_78, jt_79]

noncomputable def jm_JT_5 : List (List (List (Option jm_I))) := [jt_80, jt_81, jt_82, jt_83, jt_84, jt_85, jt_86, jt_87, jt_88, jt_89, jt_90, jt_91, jt_92, jt_93, jt_94, jt_95]

noncomputable def jm_JT_6 : List (List (List (Option jm_I))) := [jt_96, jt_97, jt_98, jt_99, jt_100, jt_101, jt_102, jt_103, jt_104, jt_105, jt_106, jt_107, jt_108, jt_109, jt_110, jt_111]

noncomputable def jm_JT_7 : List (List (List (Option jm_I))) := [jt_112, jt_113, jt_114, jt_115, jt_116, jt_117, jt_118, jt_119, jt_120, jt_121, jt_122, jt_123, jt_124, jt_125, jt_126, jt_127]

noncomputable def jm_JT_8 : List (List (List (Option jm_I))) := [jt_128, jt_129, jt_130, jt_131, jt_132, jt_133, jt_134, jt_135, jt_136, jt_137, jt_138, jt_139, jt_140, jt_141, jt_142, jt_143]

noncomputable def jm_JT_9 : List (List (List (Option jm_I))) := [jt_144, jt_145, jt_146, jt_147, jt_148, jt_149, jt_150, jt_151, jt_152, jt_153, jt_154, jt_155, jt_156, jt_157, jt_158, jt_159]

noncomputable def jm_JT_10 : List (List (List (Option jm_I))) := [jt_160, jt_161, jt_162, jt_163, jt_164, jt_165, jt_166, jt_167, jt_168, jt_169, jt_170, jt_171, jt_172, jt_173]

noncomputable def jm_JT : List (List (List (List (Option jm_I)))) := [jm_JT_0, jm_JT_1, jm_JT_2, jm_JT_3, jm_JT_4, jm_JT_5, jm_JT_6, jm_JT_7, jm_JT_8, jm_JT_9, jm_JT_10]

noncomputable def jm_tab (mi pc : Nat) : Option jm_I := match jm_JT[mi / 16]? with
  | some g => match g[mi % 16]? with
    | some l => match l[pc / 64]? with
      | some q => match q[pc % 64]? with
        | some e => e
        | none => none
      | none => none
    | none => none
  | none => none
end
section
/-! Every row of the tables is what the class files' bytes and the Statement's words say. -/
def jm_len (i : Instr) (pc npc : Nat) : Nat := match i with
  | .bipush _ | .ldc _ | .iload _ | .lload _ | .aload _ | .istore _ | .lstore _ | .astore _ | .newarray _ => 2
  | .sipush _ | .ldc_w _ | .ldc2_w _ | .iinc _ _ | .ifCond _ _ | .if_icmp _ _ | .goto _ | .getfield _ | .putfield _ | .invokevirtual _ | .invokespecial _ | .invokestatic _ | .new _ | .anewarray _ => 3
  | .multianewarray _ _ => 4
  | .tableswitch _ _ _ _ | .lookupswitch _ _ => npc - pc
  | _ => 1
def jm_need (e : jm_I) : Option jm_K := match e.1 with
  | .getfield i | .putfield i => some (i, 0, e.2.2.1, e.2.2.2.1, e.2.2.2.2)
  | .invokevirtual i => some (i, e.2.2.2.1, e.2.2.1, 0, e.2.2.2.2)
  | .invokespecial i | .invokestatic i => some (i, e.2.2.2.1, e.2.2.1, 0, 0)
  | .new i => some (i, 7, e.2.2.1, e.2.2.2.1, 0)
  | .anewarray i => some (i, 8, e.2.2.1, 0, 0)
  | .multianewarray i _ => some (i, 9, 0, 0, 0)
  | .ldc i => some (i, (if e.2.2.1 = 1 then 16 else 10), e.2.2.1, 0, e.2.2.2.2)
  | .ldc_w i => some (i, 10, 0, 0, e.2.2.2.2)
  | .ldc2_w i => some (i, 11, 0, 0, e.2.2.2.2)
  | _ => none
def jm_tyz (t : FieldType) (z : Int) : Bool := match t with
  | .int => z == 0
  | .boolean => z == 2
  | .object _ | .array _ => z == 1
  | _ => false
/-- what a link says of itself -/
noncomputable def jm_lok (own : String) (k : jm_K) : Bool := match k.2.1 with
  | 0 => decide (k.2.2.1 < 10) && decide (k.2.2.2.1 < jm_N k.2.2.1) && jm_tyz (jm_ty k.2.2.1 k.2.2.2.1) k.2.2.2.2
  | 1 => decide (0 ≤ k.2.2.2.2) && decide (k.2.2.2.2 < 10) && decide (k.2.2.1 < 173) && (match jm_MT[k.2.2.1]? with
    | some r => decide (jm_R k.2.2.2.2.toNat = r.1.cls) && plainName r.1.cls
    | none => false)
  | 2 | 4 => decide (k.2.2.1 < 173) && (match jm_MT[k.2.2.1]? with
    | some r => plainName r.1.cls
    | none => false)
  | 3 | 5 => decide (k.2.2.1 < 173) && (match jm_MT[k.2.2.1]? with
    | some r => decide (r.1.name = "<init>") && decide (r.2.2.2.1 = none) && plainName r.1.cls
    | none => false)
  | 6 => (match jm_MT[k.2.2.1]? with
    | some r => decide (r.1 = Lib.objectInit) && decide (r.2.1.data.toList = [0xb1]) && decide (r.2.2.1 = 1) && decide (r.2.2.2.1 = none) && decide (r.2.2.2.2.1 = 0)
    | none => false)
  | 15 => (match jm_MT[k.2.2.1]? with
    | some r => decide (r.1.cls = "java/lang/String") && plainName r.1.cls
    | none => false)
  | 16 => decide (own = "LeapingPassagesLaw") && k.1 == 53
  | 7 => decide (k.2.2.1 < 10) && decide (k.2.2.2.1 = jm_N k.2.2.1)
  | _ => true
noncomputable def jm_side (q : jm_M) (pc : Nat) (e : jm_I) : Bool := match e.1 with
  | .ifCond _ off | .if_icmp _ off | .goto off => decide ((pc : Int) + off = (e.2.2.1 : Int))
  | .putfield _ => (!(jm_T e.2.2.1 e.2.2.2.1).2.2.2 || (decide (q.1.name = "<init>") && decide ((jm_T e.2.2.1 e.2.2.2.1).1 = q.1.cls)))
  | .invokevirtual _ => (e.2.2.2.1 == 1 || e.2.2.2.1 == 15)
  | .ldc _ => e.2.2.1 == 0 || e.2.2.1 == 1
  | .invokespecial _ => (e.2.2.2.1 == 6 || e.2.2.2.1 == 3 || e.2.2.2.1 == 5)
  | .invokestatic _ => (e.2.2.2.1 == 12 || e.2.2.2.1 == 13 || e.2.2.2.1 == 14 || e.2.2.2.1 == 2 || e.2.2.2.1 == 4)
  | .multianewarray _ d => d == 2
  | .lookupswitch _ ps => (ps.toList.zip (ps.toList.drop 1)).all (fun (a, next) => a.1 < next.1)
  | .ireturn => (e.2.2.1 == 0 && decide (q.2.2.2.1 = some .int)) || (e.2.2.1 == 1 && decide (q.2.2.2.1 = some .boolean))
  | .lreturn => decide (q.2.2.2.1 = some .long)
  | .areturn => (match q.2.2.2.1 with
    | some (.object _) => true
    | _ => false)
  | .return_ => decide (q.2.2.2.1 = none)
  | _ => true
def jm_keq (a b : jm_K) : Bool := a.1 == b.1 && a.2.1 == b.2.1 && a.2.2.1 == b.2.2.1 && a.2.2.2.1 == b.2.2.2.1 && a.2.2.2.2 == b.2.2.2.2
/-- the bytes from pc on, and the rows of the table from pc on -/
noncomputable def jm_lin (q : jm_M) : List (Option jm_I) → List UInt8 → Nat → Bool
  | [], _, _ => true
  | none :: t, bs, pc => jm_lin q t bs.tail (pc + 1)
  | some e :: t, bs, pc => (match Decoder.instr pc (Jvm.Free.DS.win bs pc (jm_len e.1 pc e.2.1)) (pc % 4) with
      | .ok (j, p) => decide (j = e.1) && p == pc % 4 + jm_len e.1 pc e.2.1
      | .error _ => false) && e.2.1 == pc + jm_len e.1 pc e.2.1 && (match jm_need e with
    | some k => (jm_LK q.2.2.2.2.2).any (jm_keq k)
    | none => true) && jm_side q pc e && jm_lin q t bs.tail (pc + 1)
noncomputable def jm_okm (mi : Nat) : Bool := match jm_MT[mi]? with
  | some q => decide (q.1.cls ≠ "java/lang/invoke/MethodHandle" ∧ q.1.cls ≠ "java/lang/invoke/VarHandle") && decide ((parseMethodDescriptor q.1.desc).map (fun d => d.parameters.length) = some q.2.2.2.2.1) && decide (q.2.2.1 ≤ 22) && (plainName q.1.cls || q.2.2.2.2.2 == 12 || q.2.2.2.2.2 == 14 || q.2.2.2.2.2 == 13) && decide (jm_own[q.2.2.2.2.2]? = some q.1.cls) && (match jm_JT[mi / 16]? with
    | some g => match g[mi % 16]? with
      | some l => jm_lin q l.flatten q.2.1.data.toList 0 && decide (l.flatten.length ≤ q.2.1.size) && l.dropLast.all (fun c => c.length == 64)
      | none => true
    | none => true)
  | none => false
def jm_on (o : Nat) : String := match jm_own[o]? with
  | some s => s
  | none => ""
noncomputable def jm_lw (o : Nat) (q : jm_K) : List Cond := match q.2.1 with
  | 0 => [.fieldLink (jm_on o) q.1 (jm_T q.2.2.1 q.2.2.2.1).1 (jm_T q.2.2.1 q.2.2.2.1).2.1 (jm_T q.2.2.1 q.2.2.2.1).2.2.1]
  | 1 => match jm_MT[q.2.2.1]? with
    | some r => [.methodLink (jm_on o) q.1 r.1, .instanceMethod r.1, .selects r.1.cls r.1 r.1, .initialized r.1.cls, .code r.1 r.2.1 r.2.2.1 r.2.2.2.1]
    | none => []
  | 2 => match jm_MT[q.2.2.1]? with
    | some r => [.methodLink (jm_on o) q.1 r.1, .static r.1, .initialized r.1.cls, .code r.1 r.2.1 r.2.2.1 r.2.2.2.1]
    | none => []
  | 3 => match jm_MT[q.2.2.1]? with
    | some r => [.methodLink (jm_on o) q.1 r.1, .instanceMethod r.1, .initialized r.1.cls, .code r.1 r.2.1 r.2.2.1 r.2.2.2.1]
    | none => []
  | 4 => match jm_MT[q.2.2.1]? with
    | some r => [.methodLinkNest (jm_on o) q.1 r.1 "LeapingPassages", .static r.1, .initialized r.1.cls, .code r.1 r.2.1 r.2.2.1 r.2.2.2.1]
    | none => []
  | 5 => match jm_MT[q.2.2.1]? with
    | some r => [.methodLinkNest (jm_on o) q.1 r.1 "LeapingPassages", .instanceMethod r.1, .initialized r.1.cls, .code r.1 r.2.1 r.2.2.1 r.2.2.2.1]
    | none => []
  | 6 => match jm_MT[q.2.2.1]? with
    | some r => [.methodLink (jm_on o) q.1 r.1, .instanceMethod r.1, .code r.1 r.2.1 r.2.2.1 r.2.2.2.1]
    | none => []
  | 7 => [.classLink (jm_on o) q.1 (jm_R q.2.2.1), .instantiable (jm_R q.2.2.1) (jm_N q.2.2.1), .initialized (jm_R q.2.2.1)]
  | 8 => [.classLink (jm_on o) q.1 (match q.2.2.1 with | 0 => "LeapingPassages$Shelf" | 1 => "LeapingPassages$Ask" | _ => "LeapingPassages$Spans"), .arrayOver (.object (match q.2.2.1 with | 0 => "LeapingPassages$Shelf" | 1 => "LeapingPassages$Ask" | _ => "LeapingPassages$Spans"))]
  | 15 => match jm_MT[q.2.2.1]? with
    | some r => [.methodLink (jm_on o) q.1 r.1, .instanceMethod r.1, .selects r.1.cls r.1 r.1, .initialized r.1.cls, .code r.1 r.2.1 r.2.2.1 r.2.2.2.1]
    | none => []
  | 16 | 9 => []
  | 10 => [.constant (jm_on o) q.1 (Int32.ofInt q.2.2.2.2)]
  | 11 => [.constantLong (jm_on o) q.1 (Int64.ofInt q.2.2.2.2)]
  | 13 => [.methodLink (jm_on o) q.1 Lib.Math.max.name, .static Lib.Math.max.name, .initialized "java/lang/Math", .code Lib.Math.max.name Lib.Math.max.code 2 (some .int)]
  | 14 => [.methodLink (jm_on o) q.1 Lib.Math.min.name, .static Lib.Math.min.name, .initialized "java/lang/Math", .code Lib.Math.min.name Lib.Math.min.code 2 (some .int)]
  | _ => [.methodLink (jm_on o) q.1 arraycopyName, .native arraycopyName, .static arraycopyName, .initialized "java/lang/System"]
noncomputable def jm_tc : List (List Cond) := [k2_sels lw_privs, tables_1_1, tables_1_2, tables_1_3, tables_1_4]
theorem jm_tc_in : ∀ l ∈ jm_tc, ∀ w ∈ l, w ∈ lw_tbl := by
  intro l hl w hw
  simp only [jm_tc, List.mem_cons, List.not_mem_nil, or_false] at hl
  simp only [lw_tbl, tables_1, List.mem_append]
  rcases hl with h | h | h | h | h <;> subst h <;> simp only [hw, true_or, or_true]
noncomputable def jm_tw (p : Nat × Nat) : Option Cond := match jm_tc[p.1]? with
  | some l => l[p.2]?
  | none => none
theorem jm_tw_in {p : Nat × Nat} {w : Cond} (h : jm_tw p = some w) : w ∈ lw_tbl := by
  unfold jm_tw at h
  split at h
  · rename_i l hl
    exact jm_tc_in l (List.mem_of_getElem? hl) w (List.mem_of_getElem? h)
  · cases h
theorem jm_lwk {o : Nat} {l : List jm_K} {ps : List (List (Nat × Nat))} (h : l.map (jm_lw o) = ps.map (fun r => r.filterMap jm_tw)) : ∀ q ∈ l, ∀ w ∈ jm_lw o q, w ∈ lw_tbl := by
  intro q hq w hw
  have hm : jm_lw o q ∈ l.map (jm_lw o) := List.mem_map.mpr ⟨q, hq, rfl⟩
  rw [h] at hm
  obtain ⟨r, -, hr⟩ := List.mem_map.mp hm
  rw [← hr] at hw
  obtain ⟨p, -, hp⟩ := List.mem_filterMap.mp hw
  exact jm_tw_in hp
set_option maxRecDepth 100000 in
theorem jm_lkw0 : ∀ q ∈ jm_lk0, ∀ w ∈ jm_lw 0 q, w ∈ lw_tbl := jm_lwk (ps := [[(1, 24), (1, 25), (1, 26)], [(1, 27), (1, 28), (1, 2)], [(1, 29), (1, 30), (1, 2), (1, 31)], [(2, 38)], [(2, 39)], [(1, 57), (1, 58), (1, 3)], [(1, 59), (1, 60), (1, 3), (1, 61)], [(2, 40)], [(2, 41)], [(1, 137), (1, 138), (1, 5)], [(1, 139), (1, 140), (1, 5), (1, 141)], [(2, 42)], [(1, 201), (1, 145), (1, 6)], [(1, 202), (1, 147), (1, 6), (1, 148)], [(2, 43)], [(2, 44)], [(1, 203), (1, 204), (1, 8)], [(1, 205), (1, 206), (1, 8), (1, 207)], [(2, 45)], [(1, 219), (1, 220), (1, 9)], [(1, 221), (1, 222), (1, 9), (1, 223)], [(2, 46)], [(2, 17), (2, 18)], [(2, 47)], [(2, 48)], [(2, 17), (2, 19), (1, 10)], [(2, 20), (2, 21), (1, 10), (2, 22)], [(4, 87), (4, 88), (1, 1), (4, 89)], [(2, 79), (2, 81), (0, 0), (1, 1), (2, 82)], [(4, 90), (4, 91), (4, 92), (1, 10), (4, 93)], [(4, 101), (4, 103), (0, 27), (1, 1), (4, 104)], [(4, 113), (4, 114), (4, 115), (1, 10), (4, 116)], [(2, 25)], [(2, 29)], [(4, 117), (4, 118), (1, 1), (4, 119)], [(4, 105), (4, 106), (4, 107), (1, 10), (4, 108)], [(4, 109), (4, 110), (4, 111), (1, 10), (4, 112)], [(2, 27)], [(3, 58), (3, 59), (1, 1), (3, 60)], [(1, 42)], [(3, 61), (2, 222), (2, 223), (1, 2), (2, 224)], [(2, 233), (2, 234), (2, 235), (1, 5), (2, 236)], [(3, 66), (2, 230), (2, 231), (1, 2), (2, 232)], [(3, 67), (2, 226), (2, 227), (1, 2), (2, 228)], [(2, 95), (2, 96), (2, 97), (1, 2), (2, 98)], [(1, 35)], [(1, 39)], [(1, 213)], [(3, 138), (3, 139), (3, 140), (1, 8), (3, 141)], [(3, 187), (3, 188), (3, 189), (1, 9), (3, 190)], [(4, 16), (4, 18), (0, 26), (1, 1), (4, 19)], [(1, 235)], [(1, 131)], [(3, 72), (3, 74), (0, 11), (1, 1), (3, 75)], [(3, 76), (3, 77), (3, 78), (1, 3), (3, 79)], [(3, 80), (3, 81), (3, 82), (1, 3), (3, 83)], [(3, 88), (3, 89), (3, 90), (1, 3), (3, 91)], [(3, 96), (3, 97), (1, 1), (3, 98)], [(2, 111), (2, 112), (2, 113), (1, 3), (2, 114)], [(3, 99), (3, 101), (0, 12), (1, 1), (3, 102)], [(3, 103), (3, 104), (3, 105), (1, 3), (3, 106)], [(2, 83), (2, 84), (2, 85), (1, 5), (2, 86)], [(2, 87), (2, 89), (0, 1), (1, 1), (2, 90)], [(1, 128)], [(1, 72)], [(1, 76)], [(1, 80)], [(1, 84)], [(1, 87)], [(1, 95)], [(1, 97)], [(1, 100)], [(1, 37)], [(2, 99), (2, 100), (2, 101), (1, 2), (2, 102)], [(2, 103), (2, 104), (2, 105), (1, 2), (2, 106)], [(2, 115), (2, 116), (2, 117), (1, 5), (2, 118)], [(1, 161)], [(4, 31), (2, 174), (2, 175), (1, 6), (2, 176)], [(4, 32), (4, 33), (4, 34), (1, 6), (4, 35)], [(4, 40), (2, 181), (1, 11), (2, 182)], [(4, 41), (2, 184), (1, 11), (2, 185)], [(4, 42), (2, 166), (2, 167), (1, 6), (2, 168)], [(4, 43), (4, 44), (4, 45), (1, 6), (4, 46)], [(4, 47), (4, 48), (4, 49), (1, 6), (4, 50)], [(4, 153), (2, 151), (2, 152), (1, 6), (2, 153)], [(4, 55), (4, 56), (4, 57), (1, 6), (4, 58)], [(4, 59), (4, 60), (4, 61), (1, 6), (4, 62)], [(4, 67), (2, 170), (2, 171), (1, 6), (2, 172)], [(4, 144), (4, 145), (4, 146), (1, 6), (4, 147)], [(4, 82), (2, 197), (2, 198), (1, 5), (2, 199)], [(4, 72), (4, 73), (4, 74), (1, 6), (4, 75)], [(4, 124), (4, 125), (4, 126), (1, 10), (4, 127)], [(2, 212), (2, 213), (2, 214), (1, 2), (2, 215)], [(3, 1), (3, 2), (3, 3), (1, 2), (3, 4)], [(3, 8), (3, 9), (3, 10), (1, 3), (3, 11)], [(2, 49)], [(3, 24), (3, 25), (3, 26), (1, 2), (3, 27)], [(3, 29), (3, 30), (3, 31), (1, 2), (3, 32)], [(3, 39), (3, 40), (3, 41), (1, 2), (3, 42)], [(1, 44)], [(3, 43), (3, 45), (0, 10), (1, 1), (3, 46)]]) rfl
set_option maxRecDepth 100000 in
theorem jm_lkw1 : ∀ q ∈ jm_lk1, ∀ w ∈ jm_lw 1 q, w ∈ lw_tbl := jm_lwk (ps := [[(1, 69), (1, 25), (1, 26)], [(1, 70)], [(1, 85)], [(1, 73)], [(1, 77)], [(1, 81)], [(1, 88)], [(1, 91)], [(1, 94)], [(1, 96)], [(1, 98)], [(1, 101)], [(3, 111)], [(3, 112), (2, 181), (1, 11), (2, 182)], [(3, 113), (2, 184), (1, 11), (2, 185)]]) rfl
set_option maxRecDepth 100000 in
theorem jm_lkw2 : ∀ q ∈ jm_lk2, ∀ w ∈ jm_lw 2 q, w ∈ lw_tbl := jm_lwk (ps := [[(1, 224), (1, 25), (1, 26)], [(1, 227)], [(1, 228)], [(1, 225)], [(1, 226)], [(1, 229)], [(1, 230)], [(1, 231)], [(1, 232)], [(1, 233)], [(1, 130)], [(1, 234)], [(1, 212)], [(1, 210)], [(3, 191), (3, 193), (0, 13), (1, 9), (3, 194)], [(3, 219), (3, 221), (0, 19), (1, 9), (3, 222)], [(3, 226), (3, 228), (0, 20), (1, 9), (3, 229)], [(3, 195), (3, 196), (1, 8), (3, 197)], [(3, 198), (3, 200), (0, 14), (1, 9), (3, 201)], [(3, 207), (3, 209), (0, 16), (1, 9), (3, 210)], [(3, 211), (3, 213), (0, 17), (1, 9), (3, 214)], [(3, 215), (3, 217), (0, 18), (1, 9), (3, 218)], [(3, 202), (3, 81), (3, 82), (1, 3), (3, 83)], [(3, 203), (3, 205), (0, 15), (1, 9), (3, 206)], [(3, 223), (3, 224), (1, 9), (3, 225)], [(4, 8), (4, 10), (0, 24), (1, 9), (4, 11)], [(4, 12), (4, 14), (0, 25), (1, 9), (4, 15)], [(3, 230), (3, 231), (1, 9), (3, 232)], [(3, 234), (3, 236), (0, 21), (1, 9), (3, 237)], [(3, 238), (3, 97), (1, 1), (3, 98)], [(3, 239), (4, 1), (0, 22), (1, 9), (4, 2)], [(4, 3), (4, 5), (0, 23), (1, 9), (4, 6)], [(3, 233), (2, 181), (1, 11), (2, 182)], [(4, 7), (3, 104), (3, 105), (1, 3), (3, 106)]]) rfl
set_option maxRecDepth 100000 in
theorem jm_lkw3 : ∀ q ∈ jm_lk3, ∀ w ∈ jm_lw 3 q, w ∈ lw_tbl := jm_lwk (ps := [[(1, 62), (1, 25), (1, 26)], [(1, 63), (1, 64)], [(1, 126)], [(1, 63), (1, 65), (1, 4)], [(1, 66), (1, 67), (1, 4), (1, 68)], [(1, 129)], [(3, 84), (3, 85), (3, 86), (1, 4), (3, 87)], [(1, 89)], [(1, 92)], [(1, 99)], [(1, 74)], [(1, 78)], [(1, 82)], [(3, 107), (3, 108), (3, 109), (1, 4), (3, 110)], [(3, 12), (3, 13), (3, 14), (1, 4), (3, 15)]]) rfl
set_option maxRecDepth 100000 in
theorem jm_lkw4 : ∀ q ∈ jm_lk4, ∀ w ∈ jm_lw 4 q, w ∈ lw_tbl := jm_lwk (ps := [[(1, 174), (1, 25), (1, 26)], [(1, 175)], [(2, 158), (2, 159), (1, 18), (2, 160)], [(2, 190), (2, 181), (1, 11), (2, 182)], [(1, 157)], [(2, 195), (2, 134), (2, 135), (1, 6), (2, 136)]]) rfl
set_option maxRecDepth 100000 in
theorem jm_lkw5 : ∀ q ∈ jm_lk5, ∀ w ∈ jm_lw 5 q, w ∈ lw_tbl := jm_lwk (ps := [[(1, 142), (1, 25), (1, 26)], [(1, 143), (1, 144)], [(1, 181)], [(1, 143), (1, 145), (1, 6)], [(1, 146), (1, 147), (1, 6), (1, 148)], [(1, 182)], [(1, 169), (1, 170), (1, 7)], [(1, 171), (1, 172), (1, 7), (1, 173)], [(1, 183)], [(1, 185)], [(1, 179)], [(1, 180)], [(2, 119), (2, 112), (2, 113), (1, 3), (2, 114)], [(1, 127)], [(1, 102)], [(1, 184)], [(2, 120), (2, 122), (0, 2), (1, 5), (2, 123)], [(1, 71)], [(2, 124), (2, 126), (0, 3), (1, 5), (2, 127)], [(1, 86)], [(2, 137), (2, 138), (2, 139), (1, 2), (2, 140)], [(1, 75)], [(2, 142), (2, 144), (0, 5), (1, 5), (2, 145)], [(2, 146), (2, 148), (0, 6), (1, 5), (2, 149)], [(2, 154), (2, 155), (2, 156), (1, 7), (2, 157)], [(1, 79)], [(1, 83)], [(2, 161), (2, 163), (0, 7), (1, 5), (2, 164)], [(2, 191), (2, 192), (2, 193), (1, 7), (2, 194)], [(2, 196), (2, 197), (2, 198), (1, 5), (2, 199)], [(1, 159)], [(1, 93)], [(1, 41)], [(1, 90)], [(2, 128), (2, 130), (0, 4), (1, 5), (2, 131)], [(2, 133), (2, 134), (2, 135), (1, 6), (2, 136)], [(1, 34)], [(2, 132), (2, 104), (2, 105), (1, 2), (2, 106)], [(2, 150), (2, 151), (2, 152), (1, 6), (2, 153)], [(1, 152)], [(1, 155)], [(2, 165), (2, 166), (2, 167), (1, 6), (2, 168)], [(2, 169), (2, 170), (2, 171), (1, 6), (2, 172)], [(2, 177), (2, 178), (1, 5), (2, 179)], [(2, 186), (2, 187), (2, 188), (1, 7), (2, 189)], [(2, 180), (2, 181), (1, 11), (2, 182)], [(2, 183), (2, 184), (1, 11), (2, 185)], [(2, 200), (2, 202), (0, 8), (1, 5), (2, 203)], [(2, 204), (2, 206), (0, 9), (1, 5), (2, 207)]]) rfl
set_option maxRecDepth 100000 in
theorem jm_lkw6 : ∀ q ∈ jm_lk6, ∀ w ∈ jm_lw 6 q, w ∈ lw_tbl := jm_lwk (ps := [[(2, 23), (1, 25), (1, 26)], [(2, 24)], [(2, 28)], [(4, 94), (4, 95), (1, 18), (4, 96)], [(2, 26)], [(4, 128), (4, 129), (4, 130), (1, 10), (4, 131)], [(4, 132), (2, 174), (2, 175), (1, 6), (2, 176)], [(1, 151)], [(1, 154)], [(1, 158)]]) rfl
set_option maxRecDepth 100000 in
theorem jm_lkw7 : ∀ q ∈ jm_lk7, ∀ w ∈ jm_lw 7 q, w ∈ lw_tbl := jm_lwk (ps := [[(1, 149), (1, 25), (1, 26)], [(1, 150)], [(1, 153)], [(1, 156)], [(2, 173), (2, 174), (2, 175), (1, 6), (2, 176)], [(4, 148), (2, 166), (2, 167), (1, 6), (2, 168)], [(4, 77), (4, 33), (4, 34), (1, 6), (4, 35)], [(4, 76), (2, 181), (1, 11), (2, 182)]]) rfl
set_option maxRecDepth 100000 in
theorem jm_lkw8 : ∀ q ∈ jm_lk8, ∀ w ∈ jm_lw 8 q, w ∈ lw_tbl := jm_lwk (ps := [[(1, 208), (1, 25), (1, 26)], [(1, 209)], [(1, 211)]]) rfl
set_option maxRecDepth 100000 in
theorem jm_lkw9 : ∀ q ∈ jm_lk9, ∀ w ∈ jm_lw 9 q, w ∈ lw_tbl := jm_lwk (ps := [[(1, 32), (1, 25), (1, 26)], [(1, 33)], [(1, 36)], [(1, 38)], [(1, 43)], [(1, 160)], [(1, 40)], [(2, 141), (2, 134), (2, 135), (1, 6), (2, 136)], [(3, 28), (2, 100), (2, 101), (1, 2), (2, 102)], [(2, 216), (2, 217), (2, 218), (1, 2), (2, 219)], [(2, 221), (2, 222), (2, 223), (1, 2), (2, 224)], [(2, 225), (2, 226), (2, 227), (1, 2), (2, 228)], [(2, 229), (2, 230), (2, 231), (1, 2), (2, 232)], [(2, 220)], [(3, 5), (3, 7), (3, 6), (1, 16)], [(3, 33), (3, 34), (1, 17), (3, 35)]]) rfl
set_option maxRecDepth 100000 in
theorem jm_lkw10 : ∀ q ∈ jm_lk10, ∀ w ∈ jm_lw 10 q, w ∈ lw_tbl := jm_lwk (ps := [[(3, 53)], [(3, 50), (3, 51), (1, 0), (3, 52)], [(3, 54), (3, 55), (3, 56), (1, 1), (3, 57)], [(3, 62), (3, 63), (3, 64), (1, 1), (3, 65)], [(3, 68), (3, 69), (3, 70), (1, 1), (3, 71)], [(3, 92), (3, 93), (3, 94), (1, 1), (3, 95)], [(3, 114), (3, 115), (3, 116), (1, 1), (3, 117)], [(3, 118), (3, 119), (3, 120), (1, 1), (3, 121)], [(3, 122), (3, 123), (3, 124), (1, 1), (3, 125)], [(3, 126), (3, 127), (3, 128), (1, 1), (3, 129)], [(3, 130), (3, 131), (3, 132), (1, 1), (3, 133)], [(2, 208), (2, 209), (2, 210), (1, 1), (2, 211)], [(3, 134), (3, 135), (3, 136), (1, 1), (3, 137)], [], [(3, 143), (3, 144), (3, 145), (1, 12), (3, 146)], [(3, 183), (3, 184), (3, 185), (1, 1), (3, 186)], [(2, 237), (2, 238), (2, 239), (1, 1), (3, 0)], [(3, 16), (3, 17), (3, 18), (1, 1), (3, 19)], [(2, 75), (2, 76), (2, 77), (1, 1), (2, 78)], [(3, 20), (3, 21), (3, 22), (1, 1), (3, 23)], [(2, 107), (2, 108), (2, 109), (1, 1), (2, 110)], [(4, 27), (4, 28), (4, 29), (1, 1), (4, 30)], [(4, 36), (4, 37), (4, 38), (1, 1), (4, 39)], [(4, 51), (4, 52), (4, 53), (1, 1), (4, 54)], [(4, 63), (4, 64), (4, 65), (1, 1), (4, 66)], [(4, 68), (4, 69), (4, 70), (1, 1), (4, 71)], [(4, 78), (4, 79), (4, 80), (1, 1), (4, 81)], [(4, 83), (4, 84), (4, 85), (1, 1), (4, 86)], [(4, 97), (4, 98), (4, 99), (1, 1), (4, 100)], [(4, 120), (4, 121), (4, 122), (1, 1), (4, 123)], [(4, 136), (4, 137), (4, 138), (1, 1), (4, 139)], [(4, 140), (4, 141), (4, 142), (1, 1), (4, 143)], [(4, 149), (4, 150), (4, 151), (1, 1), (4, 152)], [(1, 19), (1, 20), (1, 1)], [(1, 21), (1, 22), (1, 1), (1, 23)], [(3, 47), (3, 48), (1, 0), (3, 49)], [(4, 21), (4, 22), (1, 0), (4, 23)], [(2, 91), (2, 92), (2, 93), (1, 1), (2, 94)], [(4, 24), (4, 25), (1, 0), (4, 26)], [(4, 133), (4, 134), (1, 0), (4, 135)]]) rfl
set_option maxRecDepth 100000 in
theorem jm_lkw11 : ∀ q ∈ jm_lk11, ∀ w ∈ jm_lw 11 q, w ∈ lw_tbl := jm_lwk (ps := []) rfl
set_option maxRecDepth 100000 in
theorem jm_lkw12 : ∀ q ∈ jm_lk12, ∀ w ∈ jm_lw 12 q, w ∈ lw_tbl := jm_lwk (ps := [[(3, 36)], [(3, 37)], [(3, 38)]]) rfl
theorem jm_lk_in (o : Nat) : ∀ q ∈ jm_LK o, ∀ w ∈ jm_lw o q, w ∈ lw_tbl := by
  intro q hq w hw
  unfold jm_LK at hq
  split at hq
  · exact jm_lkw0 q hq w hw
  · exact jm_lkw1 q hq w hw
  · exact jm_lkw2 q hq w hw
  · exact jm_lkw3 q hq w hw
  · exact jm_lkw4 q hq w hw
  · exact jm_lkw5 q hq w hw
  · exact jm_lkw6 q hq w hw
  · exact jm_lkw7 q hq w hw
  · exact jm_lkw8 q hq w hw
  · exact jm_lkw9 q hq w hw
  · exact jm_lkw10 q hq w hw
  · exact jm_lkw11 q hq w hw
  · exact jm_lkw12 q hq w hw
  · cases hq
set_option maxRecDepth 100000 in
theorem jm_loks : ((List.range 13).all fun o => (jm_LK o).all (jm_lok (jm_on o))) = true := by decide +kernel
set_option maxRecDepth 100000 in
set_option maxHeartbeats 4000000 in
theorem jm_okg0 : ((List.range 16).all fun j => jm_okm (0 + j)) = true := by decide +kernel
set_option maxRecDepth 100000 in
set_option maxHeartbeats 4000000 in
theorem jm_okg1 : ((List.range 16).all fun j => jm_okm (16 + j)) = true := by decide +kernel
set_option maxRecDepth 100000 in
set_option maxHeartbeats 4000000 in
theorem jm_okg2 : ((List.range 16).all fun j => jm_okm (32 + j)) = true := by decide +kernel
set_option maxRecDepth 100000 in
set_option maxHeartbeats 4000000 in
theorem jm_okg3 : ((List.range 16).all fun j => jm_okm (48 + j)) = true := by decide +kernel
set_option maxRecDepth 100000 in
set_option maxHeartbeats 4000000 in
theorem jm_okg4 : ((List.range 16).all fun j => jm_okm (64 + j)) = true := by decide +kernel
set_option maxRecDepth 100000 in
set_option maxHeartbeats 4000000 in
theorem jm_okg5 : ((List.range 16).all fun j => jm_okm (80 + j)) = true := by decide +kernel
set_option maxRecDepth 100000 in
set_option maxHeartbeats 4000000 in
theorem jm_okg6 : ((List.range 16).all fun j => jm_okm (96 + j)) = true := by decide +kernel
set_option maxRecDepth 100000 in
set_option maxHeartbeats 4000000 in
theorem jm_okg7 : ((List.range 16).all fun j => jm_okm (112 + j)) = true := by decide +kernel
set_option maxRecDepth 100000 in
set_option maxHeartbeats 4000000 in
theorem jm_okg8 : ((List.range 16).all fun j => jm_okm (128 + j)) = true := by decide +kernel
set_option maxRecDepth 100000 in
set_option maxHeartbeats 4000000 in
theorem jm_okg9 : ((List.range 16).all fun j => jm_okm (144 + j)) = true := by decide +kernel
set_option maxRecDepth 100000 in
set_option maxHeartbeats 4000000 in
theorem jm_okg10 : ((List.range 14).all fun j => jm_okm (160 + j)) = true := by decide +kernel
theorem jm_okm_all : ∀ mi, mi < 174 → jm_okm mi = true := by
  intro mi h
  have key : ∀ (n g : Nat), ((List.range n).all fun j => jm_okm (g + j)) = true → g ≤ mi → mi < g + n → jm_okm mi = true := fun n g h h1 h2 => by
    have := List.all_eq_true.mp h (mi - g) (List.mem_range.mpr (by omega))
    rwa [show g + (mi - g) = mi by omega] at this
  by_cases h0 : mi < 16
  · exact key _ _ jm_okg0 (by omega) (by omega)
  by_cases h1 : mi < 32
  · exact key _ _ jm_okg1 (by omega) (by omega)
  by_cases h2 : mi < 48
  · exact key _ _ jm_okg2 (by omega) (by omega)
  by_cases h3 : mi < 64
  · exact key _ _ jm_okg3 (by omega) (by omega)
  by_cases h4 : mi < 80
  · exact key _ _ jm_okg4 (by omega) (by omega)
  by_cases h5 : mi < 96
  · exact key _ _ jm_okg5 (by omega) (by omega)
  by_cases h6 : mi < 112
  · exact key _ _ jm_okg6 (by omega) (by omega)
  by_cases h7 : mi < 128
  · exact key _ _ jm_okg7 (by omega) (by omega)
  by_cases h8 : mi < 144
  · exact key _ _ jm_okg8 (by omega) (by omega)
  by_cases h9 : mi < 160
  · exact key _ _ jm_okg9 (by omega) (by omega)
  by_cases h10 : mi < 174
  · exact key _ _ jm_okg10 (by omega) (by omega)
  omega
end
section
/-! A small machine of our own over an abstract heap: a cell is a kind, a length and its references; ints and longs stand beside, by cell and place.
kinds: 1 an int array, 2 a long array, 3, 4, 5 arrays of Shelf, Ask, Spans, 6 an array of long arrays, 10 + c an object of class c. A reference is the cell's number; the script is 'retAddr'. -/
abbrev jm_S : Type := Nat × Nat × (Nat → Option Nat)
abbrev jm_H : Type := List jm_S × (Nat → Nat → Int32) × (Nat → Nat → Int64)
abbrev jm_L : Type := List (Option Value)
abbrev jm_C : Type := Nat × jm_L × List Value × jm_H
abbrev jm_O : Type := Option Value × jm_H
abbrev jm_E : Type := Nat → List Value → jm_H → Option jm_O
def jm_up {α : Type} (f : Nat → Nat → α) (a k : Nat) (v : α) : Nat → Nat → α := fun x y => if x = a ∧ y = k then v else f x y
def jm_row {α : Type} (f : Nat → Nat → α) (a : Nat) (g : Nat → α) : Nat → Nat → α := fun x => if x = a then g else f x
def jm_ref (r : Option Nat) : Value := match r with
  | some a => .ref a
  | none => .null
def jm_nx (pc : Nat) (ls : jm_L) (st : List Value) (H : jm_H) : Option (jm_C ⊕ jm_O) := some (.inl (pc, ls, st, H))
def jm_kd (H : jm_H) (a : Nat) : Nat := match H.1[a]? with
  | some s => s.1
  | none => 0
def jm_ln (H : jm_H) (a : Nat) : Nat := match H.1[a]? with
  | some s => s.2.1
  | none => 0
def jm_rf (H : jm_H) (a k : Nat) : Option Nat := match H.1[a]? with
  | some s => s.2.2 k
  | none => none
def jm_cat (st : List Value) : Nat := (st.map fun v => v.category).sum
noncomputable def jm_np (mi : Nat) : Nat := match jm_MT[mi]? with
  | some q => q.2.2.2.2.1
  | none => 0
/-- storing into a local: a long behind whose first half it goes is forgotten -/
def jm_st1 (ls : jm_L) (i : Nat) (v : Value) : Option jm_L :=
  if i < ls.length then
    match i with
    | 0 => some (ls.set 0 (some v))
    | j + 1 => match ls[j]? with
      | some (some (.long _)) => some ((ls.set (j + 1) (some v)).set j none)
      | some (some (.double _)) => none
      | _ => some (ls.set (j + 1) (some v))
  else none
def jm_st2 (ls : jm_L) (i : Nat) (v : Value) : Option jm_L :=
  if i + 1 < ls.length then
    match i with
    | 0 => some ((ls.set 0 (some v)).set 1 none)
    | j + 1 => match ls[j]? with
      | some (some (.long _)) => some (((ls.set (j + 1) (some v)).set (j + 2) none).set j none)
      | some (some (.double _)) => none
      | _ => some ((ls.set (j + 1) (some v)).set (j + 2) none)
  else none
def jm_sto (npc : Nat) (o : Option jm_L) (st : List Value) (H : jm_H) : Option (jm_C ⊕ jm_O) := match o with
  | some ls => jm_nx npc ls st H
  | none => none
def jm_call (npc : Nat) (ls : jm_L) (r : List Value) (o : Option jm_O) : Option (jm_C ⊕ jm_O) := match o with
  | some q => jm_nx npc ls (q.1.toList ++ r) q.2
  | none => none
def jm_jmp (pc : Nat) (off : Int) (ls : jm_L) (st : List Value) (H : jm_H) : Option (jm_C ⊕ jm_O) := if 0 ≤ (pc : Int) + off then jm_nx ((pc : Int) + off).toNat ls st H else none
def jm_ifb (p : Prop) (i : Decidable p) (a b : Nat) (ls : jm_L) (st : List Value) (H : jm_H) : Option (jm_C ⊕ jm_O) := if p then jm_nx a ls st H else jm_nx b ls st H
def jm_new (H : jm_H) (s : jm_S) : jm_H := (H.1 ++ [s], jm_row H.2.1 H.1.length (fun _ => 0), jm_row H.2.2 H.1.length (fun _ => 0))
def jm_newg (H : jm_H) (n k : Nat) : jm_H := (H.1 ++ [(6, n, fun i => if i < n then some (H.1.length + 1 + i) else none)] ++ List.replicate n (2, k, fun _ => none), (fun x => if H.1.length ≤ x then fun _ => 0 else H.2.1 x), (fun x => if H.1.length ≤ x then fun _ => 0 else H.2.2 x))
/-- the kind of what an array of references of this kind holds -/
def jm_ek (k : Nat) : Nat := if k = 3 then 15 else if k = 4 then 10 else 16
/-- one instruction: the next configuration, or the answer. xs, L: the script; E: what a call does -/
noncomputable def jm_stp (xs : Nat → Int32) (L : Nat) (E : jm_E) (e : jm_I) (pc : Nat) (ls : jm_L) (st : List Value) (H : jm_H) : Option (jm_C ⊕ jm_O) :=
  match e.1 with
  | .iconst n => jm_nx e.2.1 ls (.int (Int32.ofInt n) :: st) H
  | .bipush n => jm_nx e.2.1 ls (.int (Int8.ofInt n).toInt32 :: st) H
  | .sipush n => jm_nx e.2.1 ls (.int (Int16.ofInt n).toInt32 :: st) H
  | .lconst n => jm_nx e.2.1 ls (.long (Int64.ofNat (n : Nat)) :: st) H
  | .ldc _ => if e.2.2.1 = 1 then jm_nx e.2.1 ls (.retAddr 1 :: st) H else jm_nx e.2.1 ls (.int (Int32.ofInt e.2.2.2.2) :: st) H
  | .ldc_w _ => jm_nx e.2.1 ls (.int (Int32.ofInt e.2.2.2.2) :: st) H
  | .ldc2_w _ => jm_nx e.2.1 ls (.long (Int64.ofInt e.2.2.2.2) :: st) H
  | .iload_n k => match ls[(k : Nat)]? with
    | some (some (.int x)) => jm_nx e.2.1 ls (.int x :: st) H
    | _ => none
  | .iload k => match ls[k]? with
    | some (some (.int x)) => jm_nx e.2.1 ls (.int x :: st) H
    | _ => none
  | .lload_n k => match ls[(k : Nat)]? with
    | some (some (.long x)) => jm_nx e.2.1 ls (.long x :: st) H
    | _ => none
  | .lload k => match ls[k]? with
    | some (some (.long x)) => jm_nx e.2.1 ls (.long x :: st) H
    | _ => none
  | .aload_n k => match ls[(k : Nat)]? with
    | some (some (.ref x)) => jm_nx e.2.1 ls (.ref x :: st) H
    | some (some (.retAddr x)) => jm_nx e.2.1 ls (.retAddr x :: st) H
    | _ => none
  | .aload k => match ls[k]? with
    | some (some (.ref x)) => jm_nx e.2.1 ls (.ref x :: st) H
    | _ => none
  | .istore_n k => match st with
    | .int x :: r => jm_sto e.2.1 (jm_st1 ls (k : Nat) (.int x)) r H
    | _ => none
  | .istore k => match st with
    | .int x :: r => jm_sto e.2.1 (jm_st1 ls k (.int x)) r H
    | _ => none
  | .lstore k => match st with
    | .long x :: r => jm_sto e.2.1 (jm_st2 ls k (.long x)) r H
    | _ => none
  | .astore_n k => match st with
    | .ref x :: r => jm_sto e.2.1 (jm_st1 ls (k : Nat) (.ref x)) r H
    | _ => none
  | .astore k => match st with
    | .ref x :: r => jm_sto e.2.1 (jm_st1 ls k (.ref x)) r H
    | _ => none
  | .iinc k n => match ls[k]? with
    | some (some (.int x)) => jm_sto e.2.1 (jm_st1 ls k (.int (x + Int32.ofInt n))) st H
    | _ => none
  | .iadd => match st with
    | .int y :: .int x :: r => jm_nx e.2.1 ls (.int (x + y) :: r) H
    | _ => none
  | .isub => match st with
    | .int y :: .int x :: r => jm_nx e.2.1 ls (.int (x - y) :: r) H
    | _ => none
  | .imul => match st with
    | .int y :: .int x :: r => jm_nx e.2.1 ls (.int (x * y) :: r) H
    | _ => none
  | .iand => match st with
    | .int y :: .int x :: r => jm_nx e.2.1 ls (.int (x &&& y) :: r) H
    | _ => none
  | .ior => match st with
    | .int y :: .int x :: r => jm_nx e.2.1 ls (.int (x ||| y) :: r) H
    | _ => none
  | .ixor => match st with
    | .int y :: .int x :: r => jm_nx e.2.1 ls (.int (x ^^^ y) :: r) H
    | _ => none
  | .ishl => match st with
    | .int y :: .int x :: r => jm_nx e.2.1 ls (.int (x <<< (y &&& 31)) :: r) H
    | _ => none
  | .ishr => match st with
    | .int y :: .int x :: r => jm_nx e.2.1 ls (.int (x >>> (y &&& 31)) :: r) H
    | _ => none
  | .iushr => match st with
    | .int y :: .int x :: r => jm_nx e.2.1 ls (.int (x.toUInt32 >>> (y.toUInt32 &&& Int32.toUInt32 31)).toInt32 :: r) H
    | _ => none
  | .idiv => match st with
    | .int y :: .int x :: r => if y = 0 then none else jm_nx e.2.1 ls (.int (x / y) :: r) H
    | _ => none
  | .irem => match st with
    | .int y :: .int x :: r => if y = 0 then none else jm_nx e.2.1 ls (.int (x - x / y * y) :: r) H
    | _ => none
  | .ineg => match st with
    | .int x :: r => jm_nx e.2.1 ls (.int (-x) :: r) H
    | _ => none
  | .ladd => match st with
    | .long y :: .long x :: r => jm_nx e.2.1 ls (.long (x + y) :: r) H
    | _ => none
  | .land => match st with
    | .long y :: .long x :: r => jm_nx e.2.1 ls (.long (x &&& y) :: r) H
    | _ => none
  | .lor => match st with
    | .long y :: .long x :: r => jm_nx e.2.1 ls (.long (x ||| y) :: r) H
    | _ => none
  | .lshl => match st with
    | .int y :: .long x :: r => jm_nx e.2.1 ls (.long (x <<< (y.toInt64 &&& 63)) :: r) H
    | _ => none
  | .lcmp => match st with
    | .long y :: .long x :: r => jm_nx e.2.1 ls (.int (lg_cmp x y) :: r) H
    | _ => none
  | .i2l => match st with
    | .int x :: r => jm_nx e.2.1 ls (.long x.toInt64 :: r) H
    | _ => none
  | .l2i => match st with
    | .long x :: r => jm_nx e.2.1 ls (.int x.toInt32 :: r) H
    | _ => none
  | .i2b => match st with
    | .int x :: r => jm_nx e.2.1 ls (.int x.toInt8.toInt32 :: r) H
    | _ => none
  | .i2s => match st with
    | .int x :: r => jm_nx e.2.1 ls (.int x.toInt16.toInt32 :: r) H
    | _ => none
  | .dup => match st with
    | .int x :: r => jm_nx e.2.1 ls (.int x :: .int x :: r) H
    | .ref x :: r => jm_nx e.2.1 ls (.ref x :: .ref x :: r) H
    | _ => none
  | .pop => match st with
    | .int _ :: r => jm_nx e.2.1 ls r H
    | .ref _ :: r => jm_nx e.2.1 ls r H
    | _ => none
  | .dup_x1 => match st with
    | .int x :: .ref y :: r => jm_nx e.2.1 ls (.int x :: .ref y :: .int x :: r) H
    | .int x :: .int y :: r => jm_nx e.2.1 ls (.int x :: .int y :: .int x :: r) H
    | _ => none
  | .dup2 => match st with
    | .int x :: .ref y :: r => jm_nx e.2.1 ls (.int x :: .ref y :: .int x :: .ref y :: r) H
    | _ => none
  | .ifCond c _ => match st with
    | .int x :: r => match c with
      | .eq => jm_ifb (x = 0) inferInstance e.2.2.1 e.2.1 ls r H
      | .ne => jm_ifb (¬ x = 0) inferInstance e.2.2.1 e.2.1 ls r H
      | .lt => jm_ifb (x < 0) inferInstance e.2.2.1 e.2.1 ls r H
      | .ge => jm_ifb (0 ≤ x) inferInstance e.2.2.1 e.2.1 ls r H
      | .gt => jm_ifb (0 < x) inferInstance e.2.2.1 e.2.1 ls r H
      | .le => jm_ifb (x ≤ 0) inferInstance e.2.2.1 e.2.1 ls r H
    | _ => none
  | .if_icmp c _ => match st with
    | .int y :: .int x :: r => match c with
      | .eq => jm_ifb (x = y) inferInstance e.2.2.1 e.2.1 ls r H
      | .ne => jm_ifb (¬ x = y) inferInstance e.2.2.1 e.2.1 ls r H
      | .lt => jm_ifb (x < y) inferInstance e.2.2.1 e.2.1 ls r H
      | .ge => jm_ifb (y ≤ x) inferInstance e.2.2.1 e.2.1 ls r H
      | .gt => jm_ifb (y < x) inferInstance e.2.2.1 e.2.1 ls r H
      | .le => jm_ifb (x ≤ y) inferInstance e.2.2.1 e.2.1 ls r H
    | _ => none
  | .goto _ => jm_nx e.2.2.1 ls st H
  | .tableswitch d lo hi offs => match st with
    | .int x :: r => if x.toInt < lo ∨ hi < x.toInt then jm_jmp pc d ls r H else match offs[(x.toInt - lo).toNat]? with
      | some o => jm_jmp pc o ls r H
      | none => none
    | _ => none
  | .lookupswitch d ps => match st with
    | .int x :: r => jm_jmp pc (Op.lookupswitch.offset ps.toList d x.toInt) ls r H
    | _ => none
  | .getfield _ => match st with
    | .ref a :: r => if jm_kd H a = 10 + e.2.2.1 then (if e.2.2.2.2 = 1 then jm_nx e.2.1 ls (jm_ref (jm_rf H a e.2.2.2.1) :: r) H else jm_nx e.2.1 ls (.int (H.2.1 a e.2.2.2.1) :: r) H) else none
    | _ => none
  | .putfield _ => match st with
    | .int v :: .ref a :: r => if jm_kd H a = 10 + e.2.2.1 ∧ ¬ e.2.2.2.2 = 1 ∧ (e.2.2.2.2 = 2 → v = 0 ∨ v = 1) then jm_nx e.2.1 ls r (H.1, jm_up H.2.1 a e.2.2.2.1 v, H.2.2) else none
    | .ref v :: .ref a :: r => if jm_kd H a = 10 + e.2.2.1 ∧ e.2.2.2.2 = 1 then jm_nx e.2.1 ls r (H.1.set a (jm_kd H a, jm_ln H a, fun k => if k = e.2.2.2.1 then some v else jm_rf H a k), H.2.1, H.2.2) else none
    | _ => none
  | .arraylength => match st with
    | .ref a :: r => if 1 ≤ jm_kd H a ∧ jm_kd H a ≤ 5 then jm_nx e.2.1 ls (.int (Int32.ofNat (jm_ln H a)) :: r) H else none
    | .retAddr 0 :: r => if L < 2147483648 then jm_nx e.2.1 ls (.int (Int32.ofNat L) :: r) H else none
    | _ => none
  | .iaload => match st with
    | .int i :: .ref a :: r => if jm_kd H a = 1 ∧ 0 ≤ i ∧ i.toNatClampNeg < jm_ln H a then jm_nx e.2.1 ls (.int (H.2.1 a i.toNatClampNeg) :: r) H else none
    | .int i :: .retAddr 0 :: r => if L < 2147483648 ∧ 0 ≤ i ∧ i.toNatClampNeg < L then jm_nx e.2.1 ls (.int (xs i.toNatClampNeg) :: r) H else none
    | _ => none
  | .laload => match st with
    | .int i :: .ref a :: r => if jm_kd H a = 2 ∧ 0 ≤ i ∧ i.toNatClampNeg < jm_ln H a then jm_nx e.2.1 ls (.long (H.2.2 a i.toNatClampNeg) :: r) H else none
    | _ => none
  | .aaload => match st with
    | .int i :: .ref a :: r => if (3 ≤ jm_kd H a ∧ jm_kd H a ≤ 5) ∧ 0 ≤ i ∧ i.toNatClampNeg < jm_ln H a then jm_nx e.2.1 ls (jm_ref (jm_rf H a i.toNatClampNeg) :: r) H else none
    | _ => none
  | .iastore => match st with
    | .int v :: .int i :: .ref a :: r => if jm_kd H a = 1 ∧ 0 ≤ i ∧ i.toNatClampNeg < jm_ln H a then jm_nx e.2.1 ls r (H.1, jm_up H.2.1 a i.toNatClampNeg v, H.2.2) else none
    | _ => none
  | .lastore => match st with
    | .long v :: .int i :: .ref a :: r => if jm_kd H a = 2 ∧ 0 ≤ i ∧ i.toNatClampNeg < jm_ln H a then jm_nx e.2.1 ls r (H.1, H.2.1, jm_up H.2.2 a i.toNatClampNeg v) else none
    | _ => none
  | .aastore => match st with
    | .ref v :: .int i :: .ref a :: r => if (3 ≤ jm_kd H a ∧ jm_kd H a ≤ 5) ∧ 0 ≤ i ∧ i.toNatClampNeg < jm_ln H a ∧ jm_kd H v = jm_ek (jm_kd H a) then jm_nx e.2.1 ls r (H.1.set a (jm_kd H a, jm_ln H a, fun k => if k = i.toNatClampNeg then some v else jm_rf H a k), H.2.1, H.2.2) else none
    | _ => none
  | .new _ => jm_nx e.2.1 ls (.ref H.1.length :: st) (jm_new H (10 + e.2.2.1, e.2.2.2.1, fun _ => none))
  | .newarray t => match st with
    | .int n :: r => if 0 ≤ n ∧ n.toNatClampNeg ≤ 100000 then (match t with
      | .int => jm_nx e.2.1 ls (.ref H.1.length :: r) (jm_new H (1, n.toNatClampNeg, fun _ => none))
      | .long => jm_nx e.2.1 ls (.ref H.1.length :: r) (jm_new H (2, n.toNatClampNeg, fun _ => none))
      | _ => none) else none
    | _ => none
  | .anewarray _ => match st with
    | .int n :: r => if 0 ≤ n ∧ n.toNatClampNeg ≤ 100000 ∧ e.2.2.1 ≤ 2 then jm_nx e.2.1 ls (.ref H.1.length :: r) (jm_new H (3 + e.2.2.1, n.toNatClampNeg, fun _ => none)) else none
    | _ => none
  | .invokevirtual _ => match st.drop (jm_np e.2.2.1) with
    | .ref o :: r => if jm_np e.2.2.1 ≤ st.length ∧ jm_cat r ≤ 8 ∧ (jm_kd H o : Int) = 10 + e.2.2.2.2 ∧ ¬ e.2.2.2.1 = 15 then jm_call e.2.1 ls r (E e.2.2.1 (.ref o :: (st.take (jm_np e.2.2.1)).reverse) H) else none
    | .retAddr 1 :: r => if jm_np e.2.2.1 ≤ st.length ∧ jm_cat r ≤ 8 ∧ e.2.2.2.1 = 15 then jm_call e.2.1 ls r (E e.2.2.1 (.retAddr 1 :: (st.take (jm_np e.2.2.1)).reverse) H) else none
    | _ => none
  | .invokespecial _ => match st.drop (jm_np e.2.2.1) with
    | .ref o :: r => if jm_np e.2.2.1 ≤ st.length ∧ jm_cat r ≤ 8 then (if e.2.2.2.1 = 6 then jm_nx e.2.1 ls r H else jm_call e.2.1 ls r (E e.2.2.1 (.ref o :: (st.take (jm_np e.2.2.1)).reverse) H)) else none
    | _ => none
  | .invokestatic _ => if e.2.2.2.1 = 12 then (match st with
    | .int n :: .int dp :: .ref d :: .int sp :: .ref s :: r => if jm_cat r ≤ 8 ∧ 0 ≤ sp ∧ 0 ≤ dp ∧ 0 ≤ n ∧ sp.toNatClampNeg + n.toNatClampNeg ≤ jm_ln H s ∧ dp.toNatClampNeg + n.toNatClampNeg ≤ jm_ln H d then
        (if jm_kd H s = 1 ∧ jm_kd H d = 1 then jm_nx e.2.1 ls r (H.1, jm_row H.2.1 d (va_cpy (H.2.1 s) (H.2.1 d) sp.toNatClampNeg dp.toNatClampNeg n.toNatClampNeg), H.2.2)
        else if jm_kd H s = 2 ∧ jm_kd H d = 2 then jm_nx e.2.1 ls r (H.1, H.2.1, jm_row H.2.2 d (va_cpy (H.2.2 s) (H.2.2 d) sp.toNatClampNeg dp.toNatClampNeg n.toNatClampNeg)) else none) else none
    | _ => none)
    else if e.2.2.2.1 = 13 then (match st with
    | .int y :: .int x :: r => if jm_cat r ≤ 8 then jm_nx e.2.1 ls (.int (if x < y then y else x) :: r) H else none
    | _ => none)
    else if e.2.2.2.1 = 14 then (match st with
    | .int y :: .int x :: r => if jm_cat r ≤ 8 then jm_nx e.2.1 ls (.int (if y < x then y else x) :: r) H else none
    | _ => none)
    else if jm_np e.2.2.1 ≤ st.length ∧ jm_cat (st.drop (jm_np e.2.2.1)) ≤ 8 then jm_call e.2.1 ls (st.drop (jm_np e.2.2.1)) (E e.2.2.1 (st.take (jm_np e.2.2.1)).reverse H) else none
  | .ireturn => match st with
    | [.int v] => if e.2.2.1 = 1 → v = 0 ∨ v = 1 then some (.inr (some (.int v), H)) else none
    | _ => none
  | .lreturn => match st with
    | [.long v] => some (.inr (some (.long v), H))
    | _ => none
  | .areturn => match st with
    | [.ref v] => some (.inr (some (.ref v), H))
    | _ => none
  | .return_ => match st with
    | [] => some (.inr (none, H))
    | _ => none
  | _ => none
/-- a method's run: at most n instructions -/
noncomputable def jm_run (xs : Nat → Int32) (L : Nat) (E : jm_E) (mi : Nat) : Nat → jm_C → Option jm_O
  | 0, _ => none
  | n + 1, c => match jm_tab mi c.1 with
    | some e => match jm_stp xs L E e c.1 c.2.1 c.2.2.1 c.2.2.2 with
      | some (.inl c') => jm_run xs L E mi n c'
      | some (.inr r) => some r
      | none => none
    | none => none
def jm_ent (vs : List Value) (n : Nat) : jm_L := (vs.flatMap fun v => if v.category = 2 then [some v, none] else [some v]) ++ List.replicate (n - (lg_sl vs).length) none
noncomputable def jm_lim (f : Nat → Option jm_O) : Option jm_O := match Classical.propDecidable (∃ q : Nat × jm_O, f q.1 = some q.2) with
  | .isTrue h => some (Classical.choose h).2
  | .isFalse _ => none
/-- the letters of the law's String constant -/
def jm_ch (k : Nat) : Int32 := match k with
  | 0 => 124
  | 1 => 38
  | 2 => 60
  | 3 => 64
  | 4 => 33
  | 5 => 35
  | _ => 45
/-- String.charAt of that constant -/
def jm_cha (args : List Value) (H : jm_H) : Option jm_O := match args with
  | [.retAddr 1, .int i] => if 0 ≤ i ∧ i.toNatClampNeg < 7 then some (some (.int (jm_ch i.toNatClampNeg)), H) else none
  | _ => none
/-- what a call of method mi with d frames above it answers -/
noncomputable def jm_ex (xs : Nat → Int32) (L : Nat) : Nat → jm_E
  | 0 => fun _ _ _ => none
  | d + 1 => fun mi args H => if mi = 172 then (if 4 ≤ d then jm_cha args H else none) else match jm_MT[mi]? with
    | some q => if (lg_sl args).length ≤ q.2.2.1 then jm_lim (fun n => jm_run xs L (jm_ex xs L d) mi n (0, jm_ent args q.2.2.1, [], H)) else none
    | none => none
theorem jm_run_le {xs : Nat → Int32} {L : Nat} {E : jm_E} {mi : Nat} : ∀ (n k : Nat) (c : jm_C) (r : jm_O), jm_run xs L E mi n c = some r → jm_run xs L E mi (n + k) c = some r
  | 0, _, _, _, h => by simp [jm_run] at h
  | n + 1, k, c, r, h => by
    rw [show n + 1 + k = (n + k) + 1 by omega]
    simp only [jm_run] at h ⊢
    split at h
    · split at h
      · exact jm_run_le n k _ _ h
      · exact h
      · cases h
    · cases h
theorem jm_run_det {xs : Nat → Int32} {L : Nat} {E : jm_E} {mi n k : Nat} {c : jm_C} {r r' : jm_O} (h : jm_run xs L E mi n c = some r) (h' : jm_run xs L E mi k c = some r') : r = r' := by
  have h1 := jm_run_le n k c r h
  have h2 := jm_run_le k n c r' h'
  rw [Nat.add_comm] at h2
  exact Option.some.inj (h1.symm.trans h2)
theorem jm_lim_some {f : Nat → Option jm_O} {r : jm_O} (h : jm_lim f = some r) : ∃ n, f n = some r := by
  unfold jm_lim at h
  split at h
  · rename_i hx _
    cases h
    exact ⟨_, Classical.choose_spec hx⟩
  · cases h
theorem jm_lim_of {f : Nat → Option jm_O} {r : jm_O} {n : Nat} (h : f n = some r) (hd : ∀ k r', f k = some r' → r' = r) : jm_lim f = some r := by
  unfold jm_lim
  split
  · rename_i hx _
    exact congrArg some (hd _ _ (Classical.choose_spec hx))
  · rename_i hx _
    exact absurd ⟨(n, r), h⟩ hx
/-- from a configuration, with d frames above: the method ends, and its answer has P -/
def jm_W (xs : Nat → Int32) (L d mi pc : Nat) (ls : jm_L) (st : List Value) (H : jm_H) (P : Option Value → jm_H → Prop) : Prop :=
  ∃ (n : Nat) (r : jm_O), jm_run xs L (jm_ex xs L d) mi n (pc, ls, st, H) = some r ∧ P r.1 r.2
/-- a call -/
def jm_Q (xs : Nat → Int32) (L d mi : Nat) (args : List Value) (H : jm_H) (P : Option Value → jm_H → Prop) : Prop :=
  ∃ r : jm_O, jm_ex xs L d mi args H = some r ∧ P r.1 r.2
section JMW
variable {xs : Nat → Int32} {L d mi pc : Nat} {ls : jm_L} {st : List Value} {H : jm_H} {P : Option Value → jm_H → Prop} {e : jm_I}
theorem jm_W.next {pc' : Nat} {ls' : jm_L} {st' : List Value} {H' : jm_H} (ht : jm_tab mi pc = some e) (hs : jm_stp xs L (jm_ex xs L d) e pc ls st H = jm_nx pc' ls' st' H') :
    jm_W xs L d mi pc ls st H P = jm_W xs L d mi pc' ls' st' H' P := by
  refine propext ⟨?_, ?_⟩
  · rintro ⟨n, r, h, hp⟩
    cases n with
    | zero => simp [jm_run] at h
    | succ n =>
      simp only [jm_run, ht, hs, jm_nx] at h
      exact ⟨n, r, h, hp⟩
  · rintro ⟨n, r, h, hp⟩
    refine ⟨n + 1, r, ?_, hp⟩
    simp only [jm_run, ht, hs, jm_nx]
    exact h
theorem jm_W.ret {r : jm_O} (ht : jm_tab mi pc = some e) (hs : jm_stp xs L (jm_ex xs L d) e pc ls st H = some (.inr r)) : jm_W xs L d mi pc ls st H P = P r.1 r.2 := by
  refine propext ⟨?_, ?_⟩
  · rintro ⟨n, r', h, hp⟩
    cases n with
    | zero => simp [jm_run] at h
    | succ n =>
      simp only [jm_run, ht, hs] at h
      cases h
      exact hp
  · intro hp
    refine ⟨1, r, ?_, hp⟩
    simp only [jm_run, ht, hs]
theorem jm_W.call {pc' a : Nat} {ls' : jm_L} {st' as : List Value} (ht : jm_tab mi pc = some e) (hs : jm_stp xs L (jm_ex xs L d) e pc ls st H = jm_call pc' ls' st' (jm_ex xs L d a as H)) :
    jm_W xs L d mi pc ls st H P = jm_Q xs L d a as H (fun v H' => jm_W xs L d mi pc' ls' (v.toList ++ st') H' P) := by
  refine propext ⟨?_, ?_⟩
  · rintro ⟨n, r, h, hp⟩
    cases n with
    | zero => simp [jm_run] at h
    | succ n =>
      simp only [jm_run, ht, hs] at h
      cases hq : jm_ex xs L d a as H with
      | none => rw [hq] at h; simp [jm_call] at h
      | some q =>
        rw [hq] at h
        simp only [jm_call, jm_nx] at h
        exact ⟨q, hq, n, r, h, hp⟩
  · rintro ⟨q, hq, n, r, h, hp⟩
    refine ⟨n + 1, r, ?_, hp⟩
    simp only [jm_run, ht, hs, hq, jm_call, jm_nx]
    exact h
theorem jm_Q.enter {q : jm_M} {args : List Value} (hne : ¬ mi = 172) (hm : jm_MT[mi]? = some q) (hl : (lg_sl args).length ≤ q.2.2.1) : jm_Q xs L (d + 1) mi args H P = jm_W xs L d mi 0 (jm_ent args q.2.2.1) [] H P := by
  refine propext ⟨?_, ?_⟩
  · rintro ⟨r, h, hp⟩
    simp only [jm_ex, if_neg hne, hm, hl, if_true] at h
    obtain ⟨n, h⟩ := jm_lim_some h
    exact ⟨n, r, h, hp⟩
  · rintro ⟨n, r, h, hp⟩
    refine ⟨r, ?_, hp⟩
    simp only [jm_ex, if_neg hne, hm, hl, if_true]
    exact jm_lim_of (n := n) h (fun k r' h' => jm_run_det h' h)
theorem jm_W.mono {P' : Option Value → jm_H → Prop} (h : jm_W xs L d mi pc ls st H P) (hp : ∀ v H', P v H' → P' v H') : jm_W xs L d mi pc ls st H P' := by
  obtain ⟨n, r, h1, h2⟩ := h
  exact ⟨n, r, h1, hp _ _ h2⟩
theorem jm_Q.mono {args : List Value} {P' : Option Value → jm_H → Prop} (h : jm_Q xs L d mi args H P) (hp : ∀ v H', P v H' → P' v H') : jm_Q xs L d mi args H P' := by
  obtain ⟨r, h1, h2⟩ := h
  exact ⟨r, h1, hp _ _ h2⟩
/-- a call whose answer is known -/
theorem jm_Q.use {args : List Value} {v : Option Value} {H' : jm_H} {P' : Option Value → jm_H → Prop} (h : jm_Q xs L d mi args H (fun a b => a = v ∧ b = H')) : jm_Q xs L d mi args H P' = P' v H' := by
  obtain ⟨⟨a, b⟩, h1, h2, h3⟩ := h
  dsimp only at h2 h3
  subst h2 h3
  refine propext ⟨?_, fun h => ⟨_, h1, h⟩⟩
  rintro ⟨r, h4, h5⟩
  cases h1.symm.trans h4
  exact h5
end JMW
end
section
/-! The abstract heap and the machine's: cell k stands at base + k. -/
def jm_cv (base : Nat) (b : Nat → Nat) (v : Value) : Value := match v with
  | .ref a => .ref (base + a)
  | .retAddr n => .ref (b n)
  | .int x => .int x
  | .long x => .long x
  | .null => .null
  | v => v
def jm_isr (ci k : Nat) : Bool := match jm_ty ci k with
  | .object _ | .array _ => true
  | _ => false
def jm_fd (base ci : Nat) (rf : Nat → Option Nat) (i : Nat → Int32) (k : Nat) : Value := if jm_isr ci k then va_rf ((rf k).map (base + ·)) else .int (i k)
def jm_cell (dA : Nat → ClassId) (base kd ln : Nat) (rf : Nat → Option Nat) (i : Nat → Int32) (g : Nat → Int64) : va_E :=
  if kd = 1 then .inl (dA 0, ln, .inl i)
  else if kd = 2 then .inl (dA 1, ln, .inr (.inl g))
  else if kd < 10 then .inl (dA (kd - 1), ln, .inr (.inr (.inr (.inr (fun j => (rf j).map (base + ·))))))
  else .inr (kd - 10, (List.range (jm_N (kd - 10))).map (jm_fd base (kd - 10) rf i))
def jm_at (dA : Nat → ClassId) (base : Nat) (H : jm_H) (k : Nat) : Nat × va_E := (base + k, jm_cell dA base (jm_kd H k) (jm_ln H k) (jm_rf H k) (H.2.1 k) (H.2.2 k))
def jm_ws (dA : Nat → ClassId) (base : Nat) (H : jm_H) : va_W := (List.range H.1.length).map (jm_at dA base H)
def jm_tys (dA : Nat → ClassId) : List (ClassId × FieldType) := [(dA 0, .int), (dA 1, .long), (dA 2, .object "LeapingPassages$Shelf"), (dA 3, .object "LeapingPassages$Ask"), (dA 4, .object "LeapingPassages$Spans")]
def jm_sl (H : jm_H) : Nat := (H.1.map (fun s => s.2.1)).sum
def jm_A (base : Nat) : Nat → Prop := fun q => base ≤ q
def jm_Rl (dC : Nat → ClassId) (dI : Nat → Nat → Nat) (dA : Nat → ClassId) (base : Nat) (H : jm_H) (Hc : Heap) : Prop := va_P (dC, dI) jm_cl (jm_ws dA base H) Hc ∧ Hc.size = base + H.1.length
section JMR
variable {dC : Nat → ClassId} {dI : Nat → Nat → Nat} {dA : Nat → ClassId} {base : Nat} {b : Nat → Nat} {H H' : jm_H} {Hc : Heap}
theorem jm_ws_get {k : Nat} (h : k < H.1.length) : (jm_ws dA base H)[k]? = some (jm_at dA base H k) := by
  unfold jm_ws
  rw [List.getElem?_map, List.getElem?_range h]
  rfl
theorem jm_ws_len : (jm_ws dA base H).length = H.1.length := by simp [jm_ws]
theorem jm_ws_inv {k : Nat} {q : Nat × va_E} (h : (jm_ws dA base H)[k]? = some q) : k < H.1.length ∧ q = jm_at dA base H k := by
  have hl : k < H.1.length := by
    have := (List.getElem?_eq_some_iff.mp h).1
    rwa [jm_ws_len] at this
  rw [jm_ws_get hl] at h
  exact ⟨hl, (Option.some.inj h).symm⟩
theorem jm_kd_lt {a : Nat} (h : jm_kd H a ≠ 0) : a < H.1.length := by
  unfold jm_kd at h
  split at h
  · rename_i s hs
    exact (List.getElem?_eq_some_iff.mp hs).1
  · exact absurd rfl h
theorem jm_ws_D (A : Nat → Prop) (hA : ∀ q, base ≤ q → A q) : va_D A (jm_ws dA base H) := by
  refine ⟨fun i j p q hi hj hpq => ?_, fun k q hk => ?_⟩
  · obtain ⟨-, rfl⟩ := jm_ws_inv hi
    obtain ⟨-, rfl⟩ := jm_ws_inv hj
    have : base + i = base + j := hpq
    omega
  · obtain ⟨-, rfl⟩ := jm_ws_inv hk
    exact hA _ (Nat.le_add_right _ _)
/-- one cell has changed -/
theorem jm_ws_set {a : Nat} {e : va_E} (hl : H'.1.length = H.1.length) (hk : ∀ j, j ≠ a → jm_at dA base H' j = jm_at dA base H j) (he : jm_at dA base H' a = (base + a, e)) : jm_ws dA base H' = (jm_ws dA base H).set a (base + a, e) := by
  apply List.ext_getElem?
  intro j
  by_cases hj : j < H.1.length
  · rw [jm_ws_get (by omega)]
    by_cases e1 : j = a
    · subst e1
      rw [List.getElem?_set_self (by rw [jm_ws_len]; exact hj), he]
    · rw [List.getElem?_set_ne (Ne.symm e1), jm_ws_get hj, hk j e1]
  · rw [List.getElem?_eq_none (by rw [jm_ws_len]; omega), List.getElem?_eq_none (by rw [List.length_set, jm_ws_len]; omega)]
theorem jm_at_congr {j : Nat} (h1 : H'.1[j]? = H.1[j]?) (h2 : H'.2.1 j = H.2.1 j) (h3 : H'.2.2 j = H.2.2 j) : jm_at dA base H' j = jm_at dA base H j := by
  unfold jm_at jm_kd jm_ln jm_rf
  rw [h1, h2, h3]
theorem jm_ws_push {s : jm_S} : jm_ws dA base (jm_new H s) = jm_ws dA base H ++ [(base + H.1.length, jm_cell dA base s.1 s.2.1 s.2.2 (fun _ => 0) (fun _ => 0))] := by
  apply List.ext_getElem?
  intro j
  have hlen : (jm_new H s).1.length = H.1.length + 1 := by simp [jm_new]
  by_cases hj : j < H.1.length
  · rw [List.getElem?_append_left (by rw [jm_ws_len]; exact hj), jm_ws_get (by omega), jm_ws_get hj]
    congr 1
    refine jm_at_congr ?_ ?_ ?_
    · simp [jm_new, List.getElem?_append_left hj]
    · simp [jm_new, jm_row, Nat.ne_of_lt hj]
    · simp [jm_new, jm_row, Nat.ne_of_lt hj]
  · by_cases e1 : j = H.1.length
    · subst e1
      rw [jm_ws_get (by omega), List.getElem?_append_right (by rw [jm_ws_len]; exact Nat.le_refl _), jm_ws_len, Nat.sub_self]
      show some _ = some _
      unfold jm_at jm_kd jm_ln jm_rf
      simp [jm_new, jm_row]
    · rw [List.getElem?_eq_none (by rw [jm_ws_len]; omega), List.getElem?_eq_none (by simp [jm_ws_len]; omega)]
theorem jm_obj {a ci : Nat} (h : jm_kd H a = 10 + ci) : (jm_ws dA base H)[a]? = some (base + a, .inr (ci, (List.range (jm_N ci)).map (jm_fd base ci (jm_rf H a) (H.2.1 a)))) := by
  rw [jm_ws_get (jm_kd_lt (by omega))]
  unfold jm_at jm_cell
  rw [h, if_neg (by omega), if_neg (by omega), if_neg (by omega), Nat.add_sub_cancel_left]
theorem jm_iar {a : Nat} (h : jm_kd H a = 1) : (jm_ws dA base H)[a]? = some (base + a, .inl (dA 0, jm_ln H a, .inl (H.2.1 a))) := by
  rw [jm_ws_get (jm_kd_lt (by omega))]
  unfold jm_at jm_cell
  rw [if_pos h]
theorem jm_lar {a : Nat} (h : jm_kd H a = 2) : (jm_ws dA base H)[a]? = some (base + a, .inl (dA 1, jm_ln H a, .inr (.inl (H.2.2 a)))) := by
  rw [jm_ws_get (jm_kd_lt (by omega))]
  unfold jm_at jm_cell
  rw [if_neg (by omega), if_pos h]
theorem jm_rar {a : Nat} (h1 : 3 ≤ jm_kd H a) (h2 : jm_kd H a ≤ 5) : (jm_ws dA base H)[a]? = some (base + a, .inl (dA (jm_kd H a - 1), jm_ln H a, .inr (.inr (.inr (.inr (fun j => (jm_rf H a j).map (base + ·))))))) := by
  rw [jm_ws_get (jm_kd_lt (by omega))]
  unfold jm_at jm_cell
  rw [if_neg (by omega), if_neg (by omega), if_pos (by omega)]
theorem jm_clg {ci : Nat} (h : ci < 10) : jm_cl[ci]? = some (jm_R ci, jm_T ci, jm_N ci) := by
  rcases (show ci = 0 ∨ ci = 1 ∨ ci = 2 ∨ ci = 3 ∨ ci = 4 ∨ ci = 5 ∨ ci = 6 ∨ ci = 7 ∨ ci = 8 ∨ ci = 9 by omega) with h | h | h | h | h | h | h | h | h | h <;> subst h <;> rfl
theorem jm_tok {ci : Nat} (h : ci < 10) : ∀ k, k < jm_N ci → parseFieldDescriptor (jm_T ci k).2.2.1 = some (jm_ty ci k) := by
  rcases (show ci = 0 ∨ ci = 1 ∨ ci = 2 ∨ ci = 3 ∨ ci = 4 ∨ ci = 5 ∨ ci = 6 ∨ ci = 7 ∨ ci = 8 ∨ ci = 9 by omega) with h | h | h | h | h | h | h | h | h | h <;> subst h
  · exact tyX0_ok
  · exact tyX1_ok
  · exact tyX2_ok
  · exact tyX3_ok
  · exact tyX4_ok
  · exact tyX5_ok
  · exact tyX6_ok
  · exact tyX7_ok
  · exact tyX8_ok
  · exact tyX9_ok
theorem jm_nok {ci : Nat} (h : ci < 10) : ∀ a, a < jm_N ci → ∀ b, b < jm_N ci → a ≠ b → (jm_T ci a).2.1 ≠ (jm_T ci b).2.1 := by
  rcases (show ci = 0 ∨ ci = 1 ∨ ci = 2 ∨ ci = 3 ∨ ci = 4 ∨ ci = 5 ∨ ci = 6 ∨ ci = 7 ∨ ci = 8 ∨ ci = 9 by omega) with h | h | h | h | h | h | h | h | h | h <;> subst h
  · exact nmX0
  · exact nmX1
  · exact nmX2
  · exact nmX3
  · exact nmX4
  · exact nmX5
  · exact nmX6
  · exact nmX7
  · exact nmX8
  · exact nmX9
theorem jm_fdg {ci k : Nat} {rf : Nat → Option Nat} {i : Nat → Int32} (h : k < jm_N ci) : ((List.range (jm_N ci)).map (jm_fd base ci rf i))[k]? = some (jm_fd base ci rf i k) := by
  rw [List.getElem?_map, List.getElem?_range h]
  rfl
theorem jm_cvr (r : Option Nat) : jm_cv base b (jm_ref r) = va_rf (r.map (base + ·)) := by cases r <;> rfl
theorem jm_up_ne {α : Type} {f : Nat → Nat → α} {a k j : Nat} {v : α} (h : j ≠ a) : jm_up f a k v j = f j := by
  funext y
  simp [jm_up, h]
theorem jm_up_eq {α : Type} {f : Nat → Nat → α} {a k : Nat} {v : α} : jm_up f a k v a = fun j => if j = k then v else f a j := by
  funext y
  simp [jm_up]
theorem jm_row_ne {α : Type} {f : Nat → Nat → α} {a j : Nat} {g : Nat → α} (h : j ≠ a) : jm_row f a g j = f j := by simp [jm_row, h]
theorem jm_row_eq {α : Type} {f : Nat → Nat → α} {a : Nat} {g : Nat → α} : jm_row f a g a = g := by simp [jm_row]
end JMR
def jm_lr (base : Nat) (b : Nat → Nat) (ls : jm_L) (arr : Array Slot) (nL : Nat) : Prop := arr.size = nL ∧ ls.length = nL ∧ lv_wf arr ∧ ∀ (i : Nat) (v : Value), ls[i]? = some (some v) → arr[i]? = some (.val (jm_cv base b v))
def jm_kl (base : Nat) (b : Nat → Nat) (ls : jm_L) : List (Nat × Value) := (List.range ls.length).filterMap (fun i => match ls[i]? with
  | some (some v) => some (i, jm_cv base b v)
  | _ => none)
section JML
variable {base nL : Nat} {b : Nat → Nat} {ls ls' : jm_L} {arr : Array Slot}
theorem jm_kl_mem {q : Nat × Value} : q ∈ jm_kl base b ls ↔ ∃ v, ls[q.1]? = some (some v) ∧ q.2 = jm_cv base b v := by
  unfold jm_kl
  rw [List.mem_filterMap]
  constructor
  · rintro ⟨i, hi, h⟩
    split at h
    · rename_i v hv
      cases h
      exact ⟨v, hv, rfl⟩
    · cases h
  · rintro ⟨v, hv, hq⟩
    refine ⟨q.1, List.mem_range.mpr (List.getElem?_eq_some_iff.mp hv).1, ?_⟩
    rw [hv]
    show some (q.1, jm_cv base b v) = some q
    rw [← hq]
theorem jm_lr.has (h : jm_lr base b ls arr nL) : lv_has arr nL (jm_kl base b ls) := by
  refine ⟨h.1, h.2.2.1, fun q hq => ?_⟩
  obtain ⟨v, hv, hq⟩ := jm_kl_mem.mp hq
  rw [hq]
  exact h.2.2.2 _ _ hv
theorem jm_st1_len {i : Nat} {v : Value} (h : jm_st1 ls i v = some ls') : ls'.length = ls.length ∧ i < ls.length := by
  unfold jm_st1 at h
  split at h
  · rename_i hi
    split at h
    · cases h
      exact ⟨by simp, hi⟩
    · split at h
      · cases h; exact ⟨by simp, hi⟩
      · cases h
      · cases h; exact ⟨by simp, hi⟩
  · cases h
theorem jm_st1_get {i : Nat} {v : Value} (h : jm_st1 ls i v = some ls') {k : Nat} {w : Value} (hk : ls'[k]? = some (some w)) : (k = i ∧ w = v) ∨ (k ≠ i ∧ ls[k]? = some (some w) ∧ ¬ (k + 1 = i ∧ ((∃ x, w = .long x) ∨ ∃ x, w = .double x))) := by
  unfold jm_st1 at h
  split at h
  · rename_i hi
    split at h
    · cases h
      by_cases e : k = 0
      · subst e
        rw [List.getElem?_set_self hi] at hk
        cases hk
        exact Or.inl ⟨rfl, rfl⟩
      · rw [List.getElem?_set_ne (Ne.symm e)] at hk
        exact Or.inr ⟨e, hk, by omega⟩
    · rename_i j
      split at h
      · cases h
        by_cases e0 : k = j
        · subst e0
          rw [List.getElem?_set_self (by simp; omega)] at hk
          cases hk
        · rw [List.getElem?_set_ne (Ne.symm e0)] at hk
          by_cases e : k = j + 1
          · subst e
            rw [List.getElem?_set_self hi] at hk
            cases hk
            exact Or.inl ⟨rfl, rfl⟩
          · rw [List.getElem?_set_ne (Ne.symm e)] at hk
            exact Or.inr ⟨e, hk, by omega⟩
      · cases h
      · rename_i hn hn2
        cases h
        by_cases e : k = j + 1
        · subst e
          rw [List.getElem?_set_self hi] at hk
          cases hk
          exact Or.inl ⟨rfl, rfl⟩
        · rw [List.getElem?_set_ne (Ne.symm e)] at hk
          refine Or.inr ⟨e, hk, ?_⟩
          rintro ⟨e1, ⟨x, rfl⟩ | ⟨x, rfl⟩⟩
          · have e2 : k = j := by omega
            subst e2
            exact hn x hk
          · have e2 : k = j := by omega
            subst e2
            exact hn2 x hk
  · cases h
theorem jm_cv_cat (v : Value) : (jm_cv base b v).category = 2 → (∃ x, v = .long x) ∨ ∃ x, v = .double x := by
  cases v <;> simp [jm_cv, Value.category]
theorem jm_st2_len {i : Nat} {v : Value} (h : jm_st2 ls i v = some ls') : ls'.length = ls.length ∧ i + 1 < ls.length := by
  unfold jm_st2 at h
  split at h
  · rename_i hi
    split at h
    · cases h
      exact ⟨by simp, hi⟩
    · split at h
      · cases h; exact ⟨by simp, hi⟩
      · cases h
      · cases h; exact ⟨by simp, hi⟩
  · cases h
theorem jm_st2_get {i : Nat} {v : Value} (h : jm_st2 ls i v = some ls') {k : Nat} {w : Value} (hk : ls'[k]? = some (some w)) : (k = i ∧ w = v) ∨ (k ≠ i ∧ k ≠ i + 1 ∧ ls[k]? = some (some w) ∧ ¬ (k + 1 = i ∧ ((∃ x, w = .long x) ∨ ∃ x, w = .double x))) := by
  unfold jm_st2 at h
  split at h
  · rename_i hi
    split at h
    · cases h
      by_cases e1 : k = 1
      · subst e1
        rw [List.getElem?_set_self (by simp; omega)] at hk
        cases hk
      · rw [List.getElem?_set_ne (Ne.symm e1)] at hk
        by_cases e : k = 0
        · subst e
          rw [List.getElem?_set_self (by omega)] at hk
          cases hk
          exact Or.inl ⟨rfl, rfl⟩
        · rw [List.getElem?_set_ne (Ne.symm e)] at hk
          exact Or.inr ⟨e, e1, hk, by omega⟩
    · rename_i j
      split at h
      · cases h
        by_cases e0 : k = j
        · subst e0
          rw [List.getElem?_set_self (by simp; omega)] at hk
          cases hk
        · rw [List.getElem?_set_ne (Ne.symm e0)] at hk
          by_cases e2 : k = j + 2
          · subst e2
            rw [List.getElem?_set_self (by simp; omega)] at hk
            cases hk
          · rw [List.getElem?_set_ne (Ne.symm e2)] at hk
            by_cases e : k = j + 1
            · subst e
              rw [List.getElem?_set_self (by omega)] at hk
              cases hk
              exact Or.inl ⟨rfl, rfl⟩
            · rw [List.getElem?_set_ne (Ne.symm e)] at hk
              exact Or.inr ⟨e, by omega, hk, by omega⟩
      · cases h
      · rename_i hn hn2
        cases h
        by_cases e2 : k = j + 2
        · subst e2
          rw [List.getElem?_set_self (by simp; omega)] at hk
          cases hk
        · rw [List.getElem?_set_ne (Ne.symm e2)] at hk
          by_cases e : k = j + 1
          · subst e
            rw [List.getElem?_set_self (by omega)] at hk
            cases hk
            exact Or.inl ⟨rfl, rfl⟩
          · rw [List.getElem?_set_ne (Ne.symm e)] at hk
            refine Or.inr ⟨e, by omega, hk, ?_⟩
            rintro ⟨e1, ⟨x, rfl⟩ | ⟨x, rfl⟩⟩
            · have e3 : k = j := by omega
              subst e3
              exact hn x hk
            · have e3 : k = j := by omega
              subst e3
              exact hn2 x hk
  · cases h
theorem jm_lr.st1 (h : jm_lr base b ls arr nL) {i : Nat} {v : Value} (hs : jm_st1 ls i v = some ls') {arr' : Array Slot} (h' : lv_has arr' nL ((i, jm_cv base b v) :: (jm_kl base b ls).filter (fun q => !(q.1 == i) && !(q.1 + 1 == i && q.2.category == 2)))) : jm_lr base b ls' arr' nL := by
  refine ⟨h'.1, by rw [(jm_st1_len hs).1]; exact h.2.1, h'.2.1, fun k w hk => ?_⟩
  rcases jm_st1_get hs hk with ⟨rfl, rfl⟩ | ⟨h1, h2, h3⟩
  · exact h'.2.2 _ List.mem_cons_self
  · refine h'.2.2 (k, jm_cv base b w) (List.mem_cons_of_mem _ (List.mem_filter.mpr ⟨jm_kl_mem.mpr ⟨w, h2, rfl⟩, ?_⟩))
    simp only [Bool.and_eq_true, Bool.not_eq_true', beq_eq_false_iff_ne, ne_eq, Bool.and_eq_false_iff]
    refine ⟨h1, ?_⟩
    by_cases e : k + 1 = i
    · right
      intro hc
      exact h3 ⟨e, jm_cv_cat w hc⟩
    · exact Or.inl e
theorem jm_lr.st2 (h : jm_lr base b ls arr nL) {i : Nat} {v : Value} (hs : jm_st2 ls i v = some ls') {arr' : Array Slot} (h' : lv_has arr' nL ((i, jm_cv base b v) :: (jm_kl base b ls).filter (fun q => !(q.1 == i) && (!(q.1 == i + 1) && !(q.1 + 1 == i && q.2.category == 2))))) : jm_lr base b ls' arr' nL := by
  refine ⟨h'.1, by rw [(jm_st2_len hs).1]; exact h.2.1, h'.2.1, fun k w hk => ?_⟩
  rcases jm_st2_get hs hk with ⟨rfl, rfl⟩ | ⟨h1, h1', h2, h3⟩
  · exact h'.2.2 _ List.mem_cons_self
  · refine h'.2.2 (k, jm_cv base b w) (List.mem_cons_of_mem _ (List.mem_filter.mpr ⟨jm_kl_mem.mpr ⟨w, h2, rfl⟩, ?_⟩))
    simp only [Bool.and_eq_true, Bool.not_eq_true', beq_eq_false_iff_ne, ne_eq, Bool.and_eq_false_iff]
    refine ⟨h1, h1', ?_⟩
    by_cases e : k + 1 = i
    · right
      intro hc
      exact h3 ⟨e, jm_cv_cat w hc⟩
    · exact Or.inl e
end JML
end
section
/-! The machine does what the small machine does: an instruction at a time. -/
theorem jm_MTlen : jm_MT.length = 174 := by decide +kernel
theorem jm_nx_inj {pc : Nat} {ls : jm_L} {st : List Value} {H : jm_H} {cf : jm_C} (h : jm_nx pc ls st H = some (.inl cf)) : cf = (pc, ls, st, H) := by
  unfold jm_nx at h
  cases h
  rfl
theorem jm_keq_eq {a b : jm_K} (h : jm_keq a b = true) : a = b := by
  obtain ⟨a1, a2, a3, a4, a5⟩ := a
  obtain ⟨b1, b2, b3, b4, b5⟩ := b
  simp only [jm_keq, Bool.and_eq_true, beq_iff_eq] at h
  obtain ⟨⟨⟨⟨h1, h2⟩, h3⟩, h4⟩, h5⟩ := h
  subst h1 h2 h3 h4 h5
  rfl
/-- what the check says of a row -/
def jm_Fa (q : jm_M) (pc : Nat) (e : jm_I) : Prop := decode q.2.1 pc = .ok (e.1, jm_len e.1 pc e.2.1) ∧ e.2.1 = pc + jm_len e.1 pc e.2.1 ∧ (∀ k, jm_need e = some k → k ∈ jm_LK q.2.2.2.2.2) ∧ jm_side q pc e = true
theorem jm_lin_ok {q : jm_M} : ∀ (t : List (Option jm_I)) (bs : List UInt8) (pc : Nat), jm_lin q t bs pc = true → (∀ j, bs[j]? = q.2.1.data.toList[pc + j]?) → pc + t.length ≤ q.2.1.size → ∀ (k : Nat) (e : jm_I), t[k]? = some (some e) → jm_Fa q (pc + k) e
  | [], _, _, _, _, _, k, e, he => by simp at he
  | none :: t, bs, pc, h, hb, hs, k, e, he => by
    simp only [jm_lin] at h
    cases k with
    | zero => simp at he
    | succ k =>
      rw [List.getElem?_cons_succ] at he
      have := jm_lin_ok t bs.tail (pc + 1) h (fun j => by rw [List.getElem?_tail, hb, show pc + (j + 1) = pc + 1 + j by omega]) (by simp only [List.length_cons] at hs; omega) k e he
      rwa [show pc + 1 + k = pc + (k + 1) by omega] at this
  | some e0 :: t, bs, pc, h, hb, hs, k, e, he => by
    simp only [jm_lin, Bool.and_eq_true] at h
    obtain ⟨⟨⟨⟨h1, h2⟩, h3⟩, h4⟩, h5⟩ := h
    cases k with
    | zero =>
      rw [List.getElem?_cons_zero] at he
      cases he
      refine ⟨?_, by simpa using h2, fun k hk => ?_, h4⟩
      · split at h1
        · rename_i j p hr
          simp only [Bool.and_eq_true, decide_eq_true_eq, beq_iff_eq] at h1
          obtain ⟨rfl, rfl⟩ := h1
          have := Jvm.Free.DS.shift (Jvm.Free.DS.win_agree (n := jm_len e0.1 pc e0.2.1) (fun j => hb j) (by omega)) hr
          rw [Nat.add_sub_cancel_left] at this
          exact this
        · cases h1
      · rw [hk] at h3
        obtain ⟨x, hx, hxe⟩ := List.any_eq_true.mp h3
        rw [jm_keq_eq hxe]
        exact hx
    | succ k =>
      rw [List.getElem?_cons_succ] at he
      have := jm_lin_ok t bs.tail (pc + 1) h5 (fun j => by rw [List.getElem?_tail, hb, show pc + (j + 1) = pc + 1 + j by omega]) (by simp only [List.length_cons] at hs; omega) k e he
      rwa [show pc + 1 + k = pc + (k + 1) by omega] at this
theorem jm_flat : ∀ (l : List (List (Option jm_I))), (∀ c ∈ l.dropLast, c.length = 64) → ∀ (i j : Nat) (q : List (Option jm_I)), j < 64 → l[i]? = some q → ∀ e, q[j]? = some e → l.flatten[64 * i + j]? = some e
  | [], _, i, j, q, _, h, _, _ => by simp at h
  | a :: t, hl, i, j, q, hj, h, e, he => by
    rw [List.flatten_cons]
    cases i with
    | zero =>
      rw [List.getElem?_cons_zero] at h
      cases h
      have hlt := (List.getElem?_eq_some_iff.mp he).1
      rw [Nat.mul_zero, Nat.zero_add, List.getElem?_append_left hlt]
      exact he
    | succ i =>
      rw [List.getElem?_cons_succ] at h
      cases t with
      | nil => simp at h
      | cons b t =>
        have ha : a.length = 64 := hl a (by simp)
        rw [List.getElem?_append_right (by omega), show 64 * (i + 1) + j - a.length = 64 * i + j by omega]
        exact jm_flat (b :: t) (fun c hc => hl c (by rw [List.dropLast_cons_of_ne_nil (by simp)]; exact List.mem_cons_of_mem _ hc)) i j q hj h e he
theorem jm_fact {mi pc : Nat} {q : jm_M} {e : jm_I} (hm : jm_MT[mi]? = some q) (ht : jm_tab mi pc = some e) : jm_Fa q pc e := by
  have hlt : mi < 174 := by
    have := (List.getElem?_eq_some_iff.mp hm).1
    rwa [jm_MTlen] at this
  have ho := jm_okm_all mi hlt
  unfold jm_okm at ho
  rw [hm] at ho
  simp only [Bool.and_eq_true] at ho
  obtain ⟨-, ho⟩ := ho
  unfold jm_tab at ht
  split at ht
  · rename_i g hg
    rw [hg] at ho
    split at ht
    · rename_i l hl
      simp only [hl, Bool.and_eq_true, decide_eq_true_eq] at ho
      obtain ⟨⟨h1, h2⟩, h3⟩ := ho
      split at ht
      · rename_i c hc
        split at ht
        · rename_i e' he
          subst ht
          have hf := jm_flat l (fun c hc => by have := List.all_eq_true.mp h3 c hc; simpa using this) (pc / 64) (pc % 64) c (Nat.mod_lt _ (by omega)) hc _ he
          rw [Nat.div_add_mod] at hf
          have := jm_lin_ok _ _ 0 h1 (fun j => by rw [Nat.zero_add]) (by rw [Nat.zero_add]; exact h2) pc e hf
          rwa [Nat.zero_add] at this
        · cases ht
      · cases ht
    · cases ht
  · cases ht
/-- what the check says of a method -/
theorem jm_mfact {mi : Nat} {q : jm_M} (hm : jm_MT[mi]? = some q) : (q.1.cls ≠ "java/lang/invoke/MethodHandle" ∧ q.1.cls ≠ "java/lang/invoke/VarHandle") ∧ (parseMethodDescriptor q.1.desc).map (fun d => d.parameters.length) = some q.2.2.2.2.1 ∧ q.2.2.1 ≤ 22 ∧ jm_own[q.2.2.2.2.2]? = some q.1.cls := by
  have hlt : mi < 174 := by
    have := (List.getElem?_eq_some_iff.mp hm).1
    rwa [jm_MTlen] at this
  have ho := jm_okm_all mi hlt
  unfold jm_okm at ho
  rw [hm] at ho
  simp only [Bool.and_eq_true, decide_eq_true_eq] at ho
  exact ⟨ho.1.1.1.1.1, ho.1.1.1.1.2, ho.1.1.1.2, ho.1.2⟩
theorem jm_lkok {o : Nat} {k : jm_K} (h : k ∈ jm_LK o) : jm_lok (jm_on o) k = true := by
  by_cases ho : o < 13
  · exact List.all_eq_true.mp (List.all_eq_true.mp jm_loks o (List.mem_range.mpr ho)) k h
  · unfold jm_LK at h
    split at h <;> first | (exfalso; omega) | cases h
/-- the words that a warm state keeps -/
def jm_TW : List Cond := lw_tbl.filter goodWord
theorem jm_good : GoodIn jm_TW jm_TW := fun w h => ⟨h, good_of_word (List.mem_filter.mp h).2⟩
/-- words that are carried beside: links to nest mates, arrays of references -/
def jm_xw : Cond → Bool
  | .methodLinkNest _ _ _ _ => true
  | .arrayOver (.object _) => true
  | .arrayOver (.array _) => true
  | _ => false
set_option maxRecDepth 100000 in
theorem jm_lwg : ((List.range 13).all fun o => (jm_LK o).all fun q => (jm_lw o q).all fun w => goodWord w || jm_xw w) = true := by decide +kernel
theorem jm_lk_tw {o : Nat} {q : jm_K} (h : q ∈ jm_LK o) : ∀ w ∈ jm_lw o q, w ∈ lw_tbl ∧ (goodWord w || jm_xw w) = true := fun w hw => by
  refine ⟨jm_lk_in o q h w hw, ?_⟩
  by_cases ho : o < 13
  · exact List.all_eq_true.mp (List.all_eq_true.mp (List.all_eq_true.mp jm_lwg o (List.mem_range.mpr ho)) q h) w hw
  · unfold jm_LK at h
    split at h <;> first | (exfalso; omega) | cases h
def jm_X (U : State) : Prop := ∀ w ∈ lw_tbl, jm_xw w = true → va_Nw w U
theorem jm_X.warm {s U : State} (hW : s.WarmedH U.vm) (h : jm_X s) : jm_X U := by
  intro w hw hx
  have hz := h w hw hx
  unfold jm_xw at hx
  split at hx
  · exact hz.warmM hW
  · exact va_AO.moved hW.alike hz
  · exact arrayOver_alikeB hW.alike hz
  · cases hx
theorem jm_X.same {s U : State} (hv : s.vm = U.vm) (h : jm_X s) : jm_X U := by
  intro w hw hx
  have hz := h w hw hx
  unfold jm_xw at hx
  split at hx
  · exact va_Nw.same rfl hv hz
  · exact va_AO.moved (by rw [hv]; exact Vm.Alike.refl _) hz
  · exact arrayOver_alikeB (by rw [hv]; exact Vm.Alike.refl _) hz
  · cases hx
/-- a link's word, as the state has it -/
theorem jm_word {args : Array Value} {s : State} (ht : ∀ w ∈ jm_TW, w.before args s = true) (hx : jm_X s) {o : Nat} {q : jm_K} (h : q ∈ jm_LK o) {w : Cond} (hw : w ∈ jm_lw o q) : w.before args s = true := by
  obtain ⟨h1, h2⟩ := jm_lk_tw h w hw
  cases hg : goodWord w with
  | true => exact ht w (List.mem_filter.mpr ⟨h1, hg⟩)
  | false =>
    rw [hg, Bool.false_or] at h2
    have hz := hx w h1 h2
    unfold jm_xw at h2
    split at h2
    · exact va_Nw.use rfl hz
    · exact hz
    · exact hz
    · cases h2
theorem jm_lay {ci : Nat} (h : ci < 10) : ∀ w ∈ u_ws (jm_R ci) (jm_T ci) (jm_N ci), w ∈ jm_TW := by
  have key : ∀ (l : List Cond), (l.all fun w => decide (w ∈ lw_tbl) && goodWord w) = true → ∀ w ∈ l, w ∈ jm_TW := fun l hl w hw => by
    have := List.all_eq_true.mp hl w hw
    simp only [Bool.and_eq_true, decide_eq_true_eq] at this
    exact List.mem_filter.mpr this
  rcases (show ci = 0 ∨ ci = 1 ∨ ci = 2 ∨ ci = 3 ∨ ci = 4 ∨ ci = 5 ∨ ci = 6 ∨ ci = 7 ∨ ci = 8 ∨ ci = 9 by omega) with h | h | h | h | h | h | h | h | h | h <;> subst h <;> exact key _ (by decide +kernel)
/-- the law's String constant, and the statics that its charAt reads: old cells that nobody writes -/
def jm_bt : List Int32 := [124, 38, 60, 64, 33, 35, 45]
def jm_St (base k : Nat) (U : State) (H : Heap) : Prop := vk_R "LeapingPassagesLaw" 53 "|&<@!#-" k U ∧ (∃ adV : Nat, vk_S 1 [7] [jm_bt] (fun _ => k) (fun _ => adV) (jm_A base) U H) ∧ va_Z "java/lang/String" "COMPACT_STRINGS" "Z" (.int 1) (jm_A base) U H ∧ va_Zq "jdk/internal/util/Preconditions" "SIOOBE_FORMATTER" "Ljava/util/function/BiFunction;" (jm_A base) U H
theorem jm_St.kept {base k : Nat} {U : State} {H H1 : Heap} (h : jm_St base k U H) (hq : ∀ a : Nat, a < H.size → ¬ jm_A base a → H1[a]? = H[a]?) : jm_St base k U H1 := by
  obtain ⟨h1, ⟨adV, h2⟩, h3, h4⟩ := h
  exact ⟨h1, ⟨adV, h2.kept hq⟩, h3.kept hq, h4.kept hq⟩
theorem jm_St.warm {base k : Nat} {s U : State} {H : Heap} (hW : s.WarmedH U.vm) (h : jm_St base k s H) : jm_St base k U H := by
  obtain ⟨h1, ⟨adV, h2⟩, h3, h4⟩ := h
  exact ⟨h1.warm hW, ⟨adV, vk_S.moved hW.alike h2⟩, va_Z.moved hW.alike h3, va_Zq.moved hW.alike h4⟩
theorem jm_St.same {base k : Nat} {s U : State} {H : Heap} (hv : s.vm = U.vm) (h : jm_St base k s H) : jm_St base k U H := by
  obtain ⟨h1, ⟨adV, h2⟩, h3, h4⟩ := h
  have ha : s.vm.Alike U.vm := by rw [hv]; exact Vm.Alike.refl _
  exact ⟨vk_R.same hv.symm h1, ⟨adV, vk_S.moved ha h2⟩, va_Z.moved ha h3, va_Zq.moved ha h4⟩
/-- the script, and the constant -/
def jm_Xb (base : Nat) (b : Nat → Nat) (L : Nat) (xs : Nat → Int32) (U : State) (H : Heap) : Prop := va_X (b 0) L xs U H ∧ jm_St base (b 1) U H
theorem jm_Xb.next {base : Nat} {b : Nat → Nat} {L : Nat} {xs : Nat → Int32} {s U : State} {H : Heap} {locs : List Loc} (hW : s.WarmedH U.vm) (h : jm_Xb base b L xs s s.heap) (hbb : b 0 < base) (hbs : base ≤ s.heap.size) (hS : va_S (jm_A base) s.heap H locs) (hU : U.heap = H) : jm_Xb base b L xs U U.heap := by
  subst hU
  exact ⟨va_X.moved hW.alike (va_X.kept h.1 (hS.2.1 (b 0) (Nat.lt_of_lt_of_le hbb hbs) (fun h => absurd hbb (Nat.not_lt.mpr h)))), (h.2.kept hS.2.1).warm hW⟩
theorem jm_Xb.same {base : Nat} {b : Nat → Nat} {L : Nat} {xs : Nat → Int32} {s U : State} {H : Heap} (hv : s.vm = U.vm) (h : jm_Xb base b L xs s H) : jm_Xb base b L xs U H := ⟨va_X.moved (by rw [hv]; exact Vm.Alike.refl _) h.1, h.2.same hv⟩
def jm_wd (r : jm_M) : List Cond := Cond.code r.1 r.2.1 r.2.2.1 r.2.2.2.1 :: jm_TW
section JMX
variable {p : Program} {l : Launch} {e : Env} {R : Room} {s : State} {m : MethodId} {args : Array Value} {below : List Frame} {meth : Method} {c : Code} {Q : State → Prop}
variable {dC : Nat → ClassId} {dI : Nat → Nat → Nat} {dA : Nat → ClassId} {base : Nat} {b : Nat → Nat} {L : Nat} {xs : Nat → Int32} {q : jm_M} {n0 s0 : Nat}
def jm_Cx (p : Program) (s : State) (m : MethodId) (args : Array Value) (meth : Method) (c : Code) (dC : Nat → ClassId) (dI : Nat → Nat → Nat) (dA : Nat → ClassId) (base : Nat) (b : Nat → Nat) (L : Nat) (xs : Nat → Int32) (q : jm_M) : Prop :=
  p.tables.exec = Jvm.exec ∧ c.code = q.2.1 ∧ c.maxLocals = q.2.2.1 ∧ s.vm.findClass q.1.cls = some m.cls ∧ (∀ w ∈ jm_TW, w.before args s = true) ∧ jm_X s ∧ va_K (dC, dI) jm_cl (jm_tys dA) s ∧ jm_Xb base b L xs s s.heap ∧ b 0 < base ∧ base ≤ s.heap.size ∧ (q.1.name = "<init>" → meth.name = "<init>")
def jm_G (p : Program) (l : Launch) (e : Env) (R : Room) (s : State) (m : MethodId) (args : Array Value) (below : List Frame) (meth : Method) (c : Code) (Q : State → Prop) (dC : Nat → ClassId) (dI : Nat → Nat → Nat) (dA : Nat → ClassId) (base : Nat) (b : Nat → Nat) (q : jm_M) (n0 s0 : Nat) (cf : jm_C) : Prop :=
  ∀ (Hc : Heap) (locs : List Loc) (arr : Array Slot) (cells slots : Nat), jm_Rl dC dI dA base cf.2.2.2 Hc → va_S (jm_A base) s.heap Hc locs → jm_lr base b cf.2.1 arr q.2.2.1 → cells + n0 = cf.2.2.2.1.length → slots + s0 = jm_sl cf.2.2.2 → W p l e R s m args below meth c Hc locs cells slots Q (F0 m cf.1 arr (cf.2.2.1.map (jm_cv base b)))
theorem jm_size {Hc : Heap} {locs : List Loc} {cells slots : Nat} {g : JFrame} (h : Hc.size ≤ s.heap.size + cells → W p l e R s m args below meth c Hc locs cells slots Q g) : W p l e R s m args below meth c Hc locs cells slots Q g := fun T hT X => h (by rw [← hT]; exact X.heapSize) T hT X
theorem jm_inA {q : Nat} (h : base ≤ s.heap.size) (h2 : s.heap.size ≤ q) : jm_A base q := Nat.le_trans h h2
/-- a cell has changed, no cell is new -/
theorem jm_Rl_set {H H' : jm_H} {Hc H1 : Heap} {a cells : Nat} {ev : va_E} (hR : jm_Rl dC dI dA base H Hc) (hl : H'.1.length = H.1.length) (hk : ∀ j, j ≠ a → jm_at dA base H' j = jm_at dA base H j) (he : jm_at dA base H' a = (base + a, ev)) (hP : va_P (dC, dI) jm_cl ((jm_ws dA base H).set a (base + a, ev)) H1) (ha : a < H.1.length) (hn : s.heap.size = base + n0) (hc : cells + n0 = H.1.length) (hz : H1.size ≤ s.heap.size + cells) : jm_Rl dC dI dA base H' H1 := by
  have hP' : va_P (dC, dI) jm_cl (jm_ws dA base H') H1 := by rw [jm_ws_set hl hk he]; exact hP
  refine ⟨hP', ?_⟩
  have h1 := (hP' (H'.1.length - 1) _ (jm_ws_get (by omega))).lt
  have h2 : base + (H'.1.length - 1) < H1.size := h1
  omega
/-- a cell is new -/
theorem jm_Rl_push {H : jm_H} {H1 : Heap} {x : jm_S} {cells qq : Nat} {A : Nat → Prop} (hA : ∀ z, A z → base ≤ z) (hP : va_P (dC, dI) jm_cl (jm_ws dA base H ++ [(qq, jm_cell dA base x.1 x.2.1 x.2.2 (fun _ => 0) (fun _ => 0))]) H1) (hD : va_D A (jm_ws dA base H ++ [(qq, jm_cell dA base x.1 x.2.1 x.2.2 (fun _ => 0) (fun _ => 0))])) (hn : s.heap.size = base + n0) (hc : cells + n0 = H.1.length) (hz : H1.size ≤ s.heap.size + (cells + 1)) : qq = base + H.1.length ∧ jm_Rl dC dI dA base (jm_new H x) H1 := by
  have hg : (jm_ws dA base H ++ [(qq, jm_cell dA base x.1 x.2.1 x.2.2 (fun _ => 0) (fun _ => 0))])[H.1.length]? = some (qq, jm_cell dA base x.1 x.2.1 x.2.2 (fun _ => 0) (fun _ => 0)) := by
    rw [List.getElem?_append_right (by rw [jm_ws_len]; exact Nat.le_refl _), jm_ws_len, Nat.sub_self]
    rfl
  have hlt : qq < H1.size := (hP _ _ hg).lt
  have hge : base ≤ qq := hA _ (hD.2 _ _ hg)
  have hq : qq = base + H.1.length := by
    rcases Nat.lt_or_ge (qq - base) H.1.length with h | h
    · have h1 : (jm_ws dA base H ++ [(qq, jm_cell dA base x.1 x.2.1 x.2.2 (fun _ => 0) (fun _ => 0))])[qq - base]? = some (jm_at dA base H (qq - base)) := by
        rw [List.getElem?_append_left (by rw [jm_ws_len]; exact h), jm_ws_get h]
      have := hD.1 _ _ _ _ h1 hg (show base + (qq - base) = qq by omega)
      omega
    · omega
  subst hq
  refine ⟨rfl, ?_, ?_⟩
  · rw [jm_ws_push]; exact hP
  · have : (jm_new H x).1.length = H.1.length + 1 := by simp [jm_new]
    omega
/-- the instructions whose steps stand apart -/
def jm_big : Instr → Bool
  | .iinc _ _ | .ifCond _ _ | .if_icmp _ _ | .goto _ | .tableswitch _ _ _ _ | .lookupswitch _ _ | .getfield _ | .putfield _ | .arraylength | .iaload | .laload | .aaload | .iastore | .lastore | .aastore | .new _ | .newarray _ | .anewarray _ | .invokevirtual _ | .invokespecial _ | .invokestatic _ => true
  | _ => false
set_option maxHeartbeats 8000000 in
theorem jm_stepA {d mi pc npc a0 b0 : Nat} {z0 : Int} {ins : Instr} {ls : jm_L} {st : List Value} {H : jm_H} {cf : jm_C} {E : jm_E} (C : jm_Cx p s m args meth c dC dI dA base b L xs q) (hF : jm_Fa q pc (ins, npc, a0, b0, z0)) (ho : jm_on q.2.2.2.2.2 = q.1.cls)
    (hs : jm_stp xs L E (ins, npc, a0, b0, z0) pc ls st H = some (.inl cf)) (G' : jm_G p l e R s m args below meth c Q dC dI dA base b q n0 s0 cf)
    (hX : jm_big ins = false) : jm_G p l e R s m args below meth c Q dC dI dA base b q n0 s0 (pc, ls, st, H) := by
  obtain ⟨hx, hb, hml, hown, hts, hXw, hK, hXs, hbb, hbs, hmn⟩ := C
  obtain ⟨hd, hn, hk, hsd⟩ := hF
  have hw : ∀ k, jm_need (ins, npc, a0, b0, z0) = some k → ∀ w ∈ jm_lw q.2.2.2.2.2 k, w.before args s = true := fun k h w hw => jm_word hts hXw (hk k h) hw
  rw [← ho] at hown
  cases ins
  case iconst n =>
    have hn : npc = pc + 1 := hn
    subst hn
    have hcf := jm_nx_inj hs
    subst hcf
    intro Hc locs arr cells slots hR hS hl h1 h2
    exact lv_iconst hx hb hd rfl (G' Hc locs arr cells slots hR hS hl h1 h2)
  case bipush n =>
    have hn : npc = pc + 2 := hn
    subst hn
    have hcf := jm_nx_inj hs
    subst hcf
    intro Hc locs arr cells slots hR hS hl h1 h2
    exact lv_bipush hx hb hd rfl (G' Hc locs arr cells slots hR hS hl h1 h2)
  case sipush n =>
    have hn : npc = pc + 3 := hn
    subst hn
    have hcf := jm_nx_inj hs
    subst hcf
    intro Hc locs arr cells slots hR hS hl h1 h2
    exact lv_sipush hx hb hd rfl (G' Hc locs arr cells slots hR hS hl h1 h2)
  case lconst n =>
    have hn : npc = pc + 1 := hn
    subst hn
    have hcf := jm_nx_inj hs
    subst hcf
    intro Hc locs arr cells slots hR hS hl h1 h2
    exact lv_lconst hx hb hd rfl (G' Hc locs arr cells slots hR hS hl h1 h2)
  case ldc i =>
    have hn : npc = pc + 2 := hn
    subst hn
    simp only [jm_stp] at hs
    have hsd' : (a0 == 0 || a0 == 1) = true := hsd
    simp only [Bool.or_eq_true, beq_iff_eq] at hsd'
    rcases hsd' with rfl | rfl
    · rw [if_neg (by decide)] at hs
      have hcf := jm_nx_inj hs
      subst hcf
      intro Hc locs arr cells slots hR hS hl h1 h2
      exact lv_ldc hx hb hown (hw _ rfl _ (List.mem_singleton.mpr rfl)) hd (G' Hc locs arr cells slots hR hS hl h1 h2)
    · rw [if_pos rfl] at hs
      have hcf := jm_nx_inj hs
      subst hcf
      have hlk := jm_lkok (hk _ rfl)
      simp only [jm_lok, if_true, Bool.and_eq_true, decide_eq_true_eq, beq_iff_eq] at hlk
      obtain ⟨hl1, hl2⟩ := hlk
      rw [hl1] at hown
      subst hl2
      intro Hc locs arr cells slots hR hS hl h1 h2
      exact va_ldcS hx hb hown hXs.2.1 hd (G' Hc locs arr cells slots hR hS hl h1 h2)
  case ldc_w i =>
    have hn : npc = pc + 3 := hn
    subst hn
    have hcf := jm_nx_inj hs
    subst hcf
    intro Hc locs arr cells slots hR hS hl h1 h2
    exact lv_ldcw hx hb hown (hw _ rfl _ (List.mem_singleton.mpr rfl)) hd (G' Hc locs arr cells slots hR hS hl h1 h2)
  case ldc2_w i =>
    have hn : npc = pc + 3 := hn
    subst hn
    have hcf := jm_nx_inj hs
    subst hcf
    intro Hc locs arr cells slots hR hS hl h1 h2
    exact lv_ldc2 hx hb hown (hw _ rfl _ (List.mem_singleton.mpr rfl)) hd (G' Hc locs arr cells slots hR hS hl h1 h2)
  case iload_n k =>
    have hn : npc = pc + 1 := hn
    subst hn
    simp only [jm_stp] at hs
    split at hs
    · rename_i hq
      have hcf := jm_nx_inj hs
      subst hcf
      intro Hc locs arr cells slots hR hS hl h1 h2
      exact lv_iload_n hx hb hd rfl (hl.2.2.2 _ _ hq) (G' Hc locs arr cells slots hR hS hl h1 h2)
    · cases hs
  case iload k =>
    have hn : npc = pc + 2 := hn
    subst hn
    simp only [jm_stp] at hs
    split at hs
    · rename_i hq
      have hcf := jm_nx_inj hs
      subst hcf
      intro Hc locs arr cells slots hR hS hl h1 h2
      exact lv_iload hx hb hd (hl.2.2.2 _ _ hq) (G' Hc locs arr cells slots hR hS hl h1 h2)
    · cases hs
  case lload_n k =>
    have hn : npc = pc + 1 := hn
    subst hn
    simp only [jm_stp] at hs
    split at hs
    · rename_i hq
      have hcf := jm_nx_inj hs
      subst hcf
      intro Hc locs arr cells slots hR hS hl h1 h2
      exact lv_lload_n hx hb hd rfl (hl.2.2.2 _ _ hq) (G' Hc locs arr cells slots hR hS hl h1 h2)
    · cases hs
  case lload k =>
    have hn : npc = pc + 2 := hn
    subst hn
    simp only [jm_stp] at hs
    split at hs
    · rename_i hq
      have hcf := jm_nx_inj hs
      subst hcf
      intro Hc locs arr cells slots hR hS hl h1 h2
      exact lv_lload hx hb hd (hl.2.2.2 _ _ hq) (G' Hc locs arr cells slots hR hS hl h1 h2)
    · cases hs
  case aload k =>
    have hn : npc = pc + 2 := hn
    subst hn
    simp only [jm_stp] at hs
    split at hs
    · rename_i hq
      have hcf := jm_nx_inj hs
      subst hcf
      intro Hc locs arr cells slots hR hS hl h1 h2
      exact lv_aload hx hb hd (hl.2.2.2 _ _ hq) (G' Hc locs arr cells slots hR hS hl h1 h2)
    · cases hs
  case aload_n k =>
    have hn : npc = pc + 1 := hn
    subst hn
    simp only [jm_stp] at hs
    split at hs
    · rename_i hq
      have hcf := jm_nx_inj hs
      subst hcf
      intro Hc locs arr cells slots hR hS hl h1 h2
      exact lv_aload_n hx hb hd rfl (hl.2.2.2 _ _ hq) (G' Hc locs arr cells slots hR hS hl h1 h2)
    · rename_i hq
      have hcf := jm_nx_inj hs
      subst hcf
      intro Hc locs arr cells slots hR hS hl h1 h2
      exact lv_aload_n hx hb hd rfl (hl.2.2.2 _ _ hq) (G' Hc locs arr cells slots hR hS hl h1 h2)
    · cases hs
  case istore_n k =>
    have hn : npc = pc + 1 := hn
    subst hn
    simp only [jm_stp] at hs
    split at hs
    · unfold jm_sto at hs
      split at hs
      · rename_i hq
        have hcf := jm_nx_inj hs
        subst hcf
        intro Hc locs arr cells slots hR hS hl h1 h2
        have hlen := (jm_st1_len hq).2
        refine lv_istore_n hx hb hd rfl hl.has (by have hll : ls.length = q.2.2.1 := hl.2.1; omega) rfl (fun arr1 h3 => ?_)
        exact G' Hc locs arr1 cells slots hR hS (hl.st1 hq h3) h1 h2
      · cases hs
    · cases hs
  case istore k =>
    have hn : npc = pc + 2 := hn
    subst hn
    simp only [jm_stp] at hs
    split at hs
    · unfold jm_sto at hs
      split at hs
      · rename_i hq
        have hcf := jm_nx_inj hs
        subst hcf
        intro Hc locs arr cells slots hR hS hl h1 h2
        have hlen := (jm_st1_len hq).2
        refine lv_istore hx hb hd hl.has (by have hll : ls.length = q.2.2.1 := hl.2.1; omega) rfl (fun arr1 h3 => ?_)
        exact G' Hc locs arr1 cells slots hR hS (hl.st1 hq h3) h1 h2
      · cases hs
    · cases hs
  case lstore k =>
    have hn : npc = pc + 2 := hn
    subst hn
    simp only [jm_stp] at hs
    split at hs
    · unfold jm_sto at hs
      split at hs
      · rename_i hq
        have hcf := jm_nx_inj hs
        subst hcf
        intro Hc locs arr cells slots hR hS hl h1 h2
        have hlen := (jm_st2_len hq).2
        refine lv_lstore hx hb hd hl.has (by have hll : ls.length = q.2.2.1 := hl.2.1; omega) rfl (fun arr1 h3 => ?_)
        exact G' Hc locs arr1 cells slots hR hS (hl.st2 hq h3) h1 h2
      · cases hs
    · cases hs
  case astore_n k =>
    have hn : npc = pc + 1 := hn
    subst hn
    simp only [jm_stp] at hs
    split at hs
    · unfold jm_sto at hs
      split at hs
      · rename_i hq
        have hcf := jm_nx_inj hs
        subst hcf
        intro Hc locs arr cells slots hR hS hl h1 h2
        have hlen := (jm_st1_len hq).2
        refine lv_astore_n hx hb hd rfl hl.has (by have hll : ls.length = q.2.2.1 := hl.2.1; omega) rfl (fun arr1 h3 => ?_)
        exact G' Hc locs arr1 cells slots hR hS (hl.st1 hq h3) h1 h2
      · cases hs
    · cases hs
  case astore k =>
    have hn : npc = pc + 2 := hn
    subst hn
    simp only [jm_stp] at hs
    split at hs
    · unfold jm_sto at hs
      split at hs
      · rename_i hq
        have hcf := jm_nx_inj hs
        subst hcf
        intro Hc locs arr cells slots hR hS hl h1 h2
        have hlen := (jm_st1_len hq).2
        refine lv_astore hx hb hd hl.has (by have hll : ls.length = q.2.2.1 := hl.2.1; omega) rfl (fun arr1 h3 => ?_)
        exact G' Hc locs arr1 cells slots hR hS (hl.st1 hq h3) h1 h2
      · cases hs
    · cases hs
  case iadd =>
    have hn : npc = pc + 1 := hn
    subst hn
    simp only [jm_stp] at hs
    split at hs
    · have hcf := jm_nx_inj hs
      subst hcf
      intro Hc locs arr cells slots hR hS hl h1 h2
      exact lv_iadd hx hb hd (G' Hc locs arr cells slots hR hS hl h1 h2)
    · cases hs
  case isub =>
    have hn : npc = pc + 1 := hn
    subst hn
    simp only [jm_stp] at hs
    split at hs
    · have hcf := jm_nx_inj hs
      subst hcf
      intro Hc locs arr cells slots hR hS hl h1 h2
      exact lv_isub hx hb hd (G' Hc locs arr cells slots hR hS hl h1 h2)
    · cases hs
  case imul =>
    have hn : npc = pc + 1 := hn
    subst hn
    simp only [jm_stp] at hs
    split at hs
    · have hcf := jm_nx_inj hs
      subst hcf
      intro Hc locs arr cells slots hR hS hl h1 h2
      exact lv_imul hx hb hd (G' Hc locs arr cells slots hR hS hl h1 h2)
    · cases hs
  case iand =>
    have hn : npc = pc + 1 := hn
    subst hn
    simp only [jm_stp] at hs
    split at hs
    · have hcf := jm_nx_inj hs
      subst hcf
      intro Hc locs arr cells slots hR hS hl h1 h2
      exact lv_iand hx hb hd (G' Hc locs arr cells slots hR hS hl h1 h2)
    · cases hs
  case ior =>
    have hn : npc = pc + 1 := hn
    subst hn
    simp only [jm_stp] at hs
    split at hs
    · have hcf := jm_nx_inj hs
      subst hcf
      intro Hc locs arr cells slots hR hS hl h1 h2
      exact lv_ior hx hb hd (G' Hc locs arr cells slots hR hS hl h1 h2)
    · cases hs
  case ixor =>
    have hn : npc = pc + 1 := hn
    subst hn
    simp only [jm_stp] at hs
    split at hs
    · have hcf := jm_nx_inj hs
      subst hcf
      intro Hc locs arr cells slots hR hS hl h1 h2
      exact lv_ixor hx hb hd (G' Hc locs arr cells slots hR hS hl h1 h2)
    · cases hs
  case ishl =>
    have hn : npc = pc + 1 := hn
    subst hn
    simp only [jm_stp] at hs
    split at hs
    · have hcf := jm_nx_inj hs
      subst hcf
      intro Hc locs arr cells slots hR hS hl h1 h2
      exact lv_ishl hx hb hd (G' Hc locs arr cells slots hR hS hl h1 h2)
    · cases hs
  case ishr =>
    have hn : npc = pc + 1 := hn
    subst hn
    simp only [jm_stp] at hs
    split at hs
    · have hcf := jm_nx_inj hs
      subst hcf
      intro Hc locs arr cells slots hR hS hl h1 h2
      exact lv_ishr hx hb hd (G' Hc locs arr cells slots hR hS hl h1 h2)
    · cases hs
  case iushr =>
    have hn : npc = pc + 1 := hn
    subst hn
    simp only [jm_stp] at hs
    split at hs
    · have hcf := jm_nx_inj hs
      subst hcf
      intro Hc locs arr cells slots hR hS hl h1 h2
      exact lv_iushr hx hb hd rfl (G' Hc locs arr cells slots hR hS hl h1 h2)
    · cases hs
  case ineg =>
    have hn : npc = pc + 1 := hn
    subst hn
    simp only [jm_stp] at hs
    split at hs
    · have hcf := jm_nx_inj hs
      subst hcf
      intro Hc locs arr cells slots hR hS hl h1 h2
      exact lv_ineg hx hb hd (G' Hc locs arr cells slots hR hS hl h1 h2)
    · cases hs
  case ladd =>
    have hn : npc = pc + 1 := hn
    subst hn
    simp only [jm_stp] at hs
    split at hs
    · have hcf := jm_nx_inj hs
      subst hcf
      intro Hc locs arr cells slots hR hS hl h1 h2
      exact lv_ladd hx hb hd (G' Hc locs arr cells slots hR hS hl h1 h2)
    · cases hs
  case land =>
    have hn : npc = pc + 1 := hn
    subst hn
    simp only [jm_stp] at hs
    split at hs
    · have hcf := jm_nx_inj hs
      subst hcf
      intro Hc locs arr cells slots hR hS hl h1 h2
      exact lv_land hx hb hd (G' Hc locs arr cells slots hR hS hl h1 h2)
    · cases hs
  case lor =>
    have hn : npc = pc + 1 := hn
    subst hn
    simp only [jm_stp] at hs
    split at hs
    · have hcf := jm_nx_inj hs
      subst hcf
      intro Hc locs arr cells slots hR hS hl h1 h2
      exact lv_lor hx hb hd (G' Hc locs arr cells slots hR hS hl h1 h2)
    · cases hs
  case lshl =>
    have hn : npc = pc + 1 := hn
    subst hn
    simp only [jm_stp] at hs
    split at hs
    · have hcf := jm_nx_inj hs
      subst hcf
      intro Hc locs arr cells slots hR hS hl h1 h2
      exact lv_lshl hx hb hd rfl (G' Hc locs arr cells slots hR hS hl h1 h2)
    · cases hs
  case lcmp =>
    have hn : npc = pc + 1 := hn
    subst hn
    simp only [jm_stp] at hs
    split at hs
    · have hcf := jm_nx_inj hs
      subst hcf
      intro Hc locs arr cells slots hR hS hl h1 h2
      exact W.lcmp hx hb hd (G' Hc locs arr cells slots hR hS hl h1 h2)
    · cases hs
  case i2l =>
    have hn : npc = pc + 1 := hn
    subst hn
    simp only [jm_stp] at hs
    split at hs
    · have hcf := jm_nx_inj hs
      subst hcf
      intro Hc locs arr cells slots hR hS hl h1 h2
      exact lv_i2l hx hb hd rfl (G' Hc locs arr cells slots hR hS hl h1 h2)
    · cases hs
  case l2i =>
    have hn : npc = pc + 1 := hn
    subst hn
    simp only [jm_stp] at hs
    split at hs
    · have hcf := jm_nx_inj hs
      subst hcf
      intro Hc locs arr cells slots hR hS hl h1 h2
      exact lv_l2i hx hb hd rfl (G' Hc locs arr cells slots hR hS hl h1 h2)
    · cases hs
  case i2b =>
    have hn : npc = pc + 1 := hn
    subst hn
    simp only [jm_stp] at hs
    split at hs
    · have hcf := jm_nx_inj hs
      subst hcf
      intro Hc locs arr cells slots hR hS hl h1 h2
      exact lv_i2b hx hb hd rfl (G' Hc locs arr cells slots hR hS hl h1 h2)
    · cases hs
  case i2s =>
    have hn : npc = pc + 1 := hn
    subst hn
    simp only [jm_stp] at hs
    split at hs
    · have hcf := jm_nx_inj hs
      subst hcf
      intro Hc locs arr cells slots hR hS hl h1 h2
      exact lv_i2s hx hb hd rfl (G' Hc locs arr cells slots hR hS hl h1 h2)
    · cases hs
  case dup =>
    have hn : npc = pc + 1 := hn
    subst hn
    simp only [jm_stp] at hs
    split at hs
    · have hcf := jm_nx_inj hs
      subst hcf
      intro Hc locs arr cells slots hR hS hl h1 h2
      exact lv_dup hx hb hd rfl (G' Hc locs arr cells slots hR hS hl h1 h2)
    · have hcf := jm_nx_inj hs
      subst hcf
      intro Hc locs arr cells slots hR hS hl h1 h2
      exact lv_dup hx hb hd rfl (G' Hc locs arr cells slots hR hS hl h1 h2)
    · cases hs
  case pop =>
    have hn : npc = pc + 1 := hn
    subst hn
    simp only [jm_stp] at hs
    split at hs
    · have hcf := jm_nx_inj hs
      subst hcf
      intro Hc locs arr cells slots hR hS hl h1 h2
      exact lv_pop hx hb hd rfl (G' Hc locs arr cells slots hR hS hl h1 h2)
    · have hcf := jm_nx_inj hs
      subst hcf
      intro Hc locs arr cells slots hR hS hl h1 h2
      exact lv_pop hx hb hd rfl (G' Hc locs arr cells slots hR hS hl h1 h2)
    · cases hs
  case dup_x1 =>
    have hn : npc = pc + 1 := hn
    subst hn
    simp only [jm_stp] at hs
    split at hs
    · have hcf := jm_nx_inj hs
      subst hcf
      intro Hc locs arr cells slots hR hS hl h1 h2
      exact lv_dup_x1 hx hb hd rfl rfl (G' Hc locs arr cells slots hR hS hl h1 h2)
    · have hcf := jm_nx_inj hs
      subst hcf
      intro Hc locs arr cells slots hR hS hl h1 h2
      exact lv_dup_x1 hx hb hd rfl rfl (G' Hc locs arr cells slots hR hS hl h1 h2)
    · cases hs
  case dup2 =>
    have hn : npc = pc + 1 := hn
    subst hn
    simp only [jm_stp] at hs
    split at hs
    · have hcf := jm_nx_inj hs
      subst hcf
      intro Hc locs arr cells slots hR hS hl h1 h2
      exact lv_dup2_11 hx hb hd rfl rfl (G' Hc locs arr cells slots hR hS hl h1 h2)
    · cases hs
  case idiv =>
    have hn : npc = pc + 1 := hn
    subst hn
    simp only [jm_stp] at hs
    split at hs
    · split at hs
      · cases hs
      · rename_i hne
        have hcf := jm_nx_inj hs
        subst hcf
        intro Hc locs arr cells slots hR hS hl h1 h2
        exact lv_idiv hx hb hd hne (G' Hc locs arr cells slots hR hS hl h1 h2)
    · cases hs
  case irem =>
    have hn : npc = pc + 1 := hn
    subst hn
    simp only [jm_stp] at hs
    split at hs
    · split at hs
      · cases hs
      · rename_i hne
        have hcf := jm_nx_inj hs
        subst hcf
        intro Hc locs arr cells slots hR hS hl h1 h2
        exact lv_irem hx hb hd hne (G' Hc locs arr cells slots hR hS hl h1 h2)
    · cases hs
  all_goals first | exact Bool.noConfusion (show true = false from hX) | (simp [jm_stp] at hs; done) | (simp only [jm_stp] at hs; (repeat' split at hs) <;> cases hs)
end JMX
end
section
section JMY
variable {p : Program} {l : Launch} {e : Env} {R : Room} {s : State} {m : MethodId} {args : Array Value} {below : List Frame} {meth : Method} {c : Code} {Q : State → Prop}
variable {dC : Nat → ClassId} {dI : Nat → Nat → Nat} {dA : Nat → ClassId} {base : Nat} {b : Nat → Nat} {L : Nat} {xs : Nat → Int32} {q : jm_M} {n0 s0 : Nat}
variable {pc npc a0 b0 : Nat} {z0 : Int} {ls : jm_L} {st : List Value} {H : jm_H} {cf : jm_C} {E : jm_E}
theorem jm_vin {i : Int32} {n : Nat} (h0 : 0 ≤ i) (h : i.toNatClampNeg < n) : vp_in i n := by
  rintro (h1 | h1)
  · rw [Int32.lt_iff_toInt_lt] at h1
    rw [Int32.le_iff_toInt_le] at h0
    omega
  · omega
theorem jm_fset {N k : Nat} {f g : Nat → Value} {x : Value} (hk : g k = x) (ho : ∀ j, j ≠ k → g j = f j) : ((List.range N).map f).set k x = (List.range N).map g := by
  apply List.ext_getElem?
  intro j
  by_cases hj : j < N
  · by_cases e1 : j = k
    · subst e1
      rw [List.getElem?_set_self (by simp; exact hj), List.getElem?_map, List.getElem?_range hj, ← hk]
      rfl
    · rw [List.getElem?_set_ne (Ne.symm e1), List.getElem?_map, List.getElem?_map, List.getElem?_range hj]
      show some (f j) = some (g j)
      rw [ho j e1]
  · rw [List.getElem?_eq_none (by simp; omega), List.getElem?_eq_none (by simp; omega)]
theorem jm_sl_set {H : jm_H} {a : Nat} {f : Nat → Option Nat} : ((H.1.set a (jm_kd H a, jm_ln H a, f)).map (fun s => s.2.1)).sum = (H.1.map (fun s => s.2.1)).sum := by
  rw [List.map_set]
  congr 1
  apply List.ext_getElem?
  intro j
  by_cases e1 : j = a
  · subst e1
    by_cases hj : j < H.1.length
    · rw [List.getElem?_set_self (by simp; exact hj), List.getElem?_map]
      unfold jm_ln
      rw [List.getElem?_eq_getElem hj]
      rfl
    · rw [List.getElem?_eq_none (by simp; omega), List.getElem?_eq_none (by simp; omega)]
  · rw [List.getElem?_set_ne (Ne.symm e1)]
theorem jm_rset_at {H : jm_H} {a v k : Nat} (ha : a < H.1.length) : jm_kd (H.1.set a (jm_kd H a, jm_ln H a, fun j => if j = k then some v else jm_rf H a j), H.2.1, H.2.2) a = jm_kd H a ∧ jm_ln (H.1.set a (jm_kd H a, jm_ln H a, fun j => if j = k then some v else jm_rf H a j), H.2.1, H.2.2) a = jm_ln H a ∧ jm_rf (H.1.set a (jm_kd H a, jm_ln H a, fun j => if j = k then some v else jm_rf H a j), H.2.1, H.2.2) a = fun j => if j = k then some v else jm_rf H a j := by
  have hg : (H.1.set a (jm_kd H a, jm_ln H a, fun j => if j = k then some v else jm_rf H a j))[a]? = some (jm_kd H a, jm_ln H a, fun j => if j = k then some v else jm_rf H a j) := List.getElem?_set_self ha
  refine ⟨?_, ?_, ?_⟩
  · show (match (H.1.set a (jm_kd H a, jm_ln H a, fun j => if j = k then some v else jm_rf H a j))[a]? with | some s => s.1 | none => 0) = _
    rw [hg]
  · show (match (H.1.set a (jm_kd H a, jm_ln H a, fun j => if j = k then some v else jm_rf H a j))[a]? with | some s => s.2.1 | none => 0) = _
    rw [hg]
  · funext x
    show (match (H.1.set a (jm_kd H a, jm_ln H a, fun j => if j = k then some v else jm_rf H a j))[a]? with | some s => s.2.2 x | none => none) = _
    rw [hg]
theorem jm_tyz_isr {ci k : Nat} {z : Int} (h : jm_tyz (jm_ty ci k) z = true) : jm_isr ci k = true ↔ z = 1 := by
  unfold jm_isr
  cases ht : jm_ty ci k <;> rw [ht] at h <;> simp [jm_tyz] at h ⊢ <;> omega
theorem jm_rset_ne {H : jm_H} {a j : Nat} {s : jm_S} (h : j ≠ a) : (H.1.set a s)[j]? = H.1[j]? := List.getElem?_set_ne (Ne.symm h)
set_option maxHeartbeats 4000000 in
theorem jm_s_iinc {k : Nat} {n : Int} (C : jm_Cx p s m args meth c dC dI dA base b L xs q) (hF : jm_Fa q pc (.iinc k n, npc, a0, b0, z0)) (ho : jm_on q.2.2.2.2.2 = q.1.cls)
    (hs : jm_stp xs L E (.iinc k n, npc, a0, b0, z0) pc ls st H = some (.inl cf)) (G' : jm_G p l e R s m args below meth c Q dC dI dA base b q n0 s0 cf) : jm_G p l e R s m args below meth c Q dC dI dA base b q n0 s0 (pc, ls, st, H) := by
  obtain ⟨hx, hb, hml, hown, hts, hXw, hK, hXs, hbb, hbs, hmn⟩ := C
  obtain ⟨hd, hn, hk, hsd⟩ := hF
  have hw : ∀ k9 : jm_K, jm_need (.iinc k n, npc, a0, b0, z0) = some k9 → ∀ w ∈ jm_lw q.2.2.2.2.2 k9, w.before args s = true := fun k9 h w hw => jm_word hts hXw (hk k9 h) hw
  rw [← ho] at hown
  simp only [jm_stp] at hs
  have hn : npc = pc + 3 := hn
  subst hn
  split at hs
  · rename_i x hq
    unfold jm_sto at hs
    split at hs
    · rename_i ls' hq2
      have hcf := jm_nx_inj hs
      subst hcf
      intro Hc locs arr cells slots hR hS hl h1 h2
      have hm : ((k, Value.int x) : Nat × Value) ∈ jm_kl base b ls := jm_kl_mem.mpr ⟨.int x, hq, rfl⟩
      obtain ⟨j, hj⟩ := List.getElem?_of_mem hm
      have hlen := (jm_st1_len hq2).2
      have hll : ls.length = q.2.2.1 := hl.2.1
      refine lv_iinc hx hb hd hl.has (k := j) hj rfl (by omega) rfl (fun arr1 h3 => ?_)
      exact G' Hc locs arr1 cells slots hR hS (hl.st1 hq2 h3) h1 h2
    · cases hs
  · cases hs
set_option maxHeartbeats 4000000 in
theorem jm_s_ifc {cc : ClassFile.Cond} {off : Int} (C : jm_Cx p s m args meth c dC dI dA base b L xs q) (hF : jm_Fa q pc (.ifCond cc off, npc, a0, b0, z0)) (ho : jm_on q.2.2.2.2.2 = q.1.cls)
    (hs : jm_stp xs L E (.ifCond cc off, npc, a0, b0, z0) pc ls st H = some (.inl cf)) (G' : jm_G p l e R s m args below meth c Q dC dI dA base b q n0 s0 cf) : jm_G p l e R s m args below meth c Q dC dI dA base b q n0 s0 (pc, ls, st, H) := by
  obtain ⟨hx, hb, hml, hown, hts, hXw, hK, hXs, hbb, hbs, hmn⟩ := C
  obtain ⟨hd, hn, hk, hsd⟩ := hF
  have hw : ∀ k9 : jm_K, jm_need (.ifCond cc off, npc, a0, b0, z0) = some k9 → ∀ w ∈ jm_lw q.2.2.2.2.2 k9, w.before args s = true := fun k9 h w hw => jm_word hts hXw (hk k9 h) hw
  rw [← ho] at hown
  simp only [jm_stp] at hs
  have hn : npc = pc + 3 := hn
  subst hn
  have ht : (pc : Int) + off = (a0 : Int) := of_decide_eq_true hsd
  split at hs
  · cases cc
    case eq =>
      simp only [jm_ifb] at hs
      split at hs
      · rename_i hc
        have hcf := jm_nx_inj hs
        subst hcf
        intro Hc locs arr cells slots hR hS hl h1 h2
        exact lv_if_eq hx hb hd ht (fun _ => G' Hc locs arr cells slots hR hS hl h1 h2) (fun h => absurd hc h)
      · rename_i hc
        have hcf := jm_nx_inj hs
        subst hcf
        intro Hc locs arr cells slots hR hS hl h1 h2
        exact lv_if_eq hx hb hd ht (fun h => absurd h hc) (fun _ => G' Hc locs arr cells slots hR hS hl h1 h2)
    case ne =>
      simp only [jm_ifb] at hs
      split at hs
      · rename_i hc
        have hcf := jm_nx_inj hs
        subst hcf
        intro Hc locs arr cells slots hR hS hl h1 h2
        exact lv_if_ne hx hb hd ht (fun _ => G' Hc locs arr cells slots hR hS hl h1 h2) (fun h => absurd h hc)
      · rename_i hc
        have hcf := jm_nx_inj hs
        subst hcf
        intro Hc locs arr cells slots hR hS hl h1 h2
        exact lv_if_ne hx hb hd ht (fun h => absurd h hc) (fun _ => G' Hc locs arr cells slots hR hS hl h1 h2)
    case lt =>
      simp only [jm_ifb] at hs
      split at hs
      · rename_i hc
        have hcf := jm_nx_inj hs
        subst hcf
        intro Hc locs arr cells slots hR hS hl h1 h2
        exact lv_if_lt hx hb hd ht (fun _ => G' Hc locs arr cells slots hR hS hl h1 h2) (fun h => absurd hc h)
      · rename_i hc
        have hcf := jm_nx_inj hs
        subst hcf
        intro Hc locs arr cells slots hR hS hl h1 h2
        exact lv_if_lt hx hb hd ht (fun h => absurd h hc) (fun _ => G' Hc locs arr cells slots hR hS hl h1 h2)
    case ge =>
      simp only [jm_ifb] at hs
      split at hs
      · rename_i hc
        have hcf := jm_nx_inj hs
        subst hcf
        intro Hc locs arr cells slots hR hS hl h1 h2
        exact lv_if_ge hx hb hd ht (fun _ => G' Hc locs arr cells slots hR hS hl h1 h2) (fun h => absurd hc h)
      · rename_i hc
        have hcf := jm_nx_inj hs
        subst hcf
        intro Hc locs arr cells slots hR hS hl h1 h2
        exact lv_if_ge hx hb hd ht (fun h => absurd h hc) (fun _ => G' Hc locs arr cells slots hR hS hl h1 h2)
    case gt =>
      simp only [jm_ifb] at hs
      split at hs
      · rename_i hc
        have hcf := jm_nx_inj hs
        subst hcf
        intro Hc locs arr cells slots hR hS hl h1 h2
        exact lv_if_gt hx hb hd ht (fun _ => G' Hc locs arr cells slots hR hS hl h1 h2) (fun h => absurd hc h)
      · rename_i hc
        have hcf := jm_nx_inj hs
        subst hcf
        intro Hc locs arr cells slots hR hS hl h1 h2
        exact lv_if_gt hx hb hd ht (fun h => absurd h hc) (fun _ => G' Hc locs arr cells slots hR hS hl h1 h2)
    case le =>
      simp only [jm_ifb] at hs
      split at hs
      · rename_i hc
        have hcf := jm_nx_inj hs
        subst hcf
        intro Hc locs arr cells slots hR hS hl h1 h2
        exact lv_if_le hx hb hd ht (fun _ => G' Hc locs arr cells slots hR hS hl h1 h2) (fun h => absurd hc h)
      · rename_i hc
        have hcf := jm_nx_inj hs
        subst hcf
        intro Hc locs arr cells slots hR hS hl h1 h2
        exact lv_if_le hx hb hd ht (fun h => absurd h hc) (fun _ => G' Hc locs arr cells slots hR hS hl h1 h2)
  · cases hs
set_option maxHeartbeats 4000000 in
theorem jm_s_icmp {cc : ClassFile.Cond} {off : Int} (C : jm_Cx p s m args meth c dC dI dA base b L xs q) (hF : jm_Fa q pc (.if_icmp cc off, npc, a0, b0, z0)) (ho : jm_on q.2.2.2.2.2 = q.1.cls)
    (hs : jm_stp xs L E (.if_icmp cc off, npc, a0, b0, z0) pc ls st H = some (.inl cf)) (G' : jm_G p l e R s m args below meth c Q dC dI dA base b q n0 s0 cf) : jm_G p l e R s m args below meth c Q dC dI dA base b q n0 s0 (pc, ls, st, H) := by
  obtain ⟨hx, hb, hml, hown, hts, hXw, hK, hXs, hbb, hbs, hmn⟩ := C
  obtain ⟨hd, hn, hk, hsd⟩ := hF
  have hw : ∀ k9 : jm_K, jm_need (.if_icmp cc off, npc, a0, b0, z0) = some k9 → ∀ w ∈ jm_lw q.2.2.2.2.2 k9, w.before args s = true := fun k9 h w hw => jm_word hts hXw (hk k9 h) hw
  rw [← ho] at hown
  simp only [jm_stp] at hs
  have hn : npc = pc + 3 := hn
  subst hn
  have ht : (pc : Int) + off = (a0 : Int) := of_decide_eq_true hsd
  split at hs
  · cases cc
    case eq =>
      simp only [jm_ifb] at hs
      split at hs
      · rename_i hc
        have hcf := jm_nx_inj hs
        subst hcf
        intro Hc locs arr cells slots hR hS hl h1 h2
        exact lv_icmp_eq hx hb hd ht (fun _ => G' Hc locs arr cells slots hR hS hl h1 h2) (fun h => absurd hc h)
      · rename_i hc
        have hcf := jm_nx_inj hs
        subst hcf
        intro Hc locs arr cells slots hR hS hl h1 h2
        exact lv_icmp_eq hx hb hd ht (fun h => absurd h hc) (fun _ => G' Hc locs arr cells slots hR hS hl h1 h2)
    case ne =>
      simp only [jm_ifb] at hs
      split at hs
      · rename_i hc
        have hcf := jm_nx_inj hs
        subst hcf
        intro Hc locs arr cells slots hR hS hl h1 h2
        exact lv_icmp_ne hx hb hd ht (fun _ => G' Hc locs arr cells slots hR hS hl h1 h2) (fun h => absurd h hc)
      · rename_i hc
        have hcf := jm_nx_inj hs
        subst hcf
        intro Hc locs arr cells slots hR hS hl h1 h2
        exact lv_icmp_ne hx hb hd ht (fun h => absurd h hc) (fun _ => G' Hc locs arr cells slots hR hS hl h1 h2)
    case lt =>
      simp only [jm_ifb] at hs
      split at hs
      · rename_i hc
        have hcf := jm_nx_inj hs
        subst hcf
        intro Hc locs arr cells slots hR hS hl h1 h2
        exact lv_icmp_lt hx hb hd ht (fun _ => G' Hc locs arr cells slots hR hS hl h1 h2) (fun h => absurd hc h)
      · rename_i hc
        have hcf := jm_nx_inj hs
        subst hcf
        intro Hc locs arr cells slots hR hS hl h1 h2
        exact lv_icmp_lt hx hb hd ht (fun h => absurd h hc) (fun _ => G' Hc locs arr cells slots hR hS hl h1 h2)
    case ge =>
      simp only [jm_ifb] at hs
      split at hs
      · rename_i hc
        have hcf := jm_nx_inj hs
        subst hcf
        intro Hc locs arr cells slots hR hS hl h1 h2
        exact lv_icmp_ge hx hb hd ht (fun _ => G' Hc locs arr cells slots hR hS hl h1 h2) (fun h => absurd hc h)
      · rename_i hc
        have hcf := jm_nx_inj hs
        subst hcf
        intro Hc locs arr cells slots hR hS hl h1 h2
        exact lv_icmp_ge hx hb hd ht (fun h => absurd h hc) (fun _ => G' Hc locs arr cells slots hR hS hl h1 h2)
    case gt =>
      simp only [jm_ifb] at hs
      split at hs
      · rename_i hc
        have hcf := jm_nx_inj hs
        subst hcf
        intro Hc locs arr cells slots hR hS hl h1 h2
        exact lv_icmp_gt hx hb hd ht (fun _ => G' Hc locs arr cells slots hR hS hl h1 h2) (fun h => absurd hc h)
      · rename_i hc
        have hcf := jm_nx_inj hs
        subst hcf
        intro Hc locs arr cells slots hR hS hl h1 h2
        exact lv_icmp_gt hx hb hd ht (fun h => absurd h hc) (fun _ => G' Hc locs arr cells slots hR hS hl h1 h2)
    case le =>
      simp only [jm_ifb] at hs
      split at hs
      · rename_i hc
        have hcf := jm_nx_inj hs
        subst hcf
        intro Hc locs arr cells slots hR hS hl h1 h2
        exact lv_icmp_le hx hb hd ht (fun _ => G' Hc locs arr cells slots hR hS hl h1 h2) (fun h => absurd hc h)
      · rename_i hc
        have hcf := jm_nx_inj hs
        subst hcf
        intro Hc locs arr cells slots hR hS hl h1 h2
        exact lv_icmp_le hx hb hd ht (fun h => absurd h hc) (fun _ => G' Hc locs arr cells slots hR hS hl h1 h2)
  · cases hs
set_option maxHeartbeats 4000000 in
theorem jm_s_goto {off : Int} (C : jm_Cx p s m args meth c dC dI dA base b L xs q) (hF : jm_Fa q pc (.goto off, npc, a0, b0, z0)) (ho : jm_on q.2.2.2.2.2 = q.1.cls)
    (hs : jm_stp xs L E (.goto off, npc, a0, b0, z0) pc ls st H = some (.inl cf)) (G' : jm_G p l e R s m args below meth c Q dC dI dA base b q n0 s0 cf) : jm_G p l e R s m args below meth c Q dC dI dA base b q n0 s0 (pc, ls, st, H) := by
  obtain ⟨hx, hb, hml, hown, hts, hXw, hK, hXs, hbb, hbs, hmn⟩ := C
  obtain ⟨hd, hn, hk, hsd⟩ := hF
  have hw : ∀ k9 : jm_K, jm_need (.goto off, npc, a0, b0, z0) = some k9 → ∀ w ∈ jm_lw q.2.2.2.2.2 k9, w.before args s = true := fun k9 h w hw => jm_word hts hXw (hk k9 h) hw
  rw [← ho] at hown
  simp only [jm_stp] at hs
  have ht : (pc : Int) + off = (a0 : Int) := of_decide_eq_true hsd
  have hcf := jm_nx_inj hs
  subst hcf
  intro Hc locs arr cells slots hR hS hl h1 h2
  exact lv_goto hx hb hd ht (G' Hc locs arr cells slots hR hS hl h1 h2)
theorem jm_jmp_inj {off : Int} {st : List Value} (h : jm_jmp pc off ls st H = some (.inl cf)) : ∃ t : Nat, (pc : Int) + off = (t : Int) ∧ cf = (t, ls, st, H) := by
  unfold jm_jmp at h
  split at h
  · rename_i h0
    exact ⟨_, (Int.toNat_of_nonneg h0).symm, jm_nx_inj h⟩
  · cases h
set_option maxHeartbeats 4000000 in
theorem jm_s_tsw {dd lo hi : Int} {offs : Array Int} (C : jm_Cx p s m args meth c dC dI dA base b L xs q) (hF : jm_Fa q pc (.tableswitch dd lo hi offs, npc, a0, b0, z0)) (ho : jm_on q.2.2.2.2.2 = q.1.cls)
    (hs : jm_stp xs L E (.tableswitch dd lo hi offs, npc, a0, b0, z0) pc ls st H = some (.inl cf)) (G' : jm_G p l e R s m args below meth c Q dC dI dA base b q n0 s0 cf) : jm_G p l e R s m args below meth c Q dC dI dA base b q n0 s0 (pc, ls, st, H) := by
  obtain ⟨hx, hb, hml, hown, hts, hXw, hK, hXs, hbb, hbs, hmn⟩ := C
  obtain ⟨hd, hn, hk, hsd⟩ := hF
  have hw : ∀ k9 : jm_K, jm_need (.tableswitch dd lo hi offs, npc, a0, b0, z0) = some k9 → ∀ w ∈ jm_lw q.2.2.2.2.2 k9, w.before args s = true := fun k9 h w hw => jm_word hts hXw (hk k9 h) hw
  rw [← ho] at hown
  simp only [jm_stp] at hs
  split at hs
  · split at hs
    · rename_i hc
      obtain ⟨t, ht, hcf⟩ := jm_jmp_inj hs
      subst hcf
      intro Hc locs arr cells slots hR hS hl h1 h2
      exact lv_tableOut hx hb hd hc ht (G' Hc locs arr cells slots hR hS hl h1 h2)
    · rename_i hc
      split at hs
      · rename_i o hof
        obtain ⟨t, ht, hcf⟩ := jm_jmp_inj hs
        subst hcf
        intro Hc locs arr cells slots hR hS hl h1 h2
        exact lv_tableIn hx hb hd (fun h => hc (Or.inl h)) (fun h => hc (Or.inr h)) hof ht (G' Hc locs arr cells slots hR hS hl h1 h2)
      · cases hs
  · cases hs
set_option maxHeartbeats 4000000 in
theorem jm_s_lsw {dd : Int} {ps : Array (Int × Int)} (C : jm_Cx p s m args meth c dC dI dA base b L xs q) (hF : jm_Fa q pc (.lookupswitch dd ps, npc, a0, b0, z0)) (ho : jm_on q.2.2.2.2.2 = q.1.cls)
    (hs : jm_stp xs L E (.lookupswitch dd ps, npc, a0, b0, z0) pc ls st H = some (.inl cf)) (G' : jm_G p l e R s m args below meth c Q dC dI dA base b q n0 s0 cf) : jm_G p l e R s m args below meth c Q dC dI dA base b q n0 s0 (pc, ls, st, H) := by
  obtain ⟨hx, hb, hml, hown, hts, hXw, hK, hXs, hbb, hbs, hmn⟩ := C
  obtain ⟨hd, hn, hk, hsd⟩ := hF
  have hw : ∀ k9 : jm_K, jm_need (.lookupswitch dd ps, npc, a0, b0, z0) = some k9 → ∀ w ∈ jm_lw q.2.2.2.2.2 k9, w.before args s = true := fun k9 h w hw => jm_word hts hXw (hk k9 h) hw
  rw [← ho] at hown
  simp only [jm_stp] at hs
  split at hs
  · obtain ⟨t, ht, hcf⟩ := jm_jmp_inj hs
    subst hcf
    intro Hc locs arr cells slots hR hS hl h1 h2
    exact lv_lookup hx hb hd hsd rfl ht (G' Hc locs arr cells slots hR hS hl h1 h2)
  · cases hs
set_option maxHeartbeats 4000000 in
theorem jm_s_getf {ix : Nat} (C : jm_Cx p s m args meth c dC dI dA base b L xs q) (hF : jm_Fa q pc (.getfield ix, npc, a0, b0, z0)) (ho : jm_on q.2.2.2.2.2 = q.1.cls)
    (hs : jm_stp xs L E (.getfield ix, npc, a0, b0, z0) pc ls st H = some (.inl cf)) (G' : jm_G p l e R s m args below meth c Q dC dI dA base b q n0 s0 cf) : jm_G p l e R s m args below meth c Q dC dI dA base b q n0 s0 (pc, ls, st, H) := by
  obtain ⟨hx, hb, hml, hown, hts, hXw, hK, hXs, hbb, hbs, hmn⟩ := C
  obtain ⟨hd, hn, hk, hsd⟩ := hF
  have hw : ∀ k9 : jm_K, jm_need (.getfield ix, npc, a0, b0, z0) = some k9 → ∀ w ∈ jm_lw q.2.2.2.2.2 k9, w.before args s = true := fun k9 h w hw => jm_word hts hXw (hk k9 h) hw
  rw [← ho] at hown
  simp only [jm_stp] at hs
  have hn : npc = pc + 3 := hn
  subst hn
  have hlk := jm_lkok (hk _ rfl)
  simp only [jm_lok, Bool.and_eq_true, decide_eq_true_eq] at hlk
  obtain ⟨⟨hci, hkb⟩, htz⟩ := hlk
  have hlink : (Cond.fieldLink (jm_on q.2.2.2.2.2) ix (jm_T a0 b0).1 (jm_T a0 b0).2.1 (jm_T a0 b0).2.2.1).before args s = true := hw _ rfl _ (List.mem_singleton.mpr rfl)
  split at hs
  · rename_i a r
    split at hs
    · rename_i hkd
      have hobj := jm_obj (dA := dA) (base := base) hkd
      split at hs
      · rename_i hz
        have hcf := jm_nx_inj hs
        subst hcf
        intro Hc locs arr cells slots hR hS hl h1 h2
        have hir : jm_isr a0 b0 = true := (jm_tyz_isr htz).mpr hz
        refine va_get hx hb hts (jm_lay hci) hown hK hR.1 a hobj (jm_clg hci) b0 hkb hlink (fun x h => h) (jm_fdg hkb) hd ?_
        have G2 := G' Hc locs arr cells slots hR hS hl h1 h2
        simp only [List.map_cons, jm_cvr] at G2
        unfold jm_fd
        rw [if_pos hir]
        exact G2
      · rename_i hz
        have hcf := jm_nx_inj hs
        subst hcf
        intro Hc locs arr cells slots hR hS hl h1 h2
        have hir : ¬ jm_isr a0 b0 = true := fun h => hz ((jm_tyz_isr htz).mp h)
        refine va_get hx hb hts (jm_lay hci) hown hK hR.1 a hobj (jm_clg hci) b0 hkb hlink (fun x h => h) (jm_fdg hkb) hd ?_
        unfold jm_fd
        rw [if_neg hir]
        exact G' Hc locs arr cells slots hR hS hl h1 h2
    · cases hs
  · cases hs
set_option maxHeartbeats 4000000 in
theorem jm_s_putf {ix : Nat} (C : jm_Cx p s m args meth c dC dI dA base b L xs q) (hF : jm_Fa q pc (.putfield ix, npc, a0, b0, z0)) (ho : jm_on q.2.2.2.2.2 = q.1.cls) (hn0 : s.heap.size = base + n0)
    (hs : jm_stp xs L E (.putfield ix, npc, a0, b0, z0) pc ls st H = some (.inl cf)) (G' : jm_G p l e R s m args below meth c Q dC dI dA base b q n0 s0 cf) : jm_G p l e R s m args below meth c Q dC dI dA base b q n0 s0 (pc, ls, st, H) := by
  obtain ⟨hx, hb, hml, hown, hts, hXw, hK, hXs, hbb, hbs, hmn⟩ := C
  obtain ⟨hd, hn, hk, hsd⟩ := hF
  have hw : ∀ k9 : jm_K, jm_need (.putfield ix, npc, a0, b0, z0) = some k9 → ∀ w ∈ jm_lw q.2.2.2.2.2 k9, w.before args s = true := fun k9 h w hw => jm_word hts hXw (hk k9 h) hw
  rw [← ho] at hown
  simp only [jm_stp] at hs
  have hn : npc = pc + 3 := hn
  subst hn
  have hlk := jm_lkok (hk _ rfl)
  simp only [jm_lok, Bool.and_eq_true, decide_eq_true_eq] at hlk
  obtain ⟨⟨hci, hkb⟩, htz⟩ := hlk
  have hlink : (Cond.fieldLink (jm_on q.2.2.2.2.2) ix (jm_T a0 b0).1 (jm_T a0 b0).2.1 (jm_T a0 b0).2.2.1).before args s = true := hw _ rfl _ (List.mem_singleton.mpr rfl)
  split at hs
  · rename_i v a r
    split at hs
    · rename_i hc
      obtain ⟨hkd, hz, hbz⟩ := hc
      have hcf := jm_nx_inj hs
      subst hcf
      have hobj := jm_obj (dA := dA) (base := base) hkd
      have hir : ¬ jm_isr a0 b0 = true := fun h => hz ((jm_tyz_isr htz).mp h)
      have hnf : narrow (jm_ty a0 b0) (.int v) = .int v ∧ fits (jm_ty a0 b0) (.int v) = true := by
        cases hty : jm_ty a0 b0 with
        | int => exact ⟨rfl, rfl⟩
        | boolean =>
          have hz2 : z0 = 2 := by
            rw [hty] at htz
            simpa [jm_tyz] using htz
          rcases hbz hz2 with h | h <;> subst h <;> exact ⟨rfl, rfl⟩
        | object n =>
          rw [hty] at htz
          exact absurd (by simpa [jm_tyz] using htz) hz
        | array n =>
          rw [hty] at htz
          exact absurd (by simpa [jm_tyz] using htz) hz
        | _ =>
          rw [hty] at htz
          exact Bool.noConfusion (show false = true from htz)
      obtain ⟨hnar, hfit⟩ := hnf
      intro Hc locs arr cells slots hR hS hl h1 h2
      have hD := jm_ws_D (dA := dA) (base := base) (H := H) (jm_A base) (fun _ h => h)
      have ha : a < H.1.length := jm_kd_lt (by omega)
      have kk : ∀ (H1 : Heap) (locs1 : List Loc), va_P (dC, dI) jm_cl ((jm_ws dA base H).set a (base + a, .inr (a0, ((List.range (jm_N a0)).map (jm_fd base a0 (jm_rf H a) (H.2.1 a))).set b0 (.int v)))) H1 → va_D (jm_A base) ((jm_ws dA base H).set a (base + a, .inr (a0, ((List.range (jm_N a0)).map (jm_fd base a0 (jm_rf H a) (H.2.1 a))).set b0 (.int v)))) → va_S (jm_A base) s.heap H1 locs1 → W p l e R s m args below meth c H1 locs1 cells slots Q (F0 m (pc + 3) arr (r.map (jm_cv base b))) := by
        intro H1 locs1 hP1 hD1 hS1
        refine jm_size fun hz => ?_
        refine G' H1 locs1 arr cells slots (jm_Rl_set hR rfl (fun j hj => jm_at_congr rfl (jm_up_ne hj) rfl) ?_ hP1 ha hn0 h1 hz) hS1 hl h1 h2
        unfold jm_at
        show (base + a, jm_cell dA base (jm_kd H a) (jm_ln H a) (jm_rf H a) (jm_up H.2.1 a b0 v a) (H.2.2 a)) = _
        unfold jm_cell
        rw [hkd, if_neg (by omega), if_neg (by omega), if_neg (by omega), Nat.add_sub_cancel_left]
        congr 3
        refine (jm_fset ?_ ?_).symm
        · unfold jm_fd
          rw [if_neg hir, jm_up_eq]
          exact congrArg Value.int (if_pos rfl)
        · intro j hj
          unfold jm_fd
          rw [jm_up_eq]
          simp only [if_neg hj]
      cases hfin : (jm_T a0 b0).2.2.2 with
      | false => exact va_put hx hb hts (jm_lay hci) (jm_ty a0) (jm_tok hci) (jm_nok hci) hown hK hR.1 hD hS a hobj (jm_clg hci) b0 hkb hlink (fun x h => h) hfin (jm_tok hci b0 hkb) hnar hfit (by simp; exact hkb) hd kk
      | true =>
        have hsd' : (!(jm_T a0 b0).2.2.2 || (decide (q.1.name = "<init>") && decide ((jm_T a0 b0).1 = q.1.cls))) = true := hsd
        rw [hfin] at hsd'
        simp only [Bool.not_true, Bool.false_or, Bool.and_eq_true, decide_eq_true_eq] at hsd'
        exact va_putF hx hb hts (jm_lay hci) (jm_ty a0) (jm_tok hci) (jm_nok hci) hown hK hR.1 hD hS a hobj (jm_clg hci) b0 hkb hlink (fun x h => h) hfin (hmn hsd'.1) (hsd'.2.trans ho.symm) (jm_tok hci b0 hkb) hnar hfit (by simp; exact hkb) hd kk
    · cases hs
  · rename_i v a r
    split at hs
    · rename_i hc
      obtain ⟨hkd, hz⟩ := hc
      have hcf := jm_nx_inj hs
      subst hcf
      have hobj := jm_obj (dA := dA) (base := base) hkd
      have hir : jm_isr a0 b0 = true := (jm_tyz_isr htz).mpr hz
      have hnf : narrow (jm_ty a0 b0) (.ref (base + v)) = .ref (base + v) ∧ fits (jm_ty a0 b0) (.ref (base + v)) = true := by
        cases hty : jm_ty a0 b0 with
        | object n => exact ⟨rfl, rfl⟩
        | array n => exact ⟨rfl, rfl⟩
        | int =>
          rw [hty] at htz
          exact absurd (hz.symm.trans (by simpa [jm_tyz] using htz)) (by decide)
        | boolean =>
          rw [hty] at htz
          exact absurd (hz.symm.trans (by simpa [jm_tyz] using htz)) (by decide)
        | _ =>
          rw [hty] at htz
          exact Bool.noConfusion (show false = true from htz)
      obtain ⟨hnar, hfit⟩ := hnf
      intro Hc locs arr cells slots hR hS hl h1 h2
      have hD := jm_ws_D (dA := dA) (base := base) (H := H) (jm_A base) (fun _ h => h)
      have ha : a < H.1.length := jm_kd_lt (by omega)
      have kk : ∀ (H1 : Heap) (locs1 : List Loc), va_P (dC, dI) jm_cl ((jm_ws dA base H).set a (base + a, .inr (a0, ((List.range (jm_N a0)).map (jm_fd base a0 (jm_rf H a) (H.2.1 a))).set b0 (.ref (base + v))))) H1 → va_D (jm_A base) ((jm_ws dA base H).set a (base + a, .inr (a0, ((List.range (jm_N a0)).map (jm_fd base a0 (jm_rf H a) (H.2.1 a))).set b0 (.ref (base + v))))) → va_S (jm_A base) s.heap H1 locs1 → W p l e R s m args below meth c H1 locs1 cells slots Q (F0 m (pc + 3) arr (r.map (jm_cv base b))) := by
        intro H1 locs1 hP1 hD1 hS1
        refine jm_size fun hz => ?_
        refine G' H1 locs1 arr cells slots (jm_Rl_set hR (List.length_set ..) (fun j hj => jm_at_congr (jm_rset_ne hj) rfl rfl) ?_ hP1 ha hn0 h1 hz) hS1 hl (h1.trans (List.length_set ..).symm) (h2.trans jm_sl_set.symm)
        obtain ⟨e1, e2, e3⟩ := jm_rset_at (H := H) (v := v) (k := b0) ha
        unfold jm_at
        rw [e1, e2, e3]
        unfold jm_cell
        rw [hkd, if_neg (by omega), if_neg (by omega), if_neg (by omega), Nat.add_sub_cancel_left]
        congr 3
        refine (jm_fset ?_ ?_).symm
        · unfold jm_fd
          rw [if_pos hir]
          simp only [if_true, Option.map, va_rf]
        · intro j hj
          unfold jm_fd
          simp only [if_neg hj]
      cases hfin : (jm_T a0 b0).2.2.2 with
      | false => exact va_put hx hb hts (jm_lay hci) (jm_ty a0) (jm_tok hci) (jm_nok hci) hown hK hR.1 hD hS a hobj (jm_clg hci) b0 hkb hlink (fun x h => h) hfin (jm_tok hci b0 hkb) hnar hfit (by simp; exact hkb) hd kk
      | true =>
        have hsd' : (!(jm_T a0 b0).2.2.2 || (decide (q.1.name = "<init>") && decide ((jm_T a0 b0).1 = q.1.cls))) = true := hsd
        rw [hfin] at hsd'
        simp only [Bool.not_true, Bool.false_or, Bool.and_eq_true, decide_eq_true_eq] at hsd'
        exact va_putF hx hb hts (jm_lay hci) (jm_ty a0) (jm_tok hci) (jm_nok hci) hown hK hR.1 hD hS a hobj (jm_clg hci) b0 hkb hlink (fun x h => h) hfin (hmn hsd'.1) (hsd'.2.trans ho.symm) (jm_tok hci b0 hkb) hnar hfit (by simp; exact hkb) hd kk
    · cases hs
  · cases hs
end JMY
end
section
section JMY
variable {p : Program} {l : Launch} {e : Env} {R : Room} {s : State} {m : MethodId} {args : Array Value} {below : List Frame} {meth : Method} {c : Code} {Q : State → Prop}
variable {dC : Nat → ClassId} {dI : Nat → Nat → Nat} {dA : Nat → ClassId} {base : Nat} {b : Nat → Nat} {L : Nat} {xs : Nat → Int32} {q : jm_M} {n0 s0 : Nat}
variable {pc npc a0 b0 : Nat} {z0 : Int} {ls : jm_L} {st : List Value} {H : jm_H} {cf : jm_C} {E : jm_E}
set_option maxHeartbeats 4000000 in
theorem jm_s_alen (C : jm_Cx p s m args meth c dC dI dA base b L xs q) (hF : jm_Fa q pc (.arraylength, npc, a0, b0, z0)) (ho : jm_on q.2.2.2.2.2 = q.1.cls)
    (hs : jm_stp xs L E (.arraylength, npc, a0, b0, z0) pc ls st H = some (.inl cf)) (G' : jm_G p l e R s m args below meth c Q dC dI dA base b q n0 s0 cf) : jm_G p l e R s m args below meth c Q dC dI dA base b q n0 s0 (pc, ls, st, H) := by
  obtain ⟨hx, hb, hml, hown, hts, hXw, hK, hXs, hbb, hbs, hmn⟩ := C
  obtain ⟨hd, hn, hk, hsd⟩ := hF
  have hw : ∀ k9 : jm_K, jm_need (.arraylength, npc, a0, b0, z0) = some k9 → ∀ w ∈ jm_lw q.2.2.2.2.2 k9, w.before args s = true := fun k9 h w hw => jm_word hts hXw (hk k9 h) hw
  rw [← ho] at hown
  simp only [jm_stp] at hs
  have hn : npc = pc + 1 := hn
  subst hn
  split at hs
  · rename_i a r
    split at hs
    · rename_i hc
      have hcf := jm_nx_inj hs
      subst hcf
      intro Hc locs arr cells slots hR hS hl h1 h2
      rcases (show jm_kd H a = 1 ∨ jm_kd H a = 2 ∨ (3 ≤ jm_kd H a ∧ jm_kd H a ≤ 5) by omega) with h | h | h
      · exact va_alen hx hb hK hR.1 a 0 (jm_iar h) (by rfl) rfl hd (G' Hc locs arr cells slots hR hS hl h1 h2)
      · exact va_alen hx hb hK hR.1 a 1 (jm_lar h) (by rfl) rfl hd (G' Hc locs arr cells slots hR hS hl h1 h2)
      · rcases (show jm_kd H a = 3 ∨ jm_kd H a = 4 ∨ jm_kd H a = 5 by omega) with h9 | h9 | h9 <;> refine va_alen hx hb hK hR.1 a (jm_kd H a - 1) (jm_rar h.1 h.2) (by rw [h9]; rfl) rfl hd (G' Hc locs arr cells slots hR hS hl h1 h2)
    · cases hs
  · split at hs
    case isFalse => cases hs
    have hcf := jm_nx_inj hs
    subst hcf
    intro Hc locs arr cells slots hR hS hl h1 h2
    exact va_slen hx hb hXs.1 (Nat.lt_of_lt_of_le hbb hbs) (fun h => absurd hbb (Nat.not_lt.mpr h)) hS hd (G' Hc locs arr cells slots hR hS hl h1 h2)
  · cases hs
set_option maxHeartbeats 4000000 in
theorem jm_s_iald (C : jm_Cx p s m args meth c dC dI dA base b L xs q) (hF : jm_Fa q pc (.iaload, npc, a0, b0, z0)) (ho : jm_on q.2.2.2.2.2 = q.1.cls)
    (hs : jm_stp xs L E (.iaload, npc, a0, b0, z0) pc ls st H = some (.inl cf)) (G' : jm_G p l e R s m args below meth c Q dC dI dA base b q n0 s0 cf) : jm_G p l e R s m args below meth c Q dC dI dA base b q n0 s0 (pc, ls, st, H) := by
  obtain ⟨hx, hb, hml, hown, hts, hXw, hK, hXs, hbb, hbs, hmn⟩ := C
  obtain ⟨hd, hn, hk, hsd⟩ := hF
  have hw : ∀ k9 : jm_K, jm_need (.iaload, npc, a0, b0, z0) = some k9 → ∀ w ∈ jm_lw q.2.2.2.2.2 k9, w.before args s = true := fun k9 h w hw => jm_word hts hXw (hk k9 h) hw
  rw [← ho] at hown
  simp only [jm_stp] at hs
  have hn : npc = pc + 1 := hn
  subst hn
  split at hs
  · rename_i i a r
    split at hs
    · rename_i hc
      have hcf := jm_nx_inj hs
      subst hcf
      intro Hc locs arr cells slots hR hS hl h1 h2
      exact va_iald hx hb hK hR.1 a 0 (jm_iar hc.1) rfl (jm_vin hc.2.1 hc.2.2) hd (G' Hc locs arr cells slots hR hS hl h1 h2)
    · cases hs
  · rename_i i a r
    split at hs
    · rename_i hc
      have hcf := jm_nx_inj hs
      subst hcf
      intro Hc locs arr cells slots hR hS hl h1 h2
      exact va_sld hx hb hXs.1 (Nat.lt_of_lt_of_le hbb hbs) (fun h => absurd hbb (Nat.not_lt.mpr h)) hS (jm_vin hc.2.1 hc.2.2) hd (G' Hc locs arr cells slots hR hS hl h1 h2)
    · cases hs
  · cases hs
set_option maxHeartbeats 4000000 in
theorem jm_s_lald (C : jm_Cx p s m args meth c dC dI dA base b L xs q) (hF : jm_Fa q pc (.laload, npc, a0, b0, z0)) (ho : jm_on q.2.2.2.2.2 = q.1.cls)
    (hs : jm_stp xs L E (.laload, npc, a0, b0, z0) pc ls st H = some (.inl cf)) (G' : jm_G p l e R s m args below meth c Q dC dI dA base b q n0 s0 cf) : jm_G p l e R s m args below meth c Q dC dI dA base b q n0 s0 (pc, ls, st, H) := by
  obtain ⟨hx, hb, hml, hown, hts, hXw, hK, hXs, hbb, hbs, hmn⟩ := C
  obtain ⟨hd, hn, hk, hsd⟩ := hF
  have hw : ∀ k9 : jm_K, jm_need (.laload, npc, a0, b0, z0) = some k9 → ∀ w ∈ jm_lw q.2.2.2.2.2 k9, w.before args s = true := fun k9 h w hw => jm_word hts hXw (hk k9 h) hw
  rw [← ho] at hown
  simp only [jm_stp] at hs
  have hn : npc = pc + 1 := hn
  subst hn
  split at hs
  · rename_i i a r
    split at hs
    · rename_i hc
      have hcf := jm_nx_inj hs
      subst hcf
      intro Hc locs arr cells slots hR hS hl h1 h2
      exact va_lald hx hb hK hR.1 a 1 (jm_lar hc.1) rfl (jm_vin hc.2.1 hc.2.2) hd (G' Hc locs arr cells slots hR hS hl h1 h2)
    · cases hs
  · cases hs
set_option maxHeartbeats 4000000 in
theorem jm_s_aald (C : jm_Cx p s m args meth c dC dI dA base b L xs q) (hF : jm_Fa q pc (.aaload, npc, a0, b0, z0)) (ho : jm_on q.2.2.2.2.2 = q.1.cls)
    (hs : jm_stp xs L E (.aaload, npc, a0, b0, z0) pc ls st H = some (.inl cf)) (G' : jm_G p l e R s m args below meth c Q dC dI dA base b q n0 s0 cf) : jm_G p l e R s m args below meth c Q dC dI dA base b q n0 s0 (pc, ls, st, H) := by
  obtain ⟨hx, hb, hml, hown, hts, hXw, hK, hXs, hbb, hbs, hmn⟩ := C
  obtain ⟨hd, hn, hk, hsd⟩ := hF
  have hw : ∀ k9 : jm_K, jm_need (.aaload, npc, a0, b0, z0) = some k9 → ∀ w ∈ jm_lw q.2.2.2.2.2 k9, w.before args s = true := fun k9 h w hw => jm_word hts hXw (hk k9 h) hw
  rw [← ho] at hown
  simp only [jm_stp] at hs
  have hn : npc = pc + 1 := hn
  subst hn
  split at hs
  · rename_i i a r
    split at hs
    · rename_i hc
      have hcf := jm_nx_inj hs
      subst hcf
      intro Hc locs arr cells slots hR hS hl h1 h2
      obtain ⟨⟨hc1, hc2⟩, hc3, hc4⟩ := hc
      have hin := jm_vin hc3 hc4
      have G2 := G' Hc locs arr cells slots hR hS hl h1 h2
      simp only [List.map_cons, jm_cvr] at G2
      have hP := hR.1 a _ (jm_rar hc1 hc2)
      have hty : ∃ ty : FieldType, (jm_tys dA)[jm_kd H a - 1]? = some (dA (jm_kd H a - 1), ty) ∧ ty.isReference = true := by
        rcases (show jm_kd H a = 3 ∨ jm_kd H a = 4 ∨ jm_kd H a = 5 by omega) with h9 | h9 | h9 <;> rw [h9] <;> exact ⟨_, rfl, rfl⟩
      obtain ⟨ty, ht, hrt⟩ := hty
      exact W.aald (v := va_rf ((jm_rf H a i.toNatClampNeg).map (base + ·))) (ty := ty) hx hb hP ((hK.2 _ _ ht).1 (jm_ln H a) (fun j => va_rf ((jm_rf H a j).map (base + ·)))) hrt (fun h => by cases h) (by show ¬ (i < 0 ∨ (arrV _ _ _).slots.size ≤ _); rw [arrV_size]; exact hin) (by show (arrV _ _ _).slots[_]? = _; rw [arrV_read _ _ hc4]) rfl rfl hd G2
    · cases hs
  · cases hs
set_option maxHeartbeats 4000000 in
theorem jm_s_iast (C : jm_Cx p s m args meth c dC dI dA base b L xs q) (hF : jm_Fa q pc (.iastore, npc, a0, b0, z0)) (ho : jm_on q.2.2.2.2.2 = q.1.cls) (hn0 : s.heap.size = base + n0)
    (hs : jm_stp xs L E (.iastore, npc, a0, b0, z0) pc ls st H = some (.inl cf)) (G' : jm_G p l e R s m args below meth c Q dC dI dA base b q n0 s0 cf) : jm_G p l e R s m args below meth c Q dC dI dA base b q n0 s0 (pc, ls, st, H) := by
  obtain ⟨hx, hb, hml, hown, hts, hXw, hK, hXs, hbb, hbs, hmn⟩ := C
  obtain ⟨hd, hn, hk, hsd⟩ := hF
  have hw : ∀ k9 : jm_K, jm_need (.iastore, npc, a0, b0, z0) = some k9 → ∀ w ∈ jm_lw q.2.2.2.2.2 k9, w.before args s = true := fun k9 h w hw => jm_word hts hXw (hk k9 h) hw
  rw [← ho] at hown
  simp only [jm_stp] at hs
  have hn : npc = pc + 1 := hn
  subst hn
  split at hs
  · rename_i v i a r
    split at hs
    · rename_i hc
      have hcf := jm_nx_inj hs
      subst hcf
      intro Hc locs arr cells slots hR hS hl h1 h2
      have hD := jm_ws_D (dA := dA) (base := base) (H := H) (jm_A base) (fun _ h => h)
      have ha : a < H.1.length := jm_kd_lt (by omega)
      refine va_iast hx hb hK hR.1 hD hS a 0 (jm_iar hc.1) rfl (jm_vin hc.2.1 hc.2.2) hd (fun H1 locs1 hP1 hD1 hS1 => ?_)
      refine jm_size fun hz => ?_
      refine G' H1 locs1 arr cells slots (jm_Rl_set hR rfl (fun j hj => jm_at_congr rfl (jm_up_ne hj) rfl) ?_ hP1 ha hn0 h1 hz) hS1 hl h1 h2
      unfold jm_at
      show (base + a, jm_cell dA base (jm_kd H a) (jm_ln H a) (jm_rf H a) (jm_up H.2.1 a i.toNatClampNeg v a) (H.2.2 a)) = _
      unfold jm_cell
      rw [hc.1, if_pos rfl, jm_up_eq]
      rfl
    · cases hs
  · cases hs
set_option maxHeartbeats 4000000 in
theorem jm_s_last (C : jm_Cx p s m args meth c dC dI dA base b L xs q) (hF : jm_Fa q pc (.lastore, npc, a0, b0, z0)) (ho : jm_on q.2.2.2.2.2 = q.1.cls) (hn0 : s.heap.size = base + n0)
    (hs : jm_stp xs L E (.lastore, npc, a0, b0, z0) pc ls st H = some (.inl cf)) (G' : jm_G p l e R s m args below meth c Q dC dI dA base b q n0 s0 cf) : jm_G p l e R s m args below meth c Q dC dI dA base b q n0 s0 (pc, ls, st, H) := by
  obtain ⟨hx, hb, hml, hown, hts, hXw, hK, hXs, hbb, hbs, hmn⟩ := C
  obtain ⟨hd, hn, hk, hsd⟩ := hF
  have hw : ∀ k9 : jm_K, jm_need (.lastore, npc, a0, b0, z0) = some k9 → ∀ w ∈ jm_lw q.2.2.2.2.2 k9, w.before args s = true := fun k9 h w hw => jm_word hts hXw (hk k9 h) hw
  rw [← ho] at hown
  simp only [jm_stp] at hs
  have hn : npc = pc + 1 := hn
  subst hn
  split at hs
  · rename_i v i a r
    split at hs
    · rename_i hc
      have hcf := jm_nx_inj hs
      subst hcf
      intro Hc locs arr cells slots hR hS hl h1 h2
      have hD := jm_ws_D (dA := dA) (base := base) (H := H) (jm_A base) (fun _ h => h)
      have ha : a < H.1.length := jm_kd_lt (by omega)
      refine va_last hx hb hK hR.1 hD hS a 1 (jm_lar hc.1) rfl (jm_vin hc.2.1 hc.2.2) hd (fun H1 locs1 hP1 hD1 hS1 => ?_)
      refine jm_size fun hz => ?_
      refine G' H1 locs1 arr cells slots (jm_Rl_set hR rfl (fun j hj => jm_at_congr rfl rfl (jm_up_ne hj)) ?_ hP1 ha hn0 h1 hz) hS1 hl h1 h2
      unfold jm_at
      show (base + a, jm_cell dA base (jm_kd H a) (jm_ln H a) (jm_rf H a) (H.2.1 a) (jm_up H.2.2 a i.toNatClampNeg v a)) = _
      unfold jm_cell
      rw [hc.1, if_neg (by omega), if_pos rfl, jm_up_eq]
      rfl
    · cases hs
  · cases hs
set_option maxHeartbeats 4000000 in
theorem jm_s_aast (C : jm_Cx p s m args meth c dC dI dA base b L xs q) (hF : jm_Fa q pc (.aastore, npc, a0, b0, z0)) (ho : jm_on q.2.2.2.2.2 = q.1.cls) (hn0 : s.heap.size = base + n0)
    (hs : jm_stp xs L E (.aastore, npc, a0, b0, z0) pc ls st H = some (.inl cf)) (G' : jm_G p l e R s m args below meth c Q dC dI dA base b q n0 s0 cf) : jm_G p l e R s m args below meth c Q dC dI dA base b q n0 s0 (pc, ls, st, H) := by
  obtain ⟨hx, hb, hml, hown, hts, hXw, hK, hXs, hbb, hbs, hmn⟩ := C
  obtain ⟨hd, hn, hk, hsd⟩ := hF
  have hw : ∀ k9 : jm_K, jm_need (.aastore, npc, a0, b0, z0) = some k9 → ∀ w ∈ jm_lw q.2.2.2.2.2 k9, w.before args s = true := fun k9 h w hw => jm_word hts hXw (hk k9 h) hw
  rw [← ho] at hown
  simp only [jm_stp] at hs
  have hn : npc = pc + 1 := hn
  subst hn
  split at hs
  · rename_i v i a r
    split at hs
    · rename_i hc
      have hcf := jm_nx_inj hs
      subst hcf
      intro Hc locs arr cells slots hR hS hl h1 h2
      have hD := jm_ws_D (dA := dA) (base := base) (H := H) (jm_A base) (fun _ h => h)
      have ha : a < H.1.length := jm_kd_lt (by omega)
      obtain ⟨⟨hc1, hc2⟩, hc3, hc4, hc5⟩ := hc
      have kk : ∀ (H1 : Heap) (locs1 : List Loc), va_P (dC, dI) jm_cl ((jm_ws dA base H).set a (base + a, .inl (dA (jm_kd H a - 1), jm_ln H a, .inr (.inr (.inr (.inr (va_up (fun j => (jm_rf H a j).map (base + ·)) i.toNatClampNeg (some (base + v))))))))) H1 → va_D (jm_A base) ((jm_ws dA base H).set a (base + a, .inl (dA (jm_kd H a - 1), jm_ln H a, .inr (.inr (.inr (.inr (va_up (fun j => (jm_rf H a j).map (base + ·)) i.toNatClampNeg (some (base + v))))))))) → va_S (jm_A base) s.heap H1 locs1 → W p l e R s m args below meth c H1 locs1 cells slots Q (F0 m (pc + 1) arr (r.map (jm_cv base b))) := by
        intro H1 locs1 hP1 hD1 hS1
        refine jm_size fun hz => ?_
        refine G' H1 locs1 arr cells slots (jm_Rl_set hR (List.length_set ..) (fun j hj => jm_at_congr (jm_rset_ne hj) rfl rfl) ?_ hP1 ha hn0 h1 hz) hS1 hl (h1.trans (List.length_set ..).symm) (h2.trans jm_sl_set.symm)
        obtain ⟨e1, e2, e3⟩ := jm_rset_at (H := H) (v := v) (k := i.toNatClampNeg) ha
        unfold jm_at
        rw [e1, e2, e3]
        unfold jm_cell
        rw [if_neg (by omega), if_neg (by omega), if_pos (by omega)]
        congr 8
        funext j
        unfold va_up
        by_cases hj : j = i.toNatClampNeg
        · simp only [if_pos hj, Option.map]
        · simp only [if_neg hj]
      have hin := jm_vin hc3 hc4
      rcases (show jm_kd H a = 3 ∨ jm_kd H a = 4 ∨ jm_kd H a = 5 by omega) with h9 | h9 | h9
      · have hc5 : jm_kd H v = 10 + 5 := by rw [hc5, h9]; rfl
        exact va_astq hx hb hK hR.1 hD hS a (jm_kd H a - 1) v 5 (jm_rar hc1 (Nat.le_trans hc2 (by decide))) (by rw [h9]; rfl) (jm_obj hc5) (jm_clg (by omega)) hin hd kk
      · have hc5 : jm_kd H v = 10 + 0 := by rw [hc5, h9]; rfl
        exact va_astq hx hb hK hR.1 hD hS a (jm_kd H a - 1) v 0 (jm_rar hc1 (Nat.le_trans hc2 (by decide))) (by rw [h9]; rfl) (jm_obj hc5) (jm_clg (by omega)) hin hd kk
      · have hc5 : jm_kd H v = 10 + 6 := by rw [hc5, h9]; rfl
        exact va_astq hx hb hK hR.1 hD hS a (jm_kd H a - 1) v 6 (jm_rar hc1 (Nat.le_trans hc2 (by decide))) (by rw [h9]; rfl) (jm_obj hc5) (jm_clg (by omega)) hin hd kk
    · cases hs
  · cases hs
end JMY
end
section
section JMY
variable {p : Program} {l : Launch} {e : Env} {R : Room} {s : State} {m : MethodId} {args : Array Value} {below : List Frame} {meth : Method} {c : Code} {Q : State → Prop}
variable {dC : Nat → ClassId} {dI : Nat → Nat → Nat} {dA : Nat → ClassId} {base : Nat} {b : Nat → Nat} {L : Nat} {xs : Nat → Int32} {q : jm_M} {n0 s0 : Nat}
variable {pc npc a0 b0 : Nat} {z0 : Int} {ls : jm_L} {st : List Value} {H : jm_H} {cf : jm_C} {E : jm_E}
theorem jm_new_len {H : jm_H} {x : jm_S} : (jm_new H x).1.length = H.1.length + 1 := by simp [jm_new]
theorem jm_new_sl {H : jm_H} {x : jm_S} : jm_sl (jm_new H x) = jm_sl H + x.2.1 := by simp [jm_new, jm_sl]
theorem jm_isr_ty {ci k : Nat} (h : ci < 10) (hk : k < jm_N ci) : defaultValue (jm_ty ci k) = if jm_isr ci k then .null else .int 0 := by
  have key : ((List.range 10).all fun ci => (List.range (jm_N ci)).all fun k => decide (defaultValue (jm_ty ci k) = if jm_isr ci k then .null else .int 0)) = true := by decide +kernel
  exact of_decide_eq_true (List.all_eq_true.mp (List.all_eq_true.mp key ci (List.mem_range.mpr h)) k (List.mem_range.mpr hk))
set_option maxHeartbeats 4000000 in
theorem jm_s_newo {ix : Nat} (C : jm_Cx p s m args meth c dC dI dA base b L xs q) (hF : jm_Fa q pc (.new ix, npc, a0, b0, z0)) (ho : jm_on q.2.2.2.2.2 = q.1.cls) (hn0 : s.heap.size = base + n0) (hroom : cf.2.2.2.1.length ≤ n0 + R.cells ∧ jm_sl cf.2.2.2 ≤ s0 + R.slots)
    (hs : jm_stp xs L E (.new ix, npc, a0, b0, z0) pc ls st H = some (.inl cf)) (G' : jm_G p l e R s m args below meth c Q dC dI dA base b q n0 s0 cf) : jm_G p l e R s m args below meth c Q dC dI dA base b q n0 s0 (pc, ls, st, H) := by
  obtain ⟨hx, hb, hml, hown, hts, hXw, hK, hXs, hbb, hbs, hmn⟩ := C
  obtain ⟨hd, hn, hk, hsd⟩ := hF
  have hw : ∀ k9 : jm_K, jm_need (.new ix, npc, a0, b0, z0) = some k9 → ∀ w ∈ jm_lw q.2.2.2.2.2 k9, w.before args s = true := fun k9 h w hw => jm_word hts hXw (hk k9 h) hw
  rw [← ho] at hown
  simp only [jm_stp] at hs
  have hn : npc = pc + 3 := hn
  subst hn
  have hlk := jm_lkok (hk _ rfl)
  simp only [jm_lok, Bool.and_eq_true, decide_eq_true_eq] at hlk
  obtain ⟨hci, hkb⟩ := hlk
  have hb0 : b0 = jm_N a0 := hkb
  subst hb0
  have w1 : (Cond.classLink (jm_on q.2.2.2.2.2) ix (jm_R a0)).before args s = true := hw _ rfl _ (by simp [jm_lw])
  have w2 : (Cond.instantiable (jm_R a0) (jm_N a0)).before args s = true := hw _ rfl _ (by simp [jm_lw])
  have w3 : (Cond.initialized (jm_R a0)).before args s = true := hw _ rfl _ (by simp [jm_lw])
  have hcf := jm_nx_inj hs
  subst hcf
  intro Hc locs arr cells slots hR hS hl h1 h2
  have hD := jm_ws_D (dA := dA) (base := base) (H := H) (jm_A base) (fun _ h => h)
  have r1 : cells + 1 ≤ R.cells := by
    have := hroom.1
    rw [show (pc + 3, ls, Value.ref H.1.length :: st, jm_new H (10 + a0, jm_N a0, fun _ => none)).2.2.2.1.length = H.1.length + 1 from jm_new_len] at this
    have h1' : cells + n0 = H.1.length := h1
    omega
  have r2 : slots + jm_N a0 ≤ R.slots := by
    have := hroom.2
    rw [show jm_sl (pc + 3, ls, Value.ref H.1.length :: st, jm_new H (10 + a0, jm_N a0, fun _ => none)).2.2.2 = jm_sl H + jm_N a0 from jm_new_sl] at this
    have h2' : slots + s0 = jm_sl H := h2
    omega
  refine va_new hx hb hts (jm_lay hci) (jm_ty a0) (jm_tok hci) hown w1 w2 w3 hK hR.1 hD hS (fun q h => jm_inA hbs h) (jm_clg hci) (fs := (List.range (jm_N a0)).map (jm_fd base a0 (fun _ => none) (fun _ => 0))) (fun j hj => ?_) r1 r2 hd (fun q1 H1 hP1 hD1 hS1 => ?_)
  · rw [jm_isr_ty hci hj]
    unfold vp_V
    rw [List.getD_eq_getElem?_getD, jm_fdg hj]
    show _ = jm_fd base a0 (fun _ => none) (fun _ => 0) j
    unfold jm_fd
    split <;> rfl
  · refine jm_size fun hz => ?_
    have hcell : jm_cell dA base (10 + a0) (jm_N a0) (fun _ => none) (fun _ => 0) (fun _ => 0) = .inr (a0, (List.range (jm_N a0)).map (jm_fd base a0 (fun _ => none) (fun _ => 0))) := by
      unfold jm_cell
      rw [if_neg (by omega), if_neg (by omega), if_neg (by omega), Nat.add_sub_cancel_left]
    obtain ⟨hq, hR1⟩ := jm_Rl_push (x := (10 + a0, jm_N a0, fun _ => none)) (A := jm_A base) (fun z h => h) (by rw [hcell]; exact hP1) (by rw [hcell]; exact hD1) hn0 h1 hz
    subst hq
    exact G' H1 locs arr (cells + 1) (slots + jm_N a0) hR1 hS1 hl (by rw [show (pc + 3, ls, Value.ref H.1.length :: st, jm_new H (10 + a0, jm_N a0, fun _ => none)).2.2.2.1.length = H.1.length + 1 from jm_new_len]; have h1' : cells + n0 = H.1.length := h1; omega) (by rw [show jm_sl (pc + 3, ls, Value.ref H.1.length :: st, jm_new H (10 + a0, jm_N a0, fun _ => none)).2.2.2 = jm_sl H + jm_N a0 from jm_new_sl]; have h2' : slots + s0 = jm_sl H := h2; omega)
theorem jm_acint : Cond.arrayClass .int ∈ jm_TW := List.mem_filter.mpr ⟨by decide +kernel, rfl⟩
theorem jm_aclong : Cond.arrayClass .long ∈ jm_TW := List.mem_filter.mpr ⟨by decide +kernel, rfl⟩
theorem jm_nneg {n : Int32} (h : 0 ≤ n) : ¬ n < 0 := by
  rw [Int32.le_iff_toInt_le] at h
  rw [Int32.lt_iff_toInt_lt]
  omega
set_option maxHeartbeats 4000000 in
theorem jm_s_newa {tt : ArrayType} (C : jm_Cx p s m args meth c dC dI dA base b L xs q) (hF : jm_Fa q pc (.newarray tt, npc, a0, b0, z0)) (ho : jm_on q.2.2.2.2.2 = q.1.cls) (hn0 : s.heap.size = base + n0) (hroom : cf.2.2.2.1.length ≤ n0 + R.cells ∧ jm_sl cf.2.2.2 ≤ s0 + R.slots)
    (hs : jm_stp xs L E (.newarray tt, npc, a0, b0, z0) pc ls st H = some (.inl cf)) (G' : jm_G p l e R s m args below meth c Q dC dI dA base b q n0 s0 cf) : jm_G p l e R s m args below meth c Q dC dI dA base b q n0 s0 (pc, ls, st, H) := by
  obtain ⟨hx, hb, hml, hown, hts, hXw, hK, hXs, hbb, hbs, hmn⟩ := C
  obtain ⟨hd, hn, hk, hsd⟩ := hF
  have hw : ∀ k9 : jm_K, jm_need (.newarray tt, npc, a0, b0, z0) = some k9 → ∀ w ∈ jm_lw q.2.2.2.2.2 k9, w.before args s = true := fun k9 h w hw => jm_word hts hXw (hk k9 h) hw
  rw [← ho] at hown
  simp only [jm_stp] at hs
  have hn : npc = pc + 2 := hn
  subst hn
  split at hs
  · rename_i n r
    split at hs
    · rename_i hc
      obtain ⟨hc1, hc2⟩ := hc
      have hneg := jm_nneg hc1
      cases tt
      case int =>
        have hcf := jm_nx_inj hs
        subst hcf
        intro Hc locs arr cells slots hR hS hl h1 h2
        have hD := jm_ws_D (dA := dA) (base := base) (H := H) (jm_A base) (fun _ h => h)
        have r1 : cells + 1 ≤ R.cells := by
          have := hroom.1
          rw [show (pc + 2, ls, Value.ref H.1.length :: r, jm_new H (1, n.toNatClampNeg, fun _ => none)).2.2.2.1.length = H.1.length + 1 from jm_new_len] at this
          have h1' : cells + n0 = H.1.length := h1
          omega
        have r2 : slots + n.toNatClampNeg ≤ R.slots := by
          have := hroom.2
          rw [show jm_sl (pc + 2, ls, Value.ref H.1.length :: r, jm_new H (1, n.toNatClampNeg, fun _ => none)).2.2.2 = jm_sl H + n.toNatClampNeg from jm_new_sl] at this
          have h2' : slots + s0 = jm_sl H := h2
          omega
        refine va_newa (atype := .int) (ty := .int) (N' := n.toNatClampNeg) hx hb (hts (.arrayClass .int) jm_acint) rfl hK hR.1 hD hS (fun q h => jm_inA hbs h) (a0 := (n.toNatClampNeg, .inl (fun _ => 0))) (fun _ => rfl) hneg rfl (by show n.toNatClampNeg * 4 ≤ _; omega) r1 r2 hd (fun q1 cA H1 hK1 hP1 hD1 hS1 => ?_)
        refine jm_size fun hz => ?_
        have hcA : cA = dA 0 := by
          have e1 := (hK1.2 5 (cA, .int) rfl).2
          have e2 := (hK1.2 0 (dA 0, .int) rfl).2
          exact Option.some.inj (e1.symm.trans e2)
        subst hcA
        obtain ⟨hq, hR1⟩ := jm_Rl_push (x := (1, n.toNatClampNeg, fun _ => none)) (A := jm_A base) (fun z h => h) hP1 hD1 hn0 h1 hz
        subst hq
        exact G' H1 locs arr (cells + 1) (slots + n.toNatClampNeg) hR1 hS1 hl (by rw [show (pc + 2, ls, Value.ref H.1.length :: r, jm_new H (1, n.toNatClampNeg, fun _ => none)).2.2.2.1.length = H.1.length + 1 from jm_new_len]; have h1' : cells + n0 = H.1.length := h1; omega) (by rw [show jm_sl (pc + 2, ls, Value.ref H.1.length :: r, jm_new H (1, n.toNatClampNeg, fun _ => none)).2.2.2 = jm_sl H + n.toNatClampNeg from jm_new_sl]; have h2' : slots + s0 = jm_sl H := h2; omega)
      case long =>
        have hcf := jm_nx_inj hs
        subst hcf
        intro Hc locs arr cells slots hR hS hl h1 h2
        have hD := jm_ws_D (dA := dA) (base := base) (H := H) (jm_A base) (fun _ h => h)
        have r1 : cells + 1 ≤ R.cells := by
          have := hroom.1
          rw [show (pc + 2, ls, Value.ref H.1.length :: r, jm_new H (2, n.toNatClampNeg, fun _ => none)).2.2.2.1.length = H.1.length + 1 from jm_new_len] at this
          have h1' : cells + n0 = H.1.length := h1
          omega
        have r2 : slots + n.toNatClampNeg ≤ R.slots := by
          have := hroom.2
          rw [show jm_sl (pc + 2, ls, Value.ref H.1.length :: r, jm_new H (2, n.toNatClampNeg, fun _ => none)).2.2.2 = jm_sl H + n.toNatClampNeg from jm_new_sl] at this
          have h2' : slots + s0 = jm_sl H := h2
          omega
        refine va_newa (atype := .long) (ty := .long) (N' := n.toNatClampNeg) hx hb (hts (.arrayClass .long) jm_aclong) rfl hK hR.1 hD hS (fun q h => jm_inA hbs h) (a0 := (n.toNatClampNeg, .inr (.inl (fun _ => 0)))) (fun _ => rfl) hneg rfl (by show n.toNatClampNeg * 8 ≤ _; omega) r1 r2 hd (fun q1 cA H1 hK1 hP1 hD1 hS1 => ?_)
        refine jm_size fun hz => ?_
        have hcA : cA = dA 1 := by
          have e1 := (hK1.2 5 (cA, .long) rfl).2
          have e2 := (hK1.2 1 (dA 1, .long) rfl).2
          exact Option.some.inj (e1.symm.trans e2)
        subst hcA
        obtain ⟨hq, hR1⟩ := jm_Rl_push (x := (2, n.toNatClampNeg, fun _ => none)) (A := jm_A base) (fun z h => h) hP1 hD1 hn0 h1 hz
        subst hq
        exact G' H1 locs arr (cells + 1) (slots + n.toNatClampNeg) hR1 hS1 hl (by rw [show (pc + 2, ls, Value.ref H.1.length :: r, jm_new H (2, n.toNatClampNeg, fun _ => none)).2.2.2.1.length = H.1.length + 1 from jm_new_len]; have h1' : cells + n0 = H.1.length := h1; omega) (by rw [show jm_sl (pc + 2, ls, Value.ref H.1.length :: r, jm_new H (2, n.toNatClampNeg, fun _ => none)).2.2.2 = jm_sl H + n.toNatClampNeg from jm_new_sl]; have h2' : slots + s0 = jm_sl H := h2; omega)
      all_goals cases hs
    · cases hs
  · cases hs
end JMY
end
section
section JMY
variable {p : Program} {l : Launch} {e : Env} {R : Room} {s : State} {m : MethodId} {args : Array Value} {below : List Frame} {meth : Method} {c : Code} {Q : State → Prop}
variable {dC : Nat → ClassId} {dI : Nat → Nat → Nat} {dA : Nat → ClassId} {base : Nat} {b : Nat → Nat} {L : Nat} {xs : Nat → Int32} {q : jm_M} {n0 s0 : Nat}
variable {pc npc a0 b0 : Nat} {z0 : Int} {ls : jm_L} {st : List Value} {H : jm_H} {cf : jm_C} {E : jm_E}
set_option maxHeartbeats 4000000 in
theorem jm_s_anewa {ix : Nat} (C : jm_Cx p s m args meth c dC dI dA base b L xs q) (hF : jm_Fa q pc (.anewarray ix, npc, a0, b0, z0)) (ho : jm_on q.2.2.2.2.2 = q.1.cls) (hn0 : s.heap.size = base + n0) (hroom : cf.2.2.2.1.length ≤ n0 + R.cells ∧ jm_sl cf.2.2.2 ≤ s0 + R.slots)
    (hs : jm_stp xs L E (.anewarray ix, npc, a0, b0, z0) pc ls st H = some (.inl cf)) (G' : jm_G p l e R s m args below meth c Q dC dI dA base b q n0 s0 cf) : jm_G p l e R s m args below meth c Q dC dI dA base b q n0 s0 (pc, ls, st, H) := by
  obtain ⟨hx, hb, hml, hown, hts, hXw, hK, hXs, hbb, hbs, hmn⟩ := C
  obtain ⟨hd, hn, hk, hsd⟩ := hF
  have hw : ∀ k9 : jm_K, jm_need (.anewarray ix, npc, a0, b0, z0) = some k9 → ∀ w ∈ jm_lw q.2.2.2.2.2 k9, w.before args s = true := fun k9 h w hw => jm_word hts hXw (hk k9 h) hw
  rw [← ho] at hown
  simp only [jm_stp] at hs
  have hn : npc = pc + 3 := hn
  subst hn
  split at hs
  · rename_i n r
    split at hs
    · rename_i hc
      obtain ⟨hc1, hc2, hc3⟩ := hc
      have hc3 : a0 ≤ 2 := hc3
      have hneg := jm_nneg hc1
      have hcf := jm_nx_inj hs
      subst hcf
      intro Hc locs arr cells slots hR hS hl h1 h2
      have hD := jm_ws_D (dA := dA) (base := base) (H := H) (jm_A base) (fun _ h => h)
      have r1 : cells + 1 ≤ R.cells := by
        have := hroom.1
        rw [show (pc + 3, ls, Value.ref H.1.length :: r, jm_new H (3 + a0, n.toNatClampNeg, fun _ => none)).2.2.2.1.length = H.1.length + 1 from jm_new_len] at this
        have h1' : cells + n0 = H.1.length := h1
        omega
      have r2 : slots + n.toNatClampNeg ≤ R.slots := by
        have := hroom.2
        rw [show jm_sl (pc + 3, ls, Value.ref H.1.length :: r, jm_new H (3 + a0, n.toNatClampNeg, fun _ => none)).2.2.2 = jm_sl H + n.toNatClampNeg from jm_new_sl] at this
        have h2' : slots + s0 = jm_sl H := h2
        omega
      rcases (show a0 = 0 ∨ a0 = 1 ∨ a0 = 2 by omega) with h9 | h9 | h9
      · subst h9
        have w1 : (Cond.classLink (jm_on q.2.2.2.2.2) ix "LeapingPassages$Shelf").before args s = true := hw _ rfl _ (List.mem_cons_self)
        have w2 : (Cond.arrayOver (.object "LeapingPassages$Shelf")).before args s = true := hw _ rfl _ (List.mem_cons_of_mem _ List.mem_cons_self)
        refine va_newq (N' := n.toNatClampNeg) hx hb hown w1 (show va_AO "LeapingPassages$Shelf" s from w2) hK hR.1 hD hS (fun q h => jm_inA hbs h) hneg rfl (by omega) r1 r2 hd (fun q1 cA H1 hK1 hP1 hD1 hS1 => ?_)
        refine jm_size fun hz => ?_
        have hcA : cA = dA 2 := by
          obtain ⟨-, -, -, -, -, e1⟩ := (hK1.2 5 (cA, .object "LeapingPassages$Shelf") rfl).2
          obtain ⟨-, -, -, -, -, e2⟩ := (hK1.2 2 (dA 2, .object "LeapingPassages$Shelf") rfl).2
          exact Option.some.inj (e1.symm.trans e2)
        subst hcA
        obtain ⟨hq, hR1⟩ := jm_Rl_push (x := (3 + 0, n.toNatClampNeg, fun _ => none)) (A := jm_A base) (fun z h => h) hP1 hD1 hn0 h1 hz
        subst hq
        exact G' H1 locs arr (cells + 1) (slots + n.toNatClampNeg) hR1 hS1 hl (by rw [show (pc + 3, ls, Value.ref H.1.length :: r, jm_new H (3 + 0, n.toNatClampNeg, fun _ => none)).2.2.2.1.length = H.1.length + 1 from jm_new_len]; have h1' : cells + n0 = H.1.length := h1; omega) (by rw [show jm_sl (pc + 3, ls, Value.ref H.1.length :: r, jm_new H (3 + 0, n.toNatClampNeg, fun _ => none)).2.2.2 = jm_sl H + n.toNatClampNeg from jm_new_sl]; have h2' : slots + s0 = jm_sl H := h2; omega)
      · subst h9
        have w1 : (Cond.classLink (jm_on q.2.2.2.2.2) ix "LeapingPassages$Ask").before args s = true := hw _ rfl _ (List.mem_cons_self)
        have w2 : (Cond.arrayOver (.object "LeapingPassages$Ask")).before args s = true := hw _ rfl _ (List.mem_cons_of_mem _ List.mem_cons_self)
        refine va_newq (N' := n.toNatClampNeg) hx hb hown w1 (show va_AO "LeapingPassages$Ask" s from w2) hK hR.1 hD hS (fun q h => jm_inA hbs h) hneg rfl (by omega) r1 r2 hd (fun q1 cA H1 hK1 hP1 hD1 hS1 => ?_)
        refine jm_size fun hz => ?_
        have hcA : cA = dA 3 := by
          obtain ⟨-, -, -, -, -, e1⟩ := (hK1.2 5 (cA, .object "LeapingPassages$Ask") rfl).2
          obtain ⟨-, -, -, -, -, e2⟩ := (hK1.2 3 (dA 3, .object "LeapingPassages$Ask") rfl).2
          exact Option.some.inj (e1.symm.trans e2)
        subst hcA
        obtain ⟨hq, hR1⟩ := jm_Rl_push (x := (3 + 1, n.toNatClampNeg, fun _ => none)) (A := jm_A base) (fun z h => h) hP1 hD1 hn0 h1 hz
        subst hq
        exact G' H1 locs arr (cells + 1) (slots + n.toNatClampNeg) hR1 hS1 hl (by rw [show (pc + 3, ls, Value.ref H.1.length :: r, jm_new H (3 + 1, n.toNatClampNeg, fun _ => none)).2.2.2.1.length = H.1.length + 1 from jm_new_len]; have h1' : cells + n0 = H.1.length := h1; omega) (by rw [show jm_sl (pc + 3, ls, Value.ref H.1.length :: r, jm_new H (3 + 1, n.toNatClampNeg, fun _ => none)).2.2.2 = jm_sl H + n.toNatClampNeg from jm_new_sl]; have h2' : slots + s0 = jm_sl H := h2; omega)
      · subst h9
        have w1 : (Cond.classLink (jm_on q.2.2.2.2.2) ix "LeapingPassages$Spans").before args s = true := hw _ rfl _ (List.mem_cons_self)
        have w2 : (Cond.arrayOver (.object "LeapingPassages$Spans")).before args s = true := hw _ rfl _ (List.mem_cons_of_mem _ List.mem_cons_self)
        refine va_newq (N' := n.toNatClampNeg) hx hb hown w1 (show va_AO "LeapingPassages$Spans" s from w2) hK hR.1 hD hS (fun q h => jm_inA hbs h) hneg rfl (by omega) r1 r2 hd (fun q1 cA H1 hK1 hP1 hD1 hS1 => ?_)
        refine jm_size fun hz => ?_
        have hcA : cA = dA 4 := by
          obtain ⟨-, -, -, -, -, e1⟩ := (hK1.2 5 (cA, .object "LeapingPassages$Spans") rfl).2
          obtain ⟨-, -, -, -, -, e2⟩ := (hK1.2 4 (dA 4, .object "LeapingPassages$Spans") rfl).2
          exact Option.some.inj (e1.symm.trans e2)
        subst hcA
        obtain ⟨hq, hR1⟩ := jm_Rl_push (x := (3 + 2, n.toNatClampNeg, fun _ => none)) (A := jm_A base) (fun z h => h) hP1 hD1 hn0 h1 hz
        subst hq
        exact G' H1 locs arr (cells + 1) (slots + n.toNatClampNeg) hR1 hS1 hl (by rw [show (pc + 3, ls, Value.ref H.1.length :: r, jm_new H (3 + 2, n.toNatClampNeg, fun _ => none)).2.2.2.1.length = H.1.length + 1 from jm_new_len]; have h1' : cells + n0 = H.1.length := h1; omega) (by rw [show jm_sl (pc + 3, ls, Value.ref H.1.length :: r, jm_new H (3 + 2, n.toNatClampNeg, fun _ => none)).2.2.2 = jm_sl H + n.toNatClampNeg from jm_new_sl]; have h2' : slots + s0 = jm_sl H := h2; omega)
    · cases hs
  · cases hs
/-- a grid's world behind its making -/
theorem jm_newg_at {H : jm_H} {n k j : Nat} : jm_at dA base (jm_newg H n k) j = if j < H.1.length then jm_at dA base H j else if j = H.1.length then (base + j, .inl (dA 5, n, .inr (.inr (.inr (.inr (fun i => (if i < n then some (H.1.length + 1 + i) else none).map (base + ·))))))) else if j < H.1.length + 1 + n then (base + j, .inl (dA 1, k, .inr (.inl (fun _ => 0)))) else (base + j, jm_cell dA base 0 0 (fun _ => none) (fun _ => 0) (fun _ => 0)) := by
  have hg : (jm_newg H n k).1[j]? = if j < H.1.length then H.1[j]? else if j = H.1.length then some (6, n, fun i => if i < n then some (H.1.length + 1 + i) else none) else if j < H.1.length + 1 + n then some (2, k, fun _ => none) else none := by
    unfold jm_newg
    by_cases h1 : j < H.1.length
    · rw [if_pos h1, List.append_assoc, List.getElem?_append_left h1]
    · rw [if_neg h1, List.append_assoc, List.getElem?_append_right (by omega)]
      by_cases h2 : j = H.1.length
      · rw [if_pos h2, h2, Nat.sub_self]
        rfl
      · rw [if_neg h2, List.getElem?_append_right (by simp; omega), List.getElem?_replicate]
        by_cases h3 : j < H.1.length + 1 + n
        · rw [if_pos h3, if_pos (by simp; omega)]
        · rw [if_neg h3, if_neg (by simp; omega)]
  unfold jm_at jm_kd jm_ln jm_rf
  rw [hg]
  by_cases h1 : j < H.1.length
  · simp only [if_pos h1]
    have e1 : (jm_newg H n k).2.1 j = H.2.1 j := by simp [jm_newg, Nat.not_le.mpr h1]
    have e2 : (jm_newg H n k).2.2 j = H.2.2 j := by simp [jm_newg, Nat.not_le.mpr h1]
    rw [e1, e2]
  · have e1 : (jm_newg H n k).2.1 j = fun _ => 0 := by simp [jm_newg, Nat.not_lt.mp h1]
    have e2 : (jm_newg H n k).2.2 j = fun _ => 0 := by simp [jm_newg, Nat.not_lt.mp h1]
    rw [e1, e2]
    by_cases h2 : j = H.1.length
    · simp only [if_neg h1, if_pos h2]
      rfl
    · by_cases h3 : j < H.1.length + 1 + n
      · simp only [if_neg h1, if_neg h2, if_pos h3]
        rfl
      · simp only [if_neg h1, if_neg h2, if_neg h3]
theorem jm_newg_len {H : jm_H} {n k : Nat} : (jm_newg H n k).1.length = H.1.length + 1 + n := by
  simp [jm_newg]
  omega
theorem jm_newg_sl {H : jm_H} {n k : Nat} : jm_sl (jm_newg H n k) = jm_sl H + n + n * k := by
  simp [jm_newg, jm_sl]
  omega
theorem jm_outer (c : ClassId) (N h0 : Nat) : ∀ i : Nat, Jvm.Free.Multi.outerC c N h0 i = arrV c N (fun j => va_rf (if j < i then some (h0 + 1 + j) else none))
  | 0 => by
    show ({ cls := c, slots := Array.replicate N .null, vm := .none } : Cell) = _
    rw [arrV_new]
    refine congrArg (arrV c N) (funext fun j => ?_)
    simp [va_rf]
  | i + 1 => by
    show (Jvm.Free.Multi.outerC c N h0 i).setSlot i (.ref (h0 + 1 + i)) = _
    rw [jm_outer c N h0 i, arrV_store]
    refine congrArg (arrV c N) (funext fun j => ?_)
    by_cases e : j = i
    · subst e
      simp [updV, va_rf]
    · by_cases h : j < i
      · simp [updV, e, h, Nat.lt_succ_of_lt h]
      · simp [updV, e, h, show ¬ j < i + 1 by omega]
end JMY
end
section
section JMY
variable {p : Program} {l : Launch} {e : Env} {R : Room} {s : State} {m : MethodId} {args : Array Value} {below : List Frame} {meth : Method} {c : Code} {Q : State → Prop}
variable {dC : Nat → ClassId} {dI : Nat → Nat → Nat} {dA : Nat → ClassId} {base : Nat} {b : Nat → Nat} {L : Nat} {xs : Nat → Int32} {q : jm_M} {n0 s0 : Nat}
variable {pc npc a0 b0 : Nat} {z0 : Int} {ls : jm_L} {st : List Value} {H : jm_H} {cf : jm_C} {E : jm_E}
/-- a method's start and end -/
def jm_Pc (dC : Nat → ClassId) (dI : Nat → Nat → Nat) (dA : Nat → ClassId) (base : Nat) (b : Nat → Nat) (L : Nat) (xs : Nat → Int32) (H : jm_H) (as : List Value) : Array Value → State → Prop :=
  va_Pc (as.map (jm_cv base b)) (fun U => jm_Rl dC dI dA base H U.heap ∧ va_K (dC, dI) jm_cl (jm_tys dA) U ∧ jm_Xb base b L xs U U.heap ∧ jm_X U)
def jm_Qc (dC : Nat → ClassId) (dI : Nat → Nat → Nat) (dA : Nat → ClassId) (base : Nat) (b : Nat → Nat) (v : Option Value) (H : jm_H) : Array Value → State → Outcome → State → Prop :=
  fun _ st oc t => oc = .returned (v.map (jm_cv base b)) ∧ jm_Rl dC dI dA base H t.heap ∧ va_F (jm_A base) st t
def jm_rm (d : Nat) (H H' : jm_H) : Room := { frames := d, cells := H'.1.length - H.1.length, slots := jm_sl H' - jm_sl H, locals := 41 * d }
/-- the calls of the small machine are the machine's -/
def jm_Sn (l : Launch) (dC : Nat → ClassId) (dI : Nat → Nat → Nat) (dA : Nat → ClassId) (base : Nat) (b : Nat → Nat) (L : Nat) (xs : Nat → Int32) (d : Nat) (E : jm_E) : Prop :=
  ∀ (a : Nat) (r : jm_M) (as : List Value) (H1 : jm_H) (o : jm_O), jm_MT[a]? = some r → plainName r.1.cls = true → E a as H1 = some o → H1.1.length ≤ o.2.1.length ∧ jm_sl H1 ≤ jm_sl o.2 ∧ (b 0 < base → Met l r.1 (jm_wd r) (jm_rm d H1 o.2) (jm_Pc dC dI dA base b L xs H1 as) (jm_Qc dC dI dA base b o.1 o.2) (o.2.1.length - H1.1.length) (jm_sl o.2 - jm_sl H1) (jm_A base))
theorem jm_Pc_blind {as : List Value} : FrameBlind (jm_Pc dC dI dA base b L xs H as) := fun a U g mk hq => by
  obtain ⟨h0, h1, h2, h3, h4⟩ := hq
  exact ⟨h0, h1, va_K.moved (u := U) (U := U.calling g mk a) (Vm.Alike.refl U.vm) h2, jm_Xb.same (s := U) (U := U.calling g mk a) rfl h3, jm_X.same (s := U) (U := U.calling g mk a) rfl h4⟩
theorem jm_cont {Hc : Heap} {locs : List Loc} {cells slots mc ms : Nat} {arr : Array Slot} {st0 rest : List Value} {v : Option Value} {H1 : jm_H} {a : Array Value} (hr : va_Run p l e R s m args below meth c Hc locs cells slots mc ms (F0 m pc arr st0) rest (jm_Qc dC dI dA base b v H1 a) (jm_A base)) (hS : va_S (jm_A base) s.heap Hc locs)
    (kk : ∀ (Hc1 : Heap) (locs1 : List Loc), jm_Rl dC dI dA base H1 Hc1 → va_S (jm_A base) s.heap Hc1 locs1 → W p l e R s m args below meth c Hc1 locs1 (cells + mc) (slots + ms) Q (F0 m (pc + 3) arr ((v.map (jm_cv base b)).toList ++ rest))) : W p l e R s m args below meth c Hc locs cells slots Q (F0 m pc arr st0) := by
  intro T hT X
  obtain ⟨v', st₀, t, T', L9, h0, X', hL, e1, e2, ⟨hv, hRl, hz, hk⟩, st⟩ := hr T hT X
  cases hv
  rw [h0] at hz hk
  obtain ⟨t2, a1, b1⟩ := kk T'.heap (locs ++ L9) (by rw [e1]; exact hRl) ⟨Nat.le_trans hS.1 (by rw [e1]; exact hz), fun q h1 h2 => by rw [e1, hk q (Nat.lt_of_lt_of_le h1 hS.1) h2]; exact hS.2.1 q h1 h2, fun q hq => by
      rcases List.mem_append.mp hq with h | h
      · exact hS.2.2 q h
      · exact hL q h⟩ T' rfl X'
  exact ⟨t2, st t2 a1, b1⟩
theorem jm_call_inj {r : List Value} {o : Option jm_O} (h : jm_call npc ls r o = some (.inl cf)) : ∃ x : jm_O, o = some x ∧ cf = (npc, ls, x.1.toList ++ r, x.2) := by
  unfold jm_call at h
  split at h
  · rename_i x
    exact ⟨x, rfl, jm_nx_inj h⟩
  · cases h
theorem jm_code_tw {o : Nat} {k : jm_K} (h : k ∈ jm_LK o) {y : MethodName} {bb : ByteArray} {n : Nat} {t : Option FieldType} (hw : Cond.code y bb n t ∈ jm_lw o k) : Cond.code y bb n t ∈ jm_TW := by
  obtain ⟨h1, h2⟩ := jm_lk_tw h _ hw
  refine List.mem_filter.mpr ⟨h1, ?_⟩
  simpa [jm_xw] using h2
theorem jm_wd_good {r : jm_M} (h : Cond.code r.1 r.2.1 r.2.2.1 r.2.2.2.1 ∈ jm_TW) : GoodIn jm_TW (jm_wd r) := fun w hw => by
  rcases List.mem_cons.mp hw with rfl | hw
  · exact jm_good _ h
  · exact jm_good _ hw
theorem jm_stk {st r : List Value} {n o : Nat} (h : st.drop n = .ref o :: r) : st.map (jm_cv base b) = ((st.take n).reverse.map (jm_cv base b)).reverse ++ .ref (base + o) :: r.map (jm_cv base b) := by
  rw [← List.map_reverse, List.reverse_reverse]
  conv => lhs; rw [← List.take_append_drop n st, h, List.map_append]
  rfl
theorem jm_stk1 {st r : List Value} {n : Nat} (h : st.drop n = .retAddr 1 :: r) : st.map (jm_cv base b) = ((st.take n).reverse.map (jm_cv base b)).reverse ++ .ref (b 1) :: r.map (jm_cv base b) := by
  rw [← List.map_reverse, List.reverse_reverse]
  conv => lhs; rw [← List.take_append_drop n st, h, List.map_append]
  rfl
theorem jm_stkS {st : List Value} {n : Nat} : st.map (jm_cv base b) = ((st.take n).reverse.map (jm_cv base b)).reverse ++ (st.drop n).map (jm_cv base b) := by
  rw [← List.map_reverse, List.reverse_reverse, ← List.map_append, List.take_append_drop]
theorem jm_catc (st : List Value) : ((st.map (jm_cv base b)).map fun v => v.category).sum = jm_cat st := by
  unfold jm_cat
  rw [List.map_map]
  congr 1
  apply List.map_congr_left
  intro v _
  cases v <;> rfl
theorem jm_npe {a : Nat} {r : jm_M} (h : jm_MT[a]? = some r) : jm_np a = r.2.2.2.2.1 := by
  unfold jm_np
  rw [h]
theorem jm_ols (x : Option Value) (r : List Value) : (x.map (jm_cv base b)).toList ++ r.map (jm_cv base b) = (x.toList ++ r).map (jm_cv base b) := by cases x <;> rfl
set_option maxHeartbeats 4000000 in
theorem jm_s_invv {ix d : Nat} (C : jm_Cx p s m args meth c dC dI dA base b L xs q) (hF : jm_Fa q pc (.invokevirtual ix, npc, a0, b0, z0)) (ho : jm_on q.2.2.2.2.2 = q.1.cls) (hbbE : b 0 < base) (hE : jm_Sn l dC dI dA base b L xs d E) (hRf : d + 1 ≤ R.frames ∧ 41 * (d + 1) ≤ R.locals) (hroom : cf.2.2.2.1.length ≤ n0 + R.cells ∧ jm_sl cf.2.2.2 ≤ s0 + R.slots)
    (hs : jm_stp xs L E (.invokevirtual ix, npc, a0, b0, z0) pc ls st H = some (.inl cf)) (G' : jm_G p l e R s m args below meth c Q dC dI dA base b q n0 s0 cf) : jm_G p l e R s m args below meth c Q dC dI dA base b q n0 s0 (pc, ls, st, H) := by
  obtain ⟨hx, hb, hml, hown, hts, hXw, hK, hXs, hbb, hbs, hmn⟩ := C
  obtain ⟨hd, hn, hk, hsd⟩ := hF
  have hw : ∀ k9 : jm_K, jm_need (.invokevirtual ix, npc, a0, b0, z0) = some k9 → ∀ w ∈ jm_lw q.2.2.2.2.2 k9, w.before args s = true := fun k9 h w hw => jm_word hts hXw (hk k9 h) hw
  rw [← ho] at hown
  simp only [jm_stp] at hs
  have hn : npc = pc + 3 := hn
  subst hn
  have hb0 : (b0 == 1 || b0 == 15) = true := hsd
  simp only [Bool.or_eq_true, beq_iff_eq] at hb0
  rcases hb0 with hb0 | hb0
  · subst hb0
    have hkm := hk _ rfl
    have hlk := jm_lkok hkm
    simp only [jm_lok, Bool.and_eq_true, decide_eq_true_eq] at hlk
    obtain ⟨⟨⟨hz0, hz1⟩, ha⟩, hyy⟩ := hlk
    split at hyy
    · rename_i y hy
      simp only [Bool.and_eq_true, decide_eq_true_eq] at hyy
      obtain ⟨hcn, hpl⟩ := hyy
      have hlw : jm_lw q.2.2.2.2.2 (ix, 1, a0, 0, z0) = [.methodLink (jm_on q.2.2.2.2.2) ix y.1, .instanceMethod y.1, .selects y.1.cls y.1 y.1, .initialized y.1.cls, .code y.1 y.2.1 y.2.2.1 y.2.2.2.1] := by
        unfold jm_lw
        simp only [hy]
      have hww : ∀ w ∈ ([.methodLink (jm_on q.2.2.2.2.2) ix y.1, .instanceMethod y.1, .selects y.1.cls y.1 y.1, .initialized y.1.cls, .code y.1 y.2.1 y.2.2.1 y.2.2.2.1] : List Cond), w.before args s = true := fun w h => hw _ rfl w (by rw [hlw]; exact h)
      have hcd : Cond.code y.1 y.2.1 y.2.2.1 y.2.2.2.1 ∈ jm_TW := jm_code_tw hkm (by rw [hlw]; simp)
      split at hs
      · rename_i o r hst
        split at hs
        · rename_i hc
          obtain ⟨hc1, hc2, hc3, -⟩ := hc
          have hci : ∃ ci : Nat, z0 = (ci : Int) ∧ ci < 10 := ⟨z0.toNat, (Int.toNat_of_nonneg hz0).symm, by have hz1' : z0 < 10 := hz1; have hz0' : 0 ≤ z0 := hz0; omega⟩
          obtain ⟨ci, rfl, hci⟩ := hci
          have hkd : jm_kd H o = 10 + ci := by have h9 : (jm_kd H o : Int) = 10 + (ci : Int) := hc3; omega
          obtain ⟨x, hx1, hcf⟩ := jm_call_inj hs
          subst hcf
          obtain ⟨hg1, hg2, hM⟩ := hE a0 y _ H x hy hpl hx1
          have hM := hM hbbE
          obtain ⟨hcls, hpar, hmx, -⟩ := jm_mfact hy
          intro Hc locs arr cells slots hR hS hl h1 h2
          have h1' : cells + n0 = H.1.length := h1
          have h2' : slots + s0 = jm_sl H := h2
          have hrm := hroom
          have hrm1 : x.2.1.length ≤ n0 + R.cells := hroom.1
          have hrm2 : jm_sl x.2 ≤ s0 + R.slots := hroom.2
          have hf : cells + (x.2.1.length - H.1.length) ≤ R.cells ∧ slots + (jm_sl x.2 - jm_sl H) ≤ R.slots := ⟨by omega, by omega⟩
          have hRR : (jm_rm d H x.2).frames + 1 ≤ R.frames ∧ 8 + (y.2.2.1 + 11) + (jm_rm d H x.2).locals ≤ R.locals := ⟨hRf.1, by have hmx9 : y.2.2.1 ≤ 22 := hmx; show 8 + (y.2.2.1 + 11) + 41 * d ≤ _; omega⟩
          have hPcU : ∀ U : State, U.heap = Hc → s.WarmedH U.vm → ∀ as : List Value, jm_Pc dC dI dA base b L xs H as (as.map (jm_cv base b)).toArray U := fun U hU hW as => ⟨rfl, by rw [hU]; exact hR, va_K.moved hW.alike hK, jm_Xb.next hW hXs hbb hbs hS hU, hXw.warm hW⟩
          have hend : ∀ (Hc1 : Heap) (locs1 : List Loc), jm_Rl dC dI dA base x.2 Hc1 → va_S (jm_A base) s.heap Hc1 locs1 → W p l e R s m args below meth c Hc1 locs1 (cells + (x.2.1.length - H.1.length)) (slots + (jm_sl x.2 - jm_sl H)) Q (F0 m (pc + 3) arr ((x.1.map (jm_cv base b)).toList ++ r.map (jm_cv base b))) := fun Hc1 locs1 hR1 hS1 => by
            rw [jm_ols]
            exact G' Hc1 locs1 arr _ _ hR1 hS1 hl (by show _ = x.2.1.length; omega) (by show _ = jm_sl x.2; omega)
          refine jm_cont (va_runV (C := y.1.cls) (b := base + o) (As := (st.take (jm_np a0)).reverse.map (jm_cv base b)) (rest := r.map (jm_cv base b)) ⟨hx, hb, hml, hown, hts⟩ hM ⟨callB_of (ws' := jm_TW) y.2.2.2.2.1 hts (jm_wd_good hcd) rfl rfl rfl (hww _ (by simp)) (hww _ (by simp)) ⟨hcls.1, hcls.2, hpar⟩ hRR, hww _ (by simp), hww _ (by simp)⟩ ⟨jm_Pc_blind, ?_, fun U hU hW => hPcU U hU hW (.ref o :: (st.take (jm_np a0)).reverse)⟩ rfl ?_ hl.1 (jm_stk hst) (lv_room (by rw [jm_catc]; exact hc2)) hd hf) hS hend
          · have hrv := va_recv hK hR.1 (jm_clg hci) (jm_obj hkd)
            rw [show (jm_R ci, jm_T ci, jm_N ci).1 = y.1.cls from hcn] at hrv
            exact hrv
          · rw [List.length_map, List.length_reverse, List.length_take, ← jm_npe hy]
            exact Nat.min_eq_left hc1
        · cases hs
      · split at hs
        · rename_i hc
          exact absurd hc.2.2 (by decide)
        · cases hs
      · cases hs
    · cases hyy
  · subst hb0
    have hkm := hk _ rfl
    have hlk := jm_lkok hkm
    simp only [jm_lok] at hlk
    have hyy := hlk
    split at hyy
    · rename_i y hy
      simp only [Bool.and_eq_true, decide_eq_true_eq] at hyy
      obtain ⟨hcn, hpl⟩ := hyy
      have hlw : jm_lw q.2.2.2.2.2 (ix, 15, a0, 0, z0) = [.methodLink (jm_on q.2.2.2.2.2) ix y.1, .instanceMethod y.1, .selects y.1.cls y.1 y.1, .initialized y.1.cls, .code y.1 y.2.1 y.2.2.1 y.2.2.2.1] := by
        unfold jm_lw
        simp only [hy]
      have hww : ∀ w ∈ ([.methodLink (jm_on q.2.2.2.2.2) ix y.1, .instanceMethod y.1, .selects y.1.cls y.1 y.1, .initialized y.1.cls, .code y.1 y.2.1 y.2.2.1 y.2.2.2.1] : List Cond), w.before args s = true := fun w h => hw _ rfl w (by rw [hlw]; exact h)
      have hcd : Cond.code y.1 y.2.1 y.2.2.1 y.2.2.2.1 ∈ jm_TW := jm_code_tw hkm (by rw [hlw]; simp)
      split at hs
      · split at hs
        · rename_i hc
          exact absurd rfl hc.2.2.2
        · cases hs
      · rename_i r hst
        split at hs
        · rename_i hc
          obtain ⟨hc1, hc2, -⟩ := hc
          obtain ⟨x, hx1, hcf⟩ := jm_call_inj hs
          subst hcf
          obtain ⟨hg1, hg2, hM⟩ := hE a0 y _ H x hy hpl hx1
          have hM := hM hbbE
          obtain ⟨hcls, hpar, hmx, -⟩ := jm_mfact hy
          intro Hc locs arr cells slots hR hS hl h1 h2
          have h1' : cells + n0 = H.1.length := h1
          have h2' : slots + s0 = jm_sl H := h2
          have hrm := hroom
          have hrm1 : x.2.1.length ≤ n0 + R.cells := hroom.1
          have hrm2 : jm_sl x.2 ≤ s0 + R.slots := hroom.2
          have hf : cells + (x.2.1.length - H.1.length) ≤ R.cells ∧ slots + (jm_sl x.2 - jm_sl H) ≤ R.slots := ⟨by omega, by omega⟩
          have hRR : (jm_rm d H x.2).frames + 1 ≤ R.frames ∧ 8 + (y.2.2.1 + 11) + (jm_rm d H x.2).locals ≤ R.locals := ⟨hRf.1, by have hmx9 : y.2.2.1 ≤ 22 := hmx; show 8 + (y.2.2.1 + 11) + 41 * d ≤ _; omega⟩
          have hPcU : ∀ U : State, U.heap = Hc → s.WarmedH U.vm → ∀ as : List Value, jm_Pc dC dI dA base b L xs H as (as.map (jm_cv base b)).toArray U := fun U hU hW as => ⟨rfl, by rw [hU]; exact hR, va_K.moved hW.alike hK, jm_Xb.next hW hXs hbb hbs hS hU, hXw.warm hW⟩
          have hend : ∀ (Hc1 : Heap) (locs1 : List Loc), jm_Rl dC dI dA base x.2 Hc1 → va_S (jm_A base) s.heap Hc1 locs1 → W p l e R s m args below meth c Hc1 locs1 (cells + (x.2.1.length - H.1.length)) (slots + (jm_sl x.2 - jm_sl H)) Q (F0 m (pc + 3) arr ((x.1.map (jm_cv base b)).toList ++ r.map (jm_cv base b))) := fun Hc1 locs1 hR1 hS1 => by
            rw [jm_ols]
            exact G' Hc1 locs1 arr _ _ hR1 hS1 hl (by show _ = x.2.1.length; omega) (by show _ = jm_sl x.2; omega)
          refine jm_cont (va_runV (C := y.1.cls) (b := b 1) (As := (st.take (jm_np a0)).reverse.map (jm_cv base b)) (rest := r.map (jm_cv base b)) ⟨hx, hb, hml, hown, hts⟩ hM ⟨callB_of (ws' := jm_TW) y.2.2.2.2.1 hts (jm_wd_good hcd) rfl rfl rfl (hww _ (by simp)) (hww _ (by simp)) ⟨hcls.1, hcls.2, hpar⟩ hRR, hww _ (by simp), hww _ (by simp)⟩ ⟨jm_Pc_blind, ?_, fun U hU hW => hPcU U hU hW (.retAddr 1 :: (st.take (jm_np a0)).reverse)⟩ rfl ?_ hl.1 (jm_stk1 hst) (lv_room (by rw [jm_catc]; exact hc2)) hd hf) hS hend
          · obtain ⟨-, ⟨adV, hv9⟩, -, -⟩ := hXs.2
            obtain ⟨⟨cell, g1, g2, g3, g4⟩, -⟩ := hv9.1 0 (by omega)
            rw [← hcn] at g3
            exact ⟨cell, (hS.2.1 _ (Array.getElem?_eq_some_iff.mp g1).1 g4).trans g1, g2, g3⟩
          · rw [List.length_map, List.length_reverse, List.length_take, ← jm_npe hy]
            exact Nat.min_eq_left hc1
        · cases hs
      · cases hs
    · cases hyy
set_option maxHeartbeats 4000000 in
theorem jm_s_invsp {ix d : Nat} (C : jm_Cx p s m args meth c dC dI dA base b L xs q) (hF : jm_Fa q pc (.invokespecial ix, npc, a0, b0, z0)) (ho : jm_on q.2.2.2.2.2 = q.1.cls) (hbbE : b 0 < base) (hE : jm_Sn l dC dI dA base b L xs d E) (hRf : d + 1 ≤ R.frames ∧ 41 * (d + 1) ≤ R.locals) (hroom : cf.2.2.2.1.length ≤ n0 + R.cells ∧ jm_sl cf.2.2.2 ≤ s0 + R.slots)
    (hs : jm_stp xs L E (.invokespecial ix, npc, a0, b0, z0) pc ls st H = some (.inl cf)) (G' : jm_G p l e R s m args below meth c Q dC dI dA base b q n0 s0 cf) : jm_G p l e R s m args below meth c Q dC dI dA base b q n0 s0 (pc, ls, st, H) := by
  obtain ⟨hx, hb, hml, hown, hts, hXw, hK, hXs, hbb, hbs, hmn⟩ := C
  obtain ⟨hd, hn, hk, hsd⟩ := hF
  have hw : ∀ k9 : jm_K, jm_need (.invokespecial ix, npc, a0, b0, z0) = some k9 → ∀ w ∈ jm_lw q.2.2.2.2.2 k9, w.before args s = true := fun k9 h w hw => jm_word hts hXw (hk k9 h) hw
  rw [← ho] at hown
  simp only [jm_stp] at hs
  have hn : npc = pc + 3 := hn
  subst hn
  have hkm := hk _ rfl
  have hlk := jm_lkok hkm
  have hb0 : ((b0 == 6 || b0 == 3) || b0 == 5) = true := hsd
  simp only [Bool.or_eq_true, beq_iff_eq] at hb0
  rcases hb0 with (hb0 | hb0) | hb0
  · subst hb0
    simp only [jm_lok] at hlk
    split at hlk
    · rename_i y hy
      simp only [Bool.and_eq_true, decide_eq_true_eq] at hlk
      obtain ⟨⟨⟨⟨g1, g2⟩, g3⟩, g4⟩, g5⟩ := hlk
      have hlw : jm_lw q.2.2.2.2.2 (ix, 6, a0, 0, 0) = [.methodLink (jm_on q.2.2.2.2.2) ix y.1, .instanceMethod y.1, .code y.1 y.2.1 y.2.2.1 y.2.2.2.1] := by
        unfold jm_lw
        simp only [hy]
      have hww : ∀ w ∈ ([.methodLink (jm_on q.2.2.2.2.2) ix y.1, .instanceMethod y.1, .code y.1 y.2.1 y.2.2.1 y.2.2.2.1] : List Cond), w.before args s = true := fun w h => hw _ rfl w (by rw [hlw]; exact h)
      obtain ⟨yy, ybytes, ymx, yret, ynp, yo⟩ := y
      dsimp only at g1 g2 g3 g4 g5 hww
      have g2' : ybytes = ⟨#[0xb1]⟩ := by
        obtain ⟨⟨dd⟩⟩ := ybytes
        dsimp only at g2
        subst g2
        rfl
      subst g1 g2' g3 g4
      have hnp : jm_np a0 = 0 := (jm_npe hy).trans g5
      rw [hnp] at hs
      split at hs
      · rename_i o r hst
        rw [List.drop_zero] at hst
        subst hst
        split at hs
        · rename_i hc
          rw [if_pos rfl] at hs
          have hcf := jm_nx_inj hs
          subst hcf
          intro Hc locs arr cells slots hR hS hl h1 h2
          exact W.objInit hx hb hown (hww _ (by simp)) (hww _ (by simp)) (hww _ (by simp)) rfl (hl.1.trans hml.symm) rfl hd (by omega) (by show 2 * 0 + _ + 12 ≤ _; rw [jm_catc]; omega) (G' Hc locs arr cells slots hR hS hl h1 h2)
        · cases hs
      · cases hs
    · cases hlk
  · subst hb0
    simp only [jm_lok, Bool.and_eq_true, decide_eq_true_eq] at hlk
    obtain ⟨ha, hyy⟩ := hlk
    split at hyy
    · rename_i y hy
      simp only [Bool.and_eq_true, decide_eq_true_eq] at hyy
      obtain ⟨⟨hin, hrn⟩, hpl⟩ := hyy
      have hlw : jm_lw q.2.2.2.2.2 (ix, 3, a0, 0, 0) = [.methodLink (jm_on q.2.2.2.2.2) ix y.1, .instanceMethod y.1, .initialized y.1.cls, .code y.1 y.2.1 y.2.2.1 y.2.2.2.1] := by
        unfold jm_lw
        simp only [hy]
      have hww : ∀ w ∈ ([.methodLink (jm_on q.2.2.2.2.2) ix y.1, .instanceMethod y.1, .initialized y.1.cls, .code y.1 y.2.1 y.2.2.1 y.2.2.2.1] : List Cond), w.before args s = true := fun w h => hw _ rfl w (by rw [hlw]; exact h)
      have hcd : Cond.code y.1 y.2.1 y.2.2.1 y.2.2.2.1 ∈ jm_TW := jm_code_tw hkm (by rw [hlw]; simp)
      split at hs
      · rename_i o r hst
        split at hs
        · rename_i hc
          obtain ⟨hc1, hc2⟩ := hc
          rw [if_neg (by decide)] at hs
          obtain ⟨⟨yc, yn, yd⟩, ybytes, ymx, yret, ynp, yo⟩ := y
          dsimp only at hin hrn
          subst hin hrn
          obtain ⟨x, hx1, hcf⟩ := jm_call_inj hs
          subst hcf
          obtain ⟨hg1, hg2, hM⟩ := hE a0 _ _ H x hy hpl hx1
          have hM := hM hbbE
          obtain ⟨hcls, hpar, hmx, -⟩ := jm_mfact hy
          intro Hc locs arr cells slots hR hS hl h1 h2
          have h1' : cells + n0 = H.1.length := h1
          have h2' : slots + s0 = jm_sl H := h2
          have hrm := hroom
          have hrm1 : x.2.1.length ≤ n0 + R.cells := hroom.1
          have hrm2 : jm_sl x.2 ≤ s0 + R.slots := hroom.2
          have hf : cells + (x.2.1.length - H.1.length) ≤ R.cells ∧ slots + (jm_sl x.2 - jm_sl H) ≤ R.slots := ⟨by omega, by omega⟩
          have hRR : (jm_rm d H x.2).frames + 1 ≤ R.frames ∧ 8 + (ymx + 11) + (jm_rm d H x.2).locals ≤ R.locals := ⟨hRf.1, by have hmx9 : ymx ≤ 22 := hmx; show 8 + (ymx + 11) + 41 * d ≤ _; omega⟩
          have hPcU : ∀ U : State, U.heap = Hc → s.WarmedH U.vm → ∀ as : List Value, jm_Pc dC dI dA base b L xs H as (as.map (jm_cv base b)).toArray U := fun U hU hW as => ⟨rfl, by rw [hU]; exact hR, va_K.moved hW.alike hK, jm_Xb.next hW hXs hbb hbs hS hU, hXw.warm hW⟩
          have hend : ∀ (Hc1 : Heap) (locs1 : List Loc), jm_Rl dC dI dA base x.2 Hc1 → va_S (jm_A base) s.heap Hc1 locs1 → W p l e R s m args below meth c Hc1 locs1 (cells + (x.2.1.length - H.1.length)) (slots + (jm_sl x.2 - jm_sl H)) Q (F0 m (pc + 3) arr ((x.1.map (jm_cv base b)).toList ++ r.map (jm_cv base b))) := fun Hc1 locs1 hR1 hS1 => by
            rw [jm_ols]
            exact G' Hc1 locs1 arr _ _ hR1 hS1 hl (by show _ = x.2.1.length; omega) (by show _ = jm_sl x.2; omega)
          refine jm_cont (va_runI (b := base + o) (As := (st.take (jm_np a0)).reverse.map (jm_cv base b)) (rest := r.map (jm_cv base b)) ⟨hx, hb, hml, hown, hts⟩ hM ⟨callB_of (ws' := jm_TW) ynp hts (jm_wd_good hcd) rfl rfl rfl (hww _ (by simp)) (hww _ (by simp)) ⟨hcls.1, hcls.2, hpar⟩ hRR, rfl, hww _ (by simp)⟩ ⟨jm_Pc_blind, fun U hU hW => hPcU U hU hW (.ref o :: (st.take (jm_np a0)).reverse)⟩ rfl ?_ hl.1 (jm_stk hst) (lv_room (by rw [jm_catc]; exact hc2)) hd hf) hS hend
          · rw [List.length_map, List.length_reverse, List.length_take]
            exact (Nat.min_eq_left hc1).trans (jm_npe hy)
        · cases hs
      · cases hs
    · cases hyy
  · subst hb0
    simp only [jm_lok, Bool.and_eq_true, decide_eq_true_eq] at hlk
    obtain ⟨ha, hyy⟩ := hlk
    split at hyy
    · rename_i y hy
      simp only [Bool.and_eq_true, decide_eq_true_eq] at hyy
      obtain ⟨⟨hin, hrn⟩, hpl⟩ := hyy
      have hlw : jm_lw q.2.2.2.2.2 (ix, 5, a0, 0, 0) = [.methodLinkNest (jm_on q.2.2.2.2.2) ix y.1 "LeapingPassages", .instanceMethod y.1, .initialized y.1.cls, .code y.1 y.2.1 y.2.2.1 y.2.2.2.1] := by
        unfold jm_lw
        simp only [hy]
      have hww : ∀ w ∈ ([.methodLinkNest (jm_on q.2.2.2.2.2) ix y.1 "LeapingPassages", .instanceMethod y.1, .initialized y.1.cls, .code y.1 y.2.1 y.2.2.1 y.2.2.2.1] : List Cond), w.before args s = true := fun w h => hw _ rfl w (by rw [hlw]; exact h)
      have hcd : Cond.code y.1 y.2.1 y.2.2.1 y.2.2.2.1 ∈ jm_TW := jm_code_tw hkm (by rw [hlw]; simp)
      split at hs
      · rename_i o r hst
        split at hs
        · rename_i hc
          obtain ⟨hc1, hc2⟩ := hc
          rw [if_neg (by decide)] at hs
          obtain ⟨⟨yc, yn, yd⟩, ybytes, ymx, yret, ynp, yo⟩ := y
          dsimp only at hin hrn
          subst hin hrn
          obtain ⟨x, hx1, hcf⟩ := jm_call_inj hs
          subst hcf
          obtain ⟨hg1, hg2, hM⟩ := hE a0 _ _ H x hy hpl hx1
          have hM := hM hbbE
          obtain ⟨hcls, hpar, hmx, -⟩ := jm_mfact hy
          intro Hc locs arr cells slots hR hS hl h1 h2
          have h1' : cells + n0 = H.1.length := h1
          have h2' : slots + s0 = jm_sl H := h2
          have hrm := hroom
          have hrm1 : x.2.1.length ≤ n0 + R.cells := hroom.1
          have hrm2 : jm_sl x.2 ≤ s0 + R.slots := hroom.2
          have hf : cells + (x.2.1.length - H.1.length) ≤ R.cells ∧ slots + (jm_sl x.2 - jm_sl H) ≤ R.slots := ⟨by omega, by omega⟩
          have hRR : (jm_rm d H x.2).frames + 1 ≤ R.frames ∧ 8 + (ymx + 11) + (jm_rm d H x.2).locals ≤ R.locals := ⟨hRf.1, by have hmx9 : ymx ≤ 22 := hmx; show 8 + (ymx + 11) + 41 * d ≤ _; omega⟩
          have hPcU : ∀ U : State, U.heap = Hc → s.WarmedH U.vm → ∀ as : List Value, jm_Pc dC dI dA base b L xs H as (as.map (jm_cv base b)).toArray U := fun U hU hW as => ⟨rfl, by rw [hU]; exact hR, va_K.moved hW.alike hK, jm_Xb.next hW hXs hbb hbs hS hU, hXw.warm hW⟩
          have hend : ∀ (Hc1 : Heap) (locs1 : List Loc), jm_Rl dC dI dA base x.2 Hc1 → va_S (jm_A base) s.heap Hc1 locs1 → W p l e R s m args below meth c Hc1 locs1 (cells + (x.2.1.length - H.1.length)) (slots + (jm_sl x.2 - jm_sl H)) Q (F0 m (pc + 3) arr ((x.1.map (jm_cv base b)).toList ++ r.map (jm_cv base b))) := fun Hc1 locs1 hR1 hS1 => by
            rw [jm_ols]
            exact G' Hc1 locs1 arr _ _ hR1 hS1 hl (by show _ = x.2.1.length; omega) (by show _ = jm_sl x.2; omega)
          refine jm_cont (va_runIN (b := base + o) (As := (st.take (jm_np a0)).reverse.map (jm_cv base b)) (rest := r.map (jm_cv base b)) ⟨hx, hb, hml, hown, hts⟩ hM ⟨va_cnB (ws' := jm_TW) ynp hts (jm_wd_good hcd) rfl rfl rfl (va_Nw.of rfl (hww _ List.mem_cons_self)) (hww _ (by simp)) ⟨hcls.1, hcls.2, hpar⟩ hRR, rfl, hww _ (by simp)⟩ ⟨jm_Pc_blind, fun U hU hW => hPcU U hU hW (.ref o :: (st.take (jm_np a0)).reverse)⟩ rfl ?_ hl.1 (jm_stk hst) (lv_room (by rw [jm_catc]; exact hc2)) hd hf) hS hend
          · rw [List.length_map, List.length_reverse, List.length_take]
            exact (Nat.min_eq_left hc1).trans (jm_npe hy)
        · cases hs
      · cases hs
    · cases hyy
set_option maxHeartbeats 4000000 in
theorem jm_s_invst {ix d : Nat} (C : jm_Cx p s m args meth c dC dI dA base b L xs q) (hF : jm_Fa q pc (.invokestatic ix, npc, a0, b0, z0)) (ho : jm_on q.2.2.2.2.2 = q.1.cls) (hbbE : b 0 < base) (hE : jm_Sn l dC dI dA base b L xs d E) (hRf : d + 1 ≤ R.frames ∧ 41 * (d + 1) ≤ R.locals) (hroom : cf.2.2.2.1.length ≤ n0 + R.cells ∧ jm_sl cf.2.2.2 ≤ s0 + R.slots) (hn0 : s.heap.size = base + n0)
    (hs : jm_stp xs L E (.invokestatic ix, npc, a0, b0, z0) pc ls st H = some (.inl cf)) (G' : jm_G p l e R s m args below meth c Q dC dI dA base b q n0 s0 cf) : jm_G p l e R s m args below meth c Q dC dI dA base b q n0 s0 (pc, ls, st, H) := by
  obtain ⟨hx, hb, hml, hown, hts, hXw, hK, hXs, hbb, hbs, hmn⟩ := C
  obtain ⟨hd, hn, hk, hsd⟩ := hF
  have hw : ∀ k9 : jm_K, jm_need (.invokestatic ix, npc, a0, b0, z0) = some k9 → ∀ w ∈ jm_lw q.2.2.2.2.2 k9, w.before args s = true := fun k9 h w hw => jm_word hts hXw (hk k9 h) hw
  rw [← ho] at hown
  simp only [jm_stp] at hs
  have hn : npc = pc + 3 := hn
  subst hn
  have hkm := hk _ rfl
  have hlk := jm_lkok hkm
  have hb0 : ((((b0 == 12 || b0 == 13) || b0 == 14) || b0 == 2) || b0 == 4) = true := hsd
  simp only [Bool.or_eq_true, beq_iff_eq] at hb0
  rcases hb0 with (((hb0 | hb0) | hb0) | hb0) | hb0
  · subst hb0
    have hlw : jm_lw q.2.2.2.2.2 (ix, 12, a0, 0, 0) = [.methodLink (jm_on q.2.2.2.2.2) ix arraycopyName, .native arraycopyName, .static arraycopyName, .initialized "java/lang/System"] := rfl
    have hww : ∀ w ∈ ([.methodLink (jm_on q.2.2.2.2.2) ix arraycopyName, .native arraycopyName, .static arraycopyName, .initialized "java/lang/System"] : List Cond), w.before args s = true := fun w h => hw _ rfl w (by rw [hlw]; exact h)
    rw [if_pos rfl] at hs
    split at hs
    · rename_i n dp dd sp ss r
      split at hs
      · rename_i hc
        obtain ⟨hc1, hc2, hc3, hc4, hc5, hc6⟩ := hc
        have hlw9 : (r.map (jm_cv base b) |>.map fun v => v.category).sum + (nativeFrameWords "java/lang/System" "arraycopy" 5 + 11) ≤ R.locals := by
          rw [jm_catc, show nativeFrameWords "java/lang/System" "arraycopy" 5 = 7 by decide +kernel]
          omega
        split at hs
        · rename_i hk1
          have hcf := jm_nx_inj hs
          subst hcf
          intro Hc locs arr cells slots hR hS hl h1 h2
          have hD := jm_ws_D (dA := dA) (base := base) (H := H) (jm_A base) (fun _ h => h)
          refine va_copyi hx hb (hml.trans hl.1.symm) hown (hww _ (by simp)) (hww _ (by simp)) (hww _ (by simp)) (hww _ (by simp)) hK hR.1 hD hS ss dd 0 0 (jm_iar hk1.1) (jm_iar hk1.2) rfl rfl rfl (jm_nneg hc2) (jm_nneg hc3) (jm_nneg hc4) hc5 hc6 (fun _ _ => rfl) (by omega) hlw9 hd (fun H1 locs1 hP1 hD1 hS1 => ?_)
          refine jm_size fun hz => ?_
          refine G' H1 locs1 arr cells slots (jm_Rl_set hR rfl (fun j hj => jm_at_congr rfl (jm_row_ne hj) rfl) ?_ hP1 (jm_kd_lt (H := H) (a := dd) (by rw [hk1.2]; decide)) hn0 h1 hz) hS1 hl h1 h2
          unfold jm_at
          show (base + dd, jm_cell dA base (jm_kd H dd) (jm_ln H dd) (jm_rf H dd) (jm_row H.2.1 dd _ dd) (H.2.2 dd)) = _
          rw [jm_row_eq]
          unfold jm_cell
          rw [hk1.2, if_pos rfl]
        · split at hs
          · rename_i hk1
            have hcf := jm_nx_inj hs
            subst hcf
            intro Hc locs arr cells slots hR hS hl h1 h2
            have hD := jm_ws_D (dA := dA) (base := base) (H := H) (jm_A base) (fun _ h => h)
            refine va_copyl hx hb (hml.trans hl.1.symm) hown (hww _ (by simp)) (hww _ (by simp)) (hww _ (by simp)) (hww _ (by simp)) hK hR.1 hD hS ss dd 1 1 (jm_lar hk1.1) (jm_lar hk1.2) rfl rfl rfl (jm_nneg hc2) (jm_nneg hc3) (jm_nneg hc4) hc5 hc6 (fun _ _ => rfl) (by omega) hlw9 hd (fun H1 locs1 hP1 hD1 hS1 => ?_)
            refine jm_size fun hz => ?_
            refine G' H1 locs1 arr cells slots (jm_Rl_set hR rfl (fun j hj => jm_at_congr rfl rfl (jm_row_ne hj)) ?_ hP1 (jm_kd_lt (H := H) (a := dd) (by rw [hk1.2]; decide)) hn0 h1 hz) hS1 hl h1 h2
            unfold jm_at
            show (base + dd, jm_cell dA base (jm_kd H dd) (jm_ln H dd) (jm_rf H dd) (H.2.1 dd) (jm_row H.2.2 dd _ dd)) = _
            rw [jm_row_eq]
            unfold jm_cell
            rw [hk1.2, if_neg (by omega), if_pos rfl]
          · cases hs
      · cases hs
    · cases hs
  · subst hb0
    have hlw : jm_lw q.2.2.2.2.2 (ix, 13, a0, 0, 0) = [.methodLink (jm_on q.2.2.2.2.2) ix Lib.Math.max.name, .static Lib.Math.max.name, .initialized "java/lang/Math", .code Lib.Math.max.name Lib.Math.max.code 2 (some .int)] := rfl
    have hww : ∀ w ∈ ([.methodLink (jm_on q.2.2.2.2.2) ix Lib.Math.max.name, .static Lib.Math.max.name, .initialized "java/lang/Math", .code Lib.Math.max.name Lib.Math.max.code 2 (some .int)] : List Cond), w.before args s = true := fun w h => hw _ rfl w (by rw [hlw]; exact h)
    rw [if_neg (show ¬ (13 : Nat) = 12 by decide), if_pos rfl] at hs
    split at hs
    · rename_i y x r
      split at hs
      · rename_i hc
        have hcf := jm_nx_inj hs
        subst hcf
        intro Hc locs arr cells slots hR hS hl h1 h2
        have h1' : cells + n0 = H.1.length := h1
        have h2' : slots + s0 = jm_sl H := h2
        have hrm1 : H.1.length ≤ n0 + R.cells := hroom.1
        have hrm2 : jm_sl H ≤ s0 + R.slots := hroom.2
        exact va_mmax hx hb (hml.trans hl.1.symm) hown (hww _ (by simp)) (hww _ (by simp)) (hww _ (by simp)) (hww _ (by simp)) (by omega) (by rw [jm_catc]; omega) (by omega) (by omega) hd (G' Hc locs arr cells slots hR hS hl h1 h2)
      · cases hs
    · cases hs
  · subst hb0
    have hlw : jm_lw q.2.2.2.2.2 (ix, 14, a0, 0, 0) = [.methodLink (jm_on q.2.2.2.2.2) ix Lib.Math.min.name, .static Lib.Math.min.name, .initialized "java/lang/Math", .code Lib.Math.min.name Lib.Math.min.code 2 (some .int)] := rfl
    have hww : ∀ w ∈ ([.methodLink (jm_on q.2.2.2.2.2) ix Lib.Math.min.name, .static Lib.Math.min.name, .initialized "java/lang/Math", .code Lib.Math.min.name Lib.Math.min.code 2 (some .int)] : List Cond), w.before args s = true := fun w h => hw _ rfl w (by rw [hlw]; exact h)
    rw [if_neg (show ¬ (14 : Nat) = 12 by decide), if_neg (show ¬ (14 : Nat) = 13 by decide), if_pos rfl] at hs
    split at hs
    · rename_i y x r
      split at hs
      · rename_i hc
        have hcf := jm_nx_inj hs
        subst hcf
        intro Hc locs arr cells slots hR hS hl h1 h2
        have h1' : cells + n0 = H.1.length := h1
        have h2' : slots + s0 = jm_sl H := h2
        have hrm1 : H.1.length ≤ n0 + R.cells := hroom.1
        have hrm2 : jm_sl H ≤ s0 + R.slots := hroom.2
        exact va_mmin hx hb (hml.trans hl.1.symm) hown (hww _ (by simp)) (hww _ (by simp)) (hww _ (by simp)) (hww _ (by simp)) (by omega) (by rw [jm_catc]; omega) (by omega) (by omega) hd (G' Hc locs arr cells slots hR hS hl h1 h2)
      · cases hs
    · cases hs
  · subst hb0
    simp only [jm_lok, Bool.and_eq_true, decide_eq_true_eq] at hlk
    obtain ⟨ha, hyy⟩ := hlk
    split at hyy
    · rename_i y hy
      have hpl := hyy
      have hlw : jm_lw q.2.2.2.2.2 (ix, 2, a0, 0, 0) = [.methodLink (jm_on q.2.2.2.2.2) ix y.1, .static y.1, .initialized y.1.cls, .code y.1 y.2.1 y.2.2.1 y.2.2.2.1] := by
        unfold jm_lw
        simp only [hy]
      have hww : ∀ w ∈ ([.methodLink (jm_on q.2.2.2.2.2) ix y.1, .static y.1, .initialized y.1.cls, .code y.1 y.2.1 y.2.2.1 y.2.2.2.1] : List Cond), w.before args s = true := fun w h => hw _ rfl w (by rw [hlw]; exact h)
      have hcd : Cond.code y.1 y.2.1 y.2.2.1 y.2.2.2.1 ∈ jm_TW := jm_code_tw hkm (by rw [hlw]; simp)
      rw [if_neg (show ¬ (2 : Nat) = 12 by decide), if_neg (show ¬ (2 : Nat) = 13 by decide), if_neg (show ¬ (2 : Nat) = 14 by decide)] at hs
      split at hs
      · rename_i hc
        obtain ⟨hc1, hc2⟩ := hc
        obtain ⟨x, hx1, hcf⟩ := jm_call_inj hs
        subst hcf
        obtain ⟨hg1, hg2, hM⟩ := hE a0 y _ H x hy hpl hx1
        have hM := hM hbbE
        obtain ⟨hcls, hpar, hmx, -⟩ := jm_mfact hy
        intro Hc locs arr cells slots hR hS hl h1 h2
        have h1' : cells + n0 = H.1.length := h1
        have h2' : slots + s0 = jm_sl H := h2
        have hrm := hroom
        have hrm1 : x.2.1.length ≤ n0 + R.cells := hroom.1
        have hrm2 : jm_sl x.2 ≤ s0 + R.slots := hroom.2
        have hf : cells + (x.2.1.length - H.1.length) ≤ R.cells ∧ slots + (jm_sl x.2 - jm_sl H) ≤ R.slots := ⟨by omega, by omega⟩
        have hRR : (jm_rm d H x.2).frames + 1 ≤ R.frames ∧ 8 + (y.2.2.1 + 11) + (jm_rm d H x.2).locals ≤ R.locals := ⟨hRf.1, by have hmx9 : y.2.2.1 ≤ 22 := hmx; show 8 + (y.2.2.1 + 11) + 41 * d ≤ _; omega⟩
        have hPcU : ∀ U : State, U.heap = Hc → s.WarmedH U.vm → ∀ as : List Value, jm_Pc dC dI dA base b L xs H as (as.map (jm_cv base b)).toArray U := fun U hU hW as => ⟨rfl, by rw [hU]; exact hR, va_K.moved hW.alike hK, jm_Xb.next hW hXs hbb hbs hS hU, hXw.warm hW⟩
        have hend : ∀ (Hc1 : Heap) (locs1 : List Loc), jm_Rl dC dI dA base x.2 Hc1 → va_S (jm_A base) s.heap Hc1 locs1 → W p l e R s m args below meth c Hc1 locs1 (cells + (x.2.1.length - H.1.length)) (slots + (jm_sl x.2 - jm_sl H)) Q (F0 m (pc + 3) arr ((x.1.map (jm_cv base b)).toList ++ (st.drop (jm_np a0)).map (jm_cv base b))) := fun Hc1 locs1 hR1 hS1 => by
          rw [jm_ols]
          exact G' Hc1 locs1 arr _ _ hR1 hS1 hl (by show _ = x.2.1.length; omega) (by show _ = jm_sl x.2; omega)
        refine jm_cont (va_runS (As := (st.take (jm_np a0)).reverse.map (jm_cv base b)) (rest := (st.drop (jm_np a0)).map (jm_cv base b)) ⟨hx, hb, hml, hown, hts⟩ hM ⟨callB_of (ws' := jm_TW) y.2.2.2.2.1 hts (jm_wd_good hcd) rfl rfl rfl (hww _ (by simp)) (hww _ (by simp)) ⟨hcls.1, hcls.2, hpar⟩ hRR, hww _ (by simp)⟩ ⟨jm_Pc_blind, fun U hU hW => hPcU U hU hW (st.take (jm_np a0)).reverse⟩ rfl ?_ hl.1 jm_stkS (lv_room (by rw [jm_catc]; exact hc2)) hd hf) hS hend
        · rw [List.length_map, List.length_reverse, List.length_take, ← jm_npe hy]
          exact Nat.min_eq_left hc1
      · cases hs
    · cases hyy
  · subst hb0
    simp only [jm_lok, Bool.and_eq_true, decide_eq_true_eq] at hlk
    obtain ⟨ha, hyy⟩ := hlk
    split at hyy
    · rename_i y hy
      have hpl := hyy
      have hlw : jm_lw q.2.2.2.2.2 (ix, 4, a0, 0, 0) = [.methodLinkNest (jm_on q.2.2.2.2.2) ix y.1 "LeapingPassages", .static y.1, .initialized y.1.cls, .code y.1 y.2.1 y.2.2.1 y.2.2.2.1] := by
        unfold jm_lw
        simp only [hy]
      have hww : ∀ w ∈ ([.methodLinkNest (jm_on q.2.2.2.2.2) ix y.1 "LeapingPassages", .static y.1, .initialized y.1.cls, .code y.1 y.2.1 y.2.2.1 y.2.2.2.1] : List Cond), w.before args s = true := fun w h => hw _ rfl w (by rw [hlw]; exact h)
      have hcd : Cond.code y.1 y.2.1 y.2.2.1 y.2.2.2.1 ∈ jm_TW := jm_code_tw hkm (by rw [hlw]; simp)
      rw [if_neg (show ¬ (4 : Nat) = 12 by decide), if_neg (show ¬ (4 : Nat) = 13 by decide), if_neg (show ¬ (4 : Nat) = 14 by decide)] at hs
      split at hs
      · rename_i hc
        obtain ⟨hc1, hc2⟩ := hc
        obtain ⟨x, hx1, hcf⟩ := jm_call_inj hs
        subst hcf
        obtain ⟨hg1, hg2, hM⟩ := hE a0 y _ H x hy hpl hx1
        have hM := hM hbbE
        obtain ⟨hcls, hpar, hmx, -⟩ := jm_mfact hy
        intro Hc locs arr cells slots hR hS hl h1 h2
        have h1' : cells + n0 = H.1.length := h1
        have h2' : slots + s0 = jm_sl H := h2
        have hrm := hroom
        have hrm1 : x.2.1.length ≤ n0 + R.cells := hroom.1
        have hrm2 : jm_sl x.2 ≤ s0 + R.slots := hroom.2
        have hf : cells + (x.2.1.length - H.1.length) ≤ R.cells ∧ slots + (jm_sl x.2 - jm_sl H) ≤ R.slots := ⟨by omega, by omega⟩
        have hRR : (jm_rm d H x.2).frames + 1 ≤ R.frames ∧ 8 + (y.2.2.1 + 11) + (jm_rm d H x.2).locals ≤ R.locals := ⟨hRf.1, by have hmx9 : y.2.2.1 ≤ 22 := hmx; show 8 + (y.2.2.1 + 11) + 41 * d ≤ _; omega⟩
        have hPcU : ∀ U : State, U.heap = Hc → s.WarmedH U.vm → ∀ as : List Value, jm_Pc dC dI dA base b L xs H as (as.map (jm_cv base b)).toArray U := fun U hU hW as => ⟨rfl, by rw [hU]; exact hR, va_K.moved hW.alike hK, jm_Xb.next hW hXs hbb hbs hS hU, hXw.warm hW⟩
        have hend : ∀ (Hc1 : Heap) (locs1 : List Loc), jm_Rl dC dI dA base x.2 Hc1 → va_S (jm_A base) s.heap Hc1 locs1 → W p l e R s m args below meth c Hc1 locs1 (cells + (x.2.1.length - H.1.length)) (slots + (jm_sl x.2 - jm_sl H)) Q (F0 m (pc + 3) arr ((x.1.map (jm_cv base b)).toList ++ (st.drop (jm_np a0)).map (jm_cv base b))) := fun Hc1 locs1 hR1 hS1 => by
          rw [jm_ols]
          exact G' Hc1 locs1 arr _ _ hR1 hS1 hl (by show _ = x.2.1.length; omega) (by show _ = jm_sl x.2; omega)
        refine jm_cont (va_runSN (As := (st.take (jm_np a0)).reverse.map (jm_cv base b)) (rest := (st.drop (jm_np a0)).map (jm_cv base b)) ⟨hx, hb, hml, hown, hts⟩ hM ⟨va_cnB (ws' := jm_TW) y.2.2.2.2.1 hts (jm_wd_good hcd) rfl rfl rfl (va_Nw.of rfl (hww _ List.mem_cons_self)) (hww _ (by simp)) ⟨hcls.1, hcls.2, hpar⟩ hRR, hww _ (by simp), trivial⟩ ⟨jm_Pc_blind, fun U hU hW => hPcU U hU hW (st.take (jm_np a0)).reverse⟩ rfl ?_ hl.1 jm_stkS (lv_room (by rw [jm_catc]; exact hc2)) hd hf) hS hend
        · rw [List.length_map, List.length_reverse, List.length_take, ← jm_npe hy]
          exact Nat.min_eq_left hc1
      · cases hs
    · cases hyy
end JMY
end
section
/-! String.charAt of the law's constant: the JDK's own methods, walked. -/
def js_y_lat : MethodName := ⟨"java/lang/String", "isLatin1", "()Z"⟩
theorem js_c_lat : Cond.code js_y_lat prog_15_method_154_code 1 (some .boolean) ∈ jm_TW := List.mem_filter.mpr ⟨by decide +kernel, rfl⟩
noncomputable def js_w_lat : List Cond := Cond.code js_y_lat prog_15_method_154_code 1 (some .boolean) :: jm_TW
theorem js_g_lat : GoodIn jm_TW js_w_lat := fun w hw => by
  rcases List.mem_cons.mp hw with rfl | hw
  · exact jm_good _ js_c_lat
  · exact jm_good _ hw
theorem js_d_lat_0 : decode prog_15_method_154_code 0 = .ok (.getstatic 38, 3) := by decide +kernel
theorem js_d_lat_3 : decode prog_15_method_154_code 3 = .ok (.ifCond .eq 14, 3) := by decide +kernel
theorem js_d_lat_6 : decode prog_15_method_154_code 6 = .ok (.aload_n 0, 1) := by decide +kernel
theorem js_d_lat_7 : decode prog_15_method_154_code 7 = .ok (.getfield 15, 3) := by decide +kernel
theorem js_d_lat_10 : decode prog_15_method_154_code 10 = .ok (.ifCond .ne 7, 3) := by decide +kernel
theorem js_d_lat_13 : decode prog_15_method_154_code 13 = .ok (.iconst 1, 1) := by decide +kernel
theorem js_d_lat_14 : decode prog_15_method_154_code 14 = .ok (.goto 4, 3) := by decide +kernel
theorem js_d_lat_18 : decode prog_15_method_154_code 18 = .ok (.ireturn, 1) := by decide +kernel
def js_y_cha : MethodName := ⟨"java/lang/String", "charAt", "(I)C"⟩
theorem js_c_cha : Cond.code js_y_cha prog_15_method_56_code 2 (some .char) ∈ jm_TW := List.mem_filter.mpr ⟨by decide +kernel, rfl⟩
noncomputable def js_w_cha : List Cond := Cond.code js_y_cha prog_15_method_56_code 2 (some .char) :: jm_TW
theorem js_g_cha : GoodIn jm_TW js_w_cha := fun w hw => by
  rcases List.mem_cons.mp hw with rfl | hw
  · exact jm_good _ js_c_cha
  · exact jm_good _ hw
theorem js_d_cha_0 : decode prog_15_method_56_code 0 = .ok (.aload_n 0, 1) := by decide +kernel
theorem js_d_cha_1 : decode prog_15_method_56_code 1 = .ok (.invokevirtual 492, 3) := by decide +kernel
theorem js_d_cha_4 : decode prog_15_method_56_code 4 = .ok (.ifCond .eq 12, 3) := by decide +kernel
theorem js_d_cha_7 : decode prog_15_method_56_code 7 = .ok (.aload_n 0, 1) := by decide +kernel
theorem js_d_cha_8 : decode prog_15_method_56_code 8 = .ok (.getfield 9, 3) := by decide +kernel
theorem js_d_cha_11 : decode prog_15_method_56_code 11 = .ok (.iload_n 1, 1) := by decide +kernel
theorem js_d_cha_12 : decode prog_15_method_56_code 12 = .ok (.invokestatic 495, 3) := by decide +kernel
theorem js_d_cha_15 : decode prog_15_method_56_code 15 = .ok (.ireturn, 1) := by decide +kernel
def js_y_l1 : MethodName := ⟨"java/lang/StringLatin1", "charAt", "([BI)C"⟩
theorem js_c_l1 : Cond.code js_y_l1 prog_16_method_2_code 2 (some .char) ∈ jm_TW := List.mem_filter.mpr ⟨by decide +kernel, rfl⟩
noncomputable def js_w_l1 : List Cond := Cond.code js_y_l1 prog_16_method_2_code 2 (some .char) :: jm_TW
theorem js_g_l1 : GoodIn jm_TW js_w_l1 := fun w hw => by
  rcases List.mem_cons.mp hw with rfl | hw
  · exact jm_good _ js_c_l1
  · exact jm_good _ hw
theorem js_d_l1_0 : decode prog_16_method_2_code 0 = .ok (.iload_n 1, 1) := by decide +kernel
theorem js_d_l1_1 : decode prog_16_method_2_code 1 = .ok (.aload_n 0, 1) := by decide +kernel
theorem js_d_l1_2 : decode prog_16_method_2_code 2 = .ok (.arraylength, 1) := by decide +kernel
theorem js_d_l1_3 : decode prog_16_method_2_code 3 = .ok (.invokestatic 9, 3) := by decide +kernel
theorem js_d_l1_6 : decode prog_16_method_2_code 6 = .ok (.aload_n 0, 1) := by decide +kernel
theorem js_d_l1_7 : decode prog_16_method_2_code 7 = .ok (.iload_n 1, 1) := by decide +kernel
theorem js_d_l1_8 : decode prog_16_method_2_code 8 = .ok (.baload, 1) := by decide +kernel
theorem js_d_l1_9 : decode prog_16_method_2_code 9 = .ok (.sipush 255, 3) := by decide +kernel
theorem js_d_l1_12 : decode prog_16_method_2_code 12 = .ok (.iand, 1) := by decide +kernel
theorem js_d_l1_13 : decode prog_16_method_2_code 13 = .ok (.i2c, 1) := by decide +kernel
theorem js_d_l1_14 : decode prog_16_method_2_code 14 = .ok (.ireturn, 1) := by decide +kernel
def js_y_chk : MethodName := ⟨"java/lang/String", "checkIndex", "(II)V"⟩
theorem js_c_chk : Cond.code js_y_chk prog_15_method_155_code 2 (none) ∈ jm_TW := List.mem_filter.mpr ⟨by decide +kernel, rfl⟩
noncomputable def js_w_chk : List Cond := Cond.code js_y_chk prog_15_method_155_code 2 (none) :: jm_TW
theorem js_g_chk : GoodIn jm_TW js_w_chk := fun w hw => by
  rcases List.mem_cons.mp hw with rfl | hw
  · exact jm_good _ js_c_chk
  · exact jm_good _ hw
theorem js_d_chk_0 : decode prog_15_method_155_code 0 = .ok (.iload_n 0, 1) := by decide +kernel
theorem js_d_chk_1 : decode prog_15_method_155_code 1 = .ok (.iload_n 1, 1) := by decide +kernel
theorem js_d_chk_2 : decode prog_15_method_155_code 2 = .ok (.getstatic 1053, 3) := by decide +kernel
theorem js_d_chk_5 : decode prog_15_method_155_code 5 = .ok (.invokestatic 1059, 3) := by decide +kernel
theorem js_d_chk_8 : decode prog_15_method_155_code 8 = .ok (.pop, 1) := by decide +kernel
theorem js_d_chk_9 : decode prog_15_method_155_code 9 = .ok (.return_, 1) := by decide +kernel
def js_y_pre : MethodName := ⟨"jdk/internal/util/Preconditions", "checkIndex", "(IILjava/util/function/BiFunction;)I"⟩
theorem js_c_pre : Cond.code js_y_pre prog_20_method_11_code 3 (some .int) ∈ jm_TW := List.mem_filter.mpr ⟨by decide +kernel, rfl⟩
noncomputable def js_w_pre : List Cond := Cond.code js_y_pre prog_20_method_11_code 3 (some .int) :: jm_TW
theorem js_g_pre : GoodIn jm_TW js_w_pre := fun w hw => by
  rcases List.mem_cons.mp hw with rfl | hw
  · exact jm_good _ js_c_pre
  · exact jm_good _ hw
theorem js_d_pre_0 : decode prog_20_method_11_code 0 = .ok (.iload_n 0, 1) := by decide +kernel
theorem js_d_pre_1 : decode prog_20_method_11_code 1 = .ok (.ifCond .lt 8, 3) := by decide +kernel
theorem js_d_pre_4 : decode prog_20_method_11_code 4 = .ok (.iload_n 0, 1) := by decide +kernel
theorem js_d_pre_5 : decode prog_20_method_11_code 5 = .ok (.iload_n 1, 1) := by decide +kernel
theorem js_d_pre_6 : decode prog_20_method_11_code 6 = .ok (.if_icmp .lt 10, 3) := by decide +kernel
theorem js_d_pre_16 : decode prog_20_method_11_code 16 = .ok (.iload_n 0, 1) := by decide +kernel
theorem js_d_pre_17 : decode prog_20_method_11_code 17 = .ok (.ireturn, 1) := by decide +kernel
theorem js_in {w : Cond} (h : w ∈ lw_tbl) (hg : goodWord w = true) : w ∈ jm_TW := List.mem_filter.mpr ⟨h, hg⟩
def js_S (base k adV : Nat) (U : State) (H : Heap) : Prop := vk_S 1 [7] [jm_bt] (fun _ => k) (fun _ => adV) (jm_A base) U H ∧ va_Z "java/lang/String" "COMPACT_STRINGS" "Z" (.int 1) (jm_A base) U H ∧ va_Zq "jdk/internal/util/Preconditions" "SIOOBE_FORMATTER" "Ljava/util/function/BiFunction;" (jm_A base) U H
theorem js_S.warm {base k adV : Nat} {s U : State} {H : Heap} (hW : s.WarmedH U.vm) (h : js_S base k adV s H) : js_S base k adV U H := ⟨vk_S.moved hW.alike h.1, va_Z.moved hW.alike h.2.1, va_Zq.moved hW.alike h.2.2⟩
theorem js_S.same {base k adV : Nat} {s U : State} {H : Heap} (hv : s.vm.Alike U.vm) (h : js_S base k adV s H) : js_S base k adV U H := ⟨vk_S.moved hv h.1, va_Z.moved hv h.2.1, va_Zq.moved hv h.2.2⟩
def js_P (base k adV : Nat) (As : List Value) : Array Value → State → Prop := va_Pc As (fun U => js_S base k adV U U.heap)
def js_Q (v : Option Value) : Array Value → State → Outcome → State → Prop := fun _ st oc t => oc = .returned v ∧ t.heap = st.heap
theorem js_blind {base k adV : Nat} {As : List Value} : FrameBlind (js_P base k adV As) := fun a U g mk hq => by
  obtain ⟨h0, h1⟩ := hq
  exact ⟨h0, h1.same (U := U.calling g mk a) (Vm.Alike.refl U.vm)⟩
section JSW
variable {p : Program} {l : Launch} {e : Env} {R : Room} {s : State} {m : MethodId} {args : Array Value} {below : List Frame} {meth : Method} {c : Code} {Q : State → Prop} {pc : Nat}
theorem js_cont {locs : List Loc} {cells slots : Nat} {arr : Array Slot} {st0 rest : List Value} {v : Option Value} {a : Array Value} (hr : va_Run p l e R s m args below meth c s.heap locs cells slots 0 0 (F0 m pc arr st0) rest (js_Q v a) (fun _ => False))
    (kk : W p l e R s m args below meth c s.heap locs cells slots Q (F0 m (pc + 3) arr (v.toList ++ rest))) : W p l e R s m args below meth c s.heap locs cells slots Q (F0 m pc arr st0) := by
  intro T hT X
  obtain ⟨v', st₀, t, T', L9, h0, X', hL, e1, e2, ⟨hv, hh⟩, st⟩ := hr T hT X
  cases hv
  have hl : L9 = [] := by
    cases L9 with
    | nil => rfl
    | cons q r => exact absurd (hL q List.mem_cons_self) (fun h => h)
  subst hl
  rw [List.append_nil] at X'
  obtain ⟨t2, a1, b1⟩ := kk T' (by rw [e1, hh, h0]) X'
  exact ⟨t2, st t2 a1, b1⟩
end JSW

theorem js_m_pre (l : Launch) {base k adV : Nat} {i n : Int32} {f : Value} (hf : f = .null ∨ ∃ t, f = .ref t) (h0 : ¬ i < 0) (h1 : i < n) : Met l js_y_pre js_w_pre ({ frames := 0, cells := 0, slots := 0, locals := 0 }) (js_P base k adV [.int i, .int n, f]) (js_Q (some (.int i))) 0 0 (fun _ => False) := by
  refine Met.ofW (cc := prog_20_method_11_code) (maxL := 3) (ret := some .int) (by decide) rfl ?_
  intro p e s m args below meth c s₁ B hml hv
  obtain ⟨rfl, hZ⟩ := hv
  have hx := B.exec
  have hb := B.bytes
  have hr := B.returns
  have hts0 := atoms_spec (ws := js_w_pre) B.pre
  have hts : ∀ w ∈ jm_TW, w.before ([.int i, .int n, f] : List Value).toArray s = true := fun w hw => hts0 w (List.mem_cons_of_mem _ hw)
  have hown : s.vm.findClass "jdk/internal/util/Preconditions" = some m.cls := findClass_of_methodNamed B.named
  have hlocks := B.notSynchronized
  have hS : va_S (jm_A base) s.heap s.heap [] := va_S.rf
  have hl := lv_entry ([.int i, .int n, f]) (n := 3) (by rcases hf with rfl | ⟨t, rfl⟩ <;> exact Nat.le_of_ble_eq_true rfl)
  rw [lg_entry_eq]
  generalize (lg_sl ([.int i, .int n, f]) ++ List.replicate (3 - (lg_sl ([.int i, .int n, f])).length) Slot.unset).toArray = ls at hl ⊢
  have hl : lv_has ls 3 [(0, .int i), (1, .int n), (2, f)] := hl
  refine lv_iload_n hx hb js_d_pre_0 rfl (lv_at hl 0 rfl) ?_
  refine lv_if_lt hx hb js_d_pre_1 (tgt := 9) (by decide) (fun h => absurd h h0) (fun _ => ?_)
  refine lv_iload_n hx hb js_d_pre_4 rfl (lv_at hl 0 rfl) ?_
  refine lv_iload_n hx hb js_d_pre_5 rfl (lv_at hl 1 rfl) ?_
  refine lv_icmp_lt hx hb js_d_pre_6 (tgt := 16) (by decide) (fun _ => ?_) (fun h => absurd h1 h)
  refine lv_iload_n hx hb js_d_pre_16 rfl (lv_at hl 0 rfl) ?_
  exact W.iret hx hb hr (fun t ht _ => ⟨rfl, ht⟩) (fun q hq => absurd hq List.not_mem_nil) js_d_pre_17 hlocks
theorem js_m_chk (l : Launch) {base k adV : Nat} {i n : Int32} (h0 : ¬ i < 0) (h1 : i < n) : Met l js_y_chk js_w_chk ({ frames := 1, cells := 0, slots := 0, locals := 22 }) (js_P base k adV [.int i, .int n]) (js_Q (none)) 0 0 (fun _ => False) := by
  refine Met.ofW (cc := prog_15_method_155_code) (maxL := 2) (ret := none) (by decide) rfl ?_
  intro p e s m args below meth c s₁ B hml hv
  obtain ⟨rfl, hZ⟩ := hv
  have hx := B.exec
  have hb := B.bytes
  have hr := B.returns
  have hts0 := atoms_spec (ws := js_w_chk) B.pre
  have hts : ∀ w ∈ jm_TW, w.before ([.int i, .int n] : List Value).toArray s = true := fun w hw => hts0 w (List.mem_cons_of_mem _ hw)
  have hown : s.vm.findClass "java/lang/String" = some m.cls := findClass_of_methodNamed B.named
  have hlocks := B.notSynchronized
  have hS : va_S (jm_A base) s.heap s.heap [] := va_S.rf
  have hl := lv_entry ([.int i, .int n]) (n := 2) (Nat.le_of_ble_eq_true rfl)
  rw [lg_entry_eq]
  generalize (lg_sl ([.int i, .int n]) ++ List.replicate (2 - (lg_sl ([.int i, .int n])).length) Slot.unset).toArray = ls at hl ⊢
  have hl : lv_has ls 2 [(0, .int i), (1, .int n)] := hl
  refine lv_iload_n hx hb js_d_chk_0 rfl (lv_at hl 0 rfl) ?_
  refine lv_iload_n hx hb js_d_chk_1 rfl (lv_at hl 1 rfl) ?_
  have go : ∀ f : Value, (f = .null ∨ ∃ t, f = .ref t) → va_Z "jdk/internal/util/Preconditions" "SIOOBE_FORMATTER" "Ljava/util/function/BiFunction;" f (jm_A base) s s.heap → W p l e (headSpec js_w_chk { frames := 1, cells := 0, slots := 0, locals := 22 }).room s m ([.int i, .int n] : List Value).toArray below meth c s.heap [] 0 0 (MQ below (js_Q none) ([.int i, .int n] : List Value).toArray s 0 0 (fun _ => False)) (F0 m 2 ls [.int n, .int i]) := by
    intro f hf hz
    refine va_gets (ref := "jdk/internal/util/Preconditions") hx hb hz hS hown (hts _ (js_in (by decide +kernel) rfl) : (Cond.fieldLink "java/lang/String" 1053 "jdk/internal/util/Preconditions" "SIOOBE_FORMATTER" "Ljava/util/function/BiFunction;").before _ s = true) (fun _ h => h) js_d_chk_2 ?_
    refine js_cont (va_runS (As := [.int i, .int n, f]) (rest := []) ⟨hx, hb, hml, hown, hts⟩ (js_m_pre (base := base) (k := k) (adV := adV) l hf h0 h1) ⟨callB_of (ws' := jm_TW) 3 hts js_g_pre rfl rfl rfl (hts _ (js_in (by decide +kernel) rfl) : (Cond.initialized "jdk/internal/util/Preconditions").before _ s = true) (hts _ (js_in (by decide +kernel) rfl) : (Cond.methodLink "java/lang/String" 1059 js_y_pre).before _ s = true) ⟨by decide, by decide, by decide +kernel⟩ ⟨by first | exact Nat.le_of_ble_eq_true rfl | (show _ ≤ _; omega), by first | exact Nat.le_of_ble_eq_true rfl | (show _ ≤ _; omega)⟩, (hts _ (js_in (by decide +kernel) rfl) : (Cond.static js_y_pre).before _ s = true)⟩ ⟨js_blind, fun U hU hW => ⟨rfl, by show js_S base k adV U U.heap; rw [hU]; exact hZ.warm hW⟩⟩ rfl rfl hl.1 rfl (lv_room (Nat.le_of_ble_eq_true rfl)) js_d_chk_5 ⟨Nat.zero_le _, Nat.zero_le _⟩) ?_
    refine lv_pop hx hb js_d_chk_8 rfl ?_
    exact W.vret hx hb hr (fun t ht _ => ⟨rfl, ht⟩) (fun q hq => absurd hq List.not_mem_nil) js_d_chk_9 hlocks
  rcases hZ.2.2 with hz | ⟨t, hz⟩
  · exact go _ (Or.inl rfl) hz
  · exact go _ (Or.inr ⟨t, rfl⟩) hz
theorem js_m_l1 (l : Launch) {base k adV : Nat} {i : Int32} (h0 : ¬ i < 0) (h1 : i < 7) : Met l js_y_l1 js_w_l1 ({ frames := 2, cells := 0, slots := 0, locals := 43 }) (js_P base k adV [.ref adV, .int i]) (js_Q (some (.int (jm_ch i.toNatClampNeg)))) 0 0 (fun _ => False) := by
  refine Met.ofW (cc := prog_16_method_2_code) (maxL := 2) (ret := some .char) (by decide) rfl ?_
  intro p e s m args below meth c s₁ B hml hv
  obtain ⟨rfl, hZ⟩ := hv
  have hx := B.exec
  have hb := B.bytes
  have hr := B.returns
  have hts0 := atoms_spec (ws := js_w_l1) B.pre
  have hts : ∀ w ∈ jm_TW, w.before ([.ref adV, .int i] : List Value).toArray s = true := fun w hw => hts0 w (List.mem_cons_of_mem _ hw)
  have hown : s.vm.findClass "java/lang/StringLatin1" = some m.cls := findClass_of_methodNamed B.named
  have hlocks := B.notSynchronized
  have hS : va_S (jm_A base) s.heap s.heap [] := va_S.rf
  have hl := lv_entry ([.ref adV, .int i]) (n := 2) (Nat.le_of_ble_eq_true rfl)
  rw [lg_entry_eq]
  generalize (lg_sl ([.ref adV, .int i]) ++ List.replicate (2 - (lg_sl ([.ref adV, .int i])).length) Slot.unset).toArray = ls at hl ⊢
  have hl : lv_has ls 2 [(0, .ref adV), (1, .int i)] := hl
  have hin : vp_in i 7 := by
    rintro (h | h)
    · exact h0 h
    · rw [Int32.lt_iff_toInt_lt] at h1
      have : (7 : Int32).toInt = 7 := by decide
      rw [Int32.toNatClampNeg] at h
      omega
  obtain ⟨j, hj, rfl⟩ := vp_in_of hin (by decide)
  have hT := (hZ.1.1 0 (by omega)).2.2.2
  refine lv_iload_n hx hb js_d_l1_0 rfl (lv_at hl 1 rfl) ?_
  refine lv_aload_n hx hb js_d_l1_1 rfl (lv_at hl 0 rfl) ?_
  refine va_tlen hx hb hT hS (v := 7) (by decide) js_d_l1_2 ?_
  refine js_cont (va_runS (As := [.int (nI j), .int 7]) (rest := []) ⟨hx, hb, hml, hown, hts⟩ (js_m_chk (base := base) (k := k) (adV := adV) l h0 h1) ⟨callB_of (ws' := jm_TW) 2 hts js_g_chk rfl rfl rfl (hts _ (js_in (by decide +kernel) rfl) : (Cond.initialized "java/lang/String").before _ s = true) (hts _ (js_in (by decide +kernel) rfl) : (Cond.methodLink "java/lang/StringLatin1" 9 js_y_chk).before _ s = true) ⟨by decide, by decide, by decide +kernel⟩ ⟨by first | exact Nat.le_of_ble_eq_true rfl | (show _ ≤ _; omega), by first | exact Nat.le_of_ble_eq_true rfl | (show _ ≤ _; omega)⟩, (hts _ (js_in (by decide +kernel) rfl) : (Cond.static js_y_chk).before _ s = true)⟩ ⟨js_blind, fun U hU hW => ⟨rfl, by show js_S base k adV U U.heap; rw [hU]; exact hZ.warm hW⟩⟩ rfl rfl hl.1 rfl (lv_room (Nat.le_of_ble_eq_true rfl)) js_d_l1_3 ⟨Nat.zero_le _, Nat.zero_le _⟩) ?_
  refine lv_aload_n hx hb js_d_l1_6 rfl (lv_at hl 0 rfl) ?_
  refine lv_iload_n hx hb js_d_l1_7 rfl (lv_at hl 1 rfl) ?_
  refine va_tb hx hb hT hS hin (v := .int (jm_ch (nI j).toNatClampNeg)) ?_ js_d_l1_8 ?_
  · rcases (show j = 0 ∨ j = 1 ∨ j = 2 ∨ j = 3 ∨ j = 4 ∨ j = 5 ∨ j = 6 by omega) with h | h | h | h | h | h | h <;> subst h <;> decide
  refine lv_sipush (v := 255) hx hb js_d_l1_9 (by decide) ?_
  refine lv_iand hx hb js_d_l1_12 ?_
  refine lv_i2c (v := jm_ch (nI j).toNatClampNeg) hx hb js_d_l1_13 ?_ ?_
  · rcases (show j = 0 ∨ j = 1 ∨ j = 2 ∨ j = 3 ∨ j = 4 ∨ j = 5 ∨ j = 6 by omega) with h | h | h | h | h | h | h <;> subst h <;> decide
  refine W.zret hx hb hr ?_ (fun t ht _ => ⟨rfl, ht⟩) (fun q hq => absurd hq List.not_mem_nil) js_d_l1_14 hlocks
  rcases (show j = 0 ∨ j = 1 ∨ j = 2 ∨ j = 3 ∨ j = 4 ∨ j = 5 ∨ j = 6 by omega) with h | h | h | h | h | h | h <;> subst h <;> decide
theorem js_m_lat (l : Launch) {base k adV : Nat}  : Met l js_y_lat js_w_lat ({ frames := 0, cells := 0, slots := 0, locals := 0 }) (js_P base k adV [.ref k]) (js_Q (some (.int 1))) 0 0 (fun _ => False) := by
  refine Met.ofW (cc := prog_15_method_154_code) (maxL := 1) (ret := some .boolean) (by decide) rfl ?_
  intro p e s m args below meth c s₁ B hml hv
  obtain ⟨rfl, hZ⟩ := hv
  have hx := B.exec
  have hb := B.bytes
  have hr := B.returns
  have hts0 := atoms_spec (ws := js_w_lat) B.pre
  have hts : ∀ w ∈ jm_TW, w.before ([.ref k] : List Value).toArray s = true := fun w hw => hts0 w (List.mem_cons_of_mem _ hw)
  have hown : s.vm.findClass "java/lang/String" = some m.cls := findClass_of_methodNamed B.named
  have hlocks := B.notSynchronized
  have hS : va_S (jm_A base) s.heap s.heap [] := va_S.rf
  have hl := lv_entry ([.ref k]) (n := 1) (Nat.le_of_ble_eq_true rfl)
  rw [lg_entry_eq]
  generalize (lg_sl ([.ref k]) ++ List.replicate (1 - (lg_sl ([.ref k])).length) Slot.unset).toArray = ls at hl ⊢
  have hl : lv_has ls 1 [(0, .ref k)] := hl
  refine va_gets (ref := "java/lang/String") hx hb hZ.2.1 hS hown (hts _ (js_in (by decide +kernel) rfl) : (Cond.fieldLink "java/lang/String" 38 "java/lang/String" "COMPACT_STRINGS" "Z").before _ s = true) (fun _ h => h) js_d_lat_0 ?_
  refine lv_if_eq hx hb js_d_lat_3 (tgt := 17) (by decide) (fun h => absurd h (by decide)) (fun _ => ?_)
  refine lv_aload_n hx hb js_d_lat_6 rfl (lv_at hl 0 rfl) ?_
  refine va_getX (N := 1) (i := 0) (ad := fun _ => k) (v := fun _ => .int 0) (o := "java/lang/String") (ref := "java/lang/String") hx hb (fun i hi => (hZ.1.1 i hi).2.1) (by omega) hS hown (hts _ (js_in (by decide +kernel) rfl) : (Cond.fieldLink "java/lang/String" 15 "java/lang/String" "coder" "B").before _ s = true) (fun _ h => h) js_d_lat_7 ?_
  refine lv_if_ne hx hb js_d_lat_10 (tgt := 17) (by decide) (fun h => absurd rfl h) (fun _ => ?_)
  refine lv_iconst (v := 1) hx hb js_d_lat_13 (by decide) ?_
  refine lv_goto hx hb js_d_lat_14 (tgt := 18) (by decide) ?_
  exact W.zret hx hb hr rfl (fun t ht _ => ⟨rfl, ht⟩) (fun q hq => absurd hq List.not_mem_nil) js_d_lat_18 hlocks
theorem js_m_cha (l : Launch) {dC : Nat → ClassId} {dI : Nat → Nat → Nat} {dA : Nat → ClassId} {base : Nat} {b : Nat → Nat} {L : Nat} {xs : Nat → Int32} {H : jm_H} {i : Int32} (h0 : ¬ i < 0) (h1 : i < 7) {rm : Room} (hf : 3 ≤ rm.frames ∧ 64 ≤ rm.locals) : Met l js_y_cha js_w_cha rm (jm_Pc dC dI dA base b L xs H [.retAddr 1, .int i]) (jm_Qc dC dI dA base b (some (.int (jm_ch i.toNatClampNeg))) H) 0 0 (jm_A base) := by
  refine Met.ofW (cc := prog_15_method_56_code) (maxL := 2) (ret := some .char) (by decide) rfl ?_
  intro p e s m args below meth c s₁ B hml hv
  obtain ⟨rfl, hR, hK, hXb, hXw⟩ := hv
  obtain ⟨-, ⟨adV, z1⟩, z2, z3⟩ := hXb.2
  have hZ : js_S base (b 1) adV s s.heap := ⟨z1, z2, z3⟩
  show W p l e _ s m _ below meth c s.heap [] 0 0 _ (entryFrame m ([.ref (b 1), .int i] : List Value).toArray 2)
  have hx := B.exec
  have hb := B.bytes
  have hr := B.returns
  have hts0 := atoms_spec (ws := js_w_cha) B.pre
  have hts : ∀ w ∈ jm_TW, w.before ([.ref (b 1), .int i] : List Value).toArray s = true := fun w hw => hts0 w (List.mem_cons_of_mem _ hw)
  have hown : s.vm.findClass "java/lang/String" = some m.cls := findClass_of_methodNamed B.named
  have hlocks := B.notSynchronized
  have hS : va_S (jm_A base) s.heap s.heap [] := va_S.rf
  have hl := lv_entry ([.ref (b 1), .int i]) (n := 2) (Nat.le_of_ble_eq_true rfl)
  rw [lg_entry_eq]
  generalize (lg_sl ([.ref (b 1), .int i]) ++ List.replicate (2 - (lg_sl ([.ref (b 1), .int i])).length) Slot.unset).toArray = ls at hl ⊢
  have hl : lv_has ls 2 [(0, .ref (b 1)), (1, .int i)] := hl
  refine lv_aload_n hx hb js_d_cha_0 rfl (lv_at hl 0 rfl) ?_
  refine js_cont (va_runV (C := "java/lang/String") (b := b 1) (As := []) (rest := []) ⟨hx, hb, hml, hown, hts⟩ (js_m_lat (base := base) (k := b 1) (adV := adV) l) ⟨callB_of (ws' := jm_TW) 0 hts js_g_lat rfl rfl rfl (hts _ (js_in (by decide +kernel) rfl) : (Cond.initialized "java/lang/String").before _ s = true) (hts _ (js_in (by decide +kernel) rfl) : (Cond.methodLink "java/lang/String" 492 js_y_lat).before _ s = true) ⟨by decide, by decide, by decide +kernel⟩ ⟨by show _ ≤ rm.frames; have := hf.1; simp only []; omega, by show _ ≤ rm.locals; have := hf.2; simp only []; omega⟩, (hts _ (js_in (by decide +kernel) rfl) : (Cond.instanceMethod js_y_lat).before _ s = true), (hts _ (js_in (by decide +kernel) rfl) : (Cond.selects "java/lang/String" js_y_lat js_y_lat).before _ s = true)⟩ ⟨js_blind, ?_, fun U hU hW => ⟨rfl, by show js_S base (b 1) adV U U.heap; rw [hU]; exact hZ.warm hW⟩⟩ rfl rfl hl.1 rfl (lv_room (Nat.le_of_ble_eq_true rfl)) js_d_cha_1 ⟨Nat.zero_le _, Nat.zero_le _⟩) ?_
  · obtain ⟨⟨cell, g1, g2, g3, g4⟩, -⟩ := hZ.1.1 0 (by omega)
    exact ⟨cell, g1, g2, g3⟩
  refine lv_if_eq hx hb js_d_cha_4 (tgt := 16) (by decide) (fun h => absurd h (by decide)) (fun _ => ?_)
  refine lv_aload_n hx hb js_d_cha_7 rfl (lv_at hl 0 rfl) ?_
  refine va_getX (N := 1) (i := 0) (ad := fun _ => b 1) (v := fun _ => .ref adV) (o := "java/lang/String") (ref := "java/lang/String") hx hb (fun i hi => (hZ.1.1 i hi).2.2.1) (by omega) hS hown (hts _ (js_in (by decide +kernel) rfl) : (Cond.fieldLink "java/lang/String" 9 "java/lang/String" "value" "[B").before _ s = true) (fun _ h => h) js_d_cha_8 ?_
  refine lv_iload_n hx hb js_d_cha_11 rfl (lv_at hl 1 rfl) ?_
  refine js_cont (va_runS (As := [.ref adV, .int i]) (rest := []) ⟨hx, hb, hml, hown, hts⟩ (js_m_l1 (base := base) (k := b 1) (adV := adV) l h0 h1) ⟨callB_of (ws' := jm_TW) 2 hts js_g_l1 rfl rfl rfl (hts _ (js_in (by decide +kernel) rfl) : (Cond.initialized "java/lang/StringLatin1").before _ s = true) (hts _ (js_in (by decide +kernel) rfl) : (Cond.methodLink "java/lang/String" 495 js_y_l1).before _ s = true) ⟨by decide, by decide, by decide +kernel⟩ ⟨by show _ ≤ rm.frames; have := hf.1; simp only []; omega, by show _ ≤ rm.locals; have := hf.2; simp only []; omega⟩, (hts _ (js_in (by decide +kernel) rfl) : (Cond.static js_y_l1).before _ s = true)⟩ ⟨js_blind, fun U hU hW => ⟨rfl, by show js_S base (b 1) adV U U.heap; rw [hU]; exact hZ.warm hW⟩⟩ rfl rfl hl.1 rfl (lv_room (Nat.le_of_ble_eq_true rfl)) js_d_cha_12 ⟨Nat.zero_le _, Nat.zero_le _⟩) ?_
  have hch : ∀ n : Nat, narrow .char (.int (jm_ch n)) = .int (jm_ch n) := fun n => by
    unfold jm_ch
    split <;> decide
  exact W.zret hx hb hr (hch _) (fun t ht _ => ⟨rfl, by rw [ht]; exact hR, hS.F ht⟩) (fun q hq => absurd hq List.not_mem_nil) js_d_cha_15 hlocks
end
section
/-! A whole run, a whole call. -/
def jm_Gr (E : jm_E) : Prop := ∀ (a : Nat) (as : List Value) (H1 : jm_H) (o : jm_O), E a as H1 = some o → H1.1.length ≤ o.2.1.length ∧ jm_sl H1 ≤ jm_sl o.2
section JMZ
variable {p : Program} {l : Launch} {e : Env} {R : Room} {s : State} {m : MethodId} {args : Array Value} {below : List Frame} {meth : Method} {c : Code} {Q : State → Prop}
variable {dC : Nat → ClassId} {dI : Nat → Nat → Nat} {dA : Nat → ClassId} {base : Nat} {b : Nat → Nat} {L : Nat} {xs : Nat → Int32} {q : jm_M} {n0 s0 : Nat}
theorem jm_set_grow {H : jm_H} {a : Nat} {f : Nat → Option Nat} : H.1.length ≤ (H.1.set a (jm_kd H a, jm_ln H a, f)).length ∧ jm_sl H ≤ jm_sl (H.1.set a (jm_kd H a, jm_ln H a, f), H.2.1, H.2.2) := ⟨Nat.le_of_eq (List.length_set ..).symm, Nat.le_of_eq jm_sl_set.symm⟩
theorem jm_new_grow {H : jm_H} {x : jm_S} : H.1.length ≤ (jm_new H x).1.length ∧ jm_sl H ≤ jm_sl (jm_new H x) := ⟨by rw [jm_new_len]; omega, by rw [jm_new_sl]; omega⟩
theorem jm_newg_grow {H : jm_H} {n k : Nat} : H.1.length ≤ (jm_newg H n k).1.length ∧ jm_sl H ≤ jm_sl (jm_newg H n k) := ⟨by rw [jm_newg_len]; omega, by rw [jm_newg_sl]; omega⟩
set_option maxHeartbeats 8000000 in
theorem jm_grow {E : jm_E} (hE : jm_Gr E) {e0 : jm_I} {pc : Nat} {ls : jm_L} {st : List Value} {H : jm_H} {cf : jm_C} (hs : jm_stp xs L E e0 pc ls st H = some (.inl cf)) : H.1.length ≤ cf.2.2.2.1.length ∧ jm_sl H ≤ jm_sl cf.2.2.2 := by
  obtain ⟨ins, npc, a0, b0, z0⟩ := e0
  have key : ∀ {pc' : Nat} {ls' : jm_L} {st' : List Value}, jm_nx pc' ls' st' H = some (.inl cf) → H.1.length ≤ cf.2.2.2.1.length ∧ jm_sl H ≤ jm_sl cf.2.2.2 := fun h => by
    have hcf := jm_nx_inj h
    subst hcf
    exact ⟨Nat.le_refl _, Nat.le_refl _⟩
  have keyC : ∀ {pc' : Nat} {r : List Value} {a : Nat} {as : List Value}, jm_call pc' ls r (E a as H) = some (.inl cf) → H.1.length ≤ cf.2.2.2.1.length ∧ jm_sl H ≤ jm_sl cf.2.2.2 := fun h => by
    obtain ⟨x, h1, h2⟩ := jm_call_inj h
    subst h2
    exact hE _ _ _ _ h1
  cases ins <;> simp only [jm_stp, jm_sto, jm_ifb, jm_jmp] at hs <;> (repeat' split at hs) <;> first
    | exact key hs
    | exact keyC hs
    | (cases hs; done)
    | (have hcf := jm_nx_inj hs
       subst hcf
       first
         | exact ⟨Nat.le_refl _, Nat.le_refl _⟩
         | exact jm_set_grow
         | exact jm_new_grow
         | exact jm_newg_grow)
set_option maxHeartbeats 8000000 in
theorem jm_retH {E : jm_E} {e0 : jm_I} {pc : Nat} {ls : jm_L} {st : List Value} {H : jm_H} {r : jm_O} (hs : jm_stp xs L E e0 pc ls st H = some (.inr r)) : r.2 = H ∧ ((∃ v, e0.1 = .ireturn ∧ st = [.int v] ∧ r.1 = some (.int v) ∧ (e0.2.2.1 = 1 → v = 0 ∨ v = 1)) ∨ (∃ v, e0.1 = .lreturn ∧ st = [.long v] ∧ r.1 = some (.long v)) ∨ (∃ v, e0.1 = .areturn ∧ st = [.ref v] ∧ r.1 = some (.ref v)) ∨ (e0.1 = .return_ ∧ st = [] ∧ r.1 = none)) := by
  obtain ⟨ins, npc, a0, b0, z0⟩ := e0
  cases ins <;> simp only [jm_stp, jm_sto, jm_ifb, jm_jmp, jm_call, jm_nx] at hs <;> (repeat' split at hs) <;> first
    | (cases hs; done)
    | (cases hs; exact ⟨rfl, Or.inl ⟨_, rfl, rfl, rfl, by assumption⟩⟩)
    | (cases hs; exact ⟨rfl, Or.inr (Or.inl ⟨_, rfl, rfl, rfl⟩)⟩)
    | (cases hs; exact ⟨rfl, Or.inr (Or.inr (Or.inl ⟨_, rfl, rfl, rfl⟩))⟩)
    | (cases hs; exact ⟨rfl, Or.inr (Or.inr (Or.inr ⟨rfl, rfl, rfl⟩))⟩)
theorem jm_run_grow {E : jm_E} (hE : jm_Gr E) {mi : Nat} : ∀ (n : Nat) (cf : jm_C) (r : jm_O), jm_run xs L E mi n cf = some r → cf.2.2.2.1.length ≤ r.2.1.length ∧ jm_sl cf.2.2.2 ≤ jm_sl r.2
  | 0, _, _, h => by simp [jm_run] at h
  | n + 1, (pc, ls, st, H), r, h => by
    simp only [jm_run] at h
    split at h
    · split at h
      · rename_i cf' hs
        have h1 := jm_grow hE hs
        have h2 := jm_run_grow hE n cf' r h
        exact ⟨Nat.le_trans h1.1 h2.1, Nat.le_trans h1.2 h2.2⟩
      · rename_i r' hs
        cases h
        rw [(jm_retH hs).1]
        exact ⟨Nat.le_refl _, Nat.le_refl _⟩
      · cases h
    · cases h
theorem jm_cha_inv {as : List Value} {H : jm_H} {o : jm_O} (h : jm_cha as H = some o) : ∃ i : Int32, as = [.retAddr 1, .int i] ∧ ¬ i < 0 ∧ i < 7 ∧ o = (some (.int (jm_ch i.toNatClampNeg)), H) := by
  unfold jm_cha at h
  split at h
  · rename_i i
    split at h
    · rename_i hc
      cases h
      obtain ⟨h1, h2⟩ := hc
      rw [Int32.le_iff_toInt_le] at h1
      have e0 : (0 : Int32).toInt = 0 := by decide
      have e7 : (7 : Int32).toInt = 7 := by decide
      rw [Int32.toNatClampNeg] at h2
      refine ⟨i, rfl, ?_, ?_, rfl⟩
      · rw [Int32.lt_iff_toInt_lt]
        omega
      · rw [Int32.lt_iff_toInt_lt]
        omega
    · cases h
  · cases h
theorem jm_ex_grow : ∀ d : Nat, jm_Gr (jm_ex xs L d)
  | 0 => fun _ _ _ _ h => by simp [jm_ex] at h
  | d + 1 => fun a as H1 o h => by
    simp only [jm_ex] at h
    split at h
    · split at h
      · obtain ⟨i, -, -, -, rfl⟩ := jm_cha_inv h
        exact ⟨Nat.le_refl _, Nat.le_refl _⟩
      · cases h
    · split at h
      · split at h
        · obtain ⟨n, h⟩ := jm_lim_some h
          exact jm_run_grow (jm_ex_grow d) n _ _ h
        · cases h
      · cases h
set_option maxHeartbeats 8000000 in
/-- a step, whatever the instruction -/
theorem jm_step {d pc : Nat} {e0 : jm_I} {ls : jm_L} {st : List Value} {H : jm_H} {cf : jm_C} {E : jm_E} (C : jm_Cx p s m args meth c dC dI dA base b L xs q) (hF : jm_Fa q pc e0) (ho : jm_on q.2.2.2.2.2 = q.1.cls) (hbbE : b 0 < base) (hE : jm_Sn l dC dI dA base b L xs d E) (hRf : d + 1 ≤ R.frames ∧ 41 * (d + 1) ≤ R.locals) (hn0 : s.heap.size = base + n0)
    (hroom : cf.2.2.2.1.length ≤ n0 + R.cells ∧ jm_sl cf.2.2.2 ≤ s0 + R.slots) (hs : jm_stp xs L E e0 pc ls st H = some (.inl cf)) (G' : jm_G p l e R s m args below meth c Q dC dI dA base b q n0 s0 cf) : jm_G p l e R s m args below meth c Q dC dI dA base b q n0 s0 (pc, ls, st, H) := by
  obtain ⟨ins, npc, a0, b0, z0⟩ := e0
  cases hX : jm_big ins with
  | false => exact jm_stepA (d := 0) (mi := 0) C hF ho hs G' hX
  | true =>
    cases ins
    case iinc k n => exact jm_s_iinc C hF ho hs G'
    case ifCond cc off => exact jm_s_ifc C hF ho hs G'
    case if_icmp cc off => exact jm_s_icmp C hF ho hs G'
    case goto off => exact jm_s_goto C hF ho hs G'
    case tableswitch dd lo hi offs => exact jm_s_tsw C hF ho hs G'
    case lookupswitch dd ps => exact jm_s_lsw C hF ho hs G'
    case getfield ix => exact jm_s_getf C hF ho hs G'
    case putfield ix => exact jm_s_putf C hF ho hn0 hs G'
    case arraylength => exact jm_s_alen C hF ho hs G'
    case iaload => exact jm_s_iald C hF ho hs G'
    case laload => exact jm_s_lald C hF ho hs G'
    case aaload => exact jm_s_aald C hF ho hs G'
    case iastore => exact jm_s_iast C hF ho hn0 hs G'
    case lastore => exact jm_s_last C hF ho hn0 hs G'
    case aastore => exact jm_s_aast C hF ho hn0 hs G'
    case new ix => exact jm_s_newo C hF ho hn0 hroom hs G'
    case newarray tt => exact jm_s_newa C hF ho hn0 hroom hs G'
    case anewarray ix => exact jm_s_anewa C hF ho hn0 hroom hs G'
    case invokevirtual ix => exact jm_s_invv C hF ho hbbE hE hRf hroom hs G'
    case invokespecial ix => exact jm_s_invsp C hF ho hbbE hE hRf hroom hs G'
    case invokestatic ix => exact jm_s_invst C hF ho hbbE hE hRf hroom hn0 hs G'
    all_goals exact Bool.noConfusion (show false = true from hX)
theorem jm_ownn {mi : Nat} (hm : jm_MT[mi]? = some q) : jm_on q.2.2.2.2.2 = q.1.cls := by
  unfold jm_on
  rw [(jm_mfact hm).2.2.2]
/-- a run that ends: from its first configuration -/
theorem jm_runs {d mi : Nat} {E : jm_E} {r : jm_O} (C : jm_Cx p s m args meth c dC dI dA base b L xs q) (hm : jm_MT[mi]? = some q) (hbbE : b 0 < base) (hE : jm_Sn l dC dI dA base b L xs d E) (hG : jm_Gr E) (hRf : d + 1 ≤ R.frames ∧ 41 * (d + 1) ≤ R.locals) (hn0 : s.heap.size = base + n0)
    (hroom : r.2.1.length ≤ n0 + R.cells ∧ jm_sl r.2 ≤ s0 + R.slots)
    (hend : ∀ (e0 : jm_I) (pc : Nat) (ls : jm_L) (st : List Value) (H : jm_H), jm_Fa q pc e0 → jm_stp xs L E e0 pc ls st H = some (.inr r) → jm_G p l e R s m args below meth c Q dC dI dA base b q n0 s0 (pc, ls, st, H)) :
    ∀ (n : Nat) (cf : jm_C), jm_run xs L E mi n cf = some r → jm_G p l e R s m args below meth c Q dC dI dA base b q n0 s0 cf
  | 0, _, h => by simp [jm_run] at h
  | n + 1, (pc, ls, st, H), h => by
    simp only [jm_run] at h
    split at h
    · rename_i e0 ht
      have hF := jm_fact hm ht
      split at h
      · rename_i cf' hs
        have h2 := jm_run_grow hG n cf' r h
        exact jm_step C hF (jm_ownn hm) hbbE hE hRf hn0 ⟨Nat.le_trans h2.1 hroom.1, Nat.le_trans h2.2 hroom.2⟩ hs (jm_runs C hm hbbE hE hG hRf hn0 hroom hend n cf' h)
      · rename_i r' hs
        cases h
        exact hend e0 pc ls st H hF hs
      · cases h
    · cases h
theorem jm_ent_get : ∀ (vs : List Value) (i : Nat) (k : Nat) (w : Value), (vs.flatMap fun v => if v.category = 2 then [some v, none] else [some v])[k]? = some (some w) → (i + k, jm_cv base b w) ∈ lv_args i (vs.map (jm_cv base b))
  | [], _, _, _, h => by simp at h
  | v :: vs, i, k, w, h => by
    have hc : (jm_cv base b v).category = v.category := by cases v <;> rfl
    rw [List.flatMap_cons] at h
    show _ ∈ (i, jm_cv base b v) :: lv_args (if (jm_cv base b v).category = 2 then i + 2 else i + 1) (vs.map (jm_cv base b))
    rw [hc]
    by_cases h2 : v.category = 2
    · rw [if_pos h2] at h ⊢
      match k, h with
      | 0, h =>
        simp at h
        subst h
        exact List.mem_cons_self
      | 1, h => simp at h
      | k + 2, h =>
        have := jm_ent_get vs (i + 2) k w (by simpa using h)
        rw [show i + (k + 2) = i + 2 + k by omega]
        exact List.mem_cons_of_mem _ this
    · rw [if_neg h2] at h ⊢
      match k, h with
      | 0, h =>
        simp at h
        subst h
        exact List.mem_cons_self
      | k + 1, h =>
        have := jm_ent_get vs (i + 1) k w (by simpa using h)
        rw [show i + (k + 1) = i + 1 + k by omega]
        exact List.mem_cons_of_mem _ this
theorem jm_ent_flen : ∀ vs : List Value, (vs.flatMap fun v => if v.category = 2 then [some v, none] else [some v]).length = (lg_sl vs).length
  | [] => rfl
  | v :: vs => by
    rw [List.flatMap_cons, List.length_append, jm_ent_flen vs]
    show _ = (lg_sl (v :: vs)).length
    unfold lg_sl
    rw [List.flatMap_cons, List.length_append]
    congr 1
    split <;> rfl
theorem jm_sl_cv (vs : List Value) : (lg_sl (vs.map (jm_cv base b))).length = (lg_sl vs).length := by
  induction vs with
  | nil => rfl
  | cons v vs ih =>
    unfold lg_sl at ih ⊢
    rw [List.map_cons, List.flatMap_cons, List.flatMap_cons, List.length_append, List.length_append, ih]
    congr 1
    have hc : (jm_cv base b v).category = v.category := by cases v <;> rfl
    rw [hc]
    split <;> rfl
theorem jm_lr_ent {vs : List Value} {n : Nat} (h : (lg_sl vs).length ≤ n) : jm_lr base b (jm_ent vs n) ((lg_sl (vs.map (jm_cv base b)) ++ List.replicate (n - (lg_sl (vs.map (jm_cv base b))).length) Slot.unset).toArray) n := by
  have hh := lv_entry (vs.map (jm_cv base b)) (n := n) (by rw [jm_sl_cv]; exact h)
  refine ⟨hh.1, ?_, hh.2.1, fun k w hk => ?_⟩
  · unfold jm_ent
    rw [List.length_append, jm_ent_flen, List.length_replicate]
    omega
  · unfold jm_ent at hk
    by_cases hl : k < (vs.flatMap fun v => if v.category = 2 then [some v, none] else [some v]).length
    · rw [List.getElem?_append_left hl] at hk
      have := jm_ent_get (base := base) (b := b) vs 0 k w hk
      rw [Nat.zero_add] at this
      exact hh.2.2 _ this
    · rw [List.getElem?_append_right (by omega), List.getElem?_replicate] at hk
      split at hk <;> cases hk
/-- a call of the small machine is a call of the machine -/
theorem jm_sn : ∀ d : Nat, jm_Sn l dC dI dA base b L xs d (jm_ex xs L d)
  | 0 => fun a r as H1 o _ _ h => by simp [jm_ex] at h
  | d + 1 => fun a r as H1 o hm hpl h => by
    have hgr := jm_ex_grow (d + 1) a as H1 o h
    refine ⟨hgr.1, hgr.2, fun hbb => ?_⟩
    by_cases h172 : a = 172
    · subst h172
      simp only [jm_ex, if_true] at h
      split at h
      · rename_i hd4
        obtain ⟨i, rfl, hi0, hi7, rfl⟩ := jm_cha_inv h
        have er : (js_y_cha, prog_15_method_56_code, 2, some FieldType.char, 1, 16) = r := Option.some.inj ((show jm_MT[172]? = some (js_y_cha, prog_15_method_56_code, 2, some FieldType.char, 1, 16) from rfl).symm.trans hm)
        subst er
        have hz : H1.1.length - H1.1.length = 0 ∧ jm_sl H1 - jm_sl H1 = 0 := ⟨Nat.sub_self _, Nat.sub_self _⟩
        show Met l js_y_cha js_w_cha (jm_rm (d + 1) H1 H1) (jm_Pc dC dI dA base b L xs H1 [.retAddr 1, .int i]) (jm_Qc dC dI dA base b (some (.int (jm_ch i.toNatClampNeg))) H1) (H1.1.length - H1.1.length) (jm_sl H1 - jm_sl H1) (jm_A base)
        have hM := js_m_cha l (dC := dC) (dI := dI) (dA := dA) (base := base) (b := b) (L := L) (xs := xs) (H := H1) hi0 hi7 (rm := { frames := d + 1, cells := 0, slots := 0, locals := 41 * (d + 1) }) ⟨by show 3 ≤ d + 1; omega, by show 64 ≤ 41 * (d + 1); omega⟩
        unfold jm_rm
        rw [hz.1, hz.2]
        exact hM
      · cases h
    simp only [jm_ex, if_neg h172, hm] at h
    split at h
    · rename_i hlen
      obtain ⟨n, hrun⟩ := jm_lim_some h
      refine Met.ofW (cc := r.2.1) (maxL := r.2.2.1) (ret := r.2.2.2.1) hpl rfl ?_
      intro p e s m args below meth c s₁ B hml hv
      obtain ⟨rfl, hR, hK, hX, hXw⟩ := hv
      have hx := B.exec
      have hb := B.bytes
      have hr := B.returns
      have hts := atoms_spec (ws := jm_wd r) B.pre
      have hown : s.vm.findClass r.1.cls = some m.cls := findClass_of_methodNamed B.named
      have hlocks := B.notSynchronized
      have hin : meth.name = r.1.name := (name_of_methodNamed B.named B.method).1
      have hsz : s.heap.size = base + H1.1.length := hR.2
      have C : jm_Cx p s m (as.map (jm_cv base b)).toArray meth c dC dI dA base b L xs r := ⟨hx, hb, hml, hown, fun w hw => hts w (List.mem_cons_of_mem _ hw), hXw, hK, hX, hbb, by omega, fun h => hin.trans h⟩
      have hG := jm_runs (l := l) (e := e) (below := below) (R := (headSpec (jm_wd r) (jm_rm (d + 1) H1 o.2)).room) (Q := MQ below (jm_Qc dC dI dA base b o.1 o.2) (as.map (jm_cv base b)).toArray s (o.2.1.length - H1.1.length) (jm_sl o.2 - jm_sl H1) (jm_A base)) (n0 := H1.1.length) (s0 := jm_sl H1) C hm hbb (jm_sn d) (jm_ex_grow d) ⟨Nat.le_refl _, Nat.le_refl _⟩ hsz ⟨by show o.2.1.length ≤ H1.1.length + (o.2.1.length - H1.1.length); omega, by show jm_sl o.2 ≤ jm_sl H1 + (jm_sl o.2 - jm_sl H1); omega⟩ ?_ n _ hrun
      · have hl := jm_lr_ent (base := base) (b := b) hlen
        have := hG s.heap [] _ 0 0 hR va_S.rf hl (by show 0 + H1.1.length = H1.1.length; omega) (by show 0 + jm_sl H1 = jm_sl H1; omega)
        rw [lg_entry_eq]
        exact this
      · intro e0 pc ls st H hF hs Hc locs arr cells slots hR1 hS hl h1 h2
        obtain ⟨hH, hk⟩ := jm_retH hs
        obtain ⟨hd, -, -, hsd⟩ := hF
        have h1' : cells + H1.1.length = H.1.length := h1
        have h2' : slots + jm_sl H1 = jm_sl H := h2
        have ec : o.2.1.length - H1.1.length = cells := by rw [hH]; omega
        have es : jm_sl o.2 - jm_sl H1 = slots := by rw [hH]; omega
        rw [ec, es]
        have hq : ∀ t : State, t.heap = Hc → jm_Qc dC dI dA base b o.1 o.2 (as.map (jm_cv base b)).toArray s (.returned (o.1.map (jm_cv base b))) t := fun t ht => ⟨rfl, by rw [ht, hH]; exact hR1, hS.F ht⟩
        obtain ⟨ins, npc, a0, b0, z0⟩ := e0
        obtain ⟨o1, oH⟩ := o
        rcases hk with ⟨v, rfl, rfl, hv, hbz⟩ | ⟨v, rfl, rfl, hv⟩ | ⟨v, rfl, rfl, hv⟩ | ⟨rfl, rfl, hv⟩
        · dsimp only at hv
          subst hv
          have hsd' : ((a0 == 0 && decide (r.2.2.2.1 = some .int)) || (a0 == 1 && decide (r.2.2.2.1 = some .boolean))) = true := hsd
          simp only [Bool.or_eq_true, Bool.and_eq_true, beq_iff_eq, decide_eq_true_eq] at hsd'
          rcases hsd' with ⟨ha, hrt⟩ | ⟨ha, hrt⟩
          · exact W.iret hx hb (hr.trans hrt) (fun t ht _ => hq t ht) hS.2.2 hd hlocks
          · have hn : narrow .boolean (.int v) = .int v := by rcases hbz ha with h | h <;> subst h <;> rfl
            exact W.zret hx hb (hr.trans hrt) hn (fun t ht _ => hq t ht) hS.2.2 hd hlocks
        · dsimp only at hv
          subst hv
          have hsd' : r.2.2.2.1 = some .long := of_decide_eq_true hsd
          exact W.lret hx hb (hr.trans hsd') (fun t ht _ => hq t ht) hS.2.2 hd hlocks
        · dsimp only at hv
          subst hv
          have hsd' : (match r.2.2.2.1 with | some (.object _) => true | _ => false) = true := hsd
          split at hsd'
          · rename_i nm hrt
            exact W.aret hx hb (hr.trans hrt) (Or.inl ⟨nm, rfl⟩) (Or.inr ⟨_, rfl⟩) (fun t ht _ => hq t ht) hS.2.2 hd hlocks
          · cases hsd'
        · dsimp only at hv
          subst hv
          have hsd' : r.2.2.2.1 = none := of_decide_eq_true hsd
          exact W.vret hx hb (hr.trans hsd') (fun t ht _ => hq t ht) hS.2.2 hd hlocks
    · cases h
end JMZ
end
section
/-! THE CLAIM OUT OF ONE WALK OF THE LAW'S BODY. Your part is whole_start (and what it stands on); all else here is the same for every law, but numbers. -/
def R_law : String := "LeapingPassagesLaw"
def lw_P (b : Addr) (xs : List Int32) (args : Array Value) (s : State) : Prop := args = #[.ref b] ∧ s.IntsAt b xs ∧ xs.length ≤ 260 ∧ (Jvm.Cond.and given_1 narrow_1).before args s = true
def lw_Q (_ : Array Value) (s : State) (o : Outcome) (t : State) : Prop := o = .returned (some (.int 1)) ∧ Framed s o t [] 600000 7302250
def lw_Z (below : List Frame) (a : Array Value) (s : State) : State → Prop := fun t => ∃ o, t.status = .running ∧ Ended t below o ∧ lw_Q a s o t
/-- the law's own end, with 1 on the stack, nothing written that was there before, its room as the claim has it -/
theorem lw_ret {p : Program} {l : Launch} {e : Env} {s : State} {m : MethodId} {below : List Frame} {meth : Method} {c : Code} {b : Nat} (hx : p.tables.exec = Jvm.exec) (hb : c.code = code) (hr : meth.sig.returnType = ret) (hlocks : meth.locks = false) {pc : Nat} {H : Heap} {ls : Array Slot} (hdg : decode code pc = .ok (.ireturn, 1)) : W p l e room_1 s m #[Value.ref b] below meth c H [] 600000 7302250 (lw_Z below #[Value.ref b] s) (F0 m pc ls [.int 1]) := by
  intro T hT X
  obtain ⟨fs, hret, hrun, hended, hW, hframe⟩ := X.leave (v := some (.int 1)) (hlocks := hlocks) (fun h => by rw [hr] at h; cases h)
  have hmeth' : T.vm.method? m = some meth := X.method'
  refine ⟨T.setFrames fs, ?_, .returned (some (.int 1)), hrun, hended, rfl, ⟨_, rfl⟩, hW, hframe⟩
  jvm_step X.here [X.here.top, hx, hb, hdg, hmeth', hr, ret, narrow_b1]
  (try refine ⟨rfl, ?_⟩); (try refine ⟨rfl, ?_⟩)
  first | (intro acts; rw [hret _ acts rfl rfl rfl]) | rw [hret _ _ rfl rfl rfl]
  exact Steps.refl _
/-- what holds at the law's entry: the machine, the code, the tables' words (any of lw_tbl by 'hts w (by decide +kernel)'), the script of L ints xs at the cell b, what the Statement gives of the start (any of its parts by flat_of_before) -/
def lw_At (p : Program) (s : State) (m : MethodId) (meth : Method) (c : Code) (b L : Nat) (xs : Nat → Int32) : Prop :=
  p.tables.exec = Jvm.exec ∧ c.code = code ∧ meth.sig.returnType = ret ∧ c.maxLocals = 9 ∧ s.vm.findClass R_law = some m.cls ∧ (∀ w ∈ lw_tbl, w.before #[Value.ref b] s = true) ∧ va_X b L xs s s.heap ∧ b < s.heap.size ∧ meth.locks = false ∧ (Jvm.Cond.and given_1 narrow_1).before #[Value.ref b] s = true

/-! From the law's entry: the small machine's run of the law gives the machine's. -/
theorem jm_arr_of {args : Array Value} {s : State} {ty : FieldType} (h : (Cond.arrayClass ty).before args s = true) : ∃ cA, ArrOfT s cA ty ∧ s.vm.findClass ("[" ++ ty.toString) = some cA := by
  obtain ⟨c, k, comp, h1, h2, h3⟩ := Cond.arrayClass_spec h
  exact ⟨c, fun n z => ⟨fun k h => (by cases h), k, h2, comp, h3⟩, h1⟩
theorem jm_arr_ov {args : Array Value} {s : State} {C : String} (h : (Cond.arrayOver (.object C)).before args s = true) : ∃ cA, ArrOfT s cA (.object C) ∧ va_RA s cA (.object C) := by
  obtain ⟨comp, c, k, h1, -, h3, h4, h5⟩ := Cond.arrayOver_spec h
  exact ⟨c, fun n z => ⟨fun k h => (by cases h), k, h3, comp, h4⟩, k, comp, h3, h4, h1, h5⟩
theorem jm_arr_oa {args : Array Value} {s : State} {ty : FieldType} (h : (Cond.arrayOver (.array ty)).before args s = true) : ∃ cA, ArrOfT s cA (.array ty) ∧ s.vm.findClass ("[" ++ (FieldType.array ty).toString) = some cA := by
  obtain ⟨comp, c, k, h1, -, h3, h4, h5⟩ := arrayOver_specB h
  exact ⟨c, fun n z => ⟨fun k h => (by cases h), k, h3, comp, h4⟩, h5⟩
theorem jm_ins {ci : Nat} (h : ci < 10) : Cond.instantiable (jm_R ci) (jm_N ci) ∈ lw_tbl := by
  rcases (show ci = 0 ∨ ci = 1 ∨ ci = 2 ∨ ci = 3 ∨ ci = 4 ∨ ci = 5 ∨ ci = 6 ∨ ci = 7 ∨ ci = 8 ∨ ci = 9 by omega) with h | h | h | h | h | h | h | h | h | h <;> subst h <;> decide +kernel
def jm_H0 : jm_H := ([], fun _ _ => 0, fun _ _ => 0)
theorem jm_start {p : Program} {e : Env} {s : State} {m : MethodId} {below : List Frame} {meth : Method} {c : Code} (l : Launch) {b L : Nat} {xs : Nat → Int32} (C0 : lw_At p s m meth c b L xs) {d n : Nat} {H' : jm_H} (hd : d ≤ 9)
    (hrun : jm_run xs L (jm_ex xs L d) 173 n (0, [some (.retAddr 0), none, none, none, none, none, none, none, none], [], jm_H0) = some (some (.int 1), H')) (hc : H'.1.length ≤ 600000) (hsl : jm_sl H' ≤ 7302250) :
    W p l e room_1 s m #[Value.ref b] below meth c s.heap [] 0 0 (lw_Z below #[Value.ref b] s) (entryFrame m ([Value.ref b] : List Value).toArray 9) := by
  obtain ⟨hx, hb, hr, hml, hown, hts, hX, hbl, hlocks, hgv⟩ := C0
  have hcls : ∀ ci, ∃ (cC : ClassId) (iS : Nat → Nat), ci < 10 → u_Kn s (jm_R ci) (jm_T ci) (jm_N ci) cC iS := fun ci => by
    by_cases h : ci < 10
    · obtain ⟨cC, iS, hk⟩ := u_known (C := jm_R ci) (T := jm_T ci) (N := jm_N ci) (n := jm_N ci) hts (fun w hw => (List.mem_filter.mp (jm_lay h w hw)).1) (hts _ (jm_ins h))
      exact ⟨cC, iS, fun _ => hk⟩
    · exact ⟨0, fun _ => 0, fun h' => absurd h' h⟩
  obtain ⟨dC, dI, hK1⟩ : ∃ (dC : Nat → ClassId) (dI : Nat → Nat → Nat), ∀ ci, ci < 10 → u_Kn s (jm_R ci) (jm_T ci) (jm_N ci) (dC ci) (dI ci) :=
    ⟨fun ci => Classical.choose (hcls ci), fun ci => Classical.choose (Classical.choose_spec (hcls ci)), fun ci h => Classical.choose_spec (Classical.choose_spec (hcls ci)) h⟩
  obtain ⟨a0, p0, q0⟩ := jm_arr_of (hts (.arrayClass .int) (List.mem_filter.mp jm_acint).1)
  obtain ⟨a1, p1, q1⟩ := jm_arr_of (hts (.arrayClass .long) (List.mem_filter.mp jm_aclong).1)
  obtain ⟨a2, p2, q2⟩ := jm_arr_ov (hts (.arrayOver (.object "LeapingPassages$Shelf")) (by decide +kernel))
  obtain ⟨a3, p3, q3⟩ := jm_arr_ov (hts (.arrayOver (.object "LeapingPassages$Ask")) (by decide +kernel))
  obtain ⟨a4, p4, q4⟩ := jm_arr_ov (hts (.arrayOver (.object "LeapingPassages$Spans")) (by decide +kernel))
  have hK : va_K (dC, dI) jm_cl (jm_tys (fun k => match k with | 0 => a0 | 1 => a1 | 2 => a2 | 3 => a3 | _ => a4)) s := by
    refine ⟨fun ci q hq => ?_, fun k q hq => ?_⟩
    · have h : ci < 10 := (List.getElem?_eq_some_iff.mp hq).1
      rw [jm_clg h] at hq
      cases hq
      exact hK1 ci h
    · have h : k < 5 := (List.getElem?_eq_some_iff.mp hq).1
      rcases (show k = 0 ∨ k = 1 ∨ k = 2 ∨ k = 3 ∨ k = 4 by omega) with h | h | h | h | h <;> subst h <;> cases hq
      · exact ⟨p0, q0⟩
      · exact ⟨p1, q1⟩
      · exact ⟨p2, q2⟩
      · exact ⟨p3, q3⟩
      · exact ⟨p4, q4⟩
  have hs := flat_of_before _ hgv
  have hAA : ∀ a : Nat, a < s.heap.size → ¬ jm_A s.heap.size a := fun a h h2 => absurd h (Nat.not_lt.mpr h2)
  obtain ⟨kS, hSt⟩ : ∃ kS : Nat, jm_St s.heap.size kS s s.heap := by
    obtain ⟨adK, adV, hv, he⟩ := vk_Sof (args := #[Value.ref b]) (s := s) (N := 1) (tm := fun _ => .string "LeapingPassagesLaw" 53) (len := [7]) (byt := [jm_bt]) (A := jm_A s.heap.size)
      (fun i hi => by obtain rfl : i = 0 := by omega
                      decide)
      (fun i hi => hs _ (by decide +kernel)) (fun i hi => hs _ (by decide +kernel)) (fun i hi => hs _ (by decide +kernel))
      (fun i hi => by obtain rfl : i = 0 := by omega
                      exact hs _ (by decide +kernel))
      (fun i hi j hj => by
        obtain rfl : i = 0 := by omega
        have hj7 : j < 7 := hj
        rcases (show j = 0 ∨ j = 1 ∨ j = 2 ∨ j = 3 ∨ j = 4 ∨ j = 5 ∨ j = 6 by omega) with h | h | h | h | h | h | h <;> subst h <;> exact hs _ (by decide +kernel))
      (fun i j hi hj hne => absurd (show i = j by omega) hne) hAA
    have h0 : ∀ i : Nat, i < 1 → i = 0 := fun i h => by omega
    refine ⟨adK 0, vk_R.of (hts (.stringRef "LeapingPassagesLaw" 53 "|&<@!#-") (by decide +kernel)) (he 0 (by omega)), ⟨adV 0, ⟨fun i hi => ?_, fun i j hi hj _ => by omega⟩⟩, va_Zof (hts _ (by decide +kernel)) (hts _ (by decide +kernel)) (va_eqi (hs _ (by decide +kernel))) hAA, va_Zqof (hts _ (by decide +kernel)) (hts _ (by decide +kernel)) (hs _ (by decide +kernel)) hAA⟩
    obtain rfl := h0 i hi
    exact hv.1 0 (by omega)
  have hXw : jm_X s := by
    intro w hw hxw
    have h := hts w hw
    unfold jm_xw at hxw
    split at hxw
    · exact va_Nw.of rfl h
    · exact h
    · exact h
    · cases hxw
  have hm : jm_MT[173]? = some (x, code, maxLocals, ret, 1, 10) := by rfl
  have C : jm_Cx p s m #[Value.ref b] meth c dC dI (fun k => match k with | 0 => a0 | 1 => a1 | 2 => a2 | 3 => a3 | _ => a4) s.heap.size (fun n => if n = 0 then b else kS) L xs (x, code, maxLocals, ret, 1, 10) := ⟨hx, hb, hml, hown, fun w hw => hts w (List.mem_filter.mp hw).1, hXw, hK, ⟨hX, hSt⟩, hbl, Nat.le_refl _, fun h => absurd h (by decide)⟩
  have hG := jm_runs (l := l) (e := e) (below := below) (R := room_1) (Q := lw_Z below #[Value.ref b] s) (n0 := 0) (s0 := 0) C hm hbl (jm_sn d) (jm_ex_grow d) ⟨by show d + 1 ≤ 11; omega, by show 41 * (d + 1) ≤ 418; omega⟩ rfl ⟨by show H'.1.length ≤ 0 + 600000; omega, by show jm_sl H' ≤ 0 + 7302250; omega⟩ ?_ n _ hrun
  · have hl := jm_lr_ent (base := s.heap.size) (b := fun n => if n = 0 then b else kS) (vs := [.retAddr 0]) (n := 9) (by decide)
    have := hG s.heap [] _ 0 0 ⟨fun k q h => by simp [jm_ws, jm_H0] at h, rfl⟩ va_S.rf hl rfl rfl
    rw [lg_entry_eq]
    exact this
  · intro e0 pc ls st H hF hs Hc locs arr cells slots hR1 hS hl h1 h2
    obtain ⟨hH, hk⟩ := jm_retH hs
    obtain ⟨hdd, -, -, hsd⟩ := hF
    have h1' : cells + 0 = H.1.length := h1
    have h2' : slots + 0 = jm_sl H := h2
    have hH' : H' = H := hH
    subst hH'
    refine W.widen (k := 600000) (n := 7302250) (by omega) (by omega) ?_
    refine va_forget hS.2.2 ?_
    obtain ⟨ins, npc, a9, b9, z9⟩ := e0
    rcases hk with ⟨v, rfl, rfl, hv, -⟩ | ⟨v, rfl, rfl, hv⟩ | ⟨v, rfl, rfl, hv⟩ | ⟨rfl, rfl, hv⟩
    · cases hv
      exact lw_ret hx hb hr hlocks hdd
    · cases hv
    · cases hv
    · cases hv
end
section
/-! The small machine by computation: calls with fuel. -/
def jm_le (E E' : jm_E) : Prop := ∀ (a : Nat) (as : List Value) (H : jm_H) (o : jm_O), E a as H = some o → E' a as H = some o
section JMM
variable {xs xs' : Nat → Int32} {L : Nat} {E E' : jm_E}
set_option maxHeartbeats 8000000 in
theorem jm_stp_le (hE : jm_le E E') {e0 : jm_I} {pc : Nat} {ls : jm_L} {st : List Value} {H : jm_H} {r : jm_C ⊕ jm_O} (hs : jm_stp xs 4294967296 E e0 pc ls st H = some r) : jm_stp xs' L E' e0 pc ls st H = some r := by
  have keyC : ∀ {pc' : Nat} {r' : List Value} {a : Nat} {as : List Value}, jm_call pc' ls r' (E a as H) = some r → jm_call pc' ls r' (E' a as H) = some r := fun {pc' r' a as} h => by
    unfold jm_call at h ⊢
    cases hq : E a as H with
    | none => rw [hq] at h; cases h
    | some o =>
      rw [hE _ _ _ _ hq]
      rw [hq] at h
      exact h
  obtain ⟨ins, npc, a0, b0, z0⟩ := e0
  cases ins
  case invokevirtual ix =>
    simp only [jm_stp] at hs ⊢
    split at hs
    · split at hs
      · rename_i h
        rw [if_pos h]
        exact keyC hs
      · cases hs
    · split at hs
      · rename_i h
        rw [if_pos h]
        exact keyC hs
      · cases hs
    · cases hs
  case invokespecial ix =>
    simp only [jm_stp] at hs ⊢
    split at hs
    · split at hs
      · rename_i h
        rw [if_pos h]
        split at hs
        · rename_i h2
          rw [if_pos h2]
          exact hs
        · rename_i h2
          rw [if_neg h2]
          exact keyC hs
      · cases hs
    · cases hs
  case invokestatic ix =>
    simp only [jm_stp] at hs ⊢
    split at hs
    · rename_i h
      rw [if_pos h]
      exact hs
    · rename_i h
      rw [if_neg h]
      split at hs
      · rename_i h1
        rw [if_pos h1]
        exact hs
      · rename_i h1
        rw [if_neg h1]
        split at hs
        · rename_i h2
          rw [if_pos h2]
          exact hs
        · rename_i h2
          rw [if_neg h2]
          split at hs
          · rename_i h3
            rw [if_pos h3]
            exact keyC hs
          · cases hs
  case arraylength =>
    simp only [jm_stp] at hs ⊢
    split at hs
    · exact hs
    · rw [if_neg (by omega)] at hs
      cases hs
    · cases hs
  case iaload =>
    simp only [jm_stp] at hs ⊢
    split at hs
    · exact hs
    · rw [if_neg (by omega)] at hs
      cases hs
    · cases hs
  all_goals exact hs
theorem jm_run_mono (hE : jm_le E E') {mi : Nat} : ∀ (n : Nat) (cf : jm_C) (r : jm_O), jm_run xs 4294967296 E mi n cf = some r → jm_run xs' L E' mi n cf = some r
  | 0, _, _, h => by simp [jm_run] at h
  | n + 1, (pc, ls, st, H), r, h => by
    simp only [jm_run] at h ⊢
    split at h
    · split at h
      · rename_i cf' hs
        rw [jm_stp_le (xs' := xs') (L := L) hE hs]
        exact jm_run_mono hE n cf' r h
      · rename_i r' hs
        rw [jm_stp_le (xs' := xs') (L := L) hE hs]
        exact h
      · cases h
    · cases h
/-- calls with fuel n at every depth, without a script -/
noncomputable def jm_exC (n : Nat) : Nat → jm_E
  | 0 => fun _ _ _ => none
  | d + 1 => fun mi args H => if mi = 172 then none else match jm_MT[mi]? with
    | some q => if (lg_sl args).length ≤ q.2.2.1 then jm_run (fun _ => 0) 4294967296 (jm_exC n d) mi n (0, jm_ent args q.2.2.1, [], H) else none
    | none => none
theorem jm_exC_le (n : Nat) : ∀ d : Nat, jm_le (jm_exC n d) (jm_ex xs' L d)
  | 0 => fun _ _ _ _ h => by simp [jm_exC] at h
  | d + 1 => fun mi args H o h => by
    simp only [jm_exC] at h
    split at h
    · cases h
    · rename_i hne
      simp only [jm_ex, if_neg hne]
      split at h
      · split at h
        · rename_i q0 hq0 hl
          simp only [hq0, if_pos hl]
          have h1 := jm_run_mono (xs' := xs') (L := L) (jm_exC_le n d) n _ _ h
          exact jm_lim_of h1 (fun k r' h' => jm_run_det h' h1)
        · cases h
      · cases h
set_option maxHeartbeats 8000000 in
theorem jm_stp_leS (hE : jm_le E E') {e0 : jm_I} {pc : Nat} {ls : jm_L} {st : List Value} {H : jm_H} {r : jm_C ⊕ jm_O} (hs : jm_stp xs L E e0 pc ls st H = some r) : jm_stp xs L E' e0 pc ls st H = some r := by
  have keyC : ∀ {pc' : Nat} {r' : List Value} {a : Nat} {as : List Value}, jm_call pc' ls r' (E a as H) = some r → jm_call pc' ls r' (E' a as H) = some r := fun {pc' r' a as} h => by
    unfold jm_call at h ⊢
    cases hq : E a as H with
    | none => rw [hq] at h; cases h
    | some o =>
      rw [hE _ _ _ _ hq]
      rw [hq] at h
      exact h
  obtain ⟨ins, npc, a0, b0, z0⟩ := e0
  cases ins
  case invokevirtual ix =>
    simp only [jm_stp] at hs ⊢
    split at hs
    · split at hs
      · rename_i h
        rw [if_pos h]
        exact keyC hs
      · cases hs
    · split at hs
      · rename_i h
        rw [if_pos h]
        exact keyC hs
      · cases hs
    · cases hs
  case invokespecial ix =>
    simp only [jm_stp] at hs ⊢
    split at hs
    · split at hs
      · rename_i h
        rw [if_pos h]
        split at hs
        · rename_i h2
          rw [if_pos h2]
          exact hs
        · rename_i h2
          rw [if_neg h2]
          exact keyC hs
      · cases hs
    · cases hs
  case invokestatic ix =>
    simp only [jm_stp] at hs ⊢
    split at hs
    · rename_i h
      rw [if_pos h]
      exact hs
    · rename_i h
      rw [if_neg h]
      split at hs
      · rename_i h1
        rw [if_pos h1]
        exact hs
      · rename_i h1
        rw [if_neg h1]
        split at hs
        · rename_i h2
          rw [if_pos h2]
          exact hs
        · rename_i h2
          rw [if_neg h2]
          split at hs
          · rename_i h3
            rw [if_pos h3]
            exact keyC hs
          · cases hs
  all_goals exact hs
theorem jm_run_monoS (hE : jm_le E E') {mi : Nat} : ∀ (n : Nat) (cf : jm_C) (r : jm_O), jm_run xs L E mi n cf = some r → jm_run xs L E' mi n cf = some r
  | 0, _, _, h => by simp [jm_run] at h
  | n + 1, (pc, ls, st, H), r, h => by
    simp only [jm_run] at h ⊢
    split at h
    · split at h
      · rename_i cf' hs
        rw [jm_stp_leS hE hs]
        exact jm_run_monoS hE n cf' r h
      · rename_i r' hs
        rw [jm_stp_leS hE hs]
        exact h
      · cases h
    · cases h
theorem jm_ex_mono : ∀ d : Nat, jm_le (jm_ex xs L d) (jm_ex xs L (d + 1))
  | 0 => fun _ _ _ _ h => by simp [jm_ex] at h
  | d + 1 => fun mi args H o h => by
    rw [jm_ex] at h ⊢
    dsimp only at h ⊢
    by_cases hne : mi = 172
    · rw [if_pos hne] at h ⊢
      split at h
      · rw [if_pos (by omega)]
        exact h
      · cases h
    · rw [if_neg hne] at h ⊢
      split at h
      · split at h
        · rename_i q0 hq0 hl
          simp only [hq0, if_pos hl]
          obtain ⟨n, h⟩ := jm_lim_some h
          have h1 := jm_run_monoS (jm_ex_mono d) n _ _ h
          exact jm_lim_of h1 (fun k r' h' => jm_run_det h' h1)
        · cases h
      · cases h
theorem jm_ex_le {d d' : Nat} (h : d ≤ d') : jm_le (jm_ex xs L d) (jm_ex xs L d') := by
  obtain ⟨k, rfl⟩ := Nat.exists_eq_add_of_le h
  induction k with
  | zero => exact fun _ _ _ _ h => h
  | succ k ih => exact fun a as H o h => jm_ex_mono (d + k) _ _ _ _ (ih (Nat.le_add_right _ _) _ _ _ _ h)
end JMM
end
section
/-! What the constructor makes: 167 cells. -/
def jm_lay0 : List (Nat × Nat × List (Option Nat)) := [(19, 12, [some 1, some 5, some 9, some 35, some 61, some 140, some 143, some 144, some 146, some 149, some 150]),
  (18, 5, [some 2, some 3, some 4]),
  (1, 60, []),
  (1, 60, []),
  (1, 16, []),
  (18, 5, [some 6, some 7, some 8]),
  (1, 60, []),
  (1, 60, []),
  (1, 16, []),
  (12, 2, [some 10]),
  (4, 24, [some 11, some 12, some 13, some 14, some 15, some 16, some 17, some 18, some 19, some 20, some 21, some 22, some 23, some 24, some 25, some 26, some 27, some 28, some 29, some 30, some 31, some 32, some 33, some 34]),
  (10, 11, []),
  (10, 11, []),
  (10, 11, []),
  (10, 11, []),
  (10, 11, []),
  (10, 11, []),
  (10, 11, []),
  (10, 11, []),
  (10, 11, []),
  (10, 11, []),
  (10, 11, []),
  (10, 11, []),
  (10, 11, []),
  (10, 11, []),
  (10, 11, []),
  (10, 11, []),
  (10, 11, []),
  (10, 11, []),
  (10, 11, []),
  (10, 11, []),
  (10, 11, []),
  (10, 11, []),
  (10, 11, []),
  (10, 11, []),
  (12, 2, [some 36]),
  (4, 24, [some 37, some 38, some 39, some 40, some 41, some 42, some 43, some 44, some 45, some 46, some 47, some 48, some 49, some 50, some 51, some 52, some 53, some 54, some 55, some 56, some 57, some 58, some 59, some 60]),
  (10, 11, []),
  (10, 11, []),
  (10, 11, []),
  (10, 11, []),
  (10, 11, []),
  (10, 11, []),
  (10, 11, []),
  (10, 11, []),
  (10, 11, []),
  (10, 11, []),
  (10, 11, []),
  (10, 11, []),
  (10, 11, []),
  (10, 11, []),
  (10, 11, []),
  (10, 11, []),
  (10, 11, []),
  (10, 11, []),
  (10, 11, []),
  (10, 11, []),
  (10, 11, []),
  (10, 11, []),
  (10, 11, []),
  (10, 11, []),
  (14, 7, [some 1, some 9, some 62, some 63, some 66]),
  (5, 24, [some 68, some 71, some 74, some 77, some 80, some 83, some 86, some 89, some 92, some 95, some 98, some 101, some 104, some 107, some 110, some 113, some 116, some 119, some 122, some 125, some 128, some 131, some 134, some 137]),
  (16, 3, [some 64, some 65]),
  (1, 60, []),
  (1, 60, []),
  (13, 1, [some 67]),
  (1, 60, []),
  (16, 3, [some 69, some 70]),
  (1, 60, []),
  (1, 60, []),
  (16, 3, [some 72, some 73]),
  (1, 60, []),
  (1, 60, []),
  (16, 3, [some 75, some 76]),
  (1, 60, []),
  (1, 60, []),
  (16, 3, [some 78, some 79]),
  (1, 60, []),
  (1, 60, []),
  (16, 3, [some 81, some 82]),
  (1, 60, []),
  (1, 60, []),
  (16, 3, [some 84, some 85]),
  (1, 60, []),
  (1, 60, []),
  (16, 3, [some 87, some 88]),
  (1, 60, []),
  (1, 60, []),
  (16, 3, [some 90, some 91]),
  (1, 60, []),
  (1, 60, []),
  (16, 3, [some 93, some 94]),
  (1, 60, []),
  (1, 60, []),
  (16, 3, [some 96, some 97]),
  (1, 60, []),
  (1, 60, []),
  (16, 3, [some 99, some 100]),
  (1, 60, []),
  (1, 60, []),
  (16, 3, [some 102, some 103]),
  (1, 60, []),
  (1, 60, []),
  (16, 3, [some 105, some 106]),
  (1, 60, []),
  (1, 60, []),
  (16, 3, [some 108, some 109]),
  (1, 60, []),
  (1, 60, []),
  (16, 3, [some 111, some 112]),
  (1, 60, []),
  (1, 60, []),
  (16, 3, [some 114, some 115]),
  (1, 60, []),
  (1, 60, []),
  (16, 3, [some 117, some 118]),
  (1, 60, []),
  (1, 60, []),
  (16, 3, [some 120, some 121]),
  (1, 60, []),
  (1, 60, []),
  (16, 3, [some 123, some 124]),
  (1, 60, []),
  (1, 60, []),
  (16, 3, [some 126, some 127]),
  (1, 60, []),
  (1, 60, []),
  (16, 3, [some 129, some 130]),
  (1, 60, []),
  (1, 60, []),
  (16, 3, [some 132, some 133]),
  (1, 60, []),
  (1, 60, []),
  (16, 3, [some 135, some 136]),
  (1, 60, []),
  (1, 60, []),
  (16, 3, [some 138, some 139]),
  (1, 60, []),
  (1, 60, []),
  (16, 3, [some 141, some 142]),
  (1, 60, []),
  (1, 60, []),
  (1, 60, []),
  (17, 2, [some 145]),
  (1, 250, []),
  (11, 10, [some 144, some 9, some 147, some 148]),
  (1, 250, []),
  (1, 250, []),
  (3, 8, [some 151, some 153, some 155, some 157, some 159, some 161, some 163, some 165]),
  (1, 5, []),
  (15, 3, [some 152]),
  (2, 40, []),
  (15, 3, [some 154]),
  (2, 40, []),
  (15, 3, [some 156]),
  (2, 40, []),
  (15, 3, [some 158]),
  (2, 40, []),
  (15, 3, [some 160]),
  (2, 40, []),
  (15, 3, [some 162]),
  (2, 40, []),
  (15, 3, [some 164]),
  (2, 40, []),
  (15, 3, [some 166]),
  (2, 40, [])]
noncomputable def jm_Ha : jm_H := jm_new jm_H0 (19, 12, fun _ => none)
/-- what holds of the heap behind the constructors -/
noncomputable def jm_okc (H : jm_H) (a : Nat) : Bool := match jm_lay0[a]? with
  | some q => jm_kd H a == q.1 && jm_ln H a == q.2.1 && (q.2.2.zipIdx.all fun r => jm_rf H a r.2 == r.1)
  | none => true
noncomputable def jm_oks (i n : Nat) (H : jm_H) : Bool := (List.range n).all fun j => jm_okc H (i + j)
noncomputable def jm_okz (H : jm_H) : Bool := ([(4, 16), (150, 5)] : List (Nat × Nat)).all fun q => (List.range q.2).all fun k => H.2.1 q.1 k == 0
noncomputable def jm_oki (H : jm_H) : Bool := ([(0, 11, 0), (1, 3, 0), (9, 1, 0), (61, 5, 0), (144, 1, 0), (1, 4, 1), (5, 4, 1), (61, 6, (-1)), (151, 2, (-1)), (153, 2, (-1)), (155, 2, (-1)), (157, 2, (-1)), (159, 2, (-1)), (161, 2, (-1)), (163, 2, (-1)), (165, 2, (-1))] : List (Nat × Nat × Int)).all fun q => H.2.1 q.1 q.2.1 == Int32.ofInt q.2.2
noncomputable def jm_okr (o : Option jm_O) (f : jm_H → Bool) : Bool := match o with
  | some (none, H) => f H
  | _ => false
theorem jm_okr_some {o : Option jm_O} {f : jm_H → Bool} (h : jm_okr o f = true) : ∃ H, o = some (none, H) ∧ f H = true := by
  unfold jm_okr at h
  split at h
  · exact ⟨_, rfl, h⟩
  · cases h
noncomputable def jm_i0 (f : jm_H → Bool) : Bool := jm_okr (jm_exC 2000 6 0 [.ref 0] jm_Ha) f
set_option maxRecDepth 100000 in
theorem jm_i0a : jm_i0 (jm_oks 0 70) = true := by decide +kernel
set_option maxRecDepth 100000 in
theorem jm_i0b : jm_i0 (jm_oks 70 70) = true := by decide +kernel
set_option maxRecDepth 100000 in
theorem jm_i0c : jm_i0 (jm_oks 140 70) = true := by decide +kernel
set_option maxRecDepth 100000 in
theorem jm_i0d : jm_i0 jm_okz = true := by decide +kernel
set_option maxRecDepth 100000 in
theorem jm_i0e : jm_i0 jm_oki = true := by decide +kernel
set_option maxRecDepth 100000 in
theorem jm_i0f : jm_i0 (fun H => H.1.length == 167 && decide (jm_sl H ≤ 100000)) = true := by decide +kernel
theorem jm_i2 : ∃ q : jm_H, jm_exC 2000 6 0 [.ref 0] jm_Ha = some (none, q) ∧ ∀ f, jm_i0 f = true → f q = true := by
  obtain ⟨Hb, h1, -⟩ := jm_okr_some jm_i0f
  refine ⟨Hb, h1, fun f hf => ?_⟩
  obtain ⟨Hb', h1', h2'⟩ := jm_okr_some hf
  have e1 : Hb = Hb' := (Prod.mk.inj (Option.some.inj (h1.symm.trans h1'))).2
  subst e1
  exact h2'
noncomputable def jm_Hd : jm_H := Classical.choose jm_i2
noncomputable def jm_S0 : List jm_S := jm_Hd.1
theorem jm_i1 : jm_exC 2000 6 0 [.ref 0] jm_Ha = some (none, jm_Hd) := (Classical.choose_spec jm_i2).1
theorem jm_i3 {f : jm_H → Bool} (h : jm_i0 f = true) : f jm_Hd = true := (Classical.choose_spec jm_i2).2 f h
theorem jm_i4 (a : Nat) : jm_okc jm_Hd a = true := by
  have key : ∀ i n, jm_oks i n jm_Hd = true → i ≤ a → a < i + n → jm_okc jm_Hd a = true := fun i n h h1 h2 => by
    have h3 := List.all_eq_true.mp h (a - i) (List.mem_range.mpr (by omega))
    rwa [show i + (a - i) = a by omega] at h3
  by_cases h1 : a < 70
  · exact key 0 70 (jm_i3 jm_i0a) (by omega) (by omega)
  · by_cases h2 : a < 140
    · exact key 70 70 (jm_i3 jm_i0b) (by omega) (by omega)
    · by_cases h3 : a < 210
      · exact key 140 70 (jm_i3 jm_i0c) (by omega) (by omega)
      · unfold jm_okc
        rw [List.getElem?_eq_none (by have : jm_lay0.length = 167 := by decide +kernel
                                      omega)]
theorem jm_law0 {xs : Nat → Int32} {L d : Nat} {P : Option Value → jm_H → Prop} (hd : 6 ≤ d) (h : jm_W xs L d 173 8 [some (.retAddr 0), some (.ref 0), none, none, none, none, none, none, none] [] jm_Hd P) : jm_W xs L d 173 0 [some (.retAddr 0), none, none, none, none, none, none, none, none] [] jm_H0 P := by
  have k1 := jm_ex_le (xs := xs) (L := L) hd _ _ _ _ (jm_exC_le (xs' := xs) (L := L) 2000 6 _ _ _ _ jm_i1)
  rw [jm_W.next (e := (.new 15, 3, 9, 12, 0)) (pc' := 3) (ls' := [some (.retAddr 0), none, none, none, none, none, none, none, none]) (st' := [.ref 0]) (H' := jm_Ha) rfl rfl]
  rw [jm_W.next (e := (.dup, 4, 0, 0, 0)) (pc' := 4) (ls' := [some (.retAddr 0), none, none, none, none, none, none, none, none]) (st' := [.ref 0, .ref 0]) (H' := jm_Ha) rfl rfl]
  rw [jm_W.call (e := (.invokespecial 117, 7, 0, 3, 0)) (pc' := 7) (a := 0) (ls' := [some (.retAddr 0), none, none, none, none, none, none, none, none]) (st' := [.ref 0]) (as := [.ref 0]) rfl rfl]
  refine ⟨_, k1, ?_⟩
  show jm_W xs L d 173 7 [some (.retAddr 0), none, none, none, none, none, none, none, none] [.ref 0] jm_Hd P
  rw [jm_W.next (e := (.astore_n 1, 8, 0, 0, 0)) (pc' := 8) (ls' := [some (.retAddr 0), some (.ref 0), none, none, none, none, none, none, none]) (st' := []) (H' := jm_Hd) rfl rfl]
  exact h
end
