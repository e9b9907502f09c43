section
-- ===== PART A: goes FIRST, ahead of the names: the tables' words, and 'selects' of the private methods out of them =====
/-- a private method of a class that the tables say can be made, by its rows of tables_1 -/
def lw_okq (q : MethodName × Nat) : Prop := (q.1.cls ≠ "java/lang/invoke/MethodHandle" ∧ q.1.cls ≠ "java/lang/invoke/VarHandle") ∧ Cond.instantiable q.1.cls q.2 ∈ tables_1 ∧ Cond.privateMethod q.1 ∈ tables_1 ∧ Cond.instanceMethod q.1 ∈ tables_1
theorem lw_p0 : lw_okq (⟨"SnowCitizens", "rowOf", "(I)LSnowCitizens$Row;"⟩, 17) := ⟨⟨by decide +kernel, by decide +kernel⟩, List.mem_of_getElem? (i := 11) (by decide +kernel), List.mem_of_getElem? (i := 250) (by decide +kernel), List.mem_of_getElem? (i := 251) (by decide +kernel)⟩
theorem lw_p1 : lw_okq (⟨"SnowCitizens", "found", "(I)I"⟩, 17) := ⟨⟨by decide +kernel, by decide +kernel⟩, List.mem_of_getElem? (i := 11) (by decide +kernel), List.mem_of_getElem? (i := 254) (by decide +kernel), List.mem_of_getElem? (i := 255) (by decide +kernel)⟩
theorem lw_p2 : lw_okq (⟨"SnowCitizens", "tell", "(I)I"⟩, 17) := ⟨⟨by decide +kernel, by decide +kernel⟩, List.mem_of_getElem? (i := 11) (by decide +kernel), List.mem_of_getElem? (i := 264) (by decide +kernel), List.mem_of_getElem? (i := 265) (by decide +kernel)⟩
theorem lw_p3 : lw_okq (⟨"SnowCitizens$North", "voteNow", "(I)I"⟩, 14) := ⟨⟨by decide +kernel, by decide +kernel⟩, List.mem_of_getElem? (i := 23) (by decide +kernel), List.mem_of_getElem? (i := 292) (by decide +kernel), List.mem_of_getElem? (i := 293) (by decide +kernel)⟩
theorem lw_p4 : lw_okq (⟨"SnowCitizens$North", "votesOne", "(III)Z"⟩, 14) := ⟨⟨by decide +kernel, by decide +kernel⟩, List.mem_of_getElem? (i := 23) (by decide +kernel), List.mem_of_getElem? (i := 300) (by decide +kernel), List.mem_of_getElem? (i := 301) (by decide +kernel)⟩
theorem lw_p5 : lw_okq (⟨"SnowCitizens$North", "perform", "(III)V"⟩, 14) := ⟨⟨by decide +kernel, by decide +kernel⟩, List.mem_of_getElem? (i := 23) (by decide +kernel), List.mem_of_getElem? (i := 313) (by decide +kernel), List.mem_of_getElem? (i := 314) (by decide +kernel)⟩
theorem lw_p6 : lw_okq (⟨"SnowCitizens$North", "meltAll", "()V"⟩, 14) := ⟨⟨by decide +kernel, by decide +kernel⟩, List.mem_of_getElem? (i := 23) (by decide +kernel), List.mem_of_getElem? (i := 320) (by decide +kernel), List.mem_of_getElem? (i := 321) (by decide +kernel)⟩
theorem lw_p7 : lw_okq (⟨"SnowCitizens$North", "melting", "(III)I"⟩, 14) := ⟨⟨by decide +kernel, by decide +kernel⟩, List.mem_of_getElem? (i := 23) (by decide +kernel), List.mem_of_getElem? (i := 328) (by decide +kernel), List.mem_of_getElem? (i := 329) (by decide +kernel)⟩
theorem lw_p8 : lw_okq (⟨"SnowCitizens$North", "restart", "()V"⟩, 14) := ⟨⟨by decide +kernel, by decide +kernel⟩, List.mem_of_getElem? (i := 23) (by decide +kernel), List.mem_of_getElem? (i := 361) (by decide +kernel), List.mem_of_getElem? (i := 362) (by decide +kernel)⟩
theorem lw_p9 : lw_okq (⟨"SnowCitizens", "keptOf", "(I)LSnowCitizens$North;"⟩, 17) := ⟨⟨by decide +kernel, by decide +kernel⟩, List.mem_of_getElem? (i := 11) (by decide +kernel), List.mem_of_getElem? (i := 372) (by decide +kernel), List.mem_of_getElem? (i := 373) (by decide +kernel)⟩
theorem lw_p10 : lw_okq (⟨"SnowCitizens$North", "bulkBy", "(III)I"⟩, 14) := ⟨⟨by decide +kernel, by decide +kernel⟩, List.mem_of_getElem? (i := 23) (by decide +kernel), List.mem_of_getElem? (i := 395) (by decide +kernel), List.mem_of_getElem? (i := 396) (by decide +kernel)⟩
theorem lw_p11 : lw_okq (⟨"SnowCitizens", "costOfVoters", "(I)I"⟩, 17) := ⟨⟨by decide +kernel, by decide +kernel⟩, List.mem_of_getElem? (i := 11) (by decide +kernel), List.mem_of_getElem? (i := 458) (by decide +kernel), List.mem_of_getElem? (i := 459) (by decide +kernel)⟩
theorem lw_p12 : lw_okq (⟨"SnowCitizens", "shadeByVoters", "(II)I"⟩, 17) := ⟨⟨by decide +kernel, by decide +kernel⟩, List.mem_of_getElem? (i := 11) (by decide +kernel), List.mem_of_getElem? (i := 462) (by decide +kernel), List.mem_of_getElem? (i := 463) (by decide +kernel)⟩
theorem lw_p13 : lw_okq (⟨"SnowCitizens", "fillMostCounted", "()V"⟩, 17) := ⟨⟨by decide +kernel, by decide +kernel⟩, List.mem_of_getElem? (i := 11) (by decide +kernel), List.mem_of_getElem? (i := 492) (by decide +kernel), List.mem_of_getElem? (i := 493) (by decide +kernel)⟩
theorem lw_p14 : lw_okq (⟨"SnowCitizens", "countedFrom", "(II)I"⟩, 17) := ⟨⟨by decide +kernel, by decide +kernel⟩, List.mem_of_getElem? (i := 11) (by decide +kernel), List.mem_of_getElem? (i := 496) (by decide +kernel), List.mem_of_getElem? (i := 497) (by decide +kernel)⟩
theorem lw_p15 : lw_okq (⟨"SnowCitizens", "countedOn", "(II)I"⟩, 17) := ⟨⟨by decide +kernel, by decide +kernel⟩, List.mem_of_getElem? (i := 11) (by decide +kernel), List.mem_of_getElem? (i := 500) (by decide +kernel), List.mem_of_getElem? (i := 501) (by decide +kernel)⟩
def lw_privs_1 : List (MethodName × Nat) := [(⟨"SnowCitizens", "rowOf", "(I)LSnowCitizens$Row;"⟩, 17), (⟨"SnowCitizens", "found", "(I)I"⟩, 17), (⟨"SnowCitizens", "tell", "(I)I"⟩, 17), (⟨"SnowCitizens$North", "voteNow", "(I)I"⟩, 14), (⟨"SnowCitizens$North", "votesOne", "(III)Z"⟩, 14), (⟨"SnowCitizens$North", "perform", "(III)V"⟩, 14), (⟨"SnowCitizens$North", "meltAll", "()V"⟩, 14), (⟨"SnowCitizens$North", "melting", "(III)I"⟩, 14), (⟨"SnowCitizens$North", "restart", "()V"⟩, 14), (⟨"SnowCitizens", "keptOf", "(I)LSnowCitizens$North;"⟩, 17), (⟨"SnowCitizens$North", "bulkBy", "(III)I"⟩, 14), (⟨"SnowCitizens", "costOfVoters", "(I)I"⟩, 17), (⟨"SnowCitizens", "shadeByVoters", "(II)I"⟩, 17), (⟨"SnowCitizens", "fillMostCounted", "()V"⟩, 17), (⟨"SnowCitizens", "countedFrom", "(II)I"⟩, 17), (⟨"SnowCitizens", "countedOn", "(II)I"⟩, 17)]
theorem lw_r1 : ∀ q ∈ lw_privs_1, lw_okq q := List.forall_mem_cons.mpr ⟨lw_p0, List.forall_mem_cons.mpr ⟨lw_p1, List.forall_mem_cons.mpr ⟨lw_p2, List.forall_mem_cons.mpr ⟨lw_p3, List.forall_mem_cons.mpr ⟨lw_p4, List.forall_mem_cons.mpr ⟨lw_p5, List.forall_mem_cons.mpr ⟨lw_p6, List.forall_mem_cons.mpr ⟨lw_p7, List.forall_mem_cons.mpr ⟨lw_p8, List.forall_mem_cons.mpr ⟨lw_p9, List.forall_mem_cons.mpr ⟨lw_p10, List.forall_mem_cons.mpr ⟨lw_p11, List.forall_mem_cons.mpr ⟨lw_p12, List.forall_mem_cons.mpr ⟨lw_p13, List.forall_mem_cons.mpr ⟨lw_p14, List.forall_mem_cons.mpr ⟨lw_p15, fun _ h => absurd h List.not_mem_nil⟩⟩⟩⟩⟩⟩⟩⟩⟩⟩⟩⟩⟩⟩⟩⟩
theorem lw_p16 : lw_okq (⟨"SnowCitizens", "nextCounted", "(I)I"⟩, 17) := ⟨⟨by decide +kernel, by decide +kernel⟩, List.mem_of_getElem? (i := 11) (by decide +kernel), List.mem_of_getElem? (i := 505) (by decide +kernel), List.mem_of_getElem? (i := 506) (by decide +kernel)⟩
theorem lw_p17 : lw_okq (⟨"SnowCitizens$Clouds", "pass", "(II)V"⟩, 3) := ⟨⟨by decide +kernel, by decide +kernel⟩, List.mem_of_getElem? (i := 139) (by decide +kernel), List.mem_of_getElem? (i := 534) (by decide +kernel), List.mem_of_getElem? (i := 535) (by decide +kernel)⟩
theorem lw_p18 : lw_okq (⟨"SnowCitizens", "tellChance", "(JJ)V"⟩, 17) := ⟨⟨by decide +kernel, by decide +kernel⟩, List.mem_of_getElem? (i := 11) (by decide +kernel), List.mem_of_getElem? (i := 544) (by decide +kernel), List.mem_of_getElem? (i := 545) (by decide +kernel)⟩
theorem lw_p19 : lw_okq (⟨"SnowCitizens", "countOf", "(I)I"⟩, 17) := ⟨⟨by decide +kernel, by decide +kernel⟩, List.mem_of_getElem? (i := 11) (by decide +kernel), List.mem_of_getElem? (i := 583) (by decide +kernel), List.mem_of_getElem? (i := 584) (by decide +kernel)⟩
theorem lw_p20 : lw_okq (⟨"SnowCitizens", "rowsThere", "()I"⟩, 17) := ⟨⟨by decide +kernel, by decide +kernel⟩, List.mem_of_getElem? (i := 11) (by decide +kernel), List.mem_of_getElem? (i := 598) (by decide +kernel), List.mem_of_getElem? (i := 599) (by decide +kernel)⟩
theorem lw_p21 : lw_okq (⟨"SnowCitizens", "textsThere", "()I"⟩, 17) := ⟨⟨by decide +kernel, by decide +kernel⟩, List.mem_of_getElem? (i := 11) (by decide +kernel), List.mem_of_getElem? (i := 602) (by decide +kernel), List.mem_of_getElem? (i := 603) (by decide +kernel)⟩
theorem lw_p22 : lw_okq (⟨"SnowCitizens", "textOf", "(I)LSnowCitizens$Text;"⟩, 17) := ⟨⟨by decide +kernel, by decide +kernel⟩, List.mem_of_getElem? (i := 11) (by decide +kernel), List.mem_of_getElem? (i := 606) (by decide +kernel), List.mem_of_getElem? (i := 607) (by decide +kernel)⟩
theorem lw_p23 : lw_okq (⟨"SnowCitizens", "keptThere", "()I"⟩, 17) := ⟨⟨by decide +kernel, by decide +kernel⟩, List.mem_of_getElem? (i := 11) (by decide +kernel), List.mem_of_getElem? (i := 610) (by decide +kernel), List.mem_of_getElem? (i := 611) (by decide +kernel)⟩
theorem lw_p24 : lw_okq (⟨"SnowCitizens$Reading", "takes", "(I)Z"⟩, 8) := ⟨⟨by decide +kernel, by decide +kernel⟩, List.mem_of_getElem? (i := 82) (by decide +kernel), List.mem_of_getElem? (i := 663) (by decide +kernel), List.mem_of_getElem? (i := 664) (by decide +kernel)⟩
theorem lw_p25 : lw_okq (⟨"SnowCitizens$Reading", "takesSun", "(I)Z"⟩, 8) := ⟨⟨by decide +kernel, by decide +kernel⟩, List.mem_of_getElem? (i := 82) (by decide +kernel), List.mem_of_getElem? (i := 667) (by decide +kernel), List.mem_of_getElem? (i := 668) (by decide +kernel)⟩
theorem lw_p26 : lw_okq (⟨"SnowCitizens$Reading", "takesLetter", "(I)Z"⟩, 8) := ⟨⟨by decide +kernel, by decide +kernel⟩, List.mem_of_getElem? (i := 82) (by decide +kernel), List.mem_of_getElem? (i := 671) (by decide +kernel), List.mem_of_getElem? (i := 672) (by decide +kernel)⟩
theorem lw_p27 : lw_okq (⟨"SnowCitizens$Reading", "takesFigure", "(I)Z"⟩, 8) := ⟨⟨by decide +kernel, by decide +kernel⟩, List.mem_of_getElem? (i := 82) (by decide +kernel), List.mem_of_getElem? (i := 679) (by decide +kernel), List.mem_of_getElem? (i := 680) (by decide +kernel)⟩
def lw_privs_2 : List (MethodName × Nat) := [(⟨"SnowCitizens", "nextCounted", "(I)I"⟩, 17), (⟨"SnowCitizens$Clouds", "pass", "(II)V"⟩, 3), (⟨"SnowCitizens", "tellChance", "(JJ)V"⟩, 17), (⟨"SnowCitizens", "countOf", "(I)I"⟩, 17), (⟨"SnowCitizens", "rowsThere", "()I"⟩, 17), (⟨"SnowCitizens", "textsThere", "()I"⟩, 17), (⟨"SnowCitizens", "textOf", "(I)LSnowCitizens$Text;"⟩, 17), (⟨"SnowCitizens", "keptThere", "()I"⟩, 17), (⟨"SnowCitizens$Reading", "takes", "(I)Z"⟩, 8), (⟨"SnowCitizens$Reading", "takesSun", "(I)Z"⟩, 8), (⟨"SnowCitizens$Reading", "takesLetter", "(I)Z"⟩, 8), (⟨"SnowCitizens$Reading", "takesFigure", "(I)Z"⟩, 8)]
theorem lw_r2 : ∀ q ∈ lw_privs_2, lw_okq q := List.forall_mem_cons.mpr ⟨lw_p16, List.forall_mem_cons.mpr ⟨lw_p17, List.forall_mem_cons.mpr ⟨lw_p18, List.forall_mem_cons.mpr ⟨lw_p19, List.forall_mem_cons.mpr ⟨lw_p20, List.forall_mem_cons.mpr ⟨lw_p21, List.forall_mem_cons.mpr ⟨lw_p22, List.forall_mem_cons.mpr ⟨lw_p23, List.forall_mem_cons.mpr ⟨lw_p24, List.forall_mem_cons.mpr ⟨lw_p25, List.forall_mem_cons.mpr ⟨lw_p26, List.forall_mem_cons.mpr ⟨lw_p27, fun _ h => absurd h List.not_mem_nil⟩⟩⟩⟩⟩⟩⟩⟩⟩⟩⟩⟩
def lw_privs : List (MethodName × Nat) := lw_privs_1 ++ (lw_privs_2)
def lw_tbl : List Cond := k2_sels lw_privs ++ tables_1
theorem lw_privs_ok : ∀ q ∈ lw_privs, lw_okq q := by
  show ∀ q ∈ lw_privs_1 ++ (lw_privs_2), lw_okq q
  exact List.forall_mem_append.mpr ⟨lw_r1, lw_r2⟩
end
section
def RX0 : String := "SnowCitizens$Clouds"
def TX0 : u_T := fun k => match k with
  | 0 => ("SnowCitizens$Clouds", "ways", "[J", true)
  | 1 => ("SnowCitizens$Clouds", "next", "[J", true)
  | _ => ("SnowCitizens$Clouds", "allWays", "J", false)
def tyX0 : Nat → FieldType := fun k => match k with
  | 0 => .array .long
  | 1 => .array .long
  | _ => .long
abbrev wsX00 : List Cond := u_ws RX0 TX0 3
theorem nmX0 : ∀ a, a < 3 → ∀ b, b < 3 → a ≠ b → (TX0 a).2.1 ≠ (TX0 b).2.1 := by decide +kernel
theorem tyX0_ok : ∀ k, k < 3 → parseFieldDescriptor (TX0 k).2.2.1 = some (tyX0 k) := by decide +kernel
abbrev cX0_init : ByteArray := prog_2_method_1_code
def yX0_init : MethodName := ⟨RX0, "<init>", "()V"⟩
abbrev cX0_weigh : ByteArray := prog_2_method_2_code
def yX0_weigh : MethodName := ⟨RX0, "weigh", "(LSnowCitizens$North;III)V"⟩
abbrev cX0_pass : ByteArray := prog_2_method_3_code
def yX0_pass : MethodName := ⟨RX0, "pass", "(II)V"⟩
abbrev cX0_clear : ByteArray := prog_2_method_4_code
def yX0_clear : MethodName := ⟨RX0, "clear", "([J)V"⟩
abbrev cX0_add : ByteArray := prog_2_method_5_code
def yX0_add : MethodName := ⟨RX0, "add", "([JIJ)V"⟩
abbrev cX0_waysToLast : ByteArray := prog_2_method_6_code
def yX0_waysToLast : MethodName := ⟨RX0, "waysToLast", "()J"⟩
abbrev cX0_bulkOfWays : ByteArray := prog_2_method_7_code
def yX0_bulkOfWays : MethodName := ⟨RX0, "bulkOfWays", "()J"⟩
def RX1 : String := "SnowCitizens$Game"
def TX1 : u_T := fun k => match k with
  | 0 => ("SnowCitizens$Game", "men", "I", false)
  | 1 => ("SnowCitizens$Game", "voters", "I", false)
  | 2 => ("SnowCitizens$Game", "carriedBy", "J", false)
  | 3 => ("SnowCitizens$Game", "shadeOf", "[I", true)
  | _ => ("SnowCitizens$Game", "rightBy", "[I", true)
def tyX1 : Nat → FieldType := fun k => match k with
  | 0 => .int
  | 1 => .int
  | 2 => .long
  | 3 => .array .int
  | _ => .array .int
abbrev wsX10 : List Cond := u_ws RX1 TX1 5
theorem nmX1 : ∀ a, a < 5 → ∀ b, b < 5 → a ≠ b → (TX1 a).2.1 ≠ (TX1 b).2.1 := by decide +kernel
theorem tyX1_ok : ∀ k, k < 5 → parseFieldDescriptor (TX1 k).2.2.1 = some (tyX1 k) := by decide +kernel
abbrev cX1_init : ByteArray := prog_3_method_1_code
def yX1_init : MethodName := ⟨RX1, "<init>", "()V"⟩
def RX2 : String := "SnowCitizens$North"
def TX2 : u_T := fun k => match k with
  | 0 => ("SnowCitizens$North", "men", "I", false)
  | 1 => ("SnowCitizens$North", "rightNow", "I", false)
  | 2 => ("SnowCitizens$North", "today", "I", false)
  | 3 => ("SnowCitizens$North", "deeds", "I", false)
  | 4 => ("SnowCitizens$North", "suns", "[I", true)
  | 5 => ("SnowCitizens$North", "kindOf", "[I", true)
  | 6 => ("SnowCitizens$North", "voteOf", "[I", true)
  | 7 => ("SnowCitizens$North", "bulkOf", "[I", true)
  | 8 => ("SnowCitizens$North", "shadeOf", "[I", true)
  | 9 => ("SnowCitizens$North", "firstBulkOf", "[I", true)
  | 10 => ("SnowCitizens$North", "firstShadeOf", "[I", true)
  | 11 => ("SnowCitizens$North", "deedSorts", "[I", true)
  | 12 => ("SnowCitizens$North", "deedMen", "[I", true)
  | _ => ("SnowCitizens$North", "deedValues", "[I", true)
def tyX2 : Nat → FieldType := fun k => match k with
  | 0 => .int
  | 1 => .int
  | 2 => .int
  | 3 => .int
  | 4 => .array .int
  | 5 => .array .int
  | 6 => .array .int
  | 7 => .array .int
  | 8 => .array .int
  | 9 => .array .int
  | 10 => .array .int
  | 11 => .array .int
  | 12 => .array .int
  | _ => .array .int
abbrev wsX20 : List Cond := u_ws RX2 TX2 14
theorem nmX2 : ∀ a, a < 14 → ∀ b, b < 14 → a ≠ b → (TX2 a).2.1 ≠ (TX2 b).2.1 := by decide +kernel
theorem tyX2_ok : ∀ k, k < 14 → parseFieldDescriptor (TX2 k).2.2.1 = some (tyX2 k) := by decide +kernel
abbrev cX2_init : ByteArray := prog_4_method_1_code
def yX2_init : MethodName := ⟨RX2, "<init>", "()V"⟩
abbrev cX2_settle : ByteArray := prog_4_method_2_code
def yX2_settle : MethodName := ⟨RX2, "settle", "(LSnowCitizens$Reading;)V"⟩
abbrev cX2_restart : ByteArray := prog_4_method_3_code
def yX2_restart : MethodName := ⟨RX2, "restart", "()V"⟩
abbrev cX2_become : ByteArray := prog_4_method_4_code
def yX2_become : MethodName := ⟨RX2, "become", "(LSnowCitizens$North;)V"⟩
abbrev cX2_isMan : ByteArray := prog_4_method_5_code
def yX2_isMan : MethodName := ⟨RX2, "isMan", "(I)Z"⟩
abbrev cX2_isSet : ByteArray := prog_4_method_6_code
def yX2_isSet : MethodName := ⟨RX2, "isSet", "(I)Z"⟩
abbrev cX2_act : ByteArray := prog_4_method_7_code
def yX2_act : MethodName := ⟨RX2, "act", "(III)V"⟩
abbrev cX2_undoFrom : ByteArray := prog_4_method_8_code
def yX2_undoFrom : MethodName := ⟨RX2, "undoFrom", "(I)V"⟩
abbrev cX2_perform : ByteArray := prog_4_method_9_code
def yX2_perform : MethodName := ⟨RX2, "perform", "(III)V"⟩
abbrev cX2_meltAll : ByteArray := prog_4_method_10_code
def yX2_meltAll : MethodName := ⟨RX2, "meltAll", "()V"⟩
abbrev cX2_melting : ByteArray := prog_4_method_12_code
def yX2_melting : MethodName := ⟨RX2, "melting", "(III)I"⟩
abbrev cX2_meltingIn : ByteArray := prog_4_method_13_code
def yX2_meltingIn : MethodName := ⟨RX2, "meltingIn", "(II)I"⟩
abbrev cX2_meltedIn : ByteArray := prog_4_method_14_code
def yX2_meltedIn : MethodName := ⟨RX2, "meltedIn", "(III)I"⟩
abbrev cX2_bulkIn : ByteArray := prog_4_method_16_code
def yX2_bulkIn : MethodName := ⟨RX2, "bulkIn", "(II)I"⟩
abbrev cX2_bulkBy : ByteArray := prog_4_method_17_code
def yX2_bulkBy : MethodName := ⟨RX2, "bulkBy", "(III)I"⟩
abbrev cX2_goneIn : ByteArray := prog_4_method_18_code
def yX2_goneIn : MethodName := ⟨RX2, "goneIn", "(I)I"⟩
abbrev cX2_living : ByteArray := prog_4_method_19_code
def yX2_living : MethodName := ⟨RX2, "living", "()I"⟩
abbrev cX2_hasRight : ByteArray := prog_4_method_20_code
def yX2_hasRight : MethodName := ⟨RX2, "hasRight", "(III)Z"⟩
abbrev cX2_hasRightBy : ByteArray := prog_4_method_21_code
def yX2_hasRightBy : MethodName := ⟨RX2, "hasRightBy", "(III)Z"⟩
abbrev cX2_votersBy : ByteArray := prog_4_method_22_code
def yX2_votersBy : MethodName := ⟨RX2, "votersBy", "(I)I"⟩
abbrev cX2_votersIn : ByteArray := prog_4_method_23_code
def yX2_votersIn : MethodName := ⟨RX2, "votersIn", "(I)I"⟩
abbrev cX2_foreseeLiving : ByteArray := prog_4_method_24_code
def yX2_foreseeLiving : MethodName := ⟨RX2, "foreseeLiving", "([I)V"⟩
abbrev cX2_foreseeVoters : ByteArray := prog_4_method_25_code
def yX2_foreseeVoters : MethodName := ⟨RX2, "foreseeVoters", "(I[I)V"⟩
abbrev cX2_onesAmong : ByteArray := prog_4_method_26_code
def yX2_onesAmong : MethodName := ⟨RX2, "onesAmong", "(I)I"⟩
abbrev cX2_votesOne : ByteArray := prog_4_method_27_code
def yX2_votesOne : MethodName := ⟨RX2, "votesOne", "(III)Z"⟩
abbrev cX2_isCarriedBy : ByteArray := prog_4_method_28_code
def yX2_isCarriedBy : MethodName := ⟨RX2, "isCarriedBy", "(I)Z"⟩
abbrev cX2_tellsOf : ByteArray := prog_4_method_29_code
def yX2_tellsOf : MethodName := ⟨RX2, "tellsOf", "(II)I"⟩
abbrev cX2_voteNow : ByteArray := prog_4_method_30_code
def yX2_voteNow : MethodName := ⟨RX2, "voteNow", "(I)I"⟩
abbrev cX2_leastGuard : ByteArray := prog_4_method_34_code
def yX2_leastGuard : MethodName := ⟨RX2, "leastGuard", "(II)I"⟩
abbrev cX2_nearestShade : ByteArray := prog_4_method_35_code
def yX2_nearestShade : MethodName := ⟨RX2, "nearestShade", "(IIZ)I"⟩
abbrev cX2_bulkOfAll : ByteArray := prog_4_method_36_code
def yX2_bulkOfAll : MethodName := ⟨RX2, "bulkOfAll", "()I"⟩
abbrev cX2_hattedOnes : ByteArray := prog_4_method_37_code
def yX2_hattedOnes : MethodName := ⟨RX2, "hattedOnes", "()I"⟩
def RX3 : String := "SnowCitizens$Reading"
def TX3 : u_T := fun k => match k with
  | 0 => ("SnowCitizens$Reading", "stage", "I", false)
  | 1 => ("SnowCitizens$Reading", "men", "I", false)
  | 2 => ("SnowCitizens$Reading", "right", "I", false)
  | 3 => ("SnowCitizens$Reading", "suns", "[I", true)
  | 4 => ("SnowCitizens$Reading", "kindOf", "[I", true)
  | 5 => ("SnowCitizens$Reading", "bulkOf", "[I", true)
  | 6 => ("SnowCitizens$Reading", "shadeOf", "[I", true)
  | _ => ("SnowCitizens$Reading", "voteOf", "[I", true)
def tyX3 : Nat → FieldType := fun k => match k with
  | 0 => .int
  | 1 => .int
  | 2 => .int
  | 3 => .array .int
  | 4 => .array .int
  | 5 => .array .int
  | 6 => .array .int
  | _ => .array .int
abbrev wsX30 : List Cond := u_ws RX3 TX3 8
theorem nmX3 : ∀ a, a < 8 → ∀ b, b < 8 → a ≠ b → (TX3 a).2.1 ≠ (TX3 b).2.1 := by decide +kernel
theorem tyX3_ok : ∀ k, k < 8 → parseFieldDescriptor (TX3 k).2.2.1 = some (tyX3 k) := by decide +kernel
abbrev cX3_init : ByteArray := prog_5_method_1_code
def yX3_init : MethodName := ⟨RX3, "<init>", "()V"⟩
abbrev cX3_faultIn : ByteArray := prog_5_method_2_code
def yX3_faultIn : MethodName := ⟨RX3, "faultIn", "(LSnowCitizens$Text;)I"⟩
abbrev cX3_takes : ByteArray := prog_5_method_3_code
def yX3_takes : MethodName := ⟨RX3, "takes", "(I)Z"⟩
abbrev cX3_takesSun : ByteArray := prog_5_method_4_code
def yX3_takesSun : MethodName := ⟨RX3, "takesSun", "(I)Z"⟩
abbrev cX3_takesLetter : ByteArray := prog_5_method_5_code
def yX3_takesLetter : MethodName := ⟨RX3, "takesLetter", "(I)Z"⟩
abbrev cX3_kindBy : ByteArray := prog_5_method_6_code
def yX3_kindBy : MethodName := ⟨RX3, "kindBy", "(I)I"⟩
abbrev cX3_takesFigure : ByteArray := prog_5_method_7_code
def yX3_takesFigure : MethodName := ⟨RX3, "takesFigure", "(I)Z"⟩
def RX4 : String := "SnowCitizens$Row"
def TX4 : u_T := fun k => match k with
  | 0 => ("SnowCitizens$Row", "there", "Z", false)
  | 1 => ("SnowCitizens$Row", "size", "I", false)
  | _ => ("SnowCitizens$Row", "cells", "[I", true)
def tyX4 : Nat → FieldType := fun k => match k with
  | 0 => .boolean
  | 1 => .int
  | _ => .array .int
abbrev wsX40 : List Cond := u_ws RX4 TX4 3
theorem nmX4 : ∀ a, a < 3 → ∀ b, b < 3 → a ≠ b → (TX4 a).2.1 ≠ (TX4 b).2.1 := by decide +kernel
theorem tyX4_ok : ∀ k, k < 3 → parseFieldDescriptor (TX4 k).2.2.1 = some (tyX4 k) := by decide +kernel
abbrev cX4_init : ByteArray := prog_6_method_1_code
def yX4_init : MethodName := ⟨RX4, "<init>", "()V"⟩
abbrev cX4_take : ByteArray := prog_6_method_3_code
def yX4_take : MethodName := ⟨RX4, "take", "([II)V"⟩
def RX5 : String := "SnowCitizens$Text"
def TX5 : u_T := fun k => match k with
  | 0 => ("SnowCitizens$Text", "there", "Z", false)
  | 1 => ("SnowCitizens$Text", "size", "I", false)
  | _ => ("SnowCitizens$Text", "signs", "[B", true)
def tyX5 : Nat → FieldType := fun k => match k with
  | 0 => .boolean
  | 1 => .int
  | _ => .array .byte
abbrev wsX50 : List Cond := u_ws RX5 TX5 3
theorem nmX5 : ∀ a, a < 3 → ∀ b, b < 3 → a ≠ b → (TX5 a).2.1 ≠ (TX5 b).2.1 := by decide +kernel
theorem tyX5_ok : ∀ k, k < 3 → parseFieldDescriptor (TX5 k).2.2.1 = some (tyX5 k) := by decide +kernel
abbrev cX5_init : ByteArray := prog_7_method_1_code
def yX5_init : MethodName := ⟨RX5, "<init>", "()V"⟩
abbrev cX5_renew : ByteArray := prog_7_method_2_code
def yX5_renew : MethodName := ⟨RX5, "renew", "(I)V"⟩
abbrev cX5_sign : ByteArray := prog_7_method_3_code
def yX5_sign : MethodName := ⟨RX5, "sign", "(I)I"⟩
abbrev cX5_change : ByteArray := prog_7_method_4_code
def yX5_change : MethodName := ⟨RX5, "change", "(IB)V"⟩
def RX6 : String := "SnowCitizens"
def TX6 : u_T := fun k => match k with
  | 0 => ("SnowCitizens", "rows", "[LSnowCitizens$Row;", true)
  | 1 => ("SnowCitizens", "texts", "[LSnowCitizens$Text;", true)
  | 2 => ("SnowCitizens", "north", "LSnowCitizens$North;", true)
  | 3 => ("SnowCitizens", "kept", "[LSnowCitizens$North;", true)
  | 4 => ("SnowCitizens", "reading", "LSnowCitizens$Reading;", true)
  | 5 => ("SnowCitizens", "game", "LSnowCitizens$Game;", true)
  | 6 => ("SnowCitizens", "clouds", "LSnowCitizens$Clouds;", true)
  | 7 => ("SnowCitizens", "findingCounts", "[I", true)
  | 8 => ("SnowCitizens", "latestFinding", "I", false)
  | 9 => ("SnowCitizens", "told", "I", false)
  | 10 => ("SnowCitizens", "upperNumber", "J", false)
  | 11 => ("SnowCitizens", "lowerNumber", "J", false)
  | 12 => ("SnowCitizens", "ahead", "[I", true)
  | 13 => ("SnowCitizens", "plan", "[I", true)
  | 14 => ("SnowCitizens", "shadesWith", "[I", true)
  | 15 => ("SnowCitizens", "shadesWithout", "[I", true)
  | _ => ("SnowCitizens", "mostCounted", "[I", true)
def tyX6 : Nat → FieldType := fun k => match k with
  | 0 => .array (.object "SnowCitizens$Row")
  | 1 => .array (.object "SnowCitizens$Text")
  | 2 => .object "SnowCitizens$North"
  | 3 => .array (.object "SnowCitizens$North")
  | 4 => .object "SnowCitizens$Reading"
  | 5 => .object "SnowCitizens$Game"
  | 6 => .object "SnowCitizens$Clouds"
  | 7 => .array .int
  | 8 => .int
  | 9 => .int
  | 10 => .long
  | 11 => .long
  | 12 => .array .int
  | 13 => .array .int
  | 14 => .array .int
  | 15 => .array .int
  | _ => .array .int
abbrev wsX60 : List Cond := u_ws RX6 TX6 17
theorem nmX6 : ∀ a, a < 17 → ∀ b, b < 17 → a ≠ b → (TX6 a).2.1 ≠ (TX6 b).2.1 := by decide +kernel
theorem tyX6_ok : ∀ k, k < 17 → parseFieldDescriptor (TX6 k).2.2.1 = some (tyX6 k) := by decide +kernel
abbrev cX6_init : ByteArray := prog_1_method_1_code
def yX6_init : MethodName := ⟨RX6, "<init>", "()V"⟩
abbrev cX6_at : ByteArray := prog_1_method_4_code
def yX6_at : MethodName := ⟨RX6, "at", "(II)I"⟩
abbrev cX6_text : ByteArray := prog_1_method_8_code
def yX6_text : MethodName := ⟨RX6, "text", "(II)I"⟩
abbrev cX6_put : ByteArray := prog_1_method_9_code
def yX6_put : MethodName := ⟨RX6, "put", "(III)I"⟩
abbrev cX6_fault : ByteArray := prog_1_method_10_code
def yX6_fault : MethodName := ⟨RX6, "fault", "(I)I"⟩
abbrev cX6_north : ByteArray := prog_1_method_11_code
def yX6_north : MethodName := ⟨RX6, "north", "(I)I"⟩
abbrev cX6_man : ByteArray := prog_1_method_12_code
def yX6_man : MethodName := ⟨RX6, "man", "(II)I"⟩
abbrev cX6_day : ByteArray := prog_1_method_16_code
def yX6_day : MethodName := ⟨RX6, "day", "()I"⟩
abbrev cX6_shade : ByteArray := prog_1_method_17_code
def yX6_shade : MethodName := ⟨RX6, "shade", "(II)I"⟩
abbrev cX6_snow : ByteArray := prog_1_method_18_code
def yX6_snow : MethodName := ⟨RX6, "snow", "(II)I"⟩
abbrev cX6_undo : ByteArray := prog_1_method_19_code
def yX6_undo : MethodName := ⟨RX6, "undo", "(I)I"⟩
abbrev cX6_keep : ByteArray := prog_1_method_21_code
def yX6_keep : MethodName := ⟨RX6, "keep", "(I)I"⟩
abbrev cX6_on : ByteArray := prog_1_method_22_code
def yX6_on : MethodName := ⟨RX6, "on", "(I)I"⟩
abbrev cX6_bulk : ByteArray := prog_1_method_23_code
def yX6_bulk : MethodName := ⟨RX6, "bulk", "(II)I"⟩
abbrev cX6_gone : ByteArray := prog_1_method_24_code
def yX6_gone : MethodName := ⟨RX6, "gone", "(I)I"⟩
abbrev cX6_votes : ByteArray := prog_1_method_25_code
def yX6_votes : MethodName := ⟨RX6, "votes", "(I)I"⟩
abbrev cX6_widow : ByteArray := prog_1_method_28_code
def yX6_widow : MethodName := ⟨RX6, "widow", "()I"⟩
abbrev cX6_heir : ByteArray := prog_1_method_29_code
def yX6_heir : MethodName := ⟨RX6, "heir", "(II)I"⟩
abbrev cX6_guard : ByteArray := prog_1_method_30_code
def yX6_guard : MethodName := ⟨RX6, "guard", "(III)I"⟩
abbrev cX6_bribe : ByteArray := prog_1_method_31_code
def yX6_bribe : MethodName := ⟨RX6, "bribe", "(III)I"⟩
abbrev cX6_carry : ByteArray := prog_1_method_32_code
def yX6_carry : MethodName := ⟨RX6, "carry", "(II)I"⟩
abbrev cX6_census : ByteArray := prog_1_method_33_code
def yX6_census : MethodName := ⟨RX6, "census", "(I)I"⟩
abbrev cX6_counted : ByteArray := prog_1_method_34_code
def yX6_counted : MethodName := ⟨RX6, "counted", "(I)I"⟩
abbrev cX6_rights : ByteArray := prog_1_method_37_code
def yX6_rights : MethodName := ⟨RX6, "rights", "(I)I"⟩
abbrev cX6_odds : ByteArray := prog_1_method_40_code
def yX6_odds : MethodName := ⟨RX6, "odds", "(III)I"⟩
abbrev cX6_mid : ByteArray := prog_1_method_41_code
def yX6_mid : MethodName := ⟨RX6, "mid", "(III)I"⟩
abbrev cX6_lots : ByteArray := prog_1_method_42_code
def yX6_lots : MethodName := ⟨RX6, "lots", "(III)I"⟩
abbrev cX6_asked : ByteArray := prog_1_method_43_code
def yX6_asked : MethodName := ⟨RX6, "asked", "()I"⟩
abbrev cX6_upper : ByteArray := prog_1_method_44_code
def yX6_upper : MethodName := ⟨RX6, "upper", "()J"⟩
abbrev cX6_lower : ByteArray := prog_1_method_45_code
def yX6_lower : MethodName := ⟨RX6, "lower", "()J"⟩
abbrev cX6_count : ByteArray := prog_1_method_46_code
def yX6_count : MethodName := ⟨RX6, "count", "(I)I"⟩
abbrev cX6_rowOf : ByteArray := prog_1_method_50_code
def yX6_rowOf : MethodName := ⟨RX6, "rowOf", "(I)LSnowCitizens$Row;"⟩
abbrev cX6_textOf : ByteArray := prog_1_method_51_code
def yX6_textOf : MethodName := ⟨RX6, "textOf", "(I)LSnowCitizens$Text;"⟩
abbrev cX6_keptOf : ByteArray := prog_1_method_52_code
def yX6_keptOf : MethodName := ⟨RX6, "keptOf", "(I)LSnowCitizens$North;"⟩
abbrev cX6_found : ByteArray := prog_1_method_53_code
def yX6_found : MethodName := ⟨RX6, "found", "(I)I"⟩
abbrev cX6_tell : ByteArray := prog_1_method_54_code
def yX6_tell : MethodName := ⟨RX6, "tell", "(I)I"⟩
abbrev cX6_tellChance : ByteArray := prog_1_method_55_code
def yX6_tellChance : MethodName := ⟨RX6, "tellChance", "(JJ)V"⟩
abbrev cX6_commonDivisor : ByteArray := prog_1_method_56_code
def yX6_commonDivisor : MethodName := ⟨RX6, "commonDivisor", "(JJ)J"⟩
abbrev cX6_countOf : ByteArray := prog_1_method_57_code
def yX6_countOf : MethodName := ⟨RX6, "countOf", "(I)I"⟩
abbrev cX6_rowsThere : ByteArray := prog_1_method_58_code
def yX6_rowsThere : MethodName := ⟨RX6, "rowsThere", "()I"⟩
abbrev cX6_textsThere : ByteArray := prog_1_method_59_code
def yX6_textsThere : MethodName := ⟨RX6, "textsThere", "()I"⟩
abbrev cX6_keptThere : ByteArray := prog_1_method_60_code
def yX6_keptThere : MethodName := ⟨RX6, "keptThere", "()I"⟩
abbrev cX6_costOfVoters : ByteArray := prog_1_method_61_code
def yX6_costOfVoters : MethodName := ⟨RX6, "costOfVoters", "(I)I"⟩
abbrev cX6_shadeByVoters : ByteArray := prog_1_method_62_code
def yX6_shadeByVoters : MethodName := ⟨RX6, "shadeByVoters", "(II)I"⟩
abbrev cX6_fillMostCounted : ByteArray := prog_1_method_63_code
def yX6_fillMostCounted : MethodName := ⟨RX6, "fillMostCounted", "()V"⟩
abbrev cX6_nextCounted : ByteArray := prog_1_method_64_code
def yX6_nextCounted : MethodName := ⟨RX6, "nextCounted", "(I)I"⟩
abbrev cX6_countedFrom : ByteArray := prog_1_method_65_code
def yX6_countedFrom : MethodName := ⟨RX6, "countedFrom", "(II)I"⟩
abbrev cX6_countedOn : ByteArray := prog_1_method_66_code
def yX6_countedOn : MethodName := ⟨RX6, "countedOn", "(II)I"⟩
abbrev cX6_isAhead : ByteArray := prog_1_method_69_code
def yX6_isAhead : MethodName := ⟨RX6, "isAhead", "(I)Z"⟩
abbrev cX6_isIn : ByteArray := prog_1_method_70_code
def yX6_isIn : MethodName := ⟨RX6, "isIn", "(II)Z"⟩
abbrev cX6_isOfKind : ByteArray := prog_1_method_71_code
def yX6_isOfKind : MethodName := ⟨RX6, "isOfKind", "(II)Z"⟩
abbrev cX6_read : ByteArray := prog_1_method_72_code
def yX6_read : MethodName := ⟨RX6, "read", "([II)I"⟩
abbrev cX6_write : ByteArray := prog_1_method_73_code
def yX6_write : MethodName := ⟨RX6, "write", "([III)V"⟩
abbrev cX6_writeAll : ByteArray := prog_1_method_74_code
def yX6_writeAll : MethodName := ⟨RX6, "writeAll", "([I[I)V"⟩
def RX7 : String := "SnowCitizensModel"
def TX7 : u_T := fun k => match k with
  | _ => ("", "", "", false)
def tyX7 : Nat → FieldType := fun k => match k with
  | _ => .int
abbrev wsX70 : List Cond := u_ws RX7 TX7 0
theorem nmX7 : ∀ a, a < 0 → ∀ b, b < 0 → a ≠ b → (TX7 a).2.1 ≠ (TX7 b).2.1 := by decide +kernel
theorem tyX7_ok : ∀ k, k < 0 → parseFieldDescriptor (TX7 k).2.2.1 = some (tyX7 k) := by decide +kernel
def RJ6 : String := "java/lang/Integer"
def TJ6 : u_T := fun k => match k with
  | _ => ("", "", "", false)
def tyJ6 : Nat → FieldType := fun k => match k with
  | _ => .int
abbrev wsJ60 : List Cond := u_ws RJ6 TJ6 0
theorem nmJ6 : ∀ a, a < 0 → ∀ b, b < 0 → a ≠ b → (TJ6 a).2.1 ≠ (TJ6 b).2.1 := by decide +kernel
theorem tyJ6_ok : ∀ k, k < 0 → parseFieldDescriptor (TJ6 k).2.2.1 = some (tyJ6 k) := by decide +kernel
abbrev cJ6_bitCount_0f7a4 : ByteArray := prog_10_method_49_code
def yJ6_bitCount_0f7a4 : MethodName := ⟨RJ6, "bitCount", "(I)I"⟩
def RJ9 : String := "java/lang/Math"
def TJ9 : u_T := fun k => match k with
  | _ => ("", "", "", false)
def tyJ9 : Nat → FieldType := fun k => match k with
  | _ => .int
abbrev wsJ90 : List Cond := u_ws RJ9 TJ9 0
theorem nmJ9 : ∀ a, a < 0 → ∀ b, b < 0 → a ≠ b → (TJ9 a).2.1 ≠ (TJ9 b).2.1 := by decide +kernel
theorem tyJ9_ok : ∀ k, k < 0 → parseFieldDescriptor (TJ9 k).2.2.1 = some (tyJ9 k) := by decide +kernel
abbrev cJ9_abs_0f7a4 : ByteArray := prog_11_method_59_code
def yJ9_abs_0f7a4 : MethodName := ⟨RJ9, "abs", "(I)I"⟩
abbrev cJ9_max_7cf53 : ByteArray := prog_11_method_65_code
def yJ9_max_7cf53 : MethodName := ⟨RJ9, "max", "(II)I"⟩
abbrev cJ9_min_7cf53 : ByteArray := prog_11_method_69_code
def yJ9_min_7cf53 : MethodName := ⟨RJ9, "min", "(II)I"⟩
def RL : String := "SnowCitizensLaw"
abbrev cL_cell : ByteArray := method_2_code
def yL_cell : MethodName := ⟨RL, "cell", "([II)I"⟩
abbrev cL_up : ByteArray := method_3_code
def yL_up : MethodName := ⟨RL, "up", "(II)I"⟩
abbrev cL_bits : ByteArray := method_4_code
def yL_bits : MethodName := ⟨RL, "bits", "(I)I"⟩
abbrev cL_letter : ByteArray := method_5_code
def yL_letter : MethodName := ⟨RL, "letter", "(I)I"⟩
abbrev cL_lay : ByteArray := method_6_code
def yL_lay : MethodName := ⟨RL, "lay", "([I[I)V"⟩
abbrev cL_made : ByteArray := method_7_code
def yL_made : MethodName := ⟨RL, "made", "(LSnowCitizens;[I)Z"⟩
abbrev cL_law : ByteArray := code
def yL_law : MethodName := ⟨RL, "law", "([I)Z"⟩
theorem inJ6 : ∀ w ∈ wsJ60, w ∈ lw_tbl := by decide +kernel
theorem inJ9 : ∀ w ∈ wsJ90, w ∈ lw_tbl := by decide +kernel
abbrev vwCl : List vw_C := [(RX0, TX0, 3), (RX1, TX1, 5), (RX2, TX2, 14), (RX3, TX3, 8), (RX4, TX4, 3), (RX5, TX5, 3), (RX6, TX6, 17)]
end
section
/-! the good words of the tables, by their places -/
def zU : List Cond := lw_tbl.filter goodWord
theorem zt1 {i : Nat} {w : Cond} (h0 : tables_1_1[i]? = some w) (hg : goodWord w = true) : w ∈ zU := List.mem_filter.mpr ⟨by
  have h := List.mem_of_getElem? h0
  exact List.mem_append_right _ (List.mem_append_left _ h), hg⟩
theorem zt2 {i : Nat} {w : Cond} (h0 : tables_1_2[i]? = some w) (hg : goodWord w = true) : w ∈ zU := List.mem_filter.mpr ⟨by
  have h := List.mem_of_getElem? h0
  exact List.mem_append_right _ (List.mem_append_right _ (List.mem_append_left _ h)), hg⟩
theorem zt3 {i : Nat} {w : Cond} (h0 : tables_1_3[i]? = some w) (hg : goodWord w = true) : w ∈ zU := List.mem_filter.mpr ⟨by
  have h := List.mem_of_getElem? h0
  exact List.mem_append_right _ (List.mem_append_right _ (List.mem_append_right _ h)), hg⟩
theorem zsel {i : Nat} {q : MethodName × Nat} (h0 : lw_privs[i]? = some q) : Cond.selects q.1.cls q.1 q.1 ∈ zU := List.mem_filter.mpr ⟨List.mem_append_left _ (List.mem_map.mpr ⟨q, List.mem_of_getElem? h0, rfl⟩), rfl⟩
theorem q1_0 : Cond.initialized "SnowCitizensLaw" ∈ zU := zt1 (i := 0) rfl rfl
theorem q1_1 : Cond.initialized "SnowCitizens" ∈ zU := zt1 (i := 1) rfl rfl
theorem q1_2 : Cond.initialized "SnowCitizens$North" ∈ zU := zt1 (i := 2) rfl rfl
theorem q1_3 : Cond.initialized "SnowCitizens$Reading" ∈ zU := zt1 (i := 3) rfl rfl
theorem q1_4 : Cond.initialized "SnowCitizens$Game" ∈ zU := zt1 (i := 4) rfl rfl
theorem q1_5 : Cond.initialized "SnowCitizens$Clouds" ∈ zU := zt1 (i := 5) rfl rfl
theorem q1_6 : Cond.initialized "SnowCitizens$Row" ∈ zU := zt1 (i := 6) rfl rfl
theorem q1_7 : Cond.initialized "SnowCitizens$Text" ∈ zU := zt1 (i := 7) rfl rfl
theorem q1_8 : Cond.initialized "java/lang/Math" ∈ zU := zt1 (i := 8) rfl rfl
theorem q1_9 : Cond.initialized "java/lang/Integer" ∈ zU := zt1 (i := 9) rfl rfl
theorem q1_10 : Cond.classLink RL 20 "SnowCitizens" ∈ zU := zt1 (i := 10) rfl rfl
theorem q1_11 : Cond.instantiable "SnowCitizens" 17 ∈ zU := zt1 (i := 11) rfl rfl
theorem q1_12 : Cond.methodLink RL 38 yX6_init ∈ zU := zt1 (i := 12) rfl rfl
theorem q1_13 : Cond.instanceMethod yX6_init ∈ zU := zt1 (i := 13) rfl rfl
theorem q1_14 : Cond.code yX6_init cX6_init 2 none ∈ zU := zt1 (i := 14) rfl rfl
theorem q1_15 : Cond.methodLink RX6 1 objectInit ∈ zU := zt1 (i := 15) rfl rfl
theorem q1_16 : Cond.instanceMethod objectInit ∈ zU := zt1 (i := 16) rfl rfl
theorem q1_17 : Cond.code objectInit object_method_1_code 1 none ∈ zU := zt1 (i := 17) rfl rfl
theorem q1_18 : Cond.classLink RX6 9 "SnowCitizens$Row" ∈ zU := zt1 (i := 18) rfl rfl
theorem q1_20 : Cond.classLink RX6 15 "SnowCitizens$Text" ∈ zU := zt1 (i := 20) rfl rfl
theorem q1_22 : Cond.classLink RX6 21 "SnowCitizens$North" ∈ zU := zt1 (i := 22) rfl rfl
theorem q1_23 : Cond.instantiable "SnowCitizens$North" 14 ∈ zU := zt1 (i := 23) rfl rfl
theorem q1_25 : Cond.instanceMethod yX2_init ∈ zU := zt1 (i := 25) rfl rfl
theorem q1_26 : Cond.code yX2_init cX2_init 1 none ∈ zU := zt1 (i := 26) rfl rfl
theorem q1_27 : Cond.methodLink RX2 3 objectInit ∈ zU := zt1 (i := 27) rfl rfl
theorem q1_28 : Cond.fieldLink RX2 48 "SnowCitizens$North" "men" "I" ∈ zU := zt1 (i := 28) rfl rfl
theorem q1_29 : Cond.fieldLink RX6 152 "SnowCitizens$North" "men" "I" ∈ zU := zt1 (i := 29) rfl rfl
theorem q1_30 : Cond.fieldLink RX2 52 "SnowCitizens$North" "rightNow" "I" ∈ zU := zt1 (i := 30) rfl rfl
theorem q1_31 : Cond.fieldLink RX6 195 "SnowCitizens$North" "rightNow" "I" ∈ zU := zt1 (i := 31) rfl rfl
theorem q1_32 : Cond.fieldLink RX2 70 "SnowCitizens$North" "today" "I" ∈ zU := zt1 (i := 32) rfl rfl
theorem q1_33 : Cond.fieldLink RX6 223 "SnowCitizens$North" "today" "I" ∈ zU := zt1 (i := 33) rfl rfl
theorem q1_34 : Cond.fieldLink RX2 64 "SnowCitizens$North" "deeds" "I" ∈ zU := zt1 (i := 34) rfl rfl
theorem q1_35 : Cond.fieldLink RX6 198 "SnowCitizens$North" "deeds" "I" ∈ zU := zt1 (i := 35) rfl rfl
theorem q1_36 : Cond.fieldLink RX2 9 "SnowCitizens$North" "suns" "[I" ∈ zU := zt1 (i := 36) rfl rfl
theorem q1_37 : Cond.fieldLink RX2 15 "SnowCitizens$North" "kindOf" "[I" ∈ zU := zt1 (i := 37) rfl rfl
theorem q1_38 : Cond.fieldLink RX6 163 "SnowCitizens$North" "kindOf" "[I" ∈ zU := zt1 (i := 38) rfl rfl
theorem q1_39 : Cond.fieldLink RX2 18 "SnowCitizens$North" "voteOf" "[I" ∈ zU := zt1 (i := 39) rfl rfl
theorem q1_40 : Cond.fieldLink RX2 21 "SnowCitizens$North" "bulkOf" "[I" ∈ zU := zt1 (i := 40) rfl rfl
theorem q1_41 : Cond.fieldLink RX0 22 "SnowCitizens$North" "bulkOf" "[I" ∈ zU := zt1 (i := 41) rfl rfl
theorem q1_42 : Cond.fieldLink RX6 169 "SnowCitizens$North" "bulkOf" "[I" ∈ zU := zt1 (i := 42) rfl rfl
theorem q1_43 : Cond.fieldLink RX2 24 "SnowCitizens$North" "shadeOf" "[I" ∈ zU := zt1 (i := 43) rfl rfl
theorem q1_44 : Cond.fieldLink RX6 214 "SnowCitizens$North" "shadeOf" "[I" ∈ zU := zt1 (i := 44) rfl rfl
theorem q1_45 : Cond.fieldLink RX2 27 "SnowCitizens$North" "firstBulkOf" "[I" ∈ zU := zt1 (i := 45) rfl rfl
theorem q1_46 : Cond.fieldLink RX2 30 "SnowCitizens$North" "firstShadeOf" "[I" ∈ zU := zt1 (i := 46) rfl rfl
theorem q1_47 : Cond.fieldLink RX2 33 "SnowCitizens$North" "deedSorts" "[I" ∈ zU := zt1 (i := 47) rfl rfl
theorem q1_48 : Cond.fieldLink RX2 36 "SnowCitizens$North" "deedMen" "[I" ∈ zU := zt1 (i := 48) rfl rfl
theorem q1_49 : Cond.fieldLink RX2 39 "SnowCitizens$North" "deedValues" "[I" ∈ zU := zt1 (i := 49) rfl rfl
theorem q1_50 : Cond.lays "SnowCitizens$North" "SnowCitizens$North" "men" "I" ∈ zU := zt1 (i := 50) rfl rfl
theorem q1_52 : Cond.lays "SnowCitizens$North" "SnowCitizens$North" "rightNow" "I" ∈ zU := zt1 (i := 52) rfl rfl
theorem q1_54 : Cond.lays "SnowCitizens$North" "SnowCitizens$North" "today" "I" ∈ zU := zt1 (i := 54) rfl rfl
theorem q1_56 : Cond.lays "SnowCitizens$North" "SnowCitizens$North" "deeds" "I" ∈ zU := zt1 (i := 56) rfl rfl
theorem q1_58 : Cond.laysFinal "SnowCitizens$North" "SnowCitizens$North" "suns" "[I" ∈ zU := zt1 (i := 58) rfl rfl
theorem q1_60 : Cond.laysFinal "SnowCitizens$North" "SnowCitizens$North" "kindOf" "[I" ∈ zU := zt1 (i := 60) rfl rfl
theorem q1_62 : Cond.laysFinal "SnowCitizens$North" "SnowCitizens$North" "voteOf" "[I" ∈ zU := zt1 (i := 62) rfl rfl
theorem q1_64 : Cond.laysFinal "SnowCitizens$North" "SnowCitizens$North" "bulkOf" "[I" ∈ zU := zt1 (i := 64) rfl rfl
theorem q1_66 : Cond.laysFinal "SnowCitizens$North" "SnowCitizens$North" "shadeOf" "[I" ∈ zU := zt1 (i := 66) rfl rfl
theorem q1_68 : Cond.laysFinal "SnowCitizens$North" "SnowCitizens$North" "firstBulkOf" "[I" ∈ zU := zt1 (i := 68) rfl rfl
theorem q1_70 : Cond.laysFinal "SnowCitizens$North" "SnowCitizens$North" "firstShadeOf" "[I" ∈ zU := zt1 (i := 70) rfl rfl
theorem q1_72 : Cond.laysFinal "SnowCitizens$North" "SnowCitizens$North" "deedSorts" "[I" ∈ zU := zt1 (i := 72) rfl rfl
theorem q1_74 : Cond.laysFinal "SnowCitizens$North" "SnowCitizens$North" "deedMen" "[I" ∈ zU := zt1 (i := 74) rfl rfl
theorem q1_76 : Cond.laysFinal "SnowCitizens$North" "SnowCitizens$North" "deedValues" "[I" ∈ zU := zt1 (i := 76) rfl rfl
theorem q1_79 : Cond.arrayClass .int ∈ zU := zt1 (i := 79) rfl rfl
theorem q1_81 : Cond.classLink RX6 32 "SnowCitizens$Reading" ∈ zU := zt1 (i := 81) rfl rfl
theorem q1_82 : Cond.instantiable "SnowCitizens$Reading" 8 ∈ zU := zt1 (i := 82) rfl rfl
theorem q1_84 : Cond.instanceMethod yX3_init ∈ zU := zt1 (i := 84) rfl rfl
theorem q1_85 : Cond.code yX3_init cX3_init 1 none ∈ zU := zt1 (i := 85) rfl rfl
theorem q1_86 : Cond.methodLink RX3 3 objectInit ∈ zU := zt1 (i := 86) rfl rfl
theorem q1_87 : Cond.fieldLink RX3 27 "SnowCitizens$Reading" "stage" "I" ∈ zU := zt1 (i := 87) rfl rfl
theorem q1_88 : Cond.fieldLink RX2 42 "SnowCitizens$Reading" "men" "I" ∈ zU := zt1 (i := 88) rfl rfl
theorem q1_89 : Cond.fieldLink RX3 31 "SnowCitizens$Reading" "men" "I" ∈ zU := zt1 (i := 89) rfl rfl
theorem q1_90 : Cond.fieldLink RX2 49 "SnowCitizens$Reading" "right" "I" ∈ zU := zt1 (i := 90) rfl rfl
theorem q1_91 : Cond.fieldLink RX3 63 "SnowCitizens$Reading" "right" "I" ∈ zU := zt1 (i := 91) rfl rfl
theorem q1_92 : Cond.fieldLink RX3 9 "SnowCitizens$Reading" "suns" "[I" ∈ zU := zt1 (i := 92) rfl rfl
theorem q1_93 : Cond.fieldLink RX2 55 "SnowCitizens$Reading" "suns" "[I" ∈ zU := zt1 (i := 93) rfl rfl
theorem q1_94 : Cond.fieldLink RX3 15 "SnowCitizens$Reading" "kindOf" "[I" ∈ zU := zt1 (i := 94) rfl rfl
theorem q1_95 : Cond.fieldLink RX2 60 "SnowCitizens$Reading" "kindOf" "[I" ∈ zU := zt1 (i := 95) rfl rfl
theorem q1_96 : Cond.fieldLink RX3 18 "SnowCitizens$Reading" "bulkOf" "[I" ∈ zU := zt1 (i := 96) rfl rfl
theorem q1_97 : Cond.fieldLink RX2 62 "SnowCitizens$Reading" "bulkOf" "[I" ∈ zU := zt1 (i := 97) rfl rfl
theorem q1_98 : Cond.fieldLink RX3 21 "SnowCitizens$Reading" "shadeOf" "[I" ∈ zU := zt1 (i := 98) rfl rfl
theorem q1_99 : Cond.fieldLink RX2 63 "SnowCitizens$Reading" "shadeOf" "[I" ∈ zU := zt1 (i := 99) rfl rfl
theorem q1_100 : Cond.fieldLink RX3 24 "SnowCitizens$Reading" "voteOf" "[I" ∈ zU := zt1 (i := 100) rfl rfl
theorem q1_101 : Cond.fieldLink RX2 61 "SnowCitizens$Reading" "voteOf" "[I" ∈ zU := zt1 (i := 101) rfl rfl
theorem q1_102 : Cond.lays "SnowCitizens$Reading" "SnowCitizens$Reading" "stage" "I" ∈ zU := zt1 (i := 102) rfl rfl
theorem q1_104 : Cond.lays "SnowCitizens$Reading" "SnowCitizens$Reading" "men" "I" ∈ zU := zt1 (i := 104) rfl rfl
theorem q1_106 : Cond.lays "SnowCitizens$Reading" "SnowCitizens$Reading" "right" "I" ∈ zU := zt1 (i := 106) rfl rfl
theorem q1_108 : Cond.laysFinal "SnowCitizens$Reading" "SnowCitizens$Reading" "suns" "[I" ∈ zU := zt1 (i := 108) rfl rfl
theorem q1_110 : Cond.laysFinal "SnowCitizens$Reading" "SnowCitizens$Reading" "kindOf" "[I" ∈ zU := zt1 (i := 110) rfl rfl
theorem q1_112 : Cond.laysFinal "SnowCitizens$Reading" "SnowCitizens$Reading" "bulkOf" "[I" ∈ zU := zt1 (i := 112) rfl rfl
theorem q1_114 : Cond.laysFinal "SnowCitizens$Reading" "SnowCitizens$Reading" "shadeOf" "[I" ∈ zU := zt1 (i := 114) rfl rfl
theorem q1_116 : Cond.laysFinal "SnowCitizens$Reading" "SnowCitizens$Reading" "voteOf" "[I" ∈ zU := zt1 (i := 116) rfl rfl
theorem q1_119 : Cond.classLink RX6 39 "SnowCitizens$Game" ∈ zU := zt1 (i := 119) rfl rfl
theorem q1_120 : Cond.instantiable "SnowCitizens$Game" 5 ∈ zU := zt1 (i := 120) rfl rfl
theorem q1_122 : Cond.instanceMethod yX1_init ∈ zU := zt1 (i := 122) rfl rfl
theorem q1_123 : Cond.code yX1_init cX1_init 1 none ∈ zU := zt1 (i := 123) rfl rfl
theorem q1_124 : Cond.methodLink RX1 3 objectInit ∈ zU := zt1 (i := 124) rfl rfl
theorem q1_125 : Cond.fieldLink RX1 9 "SnowCitizens$Game" "shadeOf" "[I" ∈ zU := zt1 (i := 125) rfl rfl
theorem q1_126 : Cond.fieldLink RX1 15 "SnowCitizens$Game" "rightBy" "[I" ∈ zU := zt1 (i := 126) rfl rfl
theorem q1_127 : Cond.lays "SnowCitizens$Game" "SnowCitizens$Game" "men" "I" ∈ zU := zt1 (i := 127) rfl rfl
theorem q1_129 : Cond.lays "SnowCitizens$Game" "SnowCitizens$Game" "voters" "I" ∈ zU := zt1 (i := 129) rfl rfl
theorem q1_131 : Cond.lays "SnowCitizens$Game" "SnowCitizens$Game" "carriedBy" "J" ∈ zU := zt1 (i := 131) rfl rfl
theorem q1_133 : Cond.laysFinal "SnowCitizens$Game" "SnowCitizens$Game" "shadeOf" "[I" ∈ zU := zt1 (i := 133) rfl rfl
theorem q1_135 : Cond.laysFinal "SnowCitizens$Game" "SnowCitizens$Game" "rightBy" "[I" ∈ zU := zt1 (i := 135) rfl rfl
theorem q1_138 : Cond.classLink RX6 46 "SnowCitizens$Clouds" ∈ zU := zt1 (i := 138) rfl rfl
theorem q1_139 : Cond.instantiable "SnowCitizens$Clouds" 3 ∈ zU := zt1 (i := 139) rfl rfl
theorem q1_141 : Cond.instanceMethod yX0_init ∈ zU := zt1 (i := 141) rfl rfl
theorem q1_142 : Cond.code yX0_init cX0_init 1 none ∈ zU := zt1 (i := 142) rfl rfl
theorem q1_143 : Cond.methodLink RX0 3 objectInit ∈ zU := zt1 (i := 143) rfl rfl
theorem q1_144 : Cond.fieldLink RX0 9 "SnowCitizens$Clouds" "ways" "[J" ∈ zU := zt1 (i := 144) rfl rfl
theorem q1_145 : Cond.fieldLink RX0 15 "SnowCitizens$Clouds" "next" "[J" ∈ zU := zt1 (i := 145) rfl rfl
theorem q1_146 : Cond.fieldLink RX0 36 "SnowCitizens$Clouds" "allWays" "J" ∈ zU := zt1 (i := 146) rfl rfl
theorem q1_147 : Cond.fieldLink RX6 324 "SnowCitizens$Clouds" "allWays" "J" ∈ zU := zt1 (i := 147) rfl rfl
theorem q1_148 : Cond.laysFinal "SnowCitizens$Clouds" "SnowCitizens$Clouds" "ways" "[J" ∈ zU := zt1 (i := 148) rfl rfl
theorem q1_150 : Cond.laysFinal "SnowCitizens$Clouds" "SnowCitizens$Clouds" "next" "[J" ∈ zU := zt1 (i := 150) rfl rfl
theorem q1_152 : Cond.lays "SnowCitizens$Clouds" "SnowCitizens$Clouds" "allWays" "J" ∈ zU := zt1 (i := 152) rfl rfl
theorem q1_155 : Cond.arrayClass .long ∈ zU := zt1 (i := 155) rfl rfl
theorem q1_156 : Cond.instantiable "SnowCitizens$Row" 3 ∈ zU := zt1 (i := 156) rfl rfl
theorem q1_158 : Cond.instanceMethod yX4_init ∈ zU := zt1 (i := 158) rfl rfl
theorem q1_159 : Cond.code yX4_init cX4_init 1 none ∈ zU := zt1 (i := 159) rfl rfl
theorem q1_160 : Cond.methodLink RX4 3 objectInit ∈ zU := zt1 (i := 160) rfl rfl
theorem q1_161 : Cond.fieldLink RX4 15 "SnowCitizens$Row" "there" "Z" ∈ zU := zt1 (i := 161) rfl rfl
theorem q1_162 : Cond.fieldLink RX6 90 "SnowCitizens$Row" "there" "Z" ∈ zU := zt1 (i := 162) rfl rfl
theorem q1_163 : Cond.fieldLink RX4 19 "SnowCitizens$Row" "size" "I" ∈ zU := zt1 (i := 163) rfl rfl
theorem q1_164 : Cond.fieldLink RX6 94 "SnowCitizens$Row" "size" "I" ∈ zU := zt1 (i := 164) rfl rfl
theorem q1_165 : Cond.fieldLink RX4 9 "SnowCitizens$Row" "cells" "[I" ∈ zU := zt1 (i := 165) rfl rfl
theorem q1_166 : Cond.fieldLink RX6 98 "SnowCitizens$Row" "cells" "[I" ∈ zU := zt1 (i := 166) rfl rfl
theorem q1_167 : Cond.lays "SnowCitizens$Row" "SnowCitizens$Row" "there" "Z" ∈ zU := zt1 (i := 167) rfl rfl
theorem q1_169 : Cond.lays "SnowCitizens$Row" "SnowCitizens$Row" "size" "I" ∈ zU := zt1 (i := 169) rfl rfl
theorem q1_171 : Cond.laysFinal "SnowCitizens$Row" "SnowCitizens$Row" "cells" "[I" ∈ zU := zt1 (i := 171) rfl rfl
theorem q1_174 : Cond.instantiable "SnowCitizens$Text" 3 ∈ zU := zt1 (i := 174) rfl rfl
theorem q1_176 : Cond.instanceMethod yX5_init ∈ zU := zt1 (i := 176) rfl rfl
theorem q1_177 : Cond.code yX5_init cX5_init 1 none ∈ zU := zt1 (i := 177) rfl rfl
theorem q1_178 : Cond.methodLink RX5 3 objectInit ∈ zU := zt1 (i := 178) rfl rfl
theorem q1_179 : Cond.fieldLink RX5 15 "SnowCitizens$Text" "there" "Z" ∈ zU := zt1 (i := 179) rfl rfl
theorem q1_180 : Cond.fieldLink RX6 131 "SnowCitizens$Text" "there" "Z" ∈ zU := zt1 (i := 180) rfl rfl
theorem q1_181 : Cond.fieldLink RX5 19 "SnowCitizens$Text" "size" "I" ∈ zU := zt1 (i := 181) rfl rfl
theorem q1_182 : Cond.fieldLink RX3 34 "SnowCitizens$Text" "size" "I" ∈ zU := zt1 (i := 182) rfl rfl
theorem q1_183 : Cond.fieldLink RX6 132 "SnowCitizens$Text" "size" "I" ∈ zU := zt1 (i := 183) rfl rfl
theorem q1_184 : Cond.fieldLink RX5 9 "SnowCitizens$Text" "signs" "[B" ∈ zU := zt1 (i := 184) rfl rfl
theorem q1_185 : Cond.lays "SnowCitizens$Text" "SnowCitizens$Text" "there" "Z" ∈ zU := zt1 (i := 185) rfl rfl
theorem q1_187 : Cond.lays "SnowCitizens$Text" "SnowCitizens$Text" "size" "I" ∈ zU := zt1 (i := 187) rfl rfl
theorem q1_189 : Cond.laysFinal "SnowCitizens$Text" "SnowCitizens$Text" "signs" "[B" ∈ zU := zt1 (i := 189) rfl rfl
theorem q1_192 : Cond.arrayClass .byte ∈ zU := zt1 (i := 192) rfl rfl
theorem q1_193 : Cond.fieldLink RX6 11 "SnowCitizens" "rows" "[LSnowCitizens$Row;" ∈ zU := zt1 (i := 193) rfl rfl
theorem q1_194 : Cond.fieldLink RX6 17 "SnowCitizens" "texts" "[LSnowCitizens$Text;" ∈ zU := zt1 (i := 194) rfl rfl
theorem q1_195 : Cond.fieldLink RX6 24 "SnowCitizens" "north" "LSnowCitizens$North;" ∈ zU := zt1 (i := 195) rfl rfl
theorem q1_196 : Cond.fieldLink RX6 28 "SnowCitizens" "kept" "[LSnowCitizens$North;" ∈ zU := zt1 (i := 196) rfl rfl
theorem q1_197 : Cond.fieldLink RX6 35 "SnowCitizens" "reading" "LSnowCitizens$Reading;" ∈ zU := zt1 (i := 197) rfl rfl
theorem q1_198 : Cond.fieldLink RX6 42 "SnowCitizens" "game" "LSnowCitizens$Game;" ∈ zU := zt1 (i := 198) rfl rfl
theorem q1_199 : Cond.fieldLink RX6 49 "SnowCitizens" "clouds" "LSnowCitizens$Clouds;" ∈ zU := zt1 (i := 199) rfl rfl
theorem q1_200 : Cond.fieldLink RX6 53 "SnowCitizens" "findingCounts" "[I" ∈ zU := zt1 (i := 200) rfl rfl
theorem q1_201 : Cond.fieldLink RX6 347 "SnowCitizens" "latestFinding" "I" ∈ zU := zt1 (i := 201) rfl rfl
theorem q1_202 : Cond.fieldLink RX6 220 "SnowCitizens" "told" "I" ∈ zU := zt1 (i := 202) rfl rfl
theorem q1_203 : Cond.fieldLink RX6 341 "SnowCitizens" "upperNumber" "J" ∈ zU := zt1 (i := 203) rfl rfl
theorem q1_204 : Cond.fieldLink RX6 57 "SnowCitizens" "lowerNumber" "J" ∈ zU := zt1 (i := 204) rfl rfl
theorem q1_205 : Cond.fieldLink RX6 61 "SnowCitizens" "ahead" "[I" ∈ zU := zt1 (i := 205) rfl rfl
theorem q1_206 : Cond.fieldLink RX6 64 "SnowCitizens" "plan" "[I" ∈ zU := zt1 (i := 206) rfl rfl
theorem q1_207 : Cond.fieldLink RX6 67 "SnowCitizens" "shadesWith" "[I" ∈ zU := zt1 (i := 207) rfl rfl
theorem q1_208 : Cond.fieldLink RX6 70 "SnowCitizens" "shadesWithout" "[I" ∈ zU := zt1 (i := 208) rfl rfl
theorem q1_209 : Cond.fieldLink RX6 73 "SnowCitizens" "mostCounted" "[I" ∈ zU := zt1 (i := 209) rfl rfl
theorem q1_210 : Cond.laysFinal "SnowCitizens" "SnowCitizens" "rows" "[LSnowCitizens$Row;" ∈ zU := zt1 (i := 210) rfl rfl
theorem q1_212 : Cond.laysFinal "SnowCitizens" "SnowCitizens" "texts" "[LSnowCitizens$Text;" ∈ zU := zt1 (i := 212) rfl rfl
theorem q1_214 : Cond.laysFinal "SnowCitizens" "SnowCitizens" "north" "LSnowCitizens$North;" ∈ zU := zt1 (i := 214) rfl rfl
theorem q1_216 : Cond.laysFinal "SnowCitizens" "SnowCitizens" "kept" "[LSnowCitizens$North;" ∈ zU := zt1 (i := 216) rfl rfl
theorem q1_218 : Cond.laysFinal "SnowCitizens" "SnowCitizens" "reading" "LSnowCitizens$Reading;" ∈ zU := zt1 (i := 218) rfl rfl
theorem q1_220 : Cond.laysFinal "SnowCitizens" "SnowCitizens" "game" "LSnowCitizens$Game;" ∈ zU := zt1 (i := 220) rfl rfl
theorem q1_222 : Cond.laysFinal "SnowCitizens" "SnowCitizens" "clouds" "LSnowCitizens$Clouds;" ∈ zU := zt1 (i := 222) rfl rfl
theorem q1_224 : Cond.laysFinal "SnowCitizens" "SnowCitizens" "findingCounts" "[I" ∈ zU := zt1 (i := 224) rfl rfl
theorem q1_226 : Cond.lays "SnowCitizens" "SnowCitizens" "latestFinding" "I" ∈ zU := zt1 (i := 226) rfl rfl
theorem q1_228 : Cond.lays "SnowCitizens" "SnowCitizens" "told" "I" ∈ zU := zt1 (i := 228) rfl rfl
theorem q1_230 : Cond.lays "SnowCitizens" "SnowCitizens" "upperNumber" "J" ∈ zU := zt1 (i := 230) rfl rfl
theorem q1_232 : Cond.lays "SnowCitizens" "SnowCitizens" "lowerNumber" "J" ∈ zU := zt1 (i := 232) rfl rfl
theorem q1_234 : Cond.laysFinal "SnowCitizens" "SnowCitizens" "ahead" "[I" ∈ zU := zt1 (i := 234) rfl rfl
theorem q1_236 : Cond.laysFinal "SnowCitizens" "SnowCitizens" "plan" "[I" ∈ zU := zt1 (i := 236) rfl rfl
theorem q1_238 : Cond.laysFinal "SnowCitizens" "SnowCitizens" "shadesWith" "[I" ∈ zU := zt1 (i := 238) rfl rfl
theorem q2_0 : Cond.laysFinal "SnowCitizens" "SnowCitizens" "shadesWithout" "[I" ∈ zU := zt2 (i := 0) rfl rfl
theorem q2_2 : Cond.laysFinal "SnowCitizens" "SnowCitizens" "mostCounted" "[I" ∈ zU := zt2 (i := 2) rfl rfl
theorem q2_5 : Cond.methodLink RL 53 yX6_at ∈ zU := zt2 (i := 5) rfl rfl
theorem q2_6 : Cond.instanceMethod yX6_at ∈ zU := zt2 (i := 6) rfl rfl
theorem q2_7 : Cond.selects "SnowCitizens" yX6_at yX6_at ∈ zU := zt2 (i := 7) rfl rfl
theorem q2_8 : Cond.code yX6_at cX6_at 4 (some .int) ∈ zU := zt2 (i := 8) rfl rfl
theorem q2_9 : Cond.methodLink RX6 78 yX6_rowOf ∈ zU := zt2 (i := 9) rfl rfl
theorem q2_11 : Cond.instanceMethod yX6_rowOf ∈ zU := zt2 (i := 11) rfl rfl
theorem q2_12 : Cond.code yX6_rowOf cX6_rowOf 2 (Option.some (.object "SnowCitizens$Row")) ∈ zU := zt2 (i := 12) rfl rfl
theorem q2_13 : Cond.methodLink RX6 82 yX6_found ∈ zU := zt2 (i := 13) rfl rfl
theorem q2_15 : Cond.instanceMethod yX6_found ∈ zU := zt2 (i := 15) rfl rfl
theorem q2_16 : Cond.code yX6_found cX6_found 2 (some .int) ∈ zU := zt2 (i := 16) rfl rfl
theorem q2_17 : Cond.methodLink RX6 101 yX6_read ∈ zU := zt2 (i := 17) rfl rfl
theorem q2_18 : Cond.static yX6_read ∈ zU := zt2 (i := 18) rfl rfl
theorem q2_19 : Cond.code yX6_read cX6_read 2 (some .int) ∈ zU := zt2 (i := 19) rfl rfl
theorem q2_20 : Cond.methodLink RX6 105 yX6_write ∈ zU := zt2 (i := 20) rfl rfl
theorem q2_21 : Cond.static yX6_write ∈ zU := zt2 (i := 21) rfl rfl
theorem q2_22 : Cond.code yX6_write cX6_write 3 none ∈ zU := zt2 (i := 22) rfl rfl
theorem q2_23 : Cond.methodLink RX6 109 yX6_tell ∈ zU := zt2 (i := 23) rfl rfl
theorem q2_25 : Cond.instanceMethod yX6_tell ∈ zU := zt2 (i := 25) rfl rfl
theorem q2_26 : Cond.code yX6_tell cX6_tell 2 (some .int) ∈ zU := zt2 (i := 26) rfl rfl
theorem q2_27 : Cond.methodLink RL 118 yX6_man ∈ zU := zt2 (i := 27) rfl rfl
theorem q2_28 : Cond.instanceMethod yX6_man ∈ zU := zt2 (i := 28) rfl rfl
theorem q2_29 : Cond.selects "SnowCitizens" yX6_man yX6_man ∈ zU := zt2 (i := 29) rfl rfl
theorem q2_30 : Cond.code yX6_man cX6_man 3 (some .int) ∈ zU := zt2 (i := 30) rfl rfl
theorem q2_31 : Cond.methodLink RX6 155 yX2_isMan ∈ zU := zt2 (i := 31) rfl rfl
theorem q2_32 : Cond.instanceMethod yX2_isMan ∈ zU := zt2 (i := 32) rfl rfl
theorem q2_33 : Cond.selects "SnowCitizens$North" yX2_isMan yX2_isMan ∈ zU := zt2 (i := 33) rfl rfl
theorem q2_34 : Cond.code yX2_isMan cX2_isMan 2 (some .boolean) ∈ zU := zt2 (i := 34) rfl rfl
theorem q2_35 : Cond.methodLink RX6 159 yX2_tellsOf ∈ zU := zt2 (i := 35) rfl rfl
theorem q2_36 : Cond.instanceMethod yX2_tellsOf ∈ zU := zt2 (i := 36) rfl rfl
theorem q2_37 : Cond.selects "SnowCitizens$North" yX2_tellsOf yX2_tellsOf ∈ zU := zt2 (i := 37) rfl rfl
theorem q2_38 : Cond.code yX2_tellsOf cX2_tellsOf 3 (some .int) ∈ zU := zt2 (i := 38) rfl rfl
theorem q2_40 : Cond.methodLink RX2 110 yX2_votersBy ∈ zU := zt2 (i := 40) rfl rfl
theorem q2_41 : Cond.instanceMethod yX2_votersBy ∈ zU := zt2 (i := 41) rfl rfl
theorem q2_42 : Cond.selects "SnowCitizens$North" yX2_votersBy yX2_votersBy ∈ zU := zt2 (i := 42) rfl rfl
theorem q2_43 : Cond.code yX2_votersBy cX2_votersBy 4 (some .int) ∈ zU := zt2 (i := 43) rfl rfl
theorem q2_44 : Cond.methodLink RX2 114 yX2_hasRight ∈ zU := zt2 (i := 44) rfl rfl
theorem q2_45 : Cond.instanceMethod yX2_hasRight ∈ zU := zt2 (i := 45) rfl rfl
theorem q2_46 : Cond.selects "SnowCitizens$North" yX2_hasRight yX2_hasRight ∈ zU := zt2 (i := 46) rfl rfl
theorem q2_47 : Cond.code yX2_hasRight cX2_hasRight 4 (some .boolean) ∈ zU := zt2 (i := 47) rfl rfl
theorem q2_49 : Cond.static yX6_isIn ∈ zU := zt2 (i := 49) rfl rfl
theorem q2_50 : Cond.code yX6_isIn cX6_isIn 2 (some .boolean) ∈ zU := zt2 (i := 50) rfl rfl
theorem q2_51 : Cond.methodLink RX2 140 yX2_voteNow ∈ zU := zt2 (i := 51) rfl rfl
theorem q2_53 : Cond.instanceMethod yX2_voteNow ∈ zU := zt2 (i := 53) rfl rfl
theorem q2_54 : Cond.code yX2_voteNow cX2_voteNow 3 (some .int) ∈ zU := zt2 (i := 54) rfl rfl
theorem q2_55 : Cond.methodLink RX2 132 yX2_onesAmong ∈ zU := zt2 (i := 55) rfl rfl
theorem q2_56 : Cond.instanceMethod yX2_onesAmong ∈ zU := zt2 (i := 56) rfl rfl
theorem q2_57 : Cond.selects "SnowCitizens$North" yX2_onesAmong yX2_onesAmong ∈ zU := zt2 (i := 57) rfl rfl
theorem q2_58 : Cond.code yX2_onesAmong cX2_onesAmong 4 (some .int) ∈ zU := zt2 (i := 58) rfl rfl
theorem q2_59 : Cond.methodLink RX2 129 yX2_votesOne ∈ zU := zt2 (i := 59) rfl rfl
theorem q2_61 : Cond.instanceMethod yX2_votesOne ∈ zU := zt2 (i := 61) rfl rfl
theorem q2_62 : Cond.code yX2_votesOne cX2_votesOne 5 (some .boolean) ∈ zU := zt2 (i := 62) rfl rfl
theorem q2_63 : Cond.methodLink RL 87 yX6_day ∈ zU := zt2 (i := 63) rfl rfl
theorem q2_64 : Cond.instanceMethod yX6_day ∈ zU := zt2 (i := 64) rfl rfl
theorem q2_65 : Cond.selects "SnowCitizens" yX6_day yX6_day ∈ zU := zt2 (i := 65) rfl rfl
theorem q2_66 : Cond.code yX6_day cX6_day 1 (some .int) ∈ zU := zt2 (i := 66) rfl rfl
theorem q2_67 : Cond.methodLink RX6 201 yX2_act ∈ zU := zt2 (i := 67) rfl rfl
theorem q2_68 : Cond.instanceMethod yX2_act ∈ zU := zt2 (i := 68) rfl rfl
theorem q2_69 : Cond.selects "SnowCitizens$North" yX2_act yX2_act ∈ zU := zt2 (i := 69) rfl rfl
theorem q2_70 : Cond.code yX2_act cX2_act 4 none ∈ zU := zt2 (i := 70) rfl rfl
theorem q2_72 : Cond.methodLink RX2 77 yX2_perform ∈ zU := zt2 (i := 72) rfl rfl
theorem q2_74 : Cond.instanceMethod yX2_perform ∈ zU := zt2 (i := 74) rfl rfl
theorem q2_75 : Cond.code yX2_perform cX2_perform 4 none ∈ zU := zt2 (i := 75) rfl rfl
theorem q2_76 : Cond.methodLink RX2 85 Lib.Math.min.name ∈ zU := zt2 (i := 76) rfl rfl
theorem q2_77 : Cond.static Lib.Math.min.name ∈ zU := zt2 (i := 77) rfl rfl
theorem q2_78 : Cond.code Lib.Math.min.name cJ9_min_7cf53 2 (some .int) ∈ zU := zt2 (i := 78) rfl rfl
theorem q2_79 : Cond.methodLink RX2 91 yX2_meltAll ∈ zU := zt2 (i := 79) rfl rfl
theorem q2_81 : Cond.instanceMethod yX2_meltAll ∈ zU := zt2 (i := 81) rfl rfl
theorem q2_82 : Cond.code yX2_meltAll cX2_meltAll 2 none ∈ zU := zt2 (i := 82) rfl rfl
theorem q2_83 : Cond.methodLink RX2 94 yX2_meltingIn ∈ zU := zt2 (i := 83) rfl rfl
theorem q2_84 : Cond.instanceMethod yX2_meltingIn ∈ zU := zt2 (i := 84) rfl rfl
theorem q2_85 : Cond.selects "SnowCitizens$North" yX2_meltingIn yX2_meltingIn ∈ zU := zt2 (i := 85) rfl rfl
theorem q2_86 : Cond.code yX2_meltingIn cX2_meltingIn 3 (some .int) ∈ zU := zt2 (i := 86) rfl rfl
theorem q2_87 : Cond.methodLink RX2 100 yX2_melting ∈ zU := zt2 (i := 87) rfl rfl
theorem q2_89 : Cond.instanceMethod yX2_melting ∈ zU := zt2 (i := 89) rfl rfl
theorem q2_90 : Cond.code yX2_melting cX2_melting 5 (some .int) ∈ zU := zt2 (i := 90) rfl rfl
theorem q2_91 : Cond.methodLink RX2 97 Lib.Math.max.name ∈ zU := zt2 (i := 91) rfl rfl
theorem q2_92 : Cond.static Lib.Math.max.name ∈ zU := zt2 (i := 92) rfl rfl
theorem q2_93 : Cond.code Lib.Math.max.name cJ9_max_7cf53 2 (some .int) ∈ zU := zt2 (i := 93) rfl rfl
theorem q2_94 : Cond.methodLink RX6 205 yX2_living ∈ zU := zt2 (i := 94) rfl rfl
theorem q2_95 : Cond.instanceMethod yX2_living ∈ zU := zt2 (i := 95) rfl rfl
theorem q2_96 : Cond.selects "SnowCitizens$North" yX2_living yX2_living ∈ zU := zt2 (i := 96) rfl rfl
theorem q2_97 : Cond.code yX2_living cX2_living 1 (some .int) ∈ zU := zt2 (i := 97) rfl rfl
theorem q2_98 : Cond.methodLink RX6 209 yJ6_bitCount_0f7a4 ∈ zU := zt2 (i := 98) rfl rfl
theorem q2_99 : Cond.static yJ6_bitCount_0f7a4 ∈ zU := zt2 (i := 99) rfl rfl
theorem q2_100 : Cond.code yJ6_bitCount_0f7a4 cJ6_bitCount_0f7a4 1 (some .int) ∈ zU := zt2 (i := 100) rfl rfl
theorem q2_101 : Cond.constant RJ6 265 1431655765 ∈ zU := zt2 (i := 101) rfl rfl
theorem q2_102 : Cond.constant RJ6 266 858993459 ∈ zU := zt2 (i := 102) rfl rfl
theorem q2_103 : Cond.constant RJ6 267 252645135 ∈ zU := zt2 (i := 103) rfl rfl
theorem q2_104 : Cond.methodLink RL 60 yX6_shade ∈ zU := zt2 (i := 104) rfl rfl
theorem q2_105 : Cond.instanceMethod yX6_shade ∈ zU := zt2 (i := 105) rfl rfl
theorem q2_106 : Cond.selects "SnowCitizens" yX6_shade yX6_shade ∈ zU := zt2 (i := 106) rfl rfl
theorem q2_107 : Cond.code yX6_shade cX6_shade 4 (some .int) ∈ zU := zt2 (i := 107) rfl rfl
theorem q2_108 : Cond.methodLink RL 78 yX6_snow ∈ zU := zt2 (i := 108) rfl rfl
theorem q2_109 : Cond.instanceMethod yX6_snow ∈ zU := zt2 (i := 109) rfl rfl
theorem q2_110 : Cond.selects "SnowCitizens" yX6_snow yX6_snow ∈ zU := zt2 (i := 110) rfl rfl
theorem q2_111 : Cond.code yX6_snow cX6_snow 3 (some .int) ∈ zU := zt2 (i := 111) rfl rfl
theorem q2_112 : Cond.methodLink RL 93 yX6_undo ∈ zU := zt2 (i := 112) rfl rfl
theorem q2_113 : Cond.instanceMethod yX6_undo ∈ zU := zt2 (i := 113) rfl rfl
theorem q2_114 : Cond.selects "SnowCitizens" yX6_undo yX6_undo ∈ zU := zt2 (i := 114) rfl rfl
theorem q2_115 : Cond.code yX6_undo cX6_undo 3 (some .int) ∈ zU := zt2 (i := 115) rfl rfl
theorem q2_116 : Cond.methodLink RX6 217 yX2_undoFrom ∈ zU := zt2 (i := 116) rfl rfl
theorem q2_117 : Cond.instanceMethod yX2_undoFrom ∈ zU := zt2 (i := 117) rfl rfl
theorem q2_118 : Cond.selects "SnowCitizens$North" yX2_undoFrom yX2_undoFrom ∈ zU := zt2 (i := 118) rfl rfl
theorem q2_119 : Cond.code yX2_undoFrom cX2_undoFrom 3 none ∈ zU := zt2 (i := 119) rfl rfl
theorem q2_120 : Cond.methodLink RX2 67 yX2_restart ∈ zU := zt2 (i := 120) rfl rfl
theorem q2_122 : Cond.instanceMethod yX2_restart ∈ zU := zt2 (i := 122) rfl rfl
theorem q2_123 : Cond.code yX2_restart cX2_restart 1 none ∈ zU := zt2 (i := 123) rfl rfl
theorem q2_125 : Cond.static yX6_writeAll ∈ zU := zt2 (i := 125) rfl rfl
theorem q2_126 : Cond.code yX6_writeAll cX6_writeAll 3 none ∈ zU := zt2 (i := 126) rfl rfl
theorem q2_127 : Cond.methodLink RL 47 yX6_keep ∈ zU := zt2 (i := 127) rfl rfl
theorem q2_128 : Cond.instanceMethod yX6_keep ∈ zU := zt2 (i := 128) rfl rfl
theorem q2_129 : Cond.selects "SnowCitizens" yX6_keep yX6_keep ∈ zU := zt2 (i := 129) rfl rfl
theorem q2_130 : Cond.code yX6_keep cX6_keep 3 (some .int) ∈ zU := zt2 (i := 130) rfl rfl
theorem q2_131 : Cond.methodLink RX6 148 yX6_keptOf ∈ zU := zt2 (i := 131) rfl rfl
theorem q2_133 : Cond.instanceMethod yX6_keptOf ∈ zU := zt2 (i := 133) rfl rfl
theorem q2_134 : Cond.code yX6_keptOf cX6_keptOf 2 (Option.some (.object "SnowCitizens$North")) ∈ zU := zt2 (i := 134) rfl rfl
theorem q2_135 : Cond.methodLink RX6 226 yX2_become ∈ zU := zt2 (i := 135) rfl rfl
theorem q2_136 : Cond.instanceMethod yX2_become ∈ zU := zt2 (i := 136) rfl rfl
theorem q2_137 : Cond.selects "SnowCitizens$North" yX2_become yX2_become ∈ zU := zt2 (i := 137) rfl rfl
theorem q2_138 : Cond.code yX2_become cX2_become 2 none ∈ zU := zt2 (i := 138) rfl rfl
theorem q2_139 : Cond.methodLink RL 66 yX6_on ∈ zU := zt2 (i := 139) rfl rfl
theorem q2_140 : Cond.instanceMethod yX6_on ∈ zU := zt2 (i := 140) rfl rfl
theorem q2_141 : Cond.selects "SnowCitizens" yX6_on yX6_on ∈ zU := zt2 (i := 141) rfl rfl
theorem q2_142 : Cond.code yX6_on cX6_on 3 (some .int) ∈ zU := zt2 (i := 142) rfl rfl
theorem q2_143 : Cond.methodLink RL 63 yX6_bulk ∈ zU := zt2 (i := 143) rfl rfl
theorem q2_144 : Cond.instanceMethod yX6_bulk ∈ zU := zt2 (i := 144) rfl rfl
theorem q2_145 : Cond.selects "SnowCitizens" yX6_bulk yX6_bulk ∈ zU := zt2 (i := 145) rfl rfl
theorem q2_146 : Cond.code yX6_bulk cX6_bulk 3 (some .int) ∈ zU := zt2 (i := 146) rfl rfl
theorem q2_147 : Cond.methodLink RX6 230 yX6_isAhead ∈ zU := zt2 (i := 147) rfl rfl
theorem q2_148 : Cond.static yX6_isAhead ∈ zU := zt2 (i := 148) rfl rfl
theorem q2_149 : Cond.code yX6_isAhead cX6_isAhead 1 (some .boolean) ∈ zU := zt2 (i := 149) rfl rfl
theorem q2_150 : Cond.methodLink RX6 233 yX2_bulkIn ∈ zU := zt2 (i := 150) rfl rfl
theorem q2_151 : Cond.instanceMethod yX2_bulkIn ∈ zU := zt2 (i := 151) rfl rfl
theorem q2_152 : Cond.selects "SnowCitizens$North" yX2_bulkIn yX2_bulkIn ∈ zU := zt2 (i := 152) rfl rfl
theorem q2_153 : Cond.code yX2_bulkIn cX2_bulkIn 3 (some .int) ∈ zU := zt2 (i := 153) rfl rfl
theorem q2_154 : Cond.methodLink RX2 104 yX2_bulkBy ∈ zU := zt2 (i := 154) rfl rfl
theorem q2_156 : Cond.instanceMethod yX2_bulkBy ∈ zU := zt2 (i := 156) rfl rfl
theorem q2_157 : Cond.code yX2_bulkBy cX2_bulkBy 4 (some .int) ∈ zU := zt2 (i := 157) rfl rfl
theorem q2_158 : Cond.methodLink RX2 107 yX2_meltedIn ∈ zU := zt2 (i := 158) rfl rfl
theorem q2_159 : Cond.instanceMethod yX2_meltedIn ∈ zU := zt2 (i := 159) rfl rfl
theorem q2_160 : Cond.selects "SnowCitizens$North" yX2_meltedIn yX2_meltedIn ∈ zU := zt2 (i := 160) rfl rfl
theorem q2_161 : Cond.code yX2_meltedIn cX2_meltedIn 6 (some .int) ∈ zU := zt2 (i := 161) rfl rfl
theorem q2_162 : Cond.methodLink RL 102 yX6_gone ∈ zU := zt2 (i := 162) rfl rfl
theorem q2_163 : Cond.instanceMethod yX6_gone ∈ zU := zt2 (i := 163) rfl rfl
theorem q2_164 : Cond.selects "SnowCitizens" yX6_gone yX6_gone ∈ zU := zt2 (i := 164) rfl rfl
theorem q2_165 : Cond.code yX6_gone cX6_gone 2 (some .int) ∈ zU := zt2 (i := 165) rfl rfl
theorem q2_166 : Cond.methodLink RX6 183 yX2_goneIn ∈ zU := zt2 (i := 166) rfl rfl
theorem q2_167 : Cond.instanceMethod yX2_goneIn ∈ zU := zt2 (i := 167) rfl rfl
theorem q2_168 : Cond.selects "SnowCitizens$North" yX2_goneIn yX2_goneIn ∈ zU := zt2 (i := 168) rfl rfl
theorem q2_169 : Cond.code yX2_goneIn cX2_goneIn 4 (some .int) ∈ zU := zt2 (i := 169) rfl rfl
theorem q2_170 : Cond.methodLink RL 72 yX6_votes ∈ zU := zt2 (i := 170) rfl rfl
theorem q2_171 : Cond.instanceMethod yX6_votes ∈ zU := zt2 (i := 171) rfl rfl
theorem q2_172 : Cond.selects "SnowCitizens" yX6_votes yX6_votes ∈ zU := zt2 (i := 172) rfl rfl
theorem q2_173 : Cond.code yX6_votes cX6_votes 4 (some .int) ∈ zU := zt2 (i := 173) rfl rfl
theorem q2_174 : Cond.methodLink RX6 236 yX2_votersIn ∈ zU := zt2 (i := 174) rfl rfl
theorem q2_175 : Cond.instanceMethod yX2_votersIn ∈ zU := zt2 (i := 175) rfl rfl
theorem q2_176 : Cond.selects "SnowCitizens$North" yX2_votersIn yX2_votersIn ∈ zU := zt2 (i := 176) rfl rfl
theorem q2_177 : Cond.code yX2_votersIn cX2_votersIn 4 (some .int) ∈ zU := zt2 (i := 177) rfl rfl
theorem q2_178 : Cond.methodLink RX2 118 yX2_hasRightBy ∈ zU := zt2 (i := 178) rfl rfl
theorem q2_179 : Cond.instanceMethod yX2_hasRightBy ∈ zU := zt2 (i := 179) rfl rfl
theorem q2_180 : Cond.selects "SnowCitizens$North" yX2_hasRightBy yX2_hasRightBy ∈ zU := zt2 (i := 180) rfl rfl
theorem q2_181 : Cond.code yX2_hasRightBy cX2_hasRightBy 4 (some .boolean) ∈ zU := zt2 (i := 181) rfl rfl
theorem q2_182 : Cond.methodLink RX6 239 yX2_onesAmong ∈ zU := zt2 (i := 182) rfl rfl
theorem q2_183 : Cond.methodLink RL 96 yX6_widow ∈ zU := zt2 (i := 183) rfl rfl
theorem q2_184 : Cond.instanceMethod yX6_widow ∈ zU := zt2 (i := 184) rfl rfl
theorem q2_185 : Cond.selects "SnowCitizens" yX6_widow yX6_widow ∈ zU := zt2 (i := 185) rfl rfl
theorem q2_186 : Cond.code yX6_widow cX6_widow 5 (some .int) ∈ zU := zt2 (i := 186) rfl rfl
theorem q2_187 : Cond.methodLink RL 99 yX6_heir ∈ zU := zt2 (i := 187) rfl rfl
theorem q2_188 : Cond.instanceMethod yX6_heir ∈ zU := zt2 (i := 188) rfl rfl
theorem q2_189 : Cond.selects "SnowCitizens" yX6_heir yX6_heir ∈ zU := zt2 (i := 189) rfl rfl
theorem q2_190 : Cond.code yX6_heir cX6_heir 4 (some .int) ∈ zU := zt2 (i := 190) rfl rfl
theorem q2_191 : Cond.methodLink RL 50 yX6_guard ∈ zU := zt2 (i := 191) rfl rfl
theorem q2_192 : Cond.instanceMethod yX6_guard ∈ zU := zt2 (i := 192) rfl rfl
theorem q2_193 : Cond.selects "SnowCitizens" yX6_guard yX6_guard ∈ zU := zt2 (i := 193) rfl rfl
theorem q2_194 : Cond.code yX6_guard cX6_guard 9 (some .int) ∈ zU := zt2 (i := 194) rfl rfl
theorem q2_195 : Cond.methodLink RX6 249 yX2_isSet ∈ zU := zt2 (i := 195) rfl rfl
theorem q2_196 : Cond.instanceMethod yX2_isSet ∈ zU := zt2 (i := 196) rfl rfl
theorem q2_197 : Cond.selects "SnowCitizens$North" yX2_isSet yX2_isSet ∈ zU := zt2 (i := 197) rfl rfl
theorem q2_198 : Cond.code yX2_isSet cX2_isSet 2 (some .boolean) ∈ zU := zt2 (i := 198) rfl rfl
theorem q2_199 : Cond.methodLink RX6 252 yX6_isIn ∈ zU := zt2 (i := 199) rfl rfl
theorem q2_200 : Cond.methodLink RX6 255 yX2_leastGuard ∈ zU := zt2 (i := 200) rfl rfl
theorem q2_201 : Cond.instanceMethod yX2_leastGuard ∈ zU := zt2 (i := 201) rfl rfl
theorem q2_202 : Cond.selects "SnowCitizens$North" yX2_leastGuard yX2_leastGuard ∈ zU := zt2 (i := 202) rfl rfl
theorem q2_203 : Cond.code yX2_leastGuard cX2_leastGuard 4 (some .int) ∈ zU := zt2 (i := 203) rfl rfl
theorem q2_204 : Cond.methodLink RX6 258 yX4_take ∈ zU := zt2 (i := 204) rfl rfl
theorem q2_205 : Cond.instanceMethod yX4_take ∈ zU := zt2 (i := 205) rfl rfl
theorem q2_206 : Cond.selects "SnowCitizens$Row" yX4_take yX4_take ∈ zU := zt2 (i := 206) rfl rfl
theorem q2_207 : Cond.code yX4_take cX4_take 3 none ∈ zU := zt2 (i := 207) rfl rfl
theorem q2_209 : Cond.methodLink RL 69 yX6_bribe ∈ zU := zt2 (i := 209) rfl rfl
theorem q2_210 : Cond.instanceMethod yX6_bribe ∈ zU := zt2 (i := 210) rfl rfl
theorem q2_211 : Cond.selects "SnowCitizens" yX6_bribe yX6_bribe ∈ zU := zt2 (i := 211) rfl rfl
theorem q2_212 : Cond.code yX6_bribe cX6_bribe 9 (some .int) ∈ zU := zt2 (i := 212) rfl rfl
theorem q2_213 : Cond.methodLink RX6 262 yX2_nearestShade ∈ zU := zt2 (i := 213) rfl rfl
theorem q2_214 : Cond.instanceMethod yX2_nearestShade ∈ zU := zt2 (i := 214) rfl rfl
theorem q2_215 : Cond.selects "SnowCitizens$North" yX2_nearestShade yX2_nearestShade ∈ zU := zt2 (i := 215) rfl rfl
theorem q2_216 : Cond.code yX2_nearestShade cX2_nearestShade 6 (some .int) ∈ zU := zt2 (i := 216) rfl rfl
theorem q2_217 : Cond.methodLink RX6 266 yX6_costOfVoters ∈ zU := zt2 (i := 217) rfl rfl
theorem q2_219 : Cond.instanceMethod yX6_costOfVoters ∈ zU := zt2 (i := 219) rfl rfl
theorem q2_220 : Cond.code yX6_costOfVoters cX6_costOfVoters 5 (some .int) ∈ zU := zt2 (i := 220) rfl rfl
theorem q2_221 : Cond.methodLink RX6 269 yX6_shadeByVoters ∈ zU := zt2 (i := 221) rfl rfl
theorem q2_223 : Cond.instanceMethod yX6_shadeByVoters ∈ zU := zt2 (i := 223) rfl rfl
theorem q2_224 : Cond.code yX6_shadeByVoters cX6_shadeByVoters 3 (some .int) ∈ zU := zt2 (i := 224) rfl rfl
theorem q2_225 : Cond.methodLink RX6 378 Lib.Math.abs.name ∈ zU := zt2 (i := 225) rfl rfl
theorem q2_226 : Cond.static Lib.Math.abs.name ∈ zU := zt2 (i := 226) rfl rfl
theorem q2_227 : Cond.code Lib.Math.abs.name cJ9_abs_0f7a4 1 (some .int) ∈ zU := zt2 (i := 227) rfl rfl
theorem q2_228 : Cond.methodLink RX6 246 yX2_isCarriedBy ∈ zU := zt2 (i := 228) rfl rfl
theorem q2_229 : Cond.instanceMethod yX2_isCarriedBy ∈ zU := zt2 (i := 229) rfl rfl
theorem q2_230 : Cond.selects "SnowCitizens$North" yX2_isCarriedBy yX2_isCarriedBy ∈ zU := zt2 (i := 230) rfl rfl
theorem q2_231 : Cond.code yX2_isCarriedBy cX2_isCarriedBy 2 (some .boolean) ∈ zU := zt2 (i := 231) rfl rfl
theorem q2_232 : Cond.methodLink RX2 135 yJ6_bitCount_0f7a4 ∈ zU := zt2 (i := 232) rfl rfl
theorem q2_233 : Cond.methodLink RL 75 yX6_carry ∈ zU := zt2 (i := 233) rfl rfl
theorem q2_234 : Cond.instanceMethod yX6_carry ∈ zU := zt2 (i := 234) rfl rfl
theorem q2_235 : Cond.selects "SnowCitizens" yX6_carry yX6_carry ∈ zU := zt2 (i := 235) rfl rfl
theorem q2_236 : Cond.code yX6_carry cX6_carry 6 (some .int) ∈ zU := zt2 (i := 236) rfl rfl
theorem q2_237 : Cond.methodLink RX6 272 yX2_meltedIn ∈ zU := zt2 (i := 237) rfl rfl
theorem q2_238 : Cond.methodLink RX6 276 yX2_hasRight ∈ zU := zt2 (i := 238) rfl rfl
theorem q2_239 : Cond.methodLink RL 81 yX6_census ∈ zU := zt2 (i := 239) rfl rfl
theorem q3_0 : Cond.instanceMethod yX6_census ∈ zU := zt3 (i := 0) rfl rfl
theorem q3_1 : Cond.selects "SnowCitizens" yX6_census yX6_census ∈ zU := zt3 (i := 1) rfl rfl
theorem q3_2 : Cond.code yX6_census cX6_census 6 (some .int) ∈ zU := zt3 (i := 2) rfl rfl
theorem q3_3 : Cond.methodLink RX6 280 yX2_foreseeLiving ∈ zU := zt3 (i := 3) rfl rfl
theorem q3_4 : Cond.instanceMethod yX2_foreseeLiving ∈ zU := zt3 (i := 4) rfl rfl
theorem q3_5 : Cond.selects "SnowCitizens$North" yX2_foreseeLiving yX2_foreseeLiving ∈ zU := zt3 (i := 5) rfl rfl
theorem q3_6 : Cond.code yX2_foreseeLiving cX2_foreseeLiving 2 none ∈ zU := zt3 (i := 6) rfl rfl
theorem q3_7 : Cond.methodLink RX2 121 yX2_foreseeVoters ∈ zU := zt3 (i := 7) rfl rfl
theorem q3_8 : Cond.instanceMethod yX2_foreseeVoters ∈ zU := zt3 (i := 8) rfl rfl
theorem q3_9 : Cond.selects "SnowCitizens$North" yX2_foreseeVoters yX2_foreseeVoters ∈ zU := zt3 (i := 9) rfl rfl
theorem q3_10 : Cond.code yX2_foreseeVoters cX2_foreseeVoters 6 none ∈ zU := zt3 (i := 10) rfl rfl
theorem q3_11 : Cond.methodLink RX6 284 yX6_fillMostCounted ∈ zU := zt3 (i := 11) rfl rfl
theorem q3_13 : Cond.instanceMethod yX6_fillMostCounted ∈ zU := zt3 (i := 13) rfl rfl
theorem q3_14 : Cond.code yX6_fillMostCounted cX6_fillMostCounted 4 none ∈ zU := zt3 (i := 14) rfl rfl
theorem q3_15 : Cond.methodLink RX6 381 yX6_countedFrom ∈ zU := zt3 (i := 15) rfl rfl
theorem q3_17 : Cond.instanceMethod yX6_countedFrom ∈ zU := zt3 (i := 17) rfl rfl
theorem q3_18 : Cond.code yX6_countedFrom cX6_countedFrom 3 (some .int) ∈ zU := zt3 (i := 18) rfl rfl
theorem q3_19 : Cond.methodLink RX6 290 yX6_countedOn ∈ zU := zt3 (i := 19) rfl rfl
theorem q3_21 : Cond.instanceMethod yX6_countedOn ∈ zU := zt3 (i := 21) rfl rfl
theorem q3_22 : Cond.code yX6_countedOn cX6_countedOn 3 (some .int) ∈ zU := zt3 (i := 22) rfl rfl
theorem q3_23 : Cond.methodLink RX6 384 Lib.Math.max.name ∈ zU := zt3 (i := 23) rfl rfl
theorem q3_24 : Cond.methodLink RX6 287 yX6_nextCounted ∈ zU := zt3 (i := 24) rfl rfl
theorem q3_26 : Cond.instanceMethod yX6_nextCounted ∈ zU := zt3 (i := 26) rfl rfl
theorem q3_27 : Cond.code yX6_nextCounted cX6_nextCounted 4 (some .int) ∈ zU := zt3 (i := 27) rfl rfl
theorem q3_28 : Cond.methodLink RL 84 yX6_counted ∈ zU := zt3 (i := 28) rfl rfl
theorem q3_29 : Cond.instanceMethod yX6_counted ∈ zU := zt3 (i := 29) rfl rfl
theorem q3_30 : Cond.selects "SnowCitizens" yX6_counted yX6_counted ∈ zU := zt3 (i := 30) rfl rfl
theorem q3_31 : Cond.code yX6_counted cX6_counted 7 (some .int) ∈ zU := zt3 (i := 31) rfl rfl
theorem q3_32 : Cond.methodLink RL 121 yX6_rights ∈ zU := zt3 (i := 32) rfl rfl
theorem q3_33 : Cond.instanceMethod yX6_rights ∈ zU := zt3 (i := 33) rfl rfl
theorem q3_34 : Cond.selects "SnowCitizens" yX6_rights yX6_rights ∈ zU := zt3 (i := 34) rfl rfl
theorem q3_35 : Cond.code yX6_rights cX6_rights 4 (some .int) ∈ zU := zt3 (i := 35) rfl rfl
theorem q3_36 : Cond.methodLink RX6 304 yX2_votersBy ∈ zU := zt3 (i := 36) rfl rfl
theorem q3_37 : Cond.methodLink RL 105 yX6_odds ∈ zU := zt3 (i := 37) rfl rfl
theorem q3_38 : Cond.instanceMethod yX6_odds ∈ zU := zt3 (i := 38) rfl rfl
theorem q3_39 : Cond.selects "SnowCitizens" yX6_odds yX6_odds ∈ zU := zt3 (i := 39) rfl rfl
theorem q3_40 : Cond.code yX6_odds cX6_odds 4 (some .int) ∈ zU := zt3 (i := 40) rfl rfl
theorem q3_41 : Cond.methodLink RX6 317 yX0_weigh ∈ zU := zt3 (i := 41) rfl rfl
theorem q3_42 : Cond.instanceMethod yX0_weigh ∈ zU := zt3 (i := 42) rfl rfl
theorem q3_43 : Cond.selects "SnowCitizens$Clouds" yX0_weigh yX0_weigh ∈ zU := zt3 (i := 43) rfl rfl
theorem q3_44 : Cond.code yX0_weigh cX0_weigh 6 none ∈ zU := zt3 (i := 44) rfl rfl
theorem q3_45 : Cond.methodLink RX0 18 yX0_clear ∈ zU := zt3 (i := 45) rfl rfl
theorem q3_46 : Cond.static yX0_clear ∈ zU := zt3 (i := 46) rfl rfl
theorem q3_47 : Cond.code yX0_clear cX0_clear 2 none ∈ zU := zt3 (i := 47) rfl rfl
theorem q3_49 : Cond.methodLink RX0 32 yX0_add ∈ zU := zt3 (i := 49) rfl rfl
theorem q3_50 : Cond.static yX0_add ∈ zU := zt3 (i := 50) rfl rfl
theorem q3_51 : Cond.code yX0_add cX0_add 4 none ∈ zU := zt3 (i := 51) rfl rfl
theorem q3_52 : Cond.methodLink RX0 40 yX2_meltingIn ∈ zU := zt3 (i := 52) rfl rfl
theorem q3_53 : Cond.methodLink RX0 44 yX0_pass ∈ zU := zt3 (i := 53) rfl rfl
theorem q3_55 : Cond.instanceMethod yX0_pass ∈ zU := zt3 (i := 55) rfl rfl
theorem q3_56 : Cond.code yX0_pass cX0_pass 4 none ∈ zU := zt3 (i := 56) rfl rfl
theorem q3_57 : Cond.methodLink RX0 50 Lib.Math.max.name ∈ zU := zt3 (i := 57) rfl rfl
theorem q3_58 : Cond.constantLong RX0 48 12 ∈ zU := zt3 (i := 58) rfl rfl
theorem q3_59 : Cond.methodLink RX6 321 yX0_waysToLast ∈ zU := zt3 (i := 59) rfl rfl
theorem q3_60 : Cond.instanceMethod yX0_waysToLast ∈ zU := zt3 (i := 60) rfl rfl
theorem q3_61 : Cond.selects "SnowCitizens$Clouds" yX0_waysToLast yX0_waysToLast ∈ zU := zt3 (i := 61) rfl rfl
theorem q3_62 : Cond.code yX0_waysToLast cX0_waysToLast 4 (some .long) ∈ zU := zt3 (i := 62) rfl rfl
theorem q3_63 : Cond.methodLink RX6 327 yX6_tellChance ∈ zU := zt3 (i := 63) rfl rfl
theorem q3_65 : Cond.instanceMethod yX6_tellChance ∈ zU := zt3 (i := 65) rfl rfl
theorem q3_66 : Cond.code yX6_tellChance cX6_tellChance 7 none ∈ zU := zt3 (i := 66) rfl rfl
theorem q3_67 : Cond.methodLink RX6 359 yX6_commonDivisor ∈ zU := zt3 (i := 67) rfl rfl
theorem q3_68 : Cond.static yX6_commonDivisor ∈ zU := zt3 (i := 68) rfl rfl
theorem q3_69 : Cond.code yX6_commonDivisor cX6_commonDivisor 7 (some .long) ∈ zU := zt3 (i := 69) rfl rfl
theorem q3_70 : Cond.methodLink RL 115 yX6_mid ∈ zU := zt3 (i := 70) rfl rfl
theorem q3_71 : Cond.instanceMethod yX6_mid ∈ zU := zt3 (i := 71) rfl rfl
theorem q3_72 : Cond.selects "SnowCitizens" yX6_mid yX6_mid ∈ zU := zt3 (i := 72) rfl rfl
theorem q3_73 : Cond.code yX6_mid cX6_mid 4 (some .int) ∈ zU := zt3 (i := 73) rfl rfl
theorem q3_74 : Cond.methodLink RX6 331 yX0_bulkOfWays ∈ zU := zt3 (i := 74) rfl rfl
theorem q3_75 : Cond.instanceMethod yX0_bulkOfWays ∈ zU := zt3 (i := 75) rfl rfl
theorem q3_76 : Cond.selects "SnowCitizens$Clouds" yX0_bulkOfWays yX0_bulkOfWays ∈ zU := zt3 (i := 76) rfl rfl
theorem q3_77 : Cond.code yX0_bulkOfWays cX0_bulkOfWays 4 (some .long) ∈ zU := zt3 (i := 77) rfl rfl
theorem q3_78 : Cond.methodLink RL 124 yX6_lots ∈ zU := zt3 (i := 78) rfl rfl
theorem q3_79 : Cond.instanceMethod yX6_lots ∈ zU := zt3 (i := 79) rfl rfl
theorem q3_80 : Cond.selects "SnowCitizens" yX6_lots yX6_lots ∈ zU := zt3 (i := 80) rfl rfl
theorem q3_81 : Cond.code yX6_lots cX6_lots 7 (some .int) ∈ zU := zt3 (i := 81) rfl rfl
theorem q3_82 : Cond.constant RX6 334 2147483646 ∈ zU := zt3 (i := 82) rfl rfl
theorem q3_83 : Cond.constantLong RX6 335 48271 ∈ zU := zt3 (i := 83) rfl rfl
theorem q3_84 : Cond.constantLong RX6 337 2147483647 ∈ zU := zt3 (i := 84) rfl rfl
theorem q3_85 : Cond.constantLong RX6 339 12 ∈ zU := zt3 (i := 85) rfl rfl
theorem q3_86 : Cond.methodLink RL 56 yX6_asked ∈ zU := zt3 (i := 86) rfl rfl
theorem q3_87 : Cond.instanceMethod yX6_asked ∈ zU := zt3 (i := 87) rfl rfl
theorem q3_88 : Cond.selects "SnowCitizens" yX6_asked yX6_asked ∈ zU := zt3 (i := 88) rfl rfl
theorem q3_89 : Cond.code yX6_asked cX6_asked 1 (some .int) ∈ zU := zt3 (i := 89) rfl rfl
theorem q3_90 : Cond.methodLink RL 108 yX6_upper ∈ zU := zt3 (i := 90) rfl rfl
theorem q3_91 : Cond.instanceMethod yX6_upper ∈ zU := zt3 (i := 91) rfl rfl
theorem q3_92 : Cond.selects "SnowCitizens" yX6_upper yX6_upper ∈ zU := zt3 (i := 92) rfl rfl
theorem q3_93 : Cond.code yX6_upper cX6_upper 1 (some .long) ∈ zU := zt3 (i := 93) rfl rfl
theorem q3_94 : Cond.methodLink RL 112 yX6_lower ∈ zU := zt3 (i := 94) rfl rfl
theorem q3_95 : Cond.instanceMethod yX6_lower ∈ zU := zt3 (i := 95) rfl rfl
theorem q3_96 : Cond.selects "SnowCitizens" yX6_lower yX6_lower ∈ zU := zt3 (i := 96) rfl rfl
theorem q3_97 : Cond.code yX6_lower cX6_lower 1 (some .long) ∈ zU := zt3 (i := 97) rfl rfl
theorem q3_98 : Cond.methodLink RL 90 yX6_count ∈ zU := zt3 (i := 98) rfl rfl
theorem q3_99 : Cond.instanceMethod yX6_count ∈ zU := zt3 (i := 99) rfl rfl
theorem q3_100 : Cond.selects "SnowCitizens" yX6_count yX6_count ∈ zU := zt3 (i := 100) rfl rfl
theorem q3_101 : Cond.code yX6_count cX6_count 2 (some .int) ∈ zU := zt3 (i := 101) rfl rfl
theorem q3_102 : Cond.methodLink RX6 344 yX6_countOf ∈ zU := zt3 (i := 102) rfl rfl
theorem q3_104 : Cond.instanceMethod yX6_countOf ∈ zU := zt3 (i := 104) rfl rfl
theorem q3_105 : Cond.code yX6_countOf cX6_countOf 2 (some .int) ∈ zU := zt3 (i := 105) rfl rfl
theorem q3_106 : Cond.methodLink RX6 363 yX2_bulkOfAll ∈ zU := zt3 (i := 106) rfl rfl
theorem q3_107 : Cond.instanceMethod yX2_bulkOfAll ∈ zU := zt3 (i := 107) rfl rfl
theorem q3_108 : Cond.selects "SnowCitizens$North" yX2_bulkOfAll yX2_bulkOfAll ∈ zU := zt3 (i := 108) rfl rfl
theorem q3_109 : Cond.code yX2_bulkOfAll cX2_bulkOfAll 3 (some .int) ∈ zU := zt3 (i := 109) rfl rfl
theorem q3_110 : Cond.methodLink RX6 366 yX2_hattedOnes ∈ zU := zt3 (i := 110) rfl rfl
theorem q3_111 : Cond.instanceMethod yX2_hattedOnes ∈ zU := zt3 (i := 111) rfl rfl
theorem q3_112 : Cond.selects "SnowCitizens$North" yX2_hattedOnes yX2_hattedOnes ∈ zU := zt3 (i := 112) rfl rfl
theorem q3_113 : Cond.code yX2_hattedOnes cX2_hattedOnes 3 (some .int) ∈ zU := zt3 (i := 113) rfl rfl
theorem q3_115 : Cond.static yX6_isOfKind ∈ zU := zt3 (i := 115) rfl rfl
theorem q3_116 : Cond.code yX6_isOfKind cX6_isOfKind 2 (some .boolean) ∈ zU := zt3 (i := 116) rfl rfl
theorem q3_117 : Cond.methodLink RX6 369 yX6_rowsThere ∈ zU := zt3 (i := 117) rfl rfl
theorem q3_119 : Cond.instanceMethod yX6_rowsThere ∈ zU := zt3 (i := 119) rfl rfl
theorem q3_120 : Cond.code yX6_rowsThere cX6_rowsThere 4 (some .int) ∈ zU := zt3 (i := 120) rfl rfl
theorem q3_121 : Cond.methodLink RX6 372 yX6_textsThere ∈ zU := zt3 (i := 121) rfl rfl
theorem q3_123 : Cond.instanceMethod yX6_textsThere ∈ zU := zt3 (i := 123) rfl rfl
theorem q3_124 : Cond.code yX6_textsThere cX6_textsThere 4 (some .int) ∈ zU := zt3 (i := 124) rfl rfl
theorem q3_125 : Cond.methodLink RX6 126 yX6_textOf ∈ zU := zt3 (i := 125) rfl rfl
theorem q3_127 : Cond.instanceMethod yX6_textOf ∈ zU := zt3 (i := 127) rfl rfl
theorem q3_128 : Cond.code yX6_textOf cX6_textOf 2 (Option.some (.object "SnowCitizens$Text")) ∈ zU := zt3 (i := 128) rfl rfl
theorem q3_129 : Cond.methodLink RX6 375 yX6_keptThere ∈ zU := zt3 (i := 129) rfl rfl
theorem q3_131 : Cond.instanceMethod yX6_keptThere ∈ zU := zt3 (i := 131) rfl rfl
theorem q3_132 : Cond.code yX6_keptThere cX6_keptThere 4 (some .int) ∈ zU := zt3 (i := 132) rfl rfl
theorem q3_133 : Cond.methodLink RL 9 yL_cell ∈ zU := zt3 (i := 133) rfl rfl
theorem q3_134 : Cond.static yL_cell ∈ zU := zt3 (i := 134) rfl rfl
theorem q3_135 : Cond.code yL_cell cL_cell 2 (some .int) ∈ zU := zt3 (i := 135) rfl rfl
theorem q3_136 : Cond.constant RL 7 320440878 ∈ zU := zt3 (i := 136) rfl rfl
theorem q3_137 : Cond.methodLink RL 15 yL_up ∈ zU := zt3 (i := 137) rfl rfl
theorem q3_138 : Cond.static yL_up ∈ zU := zt3 (i := 138) rfl rfl
theorem q3_139 : Cond.code yL_up cL_up 2 (some .int) ∈ zU := zt3 (i := 139) rfl rfl
theorem q3_140 : Cond.constant RL 8 2147483647 ∈ zU := zt3 (i := 140) rfl rfl
theorem q3_141 : Cond.methodLink RL 127 yL_bits ∈ zU := zt3 (i := 141) rfl rfl
theorem q3_142 : Cond.static yL_bits ∈ zU := zt3 (i := 142) rfl rfl
theorem q3_143 : Cond.code yL_bits cL_bits 3 (some .int) ∈ zU := zt3 (i := 143) rfl rfl
theorem q3_144 : Cond.methodLink RL 39 yL_lay ∈ zU := zt3 (i := 144) rfl rfl
theorem q3_145 : Cond.static yL_lay ∈ zU := zt3 (i := 145) rfl rfl
theorem q3_146 : Cond.code yL_lay cL_lay 5 none ∈ zU := zt3 (i := 146) rfl rfl
theorem q3_147 : Cond.methodLink RL 43 yL_made ∈ zU := zt3 (i := 147) rfl rfl
theorem q3_148 : Cond.static yL_made ∈ zU := zt3 (i := 148) rfl rfl
theorem q3_149 : Cond.code yL_made cL_made 6 (some .boolean) ∈ zU := zt3 (i := 149) rfl rfl
theorem q3_150 : Cond.methodLink RL 19 yX6_text ∈ zU := zt3 (i := 150) rfl rfl
theorem q3_151 : Cond.instanceMethod yX6_text ∈ zU := zt3 (i := 151) rfl rfl
theorem q3_152 : Cond.selects "SnowCitizens" yX6_text yX6_text ∈ zU := zt3 (i := 152) rfl rfl
theorem q3_153 : Cond.code yX6_text cX6_text 4 (some .int) ∈ zU := zt3 (i := 153) rfl rfl
theorem q3_154 : Cond.methodLink RX6 130 yX5_renew ∈ zU := zt3 (i := 154) rfl rfl
theorem q3_155 : Cond.instanceMethod yX5_renew ∈ zU := zt3 (i := 155) rfl rfl
theorem q3_156 : Cond.selects "SnowCitizens$Text" yX5_renew yX5_renew ∈ zU := zt3 (i := 156) rfl rfl
theorem q3_157 : Cond.code yX5_renew cX5_renew 3 none ∈ zU := zt3 (i := 157) rfl rfl
theorem q3_158 : Cond.methodLink RL 24 yX6_put ∈ zU := zt3 (i := 158) rfl rfl
theorem q3_159 : Cond.instanceMethod yX6_put ∈ zU := zt3 (i := 159) rfl rfl
theorem q3_160 : Cond.selects "SnowCitizens" yX6_put yX6_put ∈ zU := zt3 (i := 160) rfl rfl
theorem q3_161 : Cond.code yX6_put cX6_put 6 (some .int) ∈ zU := zt3 (i := 161) rfl rfl
theorem q3_162 : Cond.methodLink RX6 133 yX5_sign ∈ zU := zt3 (i := 162) rfl rfl
theorem q3_163 : Cond.instanceMethod yX5_sign ∈ zU := zt3 (i := 163) rfl rfl
theorem q3_164 : Cond.selects "SnowCitizens$Text" yX5_sign yX5_sign ∈ zU := zt3 (i := 164) rfl rfl
theorem q3_165 : Cond.code yX5_sign cX5_sign 2 (some .int) ∈ zU := zt3 (i := 165) rfl rfl
theorem q3_166 : Cond.methodLink RX6 136 yX5_change ∈ zU := zt3 (i := 166) rfl rfl
theorem q3_167 : Cond.instanceMethod yX5_change ∈ zU := zt3 (i := 167) rfl rfl
theorem q3_168 : Cond.selects "SnowCitizens$Text" yX5_change yX5_change ∈ zU := zt3 (i := 168) rfl rfl
theorem q3_169 : Cond.code yX5_change cX5_change 3 none ∈ zU := zt3 (i := 169) rfl rfl
theorem q3_170 : Cond.methodLink RL 28 yL_letter ∈ zU := zt3 (i := 170) rfl rfl
theorem q3_171 : Cond.static yL_letter ∈ zU := zt3 (i := 171) rfl rfl
theorem q3_172 : Cond.code yL_letter cL_letter 1 (some .int) ∈ zU := zt3 (i := 172) rfl rfl
theorem q3_173 : Cond.methodLink RL 32 yX6_fault ∈ zU := zt3 (i := 173) rfl rfl
theorem q3_174 : Cond.instanceMethod yX6_fault ∈ zU := zt3 (i := 174) rfl rfl
theorem q3_175 : Cond.selects "SnowCitizens" yX6_fault yX6_fault ∈ zU := zt3 (i := 175) rfl rfl
theorem q3_176 : Cond.code yX6_fault cX6_fault 3 (some .int) ∈ zU := zt3 (i := 176) rfl rfl
theorem q3_177 : Cond.methodLink RX6 140 yX3_faultIn ∈ zU := zt3 (i := 177) rfl rfl
theorem q3_178 : Cond.instanceMethod yX3_faultIn ∈ zU := zt3 (i := 178) rfl rfl
theorem q3_179 : Cond.selects "SnowCitizens$Reading" yX3_faultIn yX3_faultIn ∈ zU := zt3 (i := 179) rfl rfl
theorem q3_180 : Cond.code yX3_faultIn cX3_faultIn 3 (some .int) ∈ zU := zt3 (i := 180) rfl rfl
theorem q3_181 : Cond.methodLink RX3 39 yX5_sign ∈ zU := zt3 (i := 181) rfl rfl
theorem q3_182 : Cond.methodLink RX3 43 yX3_takes ∈ zU := zt3 (i := 182) rfl rfl
theorem q3_184 : Cond.instanceMethod yX3_takes ∈ zU := zt3 (i := 184) rfl rfl
theorem q3_185 : Cond.code yX3_takes cX3_takes 3 (some .boolean) ∈ zU := zt3 (i := 185) rfl rfl
theorem q3_186 : Cond.methodLink RX3 47 yX3_takesSun ∈ zU := zt3 (i := 186) rfl rfl
theorem q3_188 : Cond.instanceMethod yX3_takesSun ∈ zU := zt3 (i := 188) rfl rfl
theorem q3_189 : Cond.code yX3_takesSun cX3_takesSun 2 (some .boolean) ∈ zU := zt3 (i := 189) rfl rfl
theorem q3_190 : Cond.methodLink RX3 50 yX3_takesLetter ∈ zU := zt3 (i := 190) rfl rfl
theorem q3_192 : Cond.instanceMethod yX3_takesLetter ∈ zU := zt3 (i := 192) rfl rfl
theorem q3_193 : Cond.code yX3_takesLetter cX3_takesLetter 3 (some .boolean) ∈ zU := zt3 (i := 193) rfl rfl
theorem q3_194 : Cond.methodLink RX3 56 yX3_kindBy ∈ zU := zt3 (i := 194) rfl rfl
theorem q3_195 : Cond.static yX3_kindBy ∈ zU := zt3 (i := 195) rfl rfl
theorem q3_196 : Cond.code yX3_kindBy cX3_kindBy 1 (some .int) ∈ zU := zt3 (i := 196) rfl rfl
theorem q3_198 : Cond.methodLink RX3 53 yX3_takesFigure ∈ zU := zt3 (i := 198) rfl rfl
theorem q3_200 : Cond.instanceMethod yX3_takesFigure ∈ zU := zt3 (i := 200) rfl rfl
theorem q3_201 : Cond.code yX3_takesFigure cX3_takesFigure 3 (some .boolean) ∈ zU := zt3 (i := 201) rfl rfl
theorem q3_203 : Cond.methodLink RL 35 yX6_north ∈ zU := zt3 (i := 203) rfl rfl
theorem q3_204 : Cond.instanceMethod yX6_north ∈ zU := zt3 (i := 204) rfl rfl
theorem q3_205 : Cond.selects "SnowCitizens" yX6_north yX6_north ∈ zU := zt3 (i := 205) rfl rfl
theorem q3_206 : Cond.code yX6_north cX6_north 5 (some .int) ∈ zU := zt3 (i := 206) rfl rfl
theorem q3_207 : Cond.methodLink RX6 144 yX2_settle ∈ zU := zt3 (i := 207) rfl rfl
theorem q3_208 : Cond.instanceMethod yX2_settle ∈ zU := zt3 (i := 208) rfl rfl
theorem q3_209 : Cond.selects "SnowCitizens$North" yX2_settle yX2_settle ∈ zU := zt3 (i := 209) rfl rfl
theorem q3_210 : Cond.code yX2_settle cX2_settle 2 none ∈ zU := zt3 (i := 210) rfl rfl
theorem qs_0 : Cond.selects RX6 yX6_rowOf yX6_rowOf ∈ zU := zsel (i := 0) rfl
theorem qs_1 : Cond.selects RX6 yX6_found yX6_found ∈ zU := zsel (i := 1) rfl
theorem qs_2 : Cond.selects RX6 yX6_tell yX6_tell ∈ zU := zsel (i := 2) rfl
theorem qs_3 : Cond.selects RX2 yX2_voteNow yX2_voteNow ∈ zU := zsel (i := 3) rfl
theorem qs_4 : Cond.selects RX2 yX2_votesOne yX2_votesOne ∈ zU := zsel (i := 4) rfl
theorem qs_5 : Cond.selects RX2 yX2_perform yX2_perform ∈ zU := zsel (i := 5) rfl
theorem qs_6 : Cond.selects RX2 yX2_meltAll yX2_meltAll ∈ zU := zsel (i := 6) rfl
theorem qs_7 : Cond.selects RX2 yX2_melting yX2_melting ∈ zU := zsel (i := 7) rfl
theorem qs_8 : Cond.selects RX2 yX2_restart yX2_restart ∈ zU := zsel (i := 8) rfl
theorem qs_9 : Cond.selects RX6 yX6_keptOf yX6_keptOf ∈ zU := zsel (i := 9) rfl
theorem qs_10 : Cond.selects RX2 yX2_bulkBy yX2_bulkBy ∈ zU := zsel (i := 10) rfl
theorem qs_11 : Cond.selects RX6 yX6_costOfVoters yX6_costOfVoters ∈ zU := zsel (i := 11) rfl
theorem qs_12 : Cond.selects RX6 yX6_shadeByVoters yX6_shadeByVoters ∈ zU := zsel (i := 12) rfl
theorem qs_13 : Cond.selects RX6 yX6_fillMostCounted yX6_fillMostCounted ∈ zU := zsel (i := 13) rfl
theorem qs_14 : Cond.selects RX6 yX6_countedFrom yX6_countedFrom ∈ zU := zsel (i := 14) rfl
theorem qs_15 : Cond.selects RX6 yX6_countedOn yX6_countedOn ∈ zU := zsel (i := 15) rfl
theorem qs_16 : Cond.selects RX6 yX6_nextCounted yX6_nextCounted ∈ zU := zsel (i := 16) rfl
theorem qs_17 : Cond.selects RX0 yX0_pass yX0_pass ∈ zU := zsel (i := 17) rfl
theorem qs_18 : Cond.selects RX6 yX6_tellChance yX6_tellChance ∈ zU := zsel (i := 18) rfl
theorem qs_19 : Cond.selects RX6 yX6_countOf yX6_countOf ∈ zU := zsel (i := 19) rfl
theorem qs_20 : Cond.selects RX6 yX6_rowsThere yX6_rowsThere ∈ zU := zsel (i := 20) rfl
theorem qs_21 : Cond.selects RX6 yX6_textsThere yX6_textsThere ∈ zU := zsel (i := 21) rfl
theorem qs_22 : Cond.selects RX6 yX6_textOf yX6_textOf ∈ zU := zsel (i := 22) rfl
theorem qs_23 : Cond.selects RX6 yX6_keptThere yX6_keptThere ∈ zU := zsel (i := 23) rfl
theorem qs_24 : Cond.selects RX3 yX3_takes yX3_takes ∈ zU := zsel (i := 24) rfl
theorem qs_25 : Cond.selects RX3 yX3_takesSun yX3_takesSun ∈ zU := zsel (i := 25) rfl
theorem qs_26 : Cond.selects RX3 yX3_takesLetter yX3_takesLetter ∈ zU := zsel (i := 26) rfl
theorem qs_27 : Cond.selects RX3 yX3_takesFigure yX3_takesFigure ∈ zU := zsel (i := 27) rfl
theorem inU0r : ∀ k, k < 3 → u_lay RX0 TX0 k ∈ zU
  | 0, _ => q1_148
  | 1, _ => q1_150
  | 2, _ => q1_152
  | k + 3, h => absurd h (by omega)
theorem inU0 : ∀ w ∈ wsX00, w ∈ zU := fun w h => by
  obtain ⟨k, hk, rfl⟩ := List.mem_map.mp h
  have hk := List.mem_range.mp hk
  exact inU0r k hk
theorem inU1r : ∀ k, k < 5 → u_lay RX1 TX1 k ∈ zU
  | 0, _ => q1_127
  | 1, _ => q1_129
  | 2, _ => q1_131
  | 3, _ => q1_133
  | 4, _ => q1_135
  | k + 5, h => absurd h (by omega)
theorem inU1 : ∀ w ∈ wsX10, w ∈ zU := fun w h => by
  obtain ⟨k, hk, rfl⟩ := List.mem_map.mp h
  have hk := List.mem_range.mp hk
  exact inU1r k hk
theorem inU2r : ∀ k, k < 14 → u_lay RX2 TX2 k ∈ zU
  | 0, _ => q1_50
  | 1, _ => q1_52
  | 2, _ => q1_54
  | 3, _ => q1_56
  | 4, _ => q1_58
  | 5, _ => q1_60
  | 6, _ => q1_62
  | 7, _ => q1_64
  | 8, _ => q1_66
  | 9, _ => q1_68
  | 10, _ => q1_70
  | 11, _ => q1_72
  | 12, _ => q1_74
  | 13, _ => q1_76
  | k + 14, h => absurd h (by omega)
theorem inU2 : ∀ w ∈ wsX20, w ∈ zU := fun w h => by
  obtain ⟨k, hk, rfl⟩ := List.mem_map.mp h
  have hk := List.mem_range.mp hk
  exact inU2r k hk
theorem inU3r : ∀ k, k < 8 → u_lay RX3 TX3 k ∈ zU
  | 0, _ => q1_102
  | 1, _ => q1_104
  | 2, _ => q1_106
  | 3, _ => q1_108
  | 4, _ => q1_110
  | 5, _ => q1_112
  | 6, _ => q1_114
  | 7, _ => q1_116
  | k + 8, h => absurd h (by omega)
theorem inU3 : ∀ w ∈ wsX30, w ∈ zU := fun w h => by
  obtain ⟨k, hk, rfl⟩ := List.mem_map.mp h
  have hk := List.mem_range.mp hk
  exact inU3r k hk
theorem inU4r : ∀ k, k < 3 → u_lay RX4 TX4 k ∈ zU
  | 0, _ => q1_167
  | 1, _ => q1_169
  | 2, _ => q1_171
  | k + 3, h => absurd h (by omega)
theorem inU4 : ∀ w ∈ wsX40, w ∈ zU := fun w h => by
  obtain ⟨k, hk, rfl⟩ := List.mem_map.mp h
  have hk := List.mem_range.mp hk
  exact inU4r k hk
theorem inU5r : ∀ k, k < 3 → u_lay RX5 TX5 k ∈ zU
  | 0, _ => q1_185
  | 1, _ => q1_187
  | 2, _ => q1_189
  | k + 3, h => absurd h (by omega)
theorem inU5 : ∀ w ∈ wsX50, w ∈ zU := fun w h => by
  obtain ⟨k, hk, rfl⟩ := List.mem_map.mp h
  have hk := List.mem_range.mp hk
  exact inU5r k hk
theorem inU6r : ∀ k, k < 17 → u_lay RX6 TX6 k ∈ zU
  | 0, _ => q1_210
  | 1, _ => q1_212
  | 2, _ => q1_214
  | 3, _ => q1_216
  | 4, _ => q1_218
  | 5, _ => q1_220
  | 6, _ => q1_222
  | 7, _ => q1_224
  | 8, _ => q1_226
  | 9, _ => q1_228
  | 10, _ => q1_230
  | 11, _ => q1_232
  | 12, _ => q1_234
  | 13, _ => q1_236
  | 14, _ => q1_238
  | 15, _ => q2_0
  | 16, _ => q2_2
  | k + 17, h => absurd h (by omega)
theorem inU6 : ∀ w ∈ wsX60, w ∈ zU := fun w h => by
  obtain ⟨k, hk, rfl⟩ := List.mem_map.mp h
  have hk := List.mem_range.mp hk
  exact inU6r k hk
end
section
/-! THE FLAT MEMORY: every object and row of the two systems has a number (its code); nothing is made after the two constructors. M.1 x j: the int in slot j of code x; M.2 x j: the long there. -/
abbrev Gv : Type := va_G × (Nat → Nat) × (Nat → ClassId)
abbrev Mm : Type := (Nat → Nat → Int32) × (Nat → Nat → Int64)
def zNC : Nat := 87
def zkL : List Nat := [10, 12, 12, 12, 12, 12, 12, 1, 1, 1, 1, 1, 1, 13, 13, 13, 13, 0, 0, 0, 0, 5, 6, 4, 11, 1, 1, 1, 1, 1, 1, 1, 1, 1, 1, 11, 1, 1, 1, 1, 1, 1, 1, 1, 1, 1, 11, 1, 1, 1, 1, 1, 1, 1, 1, 1, 1, 11, 1, 1, 1, 1, 1, 1, 1, 1, 1, 1, 14, 1, 1, 1, 1, 1, 15, 1, 1, 16, 2, 2, 1, 1, 1, 1, 1, 1, 1]
def zlL : List Nat := [0, 0, 0, 0, 0, 0, 0, 40, 40, 40, 40, 40, 40, 0, 0, 0, 0, 60, 60, 60, 60, 0, 0, 0, 0, 8, 6, 6, 6, 6, 6, 6, 60, 60, 60, 0, 8, 6, 6, 6, 6, 6, 6, 60, 60, 60, 0, 8, 6, 6, 6, 6, 6, 6, 60, 60, 60, 0, 8, 6, 6, 6, 6, 6, 6, 60, 60, 60, 0, 8, 6, 6, 6, 6, 0, 6, 6, 0, 100, 100, 6, 61, 6, 6, 6, 64, 40]
/-- kind of a code: 0 bytes, 1 ints, 2 longs, 3 booleans, 4 5 6 rows of norths, rows, texts; 10 the first system, 11 a north, 12 a row, 13 a text, 14 the reading, 15 the game, 16 the clouds, 17 the second system -/
def kd (x : Nat) : Nat := zkL.getD x 99
def ln (x : Nat) : Nat := zlL.getD x 0
def ad (G : Gv) (x : Nat) : Nat := G.2.1 x
def zfS (G : Gv) (f : Nat → Int32) (g : Nat → Int64) : List Value := [.ref (ad G 21), .ref (ad G 22), .ref (ad G 24), .ref (ad G 23), .ref (ad G 68), .ref (ad G 74), .ref (ad G 77), .ref (ad G 80), .int (f 8), .int (f 9), .long (g 10), .long (g 11), .ref (ad G 81), .ref (ad G 82), .ref (ad G 83), .ref (ad G 84), .ref (ad G 85)]
def zfN (G : Gv) (x : Nat) (f : Nat → Int32) (_ : Nat → Int64) : List Value := [.int (f 0), .int (f 1), .int (f 2), .int (f 3), .ref (ad G (x + 1)), .ref (ad G (x + 2)), .ref (ad G (x + 3)), .ref (ad G (x + 4)), .ref (ad G (x + 5)), .ref (ad G (x + 6)), .ref (ad G (x + 7)), .ref (ad G (x + 8)), .ref (ad G (x + 9)), .ref (ad G (x + 10))]
def zfR (G : Gv) (x : Nat) (f : Nat → Int32) (_ : Nat → Int64) : List Value := [.int (f 0), .int (f 1), .ref (ad G (x + 6))]
def zfT (G : Gv) (x : Nat) (f : Nat → Int32) (_ : Nat → Int64) : List Value := [.int (f 0), .int (f 1), .ref (ad G (x + 4))]
def zfD (G : Gv) (f : Nat → Int32) (_ : Nat → Int64) : List Value := [.int (f 0), .int (f 1), .int (f 2), .ref (ad G 69), .ref (ad G 70), .ref (ad G 71), .ref (ad G 72), .ref (ad G 73)]
def zfG (G : Gv) (f : Nat → Int32) (g : Nat → Int64) : List Value := [.int (f 0), .int (f 1), .long (g 2), .ref (ad G 75), .ref (ad G 76)]
def zfC (G : Gv) (_ : Nat → Int32) (g : Nat → Int64) : List Value := [.ref (ad G 78), .ref (ad G 79), .long (g 2)]
def zE (G : Gv) (f : Nat → Int32) (g : Nat → Int64) (x : Nat) : va_E := match kd x with
  | 0 => .inl (G.2.2 0, ln x, .inl f)
  | 1 => .inl (G.2.2 1, ln x, .inl f)
  | 2 => .inl (G.2.2 2, ln x, .inr (.inl g))
  | 3 => .inl (G.2.2 3, ln x, .inl f)
  | 4 => .inl (G.2.2 4, 3, .inr (.inr (.inr (.inr (fun i => some (ad G (35 + 11 * i)))))))
  | 5 => .inl (G.2.2 5, 6, .inr (.inr (.inr (.inr (fun i => some (ad G (1 + i)))))))
  | 6 => .inl (G.2.2 6, 4, .inr (.inr (.inr (.inr (fun i => some (ad G (13 + i)))))))
  | 10 => .inr (6, zfS G f g)
  | 11 => .inr (2, zfN G x f g)
  | 12 => .inr (4, zfR G x f g)
  | 13 => .inr (5, zfT G x f g)
  | 14 => .inr (3, zfD G f g)
  | 15 => .inr (1, zfG G f g)
  | _ => .inr (0, zfC G f g)
def zwL (G : Gv) (M : Mm) : va_W := (List.range zNC).map (fun x => (ad G x, zE G (M.1 x) (M.2 x) x))
def zA (G : Gv) : Nat → Prop := fun q => ∃ x, x < zNC ∧ q = ad G x
def ztyL (G : Gv) : List (ClassId × FieldType) := [(G.2.2 0, .byte), (G.2.2 1, .int), (G.2.2 2, .long), (G.2.2 3, .int), (G.2.2 4, .object "SnowCitizens$North"), (G.2.2 5, .object "SnowCitizens$Row"), (G.2.2 6, .object "SnowCitizens$Text")]
def znw : List (String × Nat × MethodName) := [(RX6, 23, yX2_init), (RX6, 34, yX3_init), (RX6, 41, yX1_init), (RX6, 48, yX0_init), (RX6, 76, yX4_init), (RX6, 77, yX5_init), (RX2, 81, yX6_read), (RX2, 125, yX6_isIn), (RX2, 73, yX6_write), (RX2, 56, yX6_writeAll), (RX4, 23, yX6_writeAll), (RX0, 28, yX6_read), (RX2, 143, yX6_isOfKind), (RX3, 59, yX6_write), (RX3, 66, yX6_read)]
def zNW (U : State) : Prop := ∀ (i : Nat) (q : String × Nat × MethodName), znw[i]? = some q → va_Nw (.methodLinkNest q.1 q.2.1 q.2.2 "SnowCitizens") U
/-- the world of a start or an end -/
def Wd (G : Gv) (M : Mm) (U : State) : Prop := va_K G.1 vwCl (ztyL G) U ∧ va_P G.1 vwCl (zwL G M) U.heap ∧ va_D (zA G) (zwL G M) ∧ zNW U
/-- the world on the way -/
def St (G : Gv) (s : State) (H : Heap) (locs : List Loc) (M : Mm) : Prop := va_K G.1 vwCl (ztyL G) s ∧ va_P G.1 vwCl (zwL G M) H ∧ va_D (zA G) (zwL G M) ∧ zNW s ∧ va_S (zA G) s.heap H locs
def pI (M : Mm) (x j : Nat) (v : Int32) : Mm := (fun a => if a = x then upd (M.1 x) j v else M.1 a, M.2)
def pL (M : Mm) (x j : Nat) (v : Int64) : Mm := (M.1, fun a => if a = x then vp_updL (M.2 x) j v else M.2 a)
def pC (M : Mm) (x y sp dp n : Nat) : Mm := (fun a => if a = y then va_cpy (M.1 x) (M.1 y) sp dp n else M.1 a, M.2)
theorem kd_lt {x k : Nat} (h : kd x = k) (hk : k ≠ 99) : x < zNC := by
  refine Nat.lt_of_not_le fun q => hk ?_
  rw [← h]
  unfold kd
  rw [List.getD_eq_getElem?_getD, List.getElem?_eq_none (by exact q)]
  rfl
theorem zkeys {P : Nat → Prop} (h : ∀ x, x < zNC → P x) {x k : Nat} (hx : kd x = k) (hk : k ≠ 99) : P x := h x (kd_lt hx hk)
theorem kdN {b : Nat} (h : kd b = 11) : b = 24 ∨ b = 35 ∨ b = 46 ∨ b = 57 := zkeys (P := fun b => kd b = 11 → b = 24 ∨ b = 35 ∨ b = 46 ∨ b = 57) (by decide +kernel) h (by decide) h
theorem kdR {b : Nat} (h : kd b = 12) : b = 1 ∨ b = 2 ∨ b = 3 ∨ b = 4 ∨ b = 5 ∨ b = 6 := zkeys (P := fun b => kd b = 12 → b = 1 ∨ b = 2 ∨ b = 3 ∨ b = 4 ∨ b = 5 ∨ b = 6) (by decide +kernel) h (by decide) h
theorem kdT {b : Nat} (h : kd b = 13) : b = 13 ∨ b = 14 ∨ b = 15 ∨ b = 16 := zkeys (P := fun b => kd b = 13 → b = 13 ∨ b = 14 ∨ b = 15 ∨ b = 16) (by decide +kernel) h (by decide) h
theorem kdRc {b : Nat} (h : kd b = 12) : kd (b + 6) = 1 := by rcases kdR h with rfl | rfl | rfl | rfl | rfl | rfl <;> rfl
theorem kdTc {b : Nat} (h : kd b = 13) : kd (b + 4) = 0 := by rcases kdT h with rfl | rfl | rfl | rfl <;> rfl
theorem lnRc {b : Nat} (h : kd b = 12) : ln (b + 6) = 40 := by rcases kdR h with rfl | rfl | rfl | rfl | rfl | rfl <;> rfl
theorem lnTc {b : Nat} (h : kd b = 13) : ln (b + 4) = 60 := by rcases kdT h with rfl | rfl | rfl | rfl <;> rfl
theorem kdN1 {b : Nat} (h : kd b = 11) : kd (b + 1) = 1 := by rcases kdN h with rfl | rfl | rfl | rfl <;> rfl
theorem lnN1 {b : Nat} (h : kd b = 11) : ln (b + 1) = 8 := by rcases kdN h with rfl | rfl | rfl | rfl <;> rfl
theorem kdN2 {b : Nat} (h : kd b = 11) : kd (b + 2) = 1 := by rcases kdN h with rfl | rfl | rfl | rfl <;> rfl
theorem lnN2 {b : Nat} (h : kd b = 11) : ln (b + 2) = 6 := by rcases kdN h with rfl | rfl | rfl | rfl <;> rfl
theorem kdN3 {b : Nat} (h : kd b = 11) : kd (b + 3) = 1 := by rcases kdN h with rfl | rfl | rfl | rfl <;> rfl
theorem lnN3 {b : Nat} (h : kd b = 11) : ln (b + 3) = 6 := by rcases kdN h with rfl | rfl | rfl | rfl <;> rfl
theorem kdN4 {b : Nat} (h : kd b = 11) : kd (b + 4) = 1 := by rcases kdN h with rfl | rfl | rfl | rfl <;> rfl
theorem lnN4 {b : Nat} (h : kd b = 11) : ln (b + 4) = 6 := by rcases kdN h with rfl | rfl | rfl | rfl <;> rfl
theorem kdN5 {b : Nat} (h : kd b = 11) : kd (b + 5) = 1 := by rcases kdN h with rfl | rfl | rfl | rfl <;> rfl
theorem lnN5 {b : Nat} (h : kd b = 11) : ln (b + 5) = 6 := by rcases kdN h with rfl | rfl | rfl | rfl <;> rfl
theorem kdN6 {b : Nat} (h : kd b = 11) : kd (b + 6) = 1 := by rcases kdN h with rfl | rfl | rfl | rfl <;> rfl
theorem lnN6 {b : Nat} (h : kd b = 11) : ln (b + 6) = 6 := by rcases kdN h with rfl | rfl | rfl | rfl <;> rfl
theorem kdN7 {b : Nat} (h : kd b = 11) : kd (b + 7) = 1 := by rcases kdN h with rfl | rfl | rfl | rfl <;> rfl
theorem lnN7 {b : Nat} (h : kd b = 11) : ln (b + 7) = 6 := by rcases kdN h with rfl | rfl | rfl | rfl <;> rfl
theorem kdN8 {b : Nat} (h : kd b = 11) : kd (b + 8) = 1 := by rcases kdN h with rfl | rfl | rfl | rfl <;> rfl
theorem lnN8 {b : Nat} (h : kd b = 11) : ln (b + 8) = 60 := by rcases kdN h with rfl | rfl | rfl | rfl <;> rfl
theorem kdN9 {b : Nat} (h : kd b = 11) : kd (b + 9) = 1 := by rcases kdN h with rfl | rfl | rfl | rfl <;> rfl
theorem lnN9 {b : Nat} (h : kd b = 11) : ln (b + 9) = 60 := by rcases kdN h with rfl | rfl | rfl | rfl <;> rfl
theorem kdN10 {b : Nat} (h : kd b = 11) : kd (b + 10) = 1 := by rcases kdN h with rfl | rfl | rfl | rfl <;> rfl
theorem lnN10 {b : Nat} (h : kd b = 11) : ln (b + 10) = 60 := by rcases kdN h with rfl | rfl | rfl | rfl <;> rfl
theorem kdRi {i : Int32} (h : ¬ (i < 0 ∨ 6 ≤ i.toNatClampNeg)) : kd (1 + i.toNatClampNeg) = 12 := by
  have h2 : i.toNatClampNeg < 6 := by omega
  have : ∀ j, j < 6 → kd (1 + j) = 12 := by decide +kernel
  exact this _ h2
theorem kdTi {i : Int32} (h : ¬ (i < 0 ∨ 4 ≤ i.toNatClampNeg)) : kd (13 + i.toNatClampNeg) = 13 := by
  have h2 : i.toNatClampNeg < 4 := by omega
  have : ∀ j, j < 4 → kd (13 + j) = 13 := by decide +kernel
  exact this _ h2
theorem kdNi {i : Int32} (h : ¬ (i < 0 ∨ 3 ≤ i.toNatClampNeg)) : kd (35 + 11 * i.toNatClampNeg) = 11 := by
  have h2 : i.toNatClampNeg < 3 := by omega
  have : ∀ j, j < 3 → kd (35 + 11 * j) = 11 := by decide +kernel
  exact this _ h2
theorem ln_lt (x : Nat) : ln x < 2 ^ 31 := by
  by_cases h : x < zNC
  · have : ∀ x, x < zNC → ln x < 2 ^ 31 := by decide +kernel
    exact this x h
  · unfold ln
    rw [List.getD_eq_getElem?_getD, List.getElem?_eq_none (by exact Nat.not_lt.mp h)]
    decide
theorem zwL_get {G : Gv} {M : Mm} {x : Nat} (hx : x < zNC) : (zwL G M)[x]? = some (ad G x, zE G (M.1 x) (M.2 x) x) := by
  unfold zwL
  rw [List.getElem?_map, List.getElem?_range hx]
  rfl
theorem zwL_set {G : Gv} {M M' : Mm} {x : Nat} (hx : x < zNC) (h : ∀ a, a ≠ x → M'.1 a = M.1 a ∧ M'.2 a = M.2 a) : (zwL G M).set x (ad G x, zE G (M'.1 x) (M'.2 x) x) = zwL G M' := by
  apply List.ext_getElem?
  intro j
  by_cases hj : j = x
  · subst hj
    rw [zwL_get hx, List.getElem?_set_self (by unfold zwL; simpa using hx)]
  · rw [List.getElem?_set_ne (Ne.symm hj)]
    by_cases hz : j < zNC
    · rw [zwL_get hz, zwL_get hz, (h j hj).1, (h j hj).2]
    · rw [List.getElem?_eq_none (by unfold zwL; simpa using hz), List.getElem?_eq_none (by unfold zwL; simpa using hz)]
theorem zD_of {G : Gv} {M M' : Mm} {A : Nat → Prop} (h : va_D A (zwL G M)) : va_D A (zwL G M') := by
  have key : ∀ (k : Nat) (q : Nat × va_E), (zwL G M')[k]? = some q → ∃ q0, (zwL G M)[k]? = some q0 ∧ q0.1 = q.1 := by
    intro k q hk
    have hl := (List.getElem?_eq_some_iff.mp hk).1
    have hx : k < zNC := by unfold zwL at hl; simpa using hl
    rw [zwL_get hx] at hk
    cases hk
    exact ⟨_, zwL_get hx, rfl⟩
  refine ⟨fun i j x y hi hj hxy => ?_, fun k q hk => ?_⟩
  · obtain ⟨x0, h1, h2⟩ := key i x hi
    obtain ⟨y0, h3, h4⟩ := key j y hj
    exact h.1 i j x0 y0 h1 h3 (h2.trans (hxy.trans h4.symm))
  · obtain ⟨q0, h1, h2⟩ := key k q hk
    rw [← h2]
    exact h.2 k q0 h1
theorem zA_in {G : Gv} {x : Nat} (hx : x < zNC) : zA G (ad G x) := ⟨x, hx, rfl⟩
theorem St.wd {G : Gv} {s t : State} {H : Heap} {locs : List Loc} {M : Mm} (h : St G s H locs M) (ht : t.heap = H) (hW : s.WarmedH t.vm) : Wd G M t := by
  obtain ⟨h1, h2, h3, h4, -⟩ := h
  refine ⟨va_K.moved hW.alike h1, by rw [ht]; exact h2, h3, fun i w hw => ?_⟩
  have h5 := h4 i w hw
  exact va_Nw.warmM hW h5
theorem St.F {G : Gv} {s t : State} {H : Heap} {locs : List Loc} {M : Mm} (h : St G s H locs M) (ht : t.heap = H) : va_F (zA G) s t := h.2.2.2.2.F ht
theorem Wd.blind {G : Gv} {M : Mm} {As : List Value} : FrameBlind (va_Pc As (Wd G M)) := fun a U g mk q => by
  obtain ⟨q0, q1, q2, q3, q4⟩ := q
  exact ⟨q0, va_K.moved (u := U) (U := U.calling g mk a) (Vm.Alike.refl U.vm) q1, q2, q3, fun i w hw => va_Nw.same rfl rfl (q4 i w hw)⟩
end
section
/-! the rows of the flat memory -/
theorem ifP {c : Prop} {h : Decidable c} {α : Type} {a b r : α} (e : ite c a b = r) (hc : c) : a = r := by rw [if_pos hc] at e; exact e
theorem ifN {c : Prop} {h : Decidable c} {α : Type} {a b r : α} (e : ite c a b = r) (hc : ¬ c) : b = r := by rw [if_neg hc] at e; exact e
theorem ifO {c : Prop} {h : Decidable c} {α : Type} {a : Option α} {r : α} (e : ite c none a = some r) : ¬ c ∧ a = some r := by
  by_cases hc : c
  · rw [if_pos hc] at e; cases e
  · rw [if_neg hc] at e; exact ⟨hc, e⟩
def ob1 {α β : Type} (o : Option α) (f : α → Option β) : Option β := match o with
  | none => none
  | some a => f a
def ob2 {α β : Type} (o : Option (α × Mm)) (f : α → Mm → Option β) : Option β := match o with
  | none => none
  | some (a, M) => f a M
theorem ob1S {α β : Type} {o : Option α} {f : α → Option β} {r : β} (h : ob1 o f = some r) : ∃ a, o = some a ∧ f a = some r := by
  cases o with
  | none => cases h
  | some a => exact ⟨a, rfl, h⟩
theorem ob2S {α β : Type} {o : Option (α × Mm)} {f : α → Mm → Option β} {r : β} (h : ob2 o f = some r) : ∃ a M, o = some (a, M) ∧ f a M = some r := by
  cases o with
  | none => cases h
  | some a => exact ⟨a.1, a.2, rfl, h⟩
def lt1 {α β : Type} (a : α) (f : α → β) : β := f a
theorem lt1E {α β : Type} {a : α} {f : α → β} {r : β} (h : lt1 a f = r) : ∃ y, y = a ∧ f y = r := ⟨a, rfl, h⟩
theorem lt1W {α β : Type} {a : α} {f : α → β} {r : β} {P : α → Prop} (h : lt1 a f = r) (hp : P a) : ∃ y, P y ∧ f y = r := ⟨a, hp, h⟩
def op1 {α : Type} (o : Option Nat) (f : Option α) (g : Nat → Option α) : Option α := match o with
  | none => f
  | some x => g x
/-- the facts of a method's body -/
def Cx (p : Program) (s : State) (m : MethodId) (args : Array Value) (meth : Method) (c : Code) (cc : ByteArray) (maxL : Nat) (ret : Option FieldType) (own : String) : Prop :=
  p.tables.exec = Jvm.exec ∧ c.code = cc ∧ c.maxLocals = maxL ∧ s.vm.findClass own = some m.cls ∧ (∀ w ∈ zU, w.before args s = true) ∧ meth.sig.returnType = ret ∧ meth.locks = false
section ZR
variable {p : Program} {l : Launch} {e : Env} {R : Room} {s : State} {m : MethodId} {args : Array Value} {below : List Frame} {meth : Method} {c : Code} {H : Heap} {locs : List Loc} {cells slots : Nat} {Q : State → Prop}
variable {cc : ByteArray} {pc : Nat} {ls : Array Slot} {rest : List Value} {G : Gv} {M : Mm} {own : String} {index : Nat}
theorem z_get (hexec : p.tables.exec = Jvm.exec) (hb : c.code = cc) (hts : ∀ w ∈ zU, w.before args s = true) (hown : s.vm.findClass own = some m.cls) (hw : St G s H locs M) {x k ci N : Nat} {C : String} {T : u_T} {fs : List Value} {v : Value} (hx : x < zNC) (he : zE G (M.1 x) (M.2 x) x = .inr (ci, fs)) (hc : vwCl[ci]? = some (C, T, N)) (hin : ∀ w ∈ u_ws C T N, w ∈ zU) (hk : k < N) (hlink : Cond.fieldLink own index (T k).1 (T k).2.1 (T k).2.2.1 ∈ zU) (hv : fs[k]? = some v) (hdg : decode cc pc = .ok (.getfield index, 3))
    (kk : W p l e R s m args below meth c H locs cells slots Q (F0 m (pc + 3) ls (v :: rest))) : W p l e R s m args below meth c H locs cells slots Q (F0 m pc ls (.ref (ad G x) :: rest)) :=
  va_get hexec hb hts hin hown hw.1 hw.2.1 x (by rw [zwL_get hx, he]) hc k hk (hts _ hlink) (fun _ h => h) hv hdg kk
theorem z_put (hexec : p.tables.exec = Jvm.exec) (hb : c.code = cc) (hts : ∀ w ∈ zU, w.before args s = true) (hown : s.vm.findClass own = some m.cls) (hw : St G s H locs M) (M' : Mm) {x k ci N : Nat} {C : String} {T : u_T} {fs : List Value} {v : Value} {ty : FieldType} (ty0 : Nat → FieldType) (hty : ∀ k, k < N → parseFieldDescriptor (T k).2.2.1 = some (ty0 k)) (hnm : ∀ a, a < N → ∀ b, b < N → a ≠ b → (T a).2.1 ≠ (T b).2.1) (hx : x < zNC) (he : zE G (M.1 x) (M.2 x) x = .inr (ci, fs)) (he' : zE G (M'.1 x) (M'.2 x) x = .inr (ci, fs.set k v)) (hM : ∀ a, a ≠ x → M'.1 a = M.1 a ∧ M'.2 a = M.2 a) (hc : vwCl[ci]? = some (C, T, N)) (hin : ∀ w ∈ u_ws C T N, w ∈ zU) (hk : k < N) (hlink : Cond.fieldLink own index (T k).1 (T k).2.1 (T k).2.2.1 ∈ zU) (hfin : (T k).2.2.2 = false) (hd : parseFieldDescriptor (T k).2.2.1 = some ty) (hn : narrow ty v = v) (hfit : fits ty v = true) (hl : k < fs.length) (hdg : decode cc pc = .ok (.putfield index, 3))
    (kk : ∀ (H : Heap) (locs : List Loc), St G s H locs M' → W p l e R s m args below meth c H locs cells slots Q (F0 m (pc + 3) ls rest)) : W p l e R s m args below meth c H locs cells slots Q (F0 m pc ls (v :: .ref (ad G x) :: rest)) := by
  refine va_put hexec hb hts hin ty0 hty hnm hown hw.1 hw.2.1 hw.2.2.1 hw.2.2.2.2 x (by rw [zwL_get hx, he]) hc k hk (hts _ hlink) (fun _ h => h) hfin hd hn hfit hl hdg (fun H1 locs1 hP hD hS => ?_)
  rw [← he', zwL_set hx hM] at hP hD
  exact kk H1 locs1 ⟨hw.1, hP, hD, hw.2.2.2.1, hS⟩
theorem pI_off {M : Mm} {x j : Nat} {v : Int32} : ∀ a, a ≠ x → (pI M x j v).1 a = M.1 a ∧ (pI M x j v).2 a = M.2 a := fun a h => ⟨by simp [pI, h], rfl⟩
theorem pL_off {M : Mm} {x j : Nat} {v : Int64} : ∀ a, a ≠ x → (pL M x j v).1 a = M.1 a ∧ (pL M x j v).2 a = M.2 a := fun a h => ⟨rfl, by simp [pL, h]⟩
theorem pC_off {M : Mm} {x y a b n : Nat} : ∀ q, q ≠ y → (pC M x y a b n).1 q = M.1 q ∧ (pC M x y a b n).2 q = M.2 q := fun q h => ⟨by simp [pC, h], rfl⟩
theorem pI_at {M : Mm} {x j : Nat} {v : Int32} : (pI M x j v).1 x = upd (M.1 x) j v := by simp [pI]
theorem pL_at {M : Mm} {x j : Nat} {v : Int64} : (pL M x j v).2 x = vp_updL (M.2 x) j v := by simp [pL]
theorem pC_at {M : Mm} {x y a b n : Nat} : (pC M x y a b n).1 y = va_cpy (M.1 x) (M.1 y) a b n := by simp [pC]
theorem zE_B {f g x} (h : kd x = 0) : zE G f g x = .inl (G.2.2 0, ln x, .inl f) := by simp only [zE, h]
theorem zE_I {f g x} (h : kd x = 1) : zE G f g x = .inl (G.2.2 1, ln x, .inl f) := by simp only [zE, h]
theorem zE_J {f g x} (h : kd x = 2) : zE G f g x = .inl (G.2.2 2, ln x, .inr (.inl g)) := by simp only [zE, h]
theorem zE_Z {f g x} (h : kd x = 3) : zE G f g x = .inl (G.2.2 3, ln x, .inl f) := by simp only [zE, h]
theorem zE_N {f g x} (h : kd x = 11) : zE G f g x = .inr (2, zfN G x f g) := by simp only [zE, h]
theorem zE_R {f g x} (h : kd x = 12) : zE G f g x = .inr (4, zfR G x f g) := by simp only [zE, h]
theorem zE_T {f g x} (h : kd x = 13) : zE G f g x = .inr (5, zfT G x f g) := by simp only [zE, h]
theorem r_iald (hexec : p.tables.exec = Jvm.exec) (hb : c.code = cc) (hw : St G s H locs M) {x : Nat} (hk : kd x = 1) {i : Int32} (hin : ¬ (i < 0 ∨ ln x ≤ i.toNatClampNeg)) (hdg : decode cc pc = .ok (.iaload, 1))
    (kk : W p l e R s m args below meth c H locs cells slots Q (F0 m (pc + 1) ls (.int (M.1 x i.toNatClampNeg) :: rest))) : W p l e R s m args below meth c H locs cells slots Q (F0 m pc ls (.int i :: .ref (ad G x) :: rest)) :=
  va_iald hexec hb hw.1 hw.2.1 x 1 (by rw [zwL_get (kd_lt hk (by decide)), zE_I hk]) rfl hin hdg kk
theorem r_bald (hexec : p.tables.exec = Jvm.exec) (hb : c.code = cc) (hw : St G s H locs M) {x : Nat} (hk : kd x = 0) {i : Int32} (hin : ¬ (i < 0 ∨ ln x ≤ i.toNatClampNeg)) (hdg : decode cc pc = .ok (.baload, 1))
    (kk : W p l e R s m args below meth c H locs cells slots Q (F0 m (pc + 1) ls (.int (M.1 x i.toNatClampNeg) :: rest))) : W p l e R s m args below meth c H locs cells slots Q (F0 m pc ls (.int i :: .ref (ad G x) :: rest)) :=
  va_bald hexec hb hw.1 hw.2.1 x 0 (by rw [zwL_get (kd_lt hk (by decide)), zE_B hk]) rfl hin hdg kk
theorem r_lald (hexec : p.tables.exec = Jvm.exec) (hb : c.code = cc) (hw : St G s H locs M) {x : Nat} (hk : kd x = 2) {i : Int32} (hin : ¬ (i < 0 ∨ ln x ≤ i.toNatClampNeg)) (hdg : decode cc pc = .ok (.laload, 1))
    (kk : W p l e R s m args below meth c H locs cells slots Q (F0 m (pc + 1) ls (.long (M.2 x i.toNatClampNeg) :: rest))) : W p l e R s m args below meth c H locs cells slots Q (F0 m pc ls (.int i :: .ref (ad G x) :: rest)) :=
  va_lald hexec hb hw.1 hw.2.1 x 2 (by rw [zwL_get (kd_lt hk (by decide)), zE_J hk]) rfl hin hdg kk
theorem z_st {M' : Mm} {x : Nat} {e0 : va_E} (hw : St G s H locs M) (hx : x < zNC) (he : zE G (M'.1 x) (M'.2 x) x = e0) (hM : ∀ a, a ≠ x → M'.1 a = M.1 a ∧ M'.2 a = M.2 a) {H1 : Heap} {locs1 : List Loc} (hP : va_P G.1 vwCl ((zwL G M).set x (ad G x, e0)) H1) (hD : va_D (zA G) ((zwL G M).set x (ad G x, e0))) (hS : va_S (zA G) s.heap H1 locs1) : St G s H1 locs1 M' := by
  rw [← he, zwL_set hx hM] at hP hD
  exact ⟨hw.1, hP, hD, hw.2.2.2.1, hS⟩
theorem r_iast (hexec : p.tables.exec = Jvm.exec) (hb : c.code = cc) (hw : St G s H locs M) {x : Nat} (hk : kd x = 1) {i v : Int32} (hin : ¬ (i < 0 ∨ ln x ≤ i.toNatClampNeg)) (hdg : decode cc pc = .ok (.iastore, 1))
    (kk : ∀ (H : Heap) (locs : List Loc), St G s H locs (pI M x i.toNatClampNeg v) → W p l e R s m args below meth c H locs cells slots Q (F0 m (pc + 1) ls rest)) : W p l e R s m args below meth c H locs cells slots Q (F0 m pc ls (.int v :: .int i :: .ref (ad G x) :: rest)) :=
  va_iast hexec hb hw.1 hw.2.1 hw.2.2.1 hw.2.2.2.2 x 1 (by rw [zwL_get (kd_lt hk (by decide)), zE_I hk]) rfl hin hdg (fun H1 locs1 hP hD hS => kk H1 locs1 (z_st hw (kd_lt hk (by decide)) (by rw [zE_I hk, pI_at]) pI_off hP hD hS))
theorem r_bast (hexec : p.tables.exec = Jvm.exec) (hb : c.code = cc) (hw : St G s H locs M) {x : Nat} (hk : kd x = 0) {i v : Int32} (hin : ¬ (i < 0 ∨ ln x ≤ i.toNatClampNeg)) (hdg : decode cc pc = .ok (.bastore, 1))
    (kk : ∀ (H : Heap) (locs : List Loc), St G s H locs (pI M x i.toNatClampNeg (vp_nar .byte v)) → W p l e R s m args below meth c H locs cells slots Q (F0 m (pc + 1) ls rest)) : W p l e R s m args below meth c H locs cells slots Q (F0 m pc ls (.int v :: .int i :: .ref (ad G x) :: rest)) :=
  va_bast hexec hb hw.1 hw.2.1 hw.2.2.1 hw.2.2.2.2 x 0 (by rw [zwL_get (kd_lt hk (by decide)), zE_B hk]) rfl hin hdg (fun H1 locs1 hP hD hS => kk H1 locs1 (z_st hw (kd_lt hk (by decide)) (by rw [zE_B hk, pI_at]) pI_off hP hD hS))
theorem r_last (hexec : p.tables.exec = Jvm.exec) (hb : c.code = cc) (hw : St G s H locs M) {x : Nat} (hk : kd x = 2) {i : Int32} {v : Int64} (hin : ¬ (i < 0 ∨ ln x ≤ i.toNatClampNeg)) (hdg : decode cc pc = .ok (.lastore, 1))
    (kk : ∀ (H : Heap) (locs : List Loc), St G s H locs (pL M x i.toNatClampNeg v) → W p l e R s m args below meth c H locs cells slots Q (F0 m (pc + 1) ls rest)) : W p l e R s m args below meth c H locs cells slots Q (F0 m pc ls (.long v :: .int i :: .ref (ad G x) :: rest)) :=
  va_last hexec hb hw.1 hw.2.1 hw.2.2.1 hw.2.2.2.2 x 2 (by rw [zwL_get (kd_lt hk (by decide)), zE_J hk]) rfl hin hdg (fun H1 locs1 hP hD hS => kk H1 locs1 (z_st hw (kd_lt hk (by decide)) (by rw [zE_J hk, pL_at]) pL_off hP hD hS))
theorem r_alenI (hexec : p.tables.exec = Jvm.exec) (hb : c.code = cc) (hw : St G s H locs M) {x : Nat} (hk : kd x = 1) (hdg : decode cc pc = .ok (.arraylength, 1))
    (kk : W p l e R s m args below meth c H locs cells slots Q (F0 m (pc + 1) ls (.int (nI (ln x)) :: rest))) : W p l e R s m args below meth c H locs cells slots Q (F0 m pc ls (.ref (ad G x) :: rest)) :=
  va_alen hexec hb hw.1 hw.2.1 x 1 (x := (ln x, .inl (M.1 x))) (by rw [zwL_get (kd_lt hk (by decide)), zE_I hk]) rfl rfl hdg kk
theorem r_alenB (hexec : p.tables.exec = Jvm.exec) (hb : c.code = cc) (hw : St G s H locs M) {x : Nat} (hk : kd x = 0) (hdg : decode cc pc = .ok (.arraylength, 1))
    (kk : W p l e R s m args below meth c H locs cells slots Q (F0 m (pc + 1) ls (.int (nI (ln x)) :: rest))) : W p l e R s m args below meth c H locs cells slots Q (F0 m pc ls (.ref (ad G x) :: rest)) :=
  va_alen hexec hb hw.1 hw.2.1 x 0 (x := (ln x, .inl (M.1 x))) (by rw [zwL_get (kd_lt hk (by decide)), zE_B hk]) rfl rfl hdg kk
theorem r_alenJ (hexec : p.tables.exec = Jvm.exec) (hb : c.code = cc) (hw : St G s H locs M) {x : Nat} (hk : kd x = 2) (hdg : decode cc pc = .ok (.arraylength, 1))
    (kk : W p l e R s m args below meth c H locs cells slots Q (F0 m (pc + 1) ls (.int (nI (ln x)) :: rest))) : W p l e R s m args below meth c H locs cells slots Q (F0 m pc ls (.ref (ad G x) :: rest)) :=
  va_alen hexec hb hw.1 hw.2.1 x 2 (x := (ln x, .inr (.inl (M.2 x)))) (by rw [zwL_get (kd_lt hk (by decide)), zE_J hk]) rfl rfl hdg kk
/-- the three rows of objects: their lengths, and what they hold -/
theorem r_alenR (hexec : p.tables.exec = Jvm.exec) (hb : c.code = cc) (hw : St G s H locs M) (hdg : decode cc pc = .ok (.arraylength, 1))
    (kk : W p l e R s m args below meth c H locs cells slots Q (F0 m (pc + 1) ls (.int 6 :: rest))) : W p l e R s m args below meth c H locs cells slots Q (F0 m pc ls (.ref (ad G 21) :: rest)) :=
  va_alen hexec hb hw.1 hw.2.1 21 5 (x := (6, .inr (.inr (.inr (.inr (fun i => some (ad G (1 + i)))))))) (by rw [zwL_get (by decide)]; rfl) rfl rfl hdg kk
theorem r_alenT (hexec : p.tables.exec = Jvm.exec) (hb : c.code = cc) (hw : St G s H locs M) (hdg : decode cc pc = .ok (.arraylength, 1))
    (kk : W p l e R s m args below meth c H locs cells slots Q (F0 m (pc + 1) ls (.int 4 :: rest))) : W p l e R s m args below meth c H locs cells slots Q (F0 m pc ls (.ref (ad G 22) :: rest)) :=
  va_alen hexec hb hw.1 hw.2.1 22 6 (x := (4, .inr (.inr (.inr (.inr (fun i => some (ad G (13 + i)))))))) (by rw [zwL_get (by decide)]; rfl) rfl rfl hdg kk
theorem r_alenN (hexec : p.tables.exec = Jvm.exec) (hb : c.code = cc) (hw : St G s H locs M) (hdg : decode cc pc = .ok (.arraylength, 1))
    (kk : W p l e R s m args below meth c H locs cells slots Q (F0 m (pc + 1) ls (.int 3 :: rest))) : W p l e R s m args below meth c H locs cells slots Q (F0 m pc ls (.ref (ad G 23) :: rest)) :=
  va_alen hexec hb hw.1 hw.2.1 23 4 (x := (3, .inr (.inr (.inr (.inr (fun i => some (ad G (35 + 11 * i)))))))) (by rw [zwL_get (by decide)]; rfl) rfl rfl hdg kk
theorem r_aldR (hexec : p.tables.exec = Jvm.exec) (hb : c.code = cc) (hw : St G s H locs M) {i : Int32} (hin : ¬ (i < 0 ∨ 6 ≤ i.toNatClampNeg)) (hdg : decode cc pc = .ok (.aaload, 1))
    (kk : W p l e R s m args below meth c H locs cells slots Q (F0 m (pc + 1) ls (.ref (ad G (1 + i.toNatClampNeg)) :: rest))) : W p l e R s m args below meth c H locs cells slots Q (F0 m pc ls (.int i :: .ref (ad G 21) :: rest)) :=
  va_aldq hexec hb hw.1 hw.2.1 21 5 (n := 6) (f := fun i => some (ad G (1 + i))) (by rw [zwL_get (by decide)]; rfl) rfl hin hdg kk
theorem r_aldT (hexec : p.tables.exec = Jvm.exec) (hb : c.code = cc) (hw : St G s H locs M) {i : Int32} (hin : ¬ (i < 0 ∨ 4 ≤ i.toNatClampNeg)) (hdg : decode cc pc = .ok (.aaload, 1))
    (kk : W p l e R s m args below meth c H locs cells slots Q (F0 m (pc + 1) ls (.ref (ad G (13 + i.toNatClampNeg)) :: rest))) : W p l e R s m args below meth c H locs cells slots Q (F0 m pc ls (.int i :: .ref (ad G 22) :: rest)) :=
  va_aldq hexec hb hw.1 hw.2.1 22 6 (n := 4) (f := fun i => some (ad G (13 + i))) (by rw [zwL_get (by decide)]; rfl) rfl hin hdg kk
theorem r_aldN (hexec : p.tables.exec = Jvm.exec) (hb : c.code = cc) (hw : St G s H locs M) {i : Int32} (hin : ¬ (i < 0 ∨ 3 ≤ i.toNatClampNeg)) (hdg : decode cc pc = .ok (.aaload, 1))
    (kk : W p l e R s m args below meth c H locs cells slots Q (F0 m (pc + 1) ls (.ref (ad G (35 + 11 * i.toNatClampNeg)) :: rest))) : W p l e R s m args below meth c H locs cells slots Q (F0 m pc ls (.int i :: .ref (ad G 23) :: rest)) :=
  va_aldq hexec hb hw.1 hw.2.1 23 4 (n := 3) (f := fun i => some (ad G (35 + 11 * i))) (by rw [zwL_get (by decide)]; rfl) rfl hin hdg kk
theorem lt1G {α β : Type} {a y : α} {f : α → β} {r : β} (h : lt1 a f = r) (hy : y = a) : f y = r := by subst hy; exact h
theorem op1N {α : Type} {f r : Option α} {g : Nat → Option α} (h : op1 none f g = r) : f = r := h
theorem op1C {α : Type} {f r : Option α} {g : Nat → Option α} {x : Nat} (h : op1 (some x) f g = r) : g x = r := h
theorem topN (k : W p l e R s m args below meth c H locs cells slots Q (F0 m pc ls (.null :: rest))) : W p l e R s m args below meth c H locs cells slots Q (F0 m pc ls (va_rf ((none : Option Nat).map (ad G)) :: rest)) := k
theorem topC {x : Nat} (k : W p l e R s m args below meth c H locs cells slots Q (F0 m pc ls (.ref (ad G x) :: rest))) : W p l e R s m args below meth c H locs cells slots Q (F0 m pc ls (va_rf ((some x).map (ad G)) :: rest)) := k
theorem r_swI (hexec : p.tables.exec = Jvm.exec) (hb : c.code = cc) {dflt lo hi : Int} {offs : Array Int} {len : Nat} {x v : Int32} {off : Int} {tgt : Nat} (hv : x = v) (hdg : decode cc pc = .ok (.tableswitch dflt lo hi offs, len)) (h1 : ¬ v.toInt < lo) (h2 : ¬ hi < v.toInt) (ho : offs[(v.toInt - lo).toNat]? = some off) (ht : (pc : Int) + off = (tgt : Int))
    (kk : W p l e R s m args below meth c H locs cells slots Q (F0 m tgt ls rest)) : W p l e R s m args below meth c H locs cells slots Q (F0 m pc ls (.int x :: rest)) := by
  subst hv
  exact lv_tableIn hexec hb hdg h1 h2 ho ht kk
theorem r_swD (hexec : p.tables.exec = Jvm.exec) (hb : c.code = cc) {dflt lo hi : Int} {offs : Array Int} {len : Nat} {x : Int32} {tgt : Nat} {vs : List Int32} (hne : ∀ v ∈ vs, ¬ x = v) (hdg : decode cc pc = .ok (.tableswitch dflt lo hi offs, len)) (hall : (List.range offs.size).all (fun k => offs[k]? == some dflt || vs.any (fun v => v.toInt == lo + (k : Int))) = true) (hhi : hi + 1 = lo + (offs.size : Int)) (ht : (pc : Int) + dflt = (tgt : Int))
    (kk : W p l e R s m args below meth c H locs cells slots Q (F0 m tgt ls rest)) : W p l e R s m args below meth c H locs cells slots Q (F0 m pc ls (.int x :: rest)) := by
  by_cases h1 : x.toInt < lo
  · exact lv_tableOut hexec hb hdg (Or.inl h1) ht kk
  by_cases h2 : hi < x.toInt
  · exact lv_tableOut hexec hb hdg (Or.inr h2) ht kk
  refine lv_tableIn hexec hb hdg h1 h2 (off := dflt) ?_ ht kk
  have hk : (x.toInt - lo).toNat < offs.size := by omega
  have h3 := List.all_eq_true.mp hall _ (List.mem_range.mpr hk)
  rcases Bool.or_eq_true_iff.mp h3 with h | h
  · exact beq_iff_eq.mp h
  · obtain ⟨v, hv, he⟩ := List.any_eq_true.mp h
    have he := beq_iff_eq.mp he
    exact absurd (Int32.toInt_inj.mp (by omega)) (hne v hv)

def zmx (x y : Int32) : Int32 := if x < y then y else x
def zmn (x y : Int32) : Int32 := if y < x then y else x
def zab (x : Int32) : Int32 := if 0 ≤ x then x else 0 - x
theorem r_max (hC : CallFix p m c cc ls.size s args zU own) (hlink : Cond.methodLink own index Lib.Math.max.name ∈ zU) (hR : 1 ≤ R.frames ∧ (rest.map fun v => v.category).sum + 13 ≤ R.locals) (hc : cells ≤ R.cells ∧ slots ≤ R.slots) {x y : Int32} (hdg : decode cc pc = .ok (.invokestatic index, 3))
    (kk : W p l e R s m args below meth c H locs cells slots Q (F0 m (pc + 3) ls (.int (zmx x y) :: rest))) : W p l e R s m args below meth c H locs cells slots Q (F0 m pc ls (.int y :: .int x :: rest)) :=
  va_mmax hC.1 hC.2.1 hC.2.2.1 hC.2.2.2.1 (hC.2.2.2.2 _ hlink) (hC.2.2.2.2 _ q2_92) (hC.2.2.2.2 _ q1_8) (hC.2.2.2.2 _ q2_93) hR.1 hR.2 hc.1 hc.2 hdg kk
theorem r_min (hC : CallFix p m c cc ls.size s args zU own) (hlink : Cond.methodLink own index Lib.Math.min.name ∈ zU) (hR : 1 ≤ R.frames ∧ (rest.map fun v => v.category).sum + 13 ≤ R.locals) (hc : cells ≤ R.cells ∧ slots ≤ R.slots) {x y : Int32} (hdg : decode cc pc = .ok (.invokestatic index, 3))
    (kk : W p l e R s m args below meth c H locs cells slots Q (F0 m (pc + 3) ls (.int (zmn x y) :: rest))) : W p l e R s m args below meth c H locs cells slots Q (F0 m pc ls (.int y :: .int x :: rest)) :=
  va_mmin hC.1 hC.2.1 hC.2.2.1 hC.2.2.2.1 (hC.2.2.2.2 _ hlink) (hC.2.2.2.2 _ q2_77) (hC.2.2.2.2 _ q1_8) (hC.2.2.2.2 _ q2_78) hR.1 hR.2 hc.1 hc.2 hdg kk
theorem r_abs (hC : CallFix p m c cc ls.size s args zU own) (hlink : Cond.methodLink own index Lib.Math.abs.name ∈ zU) (hR : 1 ≤ R.frames ∧ (rest.map fun v => v.category).sum + 13 ≤ R.locals) (hc : cells ≤ R.cells ∧ slots ≤ R.slots) {x : Int32} (hdg : decode cc pc = .ok (.invokestatic index, 3))
    (kk : W p l e R s m args below meth c H locs cells slots Q (F0 m (pc + 3) ls (.int (zab x) :: rest))) : W p l e R s m args below meth c H locs cells slots Q (F0 m pc ls (.int x :: rest)) :=
  va_mabs hC.1 hC.2.1 hC.2.2.1 hC.2.2.2.1 (hC.2.2.2.2 _ hlink) (hC.2.2.2.2 _ q2_226) (hC.2.2.2.2 _ q1_8) (hC.2.2.2.2 _ q2_227) hR.1 hR.2 hc.1 hc.2 hdg kk
theorem zfitI (f : Nat → Int32) (a n : Nat) : ∀ i, i < n → fits .int (.int (f (a + i))) = true := fun _ _ => rfl

def QI (G : Gv) (r : Int32) (M' : Mm) : Array Value → State → Outcome → State → Prop := va_Qi (fun (r' : Int32) (_ : Unit) => r' = r) (fun _ t => Wd G M' t) (zA G)
def QL (G : Gv) (r : Int64) (M' : Mm) : Array Value → State → Outcome → State → Prop := va_Ql (fun (r' : Int64) (_ : Unit) => r' = r) (fun _ t => Wd G M' t) (zA G)
def QV (G : Gv) (M' : Mm) : Array Value → State → Outcome → State → Prop := va_Qv (fun (_ : Unit) => True) (fun _ t => Wd G M' t) (zA G)
def QQ (G : Gv) (r : Option Nat) (M' : Mm) : Array Value → State → Outcome → State → Prop := va_Qq (fun r' (_ : Unit) => r' = r.map (ad G)) (fun _ t => Wd G M' t) (zA G)

theorem r_iretE {M' : Mm} {maxL : Nat} {v r : Int32} (hC : Cx p s m args meth c cc maxL (some .int) own) (hw : St G s H locs M) (hF : some (v, M) = some (r, M')) (hdg : decode cc pc = .ok (.ireturn, 1)) : W p l e R s m args below meth c H locs 0 0 (MQ below (QI G r M') args s 0 0 (zA G)) (F0 m pc ls [.int v]) := by
  cases hF
  exact W.iret hC.1 hC.2.1 hC.2.2.2.2.2.1 (fun t ht hW => ⟨⟨v, (), rfl, rfl, hw.wd ht hW⟩, hw.F ht⟩) hw.2.2.2.2.2.2 hdg hC.2.2.2.2.2.2
theorem r_iretP {maxL : Nat} {v r : Int32} (hC : Cx p s m args meth c cc maxL (some .int) own) (hw : St G s H locs M) (hF : some v = some r) (hdg : decode cc pc = .ok (.ireturn, 1)) : W p l e R s m args below meth c H locs 0 0 (MQ below (QI G r M) args s 0 0 (zA G)) (F0 m pc ls [.int v]) := r_iretE hC hw (by cases hF; rfl) hdg
theorem r_lretE {M' : Mm} {maxL : Nat} {v r : Int64} (hC : Cx p s m args meth c cc maxL (some .long) own) (hw : St G s H locs M) (hF : some (v, M) = some (r, M')) (hdg : decode cc pc = .ok (.lreturn, 1)) : W p l e R s m args below meth c H locs 0 0 (MQ below (QL G r M') args s 0 0 (zA G)) (F0 m pc ls [.long v]) := by
  cases hF
  exact W.lret hC.1 hC.2.1 hC.2.2.2.2.2.1 (fun t ht hW => ⟨⟨v, (), rfl, rfl, hw.wd ht hW⟩, hw.F ht⟩) hw.2.2.2.2.2.2 hdg hC.2.2.2.2.2.2
theorem r_lretP {maxL : Nat} {v r : Int64} (hC : Cx p s m args meth c cc maxL (some .long) own) (hw : St G s H locs M) (hF : some v = some r) (hdg : decode cc pc = .ok (.lreturn, 1)) : W p l e R s m args below meth c H locs 0 0 (MQ below (QL G r M) args s 0 0 (zA G)) (F0 m pc ls [.long v]) := r_lretE hC hw (by cases hF; rfl) hdg
theorem zbool {v : Int32} (h : v = 0 ∨ v = 1) : narrow .boolean (.int v) = .int v := by rcases h with rfl | rfl <;> rfl
theorem r_zretE {M' : Mm} {maxL : Nat} {v r : Int32} (hC : Cx p s m args meth c cc maxL (some .boolean) own) (hw : St G s H locs M) (hv : v = 0 ∨ v = 1) (hF : some (v, M) = some (r, M')) (hdg : decode cc pc = .ok (.ireturn, 1)) : W p l e R s m args below meth c H locs 0 0 (MQ below (QI G r M') args s 0 0 (zA G)) (F0 m pc ls [.int v]) := by
  cases hF
  exact W.zret hC.1 hC.2.1 hC.2.2.2.2.2.1 (zbool hv) (fun t ht hW => ⟨⟨v, (), rfl, rfl, hw.wd ht hW⟩, hw.F ht⟩) hw.2.2.2.2.2.2 hdg hC.2.2.2.2.2.2
theorem r_zretP {maxL : Nat} {v r : Int32} (hC : Cx p s m args meth c cc maxL (some .boolean) own) (hw : St G s H locs M) (hv : v = 0 ∨ v = 1) (hF : some v = some r) (hdg : decode cc pc = .ok (.ireturn, 1)) : W p l e R s m args below meth c H locs 0 0 (MQ below (QI G r M) args s 0 0 (zA G)) (F0 m pc ls [.int v]) := r_zretE hC hw hv (by cases hF; rfl) hdg
theorem r_vretE {M' : Mm} {maxL : Nat} (hC : Cx p s m args meth c cc maxL none own) (hw : St G s H locs M) (hF : some M = some M') (hdg : decode cc pc = .ok (.return_, 1)) : W p l e R s m args below meth c H locs 0 0 (MQ below (QV G M') args s 0 0 (zA G)) (F0 m pc ls []) := by
  cases hF
  exact W.vret hC.1 hC.2.1 hC.2.2.2.2.2.1 (fun t ht hW => ⟨⟨(), rfl, trivial, hw.wd ht hW⟩, hw.F ht⟩) hw.2.2.2.2.2.2 hdg hC.2.2.2.2.2.2
theorem r_aretP {maxL x : Nat} {r : Option Nat} {C : String} (hC : Cx p s m args meth c cc maxL (some (.object C)) own) (hw : St G s H locs M) (hF : some (some x) = some r) (hdg : decode cc pc = .ok (.areturn, 1)) : W p l e R s m args below meth c H locs 0 0 (MQ below (QQ G r M) args s 0 0 (zA G)) (F0 m pc ls [.ref (ad G x)]) := by
  cases hF
  exact W.aret hC.1 hC.2.1 hC.2.2.2.2.2.1 (Or.inl ⟨_, rfl⟩) (Or.inr ⟨_, rfl⟩) (fun t ht hW => ⟨⟨some (ad G x), (), rfl, rfl, hw.wd ht hW⟩, hw.F ht⟩) hw.2.2.2.2.2.2 hdg hC.2.2.2.2.2.2
theorem r_nretP {maxL : Nat} {r : Option Nat} {C : String} (hC : Cx p s m args meth c cc maxL (some (.object C)) own) (hw : St G s H locs M) (hF : some (none : Option Nat) = some r) (hdg : decode cc pc = .ok (.areturn, 1)) : W p l e R s m args below meth c H locs 0 0 (MQ below (QQ G r M) args s 0 0 (zA G)) (F0 m pc ls [.null]) := by
  cases hF
  exact W.aret hC.1 hC.2.1 hC.2.2.2.2.2.1 (Or.inl ⟨_, rfl⟩) (Or.inl rfl) (fun t ht hW => ⟨⟨none, (), rfl, rfl, hw.wd ht hW⟩, hw.F ht⟩) hw.2.2.2.2.2.2 hdg hC.2.2.2.2.2.2
/-- the receiver of a call -/
def RC (G : Gv) (x : Nat) (C : String) : Prop := ∃ (ci : Nat) (q : vw_C) (F : (Nat → Int32) → (Nat → Int64) → List Value), vwCl[ci]? = some q ∧ q.1 = C ∧ x < zNC ∧ ∀ f g, zE G f g x = .inr (ci, F f g)
theorem RC_N {x : Nat} (h : kd x = 11) : RC G x RX2 := ⟨2, _, _, rfl, rfl, kd_lt h (by decide), fun _ _ => zE_N h⟩
theorem RC_R {x : Nat} (h : kd x = 12) : RC G x RX4 := ⟨4, _, _, rfl, rfl, kd_lt h (by decide), fun _ _ => zE_R h⟩
theorem RC_T {x : Nat} (h : kd x = 13) : RC G x RX5 := ⟨5, _, _, rfl, rfl, kd_lt h (by decide), fun _ _ => zE_T h⟩
theorem RC_S : RC G 0 RX6 := ⟨6, _, fun f g => zfS G f g, rfl, rfl, by decide, fun _ _ => rfl⟩
theorem RC_D : RC G 68 RX3 := ⟨3, _, fun f g => zfD G f g, rfl, rfl, by decide, fun _ _ => rfl⟩
theorem RC_G : RC G 74 RX1 := ⟨1, _, fun f g => zfG G f g, rfl, rfl, by decide, fun _ _ => rfl⟩
theorem RC_C : RC G 77 RX0 := ⟨0, _, fun f g => zfC G f g, rfl, rfl, by decide, fun _ _ => rfl⟩
theorem RC.at {x : Nat} {C : String} (h : RC G x C) (hw : St G s H locs M) : ∃ cell : Cell, H[ad G x]? = some cell ∧ cell.vm.isStatics = false ∧ s.vm.findClass C = some cell.cls := by
  obtain ⟨ci, q, F, h1, rfl, h3, h4⟩ := h
  exact va_recv hw.1 hw.2.1 h1 (q0 := x) (by rw [zwL_get h3, h4])
/-- what the tables say of a method: an instance's, a static one's -/
def YV (y : MethodName) (bytes : ByteArray) (maxL : Nat) (ret : Option FieldType) (n : Nat) (C : String) : Prop := (Cond.instanceMethod y ∈ zU ∧ Cond.selects C y y ∈ zU ∧ Cond.initialized y.cls ∈ zU ∧ Cond.code y bytes maxL ret ∈ zU) ∧ (y.cls ≠ "java/lang/invoke/MethodHandle" ∧ y.cls ≠ "java/lang/invoke/VarHandle" ∧ (parseMethodDescriptor y.desc).map (fun d => d.parameters.length) = some n)
def YS (y : MethodName) (bytes : ByteArray) (maxL : Nat) (ret : Option FieldType) (n : Nat) : Prop := (Cond.static y ∈ zU ∧ Cond.initialized y.cls ∈ zU ∧ Cond.code y bytes maxL ret ∈ zU) ∧ (y.cls ≠ "java/lang/invoke/MethodHandle" ∧ y.cls ≠ "java/lang/invoke/VarHandle" ∧ (parseMethodDescriptor y.desc).map (fun d => d.parameters.length) = some n)
theorem zgood {w : Cond} (h : w ∈ zU) : GoodIn zU (w :: zU) := fun v hv => by
  have hv : v ∈ zU := by rcases List.mem_cons.mp hv with rfl | hv <;> assumption
  exact ⟨hv, good_of_word (List.mem_filter.mp hv).2⟩
variable {y : MethodName} {bytes : ByteArray} {maxL maxL' n : Nat} {rm : Room} {M' : Mm} {As st : List Value} {C : String} {x nL : Nat} {ret ret0 : Option FieldType} {lv : List (Nat × Value)}
theorem zA_call {H1 : Heap} : ∀ q : Nat, q < H1.size → zA G q → zA G q := fun _ _ h => h

theorem k_Vi {r : Int32} (hC : Cx p s m args meth c cc nL ret0 own) (hw : St G s H locs M) (hM : Met l y (.code y bytes maxL' ret :: zU) rm (va_Pc (.ref (ad G x) :: As) (Wd G M)) (QI G r M') 0 0 (zA G)) (hrc : RC G x C) (hY : YV y bytes maxL' ret n C) (hlink : Cond.methodLink own index y ∈ zU) (hrm : rm.cells = 0 ∧ rm.slots = 0) (hR : rm.frames + 1 ≤ R.frames ∧ 8 + (maxL' + 11) + rm.locals ≤ R.locals) (hz : cells ≤ R.cells ∧ slots ≤ R.slots) (hn : As.length = n) (hst : st = As.reverse ++ .ref (ad G x) :: rest) (hroom : (rest.map fun v => v.category).sum ≤ 8) (hl : lv_has ls nL lv) (hdg : decode cc pc = .ok (.invokevirtual index, 3))
    (kk : ∀ (H : Heap) (locs : List Loc), St G s H locs M' → W p l e R s m args below meth c H locs cells slots Q (F0 m (pc + 3) ls (.int r :: rest))) : W p l e R s m args below meth c H locs cells slots Q (F0 m pc ls st) := by
  refine va_calli (A1 := zA G) (va_runV (As := As) (rest := rest) (Qc := QI G r M') ⟨hC.1, hC.2.1, hC.2.2.1, hC.2.2.2.1, hC.2.2.2.2.1⟩ hM ⟨callB_of n hC.2.2.2.2.1 (zgood hY.1.2.2.2) rfl hrm.1 hrm.2 (hC.2.2.2.2.1 _ hY.1.2.2.1) (hC.2.2.2.2.1 _ hlink) hY.2 hR, hC.2.2.2.2.1 _ hY.1.1, hC.2.2.2.2.1 _ hY.1.2.1⟩ ⟨Wd.blind, hrc.at hw, fun U hU hW => ⟨rfl, hw.wd hU hW⟩⟩ rfl hn hl.1 hst (lv_room hroom) hdg ⟨hz.1, hz.2⟩) hw.2.2.2.2 zA_call (fun _ h => h) (fun r1 _ t H1 locs1 ht hvm hr hB _ _ hS => ?_)
  subst hr
  rw [← ht] at hS ⊢
  exact kk _ _ ⟨hw.1, hB.2.1, hB.2.2.1, hw.2.2.2.1, hS⟩
theorem k_Vl {r : Int64} (hC : Cx p s m args meth c cc nL ret0 own) (hw : St G s H locs M) (hM : Met l y (.code y bytes maxL' ret :: zU) rm (va_Pc (.ref (ad G x) :: As) (Wd G M)) (QL G r M') 0 0 (zA G)) (hrc : RC G x C) (hY : YV y bytes maxL' ret n C) (hlink : Cond.methodLink own index y ∈ zU) (hrm : rm.cells = 0 ∧ rm.slots = 0) (hR : rm.frames + 1 ≤ R.frames ∧ 8 + (maxL' + 11) + rm.locals ≤ R.locals) (hz : cells ≤ R.cells ∧ slots ≤ R.slots) (hn : As.length = n) (hst : st = As.reverse ++ .ref (ad G x) :: rest) (hroom : (rest.map fun v => v.category).sum ≤ 8) (hl : lv_has ls nL lv) (hdg : decode cc pc = .ok (.invokevirtual index, 3))
    (kk : ∀ (H : Heap) (locs : List Loc), St G s H locs M' → W p l e R s m args below meth c H locs cells slots Q (F0 m (pc + 3) ls (.long r :: rest))) : W p l e R s m args below meth c H locs cells slots Q (F0 m pc ls st) := by
  refine va_calll (A1 := zA G) (va_runV (As := As) (rest := rest) (Qc := QL G r M') ⟨hC.1, hC.2.1, hC.2.2.1, hC.2.2.2.1, hC.2.2.2.2.1⟩ hM ⟨callB_of n hC.2.2.2.2.1 (zgood hY.1.2.2.2) rfl hrm.1 hrm.2 (hC.2.2.2.2.1 _ hY.1.2.2.1) (hC.2.2.2.2.1 _ hlink) hY.2 hR, hC.2.2.2.2.1 _ hY.1.1, hC.2.2.2.2.1 _ hY.1.2.1⟩ ⟨Wd.blind, hrc.at hw, fun U hU hW => ⟨rfl, hw.wd hU hW⟩⟩ rfl hn hl.1 hst (lv_room hroom) hdg ⟨hz.1, hz.2⟩) hw.2.2.2.2 zA_call (fun _ h => h) (fun r1 _ t H1 locs1 ht hvm hr hB _ _ hS => ?_)
  subst hr
  rw [← ht] at hS ⊢
  exact kk _ _ ⟨hw.1, hB.2.1, hB.2.2.1, hw.2.2.2.1, hS⟩
theorem k_Vv (hC : Cx p s m args meth c cc nL ret0 own) (hw : St G s H locs M) (hM : Met l y (.code y bytes maxL' none :: zU) rm (va_Pc (.ref (ad G x) :: As) (Wd G M)) (QV G M') 0 0 (zA G)) (hrc : RC G x C) (hY : YV y bytes maxL' none n C) (hlink : Cond.methodLink own index y ∈ zU) (hrm : rm.cells = 0 ∧ rm.slots = 0) (hR : rm.frames + 1 ≤ R.frames ∧ 8 + (maxL' + 11) + rm.locals ≤ R.locals) (hz : cells ≤ R.cells ∧ slots ≤ R.slots) (hn : As.length = n) (hst : st = As.reverse ++ .ref (ad G x) :: rest) (hroom : (rest.map fun v => v.category).sum ≤ 8) (hl : lv_has ls nL lv) (hdg : decode cc pc = .ok (.invokevirtual index, 3))
    (kk : ∀ (H : Heap) (locs : List Loc), St G s H locs M' → W p l e R s m args below meth c H locs cells slots Q (F0 m (pc + 3) ls (rest))) : W p l e R s m args below meth c H locs cells slots Q (F0 m pc ls st) := by
  refine va_callv (A1 := zA G) (va_runV (As := As) (rest := rest) (Qc := QV G M') ⟨hC.1, hC.2.1, hC.2.2.1, hC.2.2.2.1, hC.2.2.2.2.1⟩ hM ⟨callB_of n hC.2.2.2.2.1 (zgood hY.1.2.2.2) rfl hrm.1 hrm.2 (hC.2.2.2.2.1 _ hY.1.2.2.1) (hC.2.2.2.2.1 _ hlink) hY.2 hR, hC.2.2.2.2.1 _ hY.1.1, hC.2.2.2.2.1 _ hY.1.2.1⟩ ⟨Wd.blind, hrc.at hw, fun U hU hW => ⟨rfl, hw.wd hU hW⟩⟩ rfl hn hl.1 hst (lv_room hroom) hdg ⟨hz.1, hz.2⟩) hw.2.2.2.2 zA_call (fun _ h => h) (fun _ t H1 locs1 ht hvm hr hB _ _ hS => ?_)
  skip
  rw [← ht] at hS ⊢
  exact kk _ _ ⟨hw.1, hB.2.1, hB.2.2.1, hw.2.2.2.1, hS⟩
theorem k_Vq {r : Option Nat} (hC : Cx p s m args meth c cc nL ret0 own) (hw : St G s H locs M) (hM : Met l y (.code y bytes maxL' ret :: zU) rm (va_Pc (.ref (ad G x) :: As) (Wd G M)) (QQ G r M') 0 0 (zA G)) (hrc : RC G x C) (hY : YV y bytes maxL' ret n C) (hlink : Cond.methodLink own index y ∈ zU) (hrm : rm.cells = 0 ∧ rm.slots = 0) (hR : rm.frames + 1 ≤ R.frames ∧ 8 + (maxL' + 11) + rm.locals ≤ R.locals) (hz : cells ≤ R.cells ∧ slots ≤ R.slots) (hn : As.length = n) (hst : st = As.reverse ++ .ref (ad G x) :: rest) (hroom : (rest.map fun v => v.category).sum ≤ 8) (hl : lv_has ls nL lv) (hdg : decode cc pc = .ok (.invokevirtual index, 3))
    (kk : ∀ (H : Heap) (locs : List Loc), St G s H locs M' → W p l e R s m args below meth c H locs cells slots Q (F0 m (pc + 3) ls (va_rf (r.map (ad G)) :: rest))) : W p l e R s m args below meth c H locs cells slots Q (F0 m pc ls st) := by
  refine va_callq (A1 := zA G) (va_runV (As := As) (rest := rest) (Qc := QQ G r M') ⟨hC.1, hC.2.1, hC.2.2.1, hC.2.2.2.1, hC.2.2.2.2.1⟩ hM ⟨callB_of n hC.2.2.2.2.1 (zgood hY.1.2.2.2) rfl hrm.1 hrm.2 (hC.2.2.2.2.1 _ hY.1.2.2.1) (hC.2.2.2.2.1 _ hlink) hY.2 hR, hC.2.2.2.2.1 _ hY.1.1, hC.2.2.2.2.1 _ hY.1.2.1⟩ ⟨Wd.blind, hrc.at hw, fun U hU hW => ⟨rfl, hw.wd hU hW⟩⟩ rfl hn hl.1 hst (lv_room hroom) hdg ⟨hz.1, hz.2⟩) hw.2.2.2.2 zA_call (fun _ h => h) (fun r1 _ t H1 locs1 ht hvm hr hB _ _ hS => ?_)
  subst hr
  rw [← ht] at hS ⊢
  exact kk _ _ ⟨hw.1, hB.2.1, hB.2.2.1, hw.2.2.2.1, hS⟩
theorem k_Si {r : Int32} (hC : Cx p s m args meth c cc nL ret0 own) (hw : St G s H locs M) (hM : Met l y (.code y bytes maxL' ret :: zU) rm (va_Pc (As) (Wd G M)) (QI G r M') 0 0 (zA G)) (hY : YS y bytes maxL' ret n) (hlink : Cond.methodLink own index y ∈ zU) (hrm : rm.cells = 0 ∧ rm.slots = 0) (hR : rm.frames + 1 ≤ R.frames ∧ 8 + (maxL' + 11) + rm.locals ≤ R.locals) (hz : cells ≤ R.cells ∧ slots ≤ R.slots) (hn : As.length = n) (hst : st = As.reverse ++ rest) (hroom : (rest.map fun v => v.category).sum ≤ 8) (hl : lv_has ls nL lv) (hdg : decode cc pc = .ok (.invokestatic index, 3))
    (kk : ∀ (H : Heap) (locs : List Loc), St G s H locs M' → W p l e R s m args below meth c H locs cells slots Q (F0 m (pc + 3) ls (.int r :: rest))) : W p l e R s m args below meth c H locs cells slots Q (F0 m pc ls st) := by
  refine va_calli (A1 := zA G) (va_runS (As := As) (rest := rest) (Qc := QI G r M') ⟨hC.1, hC.2.1, hC.2.2.1, hC.2.2.2.1, hC.2.2.2.2.1⟩ hM ⟨callB_of n hC.2.2.2.2.1 (zgood hY.1.2.2) rfl hrm.1 hrm.2 (hC.2.2.2.2.1 _ hY.1.2.1) (hC.2.2.2.2.1 _ hlink) hY.2 hR, hC.2.2.2.2.1 _ hY.1.1⟩ ⟨Wd.blind, fun U hU hW => ⟨rfl, hw.wd hU hW⟩⟩ rfl hn hl.1 hst (lv_room hroom) hdg ⟨hz.1, hz.2⟩) hw.2.2.2.2 zA_call (fun _ h => h) (fun r1 _ t H1 locs1 ht hvm hr hB _ _ hS => ?_)
  subst hr
  rw [← ht] at hS ⊢
  exact kk _ _ ⟨hw.1, hB.2.1, hB.2.2.1, hw.2.2.2.1, hS⟩
theorem k_Sl {r : Int64} (hC : Cx p s m args meth c cc nL ret0 own) (hw : St G s H locs M) (hM : Met l y (.code y bytes maxL' ret :: zU) rm (va_Pc (As) (Wd G M)) (QL G r M') 0 0 (zA G)) (hY : YS y bytes maxL' ret n) (hlink : Cond.methodLink own index y ∈ zU) (hrm : rm.cells = 0 ∧ rm.slots = 0) (hR : rm.frames + 1 ≤ R.frames ∧ 8 + (maxL' + 11) + rm.locals ≤ R.locals) (hz : cells ≤ R.cells ∧ slots ≤ R.slots) (hn : As.length = n) (hst : st = As.reverse ++ rest) (hroom : (rest.map fun v => v.category).sum ≤ 8) (hl : lv_has ls nL lv) (hdg : decode cc pc = .ok (.invokestatic index, 3))
    (kk : ∀ (H : Heap) (locs : List Loc), St G s H locs M' → W p l e R s m args below meth c H locs cells slots Q (F0 m (pc + 3) ls (.long r :: rest))) : W p l e R s m args below meth c H locs cells slots Q (F0 m pc ls st) := by
  refine va_calll (A1 := zA G) (va_runS (As := As) (rest := rest) (Qc := QL G r M') ⟨hC.1, hC.2.1, hC.2.2.1, hC.2.2.2.1, hC.2.2.2.2.1⟩ hM ⟨callB_of n hC.2.2.2.2.1 (zgood hY.1.2.2) rfl hrm.1 hrm.2 (hC.2.2.2.2.1 _ hY.1.2.1) (hC.2.2.2.2.1 _ hlink) hY.2 hR, hC.2.2.2.2.1 _ hY.1.1⟩ ⟨Wd.blind, fun U hU hW => ⟨rfl, hw.wd hU hW⟩⟩ rfl hn hl.1 hst (lv_room hroom) hdg ⟨hz.1, hz.2⟩) hw.2.2.2.2 zA_call (fun _ h => h) (fun r1 _ t H1 locs1 ht hvm hr hB _ _ hS => ?_)
  subst hr
  rw [← ht] at hS ⊢
  exact kk _ _ ⟨hw.1, hB.2.1, hB.2.2.1, hw.2.2.2.1, hS⟩
theorem k_Sv (hC : Cx p s m args meth c cc nL ret0 own) (hw : St G s H locs M) (hM : Met l y (.code y bytes maxL' none :: zU) rm (va_Pc (As) (Wd G M)) (QV G M') 0 0 (zA G)) (hY : YS y bytes maxL' none n) (hlink : Cond.methodLink own index y ∈ zU) (hrm : rm.cells = 0 ∧ rm.slots = 0) (hR : rm.frames + 1 ≤ R.frames ∧ 8 + (maxL' + 11) + rm.locals ≤ R.locals) (hz : cells ≤ R.cells ∧ slots ≤ R.slots) (hn : As.length = n) (hst : st = As.reverse ++ rest) (hroom : (rest.map fun v => v.category).sum ≤ 8) (hl : lv_has ls nL lv) (hdg : decode cc pc = .ok (.invokestatic index, 3))
    (kk : ∀ (H : Heap) (locs : List Loc), St G s H locs M' → W p l e R s m args below meth c H locs cells slots Q (F0 m (pc + 3) ls (rest))) : W p l e R s m args below meth c H locs cells slots Q (F0 m pc ls st) := by
  refine va_callv (A1 := zA G) (va_runS (As := As) (rest := rest) (Qc := QV G M') ⟨hC.1, hC.2.1, hC.2.2.1, hC.2.2.2.1, hC.2.2.2.2.1⟩ hM ⟨callB_of n hC.2.2.2.2.1 (zgood hY.1.2.2) rfl hrm.1 hrm.2 (hC.2.2.2.2.1 _ hY.1.2.1) (hC.2.2.2.2.1 _ hlink) hY.2 hR, hC.2.2.2.2.1 _ hY.1.1⟩ ⟨Wd.blind, fun U hU hW => ⟨rfl, hw.wd hU hW⟩⟩ rfl hn hl.1 hst (lv_room hroom) hdg ⟨hz.1, hz.2⟩) hw.2.2.2.2 zA_call (fun _ h => h) (fun _ t H1 locs1 ht hvm hr hB _ _ hS => ?_)
  skip
  rw [← ht] at hS ⊢
  exact kk _ _ ⟨hw.1, hB.2.1, hB.2.2.1, hw.2.2.2.1, hS⟩
theorem k_Sq {r : Option Nat} (hC : Cx p s m args meth c cc nL ret0 own) (hw : St G s H locs M) (hM : Met l y (.code y bytes maxL' ret :: zU) rm (va_Pc (As) (Wd G M)) (QQ G r M') 0 0 (zA G)) (hY : YS y bytes maxL' ret n) (hlink : Cond.methodLink own index y ∈ zU) (hrm : rm.cells = 0 ∧ rm.slots = 0) (hR : rm.frames + 1 ≤ R.frames ∧ 8 + (maxL' + 11) + rm.locals ≤ R.locals) (hz : cells ≤ R.cells ∧ slots ≤ R.slots) (hn : As.length = n) (hst : st = As.reverse ++ rest) (hroom : (rest.map fun v => v.category).sum ≤ 8) (hl : lv_has ls nL lv) (hdg : decode cc pc = .ok (.invokestatic index, 3))
    (kk : ∀ (H : Heap) (locs : List Loc), St G s H locs M' → W p l e R s m args below meth c H locs cells slots Q (F0 m (pc + 3) ls (va_rf (r.map (ad G)) :: rest))) : W p l e R s m args below meth c H locs cells slots Q (F0 m pc ls st) := by
  refine va_callq (A1 := zA G) (va_runS (As := As) (rest := rest) (Qc := QQ G r M') ⟨hC.1, hC.2.1, hC.2.2.1, hC.2.2.2.1, hC.2.2.2.2.1⟩ hM ⟨callB_of n hC.2.2.2.2.1 (zgood hY.1.2.2) rfl hrm.1 hrm.2 (hC.2.2.2.2.1 _ hY.1.2.1) (hC.2.2.2.2.1 _ hlink) hY.2 hR, hC.2.2.2.2.1 _ hY.1.1⟩ ⟨Wd.blind, fun U hU hW => ⟨rfl, hw.wd hU hW⟩⟩ rfl hn hl.1 hst (lv_room hroom) hdg ⟨hz.1, hz.2⟩) hw.2.2.2.2 zA_call (fun _ h => h) (fun r1 _ t H1 locs1 ht hvm hr hB _ _ hS => ?_)
  subst hr
  rw [← ht] at hS ⊢
  exact kk _ _ ⟨hw.1, hB.2.1, hB.2.2.1, hw.2.2.2.1, hS⟩
theorem k_Ni {r : Int32} (hC : Cx p s m args meth c cc nL ret0 own) (hw : St G s H locs M) (hM : Met l y (.code y bytes maxL' ret :: zU) rm (va_Pc (As) (Wd G M)) (QI G r M') 0 0 (zA G)) (hY : YS y bytes maxL' ret n) {k : Nat} (hlink : znw[k]? = some (own, index, y)) (hrm : rm.cells = 0 ∧ rm.slots = 0) (hR : rm.frames + 1 ≤ R.frames ∧ 8 + (maxL' + 11) + rm.locals ≤ R.locals) (hz : cells ≤ R.cells ∧ slots ≤ R.slots) (hn : As.length = n) (hst : st = As.reverse ++ rest) (hroom : (rest.map fun v => v.category).sum ≤ 8) (hl : lv_has ls nL lv) (hdg : decode cc pc = .ok (.invokestatic index, 3))
    (kk : ∀ (H : Heap) (locs : List Loc), St G s H locs M' → W p l e R s m args below meth c H locs cells slots Q (F0 m (pc + 3) ls (.int r :: rest))) : W p l e R s m args below meth c H locs cells slots Q (F0 m pc ls st) := by
  refine va_calli (A1 := zA G) (va_runSN (As := As) (rest := rest) (Qc := QI G r M') ⟨hC.1, hC.2.1, hC.2.2.1, hC.2.2.2.1, hC.2.2.2.2.1⟩ hM ⟨va_cnB (host := "SnowCitizens") n hC.2.2.2.2.1 (zgood hY.1.2.2) rfl hrm.1 hrm.2 (hw.2.2.2.1 k _ hlink) (hC.2.2.2.2.1 _ hY.1.2.1) hY.2 hR, hC.2.2.2.2.1 _ hY.1.1, trivial⟩ ⟨Wd.blind, fun U hU hW => ⟨rfl, hw.wd hU hW⟩⟩ rfl hn hl.1 hst (lv_room hroom) hdg ⟨hz.1, hz.2⟩) hw.2.2.2.2 zA_call (fun _ h => h) (fun r1 _ t H1 locs1 ht hvm hr hB _ _ hS => ?_)
  subst hr
  rw [← ht] at hS ⊢
  exact kk _ _ ⟨hw.1, hB.2.1, hB.2.2.1, hw.2.2.2.1, hS⟩
theorem k_Nl {r : Int64} (hC : Cx p s m args meth c cc nL ret0 own) (hw : St G s H locs M) (hM : Met l y (.code y bytes maxL' ret :: zU) rm (va_Pc (As) (Wd G M)) (QL G r M') 0 0 (zA G)) (hY : YS y bytes maxL' ret n) {k : Nat} (hlink : znw[k]? = some (own, index, y)) (hrm : rm.cells = 0 ∧ rm.slots = 0) (hR : rm.frames + 1 ≤ R.frames ∧ 8 + (maxL' + 11) + rm.locals ≤ R.locals) (hz : cells ≤ R.cells ∧ slots ≤ R.slots) (hn : As.length = n) (hst : st = As.reverse ++ rest) (hroom : (rest.map fun v => v.category).sum ≤ 8) (hl : lv_has ls nL lv) (hdg : decode cc pc = .ok (.invokestatic index, 3))
    (kk : ∀ (H : Heap) (locs : List Loc), St G s H locs M' → W p l e R s m args below meth c H locs cells slots Q (F0 m (pc + 3) ls (.long r :: rest))) : W p l e R s m args below meth c H locs cells slots Q (F0 m pc ls st) := by
  refine va_calll (A1 := zA G) (va_runSN (As := As) (rest := rest) (Qc := QL G r M') ⟨hC.1, hC.2.1, hC.2.2.1, hC.2.2.2.1, hC.2.2.2.2.1⟩ hM ⟨va_cnB (host := "SnowCitizens") n hC.2.2.2.2.1 (zgood hY.1.2.2) rfl hrm.1 hrm.2 (hw.2.2.2.1 k _ hlink) (hC.2.2.2.2.1 _ hY.1.2.1) hY.2 hR, hC.2.2.2.2.1 _ hY.1.1, trivial⟩ ⟨Wd.blind, fun U hU hW => ⟨rfl, hw.wd hU hW⟩⟩ rfl hn hl.1 hst (lv_room hroom) hdg ⟨hz.1, hz.2⟩) hw.2.2.2.2 zA_call (fun _ h => h) (fun r1 _ t H1 locs1 ht hvm hr hB _ _ hS => ?_)
  subst hr
  rw [← ht] at hS ⊢
  exact kk _ _ ⟨hw.1, hB.2.1, hB.2.2.1, hw.2.2.2.1, hS⟩
theorem k_Nv (hC : Cx p s m args meth c cc nL ret0 own) (hw : St G s H locs M) (hM : Met l y (.code y bytes maxL' none :: zU) rm (va_Pc (As) (Wd G M)) (QV G M') 0 0 (zA G)) (hY : YS y bytes maxL' none n) {k : Nat} (hlink : znw[k]? = some (own, index, y)) (hrm : rm.cells = 0 ∧ rm.slots = 0) (hR : rm.frames + 1 ≤ R.frames ∧ 8 + (maxL' + 11) + rm.locals ≤ R.locals) (hz : cells ≤ R.cells ∧ slots ≤ R.slots) (hn : As.length = n) (hst : st = As.reverse ++ rest) (hroom : (rest.map fun v => v.category).sum ≤ 8) (hl : lv_has ls nL lv) (hdg : decode cc pc = .ok (.invokestatic index, 3))
    (kk : ∀ (H : Heap) (locs : List Loc), St G s H locs M' → W p l e R s m args below meth c H locs cells slots Q (F0 m (pc + 3) ls (rest))) : W p l e R s m args below meth c H locs cells slots Q (F0 m pc ls st) := by
  refine va_callv (A1 := zA G) (va_runSN (As := As) (rest := rest) (Qc := QV G M') ⟨hC.1, hC.2.1, hC.2.2.1, hC.2.2.2.1, hC.2.2.2.2.1⟩ hM ⟨va_cnB (host := "SnowCitizens") n hC.2.2.2.2.1 (zgood hY.1.2.2) rfl hrm.1 hrm.2 (hw.2.2.2.1 k _ hlink) (hC.2.2.2.2.1 _ hY.1.2.1) hY.2 hR, hC.2.2.2.2.1 _ hY.1.1, trivial⟩ ⟨Wd.blind, fun U hU hW => ⟨rfl, hw.wd hU hW⟩⟩ rfl hn hl.1 hst (lv_room hroom) hdg ⟨hz.1, hz.2⟩) hw.2.2.2.2 zA_call (fun _ h => h) (fun _ t H1 locs1 ht hvm hr hB _ _ hS => ?_)
  skip
  rw [← ht] at hS ⊢
  exact kk _ _ ⟨hw.1, hB.2.1, hB.2.2.1, hw.2.2.2.1, hS⟩
theorem k_Nq {r : Option Nat} (hC : Cx p s m args meth c cc nL ret0 own) (hw : St G s H locs M) (hM : Met l y (.code y bytes maxL' ret :: zU) rm (va_Pc (As) (Wd G M)) (QQ G r M') 0 0 (zA G)) (hY : YS y bytes maxL' ret n) {k : Nat} (hlink : znw[k]? = some (own, index, y)) (hrm : rm.cells = 0 ∧ rm.slots = 0) (hR : rm.frames + 1 ≤ R.frames ∧ 8 + (maxL' + 11) + rm.locals ≤ R.locals) (hz : cells ≤ R.cells ∧ slots ≤ R.slots) (hn : As.length = n) (hst : st = As.reverse ++ rest) (hroom : (rest.map fun v => v.category).sum ≤ 8) (hl : lv_has ls nL lv) (hdg : decode cc pc = .ok (.invokestatic index, 3))
    (kk : ∀ (H : Heap) (locs : List Loc), St G s H locs M' → W p l e R s m args below meth c H locs cells slots Q (F0 m (pc + 3) ls (va_rf (r.map (ad G)) :: rest))) : W p l e R s m args below meth c H locs cells slots Q (F0 m pc ls st) := by
  refine va_callq (A1 := zA G) (va_runSN (As := As) (rest := rest) (Qc := QQ G r M') ⟨hC.1, hC.2.1, hC.2.2.1, hC.2.2.2.1, hC.2.2.2.2.1⟩ hM ⟨va_cnB (host := "SnowCitizens") n hC.2.2.2.2.1 (zgood hY.1.2.2) rfl hrm.1 hrm.2 (hw.2.2.2.1 k _ hlink) (hC.2.2.2.2.1 _ hY.1.2.1) hY.2 hR, hC.2.2.2.2.1 _ hY.1.1, trivial⟩ ⟨Wd.blind, fun U hU hW => ⟨rfl, hw.wd hU hW⟩⟩ rfl hn hl.1 hst (lv_room hroom) hdg ⟨hz.1, hz.2⟩) hw.2.2.2.2 zA_call (fun _ h => h) (fun r1 _ t H1 locs1 ht hvm hr hB _ _ hS => ?_)
  subst hr
  rw [← ht] at hS ⊢
  exact kk _ _ ⟨hw.1, hB.2.1, hB.2.2.1, hw.2.2.2.1, hS⟩
theorem zMet {Qc : Array Value → State → Outcome → State → Prop} (hy : plainName y.cls = true) (hown : y.cls = own) (hn : (lg_sl As).length ≤ maxL) (body : ∀ p e s m below meth c, Cx p s m As.toArray meth c cc maxL ret own → St G s s.heap [] M → ∀ ls, lv_has ls maxL (lv_args 0 As) → W p l e rm s m As.toArray below meth c s.heap [] 0 0 (MQ below Qc As.toArray s 0 0 (zA G)) (F0 m 0 ls [])) : Met l y (.code y cc maxL ret :: zU) rm (va_Pc As (Wd G M)) Qc 0 0 (zA G) := by
  refine Met.ofW (cc := cc) (maxL := maxL) (ret := ret) hy rfl ?_
  intro p e s m args below meth c s₁ B hml hv
  obtain ⟨rfl, hK, hP, hD, hN⟩ := hv
  have hts := atoms_spec (ws := .code y cc maxL ret :: zU) B.pre
  have hl := lv_entry As hn
  rw [lg_entry_eq]
  exact body p e s m below meth c ⟨B.exec, B.bytes, hml, by rw [← hown]; exact findClass_of_methodNamed B.named, fun w h => hts w (List.mem_cons_of_mem _ h), B.returns, B.notSynchronized⟩ ⟨hK, hP, hD, hN, va_S.rf⟩ _ hl
end ZR
section ZF
variable {p : Program} {l : Launch} {e : Env} {R : Room} {s : State} {m : MethodId} {args : Array Value} {below : List Frame} {meth : Method} {c : Code} {H : Heap} {locs : List Loc} {cells slots : Nat} {Q : State → Prop}
variable {cc : ByteArray} {pc : Nat} {ls : Array Slot} {rest : List Value} {G : Gv} {M : Mm} {own : String} {index nL : Nat} {ret : Option FieldType}
theorem g0_ways (hC : Cx p s m args meth c cc nL ret own) (hw : St G s H locs M) (hlink : Cond.fieldLink own index "SnowCitizens$Clouds" "ways" "[J" ∈ zU) (hdg : decode cc pc = .ok (.getfield index, 3)) (kk : W p l e R s m args below meth c H locs cells slots Q (F0 m (pc + 3) ls (.ref (ad G 78) :: rest))) : W p l e R s m args below meth c H locs cells slots Q (F0 m pc ls (.ref (ad G 77) :: rest)) :=
  z_get hC.1 hC.2.1 hC.2.2.2.2.1 hC.2.2.2.1 hw (by decide) (show zE G _ _ 77 = .inr (0, zfC G _ _) from rfl) (ci := 0) rfl inU0 (k := 0) (by decide) hlink rfl hdg kk
theorem g0_next (hC : Cx p s m args meth c cc nL ret own) (hw : St G s H locs M) (hlink : Cond.fieldLink own index "SnowCitizens$Clouds" "next" "[J" ∈ zU) (hdg : decode cc pc = .ok (.getfield index, 3)) (kk : W p l e R s m args below meth c H locs cells slots Q (F0 m (pc + 3) ls (.ref (ad G 79) :: rest))) : W p l e R s m args below meth c H locs cells slots Q (F0 m pc ls (.ref (ad G 77) :: rest)) :=
  z_get hC.1 hC.2.1 hC.2.2.2.2.1 hC.2.2.2.1 hw (by decide) (show zE G _ _ 77 = .inr (0, zfC G _ _) from rfl) (ci := 0) rfl inU0 (k := 1) (by decide) hlink rfl hdg kk
theorem g0_allWays (hC : Cx p s m args meth c cc nL ret own) (hw : St G s H locs M) (hlink : Cond.fieldLink own index "SnowCitizens$Clouds" "allWays" "J" ∈ zU) (hdg : decode cc pc = .ok (.getfield index, 3)) (kk : W p l e R s m args below meth c H locs cells slots Q (F0 m (pc + 3) ls (.long (M.2 77 2) :: rest))) : W p l e R s m args below meth c H locs cells slots Q (F0 m pc ls (.ref (ad G 77) :: rest)) :=
  z_get hC.1 hC.2.1 hC.2.2.2.2.1 hC.2.2.2.1 hw (by decide) (show zE G _ _ 77 = .inr (0, zfC G _ _) from rfl) (ci := 0) rfl inU0 (k := 2) (by decide) hlink rfl hdg kk
theorem u0_allWays (hC : Cx p s m args meth c cc nL ret own) (hw : St G s H locs M) {v : Int64} (hlink : Cond.fieldLink own index "SnowCitizens$Clouds" "allWays" "J" ∈ zU) (hdg : decode cc pc = .ok (.putfield index, 3)) (kk : ∀ (H : Heap) (locs : List Loc), St G s H locs (pL M 77 2 v) → W p l e R s m args below meth c H locs cells slots Q (F0 m (pc + 3) ls rest)) : W p l e R s m args below meth c H locs cells slots Q (F0 m pc ls (.long v :: .ref (ad G 77) :: rest)) :=
  z_put hC.1 hC.2.1 hC.2.2.2.2.1 hC.2.2.2.1 hw (pL M 77 2 v) (ty := .long) tyX0 tyX0_ok nmX0 (by decide) (show zE G _ _ 77 = .inr (0, zfC G _ _) from rfl) rfl pL_off (ci := 0) rfl inU0 (k := 2) (by decide) hlink rfl (by decide +kernel) rfl rfl (Nat.le_of_ble_eq_true rfl) hdg kk
theorem g1_men (hC : Cx p s m args meth c cc nL ret own) (hw : St G s H locs M) (hlink : Cond.fieldLink own index "SnowCitizens$Game" "men" "I" ∈ zU) (hdg : decode cc pc = .ok (.getfield index, 3)) (kk : W p l e R s m args below meth c H locs cells slots Q (F0 m (pc + 3) ls (.int (M.1 74 0) :: rest))) : W p l e R s m args below meth c H locs cells slots Q (F0 m pc ls (.ref (ad G 74) :: rest)) :=
  z_get hC.1 hC.2.1 hC.2.2.2.2.1 hC.2.2.2.1 hw (by decide) (show zE G _ _ 74 = .inr (1, zfG G _ _) from rfl) (ci := 1) rfl inU1 (k := 0) (by decide) hlink rfl hdg kk
theorem u1_men (hC : Cx p s m args meth c cc nL ret own) (hw : St G s H locs M) {v : Int32} (hlink : Cond.fieldLink own index "SnowCitizens$Game" "men" "I" ∈ zU) (hdg : decode cc pc = .ok (.putfield index, 3)) (kk : ∀ (H : Heap) (locs : List Loc), St G s H locs (pI M 74 0 v) → W p l e R s m args below meth c H locs cells slots Q (F0 m (pc + 3) ls rest)) : W p l e R s m args below meth c H locs cells slots Q (F0 m pc ls (.int v :: .ref (ad G 74) :: rest)) :=
  z_put hC.1 hC.2.1 hC.2.2.2.2.1 hC.2.2.2.1 hw (pI M 74 0 v) (ty := .int) tyX1 tyX1_ok nmX1 (by decide) (show zE G _ _ 74 = .inr (1, zfG G _ _) from rfl) rfl pI_off (ci := 1) rfl inU1 (k := 0) (by decide) hlink rfl (by decide +kernel) rfl rfl (Nat.le_of_ble_eq_true rfl) hdg kk
theorem g1_voters (hC : Cx p s m args meth c cc nL ret own) (hw : St G s H locs M) (hlink : Cond.fieldLink own index "SnowCitizens$Game" "voters" "I" ∈ zU) (hdg : decode cc pc = .ok (.getfield index, 3)) (kk : W p l e R s m args below meth c H locs cells slots Q (F0 m (pc + 3) ls (.int (M.1 74 1) :: rest))) : W p l e R s m args below meth c H locs cells slots Q (F0 m pc ls (.ref (ad G 74) :: rest)) :=
  z_get hC.1 hC.2.1 hC.2.2.2.2.1 hC.2.2.2.1 hw (by decide) (show zE G _ _ 74 = .inr (1, zfG G _ _) from rfl) (ci := 1) rfl inU1 (k := 1) (by decide) hlink rfl hdg kk
theorem u1_voters (hC : Cx p s m args meth c cc nL ret own) (hw : St G s H locs M) {v : Int32} (hlink : Cond.fieldLink own index "SnowCitizens$Game" "voters" "I" ∈ zU) (hdg : decode cc pc = .ok (.putfield index, 3)) (kk : ∀ (H : Heap) (locs : List Loc), St G s H locs (pI M 74 1 v) → W p l e R s m args below meth c H locs cells slots Q (F0 m (pc + 3) ls rest)) : W p l e R s m args below meth c H locs cells slots Q (F0 m pc ls (.int v :: .ref (ad G 74) :: rest)) :=
  z_put hC.1 hC.2.1 hC.2.2.2.2.1 hC.2.2.2.1 hw (pI M 74 1 v) (ty := .int) tyX1 tyX1_ok nmX1 (by decide) (show zE G _ _ 74 = .inr (1, zfG G _ _) from rfl) rfl pI_off (ci := 1) rfl inU1 (k := 1) (by decide) hlink rfl (by decide +kernel) rfl rfl (Nat.le_of_ble_eq_true rfl) hdg kk
theorem g1_carriedBy (hC : Cx p s m args meth c cc nL ret own) (hw : St G s H locs M) (hlink : Cond.fieldLink own index "SnowCitizens$Game" "carriedBy" "J" ∈ zU) (hdg : decode cc pc = .ok (.getfield index, 3)) (kk : W p l e R s m args below meth c H locs cells slots Q (F0 m (pc + 3) ls (.long (M.2 74 2) :: rest))) : W p l e R s m args below meth c H locs cells slots Q (F0 m pc ls (.ref (ad G 74) :: rest)) :=
  z_get hC.1 hC.2.1 hC.2.2.2.2.1 hC.2.2.2.1 hw (by decide) (show zE G _ _ 74 = .inr (1, zfG G _ _) from rfl) (ci := 1) rfl inU1 (k := 2) (by decide) hlink rfl hdg kk
theorem u1_carriedBy (hC : Cx p s m args meth c cc nL ret own) (hw : St G s H locs M) {v : Int64} (hlink : Cond.fieldLink own index "SnowCitizens$Game" "carriedBy" "J" ∈ zU) (hdg : decode cc pc = .ok (.putfield index, 3)) (kk : ∀ (H : Heap) (locs : List Loc), St G s H locs (pL M 74 2 v) → W p l e R s m args below meth c H locs cells slots Q (F0 m (pc + 3) ls rest)) : W p l e R s m args below meth c H locs cells slots Q (F0 m pc ls (.long v :: .ref (ad G 74) :: rest)) :=
  z_put hC.1 hC.2.1 hC.2.2.2.2.1 hC.2.2.2.1 hw (pL M 74 2 v) (ty := .long) tyX1 tyX1_ok nmX1 (by decide) (show zE G _ _ 74 = .inr (1, zfG G _ _) from rfl) rfl pL_off (ci := 1) rfl inU1 (k := 2) (by decide) hlink rfl (by decide +kernel) rfl rfl (Nat.le_of_ble_eq_true rfl) hdg kk
theorem g1_shadeOf (hC : Cx p s m args meth c cc nL ret own) (hw : St G s H locs M) (hlink : Cond.fieldLink own index "SnowCitizens$Game" "shadeOf" "[I" ∈ zU) (hdg : decode cc pc = .ok (.getfield index, 3)) (kk : W p l e R s m args below meth c H locs cells slots Q (F0 m (pc + 3) ls (.ref (ad G 75) :: rest))) : W p l e R s m args below meth c H locs cells slots Q (F0 m pc ls (.ref (ad G 74) :: rest)) :=
  z_get hC.1 hC.2.1 hC.2.2.2.2.1 hC.2.2.2.1 hw (by decide) (show zE G _ _ 74 = .inr (1, zfG G _ _) from rfl) (ci := 1) rfl inU1 (k := 3) (by decide) hlink rfl hdg kk
theorem g1_rightBy (hC : Cx p s m args meth c cc nL ret own) (hw : St G s H locs M) (hlink : Cond.fieldLink own index "SnowCitizens$Game" "rightBy" "[I" ∈ zU) (hdg : decode cc pc = .ok (.getfield index, 3)) (kk : W p l e R s m args below meth c H locs cells slots Q (F0 m (pc + 3) ls (.ref (ad G 76) :: rest))) : W p l e R s m args below meth c H locs cells slots Q (F0 m pc ls (.ref (ad G 74) :: rest)) :=
  z_get hC.1 hC.2.1 hC.2.2.2.2.1 hC.2.2.2.1 hw (by decide) (show zE G _ _ 74 = .inr (1, zfG G _ _) from rfl) (ci := 1) rfl inU1 (k := 4) (by decide) hlink rfl hdg kk
theorem g2_men (hC : Cx p s m args meth c cc nL ret own) (hw : St G s H locs M) {x : Nat} (hk : kd x = 11) (hlink : Cond.fieldLink own index "SnowCitizens$North" "men" "I" ∈ zU) (hdg : decode cc pc = .ok (.getfield index, 3)) (kk : W p l e R s m args below meth c H locs cells slots Q (F0 m (pc + 3) ls (.int (M.1 x 0) :: rest))) : W p l e R s m args below meth c H locs cells slots Q (F0 m pc ls (.ref (ad G x) :: rest)) :=
  z_get hC.1 hC.2.1 hC.2.2.2.2.1 hC.2.2.2.1 hw (kd_lt hk (by decide)) (zE_N hk) (ci := 2) rfl inU2 (k := 0) (by decide) hlink rfl hdg kk
theorem u2_men (hC : Cx p s m args meth c cc nL ret own) (hw : St G s H locs M) {x : Nat} (hk : kd x = 11) {v : Int32} (hlink : Cond.fieldLink own index "SnowCitizens$North" "men" "I" ∈ zU) (hdg : decode cc pc = .ok (.putfield index, 3)) (kk : ∀ (H : Heap) (locs : List Loc), St G s H locs (pI M x 0 v) → W p l e R s m args below meth c H locs cells slots Q (F0 m (pc + 3) ls rest)) : W p l e R s m args below meth c H locs cells slots Q (F0 m pc ls (.int v :: .ref (ad G x) :: rest)) :=
  z_put hC.1 hC.2.1 hC.2.2.2.2.1 hC.2.2.2.1 hw (pI M x 0 v) (ty := .int) tyX2 tyX2_ok nmX2 (kd_lt hk (by decide)) (zE_N hk) (by rw [zE_N hk, pI_at]; rfl) pI_off (ci := 2) rfl inU2 (k := 0) (by decide) hlink rfl (by decide +kernel) rfl rfl (Nat.le_of_ble_eq_true rfl) hdg kk
theorem g2_rightNow (hC : Cx p s m args meth c cc nL ret own) (hw : St G s H locs M) {x : Nat} (hk : kd x = 11) (hlink : Cond.fieldLink own index "SnowCitizens$North" "rightNow" "I" ∈ zU) (hdg : decode cc pc = .ok (.getfield index, 3)) (kk : W p l e R s m args below meth c H locs cells slots Q (F0 m (pc + 3) ls (.int (M.1 x 1) :: rest))) : W p l e R s m args below meth c H locs cells slots Q (F0 m pc ls (.ref (ad G x) :: rest)) :=
  z_get hC.1 hC.2.1 hC.2.2.2.2.1 hC.2.2.2.1 hw (kd_lt hk (by decide)) (zE_N hk) (ci := 2) rfl inU2 (k := 1) (by decide) hlink rfl hdg kk
theorem u2_rightNow (hC : Cx p s m args meth c cc nL ret own) (hw : St G s H locs M) {x : Nat} (hk : kd x = 11) {v : Int32} (hlink : Cond.fieldLink own index "SnowCitizens$North" "rightNow" "I" ∈ zU) (hdg : decode cc pc = .ok (.putfield index, 3)) (kk : ∀ (H : Heap) (locs : List Loc), St G s H locs (pI M x 1 v) → W p l e R s m args below meth c H locs cells slots Q (F0 m (pc + 3) ls rest)) : W p l e R s m args below meth c H locs cells slots Q (F0 m pc ls (.int v :: .ref (ad G x) :: rest)) :=
  z_put hC.1 hC.2.1 hC.2.2.2.2.1 hC.2.2.2.1 hw (pI M x 1 v) (ty := .int) tyX2 tyX2_ok nmX2 (kd_lt hk (by decide)) (zE_N hk) (by rw [zE_N hk, pI_at]; rfl) pI_off (ci := 2) rfl inU2 (k := 1) (by decide) hlink rfl (by decide +kernel) rfl rfl (Nat.le_of_ble_eq_true rfl) hdg kk
theorem g2_today (hC : Cx p s m args meth c cc nL ret own) (hw : St G s H locs M) {x : Nat} (hk : kd x = 11) (hlink : Cond.fieldLink own index "SnowCitizens$North" "today" "I" ∈ zU) (hdg : decode cc pc = .ok (.getfield index, 3)) (kk : W p l e R s m args below meth c H locs cells slots Q (F0 m (pc + 3) ls (.int (M.1 x 2) :: rest))) : W p l e R s m args below meth c H locs cells slots Q (F0 m pc ls (.ref (ad G x) :: rest)) :=
  z_get hC.1 hC.2.1 hC.2.2.2.2.1 hC.2.2.2.1 hw (kd_lt hk (by decide)) (zE_N hk) (ci := 2) rfl inU2 (k := 2) (by decide) hlink rfl hdg kk
theorem u2_today (hC : Cx p s m args meth c cc nL ret own) (hw : St G s H locs M) {x : Nat} (hk : kd x = 11) {v : Int32} (hlink : Cond.fieldLink own index "SnowCitizens$North" "today" "I" ∈ zU) (hdg : decode cc pc = .ok (.putfield index, 3)) (kk : ∀ (H : Heap) (locs : List Loc), St G s H locs (pI M x 2 v) → W p l e R s m args below meth c H locs cells slots Q (F0 m (pc + 3) ls rest)) : W p l e R s m args below meth c H locs cells slots Q (F0 m pc ls (.int v :: .ref (ad G x) :: rest)) :=
  z_put hC.1 hC.2.1 hC.2.2.2.2.1 hC.2.2.2.1 hw (pI M x 2 v) (ty := .int) tyX2 tyX2_ok nmX2 (kd_lt hk (by decide)) (zE_N hk) (by rw [zE_N hk, pI_at]; rfl) pI_off (ci := 2) rfl inU2 (k := 2) (by decide) hlink rfl (by decide +kernel) rfl rfl (Nat.le_of_ble_eq_true rfl) hdg kk
theorem g2_deeds (hC : Cx p s m args meth c cc nL ret own) (hw : St G s H locs M) {x : Nat} (hk : kd x = 11) (hlink : Cond.fieldLink own index "SnowCitizens$North" "deeds" "I" ∈ zU) (hdg : decode cc pc = .ok (.getfield index, 3)) (kk : W p l e R s m args below meth c H locs cells slots Q (F0 m (pc + 3) ls (.int (M.1 x 3) :: rest))) : W p l e R s m args below meth c H locs cells slots Q (F0 m pc ls (.ref (ad G x) :: rest)) :=
  z_get hC.1 hC.2.1 hC.2.2.2.2.1 hC.2.2.2.1 hw (kd_lt hk (by decide)) (zE_N hk) (ci := 2) rfl inU2 (k := 3) (by decide) hlink rfl hdg kk
theorem u2_deeds (hC : Cx p s m args meth c cc nL ret own) (hw : St G s H locs M) {x : Nat} (hk : kd x = 11) {v : Int32} (hlink : Cond.fieldLink own index "SnowCitizens$North" "deeds" "I" ∈ zU) (hdg : decode cc pc = .ok (.putfield index, 3)) (kk : ∀ (H : Heap) (locs : List Loc), St G s H locs (pI M x 3 v) → W p l e R s m args below meth c H locs cells slots Q (F0 m (pc + 3) ls rest)) : W p l e R s m args below meth c H locs cells slots Q (F0 m pc ls (.int v :: .ref (ad G x) :: rest)) :=
  z_put hC.1 hC.2.1 hC.2.2.2.2.1 hC.2.2.2.1 hw (pI M x 3 v) (ty := .int) tyX2 tyX2_ok nmX2 (kd_lt hk (by decide)) (zE_N hk) (by rw [zE_N hk, pI_at]; rfl) pI_off (ci := 2) rfl inU2 (k := 3) (by decide) hlink rfl (by decide +kernel) rfl rfl (Nat.le_of_ble_eq_true rfl) hdg kk
theorem g2_suns (hC : Cx p s m args meth c cc nL ret own) (hw : St G s H locs M) {x : Nat} (hk : kd x = 11) (hlink : Cond.fieldLink own index "SnowCitizens$North" "suns" "[I" ∈ zU) (hdg : decode cc pc = .ok (.getfield index, 3)) (kk : W p l e R s m args below meth c H locs cells slots Q (F0 m (pc + 3) ls (.ref (ad G (x + 1)) :: rest))) : W p l e R s m args below meth c H locs cells slots Q (F0 m pc ls (.ref (ad G x) :: rest)) :=
  z_get hC.1 hC.2.1 hC.2.2.2.2.1 hC.2.2.2.1 hw (kd_lt hk (by decide)) (zE_N hk) (ci := 2) rfl inU2 (k := 4) (by decide) hlink rfl hdg kk
theorem g2_kindOf (hC : Cx p s m args meth c cc nL ret own) (hw : St G s H locs M) {x : Nat} (hk : kd x = 11) (hlink : Cond.fieldLink own index "SnowCitizens$North" "kindOf" "[I" ∈ zU) (hdg : decode cc pc = .ok (.getfield index, 3)) (kk : W p l e R s m args below meth c H locs cells slots Q (F0 m (pc + 3) ls (.ref (ad G (x + 2)) :: rest))) : W p l e R s m args below meth c H locs cells slots Q (F0 m pc ls (.ref (ad G x) :: rest)) :=
  z_get hC.1 hC.2.1 hC.2.2.2.2.1 hC.2.2.2.1 hw (kd_lt hk (by decide)) (zE_N hk) (ci := 2) rfl inU2 (k := 5) (by decide) hlink rfl hdg kk
theorem g2_voteOf (hC : Cx p s m args meth c cc nL ret own) (hw : St G s H locs M) {x : Nat} (hk : kd x = 11) (hlink : Cond.fieldLink own index "SnowCitizens$North" "voteOf" "[I" ∈ zU) (hdg : decode cc pc = .ok (.getfield index, 3)) (kk : W p l e R s m args below meth c H locs cells slots Q (F0 m (pc + 3) ls (.ref (ad G (x + 3)) :: rest))) : W p l e R s m args below meth c H locs cells slots Q (F0 m pc ls (.ref (ad G x) :: rest)) :=
  z_get hC.1 hC.2.1 hC.2.2.2.2.1 hC.2.2.2.1 hw (kd_lt hk (by decide)) (zE_N hk) (ci := 2) rfl inU2 (k := 6) (by decide) hlink rfl hdg kk
theorem g2_bulkOf (hC : Cx p s m args meth c cc nL ret own) (hw : St G s H locs M) {x : Nat} (hk : kd x = 11) (hlink : Cond.fieldLink own index "SnowCitizens$North" "bulkOf" "[I" ∈ zU) (hdg : decode cc pc = .ok (.getfield index, 3)) (kk : W p l e R s m args below meth c H locs cells slots Q (F0 m (pc + 3) ls (.ref (ad G (x + 4)) :: rest))) : W p l e R s m args below meth c H locs cells slots Q (F0 m pc ls (.ref (ad G x) :: rest)) :=
  z_get hC.1 hC.2.1 hC.2.2.2.2.1 hC.2.2.2.1 hw (kd_lt hk (by decide)) (zE_N hk) (ci := 2) rfl inU2 (k := 7) (by decide) hlink rfl hdg kk
theorem g2_shadeOf (hC : Cx p s m args meth c cc nL ret own) (hw : St G s H locs M) {x : Nat} (hk : kd x = 11) (hlink : Cond.fieldLink own index "SnowCitizens$North" "shadeOf" "[I" ∈ zU) (hdg : decode cc pc = .ok (.getfield index, 3)) (kk : W p l e R s m args below meth c H locs cells slots Q (F0 m (pc + 3) ls (.ref (ad G (x + 5)) :: rest))) : W p l e R s m args below meth c H locs cells slots Q (F0 m pc ls (.ref (ad G x) :: rest)) :=
  z_get hC.1 hC.2.1 hC.2.2.2.2.1 hC.2.2.2.1 hw (kd_lt hk (by decide)) (zE_N hk) (ci := 2) rfl inU2 (k := 8) (by decide) hlink rfl hdg kk
theorem g2_firstBulkOf (hC : Cx p s m args meth c cc nL ret own) (hw : St G s H locs M) {x : Nat} (hk : kd x = 11) (hlink : Cond.fieldLink own index "SnowCitizens$North" "firstBulkOf" "[I" ∈ zU) (hdg : decode cc pc = .ok (.getfield index, 3)) (kk : W p l e R s m args below meth c H locs cells slots Q (F0 m (pc + 3) ls (.ref (ad G (x + 6)) :: rest))) : W p l e R s m args below meth c H locs cells slots Q (F0 m pc ls (.ref (ad G x) :: rest)) :=
  z_get hC.1 hC.2.1 hC.2.2.2.2.1 hC.2.2.2.1 hw (kd_lt hk (by decide)) (zE_N hk) (ci := 2) rfl inU2 (k := 9) (by decide) hlink rfl hdg kk
theorem g2_firstShadeOf (hC : Cx p s m args meth c cc nL ret own) (hw : St G s H locs M) {x : Nat} (hk : kd x = 11) (hlink : Cond.fieldLink own index "SnowCitizens$North" "firstShadeOf" "[I" ∈ zU) (hdg : decode cc pc = .ok (.getfield index, 3)) (kk : W p l e R s m args below meth c H locs cells slots Q (F0 m (pc + 3) ls (.ref (ad G (x + 7)) :: rest))) : W p l e R s m args below meth c H locs cells slots Q (F0 m pc ls (.ref (ad G x) :: rest)) :=
  z_get hC.1 hC.2.1 hC.2.2.2.2.1 hC.2.2.2.1 hw (kd_lt hk (by decide)) (zE_N hk) (ci := 2) rfl inU2 (k := 10) (by decide) hlink rfl hdg kk
theorem g2_deedSorts (hC : Cx p s m args meth c cc nL ret own) (hw : St G s H locs M) {x : Nat} (hk : kd x = 11) (hlink : Cond.fieldLink own index "SnowCitizens$North" "deedSorts" "[I" ∈ zU) (hdg : decode cc pc = .ok (.getfield index, 3)) (kk : W p l e R s m args below meth c H locs cells slots Q (F0 m (pc + 3) ls (.ref (ad G (x + 8)) :: rest))) : W p l e R s m args below meth c H locs cells slots Q (F0 m pc ls (.ref (ad G x) :: rest)) :=
  z_get hC.1 hC.2.1 hC.2.2.2.2.1 hC.2.2.2.1 hw (kd_lt hk (by decide)) (zE_N hk) (ci := 2) rfl inU2 (k := 11) (by decide) hlink rfl hdg kk
theorem g2_deedMen (hC : Cx p s m args meth c cc nL ret own) (hw : St G s H locs M) {x : Nat} (hk : kd x = 11) (hlink : Cond.fieldLink own index "SnowCitizens$North" "deedMen" "[I" ∈ zU) (hdg : decode cc pc = .ok (.getfield index, 3)) (kk : W p l e R s m args below meth c H locs cells slots Q (F0 m (pc + 3) ls (.ref (ad G (x + 9)) :: rest))) : W p l e R s m args below meth c H locs cells slots Q (F0 m pc ls (.ref (ad G x) :: rest)) :=
  z_get hC.1 hC.2.1 hC.2.2.2.2.1 hC.2.2.2.1 hw (kd_lt hk (by decide)) (zE_N hk) (ci := 2) rfl inU2 (k := 12) (by decide) hlink rfl hdg kk
theorem g2_deedValues (hC : Cx p s m args meth c cc nL ret own) (hw : St G s H locs M) {x : Nat} (hk : kd x = 11) (hlink : Cond.fieldLink own index "SnowCitizens$North" "deedValues" "[I" ∈ zU) (hdg : decode cc pc = .ok (.getfield index, 3)) (kk : W p l e R s m args below meth c H locs cells slots Q (F0 m (pc + 3) ls (.ref (ad G (x + 10)) :: rest))) : W p l e R s m args below meth c H locs cells slots Q (F0 m pc ls (.ref (ad G x) :: rest)) :=
  z_get hC.1 hC.2.1 hC.2.2.2.2.1 hC.2.2.2.1 hw (kd_lt hk (by decide)) (zE_N hk) (ci := 2) rfl inU2 (k := 13) (by decide) hlink rfl hdg kk
theorem g3_stage (hC : Cx p s m args meth c cc nL ret own) (hw : St G s H locs M) (hlink : Cond.fieldLink own index "SnowCitizens$Reading" "stage" "I" ∈ zU) (hdg : decode cc pc = .ok (.getfield index, 3)) (kk : W p l e R s m args below meth c H locs cells slots Q (F0 m (pc + 3) ls (.int (M.1 68 0) :: rest))) : W p l e R s m args below meth c H locs cells slots Q (F0 m pc ls (.ref (ad G 68) :: rest)) :=
  z_get hC.1 hC.2.1 hC.2.2.2.2.1 hC.2.2.2.1 hw (by decide) (show zE G _ _ 68 = .inr (3, zfD G _ _) from rfl) (ci := 3) rfl inU3 (k := 0) (by decide) hlink rfl hdg kk
theorem u3_stage (hC : Cx p s m args meth c cc nL ret own) (hw : St G s H locs M) {v : Int32} (hlink : Cond.fieldLink own index "SnowCitizens$Reading" "stage" "I" ∈ zU) (hdg : decode cc pc = .ok (.putfield index, 3)) (kk : ∀ (H : Heap) (locs : List Loc), St G s H locs (pI M 68 0 v) → W p l e R s m args below meth c H locs cells slots Q (F0 m (pc + 3) ls rest)) : W p l e R s m args below meth c H locs cells slots Q (F0 m pc ls (.int v :: .ref (ad G 68) :: rest)) :=
  z_put hC.1 hC.2.1 hC.2.2.2.2.1 hC.2.2.2.1 hw (pI M 68 0 v) (ty := .int) tyX3 tyX3_ok nmX3 (by decide) (show zE G _ _ 68 = .inr (3, zfD G _ _) from rfl) rfl pI_off (ci := 3) rfl inU3 (k := 0) (by decide) hlink rfl (by decide +kernel) rfl rfl (Nat.le_of_ble_eq_true rfl) hdg kk
theorem g3_men (hC : Cx p s m args meth c cc nL ret own) (hw : St G s H locs M) (hlink : Cond.fieldLink own index "SnowCitizens$Reading" "men" "I" ∈ zU) (hdg : decode cc pc = .ok (.getfield index, 3)) (kk : W p l e R s m args below meth c H locs cells slots Q (F0 m (pc + 3) ls (.int (M.1 68 1) :: rest))) : W p l e R s m args below meth c H locs cells slots Q (F0 m pc ls (.ref (ad G 68) :: rest)) :=
  z_get hC.1 hC.2.1 hC.2.2.2.2.1 hC.2.2.2.1 hw (by decide) (show zE G _ _ 68 = .inr (3, zfD G _ _) from rfl) (ci := 3) rfl inU3 (k := 1) (by decide) hlink rfl hdg kk
theorem u3_men (hC : Cx p s m args meth c cc nL ret own) (hw : St G s H locs M) {v : Int32} (hlink : Cond.fieldLink own index "SnowCitizens$Reading" "men" "I" ∈ zU) (hdg : decode cc pc = .ok (.putfield index, 3)) (kk : ∀ (H : Heap) (locs : List Loc), St G s H locs (pI M 68 1 v) → W p l e R s m args below meth c H locs cells slots Q (F0 m (pc + 3) ls rest)) : W p l e R s m args below meth c H locs cells slots Q (F0 m pc ls (.int v :: .ref (ad G 68) :: rest)) :=
  z_put hC.1 hC.2.1 hC.2.2.2.2.1 hC.2.2.2.1 hw (pI M 68 1 v) (ty := .int) tyX3 tyX3_ok nmX3 (by decide) (show zE G _ _ 68 = .inr (3, zfD G _ _) from rfl) rfl pI_off (ci := 3) rfl inU3 (k := 1) (by decide) hlink rfl (by decide +kernel) rfl rfl (Nat.le_of_ble_eq_true rfl) hdg kk
theorem g3_right (hC : Cx p s m args meth c cc nL ret own) (hw : St G s H locs M) (hlink : Cond.fieldLink own index "SnowCitizens$Reading" "right" "I" ∈ zU) (hdg : decode cc pc = .ok (.getfield index, 3)) (kk : W p l e R s m args below meth c H locs cells slots Q (F0 m (pc + 3) ls (.int (M.1 68 2) :: rest))) : W p l e R s m args below meth c H locs cells slots Q (F0 m pc ls (.ref (ad G 68) :: rest)) :=
  z_get hC.1 hC.2.1 hC.2.2.2.2.1 hC.2.2.2.1 hw (by decide) (show zE G _ _ 68 = .inr (3, zfD G _ _) from rfl) (ci := 3) rfl inU3 (k := 2) (by decide) hlink rfl hdg kk
theorem u3_right (hC : Cx p s m args meth c cc nL ret own) (hw : St G s H locs M) {v : Int32} (hlink : Cond.fieldLink own index "SnowCitizens$Reading" "right" "I" ∈ zU) (hdg : decode cc pc = .ok (.putfield index, 3)) (kk : ∀ (H : Heap) (locs : List Loc), St G s H locs (pI M 68 2 v) → W p l e R s m args below meth c H locs cells slots Q (F0 m (pc + 3) ls rest)) : W p l e R s m args below meth c H locs cells slots Q (F0 m pc ls (.int v :: .ref (ad G 68) :: rest)) :=
  z_put hC.1 hC.2.1 hC.2.2.2.2.1 hC.2.2.2.1 hw (pI M 68 2 v) (ty := .int) tyX3 tyX3_ok nmX3 (by decide) (show zE G _ _ 68 = .inr (3, zfD G _ _) from rfl) rfl pI_off (ci := 3) rfl inU3 (k := 2) (by decide) hlink rfl (by decide +kernel) rfl rfl (Nat.le_of_ble_eq_true rfl) hdg kk
theorem g3_suns (hC : Cx p s m args meth c cc nL ret own) (hw : St G s H locs M) (hlink : Cond.fieldLink own index "SnowCitizens$Reading" "suns" "[I" ∈ zU) (hdg : decode cc pc = .ok (.getfield index, 3)) (kk : W p l e R s m args below meth c H locs cells slots Q (F0 m (pc + 3) ls (.ref (ad G 69) :: rest))) : W p l e R s m args below meth c H locs cells slots Q (F0 m pc ls (.ref (ad G 68) :: rest)) :=
  z_get hC.1 hC.2.1 hC.2.2.2.2.1 hC.2.2.2.1 hw (by decide) (show zE G _ _ 68 = .inr (3, zfD G _ _) from rfl) (ci := 3) rfl inU3 (k := 3) (by decide) hlink rfl hdg kk
theorem g3_kindOf (hC : Cx p s m args meth c cc nL ret own) (hw : St G s H locs M) (hlink : Cond.fieldLink own index "SnowCitizens$Reading" "kindOf" "[I" ∈ zU) (hdg : decode cc pc = .ok (.getfield index, 3)) (kk : W p l e R s m args below meth c H locs cells slots Q (F0 m (pc + 3) ls (.ref (ad G 70) :: rest))) : W p l e R s m args below meth c H locs cells slots Q (F0 m pc ls (.ref (ad G 68) :: rest)) :=
  z_get hC.1 hC.2.1 hC.2.2.2.2.1 hC.2.2.2.1 hw (by decide) (show zE G _ _ 68 = .inr (3, zfD G _ _) from rfl) (ci := 3) rfl inU3 (k := 4) (by decide) hlink rfl hdg kk
theorem g3_bulkOf (hC : Cx p s m args meth c cc nL ret own) (hw : St G s H locs M) (hlink : Cond.fieldLink own index "SnowCitizens$Reading" "bulkOf" "[I" ∈ zU) (hdg : decode cc pc = .ok (.getfield index, 3)) (kk : W p l e R s m args below meth c H locs cells slots Q (F0 m (pc + 3) ls (.ref (ad G 71) :: rest))) : W p l e R s m args below meth c H locs cells slots Q (F0 m pc ls (.ref (ad G 68) :: rest)) :=
  z_get hC.1 hC.2.1 hC.2.2.2.2.1 hC.2.2.2.1 hw (by decide) (show zE G _ _ 68 = .inr (3, zfD G _ _) from rfl) (ci := 3) rfl inU3 (k := 5) (by decide) hlink rfl hdg kk
theorem g3_shadeOf (hC : Cx p s m args meth c cc nL ret own) (hw : St G s H locs M) (hlink : Cond.fieldLink own index "SnowCitizens$Reading" "shadeOf" "[I" ∈ zU) (hdg : decode cc pc = .ok (.getfield index, 3)) (kk : W p l e R s m args below meth c H locs cells slots Q (F0 m (pc + 3) ls (.ref (ad G 72) :: rest))) : W p l e R s m args below meth c H locs cells slots Q (F0 m pc ls (.ref (ad G 68) :: rest)) :=
  z_get hC.1 hC.2.1 hC.2.2.2.2.1 hC.2.2.2.1 hw (by decide) (show zE G _ _ 68 = .inr (3, zfD G _ _) from rfl) (ci := 3) rfl inU3 (k := 6) (by decide) hlink rfl hdg kk
theorem g3_voteOf (hC : Cx p s m args meth c cc nL ret own) (hw : St G s H locs M) (hlink : Cond.fieldLink own index "SnowCitizens$Reading" "voteOf" "[I" ∈ zU) (hdg : decode cc pc = .ok (.getfield index, 3)) (kk : W p l e R s m args below meth c H locs cells slots Q (F0 m (pc + 3) ls (.ref (ad G 73) :: rest))) : W p l e R s m args below meth c H locs cells slots Q (F0 m pc ls (.ref (ad G 68) :: rest)) :=
  z_get hC.1 hC.2.1 hC.2.2.2.2.1 hC.2.2.2.1 hw (by decide) (show zE G _ _ 68 = .inr (3, zfD G _ _) from rfl) (ci := 3) rfl inU3 (k := 7) (by decide) hlink rfl hdg kk
theorem g4_there (hC : Cx p s m args meth c cc nL ret own) (hw : St G s H locs M) {x : Nat} (hk : kd x = 12) (hlink : Cond.fieldLink own index "SnowCitizens$Row" "there" "Z" ∈ zU) (hdg : decode cc pc = .ok (.getfield index, 3)) (kk : W p l e R s m args below meth c H locs cells slots Q (F0 m (pc + 3) ls (.int (M.1 x 0) :: rest))) : W p l e R s m args below meth c H locs cells slots Q (F0 m pc ls (.ref (ad G x) :: rest)) :=
  z_get hC.1 hC.2.1 hC.2.2.2.2.1 hC.2.2.2.1 hw (kd_lt hk (by decide)) (zE_R hk) (ci := 4) rfl inU4 (k := 0) (by decide) hlink rfl hdg kk
theorem u4_there (hC : Cx p s m args meth c cc nL ret own) (hw : St G s H locs M) {x : Nat} (hk : kd x = 12) {v : Int32} (hv : v = 0 ∨ v = 1) (hlink : Cond.fieldLink own index "SnowCitizens$Row" "there" "Z" ∈ zU) (hdg : decode cc pc = .ok (.putfield index, 3)) (kk : ∀ (H : Heap) (locs : List Loc), St G s H locs (pI M x 0 v) → W p l e R s m args below meth c H locs cells slots Q (F0 m (pc + 3) ls rest)) : W p l e R s m args below meth c H locs cells slots Q (F0 m pc ls (.int v :: .ref (ad G x) :: rest)) :=
  z_put hC.1 hC.2.1 hC.2.2.2.2.1 hC.2.2.2.1 hw (pI M x 0 v) (ty := .boolean) tyX4 tyX4_ok nmX4 (kd_lt hk (by decide)) (zE_R hk) (by rw [zE_R hk, pI_at]; rfl) pI_off (ci := 4) rfl inU4 (k := 0) (by decide) hlink rfl (by decide +kernel) (zbool hv) (by rcases hv with rfl | rfl <;> rfl) (Nat.le_of_ble_eq_true rfl) hdg kk
theorem g4_size (hC : Cx p s m args meth c cc nL ret own) (hw : St G s H locs M) {x : Nat} (hk : kd x = 12) (hlink : Cond.fieldLink own index "SnowCitizens$Row" "size" "I" ∈ zU) (hdg : decode cc pc = .ok (.getfield index, 3)) (kk : W p l e R s m args below meth c H locs cells slots Q (F0 m (pc + 3) ls (.int (M.1 x 1) :: rest))) : W p l e R s m args below meth c H locs cells slots Q (F0 m pc ls (.ref (ad G x) :: rest)) :=
  z_get hC.1 hC.2.1 hC.2.2.2.2.1 hC.2.2.2.1 hw (kd_lt hk (by decide)) (zE_R hk) (ci := 4) rfl inU4 (k := 1) (by decide) hlink rfl hdg kk
theorem u4_size (hC : Cx p s m args meth c cc nL ret own) (hw : St G s H locs M) {x : Nat} (hk : kd x = 12) {v : Int32} (hlink : Cond.fieldLink own index "SnowCitizens$Row" "size" "I" ∈ zU) (hdg : decode cc pc = .ok (.putfield index, 3)) (kk : ∀ (H : Heap) (locs : List Loc), St G s H locs (pI M x 1 v) → W p l e R s m args below meth c H locs cells slots Q (F0 m (pc + 3) ls rest)) : W p l e R s m args below meth c H locs cells slots Q (F0 m pc ls (.int v :: .ref (ad G x) :: rest)) :=
  z_put hC.1 hC.2.1 hC.2.2.2.2.1 hC.2.2.2.1 hw (pI M x 1 v) (ty := .int) tyX4 tyX4_ok nmX4 (kd_lt hk (by decide)) (zE_R hk) (by rw [zE_R hk, pI_at]; rfl) pI_off (ci := 4) rfl inU4 (k := 1) (by decide) hlink rfl (by decide +kernel) rfl rfl (Nat.le_of_ble_eq_true rfl) hdg kk
theorem g4_cells (hC : Cx p s m args meth c cc nL ret own) (hw : St G s H locs M) {x : Nat} (hk : kd x = 12) (hlink : Cond.fieldLink own index "SnowCitizens$Row" "cells" "[I" ∈ zU) (hdg : decode cc pc = .ok (.getfield index, 3)) (kk : W p l e R s m args below meth c H locs cells slots Q (F0 m (pc + 3) ls (.ref (ad G (x + 6)) :: rest))) : W p l e R s m args below meth c H locs cells slots Q (F0 m pc ls (.ref (ad G x) :: rest)) :=
  z_get hC.1 hC.2.1 hC.2.2.2.2.1 hC.2.2.2.1 hw (kd_lt hk (by decide)) (zE_R hk) (ci := 4) rfl inU4 (k := 2) (by decide) hlink rfl hdg kk
theorem g5_there (hC : Cx p s m args meth c cc nL ret own) (hw : St G s H locs M) {x : Nat} (hk : kd x = 13) (hlink : Cond.fieldLink own index "SnowCitizens$Text" "there" "Z" ∈ zU) (hdg : decode cc pc = .ok (.getfield index, 3)) (kk : W p l e R s m args below meth c H locs cells slots Q (F0 m (pc + 3) ls (.int (M.1 x 0) :: rest))) : W p l e R s m args below meth c H locs cells slots Q (F0 m pc ls (.ref (ad G x) :: rest)) :=
  z_get hC.1 hC.2.1 hC.2.2.2.2.1 hC.2.2.2.1 hw (kd_lt hk (by decide)) (zE_T hk) (ci := 5) rfl inU5 (k := 0) (by decide) hlink rfl hdg kk
theorem u5_there (hC : Cx p s m args meth c cc nL ret own) (hw : St G s H locs M) {x : Nat} (hk : kd x = 13) {v : Int32} (hv : v = 0 ∨ v = 1) (hlink : Cond.fieldLink own index "SnowCitizens$Text" "there" "Z" ∈ zU) (hdg : decode cc pc = .ok (.putfield index, 3)) (kk : ∀ (H : Heap) (locs : List Loc), St G s H locs (pI M x 0 v) → W p l e R s m args below meth c H locs cells slots Q (F0 m (pc + 3) ls rest)) : W p l e R s m args below meth c H locs cells slots Q (F0 m pc ls (.int v :: .ref (ad G x) :: rest)) :=
  z_put hC.1 hC.2.1 hC.2.2.2.2.1 hC.2.2.2.1 hw (pI M x 0 v) (ty := .boolean) tyX5 tyX5_ok nmX5 (kd_lt hk (by decide)) (zE_T hk) (by rw [zE_T hk, pI_at]; rfl) pI_off (ci := 5) rfl inU5 (k := 0) (by decide) hlink rfl (by decide +kernel) (zbool hv) (by rcases hv with rfl | rfl <;> rfl) (Nat.le_of_ble_eq_true rfl) hdg kk
theorem g5_size (hC : Cx p s m args meth c cc nL ret own) (hw : St G s H locs M) {x : Nat} (hk : kd x = 13) (hlink : Cond.fieldLink own index "SnowCitizens$Text" "size" "I" ∈ zU) (hdg : decode cc pc = .ok (.getfield index, 3)) (kk : W p l e R s m args below meth c H locs cells slots Q (F0 m (pc + 3) ls (.int (M.1 x 1) :: rest))) : W p l e R s m args below meth c H locs cells slots Q (F0 m pc ls (.ref (ad G x) :: rest)) :=
  z_get hC.1 hC.2.1 hC.2.2.2.2.1 hC.2.2.2.1 hw (kd_lt hk (by decide)) (zE_T hk) (ci := 5) rfl inU5 (k := 1) (by decide) hlink rfl hdg kk
theorem u5_size (hC : Cx p s m args meth c cc nL ret own) (hw : St G s H locs M) {x : Nat} (hk : kd x = 13) {v : Int32} (hlink : Cond.fieldLink own index "SnowCitizens$Text" "size" "I" ∈ zU) (hdg : decode cc pc = .ok (.putfield index, 3)) (kk : ∀ (H : Heap) (locs : List Loc), St G s H locs (pI M x 1 v) → W p l e R s m args below meth c H locs cells slots Q (F0 m (pc + 3) ls rest)) : W p l e R s m args below meth c H locs cells slots Q (F0 m pc ls (.int v :: .ref (ad G x) :: rest)) :=
  z_put hC.1 hC.2.1 hC.2.2.2.2.1 hC.2.2.2.1 hw (pI M x 1 v) (ty := .int) tyX5 tyX5_ok nmX5 (kd_lt hk (by decide)) (zE_T hk) (by rw [zE_T hk, pI_at]; rfl) pI_off (ci := 5) rfl inU5 (k := 1) (by decide) hlink rfl (by decide +kernel) rfl rfl (Nat.le_of_ble_eq_true rfl) hdg kk
theorem g5_signs (hC : Cx p s m args meth c cc nL ret own) (hw : St G s H locs M) {x : Nat} (hk : kd x = 13) (hlink : Cond.fieldLink own index "SnowCitizens$Text" "signs" "[B" ∈ zU) (hdg : decode cc pc = .ok (.getfield index, 3)) (kk : W p l e R s m args below meth c H locs cells slots Q (F0 m (pc + 3) ls (.ref (ad G (x + 4)) :: rest))) : W p l e R s m args below meth c H locs cells slots Q (F0 m pc ls (.ref (ad G x) :: rest)) :=
  z_get hC.1 hC.2.1 hC.2.2.2.2.1 hC.2.2.2.1 hw (kd_lt hk (by decide)) (zE_T hk) (ci := 5) rfl inU5 (k := 2) (by decide) hlink rfl hdg kk
theorem g6_rows (hC : Cx p s m args meth c cc nL ret own) (hw : St G s H locs M) (hlink : Cond.fieldLink own index "SnowCitizens" "rows" "[LSnowCitizens$Row;" ∈ zU) (hdg : decode cc pc = .ok (.getfield index, 3)) (kk : W p l e R s m args below meth c H locs cells slots Q (F0 m (pc + 3) ls (.ref (ad G 21) :: rest))) : W p l e R s m args below meth c H locs cells slots Q (F0 m pc ls (.ref (ad G 0) :: rest)) :=
  z_get hC.1 hC.2.1 hC.2.2.2.2.1 hC.2.2.2.1 hw (by decide) (show zE G _ _ 0 = .inr (6, zfS G _ _) from rfl) (ci := 6) rfl inU6 (k := 0) (by decide) hlink rfl hdg kk
theorem g6_texts (hC : Cx p s m args meth c cc nL ret own) (hw : St G s H locs M) (hlink : Cond.fieldLink own index "SnowCitizens" "texts" "[LSnowCitizens$Text;" ∈ zU) (hdg : decode cc pc = .ok (.getfield index, 3)) (kk : W p l e R s m args below meth c H locs cells slots Q (F0 m (pc + 3) ls (.ref (ad G 22) :: rest))) : W p l e R s m args below meth c H locs cells slots Q (F0 m pc ls (.ref (ad G 0) :: rest)) :=
  z_get hC.1 hC.2.1 hC.2.2.2.2.1 hC.2.2.2.1 hw (by decide) (show zE G _ _ 0 = .inr (6, zfS G _ _) from rfl) (ci := 6) rfl inU6 (k := 1) (by decide) hlink rfl hdg kk
theorem g6_north (hC : Cx p s m args meth c cc nL ret own) (hw : St G s H locs M) (hlink : Cond.fieldLink own index "SnowCitizens" "north" "LSnowCitizens$North;" ∈ zU) (hdg : decode cc pc = .ok (.getfield index, 3)) (kk : W p l e R s m args below meth c H locs cells slots Q (F0 m (pc + 3) ls (.ref (ad G 24) :: rest))) : W p l e R s m args below meth c H locs cells slots Q (F0 m pc ls (.ref (ad G 0) :: rest)) :=
  z_get hC.1 hC.2.1 hC.2.2.2.2.1 hC.2.2.2.1 hw (by decide) (show zE G _ _ 0 = .inr (6, zfS G _ _) from rfl) (ci := 6) rfl inU6 (k := 2) (by decide) hlink rfl hdg kk
theorem g6_kept (hC : Cx p s m args meth c cc nL ret own) (hw : St G s H locs M) (hlink : Cond.fieldLink own index "SnowCitizens" "kept" "[LSnowCitizens$North;" ∈ zU) (hdg : decode cc pc = .ok (.getfield index, 3)) (kk : W p l e R s m args below meth c H locs cells slots Q (F0 m (pc + 3) ls (.ref (ad G 23) :: rest))) : W p l e R s m args below meth c H locs cells slots Q (F0 m pc ls (.ref (ad G 0) :: rest)) :=
  z_get hC.1 hC.2.1 hC.2.2.2.2.1 hC.2.2.2.1 hw (by decide) (show zE G _ _ 0 = .inr (6, zfS G _ _) from rfl) (ci := 6) rfl inU6 (k := 3) (by decide) hlink rfl hdg kk
theorem g6_reading (hC : Cx p s m args meth c cc nL ret own) (hw : St G s H locs M) (hlink : Cond.fieldLink own index "SnowCitizens" "reading" "LSnowCitizens$Reading;" ∈ zU) (hdg : decode cc pc = .ok (.getfield index, 3)) (kk : W p l e R s m args below meth c H locs cells slots Q (F0 m (pc + 3) ls (.ref (ad G 68) :: rest))) : W p l e R s m args below meth c H locs cells slots Q (F0 m pc ls (.ref (ad G 0) :: rest)) :=
  z_get hC.1 hC.2.1 hC.2.2.2.2.1 hC.2.2.2.1 hw (by decide) (show zE G _ _ 0 = .inr (6, zfS G _ _) from rfl) (ci := 6) rfl inU6 (k := 4) (by decide) hlink rfl hdg kk
theorem g6_game (hC : Cx p s m args meth c cc nL ret own) (hw : St G s H locs M) (hlink : Cond.fieldLink own index "SnowCitizens" "game" "LSnowCitizens$Game;" ∈ zU) (hdg : decode cc pc = .ok (.getfield index, 3)) (kk : W p l e R s m args below meth c H locs cells slots Q (F0 m (pc + 3) ls (.ref (ad G 74) :: rest))) : W p l e R s m args below meth c H locs cells slots Q (F0 m pc ls (.ref (ad G 0) :: rest)) :=
  z_get hC.1 hC.2.1 hC.2.2.2.2.1 hC.2.2.2.1 hw (by decide) (show zE G _ _ 0 = .inr (6, zfS G _ _) from rfl) (ci := 6) rfl inU6 (k := 5) (by decide) hlink rfl hdg kk
theorem g6_clouds (hC : Cx p s m args meth c cc nL ret own) (hw : St G s H locs M) (hlink : Cond.fieldLink own index "SnowCitizens" "clouds" "LSnowCitizens$Clouds;" ∈ zU) (hdg : decode cc pc = .ok (.getfield index, 3)) (kk : W p l e R s m args below meth c H locs cells slots Q (F0 m (pc + 3) ls (.ref (ad G 77) :: rest))) : W p l e R s m args below meth c H locs cells slots Q (F0 m pc ls (.ref (ad G 0) :: rest)) :=
  z_get hC.1 hC.2.1 hC.2.2.2.2.1 hC.2.2.2.1 hw (by decide) (show zE G _ _ 0 = .inr (6, zfS G _ _) from rfl) (ci := 6) rfl inU6 (k := 6) (by decide) hlink rfl hdg kk
theorem g6_findingCounts (hC : Cx p s m args meth c cc nL ret own) (hw : St G s H locs M) (hlink : Cond.fieldLink own index "SnowCitizens" "findingCounts" "[I" ∈ zU) (hdg : decode cc pc = .ok (.getfield index, 3)) (kk : W p l e R s m args below meth c H locs cells slots Q (F0 m (pc + 3) ls (.ref (ad G 80) :: rest))) : W p l e R s m args below meth c H locs cells slots Q (F0 m pc ls (.ref (ad G 0) :: rest)) :=
  z_get hC.1 hC.2.1 hC.2.2.2.2.1 hC.2.2.2.1 hw (by decide) (show zE G _ _ 0 = .inr (6, zfS G _ _) from rfl) (ci := 6) rfl inU6 (k := 7) (by decide) hlink rfl hdg kk
theorem g6_latestFinding (hC : Cx p s m args meth c cc nL ret own) (hw : St G s H locs M) (hlink : Cond.fieldLink own index "SnowCitizens" "latestFinding" "I" ∈ zU) (hdg : decode cc pc = .ok (.getfield index, 3)) (kk : W p l e R s m args below meth c H locs cells slots Q (F0 m (pc + 3) ls (.int (M.1 0 8) :: rest))) : W p l e R s m args below meth c H locs cells slots Q (F0 m pc ls (.ref (ad G 0) :: rest)) :=
  z_get hC.1 hC.2.1 hC.2.2.2.2.1 hC.2.2.2.1 hw (by decide) (show zE G _ _ 0 = .inr (6, zfS G _ _) from rfl) (ci := 6) rfl inU6 (k := 8) (by decide) hlink rfl hdg kk
theorem u6_latestFinding (hC : Cx p s m args meth c cc nL ret own) (hw : St G s H locs M) {v : Int32} (hlink : Cond.fieldLink own index "SnowCitizens" "latestFinding" "I" ∈ zU) (hdg : decode cc pc = .ok (.putfield index, 3)) (kk : ∀ (H : Heap) (locs : List Loc), St G s H locs (pI M 0 8 v) → W p l e R s m args below meth c H locs cells slots Q (F0 m (pc + 3) ls rest)) : W p l e R s m args below meth c H locs cells slots Q (F0 m pc ls (.int v :: .ref (ad G 0) :: rest)) :=
  z_put hC.1 hC.2.1 hC.2.2.2.2.1 hC.2.2.2.1 hw (pI M 0 8 v) (ty := .int) tyX6 tyX6_ok nmX6 (by decide) (show zE G _ _ 0 = .inr (6, zfS G _ _) from rfl) rfl pI_off (ci := 6) rfl inU6 (k := 8) (by decide) hlink rfl (by decide +kernel) rfl rfl (Nat.le_of_ble_eq_true rfl) hdg kk
theorem g6_told (hC : Cx p s m args meth c cc nL ret own) (hw : St G s H locs M) (hlink : Cond.fieldLink own index "SnowCitizens" "told" "I" ∈ zU) (hdg : decode cc pc = .ok (.getfield index, 3)) (kk : W p l e R s m args below meth c H locs cells slots Q (F0 m (pc + 3) ls (.int (M.1 0 9) :: rest))) : W p l e R s m args below meth c H locs cells slots Q (F0 m pc ls (.ref (ad G 0) :: rest)) :=
  z_get hC.1 hC.2.1 hC.2.2.2.2.1 hC.2.2.2.1 hw (by decide) (show zE G _ _ 0 = .inr (6, zfS G _ _) from rfl) (ci := 6) rfl inU6 (k := 9) (by decide) hlink rfl hdg kk
theorem u6_told (hC : Cx p s m args meth c cc nL ret own) (hw : St G s H locs M) {v : Int32} (hlink : Cond.fieldLink own index "SnowCitizens" "told" "I" ∈ zU) (hdg : decode cc pc = .ok (.putfield index, 3)) (kk : ∀ (H : Heap) (locs : List Loc), St G s H locs (pI M 0 9 v) → W p l e R s m args below meth c H locs cells slots Q (F0 m (pc + 3) ls rest)) : W p l e R s m args below meth c H locs cells slots Q (F0 m pc ls (.int v :: .ref (ad G 0) :: rest)) :=
  z_put hC.1 hC.2.1 hC.2.2.2.2.1 hC.2.2.2.1 hw (pI M 0 9 v) (ty := .int) tyX6 tyX6_ok nmX6 (by decide) (show zE G _ _ 0 = .inr (6, zfS G _ _) from rfl) rfl pI_off (ci := 6) rfl inU6 (k := 9) (by decide) hlink rfl (by decide +kernel) rfl rfl (Nat.le_of_ble_eq_true rfl) hdg kk
theorem g6_upperNumber (hC : Cx p s m args meth c cc nL ret own) (hw : St G s H locs M) (hlink : Cond.fieldLink own index "SnowCitizens" "upperNumber" "J" ∈ zU) (hdg : decode cc pc = .ok (.getfield index, 3)) (kk : W p l e R s m args below meth c H locs cells slots Q (F0 m (pc + 3) ls (.long (M.2 0 10) :: rest))) : W p l e R s m args below meth c H locs cells slots Q (F0 m pc ls (.ref (ad G 0) :: rest)) :=
  z_get hC.1 hC.2.1 hC.2.2.2.2.1 hC.2.2.2.1 hw (by decide) (show zE G _ _ 0 = .inr (6, zfS G _ _) from rfl) (ci := 6) rfl inU6 (k := 10) (by decide) hlink rfl hdg kk
theorem u6_upperNumber (hC : Cx p s m args meth c cc nL ret own) (hw : St G s H locs M) {v : Int64} (hlink : Cond.fieldLink own index "SnowCitizens" "upperNumber" "J" ∈ zU) (hdg : decode cc pc = .ok (.putfield index, 3)) (kk : ∀ (H : Heap) (locs : List Loc), St G s H locs (pL M 0 10 v) → W p l e R s m args below meth c H locs cells slots Q (F0 m (pc + 3) ls rest)) : W p l e R s m args below meth c H locs cells slots Q (F0 m pc ls (.long v :: .ref (ad G 0) :: rest)) :=
  z_put hC.1 hC.2.1 hC.2.2.2.2.1 hC.2.2.2.1 hw (pL M 0 10 v) (ty := .long) tyX6 tyX6_ok nmX6 (by decide) (show zE G _ _ 0 = .inr (6, zfS G _ _) from rfl) rfl pL_off (ci := 6) rfl inU6 (k := 10) (by decide) hlink rfl (by decide +kernel) rfl rfl (Nat.le_of_ble_eq_true rfl) hdg kk
theorem g6_lowerNumber (hC : Cx p s m args meth c cc nL ret own) (hw : St G s H locs M) (hlink : Cond.fieldLink own index "SnowCitizens" "lowerNumber" "J" ∈ zU) (hdg : decode cc pc = .ok (.getfield index, 3)) (kk : W p l e R s m args below meth c H locs cells slots Q (F0 m (pc + 3) ls (.long (M.2 0 11) :: rest))) : W p l e R s m args below meth c H locs cells slots Q (F0 m pc ls (.ref (ad G 0) :: rest)) :=
  z_get hC.1 hC.2.1 hC.2.2.2.2.1 hC.2.2.2.1 hw (by decide) (show zE G _ _ 0 = .inr (6, zfS G _ _) from rfl) (ci := 6) rfl inU6 (k := 11) (by decide) hlink rfl hdg kk
theorem u6_lowerNumber (hC : Cx p s m args meth c cc nL ret own) (hw : St G s H locs M) {v : Int64} (hlink : Cond.fieldLink own index "SnowCitizens" "lowerNumber" "J" ∈ zU) (hdg : decode cc pc = .ok (.putfield index, 3)) (kk : ∀ (H : Heap) (locs : List Loc), St G s H locs (pL M 0 11 v) → W p l e R s m args below meth c H locs cells slots Q (F0 m (pc + 3) ls rest)) : W p l e R s m args below meth c H locs cells slots Q (F0 m pc ls (.long v :: .ref (ad G 0) :: rest)) :=
  z_put hC.1 hC.2.1 hC.2.2.2.2.1 hC.2.2.2.1 hw (pL M 0 11 v) (ty := .long) tyX6 tyX6_ok nmX6 (by decide) (show zE G _ _ 0 = .inr (6, zfS G _ _) from rfl) rfl pL_off (ci := 6) rfl inU6 (k := 11) (by decide) hlink rfl (by decide +kernel) rfl rfl (Nat.le_of_ble_eq_true rfl) hdg kk
theorem g6_ahead (hC : Cx p s m args meth c cc nL ret own) (hw : St G s H locs M) (hlink : Cond.fieldLink own index "SnowCitizens" "ahead" "[I" ∈ zU) (hdg : decode cc pc = .ok (.getfield index, 3)) (kk : W p l e R s m args below meth c H locs cells slots Q (F0 m (pc + 3) ls (.ref (ad G 81) :: rest))) : W p l e R s m args below meth c H locs cells slots Q (F0 m pc ls (.ref (ad G 0) :: rest)) :=
  z_get hC.1 hC.2.1 hC.2.2.2.2.1 hC.2.2.2.1 hw (by decide) (show zE G _ _ 0 = .inr (6, zfS G _ _) from rfl) (ci := 6) rfl inU6 (k := 12) (by decide) hlink rfl hdg kk
theorem g6_plan (hC : Cx p s m args meth c cc nL ret own) (hw : St G s H locs M) (hlink : Cond.fieldLink own index "SnowCitizens" "plan" "[I" ∈ zU) (hdg : decode cc pc = .ok (.getfield index, 3)) (kk : W p l e R s m args below meth c H locs cells slots Q (F0 m (pc + 3) ls (.ref (ad G 82) :: rest))) : W p l e R s m args below meth c H locs cells slots Q (F0 m pc ls (.ref (ad G 0) :: rest)) :=
  z_get hC.1 hC.2.1 hC.2.2.2.2.1 hC.2.2.2.1 hw (by decide) (show zE G _ _ 0 = .inr (6, zfS G _ _) from rfl) (ci := 6) rfl inU6 (k := 13) (by decide) hlink rfl hdg kk
theorem g6_shadesWith (hC : Cx p s m args meth c cc nL ret own) (hw : St G s H locs M) (hlink : Cond.fieldLink own index "SnowCitizens" "shadesWith" "[I" ∈ zU) (hdg : decode cc pc = .ok (.getfield index, 3)) (kk : W p l e R s m args below meth c H locs cells slots Q (F0 m (pc + 3) ls (.ref (ad G 83) :: rest))) : W p l e R s m args below meth c H locs cells slots Q (F0 m pc ls (.ref (ad G 0) :: rest)) :=
  z_get hC.1 hC.2.1 hC.2.2.2.2.1 hC.2.2.2.1 hw (by decide) (show zE G _ _ 0 = .inr (6, zfS G _ _) from rfl) (ci := 6) rfl inU6 (k := 14) (by decide) hlink rfl hdg kk
theorem g6_shadesWithout (hC : Cx p s m args meth c cc nL ret own) (hw : St G s H locs M) (hlink : Cond.fieldLink own index "SnowCitizens" "shadesWithout" "[I" ∈ zU) (hdg : decode cc pc = .ok (.getfield index, 3)) (kk : W p l e R s m args below meth c H locs cells slots Q (F0 m (pc + 3) ls (.ref (ad G 84) :: rest))) : W p l e R s m args below meth c H locs cells slots Q (F0 m pc ls (.ref (ad G 0) :: rest)) :=
  z_get hC.1 hC.2.1 hC.2.2.2.2.1 hC.2.2.2.1 hw (by decide) (show zE G _ _ 0 = .inr (6, zfS G _ _) from rfl) (ci := 6) rfl inU6 (k := 15) (by decide) hlink rfl hdg kk
theorem g6_mostCounted (hC : Cx p s m args meth c cc nL ret own) (hw : St G s H locs M) (hlink : Cond.fieldLink own index "SnowCitizens" "mostCounted" "[I" ∈ zU) (hdg : decode cc pc = .ok (.getfield index, 3)) (kk : W p l e R s m args below meth c H locs cells slots Q (F0 m (pc + 3) ls (.ref (ad G 85) :: rest))) : W p l e R s m args below meth c H locs cells slots Q (F0 m pc ls (.ref (ad G 0) :: rest)) :=
  z_get hC.1 hC.2.1 hC.2.2.2.2.1 hC.2.2.2.1 hw (by decide) (show zE G _ _ 0 = .inr (6, zfS G _ _) from rfl) (ci := 6) rfl inU6 (k := 16) (by decide) hlink rfl hdg kk
end ZF
/-- the world with the script -/
def WdX (G : Gv) (M : Mm) (b L : Nat) (xs : Nat → Int32) (U : State) : Prop := Wd G M U ∧ va_X b L xs U U.heap ∧ b < U.heap.size ∧ ¬ zA G b
theorem WdX.blind {G : Gv} {M : Mm} {b L : Nat} {xs : Nat → Int32} {As : List Value} : FrameBlind (va_Pc As (WdX G M b L xs)) := fun a U g mk q => by
  obtain ⟨q0, ⟨q1, q2, q3, q4⟩, q5, q6, q7⟩ := q
  exact ⟨q0, ⟨va_K.moved (u := U) (U := U.calling g mk a) (Vm.Alike.refl U.vm) q1, q2, q3, fun i w hw => va_Nw.same rfl rfl (q4 i w hw)⟩, va_X.moved (u := U) (U := U.calling g mk a) (Vm.Alike.refl U.vm) q5, q6, q7⟩
section ZS
variable {p : Program} {l : Launch} {e : Env} {R : Room} {s : State} {m : MethodId} {args : Array Value} {below : List Frame} {meth : Method} {c : Code} {H : Heap} {locs : List Loc} {cells slots : Nat} {Q : State → Prop}
variable {cc : ByteArray} {pc : Nat} {ls : Array Slot} {rest : List Value} {G : Gv} {M : Mm} {own : String} {index : Nat}
variable {y : MethodName} {bytes : ByteArray} {maxL maxL' n : Nat} {rm : Room} {M' : Mm} {As st : List Value} {nL : Nat} {ret ret0 : Option FieldType} {lv : List (Nat × Value)} {b L : Nat} {xs : Nat → Int32}
theorem St.wdX {U : State} (hw : St G s H locs M) (hX : va_X b L xs s s.heap) (hbl : b < s.heap.size) (hbA : ¬ zA G b) (hU : U.heap = H) (hW : s.WarmedH U.vm) : WdX G M b L xs U := by
  have hS := hw.2.2.2.2
  refine ⟨hw.wd hU hW, va_X.moved hW.alike (va_X.kept hX ?_), ?_, hbA⟩
  · rw [hU]
    exact hS.2.1 b hbl hbA
  · rw [hU]
    exact Nat.lt_of_lt_of_le hbl hS.1
theorem k_Xi {r : Int32} (hC : Cx p s m args meth c cc nL ret0 own) (hX : va_X b L xs s s.heap) (hbl : b < s.heap.size) (hbA : ¬ zA G b) (hw : St G s H locs M) (hM : Met l y (.code y bytes maxL' ret :: zU) rm (va_Pc (As) (WdX G M b L xs)) (QI G r M') 0 0 (zA G)) (hY : YS y bytes maxL' ret n) (hlink : Cond.methodLink own index y ∈ zU) (hrm : rm.cells = 0 ∧ rm.slots = 0) (hR : rm.frames + 1 ≤ R.frames ∧ 8 + (maxL' + 11) + rm.locals ≤ R.locals) (hz : cells ≤ R.cells ∧ slots ≤ R.slots) (hn : As.length = n) (hst : st = As.reverse ++ rest) (hroom : (rest.map fun v => v.category).sum ≤ 8) (hl : lv_has ls nL lv) (hdg : decode cc pc = .ok (.invokestatic index, 3))
    (kk : ∀ (H : Heap) (locs : List Loc), St G s H locs M' → W p l e R s m args below meth c H locs cells slots Q (F0 m (pc + 3) ls (.int r :: rest))) : W p l e R s m args below meth c H locs cells slots Q (F0 m pc ls st) := by
  refine va_calli (A1 := zA G) (va_runS (As := As) (rest := rest) (Qc := QI G r M') ⟨hC.1, hC.2.1, hC.2.2.1, hC.2.2.2.1, hC.2.2.2.2.1⟩ hM ⟨callB_of n hC.2.2.2.2.1 (zgood hY.1.2.2) rfl hrm.1 hrm.2 (hC.2.2.2.2.1 _ hY.1.2.1) (hC.2.2.2.2.1 _ hlink) hY.2 hR, hC.2.2.2.2.1 _ hY.1.1⟩ ⟨WdX.blind, fun U hU hW => ⟨rfl, hw.wdX hX hbl hbA hU hW⟩⟩ rfl hn hl.1 hst (lv_room hroom) hdg ⟨hz.1, hz.2⟩) hw.2.2.2.2 zA_call (fun _ h => h) (fun r1 _ t H1 locs1 ht hvm hr hB _ _ hS => ?_)
  subst hr
  rw [← ht] at hS ⊢
  exact kk _ _ ⟨hw.1, hB.2.1, hB.2.2.1, hw.2.2.2.1, hS⟩
theorem k_Xv (hC : Cx p s m args meth c cc nL ret0 own) (hX : va_X b L xs s s.heap) (hbl : b < s.heap.size) (hbA : ¬ zA G b) (hw : St G s H locs M) (hM : Met l y (.code y bytes maxL' none :: zU) rm (va_Pc (As) (WdX G M b L xs)) (QV G M') 0 0 (zA G)) (hY : YS y bytes maxL' none n) (hlink : Cond.methodLink own index y ∈ zU) (hrm : rm.cells = 0 ∧ rm.slots = 0) (hR : rm.frames + 1 ≤ R.frames ∧ 8 + (maxL' + 11) + rm.locals ≤ R.locals) (hz : cells ≤ R.cells ∧ slots ≤ R.slots) (hn : As.length = n) (hst : st = As.reverse ++ rest) (hroom : (rest.map fun v => v.category).sum ≤ 8) (hl : lv_has ls nL lv) (hdg : decode cc pc = .ok (.invokestatic index, 3))
    (kk : ∀ (H : Heap) (locs : List Loc), St G s H locs M' → W p l e R s m args below meth c H locs cells slots Q (F0 m (pc + 3) ls (rest))) : W p l e R s m args below meth c H locs cells slots Q (F0 m pc ls st) := by
  refine va_callv (A1 := zA G) (va_runS (As := As) (rest := rest) (Qc := QV G M') ⟨hC.1, hC.2.1, hC.2.2.1, hC.2.2.2.1, hC.2.2.2.2.1⟩ hM ⟨callB_of n hC.2.2.2.2.1 (zgood hY.1.2.2) rfl hrm.1 hrm.2 (hC.2.2.2.2.1 _ hY.1.2.1) (hC.2.2.2.2.1 _ hlink) hY.2 hR, hC.2.2.2.2.1 _ hY.1.1⟩ ⟨WdX.blind, fun U hU hW => ⟨rfl, hw.wdX hX hbl hbA hU hW⟩⟩ rfl hn hl.1 hst (lv_room hroom) hdg ⟨hz.1, hz.2⟩) hw.2.2.2.2 zA_call (fun _ h => h) (fun _ t H1 locs1 ht hvm hr hB _ _ hS => ?_)
  skip
  rw [← ht] at hS ⊢
  exact kk _ _ ⟨hw.1, hB.2.1, hB.2.2.1, hw.2.2.2.1, hS⟩
theorem zMetX {Qc : Array Value → State → Outcome → State → Prop} (hy : plainName y.cls = true) (hown : y.cls = own) (hn : (lg_sl As).length ≤ maxL) (body : ∀ p e s m below meth c, Cx p s m As.toArray meth c cc maxL ret own → va_X b L xs s s.heap → b < s.heap.size → ¬ zA G b → St G s s.heap [] M → ∀ ls, lv_has ls maxL (lv_args 0 As) → W p l e rm s m As.toArray below meth c s.heap [] 0 0 (MQ below Qc As.toArray s 0 0 (zA G)) (F0 m 0 ls [])) : Met l y (.code y cc maxL ret :: zU) rm (va_Pc As (WdX G M b L xs)) Qc 0 0 (zA G) := by
  refine Met.ofW (cc := cc) (maxL := maxL) (ret := ret) hy rfl ?_
  intro p e s m args below meth c s₁ B hml hv
  obtain ⟨rfl, ⟨hK, hP, hD, hN⟩, hX, hbl, hbA⟩ := hv
  have hts := atoms_spec (ws := .code y cc maxL ret :: zU) B.pre
  have hl := lv_entry As hn
  rw [lg_entry_eq]
  exact body p e s m below meth c ⟨B.exec, B.bytes, hml, by rw [← hown]; exact findClass_of_methodNamed B.named, fun w h => hts w (List.mem_cons_of_mem _ h), B.returns, B.notSynchronized⟩ hX hbl hbA ⟨hK, hP, hD, hN, va_S.rf⟩ _ hl
end ZS
end
