section
-- ===== PART A: goes FIRST, ahead of the names: the tables' words, and 'selects' of the private methods out of them =====
/-- a private method of a class that the tables say can be made, by its rows of tables_1 -/
def lw_okq (q : MethodName × Nat) : Prop := (q.1.cls ≠ "java/lang/invoke/MethodHandle" ∧ q.1.cls ≠ "java/lang/invoke/VarHandle") ∧ Cond.instantiable q.1.cls q.2 ∈ tables_1 ∧ Cond.privateMethod q.1 ∈ tables_1 ∧ Cond.instanceMethod q.1 ∈ tables_1
theorem lw_p0 : lw_okq (⟨"java/lang/Throwable", "fillInStackTrace", "(I)Ljava/lang/Throwable;"⟩, 6) := ⟨⟨by decide +kernel, by decide +kernel⟩, List.mem_of_getElem? (i := 158) (by decide +kernel), List.mem_of_getElem? (i := 156) (by decide +kernel), List.mem_of_getElem? (i := 157) (by decide +kernel)⟩
theorem lw_p1 : lw_okq (⟨"java/util/ArrayList", "add", "(Ljava/lang/Object;[Ljava/lang/Object;I)V"⟩, 3) := ⟨⟨by decide +kernel, by decide +kernel⟩, List.mem_of_getElem? (i := 30) (by decide +kernel), List.mem_of_getElem? (i := 231) (by decide +kernel), List.mem_of_getElem? (i := 232) (by decide +kernel)⟩
theorem lw_p2 : lw_okq (⟨"java/util/ArrayList", "grow", "()[Ljava/lang/Object;"⟩, 3) := ⟨⟨by decide +kernel, by decide +kernel⟩, List.mem_of_getElem? (i := 30) (by decide +kernel), List.mem_of_getElem? (i := 235) (by decide +kernel), List.mem_of_getElem? (i := 236) (by decide +kernel)⟩
theorem lw_p3 : lw_okq (⟨"java/util/ArrayList", "grow", "(I)[Ljava/lang/Object;"⟩, 3) := ⟨⟨by decide +kernel, by decide +kernel⟩, List.mem_of_getElem? (i := 30) (by decide +kernel), List.mem_of_getElem? (i := 239) (by decide +kernel), List.mem_of_getElem? (i := 240) (by decide +kernel)⟩
theorem lw_p4 : lw_okq (⟨"Clickbook", "cueNumbered", "(I)LClickbook$Cue;"⟩, 13) := ⟨⟨by decide +kernel, by decide +kernel⟩, List.mem_of_getElem? (i := 22) (by decide +kernel), List.mem_of_getElem? (i := 377) (by decide +kernel), List.mem_of_getElem? (i := 378) (by decide +kernel)⟩
theorem lw_p5 : lw_okq (⟨"Clickbook", "countMet", "()I"⟩, 13) := ⟨⟨by decide +kernel, by decide +kernel⟩, List.mem_of_getElem? (i := 22) (by decide +kernel), List.mem_of_getElem? (i := 433) (by decide +kernel), List.mem_of_getElem? (i := 434) (by decide +kernel)⟩
theorem lw_p6 : lw_okq (⟨"Clickbook", "isMet", "(LClickbook$Hit;)Z"⟩, 13) := ⟨⟨by decide +kernel, by decide +kernel⟩, List.mem_of_getElem? (i := 22) (by decide +kernel), List.mem_of_getElem? (i := 437) (by decide +kernel), List.mem_of_getElem? (i := 438) (by decide +kernel)⟩
theorem lw_p7 : lw_okq (⟨"Clickbook", "isMetBut", "(LClickbook$Hit;I)Z"⟩, 13) := ⟨⟨by decide +kernel, by decide +kernel⟩, List.mem_of_getElem? (i := 22) (by decide +kernel), List.mem_of_getElem? (i := 441) (by decide +kernel), List.mem_of_getElem? (i := 442) (by decide +kernel)⟩
theorem lw_p8 : lw_okq (⟨"Clickbook", "runsOver", "(LClickbook$Cue;)Z"⟩, 13) := ⟨⟨by decide +kernel, by decide +kernel⟩, List.mem_of_getElem? (i := 22) (by decide +kernel), List.mem_of_getElem? (i := 508) (by decide +kernel), List.mem_of_getElem? (i := 509) (by decide +kernel)⟩
theorem lw_p9 : lw_okq (⟨"Clickbook", "spoils", "(LClickbook$Cue;)Z"⟩, 13) := ⟨⟨by decide +kernel, by decide +kernel⟩, List.mem_of_getElem? (i := 22) (by decide +kernel), List.mem_of_getElem? (i := 512) (by decide +kernel), List.mem_of_getElem? (i := 513) (by decide +kernel)⟩
theorem lw_p10 : lw_okq (⟨"Clickbook", "countValid", "(LClickbook$Cue;)I"⟩, 13) := ⟨⟨by decide +kernel, by decide +kernel⟩, List.mem_of_getElem? (i := 22) (by decide +kernel), List.mem_of_getElem? (i := 516) (by decide +kernel), List.mem_of_getElem? (i := 517) (by decide +kernel)⟩
theorem lw_p11 : lw_okq (⟨"Clickbook", "secondsOf", "(LClickbook$Cue;)I"⟩, 13) := ⟨⟨by decide +kernel, by decide +kernel⟩, List.mem_of_getElem? (i := 22) (by decide +kernel), List.mem_of_getElem? (i := 524) (by decide +kernel), List.mem_of_getElem? (i := 525) (by decide +kernel)⟩
theorem lw_p12 : lw_okq (⟨"Clickbook", "countGone", "()I"⟩, 13) := ⟨⟨by decide +kernel, by decide +kernel⟩, List.mem_of_getElem? (i := 22) (by decide +kernel), List.mem_of_getElem? (i := 547) (by decide +kernel), List.mem_of_getElem? (i := 548) (by decide +kernel)⟩
theorem lw_p13 : lw_okq (⟨"Clickbook", "countRunningOver", "()I"⟩, 13) := ⟨⟨by decide +kernel, by decide +kernel⟩, List.mem_of_getElem? (i := 22) (by decide +kernel), List.mem_of_getElem? (i := 551) (by decide +kernel), List.mem_of_getElem? (i := 552) (by decide +kernel)⟩
theorem lw_p14 : lw_okq (⟨"Clickbook", "countSpoiling", "()I"⟩, 13) := ⟨⟨by decide +kernel, by decide +kernel⟩, List.mem_of_getElem? (i := 22) (by decide +kernel), List.mem_of_getElem? (i := 555) (by decide +kernel), List.mem_of_getElem? (i := 556) (by decide +kernel)⟩
theorem lw_p15 : lw_okq (⟨"Clickbook", "countClashes", "()I"⟩, 13) := ⟨⟨by decide +kernel, by decide +kernel⟩, List.mem_of_getElem? (i := 22) (by decide +kernel), List.mem_of_getElem? (i := 559) (by decide +kernel), List.mem_of_getElem? (i := 560) (by decide +kernel)⟩
def lw_privs_1 : List (MethodName × Nat) := [(⟨"java/lang/Throwable", "fillInStackTrace", "(I)Ljava/lang/Throwable;"⟩, 6), (⟨"java/util/ArrayList", "add", "(Ljava/lang/Object;[Ljava/lang/Object;I)V"⟩, 3), (⟨"java/util/ArrayList", "grow", "()[Ljava/lang/Object;"⟩, 3), (⟨"java/util/ArrayList", "grow", "(I)[Ljava/lang/Object;"⟩, 3), (⟨"Clickbook", "cueNumbered", "(I)LClickbook$Cue;"⟩, 13), (⟨"Clickbook", "countMet", "()I"⟩, 13), (⟨"Clickbook", "isMet", "(LClickbook$Hit;)Z"⟩, 13), (⟨"Clickbook", "isMetBut", "(LClickbook$Hit;I)Z"⟩, 13), (⟨"Clickbook", "runsOver", "(LClickbook$Cue;)Z"⟩, 13), (⟨"Clickbook", "spoils", "(LClickbook$Cue;)Z"⟩, 13), (⟨"Clickbook", "countValid", "(LClickbook$Cue;)I"⟩, 13), (⟨"Clickbook", "secondsOf", "(LClickbook$Cue;)I"⟩, 13), (⟨"Clickbook", "countGone", "()I"⟩, 13), (⟨"Clickbook", "countRunningOver", "()I"⟩, 13), (⟨"Clickbook", "countSpoiling", "()I"⟩, 13), (⟨"Clickbook", "countClashes", "()I"⟩, 13)]
theorem lw_r1 : ∀ q ∈ lw_privs_1, lw_okq q := List.forall_mem_cons.mpr ⟨lw_p0, List.forall_mem_cons.mpr ⟨lw_p1, List.forall_mem_cons.mpr ⟨lw_p2, List.forall_mem_cons.mpr ⟨lw_p3, List.forall_mem_cons.mpr ⟨lw_p4, List.forall_mem_cons.mpr ⟨lw_p5, List.forall_mem_cons.mpr ⟨lw_p6, List.forall_mem_cons.mpr ⟨lw_p7, List.forall_mem_cons.mpr ⟨lw_p8, List.forall_mem_cons.mpr ⟨lw_p9, List.forall_mem_cons.mpr ⟨lw_p10, List.forall_mem_cons.mpr ⟨lw_p11, List.forall_mem_cons.mpr ⟨lw_p12, List.forall_mem_cons.mpr ⟨lw_p13, List.forall_mem_cons.mpr ⟨lw_p14, List.forall_mem_cons.mpr ⟨lw_p15, fun _ h => absurd h List.not_mem_nil⟩⟩⟩⟩⟩⟩⟩⟩⟩⟩⟩⟩⟩⟩⟩⟩
theorem lw_p16 : lw_okq (⟨"Clickbook", "countAllValid", "()I"⟩, 13) := ⟨⟨by decide +kernel, by decide +kernel⟩, List.mem_of_getElem? (i := 22) (by decide +kernel), List.mem_of_getElem? (i := 566) (by decide +kernel), List.mem_of_getElem? (i := 567) (by decide +kernel)⟩
theorem lw_p17 : lw_okq (⟨"Clickbook", "payToAll", "()I"⟩, 13) := ⟨⟨by decide +kernel, by decide +kernel⟩, List.mem_of_getElem? (i := 22) (by decide +kernel), List.mem_of_getElem? (i := 570) (by decide +kernel), List.mem_of_getElem? (i := 571) (by decide +kernel)⟩
theorem lw_p18 : lw_okq (⟨"Clickbook", "payOf", "(LClickbook$Cue;)I"⟩, 13) := ⟨⟨by decide +kernel, by decide +kernel⟩, List.mem_of_getElem? (i := 22) (by decide +kernel), List.mem_of_getElem? (i := 574) (by decide +kernel), List.mem_of_getElem? (i := 575) (by decide +kernel)⟩
theorem lw_p19 : lw_okq (⟨"Clickbook$JoinTable", "fillBar", "(I)V"⟩, 3) := ⟨⟨by decide +kernel, by decide +kernel⟩, List.mem_of_getElem? (i := 56) (by decide +kernel), List.mem_of_getElem? (i := 600) (by decide +kernel), List.mem_of_getElem? (i := 601) (by decide +kernel)⟩
theorem lw_p20 : lw_okq (⟨"Clickbook$JoinTable", "bestPlace", "(II)I"⟩, 3) := ⟨⟨by decide +kernel, by decide +kernel⟩, List.mem_of_getElem? (i := 56) (by decide +kernel), List.mem_of_getElem? (i := 605) (by decide +kernel), List.mem_of_getElem? (i := 606) (by decide +kernel)⟩
theorem lw_p21 : lw_okq (⟨"Clickbook$JoinTable", "worthFrom", "(II)I"⟩, 3) := ⟨⟨by decide +kernel, by decide +kernel⟩, List.mem_of_getElem? (i := 56) (by decide +kernel), List.mem_of_getElem? (i := 609) (by decide +kernel), List.mem_of_getElem? (i := 610) (by decide +kernel)⟩
theorem lw_p22 : lw_okq (⟨"Clickbook$JoinTable", "costOfSplice", "(II)I"⟩, 3) := ⟨⟨by decide +kernel, by decide +kernel⟩, List.mem_of_getElem? (i := 56) (by decide +kernel), List.mem_of_getElem? (i := 616) (by decide +kernel), List.mem_of_getElem? (i := 617) (by decide +kernel)⟩
theorem lw_p23 : lw_okq (⟨"Clickbook", "markMetByOthers", "(I)V"⟩, 13) := ⟨⟨by decide +kernel, by decide +kernel⟩, List.mem_of_getElem? (i := 22) (by decide +kernel), List.mem_of_getElem? (i := 629) (by decide +kernel), List.mem_of_getElem? (i := 630) (by decide +kernel)⟩
theorem lw_p24 : lw_okq (⟨"Clickbook", "countMetWith", "(LClickbook$Cue;I[I)I"⟩, 13) := ⟨⟨by decide +kernel, by decide +kernel⟩, List.mem_of_getElem? (i := 22) (by decide +kernel), List.mem_of_getElem? (i := 633) (by decide +kernel), List.mem_of_getElem? (i := 634) (by decide +kernel)⟩
theorem lw_p25 : lw_okq (⟨"Clickbook", "countMetWithClick", "(LClickbook$Cue;II)I"⟩, 13) := ⟨⟨by decide +kernel, by decide +kernel⟩, List.mem_of_getElem? (i := 22) (by decide +kernel), List.mem_of_getElem? (i := 641) (by decide +kernel), List.mem_of_getElem? (i := 642) (by decide +kernel)⟩
theorem lw_p26 : lw_okq (⟨"Clickbook", "refuseBadCut", "(II)V"⟩, 13) := ⟨⟨by decide +kernel, by decide +kernel⟩, List.mem_of_getElem? (i := 22) (by decide +kernel), List.mem_of_getElem? (i := 650) (by decide +kernel), List.mem_of_getElem? (i := 651) (by decide +kernel)⟩
theorem lw_p27 : lw_okq (⟨"Clickbook", "wouldBeMet", "(LClickbook$Hit;II)Z"⟩, 13) := ⟨⟨by decide +kernel, by decide +kernel⟩, List.mem_of_getElem? (i := 22) (by decide +kernel), List.mem_of_getElem? (i := 659) (by decide +kernel), List.mem_of_getElem? (i := 660) (by decide +kernel)⟩
theorem lw_p28 : lw_okq (⟨"Clickbook", "missOf", "(LClickbook$Hit;)I"⟩, 13) := ⟨⟨by decide +kernel, by decide +kernel⟩, List.mem_of_getElem? (i := 22) (by decide +kernel), List.mem_of_getElem? (i := 681) (by decide +kernel), List.mem_of_getElem? (i := 682) (by decide +kernel)⟩
theorem lw_p29 : lw_okq (⟨"Clickbook", "nearestCue", "(LClickbook$Hit;)I"⟩, 13) := ⟨⟨by decide +kernel, by decide +kernel⟩, List.mem_of_getElem? (i := 22) (by decide +kernel), List.mem_of_getElem? (i := 685) (by decide +kernel), List.mem_of_getElem? (i := 686) (by decide +kernel)⟩
theorem lw_p30 : lw_okq (⟨"Clickbook", "nearestBeat", "(LClickbook$Hit;)I"⟩, 13) := ⟨⟨by decide +kernel, by decide +kernel⟩, List.mem_of_getElem? (i := 22) (by decide +kernel), List.mem_of_getElem? (i := 701) (by decide +kernel), List.mem_of_getElem? (i := 702) (by decide +kernel)⟩
theorem lw_p31 : lw_okq (⟨"Clickbook", "mixedCue", "(JI)J"⟩, 13) := ⟨⟨by decide +kernel, by decide +kernel⟩, List.mem_of_getElem? (i := 22) (by decide +kernel), List.mem_of_getElem? (i := 707) (by decide +kernel), List.mem_of_getElem? (i := 708) (by decide +kernel)⟩
def lw_privs_2 : List (MethodName × Nat) := [(⟨"Clickbook", "countAllValid", "()I"⟩, 13), (⟨"Clickbook", "payToAll", "()I"⟩, 13), (⟨"Clickbook", "payOf", "(LClickbook$Cue;)I"⟩, 13), (⟨"Clickbook$JoinTable", "fillBar", "(I)V"⟩, 3), (⟨"Clickbook$JoinTable", "bestPlace", "(II)I"⟩, 3), (⟨"Clickbook$JoinTable", "worthFrom", "(II)I"⟩, 3), (⟨"Clickbook$JoinTable", "costOfSplice", "(II)I"⟩, 3), (⟨"Clickbook", "markMetByOthers", "(I)V"⟩, 13), (⟨"Clickbook", "countMetWith", "(LClickbook$Cue;I[I)I"⟩, 13), (⟨"Clickbook", "countMetWithClick", "(LClickbook$Cue;II)I"⟩, 13), (⟨"Clickbook", "refuseBadCut", "(II)V"⟩, 13), (⟨"Clickbook", "wouldBeMet", "(LClickbook$Hit;II)Z"⟩, 13), (⟨"Clickbook", "missOf", "(LClickbook$Hit;)I"⟩, 13), (⟨"Clickbook", "nearestCue", "(LClickbook$Hit;)I"⟩, 13), (⟨"Clickbook", "nearestBeat", "(LClickbook$Hit;)I"⟩, 13), (⟨"Clickbook", "mixedCue", "(JI)J"⟩, 13)]
theorem lw_r2 : ∀ q ∈ lw_privs_2, lw_okq q := List.forall_mem_cons.mpr ⟨lw_p16, List.forall_mem_cons.mpr ⟨lw_p17, List.forall_mem_cons.mpr ⟨lw_p18, List.forall_mem_cons.mpr ⟨lw_p19, List.forall_mem_cons.mpr ⟨lw_p20, List.forall_mem_cons.mpr ⟨lw_p21, List.forall_mem_cons.mpr ⟨lw_p22, List.forall_mem_cons.mpr ⟨lw_p23, List.forall_mem_cons.mpr ⟨lw_p24, List.forall_mem_cons.mpr ⟨lw_p25, List.forall_mem_cons.mpr ⟨lw_p26, List.forall_mem_cons.mpr ⟨lw_p27, List.forall_mem_cons.mpr ⟨lw_p28, List.forall_mem_cons.mpr ⟨lw_p29, List.forall_mem_cons.mpr ⟨lw_p30, List.forall_mem_cons.mpr ⟨lw_p31, fun _ h => absurd h List.not_mem_nil⟩⟩⟩⟩⟩⟩⟩⟩⟩⟩⟩⟩⟩⟩⟩⟩
theorem lw_p32 : lw_okq (⟨"Clickbook", "cutCues", "(II)I"⟩, 13) := ⟨⟨by decide +kernel, by decide +kernel⟩, List.mem_of_getElem? (i := 22) (by decide +kernel), List.mem_of_getElem? (i := 752) (by decide +kernel), List.mem_of_getElem? (i := 753) (by decide +kernel)⟩
def lw_privs_3 : List (MethodName × Nat) := [(⟨"Clickbook", "cutCues", "(II)I"⟩, 13)]
theorem lw_r3 : ∀ q ∈ lw_privs_3, lw_okq q := List.forall_mem_cons.mpr ⟨lw_p32, fun _ h => absurd h List.not_mem_nil⟩
def lw_privs : List (MethodName × Nat) := lw_privs_1 ++ (lw_privs_2 ++ (lw_privs_3))
def lw_tbl : List Cond := k2_sels lw_privs ++ tables_1
theorem lw_privs_ok : ∀ q ∈ lw_privs, lw_okq q := by
  show ∀ q ∈ lw_privs_1 ++ (lw_privs_2 ++ (lw_privs_3)), lw_okq q
  exact List.forall_mem_append.mpr ⟨lw_r1, List.forall_mem_append.mpr ⟨lw_r2, lw_r3⟩⟩
/-- the streams that the claim lets the run draw from -/
abbrev lw_cs : List Choice := [Jvm.Choice.named "NaN.bits"]
theorem lw_bits : nanBits ∈ lw_cs := by first | decide | exact List.mem_cons_self | simp [lw_cs, nanBits]
end
section
/-! classes, fields, methods, words: printed by wip/tool/gen02.py out of the claim's own texts -/
def xT_0 : u_T := fun k => match k with
  | 0 => ("Clickbook", "hits", "Ljava/util/ArrayList;", true)
  | 1 => ("Clickbook", "reveals", "[I", true)
  | 2 => ("Clickbook", "themeCount", "I", false)
  | 3 => ("Clickbook", "cues", "Ljava/util/ArrayList;", true)
  | 4 => ("Clickbook", "takes", "Ljava/util/ArrayList;", true)
  | 5 => ("Clickbook", "length", "I", false)
  | 6 => ("Clickbook", "version", "I", false)
  | 7 => ("Clickbook", "band", "I", false)
  | 8 => ("Clickbook", "time", "I", false)
  | 9 => ("Clickbook", "costs", "I", false)
  | 10 => ("Clickbook", "joins", "LClickbook$JoinTable;", true)
  | 11 => ("Clickbook", "trialOffsets", "[I", true)
  | _ => ("Clickbook", "metByOthers", "[Z", true)
def xt_0 : Nat → FieldType := fun k => match k with
  | 0 => .object "java/util/ArrayList"
  | 1 => .array .int
  | 2 => .int
  | 3 => .object "java/util/ArrayList"
  | 4 => .object "java/util/ArrayList"
  | 5 => .int
  | 6 => .int
  | 7 => .int
  | 8 => .int
  | 9 => .int
  | 10 => .object "Clickbook$JoinTable"
  | 11 => .array .int
  | _ => .array .boolean
theorem xn_0 : ∀ a, a < 13 → ∀ b, b < 13 → a ≠ b → (xT_0 a).2.1 ≠ (xT_0 b).2.1 := by decide +kernel
theorem xo_0 : ∀ k, k < 13 → parseFieldDescriptor (xT_0 k).2.2.1 = some (xt_0 k) := by decide +kernel
def xT_1 : u_T := fun k => match k with
  | 0 => ("Clickbook$Cue", "number", "I", true)
  | 1 => ("Clickbook$Cue", "start", "I", false)
  | 2 => ("Clickbook$Cue", "theme", "I", true)
  | 3 => ("Clickbook$Cue", "players", "I", true)
  | 4 => ("Clickbook$Cue", "writer", "I", true)
  | 5 => ("Clickbook$Cue", "use", "I", true)
  | 6 => ("Clickbook$Cue", "edition", "I", false)
  | 7 => ("Clickbook$Cue", "bars", "I", false)
  | 8 => ("Clickbook$Cue", "meters", "[I", true)
  | 9 => ("Clickbook$Cue", "clicks", "[I", true)
  | 10 => ("Clickbook$Cue", "beats", "I", false)
  | 11 => ("Clickbook$Cue", "frames", "I", false)
  | _ => ("Clickbook$Cue", "offsets", "[I", true)
def xt_1 : Nat → FieldType := fun k => match k with
  | 0 => .int
  | 1 => .int
  | 2 => .int
  | 3 => .int
  | 4 => .int
  | 5 => .int
  | 6 => .int
  | 7 => .int
  | 8 => .array .int
  | 9 => .array .int
  | 10 => .int
  | 11 => .int
  | _ => .array .int
theorem xn_1 : ∀ a, a < 13 → ∀ b, b < 13 → a ≠ b → (xT_1 a).2.1 ≠ (xT_1 b).2.1 := by decide +kernel
theorem xo_1 : ∀ k, k < 13 → parseFieldDescriptor (xT_1 k).2.2.1 = some (xt_1 k) := by decide +kernel
def xT_2 : u_T := fun k => match k with
  | 0 => ("Clickbook$Hit", "frame", "I", false)
  | 1 => ("Clickbook$Hit", "tolerance", "I", true)
  | _ => ("Clickbook$Hit", "gone", "Z", false)
def xt_2 : Nat → FieldType := fun k => match k with
  | 0 => .int
  | 1 => .int
  | _ => .boolean
theorem xn_2 : ∀ a, a < 3 → ∀ b, b < 3 → a ≠ b → (xT_2 a).2.1 ≠ (xT_2 b).2.1 := by decide +kernel
theorem xo_2 : ∀ k, k < 3 → parseFieldDescriptor (xT_2 k).2.2.1 = some (xt_2 k) := by decide +kernel
def xT_3 : u_T := fun k => match k with
  | 0 => ("Clickbook$JoinTable", "pool", "Ljava/util/ArrayList;", true)
  | 1 => ("Clickbook$JoinTable", "bars", "I", false)
  | _ => ("Clickbook$JoinTable", "worths", "[I", true)
def xt_3 : Nat → FieldType := fun k => match k with
  | 0 => .object "java/util/ArrayList"
  | 1 => .int
  | _ => .array .int
theorem xn_3 : ∀ a, a < 3 → ∀ b, b < 3 → a ≠ b → (xT_3 a).2.1 ≠ (xT_3 b).2.1 := by decide +kernel
theorem xo_3 : ∀ k, k < 3 → parseFieldDescriptor (xT_3 k).2.2.1 = some (xt_3 k) := by decide +kernel
def xT_4 : u_T := fun k => match k with
  | 0 => ("Clickbook$Take", "number", "I", true)
  | 1 => ("Clickbook$Take", "of", "LClickbook$Cue;", true)
  | 2 => ("Clickbook$Take", "edition", "I", true)
  | 3 => ("Clickbook$Take", "notes", "I", true)
  | _ => ("Clickbook$Take", "push", "I", true)
def xt_4 : Nat → FieldType := fun k => match k with
  | 0 => .int
  | 1 => .object "Clickbook$Cue"
  | 2 => .int
  | 3 => .int
  | _ => .int
theorem xn_4 : ∀ a, a < 5 → ∀ b, b < 5 → a ≠ b → (xT_4 a).2.1 ≠ (xT_4 b).2.1 := by decide +kernel
theorem xo_4 : ∀ k, k < 5 → parseFieldDescriptor (xT_4 k).2.2.1 = some (xt_4 k) := by decide +kernel
def xT_5 : u_T := fun k => match k with
  | 0 => ("java/util/AbstractList", "modCount", "I", false)
  | 1 => ("java/util/ArrayList", "elementData", "[Ljava/lang/Object;", false)
  | _ => ("java/util/ArrayList", "size", "I", false)
def xt_5 : Nat → FieldType := fun k => match k with
  | 0 => .int
  | 1 => .array (.object "java/lang/Object")
  | _ => .int
theorem xn_5 : ∀ a, a < 3 → ∀ b, b < 3 → a ≠ b → (xT_5 a).2.1 ≠ (xT_5 b).2.1 := by decide +kernel
theorem xo_5 : ∀ k, k < 3 → parseFieldDescriptor (xT_5 k).2.2.1 = some (xt_5 k) := by decide +kernel
abbrev xk_cl : List vw_C := [("Clickbook", xT_0, 13), ("Clickbook$Cue", xT_1, 13), ("Clickbook$Hit", xT_2, 3), ("Clickbook$JoinTable", xT_3, 3), ("Clickbook$Take", xT_4, 5), ("java/util/ArrayList", xT_5, 3)]
/-- the rows' kinds: 0 ints, 1 booleans, 2 objects, 3 the shared empty row -/
def xk_tys (dA : Nat → ClassId) : List (ClassId × FieldType) := [(dA 0, .int), (dA 1, .boolean), (dA 2, .object "java/lang/Object"), (dA 3, .object "java/lang/Object")]
def xk_nk : Nat := 4
theorem xk_tyk (dA : Nat → ClassId) : ∀ k, k < xk_nk → ∃ ty, (xk_tys dA)[k]? = some (dA k, ty) := fun k hk => by
  match k, hk with
  | 0, _ => exact ⟨_, rfl⟩
  | 1, _ => exact ⟨_, rfl⟩
  | 2, _ => exact ⟨_, rfl⟩
  | 3, _ => exact ⟨_, rfl⟩
  | k + 4, h => exact absurd h (by simp [xk_nk])
def xk_T : List Cond := lw_tbl.filter goodWord
theorem xk_in {w : Cond} (h : w ∈ lw_tbl) (g : goodWord w = true) : w ∈ xk_T := List.mem_filter.mpr ⟨h, g⟩
theorem xk_good {w : Cond} (h : w ∈ xk_T) : goodWord w = true := (List.mem_filter.mp h).2
theorem xc_0 : xk_cl[0]? = some ("Clickbook", xT_0, 13) := rfl
theorem xi_0 : ∀ w ∈ u_ws "Clickbook" xT_0 13, w ∈ xk_T := fun w h => (by have q : (u_ws "Clickbook" xT_0 13).all (fun w => decide (w ∈ xk_T)) = true := (by decide +kernel); exact of_decide_eq_true (List.all_eq_true.mp q w h))
theorem xc_1 : xk_cl[1]? = some ("Clickbook$Cue", xT_1, 13) := rfl
theorem xi_1 : ∀ w ∈ u_ws "Clickbook$Cue" xT_1 13, w ∈ xk_T := fun w h => (by have q : (u_ws "Clickbook$Cue" xT_1 13).all (fun w => decide (w ∈ xk_T)) = true := (by decide +kernel); exact of_decide_eq_true (List.all_eq_true.mp q w h))
theorem xc_2 : xk_cl[2]? = some ("Clickbook$Hit", xT_2, 3) := rfl
theorem xi_2 : ∀ w ∈ u_ws "Clickbook$Hit" xT_2 3, w ∈ xk_T := fun w h => (by have q : (u_ws "Clickbook$Hit" xT_2 3).all (fun w => decide (w ∈ xk_T)) = true := (by decide +kernel); exact of_decide_eq_true (List.all_eq_true.mp q w h))
theorem xc_3 : xk_cl[3]? = some ("Clickbook$JoinTable", xT_3, 3) := rfl
theorem xi_3 : ∀ w ∈ u_ws "Clickbook$JoinTable" xT_3 3, w ∈ xk_T := fun w h => (by have q : (u_ws "Clickbook$JoinTable" xT_3 3).all (fun w => decide (w ∈ xk_T)) = true := (by decide +kernel); exact of_decide_eq_true (List.all_eq_true.mp q w h))
theorem xc_4 : xk_cl[4]? = some ("Clickbook$Take", xT_4, 5) := rfl
theorem xi_4 : ∀ w ∈ u_ws "Clickbook$Take" xT_4 5, w ∈ xk_T := fun w h => (by have q : (u_ws "Clickbook$Take" xT_4 5).all (fun w => decide (w ∈ xk_T)) = true := (by decide +kernel); exact of_decide_eq_true (List.all_eq_true.mp q w h))
theorem xc_5 : xk_cl[5]? = some ("java/util/ArrayList", xT_5, 3) := rfl
theorem xi_5 : ∀ w ∈ u_ws "java/util/ArrayList" xT_5 3, w ∈ xk_T := fun w h => (by have q : (u_ws "java/util/ArrayList" xT_5 3).all (fun w => decide (w ∈ xk_T)) = true := (by decide +kernel); exact of_decide_eq_true (List.all_eq_true.mp q w h))
def xk_N (U : State) : Prop := va_AO "java/lang/Object" U ∧ va_Nw (Cond.methodLinkNest "Clickbook$Cue" 57 ⟨"Clickbook", "roundedUp", "(II)I"⟩ "Clickbook") U ∧ va_Nw (Cond.methodLinkNest "Clickbook$Hit" 20 ⟨"Clickbook", "isTakenOut", "(III)Z"⟩ "Clickbook") U ∧ va_Nw (Cond.methodLinkNest "Clickbook$Hit" 26 ⟨"Clickbook", "movedFrame", "(III)I"⟩ "Clickbook") U ∧ va_Nw (Cond.castable "Clickbook" "java/lang/Object") U ∧ va_Nw (Cond.castable "java/util/ArrayList" "java/lang/Object") U ∧ va_Nw (Cond.castable "Clickbook$JoinTable" "java/lang/Object") U ∧ va_Nw (Cond.castable "Clickbook$Hit" "java/lang/Object") U ∧ va_Nw (Cond.castable "Clickbook$Cue" "java/lang/Object") U ∧ va_Nw (Cond.castable "Clickbook$Take" "java/lang/Object") U
theorem xk_N.warm {s U : State} (hW : s.WarmedH U.vm) (h : xk_N s) : xk_N U := by
  obtain ⟨h0, h1, h2, h3, h4, h5, h6, h7, h8, h9⟩ := h
  exact ⟨va_AO.moved hW.alike h0, va_Nw.warmM hW h1, va_Nw.warmM hW h2, va_Nw.warmM hW h3, va_Nw.warmC hW h4, va_Nw.warmC hW h5, va_Nw.warmC hW h6, va_Nw.warmC hW h7, va_Nw.warmC hW h8, va_Nw.warmC hW h9⟩
theorem xk_N.same {s U : State} (hW : s.vm = U.vm) (h : xk_N s) : xk_N U := by
  obtain ⟨h0, h1, h2, h3, h4, h5, h6, h7, h8, h9⟩ := h
  exact ⟨va_AO.moved (by rw [hW]; exact Vm.Alike.refl _) h0, va_Nw.same rfl hW h1, va_Nw.same rfl hW h2, va_Nw.same rfl hW h3, va_Nw.same rfl hW h4, va_Nw.same rfl hW h5, va_Nw.same rfl hW h6, va_Nw.same rfl hW h7, va_Nw.same rfl hW h8, va_Nw.same rfl hW h9⟩
abbrev xy_X0_init : MethodName := ⟨"Clickbook$Cue", "<init>", "(IIIIII)V"⟩
abbrev xy_X0_setBar : MethodName := ⟨"Clickbook$Cue", "setBar", "(III)V"⟩
abbrev xy_X0_layOut : MethodName := ⟨"Clickbook$Cue", "layOut", "([III)I"⟩
abbrev xy_X0_firstBeat : MethodName := ⟨"Clickbook$Cue", "firstBeat", "(I)I"⟩
abbrev xy_X0_beatFrame : MethodName := ⟨"Clickbook$Cue", "beatFrame", "(I)I"⟩
abbrev xy_X0_end : MethodName := ⟨"Clickbook$Cue", "end", "()I"⟩
abbrev xy_X0_mostNotes : MethodName := ⟨"Clickbook$Cue", "mostNotes", "()I"⟩
abbrev xy_X0_isTouched : MethodName := ⟨"Clickbook$Cue", "isTouched", "(II)Z"⟩
abbrev xy_X0_nearestBeat : MethodName := ⟨"Clickbook$Cue", "nearestBeat", "(I)I"⟩
abbrev xy_X0_missOf : MethodName := ⟨"Clickbook$Cue", "missOf", "(I)I"⟩
abbrev xy_X0_reaches : MethodName := ⟨"Clickbook$Cue", "reaches", "(III[I)Z"⟩
abbrev xy_X1_init : MethodName := ⟨"Clickbook$Hit", "<init>", "(II)V"⟩
abbrev xy_X1_cut : MethodName := ⟨"Clickbook$Hit", "cut", "(II)V"⟩
abbrev xy_X2_init : MethodName := ⟨"Clickbook$JoinTable", "<init>", "()V"⟩
abbrev xy_X2_fill : MethodName := ⟨"Clickbook$JoinTable", "fill", "(LClickbook$Cue;Ljava/util/ArrayList;)V"⟩
abbrev xy_X2_fillBar : MethodName := ⟨"Clickbook$JoinTable", "fillBar", "(I)V"⟩
abbrev xy_X2_bestWorth : MethodName := ⟨"Clickbook$JoinTable", "bestWorth", "()I"⟩
abbrev xy_X2_takeOf : MethodName := ⟨"Clickbook$JoinTable", "takeOf", "(I)I"⟩
abbrev xy_X2_bestPlace : MethodName := ⟨"Clickbook$JoinTable", "bestPlace", "(II)I"⟩
abbrev xy_X2_costOfSplice : MethodName := ⟨"Clickbook$JoinTable", "costOfSplice", "(II)I"⟩
abbrev xy_X2_worthFrom : MethodName := ⟨"Clickbook$JoinTable", "worthFrom", "(II)I"⟩
abbrev xy_X2_slotOf : MethodName := ⟨"Clickbook$JoinTable", "slotOf", "(II)I"⟩
abbrev xy_X3_init : MethodName := ⟨"Clickbook$Take", "<init>", "(ILClickbook$Cue;II)V"⟩
abbrev xy_X3_isValid : MethodName := ⟨"Clickbook$Take", "isValid", "()Z"⟩
abbrev xy_X3_noteOf : MethodName := ⟨"Clickbook$Take", "noteOf", "(I)I"⟩
abbrev xy_X3_sumOfNotes : MethodName := ⟨"Clickbook$Take", "sumOfNotes", "()I"⟩
abbrev xy_X4_init : MethodName := ⟨"Clickbook", "<init>", "()V"⟩
abbrev xy_X4_hit : MethodName := ⟨"Clickbook", "hit", "(II)I"⟩
abbrev xy_X4_theme : MethodName := ⟨"Clickbook", "theme", "(I)I"⟩
abbrev xy_X4_change : MethodName := ⟨"Clickbook", "change", "(II)I"⟩
abbrev xy_X4_cutCues : MethodName := ⟨"Clickbook", "cutCues", "(II)I"⟩
abbrev xy_X4_refuseBadCut : MethodName := ⟨"Clickbook", "refuseBadCut", "(II)V"⟩
abbrev xy_X4_isTakenOut : MethodName := ⟨"Clickbook", "isTakenOut", "(III)Z"⟩
abbrev xy_X4_movedFrame : MethodName := ⟨"Clickbook", "movedFrame", "(III)I"⟩
abbrev xy_X4_cue : MethodName := ⟨"Clickbook", "cue", "(IIIII)I"⟩
abbrev xy_X4_bar : MethodName := ⟨"Clickbook", "bar", "(III)I"⟩
abbrev xy_X4_retime : MethodName := ⟨"Clickbook", "retime", "(IIII)I"⟩
abbrev xy_X4_shift : MethodName := ⟨"Clickbook", "shift", "(II)I"⟩
abbrev xy_X4_cueNumbered : MethodName := ⟨"Clickbook", "cueNumbered", "(I)LClickbook$Cue;"⟩
abbrev xy_X4_refuseNoBar : MethodName := ⟨"Clickbook", "refuseNoBar", "(LClickbook$Cue;I)V"⟩
abbrev xy_X4_refuseBadBar : MethodName := ⟨"Clickbook", "refuseBadBar", "(II)V"⟩
abbrev xy_X4_open : MethodName := ⟨"Clickbook", "open", "(I)I"⟩
abbrev xy_X4_take : MethodName := ⟨"Clickbook", "take", "(III)I"⟩
abbrev xy_X4_close : MethodName := ⟨"Clickbook", "close", "()I"⟩
abbrev xy_X4_roundedUp : MethodName := ⟨"Clickbook", "roundedUp", "(II)I"⟩
abbrev xy_X4_ofHit : MethodName := ⟨"Clickbook", "ofHit", "(II)I"⟩
abbrev xy_X4_ofCue : MethodName := ⟨"Clickbook", "ofCue", "(II)I"⟩
abbrev xy_X4_ofBar : MethodName := ⟨"Clickbook", "ofBar", "(III)I"⟩
abbrev xy_X4_beat : MethodName := ⟨"Clickbook", "beat", "(II)I"⟩
abbrev xy_X4_ofTake : MethodName := ⟨"Clickbook", "ofTake", "(II)I"⟩
abbrev xy_X4_sheet : MethodName := ⟨"Clickbook", "sheet", "(I)I"⟩
abbrev xy_X4_many : MethodName := ⟨"Clickbook", "many", "(I)I"⟩
abbrev xy_X4_meanNote : MethodName := ⟨"Clickbook", "meanNote", "()D"⟩
abbrev xy_X4_nearestCue : MethodName := ⟨"Clickbook", "nearestCue", "(LClickbook$Hit;)I"⟩
abbrev xy_X4_missOf : MethodName := ⟨"Clickbook", "missOf", "(LClickbook$Hit;)I"⟩
abbrev xy_X4_nearestBeat : MethodName := ⟨"Clickbook", "nearestBeat", "(LClickbook$Hit;)I"⟩
abbrev xy_X4_isMet : MethodName := ⟨"Clickbook", "isMet", "(LClickbook$Hit;)Z"⟩
abbrev xy_X4_isMetBut : MethodName := ⟨"Clickbook", "isMetBut", "(LClickbook$Hit;I)Z"⟩
abbrev xy_X4_countMet : MethodName := ⟨"Clickbook", "countMet", "()I"⟩
abbrev xy_X4_countGone : MethodName := ⟨"Clickbook", "countGone", "()I"⟩
abbrev xy_X4_runsOver : MethodName := ⟨"Clickbook", "runsOver", "(LClickbook$Cue;)Z"⟩
abbrev xy_X4_countRunningOver : MethodName := ⟨"Clickbook", "countRunningOver", "()I"⟩
abbrev xy_X4_spoils : MethodName := ⟨"Clickbook", "spoils", "(LClickbook$Cue;)Z"⟩
abbrev xy_X4_countSpoiling : MethodName := ⟨"Clickbook", "countSpoiling", "()I"⟩
abbrev xy_X4_countClashes : MethodName := ⟨"Clickbook", "countClashes", "()I"⟩
abbrev xy_X4_clash : MethodName := ⟨"Clickbook", "clash", "(LClickbook$Cue;LClickbook$Cue;)Z"⟩
abbrev xy_X4_countValid : MethodName := ⟨"Clickbook", "countValid", "(LClickbook$Cue;)I"⟩
abbrev xy_X4_countAllValid : MethodName := ⟨"Clickbook", "countAllValid", "()I"⟩
abbrev xy_X4_secondsOf : MethodName := ⟨"Clickbook", "secondsOf", "(LClickbook$Cue;)I"⟩
abbrev xy_X4_payOf : MethodName := ⟨"Clickbook", "payOf", "(LClickbook$Cue;)I"⟩
abbrev xy_X4_payToAll : MethodName := ⟨"Clickbook", "payToAll", "()I"⟩
abbrev xy_X4_join : MethodName := ⟨"Clickbook", "join", "(I)I"⟩
abbrev xy_X4_bestStart : MethodName := ⟨"Clickbook", "bestStart", "(I)I"⟩
abbrev xy_X4_bestClick : MethodName := ⟨"Clickbook", "bestClick", "(II)I"⟩
abbrev xy_X4_wouldMeet : MethodName := ⟨"Clickbook", "wouldMeet", "(II)I"⟩
abbrev xy_X4_digest : MethodName := ⟨"Clickbook", "digest", "()J"⟩
abbrev xy_X4_mixedCue : MethodName := ⟨"Clickbook", "mixedCue", "(JI)J"⟩
abbrev xy_X4_mixed : MethodName := ⟨"Clickbook", "mixed", "(JJ)J"⟩
abbrev xy_X4_markMetByOthers : MethodName := ⟨"Clickbook", "markMetByOthers", "(I)V"⟩
abbrev xy_X4_countMetWith : MethodName := ⟨"Clickbook", "countMetWith", "(LClickbook$Cue;I[I)I"⟩
abbrev xy_X4_countMetWithClick : MethodName := ⟨"Clickbook", "countMetWithClick", "(LClickbook$Cue;II)I"⟩
abbrev xy_X4_wouldBeMet : MethodName := ⟨"Clickbook", "wouldBeMet", "(LClickbook$Hit;II)Z"⟩
abbrev xy_J9_abs_0f7a4 : MethodName := ⟨"java/lang/Math", "abs", "(I)I"⟩
abbrev xy_J9_max_7cf53 : MethodName := ⟨"java/lang/Math", "max", "(II)I"⟩
abbrev xy_J9_min_7cf53 : MethodName := ⟨"java/lang/Math", "min", "(II)I"⟩
abbrev xy_Jxa1e45_init_da8c8 : MethodName := ⟨"java/util/AbstractCollection", "<init>", "()V"⟩
abbrev xy_Jxc12de_init_da8c8 : MethodName := ⟨"java/util/AbstractList", "<init>", "()V"⟩
abbrev xy_Jx4a65c_init_da8c8 : MethodName := ⟨"java/util/ArrayList", "<init>", "()V"⟩
abbrev xy_Jx4a65c_grow_92f84 : MethodName := ⟨"java/util/ArrayList", "grow", "(I)[Ljava/lang/Object;"⟩
abbrev xy_Jx4a65c_grow_d5877 : MethodName := ⟨"java/util/ArrayList", "grow", "()[Ljava/lang/Object;"⟩
abbrev xy_Jx4a65c_size_8abf5 : MethodName := ⟨"java/util/ArrayList", "size", "()I"⟩
abbrev xy_Jx4a65c_isEmpty_aae02 : MethodName := ⟨"java/util/ArrayList", "isEmpty", "()Z"⟩
abbrev xy_Jx4a65c_elementData_915e3 : MethodName := ⟨"java/util/ArrayList", "elementData", "(I)Ljava/lang/Object;"⟩
abbrev xy_Jx4a65c_get_915e3 : MethodName := ⟨"java/util/ArrayList", "get", "(I)Ljava/lang/Object;"⟩
abbrev xy_Jx4a65c_add_72be8 : MethodName := ⟨"java/util/ArrayList", "add", "(Ljava/lang/Object;[Ljava/lang/Object;I)V"⟩
abbrev xy_Jx4a65c_add_9ea2d : MethodName := ⟨"java/util/ArrayList", "add", "(Ljava/lang/Object;)Z"⟩
abbrev xy_Jx4a65c_clear_da8c8 : MethodName := ⟨"java/util/ArrayList", "clear", "()V"⟩
abbrev xy_J7_copyOf_1904c : MethodName := ⟨"java/util/Arrays", "copyOf", "([Ljava/lang/Object;I)[Ljava/lang/Object;"⟩
abbrev xy_J7_copyOf_6403c : MethodName := ⟨"java/util/Arrays", "copyOf", "([Ljava/lang/Object;ILjava/lang/Class;)[Ljava/lang/Object;"⟩
abbrev xy_J15_checkIndex_7cf53 : MethodName := ⟨"java/util/Objects", "checkIndex", "(II)I"⟩
abbrev xy_J8_newLength_cabcc : MethodName := ⟨"jdk/internal/util/ArraysSupport", "newLength", "(III)I"⟩
abbrev xy_J8_hugeLength_7cf53 : MethodName := ⟨"jdk/internal/util/ArraysSupport", "hugeLength", "(II)I"⟩
abbrev xy_J3_checkIndex_8e157 : MethodName := ⟨"jdk/internal/util/Preconditions", "checkIndex", "(IILjava/util/function/BiFunction;)I"⟩
abbrev xy_L_below : MethodName := ⟨"ClickbookLaw", "below", "(II)I"⟩
abbrev xy_L_cell : MethodName := ⟨"ClickbookLaw", "cell", "([II)I"⟩
abbrev xy_L_law : MethodName := ⟨"ClickbookLaw", "law", "([I)Z"⟩
abbrev xy_L_isBack : MethodName := ⟨"ClickbookLaw", "isBack", "(LClickbook;II)Z"⟩
abbrev xy_L_areWell : MethodName := ⟨"ClickbookLaw", "areWell", "(LClickbook;)Z"⟩
theorem xm_p0 : Cond.selects "java/lang/Throwable" ⟨"java/lang/Throwable", "fillInStackTrace", "(I)Ljava/lang/Throwable;"⟩ ⟨"java/lang/Throwable", "fillInStackTrace", "(I)Ljava/lang/Throwable;"⟩ ∈ xk_T := xk_in (List.mem_of_getElem? (i := 0) (by decide +kernel)) rfl
theorem xm_p1 : Cond.selects "java/util/ArrayList" ⟨"java/util/ArrayList", "add", "(Ljava/lang/Object;[Ljava/lang/Object;I)V"⟩ ⟨"java/util/ArrayList", "add", "(Ljava/lang/Object;[Ljava/lang/Object;I)V"⟩ ∈ xk_T := xk_in (List.mem_of_getElem? (i := 1) (by decide +kernel)) rfl
theorem xm_p2 : Cond.selects "java/util/ArrayList" ⟨"java/util/ArrayList", "grow", "()[Ljava/lang/Object;"⟩ ⟨"java/util/ArrayList", "grow", "()[Ljava/lang/Object;"⟩ ∈ xk_T := xk_in (List.mem_of_getElem? (i := 2) (by decide +kernel)) rfl
theorem xm_p3 : Cond.selects "java/util/ArrayList" ⟨"java/util/ArrayList", "grow", "(I)[Ljava/lang/Object;"⟩ ⟨"java/util/ArrayList", "grow", "(I)[Ljava/lang/Object;"⟩ ∈ xk_T := xk_in (List.mem_of_getElem? (i := 3) (by decide +kernel)) rfl
theorem xm_p4 : Cond.selects "Clickbook" ⟨"Clickbook", "cueNumbered", "(I)LClickbook$Cue;"⟩ ⟨"Clickbook", "cueNumbered", "(I)LClickbook$Cue;"⟩ ∈ xk_T := xk_in (List.mem_of_getElem? (i := 4) (by decide +kernel)) rfl
theorem xm_p5 : Cond.selects "Clickbook" ⟨"Clickbook", "countMet", "()I"⟩ ⟨"Clickbook", "countMet", "()I"⟩ ∈ xk_T := xk_in (List.mem_of_getElem? (i := 5) (by decide +kernel)) rfl
theorem xm_p6 : Cond.selects "Clickbook" ⟨"Clickbook", "isMet", "(LClickbook$Hit;)Z"⟩ ⟨"Clickbook", "isMet", "(LClickbook$Hit;)Z"⟩ ∈ xk_T := xk_in (List.mem_of_getElem? (i := 6) (by decide +kernel)) rfl
theorem xm_p7 : Cond.selects "Clickbook" ⟨"Clickbook", "isMetBut", "(LClickbook$Hit;I)Z"⟩ ⟨"Clickbook", "isMetBut", "(LClickbook$Hit;I)Z"⟩ ∈ xk_T := xk_in (List.mem_of_getElem? (i := 7) (by decide +kernel)) rfl
theorem xm_p8 : Cond.selects "Clickbook" ⟨"Clickbook", "runsOver", "(LClickbook$Cue;)Z"⟩ ⟨"Clickbook", "runsOver", "(LClickbook$Cue;)Z"⟩ ∈ xk_T := xk_in (List.mem_of_getElem? (i := 8) (by decide +kernel)) rfl
theorem xm_p9 : Cond.selects "Clickbook" ⟨"Clickbook", "spoils", "(LClickbook$Cue;)Z"⟩ ⟨"Clickbook", "spoils", "(LClickbook$Cue;)Z"⟩ ∈ xk_T := xk_in (List.mem_of_getElem? (i := 9) (by decide +kernel)) rfl
theorem xm_p10 : Cond.selects "Clickbook" ⟨"Clickbook", "countValid", "(LClickbook$Cue;)I"⟩ ⟨"Clickbook", "countValid", "(LClickbook$Cue;)I"⟩ ∈ xk_T := xk_in (List.mem_of_getElem? (i := 10) (by decide +kernel)) rfl
theorem xm_p11 : Cond.selects "Clickbook" ⟨"Clickbook", "secondsOf", "(LClickbook$Cue;)I"⟩ ⟨"Clickbook", "secondsOf", "(LClickbook$Cue;)I"⟩ ∈ xk_T := xk_in (List.mem_of_getElem? (i := 11) (by decide +kernel)) rfl
theorem xm_p12 : Cond.selects "Clickbook" ⟨"Clickbook", "countGone", "()I"⟩ ⟨"Clickbook", "countGone", "()I"⟩ ∈ xk_T := xk_in (List.mem_of_getElem? (i := 12) (by decide +kernel)) rfl
theorem xm_p13 : Cond.selects "Clickbook" ⟨"Clickbook", "countRunningOver", "()I"⟩ ⟨"Clickbook", "countRunningOver", "()I"⟩ ∈ xk_T := xk_in (List.mem_of_getElem? (i := 13) (by decide +kernel)) rfl
theorem xm_p14 : Cond.selects "Clickbook" ⟨"Clickbook", "countSpoiling", "()I"⟩ ⟨"Clickbook", "countSpoiling", "()I"⟩ ∈ xk_T := xk_in (List.mem_of_getElem? (i := 14) (by decide +kernel)) rfl
theorem xm_p15 : Cond.selects "Clickbook" ⟨"Clickbook", "countClashes", "()I"⟩ ⟨"Clickbook", "countClashes", "()I"⟩ ∈ xk_T := xk_in (List.mem_of_getElem? (i := 15) (by decide +kernel)) rfl
theorem xm_p16 : Cond.selects "Clickbook" ⟨"Clickbook", "countAllValid", "()I"⟩ ⟨"Clickbook", "countAllValid", "()I"⟩ ∈ xk_T := xk_in (List.mem_of_getElem? (i := 16) (by decide +kernel)) rfl
theorem xm_p17 : Cond.selects "Clickbook" ⟨"Clickbook", "payToAll", "()I"⟩ ⟨"Clickbook", "payToAll", "()I"⟩ ∈ xk_T := xk_in (List.mem_of_getElem? (i := 17) (by decide +kernel)) rfl
theorem xm_p18 : Cond.selects "Clickbook" ⟨"Clickbook", "payOf", "(LClickbook$Cue;)I"⟩ ⟨"Clickbook", "payOf", "(LClickbook$Cue;)I"⟩ ∈ xk_T := xk_in (List.mem_of_getElem? (i := 18) (by decide +kernel)) rfl
theorem xm_p19 : Cond.selects "Clickbook$JoinTable" ⟨"Clickbook$JoinTable", "fillBar", "(I)V"⟩ ⟨"Clickbook$JoinTable", "fillBar", "(I)V"⟩ ∈ xk_T := xk_in (List.mem_of_getElem? (i := 19) (by decide +kernel)) rfl
theorem xm_p20 : Cond.selects "Clickbook$JoinTable" ⟨"Clickbook$JoinTable", "bestPlace", "(II)I"⟩ ⟨"Clickbook$JoinTable", "bestPlace", "(II)I"⟩ ∈ xk_T := xk_in (List.mem_of_getElem? (i := 20) (by decide +kernel)) rfl
theorem xm_p21 : Cond.selects "Clickbook$JoinTable" ⟨"Clickbook$JoinTable", "worthFrom", "(II)I"⟩ ⟨"Clickbook$JoinTable", "worthFrom", "(II)I"⟩ ∈ xk_T := xk_in (List.mem_of_getElem? (i := 21) (by decide +kernel)) rfl
theorem xm_p22 : Cond.selects "Clickbook$JoinTable" ⟨"Clickbook$JoinTable", "costOfSplice", "(II)I"⟩ ⟨"Clickbook$JoinTable", "costOfSplice", "(II)I"⟩ ∈ xk_T := xk_in (List.mem_of_getElem? (i := 22) (by decide +kernel)) rfl
theorem xm_p23 : Cond.selects "Clickbook" ⟨"Clickbook", "markMetByOthers", "(I)V"⟩ ⟨"Clickbook", "markMetByOthers", "(I)V"⟩ ∈ xk_T := xk_in (List.mem_of_getElem? (i := 23) (by decide +kernel)) rfl
theorem xm_p24 : Cond.selects "Clickbook" ⟨"Clickbook", "countMetWith", "(LClickbook$Cue;I[I)I"⟩ ⟨"Clickbook", "countMetWith", "(LClickbook$Cue;I[I)I"⟩ ∈ xk_T := xk_in (List.mem_of_getElem? (i := 24) (by decide +kernel)) rfl
theorem xm_p25 : Cond.selects "Clickbook" ⟨"Clickbook", "countMetWithClick", "(LClickbook$Cue;II)I"⟩ ⟨"Clickbook", "countMetWithClick", "(LClickbook$Cue;II)I"⟩ ∈ xk_T := xk_in (List.mem_of_getElem? (i := 25) (by decide +kernel)) rfl
theorem xm_p26 : Cond.selects "Clickbook" ⟨"Clickbook", "refuseBadCut", "(II)V"⟩ ⟨"Clickbook", "refuseBadCut", "(II)V"⟩ ∈ xk_T := xk_in (List.mem_of_getElem? (i := 26) (by decide +kernel)) rfl
theorem xm_p27 : Cond.selects "Clickbook" ⟨"Clickbook", "wouldBeMet", "(LClickbook$Hit;II)Z"⟩ ⟨"Clickbook", "wouldBeMet", "(LClickbook$Hit;II)Z"⟩ ∈ xk_T := xk_in (List.mem_of_getElem? (i := 27) (by decide +kernel)) rfl
theorem xm_p28 : Cond.selects "Clickbook" ⟨"Clickbook", "missOf", "(LClickbook$Hit;)I"⟩ ⟨"Clickbook", "missOf", "(LClickbook$Hit;)I"⟩ ∈ xk_T := xk_in (List.mem_of_getElem? (i := 28) (by decide +kernel)) rfl
theorem xm_p29 : Cond.selects "Clickbook" ⟨"Clickbook", "nearestCue", "(LClickbook$Hit;)I"⟩ ⟨"Clickbook", "nearestCue", "(LClickbook$Hit;)I"⟩ ∈ xk_T := xk_in (List.mem_of_getElem? (i := 29) (by decide +kernel)) rfl
theorem xm_p30 : Cond.selects "Clickbook" ⟨"Clickbook", "nearestBeat", "(LClickbook$Hit;)I"⟩ ⟨"Clickbook", "nearestBeat", "(LClickbook$Hit;)I"⟩ ∈ xk_T := xk_in (List.mem_of_getElem? (i := 30) (by decide +kernel)) rfl
theorem xm_p31 : Cond.selects "Clickbook" ⟨"Clickbook", "mixedCue", "(JI)J"⟩ ⟨"Clickbook", "mixedCue", "(JI)J"⟩ ∈ xk_T := xk_in (List.mem_of_getElem? (i := 31) (by decide +kernel)) rfl
theorem xm_p32 : Cond.selects "Clickbook" ⟨"Clickbook", "cutCues", "(II)I"⟩ ⟨"Clickbook", "cutCues", "(II)I"⟩ ∈ xk_T := xk_in (List.mem_of_getElem? (i := 32) (by decide +kernel)) rfl
theorem xm_0 : Cond.initialized "ClickbookLaw" ∈ xk_T := xk_in (List.mem_of_getElem? (i := 33) (by decide +kernel)) rfl
theorem xm_1 : Cond.initialized "Clickbook" ∈ xk_T := xk_in (List.mem_of_getElem? (i := 34) (by decide +kernel)) rfl
theorem xm_2 : Cond.initialized "java/util/AbstractCollection" ∈ xk_T := xk_in (List.mem_of_getElem? (i := 35) (by decide +kernel)) rfl
theorem xm_3 : Cond.initialized "java/util/AbstractList" ∈ xk_T := xk_in (List.mem_of_getElem? (i := 36) (by decide +kernel)) rfl
theorem xm_4 : Cond.initialized "java/util/ArrayList" ∈ xk_T := xk_in (List.mem_of_getElem? (i := 37) (by decide +kernel)) rfl
theorem xm_5 : Cond.initialized "Clickbook$JoinTable" ∈ xk_T := xk_in (List.mem_of_getElem? (i := 38) (by decide +kernel)) rfl
theorem xm_6 : Cond.initialized "java/lang/Throwable" ∈ xk_T := xk_in (List.mem_of_getElem? (i := 39) (by decide +kernel)) rfl
theorem xm_7 : Cond.initialized "java/lang/Exception" ∈ xk_T := xk_in (List.mem_of_getElem? (i := 40) (by decide +kernel)) rfl
theorem xm_8 : Cond.initialized "java/lang/RuntimeException" ∈ xk_T := xk_in (List.mem_of_getElem? (i := 41) (by decide +kernel)) rfl
theorem xm_9 : Cond.initialized "java/lang/IllegalArgumentException" ∈ xk_T := xk_in (List.mem_of_getElem? (i := 42) (by decide +kernel)) rfl
theorem xm_10 : Cond.initialized "java/lang/IllegalStateException" ∈ xk_T := xk_in (List.mem_of_getElem? (i := 43) (by decide +kernel)) rfl
theorem xm_11 : Cond.initialized "Clickbook$Hit" ∈ xk_T := xk_in (List.mem_of_getElem? (i := 44) (by decide +kernel)) rfl
theorem xm_12 : Cond.initialized "jdk/internal/util/ArraysSupport" ∈ xk_T := xk_in (List.mem_of_getElem? (i := 45) (by decide +kernel)) rfl
theorem xm_13 : Cond.initialized "java/lang/Math" ∈ xk_T := xk_in (List.mem_of_getElem? (i := 46) (by decide +kernel)) rfl
theorem xm_14 : Cond.initialized "java/util/Arrays" ∈ xk_T := xk_in (List.mem_of_getElem? (i := 47) (by decide +kernel)) rfl
theorem xm_15 : Cond.initialized "java/lang/System" ∈ xk_T := xk_in (List.mem_of_getElem? (i := 48) (by decide +kernel)) rfl
theorem xm_16 : Cond.initialized "java/lang/IndexOutOfBoundsException" ∈ xk_T := xk_in (List.mem_of_getElem? (i := 49) (by decide +kernel)) rfl
theorem xm_17 : Cond.initialized "Clickbook$Cue" ∈ xk_T := xk_in (List.mem_of_getElem? (i := 50) (by decide +kernel)) rfl
theorem xm_18 : Cond.initialized "java/util/Objects" ∈ xk_T := xk_in (List.mem_of_getElem? (i := 51) (by decide +kernel)) rfl
theorem xm_19 : Cond.initialized "jdk/internal/util/Preconditions" ∈ xk_T := xk_in (List.mem_of_getElem? (i := 52) (by decide +kernel)) rfl
theorem xm_20 : Cond.initialized "Clickbook$Take" ∈ xk_T := xk_in (List.mem_of_getElem? (i := 53) (by decide +kernel)) rfl
theorem xm_21 : Cond.classLink "ClickbookLaw" 9 "Clickbook" ∈ xk_T := xk_in (List.mem_of_getElem? (i := 54) (by decide +kernel)) rfl
theorem xm_22 : Cond.instantiable "Clickbook" 13 ∈ xk_T := xk_in (List.mem_of_getElem? (i := 55) (by decide +kernel)) rfl
theorem xm_23 : Cond.methodLink "ClickbookLaw" 11 ⟨"Clickbook", "<init>", "()V"⟩ ∈ xk_T := xk_in (List.mem_of_getElem? (i := 56) (by decide +kernel)) rfl
theorem xm_24 : Cond.instanceMethod ⟨"Clickbook", "<init>", "()V"⟩ ∈ xk_T := xk_in (List.mem_of_getElem? (i := 57) (by decide +kernel)) rfl
theorem xm_25 : Cond.code ⟨"Clickbook", "<init>", "()V"⟩ prog_1_method_1_code 1 (Option.none : Option FieldType) ∈ xk_T := xk_in (List.mem_of_getElem? (i := 58) (by decide +kernel)) rfl
theorem xm_26 : Cond.methodLink "Clickbook" 3 ⟨"java/lang/Object", "<init>", "()V"⟩ ∈ xk_T := xk_in (List.mem_of_getElem? (i := 59) (by decide +kernel)) rfl
theorem xm_27 : Cond.instanceMethod ⟨"java/lang/Object", "<init>", "()V"⟩ ∈ xk_T := xk_in (List.mem_of_getElem? (i := 60) (by decide +kernel)) rfl
theorem xm_28 : Cond.code ⟨"java/lang/Object", "<init>", "()V"⟩ object_method_1_code 1 (Option.none : Option FieldType) ∈ xk_T := xk_in (List.mem_of_getElem? (i := 61) (by decide +kernel)) rfl
theorem xm_29 : Cond.classLink "Clickbook" 9 "java/util/ArrayList" ∈ xk_T := xk_in (List.mem_of_getElem? (i := 62) (by decide +kernel)) rfl
theorem xm_30 : Cond.instantiable "java/util/ArrayList" 3 ∈ xk_T := xk_in (List.mem_of_getElem? (i := 63) (by decide +kernel)) rfl
theorem xm_31 : Cond.methodLink "Clickbook" 11 ⟨"java/util/ArrayList", "<init>", "()V"⟩ ∈ xk_T := xk_in (List.mem_of_getElem? (i := 64) (by decide +kernel)) rfl
theorem xm_32 : Cond.instanceMethod ⟨"java/util/ArrayList", "<init>", "()V"⟩ ∈ xk_T := xk_in (List.mem_of_getElem? (i := 65) (by decide +kernel)) rfl
theorem xm_33 : Cond.code ⟨"java/util/ArrayList", "<init>", "()V"⟩ prog_25_method_2_code 1 (Option.none : Option FieldType) ∈ xk_T := xk_in (List.mem_of_getElem? (i := 66) (by decide +kernel)) rfl
theorem xm_34 : Cond.methodLink "java/util/ArrayList" 1 ⟨"java/util/AbstractList", "<init>", "()V"⟩ ∈ xk_T := xk_in (List.mem_of_getElem? (i := 67) (by decide +kernel)) rfl
theorem xm_35 : Cond.instanceMethod ⟨"java/util/AbstractList", "<init>", "()V"⟩ ∈ xk_T := xk_in (List.mem_of_getElem? (i := 68) (by decide +kernel)) rfl
theorem xm_36 : Cond.code ⟨"java/util/AbstractList", "<init>", "()V"⟩ prog_24_method_1_code 1 (Option.none : Option FieldType) ∈ xk_T := xk_in (List.mem_of_getElem? (i := 69) (by decide +kernel)) rfl
theorem xm_37 : Cond.methodLink "java/util/AbstractList" 1 ⟨"java/util/AbstractCollection", "<init>", "()V"⟩ ∈ xk_T := xk_in (List.mem_of_getElem? (i := 70) (by decide +kernel)) rfl
theorem xm_38 : Cond.instanceMethod ⟨"java/util/AbstractCollection", "<init>", "()V"⟩ ∈ xk_T := xk_in (List.mem_of_getElem? (i := 71) (by decide +kernel)) rfl
theorem xm_39 : Cond.code ⟨"java/util/AbstractCollection", "<init>", "()V"⟩ prog_23_method_1_code 1 (Option.none : Option FieldType) ∈ xk_T := xk_in (List.mem_of_getElem? (i := 72) (by decide +kernel)) rfl
theorem xm_40 : Cond.methodLink "java/util/AbstractCollection" 1 ⟨"java/lang/Object", "<init>", "()V"⟩ ∈ xk_T := xk_in (List.mem_of_getElem? (i := 73) (by decide +kernel)) rfl
theorem xm_41 : Cond.fieldLink "java/util/ArrayList" 39 "java/util/ArrayList" "DEFAULTCAPACITY_EMPTY_ELEMENTDATA" "[Ljava/lang/Object;" ∈ xk_T := xk_in (List.mem_of_getElem? (i := 74) (by decide +kernel)) rfl
theorem xm_42 : Cond.laysStatic "java/util/ArrayList" "DEFAULTCAPACITY_EMPTY_ELEMENTDATA" "[Ljava/lang/Object;" ∈ lw_tbl := List.mem_of_getElem? (i := 75) (by decide +kernel)
theorem xm_43 : Cond.fieldLink "java/util/ArrayList" 9 "java/util/ArrayList" "elementData" "[Ljava/lang/Object;" ∈ xk_T := xk_in (List.mem_of_getElem? (i := 76) (by decide +kernel)) rfl
theorem xm_44 : Cond.fieldLink "java/util/ArrayList" 48 "java/util/ArrayList" "size" "I" ∈ xk_T := xk_in (List.mem_of_getElem? (i := 77) (by decide +kernel)) rfl
theorem xm_45 : Cond.fieldLink "java/util/AbstractList" 7 "java/util/AbstractList" "modCount" "I" ∈ xk_T := xk_in (List.mem_of_getElem? (i := 78) (by decide +kernel)) rfl
theorem xm_46 : Cond.fieldLink "java/util/ArrayList" 63 "java/util/ArrayList" "modCount" "I" ∈ xk_T := xk_in (List.mem_of_getElem? (i := 79) (by decide +kernel)) rfl
theorem xm_47 : Cond.sameField "java/util/ArrayList" "java/util/AbstractList" "modCount" "I" ∈ xk_T := xk_in (List.mem_of_getElem? (i := 80) (by decide +kernel)) rfl
theorem xm_54 : Cond.superclass "java/util/ArrayList" "java/util/AbstractList" ∈ xk_T := xk_in (List.mem_of_getElem? (i := 87) (by decide +kernel)) rfl
theorem xm_55 : Cond.classLink "Clickbook" 30 "Clickbook$JoinTable" ∈ xk_T := xk_in (List.mem_of_getElem? (i := 88) (by decide +kernel)) rfl
theorem xm_56 : Cond.instantiable "Clickbook$JoinTable" 3 ∈ xk_T := xk_in (List.mem_of_getElem? (i := 89) (by decide +kernel)) rfl
theorem xm_57 : Cond.methodLink "Clickbook" 32 ⟨"Clickbook$JoinTable", "<init>", "()V"⟩ ∈ xk_T := xk_in (List.mem_of_getElem? (i := 90) (by decide +kernel)) rfl
theorem xm_58 : Cond.instanceMethod ⟨"Clickbook$JoinTable", "<init>", "()V"⟩ ∈ xk_T := xk_in (List.mem_of_getElem? (i := 91) (by decide +kernel)) rfl
theorem xm_59 : Cond.code ⟨"Clickbook$JoinTable", "<init>", "()V"⟩ prog_4_method_1_code 1 (Option.none : Option FieldType) ∈ xk_T := xk_in (List.mem_of_getElem? (i := 92) (by decide +kernel)) rfl
theorem xm_60 : Cond.methodLink "Clickbook$JoinTable" 3 ⟨"java/lang/Object", "<init>", "()V"⟩ ∈ xk_T := xk_in (List.mem_of_getElem? (i := 93) (by decide +kernel)) rfl
theorem xm_61 : Cond.classLink "Clickbook$JoinTable" 9 "java/util/ArrayList" ∈ xk_T := xk_in (List.mem_of_getElem? (i := 94) (by decide +kernel)) rfl
theorem xm_62 : Cond.methodLink "Clickbook$JoinTable" 11 ⟨"java/util/ArrayList", "<init>", "()V"⟩ ∈ xk_T := xk_in (List.mem_of_getElem? (i := 95) (by decide +kernel)) rfl
theorem xm_63 : Cond.fieldLink "Clickbook$JoinTable" 12 "Clickbook$JoinTable" "pool" "Ljava/util/ArrayList;" ∈ xk_T := xk_in (List.mem_of_getElem? (i := 96) (by decide +kernel)) rfl
theorem xm_64 : Cond.fieldLink "Clickbook$JoinTable" 28 "Clickbook$JoinTable" "bars" "I" ∈ xk_T := xk_in (List.mem_of_getElem? (i := 97) (by decide +kernel)) rfl
theorem xm_65 : Cond.fieldLink "Clickbook$JoinTable" 18 "Clickbook$JoinTable" "worths" "[I" ∈ xk_T := xk_in (List.mem_of_getElem? (i := 98) (by decide +kernel)) rfl
theorem xm_72 : Cond.superclass "Clickbook$JoinTable" "java/lang/Object" ∈ xk_T := xk_in (List.mem_of_getElem? (i := 105) (by decide +kernel)) rfl
theorem xm_73 : Cond.arrayClass .int ∈ xk_T := xk_in (List.mem_of_getElem? (i := 106) (by decide +kernel)) rfl
theorem xm_74 : Cond.fieldLink "Clickbook" 12 "Clickbook" "hits" "Ljava/util/ArrayList;" ∈ xk_T := xk_in (List.mem_of_getElem? (i := 107) (by decide +kernel)) rfl
theorem xm_75 : Cond.fieldLink "Clickbook" 16 "Clickbook" "reveals" "[I" ∈ xk_T := xk_in (List.mem_of_getElem? (i := 108) (by decide +kernel)) rfl
theorem xm_76 : Cond.fieldLink "Clickbook" 71 "Clickbook" "themeCount" "I" ∈ xk_T := xk_in (List.mem_of_getElem? (i := 109) (by decide +kernel)) rfl
theorem xm_77 : Cond.fieldLink "Clickbook" 20 "Clickbook" "cues" "Ljava/util/ArrayList;" ∈ xk_T := xk_in (List.mem_of_getElem? (i := 110) (by decide +kernel)) rfl
theorem xm_78 : Cond.fieldLink "Clickbook" 23 "Clickbook" "takes" "Ljava/util/ArrayList;" ∈ xk_T := xk_in (List.mem_of_getElem? (i := 111) (by decide +kernel)) rfl
theorem xm_79 : Cond.fieldLink "Clickbook" 26 "Clickbook" "length" "I" ∈ xk_T := xk_in (List.mem_of_getElem? (i := 112) (by decide +kernel)) rfl
theorem xm_80 : Cond.fieldLink "Clickbook" 79 "Clickbook" "version" "I" ∈ xk_T := xk_in (List.mem_of_getElem? (i := 113) (by decide +kernel)) rfl
theorem xm_81 : Cond.fieldLink "Clickbook" 172 "Clickbook" "band" "I" ∈ xk_T := xk_in (List.mem_of_getElem? (i := 114) (by decide +kernel)) rfl
theorem xm_82 : Cond.fieldLink "Clickbook" 193 "Clickbook" "time" "I" ∈ xk_T := xk_in (List.mem_of_getElem? (i := 115) (by decide +kernel)) rfl
theorem xm_83 : Cond.fieldLink "Clickbook" 210 "Clickbook" "costs" "I" ∈ xk_T := xk_in (List.mem_of_getElem? (i := 116) (by decide +kernel)) rfl
theorem xm_84 : Cond.fieldLink "Clickbook" 33 "Clickbook" "joins" "LClickbook$JoinTable;" ∈ xk_T := xk_in (List.mem_of_getElem? (i := 117) (by decide +kernel)) rfl
theorem xm_85 : Cond.fieldLink "Clickbook" 37 "Clickbook" "trialOffsets" "[I" ∈ xk_T := xk_in (List.mem_of_getElem? (i := 118) (by decide +kernel)) rfl
theorem xm_86 : Cond.fieldLink "Clickbook" 40 "Clickbook" "metByOthers" "[Z" ∈ xk_T := xk_in (List.mem_of_getElem? (i := 119) (by decide +kernel)) rfl
theorem xm_113 : Cond.superclass "Clickbook" "java/lang/Object" ∈ xk_T := xk_in (List.mem_of_getElem? (i := 146) (by decide +kernel)) rfl
theorem xm_114 : Cond.arrayClass .boolean ∈ xk_T := xk_in (List.mem_of_getElem? (i := 147) (by decide +kernel)) rfl
theorem xm_115 : Cond.methodLink "ClickbookLaw" 26 ⟨"Clickbook", "hit", "(II)I"⟩ ∈ xk_T := xk_in (List.mem_of_getElem? (i := 148) (by decide +kernel)) rfl
theorem xm_116 : Cond.instanceMethod ⟨"Clickbook", "hit", "(II)I"⟩ ∈ xk_T := xk_in (List.mem_of_getElem? (i := 149) (by decide +kernel)) rfl
theorem xm_117 : Cond.selects "Clickbook" ⟨"Clickbook", "hit", "(II)I"⟩ ⟨"Clickbook", "hit", "(II)I"⟩ ∈ xk_T := xk_in (List.mem_of_getElem? (i := 150) (by decide +kernel)) rfl
theorem xm_118 : Cond.code ⟨"Clickbook", "hit", "(II)I"⟩ prog_1_method_2_code 3 (Option.some .int) ∈ xk_T := xk_in (List.mem_of_getElem? (i := 151) (by decide +kernel)) rfl
theorem xm_119 : Cond.classLink "Clickbook" 44 "java/lang/IllegalArgumentException" ∈ xk_T := xk_in (List.mem_of_getElem? (i := 152) (by decide +kernel)) rfl
theorem xm_120 : Cond.instantiable "java/lang/IllegalArgumentException" 6 ∈ xk_T := xk_in (List.mem_of_getElem? (i := 153) (by decide +kernel)) rfl
theorem xm_121 : Cond.castable "java/lang/IllegalArgumentException" "java/lang/IllegalArgumentException" ∈ lw_tbl := List.mem_of_getElem? (i := 154) (by decide +kernel)
theorem xm_122 : Cond.declares ⟨"java/lang/RuntimeException", "<init>", "()V"⟩ ∈ lw_tbl := List.mem_of_getElem? (i := 155) (by decide +kernel)
theorem xm_123 : Cond.declares ⟨"java/lang/RuntimeException", "<init>", "(Ljava/lang/String;)V"⟩ ∈ lw_tbl := List.mem_of_getElem? (i := 156) (by decide +kernel)
theorem xm_124 : Cond.declares ⟨"java/lang/Exception", "<init>", "()V"⟩ ∈ lw_tbl := List.mem_of_getElem? (i := 157) (by decide +kernel)
theorem xm_125 : Cond.declares ⟨"java/lang/Exception", "<init>", "(Ljava/lang/String;)V"⟩ ∈ lw_tbl := List.mem_of_getElem? (i := 158) (by decide +kernel)
theorem xm_126 : Cond.declares ⟨"java/lang/Throwable", "<init>", "()V"⟩ ∈ lw_tbl := List.mem_of_getElem? (i := 159) (by decide +kernel)
theorem xm_127 : Cond.declares ⟨"java/lang/Throwable", "<init>", "(Ljava/lang/String;)V"⟩ ∈ lw_tbl := List.mem_of_getElem? (i := 160) (by decide +kernel)
theorem xm_128 : Cond.selects "java/lang/IllegalArgumentException" ⟨"java/lang/Throwable", "fillInStackTrace", "(I)Ljava/lang/Throwable;"⟩ ⟨"java/lang/Throwable", "fillInStackTrace", "(I)Ljava/lang/Throwable;"⟩ ∈ xk_T := xk_in (List.mem_of_getElem? (i := 161) (by decide +kernel)) rfl
theorem xm_129 : Cond.selects "java/lang/IllegalArgumentException" ⟨"java/lang/Throwable", "fillInStackTrace", "()Ljava/lang/Throwable;"⟩ ⟨"java/lang/Throwable", "fillInStackTrace", "()Ljava/lang/Throwable;"⟩ ∈ xk_T := xk_in (List.mem_of_getElem? (i := 162) (by decide +kernel)) rfl
theorem xm_140 : Cond.fieldLink "java/lang/Throwable" 198 "java/lang/Throwable" "backtrace" "Ljava/lang/Object;" ∈ xk_T := xk_in (List.mem_of_getElem? (i := 173) (by decide +kernel)) rfl
theorem xm_141 : Cond.superclass "java/lang/Throwable" "java/lang/Object" ∈ xk_T := xk_in (List.mem_of_getElem? (i := 174) (by decide +kernel)) rfl
theorem xm_142 : Cond.instanceMethod ⟨"java/lang/Throwable", "<init>", "()V"⟩ ∈ xk_T := xk_in (List.mem_of_getElem? (i := 175) (by decide +kernel)) rfl
theorem xm_143 : Cond.code ⟨"java/lang/Throwable", "<init>", "()V"⟩ prog_22_method_1_code 1 (Option.none : Option FieldType) ∈ xk_T := xk_in (List.mem_of_getElem? (i := 176) (by decide +kernel)) rfl
theorem xm_144 : Cond.methodLink "java/lang/Throwable" 1 ⟨"java/lang/Object", "<init>", "()V"⟩ ∈ xk_T := xk_in (List.mem_of_getElem? (i := 177) (by decide +kernel)) rfl
theorem xm_145 : Cond.fieldLink "java/lang/Throwable" 13 "java/lang/Throwable" "UNASSIGNED_STACK" "[Ljava/lang/StackTraceElement;" ∈ xk_T := xk_in (List.mem_of_getElem? (i := 178) (by decide +kernel)) rfl
theorem xm_146 : Cond.laysStatic "java/lang/Throwable" "UNASSIGNED_STACK" "[Ljava/lang/StackTraceElement;" ∈ lw_tbl := List.mem_of_getElem? (i := 179) (by decide +kernel)
theorem xm_147 : Cond.fieldLink "java/lang/Throwable" 20 "java/lang/Throwable" "SUPPRESSED_SENTINEL" "Ljava/util/List;" ∈ xk_T := xk_in (List.mem_of_getElem? (i := 180) (by decide +kernel)) rfl
theorem xm_148 : Cond.laysStatic "java/lang/Throwable" "SUPPRESSED_SENTINEL" "Ljava/util/List;" ∈ lw_tbl := List.mem_of_getElem? (i := 181) (by decide +kernel)
theorem xm_149 : Cond.methodLink "java/lang/Throwable" 27 ⟨"java/lang/Throwable", "fillInStackTrace", "()Ljava/lang/Throwable;"⟩ ∈ xk_T := xk_in (List.mem_of_getElem? (i := 182) (by decide +kernel)) rfl
theorem xm_150 : Cond.instanceMethod ⟨"java/lang/Throwable", "fillInStackTrace", "()Ljava/lang/Throwable;"⟩ ∈ xk_T := xk_in (List.mem_of_getElem? (i := 183) (by decide +kernel)) rfl
theorem xm_151 : Cond.sameMethod "java/lang/Throwable" "java/lang/Throwable" "fillInStackTrace" "()Ljava/lang/Throwable;" ∈ xk_T := xk_in (List.mem_of_getElem? (i := 184) (by decide +kernel)) rfl
theorem xm_152 : Cond.selects "java/lang/IllegalStateException" ⟨"java/lang/Throwable", "fillInStackTrace", "()Ljava/lang/Throwable;"⟩ ⟨"java/lang/Throwable", "fillInStackTrace", "()Ljava/lang/Throwable;"⟩ ∈ xk_T := xk_in (List.mem_of_getElem? (i := 185) (by decide +kernel)) rfl
theorem xm_153 : Cond.selects "java/lang/IndexOutOfBoundsException" ⟨"java/lang/Throwable", "fillInStackTrace", "()Ljava/lang/Throwable;"⟩ ⟨"java/lang/Throwable", "fillInStackTrace", "()Ljava/lang/Throwable;"⟩ ∈ xk_T := xk_in (List.mem_of_getElem? (i := 186) (by decide +kernel)) rfl
theorem xm_155 : Cond.methodLink "java/lang/Throwable" 202 ⟨"java/lang/Throwable", "fillInStackTrace", "(I)Ljava/lang/Throwable;"⟩ ∈ xk_T := xk_in (List.mem_of_getElem? (i := 188) (by decide +kernel)) rfl
theorem xm_157 : Cond.instanceMethod ⟨"java/lang/Throwable", "fillInStackTrace", "(I)Ljava/lang/Throwable;"⟩ ∈ xk_T := xk_in (List.mem_of_getElem? (i := 190) (by decide +kernel)) rfl
theorem xm_158 : Cond.instantiable "java/lang/Throwable" 6 ∈ xk_T := xk_in (List.mem_of_getElem? (i := 191) (by decide +kernel)) rfl
theorem xm_159 : Cond.native ⟨"java/lang/Throwable", "fillInStackTrace", "(I)Ljava/lang/Throwable;"⟩ ∈ xk_T := xk_in (List.mem_of_getElem? (i := 192) (by decide +kernel)) rfl
theorem xm_161 : Cond.methodLink "Clickbook" 48 ⟨"java/lang/IllegalArgumentException", "<init>", "(Ljava/lang/String;)V"⟩ ∈ xk_T := xk_in (List.mem_of_getElem? (i := 194) (by decide +kernel)) rfl
theorem xm_162 : Cond.instanceMethod ⟨"java/lang/IllegalArgumentException", "<init>", "(Ljava/lang/String;)V"⟩ ∈ xk_T := xk_in (List.mem_of_getElem? (i := 195) (by decide +kernel)) rfl
theorem xm_163 : Cond.code ⟨"java/lang/IllegalArgumentException", "<init>", "(Ljava/lang/String;)V"⟩ prog_14_method_2_code 2 (Option.none : Option FieldType) ∈ xk_T := xk_in (List.mem_of_getElem? (i := 196) (by decide +kernel)) rfl
theorem xm_164 : Cond.methodLink "java/lang/IllegalArgumentException" 7 ⟨"java/lang/RuntimeException", "<init>", "(Ljava/lang/String;)V"⟩ ∈ xk_T := xk_in (List.mem_of_getElem? (i := 197) (by decide +kernel)) rfl
theorem xm_165 : Cond.instanceMethod ⟨"java/lang/RuntimeException", "<init>", "(Ljava/lang/String;)V"⟩ ∈ xk_T := xk_in (List.mem_of_getElem? (i := 198) (by decide +kernel)) rfl
theorem xm_166 : Cond.code ⟨"java/lang/RuntimeException", "<init>", "(Ljava/lang/String;)V"⟩ prog_19_method_2_code 2 (Option.none : Option FieldType) ∈ xk_T := xk_in (List.mem_of_getElem? (i := 199) (by decide +kernel)) rfl
theorem xm_167 : Cond.methodLink "java/lang/RuntimeException" 7 ⟨"java/lang/Exception", "<init>", "(Ljava/lang/String;)V"⟩ ∈ xk_T := xk_in (List.mem_of_getElem? (i := 200) (by decide +kernel)) rfl
theorem xm_168 : Cond.instanceMethod ⟨"java/lang/Exception", "<init>", "(Ljava/lang/String;)V"⟩ ∈ xk_T := xk_in (List.mem_of_getElem? (i := 201) (by decide +kernel)) rfl
theorem xm_169 : Cond.code ⟨"java/lang/Exception", "<init>", "(Ljava/lang/String;)V"⟩ prog_13_method_2_code 2 (Option.none : Option FieldType) ∈ xk_T := xk_in (List.mem_of_getElem? (i := 202) (by decide +kernel)) rfl
theorem xm_170 : Cond.methodLink "java/lang/Exception" 7 ⟨"java/lang/Throwable", "<init>", "(Ljava/lang/String;)V"⟩ ∈ xk_T := xk_in (List.mem_of_getElem? (i := 203) (by decide +kernel)) rfl
theorem xm_171 : Cond.instanceMethod ⟨"java/lang/Throwable", "<init>", "(Ljava/lang/String;)V"⟩ ∈ xk_T := xk_in (List.mem_of_getElem? (i := 204) (by decide +kernel)) rfl
theorem xm_172 : Cond.code ⟨"java/lang/Throwable", "<init>", "(Ljava/lang/String;)V"⟩ prog_22_method_2_code 2 (Option.none : Option FieldType) ∈ xk_T := xk_in (List.mem_of_getElem? (i := 205) (by decide +kernel)) rfl
theorem xm_173 : Cond.fieldLink "java/lang/Throwable" 198 "java/lang/Throwable" "backtrace" "Ljava/lang/Object;" ∈ xk_T := xk_in (List.mem_of_getElem? (i := 206) (by decide +kernel)) rfl
theorem xm_174 : Cond.fieldLink "java/lang/Throwable" 31 "java/lang/Throwable" "detailMessage" "Ljava/lang/String;" ∈ xk_T := xk_in (List.mem_of_getElem? (i := 207) (by decide +kernel)) rfl
theorem xm_175 : Cond.fieldLink "java/lang/Throwable" 7 "java/lang/Throwable" "cause" "Ljava/lang/Throwable;" ∈ xk_T := xk_in (List.mem_of_getElem? (i := 208) (by decide +kernel)) rfl
theorem xm_176 : Cond.fieldLink "java/lang/Throwable" 17 "java/lang/Throwable" "stackTrace" "[Ljava/lang/StackTraceElement;" ∈ xk_T := xk_in (List.mem_of_getElem? (i := 209) (by decide +kernel)) rfl
theorem xm_177 : Cond.fieldLink "java/lang/Throwable" 24 "java/lang/Throwable" "suppressedExceptions" "Ljava/util/List;" ∈ xk_T := xk_in (List.mem_of_getElem? (i := 210) (by decide +kernel)) rfl
theorem xm_185 : Cond.superclass "java/lang/IllegalArgumentException" "java/lang/RuntimeException" ∈ xk_T := xk_in (List.mem_of_getElem? (i := 218) (by decide +kernel)) rfl
theorem xm_186 : Cond.arrayClass .byte ∈ xk_T := xk_in (List.mem_of_getElem? (i := 219) (by decide +kernel)) rfl
theorem xm_187 : Cond.methodLink "Clickbook" 51 ⟨"java/util/ArrayList", "size", "()I"⟩ ∈ xk_T := xk_in (List.mem_of_getElem? (i := 220) (by decide +kernel)) rfl
theorem xm_188 : Cond.instanceMethod ⟨"java/util/ArrayList", "size", "()I"⟩ ∈ xk_T := xk_in (List.mem_of_getElem? (i := 221) (by decide +kernel)) rfl
theorem xm_189 : Cond.selects "java/util/ArrayList" ⟨"java/util/ArrayList", "size", "()I"⟩ ⟨"java/util/ArrayList", "size", "()I"⟩ ∈ xk_T := xk_in (List.mem_of_getElem? (i := 222) (by decide +kernel)) rfl
theorem xm_190 : Cond.code ⟨"java/util/ArrayList", "size", "()I"⟩ prog_25_method_8_code 1 (Option.some .int) ∈ xk_T := xk_in (List.mem_of_getElem? (i := 223) (by decide +kernel)) rfl
theorem xm_191 : Cond.classLink "Clickbook" 55 "java/lang/IllegalStateException" ∈ xk_T := xk_in (List.mem_of_getElem? (i := 224) (by decide +kernel)) rfl
theorem xm_192 : Cond.instantiable "java/lang/IllegalStateException" 6 ∈ xk_T := xk_in (List.mem_of_getElem? (i := 225) (by decide +kernel)) rfl
theorem xm_193 : Cond.castable "java/lang/IllegalStateException" "java/lang/IllegalStateException" ∈ lw_tbl := List.mem_of_getElem? (i := 226) (by decide +kernel)
theorem xm_194 : Cond.selects "java/lang/IllegalStateException" ⟨"java/lang/Throwable", "fillInStackTrace", "(I)Ljava/lang/Throwable;"⟩ ⟨"java/lang/Throwable", "fillInStackTrace", "(I)Ljava/lang/Throwable;"⟩ ∈ xk_T := xk_in (List.mem_of_getElem? (i := 227) (by decide +kernel)) rfl
theorem xm_201 : Cond.methodLink "Clickbook" 59 ⟨"java/lang/IllegalStateException", "<init>", "(Ljava/lang/String;)V"⟩ ∈ xk_T := xk_in (List.mem_of_getElem? (i := 234) (by decide +kernel)) rfl
theorem xm_202 : Cond.instanceMethod ⟨"java/lang/IllegalStateException", "<init>", "(Ljava/lang/String;)V"⟩ ∈ xk_T := xk_in (List.mem_of_getElem? (i := 235) (by decide +kernel)) rfl
theorem xm_203 : Cond.code ⟨"java/lang/IllegalStateException", "<init>", "(Ljava/lang/String;)V"⟩ prog_15_method_2_code 2 (Option.none : Option FieldType) ∈ xk_T := xk_in (List.mem_of_getElem? (i := 236) (by decide +kernel)) rfl
theorem xm_204 : Cond.methodLink "java/lang/IllegalStateException" 7 ⟨"java/lang/RuntimeException", "<init>", "(Ljava/lang/String;)V"⟩ ∈ xk_T := xk_in (List.mem_of_getElem? (i := 237) (by decide +kernel)) rfl
theorem xm_206 : Cond.superclass "java/lang/IllegalStateException" "java/lang/RuntimeException" ∈ xk_T := xk_in (List.mem_of_getElem? (i := 239) (by decide +kernel)) rfl
theorem xm_207 : Cond.classLink "Clickbook" 60 "Clickbook$Hit" ∈ xk_T := xk_in (List.mem_of_getElem? (i := 240) (by decide +kernel)) rfl
theorem xm_208 : Cond.instantiable "Clickbook$Hit" 3 ∈ xk_T := xk_in (List.mem_of_getElem? (i := 241) (by decide +kernel)) rfl
theorem xm_209 : Cond.methodLink "Clickbook" 62 ⟨"Clickbook$Hit", "<init>", "(II)V"⟩ ∈ xk_T := xk_in (List.mem_of_getElem? (i := 242) (by decide +kernel)) rfl
theorem xm_210 : Cond.instanceMethod ⟨"Clickbook$Hit", "<init>", "(II)V"⟩ ∈ xk_T := xk_in (List.mem_of_getElem? (i := 243) (by decide +kernel)) rfl
theorem xm_211 : Cond.code ⟨"Clickbook$Hit", "<init>", "(II)V"⟩ prog_3_method_1_code 3 (Option.none : Option FieldType) ∈ xk_T := xk_in (List.mem_of_getElem? (i := 244) (by decide +kernel)) rfl
theorem xm_212 : Cond.methodLink "Clickbook$Hit" 1 ⟨"java/lang/Object", "<init>", "()V"⟩ ∈ xk_T := xk_in (List.mem_of_getElem? (i := 245) (by decide +kernel)) rfl
theorem xm_213 : Cond.fieldLink "Clickbook$Hit" 7 "Clickbook$Hit" "frame" "I" ∈ xk_T := xk_in (List.mem_of_getElem? (i := 246) (by decide +kernel)) rfl
theorem xm_214 : Cond.fieldLink "Clickbook" 215 "Clickbook$Hit" "frame" "I" ∈ xk_T := xk_in (List.mem_of_getElem? (i := 247) (by decide +kernel)) rfl
theorem xm_215 : Cond.fieldLink "Clickbook$Hit" 13 "Clickbook$Hit" "tolerance" "I" ∈ xk_T := xk_in (List.mem_of_getElem? (i := 248) (by decide +kernel)) rfl
theorem xm_216 : Cond.fieldLink "Clickbook" 218 "Clickbook$Hit" "tolerance" "I" ∈ xk_T := xk_in (List.mem_of_getElem? (i := 249) (by decide +kernel)) rfl
theorem xm_217 : Cond.fieldLink "Clickbook$Hit" 16 "Clickbook$Hit" "gone" "Z" ∈ xk_T := xk_in (List.mem_of_getElem? (i := 250) (by decide +kernel)) rfl
theorem xm_218 : Cond.fieldLink "Clickbook" 221 "Clickbook$Hit" "gone" "Z" ∈ xk_T := xk_in (List.mem_of_getElem? (i := 251) (by decide +kernel)) rfl
theorem xm_225 : Cond.superclass "Clickbook$Hit" "java/lang/Object" ∈ xk_T := xk_in (List.mem_of_getElem? (i := 258) (by decide +kernel)) rfl
theorem xm_226 : Cond.methodLink "Clickbook" 65 ⟨"java/util/ArrayList", "add", "(Ljava/lang/Object;)Z"⟩ ∈ xk_T := xk_in (List.mem_of_getElem? (i := 259) (by decide +kernel)) rfl
theorem xm_227 : Cond.instanceMethod ⟨"java/util/ArrayList", "add", "(Ljava/lang/Object;)Z"⟩ ∈ xk_T := xk_in (List.mem_of_getElem? (i := 260) (by decide +kernel)) rfl
theorem xm_228 : Cond.selects "java/util/ArrayList" ⟨"java/util/ArrayList", "add", "(Ljava/lang/Object;)Z"⟩ ⟨"java/util/ArrayList", "add", "(Ljava/lang/Object;)Z"⟩ ∈ xk_T := xk_in (List.mem_of_getElem? (i := 261) (by decide +kernel)) rfl
theorem xm_229 : Cond.code ⟨"java/util/ArrayList", "add", "(Ljava/lang/Object;)Z"⟩ prog_25_method_25_code 2 (Option.some .boolean) ∈ xk_T := xk_in (List.mem_of_getElem? (i := 262) (by decide +kernel)) rfl
theorem xm_230 : Cond.methodLink "java/util/ArrayList" 131 ⟨"java/util/ArrayList", "add", "(Ljava/lang/Object;[Ljava/lang/Object;I)V"⟩ ∈ xk_T := xk_in (List.mem_of_getElem? (i := 263) (by decide +kernel)) rfl
theorem xm_232 : Cond.instanceMethod ⟨"java/util/ArrayList", "add", "(Ljava/lang/Object;[Ljava/lang/Object;I)V"⟩ ∈ xk_T := xk_in (List.mem_of_getElem? (i := 265) (by decide +kernel)) rfl
theorem xm_233 : Cond.code ⟨"java/util/ArrayList", "add", "(Ljava/lang/Object;[Ljava/lang/Object;I)V"⟩ prog_25_method_24_code 4 (Option.none : Option FieldType) ∈ xk_T := xk_in (List.mem_of_getElem? (i := 266) (by decide +kernel)) rfl
theorem xm_234 : Cond.methodLink "java/util/ArrayList" 129 ⟨"java/util/ArrayList", "grow", "()[Ljava/lang/Object;"⟩ ∈ xk_T := xk_in (List.mem_of_getElem? (i := 267) (by decide +kernel)) rfl
theorem xm_236 : Cond.instanceMethod ⟨"java/util/ArrayList", "grow", "()[Ljava/lang/Object;"⟩ ∈ xk_T := xk_in (List.mem_of_getElem? (i := 269) (by decide +kernel)) rfl
theorem xm_237 : Cond.code ⟨"java/util/ArrayList", "grow", "()[Ljava/lang/Object;"⟩ prog_25_method_7_code 1 (Option.some (.array (.object "java/lang/Object"))) ∈ xk_T := xk_in (List.mem_of_getElem? (i := 270) (by decide +kernel)) rfl
theorem xm_238 : Cond.methodLink "java/util/ArrayList" 69 ⟨"java/util/ArrayList", "grow", "(I)[Ljava/lang/Object;"⟩ ∈ xk_T := xk_in (List.mem_of_getElem? (i := 271) (by decide +kernel)) rfl
theorem xm_240 : Cond.instanceMethod ⟨"java/util/ArrayList", "grow", "(I)[Ljava/lang/Object;"⟩ ∈ xk_T := xk_in (List.mem_of_getElem? (i := 273) (by decide +kernel)) rfl
theorem xm_241 : Cond.code ⟨"java/util/ArrayList", "grow", "(I)[Ljava/lang/Object;"⟩ prog_25_method_6_code 4 (Option.some (.array (.object "java/lang/Object"))) ∈ xk_T := xk_in (List.mem_of_getElem? (i := 274) (by decide +kernel)) rfl
theorem xm_242 : Cond.methodLink "java/util/ArrayList" 73 ⟨"jdk/internal/util/ArraysSupport", "newLength", "(III)I"⟩ ∈ xk_T := xk_in (List.mem_of_getElem? (i := 275) (by decide +kernel)) rfl
theorem xm_243 : Cond.static ⟨"jdk/internal/util/ArraysSupport", "newLength", "(III)I"⟩ ∈ xk_T := xk_in (List.mem_of_getElem? (i := 276) (by decide +kernel)) rfl
theorem xm_244 : Cond.code ⟨"jdk/internal/util/ArraysSupport", "newLength", "(III)I"⟩ prog_32_method_27_code 4 (Option.some .int) ∈ xk_T := xk_in (List.mem_of_getElem? (i := 277) (by decide +kernel)) rfl
theorem xm_245 : Cond.methodLink "jdk/internal/util/ArraysSupport" 194 ⟨"java/lang/Math", "max", "(II)I"⟩ ∈ xk_T := xk_in (List.mem_of_getElem? (i := 278) (by decide +kernel)) rfl
theorem xm_246 : Cond.static ⟨"java/lang/Math", "max", "(II)I"⟩ ∈ xk_T := xk_in (List.mem_of_getElem? (i := 279) (by decide +kernel)) rfl
theorem xm_247 : Cond.code ⟨"java/lang/Math", "max", "(II)I"⟩ prog_18_method_65_code 2 (Option.some .int) ∈ xk_T := xk_in (List.mem_of_getElem? (i := 280) (by decide +kernel)) rfl
theorem xm_248 : Cond.constant "jdk/internal/util/ArraysSupport" 200 2147483639 ∈ xk_T := xk_in (List.mem_of_getElem? (i := 281) (by decide +kernel)) rfl
theorem xm_249 : Cond.methodLink "jdk/internal/util/ArraysSupport" 201 ⟨"jdk/internal/util/ArraysSupport", "hugeLength", "(II)I"⟩ ∈ xk_T := xk_in (List.mem_of_getElem? (i := 282) (by decide +kernel)) rfl
theorem xm_250 : Cond.static ⟨"jdk/internal/util/ArraysSupport", "hugeLength", "(II)I"⟩ ∈ xk_T := xk_in (List.mem_of_getElem? (i := 283) (by decide +kernel)) rfl
theorem xm_251 : Cond.code ⟨"jdk/internal/util/ArraysSupport", "hugeLength", "(II)I"⟩ prog_32_method_28_code 3 (Option.some .int) ∈ xk_T := xk_in (List.mem_of_getElem? (i := 284) (by decide +kernel)) rfl
theorem xm_252 : Cond.methodLink "java/util/ArrayList" 66 ⟨"java/util/Arrays", "copyOf", "([Ljava/lang/Object;I)[Ljava/lang/Object;"⟩ ∈ xk_T := xk_in (List.mem_of_getElem? (i := 285) (by decide +kernel)) rfl
theorem xm_253 : Cond.static ⟨"java/util/Arrays", "copyOf", "([Ljava/lang/Object;I)[Ljava/lang/Object;"⟩ ∈ xk_T := xk_in (List.mem_of_getElem? (i := 286) (by decide +kernel)) rfl
theorem xm_254 : Cond.code ⟨"java/util/Arrays", "copyOf", "([Ljava/lang/Object;I)[Ljava/lang/Object;"⟩ prog_26_method_119_code 2 (Option.some (.array (.object "java/lang/Object"))) ∈ xk_T := xk_in (List.mem_of_getElem? (i := 287) (by decide +kernel)) rfl
theorem xm_255 : Cond.methodLink "java/util/Arrays" 86 ⟨"java/lang/Object", "getClass", "()Ljava/lang/Class;"⟩ ∈ xk_T := xk_in (List.mem_of_getElem? (i := 288) (by decide +kernel)) rfl
theorem xm_256 : Cond.instanceMethod ⟨"java/lang/Object", "getClass", "()Ljava/lang/Class;"⟩ ∈ xk_T := xk_in (List.mem_of_getElem? (i := 289) (by decide +kernel)) rfl
theorem xm_257 : Cond.sameMethod "java/lang/Object" "java/lang/Object" "getClass" "()Ljava/lang/Class;" ∈ xk_T := xk_in (List.mem_of_getElem? (i := 290) (by decide +kernel)) rfl
theorem xm_258 : Cond.selects "Clickbook" ⟨"java/lang/Object", "getClass", "()Ljava/lang/Class;"⟩ ⟨"java/lang/Object", "getClass", "()Ljava/lang/Class;"⟩ ∈ xk_T := xk_in (List.mem_of_getElem? (i := 291) (by decide +kernel)) rfl
theorem xm_259 : Cond.selects "Clickbook$Cue" ⟨"java/lang/Object", "getClass", "()Ljava/lang/Class;"⟩ ⟨"java/lang/Object", "getClass", "()Ljava/lang/Class;"⟩ ∈ xk_T := xk_in (List.mem_of_getElem? (i := 292) (by decide +kernel)) rfl
theorem xm_260 : Cond.selects "Clickbook$Hit" ⟨"java/lang/Object", "getClass", "()Ljava/lang/Class;"⟩ ⟨"java/lang/Object", "getClass", "()Ljava/lang/Class;"⟩ ∈ xk_T := xk_in (List.mem_of_getElem? (i := 293) (by decide +kernel)) rfl
theorem xm_261 : Cond.selects "Clickbook$JoinTable" ⟨"java/lang/Object", "getClass", "()Ljava/lang/Class;"⟩ ⟨"java/lang/Object", "getClass", "()Ljava/lang/Class;"⟩ ∈ xk_T := xk_in (List.mem_of_getElem? (i := 294) (by decide +kernel)) rfl
theorem xm_262 : Cond.selects "Clickbook$Take" ⟨"java/lang/Object", "getClass", "()Ljava/lang/Class;"⟩ ⟨"java/lang/Object", "getClass", "()Ljava/lang/Class;"⟩ ∈ xk_T := xk_in (List.mem_of_getElem? (i := 295) (by decide +kernel)) rfl
theorem xm_263 : Cond.selects "java/lang/IllegalArgumentException" ⟨"java/lang/Object", "getClass", "()Ljava/lang/Class;"⟩ ⟨"java/lang/Object", "getClass", "()Ljava/lang/Class;"⟩ ∈ xk_T := xk_in (List.mem_of_getElem? (i := 296) (by decide +kernel)) rfl
theorem xm_264 : Cond.selects "java/lang/IllegalStateException" ⟨"java/lang/Object", "getClass", "()Ljava/lang/Class;"⟩ ⟨"java/lang/Object", "getClass", "()Ljava/lang/Class;"⟩ ∈ xk_T := xk_in (List.mem_of_getElem? (i := 297) (by decide +kernel)) rfl
theorem xm_265 : Cond.selects "java/lang/IndexOutOfBoundsException" ⟨"java/lang/Object", "getClass", "()Ljava/lang/Class;"⟩ ⟨"java/lang/Object", "getClass", "()Ljava/lang/Class;"⟩ ∈ xk_T := xk_in (List.mem_of_getElem? (i := 298) (by decide +kernel)) rfl
theorem xm_266 : Cond.selects "java/util/ArrayList" ⟨"java/lang/Object", "getClass", "()Ljava/lang/Class;"⟩ ⟨"java/lang/Object", "getClass", "()Ljava/lang/Class;"⟩ ∈ xk_T := xk_in (List.mem_of_getElem? (i := 299) (by decide +kernel)) rfl
theorem xm_267 : Cond.native ⟨"java/lang/Object", "getClass", "()Ljava/lang/Class;"⟩ ∈ xk_T := xk_in (List.mem_of_getElem? (i := 300) (by decide +kernel)) rfl
theorem xm_268 : Cond.methodLink "java/util/Arrays" 300 ⟨"java/util/Arrays", "copyOf", "([Ljava/lang/Object;ILjava/lang/Class;)[Ljava/lang/Object;"⟩ ∈ xk_T := xk_in (List.mem_of_getElem? (i := 301) (by decide +kernel)) rfl
theorem xm_269 : Cond.static ⟨"java/util/Arrays", "copyOf", "([Ljava/lang/Object;ILjava/lang/Class;)[Ljava/lang/Object;"⟩ ∈ xk_T := xk_in (List.mem_of_getElem? (i := 302) (by decide +kernel)) rfl
theorem xm_270 : Cond.code ⟨"java/util/Arrays", "copyOf", "([Ljava/lang/Object;ILjava/lang/Class;)[Ljava/lang/Object;"⟩ prog_26_method_120_code 4 (Option.some (.array (.object "java/lang/Object"))) ∈ xk_T := xk_in (List.mem_of_getElem? (i := 303) (by decide +kernel)) rfl
theorem xm_271 : Cond.classLink "java/util/Arrays" 110 "[Ljava/lang/Object;" ∈ xk_T := xk_in (List.mem_of_getElem? (i := 304) (by decide +kernel)) rfl
theorem xm_272 : Cond.arrayOver (.object "java/lang/Object") ∈ lw_tbl := List.mem_of_getElem? (i := 305) (by decide +kernel)
theorem xm_273 : Cond.classLink "java/util/Arrays" 2 "java/lang/Object" ∈ xk_T := xk_in (List.mem_of_getElem? (i := 306) (by decide +kernel)) rfl
theorem xm_274 : Cond.methodLink "java/util/Arrays" 304 ⟨"java/lang/Math", "min", "(II)I"⟩ ∈ xk_T := xk_in (List.mem_of_getElem? (i := 307) (by decide +kernel)) rfl
theorem xm_275 : Cond.static ⟨"java/lang/Math", "min", "(II)I"⟩ ∈ xk_T := xk_in (List.mem_of_getElem? (i := 308) (by decide +kernel)) rfl
theorem xm_276 : Cond.code ⟨"java/lang/Math", "min", "(II)I"⟩ prog_18_method_69_code 2 (Option.some .int) ∈ xk_T := xk_in (List.mem_of_getElem? (i := 309) (by decide +kernel)) rfl
theorem xm_277 : Cond.methodLink "java/util/Arrays" 150 ⟨"java/lang/System", "arraycopy", "(Ljava/lang/Object;ILjava/lang/Object;II)V"⟩ ∈ xk_T := xk_in (List.mem_of_getElem? (i := 310) (by decide +kernel)) rfl
theorem xm_278 : Cond.static ⟨"java/lang/System", "arraycopy", "(Ljava/lang/Object;ILjava/lang/Object;II)V"⟩ ∈ xk_T := xk_in (List.mem_of_getElem? (i := 311) (by decide +kernel)) rfl
theorem xm_279 : Cond.native ⟨"java/lang/System", "arraycopy", "(Ljava/lang/Object;ILjava/lang/Object;II)V"⟩ ∈ xk_T := xk_in (List.mem_of_getElem? (i := 312) (by decide +kernel)) rfl
theorem xm_280 : Cond.methodLink "java/util/ArrayList" 79 ⟨"java/lang/Math", "max", "(II)I"⟩ ∈ xk_T := xk_in (List.mem_of_getElem? (i := 313) (by decide +kernel)) rfl
theorem xm_281 : Cond.classLink "java/util/ArrayList" 7 "java/lang/Object" ∈ xk_T := xk_in (List.mem_of_getElem? (i := 314) (by decide +kernel)) rfl
theorem xm_282 : Cond.methodLink "ClickbookLaw" 22 ⟨"Clickbook", "theme", "(I)I"⟩ ∈ xk_T := xk_in (List.mem_of_getElem? (i := 315) (by decide +kernel)) rfl
theorem xm_283 : Cond.instanceMethod ⟨"Clickbook", "theme", "(I)I"⟩ ∈ xk_T := xk_in (List.mem_of_getElem? (i := 316) (by decide +kernel)) rfl
theorem xm_284 : Cond.selects "Clickbook" ⟨"Clickbook", "theme", "(I)I"⟩ ⟨"Clickbook", "theme", "(I)I"⟩ ∈ xk_T := xk_in (List.mem_of_getElem? (i := 317) (by decide +kernel)) rfl
theorem xm_285 : Cond.code ⟨"Clickbook", "theme", "(I)I"⟩ prog_1_method_3_code 2 (Option.some .int) ∈ xk_T := xk_in (List.mem_of_getElem? (i := 318) (by decide +kernel)) rfl
theorem xm_288 : Cond.methodLink "ClickbookLaw" 29 ⟨"Clickbook", "cue", "(IIIII)I"⟩ ∈ xk_T := xk_in (List.mem_of_getElem? (i := 321) (by decide +kernel)) rfl
theorem xm_289 : Cond.instanceMethod ⟨"Clickbook", "cue", "(IIIII)I"⟩ ∈ xk_T := xk_in (List.mem_of_getElem? (i := 322) (by decide +kernel)) rfl
theorem xm_290 : Cond.selects "Clickbook" ⟨"Clickbook", "cue", "(IIIII)I"⟩ ⟨"Clickbook", "cue", "(IIIII)I"⟩ ∈ xk_T := xk_in (List.mem_of_getElem? (i := 323) (by decide +kernel)) rfl
theorem xm_291 : Cond.code ⟨"Clickbook", "cue", "(IIIII)I"⟩ prog_1_method_9_code 7 (Option.some .int) ∈ xk_T := xk_in (List.mem_of_getElem? (i := 324) (by decide +kernel)) rfl
theorem xm_292 : Cond.classLink "Clickbook" 119 "java/lang/IndexOutOfBoundsException" ∈ xk_T := xk_in (List.mem_of_getElem? (i := 325) (by decide +kernel)) rfl
theorem xm_293 : Cond.instantiable "java/lang/IndexOutOfBoundsException" 6 ∈ xk_T := xk_in (List.mem_of_getElem? (i := 326) (by decide +kernel)) rfl
theorem xm_294 : Cond.castable "java/lang/IndexOutOfBoundsException" "java/lang/IndexOutOfBoundsException" ∈ lw_tbl := List.mem_of_getElem? (i := 327) (by decide +kernel)
theorem xm_295 : Cond.selects "java/lang/IndexOutOfBoundsException" ⟨"java/lang/Throwable", "fillInStackTrace", "(I)Ljava/lang/Throwable;"⟩ ⟨"java/lang/Throwable", "fillInStackTrace", "(I)Ljava/lang/Throwable;"⟩ ∈ xk_T := xk_in (List.mem_of_getElem? (i := 328) (by decide +kernel)) rfl
theorem xm_302 : Cond.methodLink "Clickbook" 123 ⟨"java/lang/IndexOutOfBoundsException", "<init>", "(Ljava/lang/String;)V"⟩ ∈ xk_T := xk_in (List.mem_of_getElem? (i := 335) (by decide +kernel)) rfl
theorem xm_303 : Cond.instanceMethod ⟨"java/lang/IndexOutOfBoundsException", "<init>", "(Ljava/lang/String;)V"⟩ ∈ xk_T := xk_in (List.mem_of_getElem? (i := 336) (by decide +kernel)) rfl
theorem xm_304 : Cond.code ⟨"java/lang/IndexOutOfBoundsException", "<init>", "(Ljava/lang/String;)V"⟩ prog_16_method_2_code 2 (Option.none : Option FieldType) ∈ xk_T := xk_in (List.mem_of_getElem? (i := 337) (by decide +kernel)) rfl
theorem xm_305 : Cond.methodLink "java/lang/IndexOutOfBoundsException" 7 ⟨"java/lang/RuntimeException", "<init>", "(Ljava/lang/String;)V"⟩ ∈ xk_T := xk_in (List.mem_of_getElem? (i := 338) (by decide +kernel)) rfl
theorem xm_307 : Cond.superclass "java/lang/IndexOutOfBoundsException" "java/lang/RuntimeException" ∈ xk_T := xk_in (List.mem_of_getElem? (i := 340) (by decide +kernel)) rfl
theorem xm_311 : Cond.classLink "Clickbook" 99 "Clickbook$Cue" ∈ xk_T := xk_in (List.mem_of_getElem? (i := 344) (by decide +kernel)) rfl
theorem xm_312 : Cond.instantiable "Clickbook$Cue" 13 ∈ xk_T := xk_in (List.mem_of_getElem? (i := 345) (by decide +kernel)) rfl
theorem xm_313 : Cond.methodLink "Clickbook" 130 ⟨"Clickbook$Cue", "<init>", "(IIIIII)V"⟩ ∈ xk_T := xk_in (List.mem_of_getElem? (i := 346) (by decide +kernel)) rfl
theorem xm_314 : Cond.instanceMethod ⟨"Clickbook$Cue", "<init>", "(IIIIII)V"⟩ ∈ xk_T := xk_in (List.mem_of_getElem? (i := 347) (by decide +kernel)) rfl
theorem xm_315 : Cond.code ⟨"Clickbook$Cue", "<init>", "(IIIIII)V"⟩ prog_2_method_1_code 7 (Option.none : Option FieldType) ∈ xk_T := xk_in (List.mem_of_getElem? (i := 348) (by decide +kernel)) rfl
theorem xm_316 : Cond.methodLink "Clickbook$Cue" 3 ⟨"java/lang/Object", "<init>", "()V"⟩ ∈ xk_T := xk_in (List.mem_of_getElem? (i := 349) (by decide +kernel)) rfl
theorem xm_317 : Cond.fieldLink "Clickbook$Cue" 9 "Clickbook$Cue" "number" "I" ∈ xk_T := xk_in (List.mem_of_getElem? (i := 350) (by decide +kernel)) rfl
theorem xm_318 : Cond.fieldLink "Clickbook" 133 "Clickbook$Cue" "number" "I" ∈ xk_T := xk_in (List.mem_of_getElem? (i := 351) (by decide +kernel)) rfl
theorem xm_319 : Cond.fieldLink "Clickbook$Cue" 15 "Clickbook$Cue" "start" "I" ∈ xk_T := xk_in (List.mem_of_getElem? (i := 352) (by decide +kernel)) rfl
theorem xm_320 : Cond.fieldLink "Clickbook" 108 "Clickbook$Cue" "start" "I" ∈ xk_T := xk_in (List.mem_of_getElem? (i := 353) (by decide +kernel)) rfl
theorem xm_321 : Cond.fieldLink "Clickbook$Cue" 18 "Clickbook$Cue" "theme" "I" ∈ xk_T := xk_in (List.mem_of_getElem? (i := 354) (by decide +kernel)) rfl
theorem xm_322 : Cond.fieldLink "Clickbook" 241 "Clickbook$Cue" "theme" "I" ∈ xk_T := xk_in (List.mem_of_getElem? (i := 355) (by decide +kernel)) rfl
theorem xm_323 : Cond.fieldLink "Clickbook$Cue" 21 "Clickbook$Cue" "players" "I" ∈ xk_T := xk_in (List.mem_of_getElem? (i := 356) (by decide +kernel)) rfl
theorem xm_324 : Cond.fieldLink "Clickbook" 182 "Clickbook$Cue" "players" "I" ∈ xk_T := xk_in (List.mem_of_getElem? (i := 357) (by decide +kernel)) rfl
theorem xm_325 : Cond.fieldLink "Clickbook$Cue" 24 "Clickbook$Cue" "writer" "I" ∈ xk_T := xk_in (List.mem_of_getElem? (i := 358) (by decide +kernel)) rfl
theorem xm_326 : Cond.fieldLink "Clickbook" 244 "Clickbook$Cue" "writer" "I" ∈ xk_T := xk_in (List.mem_of_getElem? (i := 359) (by decide +kernel)) rfl
theorem xm_327 : Cond.fieldLink "Clickbook$Cue" 27 "Clickbook$Cue" "use" "I" ∈ xk_T := xk_in (List.mem_of_getElem? (i := 360) (by decide +kernel)) rfl
theorem xm_328 : Cond.fieldLink "Clickbook" 247 "Clickbook$Cue" "use" "I" ∈ xk_T := xk_in (List.mem_of_getElem? (i := 361) (by decide +kernel)) rfl
theorem xm_329 : Cond.fieldLink "Clickbook$Take" 19 "Clickbook$Cue" "edition" "I" ∈ xk_T := xk_in (List.mem_of_getElem? (i := 362) (by decide +kernel)) rfl
theorem xm_330 : Cond.fieldLink "Clickbook$Cue" 43 "Clickbook$Cue" "edition" "I" ∈ xk_T := xk_in (List.mem_of_getElem? (i := 363) (by decide +kernel)) rfl
theorem xm_331 : Cond.fieldLink "Clickbook" 105 "Clickbook$Cue" "edition" "I" ∈ xk_T := xk_in (List.mem_of_getElem? (i := 364) (by decide +kernel)) rfl
theorem xm_332 : Cond.fieldLink "Clickbook$JoinTable" 22 "Clickbook$Cue" "bars" "I" ∈ xk_T := xk_in (List.mem_of_getElem? (i := 365) (by decide +kernel)) rfl
theorem xm_333 : Cond.fieldLink "Clickbook$Cue" 40 "Clickbook$Cue" "bars" "I" ∈ xk_T := xk_in (List.mem_of_getElem? (i := 366) (by decide +kernel)) rfl
theorem xm_334 : Cond.fieldLink "Clickbook" 143 "Clickbook$Cue" "bars" "I" ∈ xk_T := xk_in (List.mem_of_getElem? (i := 367) (by decide +kernel)) rfl
theorem xm_335 : Cond.fieldLink "Clickbook$Cue" 30 "Clickbook$Cue" "meters" "[I" ∈ xk_T := xk_in (List.mem_of_getElem? (i := 368) (by decide +kernel)) rfl
theorem xm_336 : Cond.fieldLink "Clickbook" 269 "Clickbook$Cue" "meters" "[I" ∈ xk_T := xk_in (List.mem_of_getElem? (i := 369) (by decide +kernel)) rfl
theorem xm_337 : Cond.fieldLink "Clickbook$Cue" 34 "Clickbook$Cue" "clicks" "[I" ∈ xk_T := xk_in (List.mem_of_getElem? (i := 370) (by decide +kernel)) rfl
theorem xm_338 : Cond.fieldLink "Clickbook" 272 "Clickbook$Cue" "clicks" "[I" ∈ xk_T := xk_in (List.mem_of_getElem? (i := 371) (by decide +kernel)) rfl
theorem xm_339 : Cond.fieldLink "Clickbook$Cue" 50 "Clickbook$Cue" "beats" "I" ∈ xk_T := xk_in (List.mem_of_getElem? (i := 372) (by decide +kernel)) rfl
theorem xm_340 : Cond.fieldLink "Clickbook" 250 "Clickbook$Cue" "beats" "I" ∈ xk_T := xk_in (List.mem_of_getElem? (i := 373) (by decide +kernel)) rfl
theorem xm_341 : Cond.fieldLink "Clickbook$Cue" 61 "Clickbook$Cue" "frames" "I" ∈ xk_T := xk_in (List.mem_of_getElem? (i := 374) (by decide +kernel)) rfl
theorem xm_342 : Cond.fieldLink "Clickbook" 187 "Clickbook$Cue" "frames" "I" ∈ xk_T := xk_in (List.mem_of_getElem? (i := 375) (by decide +kernel)) rfl
theorem xm_343 : Cond.fieldLink "Clickbook$Cue" 37 "Clickbook$Cue" "offsets" "[I" ∈ xk_T := xk_in (List.mem_of_getElem? (i := 376) (by decide +kernel)) rfl
theorem xm_344 : Cond.fieldLink "Clickbook" 338 "Clickbook$Cue" "offsets" "[I" ∈ xk_T := xk_in (List.mem_of_getElem? (i := 377) (by decide +kernel)) rfl
theorem xm_371 : Cond.superclass "Clickbook$Cue" "java/lang/Object" ∈ xk_T := xk_in (List.mem_of_getElem? (i := 404) (by decide +kernel)) rfl
theorem xm_372 : Cond.methodLink "ClickbookLaw" 33 ⟨"Clickbook", "bar", "(III)I"⟩ ∈ xk_T := xk_in (List.mem_of_getElem? (i := 405) (by decide +kernel)) rfl
theorem xm_373 : Cond.instanceMethod ⟨"Clickbook", "bar", "(III)I"⟩ ∈ xk_T := xk_in (List.mem_of_getElem? (i := 406) (by decide +kernel)) rfl
theorem xm_374 : Cond.selects "Clickbook" ⟨"Clickbook", "bar", "(III)I"⟩ ⟨"Clickbook", "bar", "(III)I"⟩ ∈ xk_T := xk_in (List.mem_of_getElem? (i := 407) (by decide +kernel)) rfl
theorem xm_375 : Cond.code ⟨"Clickbook", "bar", "(III)I"⟩ prog_1_method_10_code 5 (Option.some .int) ∈ xk_T := xk_in (List.mem_of_getElem? (i := 408) (by decide +kernel)) rfl
theorem xm_376 : Cond.methodLink "Clickbook" 136 ⟨"Clickbook", "cueNumbered", "(I)LClickbook$Cue;"⟩ ∈ xk_T := xk_in (List.mem_of_getElem? (i := 409) (by decide +kernel)) rfl
theorem xm_378 : Cond.instanceMethod ⟨"Clickbook", "cueNumbered", "(I)LClickbook$Cue;"⟩ ∈ xk_T := xk_in (List.mem_of_getElem? (i := 411) (by decide +kernel)) rfl
theorem xm_379 : Cond.code ⟨"Clickbook", "cueNumbered", "(I)LClickbook$Cue;"⟩ prog_1_method_13_code 2 (Option.some (.object "Clickbook$Cue")) ∈ xk_T := xk_in (List.mem_of_getElem? (i := 412) (by decide +kernel)) rfl
theorem xm_381 : Cond.methodLink "Clickbook" 88 ⟨"java/util/ArrayList", "get", "(I)Ljava/lang/Object;"⟩ ∈ xk_T := xk_in (List.mem_of_getElem? (i := 414) (by decide +kernel)) rfl
theorem xm_382 : Cond.instanceMethod ⟨"java/util/ArrayList", "get", "(I)Ljava/lang/Object;"⟩ ∈ xk_T := xk_in (List.mem_of_getElem? (i := 415) (by decide +kernel)) rfl
theorem xm_383 : Cond.selects "java/util/ArrayList" ⟨"java/util/ArrayList", "get", "(I)Ljava/lang/Object;"⟩ ⟨"java/util/ArrayList", "get", "(I)Ljava/lang/Object;"⟩ ∈ xk_T := xk_in (List.mem_of_getElem? (i := 416) (by decide +kernel)) rfl
theorem xm_384 : Cond.code ⟨"java/util/ArrayList", "get", "(I)Ljava/lang/Object;"⟩ prog_25_method_20_code 2 (Option.some (.object "java/lang/Object")) ∈ xk_T := xk_in (List.mem_of_getElem? (i := 417) (by decide +kernel)) rfl
theorem xm_385 : Cond.methodLink "java/util/ArrayList" 118 ⟨"java/util/Objects", "checkIndex", "(II)I"⟩ ∈ xk_T := xk_in (List.mem_of_getElem? (i := 418) (by decide +kernel)) rfl
theorem xm_386 : Cond.static ⟨"java/util/Objects", "checkIndex", "(II)I"⟩ ∈ xk_T := xk_in (List.mem_of_getElem? (i := 419) (by decide +kernel)) rfl
theorem xm_387 : Cond.code ⟨"java/util/Objects", "checkIndex", "(II)I"⟩ prog_29_method_17_code 2 (Option.some .int) ∈ xk_T := xk_in (List.mem_of_getElem? (i := 420) (by decide +kernel)) rfl
theorem xm_388 : Cond.methodLink "java/util/Objects" 105 ⟨"jdk/internal/util/Preconditions", "checkIndex", "(IILjava/util/function/BiFunction;)I"⟩ ∈ xk_T := xk_in (List.mem_of_getElem? (i := 421) (by decide +kernel)) rfl
theorem xm_389 : Cond.static ⟨"jdk/internal/util/Preconditions", "checkIndex", "(IILjava/util/function/BiFunction;)I"⟩ ∈ xk_T := xk_in (List.mem_of_getElem? (i := 422) (by decide +kernel)) rfl
theorem xm_390 : Cond.code ⟨"jdk/internal/util/Preconditions", "checkIndex", "(IILjava/util/function/BiFunction;)I"⟩ prog_33_method_11_code 3 (Option.some .int) ∈ xk_T := xk_in (List.mem_of_getElem? (i := 423) (by decide +kernel)) rfl
theorem xm_391 : Cond.methodLink "java/util/ArrayList" 123 ⟨"java/util/ArrayList", "elementData", "(I)Ljava/lang/Object;"⟩ ∈ xk_T := xk_in (List.mem_of_getElem? (i := 424) (by decide +kernel)) rfl
theorem xm_392 : Cond.instanceMethod ⟨"java/util/ArrayList", "elementData", "(I)Ljava/lang/Object;"⟩ ∈ xk_T := xk_in (List.mem_of_getElem? (i := 425) (by decide +kernel)) rfl
theorem xm_393 : Cond.selects "java/util/ArrayList" ⟨"java/util/ArrayList", "elementData", "(I)Ljava/lang/Object;"⟩ ⟨"java/util/ArrayList", "elementData", "(I)Ljava/lang/Object;"⟩ ∈ xk_T := xk_in (List.mem_of_getElem? (i := 426) (by decide +kernel)) rfl
theorem xm_394 : Cond.code ⟨"java/util/ArrayList", "elementData", "(I)Ljava/lang/Object;"⟩ prog_25_method_18_code 2 (Option.some (.object "java/lang/Object")) ∈ xk_T := xk_in (List.mem_of_getElem? (i := 427) (by decide +kernel)) rfl
theorem xm_395 : Cond.methodLink "Clickbook" 140 ⟨"Clickbook", "refuseBadBar", "(II)V"⟩ ∈ xk_T := xk_in (List.mem_of_getElem? (i := 428) (by decide +kernel)) rfl
theorem xm_396 : Cond.static ⟨"Clickbook", "refuseBadBar", "(II)V"⟩ ∈ xk_T := xk_in (List.mem_of_getElem? (i := 429) (by decide +kernel)) rfl
theorem xm_397 : Cond.code ⟨"Clickbook", "refuseBadBar", "(II)V"⟩ prog_1_method_15_code 2 (Option.none : Option FieldType) ∈ xk_T := xk_in (List.mem_of_getElem? (i := 430) (by decide +kernel)) rfl
theorem xm_400 : Cond.methodLink "Clickbook" 148 ⟨"Clickbook$Cue", "setBar", "(III)V"⟩ ∈ xk_T := xk_in (List.mem_of_getElem? (i := 433) (by decide +kernel)) rfl
theorem xm_401 : Cond.instanceMethod ⟨"Clickbook$Cue", "setBar", "(III)V"⟩ ∈ xk_T := xk_in (List.mem_of_getElem? (i := 434) (by decide +kernel)) rfl
theorem xm_402 : Cond.selects "Clickbook$Cue" ⟨"Clickbook$Cue", "setBar", "(III)V"⟩ ⟨"Clickbook$Cue", "setBar", "(III)V"⟩ ∈ xk_T := xk_in (List.mem_of_getElem? (i := 435) (by decide +kernel)) rfl
theorem xm_403 : Cond.code ⟨"Clickbook$Cue", "setBar", "(III)V"⟩ prog_2_method_2_code 4 (Option.none : Option FieldType) ∈ xk_T := xk_in (List.mem_of_getElem? (i := 436) (by decide +kernel)) rfl
theorem xm_404 : Cond.methodLink "Clickbook$Cue" 46 ⟨"Clickbook$Cue", "firstBeat", "(I)I"⟩ ∈ xk_T := xk_in (List.mem_of_getElem? (i := 437) (by decide +kernel)) rfl
theorem xm_405 : Cond.instanceMethod ⟨"Clickbook$Cue", "firstBeat", "(I)I"⟩ ∈ xk_T := xk_in (List.mem_of_getElem? (i := 438) (by decide +kernel)) rfl
theorem xm_406 : Cond.selects "Clickbook$Cue" ⟨"Clickbook$Cue", "firstBeat", "(I)I"⟩ ⟨"Clickbook$Cue", "firstBeat", "(I)I"⟩ ∈ xk_T := xk_in (List.mem_of_getElem? (i := 439) (by decide +kernel)) rfl
theorem xm_407 : Cond.code ⟨"Clickbook$Cue", "firstBeat", "(I)I"⟩ prog_2_method_4_code 4 (Option.some .int) ∈ xk_T := xk_in (List.mem_of_getElem? (i := 440) (by decide +kernel)) rfl
theorem xm_408 : Cond.methodLink "Clickbook$Cue" 53 ⟨"Clickbook$Cue", "layOut", "([III)I"⟩ ∈ xk_T := xk_in (List.mem_of_getElem? (i := 441) (by decide +kernel)) rfl
theorem xm_409 : Cond.instanceMethod ⟨"Clickbook$Cue", "layOut", "([III)I"⟩ ∈ xk_T := xk_in (List.mem_of_getElem? (i := 442) (by decide +kernel)) rfl
theorem xm_410 : Cond.selects "Clickbook$Cue" ⟨"Clickbook$Cue", "layOut", "([III)I"⟩ ⟨"Clickbook$Cue", "layOut", "([III)I"⟩ ∈ xk_T := xk_in (List.mem_of_getElem? (i := 443) (by decide +kernel)) rfl
theorem xm_411 : Cond.code ⟨"Clickbook$Cue", "layOut", "([III)I"⟩ prog_2_method_3_code 9 (Option.some .int) ∈ xk_T := xk_in (List.mem_of_getElem? (i := 444) (by decide +kernel)) rfl
theorem xm_412 : Cond.methodLinkNest "Clickbook$Cue" 57 ⟨"Clickbook", "roundedUp", "(II)I"⟩ "Clickbook" ∈ lw_tbl := List.mem_of_getElem? (i := 445) (by decide +kernel)
theorem xm_413 : Cond.static ⟨"Clickbook", "roundedUp", "(II)I"⟩ ∈ xk_T := xk_in (List.mem_of_getElem? (i := 446) (by decide +kernel)) rfl
theorem xm_414 : Cond.code ⟨"Clickbook", "roundedUp", "(II)I"⟩ prog_1_method_19_code 2 (Option.some .int) ∈ xk_T := xk_in (List.mem_of_getElem? (i := 447) (by decide +kernel)) rfl
theorem xm_415 : Cond.methodLink "ClickbookLaw" 43 ⟨"Clickbook", "retime", "(IIII)I"⟩ ∈ xk_T := xk_in (List.mem_of_getElem? (i := 448) (by decide +kernel)) rfl
theorem xm_416 : Cond.instanceMethod ⟨"Clickbook", "retime", "(IIII)I"⟩ ∈ xk_T := xk_in (List.mem_of_getElem? (i := 449) (by decide +kernel)) rfl
theorem xm_417 : Cond.selects "Clickbook" ⟨"Clickbook", "retime", "(IIII)I"⟩ ⟨"Clickbook", "retime", "(IIII)I"⟩ ∈ xk_T := xk_in (List.mem_of_getElem? (i := 450) (by decide +kernel)) rfl
theorem xm_418 : Cond.code ⟨"Clickbook", "retime", "(IIII)I"⟩ prog_1_method_11_code 6 (Option.some .int) ∈ xk_T := xk_in (List.mem_of_getElem? (i := 451) (by decide +kernel)) rfl
theorem xm_419 : Cond.methodLink "Clickbook" 152 ⟨"Clickbook", "refuseNoBar", "(LClickbook$Cue;I)V"⟩ ∈ xk_T := xk_in (List.mem_of_getElem? (i := 452) (by decide +kernel)) rfl
theorem xm_420 : Cond.static ⟨"Clickbook", "refuseNoBar", "(LClickbook$Cue;I)V"⟩ ∈ xk_T := xk_in (List.mem_of_getElem? (i := 453) (by decide +kernel)) rfl
theorem xm_421 : Cond.code ⟨"Clickbook", "refuseNoBar", "(LClickbook$Cue;I)V"⟩ prog_1_method_14_code 2 (Option.none : Option FieldType) ∈ xk_T := xk_in (List.mem_of_getElem? (i := 454) (by decide +kernel)) rfl
theorem xm_423 : Cond.methodLink "Clickbook" 156 ⟨"Clickbook$Cue", "end", "()I"⟩ ∈ xk_T := xk_in (List.mem_of_getElem? (i := 456) (by decide +kernel)) rfl
theorem xm_424 : Cond.instanceMethod ⟨"Clickbook$Cue", "end", "()I"⟩ ∈ xk_T := xk_in (List.mem_of_getElem? (i := 457) (by decide +kernel)) rfl
theorem xm_425 : Cond.selects "Clickbook$Cue" ⟨"Clickbook$Cue", "end", "()I"⟩ ⟨"Clickbook$Cue", "end", "()I"⟩ ∈ xk_T := xk_in (List.mem_of_getElem? (i := 458) (by decide +kernel)) rfl
theorem xm_426 : Cond.code ⟨"Clickbook$Cue", "end", "()I"⟩ prog_2_method_6_code 1 (Option.some .int) ∈ xk_T := xk_in (List.mem_of_getElem? (i := 459) (by decide +kernel)) rfl
theorem xm_427 : Cond.methodLink "ClickbookLaw" 47 ⟨"Clickbook", "shift", "(II)I"⟩ ∈ xk_T := xk_in (List.mem_of_getElem? (i := 460) (by decide +kernel)) rfl
theorem xm_428 : Cond.instanceMethod ⟨"Clickbook", "shift", "(II)I"⟩ ∈ xk_T := xk_in (List.mem_of_getElem? (i := 461) (by decide +kernel)) rfl
theorem xm_429 : Cond.selects "Clickbook" ⟨"Clickbook", "shift", "(II)I"⟩ ⟨"Clickbook", "shift", "(II)I"⟩ ∈ xk_T := xk_in (List.mem_of_getElem? (i := 462) (by decide +kernel)) rfl
theorem xm_430 : Cond.code ⟨"Clickbook", "shift", "(II)I"⟩ prog_1_method_12_code 4 (Option.some .int) ∈ xk_T := xk_in (List.mem_of_getElem? (i := 463) (by decide +kernel)) rfl
theorem xm_432 : Cond.methodLink "Clickbook" 161 ⟨"Clickbook", "countMet", "()I"⟩ ∈ xk_T := xk_in (List.mem_of_getElem? (i := 465) (by decide +kernel)) rfl
theorem xm_434 : Cond.instanceMethod ⟨"Clickbook", "countMet", "()I"⟩ ∈ xk_T := xk_in (List.mem_of_getElem? (i := 467) (by decide +kernel)) rfl
theorem xm_435 : Cond.code ⟨"Clickbook", "countMet", "()I"⟩ prog_1_method_33_code 3 (Option.some .int) ∈ xk_T := xk_in (List.mem_of_getElem? (i := 468) (by decide +kernel)) rfl
theorem xm_436 : Cond.methodLink "Clickbook" 229 ⟨"Clickbook", "isMet", "(LClickbook$Hit;)Z"⟩ ∈ xk_T := xk_in (List.mem_of_getElem? (i := 469) (by decide +kernel)) rfl
theorem xm_438 : Cond.instanceMethod ⟨"Clickbook", "isMet", "(LClickbook$Hit;)Z"⟩ ∈ xk_T := xk_in (List.mem_of_getElem? (i := 471) (by decide +kernel)) rfl
theorem xm_439 : Cond.code ⟨"Clickbook", "isMet", "(LClickbook$Hit;)Z"⟩ prog_1_method_31_code 2 (Option.some .boolean) ∈ xk_T := xk_in (List.mem_of_getElem? (i := 472) (by decide +kernel)) rfl
theorem xm_440 : Cond.methodLink "Clickbook" 334 ⟨"Clickbook", "isMetBut", "(LClickbook$Hit;I)Z"⟩ ∈ xk_T := xk_in (List.mem_of_getElem? (i := 473) (by decide +kernel)) rfl
theorem xm_442 : Cond.instanceMethod ⟨"Clickbook", "isMetBut", "(LClickbook$Hit;I)Z"⟩ ∈ xk_T := xk_in (List.mem_of_getElem? (i := 475) (by decide +kernel)) rfl
theorem xm_443 : Cond.code ⟨"Clickbook", "isMetBut", "(LClickbook$Hit;I)Z"⟩ prog_1_method_32_code 5 (Option.some .boolean) ∈ xk_T := xk_in (List.mem_of_getElem? (i := 476) (by decide +kernel)) rfl
theorem xm_444 : Cond.methodLink "Clickbook" 341 ⟨"Clickbook$Cue", "reaches", "(III[I)Z"⟩ ∈ xk_T := xk_in (List.mem_of_getElem? (i := 477) (by decide +kernel)) rfl
theorem xm_445 : Cond.instanceMethod ⟨"Clickbook$Cue", "reaches", "(III[I)Z"⟩ ∈ xk_T := xk_in (List.mem_of_getElem? (i := 478) (by decide +kernel)) rfl
theorem xm_446 : Cond.selects "Clickbook$Cue" ⟨"Clickbook$Cue", "reaches", "(III[I)Z"⟩ ⟨"Clickbook$Cue", "reaches", "(III[I)Z"⟩ ∈ xk_T := xk_in (List.mem_of_getElem? (i := 479) (by decide +kernel)) rfl
theorem xm_447 : Cond.code ⟨"Clickbook$Cue", "reaches", "(III[I)Z"⟩ prog_2_method_11_code 6 (Option.some .boolean) ∈ xk_T := xk_in (List.mem_of_getElem? (i := 480) (by decide +kernel)) rfl
theorem xm_448 : Cond.methodLink "Clickbook$Cue" 68 ⟨"java/lang/Math", "abs", "(I)I"⟩ ∈ xk_T := xk_in (List.mem_of_getElem? (i := 481) (by decide +kernel)) rfl
theorem xm_449 : Cond.static ⟨"java/lang/Math", "abs", "(I)I"⟩ ∈ xk_T := xk_in (List.mem_of_getElem? (i := 482) (by decide +kernel)) rfl
theorem xm_450 : Cond.code ⟨"java/lang/Math", "abs", "(I)I"⟩ prog_18_method_59_code 1 (Option.some .int) ∈ xk_T := xk_in (List.mem_of_getElem? (i := 483) (by decide +kernel)) rfl
theorem xm_451 : Cond.methodLink "ClickbookLaw" 62 ⟨"Clickbook", "open", "(I)I"⟩ ∈ xk_T := xk_in (List.mem_of_getElem? (i := 484) (by decide +kernel)) rfl
theorem xm_452 : Cond.instanceMethod ⟨"Clickbook", "open", "(I)I"⟩ ∈ xk_T := xk_in (List.mem_of_getElem? (i := 485) (by decide +kernel)) rfl
theorem xm_453 : Cond.selects "Clickbook" ⟨"Clickbook", "open", "(I)I"⟩ ⟨"Clickbook", "open", "(I)I"⟩ ∈ xk_T := xk_in (List.mem_of_getElem? (i := 486) (by decide +kernel)) rfl
theorem xm_454 : Cond.code ⟨"Clickbook", "open", "(I)I"⟩ prog_1_method_16_code 2 (Option.some .int) ∈ xk_T := xk_in (List.mem_of_getElem? (i := 487) (by decide +kernel)) rfl
theorem xm_457 : Cond.methodLink "ClickbookLaw" 72 ⟨"Clickbook", "take", "(III)I"⟩ ∈ xk_T := xk_in (List.mem_of_getElem? (i := 490) (by decide +kernel)) rfl
theorem xm_458 : Cond.instanceMethod ⟨"Clickbook", "take", "(III)I"⟩ ∈ xk_T := xk_in (List.mem_of_getElem? (i := 491) (by decide +kernel)) rfl
theorem xm_459 : Cond.selects "Clickbook" ⟨"Clickbook", "take", "(III)I"⟩ ⟨"Clickbook", "take", "(III)I"⟩ ∈ xk_T := xk_in (List.mem_of_getElem? (i := 492) (by decide +kernel)) rfl
theorem xm_460 : Cond.code ⟨"Clickbook", "take", "(III)I"⟩ prog_1_method_17_code 6 (Option.some .int) ∈ xk_T := xk_in (List.mem_of_getElem? (i := 493) (by decide +kernel)) rfl
theorem xm_461 : Cond.methodLink "Clickbook" 177 ⟨"Clickbook$Cue", "mostNotes", "()I"⟩ ∈ xk_T := xk_in (List.mem_of_getElem? (i := 494) (by decide +kernel)) rfl
theorem xm_462 : Cond.instanceMethod ⟨"Clickbook$Cue", "mostNotes", "()I"⟩ ∈ xk_T := xk_in (List.mem_of_getElem? (i := 495) (by decide +kernel)) rfl
theorem xm_463 : Cond.selects "Clickbook$Cue" ⟨"Clickbook$Cue", "mostNotes", "()I"⟩ ⟨"Clickbook$Cue", "mostNotes", "()I"⟩ ∈ xk_T := xk_in (List.mem_of_getElem? (i := 496) (by decide +kernel)) rfl
theorem xm_464 : Cond.code ⟨"Clickbook$Cue", "mostNotes", "()I"⟩ prog_2_method_7_code 3 (Option.some .int) ∈ xk_T := xk_in (List.mem_of_getElem? (i := 497) (by decide +kernel)) rfl
theorem xm_467 : Cond.methodLink "Clickbook" 190 ⟨"Clickbook", "roundedUp", "(II)I"⟩ ∈ xk_T := xk_in (List.mem_of_getElem? (i := 500) (by decide +kernel)) rfl
theorem xm_469 : Cond.classLink "Clickbook" 198 "Clickbook$Take" ∈ xk_T := xk_in (List.mem_of_getElem? (i := 502) (by decide +kernel)) rfl
theorem xm_470 : Cond.instantiable "Clickbook$Take" 5 ∈ xk_T := xk_in (List.mem_of_getElem? (i := 503) (by decide +kernel)) rfl
theorem xm_471 : Cond.methodLink "Clickbook" 200 ⟨"Clickbook$Take", "<init>", "(ILClickbook$Cue;II)V"⟩ ∈ xk_T := xk_in (List.mem_of_getElem? (i := 504) (by decide +kernel)) rfl
theorem xm_472 : Cond.instanceMethod ⟨"Clickbook$Take", "<init>", "(ILClickbook$Cue;II)V"⟩ ∈ xk_T := xk_in (List.mem_of_getElem? (i := 505) (by decide +kernel)) rfl
theorem xm_473 : Cond.code ⟨"Clickbook$Take", "<init>", "(ILClickbook$Cue;II)V"⟩ prog_5_method_1_code 5 (Option.none : Option FieldType) ∈ xk_T := xk_in (List.mem_of_getElem? (i := 506) (by decide +kernel)) rfl
theorem xm_474 : Cond.methodLink "Clickbook$Take" 3 ⟨"java/lang/Object", "<init>", "()V"⟩ ∈ xk_T := xk_in (List.mem_of_getElem? (i := 507) (by decide +kernel)) rfl
theorem xm_475 : Cond.fieldLink "Clickbook$Take" 9 "Clickbook$Take" "number" "I" ∈ xk_T := xk_in (List.mem_of_getElem? (i := 508) (by decide +kernel)) rfl
theorem xm_476 : Cond.fieldLink "Clickbook$JoinTable" 75 "Clickbook$Take" "number" "I" ∈ xk_T := xk_in (List.mem_of_getElem? (i := 509) (by decide +kernel)) rfl
theorem xm_477 : Cond.fieldLink "Clickbook$Take" 15 "Clickbook$Take" "of" "LClickbook$Cue;" ∈ xk_T := xk_in (List.mem_of_getElem? (i := 510) (by decide +kernel)) rfl
theorem xm_478 : Cond.fieldLink "Clickbook$JoinTable" 42 "Clickbook$Take" "of" "LClickbook$Cue;" ∈ xk_T := xk_in (List.mem_of_getElem? (i := 511) (by decide +kernel)) rfl
theorem xm_479 : Cond.fieldLink "Clickbook" 288 "Clickbook$Take" "of" "LClickbook$Cue;" ∈ xk_T := xk_in (List.mem_of_getElem? (i := 512) (by decide +kernel)) rfl
theorem xm_480 : Cond.fieldLink "Clickbook$Take" 24 "Clickbook$Take" "edition" "I" ∈ xk_T := xk_in (List.mem_of_getElem? (i := 513) (by decide +kernel)) rfl
theorem xm_481 : Cond.fieldLink "Clickbook" 292 "Clickbook$Take" "edition" "I" ∈ xk_T := xk_in (List.mem_of_getElem? (i := 514) (by decide +kernel)) rfl
theorem xm_482 : Cond.fieldLink "Clickbook$Take" 25 "Clickbook$Take" "notes" "I" ∈ xk_T := xk_in (List.mem_of_getElem? (i := 515) (by decide +kernel)) rfl
theorem xm_483 : Cond.fieldLink "Clickbook$Take" 28 "Clickbook$Take" "push" "I" ∈ xk_T := xk_in (List.mem_of_getElem? (i := 516) (by decide +kernel)) rfl
theorem xm_484 : Cond.fieldLink "Clickbook$JoinTable" 78 "Clickbook$Take" "push" "I" ∈ xk_T := xk_in (List.mem_of_getElem? (i := 517) (by decide +kernel)) rfl
theorem xm_485 : Cond.fieldLink "Clickbook" 293 "Clickbook$Take" "push" "I" ∈ xk_T := xk_in (List.mem_of_getElem? (i := 518) (by decide +kernel)) rfl
theorem xm_496 : Cond.superclass "Clickbook$Take" "java/lang/Object" ∈ xk_T := xk_in (List.mem_of_getElem? (i := 529) (by decide +kernel)) rfl
theorem xm_497 : Cond.methodLink "ClickbookLaw" 68 ⟨"Clickbook", "close", "()I"⟩ ∈ xk_T := xk_in (List.mem_of_getElem? (i := 530) (by decide +kernel)) rfl
theorem xm_498 : Cond.instanceMethod ⟨"Clickbook", "close", "()I"⟩ ∈ xk_T := xk_in (List.mem_of_getElem? (i := 531) (by decide +kernel)) rfl
theorem xm_499 : Cond.selects "Clickbook" ⟨"Clickbook", "close", "()I"⟩ ⟨"Clickbook", "close", "()I"⟩ ∈ xk_T := xk_in (List.mem_of_getElem? (i := 532) (by decide +kernel)) rfl
theorem xm_500 : Cond.code ⟨"Clickbook", "close", "()I"⟩ prog_1_method_18_code 4 (Option.some .int) ∈ xk_T := xk_in (List.mem_of_getElem? (i := 533) (by decide +kernel)) rfl
theorem xm_502 : Cond.methodLink "Clickbook" 205 ⟨"java/lang/Math", "min", "(II)I"⟩ ∈ xk_T := xk_in (List.mem_of_getElem? (i := 535) (by decide +kernel)) rfl
theorem xm_503 : Cond.methodLink "ClickbookLaw" 37 ⟨"Clickbook", "ofCue", "(II)I"⟩ ∈ xk_T := xk_in (List.mem_of_getElem? (i := 536) (by decide +kernel)) rfl
theorem xm_504 : Cond.instanceMethod ⟨"Clickbook", "ofCue", "(II)I"⟩ ∈ xk_T := xk_in (List.mem_of_getElem? (i := 537) (by decide +kernel)) rfl
theorem xm_505 : Cond.selects "Clickbook" ⟨"Clickbook", "ofCue", "(II)I"⟩ ⟨"Clickbook", "ofCue", "(II)I"⟩ ∈ xk_T := xk_in (List.mem_of_getElem? (i := 538) (by decide +kernel)) rfl
theorem xm_506 : Cond.code ⟨"Clickbook", "ofCue", "(II)I"⟩ prog_1_method_21_code 4 (Option.some .int) ∈ xk_T := xk_in (List.mem_of_getElem? (i := 539) (by decide +kernel)) rfl
theorem xm_507 : Cond.methodLink "Clickbook" 253 ⟨"Clickbook", "runsOver", "(LClickbook$Cue;)Z"⟩ ∈ xk_T := xk_in (List.mem_of_getElem? (i := 540) (by decide +kernel)) rfl
theorem xm_509 : Cond.instanceMethod ⟨"Clickbook", "runsOver", "(LClickbook$Cue;)Z"⟩ ∈ xk_T := xk_in (List.mem_of_getElem? (i := 542) (by decide +kernel)) rfl
theorem xm_510 : Cond.code ⟨"Clickbook", "runsOver", "(LClickbook$Cue;)Z"⟩ prog_1_method_35_code 2 (Option.some .boolean) ∈ xk_T := xk_in (List.mem_of_getElem? (i := 543) (by decide +kernel)) rfl
theorem xm_511 : Cond.methodLink "Clickbook" 257 ⟨"Clickbook", "spoils", "(LClickbook$Cue;)Z"⟩ ∈ xk_T := xk_in (List.mem_of_getElem? (i := 544) (by decide +kernel)) rfl
theorem xm_513 : Cond.instanceMethod ⟨"Clickbook", "spoils", "(LClickbook$Cue;)Z"⟩ ∈ xk_T := xk_in (List.mem_of_getElem? (i := 546) (by decide +kernel)) rfl
theorem xm_514 : Cond.code ⟨"Clickbook", "spoils", "(LClickbook$Cue;)Z"⟩ prog_1_method_37_code 2 (Option.some .boolean) ∈ xk_T := xk_in (List.mem_of_getElem? (i := 547) (by decide +kernel)) rfl
theorem xm_515 : Cond.methodLink "Clickbook" 260 ⟨"Clickbook", "countValid", "(LClickbook$Cue;)I"⟩ ∈ xk_T := xk_in (List.mem_of_getElem? (i := 548) (by decide +kernel)) rfl
theorem xm_517 : Cond.instanceMethod ⟨"Clickbook", "countValid", "(LClickbook$Cue;)I"⟩ ∈ xk_T := xk_in (List.mem_of_getElem? (i := 550) (by decide +kernel)) rfl
theorem xm_518 : Cond.code ⟨"Clickbook", "countValid", "(LClickbook$Cue;)I"⟩ prog_1_method_41_code 5 (Option.some .int) ∈ xk_T := xk_in (List.mem_of_getElem? (i := 551) (by decide +kernel)) rfl
theorem xm_519 : Cond.methodLink "Clickbook" 296 ⟨"Clickbook$Take", "isValid", "()Z"⟩ ∈ xk_T := xk_in (List.mem_of_getElem? (i := 552) (by decide +kernel)) rfl
theorem xm_520 : Cond.instanceMethod ⟨"Clickbook$Take", "isValid", "()Z"⟩ ∈ xk_T := xk_in (List.mem_of_getElem? (i := 553) (by decide +kernel)) rfl
theorem xm_521 : Cond.selects "Clickbook$Take" ⟨"Clickbook$Take", "isValid", "()Z"⟩ ⟨"Clickbook$Take", "isValid", "()Z"⟩ ∈ xk_T := xk_in (List.mem_of_getElem? (i := 554) (by decide +kernel)) rfl
theorem xm_522 : Cond.code ⟨"Clickbook$Take", "isValid", "()Z"⟩ prog_5_method_2_code 1 (Option.some .boolean) ∈ xk_T := xk_in (List.mem_of_getElem? (i := 555) (by decide +kernel)) rfl
theorem xm_523 : Cond.methodLink "Clickbook" 264 ⟨"Clickbook", "secondsOf", "(LClickbook$Cue;)I"⟩ ∈ xk_T := xk_in (List.mem_of_getElem? (i := 556) (by decide +kernel)) rfl
theorem xm_525 : Cond.instanceMethod ⟨"Clickbook", "secondsOf", "(LClickbook$Cue;)I"⟩ ∈ xk_T := xk_in (List.mem_of_getElem? (i := 558) (by decide +kernel)) rfl
theorem xm_526 : Cond.code ⟨"Clickbook", "secondsOf", "(LClickbook$Cue;)I"⟩ prog_1_method_43_code 3 (Option.some .int) ∈ xk_T := xk_in (List.mem_of_getElem? (i := 559) (by decide +kernel)) rfl
theorem xm_528 : Cond.methodLink "ClickbookLaw" 79 ⟨"Clickbook", "ofTake", "(II)I"⟩ ∈ xk_T := xk_in (List.mem_of_getElem? (i := 561) (by decide +kernel)) rfl
theorem xm_529 : Cond.instanceMethod ⟨"Clickbook", "ofTake", "(II)I"⟩ ∈ xk_T := xk_in (List.mem_of_getElem? (i := 562) (by decide +kernel)) rfl
theorem xm_530 : Cond.selects "Clickbook" ⟨"Clickbook", "ofTake", "(II)I"⟩ ⟨"Clickbook", "ofTake", "(II)I"⟩ ∈ xk_T := xk_in (List.mem_of_getElem? (i := 563) (by decide +kernel)) rfl
theorem xm_531 : Cond.code ⟨"Clickbook", "ofTake", "(II)I"⟩ prog_1_method_24_code 4 (Option.some .int) ∈ xk_T := xk_in (List.mem_of_getElem? (i := 564) (by decide +kernel)) rfl
theorem xm_533 : Cond.methodLink "Clickbook" 300 ⟨"Clickbook$Take", "sumOfNotes", "()I"⟩ ∈ xk_T := xk_in (List.mem_of_getElem? (i := 566) (by decide +kernel)) rfl
theorem xm_534 : Cond.instanceMethod ⟨"Clickbook$Take", "sumOfNotes", "()I"⟩ ∈ xk_T := xk_in (List.mem_of_getElem? (i := 567) (by decide +kernel)) rfl
theorem xm_535 : Cond.selects "Clickbook$Take" ⟨"Clickbook$Take", "sumOfNotes", "()I"⟩ ⟨"Clickbook$Take", "sumOfNotes", "()I"⟩ ∈ xk_T := xk_in (List.mem_of_getElem? (i := 568) (by decide +kernel)) rfl
theorem xm_536 : Cond.code ⟨"Clickbook$Take", "sumOfNotes", "()I"⟩ prog_5_method_4_code 3 (Option.some .int) ∈ xk_T := xk_in (List.mem_of_getElem? (i := 569) (by decide +kernel)) rfl
theorem xm_537 : Cond.methodLink "Clickbook$Take" 31 ⟨"Clickbook$Take", "noteOf", "(I)I"⟩ ∈ xk_T := xk_in (List.mem_of_getElem? (i := 570) (by decide +kernel)) rfl
theorem xm_538 : Cond.instanceMethod ⟨"Clickbook$Take", "noteOf", "(I)I"⟩ ∈ xk_T := xk_in (List.mem_of_getElem? (i := 571) (by decide +kernel)) rfl
theorem xm_539 : Cond.selects "Clickbook$Take" ⟨"Clickbook$Take", "noteOf", "(I)I"⟩ ⟨"Clickbook$Take", "noteOf", "(I)I"⟩ ∈ xk_T := xk_in (List.mem_of_getElem? (i := 572) (by decide +kernel)) rfl
theorem xm_540 : Cond.code ⟨"Clickbook$Take", "noteOf", "(I)I"⟩ prog_5_method_3_code 4 (Option.some .int) ∈ xk_T := xk_in (List.mem_of_getElem? (i := 573) (by decide +kernel)) rfl
theorem xm_542 : Cond.methodLink "ClickbookLaw" 40 ⟨"Clickbook", "many", "(I)I"⟩ ∈ xk_T := xk_in (List.mem_of_getElem? (i := 575) (by decide +kernel)) rfl
theorem xm_543 : Cond.instanceMethod ⟨"Clickbook", "many", "(I)I"⟩ ∈ xk_T := xk_in (List.mem_of_getElem? (i := 576) (by decide +kernel)) rfl
theorem xm_544 : Cond.selects "Clickbook" ⟨"Clickbook", "many", "(I)I"⟩ ⟨"Clickbook", "many", "(I)I"⟩ ∈ xk_T := xk_in (List.mem_of_getElem? (i := 577) (by decide +kernel)) rfl
theorem xm_545 : Cond.code ⟨"Clickbook", "many", "(I)I"⟩ prog_1_method_26_code 2 (Option.some .int) ∈ xk_T := xk_in (List.mem_of_getElem? (i := 578) (by decide +kernel)) rfl
theorem xm_546 : Cond.methodLink "Clickbook" 310 ⟨"Clickbook", "countGone", "()I"⟩ ∈ xk_T := xk_in (List.mem_of_getElem? (i := 579) (by decide +kernel)) rfl
theorem xm_548 : Cond.instanceMethod ⟨"Clickbook", "countGone", "()I"⟩ ∈ xk_T := xk_in (List.mem_of_getElem? (i := 581) (by decide +kernel)) rfl
theorem xm_549 : Cond.code ⟨"Clickbook", "countGone", "()I"⟩ prog_1_method_34_code 3 (Option.some .int) ∈ xk_T := xk_in (List.mem_of_getElem? (i := 582) (by decide +kernel)) rfl
theorem xm_550 : Cond.methodLink "Clickbook" 313 ⟨"Clickbook", "countRunningOver", "()I"⟩ ∈ xk_T := xk_in (List.mem_of_getElem? (i := 583) (by decide +kernel)) rfl
theorem xm_552 : Cond.instanceMethod ⟨"Clickbook", "countRunningOver", "()I"⟩ ∈ xk_T := xk_in (List.mem_of_getElem? (i := 585) (by decide +kernel)) rfl
theorem xm_553 : Cond.code ⟨"Clickbook", "countRunningOver", "()I"⟩ prog_1_method_36_code 3 (Option.some .int) ∈ xk_T := xk_in (List.mem_of_getElem? (i := 586) (by decide +kernel)) rfl
theorem xm_554 : Cond.methodLink "Clickbook" 316 ⟨"Clickbook", "countSpoiling", "()I"⟩ ∈ xk_T := xk_in (List.mem_of_getElem? (i := 587) (by decide +kernel)) rfl
theorem xm_556 : Cond.instanceMethod ⟨"Clickbook", "countSpoiling", "()I"⟩ ∈ xk_T := xk_in (List.mem_of_getElem? (i := 589) (by decide +kernel)) rfl
theorem xm_557 : Cond.code ⟨"Clickbook", "countSpoiling", "()I"⟩ prog_1_method_38_code 3 (Option.some .int) ∈ xk_T := xk_in (List.mem_of_getElem? (i := 590) (by decide +kernel)) rfl
theorem xm_558 : Cond.methodLink "Clickbook" 319 ⟨"Clickbook", "countClashes", "()I"⟩ ∈ xk_T := xk_in (List.mem_of_getElem? (i := 591) (by decide +kernel)) rfl
theorem xm_560 : Cond.instanceMethod ⟨"Clickbook", "countClashes", "()I"⟩ ∈ xk_T := xk_in (List.mem_of_getElem? (i := 593) (by decide +kernel)) rfl
theorem xm_561 : Cond.code ⟨"Clickbook", "countClashes", "()I"⟩ prog_1_method_39_code 4 (Option.some .int) ∈ xk_T := xk_in (List.mem_of_getElem? (i := 594) (by decide +kernel)) rfl
theorem xm_562 : Cond.methodLink "Clickbook" 345 ⟨"Clickbook", "clash", "(LClickbook$Cue;LClickbook$Cue;)Z"⟩ ∈ xk_T := xk_in (List.mem_of_getElem? (i := 595) (by decide +kernel)) rfl
theorem xm_563 : Cond.static ⟨"Clickbook", "clash", "(LClickbook$Cue;LClickbook$Cue;)Z"⟩ ∈ xk_T := xk_in (List.mem_of_getElem? (i := 596) (by decide +kernel)) rfl
theorem xm_564 : Cond.code ⟨"Clickbook", "clash", "(LClickbook$Cue;LClickbook$Cue;)Z"⟩ prog_1_method_40_code 2 (Option.some .boolean) ∈ xk_T := xk_in (List.mem_of_getElem? (i := 597) (by decide +kernel)) rfl
theorem xm_565 : Cond.methodLink "Clickbook" 322 ⟨"Clickbook", "countAllValid", "()I"⟩ ∈ xk_T := xk_in (List.mem_of_getElem? (i := 598) (by decide +kernel)) rfl
theorem xm_567 : Cond.instanceMethod ⟨"Clickbook", "countAllValid", "()I"⟩ ∈ xk_T := xk_in (List.mem_of_getElem? (i := 600) (by decide +kernel)) rfl
theorem xm_568 : Cond.code ⟨"Clickbook", "countAllValid", "()I"⟩ prog_1_method_42_code 3 (Option.some .int) ∈ xk_T := xk_in (List.mem_of_getElem? (i := 601) (by decide +kernel)) rfl
theorem xm_569 : Cond.methodLink "Clickbook" 325 ⟨"Clickbook", "payToAll", "()I"⟩ ∈ xk_T := xk_in (List.mem_of_getElem? (i := 602) (by decide +kernel)) rfl
theorem xm_571 : Cond.instanceMethod ⟨"Clickbook", "payToAll", "()I"⟩ ∈ xk_T := xk_in (List.mem_of_getElem? (i := 604) (by decide +kernel)) rfl
theorem xm_572 : Cond.code ⟨"Clickbook", "payToAll", "()I"⟩ prog_1_method_45_code 3 (Option.some .int) ∈ xk_T := xk_in (List.mem_of_getElem? (i := 605) (by decide +kernel)) rfl
theorem xm_573 : Cond.methodLink "Clickbook" 307 ⟨"Clickbook", "payOf", "(LClickbook$Cue;)I"⟩ ∈ xk_T := xk_in (List.mem_of_getElem? (i := 606) (by decide +kernel)) rfl
theorem xm_575 : Cond.instanceMethod ⟨"Clickbook", "payOf", "(LClickbook$Cue;)I"⟩ ∈ xk_T := xk_in (List.mem_of_getElem? (i := 608) (by decide +kernel)) rfl
theorem xm_576 : Cond.code ⟨"Clickbook", "payOf", "(LClickbook$Cue;)I"⟩ prog_1_method_44_code 3 (Option.some .int) ∈ xk_T := xk_in (List.mem_of_getElem? (i := 609) (by decide +kernel)) rfl
theorem xm_578 : Cond.methodLink "ClickbookLaw" 89 ⟨"Clickbook", "meanNote", "()D"⟩ ∈ xk_T := xk_in (List.mem_of_getElem? (i := 611) (by decide +kernel)) rfl
theorem xm_579 : Cond.instanceMethod ⟨"Clickbook", "meanNote", "()D"⟩ ∈ xk_T := xk_in (List.mem_of_getElem? (i := 612) (by decide +kernel)) rfl
theorem xm_580 : Cond.selects "Clickbook" ⟨"Clickbook", "meanNote", "()D"⟩ ⟨"Clickbook", "meanNote", "()D"⟩ ∈ xk_T := xk_in (List.mem_of_getElem? (i := 613) (by decide +kernel)) rfl
theorem xm_581 : Cond.code ⟨"Clickbook", "meanNote", "()D"⟩ prog_1_method_27_code 5 (Option.some .double) ∈ xk_T := xk_in (List.mem_of_getElem? (i := 614) (by decide +kernel)) rfl
theorem xm_582 : Cond.methodLink "ClickbookLaw" 82 ⟨"Clickbook", "join", "(I)I"⟩ ∈ xk_T := xk_in (List.mem_of_getElem? (i := 615) (by decide +kernel)) rfl
theorem xm_583 : Cond.instanceMethod ⟨"Clickbook", "join", "(I)I"⟩ ∈ xk_T := xk_in (List.mem_of_getElem? (i := 616) (by decide +kernel)) rfl
theorem xm_584 : Cond.selects "Clickbook" ⟨"Clickbook", "join", "(I)I"⟩ ⟨"Clickbook", "join", "(I)I"⟩ ∈ xk_T := xk_in (List.mem_of_getElem? (i := 617) (by decide +kernel)) rfl
theorem xm_585 : Cond.code ⟨"Clickbook", "join", "(I)I"⟩ prog_1_method_46_code 2 (Option.some .int) ∈ xk_T := xk_in (List.mem_of_getElem? (i := 618) (by decide +kernel)) rfl
theorem xm_586 : Cond.methodLink "Clickbook" 349 ⟨"Clickbook$JoinTable", "fill", "(LClickbook$Cue;Ljava/util/ArrayList;)V"⟩ ∈ xk_T := xk_in (List.mem_of_getElem? (i := 619) (by decide +kernel)) rfl
theorem xm_587 : Cond.instanceMethod ⟨"Clickbook$JoinTable", "fill", "(LClickbook$Cue;Ljava/util/ArrayList;)V"⟩ ∈ xk_T := xk_in (List.mem_of_getElem? (i := 620) (by decide +kernel)) rfl
theorem xm_588 : Cond.selects "Clickbook$JoinTable" ⟨"Clickbook$JoinTable", "fill", "(LClickbook$Cue;Ljava/util/ArrayList;)V"⟩ ⟨"Clickbook$JoinTable", "fill", "(LClickbook$Cue;Ljava/util/ArrayList;)V"⟩ ∈ xk_T := xk_in (List.mem_of_getElem? (i := 621) (by decide +kernel)) rfl
theorem xm_589 : Cond.code ⟨"Clickbook$JoinTable", "fill", "(LClickbook$Cue;Ljava/util/ArrayList;)V"⟩ prog_4_method_2_code 5 (Option.none : Option FieldType) ∈ xk_T := xk_in (List.mem_of_getElem? (i := 622) (by decide +kernel)) rfl
theorem xm_590 : Cond.methodLink "Clickbook$JoinTable" 29 ⟨"java/util/ArrayList", "clear", "()V"⟩ ∈ xk_T := xk_in (List.mem_of_getElem? (i := 623) (by decide +kernel)) rfl
theorem xm_591 : Cond.instanceMethod ⟨"java/util/ArrayList", "clear", "()V"⟩ ∈ xk_T := xk_in (List.mem_of_getElem? (i := 624) (by decide +kernel)) rfl
theorem xm_592 : Cond.selects "java/util/ArrayList" ⟨"java/util/ArrayList", "clear", "()V"⟩ ⟨"java/util/ArrayList", "clear", "()V"⟩ ∈ xk_T := xk_in (List.mem_of_getElem? (i := 625) (by decide +kernel)) rfl
theorem xm_593 : Cond.code ⟨"java/util/ArrayList", "clear", "()V"⟩ prog_25_method_40_code 4 (Option.none : Option FieldType) ∈ xk_T := xk_in (List.mem_of_getElem? (i := 626) (by decide +kernel)) rfl
theorem xm_594 : Cond.methodLink "Clickbook$JoinTable" 32 ⟨"java/util/ArrayList", "size", "()I"⟩ ∈ xk_T := xk_in (List.mem_of_getElem? (i := 627) (by decide +kernel)) rfl
theorem xm_595 : Cond.methodLink "Clickbook$JoinTable" 36 ⟨"java/util/ArrayList", "get", "(I)Ljava/lang/Object;"⟩ ∈ xk_T := xk_in (List.mem_of_getElem? (i := 628) (by decide +kernel)) rfl
theorem xm_596 : Cond.classLink "Clickbook$JoinTable" 40 "Clickbook$Take" ∈ xk_T := xk_in (List.mem_of_getElem? (i := 629) (by decide +kernel)) rfl
theorem xm_597 : Cond.methodLink "Clickbook$JoinTable" 46 ⟨"Clickbook$Take", "isValid", "()Z"⟩ ∈ xk_T := xk_in (List.mem_of_getElem? (i := 630) (by decide +kernel)) rfl
theorem xm_598 : Cond.methodLink "Clickbook$JoinTable" 50 ⟨"java/util/ArrayList", "add", "(Ljava/lang/Object;)Z"⟩ ∈ xk_T := xk_in (List.mem_of_getElem? (i := 631) (by decide +kernel)) rfl
theorem xm_599 : Cond.methodLink "Clickbook$JoinTable" 54 ⟨"Clickbook$JoinTable", "fillBar", "(I)V"⟩ ∈ xk_T := xk_in (List.mem_of_getElem? (i := 632) (by decide +kernel)) rfl
theorem xm_601 : Cond.instanceMethod ⟨"Clickbook$JoinTable", "fillBar", "(I)V"⟩ ∈ xk_T := xk_in (List.mem_of_getElem? (i := 634) (by decide +kernel)) rfl
theorem xm_602 : Cond.code ⟨"Clickbook$JoinTable", "fillBar", "(I)V"⟩ prog_4_method_3_code 6 (Option.none : Option FieldType) ∈ xk_T := xk_in (List.mem_of_getElem? (i := 635) (by decide +kernel)) rfl
theorem xm_603 : Cond.methodLink "Clickbook$JoinTable" 58 ⟨"Clickbook$Take", "noteOf", "(I)I"⟩ ∈ xk_T := xk_in (List.mem_of_getElem? (i := 636) (by decide +kernel)) rfl
theorem xm_604 : Cond.methodLink "Clickbook$JoinTable" 62 ⟨"Clickbook$JoinTable", "bestPlace", "(II)I"⟩ ∈ xk_T := xk_in (List.mem_of_getElem? (i := 637) (by decide +kernel)) rfl
theorem xm_606 : Cond.instanceMethod ⟨"Clickbook$JoinTable", "bestPlace", "(II)I"⟩ ∈ xk_T := xk_in (List.mem_of_getElem? (i := 639) (by decide +kernel)) rfl
theorem xm_607 : Cond.code ⟨"Clickbook$JoinTable", "bestPlace", "(II)I"⟩ prog_4_method_6_code 7 (Option.some .int) ∈ xk_T := xk_in (List.mem_of_getElem? (i := 640) (by decide +kernel)) rfl
theorem xm_608 : Cond.methodLink "Clickbook$JoinTable" 66 ⟨"Clickbook$JoinTable", "worthFrom", "(II)I"⟩ ∈ xk_T := xk_in (List.mem_of_getElem? (i := 641) (by decide +kernel)) rfl
theorem xm_610 : Cond.instanceMethod ⟨"Clickbook$JoinTable", "worthFrom", "(II)I"⟩ ∈ xk_T := xk_in (List.mem_of_getElem? (i := 643) (by decide +kernel)) rfl
theorem xm_611 : Cond.code ⟨"Clickbook$JoinTable", "worthFrom", "(II)I"⟩ prog_4_method_8_code 4 (Option.some .int) ∈ xk_T := xk_in (List.mem_of_getElem? (i := 644) (by decide +kernel)) rfl
theorem xm_612 : Cond.methodLink "Clickbook$JoinTable" 72 ⟨"Clickbook$JoinTable", "slotOf", "(II)I"⟩ ∈ xk_T := xk_in (List.mem_of_getElem? (i := 645) (by decide +kernel)) rfl
theorem xm_613 : Cond.static ⟨"Clickbook$JoinTable", "slotOf", "(II)I"⟩ ∈ xk_T := xk_in (List.mem_of_getElem? (i := 646) (by decide +kernel)) rfl
theorem xm_614 : Cond.code ⟨"Clickbook$JoinTable", "slotOf", "(II)I"⟩ prog_4_method_9_code 3 (Option.some .int) ∈ xk_T := xk_in (List.mem_of_getElem? (i := 647) (by decide +kernel)) rfl
theorem xm_615 : Cond.methodLink "Clickbook$JoinTable" 69 ⟨"Clickbook$JoinTable", "costOfSplice", "(II)I"⟩ ∈ xk_T := xk_in (List.mem_of_getElem? (i := 648) (by decide +kernel)) rfl
theorem xm_617 : Cond.instanceMethod ⟨"Clickbook$JoinTable", "costOfSplice", "(II)I"⟩ ∈ xk_T := xk_in (List.mem_of_getElem? (i := 650) (by decide +kernel)) rfl
theorem xm_618 : Cond.code ⟨"Clickbook$JoinTable", "costOfSplice", "(II)I"⟩ prog_4_method_7_code 3 (Option.some .int) ∈ xk_T := xk_in (List.mem_of_getElem? (i := 651) (by decide +kernel)) rfl
theorem xm_619 : Cond.methodLink "Clickbook$JoinTable" 81 ⟨"java/lang/Math", "abs", "(I)I"⟩ ∈ xk_T := xk_in (List.mem_of_getElem? (i := 652) (by decide +kernel)) rfl
theorem xm_620 : Cond.methodLink "Clickbook" 353 ⟨"Clickbook$JoinTable", "bestWorth", "()I"⟩ ∈ xk_T := xk_in (List.mem_of_getElem? (i := 653) (by decide +kernel)) rfl
theorem xm_621 : Cond.instanceMethod ⟨"Clickbook$JoinTable", "bestWorth", "()I"⟩ ∈ xk_T := xk_in (List.mem_of_getElem? (i := 654) (by decide +kernel)) rfl
theorem xm_622 : Cond.selects "Clickbook$JoinTable" ⟨"Clickbook$JoinTable", "bestWorth", "()I"⟩ ⟨"Clickbook$JoinTable", "bestWorth", "()I"⟩ ∈ xk_T := xk_in (List.mem_of_getElem? (i := 655) (by decide +kernel)) rfl
theorem xm_623 : Cond.code ⟨"Clickbook$JoinTable", "bestWorth", "()I"⟩ prog_4_method_4_code 2 (Option.some .int) ∈ xk_T := xk_in (List.mem_of_getElem? (i := 656) (by decide +kernel)) rfl
theorem xm_624 : Cond.methodLink "ClickbookLaw" 54 ⟨"Clickbook", "bestStart", "(I)I"⟩ ∈ xk_T := xk_in (List.mem_of_getElem? (i := 657) (by decide +kernel)) rfl
theorem xm_625 : Cond.instanceMethod ⟨"Clickbook", "bestStart", "(I)I"⟩ ∈ xk_T := xk_in (List.mem_of_getElem? (i := 658) (by decide +kernel)) rfl
theorem xm_626 : Cond.selects "Clickbook" ⟨"Clickbook", "bestStart", "(I)I"⟩ ⟨"Clickbook", "bestStart", "(I)I"⟩ ∈ xk_T := xk_in (List.mem_of_getElem? (i := 659) (by decide +kernel)) rfl
theorem xm_627 : Cond.code ⟨"Clickbook", "bestStart", "(I)I"⟩ prog_1_method_48_code 9 (Option.some .int) ∈ xk_T := xk_in (List.mem_of_getElem? (i := 660) (by decide +kernel)) rfl
theorem xm_628 : Cond.methodLink "Clickbook" 359 ⟨"Clickbook", "markMetByOthers", "(I)V"⟩ ∈ xk_T := xk_in (List.mem_of_getElem? (i := 661) (by decide +kernel)) rfl
theorem xm_630 : Cond.instanceMethod ⟨"Clickbook", "markMetByOthers", "(I)V"⟩ ∈ xk_T := xk_in (List.mem_of_getElem? (i := 663) (by decide +kernel)) rfl
theorem xm_631 : Cond.code ⟨"Clickbook", "markMetByOthers", "(I)V"⟩ prog_1_method_54_code 3 (Option.none : Option FieldType) ∈ xk_T := xk_in (List.mem_of_getElem? (i := 664) (by decide +kernel)) rfl
theorem xm_632 : Cond.methodLink "Clickbook" 363 ⟨"Clickbook", "countMetWith", "(LClickbook$Cue;I[I)I"⟩ ∈ xk_T := xk_in (List.mem_of_getElem? (i := 665) (by decide +kernel)) rfl
theorem xm_634 : Cond.instanceMethod ⟨"Clickbook", "countMetWith", "(LClickbook$Cue;I[I)I"⟩ ∈ xk_T := xk_in (List.mem_of_getElem? (i := 667) (by decide +kernel)) rfl
theorem xm_635 : Cond.code ⟨"Clickbook", "countMetWith", "(LClickbook$Cue;I[I)I"⟩ prog_1_method_55_code 7 (Option.some .int) ∈ xk_T := xk_in (List.mem_of_getElem? (i := 668) (by decide +kernel)) rfl
theorem xm_636 : Cond.methodLink "ClickbookLaw" 95 ⟨"Clickbook", "bestClick", "(II)I"⟩ ∈ xk_T := xk_in (List.mem_of_getElem? (i := 669) (by decide +kernel)) rfl
theorem xm_637 : Cond.instanceMethod ⟨"Clickbook", "bestClick", "(II)I"⟩ ∈ xk_T := xk_in (List.mem_of_getElem? (i := 670) (by decide +kernel)) rfl
theorem xm_638 : Cond.selects "Clickbook" ⟨"Clickbook", "bestClick", "(II)I"⟩ ⟨"Clickbook", "bestClick", "(II)I"⟩ ∈ xk_T := xk_in (List.mem_of_getElem? (i := 671) (by decide +kernel)) rfl
theorem xm_639 : Cond.code ⟨"Clickbook", "bestClick", "(II)I"⟩ prog_1_method_49_code 11 (Option.some .int) ∈ xk_T := xk_in (List.mem_of_getElem? (i := 672) (by decide +kernel)) rfl
theorem xm_640 : Cond.methodLink "Clickbook" 367 ⟨"Clickbook", "countMetWithClick", "(LClickbook$Cue;II)I"⟩ ∈ xk_T := xk_in (List.mem_of_getElem? (i := 673) (by decide +kernel)) rfl
theorem xm_642 : Cond.instanceMethod ⟨"Clickbook", "countMetWithClick", "(LClickbook$Cue;II)I"⟩ ∈ xk_T := xk_in (List.mem_of_getElem? (i := 675) (by decide +kernel)) rfl
theorem xm_643 : Cond.code ⟨"Clickbook", "countMetWithClick", "(LClickbook$Cue;II)I"⟩ prog_1_method_56_code 4 (Option.some .int) ∈ xk_T := xk_in (List.mem_of_getElem? (i := 676) (by decide +kernel)) rfl
theorem xm_644 : Cond.methodLink "Clickbook" 414 ⟨"Clickbook$Cue", "layOut", "([III)I"⟩ ∈ xk_T := xk_in (List.mem_of_getElem? (i := 677) (by decide +kernel)) rfl
theorem xm_645 : Cond.methodLink "ClickbookLaw" 98 ⟨"Clickbook", "wouldMeet", "(II)I"⟩ ∈ xk_T := xk_in (List.mem_of_getElem? (i := 678) (by decide +kernel)) rfl
theorem xm_646 : Cond.instanceMethod ⟨"Clickbook", "wouldMeet", "(II)I"⟩ ∈ xk_T := xk_in (List.mem_of_getElem? (i := 679) (by decide +kernel)) rfl
theorem xm_647 : Cond.selects "Clickbook" ⟨"Clickbook", "wouldMeet", "(II)I"⟩ ⟨"Clickbook", "wouldMeet", "(II)I"⟩ ∈ xk_T := xk_in (List.mem_of_getElem? (i := 680) (by decide +kernel)) rfl
theorem xm_648 : Cond.code ⟨"Clickbook", "wouldMeet", "(II)I"⟩ prog_1_method_50_code 6 (Option.some .int) ∈ xk_T := xk_in (List.mem_of_getElem? (i := 681) (by decide +kernel)) rfl
theorem xm_649 : Cond.methodLink "Clickbook" 76 ⟨"Clickbook", "refuseBadCut", "(II)V"⟩ ∈ xk_T := xk_in (List.mem_of_getElem? (i := 682) (by decide +kernel)) rfl
theorem xm_651 : Cond.instanceMethod ⟨"Clickbook", "refuseBadCut", "(II)V"⟩ ∈ xk_T := xk_in (List.mem_of_getElem? (i := 684) (by decide +kernel)) rfl
theorem xm_652 : Cond.code ⟨"Clickbook", "refuseBadCut", "(II)V"⟩ prog_1_method_6_code 3 (Option.none : Option FieldType) ∈ xk_T := xk_in (List.mem_of_getElem? (i := 685) (by decide +kernel)) rfl
theorem xm_655 : Cond.methodLink "Clickbook" 115 ⟨"Clickbook", "isTakenOut", "(III)Z"⟩ ∈ xk_T := xk_in (List.mem_of_getElem? (i := 688) (by decide +kernel)) rfl
theorem xm_656 : Cond.static ⟨"Clickbook", "isTakenOut", "(III)Z"⟩ ∈ xk_T := xk_in (List.mem_of_getElem? (i := 689) (by decide +kernel)) rfl
theorem xm_657 : Cond.code ⟨"Clickbook", "isTakenOut", "(III)Z"⟩ prog_1_method_7_code 3 (Option.some .boolean) ∈ xk_T := xk_in (List.mem_of_getElem? (i := 690) (by decide +kernel)) rfl
theorem xm_658 : Cond.methodLink "Clickbook" 371 ⟨"Clickbook", "wouldBeMet", "(LClickbook$Hit;II)Z"⟩ ∈ xk_T := xk_in (List.mem_of_getElem? (i := 691) (by decide +kernel)) rfl
theorem xm_660 : Cond.instanceMethod ⟨"Clickbook", "wouldBeMet", "(LClickbook$Hit;II)Z"⟩ ∈ xk_T := xk_in (List.mem_of_getElem? (i := 693) (by decide +kernel)) rfl
theorem xm_661 : Cond.code ⟨"Clickbook", "wouldBeMet", "(LClickbook$Hit;II)Z"⟩ prog_1_method_57_code 7 (Option.some .boolean) ∈ xk_T := xk_in (List.mem_of_getElem? (i := 694) (by decide +kernel)) rfl
theorem xm_662 : Cond.methodLink "Clickbook" 95 ⟨"Clickbook", "movedFrame", "(III)I"⟩ ∈ xk_T := xk_in (List.mem_of_getElem? (i := 695) (by decide +kernel)) rfl
theorem xm_663 : Cond.static ⟨"Clickbook", "movedFrame", "(III)I"⟩ ∈ xk_T := xk_in (List.mem_of_getElem? (i := 696) (by decide +kernel)) rfl
theorem xm_664 : Cond.code ⟨"Clickbook", "movedFrame", "(III)I"⟩ prog_1_method_8_code 3 (Option.some .int) ∈ xk_T := xk_in (List.mem_of_getElem? (i := 697) (by decide +kernel)) rfl
theorem xm_665 : Cond.methodLink "ClickbookLaw" 85 ⟨"Clickbook", "digest", "()J"⟩ ∈ xk_T := xk_in (List.mem_of_getElem? (i := 698) (by decide +kernel)) rfl
theorem xm_666 : Cond.instanceMethod ⟨"Clickbook", "digest", "()J"⟩ ∈ xk_T := xk_in (List.mem_of_getElem? (i := 699) (by decide +kernel)) rfl
theorem xm_667 : Cond.selects "Clickbook" ⟨"Clickbook", "digest", "()J"⟩ ⟨"Clickbook", "digest", "()J"⟩ ∈ xk_T := xk_in (List.mem_of_getElem? (i := 700) (by decide +kernel)) rfl
theorem xm_668 : Cond.code ⟨"Clickbook", "digest", "()J"⟩ prog_1_method_51_code 5 (Option.some .long) ∈ xk_T := xk_in (List.mem_of_getElem? (i := 701) (by decide +kernel)) rfl
theorem xm_669 : Cond.constantLong "Clickbook" 375 58231 ∈ xk_T := xk_in (List.mem_of_getElem? (i := 702) (by decide +kernel)) rfl
theorem xm_670 : Cond.methodLink "Clickbook" 377 ⟨"Clickbook", "many", "(I)I"⟩ ∈ xk_T := xk_in (List.mem_of_getElem? (i := 703) (by decide +kernel)) rfl
theorem xm_671 : Cond.methodLink "Clickbook" 380 ⟨"Clickbook", "mixed", "(JJ)J"⟩ ∈ xk_T := xk_in (List.mem_of_getElem? (i := 704) (by decide +kernel)) rfl
theorem xm_672 : Cond.static ⟨"Clickbook", "mixed", "(JJ)J"⟩ ∈ xk_T := xk_in (List.mem_of_getElem? (i := 705) (by decide +kernel)) rfl
theorem xm_673 : Cond.code ⟨"Clickbook", "mixed", "(JJ)J"⟩ prog_1_method_53_code 4 (Option.some .long) ∈ xk_T := xk_in (List.mem_of_getElem? (i := 706) (by decide +kernel)) rfl
theorem xm_674 : Cond.constantLong "Clickbook" 412 31 ∈ xk_T := xk_in (List.mem_of_getElem? (i := 707) (by decide +kernel)) rfl
theorem xm_675 : Cond.methodLink "Clickbook" 384 ⟨"Clickbook", "ofHit", "(II)I"⟩ ∈ xk_T := xk_in (List.mem_of_getElem? (i := 708) (by decide +kernel)) rfl
theorem xm_676 : Cond.instanceMethod ⟨"Clickbook", "ofHit", "(II)I"⟩ ∈ xk_T := xk_in (List.mem_of_getElem? (i := 709) (by decide +kernel)) rfl
theorem xm_677 : Cond.selects "Clickbook" ⟨"Clickbook", "ofHit", "(II)I"⟩ ⟨"Clickbook", "ofHit", "(II)I"⟩ ∈ xk_T := xk_in (List.mem_of_getElem? (i := 710) (by decide +kernel)) rfl
theorem xm_678 : Cond.code ⟨"Clickbook", "ofHit", "(II)I"⟩ prog_1_method_20_code 4 (Option.some .int) ∈ xk_T := xk_in (List.mem_of_getElem? (i := 711) (by decide +kernel)) rfl
theorem xm_680 : Cond.methodLink "Clickbook" 225 ⟨"Clickbook", "missOf", "(LClickbook$Hit;)I"⟩ ∈ xk_T := xk_in (List.mem_of_getElem? (i := 713) (by decide +kernel)) rfl
theorem xm_682 : Cond.instanceMethod ⟨"Clickbook", "missOf", "(LClickbook$Hit;)I"⟩ ∈ xk_T := xk_in (List.mem_of_getElem? (i := 715) (by decide +kernel)) rfl
theorem xm_683 : Cond.code ⟨"Clickbook", "missOf", "(LClickbook$Hit;)I"⟩ prog_1_method_29_code 3 (Option.some .int) ∈ xk_T := xk_in (List.mem_of_getElem? (i := 716) (by decide +kernel)) rfl
theorem xm_684 : Cond.methodLink "Clickbook" 233 ⟨"Clickbook", "nearestCue", "(LClickbook$Hit;)I"⟩ ∈ xk_T := xk_in (List.mem_of_getElem? (i := 717) (by decide +kernel)) rfl
theorem xm_686 : Cond.instanceMethod ⟨"Clickbook", "nearestCue", "(LClickbook$Hit;)I"⟩ ∈ xk_T := xk_in (List.mem_of_getElem? (i := 719) (by decide +kernel)) rfl
theorem xm_687 : Cond.code ⟨"Clickbook", "nearestCue", "(LClickbook$Hit;)I"⟩ prog_1_method_28_code 6 (Option.some .int) ∈ xk_T := xk_in (List.mem_of_getElem? (i := 720) (by decide +kernel)) rfl
theorem xm_688 : Cond.methodLink "Clickbook" 330 ⟨"Clickbook$Cue", "missOf", "(I)I"⟩ ∈ xk_T := xk_in (List.mem_of_getElem? (i := 721) (by decide +kernel)) rfl
theorem xm_689 : Cond.instanceMethod ⟨"Clickbook$Cue", "missOf", "(I)I"⟩ ∈ xk_T := xk_in (List.mem_of_getElem? (i := 722) (by decide +kernel)) rfl
theorem xm_690 : Cond.selects "Clickbook$Cue" ⟨"Clickbook$Cue", "missOf", "(I)I"⟩ ⟨"Clickbook$Cue", "missOf", "(I)I"⟩ ∈ xk_T := xk_in (List.mem_of_getElem? (i := 723) (by decide +kernel)) rfl
theorem xm_691 : Cond.code ⟨"Clickbook$Cue", "missOf", "(I)I"⟩ prog_2_method_10_code 3 (Option.some .int) ∈ xk_T := xk_in (List.mem_of_getElem? (i := 724) (by decide +kernel)) rfl
theorem xm_692 : Cond.methodLink "Clickbook$Cue" 73 ⟨"Clickbook$Cue", "nearestBeat", "(I)I"⟩ ∈ xk_T := xk_in (List.mem_of_getElem? (i := 725) (by decide +kernel)) rfl
theorem xm_693 : Cond.instanceMethod ⟨"Clickbook$Cue", "nearestBeat", "(I)I"⟩ ∈ xk_T := xk_in (List.mem_of_getElem? (i := 726) (by decide +kernel)) rfl
theorem xm_694 : Cond.selects "Clickbook$Cue" ⟨"Clickbook$Cue", "nearestBeat", "(I)I"⟩ ⟨"Clickbook$Cue", "nearestBeat", "(I)I"⟩ ∈ xk_T := xk_in (List.mem_of_getElem? (i := 727) (by decide +kernel)) rfl
theorem xm_695 : Cond.code ⟨"Clickbook$Cue", "nearestBeat", "(I)I"⟩ prog_2_method_9_code 6 (Option.some .int) ∈ xk_T := xk_in (List.mem_of_getElem? (i := 728) (by decide +kernel)) rfl
theorem xm_696 : Cond.methodLink "Clickbook$Cue" 76 ⟨"Clickbook$Cue", "beatFrame", "(I)I"⟩ ∈ xk_T := xk_in (List.mem_of_getElem? (i := 729) (by decide +kernel)) rfl
theorem xm_697 : Cond.instanceMethod ⟨"Clickbook$Cue", "beatFrame", "(I)I"⟩ ∈ xk_T := xk_in (List.mem_of_getElem? (i := 730) (by decide +kernel)) rfl
theorem xm_698 : Cond.selects "Clickbook$Cue" ⟨"Clickbook$Cue", "beatFrame", "(I)I"⟩ ⟨"Clickbook$Cue", "beatFrame", "(I)I"⟩ ∈ xk_T := xk_in (List.mem_of_getElem? (i := 731) (by decide +kernel)) rfl
theorem xm_699 : Cond.code ⟨"Clickbook$Cue", "beatFrame", "(I)I"⟩ prog_2_method_5_code 2 (Option.some .int) ∈ xk_T := xk_in (List.mem_of_getElem? (i := 732) (by decide +kernel)) rfl
theorem xm_700 : Cond.methodLink "Clickbook" 236 ⟨"Clickbook", "nearestBeat", "(LClickbook$Hit;)I"⟩ ∈ xk_T := xk_in (List.mem_of_getElem? (i := 733) (by decide +kernel)) rfl
theorem xm_702 : Cond.instanceMethod ⟨"Clickbook", "nearestBeat", "(LClickbook$Hit;)I"⟩ ∈ xk_T := xk_in (List.mem_of_getElem? (i := 735) (by decide +kernel)) rfl
theorem xm_703 : Cond.code ⟨"Clickbook", "nearestBeat", "(LClickbook$Hit;)I"⟩ prog_1_method_30_code 3 (Option.some .int) ∈ xk_T := xk_in (List.mem_of_getElem? (i := 736) (by decide +kernel)) rfl
theorem xm_704 : Cond.methodLink "Clickbook" 332 ⟨"Clickbook$Cue", "nearestBeat", "(I)I"⟩ ∈ xk_T := xk_in (List.mem_of_getElem? (i := 737) (by decide +kernel)) rfl
theorem xm_706 : Cond.methodLink "Clickbook" 387 ⟨"Clickbook", "mixedCue", "(JI)J"⟩ ∈ xk_T := xk_in (List.mem_of_getElem? (i := 739) (by decide +kernel)) rfl
theorem xm_708 : Cond.instanceMethod ⟨"Clickbook", "mixedCue", "(JI)J"⟩ ∈ xk_T := xk_in (List.mem_of_getElem? (i := 741) (by decide +kernel)) rfl
theorem xm_709 : Cond.code ⟨"Clickbook", "mixedCue", "(JI)J"⟩ prog_1_method_52_code 9 (Option.some .long) ∈ xk_T := xk_in (List.mem_of_getElem? (i := 742) (by decide +kernel)) rfl
theorem xm_710 : Cond.methodLink "Clickbook" 406 ⟨"Clickbook", "ofCue", "(II)I"⟩ ∈ xk_T := xk_in (List.mem_of_getElem? (i := 743) (by decide +kernel)) rfl
theorem xm_711 : Cond.methodLink "Clickbook" 409 ⟨"Clickbook", "ofBar", "(III)I"⟩ ∈ xk_T := xk_in (List.mem_of_getElem? (i := 744) (by decide +kernel)) rfl
theorem xm_712 : Cond.instanceMethod ⟨"Clickbook", "ofBar", "(III)I"⟩ ∈ xk_T := xk_in (List.mem_of_getElem? (i := 745) (by decide +kernel)) rfl
theorem xm_713 : Cond.selects "Clickbook" ⟨"Clickbook", "ofBar", "(III)I"⟩ ⟨"Clickbook", "ofBar", "(III)I"⟩ ∈ xk_T := xk_in (List.mem_of_getElem? (i := 746) (by decide +kernel)) rfl
theorem xm_714 : Cond.code ⟨"Clickbook", "ofBar", "(III)I"⟩ prog_1_method_22_code 5 (Option.some .int) ∈ xk_T := xk_in (List.mem_of_getElem? (i := 747) (by decide +kernel)) rfl
theorem xm_715 : Cond.methodLink "Clickbook" 275 ⟨"Clickbook$Cue", "firstBeat", "(I)I"⟩ ∈ xk_T := xk_in (List.mem_of_getElem? (i := 748) (by decide +kernel)) rfl
theorem xm_716 : Cond.methodLink "Clickbook" 279 ⟨"Clickbook$Cue", "beatFrame", "(I)I"⟩ ∈ xk_T := xk_in (List.mem_of_getElem? (i := 749) (by decide +kernel)) rfl
theorem xm_718 : Cond.methodLink "Clickbook" 356 ⟨"Clickbook$JoinTable", "takeOf", "(I)I"⟩ ∈ xk_T := xk_in (List.mem_of_getElem? (i := 751) (by decide +kernel)) rfl
theorem xm_719 : Cond.instanceMethod ⟨"Clickbook$JoinTable", "takeOf", "(I)I"⟩ ∈ xk_T := xk_in (List.mem_of_getElem? (i := 752) (by decide +kernel)) rfl
theorem xm_720 : Cond.selects "Clickbook$JoinTable" ⟨"Clickbook$JoinTable", "takeOf", "(I)I"⟩ ⟨"Clickbook$JoinTable", "takeOf", "(I)I"⟩ ∈ xk_T := xk_in (List.mem_of_getElem? (i := 753) (by decide +kernel)) rfl
theorem xm_721 : Cond.code ⟨"Clickbook$JoinTable", "takeOf", "(I)I"⟩ prog_4_method_5_code 4 (Option.some .int) ∈ xk_T := xk_in (List.mem_of_getElem? (i := 754) (by decide +kernel)) rfl
theorem xm_722 : Cond.methodLink "Clickbook" 391 ⟨"Clickbook", "ofTake", "(II)I"⟩ ∈ xk_T := xk_in (List.mem_of_getElem? (i := 755) (by decide +kernel)) rfl
theorem xm_723 : Cond.methodLink "Clickbook" 394 ⟨"Clickbook", "sheet", "(I)I"⟩ ∈ xk_T := xk_in (List.mem_of_getElem? (i := 756) (by decide +kernel)) rfl
theorem xm_724 : Cond.instanceMethod ⟨"Clickbook", "sheet", "(I)I"⟩ ∈ xk_T := xk_in (List.mem_of_getElem? (i := 757) (by decide +kernel)) rfl
theorem xm_725 : Cond.selects "Clickbook" ⟨"Clickbook", "sheet", "(I)I"⟩ ⟨"Clickbook", "sheet", "(I)I"⟩ ∈ xk_T := xk_in (List.mem_of_getElem? (i := 758) (by decide +kernel)) rfl
theorem xm_726 : Cond.code ⟨"Clickbook", "sheet", "(I)I"⟩ prog_1_method_25_code 5 (Option.some .int) ∈ xk_T := xk_in (List.mem_of_getElem? (i := 759) (by decide +kernel)) rfl
theorem xm_728 : Cond.methodLink "Clickbook" 397 ⟨"Clickbook", "wouldMeet", "(II)I"⟩ ∈ xk_T := xk_in (List.mem_of_getElem? (i := 761) (by decide +kernel)) rfl
theorem xm_729 : Cond.methodLink "Clickbook" 400 ⟨"java/util/ArrayList", "isEmpty", "()Z"⟩ ∈ xk_T := xk_in (List.mem_of_getElem? (i := 762) (by decide +kernel)) rfl
theorem xm_730 : Cond.instanceMethod ⟨"java/util/ArrayList", "isEmpty", "()Z"⟩ ∈ xk_T := xk_in (List.mem_of_getElem? (i := 763) (by decide +kernel)) rfl
theorem xm_731 : Cond.selects "java/util/ArrayList" ⟨"java/util/ArrayList", "isEmpty", "()Z"⟩ ⟨"java/util/ArrayList", "isEmpty", "()Z"⟩ ∈ xk_T := xk_in (List.mem_of_getElem? (i := 764) (by decide +kernel)) rfl
theorem xm_732 : Cond.code ⟨"java/util/ArrayList", "isEmpty", "()Z"⟩ prog_25_method_9_code 1 (Option.some .boolean) ∈ xk_T := xk_in (List.mem_of_getElem? (i := 765) (by decide +kernel)) rfl
theorem xm_733 : Cond.methodLink "Clickbook" 403 ⟨"Clickbook", "bestStart", "(I)I"⟩ ∈ xk_T := xk_in (List.mem_of_getElem? (i := 766) (by decide +kernel)) rfl
theorem xm_734 : Cond.methodLink "ClickbookLaw" 18 ⟨"ClickbookLaw", "below", "(II)I"⟩ ∈ xk_T := xk_in (List.mem_of_getElem? (i := 767) (by decide +kernel)) rfl
theorem xm_735 : Cond.static ⟨"ClickbookLaw", "below", "(II)I"⟩ ∈ xk_T := xk_in (List.mem_of_getElem? (i := 768) (by decide +kernel)) rfl
theorem xm_736 : Cond.code ⟨"ClickbookLaw", "below", "(II)I"⟩ method_2_code 2 (Option.some .int) ∈ xk_T := xk_in (List.mem_of_getElem? (i := 769) (by decide +kernel)) rfl
theorem xm_737 : Cond.constant "ClickbookLaw" 7 2147483647 ∈ xk_T := xk_in (List.mem_of_getElem? (i := 770) (by decide +kernel)) rfl
theorem xm_738 : Cond.methodLink "ClickbookLaw" 12 ⟨"ClickbookLaw", "cell", "([II)I"⟩ ∈ xk_T := xk_in (List.mem_of_getElem? (i := 771) (by decide +kernel)) rfl
theorem xm_739 : Cond.static ⟨"ClickbookLaw", "cell", "([II)I"⟩ ∈ xk_T := xk_in (List.mem_of_getElem? (i := 772) (by decide +kernel)) rfl
theorem xm_740 : Cond.code ⟨"ClickbookLaw", "cell", "([II)I"⟩ method_3_code 2 (Option.some .int) ∈ xk_T := xk_in (List.mem_of_getElem? (i := 773) (by decide +kernel)) rfl
theorem xm_741 : Cond.constant "ClickbookLaw" 8 790386105 ∈ xk_T := xk_in (List.mem_of_getElem? (i := 774) (by decide +kernel)) rfl
theorem xm_742 : Cond.methodLink "ClickbookLaw" 50 ⟨"ClickbookLaw", "isBack", "(LClickbook;II)Z"⟩ ∈ xk_T := xk_in (List.mem_of_getElem? (i := 775) (by decide +kernel)) rfl
theorem xm_743 : Cond.static ⟨"ClickbookLaw", "isBack", "(LClickbook;II)Z"⟩ ∈ xk_T := xk_in (List.mem_of_getElem? (i := 776) (by decide +kernel)) rfl
theorem xm_744 : Cond.code ⟨"ClickbookLaw", "isBack", "(LClickbook;II)Z"⟩ method_5_code 13 (Option.some .boolean) ∈ xk_T := xk_in (List.mem_of_getElem? (i := 777) (by decide +kernel)) rfl
theorem xm_745 : Cond.methodLink "ClickbookLaw" 101 ⟨"Clickbook", "ofHit", "(II)I"⟩ ∈ xk_T := xk_in (List.mem_of_getElem? (i := 778) (by decide +kernel)) rfl
theorem xm_746 : Cond.methodLink "ClickbookLaw" 104 ⟨"Clickbook", "change", "(II)I"⟩ ∈ xk_T := xk_in (List.mem_of_getElem? (i := 779) (by decide +kernel)) rfl
theorem xm_747 : Cond.instanceMethod ⟨"Clickbook", "change", "(II)I"⟩ ∈ xk_T := xk_in (List.mem_of_getElem? (i := 780) (by decide +kernel)) rfl
theorem xm_748 : Cond.selects "Clickbook" ⟨"Clickbook", "change", "(II)I"⟩ ⟨"Clickbook", "change", "(II)I"⟩ ∈ xk_T := xk_in (List.mem_of_getElem? (i := 781) (by decide +kernel)) rfl
theorem xm_749 : Cond.code ⟨"Clickbook", "change", "(II)I"⟩ prog_1_method_4_code 5 (Option.some .int) ∈ xk_T := xk_in (List.mem_of_getElem? (i := 782) (by decide +kernel)) rfl
theorem xm_751 : Cond.methodLink "Clickbook" 84 ⟨"Clickbook", "cutCues", "(II)I"⟩ ∈ xk_T := xk_in (List.mem_of_getElem? (i := 784) (by decide +kernel)) rfl
theorem xm_753 : Cond.instanceMethod ⟨"Clickbook", "cutCues", "(II)I"⟩ ∈ xk_T := xk_in (List.mem_of_getElem? (i := 786) (by decide +kernel)) rfl
theorem xm_754 : Cond.code ⟨"Clickbook", "cutCues", "(II)I"⟩ prog_1_method_5_code 6 (Option.some .int) ∈ xk_T := xk_in (List.mem_of_getElem? (i := 787) (by decide +kernel)) rfl
theorem xm_755 : Cond.methodLink "Clickbook" 101 ⟨"Clickbook$Cue", "isTouched", "(II)Z"⟩ ∈ xk_T := xk_in (List.mem_of_getElem? (i := 788) (by decide +kernel)) rfl
theorem xm_756 : Cond.instanceMethod ⟨"Clickbook$Cue", "isTouched", "(II)Z"⟩ ∈ xk_T := xk_in (List.mem_of_getElem? (i := 789) (by decide +kernel)) rfl
theorem xm_757 : Cond.selects "Clickbook$Cue" ⟨"Clickbook$Cue", "isTouched", "(II)Z"⟩ ⟨"Clickbook$Cue", "isTouched", "(II)Z"⟩ ∈ xk_T := xk_in (List.mem_of_getElem? (i := 790) (by decide +kernel)) rfl
theorem xm_758 : Cond.code ⟨"Clickbook$Cue", "isTouched", "(II)Z"⟩ prog_2_method_8_code 3 (Option.some .boolean) ∈ xk_T := xk_in (List.mem_of_getElem? (i := 791) (by decide +kernel)) rfl
theorem xm_759 : Cond.methodLink "Clickbook$Cue" 64 ⟨"Clickbook$Cue", "end", "()I"⟩ ∈ xk_T := xk_in (List.mem_of_getElem? (i := 792) (by decide +kernel)) rfl
theorem xm_760 : Cond.methodLink "Clickbook" 92 ⟨"Clickbook$Hit", "cut", "(II)V"⟩ ∈ xk_T := xk_in (List.mem_of_getElem? (i := 793) (by decide +kernel)) rfl
theorem xm_761 : Cond.instanceMethod ⟨"Clickbook$Hit", "cut", "(II)V"⟩ ∈ xk_T := xk_in (List.mem_of_getElem? (i := 794) (by decide +kernel)) rfl
theorem xm_762 : Cond.selects "Clickbook$Hit" ⟨"Clickbook$Hit", "cut", "(II)V"⟩ ⟨"Clickbook$Hit", "cut", "(II)V"⟩ ∈ xk_T := xk_in (List.mem_of_getElem? (i := 795) (by decide +kernel)) rfl
theorem xm_763 : Cond.code ⟨"Clickbook$Hit", "cut", "(II)V"⟩ prog_3_method_2_code 3 (Option.none : Option FieldType) ∈ xk_T := xk_in (List.mem_of_getElem? (i := 796) (by decide +kernel)) rfl
theorem xm_764 : Cond.methodLinkNest "Clickbook$Hit" 20 ⟨"Clickbook", "isTakenOut", "(III)Z"⟩ "Clickbook" ∈ lw_tbl := List.mem_of_getElem? (i := 797) (by decide +kernel)
theorem xm_765 : Cond.methodLinkNest "Clickbook$Hit" 26 ⟨"Clickbook", "movedFrame", "(III)I"⟩ "Clickbook" ∈ lw_tbl := List.mem_of_getElem? (i := 798) (by decide +kernel)
theorem xm_766 : Cond.methodLink "ClickbookLaw" 75 ⟨"ClickbookLaw", "areWell", "(LClickbook;)Z"⟩ ∈ xk_T := xk_in (List.mem_of_getElem? (i := 799) (by decide +kernel)) rfl
theorem xm_767 : Cond.static ⟨"ClickbookLaw", "areWell", "(LClickbook;)Z"⟩ ∈ xk_T := xk_in (List.mem_of_getElem? (i := 800) (by decide +kernel)) rfl
theorem xm_768 : Cond.code ⟨"ClickbookLaw", "areWell", "(LClickbook;)Z"⟩ method_6_code 8 (Option.some .boolean) ∈ xk_T := xk_in (List.mem_of_getElem? (i := 801) (by decide +kernel)) rfl
theorem xm_769 : Cond.methodLink "ClickbookLaw" 107 ⟨"Clickbook", "beat", "(II)I"⟩ ∈ xk_T := xk_in (List.mem_of_getElem? (i := 802) (by decide +kernel)) rfl
theorem xm_770 : Cond.instanceMethod ⟨"Clickbook", "beat", "(II)I"⟩ ∈ xk_T := xk_in (List.mem_of_getElem? (i := 803) (by decide +kernel)) rfl
theorem xm_771 : Cond.selects "Clickbook" ⟨"Clickbook", "beat", "(II)I"⟩ ⟨"Clickbook", "beat", "(II)I"⟩ ∈ xk_T := xk_in (List.mem_of_getElem? (i := 804) (by decide +kernel)) rfl
theorem xm_772 : Cond.code ⟨"Clickbook", "beat", "(II)I"⟩ prog_1_method_23_code 4 (Option.some .int) ∈ xk_T := xk_in (List.mem_of_getElem? (i := 805) (by decide +kernel)) rfl
theorem xm_774 : Cond.methodLink "ClickbookLaw" 57 ⟨"java/lang/Math", "abs", "(I)I"⟩ ∈ xk_T := xk_in (List.mem_of_getElem? (i := 807) (by decide +kernel)) rfl
theorem xm_775 : Cond.methodLink "ClickbookLaw" 110 ⟨"Clickbook", "sheet", "(I)I"⟩ ∈ xk_T := xk_in (List.mem_of_getElem? (i := 808) (by decide +kernel)) rfl
theorem xm_776 : Cond.methodLink "ClickbookLaw" 65 ⟨"java/lang/Math", "max", "(II)I"⟩ ∈ xk_T := xk_in (List.mem_of_getElem? (i := 809) (by decide +kernel)) rfl
theorem xm_777 : Cond.constantDouble "ClickbookLaw" 93 (4621256167635550208 : UInt64) ∈ xk_T := xk_in (List.mem_of_getElem? (i := 810) (by decide +kernel)) rfl
theorem xm_778 : Cond.sameMethod "java/lang/Throwable" "java/lang/Throwable" "fillInStackTrace" "(I)Ljava/lang/Throwable;" ∈ xk_T := xk_in (List.mem_of_getElem? (i := 811) (by decide +kernel)) rfl
theorem xm_779 : Cond.castable "Clickbook" "java/lang/Object" ∈ lw_tbl := List.mem_of_getElem? (i := 812) (by decide +kernel)
theorem xm_780 : Cond.castable "java/util/ArrayList" "java/lang/Object" ∈ lw_tbl := List.mem_of_getElem? (i := 813) (by decide +kernel)
theorem xm_781 : Cond.castable "Clickbook$JoinTable" "java/lang/Object" ∈ lw_tbl := List.mem_of_getElem? (i := 814) (by decide +kernel)
theorem xm_782 : Cond.castable "java/lang/IllegalArgumentException" "java/lang/Object" ∈ lw_tbl := List.mem_of_getElem? (i := 815) (by decide +kernel)
theorem xm_783 : Cond.castable "java/lang/IllegalStateException" "java/lang/Object" ∈ lw_tbl := List.mem_of_getElem? (i := 816) (by decide +kernel)
theorem xm_784 : Cond.castable "Clickbook$Hit" "java/lang/Object" ∈ lw_tbl := List.mem_of_getElem? (i := 817) (by decide +kernel)
theorem xm_785 : Cond.castable "java/lang/IndexOutOfBoundsException" "java/lang/Object" ∈ lw_tbl := List.mem_of_getElem? (i := 818) (by decide +kernel)
theorem xm_786 : Cond.castable "Clickbook$Cue" "java/lang/Object" ∈ lw_tbl := List.mem_of_getElem? (i := 819) (by decide +kernel)
theorem xm_787 : Cond.castable "Clickbook$Take" "java/lang/Object" ∈ lw_tbl := List.mem_of_getElem? (i := 820) (by decide +kernel)
theorem xm_788 : Cond.castable "java/lang/Throwable" "java/lang/Object" ∈ lw_tbl := List.mem_of_getElem? (i := 821) (by decide +kernel)
theorem xm_789 : Cond.castable "java/lang/String" "java/lang/Object" ∈ lw_tbl := List.mem_of_getElem? (i := 822) (by decide +kernel)
theorem xm_790 : Cond.sameMethod "[Ljava/lang/Object;" "java/lang/Object" "getClass" "()Ljava/lang/Class;" ∈ xk_T := xk_in (List.mem_of_getElem? (i := 823) (by decide +kernel)) rfl
theorem xm_791 : Cond.selects "[Ljava/lang/Object;" ⟨"java/lang/Object", "getClass", "()Ljava/lang/Class;"⟩ ⟨"java/lang/Object", "getClass", "()Ljava/lang/Class;"⟩ ∈ xk_T := xk_in (List.mem_of_getElem? (i := 824) (by decide +kernel)) rfl
theorem xm_792 : Cond.declares ⟨"java/lang/Object", "getClass", "()Ljava/lang/Class;"⟩ ∈ lw_tbl := List.mem_of_getElem? (i := 825) (by decide +kernel)
theorem xm_793 : Cond.castable "[I" "java/lang/Object" ∈ lw_tbl := List.mem_of_getElem? (i := 826) (by decide +kernel)
theorem xm_794 : Cond.castable "[Z" "java/lang/Object" ∈ lw_tbl := List.mem_of_getElem? (i := 827) (by decide +kernel)
theorem xm_795 : Cond.castable "[B" "java/lang/Object" ∈ lw_tbl := List.mem_of_getElem? (i := 828) (by decide +kernel)
theorem xm_796 : Cond.castable "[Ljava/lang/Object;" "java/lang/Object" ∈ lw_tbl := List.mem_of_getElem? (i := 829) (by decide +kernel)
end
section
/-! THE WORLD AS A MAP: every cell that the run has made, by its address; rows over it. xk_T, xk_cl, xk_tys stand in the part ahead. -/
abbrev xE : Type := (Nat × vp_A) ⊕ (Nat × List Value)
/-- the cells, the next address, the address of the shared empty row -/
abbrev xWd : Type := (Nat → Option xE) × Nat × Nat
def xk_toE (dA : Nat → ClassId) (z : xE) : va_E := match z with
  | .inl a => .inl (dA a.1, a.2)
  | .inr o => .inr o
/-- kind 3 is the shared empty row: no cell of ours -/
def xk_own (z : xE) : Prop := match z with
  | .inl a => a.1 ≠ 3
  | .inr _ => True
def xk_A (z0 : Nat) : Nat → Prop := fun q => z0 ≤ q
/-- what stays the same through a run: the classes' numbers, the rows' classes, the first address of ours, the shared empty row -/
abbrev xEv : Type := va_G × (Nat → ClassId) × Nat × Nat
def xk_H (E : xEv) (w : xWd) (H : Heap) : Prop := H.size = w.2.1 ∧ E.2.2.1 ≤ w.2.1 ∧ w.2.2 = E.2.2.2 ∧ ∀ a z, w.1 a = some z → va_at E.1 xk_cl (a, xk_toE E.2.1 z) H ∧ (xk_own z → E.2.2.1 ≤ a)
def xk_S (E : xEv) (U : State) : Prop := E.2.2.1 ≤ U.heap.size ∧ va_K E.1 xk_cl (xk_tys E.2.1) U ∧ va_Z "java/util/ArrayList" "DEFAULTCAPACITY_EMPTY_ELEMENTDATA" "[Ljava/lang/Object;" (.ref E.2.2.2) (xk_A E.2.2.1) U U.heap ∧ xk_N U
def xk_obj (w : xWd) (r : Option Nat) (ci : Nat) : Option (List Value) := match r with
  | none => none
  | some a => match w.1 a with
    | some (.inr o) => if o.1 = ci then some o.2 else none
    | _ => none
def xk_arr (w : xWd) (r : Option Nat) : Option (Nat × vp_A) := match r with
  | none => none
  | some a => match w.1 a with
    | some (.inl z) => some z
    | _ => none
theorem xk_obj_e {w : xWd} {r : Option Nat} {ci : Nat} {fs : List Value} (h : xk_obj w r ci = some fs) : ∃ a, r = some a ∧ w.1 a = some (.inr (ci, fs)) := by
  cases r with
  | none => simp [xk_obj] at h
  | some a =>
    refine ⟨a, rfl, ?_⟩
    simp only [xk_obj] at h
    split at h
    · rename_i o ho
      by_cases e : o.1 = ci
      · rw [if_pos e] at h
        cases h
        rw [ho, ← e]
      · rw [if_neg e] at h
        cases h
    · cases h
theorem xk_arr_e {w : xWd} {r : Option Nat} {z : Nat × vp_A} (h : xk_arr w r = some z) : ∃ a, r = some a ∧ w.1 a = some (.inl z) := by
  cases r with
  | none => simp [xk_arr] at h
  | some a =>
    refine ⟨a, rfl, ?_⟩
    simp only [xk_arr] at h
    split at h
    · rename_i o ho
      cases h
      rw [ho]
    · cases h
def xk_vI (v : Option Value) : Option Int32 := match v with
  | some (.int x) => some x
  | _ => none
def xk_vR (v : Option Value) : Option (Option Nat) := match v with
  | some (.ref a) => some (some a)
  | some .null => some none
  | _ => none
theorem xk_vI_e {v : Option Value} {x : Int32} (h : xk_vI v = some x) : v = some (.int x) := by
  unfold xk_vI at h
  split at h
  · cases h; rfl
  · cases h
theorem xk_vR_e {v : Option Value} {x : Option Nat} (h : xk_vR v = some x) : v = some (va_rf x) := by
  unfold xk_vR at h
  split at h
  · cases h; rfl
  · cases h; rfl
  · cases h
def xk_gI (w : xWd) (r : Option Nat) (ci k : Nat) : Option Int32 := (xk_obj w r ci).bind fun fs => xk_vI (fs[k]?)
def xk_gR (w : xWd) (r : Option Nat) (ci k : Nat) : Option (Option Nat) := (xk_obj w r ci).bind fun fs => xk_vR (fs[k]?)
theorem xk_bi {α β : Type} {o : Option α} {f : α → Option β} {r : β} (h : o.bind f = some r) : ∃ x, o = some x ∧ f x = some r := by
  cases o with
  | none => cases h
  | some x => exact ⟨x, rfl, h⟩
theorem xk_gI_e {w : xWd} {r : Option Nat} {ci k : Nat} {v : Int32} (h : xk_gI w r ci k = some v) : ∃ a fs, r = some a ∧ w.1 a = some (.inr (ci, fs)) ∧ fs[k]? = some (.int v) := by
  obtain ⟨fs, h1, h2⟩ := xk_bi h
  obtain ⟨a, h3, h4⟩ := xk_obj_e h1
  exact ⟨a, fs, h3, h4, xk_vI_e h2⟩
theorem xk_gR_e {w : xWd} {r : Option Nat} {ci k : Nat} {v : Option Nat} (h : xk_gR w r ci k = some v) : ∃ a fs, r = some a ∧ w.1 a = some (.inr (ci, fs)) ∧ fs[k]? = some (va_rf v) := by
  obtain ⟨fs, h1, h2⟩ := xk_bi h
  obtain ⟨a, h3, h4⟩ := xk_obj_e h1
  exact ⟨a, fs, h3, h4, xk_vR_e h2⟩
/-- a field is written -/
def xk_pV (w : xWd) (r : Option Nat) (ci k : Nat) (v : Value) : Option xWd := match r with
  | none => none
  | some a => (xk_obj w (some a) ci).bind fun fs => if k < fs.length then some (va_up w.1 a (some (.inr (ci, fs.set k v))), w.2) else none
theorem xk_pV_e {w w1 : xWd} {r : Option Nat} {ci k : Nat} {v : Value} (h : xk_pV w r ci k v = some w1) : ∃ a fs, r = some a ∧ w.1 a = some (.inr (ci, fs)) ∧ k < fs.length ∧ w1 = (va_up w.1 a (some (.inr (ci, fs.set k v))), w.2) := by
  cases r with
  | none => cases h
  | some a =>
    obtain ⟨fs, h1, h2⟩ := xk_bi h
    obtain ⟨a', h3, h4⟩ := xk_obj_e h1
    cases h3
    by_cases hk : k < fs.length
    · rw [if_pos hk] at h2
      cases h2
      exact ⟨a, fs, rfl, h4, hk, rfl⟩
    · rw [if_neg hk] at h2
      cases h2
/-- a new object -/
def xk_nw (w : xWd) (ci : Nat) (fs : List Value) : xWd := (va_up w.1 w.2.1 (some (.inr (ci, fs))), w.2.1 + 1, w.2.2)
/-- a new row of n places, n at most cap -/
def xk_nA (w : xWd) (kd : Nat) (d : vp_A) (n : Int32) (cap : Nat) : Option xWd := if n < 0 then none else if n.toNatClampNeg ≤ cap then some (va_up w.1 w.2.1 (some (.inl (kd, n.toNatClampNeg, d.2))), w.2.1 + 1, w.2.2) else none
abbrev xk_d0 : vp_A := (0, .inl (fun _ => 0))
abbrev xk_dR : vp_A := (0, .inr (.inr (.inr (.inr (fun _ => none)))))
def xk_len (w : xWd) (r : Option Nat) : Option Int32 := (xk_arr w r).bind fun z => if z.1 < xk_nk then some (Int32.ofNat z.2.1) else none
def xk_lI (kd : Nat) (w : xWd) (r : Option Nat) (i : Int32) : Option Int32 := (xk_arr w r).bind fun z => match z with
  | (k, n, .inl f) => if k = kd ∧ ¬ (i < 0 ∨ n ≤ i.toNatClampNeg) then some (f i.toNatClampNeg) else none
  | _ => none
def xk_lR (kd : Nat) (w : xWd) (r : Option Nat) (i : Int32) : Option (Option Nat) := (xk_arr w r).bind fun z => match z with
  | (k, n, .inr (.inr (.inr (.inr f)))) => if k = kd ∧ ¬ (i < 0 ∨ n ≤ i.toNatClampNeg) then some (f i.toNatClampNeg) else none
  | _ => none
def xk_sI (kd : Nat) (w : xWd) (r : Option Nat) (i v : Int32) : Option xWd := match r with
  | none => none
  | some a => (xk_arr w (some a)).bind fun z => match z with
    | (k, n, .inl f) => if k = kd ∧ ¬ (i < 0 ∨ n ≤ i.toNatClampNeg) then some (va_up w.1 a (some (.inl (kd, n, .inl (upd f i.toNatClampNeg v)))), w.2) else none
    | _ => none
def xk_sR (kd : Nat) (w : xWd) (r : Option Nat) (i : Int32) (v : Option Nat) : Option xWd := match r with
  | none => none
  | some a => (xk_arr w (some a)).bind fun z => match z with
    | (k, n, .inr (.inr (.inr (.inr f)))) => if k = kd ∧ ¬ (i < 0 ∨ n ≤ i.toNatClampNeg) then some (va_up w.1 a (some (.inl (kd, n, .inr (.inr (.inr (.inr (va_up f i.toNatClampNeg v))))))), w.2) else none
    | _ => none
theorem xk_lI_e {kd : Nat} {w : xWd} {r : Option Nat} {i v : Int32} (h : xk_lI kd w r i = some v) : ∃ a n f, r = some a ∧ w.1 a = some (.inl (kd, n, .inl f)) ∧ vp_in i n ∧ v = f i.toNatClampNeg := by
  obtain ⟨z, h1, h2⟩ := xk_bi h
  obtain ⟨a, h3, h4⟩ := xk_arr_e h1
  split at h2
  · rename_i k n f
    split at h2
    · rename_i hc
      cases h2
      exact ⟨a, n, f, h3, by rw [h4, hc.1], hc.2, rfl⟩
    · cases h2
  · cases h2
theorem xk_lR_e {kd : Nat} {w : xWd} {r : Option Nat} {i : Int32} {v : Option Nat} (h : xk_lR kd w r i = some v) : ∃ a n f, r = some a ∧ w.1 a = some (.inl (kd, n, .inr (.inr (.inr (.inr f))))) ∧ vp_in i n ∧ v = f i.toNatClampNeg := by
  obtain ⟨z, h1, h2⟩ := xk_bi h
  obtain ⟨a, h3, h4⟩ := xk_arr_e h1
  split at h2
  · rename_i k n f
    split at h2
    · rename_i hc
      cases h2
      exact ⟨a, n, f, h3, by rw [h4, hc.1], hc.2, rfl⟩
    · cases h2
  · cases h2
theorem xk_sI_e {kd : Nat} {w w1 : xWd} {r : Option Nat} {i v : Int32} (h : xk_sI kd w r i v = some w1) : ∃ a n f, r = some a ∧ w.1 a = some (.inl (kd, n, .inl f)) ∧ vp_in i n ∧ w1 = (va_up w.1 a (some (.inl (kd, n, .inl (upd f i.toNatClampNeg v)))), w.2) := by
  cases r with
  | none => cases h
  | some a =>
    obtain ⟨z, h1, h2⟩ := xk_bi h
    obtain ⟨a', h3, h4⟩ := xk_arr_e h1
    cases h3
    split at h2
    · rename_i k n f
      split at h2
      · rename_i hc
        cases h2
        exact ⟨a, n, f, rfl, by rw [h4, hc.1], hc.2, rfl⟩
      · cases h2
    · cases h2
theorem xk_sR_e {kd : Nat} {w w1 : xWd} {r : Option Nat} {i : Int32} {v : Option Nat} (h : xk_sR kd w r i v = some w1) : ∃ a n f, r = some a ∧ w.1 a = some (.inl (kd, n, .inr (.inr (.inr (.inr f))))) ∧ vp_in i n ∧ w1 = (va_up w.1 a (some (.inl (kd, n, .inr (.inr (.inr (.inr (va_up f i.toNatClampNeg v))))))), w.2) := by
  cases r with
  | none => cases h
  | some a =>
    obtain ⟨z, h1, h2⟩ := xk_bi h
    obtain ⟨a', h3, h4⟩ := xk_arr_e h1
    cases h3
    split at h2
    · rename_i k n f
      split at h2
      · rename_i hc
        cases h2
        exact ⟨a, n, f, rfl, by rw [h4, hc.1], hc.2, rfl⟩
      · cases h2
    · cases h2
/-- the object is there, of that class -/
def xk_is (w : xWd) (r : Option Nat) (ci : Nat) : Option Unit := (xk_obj w r ci).bind fun _ => some ()
/-- a checkcast goes through: null, or an object of just that class -/
def xk_cc (w : xWd) (r : Option Nat) (ci : Nat) : Option Unit := if r = none then some () else xk_is w r ci
theorem xk_H.setp {E : xEv} {w : xWd} {H H1 : Heap} (h : xk_H E w H) {a : Nat} {z : xE} (ha : E.2.2.1 ≤ a) (hz : va_at E.1 xk_cl (a, xk_toE E.2.1 z) H1) (hs : H1.size = H.size) (ho : ∀ q : Nat, q ≠ a → H1[q]? = H[q]?) : xk_H E (va_up w.1 a (some z), w.2) H1 := by
  refine ⟨hs.trans h.1, h.2.1, h.2.2.1, fun b y hb => ?_⟩
  by_cases e : b = a
  · subst e
    have e1 : some z = some y := by simpa [va_up] using hb
    cases e1
    exact ⟨hz, fun _ => ha⟩
  · have e1 : w.1 b = some y := by simpa [va_up, e] using hb
    exact ⟨(h.2.2.2 b y e1).1.kept (ho b e), (h.2.2.2 b y e1).2⟩
theorem xk_H.push {E : xEv} {w : xWd} {H H1 : Heap} (h : xk_H E w H) {z : xE} (hz : va_at E.1 xk_cl (H.size, xk_toE E.2.1 z) H1) (hs : H1.size = H.size + 1) (ho : ∀ q : Nat, q < H.size → H1[q]? = H[q]?) : xk_H E (va_up w.1 w.2.1 (some z), w.2.1 + 1, w.2.2) H1 := by
  refine ⟨by rw [hs, h.1], Nat.le_succ_of_le h.2.1, h.2.2.1, fun b y hb => ?_⟩
  by_cases e : b = w.2.1
  · subst e
    have e1 : some z = some y := by simpa [va_up] using hb
    cases e1
    refine ⟨?_, fun _ => h.2.1⟩
    have hh := hz
    rw [h.1] at hh
    exact hh
  · have e1 : w.1 b = some y := by simpa [va_up, e] using hb
    exact ⟨(h.2.2.2 b y e1).1.kept (ho b (h.2.2.2 b y e1).1.lt), (h.2.2.2 b y e1).2⟩
theorem xk_one {D : va_G} {q : Nat × va_E} {H : Heap} (h : va_at D xk_cl q H) : va_P D xk_cl [q] H := by
  intro k x hk
  cases k with
  | zero => cases hk; exact h
  | succ k => simp at hk
theorem xk_cat1 (r : Option Nat) : (va_rf r).category = 1 := by cases r <;> rfl
def xk_C (p : Program) (s : State) (m : MethodId) (args : Array Value) (meth : Method) (c : Code) (E : xEv) (cc : ByteArray) (own : String) (nL : Nat) : Prop := p.tables.exec = Jvm.exec ∧ c.code = cc ∧ c.maxLocals = nL ∧ s.vm.findClass own = some m.cls ∧ (∀ w ∈ xk_T, w.before args s = true) ∧ meth.locks = false ∧ xk_S E s
def xk_X (p : Program) (l : Launch) (e : Env) (R : Room) (s : State) (m : MethodId) (args : Array Value) (below : List Frame) (meth : Method) (c : Code) (Q : State → Prop) (E : xEv) (nL cells slots pc : Nat) (lv : List (Nat × Value)) (st : List Value) (w : xWd) : Prop :=
  ∀ (H : Heap) (locs : List Loc) (ls : Array Slot), xk_H E w H → va_S (xk_A E.2.2.1) s.heap H locs → lv_has ls nL lv → W p l e R s m args below meth c H locs cells slots Q (F0 m pc ls st)
/-- a contract: from the world w, the method ends as Qc says -/
def xk_M (l : Launch) (y : MethodName) (b : ByteArray) (nL : Nat) (ret : Option FieldType) (fr lc mc ms : Nat) (E : xEv) (av : List Value) (w : xWd) (Qc : Array Value → State → Outcome → State → Prop) : Prop :=
  Met l y (Cond.code y b nL ret :: xk_T) { frames := fr, cells := mc, slots := ms, locals := lc } (va_Pc av (fun U => xk_H E w U.heap ∧ xk_S E U)) Qc mc ms (xk_A E.2.2.1)
def xk_Qi (E : xEv) (q : Int32 × xWd) : Array Value → State → Outcome → State → Prop := va_Qi (fun r (_ : Unit) => r = q.1) (fun _ t => xk_H E q.2 t.heap) (xk_A E.2.2.1)
def xk_Ql (E : xEv) (q : Int64 × xWd) : Array Value → State → Outcome → State → Prop := va_Ql (fun r (_ : Unit) => r = q.1) (fun _ t => xk_H E q.2 t.heap) (xk_A E.2.2.1)
def xk_Qd (E : xEv) (q : UInt64 × xWd) : Array Value → State → Outcome → State → Prop := va_Qd (fun r (_ : Unit) => r = q.1) (fun _ t => xk_H E q.2 t.heap) (xk_A E.2.2.1)
def xk_Qq (E : xEv) (q : Option Nat × xWd) : Array Value → State → Outcome → State → Prop := va_Qq (fun r (_ : Unit) => r = q.1) (fun _ t => xk_H E q.2 t.heap) (xk_A E.2.2.1)
def xk_Qv (E : xEv) (q : xWd) : Array Value → State → Outcome → State → Prop := va_Qv (fun (_ : Unit) => True) (fun _ t => xk_H E q t.heap) (xk_A E.2.2.1)
section XK
variable {p : Program} {l : Launch} {e : Env} {R : Room} {s : State} {m : MethodId} {args : Array Value} {below : List Frame} {meth : Method} {c : Code} {Q : State → Prop}
variable {E : xEv} {cc : ByteArray} {own : String} {nL cells slots pc : Nat} {lv lv' : List (Nat × Value)} {st : List Value} {w : xWd}
theorem xk_enter {y : MethodName} {b : ByteArray} {ret : Option FieldType} {fr lc mc ms : Nat} {av : List Value} {Qc : Array Value → State → Outcome → State → Prop} (hy : plainName y.cls = true) (hn : (lg_sl av).length ≤ nL)
    (h : ∀ (p : Program) (e : Env) (s : State) (m : MethodId) (args : Array Value) (below : List Frame) (meth : Method) (c : Code), xk_C p s m args meth c E b y.cls nL → meth.sig.returnType = ret → (y.name = "<init>" → meth.name = "<init>") → args = av.toArray → xk_X p l e { frames := fr, cells := mc, slots := ms, locals := lc } s m args below meth c (MQ below Qc args s mc ms (xk_A E.2.2.1)) E nL 0 0 0 (lv_args 0 av) [] w) : xk_M l y b nL ret fr lc mc ms E av w Qc := by
  refine Met.ofW (cc := b) (maxL := nL) (ret := ret) hy rfl ?_
  intro p e s m args below meth c s₁ B hml hv
  obtain ⟨rfl, hH, hS⟩ := hv
  have hts := atoms_spec (ws := Cond.code y b nL ret :: xk_T) B.pre
  have hl := lv_entry av (n := nL) hn
  rw [lg_entry_eq]
  exact h p e s m _ below meth c ⟨B.exec, B.bytes, hml, findClass_of_methodNamed B.named, fun w hw => hts w (List.mem_cons_of_mem _ hw), B.notSynchronized, hS⟩ B.returns (fun hi => (name_of_methodNamed B.named B.method).1.trans hi) rfl s.heap [] _ hH va_S.rf hl
theorem xk_widen {k n : Nat} (h1 : cells ≤ k) (h2 : slots ≤ n) (kk : xk_X p l e R s m args below meth c Q E nL k n pc lv st w) : xk_X p l e R s m args below meth c Q E nL cells slots pc lv st w := fun H locs ls hH hS hl => W.widen h1 h2 (kk H locs ls hH hS hl)
theorem xk_locals (ks : List Nat) (hl : lv_pick lv ks = lv') (kk : xk_X p l e R s m args below meth c Q E nL cells slots pc lv' st w) : xk_X p l e R s m args below meth c Q E nL cells slots pc lv st w := fun H locs ls hH hS h => kk H locs ls hH hS (lv_sub h ks hl)
theorem xk_iconst (hC : xk_C p s m args meth c E cc own nL) {n : Int} {v : Int32} (d : decode cc pc = .ok (.iconst n, 1)) (hv : Int32.ofInt n = v) (kk : xk_X p l e R s m args below meth c Q E nL cells slots (pc + 1) lv (.int v :: st) w) : xk_X p l e R s m args below meth c Q E nL cells slots pc lv (st) w := fun H locs ls hH hS hl => lv_iconst hC.1 hC.2.1 d hv (kk H locs ls hH hS hl)
theorem xk_bipush (hC : xk_C p s m args meth c E cc own nL) {n : Int} {v : Int32} (d : decode cc pc = .ok (.bipush n, 2)) (hv : (Int8.ofInt n).toInt32 = v) (kk : xk_X p l e R s m args below meth c Q E nL cells slots (pc + 2) lv (.int v :: st) w) : xk_X p l e R s m args below meth c Q E nL cells slots pc lv (st) w := fun H locs ls hH hS hl => lv_bipush hC.1 hC.2.1 d hv (kk H locs ls hH hS hl)
theorem xk_sipush (hC : xk_C p s m args meth c E cc own nL) {n : Int} {v : Int32} (d : decode cc pc = .ok (.sipush n, 3)) (hv : (Int16.ofInt n).toInt32 = v) (kk : xk_X p l e R s m args below meth c Q E nL cells slots (pc + 3) lv (.int v :: st) w) : xk_X p l e R s m args below meth c Q E nL cells slots pc lv (st) w := fun H locs ls hH hS hl => lv_sipush hC.1 hC.2.1 d hv (kk H locs ls hH hS hl)
theorem xk_lconst (hC : xk_C p s m args meth c E cc own nL) {n : Fin 2} {v : Int64} (d : decode cc pc = .ok (.lconst n, 1)) (hv : Int64.ofNat (n : Nat) = v) (kk : xk_X p l e R s m args below meth c Q E nL cells slots (pc + 1) lv (.long v :: st) w) : xk_X p l e R s m args below meth c Q E nL cells slots pc lv (st) w := fun H locs ls hH hS hl => lv_lconst hC.1 hC.2.1 d hv (kk H locs ls hH hS hl)
theorem xk_ldc (hC : xk_C p s m args meth c E cc own nL) {index : Nat} {v : Int32} (d : decode cc pc = .ok (.ldc index, 2)) (hw : Cond.constant own index v ∈ xk_T) (kk : xk_X p l e R s m args below meth c Q E nL cells slots (pc + 2) lv (.int v :: st) w) : xk_X p l e R s m args below meth c Q E nL cells slots pc lv (st) w := fun H locs ls hH hS hl => lv_ldc hC.1 hC.2.1 hC.2.2.2.1 (hC.2.2.2.2.1 _ hw) d (kk H locs ls hH hS hl)
theorem xk_ldcw (hC : xk_C p s m args meth c E cc own nL) {index : Nat} {v : Int32} (d : decode cc pc = .ok (.ldc_w index, 3)) (hw : Cond.constant own index v ∈ xk_T) (kk : xk_X p l e R s m args below meth c Q E nL cells slots (pc + 3) lv (.int v :: st) w) : xk_X p l e R s m args below meth c Q E nL cells slots pc lv (st) w := fun H locs ls hH hS hl => lv_ldcw hC.1 hC.2.1 hC.2.2.2.1 (hC.2.2.2.2.1 _ hw) d (kk H locs ls hH hS hl)
theorem xk_ldc2 (hC : xk_C p s m args meth c E cc own nL) {index : Nat} {v : Int64} (d : decode cc pc = .ok (.ldc2_w index, 3)) (hw : Cond.constantLong own index v ∈ xk_T) (kk : xk_X p l e R s m args below meth c Q E nL cells slots (pc + 3) lv (.long v :: st) w) : xk_X p l e R s m args below meth c Q E nL cells slots pc lv (st) w := fun H locs ls hH hS hl => lv_ldc2 hC.1 hC.2.1 hC.2.2.2.1 (hC.2.2.2.2.1 _ hw) d (kk H locs ls hH hS hl)
theorem xk_ldc2d (hC : xk_C p s m args meth c E cc own nL) {index : Nat} {v : UInt64} (d : decode cc pc = .ok (.ldc2_w index, 3)) (hw : Cond.constantDouble own index v ∈ xk_T) (kk : xk_X p l e R s m args below meth c Q E nL cells slots (pc + 3) lv (.double v :: st) w) : xk_X p l e R s m args below meth c Q E nL cells slots pc lv (st) w := fun H locs ls hH hS hl => lv_ldc2d hC.1 hC.2.1 hC.2.2.2.1 (hC.2.2.2.2.1 _ hw) d (kk H locs ls hH hS hl)
theorem xk_null (hC : xk_C p s m args meth c E cc own nL) (d : decode cc pc = .ok (.aconst_null, 1)) (kk : xk_X p l e R s m args below meth c Q E nL cells slots (pc + 1) lv (va_rf none :: st) w) : xk_X p l e R s m args below meth c Q E nL cells slots pc lv (st) w := fun H locs ls hH hS hl => lv_null hC.1 hC.2.1 d (kk H locs ls hH hS hl)
theorem xk_iadd (hC : xk_C p s m args meth c E cc own nL) {x y : Int32} (d : decode cc pc = .ok (.iadd, 1)) (kk : xk_X p l e R s m args below meth c Q E nL cells slots (pc + 1) lv (.int (x + y) :: st) w) : xk_X p l e R s m args below meth c Q E nL cells slots pc lv (.int y :: .int x :: st) w := fun H locs ls hH hS hl => lv_iadd hC.1 hC.2.1 d (kk H locs ls hH hS hl)
theorem xk_isub (hC : xk_C p s m args meth c E cc own nL) {x y : Int32} (d : decode cc pc = .ok (.isub, 1)) (kk : xk_X p l e R s m args below meth c Q E nL cells slots (pc + 1) lv (.int (x - y) :: st) w) : xk_X p l e R s m args below meth c Q E nL cells slots pc lv (.int y :: .int x :: st) w := fun H locs ls hH hS hl => lv_isub hC.1 hC.2.1 d (kk H locs ls hH hS hl)
theorem xk_imul (hC : xk_C p s m args meth c E cc own nL) {x y : Int32} (d : decode cc pc = .ok (.imul, 1)) (kk : xk_X p l e R s m args below meth c Q E nL cells slots (pc + 1) lv (.int (x * y) :: st) w) : xk_X p l e R s m args below meth c Q E nL cells slots pc lv (.int y :: .int x :: st) w := fun H locs ls hH hS hl => lv_imul hC.1 hC.2.1 d (kk H locs ls hH hS hl)
theorem xk_iand (hC : xk_C p s m args meth c E cc own nL) {x y : Int32} (d : decode cc pc = .ok (.iand, 1)) (kk : xk_X p l e R s m args below meth c Q E nL cells slots (pc + 1) lv (.int (x &&& y) :: st) w) : xk_X p l e R s m args below meth c Q E nL cells slots pc lv (.int y :: .int x :: st) w := fun H locs ls hH hS hl => lv_iand hC.1 hC.2.1 d (kk H locs ls hH hS hl)
theorem xk_ishr (hC : xk_C p s m args meth c E cc own nL) {x y : Int32} (d : decode cc pc = .ok (.ishr, 1)) (kk : xk_X p l e R s m args below meth c Q E nL cells slots (pc + 1) lv (.int (x >>> (y &&& 31)) :: st) w) : xk_X p l e R s m args below meth c Q E nL cells slots pc lv (.int y :: .int x :: st) w := fun H locs ls hH hS hl => lv_ishr hC.1 hC.2.1 d (kk H locs ls hH hS hl)
theorem xk_ineg (hC : xk_C p s m args meth c E cc own nL) {x : Int32} (d : decode cc pc = .ok (.ineg, 1)) (kk : xk_X p l e R s m args below meth c Q E nL cells slots (pc + 1) lv (.int (-x) :: st) w) : xk_X p l e R s m args below meth c Q E nL cells slots pc lv (.int x :: st) w := fun H locs ls hH hS hl => lv_ineg hC.1 hC.2.1 d (kk H locs ls hH hS hl)
theorem xk_idiv (hC : xk_C p s m args meth c E cc own nL) {x y : Int32} (d : decode cc pc = .ok (.idiv, 1)) (h0 : ¬ y = 0) (kk : xk_X p l e R s m args below meth c Q E nL cells slots (pc + 1) lv (.int (x / y) :: st) w) : xk_X p l e R s m args below meth c Q E nL cells slots pc lv (.int y :: .int x :: st) w := fun H locs ls hH hS hl => lv_idiv hC.1 hC.2.1 d h0 (kk H locs ls hH hS hl)
theorem xk_irem (hC : xk_C p s m args meth c E cc own nL) {x y : Int32} (d : decode cc pc = .ok (.irem, 1)) (h0 : ¬ y = 0) (kk : xk_X p l e R s m args below meth c Q E nL cells slots (pc + 1) lv (.int (x - x / y * y) :: st) w) : xk_X p l e R s m args below meth c Q E nL cells slots pc lv (.int y :: .int x :: st) w := fun H locs ls hH hS hl => lv_irem hC.1 hC.2.1 d h0 (kk H locs ls hH hS hl)
theorem xk_ladd (hC : xk_C p s m args meth c E cc own nL) {x y : Int64} (d : decode cc pc = .ok (.ladd, 1)) (kk : xk_X p l e R s m args below meth c Q E nL cells slots (pc + 1) lv (.long (x + y) :: st) w) : xk_X p l e R s m args below meth c Q E nL cells slots pc lv (.long y :: .long x :: st) w := fun H locs ls hH hS hl => lv_ladd hC.1 hC.2.1 d (kk H locs ls hH hS hl)
theorem xk_lmul (hC : xk_C p s m args meth c E cc own nL) {x y : Int64} (d : decode cc pc = .ok (.lmul, 1)) (kk : xk_X p l e R s m args below meth c Q E nL cells slots (pc + 1) lv (.long (x * y) :: st) w) : xk_X p l e R s m args below meth c Q E nL cells slots pc lv (.long y :: .long x :: st) w := fun H locs ls hH hS hl => lv_lmul hC.1 hC.2.1 d (kk H locs ls hH hS hl)
theorem xk_lcmp (hC : xk_C p s m args meth c E cc own nL) {x y : Int64} (d : decode cc pc = .ok (.lcmp, 1)) (kk : xk_X p l e R s m args below meth c Q E nL cells slots (pc + 1) lv (.int (lg_cmp x y) :: st) w) : xk_X p l e R s m args below meth c Q E nL cells slots pc lv (.long y :: .long x :: st) w := fun H locs ls hH hS hl => W.lcmp hC.1 hC.2.1 d (kk H locs ls hH hS hl)
theorem xk_i2l (hC : xk_C p s m args meth c E cc own nL) {x : Int32} (d : decode cc pc = .ok (.i2l, 1)) (kk : xk_X p l e R s m args below meth c Q E nL cells slots (pc + 1) lv (.long x.toInt64 :: st) w) : xk_X p l e R s m args below meth c Q E nL cells slots pc lv (.int x :: st) w := fun H locs ls hH hS hl => lv_i2l hC.1 hC.2.1 d rfl (kk H locs ls hH hS hl)
theorem xk_i2d (hC : xk_C p s m args meth c E cc own nL) {x : Int32} (d : decode cc pc = .ok (.i2d, 1)) (kk : xk_X p l e R s m args below meth c Q E nL cells slots (pc + 1) lv (.double (FP.i2d x) :: st) w) : xk_X p l e R s m args below meth c Q E nL cells slots pc lv (.int x :: st) w := fun H locs ls hH hS hl => lv_i2d hC.1 hC.2.1 d (kk H locs ls hH hS hl)
theorem xk_dconst0 (hC : xk_C p s m args meth c E cc own nL) (d : decode cc pc = .ok (.dconst 0, 1)) (kk : xk_X p l e R s m args below meth c Q E nL cells slots (pc + 1) lv (.double FP.dconst0 :: st) w) : xk_X p l e R s m args below meth c Q E nL cells slots pc lv (st) w := fun H locs ls hH hS hl => lv_dconst0 hC.1 hC.2.1 d (kk H locs ls hH hS hl)
theorem xk_ddiv (hC : xk_C p s m args meth c E cc own nL) {x y : UInt64} (d : decode cc pc = .ok (.ddiv, 1)) (hq : vf_n64 (FP.ddiv x y)) (kk : xk_X p l e R s m args below meth c Q E nL cells slots (pc + 1) lv (.double (FP.ddiv x y) :: st) w) : xk_X p l e R s m args below meth c Q E nL cells slots pc lv (.double y :: .double x :: st) w := fun H locs ls hH hS hl => lv_ddiv hC.1 hC.2.1 d hq (kk H locs ls hH hS hl)
theorem xk_dcmp (hC : xk_C p s m args meth c E cc own nL) {x y : UInt64} {op : CmpOp} (d : decode cc pc = .ok (.dcmp op, 1)) (kk : xk_X p l e R s m args below meth c Q E nL cells slots (pc + 1) lv (.int (Op.cmpValue (FP.dcmp x y) op) :: st) w) : xk_X p l e R s m args below meth c Q E nL cells slots pc lv (.double y :: .double x :: st) w := fun H locs ls hH hS hl => lv_dcmp hC.1 hC.2.1 d (kk H locs ls hH hS hl)
theorem xk_pop (hC : xk_C p s m args meth c E cc own nL) {v : Value} (d : decode cc pc = .ok (.pop, 1)) (hv : v.category = 1) (kk : xk_X p l e R s m args below meth c Q E nL cells slots (pc + 1) lv (st) w) : xk_X p l e R s m args below meth c Q E nL cells slots pc lv (v :: st) w := fun H locs ls hH hS hl => lv_pop hC.1 hC.2.1 d hv (kk H locs ls hH hS hl)
theorem xk_dup (hC : xk_C p s m args meth c E cc own nL) {v : Value} (d : decode cc pc = .ok (.dup, 1)) (hv : v.category = 1) (kk : xk_X p l e R s m args below meth c Q E nL cells slots (pc + 1) lv (v :: v :: st) w) : xk_X p l e R s m args below meth c Q E nL cells slots pc lv (v :: st) w := fun H locs ls hH hS hl => lv_dup hC.1 hC.2.1 d hv (kk H locs ls hH hS hl)
theorem xk_dup_x1 (hC : xk_C p s m args meth c E cc own nL) {v u : Value} (d : decode cc pc = .ok (.dup_x1, 1)) (hv : v.category = 1) (hu : u.category = 1) (kk : xk_X p l e R s m args below meth c Q E nL cells slots (pc + 1) lv (v :: u :: v :: st) w) : xk_X p l e R s m args below meth c Q E nL cells slots pc lv (v :: u :: st) w := fun H locs ls hH hS hl => lv_dup_x1 hC.1 hC.2.1 d hv hu (kk H locs ls hH hS hl)
theorem xk_dup2 (hC : xk_C p s m args meth c E cc own nL) {v u : Value} (d : decode cc pc = .ok (.dup2, 1)) (hv : v.category = 1) (hu : u.category = 1) (kk : xk_X p l e R s m args below meth c Q E nL cells slots (pc + 1) lv (v :: u :: v :: u :: st) w) : xk_X p l e R s m args below meth c Q E nL cells slots pc lv (v :: u :: st) w := fun H locs ls hH hS hl => lv_dup2_11 hC.1 hC.2.1 d hv hu (kk H locs ls hH hS hl)
theorem xk_iload_n (hC : xk_C p s m args meth c E cc own nL) {k : Fin 4} {i : Nat} {x : Int32} (d : decode cc pc = .ok (.iload_n k, 1)) (j : Nat) (hi : (k : Nat) = i) (hj : lv[j]? = some (i, .int x)) (kk : xk_X p l e R s m args below meth c Q E nL cells slots (pc + 1) lv (.int x :: st) w) : xk_X p l e R s m args below meth c Q E nL cells slots pc lv (st) w := fun H locs ls hH hS hl => lv_iload_n hC.1 hC.2.1 d hi (lv_at hl j hj) (kk H locs ls hH hS hl)
theorem xk_iload (hC : xk_C p s m args meth c E cc own nL) {i : Nat} {x : Int32} (d : decode cc pc = .ok (.iload i, 2)) (j : Nat) (hj : lv[j]? = some (i, .int x)) (kk : xk_X p l e R s m args below meth c Q E nL cells slots (pc + 2) lv (.int x :: st) w) : xk_X p l e R s m args below meth c Q E nL cells slots pc lv (st) w := fun H locs ls hH hS hl => lv_iload hC.1 hC.2.1 d (lv_at hl j hj) (kk H locs ls hH hS hl)
theorem xk_lload_n (hC : xk_C p s m args meth c E cc own nL) {k : Fin 4} {i : Nat} {x : Int64} (d : decode cc pc = .ok (.lload_n k, 1)) (j : Nat) (hi : (k : Nat) = i) (hj : lv[j]? = some (i, .long x)) (kk : xk_X p l e R s m args below meth c Q E nL cells slots (pc + 1) lv (.long x :: st) w) : xk_X p l e R s m args below meth c Q E nL cells slots pc lv (st) w := fun H locs ls hH hS hl => lv_lload_n hC.1 hC.2.1 d hi (lv_at hl j hj) (kk H locs ls hH hS hl)
theorem xk_lload (hC : xk_C p s m args meth c E cc own nL) {i : Nat} {x : Int64} (d : decode cc pc = .ok (.lload i, 2)) (j : Nat) (hj : lv[j]? = some (i, .long x)) (kk : xk_X p l e R s m args below meth c Q E nL cells slots (pc + 2) lv (.long x :: st) w) : xk_X p l e R s m args below meth c Q E nL cells slots pc lv (st) w := fun H locs ls hH hS hl => lv_lload hC.1 hC.2.1 d (lv_at hl j hj) (kk H locs ls hH hS hl)
theorem xk_dload_n (hC : xk_C p s m args meth c E cc own nL) {k : Fin 4} {i : Nat} {x : UInt64} (d : decode cc pc = .ok (.dload_n k, 1)) (j : Nat) (hi : (k : Nat) = i) (hj : lv[j]? = some (i, .double x)) (kk : xk_X p l e R s m args below meth c Q E nL cells slots (pc + 1) lv (.double x :: st) w) : xk_X p l e R s m args below meth c Q E nL cells slots pc lv (st) w := fun H locs ls hH hS hl => lv_dload_n hC.1 hC.2.1 d hi (lv_at hl j hj) (kk H locs ls hH hS hl)
theorem xk_dload (hC : xk_C p s m args meth c E cc own nL) {i : Nat} {x : UInt64} (d : decode cc pc = .ok (.dload i, 2)) (j : Nat) (hj : lv[j]? = some (i, .double x)) (kk : xk_X p l e R s m args below meth c Q E nL cells slots (pc + 2) lv (.double x :: st) w) : xk_X p l e R s m args below meth c Q E nL cells slots pc lv (st) w := fun H locs ls hH hS hl => lv_dload hC.1 hC.2.1 d (lv_at hl j hj) (kk H locs ls hH hS hl)
theorem xk_aload_n (hC : xk_C p s m args meth c E cc own nL) {k : Fin 4} {i : Nat} {r : Option Nat} (d : decode cc pc = .ok (.aload_n k, 1)) (j : Nat) (hi : (k : Nat) = i) (hj : lv[j]? = some (i, va_rf r)) (kk : xk_X p l e R s m args below meth c Q E nL cells slots (pc + 1) lv (va_rf r :: st) w) : xk_X p l e R s m args below meth c Q E nL cells slots pc lv st w := by
  intro H locs ls hH hS hl
  cases r with
  | none => exact lv_aload_nN hC.1 hC.2.1 d hi (lv_at hl j hj) (kk H locs ls hH hS hl)
  | some a => exact lv_aload_n hC.1 hC.2.1 d hi (lv_at hl j hj) (kk H locs ls hH hS hl)
theorem xk_aload (hC : xk_C p s m args meth c E cc own nL) {i : Nat} {r : Option Nat} (d : decode cc pc = .ok (.aload i, 2)) (j : Nat) (hj : lv[j]? = some (i, va_rf r)) (kk : xk_X p l e R s m args below meth c Q E nL cells slots (pc + 2) lv (va_rf r :: st) w) : xk_X p l e R s m args below meth c Q E nL cells slots pc lv st w := by
  intro H locs ls hH hS hl
  cases r with
  | none => exact lv_aloadN hC.1 hC.2.1 d (lv_at hl j hj) (kk H locs ls hH hS hl)
  | some a => exact lv_aload hC.1 hC.2.1 d (lv_at hl j hj) (kk H locs ls hH hS hl)
theorem xk_istore_n (hC : xk_C p s m args meth c E cc own nL) {k : Fin 4} {i : Nat} {x : Int32} (d : decode cc pc = .ok (.istore_n k, 1)) (hi : (k : Nat) = i) (hn : i < nL) (hl : (i, Value.int x) :: lv.filter (fun q => !(q.1 == i) && !(q.1 + 1 == i && q.2.category == 2)) = lv') (kk : xk_X p l e R s m args below meth c Q E nL cells slots (pc + 1) lv' st w) : xk_X p l e R s m args below meth c Q E nL cells slots pc lv (.int x :: st) w := fun H locs ls hH hS h => lv_istore_n (lv' := lv') hC.1 hC.2.1 d hi h hn hl (fun ls' h' => kk H locs ls' hH hS h')
theorem xk_istore (hC : xk_C p s m args meth c E cc own nL) {i : Nat} {x : Int32} (d : decode cc pc = .ok (.istore i, 2)) (hn : i < nL) (hl : (i, Value.int x) :: lv.filter (fun q => !(q.1 == i) && !(q.1 + 1 == i && q.2.category == 2)) = lv') (kk : xk_X p l e R s m args below meth c Q E nL cells slots (pc + 2) lv' st w) : xk_X p l e R s m args below meth c Q E nL cells slots pc lv (.int x :: st) w := fun H locs ls hH hS h => lv_istore (lv' := lv') hC.1 hC.2.1 d h hn hl (fun ls' h' => kk H locs ls' hH hS h')
theorem xk_lstore_n (hC : xk_C p s m args meth c E cc own nL) {k : Fin 4} {i : Nat} {x : Int64} (d : decode cc pc = .ok (.lstore_n k, 1)) (hi : (k : Nat) = i) (hn : i + 1 < nL) (hl : (i, Value.long x) :: lv.filter (fun q => !(q.1 == i) && (!(q.1 == i + 1) && !(q.1 + 1 == i && q.2.category == 2))) = lv') (kk : xk_X p l e R s m args below meth c Q E nL cells slots (pc + 1) lv' st w) : xk_X p l e R s m args below meth c Q E nL cells slots pc lv (.long x :: st) w := fun H locs ls hH hS h => lv_lstore_n (lv' := lv') hC.1 hC.2.1 d hi h hn hl (fun ls' h' => kk H locs ls' hH hS h')
theorem xk_lstore (hC : xk_C p s m args meth c E cc own nL) {i : Nat} {x : Int64} (d : decode cc pc = .ok (.lstore i, 2)) (hn : i + 1 < nL) (hl : (i, Value.long x) :: lv.filter (fun q => !(q.1 == i) && (!(q.1 == i + 1) && !(q.1 + 1 == i && q.2.category == 2))) = lv') (kk : xk_X p l e R s m args below meth c Q E nL cells slots (pc + 2) lv' st w) : xk_X p l e R s m args below meth c Q E nL cells slots pc lv (.long x :: st) w := fun H locs ls hH hS h => lv_lstore (lv' := lv') hC.1 hC.2.1 d h hn hl (fun ls' h' => kk H locs ls' hH hS h')
theorem xk_dstore_n (hC : xk_C p s m args meth c E cc own nL) {k : Fin 4} {i : Nat} {x : UInt64} (d : decode cc pc = .ok (.dstore_n k, 1)) (hi : (k : Nat) = i) (hn : i + 1 < nL) (hl : (i, Value.double x) :: lv.filter (fun q => !(q.1 == i) && (!(q.1 == i + 1) && !(q.1 + 1 == i && q.2.category == 2))) = lv') (kk : xk_X p l e R s m args below meth c Q E nL cells slots (pc + 1) lv' st w) : xk_X p l e R s m args below meth c Q E nL cells slots pc lv (.double x :: st) w := fun H locs ls hH hS h => lv_dstore_n (lv' := lv') hC.1 hC.2.1 d hi h hn hl (fun ls' h' => kk H locs ls' hH hS h')
theorem xk_dstore (hC : xk_C p s m args meth c E cc own nL) {i : Nat} {x : UInt64} (d : decode cc pc = .ok (.dstore i, 2)) (hn : i + 1 < nL) (hl : (i, Value.double x) :: lv.filter (fun q => !(q.1 == i) && (!(q.1 == i + 1) && !(q.1 + 1 == i && q.2.category == 2))) = lv') (kk : xk_X p l e R s m args below meth c Q E nL cells slots (pc + 2) lv' st w) : xk_X p l e R s m args below meth c Q E nL cells slots pc lv (.double x :: st) w := fun H locs ls hH hS h => lv_dstore (lv' := lv') hC.1 hC.2.1 d h hn hl (fun ls' h' => kk H locs ls' hH hS h')
theorem xk_astore_n (hC : xk_C p s m args meth c E cc own nL) {k : Fin 4} {i : Nat} {r : Option Nat} (d : decode cc pc = .ok (.astore_n k, 1)) (hi : (k : Nat) = i) (hn : i < nL) (hl : (i, va_rf r) :: lv.filter (fun q => !(q.1 == i) && !(q.1 + 1 == i && q.2.category == 2)) = lv') (kk : xk_X p l e R s m args below meth c Q E nL cells slots (pc + 1) lv' st w) : xk_X p l e R s m args below meth c Q E nL cells slots pc lv (va_rf r :: st) w := by
  intro H locs ls hH hS h
  cases r with
  | none => exact lv_astore_nN (lv' := lv') hC.1 hC.2.1 d hi h hn hl (fun ls' h' => kk H locs ls' hH hS h')
  | some a => exact lv_astore_n (lv' := lv') hC.1 hC.2.1 d hi h hn hl (fun ls' h' => kk H locs ls' hH hS h')
theorem xk_astore (hC : xk_C p s m args meth c E cc own nL) {i : Nat} {r : Option Nat} (d : decode cc pc = .ok (.astore i, 2)) (hn : i < nL) (hl : (i, va_rf r) :: lv.filter (fun q => !(q.1 == i) && !(q.1 + 1 == i && q.2.category == 2)) = lv') (kk : xk_X p l e R s m args below meth c Q E nL cells slots (pc + 2) lv' st w) : xk_X p l e R s m args below meth c Q E nL cells slots pc lv (va_rf r :: st) w := by
  intro H locs ls hH hS h
  cases r with
  | none => exact lv_astoreN (lv' := lv') hC.1 hC.2.1 d h hn hl (fun ls' h' => kk H locs ls' hH hS h')
  | some a => exact lv_astore (lv' := lv') hC.1 hC.2.1 d h hn hl (fun ls' h' => kk H locs ls' hH hS h')
theorem xk_iinc (hC : xk_C p s m args meth c E cc own nL) {i : Nat} {n : Int} {x v : Int32} (d : decode cc pc = .ok (.iinc i n, 3)) (j : Nat) (hj : lv[j]? = some (i, .int x)) (hv : x + Int32.ofInt n = v) (hn : i < nL) (hl : (i, Value.int v) :: lv.filter (fun q => !(q.1 == i) && !(q.1 + 1 == i && q.2.category == 2)) = lv') (kk : xk_X p l e R s m args below meth c Q E nL cells slots (pc + 3) lv' st w) : xk_X p l e R s m args below meth c Q E nL cells slots pc lv st w := fun H locs ls hH hS h => lv_iinc (v := v) (lv' := lv') hC.1 hC.2.1 d h hj hv hn hl (fun ls' h' => kk H locs ls' hH hS h')
theorem xk_goto (hC : xk_C p s m args meth c E cc own nL) {off : Int} {tgt : Nat} (d : decode cc pc = .ok (.goto off, 3)) (ht : (pc : Int) + off = (tgt : Int)) (kk : xk_X p l e R s m args below meth c Q E nL cells slots tgt lv st w) : xk_X p l e R s m args below meth c Q E nL cells slots pc lv st w := fun H locs ls hH hS hl => lv_goto (tgt := tgt) hC.1 hC.2.1 d ht (kk H locs ls hH hS hl)
theorem xk_icmp_eq (hC : xk_C p s m args meth c E cc own nL) {x y : Int32} {off : Int} {tgt : Nat} (d : decode cc pc = .ok (.if_icmp .eq off, 3)) (ht : (pc : Int) + off = (tgt : Int)) (kt : x = y → xk_X p l e R s m args below meth c Q E nL cells slots tgt lv st w) (kf : ¬ x = y → xk_X p l e R s m args below meth c Q E nL cells slots (pc + 3) lv st w) : xk_X p l e R s m args below meth c Q E nL cells slots pc lv (.int y :: .int x :: st) w := fun H locs ls hH hS hl => lv_icmp_eq (tgt := tgt) hC.1 hC.2.1 d ht (fun q => kt q H locs ls hH hS hl) (fun q => kf q H locs ls hH hS hl)
theorem xk_icmp_ne (hC : xk_C p s m args meth c E cc own nL) {x y : Int32} {off : Int} {tgt : Nat} (d : decode cc pc = .ok (.if_icmp .ne off, 3)) (ht : (pc : Int) + off = (tgt : Int)) (kt : ¬ x = y → xk_X p l e R s m args below meth c Q E nL cells slots tgt lv st w) (kf : x = y → xk_X p l e R s m args below meth c Q E nL cells slots (pc + 3) lv st w) : xk_X p l e R s m args below meth c Q E nL cells slots pc lv (.int y :: .int x :: st) w := fun H locs ls hH hS hl => lv_icmp_ne (tgt := tgt) hC.1 hC.2.1 d ht (fun q => kt q H locs ls hH hS hl) (fun q => kf q H locs ls hH hS hl)
theorem xk_icmp_lt (hC : xk_C p s m args meth c E cc own nL) {x y : Int32} {off : Int} {tgt : Nat} (d : decode cc pc = .ok (.if_icmp .lt off, 3)) (ht : (pc : Int) + off = (tgt : Int)) (kt : x < y → xk_X p l e R s m args below meth c Q E nL cells slots tgt lv st w) (kf : ¬ x < y → xk_X p l e R s m args below meth c Q E nL cells slots (pc + 3) lv st w) : xk_X p l e R s m args below meth c Q E nL cells slots pc lv (.int y :: .int x :: st) w := fun H locs ls hH hS hl => lv_icmp_lt (tgt := tgt) hC.1 hC.2.1 d ht (fun q => kt q H locs ls hH hS hl) (fun q => kf q H locs ls hH hS hl)
theorem xk_icmp_ge (hC : xk_C p s m args meth c E cc own nL) {x y : Int32} {off : Int} {tgt : Nat} (d : decode cc pc = .ok (.if_icmp .ge off, 3)) (ht : (pc : Int) + off = (tgt : Int)) (kt : y ≤ x → xk_X p l e R s m args below meth c Q E nL cells slots tgt lv st w) (kf : ¬ y ≤ x → xk_X p l e R s m args below meth c Q E nL cells slots (pc + 3) lv st w) : xk_X p l e R s m args below meth c Q E nL cells slots pc lv (.int y :: .int x :: st) w := fun H locs ls hH hS hl => lv_icmp_ge (tgt := tgt) hC.1 hC.2.1 d ht (fun q => kt q H locs ls hH hS hl) (fun q => kf q H locs ls hH hS hl)
theorem xk_icmp_gt (hC : xk_C p s m args meth c E cc own nL) {x y : Int32} {off : Int} {tgt : Nat} (d : decode cc pc = .ok (.if_icmp .gt off, 3)) (ht : (pc : Int) + off = (tgt : Int)) (kt : y < x → xk_X p l e R s m args below meth c Q E nL cells slots tgt lv st w) (kf : ¬ y < x → xk_X p l e R s m args below meth c Q E nL cells slots (pc + 3) lv st w) : xk_X p l e R s m args below meth c Q E nL cells slots pc lv (.int y :: .int x :: st) w := fun H locs ls hH hS hl => lv_icmp_gt (tgt := tgt) hC.1 hC.2.1 d ht (fun q => kt q H locs ls hH hS hl) (fun q => kf q H locs ls hH hS hl)
theorem xk_icmp_le (hC : xk_C p s m args meth c E cc own nL) {x y : Int32} {off : Int} {tgt : Nat} (d : decode cc pc = .ok (.if_icmp .le off, 3)) (ht : (pc : Int) + off = (tgt : Int)) (kt : x ≤ y → xk_X p l e R s m args below meth c Q E nL cells slots tgt lv st w) (kf : ¬ x ≤ y → xk_X p l e R s m args below meth c Q E nL cells slots (pc + 3) lv st w) : xk_X p l e R s m args below meth c Q E nL cells slots pc lv (.int y :: .int x :: st) w := fun H locs ls hH hS hl => lv_icmp_le (tgt := tgt) hC.1 hC.2.1 d ht (fun q => kt q H locs ls hH hS hl) (fun q => kf q H locs ls hH hS hl)
theorem xk_if_eq (hC : xk_C p s m args meth c E cc own nL) {x : Int32} {off : Int} {tgt : Nat} (d : decode cc pc = .ok (.ifCond .eq off, 3)) (ht : (pc : Int) + off = (tgt : Int)) (kt : x = 0 → xk_X p l e R s m args below meth c Q E nL cells slots tgt lv st w) (kf : ¬ x = 0 → xk_X p l e R s m args below meth c Q E nL cells slots (pc + 3) lv st w) : xk_X p l e R s m args below meth c Q E nL cells slots pc lv (.int x :: st) w := fun H locs ls hH hS hl => lv_if_eq (tgt := tgt) hC.1 hC.2.1 d ht (fun q => kt q H locs ls hH hS hl) (fun q => kf q H locs ls hH hS hl)
theorem xk_if_ne (hC : xk_C p s m args meth c E cc own nL) {x : Int32} {off : Int} {tgt : Nat} (d : decode cc pc = .ok (.ifCond .ne off, 3)) (ht : (pc : Int) + off = (tgt : Int)) (kt : ¬ x = 0 → xk_X p l e R s m args below meth c Q E nL cells slots tgt lv st w) (kf : x = 0 → xk_X p l e R s m args below meth c Q E nL cells slots (pc + 3) lv st w) : xk_X p l e R s m args below meth c Q E nL cells slots pc lv (.int x :: st) w := fun H locs ls hH hS hl => lv_if_ne (tgt := tgt) hC.1 hC.2.1 d ht (fun q => kt q H locs ls hH hS hl) (fun q => kf q H locs ls hH hS hl)
theorem xk_if_lt (hC : xk_C p s m args meth c E cc own nL) {x : Int32} {off : Int} {tgt : Nat} (d : decode cc pc = .ok (.ifCond .lt off, 3)) (ht : (pc : Int) + off = (tgt : Int)) (kt : x < 0 → xk_X p l e R s m args below meth c Q E nL cells slots tgt lv st w) (kf : ¬ x < 0 → xk_X p l e R s m args below meth c Q E nL cells slots (pc + 3) lv st w) : xk_X p l e R s m args below meth c Q E nL cells slots pc lv (.int x :: st) w := fun H locs ls hH hS hl => lv_if_lt (tgt := tgt) hC.1 hC.2.1 d ht (fun q => kt q H locs ls hH hS hl) (fun q => kf q H locs ls hH hS hl)
theorem xk_if_ge (hC : xk_C p s m args meth c E cc own nL) {x : Int32} {off : Int} {tgt : Nat} (d : decode cc pc = .ok (.ifCond .ge off, 3)) (ht : (pc : Int) + off = (tgt : Int)) (kt : 0 ≤ x → xk_X p l e R s m args below meth c Q E nL cells slots tgt lv st w) (kf : ¬ 0 ≤ x → xk_X p l e R s m args below meth c Q E nL cells slots (pc + 3) lv st w) : xk_X p l e R s m args below meth c Q E nL cells slots pc lv (.int x :: st) w := fun H locs ls hH hS hl => lv_if_ge (tgt := tgt) hC.1 hC.2.1 d ht (fun q => kt q H locs ls hH hS hl) (fun q => kf q H locs ls hH hS hl)
theorem xk_if_gt (hC : xk_C p s m args meth c E cc own nL) {x : Int32} {off : Int} {tgt : Nat} (d : decode cc pc = .ok (.ifCond .gt off, 3)) (ht : (pc : Int) + off = (tgt : Int)) (kt : 0 < x → xk_X p l e R s m args below meth c Q E nL cells slots tgt lv st w) (kf : ¬ 0 < x → xk_X p l e R s m args below meth c Q E nL cells slots (pc + 3) lv st w) : xk_X p l e R s m args below meth c Q E nL cells slots pc lv (.int x :: st) w := fun H locs ls hH hS hl => lv_if_gt (tgt := tgt) hC.1 hC.2.1 d ht (fun q => kt q H locs ls hH hS hl) (fun q => kf q H locs ls hH hS hl)
theorem xk_if_le (hC : xk_C p s m args meth c E cc own nL) {x : Int32} {off : Int} {tgt : Nat} (d : decode cc pc = .ok (.ifCond .le off, 3)) (ht : (pc : Int) + off = (tgt : Int)) (kt : x ≤ 0 → xk_X p l e R s m args below meth c Q E nL cells slots tgt lv st w) (kf : ¬ x ≤ 0 → xk_X p l e R s m args below meth c Q E nL cells slots (pc + 3) lv st w) : xk_X p l e R s m args below meth c Q E nL cells slots pc lv (.int x :: st) w := fun H locs ls hH hS hl => lv_if_le (tgt := tgt) hC.1 hC.2.1 d ht (fun q => kt q H locs ls hH hS hl) (fun q => kf q H locs ls hH hS hl)
theorem xk_acmp_eq (hC : xk_C p s m args meth c E cc own nL) {x y : Option Nat} {off : Int} {tgt : Nat} (d : decode cc pc = .ok (.if_acmp .eq off, 3)) (ht : (pc : Int) + off = (tgt : Int)) (kt : x = y → xk_X p l e R s m args below meth c Q E nL cells slots tgt lv st w) (kf : ¬ x = y → xk_X p l e R s m args below meth c Q E nL cells slots (pc + 3) lv st w) : xk_X p l e R s m args below meth c Q E nL cells slots pc lv (va_rf y :: va_rf x :: st) w := fun H locs ls hH hS hl => lv_acmp_eq (tgt := tgt) hC.1 hC.2.1 d ht (fun q => kt q H locs ls hH hS hl) (fun q => kf q H locs ls hH hS hl)
theorem xk_acmp_ne (hC : xk_C p s m args meth c E cc own nL) {x y : Option Nat} {off : Int} {tgt : Nat} (d : decode cc pc = .ok (.if_acmp .ne off, 3)) (ht : (pc : Int) + off = (tgt : Int)) (kt : ¬ x = y → xk_X p l e R s m args below meth c Q E nL cells slots tgt lv st w) (kf : x = y → xk_X p l e R s m args below meth c Q E nL cells slots (pc + 3) lv st w) : xk_X p l e R s m args below meth c Q E nL cells slots pc lv (va_rf y :: va_rf x :: st) w := fun H locs ls hH hS hl => lv_acmp_ne (tgt := tgt) hC.1 hC.2.1 d ht (fun q => kt q H locs ls hH hS hl) (fun q => kf q H locs ls hH hS hl)
theorem xk_tableIn (hC : xk_C p s m args meth c E cc own nL) {dflt lo hi : Int} {offs : Array Int} {len : Nat} {x : Int32} {off : Int} {tgt : Nat} (d : decode cc pc = .ok (.tableswitch dflt lo hi offs, len)) (h1 : ¬ x.toInt < lo) (h2 : ¬ hi < x.toInt) (ho : offs[(x.toInt - lo).toNat]? = some off) (ht : (pc : Int) + off = (tgt : Int)) (kk : xk_X p l e R s m args below meth c Q E nL cells slots tgt lv st w) : xk_X p l e R s m args below meth c Q E nL cells slots pc lv (.int x :: st) w := fun H locs ls hH hS hl => lv_tableIn (tgt := tgt) hC.1 hC.2.1 d h1 h2 ho ht (kk H locs ls hH hS hl)
theorem xk_tableOut (hC : xk_C p s m args meth c E cc own nL) {dflt lo hi : Int} {offs : Array Int} {len : Nat} {x : Int32} {tgt : Nat} (d : decode cc pc = .ok (.tableswitch dflt lo hi offs, len)) (h : x.toInt < lo ∨ hi < x.toInt) (ht : (pc : Int) + dflt = (tgt : Int)) (kk : xk_X p l e R s m args below meth c Q E nL cells slots tgt lv st w) : xk_X p l e R s m args below meth c Q E nL cells slots pc lv (.int x :: st) w := fun H locs ls hH hS hl => lv_tableOut (tgt := tgt) hC.1 hC.2.1 d h ht (kk H locs ls hH hS hl)
end XK
end
section
/-! heap rows, calls and ends over the map -/
theorem xk_nr (C : String) (r : Option Nat) : narrow (.object C) (va_rf r) = va_rf r := by cases r <;> rfl
theorem xk_fr (C : String) (r : Option Nat) : fits (.object C) (va_rf r) = true := by cases r <;> rfl
theorem xk_nra (t : FieldType) (r : Option Nat) : narrow (.array t) (va_rf r) = va_rf r := by cases r <;> rfl
theorem xk_fra (t : FieldType) (r : Option Nat) : fits (.array t) (va_rf r) = true := by cases r <;> rfl
section XR
variable {p : Program} {l : Launch} {e : Env} {R : Room} {s : State} {m : MethodId} {args : Array Value} {below : List Frame} {meth : Method} {c : Code} {Q : State → Prop}
variable {E : xEv} {cc : ByteArray} {own : String} {nL cells slots pc : Nat} {lv lv' : List (Nat × Value)} {st : List Value} {w w1 : xWd}
variable {C ref : String} {T : u_T} {N ci index : Nat} {r : Option Nat}
theorem xk_sm {k : Nat} (hC : xk_C p s m args meth c E cc own nL) (hs : (T k).1 = ref ∨ Cond.sameField ref (T k).1 (T k).2.1 (T k).2.2.1 ∈ xk_T) : ∀ z, s.fieldFound? (T k).1 (T k).2.1 (T k).2.2.1 = some z → s.fieldFound? ref (T k).2.1 (T k).2.2.1 = some z := by
  intro z hz
  rcases hs with h | h
  · rw [← h]; exact hz
  · exact u_same (hC.2.2.2.2.1 _ h) z hz
theorem xk_getI (hC : xk_C p s m args meth c E cc own nL) (hi : ∀ x ∈ u_ws C T N, x ∈ xk_T) (hc : xk_cl[ci]? = some (C, T, N)) (k : Nat) (hk : k < N) (hw : Cond.fieldLink own index ref (T k).2.1 (T k).2.2.1 ∈ xk_T) (hs : (T k).1 = ref ∨ Cond.sameField ref (T k).1 (T k).2.1 (T k).2.2.1 ∈ xk_T) {v : Int32} (d : decode cc pc = .ok (.getfield index, 3)) (h : xk_gI w r ci k = some v)
    (kk : xk_X p l e R s m args below meth c Q E nL cells slots (pc + 3) lv (.int v :: st) w) : xk_X p l e R s m args below meth c Q E nL cells slots pc lv (va_rf r :: st) w := by
  intro H locs ls hH hS hl
  obtain ⟨a, fs, rfl, hm, hv⟩ := xk_gI_e h
  exact va_get (D := E.1) (ws := [(a, .inr (ci, fs))]) hC.1 hC.2.1 hC.2.2.2.2.1 hi hC.2.2.2.1 hC.2.2.2.2.2.2.2.1 (xk_one (hH.2.2.2 a _ hm).1) 0 rfl hc k hk (hC.2.2.2.2.1 _ hw) (xk_sm hC hs) hv d (kk H locs ls hH hS hl)
theorem xk_getR (hC : xk_C p s m args meth c E cc own nL) (hi : ∀ x ∈ u_ws C T N, x ∈ xk_T) (hc : xk_cl[ci]? = some (C, T, N)) (k : Nat) (hk : k < N) (hw : Cond.fieldLink own index ref (T k).2.1 (T k).2.2.1 ∈ xk_T) (hs : (T k).1 = ref ∨ Cond.sameField ref (T k).1 (T k).2.1 (T k).2.2.1 ∈ xk_T) {v : Option Nat} (d : decode cc pc = .ok (.getfield index, 3)) (h : xk_gR w r ci k = some v)
    (kk : xk_X p l e R s m args below meth c Q E nL cells slots (pc + 3) lv (va_rf v :: st) w) : xk_X p l e R s m args below meth c Q E nL cells slots pc lv (va_rf r :: st) w := by
  intro H locs ls hH hS hl
  obtain ⟨a, fs, rfl, hm, hv⟩ := xk_gR_e h
  exact va_get (D := E.1) (ws := [(a, .inr (ci, fs))]) hC.1 hC.2.1 hC.2.2.2.2.1 hi hC.2.2.2.1 hC.2.2.2.2.2.2.2.1 (xk_one (hH.2.2.2 a _ hm).1) 0 rfl hc k hk (hC.2.2.2.2.1 _ hw) (xk_sm hC hs) hv d (kk H locs ls hH hS hl)
theorem xk_put (hC : xk_C p s m args meth c E cc own nL) (hi : ∀ x ∈ u_ws C T N, x ∈ xk_T) (hc : xk_cl[ci]? = some (C, T, N)) {ty0 : Nat → FieldType} (hty : ∀ k, k < N → parseFieldDescriptor (T k).2.2.1 = some (ty0 k)) (hnm : ∀ a, a < N → ∀ b, b < N → a ≠ b → (T a).2.1 ≠ (T b).2.1) (k : Nat) (hk : k < N) (hw : Cond.fieldLink own index ref (T k).2.1 (T k).2.2.1 ∈ xk_T) (hs : (T k).1 = ref ∨ Cond.sameField ref (T k).1 (T k).2.1 (T k).2.2.1 ∈ xk_T) (hfin : (T k).2.2.2 = false) {v : Value} (hn : narrow (ty0 k) v = v) (hfit : fits (ty0 k) v = true) (d : decode cc pc = .ok (.putfield index, 3)) (h : xk_pV w r ci k v = some w1)
    (kk : xk_X p l e R s m args below meth c Q E nL cells slots (pc + 3) lv st w1) : xk_X p l e R s m args below meth c Q E nL cells slots pc lv (v :: va_rf r :: st) w := by
  intro H locs ls hH hS hl
  obtain ⟨a, fs, rfl, hm, hlen, rfl⟩ := xk_pV_e h
  have hts := hC.2.2.2.2.1
  have hK := hC.2.2.2.2.2.2.2.1
  have hap := va_apart (own := own) hts hi ty0 hty hnm hK hc
  obtain ⟨⟨r0, h1, cell, q1, q2, q3, q4⟩, hown⟩ := hH.2.2.2 a _ hm
  have hr : r0 = (C, T, N) := Option.some.inj (h1.symm.trans hc)
  subst hr
  obtain ⟨hSl, hfc, kC, hkC, hkind⟩ := hK.1 ci _ hc
  obtain ⟨cf, kf, fi, f, hif, hsl⟩ := hSl k hk
  have hlay := hts _ (hi _ (u_in_lay hk))
  unfold u_lay at hlay
  rw [if_neg (by rw [hfin]; decide)] at hlay
  have hst := (u_facts hfc hkC (u_lays hts hi hk) hif).1
  have h6 := u_store hfc hkC hkind hlay hif (hty k hk) hn hfit
  refine W.putK hC.1 hC.2.1 (f := f) ⟨hC.2.2.2.1, hts _ hw, ⟨_, _, _, xk_sm hC hs _ hif⟩, hst⟩ (by rw [q2]; exact h6) q1 q3 (by rw [hsl]; exact k2_hasslot (q4 k hk)) rfl rfl d fun H' e1 e2 e3 => ?_
  rw [hsl] at e1 ⊢
  exact kk H' _ ls (hH.setp (z := .inr (ci, fs.set k v)) (hown trivial) ⟨_, hc, t_OB.to (V := updV (vp_V fs) k v) ⟨_, e1, q2, q3, t_set q4 hap hk v⟩ (fun j _ => vp_updV_set hlen v j)⟩ e2 e3) (hS.put e2 e3 (hown trivial)) hl
theorem xk_putF (hC : xk_C p s m args meth c E cc own nL) (hi : ∀ x ∈ u_ws C T N, x ∈ xk_T) (hc : xk_cl[ci]? = some (C, T, N)) {ty0 : Nat → FieldType} (hty : ∀ k, k < N → parseFieldDescriptor (T k).2.2.1 = some (ty0 k)) (hnm : ∀ a, a < N → ∀ b, b < N → a ≠ b → (T a).2.1 ≠ (T b).2.1) (k : Nat) (hk : k < N) (hw : Cond.fieldLink own index ref (T k).2.1 (T k).2.2.1 ∈ xk_T) (hs : (T k).1 = ref ∨ Cond.sameField ref (T k).1 (T k).2.1 (T k).2.2.1 ∈ xk_T) (hfin : (T k).2.2.2 = true) (hin2 : meth.name = "<init>") (hdecl : (T k).1 = own) {v : Value} (hn : narrow (ty0 k) v = v) (hfit : fits (ty0 k) v = true) (d : decode cc pc = .ok (.putfield index, 3)) (h : xk_pV w r ci k v = some w1)
    (kk : xk_X p l e R s m args below meth c Q E nL cells slots (pc + 3) lv st w1) : xk_X p l e R s m args below meth c Q E nL cells slots pc lv (v :: va_rf r :: st) w := by
  intro H locs ls hH hS hl
  obtain ⟨a, fs, rfl, hm, hlen, rfl⟩ := xk_pV_e h
  have hts := hC.2.2.2.2.1
  have hK := hC.2.2.2.2.2.2.2.1
  have hap := va_apart (own := own) hts hi ty0 hty hnm hK hc
  obtain ⟨⟨r0, h1, cell, q1, q2, q3, q4⟩, hown⟩ := hH.2.2.2 a _ hm
  have hr : r0 = (C, T, N) := Option.some.inj (h1.symm.trans hc)
  subst hr
  obtain ⟨hSl, hfc, kC, hkC, hkind⟩ := hK.1 ci _ hc
  obtain ⟨cf, kf, fi, f, hif, hsl⟩ := hSl k hk
  have hlay := hts _ (hi _ (u_in_lay hk))
  unfold u_lay at hlay
  rw [if_pos hfin] at hlay
  have hst := (u_facts hfc hkC (u_lays hts hi hk) hif).1
  have hcf : m.cls = cf := by
    obtain ⟨_, _, c', _, _, _, -, -, hf', -, -, -, hown2, -⟩ := Cond.laysFinal_spec hlay
    have e1 : c' = cf := by have := hif.symm.trans hf'; simp at this; exact this.1.symm
    rw [hdecl] at hown2
    rw [← e1]; exact Option.some.inj (hC.2.2.2.1.symm.trans hown2)
  have h6 := u_fits hfc hkC hkind (Or.inr hlay) hif (hty k hk) hn hfit
  refine W.putFinK hC.1 hC.2.1 hC.2.2.2.1 (hts _ hw) (xk_sm hC hs _ hif) hst hcf hin2 (by rw [q2]; exact h6) q1 q3 (by rw [hsl]; exact k2_hasslot (q4 k hk)) rfl rfl d fun H' e1 e2 e3 => ?_
  rw [hsl] at e1 ⊢
  exact kk H' _ ls (hH.setp (z := .inr (ci, fs.set k v)) (hown trivial) ⟨_, hc, t_OB.to (V := updV (vp_V fs) k v) ⟨_, e1, q2, q3, t_set q4 hap hk v⟩ (fun j _ => vp_updV_set hlen v j)⟩ e2 e3) (hS.put e2 e3 (hown trivial)) hl
theorem xk_grow {H H1 : Heap} {locs : List Loc} {z0 : Nat} {H0 : Heap} (hS : va_S (xk_A z0) H0 H locs) (z1 : H1.size = H.size + 1) (o1 : ∀ q : Nat, q < H.size → H1[q]? = H[q]?) : va_S (xk_A z0) H0 H1 locs :=
  ⟨Nat.le_trans hS.1 (by omega), fun x h1 h2 => (o1 x (Nat.lt_of_lt_of_le h1 hS.1)).trans (hS.2.1 x h1 h2), hS.2.2⟩
theorem xk_new (hC : xk_C p s m args meth c E cc own nL) (hi : ∀ x ∈ u_ws C T N, x ∈ xk_T) (hc : xk_cl[ci]? = some (C, T, N)) {ty0 : Nat → FieldType} (hty : ∀ k, k < N → parseFieldDescriptor (T k).2.2.1 = some (ty0 k)) (hcl : Cond.classLink own index C ∈ xk_T) (hinst : Cond.instantiable C N ∈ xk_T) (hini : Cond.initialized C ∈ xk_T) {fs : List Value} (hfs : ∀ j, j < N → defaultValue (ty0 j) = vp_V fs j) (hcells : cells + 1 ≤ R.cells) (hslots : slots + N ≤ R.slots) (d : decode cc pc = .ok (.new index, 3))
    (kk : xk_X p l e R s m args below meth c Q E nL (cells + 1) (slots + N) (pc + 3) lv (va_rf (some w.2.1) :: st) (xk_nw w ci fs)) : xk_X p l e R s m args below meth c Q E nL cells slots pc lv st w := by
  intro H locs ls hH hS hl
  have hts := hC.2.2.2.2.1
  have hKn := hC.2.2.2.2.2.2.2.1.1 ci _ hc
  refine W.newcK hC.1 hC.2.1 hC.2.2.2.1 (hts _ hcl) (hts _ hinst) (hts _ hini) rfl d hcells hslots hKn.2.1 rfl fun H1 kC hkC e1 z1 o1 => ?_
  have hq : va_at E.1 xk_cl (H.size, .inr (ci, fs)) H1 := ⟨_, hc, (u_born ty0 hts hi hKn hkC e1 hty).to hfs⟩
  have k2 := kk H1 locs ls (hH.push (z := .inr (ci, fs)) hq z1 o1) (xk_grow hS z1 o1) hl
  rw [← hH.1] at k2
  exact k2
theorem xk_newarr (hC : xk_C p s m args meth c E cc own nL) {atype : ArrayType} {ty : FieldType} (hty : newarray.typeOf atype = ty) (harr : Cond.arrayClass ty ∈ xk_T) {kd : Nat} {dd : vp_A} (hk : (xk_tys E.2.1)[kd]? = some (E.2.1 kd, ty)) (hd : ∀ (cA : ClassId) (N' : Nat), vp_cell cA (N', dd.2) = arrV cA N' (fun _ => defaultValue ty)) {n : Int32} {cap : Nat} (hcap : cap * componentBytes ty ≤ 536870912) (hcells : cells + 1 ≤ R.cells) (hslots : slots + cap ≤ R.slots) (d : decode cc pc = .ok (.newarray atype, 2)) (h : xk_nA w kd dd n cap = some w1)
    (kk : xk_X p l e R s m args below meth c Q E nL (cells + 1) (slots + cap) (pc + 2) lv (va_rf (some w.2.1) :: st) w1) : xk_X p l e R s m args below meth c Q E nL cells slots pc lv (.int n :: st) w := by
  intro H locs ls hH hS hl
  subst hty
  unfold xk_nA at h
  split at h
  · cases h
  · rename_i hn
    split at h
    · rename_i hle
      cases h
      refine va_newaK hC.1 hC.2.1 (hC.2.2.2.2.1 _ harr) rfl d rfl hn rfl (Nat.le_trans (Nat.mul_le_mul_right _ hle) hcap) hcells (by omega) rfl fun H1 cA e1 z1 o1 hAr hNm => ?_
      have hRA := ((hC.2.2.2.2.2.2.2.1).2 kd _ hk).2
      have hcA : cA = E.2.1 kd := by
        have hR2 : s.vm.findClass ("[" ++ (newarray.typeOf atype).toString) = some (E.2.1 kd) := by
          cases atype <;> exact hRA
        exact Option.some.inj (hNm.symm.trans hR2)
      have hq : va_at E.1 xk_cl (H.size, xk_toE E.2.1 (.inl (kd, n.toNatClampNeg, dd.2))) H1 := by
        show H1[H.size]? = some (vp_cell (E.2.1 kd) (n.toNatClampNeg, dd.2))
        rw [hd, ← hcA]
        exact e1
      have k2 := kk H1 locs ls (hH.push (z := .inl (kd, n.toNatClampNeg, dd.2)) hq z1 o1) (xk_grow hS z1 o1) hl
      rw [← hH.1] at k2
      exact W.widen (Nat.le_refl _) (Nat.add_le_add_left hle _) k2
    · cases h
theorem xk_anew (hC : xk_C p s m args meth c E cc own nL) (hclink : Cond.classLink own index "java/lang/Object" ∈ xk_T) (hover : va_AO "java/lang/Object" s) (hk : (xk_tys E.2.1)[2]? = some (E.2.1 2, .object "java/lang/Object")) {n : Int32} {cap : Nat} (hcap : cap * 4 ≤ 536870912) (hcells : cells + 1 ≤ R.cells) (hslots : slots + cap ≤ R.slots) (d : decode cc pc = .ok (.anewarray index, 3)) (h : xk_nA w 2 xk_dR n cap = some w1)
    (kk : xk_X p l e R s m args below meth c Q E nL (cells + 1) (slots + cap) (pc + 3) lv (va_rf (some w.2.1) :: st) w1) : xk_X p l e R s m args below meth c Q E nL cells slots pc lv (.int n :: st) w := by
  intro H locs ls hH hS hl
  unfold xk_nA at h
  split at h
  · cases h
  · rename_i hn
    split at h
    · rename_i hle
      cases h
      refine W.anew hC.1 hC.2.1 hC.2.2.2.1 (hC.2.2.2.2.1 _ hclink) (va_AO.use hover) rfl d rfl hn (Nat.le_trans (Nat.mul_le_mul_right _ hle) hcap) hcells (by omega) fun cA kA comp f1 f2 f3 f4 => ?_
      generalize hH1 : H.push ({ cls := cA, slots := Array.replicate n.toNatClampNeg .null, vm := .none } : Cell) = H1
      have z1 : H1.size = H.size + 1 := by rw [← hH1, Array.size_push]
      have e1 : H1[H.size]? = some (arrV cA n.toNatClampNeg (fun _ => .null)) := by rw [← hH1, Array.getElem?_push_size, ← arrV_new]
      have o1 : ∀ q : Nat, q < H.size → H1[q]? = H[q]? := fun q hq => by rw [← hH1, Array.getElem?_push, if_neg (Nat.ne_of_lt hq)]
      obtain ⟨kA', comp', g1, g2, g3, g4⟩ := ((hC.2.2.2.2.2.2.2.1).2 2 _ hk).2
      have hcA : cA = E.2.1 2 := Option.some.inj (f1.symm.trans g4)
      have hq : va_at E.1 xk_cl (H.size, xk_toE E.2.1 (.inl (2, n.toNatClampNeg, xk_dR.2))) H1 := by
        show H1[H.size]? = some (vp_cell (E.2.1 2) (n.toNatClampNeg, xk_dR.2))
        rw [← hcA]
        exact e1
      have k2 := kk H1 locs ls (hH.push (z := .inl (2, n.toNatClampNeg, xk_dR.2)) hq z1 o1) (xk_grow hS z1 o1) hl
      rw [← hH.1] at k2
      exact W.widen (Nat.le_refl _) (Nat.add_le_add_left hle _) k2
    · cases h
theorem xk_iald (hC : xk_C p s m args meth c E cc own nL) (hk : (xk_tys E.2.1)[0]? = some (E.2.1 0, .int)) {i v : Int32} (d : decode cc pc = .ok (.iaload, 1)) (h : xk_lI 0 w r i = some v) (kk : xk_X p l e R s m args below meth c Q E nL cells slots (pc + 1) lv (.int v :: st) w) : xk_X p l e R s m args below meth c Q E nL cells slots pc lv (.int i :: va_rf r :: st) w := by
  intro H locs ls hH hS hl
  obtain ⟨a, n, f, rfl, hm, hin, rfl⟩ := xk_lI_e h
  exact va_iald hC.1 hC.2.1 hC.2.2.2.2.2.2.2.1 (ws := [(a, .inl (E.2.1 0, n, .inl f))]) (xk_one (hH.2.2.2 a _ hm).1) 0 0 rfl hk hin d (kk H locs ls hH hS hl)
theorem xk_zald (hC : xk_C p s m args meth c E cc own nL) (hk : (xk_tys E.2.1)[1]? = some (E.2.1 1, .boolean)) {i v : Int32} (d : decode cc pc = .ok (.baload, 1)) (h : xk_lI 1 w r i = some v) (kk : xk_X p l e R s m args below meth c Q E nL cells slots (pc + 1) lv (.int v :: st) w) : xk_X p l e R s m args below meth c Q E nL cells slots pc lv (.int i :: va_rf r :: st) w := by
  intro H locs ls hH hS hl
  obtain ⟨a, n, f, rfl, hm, hin, rfl⟩ := xk_lI_e h
  exact va_zald hC.1 hC.2.1 hC.2.2.2.2.2.2.2.1 (ws := [(a, .inl (E.2.1 1, n, .inl f))]) (xk_one (hH.2.2.2 a _ hm).1) 0 1 rfl hk hin d (kk H locs ls hH hS hl)
theorem xk_aald (hC : xk_C p s m args meth c E cc own nL) (hk : (xk_tys E.2.1)[2]? = some (E.2.1 2, .object "java/lang/Object")) {i : Int32} {v : Option Nat} (d : decode cc pc = .ok (.aaload, 1)) (h : xk_lR 2 w r i = some v) (kk : xk_X p l e R s m args below meth c Q E nL cells slots (pc + 1) lv (va_rf v :: st) w) : xk_X p l e R s m args below meth c Q E nL cells slots pc lv (.int i :: va_rf r :: st) w := by
  intro H locs ls hH hS hl
  obtain ⟨a, n, f, rfl, hm, hin, rfl⟩ := xk_lR_e h
  exact va_aldq hC.1 hC.2.1 hC.2.2.2.2.2.2.2.1 (ws := [(a, .inl (E.2.1 2, n, .inr (.inr (.inr (.inr f)))))]) (xk_one (hH.2.2.2 a _ hm).1) 0 2 rfl hk hin d (kk H locs ls hH hS hl)
theorem xk_alen (hC : xk_C p s m args meth c E cc own nL) {v : Int32} (d : decode cc pc = .ok (.arraylength, 1)) (h : xk_len w r = some v) (kk : xk_X p l e R s m args below meth c Q E nL cells slots (pc + 1) lv (.int v :: st) w) : xk_X p l e R s m args below meth c Q E nL cells slots pc lv (va_rf r :: st) w := by
  intro H locs ls hH hS hl
  obtain ⟨z, h1, h2⟩ := xk_bi h
  split at h2
  · rename_i hk
    obtain ⟨ty, ht⟩ := xk_tyk E.2.1 z.1 hk
    obtain ⟨a, rfl, hm⟩ := xk_arr_e h1
    cases h2
    exact va_alen hC.1 hC.2.1 hC.2.2.2.2.2.2.2.1 (ws := [(a, .inl (E.2.1 z.1, z.2))]) (xk_one (hH.2.2.2 a _ hm).1) 0 z.1 rfl ht rfl d (kk H locs ls hH hS hl)
  · cases h2
theorem xk_iast (hC : xk_C p s m args meth c E cc own nL) (hk : (xk_tys E.2.1)[0]? = some (E.2.1 0, .int)) {i v : Int32} (d : decode cc pc = .ok (.iastore, 1)) (h : xk_sI 0 w r i v = some w1) (kk : xk_X p l e R s m args below meth c Q E nL cells slots (pc + 1) lv st w1) : xk_X p l e R s m args below meth c Q E nL cells slots pc lv (.int v :: .int i :: va_rf r :: st) w := by
  intro H locs ls hH hS hl
  obtain ⟨a, n, f, rfl, hm, hin, rfl⟩ := xk_sI_e h
  have hP : va_P E.1 xk_cl [(a, .inl (E.2.1 0, n, .inl f))] H := xk_one (hH.2.2.2 a _ hm).1
  have ha : E.2.2.1 ≤ a := (hH.2.2.2 a _ hm).2 (fun h => by cases h)
  refine W.iast hC.1 hC.2.1 (hP 0 _ rfl) ((hC.2.2.2.2.2.2.2.1.2 0 _ hk).1 n (fun j => .int (f j))) (fun q => by cases q) (by show ¬ (i < 0 ∨ (arrV _ _ _).slots.size ≤ _); rw [arrV_size]; exact hin) rfl rfl d fun H1 e1 z1 oq => ?_
  refine kk H1 _ ls (hH.setp ha (z := .inl (0, n, .inl (upd f i.toNatClampNeg v))) ?_ z1 oq) (hS.put z1 oq ha) hl
  show H1[a]? = some (vp_cell _ _)
  rw [e1]
  show some ((vp_cell _ (n, Sum.inl f)).setSlot _ _) = some (vp_cell _ (n, Sum.inl _))
  rw [vp_cell_i, vp_cell_i, arrV_store]
  congr 2
  funext q
  by_cases hq : q = i.toNatClampNeg
  · subst hq
    simp [updV, upd]
  · simp [updV, upd, hq]
theorem xk_zast (hC : xk_C p s m args meth c E cc own nL) (hk : (xk_tys E.2.1)[1]? = some (E.2.1 1, .boolean)) {i v : Int32} (d : decode cc pc = .ok (.bastore, 1)) (h : xk_sI 1 w r i (vp_nar .boolean v) = some w1) (kk : xk_X p l e R s m args below meth c Q E nL cells slots (pc + 1) lv st w1) : xk_X p l e R s m args below meth c Q E nL cells slots pc lv (.int v :: .int i :: va_rf r :: st) w := by
  intro H locs ls hH hS hl
  obtain ⟨a, n, f, rfl, hm, hin, rfl⟩ := xk_sI_e h
  have hP : va_P E.1 xk_cl [(a, .inl (E.2.1 1, n, .inl f))] H := xk_one (hH.2.2.2 a _ hm).1
  have ha : E.2.2.1 ≤ a := (hH.2.2.2 a _ hm).2 (fun h => by cases h)
  refine W.zast hC.1 hC.2.1 (hP 0 _ rfl) ((hC.2.2.2.2.2.2.2.1.2 1 _ hk).1 n (fun j => .int (f j))) (fun q => by cases q) (by show ¬ (i < 0 ∨ (arrV _ _ _).slots.size ≤ _); rw [arrV_size]; exact hin) rfl rfl d fun H1 e1 z1 oq => ?_
  refine kk H1 _ ls (hH.setp ha (z := .inl (1, n, .inl (upd f i.toNatClampNeg (vp_nar .boolean v)))) ?_ z1 oq) (hS.put z1 oq ha) hl
  show H1[a]? = some (vp_cell _ _)
  rw [e1]
  show some ((vp_cell _ (n, Sum.inl f)).setSlot _ _) = some (vp_cell _ (n, Sum.inl _))
  rw [vp_cell_i, vp_cell_i, arrV_store]
  congr 2
  funext q
  by_cases hq : q = i.toNatClampNeg
  · subst hq
    simp [updV, upd, vp_nar]
    try rfl
  · simp [updV, upd, hq]
/-- an object of ours, or null, into a row of objects -/
theorem xk_aast (hC : xk_C p s m args meth c E cc own nL) (hk : (xk_tys E.2.1)[2]? = some (E.2.1 2, .object "java/lang/Object")) (hca : ∀ (ci : Nat) (q : vw_C), xk_cl[ci]? = some q → va_Nw (.castable q.1 "java/lang/Object") s) {i : Int32} {v : Option Nat} (d : decode cc pc = .ok (.aastore, 1)) (h : xk_sR 2 w r i v = some w1) (hv : v = none ∨ ∃ ci fs, xk_obj w v ci = some fs) (kk : xk_X p l e R s m args below meth c Q E nL cells slots (pc + 1) lv st w1) : xk_X p l e R s m args below meth c Q E nL cells slots pc lv (va_rf v :: .int i :: va_rf r :: st) w := by
  intro H locs ls hH hS hl
  obtain ⟨a, n, f, rfl, hm, hin, rfl⟩ := xk_sR_e h
  have hP : va_P E.1 xk_cl [(a, .inl (E.2.1 2, n, .inr (.inr (.inr (.inr f)))))] H := xk_one (hH.2.2.2 a _ hm).1
  have ha : E.2.2.1 ≤ a := (hH.2.2.2 a _ hm).2 (fun h => by cases h)
  have hK := hC.2.2.2.2.2.2.2.1
  have fin : ∀ H1 : Heap, H1[a]? = some ((vp_cell (E.2.1 2) (n, .inr (.inr (.inr (.inr f))))).setSlot i.toNatClampNeg (va_rf v)) → va_at E.1 xk_cl (a, xk_toE E.2.1 (.inl (2, n, .inr (.inr (.inr (.inr (va_up f i.toNatClampNeg v))))))) H1 := by
    intro H1 e1
    show H1[a]? = some (vp_cell (E.2.1 2) (n, .inr (.inr (.inr (.inr (va_up f i.toNatClampNeg v))))))
    rw [e1]
    rw [vp_cell_q, vp_cell_q, arrV_store]
    congr 2
    funext q
    by_cases hq : q = i.toNatClampNeg
    · subst hq
      simp [updV, va_up]
    · simp [updV, va_up, hq]
  cases v with
  | none =>
    refine va_WaastN (C := "java/lang/Object") hC.1 hC.2.1 (hP 0 _ rfl) ((hK.2 2 _ hk).1 n (fun j => va_rf (f j))) (fun q => by cases q) (by show ¬ (i < 0 ∨ (arrV _ _ _).slots.size ≤ _); rw [arrV_size]; exact hin) rfl rfl d fun H1 e1 z1 oq => ?_
    exact kk H1 _ ls (hH.setp ha (z := .inl (2, n, .inr (.inr (.inr (.inr (va_up f i.toNatClampNeg none)))))) (fin H1 e1) z1 oq) (hS.put z1 oq ha) hl
  | some v =>
    rcases hv with hv | ⟨ci, fs, hv⟩
    · cases hv
    · obtain ⟨v', hv1, hv2⟩ := xk_obj_e hv
      cases hv1
      obtain ⟨q, hq, cellV, g1, g2, g3, -⟩ := (hH.2.2.2 v _ hv2).1
      have hlt : i.toNatClampNeg < n := Nat.not_le.mp fun q => hin (Or.inr q)
      have h0 : ¬ i < 0 := fun q => hin (Or.inl q)
      have hcls := (hK.1 ci q hq).2
      obtain ⟨kA, comp, k1, k2, k3, -⟩ := (hK.2 2 _ hk).2
      obtain ⟨kE, hkE, -⟩ := Vm.findClass_spec k3
      obtain ⟨c0, t1, f1, f2, f3⟩ := Cond.castable_spec (va_Nw.use (A := args) rfl (hca ci q hq))
      cases hcls.1.symm.trans f1
      cases k3.symm.trans f2
      obtain ⟨kC, hkC, -⟩ := hcls.2
      refine W.aast hC.1 hC.2.1 (hP 0 _ rfl) (fun q h => by cases h) (fun h => by cases h) k1 k2 rfl hkE ⟨h0, by show _ < (arrV _ _ _).slots.size; rw [arrV_size]; exact hlt⟩ g1 (fun q h => by rw [g3] at h; cases h) (by rw [g2]; exact hkC) (by rw [g2]; exact f3) rfl rfl d fun H1 e1 z1 oq => ?_
      exact kk H1 _ ls (hH.setp ha (z := .inl (2, n, .inr (.inr (.inr (.inr (va_up f i.toNatClampNeg (some v))))))) (fin H1 e1) z1 oq) (hS.put z1 oq ha) hl
theorem xk_cast (hC : xk_C p s m args meth c E cc own nL) (hc : xk_cl[ci]? = some (C, T, N)) (hw : Cond.classLink own index C ∈ xk_T) (d : decode cc pc = .ok (.checkcast index, 3)) {u : Unit} (h : xk_cc w r ci = some u) (kk : xk_X p l e R s m args below meth c Q E nL cells slots (pc + 3) lv (va_rf r :: st) w) : xk_X p l e R s m args below meth c Q E nL cells slots pc lv (va_rf r :: st) w := by
  intro H locs ls hH hS hl
  unfold xk_cc at h
  split at h
  · rename_i hr
    subst hr
    exact lv_castN hC.1 hC.2.1 d (kk H locs ls hH hS hl)
  · obtain ⟨fs, h1, -⟩ := xk_bi h
    obtain ⟨a, rfl, hm⟩ := xk_obj_e h1
    obtain ⟨q, hq, cell, g1, g2, g3, -⟩ := (hH.2.2.2 a _ hm).1
    have hr : q = (C, T, N) := Option.some.inj (hq.symm.trans hc)
    subst hr
    have hKn := (hC.2.2.2.2.2.2.2.1.1 ci _ hc).2
    exact va_castS hC.1 hC.2.1 hC.2.2.2.1 (hC.2.2.2.2.1 _ hw) hKn ⟨cell, g1, by rw [g3]; rfl, by rw [g2]; exact hKn.1⟩ d (kk H locs ls hH hS hl)
theorem xk_gets (hC : xk_C p s m args meth c E cc own nL) (hw : Cond.fieldLink own index "java/util/ArrayList" "DEFAULTCAPACITY_EMPTY_ELEMENTDATA" "[Ljava/lang/Object;" ∈ xk_T) (d : decode cc pc = .ok (.getstatic index, 3)) (kk : xk_X p l e R s m args below meth c Q E nL cells slots (pc + 3) lv (va_rf (some w.2.2) :: st) w) : xk_X p l e R s m args below meth c Q E nL cells slots pc lv st w := by
  intro H locs ls hH hS hl
  have k2 := kk H locs ls hH hS hl
  rw [hH.2.2.1] at k2
  exact va_gets hC.1 hC.2.1 hC.2.2.2.2.2.2.2.2.1 hS hC.2.2.2.1 (hC.2.2.2.2.1 _ hw) (fun _ h => h) d k2
theorem xk_mmin (hC : xk_C p s m args meth c E cc own nL) (hw : Cond.methodLink own index Lib.Math.min.name ∈ xk_T) (h2 : Cond.static Lib.Math.min.name ∈ xk_T) (h3 : Cond.initialized "java/lang/Math" ∈ xk_T) (h4 : Cond.code Lib.Math.min.name Lib.Math.min.code 2 (some .int) ∈ xk_T) (hf : 1 ≤ R.frames) (hlo : (st.map fun v => v.category).sum + 13 ≤ R.locals) (h5 : cells ≤ R.cells) (h6 : slots ≤ R.slots) {x y : Int32} (d : decode cc pc = .ok (.invokestatic index, 3)) (kk : xk_X p l e R s m args below meth c Q E nL cells slots (pc + 3) lv (.int (if y < x then y else x) :: st) w) : xk_X p l e R s m args below meth c Q E nL cells slots pc lv (.int y :: .int x :: st) w := fun H locs ls hH hS hl => va_mmin hC.1 hC.2.1 (hC.2.2.1.trans hl.1.symm) hC.2.2.2.1 (hC.2.2.2.2.1 _ hw) (hC.2.2.2.2.1 _ h2) (hC.2.2.2.2.1 _ h3) (hC.2.2.2.2.1 _ h4) hf hlo h5 h6 d (kk H locs ls hH hS hl)
theorem xk_mmax (hC : xk_C p s m args meth c E cc own nL) (hw : Cond.methodLink own index Lib.Math.max.name ∈ xk_T) (h2 : Cond.static Lib.Math.max.name ∈ xk_T) (h3 : Cond.initialized "java/lang/Math" ∈ xk_T) (h4 : Cond.code Lib.Math.max.name Lib.Math.max.code 2 (some .int) ∈ xk_T) (hf : 1 ≤ R.frames) (hlo : (st.map fun v => v.category).sum + 13 ≤ R.locals) (h5 : cells ≤ R.cells) (h6 : slots ≤ R.slots) {x y : Int32} (d : decode cc pc = .ok (.invokestatic index, 3)) (kk : xk_X p l e R s m args below meth c Q E nL cells slots (pc + 3) lv (.int (if x < y then y else x) :: st) w) : xk_X p l e R s m args below meth c Q E nL cells slots pc lv (.int y :: .int x :: st) w := fun H locs ls hH hS hl => va_mmax hC.1 hC.2.1 (hC.2.2.1.trans hl.1.symm) hC.2.2.2.1 (hC.2.2.2.2.1 _ hw) (hC.2.2.2.2.1 _ h2) (hC.2.2.2.2.1 _ h3) (hC.2.2.2.2.1 _ h4) hf hlo h5 h6 d (kk H locs ls hH hS hl)
theorem xk_mabs (hC : xk_C p s m args meth c E cc own nL) (hw : Cond.methodLink own index Lib.Math.abs.name ∈ xk_T) (h2 : Cond.static Lib.Math.abs.name ∈ xk_T) (h3 : Cond.initialized "java/lang/Math" ∈ xk_T) (h4 : Cond.code Lib.Math.abs.name Lib.Math.abs.code 1 (some .int) ∈ xk_T) (hf : 1 ≤ R.frames) (hlo : (st.map fun v => v.category).sum + 13 ≤ R.locals) (h5 : cells ≤ R.cells) (h6 : slots ≤ R.slots) {x : Int32} (d : decode cc pc = .ok (.invokestatic index, 3)) (kk : xk_X p l e R s m args below meth c Q E nL cells slots (pc + 3) lv (.int (if 0 ≤ x then x else 0 - x) :: st) w) : xk_X p l e R s m args below meth c Q E nL cells slots pc lv (.int x :: st) w := fun H locs ls hH hS hl => va_mabs hC.1 hC.2.1 (hC.2.2.1.trans hl.1.symm) hC.2.2.2.1 (hC.2.2.2.2.1 _ hw) (hC.2.2.2.2.1 _ h2) (hC.2.2.2.2.1 _ h3) (hC.2.2.2.2.1 _ h4) hf hlo h5 h6 d (kk H locs ls hH hS hl)
/-- the ends -/
theorem xk_iret (hC : xk_C p s m args meth c E cc own nL) {ty : FieldType} (hr : meth.sig.returnType = some ty) {v : Int32} (hn : narrow ty (.int v) = .int v) (d : decode cc pc = .ok (.ireturn, 1)) : xk_X p l e R s m args below meth c (MQ below (xk_Qi E (v, w)) args s cells slots (xk_A E.2.2.1)) E nL cells slots pc lv [.int v] w := fun H locs ls hH hS hl => W.zret (v := v) hC.1 hC.2.1 hr hn (fun t ht hW => ⟨⟨v, (), rfl, rfl, by subst ht; exact hH⟩, hS.F ht⟩) hS.2.2 d hC.2.2.2.2.2.1
theorem xk_lret (hC : xk_C p s m args meth c E cc own nL) (hr : meth.sig.returnType = some .long) {v : Int64} (d : decode cc pc = .ok (.lreturn, 1)) : xk_X p l e R s m args below meth c (MQ below (xk_Ql E (v, w)) args s cells slots (xk_A E.2.2.1)) E nL cells slots pc lv [.long v] w := fun H locs ls hH hS hl => W.lret (v := v) hC.1 hC.2.1 hr (fun t ht hW => ⟨⟨v, (), rfl, rfl, by subst ht; exact hH⟩, hS.F ht⟩) hS.2.2 d hC.2.2.2.2.2.1
theorem xk_dret (hC : xk_C p s m args meth c E cc own nL) (hr : meth.sig.returnType = some .double) {v : UInt64} (d : decode cc pc = .ok (.dreturn, 1)) : xk_X p l e R s m args below meth c (MQ below (xk_Qd E (v, w)) args s cells slots (xk_A E.2.2.1)) E nL cells slots pc lv [.double v] w := fun H locs ls hH hS hl => W.dret (v := v) hC.1 hC.2.1 hr (fun t ht hW => ⟨⟨v, (), rfl, rfl, by subst ht; exact hH⟩, hS.F ht⟩) hS.2.2 d hC.2.2.2.2.2.1
theorem xk_aret (hC : xk_C p s m args meth c E cc own nL) {ty : FieldType} (hr : meth.sig.returnType = some ty) (hty : (∃ n, ty = .object n) ∨ ∃ t, ty = .array t) (d : decode cc pc = .ok (.areturn, 1)) : xk_X p l e R s m args below meth c (MQ below (xk_Qq E (r, w)) args s cells slots (xk_A E.2.2.1)) E nL cells slots pc lv [va_rf r] w := fun H locs ls hH hS hl => W.aret (v := va_rf r) hC.1 hC.2.1 hr hty (by cases r with | none => exact Or.inl rfl | some a => exact Or.inr ⟨a, rfl⟩) (fun t ht hW => ⟨⟨r, (), rfl, rfl, by subst ht; exact hH⟩, hS.F ht⟩) hS.2.2 d hC.2.2.2.2.2.1
theorem xk_vret (hC : xk_C p s m args meth c E cc own nL) (hr : meth.sig.returnType = none) (d : decode cc pc = .ok (.return_, 1)) : xk_X p l e R s m args below meth c (MQ below (xk_Qv E w) args s cells slots (xk_A E.2.2.1)) E nL cells slots pc lv [] w := fun H locs ls hH hS hl => W.vret hC.1 hC.2.1 hr (fun t ht hW => ⟨⟨(), rfl, trivial, by subst ht; exact hH⟩, hS.F ht⟩) hS.2.2 d hC.2.2.2.2.2.1
/-- calls -/
theorem xk_S.warm {U : State} {H : Heap} {locs : List Loc} (h : xk_S E s) (hS : va_S (xk_A E.2.2.1) s.heap H locs) (hW : s.WarmedH U.vm) (hU : U.heap = H) : xk_S E U := by
  refine ⟨Nat.le_trans h.1 (by rw [hU]; exact hS.1), va_K.moved hW.alike h.2.1, va_Z.kept (va_Z.moved hW.alike h.2.2.1) (fun q hq hn => by rw [hU]; exact hS.2.1 q hq hn), h.2.2.2.warm hW⟩
theorem xk_blind {av : List Value} : FrameBlind (va_Pc av (fun U => xk_H E w U.heap ∧ xk_S E U)) := by
  intro a U g mk h
  obtain ⟨h1, h2, h3⟩ := h
  exact ⟨h1, h2, h3.1, va_K.moved (Vm.Alike.refl U.vm) h3.2.1, va_Z.moved (Vm.Alike.refl U.vm) h3.2.2.1, h3.2.2.2.same rfl⟩
theorem xk_gv {own C : String} {idx : Nat} {y : MethodName} {b : ByteArray} {n : Nat} {ret : Option FieldType} (h1 : Cond.methodLink own idx y ∈ xk_T) (h2 : Cond.instanceMethod y ∈ xk_T) (h3 : Cond.selects C y y ∈ xk_T) (h4 : Cond.initialized C ∈ xk_T) (h5 : Cond.code y b n ret ∈ xk_T) : GoodIn xk_T (wsV own idx C y (Cond.code y b n ret :: xk_T)) := by
  intro w hw
  have hm : w ∈ xk_T := by
    simp only [wsV, List.cons_append, List.nil_append, List.mem_cons] at hw
    rcases hw with rfl | rfl | rfl | rfl | rfl | h <;> assumption
  exact ⟨hm, good_of_word (xk_good hm)⟩
theorem xk_gs {own : String} {idx : Nat} {y : MethodName} {b : ByteArray} {n : Nat} {ret : Option FieldType} (h1 : Cond.methodLink own idx y ∈ xk_T) (h2 : Cond.static y ∈ xk_T) (h4 : Cond.initialized y.cls ∈ xk_T) (h5 : Cond.code y b n ret ∈ xk_T) : GoodIn xk_T (va_wsS own idx y (Cond.code y b n ret :: xk_T)) := by
  intro w hw
  have hm : w ∈ xk_T := by
    simp only [va_wsS, List.cons_append, List.nil_append, List.mem_cons] at hw
    rcases hw with rfl | rfl | rfl | rfl | h <;> assumption
  exact ⟨hm, good_of_word (xk_good hm)⟩
theorem xk_gb {y : MethodName} {b : ByteArray} {n : Nat} {ret : Option FieldType} (h5 : Cond.code y b n ret ∈ xk_T) : GoodIn xk_T (Cond.code y b n ret :: xk_T) := by
  intro w hw
  have hm : w ∈ xk_T := by
    rcases List.mem_cons.mp hw with rfl | h <;> assumption
  exact ⟨hm, good_of_word (xk_good hm)⟩
/-- the machine's side of a call, of any kind: va_Run to the callee's end -/
def xk_R (p : Program) (l : Launch) (e : Env) (R : Room) (s : State) (m : MethodId) (args : Array Value) (below : List Frame) (meth : Method) (c : Code) (E : xEv) (nL cells slots mc ms pc : Nat) (lv : List (Nat × Value)) (st rest : List Value) (w : xWd) (Qc : Array Value → State → Outcome → State → Prop) : Prop :=
  ∀ (H : Heap) (locs : List Loc) (ls : Array Slot), xk_H E w H → va_S (xk_A E.2.2.1) s.heap H locs → lv_has ls nL lv → ∃ a : Array Value, va_Run p l e R s m args below meth c H locs cells slots mc ms (F0 m pc ls st) rest (Qc a) (xk_A E.2.2.1)
theorem xk_callV (hC : xk_C p s m args meth c E cc own nL) {y : MethodName} {b : ByteArray} {nLy : Nat} {ret : Option FieldType} {fr lc mc ms : Nat} {av : List Value} {rest : List Value} {Qc : Array Value → State → Outcome → State → Prop} (n : Nat) (hc : xk_cl[ci]? = some (C, T, N)) (hM : xk_M l y b nLy ret fr lc mc ms E (va_rf r :: av) w Qc) {u : Unit} (hr : xk_is w r ci = some u) (h1 : Cond.methodLink own index y ∈ xk_T) (h2 : Cond.instanceMethod y ∈ xk_T) (h3 : Cond.selects C y y ∈ xk_T) (h4 : Cond.initialized C ∈ xk_T) (h5 : Cond.code y b nLy ret ∈ xk_T) (hd : y.cls = C ∧ y.cls ≠ "java/lang/invoke/MethodHandle" ∧ y.cls ≠ "java/lang/invoke/VarHandle" ∧ (parseMethodDescriptor y.desc).map (fun d => d.parameters.length) = some n) (hn : av.length = n) (hR : fr + 1 ≤ R.frames ∧ 8 + (nLy + 11) + lc ≤ R.locals) (hst : st = av.reverse ++ va_rf r :: rest) (hro : (rest.map fun v => v.category).sum ≤ 8) (d : decode cc pc = .ok (.invokevirtual index, 3)) (hf : cells + mc ≤ R.cells ∧ slots + ms ≤ R.slots) : xk_R p l e R s m args below meth c E nL cells slots mc ms pc lv st rest w Qc := by
  intro H locs ls hH hS hl
  obtain ⟨fs, hr1, -⟩ := xk_bi hr
  obtain ⟨a, rfl, hm⟩ := xk_obj_e hr1
  refine ⟨_, va_runV (As := av) (rest := rest) (b := a) (nL := nL) ⟨hC.1, hC.2.1, hC.2.2.1, hC.2.2.2.1, hC.2.2.2.2.1⟩ hM (cwV n hC.2.2.2.2.1 (xk_gv h1 h2 h3 h4 h5) rfl rfl rfl hd hR) ⟨xk_blind, va_recv hC.2.2.2.2.2.2.2.1 (xk_one (hH.2.2.2 a _ hm).1) (ci := ci) (q0 := 0) hc rfl, fun U hU hW => ⟨rfl, by rw [hU]; exact hH, hC.2.2.2.2.2.2.warm hS hW hU⟩⟩ rfl hn hl.1 hst (lv_room hro) d hf⟩
theorem xk_callS (hC : xk_C p s m args meth c E cc own nL) {y : MethodName} {b : ByteArray} {nLy : Nat} {ret : Option FieldType} {fr lc mc ms : Nat} {av : List Value} {rest : List Value} {Qc : Array Value → State → Outcome → State → Prop} (n : Nat) (hM : xk_M l y b nLy ret fr lc mc ms E av w Qc) (h1 : Cond.methodLink own index y ∈ xk_T) (h2 : Cond.static y ∈ xk_T) (h4 : Cond.initialized y.cls ∈ xk_T) (h5 : Cond.code y b nLy ret ∈ xk_T) (hd : y.cls ≠ "java/lang/invoke/MethodHandle" ∧ y.cls ≠ "java/lang/invoke/VarHandle" ∧ (parseMethodDescriptor y.desc).map (fun d => d.parameters.length) = some n) (hn : av.length = n) (hR : fr + 1 ≤ R.frames ∧ 8 + (nLy + 11) + lc ≤ R.locals) (hst : st = av.reverse ++ rest) (hro : (rest.map fun v => v.category).sum ≤ 8) (d : decode cc pc = .ok (.invokestatic index, 3)) (hf : cells + mc ≤ R.cells ∧ slots + ms ≤ R.slots) : xk_R p l e R s m args below meth c E nL cells slots mc ms pc lv st rest w Qc := by
  intro H locs ls hH hS hl
  exact ⟨_, va_runS (As := av) (rest := rest) (nL := nL) ⟨hC.1, hC.2.1, hC.2.2.1, hC.2.2.2.1, hC.2.2.2.2.1⟩ hM (va_cwS n hC.2.2.2.2.1 (xk_gs h1 h2 h4 h5) rfl rfl rfl hd hR) ⟨xk_blind, fun U hU hW => ⟨rfl, by rw [hU]; exact hH, hC.2.2.2.2.2.2.warm hS hW hU⟩⟩ rfl hn hl.1 hst (lv_room hro) d hf⟩
theorem xk_callSN (hC : xk_C p s m args meth c E cc own nL) {y : MethodName} {b : ByteArray} {nLy : Nat} {host : String} {ret : Option FieldType} {fr lc mc ms : Nat} {av : List Value} {rest : List Value} {Qc : Array Value → State → Outcome → State → Prop} (n : Nat) (hM : xk_M l y b nLy ret fr lc mc ms E av w Qc) (h1 : va_Nw (.methodLinkNest own index y host) s) (h2 : Cond.static y ∈ xk_T) (h4 : Cond.initialized y.cls ∈ xk_T) (h5 : Cond.code y b nLy ret ∈ xk_T) (hd : y.cls ≠ "java/lang/invoke/MethodHandle" ∧ y.cls ≠ "java/lang/invoke/VarHandle" ∧ (parseMethodDescriptor y.desc).map (fun d => d.parameters.length) = some n) (hn : av.length = n) (hR : fr + 1 ≤ R.frames ∧ 8 + (nLy + 11) + lc ≤ R.locals) (hst : st = av.reverse ++ rest) (hro : (rest.map fun v => v.category).sum ≤ 8) (d : decode cc pc = .ok (.invokestatic index, 3)) (hf : cells + mc ≤ R.cells ∧ slots + ms ≤ R.slots) : xk_R p l e R s m args below meth c E nL cells slots mc ms pc lv st rest w Qc := by
  intro H locs ls hH hS hl
  exact ⟨_, va_runSN (As := av) (rest := rest) (nL := nL) ⟨hC.1, hC.2.1, hC.2.2.1, hC.2.2.2.1, hC.2.2.2.2.1⟩ hM ⟨va_cnB n hC.2.2.2.2.1 (xk_gb h5) rfl rfl rfl h1 (hC.2.2.2.2.1 _ h4) hd hR, hC.2.2.2.2.1 _ h2, trivial⟩ ⟨xk_blind, fun U hU hW => ⟨rfl, by rw [hU]; exact hH, hC.2.2.2.2.2.2.warm hS hW hU⟩⟩ rfl hn hl.1 hst (lv_room hro) d hf⟩
theorem xk_callI (hC : xk_C p s m args meth c E cc own nL) {y : MethodName} {b : ByteArray} {nLy : Nat} {fr lc mc ms : Nat} {av : List Value} {rest : List Value} {Qc : Array Value → State → Outcome → State → Prop} (n : Nat) {a : Nat} (hM : xk_M l y b nLy none fr lc mc ms E (va_rf (some a) :: av) w Qc) (h1 : Cond.methodLink own index y ∈ xk_T) (h2 : Cond.instanceMethod y ∈ xk_T) (h4 : Cond.initialized y.cls ∈ xk_T) (h5 : Cond.code y b nLy none ∈ xk_T) (hy : y.name = "<init>") (hd : y.cls ≠ "java/lang/invoke/MethodHandle" ∧ y.cls ≠ "java/lang/invoke/VarHandle" ∧ (parseMethodDescriptor y.desc).map (fun d => d.parameters.length) = some n) (hn : av.length = n) (hR : fr + 1 ≤ R.frames ∧ 8 + (nLy + 11) + lc ≤ R.locals) (hst : st = av.reverse ++ va_rf (some a) :: rest) (hro : (rest.map fun v => v.category).sum ≤ 8) (d : decode cc pc = .ok (.invokespecial index, 3)) (hf : cells + mc ≤ R.cells ∧ slots + ms ≤ R.slots) : xk_R p l e R s m args below meth c E nL cells slots mc ms pc lv st rest w Qc := by
  intro H locs ls hH hS hl
  exact ⟨_, va_runI (As := av) (rest := rest) (b := a) (nL := nL) ⟨hC.1, hC.2.1, hC.2.2.1, hC.2.2.2.1, hC.2.2.2.2.1⟩ hM (cwI n hC.2.2.2.2.1 (xk_gb h5) rfl rfl rfl (hC.2.2.2.2.1 _ h4) (hC.2.2.2.2.1 _ h1) (hC.2.2.2.2.1 _ h2) hy hd hR) ⟨xk_blind, fun U hU hW => ⟨rfl, by rw [hU]; exact hH, hC.2.2.2.2.2.2.warm hS hW hU⟩⟩ rfl hn hl.1 hst (lv_room hro) d hf⟩
theorem xk_sub {H H1 : Heap} {z0 : Nat} : ∀ q, q < H.size → xk_A z0 q → xk_A z0 q := fun _ _ h => h
theorem xk_backi {rest : List Value} {mc ms : Nat} {q : Int32 × xWd} (h : xk_R p l e R s m args below meth c E nL cells slots mc ms pc lv st rest w (xk_Qi E q)) (kk : xk_X p l e R s m args below meth c Q E nL (cells + mc) (slots + ms) (pc + 3) lv (.int q.1 :: rest) q.2) : xk_X p l e R s m args below meth c Q E nL cells slots pc lv st w := by
  intro H locs ls hH hS hl
  obtain ⟨a, hr⟩ := h H locs ls hH hS hl
  refine va_calli hr hS (fun _ _ h => h) (fun _ h => h) (fun r u t H1 locs1 ht hvm hp hB hz hk hS1 => ?_)
  have hp : r = q.1 := hp
  have hB : xk_H E q.2 t.heap := hB
  rw [ht] at hB
  subst hp
  exact kk H1 locs1 ls hB hS1 hl
theorem xk_backl {rest : List Value} {mc ms : Nat} {q : Int64 × xWd} (h : xk_R p l e R s m args below meth c E nL cells slots mc ms pc lv st rest w (xk_Ql E q)) (kk : xk_X p l e R s m args below meth c Q E nL (cells + mc) (slots + ms) (pc + 3) lv (.long q.1 :: rest) q.2) : xk_X p l e R s m args below meth c Q E nL cells slots pc lv st w := by
  intro H locs ls hH hS hl
  obtain ⟨a, hr⟩ := h H locs ls hH hS hl
  refine va_calll hr hS (fun _ _ h => h) (fun _ h => h) (fun r u t H1 locs1 ht hvm hp hB hz hk hS1 => ?_)
  have hp : r = q.1 := hp
  have hB : xk_H E q.2 t.heap := hB
  rw [ht] at hB
  subst hp
  exact kk H1 locs1 ls hB hS1 hl
theorem xk_backd {rest : List Value} {mc ms : Nat} {q : UInt64 × xWd} (h : xk_R p l e R s m args below meth c E nL cells slots mc ms pc lv st rest w (xk_Qd E q)) (kk : xk_X p l e R s m args below meth c Q E nL (cells + mc) (slots + ms) (pc + 3) lv (.double q.1 :: rest) q.2) : xk_X p l e R s m args below meth c Q E nL cells slots pc lv st w := by
  intro H locs ls hH hS hl
  obtain ⟨a, hr⟩ := h H locs ls hH hS hl
  refine va_calld hr hS (fun _ _ h => h) (fun _ h => h) (fun r u t H1 locs1 ht hvm hp hB hz hk hS1 => ?_)
  have hp : r = q.1 := hp
  have hB : xk_H E q.2 t.heap := hB
  rw [ht] at hB
  subst hp
  exact kk H1 locs1 ls hB hS1 hl
theorem xk_backq {rest : List Value} {mc ms : Nat} {q : Option Nat × xWd} (h : xk_R p l e R s m args below meth c E nL cells slots mc ms pc lv st rest w (xk_Qq E q)) (kk : xk_X p l e R s m args below meth c Q E nL (cells + mc) (slots + ms) (pc + 3) lv (va_rf q.1 :: rest) q.2) : xk_X p l e R s m args below meth c Q E nL cells slots pc lv st w := by
  intro H locs ls hH hS hl
  obtain ⟨a, hr⟩ := h H locs ls hH hS hl
  refine va_callq hr hS (fun _ _ h => h) (fun _ h => h) (fun r u t H1 locs1 ht hvm hp hB hz hk hS1 => ?_)
  have hp : r = q.1 := hp
  have hB : xk_H E q.2 t.heap := hB
  rw [ht] at hB
  subst hp
  exact kk H1 locs1 ls hB hS1 hl
theorem xk_backv {rest : List Value} {mc ms : Nat} {q : xWd} (h : xk_R p l e R s m args below meth c E nL cells slots mc ms pc lv st rest w (xk_Qv E q)) (kk : xk_X p l e R s m args below meth c Q E nL (cells + mc) (slots + ms) (pc + 3) lv rest q) : xk_X p l e R s m args below meth c Q E nL cells slots pc lv st w := by
  intro H locs ls hH hS hl
  obtain ⟨a, hr⟩ := h H locs ls hH hS hl
  refine va_callv hr hS (fun _ _ h => h) (fun _ h => h) (fun u t H1 locs1 ht hvm hp hB hz hk hS1 => ?_)
  have hB : xk_H E q t.heap := hB
  rw [ht] at hB
  exact kk H1 locs1 ls hB hS1 hl
theorem xk_objI (hC : xk_C p s m args meth c E cc own nL) (h1 : Cond.methodLink own index Lib.objectInit ∈ xk_T) (h2 : Cond.instanceMethod Lib.objectInit ∈ xk_T) (h3 : Cond.code Lib.objectInit ⟨#[0xb1]⟩ 1 none ∈ xk_T) {a : Nat} (d : decode cc pc = .ok (.invokespecial index, 3)) (hf : 1 ≤ R.frames) (hlo : (st.map fun v => v.category).sum + 12 ≤ R.locals) (kk : xk_X p l e R s m args below meth c Q E nL cells slots (pc + 3) lv st w) : xk_X p l e R s m args below meth c Q E nL cells slots pc lv (va_rf (some a) :: st) w := fun H locs ls hH hS hl => W.objInit hC.1 hC.2.1 hC.2.2.2.1 (hC.2.2.2.2.1 _ h1) (hC.2.2.2.2.1 _ h2) (hC.2.2.2.2.1 _ h3) rfl (hl.1.trans hC.2.2.1.symm) (rest := st) (a := a) rfl d hf (by show 2 * 0 + _ + 12 ≤ _; omega) (kk H locs ls hH hS hl)
end XR
end
section
/-! small guards of the functions, and what stands behind them -/
def xk_nz (y : Int32) : Option Unit := if y = 0 then none else some ()
theorem xk_nz_e {y : Int32} {u : Unit} (h : xk_nz y = some u) : ¬ y = 0 := by
  unfold xk_nz at h
  split at h
  · cases h
  · assumption
def xk_nn (x : UInt64) : Option Unit := if x &&& 0x7fffffffffffffff ≤ 0x7ff0000000000000 then some () else none
theorem xk_nn_e {x : UInt64} {u : Unit} (h : xk_nn x = some u) : vf_n64 x := by
  unfold xk_nn at h
  split at h
  · assumption
  · cases h
def xk_zb (x : Int32) : Option Unit := if x = 0 ∨ x = 1 then some () else none
theorem xk_zb_e {x : Int32} {u : Unit} (h : xk_zb x = some u) : narrow .boolean (.int x) = .int x := by
  unfold xk_zb at h
  split at h
  · rename_i q
    rcases q with rfl | rfl <;> rfl
  · cases h
def xk_any (w : xWd) (v : Option Nat) : Option Unit := match v with
  | none => some ()
  | some a => match w.1 a with
    | some (.inr _) => some ()
    | _ => none
theorem xk_any_e {w : xWd} {v : Option Nat} {u : Unit} (h : xk_any w v = some u) : v = none ∨ ∃ ci fs, xk_obj w v ci = some fs := by
  cases v with
  | none => exact Or.inl rfl
  | some a =>
    simp only [xk_any] at h
    split at h
    · rename_i o ho
      exact Or.inr ⟨o.1, o.2, by simp [xk_obj, ho]⟩
    · cases h
theorem xk_swo (x : Int32) (lo hi : Int) (h : ∀ v : Int, lo ≤ v → v ≤ hi → x.toInt = v → False) : x.toInt < lo ∨ hi < x.toInt := by
  by_cases h1 : x.toInt < lo
  · exact Or.inl h1
  · by_cases h2 : hi < x.toInt
    · exact Or.inr h2
    · exact (h _ (by omega) (by omega) rfl).elim
section XH
variable {p : Program} {l : Launch} {e : Env} {R : Room} {s : State} {m : MethodId} {args : Array Value} {below : List Frame} {meth : Method} {c : Code} {Q : State → Prop}
variable {E : xEv} {cc : ByteArray} {own : String} {nL cells slots pc : Nat} {lv lv' : List (Nat × Value)} {st : List Value} {w w1 : xWd}
variable {C ref : String} {T : u_T} {N ci index : Nat} {r : Option Nat}
theorem xk_newH (hC : xk_C p s m args meth c E cc own nL) (hi : ∀ x ∈ u_ws C T N, x ∈ xk_T) (hc : xk_cl[ci]? = some (C, T, N)) {ty0 : Nat → FieldType} (hty : ∀ k, k < N → parseFieldDescriptor (T k).2.2.1 = some (ty0 k)) (hcl : Cond.classLink own index C ∈ xk_T) (hinst : Cond.instantiable C N ∈ xk_T) (hini : Cond.initialized C ∈ xk_T) {fs : List Value} (hfs : ∀ j, j < N → defaultValue (ty0 j) = vp_V fs j) (hcells : cells + 1 ≤ R.cells) (hslots : slots + N ≤ R.slots) (d : decode cc pc = .ok (.new index, 3)) (h : some (xk_nw w ci fs) = some w1)
    (kk : xk_X p l e R s m args below meth c Q E nL (cells + 1) (slots + N) (pc + 3) lv (va_rf (some w.2.1) :: st) w1) : xk_X p l e R s m args below meth c Q E nL cells slots pc lv st w := by
  cases h
  exact xk_new hC hi hc hty hcl hinst hini hfs hcells hslots d kk
theorem xk_ifnonnull (hC : xk_C p s m args meth c E cc own nL) {off : Int} {tgt : Nat} (d : decode cc pc = .ok (.ifnonnull off, 3)) (ht : (pc : Int) + off = (tgt : Int)) (kt : ¬ r = none → xk_X p l e R s m args below meth c Q E nL cells slots tgt lv st w) (kf : r = none → xk_X p l e R s m args below meth c Q E nL cells slots (pc + 3) lv st w) : xk_X p l e R s m args below meth c Q E nL cells slots pc lv (va_rf r :: st) w := by
  intro H locs ls hH hS hl
  cases r with
  | none => exact lv_ifnonnullN hC.1 hC.2.1 d (kf rfl H locs ls hH hS hl)
  | some a => exact lv_ifnonnull (tgt := tgt) hC.1 hC.2.1 d ht (kt (fun h => by cases h) H locs ls hH hS hl)
theorem xk_ifnull (hC : xk_C p s m args meth c E cc own nL) {off : Int} {tgt : Nat} (d : decode cc pc = .ok (.ifnull off, 3)) (ht : (pc : Int) + off = (tgt : Int)) (kt : r = none → xk_X p l e R s m args below meth c Q E nL cells slots tgt lv st w) (kf : ¬ r = none → xk_X p l e R s m args below meth c Q E nL cells slots (pc + 3) lv st w) : xk_X p l e R s m args below meth c Q E nL cells slots pc lv (va_rf r :: st) w := by
  intro H locs ls hH hS hl
  cases r with
  | none => exact lv_ifnullN (tgt := tgt) hC.1 hC.2.1 d ht (kt rfl H locs ls hH hS hl)
  | some a => exact lv_ifnull hC.1 hC.2.1 d (kf (fun h => by cases h) H locs ls hH hS hl)
end XH
def xf_0 : List Value := [.null, .null, .int 0, .null, .null, .int 0, .int 0, .int 0, .int 0, .int 0, .null, .null, .null]
theorem xfo_0 : ∀ j, j < 13 → defaultValue (xt_0 j) = vp_V xf_0 j := by
  intro j hj
  rcases (show j = 0 ∨ j = 1 ∨ j = 2 ∨ j = 3 ∨ j = 4 ∨ j = 5 ∨ j = 6 ∨ j = 7 ∨ j = 8 ∨ j = 9 ∨ j = 10 ∨ j = 11 ∨ j = 12 by omega) with rfl | rfl | rfl | rfl | rfl | rfl | rfl | rfl | rfl | rfl | rfl | rfl | rfl <;> rfl
def xf_1 : List Value := [.int 0, .int 0, .int 0, .int 0, .int 0, .int 0, .int 0, .int 0, .null, .null, .int 0, .int 0, .null]
theorem xfo_1 : ∀ j, j < 13 → defaultValue (xt_1 j) = vp_V xf_1 j := by
  intro j hj
  rcases (show j = 0 ∨ j = 1 ∨ j = 2 ∨ j = 3 ∨ j = 4 ∨ j = 5 ∨ j = 6 ∨ j = 7 ∨ j = 8 ∨ j = 9 ∨ j = 10 ∨ j = 11 ∨ j = 12 by omega) with rfl | rfl | rfl | rfl | rfl | rfl | rfl | rfl | rfl | rfl | rfl | rfl | rfl <;> rfl
def xf_2 : List Value := [.int 0, .int 0, .int 0]
theorem xfo_2 : ∀ j, j < 3 → defaultValue (xt_2 j) = vp_V xf_2 j := by
  intro j hj
  rcases (show j = 0 ∨ j = 1 ∨ j = 2 by omega) with rfl | rfl | rfl <;> rfl
def xf_3 : List Value := [.null, .int 0, .null]
theorem xfo_3 : ∀ j, j < 3 → defaultValue (xt_3 j) = vp_V xf_3 j := by
  intro j hj
  rcases (show j = 0 ∨ j = 1 ∨ j = 2 by omega) with rfl | rfl | rfl <;> rfl
def xf_4 : List Value := [.int 0, .null, .int 0, .int 0, .int 0]
theorem xfo_4 : ∀ j, j < 5 → defaultValue (xt_4 j) = vp_V xf_4 j := by
  intro j hj
  rcases (show j = 0 ∨ j = 1 ∨ j = 2 ∨ j = 3 ∨ j = 4 by omega) with rfl | rfl | rfl | rfl | rfl <;> rfl
def xf_5 : List Value := [.int 0, .null, .int 0]
theorem xfo_5 : ∀ j, j < 3 → defaultValue (xt_5 j) = vp_V xf_5 j := by
  intro j hj
  rcases (show j = 0 ∨ j = 1 ∨ j = 2 by omega) with rfl | rfl | rfl <;> rfl
theorem xk_over {p : Program} {s : State} {m : MethodId} {args : Array Value} {meth : Method} {c : Code} {E : xEv} {cc : ByteArray} {own : String} {nL : Nat} (hC : xk_C p s m args meth c E cc own nL) : va_AO "java/lang/Object" s := hC.2.2.2.2.2.2.2.2.2.1
theorem xk_note1 {p : Program} {s : State} {m : MethodId} {args : Array Value} {meth : Method} {c : Code} {E : xEv} {cc : ByteArray} {own : String} {nL : Nat} (hC : xk_C p s m args meth c E cc own nL) : va_Nw (Cond.methodLinkNest "Clickbook$Cue" 57 ⟨"Clickbook", "roundedUp", "(II)I"⟩ "Clickbook") s := hC.2.2.2.2.2.2.2.2.2.2.1
theorem xk_note2 {p : Program} {s : State} {m : MethodId} {args : Array Value} {meth : Method} {c : Code} {E : xEv} {cc : ByteArray} {own : String} {nL : Nat} (hC : xk_C p s m args meth c E cc own nL) : va_Nw (Cond.methodLinkNest "Clickbook$Hit" 20 ⟨"Clickbook", "isTakenOut", "(III)Z"⟩ "Clickbook") s := hC.2.2.2.2.2.2.2.2.2.2.2.1
theorem xk_note3 {p : Program} {s : State} {m : MethodId} {args : Array Value} {meth : Method} {c : Code} {E : xEv} {cc : ByteArray} {own : String} {nL : Nat} (hC : xk_C p s m args meth c E cc own nL) : va_Nw (Cond.methodLinkNest "Clickbook$Hit" 26 ⟨"Clickbook", "movedFrame", "(III)I"⟩ "Clickbook") s := hC.2.2.2.2.2.2.2.2.2.2.2.2.1
theorem xk_note4 {p : Program} {s : State} {m : MethodId} {args : Array Value} {meth : Method} {c : Code} {E : xEv} {cc : ByteArray} {own : String} {nL : Nat} (hC : xk_C p s m args meth c E cc own nL) : va_Nw (Cond.castable "Clickbook" "java/lang/Object") s := hC.2.2.2.2.2.2.2.2.2.2.2.2.2.1
theorem xk_note5 {p : Program} {s : State} {m : MethodId} {args : Array Value} {meth : Method} {c : Code} {E : xEv} {cc : ByteArray} {own : String} {nL : Nat} (hC : xk_C p s m args meth c E cc own nL) : va_Nw (Cond.castable "java/util/ArrayList" "java/lang/Object") s := hC.2.2.2.2.2.2.2.2.2.2.2.2.2.2.1
theorem xk_note6 {p : Program} {s : State} {m : MethodId} {args : Array Value} {meth : Method} {c : Code} {E : xEv} {cc : ByteArray} {own : String} {nL : Nat} (hC : xk_C p s m args meth c E cc own nL) : va_Nw (Cond.castable "Clickbook$JoinTable" "java/lang/Object") s := hC.2.2.2.2.2.2.2.2.2.2.2.2.2.2.2.1
theorem xk_note7 {p : Program} {s : State} {m : MethodId} {args : Array Value} {meth : Method} {c : Code} {E : xEv} {cc : ByteArray} {own : String} {nL : Nat} (hC : xk_C p s m args meth c E cc own nL) : va_Nw (Cond.castable "Clickbook$Hit" "java/lang/Object") s := hC.2.2.2.2.2.2.2.2.2.2.2.2.2.2.2.2.1
theorem xk_note8 {p : Program} {s : State} {m : MethodId} {args : Array Value} {meth : Method} {c : Code} {E : xEv} {cc : ByteArray} {own : String} {nL : Nat} (hC : xk_C p s m args meth c E cc own nL) : va_Nw (Cond.castable "Clickbook$Cue" "java/lang/Object") s := hC.2.2.2.2.2.2.2.2.2.2.2.2.2.2.2.2.2.1
theorem xk_note9 {p : Program} {s : State} {m : MethodId} {args : Array Value} {meth : Method} {c : Code} {E : xEv} {cc : ByteArray} {own : String} {nL : Nat} (hC : xk_C p s m args meth c E cc own nL) : va_Nw (Cond.castable "Clickbook$Take" "java/lang/Object") s := hC.2.2.2.2.2.2.2.2.2.2.2.2.2.2.2.2.2.2
theorem xk_cas {p : Program} {s : State} {m : MethodId} {args : Array Value} {meth : Method} {c : Code} {E : xEv} {cc : ByteArray} {own : String} {nL : Nat} (hC : xk_C p s m args meth c E cc own nL) : ∀ (ci : Nat) (q : vw_C), xk_cl[ci]? = some q → va_Nw (.castable q.1 "java/lang/Object") s := fun ci q h => by
  match ci, h with
  | 0, h => cases h; exact xk_note4 hC
  | 1, h => cases h; exact xk_note8 hC
  | 2, h => cases h; exact xk_note7 hC
  | 3, h => cases h; exact xk_note6 hC
  | 4, h => cases h; exact xk_note9 hC
  | 5, h => cases h; exact xk_note5 hC
  | k + 6, h => simp [xk_cl] at h
/-- Arrays.copyOf of a row of objects, to a length that isn't less, and is at most 64 -/
def f_J7_copyOf_1904c (x0 : Option Nat) (x1 : Int32) (w : xWd) : Option (Option Nat × xWd) := (xk_arr w x0).bind fun z => match z with
  | (2, n, .inr (.inr (.inr (.inr f)))) => if x1 < 0 then none else if n ≤ x1.toNatClampNeg ∧ x1.toNatClampNeg ≤ 64 then some (some w.2.1, (va_up w.1 w.2.1 (some (.inl (2, x1.toNatClampNeg, .inr (.inr (.inr (.inr (fun j => if j < n then f j else none))))))), w.2.1 + 1, w.2.2)) else none
  | _ => none
theorem xd_J7_copyOf_1904c : xy_J7_copyOf_1904c.cls ≠ "java/lang/invoke/MethodHandle" ∧ xy_J7_copyOf_1904c.cls ≠ "java/lang/invoke/VarHandle" ∧ (parseMethodDescriptor xy_J7_copyOf_1904c.desc).map (fun d => d.parameters.length) = some 2 := ⟨by decide +kernel, by decide +kernel, by decide +kernel⟩
theorem c_J7_copyOf_1904c {l : Launch} {E : xEv} {x0 : Option Nat} {x1 : Int32} {w : xWd} {q : (Option Nat × xWd)} (hf : f_J7_copyOf_1904c x0 x1 w = some q) : xk_M l xy_J7_copyOf_1904c prog_26_method_119_code 2 (some (.array (.object "java/lang/Object"))) 3 80 1 64 E [va_rf x0, .int x1] w (xk_Qq E q) := sorry
end
section
theorem dX0_firstBeat_0 : decode prog_2_method_4_code 0 = .ok (.iconst 0, 1) := by decide +kernel
theorem dX0_firstBeat_1 : decode prog_2_method_4_code 1 = .ok (.istore_n 2, 1) := by decide +kernel
theorem dX0_firstBeat_2 : decode prog_2_method_4_code 2 = .ok (.iconst 0, 1) := by decide +kernel
theorem dX0_firstBeat_3 : decode prog_2_method_4_code 3 = .ok (.istore_n 3, 1) := by decide +kernel
theorem dX0_firstBeat_4 : decode prog_2_method_4_code 4 = .ok (.iload_n 3, 1) := by decide +kernel
theorem dX0_firstBeat_5 : decode prog_2_method_4_code 5 = .ok (.iload_n 1, 1) := by decide +kernel
theorem dX0_firstBeat_6 : decode prog_2_method_4_code 6 = .ok (.if_icmp .ge 24, 3) := by decide +kernel
theorem dX0_firstBeat_9 : decode prog_2_method_4_code 9 = .ok (.iload_n 3, 1) := by decide +kernel
theorem dX0_firstBeat_10 : decode prog_2_method_4_code 10 = .ok (.bipush 9, 2) := by decide +kernel
theorem dX0_firstBeat_12 : decode prog_2_method_4_code 12 = .ok (.if_icmp .ge 18, 3) := by decide +kernel
theorem dX0_firstBeat_15 : decode prog_2_method_4_code 15 = .ok (.iload_n 2, 1) := by decide +kernel
theorem dX0_firstBeat_16 : decode prog_2_method_4_code 16 = .ok (.aload_n 0, 1) := by decide +kernel
theorem dX0_firstBeat_17 : decode prog_2_method_4_code 17 = .ok (.getfield 30, 3) := by decide +kernel
theorem dX0_firstBeat_20 : decode prog_2_method_4_code 20 = .ok (.iload_n 3, 1) := by decide +kernel
theorem dX0_firstBeat_21 : decode prog_2_method_4_code 21 = .ok (.iaload, 1) := by decide +kernel
theorem dX0_firstBeat_22 : decode prog_2_method_4_code 22 = .ok (.iadd, 1) := by decide +kernel
theorem dX0_firstBeat_23 : decode prog_2_method_4_code 23 = .ok (.istore_n 2, 1) := by decide +kernel
theorem dX0_firstBeat_24 : decode prog_2_method_4_code 24 = .ok (.iinc 3 1, 3) := by decide +kernel
theorem dX0_firstBeat_27 : decode prog_2_method_4_code 27 = .ok (.goto (-23), 3) := by decide +kernel
theorem dX0_firstBeat_30 : decode prog_2_method_4_code 30 = .ok (.iload_n 2, 1) := by decide +kernel
theorem dX0_firstBeat_31 : decode prog_2_method_4_code 31 = .ok (.ireturn, 1) := by decide +kernel
theorem dX0_end_0 : decode prog_2_method_6_code 0 = .ok (.aload_n 0, 1) := by decide +kernel
theorem dX0_end_1 : decode prog_2_method_6_code 1 = .ok (.getfield 15, 3) := by decide +kernel
theorem dX0_end_4 : decode prog_2_method_6_code 4 = .ok (.aload_n 0, 1) := by decide +kernel
theorem dX0_end_5 : decode prog_2_method_6_code 5 = .ok (.getfield 61, 3) := by decide +kernel
theorem dX0_end_8 : decode prog_2_method_6_code 8 = .ok (.iadd, 1) := by decide +kernel
theorem dX0_end_9 : decode prog_2_method_6_code 9 = .ok (.ireturn, 1) := by decide +kernel
theorem dX0_reaches_0 : decode prog_2_method_11_code 0 = .ok (.iconst 0, 1) := by decide +kernel
theorem dX0_reaches_1 : decode prog_2_method_11_code 1 = .ok (.istore 5, 2) := by decide +kernel
theorem dX0_reaches_3 : decode prog_2_method_11_code 3 = .ok (.iload 5, 2) := by decide +kernel
theorem dX0_reaches_5 : decode prog_2_method_11_code 5 = .ok (.aload_n 0, 1) := by decide +kernel
theorem dX0_reaches_6 : decode prog_2_method_11_code 6 = .ok (.getfield 50, 3) := by decide +kernel
theorem dX0_reaches_9 : decode prog_2_method_11_code 9 = .ok (.if_icmp .ge 35, 3) := by decide +kernel
theorem dX0_reaches_12 : decode prog_2_method_11_code 12 = .ok (.iload 5, 2) := by decide +kernel
theorem dX0_reaches_14 : decode prog_2_method_11_code 14 = .ok (.aload 4, 2) := by decide +kernel
theorem dX0_reaches_16 : decode prog_2_method_11_code 16 = .ok (.arraylength, 1) := by decide +kernel
theorem dX0_reaches_17 : decode prog_2_method_11_code 17 = .ok (.if_icmp .ge 27, 3) := by decide +kernel
theorem dX0_reaches_20 : decode prog_2_method_11_code 20 = .ok (.iload_n 3, 1) := by decide +kernel
theorem dX0_reaches_21 : decode prog_2_method_11_code 21 = .ok (.aload 4, 2) := by decide +kernel
theorem dX0_reaches_23 : decode prog_2_method_11_code 23 = .ok (.iload 5, 2) := by decide +kernel
theorem dX0_reaches_25 : decode prog_2_method_11_code 25 = .ok (.iaload, 1) := by decide +kernel
theorem dX0_reaches_26 : decode prog_2_method_11_code 26 = .ok (.iadd, 1) := by decide +kernel
theorem dX0_reaches_27 : decode prog_2_method_11_code 27 = .ok (.iload_n 1, 1) := by decide +kernel
theorem dX0_reaches_28 : decode prog_2_method_11_code 28 = .ok (.isub, 1) := by decide +kernel
theorem dX0_reaches_29 : decode prog_2_method_11_code 29 = .ok (.invokestatic 68, 3) := by decide +kernel
theorem dX0_reaches_32 : decode prog_2_method_11_code 32 = .ok (.iload_n 2, 1) := by decide +kernel
theorem dX0_reaches_33 : decode prog_2_method_11_code 33 = .ok (.if_icmp .gt 5, 3) := by decide +kernel
theorem dX0_reaches_36 : decode prog_2_method_11_code 36 = .ok (.iconst 1, 1) := by decide +kernel
theorem dX0_reaches_37 : decode prog_2_method_11_code 37 = .ok (.ireturn, 1) := by decide +kernel
theorem dX0_reaches_38 : decode prog_2_method_11_code 38 = .ok (.iinc 5 1, 3) := by decide +kernel
theorem dX0_reaches_41 : decode prog_2_method_11_code 41 = .ok (.goto (-38), 3) := by decide +kernel
theorem dX0_reaches_44 : decode prog_2_method_11_code 44 = .ok (.iconst 0, 1) := by decide +kernel
theorem dX0_reaches_45 : decode prog_2_method_11_code 45 = .ok (.ireturn, 1) := by decide +kernel
theorem dX4_isTakenOut_0 : decode prog_1_method_7_code 0 = .ok (.iload_n 2, 1) := by decide +kernel
theorem dX4_isTakenOut_1 : decode prog_1_method_7_code 1 = .ok (.ifCond .ge 19, 3) := by decide +kernel
theorem dX4_isTakenOut_4 : decode prog_1_method_7_code 4 = .ok (.iload_n 0, 1) := by decide +kernel
theorem dX4_isTakenOut_5 : decode prog_1_method_7_code 5 = .ok (.iload_n 1, 1) := by decide +kernel
theorem dX4_isTakenOut_6 : decode prog_1_method_7_code 6 = .ok (.if_icmp .lt 14, 3) := by decide +kernel
theorem dX4_isTakenOut_9 : decode prog_1_method_7_code 9 = .ok (.iload_n 0, 1) := by decide +kernel
theorem dX4_isTakenOut_10 : decode prog_1_method_7_code 10 = .ok (.iload_n 1, 1) := by decide +kernel
theorem dX4_isTakenOut_11 : decode prog_1_method_7_code 11 = .ok (.iload_n 2, 1) := by decide +kernel
theorem dX4_isTakenOut_12 : decode prog_1_method_7_code 12 = .ok (.isub, 1) := by decide +kernel
theorem dX4_isTakenOut_13 : decode prog_1_method_7_code 13 = .ok (.if_icmp .ge 7, 3) := by decide +kernel
theorem dX4_isTakenOut_16 : decode prog_1_method_7_code 16 = .ok (.iconst 1, 1) := by decide +kernel
theorem dX4_isTakenOut_17 : decode prog_1_method_7_code 17 = .ok (.goto 4, 3) := by decide +kernel
theorem dX4_isTakenOut_20 : decode prog_1_method_7_code 20 = .ok (.iconst 0, 1) := by decide +kernel
theorem dX4_isTakenOut_21 : decode prog_1_method_7_code 21 = .ok (.ireturn, 1) := by decide +kernel
theorem dX4_movedFrame_0 : decode prog_1_method_8_code 0 = .ok (.iload_n 0, 1) := by decide +kernel
theorem dX4_movedFrame_1 : decode prog_1_method_8_code 1 = .ok (.iload_n 1, 1) := by decide +kernel
theorem dX4_movedFrame_2 : decode prog_1_method_8_code 2 = .ok (.if_icmp .ge 5, 3) := by decide +kernel
theorem dX4_movedFrame_5 : decode prog_1_method_8_code 5 = .ok (.iload_n 0, 1) := by decide +kernel
theorem dX4_movedFrame_6 : decode prog_1_method_8_code 6 = .ok (.ireturn, 1) := by decide +kernel
theorem dX4_movedFrame_7 : decode prog_1_method_8_code 7 = .ok (.iload_n 0, 1) := by decide +kernel
theorem dX4_movedFrame_8 : decode prog_1_method_8_code 8 = .ok (.iload_n 1, 1) := by decide +kernel
theorem dX4_movedFrame_9 : decode prog_1_method_8_code 9 = .ok (.iload_n 2, 1) := by decide +kernel
theorem dX4_movedFrame_10 : decode prog_1_method_8_code 10 = .ok (.invokestatic 115, 3) := by decide +kernel
theorem dX4_movedFrame_13 : decode prog_1_method_8_code 13 = .ok (.ifCond .eq 7, 3) := by decide +kernel
theorem dX4_movedFrame_16 : decode prog_1_method_8_code 16 = .ok (.iload_n 1, 1) := by decide +kernel
theorem dX4_movedFrame_17 : decode prog_1_method_8_code 17 = .ok (.goto 6, 3) := by decide +kernel
theorem dX4_movedFrame_20 : decode prog_1_method_8_code 20 = .ok (.iload_n 0, 1) := by decide +kernel
theorem dX4_movedFrame_21 : decode prog_1_method_8_code 21 = .ok (.iload_n 2, 1) := by decide +kernel
theorem dX4_movedFrame_22 : decode prog_1_method_8_code 22 = .ok (.iadd, 1) := by decide +kernel
theorem dX4_movedFrame_23 : decode prog_1_method_8_code 23 = .ok (.ireturn, 1) := by decide +kernel
def f_X0_firstBeat_30 (x2 : Int32) (w : xWd) : Option (Int32 × xWd) := some (x2, w)
set_option maxHeartbeats 4000000 in
set_option maxRecDepth 100000 in
theorem t_X0_firstBeat_30 {p : Program} {l : Launch} {e : Env} {s : State} {m : MethodId} {args : Array Value} {below : List Frame} {meth : Method} {c : Code} {E : xEv} (hC : xk_C p s m args meth c E prog_2_method_4_code "Clickbook$Cue" 4) (hr : meth.sig.returnType = (some .int)) {q : (Int32 × xWd)} (x2 : Int32) (w : xWd) (hf : f_X0_firstBeat_30 x2 w = some q) : xk_X p l e { frames := 0, cells := 0, slots := 0, locals := 0 } s m args below meth c (MQ below (xk_Qi E q) args s 0 0 (xk_A E.2.2.1)) E 4 0 0 30 [(2, .int (x2))] [] w := by
  refine xk_iload_n hC dX0_firstBeat_30 0 rfl rfl ?_
  cases hf
  refine xk_widen (k := 0) (n := 0) (Nat.le_of_ble_eq_true rfl) (Nat.le_of_ble_eq_true rfl) ?_
  exact xk_iret hC hr rfl dX0_firstBeat_31
def f_X0_firstBeat_4 : Nat → Option Nat → Int32 → Int32 → Int32 → xWd → Option (Int32 × xWd)
  | 0, _, _, _, _, _ => none
  | n + 1, x0, x1, x2, x3, w => if (x1) ≤ (x3) then f_X0_firstBeat_30 x2 w else if ((9 : Int32)) ≤ (x3) then f_X0_firstBeat_30 x2 w else (xk_gR w (x0) 1 8).bind (fun v3 => (xk_lI 0 w (v3) (x3)).bind (fun v4 => f_X0_firstBeat_4 n x0 x1 ((x2) + (v4)) (x3 + (1 : Int32)) w))
set_option maxHeartbeats 4000000 in
set_option maxRecDepth 100000 in
theorem t_X0_firstBeat_4 {p : Program} {l : Launch} {e : Env} {s : State} {m : MethodId} {args : Array Value} {below : List Frame} {meth : Method} {c : Code} {E : xEv} (hC : xk_C p s m args meth c E prog_2_method_4_code "Clickbook$Cue" 4) (hr : meth.sig.returnType = (some .int)) {q : (Int32 × xWd)} : ∀ (n : Nat) (x0 : Option Nat) (x1 : Int32) (x2 : Int32) (x3 : Int32) (w : xWd), f_X0_firstBeat_4 n x0 x1 x2 x3 w = some q → xk_X p l e { frames := 0, cells := 0, slots := 0, locals := 0 } s m args below meth c (MQ below (xk_Qi E q) args s 0 0 (xk_A E.2.2.1)) E 4 0 0 4 [(0, va_rf (x0)), (1, .int (x1)), (2, .int (x2)), (3, .int (x3))] [] w := by
  intro n
  induction n with
  | zero => intro x0 x1 x2 x3 w hf; have hf : none = some q := hf; cases hf
  | succ n ih =>
    intro x0 x1 x2 x3 w hf
    refine xk_iload_n hC dX0_firstBeat_4 3 rfl rfl ?_
    refine xk_iload_n hC dX0_firstBeat_5 1 rfl rfl ?_
    refine xk_icmp_ge (tgt := 30) hC dX0_firstBeat_6 (by decide) (fun c1 => ?_) (fun c1 => ?_)
    · replace hf := (if_pos c1).symm.trans hf
      refine xk_locals [2] rfl ?_
      exact t_X0_firstBeat_30 hC hr x2 w hf
    · replace hf := (if_neg c1).symm.trans hf
      refine xk_iload_n hC dX0_firstBeat_9 3 rfl rfl ?_
      refine xk_bipush (v := (9 : Int32)) hC dX0_firstBeat_10 (by decide) ?_
      refine xk_icmp_ge (tgt := 30) hC dX0_firstBeat_12 (by decide) (fun c2 => ?_) (fun c2 => ?_)
      · replace hf := (if_pos c2).symm.trans hf
        refine xk_locals [2] rfl ?_
        exact t_X0_firstBeat_30 hC hr x2 w hf
      · replace hf := (if_neg c2).symm.trans hf
        refine xk_iload_n hC dX0_firstBeat_15 2 rfl rfl ?_
        refine xk_aload_n hC dX0_firstBeat_16 0 rfl rfl ?_
        obtain ⟨v3, h3, hf⟩ := xk_bi hf
        refine xk_getR hC xi_1 xc_1 8 (by decide) xm_335 (Or.inl rfl) dX0_firstBeat_17 h3 ?_
        refine xk_iload_n hC dX0_firstBeat_20 3 rfl rfl ?_
        obtain ⟨v4, h4, hf⟩ := xk_bi hf
        refine xk_iald hC rfl dX0_firstBeat_21 h4 ?_
        refine xk_iadd hC dX0_firstBeat_22 ?_
        refine xk_istore_n (lv' := [(2, .int ((x2) + (v4))), (0, va_rf (x0)), (1, .int (x1)), (3, .int (x3))]) hC dX0_firstBeat_23 rfl (by decide) rfl ?_
        refine xk_iinc (v := x3 + (1 : Int32)) (lv' := [(3, .int (x3 + (1 : Int32))), (2, .int ((x2) + (v4))), (0, va_rf (x0)), (1, .int (x1))]) hC dX0_firstBeat_24 3 rfl rfl (by decide) rfl ?_
        refine xk_goto (tgt := 4) hC dX0_firstBeat_27 (by decide) ?_
        refine xk_locals [2, 3, 1, 0] rfl ?_
        exact ih x0 x1 ((x2) + (v4)) (x3 + (1 : Int32)) w hf
def f_X0_firstBeat (x0 : Option Nat) (x1 : Int32) (w : xWd) : Option (Int32 × xWd) := f_X0_firstBeat_4 4096 x0 x1 ((0 : Int32)) ((0 : Int32)) w
set_option maxHeartbeats 4000000 in
set_option maxRecDepth 100000 in
theorem t_X0_firstBeat_0 {p : Program} {l : Launch} {e : Env} {s : State} {m : MethodId} {args : Array Value} {below : List Frame} {meth : Method} {c : Code} {E : xEv} (hC : xk_C p s m args meth c E prog_2_method_4_code "Clickbook$Cue" 4) (hr : meth.sig.returnType = (some .int)) {q : (Int32 × xWd)} (x0 : Option Nat) (x1 : Int32) (w : xWd) (hf : f_X0_firstBeat x0 x1 w = some q) : xk_X p l e { frames := 0, cells := 0, slots := 0, locals := 0 } s m args below meth c (MQ below (xk_Qi E q) args s 0 0 (xk_A E.2.2.1)) E 4 0 0 0 [(0, va_rf (x0)), (1, .int (x1))] [] w := by
  refine xk_iconst (v := (0 : Int32)) hC dX0_firstBeat_0 (by decide) ?_
  refine xk_istore_n (lv' := [(2, .int ((0 : Int32))), (0, va_rf (x0)), (1, .int (x1))]) hC dX0_firstBeat_1 rfl (by decide) rfl ?_
  refine xk_iconst (v := (0 : Int32)) hC dX0_firstBeat_2 (by decide) ?_
  refine xk_istore_n (lv' := [(3, .int ((0 : Int32))), (2, .int ((0 : Int32))), (0, va_rf (x0)), (1, .int (x1))]) hC dX0_firstBeat_3 rfl (by decide) rfl ?_
  refine xk_locals [2, 3, 1, 0] rfl ?_
  exact t_X0_firstBeat_4 hC hr 4096 x0 x1 ((0 : Int32)) ((0 : Int32)) w hf
theorem xd_X0_firstBeat : xy_X0_firstBeat.cls ≠ "java/lang/invoke/MethodHandle" ∧ xy_X0_firstBeat.cls ≠ "java/lang/invoke/VarHandle" ∧ (parseMethodDescriptor xy_X0_firstBeat.desc).map (fun d => d.parameters.length) = some 1 := ⟨by decide +kernel, by decide +kernel, by decide +kernel⟩
theorem c_X0_firstBeat {l : Launch} {E : xEv} {x0 : Option Nat} {x1 : Int32} {w : xWd} {q : (Int32 × xWd)} (hf : f_X0_firstBeat x0 x1 w = some q) : xk_M l xy_X0_firstBeat prog_2_method_4_code 4 (some .int) 0 0 0 0 E [va_rf (x0), .int (x1)] w (xk_Qi E q) := by
  refine xk_enter (by decide +kernel) (by simp [lg_sl, xk_cat1, Value.category]) ?_
  intro p e s m args below meth c hC hr hin ha
  rw [show lv_args 0 [va_rf (x0), .int (x1)] = [(0, va_rf (x0)), (1, .int (x1))] by simp [lv_args, xk_cat1, Value.category]]
  exact t_X0_firstBeat_0 hC hr x0 x1 w hf
def f_X0_end (x0 : Option Nat) (w : xWd) : Option (Int32 × xWd) := (xk_gI w (x0) 1 1).bind (fun v1 => (xk_gI w (x0) 1 11).bind (fun v2 => some ((v1) + (v2), w)))
set_option maxHeartbeats 4000000 in
set_option maxRecDepth 100000 in
theorem t_X0_end_0 {p : Program} {l : Launch} {e : Env} {s : State} {m : MethodId} {args : Array Value} {below : List Frame} {meth : Method} {c : Code} {E : xEv} (hC : xk_C p s m args meth c E prog_2_method_6_code "Clickbook$Cue" 1) (hr : meth.sig.returnType = (some .int)) {q : (Int32 × xWd)} (x0 : Option Nat) (w : xWd) (hf : f_X0_end x0 w = some q) : xk_X p l e { frames := 0, cells := 0, slots := 0, locals := 0 } s m args below meth c (MQ below (xk_Qi E q) args s 0 0 (xk_A E.2.2.1)) E 1 0 0 0 [(0, va_rf (x0))] [] w := by
  refine xk_aload_n hC dX0_end_0 0 rfl rfl ?_
  obtain ⟨v1, h1, hf⟩ := xk_bi hf
  refine xk_getI hC xi_1 xc_1 1 (by decide) xm_319 (Or.inl rfl) dX0_end_1 h1 ?_
  refine xk_aload_n hC dX0_end_4 0 rfl rfl ?_
  obtain ⟨v2, h2, hf⟩ := xk_bi hf
  refine xk_getI hC xi_1 xc_1 11 (by decide) xm_341 (Or.inl rfl) dX0_end_5 h2 ?_
  refine xk_iadd hC dX0_end_8 ?_
  cases hf
  refine xk_widen (k := 0) (n := 0) (Nat.le_of_ble_eq_true rfl) (Nat.le_of_ble_eq_true rfl) ?_
  exact xk_iret hC hr rfl dX0_end_9
theorem xd_X0_end : xy_X0_end.cls ≠ "java/lang/invoke/MethodHandle" ∧ xy_X0_end.cls ≠ "java/lang/invoke/VarHandle" ∧ (parseMethodDescriptor xy_X0_end.desc).map (fun d => d.parameters.length) = some 0 := ⟨by decide +kernel, by decide +kernel, by decide +kernel⟩
theorem c_X0_end {l : Launch} {E : xEv} {x0 : Option Nat} {w : xWd} {q : (Int32 × xWd)} (hf : f_X0_end x0 w = some q) : xk_M l xy_X0_end prog_2_method_6_code 1 (some .int) 0 0 0 0 E [va_rf (x0)] w (xk_Qi E q) := by
  refine xk_enter (by decide +kernel) (by simp [lg_sl, xk_cat1, Value.category]) ?_
  intro p e s m args below meth c hC hr hin ha
  rw [show lv_args 0 [va_rf (x0)] = [(0, va_rf (x0))] by simp [lv_args, xk_cat1, Value.category]]
  exact t_X0_end_0 hC hr x0 w hf
def f_X0_reaches_44 (w : xWd) : Option (Int32 × xWd) := some ((0 : Int32), w)
set_option maxHeartbeats 4000000 in
set_option maxRecDepth 100000 in
theorem t_X0_reaches_44 {p : Program} {l : Launch} {e : Env} {s : State} {m : MethodId} {args : Array Value} {below : List Frame} {meth : Method} {c : Code} {E : xEv} (hC : xk_C p s m args meth c E prog_2_method_11_code "Clickbook$Cue" 6) (hr : meth.sig.returnType = (some .boolean)) {q : (Int32 × xWd)} (w : xWd) (hf : f_X0_reaches_44 w = some q) : xk_X p l e { frames := 1, cells := 0, slots := 0, locals := 21 } s m args below meth c (MQ below (xk_Qi E q) args s 0 0 (xk_A E.2.2.1)) E 6 0 0 44 [] [] w := by
  refine xk_iconst (v := (0 : Int32)) hC dX0_reaches_44 (by decide) ?_
  cases hf
  refine xk_widen (k := 0) (n := 0) (Nat.le_of_ble_eq_true rfl) (Nat.le_of_ble_eq_true rfl) ?_
  exact xk_iret hC hr rfl dX0_reaches_45
def f_X0_reaches_3 : Nat → Option Nat → Int32 → Int32 → Int32 → Option Nat → Int32 → xWd → Option (Int32 × xWd)
  | 0, _, _, _, _, _, _, _ => none
  | n + 1, x0, x1, x2, x3, x4, x5, w => (xk_gI w (x0) 1 10).bind (fun v1 => if (v1) ≤ (x5) then f_X0_reaches_44 w else (xk_len w (x4)).bind (fun v3 => if (v3) ≤ (x5) then f_X0_reaches_44 w else (xk_lI 0 w (x4) (x5)).bind (fun v5 => if (x2) < (if 0 ≤ (((x3) + (v5)) - (x1)) then (((x3) + (v5)) - (x1)) else 0 - (((x3) + (v5)) - (x1))) then f_X0_reaches_3 n x0 x1 x2 x3 x4 (x5 + (1 : Int32)) w else some ((1 : Int32), w))))
set_option maxHeartbeats 4000000 in
set_option maxRecDepth 100000 in
theorem t_X0_reaches_3 {p : Program} {l : Launch} {e : Env} {s : State} {m : MethodId} {args : Array Value} {below : List Frame} {meth : Method} {c : Code} {E : xEv} (hC : xk_C p s m args meth c E prog_2_method_11_code "Clickbook$Cue" 6) (hr : meth.sig.returnType = (some .boolean)) {q : (Int32 × xWd)} : ∀ (n : Nat) (x0 : Option Nat) (x1 : Int32) (x2 : Int32) (x3 : Int32) (x4 : Option Nat) (x5 : Int32) (w : xWd), f_X0_reaches_3 n x0 x1 x2 x3 x4 x5 w = some q → xk_X p l e { frames := 1, cells := 0, slots := 0, locals := 21 } s m args below meth c (MQ below (xk_Qi E q) args s 0 0 (xk_A E.2.2.1)) E 6 0 0 3 [(0, va_rf (x0)), (1, .int (x1)), (2, .int (x2)), (3, .int (x3)), (4, va_rf (x4)), (5, .int (x5))] [] w := by
  intro n
  induction n with
  | zero => intro x0 x1 x2 x3 x4 x5 w hf; have hf : none = some q := hf; cases hf
  | succ n ih =>
    intro x0 x1 x2 x3 x4 x5 w hf
    refine xk_iload hC dX0_reaches_3 5 rfl ?_
    refine xk_aload_n hC dX0_reaches_5 0 rfl rfl ?_
    obtain ⟨v1, h1, hf⟩ := xk_bi hf
    refine xk_getI hC xi_1 xc_1 10 (by decide) xm_339 (Or.inl rfl) dX0_reaches_6 h1 ?_
    refine xk_icmp_ge (tgt := 44) hC dX0_reaches_9 (by decide) (fun c2 => ?_) (fun c2 => ?_)
    · replace hf := (if_pos c2).symm.trans hf
      refine xk_locals [] rfl ?_
      exact t_X0_reaches_44 hC hr w hf
    · replace hf := (if_neg c2).symm.trans hf
      refine xk_iload hC dX0_reaches_12 5 rfl ?_
      refine xk_aload hC dX0_reaches_14 4 rfl ?_
      obtain ⟨v3, h3, hf⟩ := xk_bi hf
      refine xk_alen hC dX0_reaches_16 h3 ?_
      refine xk_icmp_ge (tgt := 44) hC dX0_reaches_17 (by decide) (fun c4 => ?_) (fun c4 => ?_)
      · replace hf := (if_pos c4).symm.trans hf
        refine xk_locals [] rfl ?_
        exact t_X0_reaches_44 hC hr w hf
      · replace hf := (if_neg c4).symm.trans hf
        refine xk_iload_n hC dX0_reaches_20 3 rfl rfl ?_
        refine xk_aload hC dX0_reaches_21 4 rfl ?_
        refine xk_iload hC dX0_reaches_23 5 rfl ?_
        obtain ⟨v5, h5, hf⟩ := xk_bi hf
        refine xk_iald hC rfl dX0_reaches_25 h5 ?_
        refine xk_iadd hC dX0_reaches_26 ?_
        refine xk_iload_n hC dX0_reaches_27 1 rfl rfl ?_
        refine xk_isub hC dX0_reaches_28 ?_
        refine xk_mabs hC xm_448 xm_449 xm_13 xm_450 (Nat.le_of_ble_eq_true rfl) (Nat.le_of_ble_eq_true rfl) (Nat.le_of_ble_eq_true rfl) (Nat.le_of_ble_eq_true rfl) dX0_reaches_29 ?_
        refine xk_iload_n hC dX0_reaches_32 2 rfl rfl ?_
        refine xk_icmp_gt (tgt := 38) hC dX0_reaches_33 (by decide) (fun c6 => ?_) (fun c6 => ?_)
        · replace hf := (if_pos c6).symm.trans hf
          refine xk_iinc (v := x5 + (1 : Int32)) (lv' := [(5, .int (x5 + (1 : Int32))), (0, va_rf (x0)), (1, .int (x1)), (2, .int (x2)), (3, .int (x3)), (4, va_rf (x4))]) hC dX0_reaches_38 5 rfl rfl (by decide) (by simp [xk_cat1]) ?_
          refine xk_goto (tgt := 3) hC dX0_reaches_41 (by decide) ?_
          refine xk_locals [1, 2, 3, 4, 5, 0] rfl ?_
          exact ih x0 x1 x2 x3 x4 (x5 + (1 : Int32)) w hf
        · replace hf := (if_neg c6).symm.trans hf
          refine xk_iconst (v := (1 : Int32)) hC dX0_reaches_36 (by decide) ?_
          cases hf
          refine xk_widen (k := 0) (n := 0) (Nat.le_of_ble_eq_true rfl) (Nat.le_of_ble_eq_true rfl) ?_
          exact xk_iret hC hr rfl dX0_reaches_37
def f_X0_reaches (x0 : Option Nat) (x1 : Int32) (x2 : Int32) (x3 : Int32) (x4 : Option Nat) (w : xWd) : Option (Int32 × xWd) := f_X0_reaches_3 4096 x0 x1 x2 x3 x4 ((0 : Int32)) w
set_option maxHeartbeats 4000000 in
set_option maxRecDepth 100000 in
theorem t_X0_reaches_0 {p : Program} {l : Launch} {e : Env} {s : State} {m : MethodId} {args : Array Value} {below : List Frame} {meth : Method} {c : Code} {E : xEv} (hC : xk_C p s m args meth c E prog_2_method_11_code "Clickbook$Cue" 6) (hr : meth.sig.returnType = (some .boolean)) {q : (Int32 × xWd)} (x0 : Option Nat) (x1 : Int32) (x2 : Int32) (x3 : Int32) (x4 : Option Nat) (w : xWd) (hf : f_X0_reaches x0 x1 x2 x3 x4 w = some q) : xk_X p l e { frames := 1, cells := 0, slots := 0, locals := 21 } s m args below meth c (MQ below (xk_Qi E q) args s 0 0 (xk_A E.2.2.1)) E 6 0 0 0 [(0, va_rf (x0)), (1, .int (x1)), (2, .int (x2)), (3, .int (x3)), (4, va_rf (x4))] [] w := by
  refine xk_iconst (v := (0 : Int32)) hC dX0_reaches_0 (by decide) ?_
  refine xk_istore (lv' := [(5, .int ((0 : Int32))), (0, va_rf (x0)), (1, .int (x1)), (2, .int (x2)), (3, .int (x3)), (4, va_rf (x4))]) hC dX0_reaches_1 (by decide) (by simp [xk_cat1]) ?_
  refine xk_locals [1, 2, 3, 4, 5, 0] rfl ?_
  exact t_X0_reaches_3 hC hr 4096 x0 x1 x2 x3 x4 ((0 : Int32)) w hf
theorem xd_X0_reaches : xy_X0_reaches.cls ≠ "java/lang/invoke/MethodHandle" ∧ xy_X0_reaches.cls ≠ "java/lang/invoke/VarHandle" ∧ (parseMethodDescriptor xy_X0_reaches.desc).map (fun d => d.parameters.length) = some 4 := ⟨by decide +kernel, by decide +kernel, by decide +kernel⟩
theorem c_X0_reaches {l : Launch} {E : xEv} {x0 : Option Nat} {x1 : Int32} {x2 : Int32} {x3 : Int32} {x4 : Option Nat} {w : xWd} {q : (Int32 × xWd)} (hf : f_X0_reaches x0 x1 x2 x3 x4 w = some q) : xk_M l xy_X0_reaches prog_2_method_11_code 6 (some .boolean) 1 21 0 0 E [va_rf (x0), .int (x1), .int (x2), .int (x3), va_rf (x4)] w (xk_Qi E q) := by
  refine xk_enter (by decide +kernel) (by simp [lg_sl, xk_cat1, Value.category]) ?_
  intro p e s m args below meth c hC hr hin ha
  rw [show lv_args 0 [va_rf (x0), .int (x1), .int (x2), .int (x3), va_rf (x4)] = [(0, va_rf (x0)), (1, .int (x1)), (2, .int (x2)), (3, .int (x3)), (4, va_rf (x4))] by simp [lv_args, xk_cat1, Value.category]]
  exact t_X0_reaches_0 hC hr x0 x1 x2 x3 x4 w hf
def f_X4_isTakenOut_21 (s0 : Int32) (w : xWd) : Option (Int32 × xWd) := (xk_zb (s0)).bind (fun u1 => some (s0, w))
set_option maxHeartbeats 4000000 in
set_option maxRecDepth 100000 in
theorem t_X4_isTakenOut_21 {p : Program} {l : Launch} {e : Env} {s : State} {m : MethodId} {args : Array Value} {below : List Frame} {meth : Method} {c : Code} {E : xEv} (hC : xk_C p s m args meth c E prog_1_method_7_code "Clickbook" 3) (hr : meth.sig.returnType = (some .boolean)) {q : (Int32 × xWd)} (s0 : Int32) (w : xWd) (hf : f_X4_isTakenOut_21 s0 w = some q) : xk_X p l e { frames := 0, cells := 0, slots := 0, locals := 0 } s m args below meth c (MQ below (xk_Qi E q) args s 0 0 (xk_A E.2.2.1)) E 3 0 0 21 [] [.int (s0)] w := by
  obtain ⟨u1, h1, hf⟩ := xk_bi hf
  cases hf
  refine xk_widen (k := 0) (n := 0) (Nat.le_of_ble_eq_true rfl) (Nat.le_of_ble_eq_true rfl) ?_
  exact xk_iret hC hr (xk_zb_e h1) dX4_isTakenOut_21
def f_X4_isTakenOut_20 (w : xWd) : Option (Int32 × xWd) := f_X4_isTakenOut_21 ((0 : Int32)) w
set_option maxHeartbeats 4000000 in
set_option maxRecDepth 100000 in
theorem t_X4_isTakenOut_20 {p : Program} {l : Launch} {e : Env} {s : State} {m : MethodId} {args : Array Value} {below : List Frame} {meth : Method} {c : Code} {E : xEv} (hC : xk_C p s m args meth c E prog_1_method_7_code "Clickbook" 3) (hr : meth.sig.returnType = (some .boolean)) {q : (Int32 × xWd)} (w : xWd) (hf : f_X4_isTakenOut_20 w = some q) : xk_X p l e { frames := 0, cells := 0, slots := 0, locals := 0 } s m args below meth c (MQ below (xk_Qi E q) args s 0 0 (xk_A E.2.2.1)) E 3 0 0 20 [] [] w := by
  refine xk_iconst (v := (0 : Int32)) hC dX4_isTakenOut_20 (by decide) ?_
  exact t_X4_isTakenOut_21 hC hr ((0 : Int32)) w hf
def f_X4_isTakenOut (x0 : Int32) (x1 : Int32) (x2 : Int32) (w : xWd) : Option (Int32 × xWd) := if ((0 : Int32)) ≤ (x2) then f_X4_isTakenOut_20 w else if (x0) < (x1) then f_X4_isTakenOut_20 w else if ((x1) - (x2)) ≤ (x0) then f_X4_isTakenOut_20 w else f_X4_isTakenOut_21 ((1 : Int32)) w
set_option maxHeartbeats 4000000 in
set_option maxRecDepth 100000 in
theorem t_X4_isTakenOut_0 {p : Program} {l : Launch} {e : Env} {s : State} {m : MethodId} {args : Array Value} {below : List Frame} {meth : Method} {c : Code} {E : xEv} (hC : xk_C p s m args meth c E prog_1_method_7_code "Clickbook" 3) (hr : meth.sig.returnType = (some .boolean)) {q : (Int32 × xWd)} (x0 : Int32) (x1 : Int32) (x2 : Int32) (w : xWd) (hf : f_X4_isTakenOut x0 x1 x2 w = some q) : xk_X p l e { frames := 0, cells := 0, slots := 0, locals := 0 } s m args below meth c (MQ below (xk_Qi E q) args s 0 0 (xk_A E.2.2.1)) E 3 0 0 0 [(0, .int (x0)), (1, .int (x1)), (2, .int (x2))] [] w := by
  refine xk_iload_n hC dX4_isTakenOut_0 2 rfl rfl ?_
  refine xk_if_ge (tgt := 20) hC dX4_isTakenOut_1 (by decide) (fun c1 => ?_) (fun c1 => ?_)
  · replace hf := (if_pos c1).symm.trans hf
    refine xk_locals [] rfl ?_
    exact t_X4_isTakenOut_20 hC hr w hf
  · replace hf := (if_neg c1).symm.trans hf
    refine xk_iload_n hC dX4_isTakenOut_4 0 rfl rfl ?_
    refine xk_iload_n hC dX4_isTakenOut_5 1 rfl rfl ?_
    refine xk_icmp_lt (tgt := 20) hC dX4_isTakenOut_6 (by decide) (fun c2 => ?_) (fun c2 => ?_)
    · replace hf := (if_pos c2).symm.trans hf
      refine xk_locals [] rfl ?_
      exact t_X4_isTakenOut_20 hC hr w hf
    · replace hf := (if_neg c2).symm.trans hf
      refine xk_iload_n hC dX4_isTakenOut_9 0 rfl rfl ?_
      refine xk_iload_n hC dX4_isTakenOut_10 1 rfl rfl ?_
      refine xk_iload_n hC dX4_isTakenOut_11 2 rfl rfl ?_
      refine xk_isub hC dX4_isTakenOut_12 ?_
      refine xk_icmp_ge (tgt := 20) hC dX4_isTakenOut_13 (by decide) (fun c3 => ?_) (fun c3 => ?_)
      · replace hf := (if_pos c3).symm.trans hf
        refine xk_locals [] rfl ?_
        exact t_X4_isTakenOut_20 hC hr w hf
      · replace hf := (if_neg c3).symm.trans hf
        refine xk_iconst (v := (1 : Int32)) hC dX4_isTakenOut_16 (by decide) ?_
        refine xk_goto (tgt := 21) hC dX4_isTakenOut_17 (by decide) ?_
        refine xk_locals [] rfl ?_
        exact t_X4_isTakenOut_21 hC hr ((1 : Int32)) w hf
theorem xd_X4_isTakenOut : xy_X4_isTakenOut.cls ≠ "java/lang/invoke/MethodHandle" ∧ xy_X4_isTakenOut.cls ≠ "java/lang/invoke/VarHandle" ∧ (parseMethodDescriptor xy_X4_isTakenOut.desc).map (fun d => d.parameters.length) = some 3 := ⟨by decide +kernel, by decide +kernel, by decide +kernel⟩
theorem c_X4_isTakenOut {l : Launch} {E : xEv} {x0 : Int32} {x1 : Int32} {x2 : Int32} {w : xWd} {q : (Int32 × xWd)} (hf : f_X4_isTakenOut x0 x1 x2 w = some q) : xk_M l xy_X4_isTakenOut prog_1_method_7_code 3 (some .boolean) 0 0 0 0 E [.int (x0), .int (x1), .int (x2)] w (xk_Qi E q) := by
  refine xk_enter (by decide +kernel) (by simp [lg_sl, xk_cat1, Value.category]) ?_
  intro p e s m args below meth c hC hr hin ha
  rw [show lv_args 0 [.int (x0), .int (x1), .int (x2)] = [(0, .int (x0)), (1, .int (x1)), (2, .int (x2))] by simp [lv_args, xk_cat1, Value.category]]
  exact t_X4_isTakenOut_0 hC hr x0 x1 x2 w hf
def f_X4_movedFrame_23 (s0 : Int32) (w : xWd) : Option (Int32 × xWd) := some (s0, w)
set_option maxHeartbeats 4000000 in
set_option maxRecDepth 100000 in
theorem t_X4_movedFrame_23 {p : Program} {l : Launch} {e : Env} {s : State} {m : MethodId} {args : Array Value} {below : List Frame} {meth : Method} {c : Code} {E : xEv} (hC : xk_C p s m args meth c E prog_1_method_8_code "Clickbook" 3) (hr : meth.sig.returnType = (some .int)) {q : (Int32 × xWd)} (s0 : Int32) (w : xWd) (hf : f_X4_movedFrame_23 s0 w = some q) : xk_X p l e { frames := 1, cells := 0, slots := 0, locals := 22 } s m args below meth c (MQ below (xk_Qi E q) args s 0 0 (xk_A E.2.2.1)) E 3 0 0 23 [] [.int (s0)] w := by
  cases hf
  refine xk_widen (k := 0) (n := 0) (Nat.le_of_ble_eq_true rfl) (Nat.le_of_ble_eq_true rfl) ?_
  exact xk_iret hC hr rfl dX4_movedFrame_23
def f_X4_movedFrame (x0 : Int32) (x1 : Int32) (x2 : Int32) (w : xWd) : Option (Int32 × xWd) := if (x1) ≤ (x0) then (f_X4_isTakenOut (x0) (x1) (x2) w).bind (fun q2 => if (q2.1) = ((0 : Int32)) then f_X4_movedFrame_23 ((x0) + (x2)) (q2.2) else f_X4_movedFrame_23 x1 (q2.2)) else some (x0, w)
set_option maxHeartbeats 4000000 in
set_option maxRecDepth 100000 in
theorem t_X4_movedFrame_0 {p : Program} {l : Launch} {e : Env} {s : State} {m : MethodId} {args : Array Value} {below : List Frame} {meth : Method} {c : Code} {E : xEv} (hC : xk_C p s m args meth c E prog_1_method_8_code "Clickbook" 3) (hr : meth.sig.returnType = (some .int)) {q : (Int32 × xWd)} (x0 : Int32) (x1 : Int32) (x2 : Int32) (w : xWd) (hf : f_X4_movedFrame x0 x1 x2 w = some q) : xk_X p l e { frames := 1, cells := 0, slots := 0, locals := 22 } s m args below meth c (MQ below (xk_Qi E q) args s 0 0 (xk_A E.2.2.1)) E 3 0 0 0 [(0, .int (x0)), (1, .int (x1)), (2, .int (x2))] [] w := by
  refine xk_iload_n hC dX4_movedFrame_0 0 rfl rfl ?_
  refine xk_iload_n hC dX4_movedFrame_1 1 rfl rfl ?_
  refine xk_icmp_ge (tgt := 7) hC dX4_movedFrame_2 (by decide) (fun c1 => ?_) (fun c1 => ?_)
  · replace hf := (if_pos c1).symm.trans hf
    refine xk_iload_n hC dX4_movedFrame_7 0 rfl rfl ?_
    refine xk_iload_n hC dX4_movedFrame_8 1 rfl rfl ?_
    refine xk_iload_n hC dX4_movedFrame_9 2 rfl rfl ?_
    obtain ⟨q2, h2, hf⟩ := xk_bi hf
    refine xk_backi (xk_callS hC 3 (c_X4_isTakenOut h2) xm_655 xm_656 xm_1 xm_657 xd_X4_isTakenOut rfl ⟨Nat.le_of_ble_eq_true rfl, Nat.le_of_ble_eq_true rfl⟩ rfl (Nat.le_of_ble_eq_true rfl) dX4_movedFrame_10 ⟨Nat.le_of_ble_eq_true rfl, Nat.le_of_ble_eq_true rfl⟩) ?_
    refine xk_if_eq (tgt := 20) hC dX4_movedFrame_13 (by decide) (fun c3 => ?_) (fun c3 => ?_)
    · replace hf := (if_pos c3).symm.trans hf
      refine xk_iload_n hC dX4_movedFrame_20 0 rfl rfl ?_
      refine xk_iload_n hC dX4_movedFrame_21 2 rfl rfl ?_
      refine xk_iadd hC dX4_movedFrame_22 ?_
      refine xk_locals [] rfl ?_
      exact t_X4_movedFrame_23 hC hr ((x0) + (x2)) (q2.2) hf
    · replace hf := (if_neg c3).symm.trans hf
      refine xk_iload_n hC dX4_movedFrame_16 1 rfl rfl ?_
      refine xk_goto (tgt := 23) hC dX4_movedFrame_17 (by decide) ?_
      refine xk_locals [] rfl ?_
      exact t_X4_movedFrame_23 hC hr x1 (q2.2) hf
  · replace hf := (if_neg c1).symm.trans hf
    refine xk_iload_n hC dX4_movedFrame_5 0 rfl rfl ?_
    cases hf
    refine xk_widen (k := 0) (n := 0) (Nat.le_of_ble_eq_true rfl) (Nat.le_of_ble_eq_true rfl) ?_
    exact xk_iret hC hr rfl dX4_movedFrame_6
theorem xd_X4_movedFrame : xy_X4_movedFrame.cls ≠ "java/lang/invoke/MethodHandle" ∧ xy_X4_movedFrame.cls ≠ "java/lang/invoke/VarHandle" ∧ (parseMethodDescriptor xy_X4_movedFrame.desc).map (fun d => d.parameters.length) = some 3 := ⟨by decide +kernel, by decide +kernel, by decide +kernel⟩
theorem c_X4_movedFrame {l : Launch} {E : xEv} {x0 : Int32} {x1 : Int32} {x2 : Int32} {w : xWd} {q : (Int32 × xWd)} (hf : f_X4_movedFrame x0 x1 x2 w = some q) : xk_M l xy_X4_movedFrame prog_1_method_8_code 3 (some .int) 1 22 0 0 E [.int (x0), .int (x1), .int (x2)] w (xk_Qi E q) := by
  refine xk_enter (by decide +kernel) (by simp [lg_sl, xk_cat1, Value.category]) ?_
  intro p e s m args below meth c hC hr hin ha
  rw [show lv_args 0 [.int (x0), .int (x1), .int (x2)] = [(0, .int (x0)), (1, .int (x1)), (2, .int (x2))] by simp [lv_args, xk_cat1, Value.category]]
  exact t_X4_movedFrame_0 hC hr x0 x1 x2 w hf
end
