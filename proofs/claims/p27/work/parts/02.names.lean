/-! classes, fields, methods, words: printed by wip/tool/gen02.py out of the claim's own texts -/
def xT_0 : u_T := fun k => match k with
  | 0 => ("Clickbook", "hits", "Ljava/util/ArrayList;", true)
  | 1 => ("Clickbook", "reveals", "[I", true)
  | 2 => ("Clickbook", "themeCount", "I", false)
  | 3 => ("Clickbook", "cues", "Ljava/util/ArrayList;", true)
  | 4 => ("Clickbook", "takes", "Ljava/util/ArrayList;", true)
  | 5 => ("Clickbook", "length", "I", false)
  | 6 => ("Clickbook", "version", "I", false)
  | 7 => ("Clickbook", "band", "I", false)
  | 8 => ("Clickbook", "time", "I", false)
  | 9 => ("Clickbook", "costs", "I", false)
  | 10 => ("Clickbook", "joins", "LClickbook$JoinTable;", true)
  | 11 => ("Clickbook", "trialOffsets", "[I", true)
  | _ => ("Clickbook", "metByOthers", "[Z", true)
def xt_0 : Nat → FieldType := fun k => match k with
  | 0 => .object "java/util/ArrayList"
  | 1 => .array .int
  | 2 => .int
  | 3 => .object "java/util/ArrayList"
  | 4 => .object "java/util/ArrayList"
  | 5 => .int
  | 6 => .int
  | 7 => .int
  | 8 => .int
  | 9 => .int
  | 10 => .object "Clickbook$JoinTable"
  | 11 => .array .int
  | _ => .array .boolean
theorem xn_0 : ∀ a, a < 13 → ∀ b, b < 13 → a ≠ b → (xT_0 a).2.1 ≠ (xT_0 b).2.1 := by decide +kernel
theorem xo_0 : ∀ k, k < 13 → parseFieldDescriptor (xT_0 k).2.2.1 = some (xt_0 k) := by decide +kernel
def xT_1 : u_T := fun k => match k with
  | 0 => ("Clickbook$Cue", "number", "I", true)
  | 1 => ("Clickbook$Cue", "start", "I", false)
  | 2 => ("Clickbook$Cue", "theme", "I", true)
  | 3 => ("Clickbook$Cue", "players", "I", true)
  | 4 => ("Clickbook$Cue", "writer", "I", true)
  | 5 => ("Clickbook$Cue", "use", "I", true)
  | 6 => ("Clickbook$Cue", "edition", "I", false)
  | 7 => ("Clickbook$Cue", "bars", "I", false)
  | 8 => ("Clickbook$Cue", "meters", "[I", true)
  | 9 => ("Clickbook$Cue", "clicks", "[I", true)
  | 10 => ("Clickbook$Cue", "beats", "I", false)
  | 11 => ("Clickbook$Cue", "frames", "I", false)
  | _ => ("Clickbook$Cue", "offsets", "[I", true)
def xt_1 : Nat → FieldType := fun k => match k with
  | 0 => .int
  | 1 => .int
  | 2 => .int
  | 3 => .int
  | 4 => .int
  | 5 => .int
  | 6 => .int
  | 7 => .int
  | 8 => .array .int
  | 9 => .array .int
  | 10 => .int
  | 11 => .int
  | _ => .array .int
theorem xn_1 : ∀ a, a < 13 → ∀ b, b < 13 → a ≠ b → (xT_1 a).2.1 ≠ (xT_1 b).2.1 := by decide +kernel
theorem xo_1 : ∀ k, k < 13 → parseFieldDescriptor (xT_1 k).2.2.1 = some (xt_1 k) := by decide +kernel
def xT_2 : u_T := fun k => match k with
  | 0 => ("Clickbook$Hit", "frame", "I", false)
  | 1 => ("Clickbook$Hit", "tolerance", "I", true)
  | _ => ("Clickbook$Hit", "gone", "Z", false)
def xt_2 : Nat → FieldType := fun k => match k with
  | 0 => .int
  | 1 => .int
  | _ => .boolean
theorem xn_2 : ∀ a, a < 3 → ∀ b, b < 3 → a ≠ b → (xT_2 a).2.1 ≠ (xT_2 b).2.1 := by decide +kernel
theorem xo_2 : ∀ k, k < 3 → parseFieldDescriptor (xT_2 k).2.2.1 = some (xt_2 k) := by decide +kernel
def xT_3 : u_T := fun k => match k with
  | 0 => ("Clickbook$JoinTable", "pool", "Ljava/util/ArrayList;", true)
  | 1 => ("Clickbook$JoinTable", "bars", "I", false)
  | _ => ("Clickbook$JoinTable", "worths", "[I", true)
def xt_3 : Nat → FieldType := fun k => match k with
  | 0 => .object "java/util/ArrayList"
  | 1 => .int
  | _ => .array .int
theorem xn_3 : ∀ a, a < 3 → ∀ b, b < 3 → a ≠ b → (xT_3 a).2.1 ≠ (xT_3 b).2.1 := by decide +kernel
theorem xo_3 : ∀ k, k < 3 → parseFieldDescriptor (xT_3 k).2.2.1 = some (xt_3 k) := by decide +kernel
def xT_4 : u_T := fun k => match k with
  | 0 => ("Clickbook$Take", "number", "I", true)
  | 1 => ("Clickbook$Take", "of", "LClickbook$Cue;", true)
  | 2 => ("Clickbook$Take", "edition", "I", true)
  | 3 => ("Clickbook$Take", "notes", "I", true)
  | _ => ("Clickbook$Take", "push", "I", true)
def xt_4 : Nat → FieldType := fun k => match k with
  | 0 => .int
  | 1 => .object "Clickbook$Cue"
  | 2 => .int
  | 3 => .int
  | _ => .int
theorem xn_4 : ∀ a, a < 5 → ∀ b, b < 5 → a ≠ b → (xT_4 a).2.1 ≠ (xT_4 b).2.1 := by decide +kernel
theorem xo_4 : ∀ k, k < 5 → parseFieldDescriptor (xT_4 k).2.2.1 = some (xt_4 k) := by decide +kernel
def xT_5 : u_T := fun k => match k with
  | 0 => ("java/util/AbstractList", "modCount", "I", false)
  | 1 => ("java/util/ArrayList", "elementData", "[Ljava/lang/Object;", false)
  | _ => ("java/util/ArrayList", "size", "I", false)
def xt_5 : Nat → FieldType := fun k => match k with
  | 0 => .int
  | 1 => .array (.object "java/lang/Object")
  | _ => .int
theorem xn_5 : ∀ a, a < 3 → ∀ b, b < 3 → a ≠ b → (xT_5 a).2.1 ≠ (xT_5 b).2.1 := by decide +kernel
theorem xo_5 : ∀ k, k < 3 → parseFieldDescriptor (xT_5 k).2.2.1 = some (xt_5 k) := by decide +kernel
abbrev xk_cl : List vw_C := [("Clickbook", xT_0, 13), ("Clickbook$Cue", xT_1, 13), ("Clickbook$Hit", xT_2, 3), ("Clickbook$JoinTable", xT_3, 3), ("Clickbook$Take", xT_4, 5), ("java/util/ArrayList", xT_5, 3)]
/-- the rows' kinds: 0 ints, 1 booleans, 2 objects, 3 the shared empty row -/
def xk_tys (dA : Nat → ClassId) : List (ClassId × FieldType) := [(dA 0, .int), (dA 1, .boolean), (dA 2, .object "java/lang/Object"), (dA 3, .object "java/lang/Object"), (dA 4, .int)]
def xk_nk : Nat := 5
theorem xk_tyk (dA : Nat → ClassId) : ∀ k, k < xk_nk → ∃ ty, (xk_tys dA)[k]? = some (dA k, ty) := fun k hk => by
  match k, hk with
  | 0, _ => exact ⟨_, rfl⟩
  | 1, _ => exact ⟨_, rfl⟩
  | 2, _ => exact ⟨_, rfl⟩
  | 3, _ => exact ⟨_, rfl⟩
  | 4, _ => exact ⟨_, rfl⟩
  | k + 5, h => exact absurd h (by simp [xk_nk])
def xk_T : List Cond := lw_tbl.filter goodWord
theorem xk_in {w : Cond} (h : w ∈ lw_tbl) (g : goodWord w = true) : w ∈ xk_T := List.mem_filter.mpr ⟨h, g⟩
theorem xk_good {w : Cond} (h : w ∈ xk_T) : goodWord w = true := (List.mem_filter.mp h).2
theorem xc_0 : xk_cl[0]? = some ("Clickbook", xT_0, 13) := rfl
theorem xi_0 : ∀ w ∈ u_ws "Clickbook" xT_0 13, w ∈ xk_T := fun w h => (by have q : (u_ws "Clickbook" xT_0 13).all (fun w => decide (w ∈ xk_T)) = true := (by decide +kernel); exact of_decide_eq_true (List.all_eq_true.mp q w h))
theorem xc_1 : xk_cl[1]? = some ("Clickbook$Cue", xT_1, 13) := rfl
theorem xi_1 : ∀ w ∈ u_ws "Clickbook$Cue" xT_1 13, w ∈ xk_T := fun w h => (by have q : (u_ws "Clickbook$Cue" xT_1 13).all (fun w => decide (w ∈ xk_T)) = true := (by decide +kernel); exact of_decide_eq_true (List.all_eq_true.mp q w h))
theorem xc_2 : xk_cl[2]? = some ("Clickbook$Hit", xT_2, 3) := rfl
theorem xi_2 : ∀ w ∈ u_ws "Clickbook$Hit" xT_2 3, w ∈ xk_T := fun w h => (by have q : (u_ws "Clickbook$Hit" xT_2 3).all (fun w => decide (w ∈ xk_T)) = true := (by decide +kernel); exact of_decide_eq_true (List.all_eq_true.mp q w h))
theorem xc_3 : xk_cl[3]? = some ("Clickbook$JoinTable", xT_3, 3) := rfl
theorem xi_3 : ∀ w ∈ u_ws "Clickbook$JoinTable" xT_3 3, w ∈ xk_T := fun w h => (by have q : (u_ws "Clickbook$JoinTable" xT_3 3).all (fun w => decide (w ∈ xk_T)) = true := (by decide +kernel); exact of_decide_eq_true (List.all_eq_true.mp q w h))
theorem xc_4 : xk_cl[4]? = some ("Clickbook$Take", xT_4, 5) := rfl
theorem xi_4 : ∀ w ∈ u_ws "Clickbook$Take" xT_4 5, w ∈ xk_T := fun w h => (by have q : (u_ws "Clickbook$Take" xT_4 5).all (fun w => decide (w ∈ xk_T)) = true := (by decide +kernel); exact of_decide_eq_true (List.all_eq_true.mp q w h))
theorem xc_5 : xk_cl[5]? = some ("java/util/ArrayList", xT_5, 3) := rfl
theorem xi_5 : ∀ w ∈ u_ws "java/util/ArrayList" xT_5 3, w ∈ xk_T := fun w h => (by have q : (u_ws "java/util/ArrayList" xT_5 3).all (fun w => decide (w ∈ xk_T)) = true := (by decide +kernel); exact of_decide_eq_true (List.all_eq_true.mp q w h))
def xk_N (U : State) : Prop := va_AO "java/lang/Object" U ∧ va_Nw (Cond.methodLinkNest "Clickbook$Cue" 57 ⟨"Clickbook", "roundedUp", "(II)I"⟩ "Clickbook") U ∧ va_Nw (Cond.methodLinkNest "Clickbook$Hit" 20 ⟨"Clickbook", "isTakenOut", "(III)Z"⟩ "Clickbook") U ∧ va_Nw (Cond.methodLinkNest "Clickbook$Hit" 26 ⟨"Clickbook", "movedFrame", "(III)I"⟩ "Clickbook") U ∧ va_Nw (Cond.castable "Clickbook" "java/lang/Object") U ∧ va_Nw (Cond.castable "java/util/ArrayList" "java/lang/Object") U ∧ va_Nw (Cond.castable "Clickbook$JoinTable" "java/lang/Object") U ∧ va_Nw (Cond.castable "Clickbook$Hit" "java/lang/Object") U ∧ va_Nw (Cond.castable "Clickbook$Cue" "java/lang/Object") U ∧ va_Nw (Cond.castable "Clickbook$Take" "java/lang/Object") U ∧ va_Nw (Cond.declares ⟨"java/lang/Object", "getClass", "()Ljava/lang/Class;"⟩) U
theorem xk_N.warm {s U : State} (hW : s.WarmedH U.vm) (h : xk_N s) : xk_N U := by
  obtain ⟨h0, h1, h2, h3, h4, h5, h6, h7, h8, h9, h10⟩ := h
  exact ⟨va_AO.moved hW.alike h0, va_Nw.warmM hW h1, va_Nw.warmM hW h2, va_Nw.warmM hW h3, va_Nw.warmC hW h4, va_Nw.warmC hW h5, va_Nw.warmC hW h6, va_Nw.warmC hW h7, va_Nw.warmC hW h8, va_Nw.warmC hW h9, va_Nw.warmD hW h10⟩
theorem xk_N.same {s U : State} (hW : s.vm = U.vm) (h : xk_N s) : xk_N U := by
  obtain ⟨h0, h1, h2, h3, h4, h5, h6, h7, h8, h9, h10⟩ := h
  exact ⟨va_AO.moved (by rw [hW]; exact Vm.Alike.refl _) h0, va_Nw.same rfl hW h1, va_Nw.same rfl hW h2, va_Nw.same rfl hW h3, va_Nw.same rfl hW h4, va_Nw.same rfl hW h5, va_Nw.same rfl hW h6, va_Nw.same rfl hW h7, va_Nw.same rfl hW h8, va_Nw.same rfl hW h9, va_Nw.same rfl hW h10⟩
abbrev xy_X0_init : MethodName := ⟨"Clickbook$Cue", "<init>", "(IIIIII)V"⟩
abbrev xy_X0_setBar : MethodName := ⟨"Clickbook$Cue", "setBar", "(III)V"⟩
abbrev xy_X0_layOut : MethodName := ⟨"Clickbook$Cue", "layOut", "([III)I"⟩
abbrev xy_X0_firstBeat : MethodName := ⟨"Clickbook$Cue", "firstBeat", "(I)I"⟩
abbrev xy_X0_beatFrame : MethodName := ⟨"Clickbook$Cue", "beatFrame", "(I)I"⟩
abbrev xy_X0_end : MethodName := ⟨"Clickbook$Cue", "end", "()I"⟩
abbrev xy_X0_mostNotes : MethodName := ⟨"Clickbook$Cue", "mostNotes", "()I"⟩
abbrev xy_X0_isTouched : MethodName := ⟨"Clickbook$Cue", "isTouched", "(II)Z"⟩
abbrev xy_X0_nearestBeat : MethodName := ⟨"Clickbook$Cue", "nearestBeat", "(I)I"⟩
abbrev xy_X0_missOf : MethodName := ⟨"Clickbook$Cue", "missOf", "(I)I"⟩
abbrev xy_X0_reaches : MethodName := ⟨"Clickbook$Cue", "reaches", "(III[I)Z"⟩
abbrev xy_X1_init : MethodName := ⟨"Clickbook$Hit", "<init>", "(II)V"⟩
abbrev xy_X1_cut : MethodName := ⟨"Clickbook$Hit", "cut", "(II)V"⟩
abbrev xy_X2_init : MethodName := ⟨"Clickbook$JoinTable", "<init>", "()V"⟩
abbrev xy_X2_fill : MethodName := ⟨"Clickbook$JoinTable", "fill", "(LClickbook$Cue;Ljava/util/ArrayList;)V"⟩
abbrev xy_X2_fillBar : MethodName := ⟨"Clickbook$JoinTable", "fillBar", "(I)V"⟩
abbrev xy_X2_bestWorth : MethodName := ⟨"Clickbook$JoinTable", "bestWorth", "()I"⟩
abbrev xy_X2_takeOf : MethodName := ⟨"Clickbook$JoinTable", "takeOf", "(I)I"⟩
abbrev xy_X2_bestPlace : MethodName := ⟨"Clickbook$JoinTable", "bestPlace", "(II)I"⟩
abbrev xy_X2_costOfSplice : MethodName := ⟨"Clickbook$JoinTable", "costOfSplice", "(II)I"⟩
abbrev xy_X2_worthFrom : MethodName := ⟨"Clickbook$JoinTable", "worthFrom", "(II)I"⟩
abbrev xy_X2_slotOf : MethodName := ⟨"Clickbook$JoinTable", "slotOf", "(II)I"⟩
abbrev xy_X3_init : MethodName := ⟨"Clickbook$Take", "<init>", "(ILClickbook$Cue;II)V"⟩
abbrev xy_X3_isValid : MethodName := ⟨"Clickbook$Take", "isValid", "()Z"⟩
abbrev xy_X3_noteOf : MethodName := ⟨"Clickbook$Take", "noteOf", "(I)I"⟩
abbrev xy_X3_sumOfNotes : MethodName := ⟨"Clickbook$Take", "sumOfNotes", "()I"⟩
abbrev xy_X4_init : MethodName := ⟨"Clickbook", "<init>", "()V"⟩
abbrev xy_X4_hit : MethodName := ⟨"Clickbook", "hit", "(II)I"⟩
abbrev xy_X4_theme : MethodName := ⟨"Clickbook", "theme", "(I)I"⟩
abbrev xy_X4_change : MethodName := ⟨"Clickbook", "change", "(II)I"⟩
abbrev xy_X4_cutCues : MethodName := ⟨"Clickbook", "cutCues", "(II)I"⟩
abbrev xy_X4_refuseBadCut : MethodName := ⟨"Clickbook", "refuseBadCut", "(II)V"⟩
abbrev xy_X4_isTakenOut : MethodName := ⟨"Clickbook", "isTakenOut", "(III)Z"⟩
abbrev xy_X4_movedFrame : MethodName := ⟨"Clickbook", "movedFrame", "(III)I"⟩
abbrev xy_X4_cue : MethodName := ⟨"Clickbook", "cue", "(IIIII)I"⟩
abbrev xy_X4_bar : MethodName := ⟨"Clickbook", "bar", "(III)I"⟩
abbrev xy_X4_retime : MethodName := ⟨"Clickbook", "retime", "(IIII)I"⟩
abbrev xy_X4_shift : MethodName := ⟨"Clickbook", "shift", "(II)I"⟩
abbrev xy_X4_cueNumbered : MethodName := ⟨"Clickbook", "cueNumbered", "(I)LClickbook$Cue;"⟩
abbrev xy_X4_refuseNoBar : MethodName := ⟨"Clickbook", "refuseNoBar", "(LClickbook$Cue;I)V"⟩
abbrev xy_X4_refuseBadBar : MethodName := ⟨"Clickbook", "refuseBadBar", "(II)V"⟩
abbrev xy_X4_open : MethodName := ⟨"Clickbook", "open", "(I)I"⟩
abbrev xy_X4_take : MethodName := ⟨"Clickbook", "take", "(III)I"⟩
abbrev xy_X4_close : MethodName := ⟨"Clickbook", "close", "()I"⟩
abbrev xy_X4_roundedUp : MethodName := ⟨"Clickbook", "roundedUp", "(II)I"⟩
abbrev xy_X4_ofHit : MethodName := ⟨"Clickbook", "ofHit", "(II)I"⟩
abbrev xy_X4_ofCue : MethodName := ⟨"Clickbook", "ofCue", "(II)I"⟩
abbrev xy_X4_ofBar : MethodName := ⟨"Clickbook", "ofBar", "(III)I"⟩
abbrev xy_X4_beat : MethodName := ⟨"Clickbook", "beat", "(II)I"⟩
abbrev xy_X4_ofTake : MethodName := ⟨"Clickbook", "ofTake", "(II)I"⟩
abbrev xy_X4_sheet : MethodName := ⟨"Clickbook", "sheet", "(I)I"⟩
abbrev xy_X4_many : MethodName := ⟨"Clickbook", "many", "(I)I"⟩
abbrev xy_X4_meanNote : MethodName := ⟨"Clickbook", "meanNote", "()D"⟩
abbrev xy_X4_nearestCue : MethodName := ⟨"Clickbook", "nearestCue", "(LClickbook$Hit;)I"⟩
abbrev xy_X4_missOf : MethodName := ⟨"Clickbook", "missOf", "(LClickbook$Hit;)I"⟩
abbrev xy_X4_nearestBeat : MethodName := ⟨"Clickbook", "nearestBeat", "(LClickbook$Hit;)I"⟩
abbrev xy_X4_isMet : MethodName := ⟨"Clickbook", "isMet", "(LClickbook$Hit;)Z"⟩
abbrev xy_X4_isMetBut : MethodName := ⟨"Clickbook", "isMetBut", "(LClickbook$Hit;I)Z"⟩
abbrev xy_X4_countMet : MethodName := ⟨"Clickbook", "countMet", "()I"⟩
abbrev xy_X4_countGone : MethodName := ⟨"Clickbook", "countGone", "()I"⟩
abbrev xy_X4_runsOver : MethodName := ⟨"Clickbook", "runsOver", "(LClickbook$Cue;)Z"⟩
abbrev xy_X4_countRunningOver : MethodName := ⟨"Clickbook", "countRunningOver", "()I"⟩
abbrev xy_X4_spoils : MethodName := ⟨"Clickbook", "spoils", "(LClickbook$Cue;)Z"⟩
abbrev xy_X4_countSpoiling : MethodName := ⟨"Clickbook", "countSpoiling", "()I"⟩
abbrev xy_X4_countClashes : MethodName := ⟨"Clickbook", "countClashes", "()I"⟩
abbrev xy_X4_clash : MethodName := ⟨"Clickbook", "clash", "(LClickbook$Cue;LClickbook$Cue;)Z"⟩
abbrev xy_X4_countValid : MethodName := ⟨"Clickbook", "countValid", "(LClickbook$Cue;)I"⟩
abbrev xy_X4_countAllValid : MethodName := ⟨"Clickbook", "countAllValid", "()I"⟩
abbrev xy_X4_secondsOf : MethodName := ⟨"Clickbook", "secondsOf", "(LClickbook$Cue;)I"⟩
abbrev xy_X4_payOf : MethodName := ⟨"Clickbook", "payOf", "(LClickbook$Cue;)I"⟩
abbrev xy_X4_payToAll : MethodName := ⟨"Clickbook", "payToAll", "()I"⟩
abbrev xy_X4_join : MethodName := ⟨"Clickbook", "join", "(I)I"⟩
abbrev xy_X4_bestStart : MethodName := ⟨"Clickbook", "bestStart", "(I)I"⟩
abbrev xy_X4_bestClick : MethodName := ⟨"Clickbook", "bestClick", "(II)I"⟩
abbrev xy_X4_wouldMeet : MethodName := ⟨"Clickbook", "wouldMeet", "(II)I"⟩
abbrev xy_X4_digest : MethodName := ⟨"Clickbook", "digest", "()J"⟩
abbrev xy_X4_mixedCue : MethodName := ⟨"Clickbook", "mixedCue", "(JI)J"⟩
abbrev xy_X4_mixed : MethodName := ⟨"Clickbook", "mixed", "(JJ)J"⟩
abbrev xy_X4_markMetByOthers : MethodName := ⟨"Clickbook", "markMetByOthers", "(I)V"⟩
abbrev xy_X4_countMetWith : MethodName := ⟨"Clickbook", "countMetWith", "(LClickbook$Cue;I[I)I"⟩
abbrev xy_X4_countMetWithClick : MethodName := ⟨"Clickbook", "countMetWithClick", "(LClickbook$Cue;II)I"⟩
abbrev xy_X4_wouldBeMet : MethodName := ⟨"Clickbook", "wouldBeMet", "(LClickbook$Hit;II)Z"⟩
abbrev xy_J9_abs_0f7a4 : MethodName := ⟨"java/lang/Math", "abs", "(I)I"⟩
abbrev xy_J9_max_7cf53 : MethodName := ⟨"java/lang/Math", "max", "(II)I"⟩
abbrev xy_J9_min_7cf53 : MethodName := ⟨"java/lang/Math", "min", "(II)I"⟩
abbrev xy_Jxa1e45_init_da8c8 : MethodName := ⟨"java/util/AbstractCollection", "<init>", "()V"⟩
abbrev xy_Jxc12de_init_da8c8 : MethodName := ⟨"java/util/AbstractList", "<init>", "()V"⟩
abbrev xy_Jx4a65c_init_da8c8 : MethodName := ⟨"java/util/ArrayList", "<init>", "()V"⟩
abbrev xy_Jx4a65c_grow_92f84 : MethodName := ⟨"java/util/ArrayList", "grow", "(I)[Ljava/lang/Object;"⟩
abbrev xy_Jx4a65c_grow_d5877 : MethodName := ⟨"java/util/ArrayList", "grow", "()[Ljava/lang/Object;"⟩
abbrev xy_Jx4a65c_size_8abf5 : MethodName := ⟨"java/util/ArrayList", "size", "()I"⟩
abbrev xy_Jx4a65c_isEmpty_aae02 : MethodName := ⟨"java/util/ArrayList", "isEmpty", "()Z"⟩
abbrev xy_Jx4a65c_elementData_915e3 : MethodName := ⟨"java/util/ArrayList", "elementData", "(I)Ljava/lang/Object;"⟩
abbrev xy_Jx4a65c_get_915e3 : MethodName := ⟨"java/util/ArrayList", "get", "(I)Ljava/lang/Object;"⟩
abbrev xy_Jx4a65c_add_72be8 : MethodName := ⟨"java/util/ArrayList", "add", "(Ljava/lang/Object;[Ljava/lang/Object;I)V"⟩
abbrev xy_Jx4a65c_add_9ea2d : MethodName := ⟨"java/util/ArrayList", "add", "(Ljava/lang/Object;)Z"⟩
abbrev xy_Jx4a65c_clear_da8c8 : MethodName := ⟨"java/util/ArrayList", "clear", "()V"⟩
abbrev xy_J7_copyOf_1904c : MethodName := ⟨"java/util/Arrays", "copyOf", "([Ljava/lang/Object;I)[Ljava/lang/Object;"⟩
abbrev xy_J7_copyOf_6403c : MethodName := ⟨"java/util/Arrays", "copyOf", "([Ljava/lang/Object;ILjava/lang/Class;)[Ljava/lang/Object;"⟩
abbrev xy_J15_checkIndex_7cf53 : MethodName := ⟨"java/util/Objects", "checkIndex", "(II)I"⟩
abbrev xy_J8_newLength_cabcc : MethodName := ⟨"jdk/internal/util/ArraysSupport", "newLength", "(III)I"⟩
abbrev xy_J8_hugeLength_7cf53 : MethodName := ⟨"jdk/internal/util/ArraysSupport", "hugeLength", "(II)I"⟩
abbrev xy_J3_checkIndex_8e157 : MethodName := ⟨"jdk/internal/util/Preconditions", "checkIndex", "(IILjava/util/function/BiFunction;)I"⟩
abbrev xy_L_below : MethodName := ⟨"ClickbookLaw", "below", "(II)I"⟩
abbrev xy_L_cell : MethodName := ⟨"ClickbookLaw", "cell", "([II)I"⟩
abbrev xy_L_law : MethodName := ⟨"ClickbookLaw", "law", "([I)Z"⟩
abbrev xy_L_isBack : MethodName := ⟨"ClickbookLaw", "isBack", "(LClickbook;II)Z"⟩
abbrev xy_L_areWell : MethodName := ⟨"ClickbookLaw", "areWell", "(LClickbook;)Z"⟩
theorem xm_p0 : Cond.selects "java/lang/Throwable" ⟨"java/lang/Throwable", "fillInStackTrace", "(I)Ljava/lang/Throwable;"⟩ ⟨"java/lang/Throwable", "fillInStackTrace", "(I)Ljava/lang/Throwable;"⟩ ∈ xk_T := xk_in (List.mem_of_getElem? (i := 0) (by decide +kernel)) rfl
theorem xm_p1 : Cond.selects "java/util/ArrayList" ⟨"java/util/ArrayList", "add", "(Ljava/lang/Object;[Ljava/lang/Object;I)V"⟩ ⟨"java/util/ArrayList", "add", "(Ljava/lang/Object;[Ljava/lang/Object;I)V"⟩ ∈ xk_T := xk_in (List.mem_of_getElem? (i := 1) (by decide +kernel)) rfl
theorem xm_p2 : Cond.selects "java/util/ArrayList" ⟨"java/util/ArrayList", "grow", "()[Ljava/lang/Object;"⟩ ⟨"java/util/ArrayList", "grow", "()[Ljava/lang/Object;"⟩ ∈ xk_T := xk_in (List.mem_of_getElem? (i := 2) (by decide +kernel)) rfl
theorem xm_p3 : Cond.selects "java/util/ArrayList" ⟨"java/util/ArrayList", "grow", "(I)[Ljava/lang/Object;"⟩ ⟨"java/util/ArrayList", "grow", "(I)[Ljava/lang/Object;"⟩ ∈ xk_T := xk_in (List.mem_of_getElem? (i := 3) (by decide +kernel)) rfl
theorem xm_p4 : Cond.selects "Clickbook" ⟨"Clickbook", "cueNumbered", "(I)LClickbook$Cue;"⟩ ⟨"Clickbook", "cueNumbered", "(I)LClickbook$Cue;"⟩ ∈ xk_T := xk_in (List.mem_of_getElem? (i := 4) (by decide +kernel)) rfl
theorem xm_p5 : Cond.selects "Clickbook" ⟨"Clickbook", "countMet", "()I"⟩ ⟨"Clickbook", "countMet", "()I"⟩ ∈ xk_T := xk_in (List.mem_of_getElem? (i := 5) (by decide +kernel)) rfl
theorem xm_p6 : Cond.selects "Clickbook" ⟨"Clickbook", "isMet", "(LClickbook$Hit;)Z"⟩ ⟨"Clickbook", "isMet", "(LClickbook$Hit;)Z"⟩ ∈ xk_T := xk_in (List.mem_of_getElem? (i := 6) (by decide +kernel)) rfl
theorem xm_p7 : Cond.selects "Clickbook" ⟨"Clickbook", "isMetBut", "(LClickbook$Hit;I)Z"⟩ ⟨"Clickbook", "isMetBut", "(LClickbook$Hit;I)Z"⟩ ∈ xk_T := xk_in (List.mem_of_getElem? (i := 7) (by decide +kernel)) rfl
theorem xm_p8 : Cond.selects "Clickbook" ⟨"Clickbook", "runsOver", "(LClickbook$Cue;)Z"⟩ ⟨"Clickbook", "runsOver", "(LClickbook$Cue;)Z"⟩ ∈ xk_T := xk_in (List.mem_of_getElem? (i := 8) (by decide +kernel)) rfl
theorem xm_p9 : Cond.selects "Clickbook" ⟨"Clickbook", "spoils", "(LClickbook$Cue;)Z"⟩ ⟨"Clickbook", "spoils", "(LClickbook$Cue;)Z"⟩ ∈ xk_T := xk_in (List.mem_of_getElem? (i := 9) (by decide +kernel)) rfl
theorem xm_p10 : Cond.selects "Clickbook" ⟨"Clickbook", "countValid", "(LClickbook$Cue;)I"⟩ ⟨"Clickbook", "countValid", "(LClickbook$Cue;)I"⟩ ∈ xk_T := xk_in (List.mem_of_getElem? (i := 10) (by decide +kernel)) rfl
theorem xm_p11 : Cond.selects "Clickbook" ⟨"Clickbook", "secondsOf", "(LClickbook$Cue;)I"⟩ ⟨"Clickbook", "secondsOf", "(LClickbook$Cue;)I"⟩ ∈ xk_T := xk_in (List.mem_of_getElem? (i := 11) (by decide +kernel)) rfl
theorem xm_p12 : Cond.selects "Clickbook" ⟨"Clickbook", "countGone", "()I"⟩ ⟨"Clickbook", "countGone", "()I"⟩ ∈ xk_T := xk_in (List.mem_of_getElem? (i := 12) (by decide +kernel)) rfl
theorem xm_p13 : Cond.selects "Clickbook" ⟨"Clickbook", "countRunningOver", "()I"⟩ ⟨"Clickbook", "countRunningOver", "()I"⟩ ∈ xk_T := xk_in (List.mem_of_getElem? (i := 13) (by decide +kernel)) rfl
theorem xm_p14 : Cond.selects "Clickbook" ⟨"Clickbook", "countSpoiling", "()I"⟩ ⟨"Clickbook", "countSpoiling", "()I"⟩ ∈ xk_T := xk_in (List.mem_of_getElem? (i := 14) (by decide +kernel)) rfl
theorem xm_p15 : Cond.selects "Clickbook" ⟨"Clickbook", "countClashes", "()I"⟩ ⟨"Clickbook", "countClashes", "()I"⟩ ∈ xk_T := xk_in (List.mem_of_getElem? (i := 15) (by decide +kernel)) rfl
theorem xm_p16 : Cond.selects "Clickbook" ⟨"Clickbook", "countAllValid", "()I"⟩ ⟨"Clickbook", "countAllValid", "()I"⟩ ∈ xk_T := xk_in (List.mem_of_getElem? (i := 16) (by decide +kernel)) rfl
theorem xm_p17 : Cond.selects "Clickbook" ⟨"Clickbook", "payToAll", "()I"⟩ ⟨"Clickbook", "payToAll", "()I"⟩ ∈ xk_T := xk_in (List.mem_of_getElem? (i := 17) (by decide +kernel)) rfl
theorem xm_p18 : Cond.selects "Clickbook" ⟨"Clickbook", "payOf", "(LClickbook$Cue;)I"⟩ ⟨"Clickbook", "payOf", "(LClickbook$Cue;)I"⟩ ∈ xk_T := xk_in (List.mem_of_getElem? (i := 18) (by decide +kernel)) rfl
theorem xm_p19 : Cond.selects "Clickbook$JoinTable" ⟨"Clickbook$JoinTable", "fillBar", "(I)V"⟩ ⟨"Clickbook$JoinTable", "fillBar", "(I)V"⟩ ∈ xk_T := xk_in (List.mem_of_getElem? (i := 19) (by decide +kernel)) rfl
theorem xm_p20 : Cond.selects "Clickbook$JoinTable" ⟨"Clickbook$JoinTable", "bestPlace", "(II)I"⟩ ⟨"Clickbook$JoinTable", "bestPlace", "(II)I"⟩ ∈ xk_T := xk_in (List.mem_of_getElem? (i := 20) (by decide +kernel)) rfl
theorem xm_p21 : Cond.selects "Clickbook$JoinTable" ⟨"Clickbook$JoinTable", "worthFrom", "(II)I"⟩ ⟨"Clickbook$JoinTable", "worthFrom", "(II)I"⟩ ∈ xk_T := xk_in (List.mem_of_getElem? (i := 21) (by decide +kernel)) rfl
theorem xm_p22 : Cond.selects "Clickbook$JoinTable" ⟨"Clickbook$JoinTable", "costOfSplice", "(II)I"⟩ ⟨"Clickbook$JoinTable", "costOfSplice", "(II)I"⟩ ∈ xk_T := xk_in (List.mem_of_getElem? (i := 22) (by decide +kernel)) rfl
theorem xm_p23 : Cond.selects "Clickbook" ⟨"Clickbook", "markMetByOthers", "(I)V"⟩ ⟨"Clickbook", "markMetByOthers", "(I)V"⟩ ∈ xk_T := xk_in (List.mem_of_getElem? (i := 23) (by decide +kernel)) rfl
theorem xm_p24 : Cond.selects "Clickbook" ⟨"Clickbook", "countMetWith", "(LClickbook$Cue;I[I)I"⟩ ⟨"Clickbook", "countMetWith", "(LClickbook$Cue;I[I)I"⟩ ∈ xk_T := xk_in (List.mem_of_getElem? (i := 24) (by decide +kernel)) rfl
theorem xm_p25 : Cond.selects "Clickbook" ⟨"Clickbook", "countMetWithClick", "(LClickbook$Cue;II)I"⟩ ⟨"Clickbook", "countMetWithClick", "(LClickbook$Cue;II)I"⟩ ∈ xk_T := xk_in (List.mem_of_getElem? (i := 25) (by decide +kernel)) rfl
theorem xm_p26 : Cond.selects "Clickbook" ⟨"Clickbook", "refuseBadCut", "(II)V"⟩ ⟨"Clickbook", "refuseBadCut", "(II)V"⟩ ∈ xk_T := xk_in (List.mem_of_getElem? (i := 26) (by decide +kernel)) rfl
theorem xm_p27 : Cond.selects "Clickbook" ⟨"Clickbook", "wouldBeMet", "(LClickbook$Hit;II)Z"⟩ ⟨"Clickbook", "wouldBeMet", "(LClickbook$Hit;II)Z"⟩ ∈ xk_T := xk_in (List.mem_of_getElem? (i := 27) (by decide +kernel)) rfl
theorem xm_p28 : Cond.selects "Clickbook" ⟨"Clickbook", "missOf", "(LClickbook$Hit;)I"⟩ ⟨"Clickbook", "missOf", "(LClickbook$Hit;)I"⟩ ∈ xk_T := xk_in (List.mem_of_getElem? (i := 28) (by decide +kernel)) rfl
theorem xm_p29 : Cond.selects "Clickbook" ⟨"Clickbook", "nearestCue", "(LClickbook$Hit;)I"⟩ ⟨"Clickbook", "nearestCue", "(LClickbook$Hit;)I"⟩ ∈ xk_T := xk_in (List.mem_of_getElem? (i := 29) (by decide +kernel)) rfl
theorem xm_p30 : Cond.selects "Clickbook" ⟨"Clickbook", "nearestBeat", "(LClickbook$Hit;)I"⟩ ⟨"Clickbook", "nearestBeat", "(LClickbook$Hit;)I"⟩ ∈ xk_T := xk_in (List.mem_of_getElem? (i := 30) (by decide +kernel)) rfl
theorem xm_p31 : Cond.selects "Clickbook" ⟨"Clickbook", "mixedCue", "(JI)J"⟩ ⟨"Clickbook", "mixedCue", "(JI)J"⟩ ∈ xk_T := xk_in (List.mem_of_getElem? (i := 31) (by decide +kernel)) rfl
theorem xm_p32 : Cond.selects "Clickbook" ⟨"Clickbook", "cutCues", "(II)I"⟩ ⟨"Clickbook", "cutCues", "(II)I"⟩ ∈ xk_T := xk_in (List.mem_of_getElem? (i := 32) (by decide +kernel)) rfl
theorem xm_0 : Cond.initialized "ClickbookLaw" ∈ xk_T := xk_in (List.mem_of_getElem? (i := 33) (by decide +kernel)) rfl
theorem xm_1 : Cond.initialized "Clickbook" ∈ xk_T := xk_in (List.mem_of_getElem? (i := 34) (by decide +kernel)) rfl
theorem xm_2 : Cond.initialized "java/util/AbstractCollection" ∈ xk_T := xk_in (List.mem_of_getElem? (i := 35) (by decide +kernel)) rfl
theorem xm_3 : Cond.initialized "java/util/AbstractList" ∈ xk_T := xk_in (List.mem_of_getElem? (i := 36) (by decide +kernel)) rfl
theorem xm_4 : Cond.initialized "java/util/ArrayList" ∈ xk_T := xk_in (List.mem_of_getElem? (i := 37) (by decide +kernel)) rfl
theorem xm_5 : Cond.initialized "Clickbook$JoinTable" ∈ xk_T := xk_in (List.mem_of_getElem? (i := 38) (by decide +kernel)) rfl
theorem xm_6 : Cond.initialized "java/lang/Throwable" ∈ xk_T := xk_in (List.mem_of_getElem? (i := 39) (by decide +kernel)) rfl
theorem xm_7 : Cond.initialized "java/lang/Exception" ∈ xk_T := xk_in (List.mem_of_getElem? (i := 40) (by decide +kernel)) rfl
theorem xm_8 : Cond.initialized "java/lang/RuntimeException" ∈ xk_T := xk_in (List.mem_of_getElem? (i := 41) (by decide +kernel)) rfl
theorem xm_9 : Cond.initialized "java/lang/IllegalArgumentException" ∈ xk_T := xk_in (List.mem_of_getElem? (i := 42) (by decide +kernel)) rfl
theorem xm_10 : Cond.initialized "java/lang/IllegalStateException" ∈ xk_T := xk_in (List.mem_of_getElem? (i := 43) (by decide +kernel)) rfl
theorem xm_11 : Cond.initialized "Clickbook$Hit" ∈ xk_T := xk_in (List.mem_of_getElem? (i := 44) (by decide +kernel)) rfl
theorem xm_12 : Cond.initialized "jdk/internal/util/ArraysSupport" ∈ xk_T := xk_in (List.mem_of_getElem? (i := 45) (by decide +kernel)) rfl
theorem xm_13 : Cond.initialized "java/lang/Math" ∈ xk_T := xk_in (List.mem_of_getElem? (i := 46) (by decide +kernel)) rfl
theorem xm_14 : Cond.initialized "java/util/Arrays" ∈ xk_T := xk_in (List.mem_of_getElem? (i := 47) (by decide +kernel)) rfl
theorem xm_15 : Cond.initialized "java/lang/System" ∈ xk_T := xk_in (List.mem_of_getElem? (i := 48) (by decide +kernel)) rfl
theorem xm_16 : Cond.initialized "java/lang/IndexOutOfBoundsException" ∈ xk_T := xk_in (List.mem_of_getElem? (i := 49) (by decide +kernel)) rfl
theorem xm_17 : Cond.initialized "Clickbook$Cue" ∈ xk_T := xk_in (List.mem_of_getElem? (i := 50) (by decide +kernel)) rfl
theorem xm_18 : Cond.initialized "java/util/Objects" ∈ xk_T := xk_in (List.mem_of_getElem? (i := 51) (by decide +kernel)) rfl
theorem xm_19 : Cond.initialized "jdk/internal/util/Preconditions" ∈ xk_T := xk_in (List.mem_of_getElem? (i := 52) (by decide +kernel)) rfl
theorem xm_20 : Cond.initialized "Clickbook$Take" ∈ xk_T := xk_in (List.mem_of_getElem? (i := 53) (by decide +kernel)) rfl
theorem xm_21 : Cond.classLink "ClickbookLaw" 9 "Clickbook" ∈ xk_T := xk_in (List.mem_of_getElem? (i := 54) (by decide +kernel)) rfl
theorem xm_22 : Cond.instantiable "Clickbook" 13 ∈ xk_T := xk_in (List.mem_of_getElem? (i := 55) (by decide +kernel)) rfl
theorem xm_23 : Cond.methodLink "ClickbookLaw" 11 ⟨"Clickbook", "<init>", "()V"⟩ ∈ xk_T := xk_in (List.mem_of_getElem? (i := 56) (by decide +kernel)) rfl
theorem xm_24 : Cond.instanceMethod ⟨"Clickbook", "<init>", "()V"⟩ ∈ xk_T := xk_in (List.mem_of_getElem? (i := 57) (by decide +kernel)) rfl
theorem xm_25 : Cond.code ⟨"Clickbook", "<init>", "()V"⟩ prog_1_method_1_code 1 (Option.none : Option FieldType) ∈ xk_T := xk_in (List.mem_of_getElem? (i := 58) (by decide +kernel)) rfl
theorem xm_26 : Cond.methodLink "Clickbook" 3 ⟨"java/lang/Object", "<init>", "()V"⟩ ∈ xk_T := xk_in (List.mem_of_getElem? (i := 59) (by decide +kernel)) rfl
theorem xm_27 : Cond.instanceMethod ⟨"java/lang/Object", "<init>", "()V"⟩ ∈ xk_T := xk_in (List.mem_of_getElem? (i := 60) (by decide +kernel)) rfl
theorem xm_28 : Cond.code ⟨"java/lang/Object", "<init>", "()V"⟩ object_method_1_code 1 (Option.none : Option FieldType) ∈ xk_T := xk_in (List.mem_of_getElem? (i := 61) (by decide +kernel)) rfl
theorem xm_29 : Cond.classLink "Clickbook" 9 "java/util/ArrayList" ∈ xk_T := xk_in (List.mem_of_getElem? (i := 62) (by decide +kernel)) rfl
theorem xm_30 : Cond.instantiable "java/util/ArrayList" 3 ∈ xk_T := xk_in (List.mem_of_getElem? (i := 63) (by decide +kernel)) rfl
theorem xm_31 : Cond.methodLink "Clickbook" 11 ⟨"java/util/ArrayList", "<init>", "()V"⟩ ∈ xk_T := xk_in (List.mem_of_getElem? (i := 64) (by decide +kernel)) rfl
theorem xm_32 : Cond.instanceMethod ⟨"java/util/ArrayList", "<init>", "()V"⟩ ∈ xk_T := xk_in (List.mem_of_getElem? (i := 65) (by decide +kernel)) rfl
theorem xm_33 : Cond.code ⟨"java/util/ArrayList", "<init>", "()V"⟩ prog_25_method_2_code 1 (Option.none : Option FieldType) ∈ xk_T := xk_in (List.mem_of_getElem? (i := 66) (by decide +kernel)) rfl
theorem xm_34 : Cond.methodLink "java/util/ArrayList" 1 ⟨"java/util/AbstractList", "<init>", "()V"⟩ ∈ xk_T := xk_in (List.mem_of_getElem? (i := 67) (by decide +kernel)) rfl
theorem xm_35 : Cond.instanceMethod ⟨"java/util/AbstractList", "<init>", "()V"⟩ ∈ xk_T := xk_in (List.mem_of_getElem? (i := 68) (by decide +kernel)) rfl
theorem xm_36 : Cond.code ⟨"java/util/AbstractList", "<init>", "()V"⟩ prog_24_method_1_code 1 (Option.none : Option FieldType) ∈ xk_T := xk_in (List.mem_of_getElem? (i := 69) (by decide +kernel)) rfl
theorem xm_37 : Cond.methodLink "java/util/AbstractList" 1 ⟨"java/util/AbstractCollection", "<init>", "()V"⟩ ∈ xk_T := xk_in (List.mem_of_getElem? (i := 70) (by decide +kernel)) rfl
theorem xm_38 : Cond.instanceMethod ⟨"java/util/AbstractCollection", "<init>", "()V"⟩ ∈ xk_T := xk_in (List.mem_of_getElem? (i := 71) (by decide +kernel)) rfl
theorem xm_39 : Cond.code ⟨"java/util/AbstractCollection", "<init>", "()V"⟩ prog_23_method_1_code 1 (Option.none : Option FieldType) ∈ xk_T := xk_in (List.mem_of_getElem? (i := 72) (by decide +kernel)) rfl
theorem xm_40 : Cond.methodLink "java/util/AbstractCollection" 1 ⟨"java/lang/Object", "<init>", "()V"⟩ ∈ xk_T := xk_in (List.mem_of_getElem? (i := 73) (by decide +kernel)) rfl
theorem xm_41 : Cond.fieldLink "java/util/ArrayList" 39 "java/util/ArrayList" "DEFAULTCAPACITY_EMPTY_ELEMENTDATA" "[Ljava/lang/Object;" ∈ xk_T := xk_in (List.mem_of_getElem? (i := 74) (by decide +kernel)) rfl
theorem xm_42 : Cond.laysStatic "java/util/ArrayList" "DEFAULTCAPACITY_EMPTY_ELEMENTDATA" "[Ljava/lang/Object;" ∈ lw_tbl := List.mem_of_getElem? (i := 75) (by decide +kernel)
theorem xm_43 : Cond.fieldLink "java/util/ArrayList" 9 "java/util/ArrayList" "elementData" "[Ljava/lang/Object;" ∈ xk_T := xk_in (List.mem_of_getElem? (i := 76) (by decide +kernel)) rfl
theorem xm_44 : Cond.fieldLink "java/util/ArrayList" 48 "java/util/ArrayList" "size" "I" ∈ xk_T := xk_in (List.mem_of_getElem? (i := 77) (by decide +kernel)) rfl
theorem xm_45 : Cond.fieldLink "java/util/AbstractList" 7 "java/util/AbstractList" "modCount" "I" ∈ xk_T := xk_in (List.mem_of_getElem? (i := 78) (by decide +kernel)) rfl
theorem xm_46 : Cond.fieldLink "java/util/ArrayList" 63 "java/util/ArrayList" "modCount" "I" ∈ xk_T := xk_in (List.mem_of_getElem? (i := 79) (by decide +kernel)) rfl
theorem xm_47 : Cond.sameField "java/util/ArrayList" "java/util/AbstractList" "modCount" "I" ∈ xk_T := xk_in (List.mem_of_getElem? (i := 80) (by decide +kernel)) rfl
theorem xm_54 : Cond.superclass "java/util/ArrayList" "java/util/AbstractList" ∈ xk_T := xk_in (List.mem_of_getElem? (i := 87) (by decide +kernel)) rfl
theorem xm_55 : Cond.classLink "Clickbook" 30 "Clickbook$JoinTable" ∈ xk_T := xk_in (List.mem_of_getElem? (i := 88) (by decide +kernel)) rfl
theorem xm_56 : Cond.instantiable "Clickbook$JoinTable" 3 ∈ xk_T := xk_in (List.mem_of_getElem? (i := 89) (by decide +kernel)) rfl
theorem xm_57 : Cond.methodLink "Clickbook" 32 ⟨"Clickbook$JoinTable", "<init>", "()V"⟩ ∈ xk_T := xk_in (List.mem_of_getElem? (i := 90) (by decide +kernel)) rfl
theorem xm_58 : Cond.instanceMethod ⟨"Clickbook$JoinTable", "<init>", "()V"⟩ ∈ xk_T := xk_in (List.mem_of_getElem? (i := 91) (by decide +kernel)) rfl
theorem xm_59 : Cond.code ⟨"Clickbook$JoinTable", "<init>", "()V"⟩ prog_4_method_1_code 1 (Option.none : Option FieldType) ∈ xk_T := xk_in (List.mem_of_getElem? (i := 92) (by decide +kernel)) rfl
theorem xm_60 : Cond.methodLink "Clickbook$JoinTable" 3 ⟨"java/lang/Object", "<init>", "()V"⟩ ∈ xk_T := xk_in (List.mem_of_getElem? (i := 93) (by decide +kernel)) rfl
theorem xm_61 : Cond.classLink "Clickbook$JoinTable" 9 "java/util/ArrayList" ∈ xk_T := xk_in (List.mem_of_getElem? (i := 94) (by decide +kernel)) rfl
theorem xm_62 : Cond.methodLink "Clickbook$JoinTable" 11 ⟨"java/util/ArrayList", "<init>", "()V"⟩ ∈ xk_T := xk_in (List.mem_of_getElem? (i := 95) (by decide +kernel)) rfl
theorem xm_63 : Cond.fieldLink "Clickbook$JoinTable" 12 "Clickbook$JoinTable" "pool" "Ljava/util/ArrayList;" ∈ xk_T := xk_in (List.mem_of_getElem? (i := 96) (by decide +kernel)) rfl
theorem xm_64 : Cond.fieldLink "Clickbook$JoinTable" 28 "Clickbook$JoinTable" "bars" "I" ∈ xk_T := xk_in (List.mem_of_getElem? (i := 97) (by decide +kernel)) rfl
theorem xm_65 : Cond.fieldLink "Clickbook$JoinTable" 18 "Clickbook$JoinTable" "worths" "[I" ∈ xk_T := xk_in (List.mem_of_getElem? (i := 98) (by decide +kernel)) rfl
theorem xm_72 : Cond.superclass "Clickbook$JoinTable" "java/lang/Object" ∈ xk_T := xk_in (List.mem_of_getElem? (i := 105) (by decide +kernel)) rfl
theorem xm_73 : Cond.arrayClass .int ∈ xk_T := xk_in (List.mem_of_getElem? (i := 106) (by decide +kernel)) rfl
theorem xm_74 : Cond.fieldLink "Clickbook" 12 "Clickbook" "hits" "Ljava/util/ArrayList;" ∈ xk_T := xk_in (List.mem_of_getElem? (i := 107) (by decide +kernel)) rfl
theorem xm_75 : Cond.fieldLink "Clickbook" 16 "Clickbook" "reveals" "[I" ∈ xk_T := xk_in (List.mem_of_getElem? (i := 108) (by decide +kernel)) rfl
theorem xm_76 : Cond.fieldLink "Clickbook" 71 "Clickbook" "themeCount" "I" ∈ xk_T := xk_in (List.mem_of_getElem? (i := 109) (by decide +kernel)) rfl
theorem xm_77 : Cond.fieldLink "Clickbook" 20 "Clickbook" "cues" "Ljava/util/ArrayList;" ∈ xk_T := xk_in (List.mem_of_getElem? (i := 110) (by decide +kernel)) rfl
theorem xm_78 : Cond.fieldLink "Clickbook" 23 "Clickbook" "takes" "Ljava/util/ArrayList;" ∈ xk_T := xk_in (List.mem_of_getElem? (i := 111) (by decide +kernel)) rfl
theorem xm_79 : Cond.fieldLink "Clickbook" 26 "Clickbook" "length" "I" ∈ xk_T := xk_in (List.mem_of_getElem? (i := 112) (by decide +kernel)) rfl
theorem xm_80 : Cond.fieldLink "Clickbook" 79 "Clickbook" "version" "I" ∈ xk_T := xk_in (List.mem_of_getElem? (i := 113) (by decide +kernel)) rfl
theorem xm_81 : Cond.fieldLink "Clickbook" 172 "Clickbook" "band" "I" ∈ xk_T := xk_in (List.mem_of_getElem? (i := 114) (by decide +kernel)) rfl
theorem xm_82 : Cond.fieldLink "Clickbook" 193 "Clickbook" "time" "I" ∈ xk_T := xk_in (List.mem_of_getElem? (i := 115) (by decide +kernel)) rfl
theorem xm_83 : Cond.fieldLink "Clickbook" 210 "Clickbook" "costs" "I" ∈ xk_T := xk_in (List.mem_of_getElem? (i := 116) (by decide +kernel)) rfl
theorem xm_84 : Cond.fieldLink "Clickbook" 33 "Clickbook" "joins" "LClickbook$JoinTable;" ∈ xk_T := xk_in (List.mem_of_getElem? (i := 117) (by decide +kernel)) rfl
theorem xm_85 : Cond.fieldLink "Clickbook" 37 "Clickbook" "trialOffsets" "[I" ∈ xk_T := xk_in (List.mem_of_getElem? (i := 118) (by decide +kernel)) rfl
theorem xm_86 : Cond.fieldLink "Clickbook" 40 "Clickbook" "metByOthers" "[Z" ∈ xk_T := xk_in (List.mem_of_getElem? (i := 119) (by decide +kernel)) rfl
theorem xm_113 : Cond.superclass "Clickbook" "java/lang/Object" ∈ xk_T := xk_in (List.mem_of_getElem? (i := 146) (by decide +kernel)) rfl
theorem xm_114 : Cond.arrayClass .boolean ∈ xk_T := xk_in (List.mem_of_getElem? (i := 147) (by decide +kernel)) rfl
theorem xm_115 : Cond.methodLink "ClickbookLaw" 26 ⟨"Clickbook", "hit", "(II)I"⟩ ∈ xk_T := xk_in (List.mem_of_getElem? (i := 148) (by decide +kernel)) rfl
theorem xm_116 : Cond.instanceMethod ⟨"Clickbook", "hit", "(II)I"⟩ ∈ xk_T := xk_in (List.mem_of_getElem? (i := 149) (by decide +kernel)) rfl
theorem xm_117 : Cond.selects "Clickbook" ⟨"Clickbook", "hit", "(II)I"⟩ ⟨"Clickbook", "hit", "(II)I"⟩ ∈ xk_T := xk_in (List.mem_of_getElem? (i := 150) (by decide +kernel)) rfl
theorem xm_118 : Cond.code ⟨"Clickbook", "hit", "(II)I"⟩ prog_1_method_2_code 3 (Option.some .int) ∈ xk_T := xk_in (List.mem_of_getElem? (i := 151) (by decide +kernel)) rfl
theorem xm_119 : Cond.classLink "Clickbook" 44 "java/lang/IllegalArgumentException" ∈ xk_T := xk_in (List.mem_of_getElem? (i := 152) (by decide +kernel)) rfl
theorem xm_120 : Cond.instantiable "java/lang/IllegalArgumentException" 6 ∈ xk_T := xk_in (List.mem_of_getElem? (i := 153) (by decide +kernel)) rfl
theorem xm_121 : Cond.castable "java/lang/IllegalArgumentException" "java/lang/IllegalArgumentException" ∈ lw_tbl := List.mem_of_getElem? (i := 154) (by decide +kernel)
theorem xm_122 : Cond.declares ⟨"java/lang/RuntimeException", "<init>", "()V"⟩ ∈ lw_tbl := List.mem_of_getElem? (i := 155) (by decide +kernel)
theorem xm_123 : Cond.declares ⟨"java/lang/RuntimeException", "<init>", "(Ljava/lang/String;)V"⟩ ∈ lw_tbl := List.mem_of_getElem? (i := 156) (by decide +kernel)
theorem xm_124 : Cond.declares ⟨"java/lang/Exception", "<init>", "()V"⟩ ∈ lw_tbl := List.mem_of_getElem? (i := 157) (by decide +kernel)
theorem xm_125 : Cond.declares ⟨"java/lang/Exception", "<init>", "(Ljava/lang/String;)V"⟩ ∈ lw_tbl := List.mem_of_getElem? (i := 158) (by decide +kernel)
theorem xm_126 : Cond.declares ⟨"java/lang/Throwable", "<init>", "()V"⟩ ∈ lw_tbl := List.mem_of_getElem? (i := 159) (by decide +kernel)
theorem xm_127 : Cond.declares ⟨"java/lang/Throwable", "<init>", "(Ljava/lang/String;)V"⟩ ∈ lw_tbl := List.mem_of_getElem? (i := 160) (by decide +kernel)
theorem xm_128 : Cond.selects "java/lang/IllegalArgumentException" ⟨"java/lang/Throwable", "fillInStackTrace", "(I)Ljava/lang/Throwable;"⟩ ⟨"java/lang/Throwable", "fillInStackTrace", "(I)Ljava/lang/Throwable;"⟩ ∈ xk_T := xk_in (List.mem_of_getElem? (i := 161) (by decide +kernel)) rfl
theorem xm_129 : Cond.selects "java/lang/IllegalArgumentException" ⟨"java/lang/Throwable", "fillInStackTrace", "()Ljava/lang/Throwable;"⟩ ⟨"java/lang/Throwable", "fillInStackTrace", "()Ljava/lang/Throwable;"⟩ ∈ xk_T := xk_in (List.mem_of_getElem? (i := 162) (by decide +kernel)) rfl
theorem xm_140 : Cond.fieldLink "java/lang/Throwable" 198 "java/lang/Throwable" "backtrace" "Ljava/lang/Object;" ∈ xk_T := xk_in (List.mem_of_getElem? (i := 173) (by decide +kernel)) rfl
theorem xm_141 : Cond.superclass "java/lang/Throwable" "java/lang/Object" ∈ xk_T := xk_in (List.mem_of_getElem? (i := 174) (by decide +kernel)) rfl
theorem xm_142 : Cond.instanceMethod ⟨"java/lang/Throwable", "<init>", "()V"⟩ ∈ xk_T := xk_in (List.mem_of_getElem? (i := 175) (by decide +kernel)) rfl
theorem xm_143 : Cond.code ⟨"java/lang/Throwable", "<init>", "()V"⟩ prog_22_method_1_code 1 (Option.none : Option FieldType) ∈ xk_T := xk_in (List.mem_of_getElem? (i := 176) (by decide +kernel)) rfl
theorem xm_144 : Cond.methodLink "java/lang/Throwable" 1 ⟨"java/lang/Object", "<init>", "()V"⟩ ∈ xk_T := xk_in (List.mem_of_getElem? (i := 177) (by decide +kernel)) rfl
theorem xm_145 : Cond.fieldLink "java/lang/Throwable" 13 "java/lang/Throwable" "UNASSIGNED_STACK" "[Ljava/lang/StackTraceElement;" ∈ xk_T := xk_in (List.mem_of_getElem? (i := 178) (by decide +kernel)) rfl
theorem xm_146 : Cond.laysStatic "java/lang/Throwable" "UNASSIGNED_STACK" "[Ljava/lang/StackTraceElement;" ∈ lw_tbl := List.mem_of_getElem? (i := 179) (by decide +kernel)
theorem xm_147 : Cond.fieldLink "java/lang/Throwable" 20 "java/lang/Throwable" "SUPPRESSED_SENTINEL" "Ljava/util/List;" ∈ xk_T := xk_in (List.mem_of_getElem? (i := 180) (by decide +kernel)) rfl
theorem xm_148 : Cond.laysStatic "java/lang/Throwable" "SUPPRESSED_SENTINEL" "Ljava/util/List;" ∈ lw_tbl := List.mem_of_getElem? (i := 181) (by decide +kernel)
theorem xm_149 : Cond.methodLink "java/lang/Throwable" 27 ⟨"java/lang/Throwable", "fillInStackTrace", "()Ljava/lang/Throwable;"⟩ ∈ xk_T := xk_in (List.mem_of_getElem? (i := 182) (by decide +kernel)) rfl
theorem xm_150 : Cond.instanceMethod ⟨"java/lang/Throwable", "fillInStackTrace", "()Ljava/lang/Throwable;"⟩ ∈ xk_T := xk_in (List.mem_of_getElem? (i := 183) (by decide +kernel)) rfl
theorem xm_151 : Cond.sameMethod "java/lang/Throwable" "java/lang/Throwable" "fillInStackTrace" "()Ljava/lang/Throwable;" ∈ xk_T := xk_in (List.mem_of_getElem? (i := 184) (by decide +kernel)) rfl
theorem xm_152 : Cond.selects "java/lang/IllegalStateException" ⟨"java/lang/Throwable", "fillInStackTrace", "()Ljava/lang/Throwable;"⟩ ⟨"java/lang/Throwable", "fillInStackTrace", "()Ljava/lang/Throwable;"⟩ ∈ xk_T := xk_in (List.mem_of_getElem? (i := 185) (by decide +kernel)) rfl
theorem xm_153 : Cond.selects "java/lang/IndexOutOfBoundsException" ⟨"java/lang/Throwable", "fillInStackTrace", "()Ljava/lang/Throwable;"⟩ ⟨"java/lang/Throwable", "fillInStackTrace", "()Ljava/lang/Throwable;"⟩ ∈ xk_T := xk_in (List.mem_of_getElem? (i := 186) (by decide +kernel)) rfl
theorem xm_155 : Cond.methodLink "java/lang/Throwable" 202 ⟨"java/lang/Throwable", "fillInStackTrace", "(I)Ljava/lang/Throwable;"⟩ ∈ xk_T := xk_in (List.mem_of_getElem? (i := 188) (by decide +kernel)) rfl
theorem xm_157 : Cond.instanceMethod ⟨"java/lang/Throwable", "fillInStackTrace", "(I)Ljava/lang/Throwable;"⟩ ∈ xk_T := xk_in (List.mem_of_getElem? (i := 190) (by decide +kernel)) rfl
theorem xm_158 : Cond.instantiable "java/lang/Throwable" 6 ∈ xk_T := xk_in (List.mem_of_getElem? (i := 191) (by decide +kernel)) rfl
theorem xm_159 : Cond.native ⟨"java/lang/Throwable", "fillInStackTrace", "(I)Ljava/lang/Throwable;"⟩ ∈ xk_T := xk_in (List.mem_of_getElem? (i := 192) (by decide +kernel)) rfl
theorem xm_161 : Cond.methodLink "Clickbook" 48 ⟨"java/lang/IllegalArgumentException", "<init>", "(Ljava/lang/String;)V"⟩ ∈ xk_T := xk_in (List.mem_of_getElem? (i := 194) (by decide +kernel)) rfl
theorem xm_162 : Cond.instanceMethod ⟨"java/lang/IllegalArgumentException", "<init>", "(Ljava/lang/String;)V"⟩ ∈ xk_T := xk_in (List.mem_of_getElem? (i := 195) (by decide +kernel)) rfl
theorem xm_163 : Cond.code ⟨"java/lang/IllegalArgumentException", "<init>", "(Ljava/lang/String;)V"⟩ prog_14_method_2_code 2 (Option.none : Option FieldType) ∈ xk_T := xk_in (List.mem_of_getElem? (i := 196) (by decide +kernel)) rfl
theorem xm_164 : Cond.methodLink "java/lang/IllegalArgumentException" 7 ⟨"java/lang/RuntimeException", "<init>", "(Ljava/lang/String;)V"⟩ ∈ xk_T := xk_in (List.mem_of_getElem? (i := 197) (by decide +kernel)) rfl
theorem xm_165 : Cond.instanceMethod ⟨"java/lang/RuntimeException", "<init>", "(Ljava/lang/String;)V"⟩ ∈ xk_T := xk_in (List.mem_of_getElem? (i := 198) (by decide +kernel)) rfl
theorem xm_166 : Cond.code ⟨"java/lang/RuntimeException", "<init>", "(Ljava/lang/String;)V"⟩ prog_19_method_2_code 2 (Option.none : Option FieldType) ∈ xk_T := xk_in (List.mem_of_getElem? (i := 199) (by decide +kernel)) rfl
theorem xm_167 : Cond.methodLink "java/lang/RuntimeException" 7 ⟨"java/lang/Exception", "<init>", "(Ljava/lang/String;)V"⟩ ∈ xk_T := xk_in (List.mem_of_getElem? (i := 200) (by decide +kernel)) rfl
theorem xm_168 : Cond.instanceMethod ⟨"java/lang/Exception", "<init>", "(Ljava/lang/String;)V"⟩ ∈ xk_T := xk_in (List.mem_of_getElem? (i := 201) (by decide +kernel)) rfl
theorem xm_169 : Cond.code ⟨"java/lang/Exception", "<init>", "(Ljava/lang/String;)V"⟩ prog_13_method_2_code 2 (Option.none : Option FieldType) ∈ xk_T := xk_in (List.mem_of_getElem? (i := 202) (by decide +kernel)) rfl
theorem xm_170 : Cond.methodLink "java/lang/Exception" 7 ⟨"java/lang/Throwable", "<init>", "(Ljava/lang/String;)V"⟩ ∈ xk_T := xk_in (List.mem_of_getElem? (i := 203) (by decide +kernel)) rfl
theorem xm_171 : Cond.instanceMethod ⟨"java/lang/Throwable", "<init>", "(Ljava/lang/String;)V"⟩ ∈ xk_T := xk_in (List.mem_of_getElem? (i := 204) (by decide +kernel)) rfl
theorem xm_172 : Cond.code ⟨"java/lang/Throwable", "<init>", "(Ljava/lang/String;)V"⟩ prog_22_method_2_code 2 (Option.none : Option FieldType) ∈ xk_T := xk_in (List.mem_of_getElem? (i := 205) (by decide +kernel)) rfl
theorem xm_173 : Cond.fieldLink "java/lang/Throwable" 198 "java/lang/Throwable" "backtrace" "Ljava/lang/Object;" ∈ xk_T := xk_in (List.mem_of_getElem? (i := 206) (by decide +kernel)) rfl
theorem xm_174 : Cond.fieldLink "java/lang/Throwable" 31 "java/lang/Throwable" "detailMessage" "Ljava/lang/String;" ∈ xk_T := xk_in (List.mem_of_getElem? (i := 207) (by decide +kernel)) rfl
theorem xm_175 : Cond.fieldLink "java/lang/Throwable" 7 "java/lang/Throwable" "cause" "Ljava/lang/Throwable;" ∈ xk_T := xk_in (List.mem_of_getElem? (i := 208) (by decide +kernel)) rfl
theorem xm_176 : Cond.fieldLink "java/lang/Throwable" 17 "java/lang/Throwable" "stackTrace" "[Ljava/lang/StackTraceElement;" ∈ xk_T := xk_in (List.mem_of_getElem? (i := 209) (by decide +kernel)) rfl
theorem xm_177 : Cond.fieldLink "java/lang/Throwable" 24 "java/lang/Throwable" "suppressedExceptions" "Ljava/util/List;" ∈ xk_T := xk_in (List.mem_of_getElem? (i := 210) (by decide +kernel)) rfl
theorem xm_185 : Cond.superclass "java/lang/IllegalArgumentException" "java/lang/RuntimeException" ∈ xk_T := xk_in (List.mem_of_getElem? (i := 218) (by decide +kernel)) rfl
theorem xm_186 : Cond.arrayClass .byte ∈ xk_T := xk_in (List.mem_of_getElem? (i := 219) (by decide +kernel)) rfl
theorem xm_187 : Cond.methodLink "Clickbook" 51 ⟨"java/util/ArrayList", "size", "()I"⟩ ∈ xk_T := xk_in (List.mem_of_getElem? (i := 220) (by decide +kernel)) rfl
theorem xm_188 : Cond.instanceMethod ⟨"java/util/ArrayList", "size", "()I"⟩ ∈ xk_T := xk_in (List.mem_of_getElem? (i := 221) (by decide +kernel)) rfl
theorem xm_189 : Cond.selects "java/util/ArrayList" ⟨"java/util/ArrayList", "size", "()I"⟩ ⟨"java/util/ArrayList", "size", "()I"⟩ ∈ xk_T := xk_in (List.mem_of_getElem? (i := 222) (by decide +kernel)) rfl
theorem xm_190 : Cond.code ⟨"java/util/ArrayList", "size", "()I"⟩ prog_25_method_8_code 1 (Option.some .int) ∈ xk_T := xk_in (List.mem_of_getElem? (i := 223) (by decide +kernel)) rfl
theorem xm_191 : Cond.classLink "Clickbook" 55 "java/lang/IllegalStateException" ∈ xk_T := xk_in (List.mem_of_getElem? (i := 224) (by decide +kernel)) rfl
theorem xm_192 : Cond.instantiable "java/lang/IllegalStateException" 6 ∈ xk_T := xk_in (List.mem_of_getElem? (i := 225) (by decide +kernel)) rfl
theorem xm_193 : Cond.castable "java/lang/IllegalStateException" "java/lang/IllegalStateException" ∈ lw_tbl := List.mem_of_getElem? (i := 226) (by decide +kernel)
theorem xm_194 : Cond.selects "java/lang/IllegalStateException" ⟨"java/lang/Throwable", "fillInStackTrace", "(I)Ljava/lang/Throwable;"⟩ ⟨"java/lang/Throwable", "fillInStackTrace", "(I)Ljava/lang/Throwable;"⟩ ∈ xk_T := xk_in (List.mem_of_getElem? (i := 227) (by decide +kernel)) rfl
theorem xm_201 : Cond.methodLink "Clickbook" 59 ⟨"java/lang/IllegalStateException", "<init>", "(Ljava/lang/String;)V"⟩ ∈ xk_T := xk_in (List.mem_of_getElem? (i := 234) (by decide +kernel)) rfl
theorem xm_202 : Cond.instanceMethod ⟨"java/lang/IllegalStateException", "<init>", "(Ljava/lang/String;)V"⟩ ∈ xk_T := xk_in (List.mem_of_getElem? (i := 235) (by decide +kernel)) rfl
theorem xm_203 : Cond.code ⟨"java/lang/IllegalStateException", "<init>", "(Ljava/lang/String;)V"⟩ prog_15_method_2_code 2 (Option.none : Option FieldType) ∈ xk_T := xk_in (List.mem_of_getElem? (i := 236) (by decide +kernel)) rfl
theorem xm_204 : Cond.methodLink "java/lang/IllegalStateException" 7 ⟨"java/lang/RuntimeException", "<init>", "(Ljava/lang/String;)V"⟩ ∈ xk_T := xk_in (List.mem_of_getElem? (i := 237) (by decide +kernel)) rfl
theorem xm_206 : Cond.superclass "java/lang/IllegalStateException" "java/lang/RuntimeException" ∈ xk_T := xk_in (List.mem_of_getElem? (i := 239) (by decide +kernel)) rfl
theorem xm_207 : Cond.classLink "Clickbook" 60 "Clickbook$Hit" ∈ xk_T := xk_in (List.mem_of_getElem? (i := 240) (by decide +kernel)) rfl
theorem xm_208 : Cond.instantiable "Clickbook$Hit" 3 ∈ xk_T := xk_in (List.mem_of_getElem? (i := 241) (by decide +kernel)) rfl
theorem xm_209 : Cond.methodLink "Clickbook" 62 ⟨"Clickbook$Hit", "<init>", "(II)V"⟩ ∈ xk_T := xk_in (List.mem_of_getElem? (i := 242) (by decide +kernel)) rfl
theorem xm_210 : Cond.instanceMethod ⟨"Clickbook$Hit", "<init>", "(II)V"⟩ ∈ xk_T := xk_in (List.mem_of_getElem? (i := 243) (by decide +kernel)) rfl
theorem xm_211 : Cond.code ⟨"Clickbook$Hit", "<init>", "(II)V"⟩ prog_3_method_1_code 3 (Option.none : Option FieldType) ∈ xk_T := xk_in (List.mem_of_getElem? (i := 244) (by decide +kernel)) rfl
theorem xm_212 : Cond.methodLink "Clickbook$Hit" 1 ⟨"java/lang/Object", "<init>", "()V"⟩ ∈ xk_T := xk_in (List.mem_of_getElem? (i := 245) (by decide +kernel)) rfl
theorem xm_213 : Cond.fieldLink "Clickbook$Hit" 7 "Clickbook$Hit" "frame" "I" ∈ xk_T := xk_in (List.mem_of_getElem? (i := 246) (by decide +kernel)) rfl
theorem xm_214 : Cond.fieldLink "Clickbook" 215 "Clickbook$Hit" "frame" "I" ∈ xk_T := xk_in (List.mem_of_getElem? (i := 247) (by decide +kernel)) rfl
theorem xm_215 : Cond.fieldLink "Clickbook$Hit" 13 "Clickbook$Hit" "tolerance" "I" ∈ xk_T := xk_in (List.mem_of_getElem? (i := 248) (by decide +kernel)) rfl
theorem xm_216 : Cond.fieldLink "Clickbook" 218 "Clickbook$Hit" "tolerance" "I" ∈ xk_T := xk_in (List.mem_of_getElem? (i := 249) (by decide +kernel)) rfl
theorem xm_217 : Cond.fieldLink "Clickbook$Hit" 16 "Clickbook$Hit" "gone" "Z" ∈ xk_T := xk_in (List.mem_of_getElem? (i := 250) (by decide +kernel)) rfl
theorem xm_218 : Cond.fieldLink "Clickbook" 221 "Clickbook$Hit" "gone" "Z" ∈ xk_T := xk_in (List.mem_of_getElem? (i := 251) (by decide +kernel)) rfl
theorem xm_225 : Cond.superclass "Clickbook$Hit" "java/lang/Object" ∈ xk_T := xk_in (List.mem_of_getElem? (i := 258) (by decide +kernel)) rfl
theorem xm_226 : Cond.methodLink "Clickbook" 65 ⟨"java/util/ArrayList", "add", "(Ljava/lang/Object;)Z"⟩ ∈ xk_T := xk_in (List.mem_of_getElem? (i := 259) (by decide +kernel)) rfl
theorem xm_227 : Cond.instanceMethod ⟨"java/util/ArrayList", "add", "(Ljava/lang/Object;)Z"⟩ ∈ xk_T := xk_in (List.mem_of_getElem? (i := 260) (by decide +kernel)) rfl
theorem xm_228 : Cond.selects "java/util/ArrayList" ⟨"java/util/ArrayList", "add", "(Ljava/lang/Object;)Z"⟩ ⟨"java/util/ArrayList", "add", "(Ljava/lang/Object;)Z"⟩ ∈ xk_T := xk_in (List.mem_of_getElem? (i := 261) (by decide +kernel)) rfl
theorem xm_229 : Cond.code ⟨"java/util/ArrayList", "add", "(Ljava/lang/Object;)Z"⟩ prog_25_method_25_code 2 (Option.some .boolean) ∈ xk_T := xk_in (List.mem_of_getElem? (i := 262) (by decide +kernel)) rfl
theorem xm_230 : Cond.methodLink "java/util/ArrayList" 131 ⟨"java/util/ArrayList", "add", "(Ljava/lang/Object;[Ljava/lang/Object;I)V"⟩ ∈ xk_T := xk_in (List.mem_of_getElem? (i := 263) (by decide +kernel)) rfl
theorem xm_232 : Cond.instanceMethod ⟨"java/util/ArrayList", "add", "(Ljava/lang/Object;[Ljava/lang/Object;I)V"⟩ ∈ xk_T := xk_in (List.mem_of_getElem? (i := 265) (by decide +kernel)) rfl
theorem xm_233 : Cond.code ⟨"java/util/ArrayList", "add", "(Ljava/lang/Object;[Ljava/lang/Object;I)V"⟩ prog_25_method_24_code 4 (Option.none : Option FieldType) ∈ xk_T := xk_in (List.mem_of_getElem? (i := 266) (by decide +kernel)) rfl
theorem xm_234 : Cond.methodLink "java/util/ArrayList" 129 ⟨"java/util/ArrayList", "grow", "()[Ljava/lang/Object;"⟩ ∈ xk_T := xk_in (List.mem_of_getElem? (i := 267) (by decide +kernel)) rfl
theorem xm_236 : Cond.instanceMethod ⟨"java/util/ArrayList", "grow", "()[Ljava/lang/Object;"⟩ ∈ xk_T := xk_in (List.mem_of_getElem? (i := 269) (by decide +kernel)) rfl
theorem xm_237 : Cond.code ⟨"java/util/ArrayList", "grow", "()[Ljava/lang/Object;"⟩ prog_25_method_7_code 1 (Option.some (.array (.object "java/lang/Object"))) ∈ xk_T := xk_in (List.mem_of_getElem? (i := 270) (by decide +kernel)) rfl
theorem xm_238 : Cond.methodLink "java/util/ArrayList" 69 ⟨"java/util/ArrayList", "grow", "(I)[Ljava/lang/Object;"⟩ ∈ xk_T := xk_in (List.mem_of_getElem? (i := 271) (by decide +kernel)) rfl
theorem xm_240 : Cond.instanceMethod ⟨"java/util/ArrayList", "grow", "(I)[Ljava/lang/Object;"⟩ ∈ xk_T := xk_in (List.mem_of_getElem? (i := 273) (by decide +kernel)) rfl
theorem xm_241 : Cond.code ⟨"java/util/ArrayList", "grow", "(I)[Ljava/lang/Object;"⟩ prog_25_method_6_code 4 (Option.some (.array (.object "java/lang/Object"))) ∈ xk_T := xk_in (List.mem_of_getElem? (i := 274) (by decide +kernel)) rfl
theorem xm_242 : Cond.methodLink "java/util/ArrayList" 73 ⟨"jdk/internal/util/ArraysSupport", "newLength", "(III)I"⟩ ∈ xk_T := xk_in (List.mem_of_getElem? (i := 275) (by decide +kernel)) rfl
theorem xm_243 : Cond.static ⟨"jdk/internal/util/ArraysSupport", "newLength", "(III)I"⟩ ∈ xk_T := xk_in (List.mem_of_getElem? (i := 276) (by decide +kernel)) rfl
theorem xm_244 : Cond.code ⟨"jdk/internal/util/ArraysSupport", "newLength", "(III)I"⟩ prog_32_method_27_code 4 (Option.some .int) ∈ xk_T := xk_in (List.mem_of_getElem? (i := 277) (by decide +kernel)) rfl
theorem xm_245 : Cond.methodLink "jdk/internal/util/ArraysSupport" 194 ⟨"java/lang/Math", "max", "(II)I"⟩ ∈ xk_T := xk_in (List.mem_of_getElem? (i := 278) (by decide +kernel)) rfl
theorem xm_246 : Cond.static ⟨"java/lang/Math", "max", "(II)I"⟩ ∈ xk_T := xk_in (List.mem_of_getElem? (i := 279) (by decide +kernel)) rfl
theorem xm_247 : Cond.code ⟨"java/lang/Math", "max", "(II)I"⟩ prog_18_method_65_code 2 (Option.some .int) ∈ xk_T := xk_in (List.mem_of_getElem? (i := 280) (by decide +kernel)) rfl
theorem xm_248 : Cond.constant "jdk/internal/util/ArraysSupport" 200 2147483639 ∈ xk_T := xk_in (List.mem_of_getElem? (i := 281) (by decide +kernel)) rfl
theorem xm_249 : Cond.methodLink "jdk/internal/util/ArraysSupport" 201 ⟨"jdk/internal/util/ArraysSupport", "hugeLength", "(II)I"⟩ ∈ xk_T := xk_in (List.mem_of_getElem? (i := 282) (by decide +kernel)) rfl
theorem xm_250 : Cond.static ⟨"jdk/internal/util/ArraysSupport", "hugeLength", "(II)I"⟩ ∈ xk_T := xk_in (List.mem_of_getElem? (i := 283) (by decide +kernel)) rfl
theorem xm_251 : Cond.code ⟨"jdk/internal/util/ArraysSupport", "hugeLength", "(II)I"⟩ prog_32_method_28_code 3 (Option.some .int) ∈ xk_T := xk_in (List.mem_of_getElem? (i := 284) (by decide +kernel)) rfl
theorem xm_252 : Cond.methodLink "java/util/ArrayList" 66 ⟨"java/util/Arrays", "copyOf", "([Ljava/lang/Object;I)[Ljava/lang/Object;"⟩ ∈ xk_T := xk_in (List.mem_of_getElem? (i := 285) (by decide +kernel)) rfl
theorem xm_253 : Cond.static ⟨"java/util/Arrays", "copyOf", "([Ljava/lang/Object;I)[Ljava/lang/Object;"⟩ ∈ xk_T := xk_in (List.mem_of_getElem? (i := 286) (by decide +kernel)) rfl
theorem xm_254 : Cond.code ⟨"java/util/Arrays", "copyOf", "([Ljava/lang/Object;I)[Ljava/lang/Object;"⟩ prog_26_method_119_code 2 (Option.some (.array (.object "java/lang/Object"))) ∈ xk_T := xk_in (List.mem_of_getElem? (i := 287) (by decide +kernel)) rfl
theorem xm_255 : Cond.methodLink "java/util/Arrays" 86 ⟨"java/lang/Object", "getClass", "()Ljava/lang/Class;"⟩ ∈ xk_T := xk_in (List.mem_of_getElem? (i := 288) (by decide +kernel)) rfl
theorem xm_256 : Cond.instanceMethod ⟨"java/lang/Object", "getClass", "()Ljava/lang/Class;"⟩ ∈ xk_T := xk_in (List.mem_of_getElem? (i := 289) (by decide +kernel)) rfl
theorem xm_257 : Cond.sameMethod "java/lang/Object" "java/lang/Object" "getClass" "()Ljava/lang/Class;" ∈ xk_T := xk_in (List.mem_of_getElem? (i := 290) (by decide +kernel)) rfl
theorem xm_258 : Cond.selects "Clickbook" ⟨"java/lang/Object", "getClass", "()Ljava/lang/Class;"⟩ ⟨"java/lang/Object", "getClass", "()Ljava/lang/Class;"⟩ ∈ xk_T := xk_in (List.mem_of_getElem? (i := 291) (by decide +kernel)) rfl
theorem xm_259 : Cond.selects "Clickbook$Cue" ⟨"java/lang/Object", "getClass", "()Ljava/lang/Class;"⟩ ⟨"java/lang/Object", "getClass", "()Ljava/lang/Class;"⟩ ∈ xk_T := xk_in (List.mem_of_getElem? (i := 292) (by decide +kernel)) rfl
theorem xm_260 : Cond.selects "Clickbook$Hit" ⟨"java/lang/Object", "getClass", "()Ljava/lang/Class;"⟩ ⟨"java/lang/Object", "getClass", "()Ljava/lang/Class;"⟩ ∈ xk_T := xk_in (List.mem_of_getElem? (i := 293) (by decide +kernel)) rfl
theorem xm_261 : Cond.selects "Clickbook$JoinTable" ⟨"java/lang/Object", "getClass", "()Ljava/lang/Class;"⟩ ⟨"java/lang/Object", "getClass", "()Ljava/lang/Class;"⟩ ∈ xk_T := xk_in (List.mem_of_getElem? (i := 294) (by decide +kernel)) rfl
theorem xm_262 : Cond.selects "Clickbook$Take" ⟨"java/lang/Object", "getClass", "()Ljava/lang/Class;"⟩ ⟨"java/lang/Object", "getClass", "()Ljava/lang/Class;"⟩ ∈ xk_T := xk_in (List.mem_of_getElem? (i := 295) (by decide +kernel)) rfl
theorem xm_263 : Cond.selects "java/lang/IllegalArgumentException" ⟨"java/lang/Object", "getClass", "()Ljava/lang/Class;"⟩ ⟨"java/lang/Object", "getClass", "()Ljava/lang/Class;"⟩ ∈ xk_T := xk_in (List.mem_of_getElem? (i := 296) (by decide +kernel)) rfl
theorem xm_264 : Cond.selects "java/lang/IllegalStateException" ⟨"java/lang/Object", "getClass", "()Ljava/lang/Class;"⟩ ⟨"java/lang/Object", "getClass", "()Ljava/lang/Class;"⟩ ∈ xk_T := xk_in (List.mem_of_getElem? (i := 297) (by decide +kernel)) rfl
theorem xm_265 : Cond.selects "java/lang/IndexOutOfBoundsException" ⟨"java/lang/Object", "getClass", "()Ljava/lang/Class;"⟩ ⟨"java/lang/Object", "getClass", "()Ljava/lang/Class;"⟩ ∈ xk_T := xk_in (List.mem_of_getElem? (i := 298) (by decide +kernel)) rfl
theorem xm_266 : Cond.selects "java/util/ArrayList" ⟨"java/lang/Object", "getClass", "()Ljava/lang/Class;"⟩ ⟨"java/lang/Object", "getClass", "()Ljava/lang/Class;"⟩ ∈ xk_T := xk_in (List.mem_of_getElem? (i := 299) (by decide +kernel)) rfl
theorem xm_267 : Cond.native ⟨"java/lang/Object", "getClass", "()Ljava/lang/Class;"⟩ ∈ xk_T := xk_in (List.mem_of_getElem? (i := 300) (by decide +kernel)) rfl
theorem xm_268 : Cond.methodLink "java/util/Arrays" 300 ⟨"java/util/Arrays", "copyOf", "([Ljava/lang/Object;ILjava/lang/Class;)[Ljava/lang/Object;"⟩ ∈ xk_T := xk_in (List.mem_of_getElem? (i := 301) (by decide +kernel)) rfl
theorem xm_269 : Cond.static ⟨"java/util/Arrays", "copyOf", "([Ljava/lang/Object;ILjava/lang/Class;)[Ljava/lang/Object;"⟩ ∈ xk_T := xk_in (List.mem_of_getElem? (i := 302) (by decide +kernel)) rfl
theorem xm_270 : Cond.code ⟨"java/util/Arrays", "copyOf", "([Ljava/lang/Object;ILjava/lang/Class;)[Ljava/lang/Object;"⟩ prog_26_method_120_code 4 (Option.some (.array (.object "java/lang/Object"))) ∈ xk_T := xk_in (List.mem_of_getElem? (i := 303) (by decide +kernel)) rfl
theorem xm_271 : Cond.classLink "java/util/Arrays" 110 "[Ljava/lang/Object;" ∈ xk_T := xk_in (List.mem_of_getElem? (i := 304) (by decide +kernel)) rfl
theorem xm_272 : Cond.arrayOver (.object "java/lang/Object") ∈ lw_tbl := List.mem_of_getElem? (i := 305) (by decide +kernel)
theorem xm_273 : Cond.classLink "java/util/Arrays" 2 "java/lang/Object" ∈ xk_T := xk_in (List.mem_of_getElem? (i := 306) (by decide +kernel)) rfl
theorem xm_274 : Cond.methodLink "java/util/Arrays" 304 ⟨"java/lang/Math", "min", "(II)I"⟩ ∈ xk_T := xk_in (List.mem_of_getElem? (i := 307) (by decide +kernel)) rfl
theorem xm_275 : Cond.static ⟨"java/lang/Math", "min", "(II)I"⟩ ∈ xk_T := xk_in (List.mem_of_getElem? (i := 308) (by decide +kernel)) rfl
theorem xm_276 : Cond.code ⟨"java/lang/Math", "min", "(II)I"⟩ prog_18_method_69_code 2 (Option.some .int) ∈ xk_T := xk_in (List.mem_of_getElem? (i := 309) (by decide +kernel)) rfl
theorem xm_277 : Cond.methodLink "java/util/Arrays" 150 ⟨"java/lang/System", "arraycopy", "(Ljava/lang/Object;ILjava/lang/Object;II)V"⟩ ∈ xk_T := xk_in (List.mem_of_getElem? (i := 310) (by decide +kernel)) rfl
theorem xm_278 : Cond.static ⟨"java/lang/System", "arraycopy", "(Ljava/lang/Object;ILjava/lang/Object;II)V"⟩ ∈ xk_T := xk_in (List.mem_of_getElem? (i := 311) (by decide +kernel)) rfl
theorem xm_279 : Cond.native ⟨"java/lang/System", "arraycopy", "(Ljava/lang/Object;ILjava/lang/Object;II)V"⟩ ∈ xk_T := xk_in (List.mem_of_getElem? (i := 312) (by decide +kernel)) rfl
theorem xm_280 : Cond.methodLink "java/util/ArrayList" 79 ⟨"java/lang/Math", "max", "(II)I"⟩ ∈ xk_T := xk_in (List.mem_of_getElem? (i := 313) (by decide +kernel)) rfl
theorem xm_281 : Cond.classLink "java/util/ArrayList" 7 "java/lang/Object" ∈ xk_T := xk_in (List.mem_of_getElem? (i := 314) (by decide +kernel)) rfl
theorem xm_282 : Cond.methodLink "ClickbookLaw" 22 ⟨"Clickbook", "theme", "(I)I"⟩ ∈ xk_T := xk_in (List.mem_of_getElem? (i := 315) (by decide +kernel)) rfl
theorem xm_283 : Cond.instanceMethod ⟨"Clickbook", "theme", "(I)I"⟩ ∈ xk_T := xk_in (List.mem_of_getElem? (i := 316) (by decide +kernel)) rfl
theorem xm_284 : Cond.selects "Clickbook" ⟨"Clickbook", "theme", "(I)I"⟩ ⟨"Clickbook", "theme", "(I)I"⟩ ∈ xk_T := xk_in (List.mem_of_getElem? (i := 317) (by decide +kernel)) rfl
theorem xm_285 : Cond.code ⟨"Clickbook", "theme", "(I)I"⟩ prog_1_method_3_code 2 (Option.some .int) ∈ xk_T := xk_in (List.mem_of_getElem? (i := 318) (by decide +kernel)) rfl
theorem xm_288 : Cond.methodLink "ClickbookLaw" 29 ⟨"Clickbook", "cue", "(IIIII)I"⟩ ∈ xk_T := xk_in (List.mem_of_getElem? (i := 321) (by decide +kernel)) rfl
theorem xm_289 : Cond.instanceMethod ⟨"Clickbook", "cue", "(IIIII)I"⟩ ∈ xk_T := xk_in (List.mem_of_getElem? (i := 322) (by decide +kernel)) rfl
theorem xm_290 : Cond.selects "Clickbook" ⟨"Clickbook", "cue", "(IIIII)I"⟩ ⟨"Clickbook", "cue", "(IIIII)I"⟩ ∈ xk_T := xk_in (List.mem_of_getElem? (i := 323) (by decide +kernel)) rfl
theorem xm_291 : Cond.code ⟨"Clickbook", "cue", "(IIIII)I"⟩ prog_1_method_9_code 7 (Option.some .int) ∈ xk_T := xk_in (List.mem_of_getElem? (i := 324) (by decide +kernel)) rfl
theorem xm_292 : Cond.classLink "Clickbook" 119 "java/lang/IndexOutOfBoundsException" ∈ xk_T := xk_in (List.mem_of_getElem? (i := 325) (by decide +kernel)) rfl
theorem xm_293 : Cond.instantiable "java/lang/IndexOutOfBoundsException" 6 ∈ xk_T := xk_in (List.mem_of_getElem? (i := 326) (by decide +kernel)) rfl
theorem xm_294 : Cond.castable "java/lang/IndexOutOfBoundsException" "java/lang/IndexOutOfBoundsException" ∈ lw_tbl := List.mem_of_getElem? (i := 327) (by decide +kernel)
theorem xm_295 : Cond.selects "java/lang/IndexOutOfBoundsException" ⟨"java/lang/Throwable", "fillInStackTrace", "(I)Ljava/lang/Throwable;"⟩ ⟨"java/lang/Throwable", "fillInStackTrace", "(I)Ljava/lang/Throwable;"⟩ ∈ xk_T := xk_in (List.mem_of_getElem? (i := 328) (by decide +kernel)) rfl
theorem xm_302 : Cond.methodLink "Clickbook" 123 ⟨"java/lang/IndexOutOfBoundsException", "<init>", "(Ljava/lang/String;)V"⟩ ∈ xk_T := xk_in (List.mem_of_getElem? (i := 335) (by decide +kernel)) rfl
theorem xm_303 : Cond.instanceMethod ⟨"java/lang/IndexOutOfBoundsException", "<init>", "(Ljava/lang/String;)V"⟩ ∈ xk_T := xk_in (List.mem_of_getElem? (i := 336) (by decide +kernel)) rfl
theorem xm_304 : Cond.code ⟨"java/lang/IndexOutOfBoundsException", "<init>", "(Ljava/lang/String;)V"⟩ prog_16_method_2_code 2 (Option.none : Option FieldType) ∈ xk_T := xk_in (List.mem_of_getElem? (i := 337) (by decide +kernel)) rfl
theorem xm_305 : Cond.methodLink "java/lang/IndexOutOfBoundsException" 7 ⟨"java/lang/RuntimeException", "<init>", "(Ljava/lang/String;)V"⟩ ∈ xk_T := xk_in (List.mem_of_getElem? (i := 338) (by decide +kernel)) rfl
theorem xm_307 : Cond.superclass "java/lang/IndexOutOfBoundsException" "java/lang/RuntimeException" ∈ xk_T := xk_in (List.mem_of_getElem? (i := 340) (by decide +kernel)) rfl
theorem xm_311 : Cond.classLink "Clickbook" 99 "Clickbook$Cue" ∈ xk_T := xk_in (List.mem_of_getElem? (i := 344) (by decide +kernel)) rfl
theorem xm_312 : Cond.instantiable "Clickbook$Cue" 13 ∈ xk_T := xk_in (List.mem_of_getElem? (i := 345) (by decide +kernel)) rfl
theorem xm_313 : Cond.methodLink "Clickbook" 130 ⟨"Clickbook$Cue", "<init>", "(IIIIII)V"⟩ ∈ xk_T := xk_in (List.mem_of_getElem? (i := 346) (by decide +kernel)) rfl
theorem xm_314 : Cond.instanceMethod ⟨"Clickbook$Cue", "<init>", "(IIIIII)V"⟩ ∈ xk_T := xk_in (List.mem_of_getElem? (i := 347) (by decide +kernel)) rfl
theorem xm_315 : Cond.code ⟨"Clickbook$Cue", "<init>", "(IIIIII)V"⟩ prog_2_method_1_code 7 (Option.none : Option FieldType) ∈ xk_T := xk_in (List.mem_of_getElem? (i := 348) (by decide +kernel)) rfl
theorem xm_316 : Cond.methodLink "Clickbook$Cue" 3 ⟨"java/lang/Object", "<init>", "()V"⟩ ∈ xk_T := xk_in (List.mem_of_getElem? (i := 349) (by decide +kernel)) rfl
theorem xm_317 : Cond.fieldLink "Clickbook$Cue" 9 "Clickbook$Cue" "number" "I" ∈ xk_T := xk_in (List.mem_of_getElem? (i := 350) (by decide +kernel)) rfl
theorem xm_318 : Cond.fieldLink "Clickbook" 133 "Clickbook$Cue" "number" "I" ∈ xk_T := xk_in (List.mem_of_getElem? (i := 351) (by decide +kernel)) rfl
theorem xm_319 : Cond.fieldLink "Clickbook$Cue" 15 "Clickbook$Cue" "start" "I" ∈ xk_T := xk_in (List.mem_of_getElem? (i := 352) (by decide +kernel)) rfl
theorem xm_320 : Cond.fieldLink "Clickbook" 108 "Clickbook$Cue" "start" "I" ∈ xk_T := xk_in (List.mem_of_getElem? (i := 353) (by decide +kernel)) rfl
theorem xm_321 : Cond.fieldLink "Clickbook$Cue" 18 "Clickbook$Cue" "theme" "I" ∈ xk_T := xk_in (List.mem_of_getElem? (i := 354) (by decide +kernel)) rfl
theorem xm_322 : Cond.fieldLink "Clickbook" 241 "Clickbook$Cue" "theme" "I" ∈ xk_T := xk_in (List.mem_of_getElem? (i := 355) (by decide +kernel)) rfl
theorem xm_323 : Cond.fieldLink "Clickbook$Cue" 21 "Clickbook$Cue" "players" "I" ∈ xk_T := xk_in (List.mem_of_getElem? (i := 356) (by decide +kernel)) rfl
theorem xm_324 : Cond.fieldLink "Clickbook" 182 "Clickbook$Cue" "players" "I" ∈ xk_T := xk_in (List.mem_of_getElem? (i := 357) (by decide +kernel)) rfl
theorem xm_325 : Cond.fieldLink "Clickbook$Cue" 24 "Clickbook$Cue" "writer" "I" ∈ xk_T := xk_in (List.mem_of_getElem? (i := 358) (by decide +kernel)) rfl
theorem xm_326 : Cond.fieldLink "Clickbook" 244 "Clickbook$Cue" "writer" "I" ∈ xk_T := xk_in (List.mem_of_getElem? (i := 359) (by decide +kernel)) rfl
theorem xm_327 : Cond.fieldLink "Clickbook$Cue" 27 "Clickbook$Cue" "use" "I" ∈ xk_T := xk_in (List.mem_of_getElem? (i := 360) (by decide +kernel)) rfl
theorem xm_328 : Cond.fieldLink "Clickbook" 247 "Clickbook$Cue" "use" "I" ∈ xk_T := xk_in (List.mem_of_getElem? (i := 361) (by decide +kernel)) rfl
theorem xm_329 : Cond.fieldLink "Clickbook$Take" 19 "Clickbook$Cue" "edition" "I" ∈ xk_T := xk_in (List.mem_of_getElem? (i := 362) (by decide +kernel)) rfl
theorem xm_330 : Cond.fieldLink "Clickbook$Cue" 43 "Clickbook$Cue" "edition" "I" ∈ xk_T := xk_in (List.mem_of_getElem? (i := 363) (by decide +kernel)) rfl
theorem xm_331 : Cond.fieldLink "Clickbook" 105 "Clickbook$Cue" "edition" "I" ∈ xk_T := xk_in (List.mem_of_getElem? (i := 364) (by decide +kernel)) rfl
theorem xm_332 : Cond.fieldLink "Clickbook$JoinTable" 22 "Clickbook$Cue" "bars" "I" ∈ xk_T := xk_in (List.mem_of_getElem? (i := 365) (by decide +kernel)) rfl
theorem xm_333 : Cond.fieldLink "Clickbook$Cue" 40 "Clickbook$Cue" "bars" "I" ∈ xk_T := xk_in (List.mem_of_getElem? (i := 366) (by decide +kernel)) rfl
theorem xm_334 : Cond.fieldLink "Clickbook" 143 "Clickbook$Cue" "bars" "I" ∈ xk_T := xk_in (List.mem_of_getElem? (i := 367) (by decide +kernel)) rfl
theorem xm_335 : Cond.fieldLink "Clickbook$Cue" 30 "Clickbook$Cue" "meters" "[I" ∈ xk_T := xk_in (List.mem_of_getElem? (i := 368) (by decide +kernel)) rfl
theorem xm_336 : Cond.fieldLink "Clickbook" 269 "Clickbook$Cue" "meters" "[I" ∈ xk_T := xk_in (List.mem_of_getElem? (i := 369) (by decide +kernel)) rfl
theorem xm_337 : Cond.fieldLink "Clickbook$Cue" 34 "Clickbook$Cue" "clicks" "[I" ∈ xk_T := xk_in (List.mem_of_getElem? (i := 370) (by decide +kernel)) rfl
theorem xm_338 : Cond.fieldLink "Clickbook" 272 "Clickbook$Cue" "clicks" "[I" ∈ xk_T := xk_in (List.mem_of_getElem? (i := 371) (by decide +kernel)) rfl
theorem xm_339 : Cond.fieldLink "Clickbook$Cue" 50 "Clickbook$Cue" "beats" "I" ∈ xk_T := xk_in (List.mem_of_getElem? (i := 372) (by decide +kernel)) rfl
theorem xm_340 : Cond.fieldLink "Clickbook" 250 "Clickbook$Cue" "beats" "I" ∈ xk_T := xk_in (List.mem_of_getElem? (i := 373) (by decide +kernel)) rfl
theorem xm_341 : Cond.fieldLink "Clickbook$Cue" 61 "Clickbook$Cue" "frames" "I" ∈ xk_T := xk_in (List.mem_of_getElem? (i := 374) (by decide +kernel)) rfl
theorem xm_342 : Cond.fieldLink "Clickbook" 187 "Clickbook$Cue" "frames" "I" ∈ xk_T := xk_in (List.mem_of_getElem? (i := 375) (by decide +kernel)) rfl
theorem xm_343 : Cond.fieldLink "Clickbook$Cue" 37 "Clickbook$Cue" "offsets" "[I" ∈ xk_T := xk_in (List.mem_of_getElem? (i := 376) (by decide +kernel)) rfl
theorem xm_344 : Cond.fieldLink "Clickbook" 338 "Clickbook$Cue" "offsets" "[I" ∈ xk_T := xk_in (List.mem_of_getElem? (i := 377) (by decide +kernel)) rfl
theorem xm_371 : Cond.superclass "Clickbook$Cue" "java/lang/Object" ∈ xk_T := xk_in (List.mem_of_getElem? (i := 404) (by decide +kernel)) rfl
theorem xm_372 : Cond.methodLink "ClickbookLaw" 33 ⟨"Clickbook", "bar", "(III)I"⟩ ∈ xk_T := xk_in (List.mem_of_getElem? (i := 405) (by decide +kernel)) rfl
theorem xm_373 : Cond.instanceMethod ⟨"Clickbook", "bar", "(III)I"⟩ ∈ xk_T := xk_in (List.mem_of_getElem? (i := 406) (by decide +kernel)) rfl
theorem xm_374 : Cond.selects "Clickbook" ⟨"Clickbook", "bar", "(III)I"⟩ ⟨"Clickbook", "bar", "(III)I"⟩ ∈ xk_T := xk_in (List.mem_of_getElem? (i := 407) (by decide +kernel)) rfl
theorem xm_375 : Cond.code ⟨"Clickbook", "bar", "(III)I"⟩ prog_1_method_10_code 5 (Option.some .int) ∈ xk_T := xk_in (List.mem_of_getElem? (i := 408) (by decide +kernel)) rfl
theorem xm_376 : Cond.methodLink "Clickbook" 136 ⟨"Clickbook", "cueNumbered", "(I)LClickbook$Cue;"⟩ ∈ xk_T := xk_in (List.mem_of_getElem? (i := 409) (by decide +kernel)) rfl
theorem xm_378 : Cond.instanceMethod ⟨"Clickbook", "cueNumbered", "(I)LClickbook$Cue;"⟩ ∈ xk_T := xk_in (List.mem_of_getElem? (i := 411) (by decide +kernel)) rfl
theorem xm_379 : Cond.code ⟨"Clickbook", "cueNumbered", "(I)LClickbook$Cue;"⟩ prog_1_method_13_code 2 (Option.some (.object "Clickbook$Cue")) ∈ xk_T := xk_in (List.mem_of_getElem? (i := 412) (by decide +kernel)) rfl
theorem xm_381 : Cond.methodLink "Clickbook" 88 ⟨"java/util/ArrayList", "get", "(I)Ljava/lang/Object;"⟩ ∈ xk_T := xk_in (List.mem_of_getElem? (i := 414) (by decide +kernel)) rfl
theorem xm_382 : Cond.instanceMethod ⟨"java/util/ArrayList", "get", "(I)Ljava/lang/Object;"⟩ ∈ xk_T := xk_in (List.mem_of_getElem? (i := 415) (by decide +kernel)) rfl
theorem xm_383 : Cond.selects "java/util/ArrayList" ⟨"java/util/ArrayList", "get", "(I)Ljava/lang/Object;"⟩ ⟨"java/util/ArrayList", "get", "(I)Ljava/lang/Object;"⟩ ∈ xk_T := xk_in (List.mem_of_getElem? (i := 416) (by decide +kernel)) rfl
theorem xm_384 : Cond.code ⟨"java/util/ArrayList", "get", "(I)Ljava/lang/Object;"⟩ prog_25_method_20_code 2 (Option.some (.object "java/lang/Object")) ∈ xk_T := xk_in (List.mem_of_getElem? (i := 417) (by decide +kernel)) rfl
theorem xm_385 : Cond.methodLink "java/util/ArrayList" 118 ⟨"java/util/Objects", "checkIndex", "(II)I"⟩ ∈ xk_T := xk_in (List.mem_of_getElem? (i := 418) (by decide +kernel)) rfl
theorem xm_386 : Cond.static ⟨"java/util/Objects", "checkIndex", "(II)I"⟩ ∈ xk_T := xk_in (List.mem_of_getElem? (i := 419) (by decide +kernel)) rfl
theorem xm_387 : Cond.code ⟨"java/util/Objects", "checkIndex", "(II)I"⟩ prog_29_method_17_code 2 (Option.some .int) ∈ xk_T := xk_in (List.mem_of_getElem? (i := 420) (by decide +kernel)) rfl
theorem xm_388 : Cond.methodLink "java/util/Objects" 105 ⟨"jdk/internal/util/Preconditions", "checkIndex", "(IILjava/util/function/BiFunction;)I"⟩ ∈ xk_T := xk_in (List.mem_of_getElem? (i := 421) (by decide +kernel)) rfl
theorem xm_389 : Cond.static ⟨"jdk/internal/util/Preconditions", "checkIndex", "(IILjava/util/function/BiFunction;)I"⟩ ∈ xk_T := xk_in (List.mem_of_getElem? (i := 422) (by decide +kernel)) rfl
theorem xm_390 : Cond.code ⟨"jdk/internal/util/Preconditions", "checkIndex", "(IILjava/util/function/BiFunction;)I"⟩ prog_33_method_11_code 3 (Option.some .int) ∈ xk_T := xk_in (List.mem_of_getElem? (i := 423) (by decide +kernel)) rfl
theorem xm_391 : Cond.methodLink "java/util/ArrayList" 123 ⟨"java/util/ArrayList", "elementData", "(I)Ljava/lang/Object;"⟩ ∈ xk_T := xk_in (List.mem_of_getElem? (i := 424) (by decide +kernel)) rfl
theorem xm_392 : Cond.instanceMethod ⟨"java/util/ArrayList", "elementData", "(I)Ljava/lang/Object;"⟩ ∈ xk_T := xk_in (List.mem_of_getElem? (i := 425) (by decide +kernel)) rfl
theorem xm_393 : Cond.selects "java/util/ArrayList" ⟨"java/util/ArrayList", "elementData", "(I)Ljava/lang/Object;"⟩ ⟨"java/util/ArrayList", "elementData", "(I)Ljava/lang/Object;"⟩ ∈ xk_T := xk_in (List.mem_of_getElem? (i := 426) (by decide +kernel)) rfl
theorem xm_394 : Cond.code ⟨"java/util/ArrayList", "elementData", "(I)Ljava/lang/Object;"⟩ prog_25_method_18_code 2 (Option.some (.object "java/lang/Object")) ∈ xk_T := xk_in (List.mem_of_getElem? (i := 427) (by decide +kernel)) rfl
theorem xm_395 : Cond.methodLink "Clickbook" 140 ⟨"Clickbook", "refuseBadBar", "(II)V"⟩ ∈ xk_T := xk_in (List.mem_of_getElem? (i := 428) (by decide +kernel)) rfl
theorem xm_396 : Cond.static ⟨"Clickbook", "refuseBadBar", "(II)V"⟩ ∈ xk_T := xk_in (List.mem_of_getElem? (i := 429) (by decide +kernel)) rfl
theorem xm_397 : Cond.code ⟨"Clickbook", "refuseBadBar", "(II)V"⟩ prog_1_method_15_code 2 (Option.none : Option FieldType) ∈ xk_T := xk_in (List.mem_of_getElem? (i := 430) (by decide +kernel)) rfl
theorem xm_400 : Cond.methodLink "Clickbook" 148 ⟨"Clickbook$Cue", "setBar", "(III)V"⟩ ∈ xk_T := xk_in (List.mem_of_getElem? (i := 433) (by decide +kernel)) rfl
theorem xm_401 : Cond.instanceMethod ⟨"Clickbook$Cue", "setBar", "(III)V"⟩ ∈ xk_T := xk_in (List.mem_of_getElem? (i := 434) (by decide +kernel)) rfl
theorem xm_402 : Cond.selects "Clickbook$Cue" ⟨"Clickbook$Cue", "setBar", "(III)V"⟩ ⟨"Clickbook$Cue", "setBar", "(III)V"⟩ ∈ xk_T := xk_in (List.mem_of_getElem? (i := 435) (by decide +kernel)) rfl
theorem xm_403 : Cond.code ⟨"Clickbook$Cue", "setBar", "(III)V"⟩ prog_2_method_2_code 4 (Option.none : Option FieldType) ∈ xk_T := xk_in (List.mem_of_getElem? (i := 436) (by decide +kernel)) rfl
theorem xm_404 : Cond.methodLink "Clickbook$Cue" 46 ⟨"Clickbook$Cue", "firstBeat", "(I)I"⟩ ∈ xk_T := xk_in (List.mem_of_getElem? (i := 437) (by decide +kernel)) rfl
theorem xm_405 : Cond.instanceMethod ⟨"Clickbook$Cue", "firstBeat", "(I)I"⟩ ∈ xk_T := xk_in (List.mem_of_getElem? (i := 438) (by decide +kernel)) rfl
theorem xm_406 : Cond.selects "Clickbook$Cue" ⟨"Clickbook$Cue", "firstBeat", "(I)I"⟩ ⟨"Clickbook$Cue", "firstBeat", "(I)I"⟩ ∈ xk_T := xk_in (List.mem_of_getElem? (i := 439) (by decide +kernel)) rfl
theorem xm_407 : Cond.code ⟨"Clickbook$Cue", "firstBeat", "(I)I"⟩ prog_2_method_4_code 4 (Option.some .int) ∈ xk_T := xk_in (List.mem_of_getElem? (i := 440) (by decide +kernel)) rfl
theorem xm_408 : Cond.methodLink "Clickbook$Cue" 53 ⟨"Clickbook$Cue", "layOut", "([III)I"⟩ ∈ xk_T := xk_in (List.mem_of_getElem? (i := 441) (by decide +kernel)) rfl
theorem xm_409 : Cond.instanceMethod ⟨"Clickbook$Cue", "layOut", "([III)I"⟩ ∈ xk_T := xk_in (List.mem_of_getElem? (i := 442) (by decide +kernel)) rfl
theorem xm_410 : Cond.selects "Clickbook$Cue" ⟨"Clickbook$Cue", "layOut", "([III)I"⟩ ⟨"Clickbook$Cue", "layOut", "([III)I"⟩ ∈ xk_T := xk_in (List.mem_of_getElem? (i := 443) (by decide +kernel)) rfl
theorem xm_411 : Cond.code ⟨"Clickbook$Cue", "layOut", "([III)I"⟩ prog_2_method_3_code 9 (Option.some .int) ∈ xk_T := xk_in (List.mem_of_getElem? (i := 444) (by decide +kernel)) rfl
theorem xm_412 : Cond.methodLinkNest "Clickbook$Cue" 57 ⟨"Clickbook", "roundedUp", "(II)I"⟩ "Clickbook" ∈ lw_tbl := List.mem_of_getElem? (i := 445) (by decide +kernel)
theorem xm_413 : Cond.static ⟨"Clickbook", "roundedUp", "(II)I"⟩ ∈ xk_T := xk_in (List.mem_of_getElem? (i := 446) (by decide +kernel)) rfl
theorem xm_414 : Cond.code ⟨"Clickbook", "roundedUp", "(II)I"⟩ prog_1_method_19_code 2 (Option.some .int) ∈ xk_T := xk_in (List.mem_of_getElem? (i := 447) (by decide +kernel)) rfl
theorem xm_415 : Cond.methodLink "ClickbookLaw" 43 ⟨"Clickbook", "retime", "(IIII)I"⟩ ∈ xk_T := xk_in (List.mem_of_getElem? (i := 448) (by decide +kernel)) rfl
theorem xm_416 : Cond.instanceMethod ⟨"Clickbook", "retime", "(IIII)I"⟩ ∈ xk_T := xk_in (List.mem_of_getElem? (i := 449) (by decide +kernel)) rfl
theorem xm_417 : Cond.selects "Clickbook" ⟨"Clickbook", "retime", "(IIII)I"⟩ ⟨"Clickbook", "retime", "(IIII)I"⟩ ∈ xk_T := xk_in (List.mem_of_getElem? (i := 450) (by decide +kernel)) rfl
theorem xm_418 : Cond.code ⟨"Clickbook", "retime", "(IIII)I"⟩ prog_1_method_11_code 6 (Option.some .int) ∈ xk_T := xk_in (List.mem_of_getElem? (i := 451) (by decide +kernel)) rfl
theorem xm_419 : Cond.methodLink "Clickbook" 152 ⟨"Clickbook", "refuseNoBar", "(LClickbook$Cue;I)V"⟩ ∈ xk_T := xk_in (List.mem_of_getElem? (i := 452) (by decide +kernel)) rfl
theorem xm_420 : Cond.static ⟨"Clickbook", "refuseNoBar", "(LClickbook$Cue;I)V"⟩ ∈ xk_T := xk_in (List.mem_of_getElem? (i := 453) (by decide +kernel)) rfl
theorem xm_421 : Cond.code ⟨"Clickbook", "refuseNoBar", "(LClickbook$Cue;I)V"⟩ prog_1_method_14_code 2 (Option.none : Option FieldType) ∈ xk_T := xk_in (List.mem_of_getElem? (i := 454) (by decide +kernel)) rfl
theorem xm_423 : Cond.methodLink "Clickbook" 156 ⟨"Clickbook$Cue", "end", "()I"⟩ ∈ xk_T := xk_in (List.mem_of_getElem? (i := 456) (by decide +kernel)) rfl
theorem xm_424 : Cond.instanceMethod ⟨"Clickbook$Cue", "end", "()I"⟩ ∈ xk_T := xk_in (List.mem_of_getElem? (i := 457) (by decide +kernel)) rfl
theorem xm_425 : Cond.selects "Clickbook$Cue" ⟨"Clickbook$Cue", "end", "()I"⟩ ⟨"Clickbook$Cue", "end", "()I"⟩ ∈ xk_T := xk_in (List.mem_of_getElem? (i := 458) (by decide +kernel)) rfl
theorem xm_426 : Cond.code ⟨"Clickbook$Cue", "end", "()I"⟩ prog_2_method_6_code 1 (Option.some .int) ∈ xk_T := xk_in (List.mem_of_getElem? (i := 459) (by decide +kernel)) rfl
theorem xm_427 : Cond.methodLink "ClickbookLaw" 47 ⟨"Clickbook", "shift", "(II)I"⟩ ∈ xk_T := xk_in (List.mem_of_getElem? (i := 460) (by decide +kernel)) rfl
theorem xm_428 : Cond.instanceMethod ⟨"Clickbook", "shift", "(II)I"⟩ ∈ xk_T := xk_in (List.mem_of_getElem? (i := 461) (by decide +kernel)) rfl
theorem xm_429 : Cond.selects "Clickbook" ⟨"Clickbook", "shift", "(II)I"⟩ ⟨"Clickbook", "shift", "(II)I"⟩ ∈ xk_T := xk_in (List.mem_of_getElem? (i := 462) (by decide +kernel)) rfl
theorem xm_430 : Cond.code ⟨"Clickbook", "shift", "(II)I"⟩ prog_1_method_12_code 4 (Option.some .int) ∈ xk_T := xk_in (List.mem_of_getElem? (i := 463) (by decide +kernel)) rfl
theorem xm_432 : Cond.methodLink "Clickbook" 161 ⟨"Clickbook", "countMet", "()I"⟩ ∈ xk_T := xk_in (List.mem_of_getElem? (i := 465) (by decide +kernel)) rfl
theorem xm_434 : Cond.instanceMethod ⟨"Clickbook", "countMet", "()I"⟩ ∈ xk_T := xk_in (List.mem_of_getElem? (i := 467) (by decide +kernel)) rfl
theorem xm_435 : Cond.code ⟨"Clickbook", "countMet", "()I"⟩ prog_1_method_33_code 3 (Option.some .int) ∈ xk_T := xk_in (List.mem_of_getElem? (i := 468) (by decide +kernel)) rfl
theorem xm_436 : Cond.methodLink "Clickbook" 229 ⟨"Clickbook", "isMet", "(LClickbook$Hit;)Z"⟩ ∈ xk_T := xk_in (List.mem_of_getElem? (i := 469) (by decide +kernel)) rfl
theorem xm_438 : Cond.instanceMethod ⟨"Clickbook", "isMet", "(LClickbook$Hit;)Z"⟩ ∈ xk_T := xk_in (List.mem_of_getElem? (i := 471) (by decide +kernel)) rfl
theorem xm_439 : Cond.code ⟨"Clickbook", "isMet", "(LClickbook$Hit;)Z"⟩ prog_1_method_31_code 2 (Option.some .boolean) ∈ xk_T := xk_in (List.mem_of_getElem? (i := 472) (by decide +kernel)) rfl
theorem xm_440 : Cond.methodLink "Clickbook" 334 ⟨"Clickbook", "isMetBut", "(LClickbook$Hit;I)Z"⟩ ∈ xk_T := xk_in (List.mem_of_getElem? (i := 473) (by decide +kernel)) rfl
theorem xm_442 : Cond.instanceMethod ⟨"Clickbook", "isMetBut", "(LClickbook$Hit;I)Z"⟩ ∈ xk_T := xk_in (List.mem_of_getElem? (i := 475) (by decide +kernel)) rfl
theorem xm_443 : Cond.code ⟨"Clickbook", "isMetBut", "(LClickbook$Hit;I)Z"⟩ prog_1_method_32_code 5 (Option.some .boolean) ∈ xk_T := xk_in (List.mem_of_getElem? (i := 476) (by decide +kernel)) rfl
theorem xm_444 : Cond.methodLink "Clickbook" 341 ⟨"Clickbook$Cue", "reaches", "(III[I)Z"⟩ ∈ xk_T := xk_in (List.mem_of_getElem? (i := 477) (by decide +kernel)) rfl
theorem xm_445 : Cond.instanceMethod ⟨"Clickbook$Cue", "reaches", "(III[I)Z"⟩ ∈ xk_T := xk_in (List.mem_of_getElem? (i := 478) (by decide +kernel)) rfl
theorem xm_446 : Cond.selects "Clickbook$Cue" ⟨"Clickbook$Cue", "reaches", "(III[I)Z"⟩ ⟨"Clickbook$Cue", "reaches", "(III[I)Z"⟩ ∈ xk_T := xk_in (List.mem_of_getElem? (i := 479) (by decide +kernel)) rfl
theorem xm_447 : Cond.code ⟨"Clickbook$Cue", "reaches", "(III[I)Z"⟩ prog_2_method_11_code 6 (Option.some .boolean) ∈ xk_T := xk_in (List.mem_of_getElem? (i := 480) (by decide +kernel)) rfl
theorem xm_448 : Cond.methodLink "Clickbook$Cue" 68 ⟨"java/lang/Math", "abs", "(I)I"⟩ ∈ xk_T := xk_in (List.mem_of_getElem? (i := 481) (by decide +kernel)) rfl
theorem xm_449 : Cond.static ⟨"java/lang/Math", "abs", "(I)I"⟩ ∈ xk_T := xk_in (List.mem_of_getElem? (i := 482) (by decide +kernel)) rfl
theorem xm_450 : Cond.code ⟨"java/lang/Math", "abs", "(I)I"⟩ prog_18_method_59_code 1 (Option.some .int) ∈ xk_T := xk_in (List.mem_of_getElem? (i := 483) (by decide +kernel)) rfl
theorem xm_451 : Cond.methodLink "ClickbookLaw" 62 ⟨"Clickbook", "open", "(I)I"⟩ ∈ xk_T := xk_in (List.mem_of_getElem? (i := 484) (by decide +kernel)) rfl
theorem xm_452 : Cond.instanceMethod ⟨"Clickbook", "open", "(I)I"⟩ ∈ xk_T := xk_in (List.mem_of_getElem? (i := 485) (by decide +kernel)) rfl
theorem xm_453 : Cond.selects "Clickbook" ⟨"Clickbook", "open", "(I)I"⟩ ⟨"Clickbook", "open", "(I)I"⟩ ∈ xk_T := xk_in (List.mem_of_getElem? (i := 486) (by decide +kernel)) rfl
theorem xm_454 : Cond.code ⟨"Clickbook", "open", "(I)I"⟩ prog_1_method_16_code 2 (Option.some .int) ∈ xk_T := xk_in (List.mem_of_getElem? (i := 487) (by decide +kernel)) rfl
theorem xm_457 : Cond.methodLink "ClickbookLaw" 72 ⟨"Clickbook", "take", "(III)I"⟩ ∈ xk_T := xk_in (List.mem_of_getElem? (i := 490) (by decide +kernel)) rfl
theorem xm_458 : Cond.instanceMethod ⟨"Clickbook", "take", "(III)I"⟩ ∈ xk_T := xk_in (List.mem_of_getElem? (i := 491) (by decide +kernel)) rfl
theorem xm_459 : Cond.selects "Clickbook" ⟨"Clickbook", "take", "(III)I"⟩ ⟨"Clickbook", "take", "(III)I"⟩ ∈ xk_T := xk_in (List.mem_of_getElem? (i := 492) (by decide +kernel)) rfl
theorem xm_460 : Cond.code ⟨"Clickbook", "take", "(III)I"⟩ prog_1_method_17_code 6 (Option.some .int) ∈ xk_T := xk_in (List.mem_of_getElem? (i := 493) (by decide +kernel)) rfl
theorem xm_461 : Cond.methodLink "Clickbook" 177 ⟨"Clickbook$Cue", "mostNotes", "()I"⟩ ∈ xk_T := xk_in (List.mem_of_getElem? (i := 494) (by decide +kernel)) rfl
theorem xm_462 : Cond.instanceMethod ⟨"Clickbook$Cue", "mostNotes", "()I"⟩ ∈ xk_T := xk_in (List.mem_of_getElem? (i := 495) (by decide +kernel)) rfl
theorem xm_463 : Cond.selects "Clickbook$Cue" ⟨"Clickbook$Cue", "mostNotes", "()I"⟩ ⟨"Clickbook$Cue", "mostNotes", "()I"⟩ ∈ xk_T := xk_in (List.mem_of_getElem? (i := 496) (by decide +kernel)) rfl
theorem xm_464 : Cond.code ⟨"Clickbook$Cue", "mostNotes", "()I"⟩ prog_2_method_7_code 3 (Option.some .int) ∈ xk_T := xk_in (List.mem_of_getElem? (i := 497) (by decide +kernel)) rfl
theorem xm_467 : Cond.methodLink "Clickbook" 190 ⟨"Clickbook", "roundedUp", "(II)I"⟩ ∈ xk_T := xk_in (List.mem_of_getElem? (i := 500) (by decide +kernel)) rfl
theorem xm_469 : Cond.classLink "Clickbook" 198 "Clickbook$Take" ∈ xk_T := xk_in (List.mem_of_getElem? (i := 502) (by decide +kernel)) rfl
theorem xm_470 : Cond.instantiable "Clickbook$Take" 5 ∈ xk_T := xk_in (List.mem_of_getElem? (i := 503) (by decide +kernel)) rfl
theorem xm_471 : Cond.methodLink "Clickbook" 200 ⟨"Clickbook$Take", "<init>", "(ILClickbook$Cue;II)V"⟩ ∈ xk_T := xk_in (List.mem_of_getElem? (i := 504) (by decide +kernel)) rfl
theorem xm_472 : Cond.instanceMethod ⟨"Clickbook$Take", "<init>", "(ILClickbook$Cue;II)V"⟩ ∈ xk_T := xk_in (List.mem_of_getElem? (i := 505) (by decide +kernel)) rfl
theorem xm_473 : Cond.code ⟨"Clickbook$Take", "<init>", "(ILClickbook$Cue;II)V"⟩ prog_5_method_1_code 5 (Option.none : Option FieldType) ∈ xk_T := xk_in (List.mem_of_getElem? (i := 506) (by decide +kernel)) rfl
theorem xm_474 : Cond.methodLink "Clickbook$Take" 3 ⟨"java/lang/Object", "<init>", "()V"⟩ ∈ xk_T := xk_in (List.mem_of_getElem? (i := 507) (by decide +kernel)) rfl
theorem xm_475 : Cond.fieldLink "Clickbook$Take" 9 "Clickbook$Take" "number" "I" ∈ xk_T := xk_in (List.mem_of_getElem? (i := 508) (by decide +kernel)) rfl
theorem xm_476 : Cond.fieldLink "Clickbook$JoinTable" 75 "Clickbook$Take" "number" "I" ∈ xk_T := xk_in (List.mem_of_getElem? (i := 509) (by decide +kernel)) rfl
theorem xm_477 : Cond.fieldLink "Clickbook$Take" 15 "Clickbook$Take" "of" "LClickbook$Cue;" ∈ xk_T := xk_in (List.mem_of_getElem? (i := 510) (by decide +kernel)) rfl
theorem xm_478 : Cond.fieldLink "Clickbook$JoinTable" 42 "Clickbook$Take" "of" "LClickbook$Cue;" ∈ xk_T := xk_in (List.mem_of_getElem? (i := 511) (by decide +kernel)) rfl
theorem xm_479 : Cond.fieldLink "Clickbook" 288 "Clickbook$Take" "of" "LClickbook$Cue;" ∈ xk_T := xk_in (List.mem_of_getElem? (i := 512) (by decide +kernel)) rfl
theorem xm_480 : Cond.fieldLink "Clickbook$Take" 24 "Clickbook$Take" "edition" "I" ∈ xk_T := xk_in (List.mem_of_getElem? (i := 513) (by decide +kernel)) rfl
theorem xm_481 : Cond.fieldLink "Clickbook" 292 "Clickbook$Take" "edition" "I" ∈ xk_T := xk_in (List.mem_of_getElem? (i := 514) (by decide +kernel)) rfl
theorem xm_482 : Cond.fieldLink "Clickbook$Take" 25 "Clickbook$Take" "notes" "I" ∈ xk_T := xk_in (List.mem_of_getElem? (i := 515) (by decide +kernel)) rfl
theorem xm_483 : Cond.fieldLink "Clickbook$Take" 28 "Clickbook$Take" "push" "I" ∈ xk_T := xk_in (List.mem_of_getElem? (i := 516) (by decide +kernel)) rfl
theorem xm_484 : Cond.fieldLink "Clickbook$JoinTable" 78 "Clickbook$Take" "push" "I" ∈ xk_T := xk_in (List.mem_of_getElem? (i := 517) (by decide +kernel)) rfl
theorem xm_485 : Cond.fieldLink "Clickbook" 293 "Clickbook$Take" "push" "I" ∈ xk_T := xk_in (List.mem_of_getElem? (i := 518) (by decide +kernel)) rfl
theorem xm_496 : Cond.superclass "Clickbook$Take" "java/lang/Object" ∈ xk_T := xk_in (List.mem_of_getElem? (i := 529) (by decide +kernel)) rfl
theorem xm_497 : Cond.methodLink "ClickbookLaw" 68 ⟨"Clickbook", "close", "()I"⟩ ∈ xk_T := xk_in (List.mem_of_getElem? (i := 530) (by decide +kernel)) rfl
theorem xm_498 : Cond.instanceMethod ⟨"Clickbook", "close", "()I"⟩ ∈ xk_T := xk_in (List.mem_of_getElem? (i := 531) (by decide +kernel)) rfl
theorem xm_499 : Cond.selects "Clickbook" ⟨"Clickbook", "close", "()I"⟩ ⟨"Clickbook", "close", "()I"⟩ ∈ xk_T := xk_in (List.mem_of_getElem? (i := 532) (by decide +kernel)) rfl
theorem xm_500 : Cond.code ⟨"Clickbook", "close", "()I"⟩ prog_1_method_18_code 4 (Option.some .int) ∈ xk_T := xk_in (List.mem_of_getElem? (i := 533) (by decide +kernel)) rfl
theorem xm_502 : Cond.methodLink "Clickbook" 205 ⟨"java/lang/Math", "min", "(II)I"⟩ ∈ xk_T := xk_in (List.mem_of_getElem? (i := 535) (by decide +kernel)) rfl
theorem xm_503 : Cond.methodLink "ClickbookLaw" 37 ⟨"Clickbook", "ofCue", "(II)I"⟩ ∈ xk_T := xk_in (List.mem_of_getElem? (i := 536) (by decide +kernel)) rfl
theorem xm_504 : Cond.instanceMethod ⟨"Clickbook", "ofCue", "(II)I"⟩ ∈ xk_T := xk_in (List.mem_of_getElem? (i := 537) (by decide +kernel)) rfl
theorem xm_505 : Cond.selects "Clickbook" ⟨"Clickbook", "ofCue", "(II)I"⟩ ⟨"Clickbook", "ofCue", "(II)I"⟩ ∈ xk_T := xk_in (List.mem_of_getElem? (i := 538) (by decide +kernel)) rfl
theorem xm_506 : Cond.code ⟨"Clickbook", "ofCue", "(II)I"⟩ prog_1_method_21_code 4 (Option.some .int) ∈ xk_T := xk_in (List.mem_of_getElem? (i := 539) (by decide +kernel)) rfl
theorem xm_507 : Cond.methodLink "Clickbook" 253 ⟨"Clickbook", "runsOver", "(LClickbook$Cue;)Z"⟩ ∈ xk_T := xk_in (List.mem_of_getElem? (i := 540) (by decide +kernel)) rfl
theorem xm_509 : Cond.instanceMethod ⟨"Clickbook", "runsOver", "(LClickbook$Cue;)Z"⟩ ∈ xk_T := xk_in (List.mem_of_getElem? (i := 542) (by decide +kernel)) rfl
theorem xm_510 : Cond.code ⟨"Clickbook", "runsOver", "(LClickbook$Cue;)Z"⟩ prog_1_method_35_code 2 (Option.some .boolean) ∈ xk_T := xk_in (List.mem_of_getElem? (i := 543) (by decide +kernel)) rfl
theorem xm_511 : Cond.methodLink "Clickbook" 257 ⟨"Clickbook", "spoils", "(LClickbook$Cue;)Z"⟩ ∈ xk_T := xk_in (List.mem_of_getElem? (i := 544) (by decide +kernel)) rfl
theorem xm_513 : Cond.instanceMethod ⟨"Clickbook", "spoils", "(LClickbook$Cue;)Z"⟩ ∈ xk_T := xk_in (List.mem_of_getElem? (i := 546) (by decide +kernel)) rfl
theorem xm_514 : Cond.code ⟨"Clickbook", "spoils", "(LClickbook$Cue;)Z"⟩ prog_1_method_37_code 2 (Option.some .boolean) ∈ xk_T := xk_in (List.mem_of_getElem? (i := 547) (by decide +kernel)) rfl
theorem xm_515 : Cond.methodLink "Clickbook" 260 ⟨"Clickbook", "countValid", "(LClickbook$Cue;)I"⟩ ∈ xk_T := xk_in (List.mem_of_getElem? (i := 548) (by decide +kernel)) rfl
theorem xm_517 : Cond.instanceMethod ⟨"Clickbook", "countValid", "(LClickbook$Cue;)I"⟩ ∈ xk_T := xk_in (List.mem_of_getElem? (i := 550) (by decide +kernel)) rfl
theorem xm_518 : Cond.code ⟨"Clickbook", "countValid", "(LClickbook$Cue;)I"⟩ prog_1_method_41_code 5 (Option.some .int) ∈ xk_T := xk_in (List.mem_of_getElem? (i := 551) (by decide +kernel)) rfl
theorem xm_519 : Cond.methodLink "Clickbook" 296 ⟨"Clickbook$Take", "isValid", "()Z"⟩ ∈ xk_T := xk_in (List.mem_of_getElem? (i := 552) (by decide +kernel)) rfl
theorem xm_520 : Cond.instanceMethod ⟨"Clickbook$Take", "isValid", "()Z"⟩ ∈ xk_T := xk_in (List.mem_of_getElem? (i := 553) (by decide +kernel)) rfl
theorem xm_521 : Cond.selects "Clickbook$Take" ⟨"Clickbook$Take", "isValid", "()Z"⟩ ⟨"Clickbook$Take", "isValid", "()Z"⟩ ∈ xk_T := xk_in (List.mem_of_getElem? (i := 554) (by decide +kernel)) rfl
theorem xm_522 : Cond.code ⟨"Clickbook$Take", "isValid", "()Z"⟩ prog_5_method_2_code 1 (Option.some .boolean) ∈ xk_T := xk_in (List.mem_of_getElem? (i := 555) (by decide +kernel)) rfl
theorem xm_523 : Cond.methodLink "Clickbook" 264 ⟨"Clickbook", "secondsOf", "(LClickbook$Cue;)I"⟩ ∈ xk_T := xk_in (List.mem_of_getElem? (i := 556) (by decide +kernel)) rfl
theorem xm_525 : Cond.instanceMethod ⟨"Clickbook", "secondsOf", "(LClickbook$Cue;)I"⟩ ∈ xk_T := xk_in (List.mem_of_getElem? (i := 558) (by decide +kernel)) rfl
theorem xm_526 : Cond.code ⟨"Clickbook", "secondsOf", "(LClickbook$Cue;)I"⟩ prog_1_method_43_code 3 (Option.some .int) ∈ xk_T := xk_in (List.mem_of_getElem? (i := 559) (by decide +kernel)) rfl
theorem xm_528 : Cond.methodLink "ClickbookLaw" 79 ⟨"Clickbook", "ofTake", "(II)I"⟩ ∈ xk_T := xk_in (List.mem_of_getElem? (i := 561) (by decide +kernel)) rfl
theorem xm_529 : Cond.instanceMethod ⟨"Clickbook", "ofTake", "(II)I"⟩ ∈ xk_T := xk_in (List.mem_of_getElem? (i := 562) (by decide +kernel)) rfl
theorem xm_530 : Cond.selects "Clickbook" ⟨"Clickbook", "ofTake", "(II)I"⟩ ⟨"Clickbook", "ofTake", "(II)I"⟩ ∈ xk_T := xk_in (List.mem_of_getElem? (i := 563) (by decide +kernel)) rfl
theorem xm_531 : Cond.code ⟨"Clickbook", "ofTake", "(II)I"⟩ prog_1_method_24_code 4 (Option.some .int) ∈ xk_T := xk_in (List.mem_of_getElem? (i := 564) (by decide +kernel)) rfl
theorem xm_533 : Cond.methodLink "Clickbook" 300 ⟨"Clickbook$Take", "sumOfNotes", "()I"⟩ ∈ xk_T := xk_in (List.mem_of_getElem? (i := 566) (by decide +kernel)) rfl
theorem xm_534 : Cond.instanceMethod ⟨"Clickbook$Take", "sumOfNotes", "()I"⟩ ∈ xk_T := xk_in (List.mem_of_getElem? (i := 567) (by decide +kernel)) rfl
theorem xm_535 : Cond.selects "Clickbook$Take" ⟨"Clickbook$Take", "sumOfNotes", "()I"⟩ ⟨"Clickbook$Take", "sumOfNotes", "()I"⟩ ∈ xk_T := xk_in (List.mem_of_getElem? (i := 568) (by decide +kernel)) rfl
theorem xm_536 : Cond.code ⟨"Clickbook$Take", "sumOfNotes", "()I"⟩ prog_5_method_4_code 3 (Option.some .int) ∈ xk_T := xk_in (List.mem_of_getElem? (i := 569) (by decide +kernel)) rfl
theorem xm_537 : Cond.methodLink "Clickbook$Take" 31 ⟨"Clickbook$Take", "noteOf", "(I)I"⟩ ∈ xk_T := xk_in (List.mem_of_getElem? (i := 570) (by decide +kernel)) rfl
theorem xm_538 : Cond.instanceMethod ⟨"Clickbook$Take", "noteOf", "(I)I"⟩ ∈ xk_T := xk_in (List.mem_of_getElem? (i := 571) (by decide +kernel)) rfl
theorem xm_539 : Cond.selects "Clickbook$Take" ⟨"Clickbook$Take", "noteOf", "(I)I"⟩ ⟨"Clickbook$Take", "noteOf", "(I)I"⟩ ∈ xk_T := xk_in (List.mem_of_getElem? (i := 572) (by decide +kernel)) rfl
theorem xm_540 : Cond.code ⟨"Clickbook$Take", "noteOf", "(I)I"⟩ prog_5_method_3_code 4 (Option.some .int) ∈ xk_T := xk_in (List.mem_of_getElem? (i := 573) (by decide +kernel)) rfl
theorem xm_542 : Cond.methodLink "ClickbookLaw" 40 ⟨"Clickbook", "many", "(I)I"⟩ ∈ xk_T := xk_in (List.mem_of_getElem? (i := 575) (by decide +kernel)) rfl
theorem xm_543 : Cond.instanceMethod ⟨"Clickbook", "many", "(I)I"⟩ ∈ xk_T := xk_in (List.mem_of_getElem? (i := 576) (by decide +kernel)) rfl
theorem xm_544 : Cond.selects "Clickbook" ⟨"Clickbook", "many", "(I)I"⟩ ⟨"Clickbook", "many", "(I)I"⟩ ∈ xk_T := xk_in (List.mem_of_getElem? (i := 577) (by decide +kernel)) rfl
theorem xm_545 : Cond.code ⟨"Clickbook", "many", "(I)I"⟩ prog_1_method_26_code 2 (Option.some .int) ∈ xk_T := xk_in (List.mem_of_getElem? (i := 578) (by decide +kernel)) rfl
theorem xm_546 : Cond.methodLink "Clickbook" 310 ⟨"Clickbook", "countGone", "()I"⟩ ∈ xk_T := xk_in (List.mem_of_getElem? (i := 579) (by decide +kernel)) rfl
theorem xm_548 : Cond.instanceMethod ⟨"Clickbook", "countGone", "()I"⟩ ∈ xk_T := xk_in (List.mem_of_getElem? (i := 581) (by decide +kernel)) rfl
theorem xm_549 : Cond.code ⟨"Clickbook", "countGone", "()I"⟩ prog_1_method_34_code 3 (Option.some .int) ∈ xk_T := xk_in (List.mem_of_getElem? (i := 582) (by decide +kernel)) rfl
theorem xm_550 : Cond.methodLink "Clickbook" 313 ⟨"Clickbook", "countRunningOver", "()I"⟩ ∈ xk_T := xk_in (List.mem_of_getElem? (i := 583) (by decide +kernel)) rfl
theorem xm_552 : Cond.instanceMethod ⟨"Clickbook", "countRunningOver", "()I"⟩ ∈ xk_T := xk_in (List.mem_of_getElem? (i := 585) (by decide +kernel)) rfl
theorem xm_553 : Cond.code ⟨"Clickbook", "countRunningOver", "()I"⟩ prog_1_method_36_code 3 (Option.some .int) ∈ xk_T := xk_in (List.mem_of_getElem? (i := 586) (by decide +kernel)) rfl
theorem xm_554 : Cond.methodLink "Clickbook" 316 ⟨"Clickbook", "countSpoiling", "()I"⟩ ∈ xk_T := xk_in (List.mem_of_getElem? (i := 587) (by decide +kernel)) rfl
theorem xm_556 : Cond.instanceMethod ⟨"Clickbook", "countSpoiling", "()I"⟩ ∈ xk_T := xk_in (List.mem_of_getElem? (i := 589) (by decide +kernel)) rfl
theorem xm_557 : Cond.code ⟨"Clickbook", "countSpoiling", "()I"⟩ prog_1_method_38_code 3 (Option.some .int) ∈ xk_T := xk_in (List.mem_of_getElem? (i := 590) (by decide +kernel)) rfl
theorem xm_558 : Cond.methodLink "Clickbook" 319 ⟨"Clickbook", "countClashes", "()I"⟩ ∈ xk_T := xk_in (List.mem_of_getElem? (i := 591) (by decide +kernel)) rfl
theorem xm_560 : Cond.instanceMethod ⟨"Clickbook", "countClashes", "()I"⟩ ∈ xk_T := xk_in (List.mem_of_getElem? (i := 593) (by decide +kernel)) rfl
theorem xm_561 : Cond.code ⟨"Clickbook", "countClashes", "()I"⟩ prog_1_method_39_code 4 (Option.some .int) ∈ xk_T := xk_in (List.mem_of_getElem? (i := 594) (by decide +kernel)) rfl
theorem xm_562 : Cond.methodLink "Clickbook" 345 ⟨"Clickbook", "clash", "(LClickbook$Cue;LClickbook$Cue;)Z"⟩ ∈ xk_T := xk_in (List.mem_of_getElem? (i := 595) (by decide +kernel)) rfl
theorem xm_563 : Cond.static ⟨"Clickbook", "clash", "(LClickbook$Cue;LClickbook$Cue;)Z"⟩ ∈ xk_T := xk_in (List.mem_of_getElem? (i := 596) (by decide +kernel)) rfl
theorem xm_564 : Cond.code ⟨"Clickbook", "clash", "(LClickbook$Cue;LClickbook$Cue;)Z"⟩ prog_1_method_40_code 2 (Option.some .boolean) ∈ xk_T := xk_in (List.mem_of_getElem? (i := 597) (by decide +kernel)) rfl
theorem xm_565 : Cond.methodLink "Clickbook" 322 ⟨"Clickbook", "countAllValid", "()I"⟩ ∈ xk_T := xk_in (List.mem_of_getElem? (i := 598) (by decide +kernel)) rfl
theorem xm_567 : Cond.instanceMethod ⟨"Clickbook", "countAllValid", "()I"⟩ ∈ xk_T := xk_in (List.mem_of_getElem? (i := 600) (by decide +kernel)) rfl
theorem xm_568 : Cond.code ⟨"Clickbook", "countAllValid", "()I"⟩ prog_1_method_42_code 3 (Option.some .int) ∈ xk_T := xk_in (List.mem_of_getElem? (i := 601) (by decide +kernel)) rfl
theorem xm_569 : Cond.methodLink "Clickbook" 325 ⟨"Clickbook", "payToAll", "()I"⟩ ∈ xk_T := xk_in (List.mem_of_getElem? (i := 602) (by decide +kernel)) rfl
theorem xm_571 : Cond.instanceMethod ⟨"Clickbook", "payToAll", "()I"⟩ ∈ xk_T := xk_in (List.mem_of_getElem? (i := 604) (by decide +kernel)) rfl
theorem xm_572 : Cond.code ⟨"Clickbook", "payToAll", "()I"⟩ prog_1_method_45_code 3 (Option.some .int) ∈ xk_T := xk_in (List.mem_of_getElem? (i := 605) (by decide +kernel)) rfl
theorem xm_573 : Cond.methodLink "Clickbook" 307 ⟨"Clickbook", "payOf", "(LClickbook$Cue;)I"⟩ ∈ xk_T := xk_in (List.mem_of_getElem? (i := 606) (by decide +kernel)) rfl
theorem xm_575 : Cond.instanceMethod ⟨"Clickbook", "payOf", "(LClickbook$Cue;)I"⟩ ∈ xk_T := xk_in (List.mem_of_getElem? (i := 608) (by decide +kernel)) rfl
theorem xm_576 : Cond.code ⟨"Clickbook", "payOf", "(LClickbook$Cue;)I"⟩ prog_1_method_44_code 3 (Option.some .int) ∈ xk_T := xk_in (List.mem_of_getElem? (i := 609) (by decide +kernel)) rfl
theorem xm_578 : Cond.methodLink "ClickbookLaw" 89 ⟨"Clickbook", "meanNote", "()D"⟩ ∈ xk_T := xk_in (List.mem_of_getElem? (i := 611) (by decide +kernel)) rfl
theorem xm_579 : Cond.instanceMethod ⟨"Clickbook", "meanNote", "()D"⟩ ∈ xk_T := xk_in (List.mem_of_getElem? (i := 612) (by decide +kernel)) rfl
theorem xm_580 : Cond.selects "Clickbook" ⟨"Clickbook", "meanNote", "()D"⟩ ⟨"Clickbook", "meanNote", "()D"⟩ ∈ xk_T := xk_in (List.mem_of_getElem? (i := 613) (by decide +kernel)) rfl
theorem xm_581 : Cond.code ⟨"Clickbook", "meanNote", "()D"⟩ prog_1_method_27_code 5 (Option.some .double) ∈ xk_T := xk_in (List.mem_of_getElem? (i := 614) (by decide +kernel)) rfl
theorem xm_582 : Cond.methodLink "ClickbookLaw" 82 ⟨"Clickbook", "join", "(I)I"⟩ ∈ xk_T := xk_in (List.mem_of_getElem? (i := 615) (by decide +kernel)) rfl
theorem xm_583 : Cond.instanceMethod ⟨"Clickbook", "join", "(I)I"⟩ ∈ xk_T := xk_in (List.mem_of_getElem? (i := 616) (by decide +kernel)) rfl
theorem xm_584 : Cond.selects "Clickbook" ⟨"Clickbook", "join", "(I)I"⟩ ⟨"Clickbook", "join", "(I)I"⟩ ∈ xk_T := xk_in (List.mem_of_getElem? (i := 617) (by decide +kernel)) rfl
theorem xm_585 : Cond.code ⟨"Clickbook", "join", "(I)I"⟩ prog_1_method_46_code 2 (Option.some .int) ∈ xk_T := xk_in (List.mem_of_getElem? (i := 618) (by decide +kernel)) rfl
theorem xm_586 : Cond.methodLink "Clickbook" 349 ⟨"Clickbook$JoinTable", "fill", "(LClickbook$Cue;Ljava/util/ArrayList;)V"⟩ ∈ xk_T := xk_in (List.mem_of_getElem? (i := 619) (by decide +kernel)) rfl
theorem xm_587 : Cond.instanceMethod ⟨"Clickbook$JoinTable", "fill", "(LClickbook$Cue;Ljava/util/ArrayList;)V"⟩ ∈ xk_T := xk_in (List.mem_of_getElem? (i := 620) (by decide +kernel)) rfl
theorem xm_588 : Cond.selects "Clickbook$JoinTable" ⟨"Clickbook$JoinTable", "fill", "(LClickbook$Cue;Ljava/util/ArrayList;)V"⟩ ⟨"Clickbook$JoinTable", "fill", "(LClickbook$Cue;Ljava/util/ArrayList;)V"⟩ ∈ xk_T := xk_in (List.mem_of_getElem? (i := 621) (by decide +kernel)) rfl
theorem xm_589 : Cond.code ⟨"Clickbook$JoinTable", "fill", "(LClickbook$Cue;Ljava/util/ArrayList;)V"⟩ prog_4_method_2_code 5 (Option.none : Option FieldType) ∈ xk_T := xk_in (List.mem_of_getElem? (i := 622) (by decide +kernel)) rfl
theorem xm_590 : Cond.methodLink "Clickbook$JoinTable" 29 ⟨"java/util/ArrayList", "clear", "()V"⟩ ∈ xk_T := xk_in (List.mem_of_getElem? (i := 623) (by decide +kernel)) rfl
theorem xm_591 : Cond.instanceMethod ⟨"java/util/ArrayList", "clear", "()V"⟩ ∈ xk_T := xk_in (List.mem_of_getElem? (i := 624) (by decide +kernel)) rfl
theorem xm_592 : Cond.selects "java/util/ArrayList" ⟨"java/util/ArrayList", "clear", "()V"⟩ ⟨"java/util/ArrayList", "clear", "()V"⟩ ∈ xk_T := xk_in (List.mem_of_getElem? (i := 625) (by decide +kernel)) rfl
theorem xm_593 : Cond.code ⟨"java/util/ArrayList", "clear", "()V"⟩ prog_25_method_40_code 4 (Option.none : Option FieldType) ∈ xk_T := xk_in (List.mem_of_getElem? (i := 626) (by decide +kernel)) rfl
theorem xm_594 : Cond.methodLink "Clickbook$JoinTable" 32 ⟨"java/util/ArrayList", "size", "()I"⟩ ∈ xk_T := xk_in (List.mem_of_getElem? (i := 627) (by decide +kernel)) rfl
theorem xm_595 : Cond.methodLink "Clickbook$JoinTable" 36 ⟨"java/util/ArrayList", "get", "(I)Ljava/lang/Object;"⟩ ∈ xk_T := xk_in (List.mem_of_getElem? (i := 628) (by decide +kernel)) rfl
theorem xm_596 : Cond.classLink "Clickbook$JoinTable" 40 "Clickbook$Take" ∈ xk_T := xk_in (List.mem_of_getElem? (i := 629) (by decide +kernel)) rfl
theorem xm_597 : Cond.methodLink "Clickbook$JoinTable" 46 ⟨"Clickbook$Take", "isValid", "()Z"⟩ ∈ xk_T := xk_in (List.mem_of_getElem? (i := 630) (by decide +kernel)) rfl
theorem xm_598 : Cond.methodLink "Clickbook$JoinTable" 50 ⟨"java/util/ArrayList", "add", "(Ljava/lang/Object;)Z"⟩ ∈ xk_T := xk_in (List.mem_of_getElem? (i := 631) (by decide +kernel)) rfl
theorem xm_599 : Cond.methodLink "Clickbook$JoinTable" 54 ⟨"Clickbook$JoinTable", "fillBar", "(I)V"⟩ ∈ xk_T := xk_in (List.mem_of_getElem? (i := 632) (by decide +kernel)) rfl
theorem xm_601 : Cond.instanceMethod ⟨"Clickbook$JoinTable", "fillBar", "(I)V"⟩ ∈ xk_T := xk_in (List.mem_of_getElem? (i := 634) (by decide +kernel)) rfl
theorem xm_602 : Cond.code ⟨"Clickbook$JoinTable", "fillBar", "(I)V"⟩ prog_4_method_3_code 6 (Option.none : Option FieldType) ∈ xk_T := xk_in (List.mem_of_getElem? (i := 635) (by decide +kernel)) rfl
theorem xm_603 : Cond.methodLink "Clickbook$JoinTable" 58 ⟨"Clickbook$Take", "noteOf", "(I)I"⟩ ∈ xk_T := xk_in (List.mem_of_getElem? (i := 636) (by decide +kernel)) rfl
theorem xm_604 : Cond.methodLink "Clickbook$JoinTable" 62 ⟨"Clickbook$JoinTable", "bestPlace", "(II)I"⟩ ∈ xk_T := xk_in (List.mem_of_getElem? (i := 637) (by decide +kernel)) rfl
theorem xm_606 : Cond.instanceMethod ⟨"Clickbook$JoinTable", "bestPlace", "(II)I"⟩ ∈ xk_T := xk_in (List.mem_of_getElem? (i := 639) (by decide +kernel)) rfl
theorem xm_607 : Cond.code ⟨"Clickbook$JoinTable", "bestPlace", "(II)I"⟩ prog_4_method_6_code 7 (Option.some .int) ∈ xk_T := xk_in (List.mem_of_getElem? (i := 640) (by decide +kernel)) rfl
theorem xm_608 : Cond.methodLink "Clickbook$JoinTable" 66 ⟨"Clickbook$JoinTable", "worthFrom", "(II)I"⟩ ∈ xk_T := xk_in (List.mem_of_getElem? (i := 641) (by decide +kernel)) rfl
theorem xm_610 : Cond.instanceMethod ⟨"Clickbook$JoinTable", "worthFrom", "(II)I"⟩ ∈ xk_T := xk_in (List.mem_of_getElem? (i := 643) (by decide +kernel)) rfl
theorem xm_611 : Cond.code ⟨"Clickbook$JoinTable", "worthFrom", "(II)I"⟩ prog_4_method_8_code 4 (Option.some .int) ∈ xk_T := xk_in (List.mem_of_getElem? (i := 644) (by decide +kernel)) rfl
theorem xm_612 : Cond.methodLink "Clickbook$JoinTable" 72 ⟨"Clickbook$JoinTable", "slotOf", "(II)I"⟩ ∈ xk_T := xk_in (List.mem_of_getElem? (i := 645) (by decide +kernel)) rfl
theorem xm_613 : Cond.static ⟨"Clickbook$JoinTable", "slotOf", "(II)I"⟩ ∈ xk_T := xk_in (List.mem_of_getElem? (i := 646) (by decide +kernel)) rfl
theorem xm_614 : Cond.code ⟨"Clickbook$JoinTable", "slotOf", "(II)I"⟩ prog_4_method_9_code 3 (Option.some .int) ∈ xk_T := xk_in (List.mem_of_getElem? (i := 647) (by decide +kernel)) rfl
theorem xm_615 : Cond.methodLink "Clickbook$JoinTable" 69 ⟨"Clickbook$JoinTable", "costOfSplice", "(II)I"⟩ ∈ xk_T := xk_in (List.mem_of_getElem? (i := 648) (by decide +kernel)) rfl
theorem xm_617 : Cond.instanceMethod ⟨"Clickbook$JoinTable", "costOfSplice", "(II)I"⟩ ∈ xk_T := xk_in (List.mem_of_getElem? (i := 650) (by decide +kernel)) rfl
theorem xm_618 : Cond.code ⟨"Clickbook$JoinTable", "costOfSplice", "(II)I"⟩ prog_4_method_7_code 3 (Option.some .int) ∈ xk_T := xk_in (List.mem_of_getElem? (i := 651) (by decide +kernel)) rfl
theorem xm_619 : Cond.methodLink "Clickbook$JoinTable" 81 ⟨"java/lang/Math", "abs", "(I)I"⟩ ∈ xk_T := xk_in (List.mem_of_getElem? (i := 652) (by decide +kernel)) rfl
theorem xm_620 : Cond.methodLink "Clickbook" 353 ⟨"Clickbook$JoinTable", "bestWorth", "()I"⟩ ∈ xk_T := xk_in (List.mem_of_getElem? (i := 653) (by decide +kernel)) rfl
theorem xm_621 : Cond.instanceMethod ⟨"Clickbook$JoinTable", "bestWorth", "()I"⟩ ∈ xk_T := xk_in (List.mem_of_getElem? (i := 654) (by decide +kernel)) rfl
theorem xm_622 : Cond.selects "Clickbook$JoinTable" ⟨"Clickbook$JoinTable", "bestWorth", "()I"⟩ ⟨"Clickbook$JoinTable", "bestWorth", "()I"⟩ ∈ xk_T := xk_in (List.mem_of_getElem? (i := 655) (by decide +kernel)) rfl
theorem xm_623 : Cond.code ⟨"Clickbook$JoinTable", "bestWorth", "()I"⟩ prog_4_method_4_code 2 (Option.some .int) ∈ xk_T := xk_in (List.mem_of_getElem? (i := 656) (by decide +kernel)) rfl
theorem xm_624 : Cond.methodLink "ClickbookLaw" 54 ⟨"Clickbook", "bestStart", "(I)I"⟩ ∈ xk_T := xk_in (List.mem_of_getElem? (i := 657) (by decide +kernel)) rfl
theorem xm_625 : Cond.instanceMethod ⟨"Clickbook", "bestStart", "(I)I"⟩ ∈ xk_T := xk_in (List.mem_of_getElem? (i := 658) (by decide +kernel)) rfl
theorem xm_626 : Cond.selects "Clickbook" ⟨"Clickbook", "bestStart", "(I)I"⟩ ⟨"Clickbook", "bestStart", "(I)I"⟩ ∈ xk_T := xk_in (List.mem_of_getElem? (i := 659) (by decide +kernel)) rfl
theorem xm_627 : Cond.code ⟨"Clickbook", "bestStart", "(I)I"⟩ prog_1_method_48_code 9 (Option.some .int) ∈ xk_T := xk_in (List.mem_of_getElem? (i := 660) (by decide +kernel)) rfl
theorem xm_628 : Cond.methodLink "Clickbook" 359 ⟨"Clickbook", "markMetByOthers", "(I)V"⟩ ∈ xk_T := xk_in (List.mem_of_getElem? (i := 661) (by decide +kernel)) rfl
theorem xm_630 : Cond.instanceMethod ⟨"Clickbook", "markMetByOthers", "(I)V"⟩ ∈ xk_T := xk_in (List.mem_of_getElem? (i := 663) (by decide +kernel)) rfl
theorem xm_631 : Cond.code ⟨"Clickbook", "markMetByOthers", "(I)V"⟩ prog_1_method_54_code 3 (Option.none : Option FieldType) ∈ xk_T := xk_in (List.mem_of_getElem? (i := 664) (by decide +kernel)) rfl
theorem xm_632 : Cond.methodLink "Clickbook" 363 ⟨"Clickbook", "countMetWith", "(LClickbook$Cue;I[I)I"⟩ ∈ xk_T := xk_in (List.mem_of_getElem? (i := 665) (by decide +kernel)) rfl
theorem xm_634 : Cond.instanceMethod ⟨"Clickbook", "countMetWith", "(LClickbook$Cue;I[I)I"⟩ ∈ xk_T := xk_in (List.mem_of_getElem? (i := 667) (by decide +kernel)) rfl
theorem xm_635 : Cond.code ⟨"Clickbook", "countMetWith", "(LClickbook$Cue;I[I)I"⟩ prog_1_method_55_code 7 (Option.some .int) ∈ xk_T := xk_in (List.mem_of_getElem? (i := 668) (by decide +kernel)) rfl
theorem xm_636 : Cond.methodLink "ClickbookLaw" 95 ⟨"Clickbook", "bestClick", "(II)I"⟩ ∈ xk_T := xk_in (List.mem_of_getElem? (i := 669) (by decide +kernel)) rfl
theorem xm_637 : Cond.instanceMethod ⟨"Clickbook", "bestClick", "(II)I"⟩ ∈ xk_T := xk_in (List.mem_of_getElem? (i := 670) (by decide +kernel)) rfl
theorem xm_638 : Cond.selects "Clickbook" ⟨"Clickbook", "bestClick", "(II)I"⟩ ⟨"Clickbook", "bestClick", "(II)I"⟩ ∈ xk_T := xk_in (List.mem_of_getElem? (i := 671) (by decide +kernel)) rfl
theorem xm_639 : Cond.code ⟨"Clickbook", "bestClick", "(II)I"⟩ prog_1_method_49_code 11 (Option.some .int) ∈ xk_T := xk_in (List.mem_of_getElem? (i := 672) (by decide +kernel)) rfl
theorem xm_640 : Cond.methodLink "Clickbook" 367 ⟨"Clickbook", "countMetWithClick", "(LClickbook$Cue;II)I"⟩ ∈ xk_T := xk_in (List.mem_of_getElem? (i := 673) (by decide +kernel)) rfl
theorem xm_642 : Cond.instanceMethod ⟨"Clickbook", "countMetWithClick", "(LClickbook$Cue;II)I"⟩ ∈ xk_T := xk_in (List.mem_of_getElem? (i := 675) (by decide +kernel)) rfl
theorem xm_643 : Cond.code ⟨"Clickbook", "countMetWithClick", "(LClickbook$Cue;II)I"⟩ prog_1_method_56_code 4 (Option.some .int) ∈ xk_T := xk_in (List.mem_of_getElem? (i := 676) (by decide +kernel)) rfl
theorem xm_644 : Cond.methodLink "Clickbook" 414 ⟨"Clickbook$Cue", "layOut", "([III)I"⟩ ∈ xk_T := xk_in (List.mem_of_getElem? (i := 677) (by decide +kernel)) rfl
theorem xm_645 : Cond.methodLink "ClickbookLaw" 98 ⟨"Clickbook", "wouldMeet", "(II)I"⟩ ∈ xk_T := xk_in (List.mem_of_getElem? (i := 678) (by decide +kernel)) rfl
theorem xm_646 : Cond.instanceMethod ⟨"Clickbook", "wouldMeet", "(II)I"⟩ ∈ xk_T := xk_in (List.mem_of_getElem? (i := 679) (by decide +kernel)) rfl
theorem xm_647 : Cond.selects "Clickbook" ⟨"Clickbook", "wouldMeet", "(II)I"⟩ ⟨"Clickbook", "wouldMeet", "(II)I"⟩ ∈ xk_T := xk_in (List.mem_of_getElem? (i := 680) (by decide +kernel)) rfl
theorem xm_648 : Cond.code ⟨"Clickbook", "wouldMeet", "(II)I"⟩ prog_1_method_50_code 6 (Option.some .int) ∈ xk_T := xk_in (List.mem_of_getElem? (i := 681) (by decide +kernel)) rfl
theorem xm_649 : Cond.methodLink "Clickbook" 76 ⟨"Clickbook", "refuseBadCut", "(II)V"⟩ ∈ xk_T := xk_in (List.mem_of_getElem? (i := 682) (by decide +kernel)) rfl
theorem xm_651 : Cond.instanceMethod ⟨"Clickbook", "refuseBadCut", "(II)V"⟩ ∈ xk_T := xk_in (List.mem_of_getElem? (i := 684) (by decide +kernel)) rfl
theorem xm_652 : Cond.code ⟨"Clickbook", "refuseBadCut", "(II)V"⟩ prog_1_method_6_code 3 (Option.none : Option FieldType) ∈ xk_T := xk_in (List.mem_of_getElem? (i := 685) (by decide +kernel)) rfl
theorem xm_655 : Cond.methodLink "Clickbook" 115 ⟨"Clickbook", "isTakenOut", "(III)Z"⟩ ∈ xk_T := xk_in (List.mem_of_getElem? (i := 688) (by decide +kernel)) rfl
theorem xm_656 : Cond.static ⟨"Clickbook", "isTakenOut", "(III)Z"⟩ ∈ xk_T := xk_in (List.mem_of_getElem? (i := 689) (by decide +kernel)) rfl
theorem xm_657 : Cond.code ⟨"Clickbook", "isTakenOut", "(III)Z"⟩ prog_1_method_7_code 3 (Option.some .boolean) ∈ xk_T := xk_in (List.mem_of_getElem? (i := 690) (by decide +kernel)) rfl
theorem xm_658 : Cond.methodLink "Clickbook" 371 ⟨"Clickbook", "wouldBeMet", "(LClickbook$Hit;II)Z"⟩ ∈ xk_T := xk_in (List.mem_of_getElem? (i := 691) (by decide +kernel)) rfl
theorem xm_660 : Cond.instanceMethod ⟨"Clickbook", "wouldBeMet", "(LClickbook$Hit;II)Z"⟩ ∈ xk_T := xk_in (List.mem_of_getElem? (i := 693) (by decide +kernel)) rfl
theorem xm_661 : Cond.code ⟨"Clickbook", "wouldBeMet", "(LClickbook$Hit;II)Z"⟩ prog_1_method_57_code 7 (Option.some .boolean) ∈ xk_T := xk_in (List.mem_of_getElem? (i := 694) (by decide +kernel)) rfl
theorem xm_662 : Cond.methodLink "Clickbook" 95 ⟨"Clickbook", "movedFrame", "(III)I"⟩ ∈ xk_T := xk_in (List.mem_of_getElem? (i := 695) (by decide +kernel)) rfl
theorem xm_663 : Cond.static ⟨"Clickbook", "movedFrame", "(III)I"⟩ ∈ xk_T := xk_in (List.mem_of_getElem? (i := 696) (by decide +kernel)) rfl
theorem xm_664 : Cond.code ⟨"Clickbook", "movedFrame", "(III)I"⟩ prog_1_method_8_code 3 (Option.some .int) ∈ xk_T := xk_in (List.mem_of_getElem? (i := 697) (by decide +kernel)) rfl
theorem xm_665 : Cond.methodLink "ClickbookLaw" 85 ⟨"Clickbook", "digest", "()J"⟩ ∈ xk_T := xk_in (List.mem_of_getElem? (i := 698) (by decide +kernel)) rfl
theorem xm_666 : Cond.instanceMethod ⟨"Clickbook", "digest", "()J"⟩ ∈ xk_T := xk_in (List.mem_of_getElem? (i := 699) (by decide +kernel)) rfl
theorem xm_667 : Cond.selects "Clickbook" ⟨"Clickbook", "digest", "()J"⟩ ⟨"Clickbook", "digest", "()J"⟩ ∈ xk_T := xk_in (List.mem_of_getElem? (i := 700) (by decide +kernel)) rfl
theorem xm_668 : Cond.code ⟨"Clickbook", "digest", "()J"⟩ prog_1_method_51_code 5 (Option.some .long) ∈ xk_T := xk_in (List.mem_of_getElem? (i := 701) (by decide +kernel)) rfl
theorem xm_669 : Cond.constantLong "Clickbook" 375 58231 ∈ xk_T := xk_in (List.mem_of_getElem? (i := 702) (by decide +kernel)) rfl
theorem xm_670 : Cond.methodLink "Clickbook" 377 ⟨"Clickbook", "many", "(I)I"⟩ ∈ xk_T := xk_in (List.mem_of_getElem? (i := 703) (by decide +kernel)) rfl
theorem xm_671 : Cond.methodLink "Clickbook" 380 ⟨"Clickbook", "mixed", "(JJ)J"⟩ ∈ xk_T := xk_in (List.mem_of_getElem? (i := 704) (by decide +kernel)) rfl
theorem xm_672 : Cond.static ⟨"Clickbook", "mixed", "(JJ)J"⟩ ∈ xk_T := xk_in (List.mem_of_getElem? (i := 705) (by decide +kernel)) rfl
theorem xm_673 : Cond.code ⟨"Clickbook", "mixed", "(JJ)J"⟩ prog_1_method_53_code 4 (Option.some .long) ∈ xk_T := xk_in (List.mem_of_getElem? (i := 706) (by decide +kernel)) rfl
theorem xm_674 : Cond.constantLong "Clickbook" 412 31 ∈ xk_T := xk_in (List.mem_of_getElem? (i := 707) (by decide +kernel)) rfl
theorem xm_675 : Cond.methodLink "Clickbook" 384 ⟨"Clickbook", "ofHit", "(II)I"⟩ ∈ xk_T := xk_in (List.mem_of_getElem? (i := 708) (by decide +kernel)) rfl
theorem xm_676 : Cond.instanceMethod ⟨"Clickbook", "ofHit", "(II)I"⟩ ∈ xk_T := xk_in (List.mem_of_getElem? (i := 709) (by decide +kernel)) rfl
theorem xm_677 : Cond.selects "Clickbook" ⟨"Clickbook", "ofHit", "(II)I"⟩ ⟨"Clickbook", "ofHit", "(II)I"⟩ ∈ xk_T := xk_in (List.mem_of_getElem? (i := 710) (by decide +kernel)) rfl
theorem xm_678 : Cond.code ⟨"Clickbook", "ofHit", "(II)I"⟩ prog_1_method_20_code 4 (Option.some .int) ∈ xk_T := xk_in (List.mem_of_getElem? (i := 711) (by decide +kernel)) rfl
theorem xm_680 : Cond.methodLink "Clickbook" 225 ⟨"Clickbook", "missOf", "(LClickbook$Hit;)I"⟩ ∈ xk_T := xk_in (List.mem_of_getElem? (i := 713) (by decide +kernel)) rfl
theorem xm_682 : Cond.instanceMethod ⟨"Clickbook", "missOf", "(LClickbook$Hit;)I"⟩ ∈ xk_T := xk_in (List.mem_of_getElem? (i := 715) (by decide +kernel)) rfl
theorem xm_683 : Cond.code ⟨"Clickbook", "missOf", "(LClickbook$Hit;)I"⟩ prog_1_method_29_code 3 (Option.some .int) ∈ xk_T := xk_in (List.mem_of_getElem? (i := 716) (by decide +kernel)) rfl
theorem xm_684 : Cond.methodLink "Clickbook" 233 ⟨"Clickbook", "nearestCue", "(LClickbook$Hit;)I"⟩ ∈ xk_T := xk_in (List.mem_of_getElem? (i := 717) (by decide +kernel)) rfl
theorem xm_686 : Cond.instanceMethod ⟨"Clickbook", "nearestCue", "(LClickbook$Hit;)I"⟩ ∈ xk_T := xk_in (List.mem_of_getElem? (i := 719) (by decide +kernel)) rfl
theorem xm_687 : Cond.code ⟨"Clickbook", "nearestCue", "(LClickbook$Hit;)I"⟩ prog_1_method_28_code 6 (Option.some .int) ∈ xk_T := xk_in (List.mem_of_getElem? (i := 720) (by decide +kernel)) rfl
theorem xm_688 : Cond.methodLink "Clickbook" 330 ⟨"Clickbook$Cue", "missOf", "(I)I"⟩ ∈ xk_T := xk_in (List.mem_of_getElem? (i := 721) (by decide +kernel)) rfl
theorem xm_689 : Cond.instanceMethod ⟨"Clickbook$Cue", "missOf", "(I)I"⟩ ∈ xk_T := xk_in (List.mem_of_getElem? (i := 722) (by decide +kernel)) rfl
theorem xm_690 : Cond.selects "Clickbook$Cue" ⟨"Clickbook$Cue", "missOf", "(I)I"⟩ ⟨"Clickbook$Cue", "missOf", "(I)I"⟩ ∈ xk_T := xk_in (List.mem_of_getElem? (i := 723) (by decide +kernel)) rfl
theorem xm_691 : Cond.code ⟨"Clickbook$Cue", "missOf", "(I)I"⟩ prog_2_method_10_code 3 (Option.some .int) ∈ xk_T := xk_in (List.mem_of_getElem? (i := 724) (by decide +kernel)) rfl
theorem xm_692 : Cond.methodLink "Clickbook$Cue" 73 ⟨"Clickbook$Cue", "nearestBeat", "(I)I"⟩ ∈ xk_T := xk_in (List.mem_of_getElem? (i := 725) (by decide +kernel)) rfl
theorem xm_693 : Cond.instanceMethod ⟨"Clickbook$Cue", "nearestBeat", "(I)I"⟩ ∈ xk_T := xk_in (List.mem_of_getElem? (i := 726) (by decide +kernel)) rfl
theorem xm_694 : Cond.selects "Clickbook$Cue" ⟨"Clickbook$Cue", "nearestBeat", "(I)I"⟩ ⟨"Clickbook$Cue", "nearestBeat", "(I)I"⟩ ∈ xk_T := xk_in (List.mem_of_getElem? (i := 727) (by decide +kernel)) rfl
theorem xm_695 : Cond.code ⟨"Clickbook$Cue", "nearestBeat", "(I)I"⟩ prog_2_method_9_code 6 (Option.some .int) ∈ xk_T := xk_in (List.mem_of_getElem? (i := 728) (by decide +kernel)) rfl
theorem xm_696 : Cond.methodLink "Clickbook$Cue" 76 ⟨"Clickbook$Cue", "beatFrame", "(I)I"⟩ ∈ xk_T := xk_in (List.mem_of_getElem? (i := 729) (by decide +kernel)) rfl
theorem xm_697 : Cond.instanceMethod ⟨"Clickbook$Cue", "beatFrame", "(I)I"⟩ ∈ xk_T := xk_in (List.mem_of_getElem? (i := 730) (by decide +kernel)) rfl
theorem xm_698 : Cond.selects "Clickbook$Cue" ⟨"Clickbook$Cue", "beatFrame", "(I)I"⟩ ⟨"Clickbook$Cue", "beatFrame", "(I)I"⟩ ∈ xk_T := xk_in (List.mem_of_getElem? (i := 731) (by decide +kernel)) rfl
theorem xm_699 : Cond.code ⟨"Clickbook$Cue", "beatFrame", "(I)I"⟩ prog_2_method_5_code 2 (Option.some .int) ∈ xk_T := xk_in (List.mem_of_getElem? (i := 732) (by decide +kernel)) rfl
theorem xm_700 : Cond.methodLink "Clickbook" 236 ⟨"Clickbook", "nearestBeat", "(LClickbook$Hit;)I"⟩ ∈ xk_T := xk_in (List.mem_of_getElem? (i := 733) (by decide +kernel)) rfl
theorem xm_702 : Cond.instanceMethod ⟨"Clickbook", "nearestBeat", "(LClickbook$Hit;)I"⟩ ∈ xk_T := xk_in (List.mem_of_getElem? (i := 735) (by decide +kernel)) rfl
theorem xm_703 : Cond.code ⟨"Clickbook", "nearestBeat", "(LClickbook$Hit;)I"⟩ prog_1_method_30_code 3 (Option.some .int) ∈ xk_T := xk_in (List.mem_of_getElem? (i := 736) (by decide +kernel)) rfl
theorem xm_704 : Cond.methodLink "Clickbook" 332 ⟨"Clickbook$Cue", "nearestBeat", "(I)I"⟩ ∈ xk_T := xk_in (List.mem_of_getElem? (i := 737) (by decide +kernel)) rfl
theorem xm_706 : Cond.methodLink "Clickbook" 387 ⟨"Clickbook", "mixedCue", "(JI)J"⟩ ∈ xk_T := xk_in (List.mem_of_getElem? (i := 739) (by decide +kernel)) rfl
theorem xm_708 : Cond.instanceMethod ⟨"Clickbook", "mixedCue", "(JI)J"⟩ ∈ xk_T := xk_in (List.mem_of_getElem? (i := 741) (by decide +kernel)) rfl
theorem xm_709 : Cond.code ⟨"Clickbook", "mixedCue", "(JI)J"⟩ prog_1_method_52_code 9 (Option.some .long) ∈ xk_T := xk_in (List.mem_of_getElem? (i := 742) (by decide +kernel)) rfl
theorem xm_710 : Cond.methodLink "Clickbook" 406 ⟨"Clickbook", "ofCue", "(II)I"⟩ ∈ xk_T := xk_in (List.mem_of_getElem? (i := 743) (by decide +kernel)) rfl
theorem xm_711 : Cond.methodLink "Clickbook" 409 ⟨"Clickbook", "ofBar", "(III)I"⟩ ∈ xk_T := xk_in (List.mem_of_getElem? (i := 744) (by decide +kernel)) rfl
theorem xm_712 : Cond.instanceMethod ⟨"Clickbook", "ofBar", "(III)I"⟩ ∈ xk_T := xk_in (List.mem_of_getElem? (i := 745) (by decide +kernel)) rfl
theorem xm_713 : Cond.selects "Clickbook" ⟨"Clickbook", "ofBar", "(III)I"⟩ ⟨"Clickbook", "ofBar", "(III)I"⟩ ∈ xk_T := xk_in (List.mem_of_getElem? (i := 746) (by decide +kernel)) rfl
theorem xm_714 : Cond.code ⟨"Clickbook", "ofBar", "(III)I"⟩ prog_1_method_22_code 5 (Option.some .int) ∈ xk_T := xk_in (List.mem_of_getElem? (i := 747) (by decide +kernel)) rfl
theorem xm_715 : Cond.methodLink "Clickbook" 275 ⟨"Clickbook$Cue", "firstBeat", "(I)I"⟩ ∈ xk_T := xk_in (List.mem_of_getElem? (i := 748) (by decide +kernel)) rfl
theorem xm_716 : Cond.methodLink "Clickbook" 279 ⟨"Clickbook$Cue", "beatFrame", "(I)I"⟩ ∈ xk_T := xk_in (List.mem_of_getElem? (i := 749) (by decide +kernel)) rfl
theorem xm_718 : Cond.methodLink "Clickbook" 356 ⟨"Clickbook$JoinTable", "takeOf", "(I)I"⟩ ∈ xk_T := xk_in (List.mem_of_getElem? (i := 751) (by decide +kernel)) rfl
theorem xm_719 : Cond.instanceMethod ⟨"Clickbook$JoinTable", "takeOf", "(I)I"⟩ ∈ xk_T := xk_in (List.mem_of_getElem? (i := 752) (by decide +kernel)) rfl
theorem xm_720 : Cond.selects "Clickbook$JoinTable" ⟨"Clickbook$JoinTable", "takeOf", "(I)I"⟩ ⟨"Clickbook$JoinTable", "takeOf", "(I)I"⟩ ∈ xk_T := xk_in (List.mem_of_getElem? (i := 753) (by decide +kernel)) rfl
theorem xm_721 : Cond.code ⟨"Clickbook$JoinTable", "takeOf", "(I)I"⟩ prog_4_method_5_code 4 (Option.some .int) ∈ xk_T := xk_in (List.mem_of_getElem? (i := 754) (by decide +kernel)) rfl
theorem xm_722 : Cond.methodLink "Clickbook" 391 ⟨"Clickbook", "ofTake", "(II)I"⟩ ∈ xk_T := xk_in (List.mem_of_getElem? (i := 755) (by decide +kernel)) rfl
theorem xm_723 : Cond.methodLink "Clickbook" 394 ⟨"Clickbook", "sheet", "(I)I"⟩ ∈ xk_T := xk_in (List.mem_of_getElem? (i := 756) (by decide +kernel)) rfl
theorem xm_724 : Cond.instanceMethod ⟨"Clickbook", "sheet", "(I)I"⟩ ∈ xk_T := xk_in (List.mem_of_getElem? (i := 757) (by decide +kernel)) rfl
theorem xm_725 : Cond.selects "Clickbook" ⟨"Clickbook", "sheet", "(I)I"⟩ ⟨"Clickbook", "sheet", "(I)I"⟩ ∈ xk_T := xk_in (List.mem_of_getElem? (i := 758) (by decide +kernel)) rfl
theorem xm_726 : Cond.code ⟨"Clickbook", "sheet", "(I)I"⟩ prog_1_method_25_code 5 (Option.some .int) ∈ xk_T := xk_in (List.mem_of_getElem? (i := 759) (by decide +kernel)) rfl
theorem xm_728 : Cond.methodLink "Clickbook" 397 ⟨"Clickbook", "wouldMeet", "(II)I"⟩ ∈ xk_T := xk_in (List.mem_of_getElem? (i := 761) (by decide +kernel)) rfl
theorem xm_729 : Cond.methodLink "Clickbook" 400 ⟨"java/util/ArrayList", "isEmpty", "()Z"⟩ ∈ xk_T := xk_in (List.mem_of_getElem? (i := 762) (by decide +kernel)) rfl
theorem xm_730 : Cond.instanceMethod ⟨"java/util/ArrayList", "isEmpty", "()Z"⟩ ∈ xk_T := xk_in (List.mem_of_getElem? (i := 763) (by decide +kernel)) rfl
theorem xm_731 : Cond.selects "java/util/ArrayList" ⟨"java/util/ArrayList", "isEmpty", "()Z"⟩ ⟨"java/util/ArrayList", "isEmpty", "()Z"⟩ ∈ xk_T := xk_in (List.mem_of_getElem? (i := 764) (by decide +kernel)) rfl
theorem xm_732 : Cond.code ⟨"java/util/ArrayList", "isEmpty", "()Z"⟩ prog_25_method_9_code 1 (Option.some .boolean) ∈ xk_T := xk_in (List.mem_of_getElem? (i := 765) (by decide +kernel)) rfl
theorem xm_733 : Cond.methodLink "Clickbook" 403 ⟨"Clickbook", "bestStart", "(I)I"⟩ ∈ xk_T := xk_in (List.mem_of_getElem? (i := 766) (by decide +kernel)) rfl
theorem xm_734 : Cond.methodLink "ClickbookLaw" 18 ⟨"ClickbookLaw", "below", "(II)I"⟩ ∈ xk_T := xk_in (List.mem_of_getElem? (i := 767) (by decide +kernel)) rfl
theorem xm_735 : Cond.static ⟨"ClickbookLaw", "below", "(II)I"⟩ ∈ xk_T := xk_in (List.mem_of_getElem? (i := 768) (by decide +kernel)) rfl
theorem xm_736 : Cond.code ⟨"ClickbookLaw", "below", "(II)I"⟩ method_2_code 2 (Option.some .int) ∈ xk_T := xk_in (List.mem_of_getElem? (i := 769) (by decide +kernel)) rfl
theorem xm_737 : Cond.constant "ClickbookLaw" 7 2147483647 ∈ xk_T := xk_in (List.mem_of_getElem? (i := 770) (by decide +kernel)) rfl
theorem xm_738 : Cond.methodLink "ClickbookLaw" 12 ⟨"ClickbookLaw", "cell", "([II)I"⟩ ∈ xk_T := xk_in (List.mem_of_getElem? (i := 771) (by decide +kernel)) rfl
theorem xm_739 : Cond.static ⟨"ClickbookLaw", "cell", "([II)I"⟩ ∈ xk_T := xk_in (List.mem_of_getElem? (i := 772) (by decide +kernel)) rfl
theorem xm_740 : Cond.code ⟨"ClickbookLaw", "cell", "([II)I"⟩ method_3_code 2 (Option.some .int) ∈ xk_T := xk_in (List.mem_of_getElem? (i := 773) (by decide +kernel)) rfl
theorem xm_741 : Cond.constant "ClickbookLaw" 8 790386105 ∈ xk_T := xk_in (List.mem_of_getElem? (i := 774) (by decide +kernel)) rfl
theorem xm_742 : Cond.methodLink "ClickbookLaw" 50 ⟨"ClickbookLaw", "isBack", "(LClickbook;II)Z"⟩ ∈ xk_T := xk_in (List.mem_of_getElem? (i := 775) (by decide +kernel)) rfl
theorem xm_743 : Cond.static ⟨"ClickbookLaw", "isBack", "(LClickbook;II)Z"⟩ ∈ xk_T := xk_in (List.mem_of_getElem? (i := 776) (by decide +kernel)) rfl
theorem xm_744 : Cond.code ⟨"ClickbookLaw", "isBack", "(LClickbook;II)Z"⟩ method_5_code 13 (Option.some .boolean) ∈ xk_T := xk_in (List.mem_of_getElem? (i := 777) (by decide +kernel)) rfl
theorem xm_745 : Cond.methodLink "ClickbookLaw" 101 ⟨"Clickbook", "ofHit", "(II)I"⟩ ∈ xk_T := xk_in (List.mem_of_getElem? (i := 778) (by decide +kernel)) rfl
theorem xm_746 : Cond.methodLink "ClickbookLaw" 104 ⟨"Clickbook", "change", "(II)I"⟩ ∈ xk_T := xk_in (List.mem_of_getElem? (i := 779) (by decide +kernel)) rfl
theorem xm_747 : Cond.instanceMethod ⟨"Clickbook", "change", "(II)I"⟩ ∈ xk_T := xk_in (List.mem_of_getElem? (i := 780) (by decide +kernel)) rfl
theorem xm_748 : Cond.selects "Clickbook" ⟨"Clickbook", "change", "(II)I"⟩ ⟨"Clickbook", "change", "(II)I"⟩ ∈ xk_T := xk_in (List.mem_of_getElem? (i := 781) (by decide +kernel)) rfl
theorem xm_749 : Cond.code ⟨"Clickbook", "change", "(II)I"⟩ prog_1_method_4_code 5 (Option.some .int) ∈ xk_T := xk_in (List.mem_of_getElem? (i := 782) (by decide +kernel)) rfl
theorem xm_751 : Cond.methodLink "Clickbook" 84 ⟨"Clickbook", "cutCues", "(II)I"⟩ ∈ xk_T := xk_in (List.mem_of_getElem? (i := 784) (by decide +kernel)) rfl
theorem xm_753 : Cond.instanceMethod ⟨"Clickbook", "cutCues", "(II)I"⟩ ∈ xk_T := xk_in (List.mem_of_getElem? (i := 786) (by decide +kernel)) rfl
theorem xm_754 : Cond.code ⟨"Clickbook", "cutCues", "(II)I"⟩ prog_1_method_5_code 6 (Option.some .int) ∈ xk_T := xk_in (List.mem_of_getElem? (i := 787) (by decide +kernel)) rfl
theorem xm_755 : Cond.methodLink "Clickbook" 101 ⟨"Clickbook$Cue", "isTouched", "(II)Z"⟩ ∈ xk_T := xk_in (List.mem_of_getElem? (i := 788) (by decide +kernel)) rfl
theorem xm_756 : Cond.instanceMethod ⟨"Clickbook$Cue", "isTouched", "(II)Z"⟩ ∈ xk_T := xk_in (List.mem_of_getElem? (i := 789) (by decide +kernel)) rfl
theorem xm_757 : Cond.selects "Clickbook$Cue" ⟨"Clickbook$Cue", "isTouched", "(II)Z"⟩ ⟨"Clickbook$Cue", "isTouched", "(II)Z"⟩ ∈ xk_T := xk_in (List.mem_of_getElem? (i := 790) (by decide +kernel)) rfl
theorem xm_758 : Cond.code ⟨"Clickbook$Cue", "isTouched", "(II)Z"⟩ prog_2_method_8_code 3 (Option.some .boolean) ∈ xk_T := xk_in (List.mem_of_getElem? (i := 791) (by decide +kernel)) rfl
theorem xm_759 : Cond.methodLink "Clickbook$Cue" 64 ⟨"Clickbook$Cue", "end", "()I"⟩ ∈ xk_T := xk_in (List.mem_of_getElem? (i := 792) (by decide +kernel)) rfl
theorem xm_760 : Cond.methodLink "Clickbook" 92 ⟨"Clickbook$Hit", "cut", "(II)V"⟩ ∈ xk_T := xk_in (List.mem_of_getElem? (i := 793) (by decide +kernel)) rfl
theorem xm_761 : Cond.instanceMethod ⟨"Clickbook$Hit", "cut", "(II)V"⟩ ∈ xk_T := xk_in (List.mem_of_getElem? (i := 794) (by decide +kernel)) rfl
theorem xm_762 : Cond.selects "Clickbook$Hit" ⟨"Clickbook$Hit", "cut", "(II)V"⟩ ⟨"Clickbook$Hit", "cut", "(II)V"⟩ ∈ xk_T := xk_in (List.mem_of_getElem? (i := 795) (by decide +kernel)) rfl
theorem xm_763 : Cond.code ⟨"Clickbook$Hit", "cut", "(II)V"⟩ prog_3_method_2_code 3 (Option.none : Option FieldType) ∈ xk_T := xk_in (List.mem_of_getElem? (i := 796) (by decide +kernel)) rfl
theorem xm_764 : Cond.methodLinkNest "Clickbook$Hit" 20 ⟨"Clickbook", "isTakenOut", "(III)Z"⟩ "Clickbook" ∈ lw_tbl := List.mem_of_getElem? (i := 797) (by decide +kernel)
theorem xm_765 : Cond.methodLinkNest "Clickbook$Hit" 26 ⟨"Clickbook", "movedFrame", "(III)I"⟩ "Clickbook" ∈ lw_tbl := List.mem_of_getElem? (i := 798) (by decide +kernel)
theorem xm_766 : Cond.methodLink "ClickbookLaw" 75 ⟨"ClickbookLaw", "areWell", "(LClickbook;)Z"⟩ ∈ xk_T := xk_in (List.mem_of_getElem? (i := 799) (by decide +kernel)) rfl
theorem xm_767 : Cond.static ⟨"ClickbookLaw", "areWell", "(LClickbook;)Z"⟩ ∈ xk_T := xk_in (List.mem_of_getElem? (i := 800) (by decide +kernel)) rfl
theorem xm_768 : Cond.code ⟨"ClickbookLaw", "areWell", "(LClickbook;)Z"⟩ method_6_code 8 (Option.some .boolean) ∈ xk_T := xk_in (List.mem_of_getElem? (i := 801) (by decide +kernel)) rfl
theorem xm_769 : Cond.methodLink "ClickbookLaw" 107 ⟨"Clickbook", "beat", "(II)I"⟩ ∈ xk_T := xk_in (List.mem_of_getElem? (i := 802) (by decide +kernel)) rfl
theorem xm_770 : Cond.instanceMethod ⟨"Clickbook", "beat", "(II)I"⟩ ∈ xk_T := xk_in (List.mem_of_getElem? (i := 803) (by decide +kernel)) rfl
theorem xm_771 : Cond.selects "Clickbook" ⟨"Clickbook", "beat", "(II)I"⟩ ⟨"Clickbook", "beat", "(II)I"⟩ ∈ xk_T := xk_in (List.mem_of_getElem? (i := 804) (by decide +kernel)) rfl
theorem xm_772 : Cond.code ⟨"Clickbook", "beat", "(II)I"⟩ prog_1_method_23_code 4 (Option.some .int) ∈ xk_T := xk_in (List.mem_of_getElem? (i := 805) (by decide +kernel)) rfl
theorem xm_774 : Cond.methodLink "ClickbookLaw" 57 ⟨"java/lang/Math", "abs", "(I)I"⟩ ∈ xk_T := xk_in (List.mem_of_getElem? (i := 807) (by decide +kernel)) rfl
theorem xm_775 : Cond.methodLink "ClickbookLaw" 110 ⟨"Clickbook", "sheet", "(I)I"⟩ ∈ xk_T := xk_in (List.mem_of_getElem? (i := 808) (by decide +kernel)) rfl
theorem xm_776 : Cond.methodLink "ClickbookLaw" 65 ⟨"java/lang/Math", "max", "(II)I"⟩ ∈ xk_T := xk_in (List.mem_of_getElem? (i := 809) (by decide +kernel)) rfl
theorem xm_777 : Cond.constantDouble "ClickbookLaw" 93 (4621256167635550208 : UInt64) ∈ xk_T := xk_in (List.mem_of_getElem? (i := 810) (by decide +kernel)) rfl
theorem xm_778 : Cond.sameMethod "java/lang/Throwable" "java/lang/Throwable" "fillInStackTrace" "(I)Ljava/lang/Throwable;" ∈ xk_T := xk_in (List.mem_of_getElem? (i := 811) (by decide +kernel)) rfl
theorem xm_779 : Cond.castable "Clickbook" "java/lang/Object" ∈ lw_tbl := List.mem_of_getElem? (i := 812) (by decide +kernel)
theorem xm_780 : Cond.castable "java/util/ArrayList" "java/lang/Object" ∈ lw_tbl := List.mem_of_getElem? (i := 813) (by decide +kernel)
theorem xm_781 : Cond.castable "Clickbook$JoinTable" "java/lang/Object" ∈ lw_tbl := List.mem_of_getElem? (i := 814) (by decide +kernel)
theorem xm_782 : Cond.castable "java/lang/IllegalArgumentException" "java/lang/Object" ∈ lw_tbl := List.mem_of_getElem? (i := 815) (by decide +kernel)
theorem xm_783 : Cond.castable "java/lang/IllegalStateException" "java/lang/Object" ∈ lw_tbl := List.mem_of_getElem? (i := 816) (by decide +kernel)
theorem xm_784 : Cond.castable "Clickbook$Hit" "java/lang/Object" ∈ lw_tbl := List.mem_of_getElem? (i := 817) (by decide +kernel)
theorem xm_785 : Cond.castable "java/lang/IndexOutOfBoundsException" "java/lang/Object" ∈ lw_tbl := List.mem_of_getElem? (i := 818) (by decide +kernel)
theorem xm_786 : Cond.castable "Clickbook$Cue" "java/lang/Object" ∈ lw_tbl := List.mem_of_getElem? (i := 819) (by decide +kernel)
theorem xm_787 : Cond.castable "Clickbook$Take" "java/lang/Object" ∈ lw_tbl := List.mem_of_getElem? (i := 820) (by decide +kernel)
theorem xm_788 : Cond.castable "java/lang/Throwable" "java/lang/Object" ∈ lw_tbl := List.mem_of_getElem? (i := 821) (by decide +kernel)
theorem xm_789 : Cond.castable "java/lang/String" "java/lang/Object" ∈ lw_tbl := List.mem_of_getElem? (i := 822) (by decide +kernel)
theorem xm_790 : Cond.sameMethod "[Ljava/lang/Object;" "java/lang/Object" "getClass" "()Ljava/lang/Class;" ∈ xk_T := xk_in (List.mem_of_getElem? (i := 823) (by decide +kernel)) rfl
theorem xm_791 : Cond.selects "[Ljava/lang/Object;" ⟨"java/lang/Object", "getClass", "()Ljava/lang/Class;"⟩ ⟨"java/lang/Object", "getClass", "()Ljava/lang/Class;"⟩ ∈ xk_T := xk_in (List.mem_of_getElem? (i := 824) (by decide +kernel)) rfl
theorem xm_792 : Cond.declares ⟨"java/lang/Object", "getClass", "()Ljava/lang/Class;"⟩ ∈ lw_tbl := List.mem_of_getElem? (i := 825) (by decide +kernel)
theorem xm_793 : Cond.castable "[I" "java/lang/Object" ∈ lw_tbl := List.mem_of_getElem? (i := 826) (by decide +kernel)
theorem xm_794 : Cond.castable "[Z" "java/lang/Object" ∈ lw_tbl := List.mem_of_getElem? (i := 827) (by decide +kernel)
theorem xm_795 : Cond.castable "[B" "java/lang/Object" ∈ lw_tbl := List.mem_of_getElem? (i := 828) (by decide +kernel)
theorem xm_796 : Cond.castable "[Ljava/lang/Object;" "java/lang/Object" ∈ lw_tbl := List.mem_of_getElem? (i := 829) (by decide +kernel)
