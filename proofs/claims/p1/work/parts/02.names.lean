/-! classes, fields, methods, words: printed by wip/tool/gen02.py out of the claim's own texts -/
def xT_0 : u_T := fun k => match k with
  | 0 => ("Clickbook", "hits", "Ljava/util/ArrayList;", true)
  | 1 => ("Clickbook", "reveals", "[I", true)
  | 2 => ("Clickbook", "themeCount", "I", false)
  | 3 => ("Clickbook", "cues", "Ljava/util/ArrayList;", true)
  | 4 => ("Clickbook", "takes", "Ljava/util/ArrayList;", true)
  | 5 => ("Clickbook", "length", "I", false)
  | 6 => ("Clickbook", "version", "I", false)
  | 7 => ("Clickbook", "band", "I", false)
  | 8 => ("Clickbook", "time", "I", false)
  | 9 => ("Clickbook", "costs", "I", false)
  | 10 => ("Clickbook", "joins", "LClickbook$JoinTable;", true)
  | 11 => ("Clickbook", "trialOffsets", "[I", true)
  | _ => ("Clickbook", "metByOthers", "[Z", true)
def xt_0 : Nat → FieldType := fun k => match k with
  | 0 => .object "java/util/ArrayList"
  | 1 => .array .int
  | 2 => .int
  | 3 => .object "java/util/ArrayList"
  | 4 => .object "java/util/ArrayList"
  | 5 => .int
  | 6 => .int
  | 7 => .int
  | 8 => .int
  | 9 => .int
  | 10 => .object "Clickbook$JoinTable"
  | 11 => .array .int
  | _ => .array .boolean
theorem xn_0 : ∀ a, a < 13 → ∀ b, b < 13 → a ≠ b → (xT_0 a).2.1 ≠ (xT_0 b).2.1 := by decide +kernel
theorem xo_0 : ∀ k, k < 13 → parseFieldDescriptor (xT_0 k).2.2.1 = some (xt_0 k) := by decide +kernel
def xT_1 : u_T := fun k => match k with
  | 0 => ("Clickbook$Cue", "number", "I", true)
  | 1 => ("Clickbook$Cue", "start", "I", false)
  | 2 => ("Clickbook$Cue", "theme", "I", true)
  | 3 => ("Clickbook$Cue", "players", "I", true)
  | 4 => ("Clickbook$Cue", "writer", "I", true)
  | 5 => ("Clickbook$Cue", "use", "I", true)
  | 6 => ("Clickbook$Cue", "edition", "I", false)
  | 7 => ("Clickbook$Cue", "bars", "I", false)
  | 8 => ("Clickbook$Cue", "meters", "[I", true)
  | 9 => ("Clickbook$Cue", "clicks", "[I", true)
  | 10 => ("Clickbook$Cue", "beats", "I", false)
  | 11 => ("Clickbook$Cue", "frames", "I", false)
  | _ => ("Clickbook$Cue", "offsets", "[I", true)
def xt_1 : Nat → FieldType := fun k => match k with
  | 0 => .int
  | 1 => .int
  | 2 => .int
  | 3 => .int
  | 4 => .int
  | 5 => .int
  | 6 => .int
  | 7 => .int
  | 8 => .array .int
  | 9 => .array .int
  | 10 => .int
  | 11 => .int
  | _ => .array .int
theorem xn_1 : ∀ a, a < 13 → ∀ b, b < 13 → a ≠ b → (xT_1 a).2.1 ≠ (xT_1 b).2.1 := by decide +kernel
theorem xo_1 : ∀ k, k < 13 → parseFieldDescriptor (xT_1 k).2.2.1 = some (xt_1 k) := by decide +kernel
def xT_2 : u_T := fun k => match k with
  | 0 => ("Clickbook$Hit", "frame", "I", false)
  | 1 => ("Clickbook$Hit", "tolerance", "I", true)
  | _ => ("Clickbook$Hit", "gone", "Z", false)
def xt_2 : Nat → FieldType := fun k => match k with
  | 0 => .int
  | 1 => .int
  | _ => .boolean
theorem xn_2 : ∀ a, a < 3 → ∀ b, b < 3 → a ≠ b → (xT_2 a).2.1 ≠ (xT_2 b).2.1 := by decide +kernel
theorem xo_2 : ∀ k, k < 3 → parseFieldDescriptor (xT_2 k).2.2.1 = some (xt_2 k) := by decide +kernel
def xT_3 : u_T := fun k => match k with
  | 0 => ("Clickbook$JoinTable", "pool", "Ljava/util/ArrayList;", true)
  | 1 => ("Clickbook$JoinTable", "bars", "I", false)
  | _ => ("Clickbook$JoinTable", "worths", "[I", true)
def xt_3 : Nat → FieldType := fun k => match k with
  | 0 => .object "java/util/ArrayList"
  | 1 => .int
  | _ => .array .int
theorem xn_3 : ∀ a, a < 3 → ∀ b, b < 3 → a ≠ b → (xT_3 a).2.1 ≠ (xT_3 b).2.1 := by decide +kernel
theorem xo_3 : ∀ k, k < 3 → parseFieldDescriptor (xT_3 k).2.2.1 = some (xt_3 k) := by decide +kernel
def xT_4 : u_T := fun k => match k with
  | 0 => ("java/util/AbstractList", "modCount", "I", false)
  | 1 => ("java/util/ArrayList", "elementData", "[Ljava/lang/Object;", false)
  | _ => ("java/util/ArrayList", "size", "I", false)
def xt_4 : Nat → FieldType := fun k => match k with
  | 0 => .int
  | 1 => .array (.object "java/lang/Object")
  | _ => .int
theorem xn_4 : ∀ a, a < 3 → ∀ b, b < 3 → a ≠ b → (xT_4 a).2.1 ≠ (xT_4 b).2.1 := by decide +kernel
theorem xo_4 : ∀ k, k < 3 → parseFieldDescriptor (xT_4 k).2.2.1 = some (xt_4 k) := by decide +kernel
def xT_5 : u_T := fun k => match k with
  | 0 => ("ClickbookModel", "thrown", "I", false)
  | 1 => ("ClickbookModel", "length", "I", false)
  | 2 => ("ClickbookModel", "version", "I", false)
  | 3 => ("ClickbookModel", "hits", "Ljava/util/ArrayList;", true)
  | 4 => ("ClickbookModel", "reveals", "Ljava/util/ArrayList;", true)
  | 5 => ("ClickbookModel", "cues", "Ljava/util/ArrayList;", true)
  | 6 => ("ClickbookModel", "takes", "Ljava/util/ArrayList;", true)
  | 7 => ("ClickbookModel", "band", "I", false)
  | 8 => ("ClickbookModel", "time", "I", false)
  | _ => ("ClickbookModel", "costs", "I", false)
def xt_5 : Nat → FieldType := fun k => match k with
  | 0 => .int
  | 1 => .int
  | 2 => .int
  | 3 => .object "java/util/ArrayList"
  | 4 => .object "java/util/ArrayList"
  | 5 => .object "java/util/ArrayList"
  | 6 => .object "java/util/ArrayList"
  | 7 => .int
  | 8 => .int
  | _ => .int
theorem xn_5 : ∀ a, a < 10 → ∀ b, b < 10 → a ≠ b → (xT_5 a).2.1 ≠ (xT_5 b).2.1 := by decide +kernel
theorem xo_5 : ∀ k, k < 10 → parseFieldDescriptor (xT_5 k).2.2.1 = some (xt_5 k) := by decide +kernel
def xT_6 : u_T := fun k => match k with
  | 0 => ("ClickbookModel$Cue", "start", "I", false)
  | 1 => ("ClickbookModel$Cue", "theme", "I", true)
  | 2 => ("ClickbookModel$Cue", "players", "I", true)
  | 3 => ("ClickbookModel$Cue", "writer", "I", true)
  | 4 => ("ClickbookModel$Cue", "use", "I", true)
  | 5 => ("ClickbookModel$Cue", "edition", "I", false)
  | 6 => ("ClickbookModel$Cue", "bars", "I", false)
  | 7 => ("ClickbookModel$Cue", "meters", "[I", true)
  | _ => ("ClickbookModel$Cue", "clicks", "[I", true)
def xt_6 : Nat → FieldType := fun k => match k with
  | 0 => .int
  | 1 => .int
  | 2 => .int
  | 3 => .int
  | 4 => .int
  | 5 => .int
  | 6 => .int
  | 7 => .array .int
  | _ => .array .int
theorem xn_6 : ∀ a, a < 9 → ∀ b, b < 9 → a ≠ b → (xT_6 a).2.1 ≠ (xT_6 b).2.1 := by decide +kernel
theorem xo_6 : ∀ k, k < 9 → parseFieldDescriptor (xT_6 k).2.2.1 = some (xt_6 k) := by decide +kernel
def xT_7 : u_T := fun k => match k with
  | 0 => ("ClickbookModel$Hit", "frame", "I", false)
  | 1 => ("ClickbookModel$Hit", "tolerance", "I", true)
  | _ => ("ClickbookModel$Hit", "isGone", "Z", false)
def xt_7 : Nat → FieldType := fun k => match k with
  | 0 => .int
  | 1 => .int
  | _ => .boolean
theorem xn_7 : ∀ a, a < 3 → ∀ b, b < 3 → a ≠ b → (xT_7 a).2.1 ≠ (xT_7 b).2.1 := by decide +kernel
theorem xo_7 : ∀ k, k < 3 → parseFieldDescriptor (xT_7 k).2.2.1 = some (xt_7 k) := by decide +kernel
def xT_8 : u_T := fun k => match k with
  | 0 => ("java/util/ArrayList$Itr", "cursor", "I", false)
  | 1 => ("java/util/ArrayList$Itr", "lastRet", "I", false)
  | 2 => ("java/util/ArrayList$Itr", "expectedModCount", "I", false)
  | _ => ("java/util/ArrayList$Itr", "this$0", "Ljava/util/ArrayList;", true)
def xt_8 : Nat → FieldType := fun k => match k with
  | 0 => .int
  | 1 => .int
  | 2 => .int
  | _ => .object "java/util/ArrayList"
theorem xn_8 : ∀ a, a < 4 → ∀ b, b < 4 → a ≠ b → (xT_8 a).2.1 ≠ (xT_8 b).2.1 := by decide +kernel
theorem xo_8 : ∀ k, k < 4 → parseFieldDescriptor (xT_8 k).2.2.1 = some (xt_8 k) := by decide +kernel
def xT_9 : u_T := fun k => match k with
  | _ => ("java/lang/Integer", "value", "I", true)
def xt_9 : Nat → FieldType := fun k => match k with
  | _ => .int
theorem xn_9 : ∀ a, a < 1 → ∀ b, b < 1 → a ≠ b → (xT_9 a).2.1 ≠ (xT_9 b).2.1 := by decide +kernel
theorem xo_9 : ∀ k, k < 1 → parseFieldDescriptor (xT_9 k).2.2.1 = some (xt_9 k) := by decide +kernel
abbrev xk_cl : List vw_C := [("Clickbook", xT_0, 13), ("Clickbook$Cue", xT_1, 13), ("Clickbook$Hit", xT_2, 3), ("Clickbook$JoinTable", xT_3, 3), ("java/util/ArrayList", xT_4, 3), ("ClickbookModel", xT_5, 10), ("ClickbookModel$Cue", xT_6, 9), ("ClickbookModel$Hit", xT_7, 3), ("java/util/ArrayList$Itr", xT_8, 4), ("java/lang/Integer", xT_9, 1)]
/-- the rows' kinds: 0 ints, 1 booleans, 2 objects, 3 the shared empty row -/
def xk_tys (dA : Nat → ClassId) : List (ClassId × FieldType) := [(dA 0, .int), (dA 1, .boolean), (dA 2, .object "java/lang/Object"), (dA 3, .object "java/lang/Object"), (dA 4, .int), (dA 5, .long), (dA 6, .array .int)]
def xk_nk : Nat := 7
theorem xk_tyk (dA : Nat → ClassId) : ∀ k, k < xk_nk → ∃ ty, (xk_tys dA)[k]? = some (dA k, ty) := fun k hk => by
  match k, hk with
  | 0, _ => exact ⟨_, rfl⟩
  | 1, _ => exact ⟨_, rfl⟩
  | 2, _ => exact ⟨_, rfl⟩
  | 3, _ => exact ⟨_, rfl⟩
  | 4, _ => exact ⟨_, rfl⟩
  | 5, _ => exact ⟨_, rfl⟩
  | 6, _ => exact ⟨_, rfl⟩
  | k + 7, h => exact absurd h (by simp [xk_nk])
def xk_T : List Cond := lw_tbl.filter goodWord
theorem xk_in {w : Cond} (h : w ∈ lw_tbl) (g : goodWord w = true) : w ∈ xk_T := List.mem_filter.mpr ⟨h, g⟩
theorem xk_good {w : Cond} (h : w ∈ xk_T) : goodWord w = true := (List.mem_filter.mp h).2
theorem xc_0 : xk_cl[0]? = some ("Clickbook", xT_0, 13) := rfl
theorem xi_0 : ∀ w ∈ u_ws "Clickbook" xT_0 13, w ∈ xk_T := fun w h => (by have q : (u_ws "Clickbook" xT_0 13).all (fun w => decide (w ∈ xk_T)) = true := (by decide +kernel); exact of_decide_eq_true (List.all_eq_true.mp q w h))
theorem xc_1 : xk_cl[1]? = some ("Clickbook$Cue", xT_1, 13) := rfl
theorem xi_1 : ∀ w ∈ u_ws "Clickbook$Cue" xT_1 13, w ∈ xk_T := fun w h => (by have q : (u_ws "Clickbook$Cue" xT_1 13).all (fun w => decide (w ∈ xk_T)) = true := (by decide +kernel); exact of_decide_eq_true (List.all_eq_true.mp q w h))
theorem xc_2 : xk_cl[2]? = some ("Clickbook$Hit", xT_2, 3) := rfl
theorem xi_2 : ∀ w ∈ u_ws "Clickbook$Hit" xT_2 3, w ∈ xk_T := fun w h => (by have q : (u_ws "Clickbook$Hit" xT_2 3).all (fun w => decide (w ∈ xk_T)) = true := (by decide +kernel); exact of_decide_eq_true (List.all_eq_true.mp q w h))
theorem xc_3 : xk_cl[3]? = some ("Clickbook$JoinTable", xT_3, 3) := rfl
theorem xi_3 : ∀ w ∈ u_ws "Clickbook$JoinTable" xT_3 3, w ∈ xk_T := fun w h => (by have q : (u_ws "Clickbook$JoinTable" xT_3 3).all (fun w => decide (w ∈ xk_T)) = true := (by decide +kernel); exact of_decide_eq_true (List.all_eq_true.mp q w h))
theorem xc_4 : xk_cl[4]? = some ("java/util/ArrayList", xT_4, 3) := rfl
theorem xi_4 : ∀ w ∈ u_ws "java/util/ArrayList" xT_4 3, w ∈ xk_T := fun w h => (by have q : (u_ws "java/util/ArrayList" xT_4 3).all (fun w => decide (w ∈ xk_T)) = true := (by decide +kernel); exact of_decide_eq_true (List.all_eq_true.mp q w h))
theorem xc_5 : xk_cl[5]? = some ("ClickbookModel", xT_5, 10) := rfl
theorem xi_5 : ∀ w ∈ u_ws "ClickbookModel" xT_5 10, w ∈ xk_T := fun w h => (by have q : (u_ws "ClickbookModel" xT_5 10).all (fun w => decide (w ∈ xk_T)) = true := (by decide +kernel); exact of_decide_eq_true (List.all_eq_true.mp q w h))
theorem xc_6 : xk_cl[6]? = some ("ClickbookModel$Cue", xT_6, 9) := rfl
theorem xi_6 : ∀ w ∈ u_ws "ClickbookModel$Cue" xT_6 9, w ∈ xk_T := fun w h => (by have q : (u_ws "ClickbookModel$Cue" xT_6 9).all (fun w => decide (w ∈ xk_T)) = true := (by decide +kernel); exact of_decide_eq_true (List.all_eq_true.mp q w h))
theorem xc_7 : xk_cl[7]? = some ("ClickbookModel$Hit", xT_7, 3) := rfl
theorem xi_7 : ∀ w ∈ u_ws "ClickbookModel$Hit" xT_7 3, w ∈ xk_T := fun w h => (by have q : (u_ws "ClickbookModel$Hit" xT_7 3).all (fun w => decide (w ∈ xk_T)) = true := (by decide +kernel); exact of_decide_eq_true (List.all_eq_true.mp q w h))
theorem xc_8 : xk_cl[8]? = some ("java/util/ArrayList$Itr", xT_8, 4) := rfl
theorem xi_8 : ∀ w ∈ u_ws "java/util/ArrayList$Itr" xT_8 4, w ∈ xk_T := fun w h => (by have q : (u_ws "java/util/ArrayList$Itr" xT_8 4).all (fun w => decide (w ∈ xk_T)) = true := (by decide +kernel); exact of_decide_eq_true (List.all_eq_true.mp q w h))
theorem xc_9 : xk_cl[9]? = some ("java/lang/Integer", xT_9, 1) := rfl
theorem xi_9 : ∀ w ∈ u_ws "java/lang/Integer" xT_9 1, w ∈ xk_T := fun w h => (by have q : (u_ws "java/lang/Integer" xT_9 1).all (fun w => decide (w ∈ xk_T)) = true := (by decide +kernel); exact of_decide_eq_true (List.all_eq_true.mp q w h))
abbrev xy_X0_init : MethodName := ⟨"Clickbook$Cue", "<init>", "(IIIIII)V"⟩
abbrev xy_X1_init : MethodName := ⟨"Clickbook$Hit", "<init>", "(II)V"⟩
abbrev xy_X2_init : MethodName := ⟨"Clickbook$JoinTable", "<init>", "()V"⟩
abbrev xy_X4_init : MethodName := ⟨"Clickbook", "<init>", "()V"⟩
abbrev xy_X4_hit : MethodName := ⟨"Clickbook", "hit", "(II)I"⟩
abbrev xy_X4_theme : MethodName := ⟨"Clickbook", "theme", "(I)I"⟩
abbrev xy_X4_change : MethodName := ⟨"Clickbook", "change", "(II)I"⟩
abbrev xy_X4_cutCues : MethodName := ⟨"Clickbook", "cutCues", "(II)I"⟩
abbrev xy_X4_refuseBadCut : MethodName := ⟨"Clickbook", "refuseBadCut", "(II)V"⟩
abbrev xy_X4_isTakenOut : MethodName := ⟨"Clickbook", "isTakenOut", "(III)Z"⟩
abbrev xy_X4_movedFrame : MethodName := ⟨"Clickbook", "movedFrame", "(III)I"⟩
abbrev xy_X4_cue : MethodName := ⟨"Clickbook", "cue", "(IIIII)I"⟩
abbrev xy_X4_bar : MethodName := ⟨"Clickbook", "bar", "(III)I"⟩
abbrev xy_X4_retime : MethodName := ⟨"Clickbook", "retime", "(IIII)I"⟩
abbrev xy_X4_shift : MethodName := ⟨"Clickbook", "shift", "(II)I"⟩
abbrev xy_X4_cueNumbered : MethodName := ⟨"Clickbook", "cueNumbered", "(I)LClickbook$Cue;"⟩
abbrev xy_X4_open : MethodName := ⟨"Clickbook", "open", "(I)I"⟩
abbrev xy_X4_take : MethodName := ⟨"Clickbook", "take", "(III)I"⟩
abbrev xy_X4_close : MethodName := ⟨"Clickbook", "close", "()I"⟩
abbrev xy_X4_roundedUp : MethodName := ⟨"Clickbook", "roundedUp", "(II)I"⟩
abbrev xy_X4_ofHit : MethodName := ⟨"Clickbook", "ofHit", "(II)I"⟩
abbrev xy_X4_ofCue : MethodName := ⟨"Clickbook", "ofCue", "(II)I"⟩
abbrev xy_X4_ofBar : MethodName := ⟨"Clickbook", "ofBar", "(III)I"⟩
abbrev xy_X4_beat : MethodName := ⟨"Clickbook", "beat", "(II)I"⟩
abbrev xy_X4_ofTake : MethodName := ⟨"Clickbook", "ofTake", "(II)I"⟩
abbrev xy_X4_sheet : MethodName := ⟨"Clickbook", "sheet", "(I)I"⟩
abbrev xy_X4_many : MethodName := ⟨"Clickbook", "many", "(I)I"⟩
abbrev xy_X4_meanNote : MethodName := ⟨"Clickbook", "meanNote", "()D"⟩
abbrev xy_X4_countMet : MethodName := ⟨"Clickbook", "countMet", "()I"⟩
abbrev xy_X4_countGone : MethodName := ⟨"Clickbook", "countGone", "()I"⟩
abbrev xy_X4_countRunningOver : MethodName := ⟨"Clickbook", "countRunningOver", "()I"⟩
abbrev xy_X4_countSpoiling : MethodName := ⟨"Clickbook", "countSpoiling", "()I"⟩
abbrev xy_X4_countClashes : MethodName := ⟨"Clickbook", "countClashes", "()I"⟩
abbrev xy_X4_countAllValid : MethodName := ⟨"Clickbook", "countAllValid", "()I"⟩
abbrev xy_X4_payToAll : MethodName := ⟨"Clickbook", "payToAll", "()I"⟩
abbrev xy_X4_join : MethodName := ⟨"Clickbook", "join", "(I)I"⟩
abbrev xy_X4_joined : MethodName := ⟨"Clickbook", "joined", "(II)I"⟩
abbrev xy_X4_bestStart : MethodName := ⟨"Clickbook", "bestStart", "(I)I"⟩
abbrev xy_X4_bestClick : MethodName := ⟨"Clickbook", "bestClick", "(II)I"⟩
abbrev xy_X4_wouldMeet : MethodName := ⟨"Clickbook", "wouldMeet", "(II)I"⟩
abbrev xy_X4_digest : MethodName := ⟨"Clickbook", "digest", "()J"⟩
abbrev xy_X4_mixed : MethodName := ⟨"Clickbook", "mixed", "(JJ)J"⟩
abbrev xy_X5_init : MethodName := ⟨"ClickbookModel$Cue", "<init>", "(IIIII)V"⟩
abbrev xy_X6_init : MethodName := ⟨"ClickbookModel$Hit", "<init>", "(II)V"⟩
abbrev xy_X8_isIn : MethodName := ⟨"ClickbookModel", "isIn", "(III)Z"⟩
abbrev xy_X8_up : MethodName := ⟨"ClickbookModel", "up", "(II)I"⟩
abbrev xy_X8_init : MethodName := ⟨"ClickbookModel", "<init>", "()V"⟩
abbrev xy_X8_thrown : MethodName := ⟨"ClickbookModel", "thrown", "()I"⟩
abbrev xy_X8_refuse : MethodName := ⟨"ClickbookModel", "refuse", "(ZI)Z"⟩
abbrev xy_X8_start : MethodName := ⟨"ClickbookModel", "start", "(ZI)Z"⟩
abbrev xy_X8_isNoCue : MethodName := ⟨"ClickbookModel", "isNoCue", "(I)Z"⟩
abbrev xy_X8_isNoBar : MethodName := ⟨"ClickbookModel", "isNoBar", "(II)Z"⟩
abbrev xy_X8_isNoClick : MethodName := ⟨"ClickbookModel", "isNoClick", "(II)Z"⟩
abbrev xy_X8_miss : MethodName := ⟨"ClickbookModel", "miss", "(I[I)I"⟩
abbrev xy_X8_beats : MethodName := ⟨"ClickbookModel", "beats", "()[[I"⟩
abbrev xy_X8_miss_ : MethodName := ⟨"ClickbookModel", "miss", "(I[[I)I"⟩
abbrev xy_X8_met : MethodName := ⟨"ClickbookModel", "met", "([I[[I)I"⟩
abbrev xy_X8_frames : MethodName := ⟨"ClickbookModel", "frames", "()[I"⟩
abbrev xy_X8_met_ : MethodName := ⟨"ClickbookModel", "met", "()I"⟩
abbrev xy_X8_hit : MethodName := ⟨"ClickbookModel", "hit", "(II)I"⟩
abbrev xy_X8_theme : MethodName := ⟨"ClickbookModel", "theme", "(I)I"⟩
abbrev xy_X8_isNoChange : MethodName := ⟨"ClickbookModel", "isNoChange", "(II)Z"⟩
abbrev xy_X8_change : MethodName := ⟨"ClickbookModel", "change", "(II)I"⟩
abbrev xy_X8_cue : MethodName := ⟨"ClickbookModel", "cue", "(IIIII)I"⟩
abbrev xy_X8_bar : MethodName := ⟨"ClickbookModel", "bar", "(III)I"⟩
abbrev xy_X8_retime : MethodName := ⟨"ClickbookModel", "retime", "(IIII)I"⟩
abbrev xy_X8_shift : MethodName := ⟨"ClickbookModel", "shift", "(II)I"⟩
abbrev xy_X8_open : MethodName := ⟨"ClickbookModel", "open", "(I)I"⟩
abbrev xy_X8_take : MethodName := ⟨"ClickbookModel", "take", "(III)I"⟩
abbrev xy_X8_close : MethodName := ⟨"ClickbookModel", "close", "()I"⟩
abbrev xy_X8_valid : MethodName := ⟨"ClickbookModel", "valid", "(I)I"⟩
abbrev xy_X8_joined : MethodName := ⟨"ClickbookModel", "joined", "(I)[I"⟩
abbrev xy_X8_joinNow : MethodName := ⟨"ClickbookModel", "joinNow", "(I)I"⟩
abbrev xy_X8_sheetNow : MethodName := ⟨"ClickbookModel", "sheetNow", "(I)I"⟩
abbrev xy_X8_ofHit : MethodName := ⟨"ClickbookModel", "ofHit", "(II)I"⟩
abbrev xy_X8_ofCue : MethodName := ⟨"ClickbookModel", "ofCue", "(II)I"⟩
abbrev xy_X8_ofBar : MethodName := ⟨"ClickbookModel", "ofBar", "(III)I"⟩
abbrev xy_X8_beat : MethodName := ⟨"ClickbookModel", "beat", "(II)I"⟩
abbrev xy_X8_ofTake : MethodName := ⟨"ClickbookModel", "ofTake", "(II)I"⟩
abbrev xy_X8_sheet : MethodName := ⟨"ClickbookModel", "sheet", "(I)I"⟩
abbrev xy_X8_clashes : MethodName := ⟨"ClickbookModel", "clashes", "()I"⟩
abbrev xy_X8_gone : MethodName := ⟨"ClickbookModel", "gone", "()I"⟩
abbrev xy_X8_manyNow : MethodName := ⟨"ClickbookModel", "manyNow", "(I)I"⟩
abbrev xy_X8_many : MethodName := ⟨"ClickbookModel", "many", "(I)I"⟩
abbrev xy_X8_meanNote : MethodName := ⟨"ClickbookModel", "meanNote", "()D"⟩
abbrev xy_X8_join : MethodName := ⟨"ClickbookModel", "join", "(I)I"⟩
abbrev xy_X8_joined_ : MethodName := ⟨"ClickbookModel", "joined", "(II)I"⟩
abbrev xy_X8_bestStart : MethodName := ⟨"ClickbookModel", "bestStart", "(I)I"⟩
abbrev xy_X8_bestClick : MethodName := ⟨"ClickbookModel", "bestClick", "(II)I"⟩
abbrev xy_X8_wouldMeetNow : MethodName := ⟨"ClickbookModel", "wouldMeetNow", "(II)I"⟩
abbrev xy_X8_wouldMeet : MethodName := ⟨"ClickbookModel", "wouldMeet", "(II)I"⟩
abbrev xy_X8_add : MethodName := ⟨"ClickbookModel", "add", "(JJ)J"⟩
abbrev xy_X8_digest : MethodName := ⟨"ClickbookModel", "digest", "()J"⟩
abbrev xy_J6_valueOf_2dffe : MethodName := ⟨"java/lang/Integer", "valueOf", "(I)Ljava/lang/Integer;"⟩
abbrev xy_J6_init_d00df : MethodName := ⟨"java/lang/Integer", "<init>", "(I)V"⟩
abbrev xy_Jxd2413_init_da8c8 : MethodName := ⟨"java/lang/Number", "<init>", "()V"⟩
abbrev xy_Jxa1e45_init_da8c8 : MethodName := ⟨"java/util/AbstractCollection", "<init>", "()V"⟩
abbrev xy_Jxc12de_init_da8c8 : MethodName := ⟨"java/util/AbstractList", "<init>", "()V"⟩
abbrev xy_Jx35411_init_45d68 : MethodName := ⟨"java/util/ArrayList$Itr", "<init>", "(Ljava/util/ArrayList;)V"⟩
abbrev xy_Jx35411_hasNext_aae02 : MethodName := ⟨"java/util/ArrayList$Itr", "hasNext", "()Z"⟩
abbrev xy_Jx4a65c_init_da8c8 : MethodName := ⟨"java/util/ArrayList", "<init>", "()V"⟩
abbrev xy_Jx4a65c_grow_92f84 : MethodName := ⟨"java/util/ArrayList", "grow", "(I)[Ljava/lang/Object;"⟩
abbrev xy_Jx4a65c_grow_d5877 : MethodName := ⟨"java/util/ArrayList", "grow", "()[Ljava/lang/Object;"⟩
abbrev xy_Jx4a65c_size_8abf5 : MethodName := ⟨"java/util/ArrayList", "size", "()I"⟩
abbrev xy_Jx4a65c_isEmpty_aae02 : MethodName := ⟨"java/util/ArrayList", "isEmpty", "()Z"⟩
abbrev xy_Jx4a65c_add_72be8 : MethodName := ⟨"java/util/ArrayList", "add", "(Ljava/lang/Object;[Ljava/lang/Object;I)V"⟩
abbrev xy_Jx4a65c_add_9ea2d : MethodName := ⟨"java/util/ArrayList", "add", "(Ljava/lang/Object;)Z"⟩
abbrev xy_Jx4a65c_iterator_32c93 : MethodName := ⟨"java/util/ArrayList", "iterator", "()Ljava/util/Iterator;"⟩
abbrev xy_L_hit : MethodName := ⟨"ClickbookLaw", "hit", "(LClickbook;II[J)I"⟩
abbrev xy_L_theme : MethodName := ⟨"ClickbookLaw", "theme", "(LClickbook;I[J)I"⟩
abbrev xy_L_change : MethodName := ⟨"ClickbookLaw", "change", "(LClickbook;II[J)I"⟩
abbrev xy_L_cue : MethodName := ⟨"ClickbookLaw", "cue", "(LClickbook;IIIII[J)I"⟩
abbrev xy_L_bar : MethodName := ⟨"ClickbookLaw", "bar", "(LClickbook;III[J)I"⟩
abbrev xy_L_retime : MethodName := ⟨"ClickbookLaw", "retime", "(LClickbook;IIII[J)I"⟩
abbrev xy_L_shift : MethodName := ⟨"ClickbookLaw", "shift", "(LClickbook;II[J)I"⟩
abbrev xy_L_open : MethodName := ⟨"ClickbookLaw", "open", "(LClickbook;I[J)I"⟩
abbrev xy_L_take : MethodName := ⟨"ClickbookLaw", "take", "(LClickbook;III[J)I"⟩
abbrev xy_L_close : MethodName := ⟨"ClickbookLaw", "close", "(LClickbook;[J)I"⟩
abbrev xy_L_ofHit : MethodName := ⟨"ClickbookLaw", "ofHit", "(LClickbook;II[J)I"⟩
abbrev xy_L_ofCue : MethodName := ⟨"ClickbookLaw", "ofCue", "(LClickbook;II[J)I"⟩
abbrev xy_L_ofBar : MethodName := ⟨"ClickbookLaw", "ofBar", "(LClickbook;III[J)I"⟩
abbrev xy_L_beat : MethodName := ⟨"ClickbookLaw", "beat", "(LClickbook;II[J)I"⟩
abbrev xy_L_ofTake : MethodName := ⟨"ClickbookLaw", "ofTake", "(LClickbook;II[J)I"⟩
abbrev xy_L_sheet : MethodName := ⟨"ClickbookLaw", "sheet", "(LClickbook;I[J)I"⟩
abbrev xy_L_many : MethodName := ⟨"ClickbookLaw", "many", "(LClickbook;I[J)I"⟩
abbrev xy_L_join : MethodName := ⟨"ClickbookLaw", "join", "(LClickbook;I[J)I"⟩
abbrev xy_L_joined : MethodName := ⟨"ClickbookLaw", "joined", "(LClickbook;II[J)I"⟩
abbrev xy_L_bestStart : MethodName := ⟨"ClickbookLaw", "bestStart", "(LClickbook;I[J)I"⟩
abbrev xy_L_bestClick : MethodName := ⟨"ClickbookLaw", "bestClick", "(LClickbook;II[J)I"⟩
abbrev xy_L_wouldMeet : MethodName := ⟨"ClickbookLaw", "wouldMeet", "(LClickbook;II[J)I"⟩
theorem xm_p0 : Cond.selects "Clickbook" ⟨"Clickbook", "countGone", "()I"⟩ ⟨"Clickbook", "countGone", "()I"⟩ ∈ xk_T := xk_in (List.mem_of_getElem? (i := 0) (by decide +kernel)) rfl
theorem xm_p1 : Cond.selects "Clickbook" ⟨"Clickbook", "countMet", "()I"⟩ ⟨"Clickbook", "countMet", "()I"⟩ ∈ xk_T := xk_in (List.mem_of_getElem? (i := 1) (by decide +kernel)) rfl
theorem xm_p4 : Cond.selects "Clickbook" ⟨"Clickbook", "countRunningOver", "()I"⟩ ⟨"Clickbook", "countRunningOver", "()I"⟩ ∈ xk_T := xk_in (List.mem_of_getElem? (i := 4) (by decide +kernel)) rfl
theorem xm_p6 : Cond.selects "Clickbook" ⟨"Clickbook", "countSpoiling", "()I"⟩ ⟨"Clickbook", "countSpoiling", "()I"⟩ ∈ xk_T := xk_in (List.mem_of_getElem? (i := 6) (by decide +kernel)) rfl
theorem xm_p8 : Cond.selects "Clickbook" ⟨"Clickbook", "countClashes", "()I"⟩ ⟨"Clickbook", "countClashes", "()I"⟩ ∈ xk_T := xk_in (List.mem_of_getElem? (i := 8) (by decide +kernel)) rfl
theorem xm_p9 : Cond.selects "Clickbook" ⟨"Clickbook", "countAllValid", "()I"⟩ ⟨"Clickbook", "countAllValid", "()I"⟩ ∈ xk_T := xk_in (List.mem_of_getElem? (i := 9) (by decide +kernel)) rfl
theorem xm_p10 : Cond.selects "Clickbook" ⟨"Clickbook", "payToAll", "()I"⟩ ⟨"Clickbook", "payToAll", "()I"⟩ ∈ xk_T := xk_in (List.mem_of_getElem? (i := 10) (by decide +kernel)) rfl
theorem xm_p19 : Cond.selects "Clickbook" ⟨"Clickbook", "cueNumbered", "(I)LClickbook$Cue;"⟩ ⟨"Clickbook", "cueNumbered", "(I)LClickbook$Cue;"⟩ ∈ xk_T := xk_in (List.mem_of_getElem? (i := 19) (by decide +kernel)) rfl
theorem xm_p20 : Cond.selects "java/util/ArrayList" ⟨"java/util/ArrayList", "add", "(Ljava/lang/Object;[Ljava/lang/Object;I)V"⟩ ⟨"java/util/ArrayList", "add", "(Ljava/lang/Object;[Ljava/lang/Object;I)V"⟩ ∈ xk_T := xk_in (List.mem_of_getElem? (i := 20) (by decide +kernel)) rfl
theorem xm_p21 : Cond.selects "java/util/ArrayList" ⟨"java/util/ArrayList", "grow", "()[Ljava/lang/Object;"⟩ ⟨"java/util/ArrayList", "grow", "()[Ljava/lang/Object;"⟩ ∈ xk_T := xk_in (List.mem_of_getElem? (i := 21) (by decide +kernel)) rfl
theorem xm_p22 : Cond.selects "java/util/ArrayList" ⟨"java/util/ArrayList", "grow", "(I)[Ljava/lang/Object;"⟩ ⟨"java/util/ArrayList", "grow", "(I)[Ljava/lang/Object;"⟩ ∈ xk_T := xk_in (List.mem_of_getElem? (i := 22) (by decide +kernel)) rfl
theorem xm_p27 : Cond.selects "Clickbook" ⟨"Clickbook", "refuseBadCut", "(II)V"⟩ ⟨"Clickbook", "refuseBadCut", "(II)V"⟩ ∈ xk_T := xk_in (List.mem_of_getElem? (i := 27) (by decide +kernel)) rfl
theorem xm_p31 : Cond.selects "Clickbook" ⟨"Clickbook", "cutCues", "(II)I"⟩ ⟨"Clickbook", "cutCues", "(II)I"⟩ ∈ xk_T := xk_in (List.mem_of_getElem? (i := 31) (by decide +kernel)) rfl
theorem xm_p33 : Cond.selects "ClickbookModel" ⟨"ClickbookModel", "start", "(ZI)Z"⟩ ⟨"ClickbookModel", "start", "(ZI)Z"⟩ ∈ xk_T := xk_in (List.mem_of_getElem? (i := 33) (by decide +kernel)) rfl
theorem xm_p34 : Cond.selects "ClickbookModel" ⟨"ClickbookModel", "refuse", "(ZI)Z"⟩ ⟨"ClickbookModel", "refuse", "(ZI)Z"⟩ ∈ xk_T := xk_in (List.mem_of_getElem? (i := 34) (by decide +kernel)) rfl
theorem xm_p35 : Cond.selects "ClickbookModel" ⟨"ClickbookModel", "isNoChange", "(II)Z"⟩ ⟨"ClickbookModel", "isNoChange", "(II)Z"⟩ ∈ xk_T := xk_in (List.mem_of_getElem? (i := 35) (by decide +kernel)) rfl
theorem xm_p36 : Cond.selects "ClickbookModel" ⟨"ClickbookModel", "isNoCue", "(I)Z"⟩ ⟨"ClickbookModel", "isNoCue", "(I)Z"⟩ ∈ xk_T := xk_in (List.mem_of_getElem? (i := 36) (by decide +kernel)) rfl
theorem xm_p37 : Cond.selects "ClickbookModel" ⟨"ClickbookModel", "isNoBar", "(II)Z"⟩ ⟨"ClickbookModel", "isNoBar", "(II)Z"⟩ ∈ xk_T := xk_in (List.mem_of_getElem? (i := 37) (by decide +kernel)) rfl
theorem xm_p38 : Cond.selects "ClickbookModel" ⟨"ClickbookModel", "met", "()I"⟩ ⟨"ClickbookModel", "met", "()I"⟩ ∈ xk_T := xk_in (List.mem_of_getElem? (i := 38) (by decide +kernel)) rfl
theorem xm_p39 : Cond.selects "ClickbookModel" ⟨"ClickbookModel", "frames", "()[I"⟩ ⟨"ClickbookModel", "frames", "()[I"⟩ ∈ xk_T := xk_in (List.mem_of_getElem? (i := 39) (by decide +kernel)) rfl
theorem xm_p40 : Cond.selects "ClickbookModel" ⟨"ClickbookModel", "beats", "()[[I"⟩ ⟨"ClickbookModel", "beats", "()[[I"⟩ ∈ xk_T := xk_in (List.mem_of_getElem? (i := 40) (by decide +kernel)) rfl
theorem xm_p41 : Cond.selects "ClickbookModel" ⟨"ClickbookModel", "met", "([I[[I)I"⟩ ⟨"ClickbookModel", "met", "([I[[I)I"⟩ ∈ xk_T := xk_in (List.mem_of_getElem? (i := 41) (by decide +kernel)) rfl
theorem xm_p46 : Cond.selects "ClickbookModel" ⟨"ClickbookModel", "valid", "(I)I"⟩ ⟨"ClickbookModel", "valid", "(I)I"⟩ ∈ xk_T := xk_in (List.mem_of_getElem? (i := 46) (by decide +kernel)) rfl
theorem xm_p51 : Cond.selects "ClickbookModel" ⟨"ClickbookModel", "sheetNow", "(I)I"⟩ ⟨"ClickbookModel", "sheetNow", "(I)I"⟩ ∈ xk_T := xk_in (List.mem_of_getElem? (i := 51) (by decide +kernel)) rfl
theorem xm_p52 : Cond.selects "ClickbookModel" ⟨"ClickbookModel", "manyNow", "(I)I"⟩ ⟨"ClickbookModel", "manyNow", "(I)I"⟩ ∈ xk_T := xk_in (List.mem_of_getElem? (i := 52) (by decide +kernel)) rfl
theorem xm_p53 : Cond.selects "ClickbookModel" ⟨"ClickbookModel", "gone", "()I"⟩ ⟨"ClickbookModel", "gone", "()I"⟩ ∈ xk_T := xk_in (List.mem_of_getElem? (i := 53) (by decide +kernel)) rfl
theorem xm_p54 : Cond.selects "ClickbookModel" ⟨"ClickbookModel", "clashes", "()I"⟩ ⟨"ClickbookModel", "clashes", "()I"⟩ ∈ xk_T := xk_in (List.mem_of_getElem? (i := 54) (by decide +kernel)) rfl
theorem xm_p55 : Cond.selects "ClickbookModel" ⟨"ClickbookModel", "joinNow", "(I)I"⟩ ⟨"ClickbookModel", "joinNow", "(I)I"⟩ ∈ xk_T := xk_in (List.mem_of_getElem? (i := 55) (by decide +kernel)) rfl
theorem xm_p59 : Cond.selects "ClickbookModel" ⟨"ClickbookModel", "joined", "(I)[I"⟩ ⟨"ClickbookModel", "joined", "(I)[I"⟩ ∈ xk_T := xk_in (List.mem_of_getElem? (i := 59) (by decide +kernel)) rfl
theorem xm_p62 : Cond.selects "ClickbookModel" ⟨"ClickbookModel", "wouldMeetNow", "(II)I"⟩ ⟨"ClickbookModel", "wouldMeetNow", "(II)I"⟩ ∈ xk_T := xk_in (List.mem_of_getElem? (i := 62) (by decide +kernel)) rfl
theorem xm_0 : Cond.initialized "ClickbookLaw" ∈ xk_T := xk_in (List.mem_of_getElem? (i := 64) (by decide +kernel)) rfl
theorem xm_1 : Cond.initialized "Clickbook" ∈ xk_T := xk_in (List.mem_of_getElem? (i := 65) (by decide +kernel)) rfl
theorem xm_2 : Cond.initialized "java/util/AbstractCollection" ∈ xk_T := xk_in (List.mem_of_getElem? (i := 66) (by decide +kernel)) rfl
theorem xm_3 : Cond.initialized "java/util/AbstractList" ∈ xk_T := xk_in (List.mem_of_getElem? (i := 67) (by decide +kernel)) rfl
theorem xm_4 : Cond.initialized "java/util/ArrayList" ∈ xk_T := xk_in (List.mem_of_getElem? (i := 68) (by decide +kernel)) rfl
theorem xm_5 : Cond.initialized "Clickbook$JoinTable" ∈ xk_T := xk_in (List.mem_of_getElem? (i := 69) (by decide +kernel)) rfl
theorem xm_6 : Cond.initialized "ClickbookModel" ∈ xk_T := xk_in (List.mem_of_getElem? (i := 70) (by decide +kernel)) rfl
theorem xm_7 : Cond.initialized "java/lang/Throwable" ∈ xk_T := xk_in (List.mem_of_getElem? (i := 71) (by decide +kernel)) rfl
theorem xm_10 : Cond.initialized "java/lang/IllegalArgumentException" ∈ xk_T := xk_in (List.mem_of_getElem? (i := 74) (by decide +kernel)) rfl
theorem xm_11 : Cond.initialized "java/lang/IllegalStateException" ∈ xk_T := xk_in (List.mem_of_getElem? (i := 75) (by decide +kernel)) rfl
theorem xm_12 : Cond.initialized "Clickbook$Hit" ∈ xk_T := xk_in (List.mem_of_getElem? (i := 76) (by decide +kernel)) rfl
theorem xm_14 : Cond.initialized "java/lang/Math" ∈ xk_T := xk_in (List.mem_of_getElem? (i := 78) (by decide +kernel)) rfl
theorem xm_17 : Cond.initialized "ClickbookModel$Hit" ∈ xk_T := xk_in (List.mem_of_getElem? (i := 81) (by decide +kernel)) rfl
theorem xm_18 : Cond.initialized "java/lang/Number" ∈ xk_T := xk_in (List.mem_of_getElem? (i := 82) (by decide +kernel)) rfl
theorem xm_19 : Cond.initialized "java/lang/Integer" ∈ xk_T := xk_in (List.mem_of_getElem? (i := 83) (by decide +kernel)) rfl
theorem xm_20 : Cond.initialized "java/lang/Integer$IntegerCache" ∈ xk_T := xk_in (List.mem_of_getElem? (i := 84) (by decide +kernel)) rfl
theorem xm_23 : Cond.initialized "java/util/ArrayList$Itr" ∈ xk_T := xk_in (List.mem_of_getElem? (i := 87) (by decide +kernel)) rfl
theorem xm_24 : Cond.initialized "java/lang/IndexOutOfBoundsException" ∈ xk_T := xk_in (List.mem_of_getElem? (i := 88) (by decide +kernel)) rfl
theorem xm_25 : Cond.initialized "Clickbook$Cue" ∈ xk_T := xk_in (List.mem_of_getElem? (i := 89) (by decide +kernel)) rfl
theorem xm_26 : Cond.initialized "ClickbookModel$Cue" ∈ xk_T := xk_in (List.mem_of_getElem? (i := 90) (by decide +kernel)) rfl
theorem xm_29 : Cond.classLink "ClickbookLaw" 8 "Clickbook" ∈ xk_T := xk_in (List.mem_of_getElem? (i := 93) (by decide +kernel)) rfl
theorem xm_30 : Cond.instantiable "Clickbook" 13 ∈ xk_T := xk_in (List.mem_of_getElem? (i := 94) (by decide +kernel)) rfl
theorem xm_31 : Cond.methodLink "ClickbookLaw" 87 ⟨"Clickbook", "<init>", "()V"⟩ ∈ xk_T := xk_in (List.mem_of_getElem? (i := 95) (by decide +kernel)) rfl
theorem xm_32 : Cond.instanceMethod ⟨"Clickbook", "<init>", "()V"⟩ ∈ xk_T := xk_in (List.mem_of_getElem? (i := 96) (by decide +kernel)) rfl
theorem xm_33 : Cond.code ⟨"Clickbook", "<init>", "()V"⟩ prog_1_method_1_code 1 (Option.none : Option FieldType) ∈ xk_T := xk_in (List.mem_of_getElem? (i := 97) (by decide +kernel)) rfl
theorem xm_34 : Cond.methodLink "Clickbook" 3 ⟨"java/lang/Object", "<init>", "()V"⟩ ∈ xk_T := xk_in (List.mem_of_getElem? (i := 98) (by decide +kernel)) rfl
theorem xm_35 : Cond.instanceMethod ⟨"java/lang/Object", "<init>", "()V"⟩ ∈ xk_T := xk_in (List.mem_of_getElem? (i := 99) (by decide +kernel)) rfl
theorem xm_36 : Cond.code ⟨"java/lang/Object", "<init>", "()V"⟩ object_method_1_code 1 (Option.none : Option FieldType) ∈ xk_T := xk_in (List.mem_of_getElem? (i := 100) (by decide +kernel)) rfl
theorem xm_37 : Cond.classLink "Clickbook" 9 "java/util/ArrayList" ∈ xk_T := xk_in (List.mem_of_getElem? (i := 101) (by decide +kernel)) rfl
theorem xm_38 : Cond.instantiable "java/util/ArrayList" 3 ∈ xk_T := xk_in (List.mem_of_getElem? (i := 102) (by decide +kernel)) rfl
theorem xm_39 : Cond.methodLink "Clickbook" 11 ⟨"java/util/ArrayList", "<init>", "()V"⟩ ∈ xk_T := xk_in (List.mem_of_getElem? (i := 103) (by decide +kernel)) rfl
theorem xm_40 : Cond.instanceMethod ⟨"java/util/ArrayList", "<init>", "()V"⟩ ∈ xk_T := xk_in (List.mem_of_getElem? (i := 104) (by decide +kernel)) rfl
theorem xm_41 : Cond.code ⟨"java/util/ArrayList", "<init>", "()V"⟩ prog_31_method_2_code 1 (Option.none : Option FieldType) ∈ xk_T := xk_in (List.mem_of_getElem? (i := 105) (by decide +kernel)) rfl
theorem xm_42 : Cond.methodLink "java/util/ArrayList" 1 ⟨"java/util/AbstractList", "<init>", "()V"⟩ ∈ xk_T := xk_in (List.mem_of_getElem? (i := 106) (by decide +kernel)) rfl
theorem xm_43 : Cond.instanceMethod ⟨"java/util/AbstractList", "<init>", "()V"⟩ ∈ xk_T := xk_in (List.mem_of_getElem? (i := 107) (by decide +kernel)) rfl
theorem xm_44 : Cond.code ⟨"java/util/AbstractList", "<init>", "()V"⟩ prog_30_method_1_code 1 (Option.none : Option FieldType) ∈ xk_T := xk_in (List.mem_of_getElem? (i := 108) (by decide +kernel)) rfl
theorem xm_45 : Cond.methodLink "java/util/AbstractList" 1 ⟨"java/util/AbstractCollection", "<init>", "()V"⟩ ∈ xk_T := xk_in (List.mem_of_getElem? (i := 109) (by decide +kernel)) rfl
theorem xm_46 : Cond.instanceMethod ⟨"java/util/AbstractCollection", "<init>", "()V"⟩ ∈ xk_T := xk_in (List.mem_of_getElem? (i := 110) (by decide +kernel)) rfl
theorem xm_47 : Cond.code ⟨"java/util/AbstractCollection", "<init>", "()V"⟩ prog_29_method_1_code 1 (Option.none : Option FieldType) ∈ xk_T := xk_in (List.mem_of_getElem? (i := 111) (by decide +kernel)) rfl
theorem xm_48 : Cond.methodLink "java/util/AbstractCollection" 1 ⟨"java/lang/Object", "<init>", "()V"⟩ ∈ xk_T := xk_in (List.mem_of_getElem? (i := 112) (by decide +kernel)) rfl
theorem xm_49 : Cond.fieldLink "java/util/ArrayList" 39 "java/util/ArrayList" "DEFAULTCAPACITY_EMPTY_ELEMENTDATA" "[Ljava/lang/Object;" ∈ xk_T := xk_in (List.mem_of_getElem? (i := 113) (by decide +kernel)) rfl
theorem xm_50 : Cond.laysStatic "java/util/ArrayList" "DEFAULTCAPACITY_EMPTY_ELEMENTDATA" "[Ljava/lang/Object;" ∈ lw_tbl := List.mem_of_getElem? (i := 114) (by decide +kernel)
theorem xm_51 : Cond.fieldLink "java/util/ArrayList" 9 "java/util/ArrayList" "elementData" "[Ljava/lang/Object;" ∈ xk_T := xk_in (List.mem_of_getElem? (i := 115) (by decide +kernel)) rfl
theorem xm_53 : Cond.fieldLinkNest "java/util/ArrayList$Itr" 28 "java/util/ArrayList" "size" "I" "java/util/ArrayList" ∈ lw_tbl := List.mem_of_getElem? (i := 117) (by decide +kernel)
theorem xm_54 : Cond.fieldLink "java/util/ArrayList" 48 "java/util/ArrayList" "size" "I" ∈ xk_T := xk_in (List.mem_of_getElem? (i := 118) (by decide +kernel)) rfl
theorem xm_55 : Cond.fieldLink "java/util/AbstractList" 7 "java/util/AbstractList" "modCount" "I" ∈ xk_T := xk_in (List.mem_of_getElem? (i := 119) (by decide +kernel)) rfl
theorem xm_56 : Cond.fieldLink "java/util/ArrayList$Itr" 17 "java/util/ArrayList" "modCount" "I" ∈ xk_T := xk_in (List.mem_of_getElem? (i := 120) (by decide +kernel)) rfl
theorem xm_57 : Cond.sameField "java/util/ArrayList" "java/util/AbstractList" "modCount" "I" ∈ xk_T := xk_in (List.mem_of_getElem? (i := 121) (by decide +kernel)) rfl
theorem xm_58 : Cond.fieldLink "java/util/ArrayList" 63 "java/util/ArrayList" "modCount" "I" ∈ xk_T := xk_in (List.mem_of_getElem? (i := 122) (by decide +kernel)) rfl
theorem xm_66 : Cond.classLink "Clickbook" 30 "Clickbook$JoinTable" ∈ xk_T := xk_in (List.mem_of_getElem? (i := 130) (by decide +kernel)) rfl
theorem xm_67 : Cond.instantiable "Clickbook$JoinTable" 3 ∈ xk_T := xk_in (List.mem_of_getElem? (i := 131) (by decide +kernel)) rfl
theorem xm_68 : Cond.methodLink "Clickbook" 32 ⟨"Clickbook$JoinTable", "<init>", "()V"⟩ ∈ xk_T := xk_in (List.mem_of_getElem? (i := 132) (by decide +kernel)) rfl
theorem xm_69 : Cond.instanceMethod ⟨"Clickbook$JoinTable", "<init>", "()V"⟩ ∈ xk_T := xk_in (List.mem_of_getElem? (i := 133) (by decide +kernel)) rfl
theorem xm_70 : Cond.code ⟨"Clickbook$JoinTable", "<init>", "()V"⟩ prog_4_method_1_code 1 (Option.none : Option FieldType) ∈ xk_T := xk_in (List.mem_of_getElem? (i := 134) (by decide +kernel)) rfl
theorem xm_71 : Cond.methodLink "Clickbook$JoinTable" 3 ⟨"java/lang/Object", "<init>", "()V"⟩ ∈ xk_T := xk_in (List.mem_of_getElem? (i := 135) (by decide +kernel)) rfl
theorem xm_72 : Cond.classLink "Clickbook$JoinTable" 9 "java/util/ArrayList" ∈ xk_T := xk_in (List.mem_of_getElem? (i := 136) (by decide +kernel)) rfl
theorem xm_73 : Cond.methodLink "Clickbook$JoinTable" 11 ⟨"java/util/ArrayList", "<init>", "()V"⟩ ∈ xk_T := xk_in (List.mem_of_getElem? (i := 137) (by decide +kernel)) rfl
theorem xm_74 : Cond.fieldLink "Clickbook$JoinTable" 12 "Clickbook$JoinTable" "pool" "Ljava/util/ArrayList;" ∈ xk_T := xk_in (List.mem_of_getElem? (i := 138) (by decide +kernel)) rfl
theorem xm_76 : Cond.fieldLink "Clickbook$JoinTable" 18 "Clickbook$JoinTable" "worths" "[I" ∈ xk_T := xk_in (List.mem_of_getElem? (i := 140) (by decide +kernel)) rfl
theorem xm_84 : Cond.arrayClass .int ∈ xk_T := xk_in (List.mem_of_getElem? (i := 148) (by decide +kernel)) rfl
theorem xm_85 : Cond.fieldLink "Clickbook" 12 "Clickbook" "hits" "Ljava/util/ArrayList;" ∈ xk_T := xk_in (List.mem_of_getElem? (i := 149) (by decide +kernel)) rfl
theorem xm_86 : Cond.fieldLink "Clickbook" 16 "Clickbook" "reveals" "[I" ∈ xk_T := xk_in (List.mem_of_getElem? (i := 150) (by decide +kernel)) rfl
theorem xm_87 : Cond.fieldLink "Clickbook" 71 "Clickbook" "themeCount" "I" ∈ xk_T := xk_in (List.mem_of_getElem? (i := 151) (by decide +kernel)) rfl
theorem xm_88 : Cond.fieldLink "Clickbook" 20 "Clickbook" "cues" "Ljava/util/ArrayList;" ∈ xk_T := xk_in (List.mem_of_getElem? (i := 152) (by decide +kernel)) rfl
theorem xm_89 : Cond.fieldLink "Clickbook" 23 "Clickbook" "takes" "Ljava/util/ArrayList;" ∈ xk_T := xk_in (List.mem_of_getElem? (i := 153) (by decide +kernel)) rfl
theorem xm_90 : Cond.fieldLink "Clickbook" 26 "Clickbook" "length" "I" ∈ xk_T := xk_in (List.mem_of_getElem? (i := 154) (by decide +kernel)) rfl
theorem xm_91 : Cond.fieldLink "Clickbook" 79 "Clickbook" "version" "I" ∈ xk_T := xk_in (List.mem_of_getElem? (i := 155) (by decide +kernel)) rfl
theorem xm_92 : Cond.fieldLink "Clickbook" 172 "Clickbook" "band" "I" ∈ xk_T := xk_in (List.mem_of_getElem? (i := 156) (by decide +kernel)) rfl
theorem xm_93 : Cond.fieldLink "Clickbook" 193 "Clickbook" "time" "I" ∈ xk_T := xk_in (List.mem_of_getElem? (i := 157) (by decide +kernel)) rfl
theorem xm_94 : Cond.fieldLink "Clickbook" 210 "Clickbook" "costs" "I" ∈ xk_T := xk_in (List.mem_of_getElem? (i := 158) (by decide +kernel)) rfl
theorem xm_95 : Cond.fieldLink "Clickbook" 33 "Clickbook" "joins" "LClickbook$JoinTable;" ∈ xk_T := xk_in (List.mem_of_getElem? (i := 159) (by decide +kernel)) rfl
theorem xm_96 : Cond.fieldLink "Clickbook" 37 "Clickbook" "trialOffsets" "[I" ∈ xk_T := xk_in (List.mem_of_getElem? (i := 160) (by decide +kernel)) rfl
theorem xm_97 : Cond.fieldLink "Clickbook" 40 "Clickbook" "metByOthers" "[Z" ∈ xk_T := xk_in (List.mem_of_getElem? (i := 161) (by decide +kernel)) rfl
theorem xm_125 : Cond.arrayClass .boolean ∈ xk_T := xk_in (List.mem_of_getElem? (i := 189) (by decide +kernel)) rfl
theorem xm_126 : Cond.methodLink "ClickbookLaw" 153 ⟨"Clickbook", "meanNote", "()D"⟩ ∈ xk_T := xk_in (List.mem_of_getElem? (i := 190) (by decide +kernel)) rfl
theorem xm_127 : Cond.instanceMethod ⟨"Clickbook", "meanNote", "()D"⟩ ∈ xk_T := xk_in (List.mem_of_getElem? (i := 191) (by decide +kernel)) rfl
theorem xm_128 : Cond.selects "Clickbook" ⟨"Clickbook", "meanNote", "()D"⟩ ⟨"Clickbook", "meanNote", "()D"⟩ ∈ xk_T := xk_in (List.mem_of_getElem? (i := 192) (by decide +kernel)) rfl
theorem xm_129 : Cond.code ⟨"Clickbook", "meanNote", "()D"⟩ prog_1_method_27_code 5 (Option.some .double) ∈ xk_T := xk_in (List.mem_of_getElem? (i := 193) (by decide +kernel)) rfl
theorem xm_130 : Cond.methodLink "Clickbook" 51 ⟨"java/util/ArrayList", "size", "()I"⟩ ∈ xk_T := xk_in (List.mem_of_getElem? (i := 194) (by decide +kernel)) rfl
theorem xm_131 : Cond.instanceMethod ⟨"java/util/ArrayList", "size", "()I"⟩ ∈ xk_T := xk_in (List.mem_of_getElem? (i := 195) (by decide +kernel)) rfl
theorem xm_132 : Cond.selects "java/util/ArrayList" ⟨"java/util/ArrayList", "size", "()I"⟩ ⟨"java/util/ArrayList", "size", "()I"⟩ ∈ xk_T := xk_in (List.mem_of_getElem? (i := 196) (by decide +kernel)) rfl
theorem xm_133 : Cond.code ⟨"java/util/ArrayList", "size", "()I"⟩ prog_31_method_8_code 1 (Option.some .int) ∈ xk_T := xk_in (List.mem_of_getElem? (i := 197) (by decide +kernel)) rfl
theorem xm_161 : Cond.methodLink "ClickbookLaw" 173 ⟨"Clickbook", "digest", "()J"⟩ ∈ xk_T := xk_in (List.mem_of_getElem? (i := 225) (by decide +kernel)) rfl
theorem xm_162 : Cond.instanceMethod ⟨"Clickbook", "digest", "()J"⟩ ∈ xk_T := xk_in (List.mem_of_getElem? (i := 226) (by decide +kernel)) rfl
theorem xm_163 : Cond.selects "Clickbook" ⟨"Clickbook", "digest", "()J"⟩ ⟨"Clickbook", "digest", "()J"⟩ ∈ xk_T := xk_in (List.mem_of_getElem? (i := 227) (by decide +kernel)) rfl
theorem xm_164 : Cond.code ⟨"Clickbook", "digest", "()J"⟩ prog_1_method_51_code 5 (Option.some .long) ∈ xk_T := xk_in (List.mem_of_getElem? (i := 228) (by decide +kernel)) rfl
theorem xm_165 : Cond.constantLong "Clickbook" 375 58231 ∈ xk_T := xk_in (List.mem_of_getElem? (i := 229) (by decide +kernel)) rfl
theorem xm_166 : Cond.methodLink "Clickbook" 377 ⟨"Clickbook", "many", "(I)I"⟩ ∈ xk_T := xk_in (List.mem_of_getElem? (i := 230) (by decide +kernel)) rfl
theorem xm_167 : Cond.instanceMethod ⟨"Clickbook", "many", "(I)I"⟩ ∈ xk_T := xk_in (List.mem_of_getElem? (i := 231) (by decide +kernel)) rfl
theorem xm_168 : Cond.selects "Clickbook" ⟨"Clickbook", "many", "(I)I"⟩ ⟨"Clickbook", "many", "(I)I"⟩ ∈ xk_T := xk_in (List.mem_of_getElem? (i := 232) (by decide +kernel)) rfl
theorem xm_169 : Cond.code ⟨"Clickbook", "many", "(I)I"⟩ prog_1_method_26_code 2 (Option.some .int) ∈ xk_T := xk_in (List.mem_of_getElem? (i := 233) (by decide +kernel)) rfl
theorem xm_170 : Cond.methodLink "Clickbook" 310 ⟨"Clickbook", "countGone", "()I"⟩ ∈ xk_T := xk_in (List.mem_of_getElem? (i := 234) (by decide +kernel)) rfl
theorem xm_172 : Cond.instanceMethod ⟨"Clickbook", "countGone", "()I"⟩ ∈ xk_T := xk_in (List.mem_of_getElem? (i := 236) (by decide +kernel)) rfl
theorem xm_173 : Cond.code ⟨"Clickbook", "countGone", "()I"⟩ prog_1_method_34_code 3 (Option.some .int) ∈ xk_T := xk_in (List.mem_of_getElem? (i := 237) (by decide +kernel)) rfl
theorem xm_174 : Cond.classLink "Clickbook" 60 "Clickbook$Hit" ∈ xk_T := xk_in (List.mem_of_getElem? (i := 238) (by decide +kernel)) rfl
theorem xm_175 : Cond.methodLink "Clickbook" 161 ⟨"Clickbook", "countMet", "()I"⟩ ∈ xk_T := xk_in (List.mem_of_getElem? (i := 239) (by decide +kernel)) rfl
theorem xm_177 : Cond.instanceMethod ⟨"Clickbook", "countMet", "()I"⟩ ∈ xk_T := xk_in (List.mem_of_getElem? (i := 241) (by decide +kernel)) rfl
theorem xm_178 : Cond.code ⟨"Clickbook", "countMet", "()I"⟩ prog_1_method_33_code 3 (Option.some .int) ∈ xk_T := xk_in (List.mem_of_getElem? (i := 242) (by decide +kernel)) rfl
theorem xm_187 : Cond.classLink "Clickbook" 99 "Clickbook$Cue" ∈ xk_T := xk_in (List.mem_of_getElem? (i := 251) (by decide +kernel)) rfl
theorem xm_193 : Cond.static ⟨"java/lang/Math", "abs", "(I)I"⟩ ∈ xk_T := xk_in (List.mem_of_getElem? (i := 257) (by decide +kernel)) rfl
theorem xm_194 : Cond.code ⟨"java/lang/Math", "abs", "(I)I"⟩ prog_21_method_59_code 1 (Option.some .int) ∈ xk_T := xk_in (List.mem_of_getElem? (i := 258) (by decide +kernel)) rfl
theorem xm_195 : Cond.methodLink "Clickbook" 313 ⟨"Clickbook", "countRunningOver", "()I"⟩ ∈ xk_T := xk_in (List.mem_of_getElem? (i := 259) (by decide +kernel)) rfl
theorem xm_197 : Cond.instanceMethod ⟨"Clickbook", "countRunningOver", "()I"⟩ ∈ xk_T := xk_in (List.mem_of_getElem? (i := 261) (by decide +kernel)) rfl
theorem xm_198 : Cond.code ⟨"Clickbook", "countRunningOver", "()I"⟩ prog_1_method_36_code 3 (Option.some .int) ∈ xk_T := xk_in (List.mem_of_getElem? (i := 262) (by decide +kernel)) rfl
theorem xm_207 : Cond.methodLink "Clickbook" 316 ⟨"Clickbook", "countSpoiling", "()I"⟩ ∈ xk_T := xk_in (List.mem_of_getElem? (i := 271) (by decide +kernel)) rfl
theorem xm_209 : Cond.instanceMethod ⟨"Clickbook", "countSpoiling", "()I"⟩ ∈ xk_T := xk_in (List.mem_of_getElem? (i := 273) (by decide +kernel)) rfl
theorem xm_210 : Cond.code ⟨"Clickbook", "countSpoiling", "()I"⟩ prog_1_method_38_code 3 (Option.some .int) ∈ xk_T := xk_in (List.mem_of_getElem? (i := 274) (by decide +kernel)) rfl
theorem xm_215 : Cond.methodLink "Clickbook" 319 ⟨"Clickbook", "countClashes", "()I"⟩ ∈ xk_T := xk_in (List.mem_of_getElem? (i := 279) (by decide +kernel)) rfl
theorem xm_217 : Cond.instanceMethod ⟨"Clickbook", "countClashes", "()I"⟩ ∈ xk_T := xk_in (List.mem_of_getElem? (i := 281) (by decide +kernel)) rfl
theorem xm_218 : Cond.code ⟨"Clickbook", "countClashes", "()I"⟩ prog_1_method_39_code 4 (Option.some .int) ∈ xk_T := xk_in (List.mem_of_getElem? (i := 282) (by decide +kernel)) rfl
theorem xm_222 : Cond.methodLink "Clickbook" 322 ⟨"Clickbook", "countAllValid", "()I"⟩ ∈ xk_T := xk_in (List.mem_of_getElem? (i := 286) (by decide +kernel)) rfl
theorem xm_224 : Cond.instanceMethod ⟨"Clickbook", "countAllValid", "()I"⟩ ∈ xk_T := xk_in (List.mem_of_getElem? (i := 288) (by decide +kernel)) rfl
theorem xm_225 : Cond.code ⟨"Clickbook", "countAllValid", "()I"⟩ prog_1_method_42_code 3 (Option.some .int) ∈ xk_T := xk_in (List.mem_of_getElem? (i := 289) (by decide +kernel)) rfl
theorem xm_226 : Cond.methodLink "Clickbook" 325 ⟨"Clickbook", "payToAll", "()I"⟩ ∈ xk_T := xk_in (List.mem_of_getElem? (i := 290) (by decide +kernel)) rfl
theorem xm_228 : Cond.instanceMethod ⟨"Clickbook", "payToAll", "()I"⟩ ∈ xk_T := xk_in (List.mem_of_getElem? (i := 292) (by decide +kernel)) rfl
theorem xm_229 : Cond.code ⟨"Clickbook", "payToAll", "()I"⟩ prog_1_method_45_code 3 (Option.some .int) ∈ xk_T := xk_in (List.mem_of_getElem? (i := 293) (by decide +kernel)) rfl
theorem xm_242 : Cond.classLink "Clickbook" 44 "java/lang/IllegalArgumentException" ∈ xk_T := xk_in (List.mem_of_getElem? (i := 306) (by decide +kernel)) rfl
theorem xm_244 : Cond.castable "java/lang/IllegalArgumentException" "java/lang/IllegalArgumentException" ∈ lw_tbl := List.mem_of_getElem? (i := 308) (by decide +kernel)
theorem xm_246 : Cond.declares ⟨"java/lang/RuntimeException", "<init>", "(Ljava/lang/String;)V"⟩ ∈ lw_tbl := List.mem_of_getElem? (i := 310) (by decide +kernel)
theorem xm_248 : Cond.declares ⟨"java/lang/Exception", "<init>", "(Ljava/lang/String;)V"⟩ ∈ lw_tbl := List.mem_of_getElem? (i := 312) (by decide +kernel)
theorem xm_250 : Cond.declares ⟨"java/lang/Throwable", "<init>", "(Ljava/lang/String;)V"⟩ ∈ lw_tbl := List.mem_of_getElem? (i := 314) (by decide +kernel)
theorem xm_269 : Cond.laysStatic "java/lang/Throwable" "UNASSIGNED_STACK" "[Ljava/lang/StackTraceElement;" ∈ lw_tbl := List.mem_of_getElem? (i := 333) (by decide +kernel)
theorem xm_271 : Cond.laysStatic "java/lang/Throwable" "SUPPRESSED_SENTINEL" "Ljava/util/List;" ∈ lw_tbl := List.mem_of_getElem? (i := 335) (by decide +kernel)
theorem xm_283 : Cond.stringRef "Clickbook" 328 "no such question" ∈ lw_tbl := List.mem_of_getElem? (i := 347) (by decide +kernel)
theorem xm_310 : Cond.methodLink "Clickbook" 380 ⟨"Clickbook", "mixed", "(JJ)J"⟩ ∈ xk_T := xk_in (List.mem_of_getElem? (i := 374) (by decide +kernel)) rfl
theorem xm_311 : Cond.static ⟨"Clickbook", "mixed", "(JJ)J"⟩ ∈ xk_T := xk_in (List.mem_of_getElem? (i := 375) (by decide +kernel)) rfl
theorem xm_312 : Cond.code ⟨"Clickbook", "mixed", "(JJ)J"⟩ prog_1_method_53_code 4 (Option.some .long) ∈ xk_T := xk_in (List.mem_of_getElem? (i := 376) (by decide +kernel)) rfl
theorem xm_313 : Cond.constantLong "Clickbook" 412 31 ∈ xk_T := xk_in (List.mem_of_getElem? (i := 377) (by decide +kernel)) rfl
theorem xm_315 : Cond.instanceMethod ⟨"Clickbook", "ofHit", "(II)I"⟩ ∈ xk_T := xk_in (List.mem_of_getElem? (i := 379) (by decide +kernel)) rfl
theorem xm_316 : Cond.selects "Clickbook" ⟨"Clickbook", "ofHit", "(II)I"⟩ ⟨"Clickbook", "ofHit", "(II)I"⟩ ∈ xk_T := xk_in (List.mem_of_getElem? (i := 380) (by decide +kernel)) rfl
theorem xm_317 : Cond.code ⟨"Clickbook", "ofHit", "(II)I"⟩ prog_1_method_20_code 4 (Option.some .int) ∈ xk_T := xk_in (List.mem_of_getElem? (i := 381) (by decide +kernel)) rfl
theorem xm_318 : Cond.classLink "Clickbook" 119 "java/lang/IndexOutOfBoundsException" ∈ xk_T := xk_in (List.mem_of_getElem? (i := 382) (by decide +kernel)) rfl
theorem xm_320 : Cond.castable "java/lang/IndexOutOfBoundsException" "java/lang/IndexOutOfBoundsException" ∈ lw_tbl := List.mem_of_getElem? (i := 384) (by decide +kernel)
theorem xm_327 : Cond.stringRef "Clickbook" 213 "no such HIT" ∈ lw_tbl := List.mem_of_getElem? (i := 391) (by decide +kernel)
theorem xm_359 : Cond.stringRef "Clickbook" 239 "no such question of a HIT" ∈ lw_tbl := List.mem_of_getElem? (i := 423) (by decide +kernel)
theorem xm_365 : Cond.instanceMethod ⟨"Clickbook", "ofCue", "(II)I"⟩ ∈ xk_T := xk_in (List.mem_of_getElem? (i := 429) (by decide +kernel)) rfl
theorem xm_366 : Cond.selects "Clickbook" ⟨"Clickbook", "ofCue", "(II)I"⟩ ⟨"Clickbook", "ofCue", "(II)I"⟩ ∈ xk_T := xk_in (List.mem_of_getElem? (i := 430) (by decide +kernel)) rfl
theorem xm_367 : Cond.code ⟨"Clickbook", "ofCue", "(II)I"⟩ prog_1_method_21_code 4 (Option.some .int) ∈ xk_T := xk_in (List.mem_of_getElem? (i := 431) (by decide +kernel)) rfl
theorem xm_368 : Cond.methodLink "Clickbook" 136 ⟨"Clickbook", "cueNumbered", "(I)LClickbook$Cue;"⟩ ∈ xk_T := xk_in (List.mem_of_getElem? (i := 432) (by decide +kernel)) rfl
theorem xm_370 : Cond.instanceMethod ⟨"Clickbook", "cueNumbered", "(I)LClickbook$Cue;"⟩ ∈ xk_T := xk_in (List.mem_of_getElem? (i := 434) (by decide +kernel)) rfl
theorem xm_371 : Cond.code ⟨"Clickbook", "cueNumbered", "(I)LClickbook$Cue;"⟩ prog_1_method_13_code 2 (Option.some (.object "Clickbook$Cue")) ∈ xk_T := xk_in (List.mem_of_getElem? (i := 435) (by decide +kernel)) rfl
theorem xm_372 : Cond.stringRef "Clickbook" 164 "no such CUE" ∈ lw_tbl := List.mem_of_getElem? (i := 436) (by decide +kernel)
theorem xm_373 : Cond.stringRef "Clickbook" 267 "no such question of a CUE" ∈ lw_tbl := List.mem_of_getElem? (i := 437) (by decide +kernel)
theorem xm_387 : Cond.instanceMethod ⟨"java/util/ArrayList", "add", "(Ljava/lang/Object;)Z"⟩ ∈ xk_T := xk_in (List.mem_of_getElem? (i := 451) (by decide +kernel)) rfl
theorem xm_388 : Cond.selects "java/util/ArrayList" ⟨"java/util/ArrayList", "add", "(Ljava/lang/Object;)Z"⟩ ⟨"java/util/ArrayList", "add", "(Ljava/lang/Object;)Z"⟩ ∈ xk_T := xk_in (List.mem_of_getElem? (i := 452) (by decide +kernel)) rfl
theorem xm_389 : Cond.code ⟨"java/util/ArrayList", "add", "(Ljava/lang/Object;)Z"⟩ prog_31_method_25_code 2 (Option.some .boolean) ∈ xk_T := xk_in (List.mem_of_getElem? (i := 453) (by decide +kernel)) rfl
theorem xm_390 : Cond.methodLink "java/util/ArrayList" 131 ⟨"java/util/ArrayList", "add", "(Ljava/lang/Object;[Ljava/lang/Object;I)V"⟩ ∈ xk_T := xk_in (List.mem_of_getElem? (i := 454) (by decide +kernel)) rfl
theorem xm_392 : Cond.instanceMethod ⟨"java/util/ArrayList", "add", "(Ljava/lang/Object;[Ljava/lang/Object;I)V"⟩ ∈ xk_T := xk_in (List.mem_of_getElem? (i := 456) (by decide +kernel)) rfl
theorem xm_393 : Cond.code ⟨"java/util/ArrayList", "add", "(Ljava/lang/Object;[Ljava/lang/Object;I)V"⟩ prog_31_method_24_code 4 (Option.none : Option FieldType) ∈ xk_T := xk_in (List.mem_of_getElem? (i := 457) (by decide +kernel)) rfl
theorem xm_394 : Cond.methodLink "java/util/ArrayList" 129 ⟨"java/util/ArrayList", "grow", "()[Ljava/lang/Object;"⟩ ∈ xk_T := xk_in (List.mem_of_getElem? (i := 458) (by decide +kernel)) rfl
theorem xm_396 : Cond.instanceMethod ⟨"java/util/ArrayList", "grow", "()[Ljava/lang/Object;"⟩ ∈ xk_T := xk_in (List.mem_of_getElem? (i := 460) (by decide +kernel)) rfl
theorem xm_397 : Cond.code ⟨"java/util/ArrayList", "grow", "()[Ljava/lang/Object;"⟩ prog_31_method_7_code 1 (Option.some (.array (.object "java/lang/Object"))) ∈ xk_T := xk_in (List.mem_of_getElem? (i := 461) (by decide +kernel)) rfl
theorem xm_398 : Cond.methodLink "java/util/ArrayList" 69 ⟨"java/util/ArrayList", "grow", "(I)[Ljava/lang/Object;"⟩ ∈ xk_T := xk_in (List.mem_of_getElem? (i := 462) (by decide +kernel)) rfl
theorem xm_400 : Cond.instanceMethod ⟨"java/util/ArrayList", "grow", "(I)[Ljava/lang/Object;"⟩ ∈ xk_T := xk_in (List.mem_of_getElem? (i := 464) (by decide +kernel)) rfl
theorem xm_401 : Cond.code ⟨"java/util/ArrayList", "grow", "(I)[Ljava/lang/Object;"⟩ prog_31_method_6_code 4 (Option.some (.array (.object "java/lang/Object"))) ∈ xk_T := xk_in (List.mem_of_getElem? (i := 465) (by decide +kernel)) rfl
theorem xm_406 : Cond.static ⟨"java/lang/Math", "max", "(II)I"⟩ ∈ xk_T := xk_in (List.mem_of_getElem? (i := 470) (by decide +kernel)) rfl
theorem xm_407 : Cond.code ⟨"java/lang/Math", "max", "(II)I"⟩ prog_21_method_65_code 2 (Option.some .int) ∈ xk_T := xk_in (List.mem_of_getElem? (i := 471) (by decide +kernel)) rfl
theorem xm_438 : Cond.arrayOver (.object "java/lang/Object") ∈ lw_tbl := List.mem_of_getElem? (i := 502) (by decide +kernel)
theorem xm_441 : Cond.static ⟨"java/lang/Math", "min", "(II)I"⟩ ∈ xk_T := xk_in (List.mem_of_getElem? (i := 505) (by decide +kernel)) rfl
theorem xm_442 : Cond.code ⟨"java/lang/Math", "min", "(II)I"⟩ prog_21_method_69_code 2 (Option.some .int) ∈ xk_T := xk_in (List.mem_of_getElem? (i := 506) (by decide +kernel)) rfl
theorem xm_446 : Cond.methodLink "java/util/ArrayList" 79 ⟨"java/lang/Math", "max", "(II)I"⟩ ∈ xk_T := xk_in (List.mem_of_getElem? (i := 510) (by decide +kernel)) rfl
theorem xm_447 : Cond.classLink "java/util/ArrayList" 7 "java/lang/Object" ∈ xk_T := xk_in (List.mem_of_getElem? (i := 511) (by decide +kernel)) rfl
theorem xm_470 : Cond.instanceMethod ⟨"Clickbook", "ofBar", "(III)I"⟩ ∈ xk_T := xk_in (List.mem_of_getElem? (i := 534) (by decide +kernel)) rfl
theorem xm_471 : Cond.selects "Clickbook" ⟨"Clickbook", "ofBar", "(III)I"⟩ ⟨"Clickbook", "ofBar", "(III)I"⟩ ∈ xk_T := xk_in (List.mem_of_getElem? (i := 535) (by decide +kernel)) rfl
theorem xm_472 : Cond.code ⟨"Clickbook", "ofBar", "(III)I"⟩ prog_1_method_22_code 5 (Option.some .int) ∈ xk_T := xk_in (List.mem_of_getElem? (i := 536) (by decide +kernel)) rfl
theorem xm_476 : Cond.stringRef "Clickbook" 166 "no such BAR" ∈ lw_tbl := List.mem_of_getElem? (i := 540) (by decide +kernel)
theorem xm_482 : Cond.stringRef "Clickbook" 282 "no such question of a BAR" ∈ lw_tbl := List.mem_of_getElem? (i := 546) (by decide +kernel)
theorem xm_492 : Cond.instanceMethod ⟨"Clickbook", "ofTake", "(II)I"⟩ ∈ xk_T := xk_in (List.mem_of_getElem? (i := 556) (by decide +kernel)) rfl
theorem xm_493 : Cond.selects "Clickbook" ⟨"Clickbook", "ofTake", "(II)I"⟩ ⟨"Clickbook", "ofTake", "(II)I"⟩ ∈ xk_T := xk_in (List.mem_of_getElem? (i := 557) (by decide +kernel)) rfl
theorem xm_494 : Cond.code ⟨"Clickbook", "ofTake", "(II)I"⟩ prog_1_method_24_code 4 (Option.some .int) ∈ xk_T := xk_in (List.mem_of_getElem? (i := 558) (by decide +kernel)) rfl
theorem xm_495 : Cond.stringRef "Clickbook" 286 "no such TAKE" ∈ lw_tbl := List.mem_of_getElem? (i := 559) (by decide +kernel)
theorem xm_496 : Cond.stringRef "Clickbook" 303 "no such question of a TAKE" ∈ lw_tbl := List.mem_of_getElem? (i := 560) (by decide +kernel)
theorem xm_497 : Cond.methodLink "Clickbook" 394 ⟨"Clickbook", "sheet", "(I)I"⟩ ∈ xk_T := xk_in (List.mem_of_getElem? (i := 561) (by decide +kernel)) rfl
theorem xm_498 : Cond.instanceMethod ⟨"Clickbook", "sheet", "(I)I"⟩ ∈ xk_T := xk_in (List.mem_of_getElem? (i := 562) (by decide +kernel)) rfl
theorem xm_499 : Cond.selects "Clickbook" ⟨"Clickbook", "sheet", "(I)I"⟩ ⟨"Clickbook", "sheet", "(I)I"⟩ ∈ xk_T := xk_in (List.mem_of_getElem? (i := 563) (by decide +kernel)) rfl
theorem xm_500 : Cond.code ⟨"Clickbook", "sheet", "(I)I"⟩ prog_1_method_25_code 5 (Option.some .int) ∈ xk_T := xk_in (List.mem_of_getElem? (i := 564) (by decide +kernel)) rfl
theorem xm_501 : Cond.stringRef "Clickbook" 305 "no such WRITER" ∈ lw_tbl := List.mem_of_getElem? (i := 565) (by decide +kernel)
theorem xm_502 : Cond.methodLink "Clickbook" 397 ⟨"Clickbook", "wouldMeet", "(II)I"⟩ ∈ xk_T := xk_in (List.mem_of_getElem? (i := 566) (by decide +kernel)) rfl
theorem xm_503 : Cond.instanceMethod ⟨"Clickbook", "wouldMeet", "(II)I"⟩ ∈ xk_T := xk_in (List.mem_of_getElem? (i := 567) (by decide +kernel)) rfl
theorem xm_504 : Cond.selects "Clickbook" ⟨"Clickbook", "wouldMeet", "(II)I"⟩ ⟨"Clickbook", "wouldMeet", "(II)I"⟩ ∈ xk_T := xk_in (List.mem_of_getElem? (i := 568) (by decide +kernel)) rfl
theorem xm_505 : Cond.code ⟨"Clickbook", "wouldMeet", "(II)I"⟩ prog_1_method_50_code 6 (Option.some .int) ∈ xk_T := xk_in (List.mem_of_getElem? (i := 569) (by decide +kernel)) rfl
theorem xm_506 : Cond.methodLink "Clickbook" 76 ⟨"Clickbook", "refuseBadCut", "(II)V"⟩ ∈ xk_T := xk_in (List.mem_of_getElem? (i := 570) (by decide +kernel)) rfl
theorem xm_508 : Cond.instanceMethod ⟨"Clickbook", "refuseBadCut", "(II)V"⟩ ∈ xk_T := xk_in (List.mem_of_getElem? (i := 572) (by decide +kernel)) rfl
theorem xm_509 : Cond.code ⟨"Clickbook", "refuseBadCut", "(II)V"⟩ prog_1_method_6_code 3 (Option.none : Option FieldType) ∈ xk_T := xk_in (List.mem_of_getElem? (i := 573) (by decide +kernel)) rfl
theorem xm_510 : Cond.stringRef "Clickbook" 111 "no such CHANGE" ∈ lw_tbl := List.mem_of_getElem? (i := 574) (by decide +kernel)
theorem xm_511 : Cond.stringRef "Clickbook" 113 "that can not be taken out" ∈ lw_tbl := List.mem_of_getElem? (i := 575) (by decide +kernel)
theorem xm_512 : Cond.methodLink "Clickbook" 115 ⟨"Clickbook", "isTakenOut", "(III)Z"⟩ ∈ xk_T := xk_in (List.mem_of_getElem? (i := 576) (by decide +kernel)) rfl
theorem xm_513 : Cond.static ⟨"Clickbook", "isTakenOut", "(III)Z"⟩ ∈ xk_T := xk_in (List.mem_of_getElem? (i := 577) (by decide +kernel)) rfl
theorem xm_514 : Cond.code ⟨"Clickbook", "isTakenOut", "(III)Z"⟩ prog_1_method_7_code 3 (Option.some .boolean) ∈ xk_T := xk_in (List.mem_of_getElem? (i := 578) (by decide +kernel)) rfl
theorem xm_519 : Cond.methodLink "Clickbook" 95 ⟨"Clickbook", "movedFrame", "(III)I"⟩ ∈ xk_T := xk_in (List.mem_of_getElem? (i := 583) (by decide +kernel)) rfl
theorem xm_520 : Cond.static ⟨"Clickbook", "movedFrame", "(III)I"⟩ ∈ xk_T := xk_in (List.mem_of_getElem? (i := 584) (by decide +kernel)) rfl
theorem xm_521 : Cond.code ⟨"Clickbook", "movedFrame", "(III)I"⟩ prog_1_method_8_code 3 (Option.some .int) ∈ xk_T := xk_in (List.mem_of_getElem? (i := 585) (by decide +kernel)) rfl
theorem xm_522 : Cond.methodLink "Clickbook" 400 ⟨"java/util/ArrayList", "isEmpty", "()Z"⟩ ∈ xk_T := xk_in (List.mem_of_getElem? (i := 586) (by decide +kernel)) rfl
theorem xm_523 : Cond.instanceMethod ⟨"java/util/ArrayList", "isEmpty", "()Z"⟩ ∈ xk_T := xk_in (List.mem_of_getElem? (i := 587) (by decide +kernel)) rfl
theorem xm_524 : Cond.selects "java/util/ArrayList" ⟨"java/util/ArrayList", "isEmpty", "()Z"⟩ ⟨"java/util/ArrayList", "isEmpty", "()Z"⟩ ∈ xk_T := xk_in (List.mem_of_getElem? (i := 588) (by decide +kernel)) rfl
theorem xm_525 : Cond.code ⟨"java/util/ArrayList", "isEmpty", "()Z"⟩ prog_31_method_9_code 1 (Option.some .boolean) ∈ xk_T := xk_in (List.mem_of_getElem? (i := 589) (by decide +kernel)) rfl
theorem xm_527 : Cond.instanceMethod ⟨"Clickbook", "bestStart", "(I)I"⟩ ∈ xk_T := xk_in (List.mem_of_getElem? (i := 591) (by decide +kernel)) rfl
theorem xm_528 : Cond.selects "Clickbook" ⟨"Clickbook", "bestStart", "(I)I"⟩ ⟨"Clickbook", "bestStart", "(I)I"⟩ ∈ xk_T := xk_in (List.mem_of_getElem? (i := 592) (by decide +kernel)) rfl
theorem xm_529 : Cond.code ⟨"Clickbook", "bestStart", "(I)I"⟩ prog_1_method_48_code 9 (Option.some .int) ∈ xk_T := xk_in (List.mem_of_getElem? (i := 593) (by decide +kernel)) rfl
theorem xm_538 : Cond.methodLink "ClickbookLaw" 91 ⟨"ClickbookLaw", "hit", "(LClickbook;II[J)I"⟩ ∈ xk_T := xk_in (List.mem_of_getElem? (i := 602) (by decide +kernel)) rfl
theorem xm_539 : Cond.static ⟨"ClickbookLaw", "hit", "(LClickbook;II[J)I"⟩ ∈ xk_T := xk_in (List.mem_of_getElem? (i := 603) (by decide +kernel)) rfl
theorem xm_540 : Cond.codeWith ⟨"ClickbookLaw", "hit", "(LClickbook;II[J)I"⟩ method_3_code 5 (Option.some .int) [(0, 10, 13, 13), (0, 10, 17, 15)] ∈ xk_T := xk_in (List.mem_of_getElem? (i := 604) (by decide +kernel)) rfl
theorem xm_541 : Cond.classLink "ClickbookLaw" 13 "java/lang/IllegalArgumentException" ∈ xk_T := xk_in (List.mem_of_getElem? (i := 605) (by decide +kernel)) rfl
theorem xm_542 : Cond.classLink "ClickbookLaw" 15 "java/lang/IllegalStateException" ∈ xk_T := xk_in (List.mem_of_getElem? (i := 606) (by decide +kernel)) rfl
theorem xm_543 : Cond.methodLink "ClickbookLaw" 7 ⟨"Clickbook", "hit", "(II)I"⟩ ∈ xk_T := xk_in (List.mem_of_getElem? (i := 607) (by decide +kernel)) rfl
theorem xm_544 : Cond.instanceMethod ⟨"Clickbook", "hit", "(II)I"⟩ ∈ xk_T := xk_in (List.mem_of_getElem? (i := 608) (by decide +kernel)) rfl
theorem xm_545 : Cond.selects "Clickbook" ⟨"Clickbook", "hit", "(II)I"⟩ ⟨"Clickbook", "hit", "(II)I"⟩ ∈ xk_T := xk_in (List.mem_of_getElem? (i := 609) (by decide +kernel)) rfl
theorem xm_546 : Cond.code ⟨"Clickbook", "hit", "(II)I"⟩ prog_1_method_2_code 3 (Option.some .int) ∈ xk_T := xk_in (List.mem_of_getElem? (i := 610) (by decide +kernel)) rfl
theorem xm_547 : Cond.stringRef "Clickbook" 46 "no such FRAME or TOLERANCE" ∈ lw_tbl := List.mem_of_getElem? (i := 611) (by decide +kernel)
theorem xm_548 : Cond.classLink "Clickbook" 55 "java/lang/IllegalStateException" ∈ xk_T := xk_in (List.mem_of_getElem? (i := 612) (by decide +kernel)) rfl
theorem xm_550 : Cond.castable "java/lang/IllegalStateException" "java/lang/IllegalStateException" ∈ lw_tbl := List.mem_of_getElem? (i := 614) (by decide +kernel)
theorem xm_557 : Cond.stringRef "Clickbook" 57 "no more HITS" ∈ lw_tbl := List.mem_of_getElem? (i := 621) (by decide +kernel)
theorem xm_564 : Cond.instantiable "Clickbook$Hit" 3 ∈ xk_T := xk_in (List.mem_of_getElem? (i := 628) (by decide +kernel)) rfl
theorem xm_565 : Cond.methodLink "Clickbook" 62 ⟨"Clickbook$Hit", "<init>", "(II)V"⟩ ∈ xk_T := xk_in (List.mem_of_getElem? (i := 629) (by decide +kernel)) rfl
theorem xm_566 : Cond.instanceMethod ⟨"Clickbook$Hit", "<init>", "(II)V"⟩ ∈ xk_T := xk_in (List.mem_of_getElem? (i := 630) (by decide +kernel)) rfl
theorem xm_567 : Cond.code ⟨"Clickbook$Hit", "<init>", "(II)V"⟩ prog_3_method_1_code 3 (Option.none : Option FieldType) ∈ xk_T := xk_in (List.mem_of_getElem? (i := 631) (by decide +kernel)) rfl
theorem xm_568 : Cond.methodLink "Clickbook$Hit" 1 ⟨"java/lang/Object", "<init>", "()V"⟩ ∈ xk_T := xk_in (List.mem_of_getElem? (i := 632) (by decide +kernel)) rfl
theorem xm_569 : Cond.fieldLink "Clickbook$Hit" 7 "Clickbook$Hit" "frame" "I" ∈ xk_T := xk_in (List.mem_of_getElem? (i := 633) (by decide +kernel)) rfl
theorem xm_571 : Cond.fieldLink "Clickbook$Hit" 13 "Clickbook$Hit" "tolerance" "I" ∈ xk_T := xk_in (List.mem_of_getElem? (i := 635) (by decide +kernel)) rfl
theorem xm_582 : Cond.methodLink "Clickbook" 65 ⟨"java/util/ArrayList", "add", "(Ljava/lang/Object;)Z"⟩ ∈ xk_T := xk_in (List.mem_of_getElem? (i := 646) (by decide +kernel)) rfl
theorem xm_583 : Cond.methodLink "ClickbookLaw" 100 ⟨"ClickbookLaw", "theme", "(LClickbook;I[J)I"⟩ ∈ xk_T := xk_in (List.mem_of_getElem? (i := 647) (by decide +kernel)) rfl
theorem xm_584 : Cond.static ⟨"ClickbookLaw", "theme", "(LClickbook;I[J)I"⟩ ∈ xk_T := xk_in (List.mem_of_getElem? (i := 648) (by decide +kernel)) rfl
theorem xm_585 : Cond.codeWith ⟨"ClickbookLaw", "theme", "(LClickbook;I[J)I"⟩ method_4_code 4 (Option.some .int) [(0, 9, 12, 13), (0, 9, 15, 15)] ∈ xk_T := xk_in (List.mem_of_getElem? (i := 649) (by decide +kernel)) rfl
theorem xm_586 : Cond.methodLink "ClickbookLaw" 17 ⟨"Clickbook", "theme", "(I)I"⟩ ∈ xk_T := xk_in (List.mem_of_getElem? (i := 650) (by decide +kernel)) rfl
theorem xm_587 : Cond.instanceMethod ⟨"Clickbook", "theme", "(I)I"⟩ ∈ xk_T := xk_in (List.mem_of_getElem? (i := 651) (by decide +kernel)) rfl
theorem xm_588 : Cond.selects "Clickbook" ⟨"Clickbook", "theme", "(I)I"⟩ ⟨"Clickbook", "theme", "(I)I"⟩ ∈ xk_T := xk_in (List.mem_of_getElem? (i := 652) (by decide +kernel)) rfl
theorem xm_589 : Cond.code ⟨"Clickbook", "theme", "(I)I"⟩ prog_1_method_3_code 2 (Option.some .int) ∈ xk_T := xk_in (List.mem_of_getElem? (i := 653) (by decide +kernel)) rfl
theorem xm_590 : Cond.stringRef "Clickbook" 69 "no such FRAME" ∈ lw_tbl := List.mem_of_getElem? (i := 654) (by decide +kernel)
theorem xm_591 : Cond.stringRef "Clickbook" 74 "no more THEMES" ∈ lw_tbl := List.mem_of_getElem? (i := 655) (by decide +kernel)
theorem xm_592 : Cond.methodLink "ClickbookLaw" 104 ⟨"ClickbookLaw", "change", "(LClickbook;II[J)I"⟩ ∈ xk_T := xk_in (List.mem_of_getElem? (i := 656) (by decide +kernel)) rfl
theorem xm_593 : Cond.static ⟨"ClickbookLaw", "change", "(LClickbook;II[J)I"⟩ ∈ xk_T := xk_in (List.mem_of_getElem? (i := 657) (by decide +kernel)) rfl
theorem xm_594 : Cond.codeWith ⟨"ClickbookLaw", "change", "(LClickbook;II[J)I"⟩ method_5_code 5 (Option.some .int) [(0, 10, 13, 13), (0, 10, 17, 15)] ∈ xk_T := xk_in (List.mem_of_getElem? (i := 658) (by decide +kernel)) rfl
theorem xm_595 : Cond.methodLink "ClickbookLaw" 21 ⟨"Clickbook", "change", "(II)I"⟩ ∈ xk_T := xk_in (List.mem_of_getElem? (i := 659) (by decide +kernel)) rfl
theorem xm_596 : Cond.instanceMethod ⟨"Clickbook", "change", "(II)I"⟩ ∈ xk_T := xk_in (List.mem_of_getElem? (i := 660) (by decide +kernel)) rfl
theorem xm_597 : Cond.selects "Clickbook" ⟨"Clickbook", "change", "(II)I"⟩ ⟨"Clickbook", "change", "(II)I"⟩ ∈ xk_T := xk_in (List.mem_of_getElem? (i := 661) (by decide +kernel)) rfl
theorem xm_598 : Cond.code ⟨"Clickbook", "change", "(II)I"⟩ prog_1_method_4_code 5 (Option.some .int) ∈ xk_T := xk_in (List.mem_of_getElem? (i := 662) (by decide +kernel)) rfl
theorem xm_599 : Cond.stringRef "Clickbook" 82 "no more VERSIONS" ∈ lw_tbl := List.mem_of_getElem? (i := 663) (by decide +kernel)
theorem xm_600 : Cond.methodLink "Clickbook" 84 ⟨"Clickbook", "cutCues", "(II)I"⟩ ∈ xk_T := xk_in (List.mem_of_getElem? (i := 664) (by decide +kernel)) rfl
theorem xm_602 : Cond.instanceMethod ⟨"Clickbook", "cutCues", "(II)I"⟩ ∈ xk_T := xk_in (List.mem_of_getElem? (i := 666) (by decide +kernel)) rfl
theorem xm_603 : Cond.code ⟨"Clickbook", "cutCues", "(II)I"⟩ prog_1_method_5_code 6 (Option.some .int) ∈ xk_T := xk_in (List.mem_of_getElem? (i := 667) (by decide +kernel)) rfl
theorem xm_613 : Cond.methodLinkNest "Clickbook$Hit" 20 ⟨"Clickbook", "isTakenOut", "(III)Z"⟩ "Clickbook" ∈ lw_tbl := List.mem_of_getElem? (i := 677) (by decide +kernel)
theorem xm_614 : Cond.methodLinkNest "Clickbook$Hit" 26 ⟨"Clickbook", "movedFrame", "(III)I"⟩ "Clickbook" ∈ lw_tbl := List.mem_of_getElem? (i := 678) (by decide +kernel)
theorem xm_615 : Cond.methodLink "ClickbookLaw" 107 ⟨"ClickbookLaw", "cue", "(LClickbook;IIIII[J)I"⟩ ∈ xk_T := xk_in (List.mem_of_getElem? (i := 679) (by decide +kernel)) rfl
theorem xm_616 : Cond.static ⟨"ClickbookLaw", "cue", "(LClickbook;IIIII[J)I"⟩ ∈ xk_T := xk_in (List.mem_of_getElem? (i := 680) (by decide +kernel)) rfl
theorem xm_617 : Cond.codeWith ⟨"ClickbookLaw", "cue", "(LClickbook;IIIII[J)I"⟩ method_6_code 8 (Option.some .int) [(0, 16, 19, 28), (0, 16, 23, 13), (0, 16, 27, 15)] ∈ xk_T := xk_in (List.mem_of_getElem? (i := 681) (by decide +kernel)) rfl
theorem xm_618 : Cond.classLink "ClickbookLaw" 28 "java/lang/IndexOutOfBoundsException" ∈ xk_T := xk_in (List.mem_of_getElem? (i := 682) (by decide +kernel)) rfl
theorem xm_619 : Cond.methodLink "ClickbookLaw" 24 ⟨"Clickbook", "cue", "(IIIII)I"⟩ ∈ xk_T := xk_in (List.mem_of_getElem? (i := 683) (by decide +kernel)) rfl
theorem xm_620 : Cond.instanceMethod ⟨"Clickbook", "cue", "(IIIII)I"⟩ ∈ xk_T := xk_in (List.mem_of_getElem? (i := 684) (by decide +kernel)) rfl
theorem xm_621 : Cond.selects "Clickbook" ⟨"Clickbook", "cue", "(IIIII)I"⟩ ⟨"Clickbook", "cue", "(IIIII)I"⟩ ∈ xk_T := xk_in (List.mem_of_getElem? (i := 685) (by decide +kernel)) rfl
theorem xm_622 : Cond.code ⟨"Clickbook", "cue", "(IIIII)I"⟩ prog_1_method_9_code 7 (Option.some .int) ∈ xk_T := xk_in (List.mem_of_getElem? (i := 686) (by decide +kernel)) rfl
theorem xm_623 : Cond.stringRef "Clickbook" 121 "no such THEME" ∈ lw_tbl := List.mem_of_getElem? (i := 687) (by decide +kernel)
theorem xm_624 : Cond.stringRef "Clickbook" 124 "no such START or PLAYERS" ∈ lw_tbl := List.mem_of_getElem? (i := 688) (by decide +kernel)
theorem xm_625 : Cond.stringRef "Clickbook" 126 "no such WRITER or USE" ∈ lw_tbl := List.mem_of_getElem? (i := 689) (by decide +kernel)
theorem xm_626 : Cond.stringRef "Clickbook" 128 "no more CUES" ∈ lw_tbl := List.mem_of_getElem? (i := 690) (by decide +kernel)
theorem xm_627 : Cond.instantiable "Clickbook$Cue" 13 ∈ xk_T := xk_in (List.mem_of_getElem? (i := 691) (by decide +kernel)) rfl
theorem xm_628 : Cond.methodLink "Clickbook" 130 ⟨"Clickbook$Cue", "<init>", "(IIIIII)V"⟩ ∈ xk_T := xk_in (List.mem_of_getElem? (i := 692) (by decide +kernel)) rfl
theorem xm_629 : Cond.instanceMethod ⟨"Clickbook$Cue", "<init>", "(IIIIII)V"⟩ ∈ xk_T := xk_in (List.mem_of_getElem? (i := 693) (by decide +kernel)) rfl
theorem xm_630 : Cond.code ⟨"Clickbook$Cue", "<init>", "(IIIIII)V"⟩ prog_2_method_1_code 7 (Option.none : Option FieldType) ∈ xk_T := xk_in (List.mem_of_getElem? (i := 694) (by decide +kernel)) rfl
theorem xm_631 : Cond.methodLink "Clickbook$Cue" 3 ⟨"java/lang/Object", "<init>", "()V"⟩ ∈ xk_T := xk_in (List.mem_of_getElem? (i := 695) (by decide +kernel)) rfl
theorem xm_632 : Cond.fieldLink "Clickbook$Cue" 9 "Clickbook$Cue" "number" "I" ∈ xk_T := xk_in (List.mem_of_getElem? (i := 696) (by decide +kernel)) rfl
theorem xm_633 : Cond.fieldLink "Clickbook" 133 "Clickbook$Cue" "number" "I" ∈ xk_T := xk_in (List.mem_of_getElem? (i := 697) (by decide +kernel)) rfl
theorem xm_634 : Cond.fieldLink "Clickbook$Cue" 15 "Clickbook$Cue" "start" "I" ∈ xk_T := xk_in (List.mem_of_getElem? (i := 698) (by decide +kernel)) rfl
theorem xm_636 : Cond.fieldLink "Clickbook$Cue" 18 "Clickbook$Cue" "theme" "I" ∈ xk_T := xk_in (List.mem_of_getElem? (i := 700) (by decide +kernel)) rfl
theorem xm_638 : Cond.fieldLink "Clickbook$Cue" 21 "Clickbook$Cue" "players" "I" ∈ xk_T := xk_in (List.mem_of_getElem? (i := 702) (by decide +kernel)) rfl
theorem xm_640 : Cond.fieldLink "Clickbook$Cue" 24 "Clickbook$Cue" "writer" "I" ∈ xk_T := xk_in (List.mem_of_getElem? (i := 704) (by decide +kernel)) rfl
theorem xm_642 : Cond.fieldLink "Clickbook$Cue" 27 "Clickbook$Cue" "use" "I" ∈ xk_T := xk_in (List.mem_of_getElem? (i := 706) (by decide +kernel)) rfl
theorem xm_650 : Cond.fieldLink "Clickbook$Cue" 30 "Clickbook$Cue" "meters" "[I" ∈ xk_T := xk_in (List.mem_of_getElem? (i := 714) (by decide +kernel)) rfl
theorem xm_652 : Cond.fieldLink "Clickbook$Cue" 34 "Clickbook$Cue" "clicks" "[I" ∈ xk_T := xk_in (List.mem_of_getElem? (i := 716) (by decide +kernel)) rfl
theorem xm_658 : Cond.fieldLink "Clickbook$Cue" 37 "Clickbook$Cue" "offsets" "[I" ∈ xk_T := xk_in (List.mem_of_getElem? (i := 722) (by decide +kernel)) rfl
theorem xm_687 : Cond.methodLink "ClickbookLaw" 111 ⟨"ClickbookLaw", "bar", "(LClickbook;III[J)I"⟩ ∈ xk_T := xk_in (List.mem_of_getElem? (i := 751) (by decide +kernel)) rfl
theorem xm_688 : Cond.static ⟨"ClickbookLaw", "bar", "(LClickbook;III[J)I"⟩ ∈ xk_T := xk_in (List.mem_of_getElem? (i := 752) (by decide +kernel)) rfl
theorem xm_689 : Cond.codeWith ⟨"ClickbookLaw", "bar", "(LClickbook;III[J)I"⟩ method_7_code 6 (Option.some .int) [(0, 12, 15, 28), (0, 12, 19, 13), (0, 12, 23, 15)] ∈ xk_T := xk_in (List.mem_of_getElem? (i := 753) (by decide +kernel)) rfl
theorem xm_690 : Cond.methodLink "ClickbookLaw" 30 ⟨"Clickbook", "bar", "(III)I"⟩ ∈ xk_T := xk_in (List.mem_of_getElem? (i := 754) (by decide +kernel)) rfl
theorem xm_691 : Cond.instanceMethod ⟨"Clickbook", "bar", "(III)I"⟩ ∈ xk_T := xk_in (List.mem_of_getElem? (i := 755) (by decide +kernel)) rfl
theorem xm_692 : Cond.selects "Clickbook" ⟨"Clickbook", "bar", "(III)I"⟩ ⟨"Clickbook", "bar", "(III)I"⟩ ∈ xk_T := xk_in (List.mem_of_getElem? (i := 756) (by decide +kernel)) rfl
theorem xm_693 : Cond.code ⟨"Clickbook", "bar", "(III)I"⟩ prog_1_method_10_code 5 (Option.some .int) ∈ xk_T := xk_in (List.mem_of_getElem? (i := 757) (by decide +kernel)) rfl
theorem xm_697 : Cond.stringRef "Clickbook" 168 "no such METER or CLICK" ∈ lw_tbl := List.mem_of_getElem? (i := 761) (by decide +kernel)
theorem xm_698 : Cond.stringRef "Clickbook" 146 "no more BARS" ∈ lw_tbl := List.mem_of_getElem? (i := 762) (by decide +kernel)
theorem xm_708 : Cond.methodLinkNest "Clickbook$Cue" 57 ⟨"Clickbook", "roundedUp", "(II)I"⟩ "Clickbook" ∈ lw_tbl := List.mem_of_getElem? (i := 772) (by decide +kernel)
theorem xm_709 : Cond.static ⟨"Clickbook", "roundedUp", "(II)I"⟩ ∈ xk_T := xk_in (List.mem_of_getElem? (i := 773) (by decide +kernel)) rfl
theorem xm_710 : Cond.code ⟨"Clickbook", "roundedUp", "(II)I"⟩ prog_1_method_19_code 2 (Option.some .int) ∈ xk_T := xk_in (List.mem_of_getElem? (i := 774) (by decide +kernel)) rfl
theorem xm_711 : Cond.methodLink "ClickbookLaw" 115 ⟨"ClickbookLaw", "retime", "(LClickbook;IIII[J)I"⟩ ∈ xk_T := xk_in (List.mem_of_getElem? (i := 775) (by decide +kernel)) rfl
theorem xm_712 : Cond.static ⟨"ClickbookLaw", "retime", "(LClickbook;IIII[J)I"⟩ ∈ xk_T := xk_in (List.mem_of_getElem? (i := 776) (by decide +kernel)) rfl
theorem xm_713 : Cond.codeWith ⟨"ClickbookLaw", "retime", "(LClickbook;IIII[J)I"⟩ method_8_code 7 (Option.some .int) [(0, 14, 17, 28), (0, 14, 21, 13)] ∈ xk_T := xk_in (List.mem_of_getElem? (i := 777) (by decide +kernel)) rfl
theorem xm_714 : Cond.methodLink "ClickbookLaw" 34 ⟨"Clickbook", "retime", "(IIII)I"⟩ ∈ xk_T := xk_in (List.mem_of_getElem? (i := 778) (by decide +kernel)) rfl
theorem xm_715 : Cond.instanceMethod ⟨"Clickbook", "retime", "(IIII)I"⟩ ∈ xk_T := xk_in (List.mem_of_getElem? (i := 779) (by decide +kernel)) rfl
theorem xm_716 : Cond.selects "Clickbook" ⟨"Clickbook", "retime", "(IIII)I"⟩ ⟨"Clickbook", "retime", "(IIII)I"⟩ ∈ xk_T := xk_in (List.mem_of_getElem? (i := 780) (by decide +kernel)) rfl
theorem xm_717 : Cond.code ⟨"Clickbook", "retime", "(IIII)I"⟩ prog_1_method_11_code 6 (Option.some .int) ∈ xk_T := xk_in (List.mem_of_getElem? (i := 781) (by decide +kernel)) rfl
theorem xm_718 : Cond.methodLink "ClickbookLaw" 119 ⟨"ClickbookLaw", "shift", "(LClickbook;II[J)I"⟩ ∈ xk_T := xk_in (List.mem_of_getElem? (i := 782) (by decide +kernel)) rfl
theorem xm_719 : Cond.static ⟨"ClickbookLaw", "shift", "(LClickbook;II[J)I"⟩ ∈ xk_T := xk_in (List.mem_of_getElem? (i := 783) (by decide +kernel)) rfl
theorem xm_720 : Cond.codeWith ⟨"ClickbookLaw", "shift", "(LClickbook;II[J)I"⟩ method_9_code 5 (Option.some .int) [(0, 10, 13, 28), (0, 10, 17, 13)] ∈ xk_T := xk_in (List.mem_of_getElem? (i := 784) (by decide +kernel)) rfl
theorem xm_721 : Cond.methodLink "ClickbookLaw" 38 ⟨"Clickbook", "shift", "(II)I"⟩ ∈ xk_T := xk_in (List.mem_of_getElem? (i := 785) (by decide +kernel)) rfl
theorem xm_722 : Cond.instanceMethod ⟨"Clickbook", "shift", "(II)I"⟩ ∈ xk_T := xk_in (List.mem_of_getElem? (i := 786) (by decide +kernel)) rfl
theorem xm_723 : Cond.selects "Clickbook" ⟨"Clickbook", "shift", "(II)I"⟩ ⟨"Clickbook", "shift", "(II)I"⟩ ∈ xk_T := xk_in (List.mem_of_getElem? (i := 787) (by decide +kernel)) rfl
theorem xm_724 : Cond.code ⟨"Clickbook", "shift", "(II)I"⟩ prog_1_method_12_code 4 (Option.some .int) ∈ xk_T := xk_in (List.mem_of_getElem? (i := 788) (by decide +kernel)) rfl
theorem xm_725 : Cond.stringRef "Clickbook" 159 "no such START" ∈ lw_tbl := List.mem_of_getElem? (i := 789) (by decide +kernel)
theorem xm_726 : Cond.methodLink "ClickbookLaw" 122 ⟨"ClickbookLaw", "open", "(LClickbook;I[J)I"⟩ ∈ xk_T := xk_in (List.mem_of_getElem? (i := 790) (by decide +kernel)) rfl
theorem xm_727 : Cond.static ⟨"ClickbookLaw", "open", "(LClickbook;I[J)I"⟩ ∈ xk_T := xk_in (List.mem_of_getElem? (i := 791) (by decide +kernel)) rfl
theorem xm_728 : Cond.codeWith ⟨"ClickbookLaw", "open", "(LClickbook;I[J)I"⟩ method_10_code 4 (Option.some .int) [(0, 9, 12, 13), (0, 9, 15, 15)] ∈ xk_T := xk_in (List.mem_of_getElem? (i := 792) (by decide +kernel)) rfl
theorem xm_729 : Cond.methodLink "ClickbookLaw" 41 ⟨"Clickbook", "open", "(I)I"⟩ ∈ xk_T := xk_in (List.mem_of_getElem? (i := 793) (by decide +kernel)) rfl
theorem xm_730 : Cond.instanceMethod ⟨"Clickbook", "open", "(I)I"⟩ ∈ xk_T := xk_in (List.mem_of_getElem? (i := 794) (by decide +kernel)) rfl
theorem xm_731 : Cond.selects "Clickbook" ⟨"Clickbook", "open", "(I)I"⟩ ⟨"Clickbook", "open", "(I)I"⟩ ∈ xk_T := xk_in (List.mem_of_getElem? (i := 795) (by decide +kernel)) rfl
theorem xm_732 : Cond.code ⟨"Clickbook", "open", "(I)I"⟩ prog_1_method_16_code 2 (Option.some .int) ∈ xk_T := xk_in (List.mem_of_getElem? (i := 796) (by decide +kernel)) rfl
theorem xm_733 : Cond.stringRef "Clickbook" 170 "no such band" ∈ lw_tbl := List.mem_of_getElem? (i := 797) (by decide +kernel)
theorem xm_734 : Cond.stringRef "Clickbook" 175 "a SESSION is open" ∈ lw_tbl := List.mem_of_getElem? (i := 798) (by decide +kernel)
theorem xm_735 : Cond.methodLink "ClickbookLaw" 125 ⟨"ClickbookLaw", "take", "(LClickbook;III[J)I"⟩ ∈ xk_T := xk_in (List.mem_of_getElem? (i := 799) (by decide +kernel)) rfl
theorem xm_736 : Cond.static ⟨"ClickbookLaw", "take", "(LClickbook;III[J)I"⟩ ∈ xk_T := xk_in (List.mem_of_getElem? (i := 800) (by decide +kernel)) rfl
theorem xm_737 : Cond.codeWith ⟨"ClickbookLaw", "take", "(LClickbook;III[J)I"⟩ method_11_code 6 (Option.some .int) [(0, 12, 15, 28), (0, 12, 19, 13), (0, 12, 23, 15)] ∈ xk_T := xk_in (List.mem_of_getElem? (i := 801) (by decide +kernel)) rfl
theorem xm_738 : Cond.methodLink "ClickbookLaw" 44 ⟨"Clickbook", "take", "(III)I"⟩ ∈ xk_T := xk_in (List.mem_of_getElem? (i := 802) (by decide +kernel)) rfl
theorem xm_739 : Cond.instanceMethod ⟨"Clickbook", "take", "(III)I"⟩ ∈ xk_T := xk_in (List.mem_of_getElem? (i := 803) (by decide +kernel)) rfl
theorem xm_740 : Cond.selects "Clickbook" ⟨"Clickbook", "take", "(III)I"⟩ ⟨"Clickbook", "take", "(III)I"⟩ ∈ xk_T := xk_in (List.mem_of_getElem? (i := 804) (by decide +kernel)) rfl
theorem xm_741 : Cond.code ⟨"Clickbook", "take", "(III)I"⟩ prog_1_method_17_code 6 (Option.some .int) ∈ xk_T := xk_in (List.mem_of_getElem? (i := 805) (by decide +kernel)) rfl
theorem xm_746 : Cond.stringRef "Clickbook" 180 "no such NOTES or PUSH" ∈ lw_tbl := List.mem_of_getElem? (i := 810) (by decide +kernel)
theorem xm_747 : Cond.stringRef "Clickbook" 185 "no SESSION for that CUE" ∈ lw_tbl := List.mem_of_getElem? (i := 811) (by decide +kernel)
theorem xm_748 : Cond.methodLink "Clickbook" 190 ⟨"Clickbook", "roundedUp", "(II)I"⟩ ∈ xk_T := xk_in (List.mem_of_getElem? (i := 812) (by decide +kernel)) rfl
theorem xm_749 : Cond.stringRef "Clickbook" 196 "no more TIME or TAKES" ∈ lw_tbl := List.mem_of_getElem? (i := 813) (by decide +kernel)
theorem xm_777 : Cond.methodLink "ClickbookLaw" 128 ⟨"ClickbookLaw", "close", "(LClickbook;[J)I"⟩ ∈ xk_T := xk_in (List.mem_of_getElem? (i := 841) (by decide +kernel)) rfl
theorem xm_778 : Cond.static ⟨"ClickbookLaw", "close", "(LClickbook;[J)I"⟩ ∈ xk_T := xk_in (List.mem_of_getElem? (i := 842) (by decide +kernel)) rfl
theorem xm_779 : Cond.codeWith ⟨"ClickbookLaw", "close", "(LClickbook;[J)I"⟩ method_12_code 3 (Option.some .int) [(0, 8, 11, 15)] ∈ xk_T := xk_in (List.mem_of_getElem? (i := 843) (by decide +kernel)) rfl
theorem xm_780 : Cond.methodLink "ClickbookLaw" 47 ⟨"Clickbook", "close", "()I"⟩ ∈ xk_T := xk_in (List.mem_of_getElem? (i := 844) (by decide +kernel)) rfl
theorem xm_781 : Cond.instanceMethod ⟨"Clickbook", "close", "()I"⟩ ∈ xk_T := xk_in (List.mem_of_getElem? (i := 845) (by decide +kernel)) rfl
theorem xm_782 : Cond.selects "Clickbook" ⟨"Clickbook", "close", "()I"⟩ ⟨"Clickbook", "close", "()I"⟩ ∈ xk_T := xk_in (List.mem_of_getElem? (i := 846) (by decide +kernel)) rfl
theorem xm_783 : Cond.code ⟨"Clickbook", "close", "()I"⟩ prog_1_method_18_code 4 (Option.some .int) ∈ xk_T := xk_in (List.mem_of_getElem? (i := 847) (by decide +kernel)) rfl
theorem xm_784 : Cond.stringRef "Clickbook" 203 "no SESSION is open" ∈ lw_tbl := List.mem_of_getElem? (i := 848) (by decide +kernel)
theorem xm_785 : Cond.methodLink "Clickbook" 205 ⟨"java/lang/Math", "min", "(II)I"⟩ ∈ xk_T := xk_in (List.mem_of_getElem? (i := 849) (by decide +kernel)) rfl
theorem xm_786 : Cond.methodLink "ClickbookLaw" 132 ⟨"ClickbookLaw", "ofHit", "(LClickbook;II[J)I"⟩ ∈ xk_T := xk_in (List.mem_of_getElem? (i := 850) (by decide +kernel)) rfl
theorem xm_787 : Cond.static ⟨"ClickbookLaw", "ofHit", "(LClickbook;II[J)I"⟩ ∈ xk_T := xk_in (List.mem_of_getElem? (i := 851) (by decide +kernel)) rfl
theorem xm_788 : Cond.codeWith ⟨"ClickbookLaw", "ofHit", "(LClickbook;II[J)I"⟩ method_13_code 5 (Option.some .int) [(0, 10, 13, 28), (0, 10, 17, 13)] ∈ xk_T := xk_in (List.mem_of_getElem? (i := 852) (by decide +kernel)) rfl
theorem xm_789 : Cond.methodLink "ClickbookLaw" 51 ⟨"Clickbook", "ofHit", "(II)I"⟩ ∈ xk_T := xk_in (List.mem_of_getElem? (i := 853) (by decide +kernel)) rfl
theorem xm_790 : Cond.methodLink "ClickbookLaw" 135 ⟨"ClickbookLaw", "ofCue", "(LClickbook;II[J)I"⟩ ∈ xk_T := xk_in (List.mem_of_getElem? (i := 854) (by decide +kernel)) rfl
theorem xm_791 : Cond.static ⟨"ClickbookLaw", "ofCue", "(LClickbook;II[J)I"⟩ ∈ xk_T := xk_in (List.mem_of_getElem? (i := 855) (by decide +kernel)) rfl
theorem xm_792 : Cond.codeWith ⟨"ClickbookLaw", "ofCue", "(LClickbook;II[J)I"⟩ method_14_code 5 (Option.some .int) [(0, 10, 13, 28), (0, 10, 17, 13)] ∈ xk_T := xk_in (List.mem_of_getElem? (i := 856) (by decide +kernel)) rfl
theorem xm_793 : Cond.methodLink "ClickbookLaw" 54 ⟨"Clickbook", "ofCue", "(II)I"⟩ ∈ xk_T := xk_in (List.mem_of_getElem? (i := 857) (by decide +kernel)) rfl
theorem xm_794 : Cond.methodLink "ClickbookLaw" 138 ⟨"ClickbookLaw", "ofBar", "(LClickbook;III[J)I"⟩ ∈ xk_T := xk_in (List.mem_of_getElem? (i := 858) (by decide +kernel)) rfl
theorem xm_795 : Cond.static ⟨"ClickbookLaw", "ofBar", "(LClickbook;III[J)I"⟩ ∈ xk_T := xk_in (List.mem_of_getElem? (i := 859) (by decide +kernel)) rfl
theorem xm_796 : Cond.codeWith ⟨"ClickbookLaw", "ofBar", "(LClickbook;III[J)I"⟩ method_15_code 6 (Option.some .int) [(0, 12, 15, 28), (0, 12, 19, 13)] ∈ xk_T := xk_in (List.mem_of_getElem? (i := 860) (by decide +kernel)) rfl
theorem xm_797 : Cond.methodLink "ClickbookLaw" 57 ⟨"Clickbook", "ofBar", "(III)I"⟩ ∈ xk_T := xk_in (List.mem_of_getElem? (i := 861) (by decide +kernel)) rfl
theorem xm_798 : Cond.methodLink "ClickbookLaw" 141 ⟨"ClickbookLaw", "beat", "(LClickbook;II[J)I"⟩ ∈ xk_T := xk_in (List.mem_of_getElem? (i := 862) (by decide +kernel)) rfl
theorem xm_799 : Cond.static ⟨"ClickbookLaw", "beat", "(LClickbook;II[J)I"⟩ ∈ xk_T := xk_in (List.mem_of_getElem? (i := 863) (by decide +kernel)) rfl
theorem xm_800 : Cond.codeWith ⟨"ClickbookLaw", "beat", "(LClickbook;II[J)I"⟩ method_16_code 5 (Option.some .int) [(0, 10, 13, 28)] ∈ xk_T := xk_in (List.mem_of_getElem? (i := 864) (by decide +kernel)) rfl
theorem xm_801 : Cond.methodLink "ClickbookLaw" 60 ⟨"Clickbook", "beat", "(II)I"⟩ ∈ xk_T := xk_in (List.mem_of_getElem? (i := 865) (by decide +kernel)) rfl
theorem xm_802 : Cond.instanceMethod ⟨"Clickbook", "beat", "(II)I"⟩ ∈ xk_T := xk_in (List.mem_of_getElem? (i := 866) (by decide +kernel)) rfl
theorem xm_803 : Cond.selects "Clickbook" ⟨"Clickbook", "beat", "(II)I"⟩ ⟨"Clickbook", "beat", "(II)I"⟩ ∈ xk_T := xk_in (List.mem_of_getElem? (i := 867) (by decide +kernel)) rfl
theorem xm_804 : Cond.code ⟨"Clickbook", "beat", "(II)I"⟩ prog_1_method_23_code 4 (Option.some .int) ∈ xk_T := xk_in (List.mem_of_getElem? (i := 868) (by decide +kernel)) rfl
theorem xm_805 : Cond.stringRef "Clickbook" 284 "no such BEAT" ∈ lw_tbl := List.mem_of_getElem? (i := 869) (by decide +kernel)
theorem xm_806 : Cond.methodLink "ClickbookLaw" 144 ⟨"ClickbookLaw", "ofTake", "(LClickbook;II[J)I"⟩ ∈ xk_T := xk_in (List.mem_of_getElem? (i := 870) (by decide +kernel)) rfl
theorem xm_807 : Cond.static ⟨"ClickbookLaw", "ofTake", "(LClickbook;II[J)I"⟩ ∈ xk_T := xk_in (List.mem_of_getElem? (i := 871) (by decide +kernel)) rfl
theorem xm_808 : Cond.codeWith ⟨"ClickbookLaw", "ofTake", "(LClickbook;II[J)I"⟩ method_17_code 5 (Option.some .int) [(0, 10, 13, 28), (0, 10, 17, 13)] ∈ xk_T := xk_in (List.mem_of_getElem? (i := 872) (by decide +kernel)) rfl
theorem xm_809 : Cond.methodLink "ClickbookLaw" 63 ⟨"Clickbook", "ofTake", "(II)I"⟩ ∈ xk_T := xk_in (List.mem_of_getElem? (i := 873) (by decide +kernel)) rfl
theorem xm_810 : Cond.methodLink "ClickbookLaw" 147 ⟨"ClickbookLaw", "sheet", "(LClickbook;I[J)I"⟩ ∈ xk_T := xk_in (List.mem_of_getElem? (i := 874) (by decide +kernel)) rfl
theorem xm_811 : Cond.static ⟨"ClickbookLaw", "sheet", "(LClickbook;I[J)I"⟩ ∈ xk_T := xk_in (List.mem_of_getElem? (i := 875) (by decide +kernel)) rfl
theorem xm_812 : Cond.codeWith ⟨"ClickbookLaw", "sheet", "(LClickbook;I[J)I"⟩ method_18_code 4 (Option.some .int) [(0, 9, 12, 28)] ∈ xk_T := xk_in (List.mem_of_getElem? (i := 876) (by decide +kernel)) rfl
theorem xm_813 : Cond.methodLink "ClickbookLaw" 66 ⟨"Clickbook", "sheet", "(I)I"⟩ ∈ xk_T := xk_in (List.mem_of_getElem? (i := 877) (by decide +kernel)) rfl
theorem xm_814 : Cond.methodLink "ClickbookLaw" 150 ⟨"ClickbookLaw", "many", "(LClickbook;I[J)I"⟩ ∈ xk_T := xk_in (List.mem_of_getElem? (i := 878) (by decide +kernel)) rfl
theorem xm_815 : Cond.static ⟨"ClickbookLaw", "many", "(LClickbook;I[J)I"⟩ ∈ xk_T := xk_in (List.mem_of_getElem? (i := 879) (by decide +kernel)) rfl
theorem xm_816 : Cond.codeWith ⟨"ClickbookLaw", "many", "(LClickbook;I[J)I"⟩ method_19_code 4 (Option.some .int) [(0, 9, 12, 13)] ∈ xk_T := xk_in (List.mem_of_getElem? (i := 880) (by decide +kernel)) rfl
theorem xm_817 : Cond.methodLink "ClickbookLaw" 69 ⟨"Clickbook", "many", "(I)I"⟩ ∈ xk_T := xk_in (List.mem_of_getElem? (i := 881) (by decide +kernel)) rfl
theorem xm_818 : Cond.methodLink "ClickbookLaw" 158 ⟨"ClickbookLaw", "join", "(LClickbook;I[J)I"⟩ ∈ xk_T := xk_in (List.mem_of_getElem? (i := 882) (by decide +kernel)) rfl
theorem xm_819 : Cond.static ⟨"ClickbookLaw", "join", "(LClickbook;I[J)I"⟩ ∈ xk_T := xk_in (List.mem_of_getElem? (i := 883) (by decide +kernel)) rfl
theorem xm_820 : Cond.codeWith ⟨"ClickbookLaw", "join", "(LClickbook;I[J)I"⟩ method_20_code 4 (Option.some .int) [(0, 9, 12, 28)] ∈ xk_T := xk_in (List.mem_of_getElem? (i := 884) (by decide +kernel)) rfl
theorem xm_821 : Cond.methodLink "ClickbookLaw" 72 ⟨"Clickbook", "join", "(I)I"⟩ ∈ xk_T := xk_in (List.mem_of_getElem? (i := 885) (by decide +kernel)) rfl
theorem xm_822 : Cond.instanceMethod ⟨"Clickbook", "join", "(I)I"⟩ ∈ xk_T := xk_in (List.mem_of_getElem? (i := 886) (by decide +kernel)) rfl
theorem xm_823 : Cond.selects "Clickbook" ⟨"Clickbook", "join", "(I)I"⟩ ⟨"Clickbook", "join", "(I)I"⟩ ∈ xk_T := xk_in (List.mem_of_getElem? (i := 887) (by decide +kernel)) rfl
theorem xm_824 : Cond.code ⟨"Clickbook", "join", "(I)I"⟩ prog_1_method_46_code 2 (Option.some .int) ∈ xk_T := xk_in (List.mem_of_getElem? (i := 888) (by decide +kernel)) rfl
theorem xm_825 : Cond.methodLink "ClickbookLaw" 161 ⟨"ClickbookLaw", "joined", "(LClickbook;II[J)I"⟩ ∈ xk_T := xk_in (List.mem_of_getElem? (i := 889) (by decide +kernel)) rfl
theorem xm_826 : Cond.static ⟨"ClickbookLaw", "joined", "(LClickbook;II[J)I"⟩ ∈ xk_T := xk_in (List.mem_of_getElem? (i := 890) (by decide +kernel)) rfl
theorem xm_827 : Cond.codeWith ⟨"ClickbookLaw", "joined", "(LClickbook;II[J)I"⟩ method_21_code 5 (Option.some .int) [(0, 10, 13, 28)] ∈ xk_T := xk_in (List.mem_of_getElem? (i := 891) (by decide +kernel)) rfl
theorem xm_828 : Cond.methodLink "ClickbookLaw" 75 ⟨"Clickbook", "joined", "(II)I"⟩ ∈ xk_T := xk_in (List.mem_of_getElem? (i := 892) (by decide +kernel)) rfl
theorem xm_829 : Cond.instanceMethod ⟨"Clickbook", "joined", "(II)I"⟩ ∈ xk_T := xk_in (List.mem_of_getElem? (i := 893) (by decide +kernel)) rfl
theorem xm_830 : Cond.selects "Clickbook" ⟨"Clickbook", "joined", "(II)I"⟩ ⟨"Clickbook", "joined", "(II)I"⟩ ∈ xk_T := xk_in (List.mem_of_getElem? (i := 894) (by decide +kernel)) rfl
theorem xm_831 : Cond.code ⟨"Clickbook", "joined", "(II)I"⟩ prog_1_method_47_code 4 (Option.some .int) ∈ xk_T := xk_in (List.mem_of_getElem? (i := 895) (by decide +kernel)) rfl
theorem xm_832 : Cond.methodLink "ClickbookLaw" 164 ⟨"ClickbookLaw", "bestStart", "(LClickbook;I[J)I"⟩ ∈ xk_T := xk_in (List.mem_of_getElem? (i := 896) (by decide +kernel)) rfl
theorem xm_833 : Cond.static ⟨"ClickbookLaw", "bestStart", "(LClickbook;I[J)I"⟩ ∈ xk_T := xk_in (List.mem_of_getElem? (i := 897) (by decide +kernel)) rfl
theorem xm_834 : Cond.codeWith ⟨"ClickbookLaw", "bestStart", "(LClickbook;I[J)I"⟩ method_22_code 4 (Option.some .int) [(0, 9, 12, 28)] ∈ xk_T := xk_in (List.mem_of_getElem? (i := 898) (by decide +kernel)) rfl
theorem xm_835 : Cond.methodLink "ClickbookLaw" 78 ⟨"Clickbook", "bestStart", "(I)I"⟩ ∈ xk_T := xk_in (List.mem_of_getElem? (i := 899) (by decide +kernel)) rfl
theorem xm_836 : Cond.methodLink "ClickbookLaw" 167 ⟨"ClickbookLaw", "bestClick", "(LClickbook;II[J)I"⟩ ∈ xk_T := xk_in (List.mem_of_getElem? (i := 900) (by decide +kernel)) rfl
theorem xm_837 : Cond.static ⟨"ClickbookLaw", "bestClick", "(LClickbook;II[J)I"⟩ ∈ xk_T := xk_in (List.mem_of_getElem? (i := 901) (by decide +kernel)) rfl
theorem xm_838 : Cond.codeWith ⟨"ClickbookLaw", "bestClick", "(LClickbook;II[J)I"⟩ method_23_code 5 (Option.some .int) [(0, 10, 13, 28)] ∈ xk_T := xk_in (List.mem_of_getElem? (i := 902) (by decide +kernel)) rfl
theorem xm_839 : Cond.methodLink "ClickbookLaw" 81 ⟨"Clickbook", "bestClick", "(II)I"⟩ ∈ xk_T := xk_in (List.mem_of_getElem? (i := 903) (by decide +kernel)) rfl
theorem xm_840 : Cond.instanceMethod ⟨"Clickbook", "bestClick", "(II)I"⟩ ∈ xk_T := xk_in (List.mem_of_getElem? (i := 904) (by decide +kernel)) rfl
theorem xm_841 : Cond.selects "Clickbook" ⟨"Clickbook", "bestClick", "(II)I"⟩ ⟨"Clickbook", "bestClick", "(II)I"⟩ ∈ xk_T := xk_in (List.mem_of_getElem? (i := 905) (by decide +kernel)) rfl
theorem xm_842 : Cond.code ⟨"Clickbook", "bestClick", "(II)I"⟩ prog_1_method_49_code 11 (Option.some .int) ∈ xk_T := xk_in (List.mem_of_getElem? (i := 906) (by decide +kernel)) rfl
theorem xm_848 : Cond.methodLink "ClickbookLaw" 170 ⟨"ClickbookLaw", "wouldMeet", "(LClickbook;II[J)I"⟩ ∈ xk_T := xk_in (List.mem_of_getElem? (i := 912) (by decide +kernel)) rfl
theorem xm_849 : Cond.static ⟨"ClickbookLaw", "wouldMeet", "(LClickbook;II[J)I"⟩ ∈ xk_T := xk_in (List.mem_of_getElem? (i := 913) (by decide +kernel)) rfl
theorem xm_850 : Cond.codeWith ⟨"ClickbookLaw", "wouldMeet", "(LClickbook;II[J)I"⟩ method_24_code 5 (Option.some .int) [(0, 10, 13, 13)] ∈ xk_T := xk_in (List.mem_of_getElem? (i := 914) (by decide +kernel)) rfl
theorem xm_851 : Cond.methodLink "ClickbookLaw" 84 ⟨"Clickbook", "wouldMeet", "(II)I"⟩ ∈ xk_T := xk_in (List.mem_of_getElem? (i := 915) (by decide +kernel)) rfl
theorem xm_852 : Cond.classLink "ClickbookLaw" 88 "ClickbookModel" ∈ xk_T := xk_in (List.mem_of_getElem? (i := 916) (by decide +kernel)) rfl
theorem xm_853 : Cond.instantiable "ClickbookModel" 10 ∈ xk_T := xk_in (List.mem_of_getElem? (i := 917) (by decide +kernel)) rfl
theorem xm_854 : Cond.methodLink "ClickbookLaw" 90 ⟨"ClickbookModel", "<init>", "()V"⟩ ∈ xk_T := xk_in (List.mem_of_getElem? (i := 918) (by decide +kernel)) rfl
theorem xm_855 : Cond.instanceMethod ⟨"ClickbookModel", "<init>", "()V"⟩ ∈ xk_T := xk_in (List.mem_of_getElem? (i := 919) (by decide +kernel)) rfl
theorem xm_856 : Cond.code ⟨"ClickbookModel", "<init>", "()V"⟩ prog_7_method_3_code 1 (Option.none : Option FieldType) ∈ xk_T := xk_in (List.mem_of_getElem? (i := 920) (by decide +kernel)) rfl
theorem xm_857 : Cond.methodLink "ClickbookModel" 1 ⟨"java/lang/Object", "<init>", "()V"⟩ ∈ xk_T := xk_in (List.mem_of_getElem? (i := 921) (by decide +kernel)) rfl
theorem xm_858 : Cond.classLink "ClickbookModel" 13 "java/util/ArrayList" ∈ xk_T := xk_in (List.mem_of_getElem? (i := 922) (by decide +kernel)) rfl
theorem xm_859 : Cond.methodLink "ClickbookModel" 15 ⟨"java/util/ArrayList", "<init>", "()V"⟩ ∈ xk_T := xk_in (List.mem_of_getElem? (i := 923) (by decide +kernel)) rfl
theorem xm_860 : Cond.fieldLink "ClickbookModel" 29 "ClickbookModel" "thrown" "I" ∈ xk_T := xk_in (List.mem_of_getElem? (i := 924) (by decide +kernel)) rfl
theorem xm_861 : Cond.fieldLink "ClickbookModel" 9 "ClickbookModel" "length" "I" ∈ xk_T := xk_in (List.mem_of_getElem? (i := 925) (by decide +kernel)) rfl
theorem xm_862 : Cond.fieldLink "ClickbookModel" 123 "ClickbookModel" "version" "I" ∈ xk_T := xk_in (List.mem_of_getElem? (i := 926) (by decide +kernel)) rfl
theorem xm_863 : Cond.fieldLink "ClickbookModel" 16 "ClickbookModel" "hits" "Ljava/util/ArrayList;" ∈ xk_T := xk_in (List.mem_of_getElem? (i := 927) (by decide +kernel)) rfl
theorem xm_864 : Cond.fieldLink "ClickbookModel" 20 "ClickbookModel" "reveals" "Ljava/util/ArrayList;" ∈ xk_T := xk_in (List.mem_of_getElem? (i := 928) (by decide +kernel)) rfl
theorem xm_865 : Cond.fieldLink "ClickbookModel" 23 "ClickbookModel" "cues" "Ljava/util/ArrayList;" ∈ xk_T := xk_in (List.mem_of_getElem? (i := 929) (by decide +kernel)) rfl
theorem xm_866 : Cond.fieldLink "ClickbookModel" 26 "ClickbookModel" "takes" "Ljava/util/ArrayList;" ∈ xk_T := xk_in (List.mem_of_getElem? (i := 930) (by decide +kernel)) rfl
theorem xm_867 : Cond.fieldLink "ClickbookModel" 182 "ClickbookModel" "band" "I" ∈ xk_T := xk_in (List.mem_of_getElem? (i := 931) (by decide +kernel)) rfl
theorem xm_868 : Cond.fieldLink "ClickbookModel" 185 "ClickbookModel" "time" "I" ∈ xk_T := xk_in (List.mem_of_getElem? (i := 932) (by decide +kernel)) rfl
theorem xm_869 : Cond.fieldLink "ClickbookModel" 210 "ClickbookModel" "costs" "I" ∈ xk_T := xk_in (List.mem_of_getElem? (i := 933) (by decide +kernel)) rfl
theorem xm_891 : Cond.methodLink "ClickbookLaw" 97 ⟨"ClickbookModel", "thrown", "()I"⟩ ∈ xk_T := xk_in (List.mem_of_getElem? (i := 955) (by decide +kernel)) rfl
theorem xm_892 : Cond.instanceMethod ⟨"ClickbookModel", "thrown", "()I"⟩ ∈ xk_T := xk_in (List.mem_of_getElem? (i := 956) (by decide +kernel)) rfl
theorem xm_893 : Cond.selects "ClickbookModel" ⟨"ClickbookModel", "thrown", "()I"⟩ ⟨"ClickbookModel", "thrown", "()I"⟩ ∈ xk_T := xk_in (List.mem_of_getElem? (i := 957) (by decide +kernel)) rfl
theorem xm_894 : Cond.code ⟨"ClickbookModel", "thrown", "()I"⟩ prog_7_method_4_code 1 (Option.some .int) ∈ xk_T := xk_in (List.mem_of_getElem? (i := 958) (by decide +kernel)) rfl
theorem xm_895 : Cond.methodLink "ClickbookLaw" 96 ⟨"ClickbookModel", "hit", "(II)I"⟩ ∈ xk_T := xk_in (List.mem_of_getElem? (i := 959) (by decide +kernel)) rfl
theorem xm_896 : Cond.instanceMethod ⟨"ClickbookModel", "hit", "(II)I"⟩ ∈ xk_T := xk_in (List.mem_of_getElem? (i := 960) (by decide +kernel)) rfl
theorem xm_897 : Cond.selects "ClickbookModel" ⟨"ClickbookModel", "hit", "(II)I"⟩ ⟨"ClickbookModel", "hit", "(II)I"⟩ ∈ xk_T := xk_in (List.mem_of_getElem? (i := 961) (by decide +kernel)) rfl
theorem xm_898 : Cond.code ⟨"ClickbookModel", "hit", "(II)I"⟩ prog_7_method_16_code 3 (Option.some .int) ∈ xk_T := xk_in (List.mem_of_getElem? (i := 962) (by decide +kernel)) rfl
theorem xm_899 : Cond.methodLink "ClickbookModel" 40 ⟨"ClickbookModel", "isIn", "(III)Z"⟩ ∈ xk_T := xk_in (List.mem_of_getElem? (i := 963) (by decide +kernel)) rfl
theorem xm_900 : Cond.static ⟨"ClickbookModel", "isIn", "(III)Z"⟩ ∈ xk_T := xk_in (List.mem_of_getElem? (i := 964) (by decide +kernel)) rfl
theorem xm_901 : Cond.code ⟨"ClickbookModel", "isIn", "(III)Z"⟩ prog_7_method_1_code 3 (Option.some .boolean) ∈ xk_T := xk_in (List.mem_of_getElem? (i := 965) (by decide +kernel)) rfl
theorem xm_902 : Cond.methodLink "ClickbookModel" 99 ⟨"ClickbookModel", "start", "(ZI)Z"⟩ ∈ xk_T := xk_in (List.mem_of_getElem? (i := 966) (by decide +kernel)) rfl
theorem xm_904 : Cond.instanceMethod ⟨"ClickbookModel", "start", "(ZI)Z"⟩ ∈ xk_T := xk_in (List.mem_of_getElem? (i := 968) (by decide +kernel)) rfl
theorem xm_905 : Cond.code ⟨"ClickbookModel", "start", "(ZI)Z"⟩ prog_7_method_6_code 3 (Option.some .boolean) ∈ xk_T := xk_in (List.mem_of_getElem? (i := 969) (by decide +kernel)) rfl
theorem xm_906 : Cond.methodLink "ClickbookModel" 32 ⟨"ClickbookModel", "refuse", "(ZI)Z"⟩ ∈ xk_T := xk_in (List.mem_of_getElem? (i := 970) (by decide +kernel)) rfl
theorem xm_908 : Cond.instanceMethod ⟨"ClickbookModel", "refuse", "(ZI)Z"⟩ ∈ xk_T := xk_in (List.mem_of_getElem? (i := 972) (by decide +kernel)) rfl
theorem xm_909 : Cond.code ⟨"ClickbookModel", "refuse", "(ZI)Z"⟩ prog_7_method_5_code 3 (Option.some .boolean) ∈ xk_T := xk_in (List.mem_of_getElem? (i := 973) (by decide +kernel)) rfl
theorem xm_910 : Cond.methodLink "ClickbookModel" 36 ⟨"java/util/ArrayList", "size", "()I"⟩ ∈ xk_T := xk_in (List.mem_of_getElem? (i := 974) (by decide +kernel)) rfl
theorem xm_911 : Cond.classLink "ClickbookModel" 76 "ClickbookModel$Hit" ∈ xk_T := xk_in (List.mem_of_getElem? (i := 975) (by decide +kernel)) rfl
theorem xm_912 : Cond.instantiable "ClickbookModel$Hit" 3 ∈ xk_T := xk_in (List.mem_of_getElem? (i := 976) (by decide +kernel)) rfl
theorem xm_913 : Cond.methodLink "ClickbookModel" 102 ⟨"ClickbookModel$Hit", "<init>", "(II)V"⟩ ∈ xk_T := xk_in (List.mem_of_getElem? (i := 977) (by decide +kernel)) rfl
theorem xm_914 : Cond.instanceMethod ⟨"ClickbookModel$Hit", "<init>", "(II)V"⟩ ∈ xk_T := xk_in (List.mem_of_getElem? (i := 978) (by decide +kernel)) rfl
theorem xm_915 : Cond.code ⟨"ClickbookModel$Hit", "<init>", "(II)V"⟩ prog_9_method_1_code 3 (Option.none : Option FieldType) ∈ xk_T := xk_in (List.mem_of_getElem? (i := 979) (by decide +kernel)) rfl
theorem xm_916 : Cond.methodLink "ClickbookModel$Hit" 1 ⟨"java/lang/Object", "<init>", "()V"⟩ ∈ xk_T := xk_in (List.mem_of_getElem? (i := 980) (by decide +kernel)) rfl
theorem xm_917 : Cond.fieldLink "ClickbookModel$Hit" 7 "ClickbookModel$Hit" "frame" "I" ∈ xk_T := xk_in (List.mem_of_getElem? (i := 981) (by decide +kernel)) rfl
theorem xm_919 : Cond.fieldLink "ClickbookModel$Hit" 13 "ClickbookModel$Hit" "tolerance" "I" ∈ xk_T := xk_in (List.mem_of_getElem? (i := 983) (by decide +kernel)) rfl
theorem xm_929 : Cond.methodLink "ClickbookModel" 105 ⟨"java/util/ArrayList", "add", "(Ljava/lang/Object;)Z"⟩ ∈ xk_T := xk_in (List.mem_of_getElem? (i := 993) (by decide +kernel)) rfl
theorem xm_930 : Cond.methodLink "ClickbookLaw" 103 ⟨"ClickbookModel", "theme", "(I)I"⟩ ∈ xk_T := xk_in (List.mem_of_getElem? (i := 994) (by decide +kernel)) rfl
theorem xm_931 : Cond.instanceMethod ⟨"ClickbookModel", "theme", "(I)I"⟩ ∈ xk_T := xk_in (List.mem_of_getElem? (i := 995) (by decide +kernel)) rfl
theorem xm_932 : Cond.selects "ClickbookModel" ⟨"ClickbookModel", "theme", "(I)I"⟩ ⟨"ClickbookModel", "theme", "(I)I"⟩ ∈ xk_T := xk_in (List.mem_of_getElem? (i := 996) (by decide +kernel)) rfl
theorem xm_933 : Cond.code ⟨"ClickbookModel", "theme", "(I)I"⟩ prog_7_method_17_code 2 (Option.some .int) ∈ xk_T := xk_in (List.mem_of_getElem? (i := 997) (by decide +kernel)) rfl
theorem xm_934 : Cond.methodLink "ClickbookModel" 109 ⟨"java/lang/Integer", "valueOf", "(I)Ljava/lang/Integer;"⟩ ∈ xk_T := xk_in (List.mem_of_getElem? (i := 998) (by decide +kernel)) rfl
theorem xm_935 : Cond.static ⟨"java/lang/Integer", "valueOf", "(I)Ljava/lang/Integer;"⟩ ∈ xk_T := xk_in (List.mem_of_getElem? (i := 999) (by decide +kernel)) rfl
theorem xm_936 : Cond.code ⟨"java/lang/Integer", "valueOf", "(I)Ljava/lang/Integer;"⟩ prog_18_method_22_code 1 (Option.some (.object "java/lang/Integer")) ∈ xk_T := xk_in (List.mem_of_getElem? (i := 1000) (by decide +kernel)) rfl
theorem xm_937 : Cond.fieldLink "java/lang/Integer" 191 "java/lang/Integer$IntegerCache" "high" "I" ∈ xk_T := xk_in (List.mem_of_getElem? (i := 1001) (by decide +kernel)) rfl
theorem xm_938 : Cond.laysStatic "java/lang/Integer$IntegerCache" "high" "I" ∈ lw_tbl := List.mem_of_getElem? (i := 1002) (by decide +kernel)
theorem xm_939 : Cond.fieldLink "java/lang/Integer" 195 "java/lang/Integer$IntegerCache" "cache" "[Ljava/lang/Integer;" ∈ xk_T := xk_in (List.mem_of_getElem? (i := 1003) (by decide +kernel)) rfl
theorem xm_940 : Cond.laysStatic "java/lang/Integer$IntegerCache" "cache" "[Ljava/lang/Integer;" ∈ lw_tbl := List.mem_of_getElem? (i := 1004) (by decide +kernel)
theorem xm_941 : Cond.classLink "java/lang/Integer" 1 "java/lang/Integer" ∈ xk_T := xk_in (List.mem_of_getElem? (i := 1005) (by decide +kernel)) rfl
theorem xm_942 : Cond.instantiable "java/lang/Integer" 1 ∈ xk_T := xk_in (List.mem_of_getElem? (i := 1006) (by decide +kernel)) rfl
theorem xm_943 : Cond.methodLink "java/lang/Integer" 199 ⟨"java/lang/Integer", "<init>", "(I)V"⟩ ∈ xk_T := xk_in (List.mem_of_getElem? (i := 1007) (by decide +kernel)) rfl
theorem xm_944 : Cond.instanceMethod ⟨"java/lang/Integer", "<init>", "(I)V"⟩ ∈ xk_T := xk_in (List.mem_of_getElem? (i := 1008) (by decide +kernel)) rfl
theorem xm_945 : Cond.code ⟨"java/lang/Integer", "<init>", "(I)V"⟩ prog_18_method_23_code 2 (Option.none : Option FieldType) ∈ xk_T := xk_in (List.mem_of_getElem? (i := 1009) (by decide +kernel)) rfl
theorem xm_946 : Cond.methodLink "java/lang/Integer" 202 ⟨"java/lang/Number", "<init>", "()V"⟩ ∈ xk_T := xk_in (List.mem_of_getElem? (i := 1010) (by decide +kernel)) rfl
theorem xm_947 : Cond.instanceMethod ⟨"java/lang/Number", "<init>", "()V"⟩ ∈ xk_T := xk_in (List.mem_of_getElem? (i := 1011) (by decide +kernel)) rfl
theorem xm_948 : Cond.code ⟨"java/lang/Number", "<init>", "()V"⟩ prog_22_method_1_code 1 (Option.none : Option FieldType) ∈ xk_T := xk_in (List.mem_of_getElem? (i := 1012) (by decide +kernel)) rfl
theorem xm_949 : Cond.methodLink "java/lang/Number" 1 ⟨"java/lang/Object", "<init>", "()V"⟩ ∈ xk_T := xk_in (List.mem_of_getElem? (i := 1013) (by decide +kernel)) rfl
theorem xm_950 : Cond.fieldLink "java/lang/Integer" 205 "java/lang/Integer" "value" "I" ∈ xk_T := xk_in (List.mem_of_getElem? (i := 1014) (by decide +kernel)) rfl
theorem xm_954 : Cond.methodLink "ClickbookLaw" 106 ⟨"ClickbookModel", "change", "(II)I"⟩ ∈ xk_T := xk_in (List.mem_of_getElem? (i := 1018) (by decide +kernel)) rfl
theorem xm_955 : Cond.instanceMethod ⟨"ClickbookModel", "change", "(II)I"⟩ ∈ xk_T := xk_in (List.mem_of_getElem? (i := 1019) (by decide +kernel)) rfl
theorem xm_956 : Cond.selects "ClickbookModel" ⟨"ClickbookModel", "change", "(II)I"⟩ ⟨"ClickbookModel", "change", "(II)I"⟩ ∈ xk_T := xk_in (List.mem_of_getElem? (i := 1020) (by decide +kernel)) rfl
theorem xm_957 : Cond.code ⟨"ClickbookModel", "change", "(II)I"⟩ prog_7_method_21_code 6 (Option.some .int) ∈ xk_T := xk_in (List.mem_of_getElem? (i := 1021) (by decide +kernel)) rfl
theorem xm_958 : Cond.methodLink "ClickbookModel" 119 ⟨"ClickbookModel", "isNoChange", "(II)Z"⟩ ∈ xk_T := xk_in (List.mem_of_getElem? (i := 1022) (by decide +kernel)) rfl
theorem xm_960 : Cond.instanceMethod ⟨"ClickbookModel", "isNoChange", "(II)Z"⟩ ∈ xk_T := xk_in (List.mem_of_getElem? (i := 1024) (by decide +kernel)) rfl
theorem xm_961 : Cond.code ⟨"ClickbookModel", "isNoChange", "(II)Z"⟩ prog_7_method_18_code 3 (Option.some .boolean) ∈ xk_T := xk_in (List.mem_of_getElem? (i := 1025) (by decide +kernel)) rfl
theorem xm_962 : Cond.methodLink "ClickbookModel" 126 ⟨"java/util/ArrayList", "iterator", "()Ljava/util/Iterator;"⟩ ∈ xk_T := xk_in (List.mem_of_getElem? (i := 1026) (by decide +kernel)) rfl
theorem xm_963 : Cond.instanceMethod ⟨"java/util/ArrayList", "iterator", "()Ljava/util/Iterator;"⟩ ∈ xk_T := xk_in (List.mem_of_getElem? (i := 1027) (by decide +kernel)) rfl
theorem xm_964 : Cond.selects "java/util/ArrayList" ⟨"java/util/ArrayList", "iterator", "()Ljava/util/Iterator;"⟩ ⟨"java/util/ArrayList", "iterator", "()Ljava/util/Iterator;"⟩ ∈ xk_T := xk_in (List.mem_of_getElem? (i := 1028) (by decide +kernel)) rfl
theorem xm_965 : Cond.code ⟨"java/util/ArrayList", "iterator", "()Ljava/util/Iterator;"⟩ prog_31_method_55_code 1 (Option.some (.object "java/util/Iterator")) ∈ xk_T := xk_in (List.mem_of_getElem? (i := 1029) (by decide +kernel)) rfl
theorem xm_966 : Cond.classLink "java/util/ArrayList" 267 "java/util/ArrayList$Itr" ∈ xk_T := xk_in (List.mem_of_getElem? (i := 1030) (by decide +kernel)) rfl
theorem xm_967 : Cond.instantiable "java/util/ArrayList$Itr" 4 ∈ xk_T := xk_in (List.mem_of_getElem? (i := 1031) (by decide +kernel)) rfl
theorem xm_968 : Cond.methodLink "java/util/ArrayList" 269 ⟨"java/util/ArrayList$Itr", "<init>", "(Ljava/util/ArrayList;)V"⟩ ∈ xk_T := xk_in (List.mem_of_getElem? (i := 1032) (by decide +kernel)) rfl
theorem xm_969 : Cond.instanceMethod ⟨"java/util/ArrayList$Itr", "<init>", "(Ljava/util/ArrayList;)V"⟩ ∈ xk_T := xk_in (List.mem_of_getElem? (i := 1033) (by decide +kernel)) rfl
theorem xm_970 : Cond.code ⟨"java/util/ArrayList$Itr", "<init>", "(Ljava/util/ArrayList;)V"⟩ prog_32_method_1_code 2 (Option.none : Option FieldType) ∈ xk_T := xk_in (List.mem_of_getElem? (i := 1034) (by decide +kernel)) rfl
theorem xm_971 : Cond.methodLink "java/util/ArrayList$Itr" 7 ⟨"java/lang/Object", "<init>", "()V"⟩ ∈ xk_T := xk_in (List.mem_of_getElem? (i := 1035) (by decide +kernel)) rfl
theorem xm_972 : Cond.fieldLink "java/util/ArrayList$Itr" 25 "java/util/ArrayList$Itr" "cursor" "I" ∈ xk_T := xk_in (List.mem_of_getElem? (i := 1036) (by decide +kernel)) rfl
theorem xm_973 : Cond.fieldLink "java/util/ArrayList$Itr" 13 "java/util/ArrayList$Itr" "lastRet" "I" ∈ xk_T := xk_in (List.mem_of_getElem? (i := 1037) (by decide +kernel)) rfl
theorem xm_974 : Cond.fieldLink "java/util/ArrayList$Itr" 22 "java/util/ArrayList$Itr" "expectedModCount" "I" ∈ xk_T := xk_in (List.mem_of_getElem? (i := 1038) (by decide +kernel)) rfl
theorem xm_975 : Cond.fieldLink "java/util/ArrayList$Itr" 1 "java/util/ArrayList$Itr" "this$0" "Ljava/util/ArrayList;" ∈ xk_T := xk_in (List.mem_of_getElem? (i := 1039) (by decide +kernel)) rfl
theorem xm_986 : Cond.methodLink "ClickbookModel" 130 ⟨"java/util/Iterator", "hasNext", "()Z"⟩ ∈ xk_T := xk_in (List.mem_of_getElem? (i := 1050) (by decide +kernel)) rfl
theorem xm_987 : Cond.interfaceMethod "java/util/Iterator" "java/util/Iterator" "hasNext" "()Z" ∈ lw_tbl := List.mem_of_getElem? (i := 1051) (by decide +kernel)
theorem xm_988 : Cond.declares ⟨"java/util/Iterator", "hasNext", "()Z"⟩ ∈ lw_tbl := List.mem_of_getElem? (i := 1052) (by decide +kernel)
theorem xm_989 : Cond.castable "java/util/ArrayList$Itr" "java/util/Iterator" ∈ lw_tbl := List.mem_of_getElem? (i := 1053) (by decide +kernel)
theorem xm_990 : Cond.selects "java/util/ArrayList$Itr" ⟨"java/util/Iterator", "hasNext", "()Z"⟩ ⟨"java/util/ArrayList$Itr", "hasNext", "()Z"⟩ ∈ xk_T := xk_in (List.mem_of_getElem? (i := 1054) (by decide +kernel)) rfl
theorem xm_991 : Cond.unhidden "java/util/ArrayList$Itr" "hasNext" "()Z" ∈ lw_tbl := List.mem_of_getElem? (i := 1055) (by decide +kernel)
theorem xm_992 : Cond.instanceMethod ⟨"java/util/ArrayList$Itr", "hasNext", "()Z"⟩ ∈ xk_T := xk_in (List.mem_of_getElem? (i := 1056) (by decide +kernel)) rfl
theorem xm_993 : Cond.publicMethod ⟨"java/util/ArrayList$Itr", "hasNext", "()Z"⟩ ∈ lw_tbl := List.mem_of_getElem? (i := 1057) (by decide +kernel)
theorem xm_994 : Cond.code ⟨"java/util/ArrayList$Itr", "hasNext", "()Z"⟩ prog_32_method_2_code 1 (Option.some .boolean) ∈ xk_T := xk_in (List.mem_of_getElem? (i := 1058) (by decide +kernel)) rfl
theorem xm_1008 : Cond.classLink "ClickbookModel" 52 "ClickbookModel$Cue" ∈ xk_T := xk_in (List.mem_of_getElem? (i := 1072) (by decide +kernel)) rfl
theorem xm_1021 : Cond.methodLinkNest "ClickbookModel$Cue" 45 ⟨"ClickbookModel", "up", "(II)I"⟩ "ClickbookModel" ∈ lw_tbl := List.mem_of_getElem? (i := 1085) (by decide +kernel)
theorem xm_1022 : Cond.static ⟨"ClickbookModel", "up", "(II)I"⟩ ∈ xk_T := xk_in (List.mem_of_getElem? (i := 1086) (by decide +kernel)) rfl
theorem xm_1023 : Cond.code ⟨"ClickbookModel", "up", "(II)I"⟩ prog_7_method_2_code 2 (Option.some .int) ∈ xk_T := xk_in (List.mem_of_getElem? (i := 1087) (by decide +kernel)) rfl
theorem xm_1027 : Cond.methodLink "ClickbookModel" 115 ⟨"java/lang/Math", "max", "(II)I"⟩ ∈ xk_T := xk_in (List.mem_of_getElem? (i := 1091) (by decide +kernel)) rfl
theorem xm_1041 : Cond.methodLink "ClickbookLaw" 110 ⟨"ClickbookModel", "cue", "(IIIII)I"⟩ ∈ xk_T := xk_in (List.mem_of_getElem? (i := 1105) (by decide +kernel)) rfl
theorem xm_1042 : Cond.instanceMethod ⟨"ClickbookModel", "cue", "(IIIII)I"⟩ ∈ xk_T := xk_in (List.mem_of_getElem? (i := 1106) (by decide +kernel)) rfl
theorem xm_1043 : Cond.selects "ClickbookModel" ⟨"ClickbookModel", "cue", "(IIIII)I"⟩ ⟨"ClickbookModel", "cue", "(IIIII)I"⟩ ∈ xk_T := xk_in (List.mem_of_getElem? (i := 1107) (by decide +kernel)) rfl
theorem xm_1044 : Cond.code ⟨"ClickbookModel", "cue", "(IIIII)I"⟩ prog_7_method_22_code 6 (Option.some .int) ∈ xk_T := xk_in (List.mem_of_getElem? (i := 1108) (by decide +kernel)) rfl
theorem xm_1045 : Cond.instantiable "ClickbookModel$Cue" 9 ∈ xk_T := xk_in (List.mem_of_getElem? (i := 1109) (by decide +kernel)) rfl
theorem xm_1046 : Cond.methodLink "ClickbookModel" 162 ⟨"ClickbookModel$Cue", "<init>", "(IIIII)V"⟩ ∈ xk_T := xk_in (List.mem_of_getElem? (i := 1110) (by decide +kernel)) rfl
theorem xm_1047 : Cond.instanceMethod ⟨"ClickbookModel$Cue", "<init>", "(IIIII)V"⟩ ∈ xk_T := xk_in (List.mem_of_getElem? (i := 1111) (by decide +kernel)) rfl
theorem xm_1048 : Cond.code ⟨"ClickbookModel$Cue", "<init>", "(IIIII)V"⟩ prog_8_method_1_code 6 (Option.none : Option FieldType) ∈ xk_T := xk_in (List.mem_of_getElem? (i := 1112) (by decide +kernel)) rfl
theorem xm_1049 : Cond.methodLink "ClickbookModel$Cue" 3 ⟨"java/lang/Object", "<init>", "()V"⟩ ∈ xk_T := xk_in (List.mem_of_getElem? (i := 1113) (by decide +kernel)) rfl
theorem xm_1050 : Cond.fieldLink "ClickbookModel$Cue" 18 "ClickbookModel$Cue" "start" "I" ∈ xk_T := xk_in (List.mem_of_getElem? (i := 1114) (by decide +kernel)) rfl
theorem xm_1052 : Cond.fieldLink "ClickbookModel$Cue" 22 "ClickbookModel$Cue" "theme" "I" ∈ xk_T := xk_in (List.mem_of_getElem? (i := 1116) (by decide +kernel)) rfl
theorem xm_1054 : Cond.fieldLink "ClickbookModel$Cue" 25 "ClickbookModel$Cue" "players" "I" ∈ xk_T := xk_in (List.mem_of_getElem? (i := 1118) (by decide +kernel)) rfl
theorem xm_1056 : Cond.fieldLink "ClickbookModel$Cue" 28 "ClickbookModel$Cue" "writer" "I" ∈ xk_T := xk_in (List.mem_of_getElem? (i := 1120) (by decide +kernel)) rfl
theorem xm_1058 : Cond.fieldLink "ClickbookModel$Cue" 31 "ClickbookModel$Cue" "use" "I" ∈ xk_T := xk_in (List.mem_of_getElem? (i := 1122) (by decide +kernel)) rfl
theorem xm_1063 : Cond.fieldLink "ClickbookModel$Cue" 9 "ClickbookModel$Cue" "meters" "[I" ∈ xk_T := xk_in (List.mem_of_getElem? (i := 1127) (by decide +kernel)) rfl
theorem xm_1065 : Cond.fieldLink "ClickbookModel$Cue" 15 "ClickbookModel$Cue" "clicks" "[I" ∈ xk_T := xk_in (List.mem_of_getElem? (i := 1129) (by decide +kernel)) rfl
theorem xm_1086 : Cond.methodLink "ClickbookLaw" 114 ⟨"ClickbookModel", "bar", "(III)I"⟩ ∈ xk_T := xk_in (List.mem_of_getElem? (i := 1150) (by decide +kernel)) rfl
theorem xm_1087 : Cond.instanceMethod ⟨"ClickbookModel", "bar", "(III)I"⟩ ∈ xk_T := xk_in (List.mem_of_getElem? (i := 1151) (by decide +kernel)) rfl
theorem xm_1088 : Cond.selects "ClickbookModel" ⟨"ClickbookModel", "bar", "(III)I"⟩ ⟨"ClickbookModel", "bar", "(III)I"⟩ ∈ xk_T := xk_in (List.mem_of_getElem? (i := 1152) (by decide +kernel)) rfl
theorem xm_1089 : Cond.code ⟨"ClickbookModel", "bar", "(III)I"⟩ prog_7_method_23_code 5 (Option.some .int) ∈ xk_T := xk_in (List.mem_of_getElem? (i := 1153) (by decide +kernel)) rfl
theorem xm_1090 : Cond.methodLink "ClickbookModel" 44 ⟨"ClickbookModel", "isNoCue", "(I)Z"⟩ ∈ xk_T := xk_in (List.mem_of_getElem? (i := 1154) (by decide +kernel)) rfl
theorem xm_1092 : Cond.instanceMethod ⟨"ClickbookModel", "isNoCue", "(I)Z"⟩ ∈ xk_T := xk_in (List.mem_of_getElem? (i := 1156) (by decide +kernel)) rfl
theorem xm_1093 : Cond.code ⟨"ClickbookModel", "isNoCue", "(I)Z"⟩ prog_7_method_7_code 2 (Option.some .boolean) ∈ xk_T := xk_in (List.mem_of_getElem? (i := 1157) (by decide +kernel)) rfl
theorem xm_1094 : Cond.methodLink "ClickbookModel" 165 ⟨"ClickbookModel", "isNoClick", "(II)Z"⟩ ∈ xk_T := xk_in (List.mem_of_getElem? (i := 1158) (by decide +kernel)) rfl
theorem xm_1095 : Cond.static ⟨"ClickbookModel", "isNoClick", "(II)Z"⟩ ∈ xk_T := xk_in (List.mem_of_getElem? (i := 1159) (by decide +kernel)) rfl
theorem xm_1096 : Cond.code ⟨"ClickbookModel", "isNoClick", "(II)Z"⟩ prog_7_method_9_code 2 (Option.some .boolean) ∈ xk_T := xk_in (List.mem_of_getElem? (i := 1160) (by decide +kernel)) rfl
theorem xm_1097 : Cond.methodLink "ClickbookLaw" 118 ⟨"ClickbookModel", "retime", "(IIII)I"⟩ ∈ xk_T := xk_in (List.mem_of_getElem? (i := 1161) (by decide +kernel)) rfl
theorem xm_1098 : Cond.instanceMethod ⟨"ClickbookModel", "retime", "(IIII)I"⟩ ∈ xk_T := xk_in (List.mem_of_getElem? (i := 1162) (by decide +kernel)) rfl
theorem xm_1099 : Cond.selects "ClickbookModel" ⟨"ClickbookModel", "retime", "(IIII)I"⟩ ⟨"ClickbookModel", "retime", "(IIII)I"⟩ ∈ xk_T := xk_in (List.mem_of_getElem? (i := 1163) (by decide +kernel)) rfl
theorem xm_1100 : Cond.code ⟨"ClickbookModel", "retime", "(IIII)I"⟩ prog_7_method_24_code 6 (Option.some .int) ∈ xk_T := xk_in (List.mem_of_getElem? (i := 1164) (by decide +kernel)) rfl
theorem xm_1101 : Cond.methodLink "ClickbookModel" 174 ⟨"ClickbookModel", "isNoBar", "(II)Z"⟩ ∈ xk_T := xk_in (List.mem_of_getElem? (i := 1165) (by decide +kernel)) rfl
theorem xm_1103 : Cond.instanceMethod ⟨"ClickbookModel", "isNoBar", "(II)Z"⟩ ∈ xk_T := xk_in (List.mem_of_getElem? (i := 1167) (by decide +kernel)) rfl
theorem xm_1104 : Cond.code ⟨"ClickbookModel", "isNoBar", "(II)Z"⟩ prog_7_method_8_code 3 (Option.some .boolean) ∈ xk_T := xk_in (List.mem_of_getElem? (i := 1168) (by decide +kernel)) rfl
theorem xm_1106 : Cond.methodLink "ClickbookLaw" 121 ⟨"ClickbookModel", "shift", "(II)I"⟩ ∈ xk_T := xk_in (List.mem_of_getElem? (i := 1170) (by decide +kernel)) rfl
theorem xm_1107 : Cond.instanceMethod ⟨"ClickbookModel", "shift", "(II)I"⟩ ∈ xk_T := xk_in (List.mem_of_getElem? (i := 1171) (by decide +kernel)) rfl
theorem xm_1108 : Cond.selects "ClickbookModel" ⟨"ClickbookModel", "shift", "(II)I"⟩ ⟨"ClickbookModel", "shift", "(II)I"⟩ ∈ xk_T := xk_in (List.mem_of_getElem? (i := 1172) (by decide +kernel)) rfl
theorem xm_1109 : Cond.code ⟨"ClickbookModel", "shift", "(II)I"⟩ prog_7_method_25_code 3 (Option.some .int) ∈ xk_T := xk_in (List.mem_of_getElem? (i := 1173) (by decide +kernel)) rfl
theorem xm_1110 : Cond.methodLink "ClickbookModel" 180 ⟨"ClickbookModel", "met", "()I"⟩ ∈ xk_T := xk_in (List.mem_of_getElem? (i := 1174) (by decide +kernel)) rfl
theorem xm_1112 : Cond.instanceMethod ⟨"ClickbookModel", "met", "()I"⟩ ∈ xk_T := xk_in (List.mem_of_getElem? (i := 1176) (by decide +kernel)) rfl
theorem xm_1113 : Cond.code ⟨"ClickbookModel", "met", "()I"⟩ prog_7_method_15_code 1 (Option.some .int) ∈ xk_T := xk_in (List.mem_of_getElem? (i := 1177) (by decide +kernel)) rfl
theorem xm_1114 : Cond.methodLink "ClickbookModel" 88 ⟨"ClickbookModel", "frames", "()[I"⟩ ∈ xk_T := xk_in (List.mem_of_getElem? (i := 1178) (by decide +kernel)) rfl
theorem xm_1116 : Cond.instanceMethod ⟨"ClickbookModel", "frames", "()[I"⟩ ∈ xk_T := xk_in (List.mem_of_getElem? (i := 1180) (by decide +kernel)) rfl
theorem xm_1117 : Cond.code ⟨"ClickbookModel", "frames", "()[I"⟩ prog_7_method_14_code 3 (Option.some (.array .int)) ∈ xk_T := xk_in (List.mem_of_getElem? (i := 1181) (by decide +kernel)) rfl
theorem xm_1118 : Cond.methodLink "ClickbookModel" 91 ⟨"ClickbookModel", "beats", "()[[I"⟩ ∈ xk_T := xk_in (List.mem_of_getElem? (i := 1182) (by decide +kernel)) rfl
theorem xm_1120 : Cond.instanceMethod ⟨"ClickbookModel", "beats", "()[[I"⟩ ∈ xk_T := xk_in (List.mem_of_getElem? (i := 1184) (by decide +kernel)) rfl
theorem xm_1121 : Cond.code ⟨"ClickbookModel", "beats", "()[[I"⟩ prog_7_method_11_code 3 (Option.some (.array (.array .int))) ∈ xk_T := xk_in (List.mem_of_getElem? (i := 1185) (by decide +kernel)) rfl
theorem xm_1122 : Cond.classLink "ClickbookModel" 63 "[I" ∈ xk_T := xk_in (List.mem_of_getElem? (i := 1186) (by decide +kernel)) rfl
theorem xm_1123 : Cond.arrayOver (.array .int) ∈ lw_tbl := List.mem_of_getElem? (i := 1187) (by decide +kernel)
theorem xm_1136 : Cond.methodLink "ClickbookModel" 95 ⟨"ClickbookModel", "met", "([I[[I)I"⟩ ∈ xk_T := xk_in (List.mem_of_getElem? (i := 1200) (by decide +kernel)) rfl
theorem xm_1138 : Cond.instanceMethod ⟨"ClickbookModel", "met", "([I[[I)I"⟩ ∈ xk_T := xk_in (List.mem_of_getElem? (i := 1202) (by decide +kernel)) rfl
theorem xm_1139 : Cond.code ⟨"ClickbookModel", "met", "([I[[I)I"⟩ prog_7_method_13_code 6 (Option.some .int) ∈ xk_T := xk_in (List.mem_of_getElem? (i := 1203) (by decide +kernel)) rfl
theorem xm_1140 : Cond.methodLink "ClickbookModel" 73 ⟨"ClickbookModel", "miss", "(I[[I)I"⟩ ∈ xk_T := xk_in (List.mem_of_getElem? (i := 1204) (by decide +kernel)) rfl
theorem xm_1141 : Cond.static ⟨"ClickbookModel", "miss", "(I[[I)I"⟩ ∈ xk_T := xk_in (List.mem_of_getElem? (i := 1205) (by decide +kernel)) rfl
theorem xm_1142 : Cond.code ⟨"ClickbookModel", "miss", "(I[[I)I"⟩ prog_7_method_12_code 8 (Option.some .int) ∈ xk_T := xk_in (List.mem_of_getElem? (i := 1206) (by decide +kernel)) rfl
theorem xm_1143 : Cond.methodLink "ClickbookModel" 69 ⟨"ClickbookModel", "miss", "(I[I)I"⟩ ∈ xk_T := xk_in (List.mem_of_getElem? (i := 1207) (by decide +kernel)) rfl
theorem xm_1144 : Cond.static ⟨"ClickbookModel", "miss", "(I[I)I"⟩ ∈ xk_T := xk_in (List.mem_of_getElem? (i := 1208) (by decide +kernel)) rfl
theorem xm_1145 : Cond.code ⟨"ClickbookModel", "miss", "(I[I)I"⟩ prog_7_method_10_code 8 (Option.some .int) ∈ xk_T := xk_in (List.mem_of_getElem? (i := 1209) (by decide +kernel)) rfl
theorem xm_1146 : Cond.methodLink "ClickbookModel" 57 ⟨"java/lang/Math", "abs", "(I)I"⟩ ∈ xk_T := xk_in (List.mem_of_getElem? (i := 1210) (by decide +kernel)) rfl
theorem xm_1147 : Cond.methodLink "ClickbookLaw" 124 ⟨"ClickbookModel", "open", "(I)I"⟩ ∈ xk_T := xk_in (List.mem_of_getElem? (i := 1211) (by decide +kernel)) rfl
theorem xm_1148 : Cond.instanceMethod ⟨"ClickbookModel", "open", "(I)I"⟩ ∈ xk_T := xk_in (List.mem_of_getElem? (i := 1212) (by decide +kernel)) rfl
theorem xm_1149 : Cond.selects "ClickbookModel" ⟨"ClickbookModel", "open", "(I)I"⟩ ⟨"ClickbookModel", "open", "(I)I"⟩ ∈ xk_T := xk_in (List.mem_of_getElem? (i := 1213) (by decide +kernel)) rfl
theorem xm_1150 : Cond.code ⟨"ClickbookModel", "open", "(I)I"⟩ prog_7_method_26_code 2 (Option.some .int) ∈ xk_T := xk_in (List.mem_of_getElem? (i := 1214) (by decide +kernel)) rfl
theorem xm_1151 : Cond.methodLink "ClickbookLaw" 127 ⟨"ClickbookModel", "take", "(III)I"⟩ ∈ xk_T := xk_in (List.mem_of_getElem? (i := 1215) (by decide +kernel)) rfl
theorem xm_1152 : Cond.instanceMethod ⟨"ClickbookModel", "take", "(III)I"⟩ ∈ xk_T := xk_in (List.mem_of_getElem? (i := 1216) (by decide +kernel)) rfl
theorem xm_1153 : Cond.selects "ClickbookModel" ⟨"ClickbookModel", "take", "(III)I"⟩ ⟨"ClickbookModel", "take", "(III)I"⟩ ∈ xk_T := xk_in (List.mem_of_getElem? (i := 1217) (by decide +kernel)) rfl
theorem xm_1154 : Cond.code ⟨"ClickbookModel", "take", "(III)I"⟩ prog_7_method_28_code 9 (Option.some .int) ∈ xk_T := xk_in (List.mem_of_getElem? (i := 1218) (by decide +kernel)) rfl
theorem xm_1159 : Cond.methodLink "ClickbookModel" 192 ⟨"ClickbookModel", "up", "(II)I"⟩ ∈ xk_T := xk_in (List.mem_of_getElem? (i := 1223) (by decide +kernel)) rfl
theorem xm_1187 : Cond.methodLink "ClickbookLaw" 131 ⟨"ClickbookModel", "close", "()I"⟩ ∈ xk_T := xk_in (List.mem_of_getElem? (i := 1251) (by decide +kernel)) rfl
theorem xm_1188 : Cond.instanceMethod ⟨"ClickbookModel", "close", "()I"⟩ ∈ xk_T := xk_in (List.mem_of_getElem? (i := 1252) (by decide +kernel)) rfl
theorem xm_1189 : Cond.selects "ClickbookModel" ⟨"ClickbookModel", "close", "()I"⟩ ⟨"ClickbookModel", "close", "()I"⟩ ∈ xk_T := xk_in (List.mem_of_getElem? (i := 1253) (by decide +kernel)) rfl
theorem xm_1190 : Cond.code ⟨"ClickbookModel", "close", "()I"⟩ prog_7_method_29_code 3 (Option.some .int) ∈ xk_T := xk_in (List.mem_of_getElem? (i := 1254) (by decide +kernel)) rfl
theorem xm_1191 : Cond.methodLink "ClickbookModel" 207 ⟨"java/lang/Math", "min", "(II)I"⟩ ∈ xk_T := xk_in (List.mem_of_getElem? (i := 1255) (by decide +kernel)) rfl
theorem xm_1192 : Cond.methodLink "ClickbookLaw" 134 ⟨"ClickbookModel", "ofHit", "(II)I"⟩ ∈ xk_T := xk_in (List.mem_of_getElem? (i := 1256) (by decide +kernel)) rfl
theorem xm_1193 : Cond.instanceMethod ⟨"ClickbookModel", "ofHit", "(II)I"⟩ ∈ xk_T := xk_in (List.mem_of_getElem? (i := 1257) (by decide +kernel)) rfl
theorem xm_1194 : Cond.selects "ClickbookModel" ⟨"ClickbookModel", "ofHit", "(II)I"⟩ ⟨"ClickbookModel", "ofHit", "(II)I"⟩ ∈ xk_T := xk_in (List.mem_of_getElem? (i := 1258) (by decide +kernel)) rfl
theorem xm_1195 : Cond.code ⟨"ClickbookModel", "ofHit", "(II)I"⟩ prog_7_method_42_code 3 (Option.some .int) ∈ xk_T := xk_in (List.mem_of_getElem? (i := 1259) (by decide +kernel)) rfl
theorem xm_1200 : Cond.methodLink "ClickbookLaw" 137 ⟨"ClickbookModel", "ofCue", "(II)I"⟩ ∈ xk_T := xk_in (List.mem_of_getElem? (i := 1264) (by decide +kernel)) rfl
theorem xm_1201 : Cond.instanceMethod ⟨"ClickbookModel", "ofCue", "(II)I"⟩ ∈ xk_T := xk_in (List.mem_of_getElem? (i := 1265) (by decide +kernel)) rfl
theorem xm_1202 : Cond.selects "ClickbookModel" ⟨"ClickbookModel", "ofCue", "(II)I"⟩ ⟨"ClickbookModel", "ofCue", "(II)I"⟩ ∈ xk_T := xk_in (List.mem_of_getElem? (i := 1266) (by decide +kernel)) rfl
theorem xm_1203 : Cond.code ⟨"ClickbookModel", "ofCue", "(II)I"⟩ prog_7_method_44_code 3 (Option.some .int) ∈ xk_T := xk_in (List.mem_of_getElem? (i := 1267) (by decide +kernel)) rfl
theorem xm_1217 : Cond.methodLink "ClickbookModel" 234 ⟨"ClickbookModel", "valid", "(I)I"⟩ ∈ xk_T := xk_in (List.mem_of_getElem? (i := 1281) (by decide +kernel)) rfl
theorem xm_1219 : Cond.instanceMethod ⟨"ClickbookModel", "valid", "(I)I"⟩ ∈ xk_T := xk_in (List.mem_of_getElem? (i := 1283) (by decide +kernel)) rfl
theorem xm_1220 : Cond.code ⟨"ClickbookModel", "valid", "(I)I"⟩ prog_7_method_31_code 4 (Option.some .int) ∈ xk_T := xk_in (List.mem_of_getElem? (i := 1284) (by decide +kernel)) rfl
theorem xm_1229 : Cond.methodLink "ClickbookLaw" 140 ⟨"ClickbookModel", "ofBar", "(III)I"⟩ ∈ xk_T := xk_in (List.mem_of_getElem? (i := 1293) (by decide +kernel)) rfl
theorem xm_1230 : Cond.instanceMethod ⟨"ClickbookModel", "ofBar", "(III)I"⟩ ∈ xk_T := xk_in (List.mem_of_getElem? (i := 1294) (by decide +kernel)) rfl
theorem xm_1231 : Cond.selects "ClickbookModel" ⟨"ClickbookModel", "ofBar", "(III)I"⟩ ⟨"ClickbookModel", "ofBar", "(III)I"⟩ ∈ xk_T := xk_in (List.mem_of_getElem? (i := 1295) (by decide +kernel)) rfl
theorem xm_1232 : Cond.code ⟨"ClickbookModel", "ofBar", "(III)I"⟩ prog_7_method_46_code 4 (Option.some .int) ∈ xk_T := xk_in (List.mem_of_getElem? (i := 1296) (by decide +kernel)) rfl
theorem xm_1238 : Cond.methodLink "ClickbookLaw" 143 ⟨"ClickbookModel", "beat", "(II)I"⟩ ∈ xk_T := xk_in (List.mem_of_getElem? (i := 1302) (by decide +kernel)) rfl
theorem xm_1239 : Cond.instanceMethod ⟨"ClickbookModel", "beat", "(II)I"⟩ ∈ xk_T := xk_in (List.mem_of_getElem? (i := 1303) (by decide +kernel)) rfl
theorem xm_1240 : Cond.selects "ClickbookModel" ⟨"ClickbookModel", "beat", "(II)I"⟩ ⟨"ClickbookModel", "beat", "(II)I"⟩ ∈ xk_T := xk_in (List.mem_of_getElem? (i := 1304) (by decide +kernel)) rfl
theorem xm_1241 : Cond.code ⟨"ClickbookModel", "beat", "(II)I"⟩ prog_7_method_47_code 3 (Option.some .int) ∈ xk_T := xk_in (List.mem_of_getElem? (i := 1305) (by decide +kernel)) rfl
theorem xm_1242 : Cond.methodLink "ClickbookLaw" 146 ⟨"ClickbookModel", "ofTake", "(II)I"⟩ ∈ xk_T := xk_in (List.mem_of_getElem? (i := 1306) (by decide +kernel)) rfl
theorem xm_1243 : Cond.instanceMethod ⟨"ClickbookModel", "ofTake", "(II)I"⟩ ∈ xk_T := xk_in (List.mem_of_getElem? (i := 1307) (by decide +kernel)) rfl
theorem xm_1244 : Cond.selects "ClickbookModel" ⟨"ClickbookModel", "ofTake", "(II)I"⟩ ⟨"ClickbookModel", "ofTake", "(II)I"⟩ ∈ xk_T := xk_in (List.mem_of_getElem? (i := 1308) (by decide +kernel)) rfl
theorem xm_1245 : Cond.code ⟨"ClickbookModel", "ofTake", "(II)I"⟩ prog_7_method_49_code 3 (Option.some .int) ∈ xk_T := xk_in (List.mem_of_getElem? (i := 1309) (by decide +kernel)) rfl
theorem xm_1250 : Cond.methodLink "ClickbookLaw" 149 ⟨"ClickbookModel", "sheet", "(I)I"⟩ ∈ xk_T := xk_in (List.mem_of_getElem? (i := 1314) (by decide +kernel)) rfl
theorem xm_1251 : Cond.instanceMethod ⟨"ClickbookModel", "sheet", "(I)I"⟩ ∈ xk_T := xk_in (List.mem_of_getElem? (i := 1315) (by decide +kernel)) rfl
theorem xm_1252 : Cond.selects "ClickbookModel" ⟨"ClickbookModel", "sheet", "(I)I"⟩ ⟨"ClickbookModel", "sheet", "(I)I"⟩ ∈ xk_T := xk_in (List.mem_of_getElem? (i := 1316) (by decide +kernel)) rfl
theorem xm_1253 : Cond.code ⟨"ClickbookModel", "sheet", "(I)I"⟩ prog_7_method_50_code 2 (Option.some .int) ∈ xk_T := xk_in (List.mem_of_getElem? (i := 1317) (by decide +kernel)) rfl
theorem xm_1254 : Cond.methodLink "ClickbookModel" 281 ⟨"ClickbookModel", "sheetNow", "(I)I"⟩ ∈ xk_T := xk_in (List.mem_of_getElem? (i := 1318) (by decide +kernel)) rfl
theorem xm_1256 : Cond.instanceMethod ⟨"ClickbookModel", "sheetNow", "(I)I"⟩ ∈ xk_T := xk_in (List.mem_of_getElem? (i := 1320) (by decide +kernel)) rfl
theorem xm_1257 : Cond.code ⟨"ClickbookModel", "sheetNow", "(I)I"⟩ prog_7_method_39_code 4 (Option.some .int) ∈ xk_T := xk_in (List.mem_of_getElem? (i := 1321) (by decide +kernel)) rfl
theorem xm_1260 : Cond.methodLink "ClickbookLaw" 152 ⟨"ClickbookModel", "many", "(I)I"⟩ ∈ xk_T := xk_in (List.mem_of_getElem? (i := 1324) (by decide +kernel)) rfl
theorem xm_1261 : Cond.instanceMethod ⟨"ClickbookModel", "many", "(I)I"⟩ ∈ xk_T := xk_in (List.mem_of_getElem? (i := 1325) (by decide +kernel)) rfl
theorem xm_1262 : Cond.selects "ClickbookModel" ⟨"ClickbookModel", "many", "(I)I"⟩ ⟨"ClickbookModel", "many", "(I)I"⟩ ∈ xk_T := xk_in (List.mem_of_getElem? (i := 1326) (by decide +kernel)) rfl
theorem xm_1263 : Cond.code ⟨"ClickbookModel", "many", "(I)I"⟩ prog_7_method_54_code 2 (Option.some .int) ∈ xk_T := xk_in (List.mem_of_getElem? (i := 1327) (by decide +kernel)) rfl
theorem xm_1264 : Cond.methodLink "ClickbookModel" 290 ⟨"ClickbookModel", "manyNow", "(I)I"⟩ ∈ xk_T := xk_in (List.mem_of_getElem? (i := 1328) (by decide +kernel)) rfl
theorem xm_1266 : Cond.instanceMethod ⟨"ClickbookModel", "manyNow", "(I)I"⟩ ∈ xk_T := xk_in (List.mem_of_getElem? (i := 1330) (by decide +kernel)) rfl
theorem xm_1267 : Cond.code ⟨"ClickbookModel", "manyNow", "(I)I"⟩ prog_7_method_53_code 7 (Option.some .int) ∈ xk_T := xk_in (List.mem_of_getElem? (i := 1331) (by decide +kernel)) rfl
theorem xm_1268 : Cond.methodLink "ClickbookModel" 284 ⟨"ClickbookModel", "gone", "()I"⟩ ∈ xk_T := xk_in (List.mem_of_getElem? (i := 1332) (by decide +kernel)) rfl
theorem xm_1270 : Cond.instanceMethod ⟨"ClickbookModel", "gone", "()I"⟩ ∈ xk_T := xk_in (List.mem_of_getElem? (i := 1334) (by decide +kernel)) rfl
theorem xm_1271 : Cond.code ⟨"ClickbookModel", "gone", "()I"⟩ prog_7_method_52_code 4 (Option.some .int) ∈ xk_T := xk_in (List.mem_of_getElem? (i := 1335) (by decide +kernel)) rfl
theorem xm_1272 : Cond.methodLink "ClickbookModel" 287 ⟨"ClickbookModel", "clashes", "()I"⟩ ∈ xk_T := xk_in (List.mem_of_getElem? (i := 1336) (by decide +kernel)) rfl
theorem xm_1274 : Cond.instanceMethod ⟨"ClickbookModel", "clashes", "()I"⟩ ∈ xk_T := xk_in (List.mem_of_getElem? (i := 1338) (by decide +kernel)) rfl
theorem xm_1275 : Cond.code ⟨"ClickbookModel", "clashes", "()I"⟩ prog_7_method_51_code 4 (Option.some .int) ∈ xk_T := xk_in (List.mem_of_getElem? (i := 1339) (by decide +kernel)) rfl
theorem xm_1276 : Cond.methodLink "ClickbookLaw" 157 ⟨"ClickbookModel", "meanNote", "()D"⟩ ∈ xk_T := xk_in (List.mem_of_getElem? (i := 1340) (by decide +kernel)) rfl
theorem xm_1277 : Cond.instanceMethod ⟨"ClickbookModel", "meanNote", "()D"⟩ ∈ xk_T := xk_in (List.mem_of_getElem? (i := 1341) (by decide +kernel)) rfl
theorem xm_1278 : Cond.selects "ClickbookModel" ⟨"ClickbookModel", "meanNote", "()D"⟩ ⟨"ClickbookModel", "meanNote", "()D"⟩ ∈ xk_T := xk_in (List.mem_of_getElem? (i := 1342) (by decide +kernel)) rfl
theorem xm_1279 : Cond.code ⟨"ClickbookModel", "meanNote", "()D"⟩ prog_7_method_55_code 4 (Option.some .double) ∈ xk_T := xk_in (List.mem_of_getElem? (i := 1343) (by decide +kernel)) rfl
theorem xm_1280 : Cond.methodLink "ClickbookLaw" 160 ⟨"ClickbookModel", "join", "(I)I"⟩ ∈ xk_T := xk_in (List.mem_of_getElem? (i := 1344) (by decide +kernel)) rfl
theorem xm_1281 : Cond.instanceMethod ⟨"ClickbookModel", "join", "(I)I"⟩ ∈ xk_T := xk_in (List.mem_of_getElem? (i := 1345) (by decide +kernel)) rfl
theorem xm_1282 : Cond.selects "ClickbookModel" ⟨"ClickbookModel", "join", "(I)I"⟩ ⟨"ClickbookModel", "join", "(I)I"⟩ ∈ xk_T := xk_in (List.mem_of_getElem? (i := 1346) (by decide +kernel)) rfl
theorem xm_1283 : Cond.code ⟨"ClickbookModel", "join", "(I)I"⟩ prog_7_method_56_code 2 (Option.some .int) ∈ xk_T := xk_in (List.mem_of_getElem? (i := 1347) (by decide +kernel)) rfl
theorem xm_1284 : Cond.methodLink "ClickbookModel" 293 ⟨"ClickbookModel", "joinNow", "(I)I"⟩ ∈ xk_T := xk_in (List.mem_of_getElem? (i := 1348) (by decide +kernel)) rfl
theorem xm_1286 : Cond.instanceMethod ⟨"ClickbookModel", "joinNow", "(I)I"⟩ ∈ xk_T := xk_in (List.mem_of_getElem? (i := 1350) (by decide +kernel)) rfl
theorem xm_1287 : Cond.code ⟨"ClickbookModel", "joinNow", "(I)I"⟩ prog_7_method_36_code 3 (Option.some .int) ∈ xk_T := xk_in (List.mem_of_getElem? (i := 1351) (by decide +kernel)) rfl
theorem xm_1301 : Cond.methodLink "ClickbookLaw" 163 ⟨"ClickbookModel", "joined", "(II)I"⟩ ∈ xk_T := xk_in (List.mem_of_getElem? (i := 1365) (by decide +kernel)) rfl
theorem xm_1302 : Cond.instanceMethod ⟨"ClickbookModel", "joined", "(II)I"⟩ ∈ xk_T := xk_in (List.mem_of_getElem? (i := 1366) (by decide +kernel)) rfl
theorem xm_1303 : Cond.selects "ClickbookModel" ⟨"ClickbookModel", "joined", "(II)I"⟩ ⟨"ClickbookModel", "joined", "(II)I"⟩ ∈ xk_T := xk_in (List.mem_of_getElem? (i := 1367) (by decide +kernel)) rfl
theorem xm_1304 : Cond.code ⟨"ClickbookModel", "joined", "(II)I"⟩ prog_7_method_57_code 4 (Option.some .int) ∈ xk_T := xk_in (List.mem_of_getElem? (i := 1368) (by decide +kernel)) rfl
theorem xm_1305 : Cond.methodLink "ClickbookModel" 296 ⟨"ClickbookModel", "joined", "(I)[I"⟩ ∈ xk_T := xk_in (List.mem_of_getElem? (i := 1369) (by decide +kernel)) rfl
theorem xm_1307 : Cond.instanceMethod ⟨"ClickbookModel", "joined", "(I)[I"⟩ ∈ xk_T := xk_in (List.mem_of_getElem? (i := 1371) (by decide +kernel)) rfl
theorem xm_1308 : Cond.code ⟨"ClickbookModel", "joined", "(I)[I"⟩ prog_7_method_35_code 5 (Option.some (.array .int)) ∈ xk_T := xk_in (List.mem_of_getElem? (i := 1372) (by decide +kernel)) rfl
theorem xm_1309 : Cond.methodLink "ClickbookLaw" 166 ⟨"ClickbookModel", "bestStart", "(I)I"⟩ ∈ xk_T := xk_in (List.mem_of_getElem? (i := 1373) (by decide +kernel)) rfl
theorem xm_1310 : Cond.instanceMethod ⟨"ClickbookModel", "bestStart", "(I)I"⟩ ∈ xk_T := xk_in (List.mem_of_getElem? (i := 1374) (by decide +kernel)) rfl
theorem xm_1311 : Cond.selects "ClickbookModel" ⟨"ClickbookModel", "bestStart", "(I)I"⟩ ⟨"ClickbookModel", "bestStart", "(I)I"⟩ ∈ xk_T := xk_in (List.mem_of_getElem? (i := 1375) (by decide +kernel)) rfl
theorem xm_1312 : Cond.code ⟨"ClickbookModel", "bestStart", "(I)I"⟩ prog_7_method_59_code 2 (Option.some .int) ∈ xk_T := xk_in (List.mem_of_getElem? (i := 1376) (by decide +kernel)) rfl
theorem xm_1317 : Cond.methodLink "ClickbookLaw" 169 ⟨"ClickbookModel", "bestClick", "(II)I"⟩ ∈ xk_T := xk_in (List.mem_of_getElem? (i := 1381) (by decide +kernel)) rfl
theorem xm_1318 : Cond.instanceMethod ⟨"ClickbookModel", "bestClick", "(II)I"⟩ ∈ xk_T := xk_in (List.mem_of_getElem? (i := 1382) (by decide +kernel)) rfl
theorem xm_1319 : Cond.selects "ClickbookModel" ⟨"ClickbookModel", "bestClick", "(II)I"⟩ ⟨"ClickbookModel", "bestClick", "(II)I"⟩ ∈ xk_T := xk_in (List.mem_of_getElem? (i := 1383) (by decide +kernel)) rfl
theorem xm_1320 : Cond.code ⟨"ClickbookModel", "bestClick", "(II)I"⟩ prog_7_method_61_code 3 (Option.some .int) ∈ xk_T := xk_in (List.mem_of_getElem? (i := 1384) (by decide +kernel)) rfl
theorem xm_1325 : Cond.methodLink "ClickbookLaw" 172 ⟨"ClickbookModel", "wouldMeet", "(II)I"⟩ ∈ xk_T := xk_in (List.mem_of_getElem? (i := 1389) (by decide +kernel)) rfl
theorem xm_1326 : Cond.instanceMethod ⟨"ClickbookModel", "wouldMeet", "(II)I"⟩ ∈ xk_T := xk_in (List.mem_of_getElem? (i := 1390) (by decide +kernel)) rfl
theorem xm_1327 : Cond.selects "ClickbookModel" ⟨"ClickbookModel", "wouldMeet", "(II)I"⟩ ⟨"ClickbookModel", "wouldMeet", "(II)I"⟩ ∈ xk_T := xk_in (List.mem_of_getElem? (i := 1391) (by decide +kernel)) rfl
theorem xm_1328 : Cond.code ⟨"ClickbookModel", "wouldMeet", "(II)I"⟩ prog_7_method_63_code 3 (Option.some .int) ∈ xk_T := xk_in (List.mem_of_getElem? (i := 1392) (by decide +kernel)) rfl
theorem xm_1329 : Cond.methodLink "ClickbookModel" 306 ⟨"ClickbookModel", "wouldMeetNow", "(II)I"⟩ ∈ xk_T := xk_in (List.mem_of_getElem? (i := 1393) (by decide +kernel)) rfl
theorem xm_1331 : Cond.instanceMethod ⟨"ClickbookModel", "wouldMeetNow", "(II)I"⟩ ∈ xk_T := xk_in (List.mem_of_getElem? (i := 1395) (by decide +kernel)) rfl
theorem xm_1332 : Cond.code ⟨"ClickbookModel", "wouldMeetNow", "(II)I"⟩ prog_7_method_62_code 8 (Option.some .int) ∈ xk_T := xk_in (List.mem_of_getElem? (i := 1396) (by decide +kernel)) rfl
theorem xm_1333 : Cond.methodLink "ClickbookLaw" 177 ⟨"ClickbookModel", "digest", "()J"⟩ ∈ xk_T := xk_in (List.mem_of_getElem? (i := 1397) (by decide +kernel)) rfl
theorem xm_1334 : Cond.instanceMethod ⟨"ClickbookModel", "digest", "()J"⟩ ∈ xk_T := xk_in (List.mem_of_getElem? (i := 1398) (by decide +kernel)) rfl
theorem xm_1335 : Cond.selects "ClickbookModel" ⟨"ClickbookModel", "digest", "()J"⟩ ⟨"ClickbookModel", "digest", "()J"⟩ ∈ xk_T := xk_in (List.mem_of_getElem? (i := 1399) (by decide +kernel)) rfl
theorem xm_1336 : Cond.code ⟨"ClickbookModel", "digest", "()J"⟩ prog_7_method_66_code 6 (Option.some .long) ∈ xk_T := xk_in (List.mem_of_getElem? (i := 1400) (by decide +kernel)) rfl
theorem xm_1337 : Cond.constantLong "ClickbookModel" 316 58231 ∈ xk_T := xk_in (List.mem_of_getElem? (i := 1401) (by decide +kernel)) rfl
theorem xm_1338 : Cond.methodLink "ClickbookModel" 311 ⟨"ClickbookModel", "add", "(JJ)J"⟩ ∈ xk_T := xk_in (List.mem_of_getElem? (i := 1402) (by decide +kernel)) rfl
theorem xm_1339 : Cond.static ⟨"ClickbookModel", "add", "(JJ)J"⟩ ∈ xk_T := xk_in (List.mem_of_getElem? (i := 1403) (by decide +kernel)) rfl
theorem xm_1340 : Cond.code ⟨"ClickbookModel", "add", "(JJ)J"⟩ prog_7_method_64_code 4 (Option.some .long) ∈ xk_T := xk_in (List.mem_of_getElem? (i := 1404) (by decide +kernel)) rfl
theorem xm_1341 : Cond.constantLong "ClickbookModel" 309 31 ∈ xk_T := xk_in (List.mem_of_getElem? (i := 1405) (by decide +kernel)) rfl
theorem xm_1347 : Cond.methodLink "ClickbookModel" 322 ⟨"java/util/ArrayList", "isEmpty", "()Z"⟩ ∈ xk_T := xk_in (List.mem_of_getElem? (i := 1411) (by decide +kernel)) rfl
theorem xm_1348 : Cond.arrayClass .long ∈ xk_T := xk_in (List.mem_of_getElem? (i := 1412) (by decide +kernel)) rfl
theorem xm_1350 : Cond.castable "java/lang/Integer" "java/lang/Object" ∈ lw_tbl := List.mem_of_getElem? (i := 1414) (by decide +kernel)
theorem xm_1351 : Cond.castable "Clickbook" "java/lang/Object" ∈ lw_tbl := List.mem_of_getElem? (i := 1415) (by decide +kernel)
theorem xm_1352 : Cond.castable "java/util/ArrayList" "java/lang/Object" ∈ lw_tbl := List.mem_of_getElem? (i := 1416) (by decide +kernel)
theorem xm_1353 : Cond.castable "Clickbook$JoinTable" "java/lang/Object" ∈ lw_tbl := List.mem_of_getElem? (i := 1417) (by decide +kernel)
theorem xm_1354 : Cond.castable "ClickbookModel" "java/lang/Object" ∈ lw_tbl := List.mem_of_getElem? (i := 1418) (by decide +kernel)
theorem xm_1357 : Cond.castable "Clickbook$Hit" "java/lang/Object" ∈ lw_tbl := List.mem_of_getElem? (i := 1421) (by decide +kernel)
theorem xm_1358 : Cond.castable "ClickbookModel$Hit" "java/lang/Object" ∈ lw_tbl := List.mem_of_getElem? (i := 1422) (by decide +kernel)
theorem xm_1359 : Cond.castable "java/util/ArrayList$Itr" "java/lang/Object" ∈ lw_tbl := List.mem_of_getElem? (i := 1423) (by decide +kernel)
theorem xm_1361 : Cond.castable "Clickbook$Cue" "java/lang/Object" ∈ lw_tbl := List.mem_of_getElem? (i := 1425) (by decide +kernel)
theorem xm_1362 : Cond.castable "ClickbookModel$Cue" "java/lang/Object" ∈ lw_tbl := List.mem_of_getElem? (i := 1426) (by decide +kernel)
