def f_L_below (x0 : Int32) (x1 : Int32) (w : xWd) : Option (Int32 × xWd) := (xk_nz (x1)).bind (fun u1 => some (((x0) &&& ((2147483647 : Int32))) - ((x0) &&& ((2147483647 : Int32))) / (x1) * (x1), w))
set_option maxHeartbeats 4000000 in
set_option maxRecDepth 100000 in
theorem t_L_below_0 {p : Program} {l : Launch} {e : Env} {s : State} {m : MethodId} {args : Array Value} {below : List Frame} {meth : Method} {c : Code} {E : xEv} (hC : xk_C p s m args meth c E method_2_code "ClickbookLaw" 2) (hr : meth.sig.returnType = (some .int)) {q : (Int32 × xWd)} (x0 : Int32) (x1 : Int32) (w : xWd) (hf : f_L_below x0 x1 w = some q) : xk_X p l e { frames := 0, cells := 0, slots := 0, locals := 0 } s m args below meth c (MQ below (xk_Qi E q) args s 0 0 (xk_A E.2.2.1)) E 2 0 0 0 [(0, .int (x0)), (1, .int (x1))] [] w := by
  refine xk_iload_n hC dL_below_0 0 rfl rfl ?_
  refine xk_ldc (v := (2147483647 : Int32)) hC dL_below_1 xm_737 ?_
  refine xk_iand hC dL_below_3 ?_
  refine xk_iload_n hC dL_below_4 1 rfl rfl ?_
  obtain ⟨u1, h1, hf⟩ := xk_bi hf
  refine xk_irem hC dL_below_5 (xk_nz_e h1) ?_
  cases hf
  refine xk_widen (k := 0) (n := 0) (Nat.le_of_ble_eq_true rfl) (Nat.le_of_ble_eq_true rfl) ?_
  exact xk_iret hC hr rfl dL_below_6
theorem xd_L_below : xy_L_below.cls ≠ "java/lang/invoke/MethodHandle" ∧ xy_L_below.cls ≠ "java/lang/invoke/VarHandle" ∧ (parseMethodDescriptor xy_L_below.desc).map (fun d => d.parameters.length) = some 2 := ⟨by decide +kernel, by decide +kernel, by decide +kernel⟩
theorem c_L_below {l : Launch} {E : xEv} {x0 : Int32} {x1 : Int32} {w : xWd} {q : (Int32 × xWd)} (hf : f_L_below x0 x1 w = some q) : xk_M l xy_L_below method_2_code 2 (some .int) 0 0 0 0 E [.int (x0), .int (x1)] w (xk_Qi E q) := by
  refine xk_enter (by decide +kernel) (by simp [lg_sl, xk_cat1, xk_cati, xk_catl, xk_catd]) ?_
  intro p e s m args below meth c hC hr hin ha
  rw [show lv_args 0 [.int (x0), .int (x1)] = [(0, .int (x0)), (1, .int (x1))] by simp [lv_args, xk_cat1, xk_cati, xk_catl, xk_catd]]
  exact t_L_below_0 hC hr x0 x1 w hf
def f_L_cell_18 (s0 : Int32) (w : xWd) : Option (Int32 × xWd) := some (s0, w)
set_option maxHeartbeats 4000000 in
set_option maxRecDepth 100000 in
theorem t_L_cell_18 {p : Program} {l : Launch} {e : Env} {s : State} {m : MethodId} {args : Array Value} {below : List Frame} {meth : Method} {c : Code} {E : xEv} (hC : xk_C p s m args meth c E method_3_code "ClickbookLaw" 2) (hr : meth.sig.returnType = (some .int)) {q : (Int32 × xWd)} (s0 : Int32) (w : xWd) (hf : f_L_cell_18 s0 w = some q) : xk_X p l e { frames := 0, cells := 0, slots := 0, locals := 0 } s m args below meth c (MQ below (xk_Qi E q) args s 0 0 (xk_A E.2.2.1)) E 2 0 0 18 [] [.int (s0)] w := by
  cases hf
  refine xk_widen (k := 0) (n := 0) (Nat.le_of_ble_eq_true rfl) (Nat.le_of_ble_eq_true rfl) ?_
  exact xk_iret hC hr rfl dL_cell_18
def f_L_cell (x0 : Option Nat) (x1 : Int32) (w : xWd) : Option (Int32 × xWd) := (xk_len w (x0)).bind (fun v1 => if (v1) ≤ (x1) then f_L_cell_18 (((790386105 : Int32)) * ((x1) + ((3 : Int32)))) w else (xk_lI 0 w (x0) (x1)).bind (fun v3 => f_L_cell_18 v3 w))
set_option maxHeartbeats 4000000 in
set_option maxRecDepth 100000 in
theorem t_L_cell_0 {p : Program} {l : Launch} {e : Env} {s : State} {m : MethodId} {args : Array Value} {below : List Frame} {meth : Method} {c : Code} {E : xEv} (hC : xk_C p s m args meth c E method_3_code "ClickbookLaw" 2) (hr : meth.sig.returnType = (some .int)) {q : (Int32 × xWd)} (x0 : Option Nat) (x1 : Int32) (w : xWd) (hf : f_L_cell x0 x1 w = some q) : xk_X p l e { frames := 0, cells := 0, slots := 0, locals := 0 } s m args below meth c (MQ below (xk_Qi E q) args s 0 0 (xk_A E.2.2.1)) E 2 0 0 0 [(0, va_rf (x0)), (1, .int (x1))] [] w := by
  refine xk_iload_n hC dL_cell_0 1 rfl rfl ?_
  refine xk_aload_n hC dL_cell_1 0 rfl rfl ?_
  obtain ⟨v1, h1, hf⟩ := xk_bi hf
  refine xk_alen hC dL_cell_2 h1 ?_
  refine xk_icmp_ge (tgt := 12) hC dL_cell_3 (by decide) (fun c2 => ?_) (fun c2 => ?_)
  · replace hf := (if_pos c2).symm.trans hf
    refine xk_ldc (v := (790386105 : Int32)) hC dL_cell_12 xm_741 ?_
    refine xk_iload_n hC dL_cell_14 1 rfl rfl ?_
    refine xk_iconst (v := (3 : Int32)) hC dL_cell_15 (by decide) ?_
    refine xk_iadd hC dL_cell_16 ?_
    refine xk_imul hC dL_cell_17 ?_
    refine xk_locals [] rfl ?_
    exact t_L_cell_18 hC hr (((790386105 : Int32)) * ((x1) + ((3 : Int32)))) w hf
  · replace hf := (if_neg c2).symm.trans hf
    refine xk_aload_n hC dL_cell_6 0 rfl rfl ?_
    refine xk_iload_n hC dL_cell_7 1 rfl rfl ?_
    obtain ⟨v3, h3, hf⟩ := xk_bi hf
    refine xk_iald hC rfl dL_cell_8 h3 ?_
    refine xk_goto (tgt := 18) hC dL_cell_9 (by decide) ?_
    refine xk_locals [] rfl ?_
    exact t_L_cell_18 hC hr v3 w hf
theorem xd_L_cell : xy_L_cell.cls ≠ "java/lang/invoke/MethodHandle" ∧ xy_L_cell.cls ≠ "java/lang/invoke/VarHandle" ∧ (parseMethodDescriptor xy_L_cell.desc).map (fun d => d.parameters.length) = some 2 := ⟨by decide +kernel, by decide +kernel, by decide +kernel⟩
theorem c_L_cell {l : Launch} {E : xEv} {x0 : Option Nat} {x1 : Int32} {w : xWd} {q : (Int32 × xWd)} (hf : f_L_cell x0 x1 w = some q) : xk_M l xy_L_cell method_3_code 2 (some .int) 0 0 0 0 E [va_rf (x0), .int (x1)] w (xk_Qi E q) := by
  refine xk_enter (by decide +kernel) (by simp [lg_sl, xk_cat1, xk_cati, xk_catl, xk_catd]) ?_
  intro p e s m args below meth c hC hr hin ha
  rw [show lv_args 0 [va_rf (x0), .int (x1)] = [(0, va_rf (x0)), (1, .int (x1))] by simp [lv_args, xk_cat1, xk_cati, xk_catl, xk_catd]]
  exact t_L_cell_0 hC hr x0 x1 w hf
def f_L_isBack_77 (k21 : Option Nat → Int32 → Int32 → Option Nat → Option Nat → Option Nat → Int32 → Int32 → xWd → Option (Int32 × xWd)) (x0 : Option Nat) (x1 : Int32) (x2 : Int32) (x3 : Option Nat) (x4 : Option Nat) (x5 : Option Nat) (x7 : Int32) (s0 : Int32) (s1 : Int32) (w : xWd) : Option (Int32 × xWd) := k21 x0 x1 x2 x3 x4 x5 ((s1) + (s0)) (x7 + (1 : Int32)) w
set_option maxHeartbeats 4000000 in
set_option maxRecDepth 100000 in
theorem t_L_isBack_77 {p : Program} {l : Launch} {e : Env} {s : State} {m : MethodId} {args : Array Value} {below : List Frame} {meth : Method} {c : Code} {E : xEv} (hC : xk_C p s m args meth c E method_5_code "ClickbookLaw" 13) (hr : meth.sig.returnType = (some .boolean)) {q : (Int32 × xWd)} {k21 : Option Nat → Int32 → Int32 → Option Nat → Option Nat → Option Nat → Int32 → Int32 → xWd → Option (Int32 × xWd)} (hk21 : ∀ (x0 : Option Nat) (x1 : Int32) (x2 : Int32) (x3 : Option Nat) (x4 : Option Nat) (x5 : Option Nat) (x6 : Int32) (x7 : Int32) (w : xWd), k21 x0 x1 x2 x3 x4 x5 x6 x7 w = some q → xk_X p l e { frames := 8, cells := 3, slots := 192, locals := 175 } s m args below meth c (MQ below (xk_Qi E q) args s 3 192 (xk_A E.2.2.1)) E 13 3 192 21 [(0, va_rf (x0)), (1, .int (x1)), (2, .int (x2)), (3, va_rf (x3)), (4, va_rf (x4)), (5, va_rf (x5)), (6, .int (x6)), (7, .int (x7))] [] w) (x0 : Option Nat) (x1 : Int32) (x2 : Int32) (x3 : Option Nat) (x4 : Option Nat) (x5 : Option Nat) (x7 : Int32) (s0 : Int32) (s1 : Int32) (w : xWd) (hf : f_L_isBack_77 k21 x0 x1 x2 x3 x4 x5 x7 s0 s1 w = some q) : xk_X p l e { frames := 8, cells := 3, slots := 192, locals := 175 } s m args below meth c (MQ below (xk_Qi E q) args s 3 192 (xk_A E.2.2.1)) E 13 3 192 77 [(0, va_rf (x0)), (1, .int (x1)), (2, .int (x2)), (3, va_rf (x3)), (4, va_rf (x4)), (5, va_rf (x5)), (7, .int (x7))] [.int (s0), .int (s1)] w := by
  refine xk_iadd hC dL_isBack_77 ?_
  refine xk_istore (i := 6) (lv' := [(6, .int ((s1) + (s0))), (0, va_rf (x0)), (1, .int (x1)), (2, .int (x2)), (3, va_rf (x3)), (4, va_rf (x4)), (5, va_rf (x5)), (7, .int (x7))]) hC dL_isBack_78 (by decide) (by simp [xk_cat1]) ?_
  refine xk_iinc (v := x7 + (1 : Int32)) (lv' := [(7, .int (x7 + (1 : Int32))), (6, .int ((s1) + (s0))), (0, va_rf (x0)), (1, .int (x1)), (2, .int (x2)), (3, va_rf (x3)), (4, va_rf (x4)), (5, va_rf (x5))]) hC dL_isBack_80 7 rfl rfl (by decide) rfl ?_
  refine xk_goto (tgt := 21) hC dL_isBack_83 (by decide) ?_
  refine xk_locals [2, 3, 4, 5, 6, 7, 1, 0] rfl ?_
  exact hk21 x0 x1 x2 x3 x4 x5 ((s1) + (s0)) (x7 + (1 : Int32)) w hf
def f_L_isBack_76 (k21 : Option Nat → Int32 → Int32 → Option Nat → Option Nat → Option Nat → Int32 → Int32 → xWd → Option (Int32 × xWd)) (x0 : Option Nat) (x1 : Int32) (x2 : Int32) (x3 : Option Nat) (x4 : Option Nat) (x5 : Option Nat) (x7 : Int32) (s0 : Int32) (w : xWd) : Option (Int32 × xWd) := f_L_isBack_77 k21 x0 x1 x2 x3 x4 x5 x7 ((0 : Int32)) s0 w
set_option maxHeartbeats 4000000 in
set_option maxRecDepth 100000 in
theorem t_L_isBack_76 {p : Program} {l : Launch} {e : Env} {s : State} {m : MethodId} {args : Array Value} {below : List Frame} {meth : Method} {c : Code} {E : xEv} (hC : xk_C p s m args meth c E method_5_code "ClickbookLaw" 13) (hr : meth.sig.returnType = (some .boolean)) {q : (Int32 × xWd)} {k21 : Option Nat → Int32 → Int32 → Option Nat → Option Nat → Option Nat → Int32 → Int32 → xWd → Option (Int32 × xWd)} (hk21 : ∀ (x0 : Option Nat) (x1 : Int32) (x2 : Int32) (x3 : Option Nat) (x4 : Option Nat) (x5 : Option Nat) (x6 : Int32) (x7 : Int32) (w : xWd), k21 x0 x1 x2 x3 x4 x5 x6 x7 w = some q → xk_X p l e { frames := 8, cells := 3, slots := 192, locals := 175 } s m args below meth c (MQ below (xk_Qi E q) args s 3 192 (xk_A E.2.2.1)) E 13 3 192 21 [(0, va_rf (x0)), (1, .int (x1)), (2, .int (x2)), (3, va_rf (x3)), (4, va_rf (x4)), (5, va_rf (x5)), (6, .int (x6)), (7, .int (x7))] [] w) (x0 : Option Nat) (x1 : Int32) (x2 : Int32) (x3 : Option Nat) (x4 : Option Nat) (x5 : Option Nat) (x7 : Int32) (s0 : Int32) (w : xWd) (hf : f_L_isBack_76 k21 x0 x1 x2 x3 x4 x5 x7 s0 w = some q) : xk_X p l e { frames := 8, cells := 3, slots := 192, locals := 175 } s m args below meth c (MQ below (xk_Qi E q) args s 3 192 (xk_A E.2.2.1)) E 13 3 192 76 [(0, va_rf (x0)), (1, .int (x1)), (2, .int (x2)), (3, va_rf (x3)), (4, va_rf (x4)), (5, va_rf (x5)), (7, .int (x7))] [.int (s0)] w := by
  refine xk_iconst (v := (0 : Int32)) hC dL_isBack_76 (by decide) ?_
  exact t_L_isBack_77 hC hr hk21 x0 x1 x2 x3 x4 x5 x7 ((0 : Int32)) s0 w hf
def f_L_isBack_196 (w : xWd) : Option (Int32 × xWd) := some ((0 : Int32), w)
set_option maxHeartbeats 4000000 in
set_option maxRecDepth 100000 in
theorem t_L_isBack_196 {p : Program} {l : Launch} {e : Env} {s : State} {m : MethodId} {args : Array Value} {below : List Frame} {meth : Method} {c : Code} {E : xEv} (hC : xk_C p s m args meth c E method_5_code "ClickbookLaw" 13) (hr : meth.sig.returnType = (some .boolean)) {q : (Int32 × xWd)} (w : xWd) (hf : f_L_isBack_196 w = some q) : xk_X p l e { frames := 8, cells := 3, slots := 192, locals := 175 } s m args below meth c (MQ below (xk_Qi E q) args s 3 192 (xk_A E.2.2.1)) E 13 3 192 196 [] [] w := by
  refine xk_iconst (v := (0 : Int32)) hC dL_isBack_196 (by decide) ?_
  cases hf
  refine xk_widen (k := 3) (n := 192) (Nat.le_of_ble_eq_true rfl) (Nat.le_of_ble_eq_true rfl) ?_
  exact xk_iret hC hr rfl dL_isBack_197
def f_L_isBack_251 (w : xWd) : Option (Int32 × xWd) := some ((0 : Int32), w)
set_option maxHeartbeats 4000000 in
set_option maxRecDepth 100000 in
theorem t_L_isBack_251 {p : Program} {l : Launch} {e : Env} {s : State} {m : MethodId} {args : Array Value} {below : List Frame} {meth : Method} {c : Code} {E : xEv} (hC : xk_C p s m args meth c E method_5_code "ClickbookLaw" 13) (hr : meth.sig.returnType = (some .boolean)) {q : (Int32 × xWd)} (w : xWd) (hf : f_L_isBack_251 w = some q) : xk_X p l e { frames := 8, cells := 3, slots := 192, locals := 175 } s m args below meth c (MQ below (xk_Qi E q) args s 3 192 (xk_A E.2.2.1)) E 13 3 192 251 [] [] w := by
  refine xk_iconst (v := (0 : Int32)) hC dL_isBack_251 (by decide) ?_
  cases hf
  refine xk_widen (k := 3) (n := 192) (Nat.le_of_ble_eq_true rfl) (Nat.le_of_ble_eq_true rfl) ?_
  exact xk_iret hC hr rfl dL_isBack_252
def f_L_isBack_294 (w : xWd) : Option (Int32 × xWd) := some ((0 : Int32), w)
set_option maxHeartbeats 4000000 in
set_option maxRecDepth 100000 in
theorem t_L_isBack_294 {p : Program} {l : Launch} {e : Env} {s : State} {m : MethodId} {args : Array Value} {below : List Frame} {meth : Method} {c : Code} {E : xEv} (hC : xk_C p s m args meth c E method_5_code "ClickbookLaw" 13) (hr : meth.sig.returnType = (some .boolean)) {q : (Int32 × xWd)} (w : xWd) (hf : f_L_isBack_294 w = some q) : xk_X p l e { frames := 8, cells := 3, slots := 192, locals := 175 } s m args below meth c (MQ below (xk_Qi E q) args s 3 192 (xk_A E.2.2.1)) E 13 3 192 294 [] [] w := by
  refine xk_iconst (v := (0 : Int32)) hC dL_isBack_294 (by decide) ?_
  cases hf
  refine xk_widen (k := 3) (n := 192) (Nat.le_of_ble_eq_true rfl) (Nat.le_of_ble_eq_true rfl) ?_
  exact xk_iret hC hr rfl dL_isBack_295
def f_L_isBack_305 : Nat → Option Nat → Option Nat → Int32 → xWd → Option (Int32 × xWd)
  | 0, _, _, _, _ => none
  | n + 1, x0, x5, x12, w => if ((8 : Int32)) ≤ (x12) then some ((1 : Int32), w) else (xk_is w (x0) 0).bind (fun u3 => (f_X4_ofHit (x0) (x12) ((0 : Int32)) w).bind (fun q2 => (xk_lI 0 q2.2 (x5) (x12)).bind (fun v4 => if (q2.1) = (v4) then f_L_isBack_305 n x0 x5 (x12 + (1 : Int32)) (q2.2) else some ((0 : Int32), q2.2))))
set_option maxHeartbeats 4000000 in
set_option maxRecDepth 100000 in
theorem t_L_isBack_305 {p : Program} {l : Launch} {e : Env} {s : State} {m : MethodId} {args : Array Value} {below : List Frame} {meth : Method} {c : Code} {E : xEv} (hC : xk_C p s m args meth c E method_5_code "ClickbookLaw" 13) (hr : meth.sig.returnType = (some .boolean)) {q : (Int32 × xWd)} : ∀ (n : Nat) (x0 : Option Nat) (x5 : Option Nat) (x12 : Int32) (w : xWd), f_L_isBack_305 n x0 x5 x12 w = some q → xk_X p l e { frames := 8, cells := 3, slots := 192, locals := 175 } s m args below meth c (MQ below (xk_Qi E q) args s 3 192 (xk_A E.2.2.1)) E 13 3 192 305 [(0, va_rf (x0)), (5, va_rf (x5)), (12, .int (x12))] [] w := by
  intro n
  induction n with
  | zero => intro x0 x5 x12 w hf; have hf : none = some q := hf; cases hf
  | succ n ih =>
    intro x0 x5 x12 w hf
    refine xk_iload hC dL_isBack_305 2 rfl ?_
    refine xk_bipush (v := (8 : Int32)) hC dL_isBack_307 (by decide) ?_
    refine xk_icmp_ge (tgt := 335) hC dL_isBack_309 (by decide) (fun c1 => ?_) (fun c1 => ?_)
    · replace hf := (if_pos c1).symm.trans hf
      refine xk_iconst (v := (1 : Int32)) hC dL_isBack_335 (by decide) ?_
      cases hf
      refine xk_widen (k := 3) (n := 192) (Nat.le_of_ble_eq_true rfl) (Nat.le_of_ble_eq_true rfl) ?_
      exact xk_iret hC hr rfl dL_isBack_336
    · replace hf := (if_neg c1).symm.trans hf
      refine xk_aload_n hC dL_isBack_312 0 rfl rfl ?_
      refine xk_iload hC dL_isBack_313 2 rfl ?_
      refine xk_iconst (v := (0 : Int32)) hC dL_isBack_315 (by decide) ?_
      obtain ⟨u3, h3, hf⟩ := xk_bi hf
      obtain ⟨q2, h2, hf⟩ := xk_bi hf
      refine xk_backi (xk_callV hC 2 xc_0 (c_X4_ofHit h2) h3 xm_745 xm_676 xm_677 xm_1 xm_678 ⟨rfl, xd_X4_ofHit⟩ rfl ⟨Nat.le_of_ble_eq_true rfl, Nat.le_of_ble_eq_true rfl⟩ rfl (Nat.le_of_ble_eq_true rfl) dL_isBack_316 ⟨(Nat.le_of_ble_eq_true rfl), (Nat.le_of_ble_eq_true rfl)⟩) ?_
      refine xk_aload hC dL_isBack_319 1 rfl ?_
      refine xk_iload hC dL_isBack_321 2 rfl ?_
      obtain ⟨v4, h4, hf⟩ := xk_bi hf
      refine xk_iald hC rfl dL_isBack_323 h4 ?_
      refine xk_icmp_eq (tgt := 329) hC dL_isBack_324 (by decide) (fun c5 => ?_) (fun c5 => ?_)
      · replace hf := (if_pos c5).symm.trans hf
        refine xk_iinc (v := x12 + (1 : Int32)) (lv' := [(12, .int (x12 + (1 : Int32))), (0, va_rf (x0)), (5, va_rf (x5))]) hC dL_isBack_329 2 rfl rfl (by decide) rfl ?_
        refine xk_goto (tgt := 305) hC dL_isBack_332 (by decide) ?_
        refine xk_locals [1, 2, 0] rfl ?_
        exact ih x0 x5 (x12 + (1 : Int32)) (q2.2) hf
      · replace hf := (if_neg c5).symm.trans hf
        refine xk_iconst (v := (0 : Int32)) hC dL_isBack_327 (by decide) ?_
        cases hf
        refine xk_widen (k := 3) (n := 192) (Nat.le_of_ble_eq_true rfl) (Nat.le_of_ble_eq_true rfl) ?_
        exact xk_iret hC hr rfl dL_isBack_328
def f_L_isBack_256 : Nat → Option Nat → Option Nat → Option Nat → Option Nat → Int32 → xWd → Option (Int32 × xWd)
  | 0, _, _, _, _, _, _ => none
  | n + 1, x0, x3, x4, x5, x12, w => if ((4 : Int32)) ≤ (x12) then f_L_isBack_305 4096 x0 x5 ((0 : Int32)) w else (xk_is w (x0) 0).bind (fun u3 => (f_X4_ofCue (x0) (x12) ((0 : Int32)) w).bind (fun q2 => (xk_lI 0 q2.2 (x3) (x12)).bind (fun v4 => if (q2.1) = (v4) then (xk_is q2.2 (x0) 0).bind (fun u7 => (f_X4_ofCue (x0) (x12) ((5 : Int32)) q2.2).bind (fun q6 => (xk_lI 0 q6.2 (x4) (x12)).bind (fun v8 => (xk_nz ((2 : Int32))).bind (fun u9 => if (((q6.1) - (v8)) - ((q6.1) - (v8)) / ((2 : Int32)) * ((2 : Int32))) = ((0 : Int32)) then f_L_isBack_256 n x0 x3 x4 x5 (x12 + (1 : Int32)) (q6.2) else f_L_isBack_294 (q6.2))))) else f_L_isBack_294 (q2.2))))
set_option maxHeartbeats 4000000 in
set_option maxRecDepth 100000 in
theorem t_L_isBack_256 {p : Program} {l : Launch} {e : Env} {s : State} {m : MethodId} {args : Array Value} {below : List Frame} {meth : Method} {c : Code} {E : xEv} (hC : xk_C p s m args meth c E method_5_code "ClickbookLaw" 13) (hr : meth.sig.returnType = (some .boolean)) {q : (Int32 × xWd)} : ∀ (n : Nat) (x0 : Option Nat) (x3 : Option Nat) (x4 : Option Nat) (x5 : Option Nat) (x12 : Int32) (w : xWd), f_L_isBack_256 n x0 x3 x4 x5 x12 w = some q → xk_X p l e { frames := 8, cells := 3, slots := 192, locals := 175 } s m args below meth c (MQ below (xk_Qi E q) args s 3 192 (xk_A E.2.2.1)) E 13 3 192 256 [(0, va_rf (x0)), (3, va_rf (x3)), (4, va_rf (x4)), (5, va_rf (x5)), (12, .int (x12))] [] w := by
  intro n
  induction n with
  | zero => intro x0 x3 x4 x5 x12 w hf; have hf : none = some q := hf; cases hf
  | succ n ih =>
    intro x0 x3 x4 x5 x12 w hf
    refine xk_iload hC dL_isBack_256 4 rfl ?_
    refine xk_iconst (v := (4 : Int32)) hC dL_isBack_258 (by decide) ?_
    refine xk_icmp_ge (tgt := 302) hC dL_isBack_259 (by decide) (fun c1 => ?_) (fun c1 => ?_)
    · replace hf := (if_pos c1).symm.trans hf
      refine xk_iconst (v := (0 : Int32)) hC dL_isBack_302 (by decide) ?_
      refine xk_istore (i := 12) (lv' := [(12, .int ((0 : Int32))), (0, va_rf (x0)), (3, va_rf (x3)), (4, va_rf (x4)), (5, va_rf (x5))]) hC dL_isBack_303 (by decide) rfl ?_
      refine xk_locals [1, 4, 0] rfl ?_
      exact t_L_isBack_305 hC hr 4096 x0 x5 ((0 : Int32)) w hf
    · replace hf := (if_neg c1).symm.trans hf
      refine xk_aload_n hC dL_isBack_262 0 rfl rfl ?_
      refine xk_iload hC dL_isBack_263 4 rfl ?_
      refine xk_iconst (v := (0 : Int32)) hC dL_isBack_265 (by decide) ?_
      obtain ⟨u3, h3, hf⟩ := xk_bi hf
      obtain ⟨q2, h2, hf⟩ := xk_bi hf
      refine xk_backi (xk_callV hC 2 xc_0 (c_X4_ofCue h2) h3 xm_503 xm_504 xm_505 xm_1 xm_506 ⟨rfl, xd_X4_ofCue⟩ rfl ⟨Nat.le_of_ble_eq_true rfl, Nat.le_of_ble_eq_true rfl⟩ rfl (Nat.le_of_ble_eq_true rfl) dL_isBack_266 ⟨(Nat.le_of_ble_eq_true rfl), (Nat.le_of_ble_eq_true rfl)⟩) ?_
      refine xk_aload_n hC dL_isBack_269 1 rfl rfl ?_
      refine xk_iload hC dL_isBack_270 4 rfl ?_
      obtain ⟨v4, h4, hf⟩ := xk_bi hf
      refine xk_iald hC rfl dL_isBack_272 h4 ?_
      refine xk_icmp_ne (tgt := 294) hC dL_isBack_273 (by decide) (fun c5 => ?_) (fun c5 => ?_)
      · replace hf := (if_neg c5).symm.trans hf
        refine xk_locals [] rfl ?_
        exact t_L_isBack_294 hC hr (q2.2) hf
      · replace hf := (if_pos c5).symm.trans hf
        refine xk_aload_n hC dL_isBack_276 0 rfl rfl ?_
        refine xk_iload hC dL_isBack_277 4 rfl ?_
        refine xk_iconst (v := (5 : Int32)) hC dL_isBack_279 (by decide) ?_
        obtain ⟨u7, h7, hf⟩ := xk_bi hf
        obtain ⟨q6, h6, hf⟩ := xk_bi hf
        refine xk_backi (xk_callV hC 2 xc_0 (c_X4_ofCue h6) h7 xm_503 xm_504 xm_505 xm_1 xm_506 ⟨rfl, xd_X4_ofCue⟩ rfl ⟨Nat.le_of_ble_eq_true rfl, Nat.le_of_ble_eq_true rfl⟩ rfl (Nat.le_of_ble_eq_true rfl) dL_isBack_280 ⟨(Nat.le_of_ble_eq_true rfl), (Nat.le_of_ble_eq_true rfl)⟩) ?_
        refine xk_aload hC dL_isBack_283 2 rfl ?_
        refine xk_iload hC dL_isBack_285 4 rfl ?_
        obtain ⟨v8, h8, hf⟩ := xk_bi hf
        refine xk_iald hC rfl dL_isBack_287 h8 ?_
        refine xk_isub hC dL_isBack_288 ?_
        refine xk_iconst (v := (2 : Int32)) hC dL_isBack_289 (by decide) ?_
        obtain ⟨u9, h9, hf⟩ := xk_bi hf
        refine xk_irem hC dL_isBack_290 (xk_nz_e h9) ?_
        refine xk_if_eq (tgt := 296) hC dL_isBack_291 (by decide) (fun c10 => ?_) (fun c10 => ?_)
        · replace hf := (if_pos c10).symm.trans hf
          refine xk_iinc (v := x12 + (1 : Int32)) (lv' := [(12, .int (x12 + (1 : Int32))), (0, va_rf (x0)), (3, va_rf (x3)), (4, va_rf (x4)), (5, va_rf (x5))]) hC dL_isBack_296 4 rfl rfl (by decide) rfl ?_
          refine xk_goto (tgt := 256) hC dL_isBack_299 (by decide) ?_
          refine xk_locals [1, 2, 3, 4, 0] rfl ?_
          exact ih x0 x3 x4 x5 (x12 + (1 : Int32)) (q6.2) hf
        · replace hf := (if_neg c10).symm.trans hf
          refine xk_locals [] rfl ?_
          exact t_L_isBack_294 hC hr (q6.2) hf
def f_L_isBack_89 : Nat → Option Nat → Int32 → Int32 → Option Nat → Option Nat → Option Nat → Int32 → Int32 → xWd → Option (Int32 × xWd)
  | 0, _, _, _, _, _, _, _, _, _ => none
  | n + 1, x0, x1, x2, x3, x4, x5, x6, x7, w => if ((8 : Int32)) ≤ (x7) then (xk_is w (x0) 0).bind (fun u3 => (f_X4_many (x0) ((0 : Int32)) w).bind (fun q2 => (xk_is q2.2 (x0) 0).bind (fun u5 => (f_X4_many (x0) ((3 : Int32)) q2.2).bind (fun q4 => (xk_is q4.2 (x0) 0).bind (fun u7 => (f_X4_many (x0) ((4 : Int32)) q4.2).bind (fun q6 => (xk_is q6.2 (x0) 0).bind (fun u9 => (f_X4_many (x0) ((8 : Int32)) q6.2).bind (fun q8 => (xk_is q8.2 (x0) 0).bind (fun u11 => (f_X4_wouldMeet (x0) (x1) (x2) q8.2).bind (fun q10 => (xk_is q10.2 (x0) 0).bind (fun u13 => (f_X4_change (x0) (x1) (x2) q10.2).bind (fun q12 => if (q12.1) = (x6) then (xk_is q12.2 (x0) 0).bind (fun u16 => (f_X4_many (x0) ((4 : Int32)) q12.2).bind (fun q15 => if (q15.1) = (q10.1) then (xk_is q15.2 (x0) 0).bind (fun u19 => (f_X4_many (x0) ((0 : Int32)) q15.2).bind (fun q18 => if (q18.1) = ((q2.1) + (x2)) then (xk_is q18.2 (x0) 0).bind (fun u22 => (f_X4_wouldMeet (x0) (x1) (-(x2)) q18.2).bind (fun q21 => if (q21.1) = (q6.1) then (xk_is q21.2 (x0) 0).bind (fun u25 => (f_X4_change (x0) (x1) (-(x2)) q21.2).bind (fun q24 => if (q24.1) = (x6) then (xk_is q24.2 (x0) 0).bind (fun u28 => (f_X4_many (x0) ((0 : Int32)) q24.2).bind (fun q27 => if (q27.1) = (q2.1) then (xk_is q27.2 (x0) 0).bind (fun u31 => (f_X4_many (x0) ((3 : Int32)) q27.2).bind (fun q30 => if (q30.1) = (q4.1) then (xk_is q30.2 (x0) 0).bind (fun u34 => (f_X4_many (x0) ((4 : Int32)) q30.2).bind (fun q33 => if (q33.1) = (q6.1) then (xk_is q33.2 (x0) 0).bind (fun u37 => (f_X4_many (x0) ((8 : Int32)) q33.2).bind (fun q36 => if (q36.1) = (q8.1) then f_L_isBack_256 4096 x0 x3 x4 x5 ((0 : Int32)) (q36.2) else f_L_isBack_251 (q36.2))) else f_L_isBack_251 (q33.2))) else f_L_isBack_251 (q30.2))) else f_L_isBack_251 (q27.2))) else f_L_isBack_251 (q24.2))) else f_L_isBack_196 (q21.2))) else f_L_isBack_196 (q18.2))) else f_L_isBack_196 (q15.2))) else f_L_isBack_196 (q12.2))))))))))))) else (xk_is w (x0) 0).bind (fun u40 => (f_X4_ofHit (x0) (x7) ((0 : Int32)) w).bind (fun q39 => (xk_sI 0 q39.2 (x5) (x7) (q39.1)).bind (fun w41 => f_L_isBack_89 n x0 x1 x2 x3 x4 x5 x6 (x7 + (1 : Int32)) w41)))
set_option maxHeartbeats 4000000 in
set_option maxRecDepth 100000 in
theorem t_L_isBack_89 {p : Program} {l : Launch} {e : Env} {s : State} {m : MethodId} {args : Array Value} {below : List Frame} {meth : Method} {c : Code} {E : xEv} (hC : xk_C p s m args meth c E method_5_code "ClickbookLaw" 13) (hr : meth.sig.returnType = (some .boolean)) {q : (Int32 × xWd)} : ∀ (n : Nat) (x0 : Option Nat) (x1 : Int32) (x2 : Int32) (x3 : Option Nat) (x4 : Option Nat) (x5 : Option Nat) (x6 : Int32) (x7 : Int32) (w : xWd), f_L_isBack_89 n x0 x1 x2 x3 x4 x5 x6 x7 w = some q → xk_X p l e { frames := 8, cells := 3, slots := 192, locals := 175 } s m args below meth c (MQ below (xk_Qi E q) args s 3 192 (xk_A E.2.2.1)) E 13 3 192 89 [(0, va_rf (x0)), (1, .int (x1)), (2, .int (x2)), (3, va_rf (x3)), (4, va_rf (x4)), (5, va_rf (x5)), (6, .int (x6)), (7, .int (x7))] [] w := by
  intro n
  induction n with
  | zero => intro x0 x1 x2 x3 x4 x5 x6 x7 w hf; have hf : none = some q := hf; cases hf
  | succ n ih =>
    intro x0 x1 x2 x3 x4 x5 x6 x7 w hf
    refine xk_iload hC dL_isBack_89 7 rfl ?_
    refine xk_bipush (v := (8 : Int32)) hC dL_isBack_91 (by decide) ?_
    refine xk_icmp_ge (tgt := 114) hC dL_isBack_93 (by decide) (fun c1 => ?_) (fun c1 => ?_)
    · replace hf := (if_pos c1).symm.trans hf
      refine xk_aload_n hC dL_isBack_114 0 rfl rfl ?_
      refine xk_iconst (v := (0 : Int32)) hC dL_isBack_115 (by decide) ?_
      obtain ⟨u3, h3, hf⟩ := xk_bi hf
      obtain ⟨q2, h2, hf⟩ := xk_bi hf
      refine xk_backi (xk_callV hC 1 xc_0 (c_X4_many h2) h3 xm_542 xm_543 xm_544 xm_1 xm_545 ⟨rfl, xd_X4_many⟩ rfl ⟨Nat.le_of_ble_eq_true rfl, Nat.le_of_ble_eq_true rfl⟩ rfl (Nat.le_of_ble_eq_true rfl) dL_isBack_116 ⟨(Nat.le_of_ble_eq_true rfl), (Nat.le_of_ble_eq_true rfl)⟩) ?_
      refine xk_istore (i := 7) (lv' := [(7, .int (q2.1)), (0, va_rf (x0)), (1, .int (x1)), (2, .int (x2)), (3, va_rf (x3)), (4, va_rf (x4)), (5, va_rf (x5)), (6, .int (x6))]) hC dL_isBack_119 (by decide) rfl ?_
      refine xk_aload_n hC dL_isBack_121 1 rfl rfl ?_
      refine xk_iconst (v := (3 : Int32)) hC dL_isBack_122 (by decide) ?_
      obtain ⟨u5, h5, hf⟩ := xk_bi hf
      obtain ⟨q4, h4, hf⟩ := xk_bi hf
      refine xk_backi (xk_callV hC 1 xc_0 (c_X4_many h4) h5 xm_542 xm_543 xm_544 xm_1 xm_545 ⟨rfl, xd_X4_many⟩ rfl ⟨Nat.le_of_ble_eq_true rfl, Nat.le_of_ble_eq_true rfl⟩ rfl (Nat.le_of_ble_eq_true rfl) dL_isBack_123 ⟨(Nat.le_of_ble_eq_true rfl), (Nat.le_of_ble_eq_true rfl)⟩) ?_
      refine xk_istore (i := 8) (lv' := [(8, .int (q4.1)), (7, .int (q2.1)), (0, va_rf (x0)), (1, .int (x1)), (2, .int (x2)), (3, va_rf (x3)), (4, va_rf (x4)), (5, va_rf (x5)), (6, .int (x6))]) hC dL_isBack_126 (by decide) rfl ?_
      refine xk_aload_n hC dL_isBack_128 2 rfl rfl ?_
      refine xk_iconst (v := (4 : Int32)) hC dL_isBack_129 (by decide) ?_
      obtain ⟨u7, h7, hf⟩ := xk_bi hf
      obtain ⟨q6, h6, hf⟩ := xk_bi hf
      refine xk_backi (xk_callV hC 1 xc_0 (c_X4_many h6) h7 xm_542 xm_543 xm_544 xm_1 xm_545 ⟨rfl, xd_X4_many⟩ rfl ⟨Nat.le_of_ble_eq_true rfl, Nat.le_of_ble_eq_true rfl⟩ rfl (Nat.le_of_ble_eq_true rfl) dL_isBack_130 ⟨(Nat.le_of_ble_eq_true rfl), (Nat.le_of_ble_eq_true rfl)⟩) ?_
      refine xk_istore (i := 9) (lv' := [(9, .int (q6.1)), (8, .int (q4.1)), (7, .int (q2.1)), (0, va_rf (x0)), (1, .int (x1)), (2, .int (x2)), (3, va_rf (x3)), (4, va_rf (x4)), (5, va_rf (x5)), (6, .int (x6))]) hC dL_isBack_133 (by decide) rfl ?_
      refine xk_aload_n hC dL_isBack_135 3 rfl rfl ?_
      refine xk_bipush (v := (8 : Int32)) hC dL_isBack_136 (by decide) ?_
      obtain ⟨u9, h9, hf⟩ := xk_bi hf
      obtain ⟨q8, h8, hf⟩ := xk_bi hf
      refine xk_backi (xk_callV hC 1 xc_0 (c_X4_many h8) h9 xm_542 xm_543 xm_544 xm_1 xm_545 ⟨rfl, xd_X4_many⟩ rfl ⟨Nat.le_of_ble_eq_true rfl, Nat.le_of_ble_eq_true rfl⟩ rfl (Nat.le_of_ble_eq_true rfl) dL_isBack_138 ⟨(Nat.le_of_ble_eq_true rfl), (Nat.le_of_ble_eq_true rfl)⟩) ?_
      refine xk_istore (i := 10) (lv' := [(10, .int (q8.1)), (9, .int (q6.1)), (8, .int (q4.1)), (7, .int (q2.1)), (0, va_rf (x0)), (1, .int (x1)), (2, .int (x2)), (3, va_rf (x3)), (4, va_rf (x4)), (5, va_rf (x5)), (6, .int (x6))]) hC dL_isBack_141 (by decide) rfl ?_
      refine xk_aload_n hC dL_isBack_143 4 rfl rfl ?_
      refine xk_iload_n hC dL_isBack_144 5 rfl rfl ?_
      refine xk_iload_n hC dL_isBack_145 6 rfl rfl ?_
      obtain ⟨u11, h11, hf⟩ := xk_bi hf
      obtain ⟨q10, h10, hf⟩ := xk_bi hf
      refine xk_backi (xk_callV hC 2 xc_0 (c_X4_wouldMeet h10) h11 xm_645 xm_646 xm_647 xm_1 xm_648 ⟨rfl, xd_X4_wouldMeet⟩ rfl ⟨Nat.le_of_ble_eq_true rfl, Nat.le_of_ble_eq_true rfl⟩ rfl (Nat.le_of_ble_eq_true rfl) dL_isBack_146 ⟨(Nat.le_of_ble_eq_true rfl), (Nat.le_of_ble_eq_true rfl)⟩) ?_
      refine xk_istore (i := 11) (lv' := [(11, .int (q10.1)), (10, .int (q8.1)), (9, .int (q6.1)), (8, .int (q4.1)), (7, .int (q2.1)), (0, va_rf (x0)), (1, .int (x1)), (2, .int (x2)), (3, va_rf (x3)), (4, va_rf (x4)), (5, va_rf (x5)), (6, .int (x6))]) hC dL_isBack_149 (by decide) rfl ?_
      refine xk_aload_n hC dL_isBack_151 5 rfl rfl ?_
      refine xk_iload_n hC dL_isBack_152 6 rfl rfl ?_
      refine xk_iload_n hC dL_isBack_153 7 rfl rfl ?_
      obtain ⟨u13, h13, hf⟩ := xk_bi hf
      obtain ⟨q12, h12, hf⟩ := xk_bi hf
      refine xk_backi (xk_callV hC 2 xc_0 (c_X4_change h12) h13 xm_746 xm_747 xm_748 xm_1 xm_749 ⟨rfl, xd_X4_change⟩ rfl ⟨Nat.le_of_ble_eq_true rfl, Nat.le_of_ble_eq_true rfl⟩ rfl (Nat.le_of_ble_eq_true rfl) dL_isBack_154 ⟨(Nat.le_of_ble_eq_true rfl), (Nat.le_of_ble_eq_true rfl)⟩) ?_
      refine xk_iload hC dL_isBack_157 11 rfl ?_
      refine xk_icmp_ne (tgt := 196) hC dL_isBack_159 (by decide) (fun c14 => ?_) (fun c14 => ?_)
      · replace hf := (if_neg c14).symm.trans hf
        refine xk_locals [] rfl ?_
        exact t_L_isBack_196 hC hr (q12.2) hf
      · replace hf := (if_pos c14).symm.trans hf
        refine xk_aload_n hC dL_isBack_162 5 rfl rfl ?_
        refine xk_iconst (v := (4 : Int32)) hC dL_isBack_163 (by decide) ?_
        obtain ⟨u16, h16, hf⟩ := xk_bi hf
        obtain ⟨q15, h15, hf⟩ := xk_bi hf
        refine xk_backi (xk_callV hC 1 xc_0 (c_X4_many h15) h16 xm_542 xm_543 xm_544 xm_1 xm_545 ⟨rfl, xd_X4_many⟩ rfl ⟨Nat.le_of_ble_eq_true rfl, Nat.le_of_ble_eq_true rfl⟩ rfl (Nat.le_of_ble_eq_true rfl) dL_isBack_164 ⟨(Nat.le_of_ble_eq_true rfl), (Nat.le_of_ble_eq_true rfl)⟩) ?_
        refine xk_iload hC dL_isBack_167 0 rfl ?_
        refine xk_icmp_ne (tgt := 196) hC dL_isBack_169 (by decide) (fun c17 => ?_) (fun c17 => ?_)
        · replace hf := (if_neg c17).symm.trans hf
          refine xk_locals [] rfl ?_
          exact t_L_isBack_196 hC hr (q15.2) hf
        · replace hf := (if_pos c17).symm.trans hf
          refine xk_aload_n hC dL_isBack_172 5 rfl rfl ?_
          refine xk_iconst (v := (0 : Int32)) hC dL_isBack_173 (by decide) ?_
          obtain ⟨u19, h19, hf⟩ := xk_bi hf
          obtain ⟨q18, h18, hf⟩ := xk_bi hf
          refine xk_backi (xk_callV hC 1 xc_0 (c_X4_many h18) h19 xm_542 xm_543 xm_544 xm_1 xm_545 ⟨rfl, xd_X4_many⟩ rfl ⟨Nat.le_of_ble_eq_true rfl, Nat.le_of_ble_eq_true rfl⟩ rfl (Nat.le_of_ble_eq_true rfl) dL_isBack_174 ⟨(Nat.le_of_ble_eq_true rfl), (Nat.le_of_ble_eq_true rfl)⟩) ?_
          refine xk_iload hC dL_isBack_177 4 rfl ?_
          refine xk_iload_n hC dL_isBack_179 7 rfl rfl ?_
          refine xk_iadd hC dL_isBack_180 ?_
          refine xk_icmp_ne (tgt := 196) hC dL_isBack_181 (by decide) (fun c20 => ?_) (fun c20 => ?_)
          · replace hf := (if_neg c20).symm.trans hf
            refine xk_locals [] rfl ?_
            exact t_L_isBack_196 hC hr (q18.2) hf
          · replace hf := (if_pos c20).symm.trans hf
            refine xk_aload_n hC dL_isBack_184 5 rfl rfl ?_
            refine xk_iload_n hC dL_isBack_185 6 rfl rfl ?_
            refine xk_iload_n hC dL_isBack_186 7 rfl rfl ?_
            refine xk_ineg hC dL_isBack_187 ?_
            obtain ⟨u22, h22, hf⟩ := xk_bi hf
            obtain ⟨q21, h21, hf⟩ := xk_bi hf
            refine xk_backi (xk_callV hC 2 xc_0 (c_X4_wouldMeet h21) h22 xm_645 xm_646 xm_647 xm_1 xm_648 ⟨rfl, xd_X4_wouldMeet⟩ rfl ⟨Nat.le_of_ble_eq_true rfl, Nat.le_of_ble_eq_true rfl⟩ rfl (Nat.le_of_ble_eq_true rfl) dL_isBack_188 ⟨(Nat.le_of_ble_eq_true rfl), (Nat.le_of_ble_eq_true rfl)⟩) ?_
            refine xk_iload hC dL_isBack_191 2 rfl ?_
            refine xk_icmp_eq (tgt := 198) hC dL_isBack_193 (by decide) (fun c23 => ?_) (fun c23 => ?_)
            · replace hf := (if_pos c23).symm.trans hf
              refine xk_aload_n hC dL_isBack_198 5 rfl rfl ?_
              refine xk_iload_n hC dL_isBack_199 6 rfl rfl ?_
              refine xk_iload_n hC dL_isBack_200 7 rfl rfl ?_
              refine xk_ineg hC dL_isBack_201 ?_
              obtain ⟨u25, h25, hf⟩ := xk_bi hf
              obtain ⟨q24, h24, hf⟩ := xk_bi hf
              refine xk_backi (xk_callV hC 2 xc_0 (c_X4_change h24) h25 xm_746 xm_747 xm_748 xm_1 xm_749 ⟨rfl, xd_X4_change⟩ rfl ⟨Nat.le_of_ble_eq_true rfl, Nat.le_of_ble_eq_true rfl⟩ rfl (Nat.le_of_ble_eq_true rfl) dL_isBack_202 ⟨(Nat.le_of_ble_eq_true rfl), (Nat.le_of_ble_eq_true rfl)⟩) ?_
              refine xk_iload hC dL_isBack_205 11 rfl ?_
              refine xk_icmp_ne (tgt := 251) hC dL_isBack_207 (by decide) (fun c26 => ?_) (fun c26 => ?_)
              · replace hf := (if_neg c26).symm.trans hf
                refine xk_locals [] rfl ?_
                exact t_L_isBack_251 hC hr (q24.2) hf
              · replace hf := (if_pos c26).symm.trans hf
                refine xk_aload_n hC dL_isBack_210 5 rfl rfl ?_
                refine xk_iconst (v := (0 : Int32)) hC dL_isBack_211 (by decide) ?_
                obtain ⟨u28, h28, hf⟩ := xk_bi hf
                obtain ⟨q27, h27, hf⟩ := xk_bi hf
                refine xk_backi (xk_callV hC 1 xc_0 (c_X4_many h27) h28 xm_542 xm_543 xm_544 xm_1 xm_545 ⟨rfl, xd_X4_many⟩ rfl ⟨Nat.le_of_ble_eq_true rfl, Nat.le_of_ble_eq_true rfl⟩ rfl (Nat.le_of_ble_eq_true rfl) dL_isBack_212 ⟨(Nat.le_of_ble_eq_true rfl), (Nat.le_of_ble_eq_true rfl)⟩) ?_
                refine xk_iload hC dL_isBack_215 4 rfl ?_
                refine xk_icmp_ne (tgt := 251) hC dL_isBack_217 (by decide) (fun c29 => ?_) (fun c29 => ?_)
                · replace hf := (if_neg c29).symm.trans hf
                  refine xk_locals [] rfl ?_
                  exact t_L_isBack_251 hC hr (q27.2) hf
                · replace hf := (if_pos c29).symm.trans hf
                  refine xk_aload_n hC dL_isBack_220 5 rfl rfl ?_
                  refine xk_iconst (v := (3 : Int32)) hC dL_isBack_221 (by decide) ?_
                  obtain ⟨u31, h31, hf⟩ := xk_bi hf
                  obtain ⟨q30, h30, hf⟩ := xk_bi hf
                  refine xk_backi (xk_callV hC 1 xc_0 (c_X4_many h30) h31 xm_542 xm_543 xm_544 xm_1 xm_545 ⟨rfl, xd_X4_many⟩ rfl ⟨Nat.le_of_ble_eq_true rfl, Nat.le_of_ble_eq_true rfl⟩ rfl (Nat.le_of_ble_eq_true rfl) dL_isBack_222 ⟨(Nat.le_of_ble_eq_true rfl), (Nat.le_of_ble_eq_true rfl)⟩) ?_
                  refine xk_iload hC dL_isBack_225 3 rfl ?_
                  refine xk_icmp_ne (tgt := 251) hC dL_isBack_227 (by decide) (fun c32 => ?_) (fun c32 => ?_)
                  · replace hf := (if_neg c32).symm.trans hf
                    refine xk_locals [] rfl ?_
                    exact t_L_isBack_251 hC hr (q30.2) hf
                  · replace hf := (if_pos c32).symm.trans hf
                    refine xk_aload_n hC dL_isBack_230 5 rfl rfl ?_
                    refine xk_iconst (v := (4 : Int32)) hC dL_isBack_231 (by decide) ?_
                    obtain ⟨u34, h34, hf⟩ := xk_bi hf
                    obtain ⟨q33, h33, hf⟩ := xk_bi hf
                    refine xk_backi (xk_callV hC 1 xc_0 (c_X4_many h33) h34 xm_542 xm_543 xm_544 xm_1 xm_545 ⟨rfl, xd_X4_many⟩ rfl ⟨Nat.le_of_ble_eq_true rfl, Nat.le_of_ble_eq_true rfl⟩ rfl (Nat.le_of_ble_eq_true rfl) dL_isBack_232 ⟨(Nat.le_of_ble_eq_true rfl), (Nat.le_of_ble_eq_true rfl)⟩) ?_
                    refine xk_iload hC dL_isBack_235 2 rfl ?_
                    refine xk_icmp_ne (tgt := 251) hC dL_isBack_237 (by decide) (fun c35 => ?_) (fun c35 => ?_)
                    · replace hf := (if_neg c35).symm.trans hf
                      refine xk_locals [] rfl ?_
                      exact t_L_isBack_251 hC hr (q33.2) hf
                    · replace hf := (if_pos c35).symm.trans hf
                      refine xk_aload_n hC dL_isBack_240 5 rfl rfl ?_
                      refine xk_bipush (v := (8 : Int32)) hC dL_isBack_241 (by decide) ?_
                      obtain ⟨u37, h37, hf⟩ := xk_bi hf
                      obtain ⟨q36, h36, hf⟩ := xk_bi hf
                      refine xk_backi (xk_callV hC 1 xc_0 (c_X4_many h36) h37 xm_542 xm_543 xm_544 xm_1 xm_545 ⟨rfl, xd_X4_many⟩ rfl ⟨Nat.le_of_ble_eq_true rfl, Nat.le_of_ble_eq_true rfl⟩ rfl (Nat.le_of_ble_eq_true rfl) dL_isBack_243 ⟨(Nat.le_of_ble_eq_true rfl), (Nat.le_of_ble_eq_true rfl)⟩) ?_
                      refine xk_iload hC dL_isBack_246 1 rfl ?_
                      refine xk_icmp_eq (tgt := 253) hC dL_isBack_248 (by decide) (fun c38 => ?_) (fun c38 => ?_)
                      · replace hf := (if_pos c38).symm.trans hf
                        refine xk_iconst (v := (0 : Int32)) hC dL_isBack_253 (by decide) ?_
                        refine xk_istore (i := 12) (lv' := [(12, .int ((0 : Int32))), (11, .int (q10.1)), (10, .int (q8.1)), (9, .int (q6.1)), (8, .int (q4.1)), (7, .int (q2.1)), (0, va_rf (x0)), (1, .int (x1)), (2, .int (x2)), (3, va_rf (x3)), (4, va_rf (x4)), (5, va_rf (x5)), (6, .int (x6))]) hC dL_isBack_254 (by decide) rfl ?_
                        refine xk_locals [6, 9, 10, 11, 0] rfl ?_
                        exact t_L_isBack_256 hC hr 4096 x0 x3 x4 x5 ((0 : Int32)) (q36.2) hf
                      · replace hf := (if_neg c38).symm.trans hf
                        refine xk_locals [] rfl ?_
                        exact t_L_isBack_251 hC hr (q36.2) hf
            · replace hf := (if_neg c23).symm.trans hf
              refine xk_locals [] rfl ?_
              exact t_L_isBack_196 hC hr (q21.2) hf
    · replace hf := (if_neg c1).symm.trans hf
      refine xk_aload hC dL_isBack_96 5 rfl ?_
      refine xk_iload hC dL_isBack_98 7 rfl ?_
      refine xk_aload_n hC dL_isBack_100 0 rfl rfl ?_
      refine xk_iload hC dL_isBack_101 7 rfl ?_
      refine xk_iconst (v := (0 : Int32)) hC dL_isBack_103 (by decide) ?_
      obtain ⟨u40, h40, hf⟩ := xk_bi hf
      obtain ⟨q39, h39, hf⟩ := xk_bi hf
      refine xk_backi (xk_callV hC 2 xc_0 (c_X4_ofHit h39) h40 xm_745 xm_676 xm_677 xm_1 xm_678 ⟨rfl, xd_X4_ofHit⟩ rfl ⟨Nat.le_of_ble_eq_true rfl, Nat.le_of_ble_eq_true rfl⟩ rfl (by simp [xk_cat1, xk_cati, xk_catl, xk_catd]) dL_isBack_104 ⟨(Nat.le_of_ble_eq_true rfl), (Nat.le_of_ble_eq_true rfl)⟩) ?_
      obtain ⟨w41, h41, hf⟩ := xk_bi hf
      refine xk_iast hC rfl dL_isBack_107 h41 ?_
      refine xk_iinc (v := x7 + (1 : Int32)) (lv' := [(7, .int (x7 + (1 : Int32))), (0, va_rf (x0)), (1, .int (x1)), (2, .int (x2)), (3, va_rf (x3)), (4, va_rf (x4)), (5, va_rf (x5)), (6, .int (x6))]) hC dL_isBack_108 7 rfl rfl (by decide) rfl ?_
      refine xk_goto (tgt := 89) hC dL_isBack_111 (by decide) ?_
      refine xk_locals [1, 2, 3, 4, 5, 6, 7, 0] rfl ?_
      exact ih x0 x1 x2 x3 x4 x5 x6 (x7 + (1 : Int32)) w41 hf
def f_L_isBack_21 : Nat → Option Nat → Int32 → Int32 → Option Nat → Option Nat → Option Nat → Int32 → Int32 → xWd → Option (Int32 × xWd)
  | 0, _, _, _, _, _, _, _, _, _ => none
  | n + 1, x0, x1, x2, x3, x4, x5, x6, x7, w => if ((4 : Int32)) ≤ (x7) then f_L_isBack_89 4096 x0 x1 x2 x3 x4 x5 x6 ((0 : Int32)) w else (xk_is w (x0) 0).bind (fun u3 => (f_X4_ofCue (x0) (x7) ((0 : Int32)) w).bind (fun q2 => (xk_sI 0 q2.2 (x3) (x7) (q2.1)).bind (fun w4 => (xk_is w4 (x0) 0).bind (fun u6 => (f_X4_ofCue (x0) (x7) ((5 : Int32)) w4).bind (fun q5 => (xk_sI 0 q5.2 (x4) (x7) (q5.1)).bind (fun w7 => (xk_lI 0 w7 (x3) (x7)).bind (fun v8 => if (x1) ≤ (v8) then f_L_isBack_76 (f_L_isBack_21 n) x0 x1 x2 x3 x4 x5 x7 x6 w7 else (xk_is w7 (x0) 0).bind (fun u11 => (f_X4_ofCue (x0) (x7) ((8 : Int32)) w7).bind (fun q10 => if (q10.1) ≤ (x1) then f_L_isBack_76 (f_L_isBack_21 n) x0 x1 x2 x3 x4 x5 x7 x6 (q10.2) else f_L_isBack_77 (f_L_isBack_21 n) x0 x1 x2 x3 x4 x5 x7 ((1 : Int32)) x6 (q10.2))))))))))
set_option maxHeartbeats 4000000 in
set_option maxRecDepth 100000 in
theorem t_L_isBack_21 {p : Program} {l : Launch} {e : Env} {s : State} {m : MethodId} {args : Array Value} {below : List Frame} {meth : Method} {c : Code} {E : xEv} (hC : xk_C p s m args meth c E method_5_code "ClickbookLaw" 13) (hr : meth.sig.returnType = (some .boolean)) {q : (Int32 × xWd)} : ∀ (n : Nat) (x0 : Option Nat) (x1 : Int32) (x2 : Int32) (x3 : Option Nat) (x4 : Option Nat) (x5 : Option Nat) (x6 : Int32) (x7 : Int32) (w : xWd), f_L_isBack_21 n x0 x1 x2 x3 x4 x5 x6 x7 w = some q → xk_X p l e { frames := 8, cells := 3, slots := 192, locals := 175 } s m args below meth c (MQ below (xk_Qi E q) args s 3 192 (xk_A E.2.2.1)) E 13 3 192 21 [(0, va_rf (x0)), (1, .int (x1)), (2, .int (x2)), (3, va_rf (x3)), (4, va_rf (x4)), (5, va_rf (x5)), (6, .int (x6)), (7, .int (x7))] [] w := by
  intro n
  induction n with
  | zero => intro x0 x1 x2 x3 x4 x5 x6 x7 w hf; have hf : none = some q := hf; cases hf
  | succ n ih =>
    intro x0 x1 x2 x3 x4 x5 x6 x7 w hf
    refine xk_iload hC dL_isBack_21 7 rfl ?_
    refine xk_iconst (v := (4 : Int32)) hC dL_isBack_23 (by decide) ?_
    refine xk_icmp_ge (tgt := 86) hC dL_isBack_24 (by decide) (fun c1 => ?_) (fun c1 => ?_)
    · replace hf := (if_pos c1).symm.trans hf
      refine xk_iconst (v := (0 : Int32)) hC dL_isBack_86 (by decide) ?_
      refine xk_istore (i := 7) (lv' := [(7, .int ((0 : Int32))), (0, va_rf (x0)), (1, .int (x1)), (2, .int (x2)), (3, va_rf (x3)), (4, va_rf (x4)), (5, va_rf (x5)), (6, .int (x6))]) hC dL_isBack_87 (by decide) rfl ?_
      refine xk_locals [1, 2, 3, 4, 5, 6, 7, 0] rfl ?_
      exact t_L_isBack_89 hC hr 4096 x0 x1 x2 x3 x4 x5 x6 ((0 : Int32)) w hf
    · replace hf := (if_neg c1).symm.trans hf
      refine xk_aload_n hC dL_isBack_27 3 rfl rfl ?_
      refine xk_iload hC dL_isBack_28 7 rfl ?_
      refine xk_aload_n hC dL_isBack_30 0 rfl rfl ?_
      refine xk_iload hC dL_isBack_31 7 rfl ?_
      refine xk_iconst (v := (0 : Int32)) hC dL_isBack_33 (by decide) ?_
      obtain ⟨u3, h3, hf⟩ := xk_bi hf
      obtain ⟨q2, h2, hf⟩ := xk_bi hf
      refine xk_backi (xk_callV hC 2 xc_0 (c_X4_ofCue h2) h3 xm_503 xm_504 xm_505 xm_1 xm_506 ⟨rfl, xd_X4_ofCue⟩ rfl ⟨Nat.le_of_ble_eq_true rfl, Nat.le_of_ble_eq_true rfl⟩ rfl (by simp [xk_cat1, xk_cati, xk_catl, xk_catd]) dL_isBack_34 ⟨(Nat.le_of_ble_eq_true rfl), (Nat.le_of_ble_eq_true rfl)⟩) ?_
      obtain ⟨w4, h4, hf⟩ := xk_bi hf
      refine xk_iast hC rfl dL_isBack_37 h4 ?_
      refine xk_aload hC dL_isBack_38 4 rfl ?_
      refine xk_iload hC dL_isBack_40 7 rfl ?_
      refine xk_aload_n hC dL_isBack_42 0 rfl rfl ?_
      refine xk_iload hC dL_isBack_43 7 rfl ?_
      refine xk_iconst (v := (5 : Int32)) hC dL_isBack_45 (by decide) ?_
      obtain ⟨u6, h6, hf⟩ := xk_bi hf
      obtain ⟨q5, h5, hf⟩ := xk_bi hf
      refine xk_backi (xk_callV hC 2 xc_0 (c_X4_ofCue h5) h6 xm_503 xm_504 xm_505 xm_1 xm_506 ⟨rfl, xd_X4_ofCue⟩ rfl ⟨Nat.le_of_ble_eq_true rfl, Nat.le_of_ble_eq_true rfl⟩ rfl (by simp [xk_cat1, xk_cati, xk_catl, xk_catd]) dL_isBack_46 ⟨(Nat.le_of_ble_eq_true rfl), (Nat.le_of_ble_eq_true rfl)⟩) ?_
      obtain ⟨w7, h7, hf⟩ := xk_bi hf
      refine xk_iast hC rfl dL_isBack_49 h7 ?_
      refine xk_iload hC dL_isBack_50 6 rfl ?_
      refine xk_iload_n hC dL_isBack_52 1 rfl rfl ?_
      refine xk_aload_n hC dL_isBack_53 3 rfl rfl ?_
      refine xk_iload hC dL_isBack_54 7 rfl ?_
      obtain ⟨v8, h8, hf⟩ := xk_bi hf
      refine xk_iald hC rfl dL_isBack_56 h8 ?_
      refine xk_icmp_le (tgt := 76) hC dL_isBack_57 (by decide) (fun c9 => ?_) (fun c9 => ?_)
      · replace hf := (if_pos c9).symm.trans hf
        refine xk_locals [0, 1, 2, 3, 4, 5, 7] rfl ?_
        exact t_L_isBack_76 hC hr (fun x0 x1 x2 x3 x4 x5 x6 x7 w hf => ih x0 x1 x2 x3 x4 x5 x6 x7 w hf) x0 x1 x2 x3 x4 x5 x7 x6 w7 hf
      · replace hf := (if_neg c9).symm.trans hf
        refine xk_iload_n hC dL_isBack_60 1 rfl rfl ?_
        refine xk_aload_n hC dL_isBack_61 0 rfl rfl ?_
        refine xk_iload hC dL_isBack_62 7 rfl ?_
        refine xk_bipush (v := (8 : Int32)) hC dL_isBack_64 (by decide) ?_
        obtain ⟨u11, h11, hf⟩ := xk_bi hf
        obtain ⟨q10, h10, hf⟩ := xk_bi hf
        refine xk_backi (xk_callV hC 2 xc_0 (c_X4_ofCue h10) h11 xm_503 xm_504 xm_505 xm_1 xm_506 ⟨rfl, xd_X4_ofCue⟩ rfl ⟨Nat.le_of_ble_eq_true rfl, Nat.le_of_ble_eq_true rfl⟩ rfl (Nat.le_of_ble_eq_true rfl) dL_isBack_66 ⟨(Nat.le_of_ble_eq_true rfl), (Nat.le_of_ble_eq_true rfl)⟩) ?_
        refine xk_icmp_ge (tgt := 76) hC dL_isBack_69 (by decide) (fun c12 => ?_) (fun c12 => ?_)
        · replace hf := (if_pos c12).symm.trans hf
          refine xk_locals [0, 1, 2, 3, 4, 5, 7] rfl ?_
          exact t_L_isBack_76 hC hr (fun x0 x1 x2 x3 x4 x5 x6 x7 w hf => ih x0 x1 x2 x3 x4 x5 x6 x7 w hf) x0 x1 x2 x3 x4 x5 x7 x6 (q10.2) hf
        · replace hf := (if_neg c12).symm.trans hf
          refine xk_iconst (v := (1 : Int32)) hC dL_isBack_72 (by decide) ?_
          refine xk_goto (tgt := 77) hC dL_isBack_73 (by decide) ?_
          refine xk_locals [0, 1, 2, 3, 4, 5, 7] rfl ?_
          exact t_L_isBack_77 hC hr (fun x0 x1 x2 x3 x4 x5 x6 x7 w hf => ih x0 x1 x2 x3 x4 x5 x6 x7 w hf) x0 x1 x2 x3 x4 x5 x7 ((1 : Int32)) x6 (q10.2) hf
def f_L_isBack (x0 : Option Nat) (x1 : Int32) (x2 : Int32) (w : xWd) : Option (Int32 × xWd) := (xk_nA w 0 xk_d0 ((4 : Int32)) 64).bind (fun w1 => (xk_nA w1 0 xk_d0 ((4 : Int32)) 64).bind (fun w2 => (xk_nA w2 0 xk_d0 ((8 : Int32)) 64).bind (fun w3 => f_L_isBack_21 4096 x0 x1 x2 (some w.2.1) (some w1.2.1) (some w2.2.1) ((0 : Int32)) ((0 : Int32)) w3)))
set_option maxHeartbeats 4000000 in
set_option maxRecDepth 100000 in
theorem t_L_isBack_0 {p : Program} {l : Launch} {e : Env} {s : State} {m : MethodId} {args : Array Value} {below : List Frame} {meth : Method} {c : Code} {E : xEv} (hC : xk_C p s m args meth c E method_5_code "ClickbookLaw" 13) (hr : meth.sig.returnType = (some .boolean)) {q : (Int32 × xWd)} (x0 : Option Nat) (x1 : Int32) (x2 : Int32) (w : xWd) (hf : f_L_isBack x0 x1 x2 w = some q) : xk_X p l e { frames := 8, cells := 3, slots := 192, locals := 175 } s m args below meth c (MQ below (xk_Qi E q) args s 3 192 (xk_A E.2.2.1)) E 13 0 0 0 [(0, va_rf (x0)), (1, .int (x1)), (2, .int (x2))] [] w := by
  refine xk_iconst (v := (4 : Int32)) hC dL_isBack_0 (by decide) ?_
  obtain ⟨w1, h1, hf⟩ := xk_bi hf
  refine xk_newarr (cap := 64) (atype := .int) (ty := .int) hC rfl xm_73 rfl (fun _ _ => rfl) (Nat.le_of_ble_eq_true rfl) (Nat.le_of_ble_eq_true rfl) (Nat.le_of_ble_eq_true rfl) dL_isBack_1 h1 ?_
  refine xk_astore_n (i := 3) (lv' := [(3, va_rf (some w.2.1)), (0, va_rf (x0)), (1, .int (x1)), (2, .int (x2))]) hC dL_isBack_3 rfl (by decide) rfl ?_
  refine xk_iconst (v := (4 : Int32)) hC dL_isBack_4 (by decide) ?_
  obtain ⟨w2, h2, hf⟩ := xk_bi hf
  refine xk_newarr (cap := 64) (atype := .int) (ty := .int) hC rfl xm_73 rfl (fun _ _ => rfl) (Nat.le_of_ble_eq_true rfl) (Nat.le_of_ble_eq_true rfl) (Nat.le_of_ble_eq_true rfl) dL_isBack_5 h2 ?_
  refine xk_astore (i := 4) (lv' := [(4, va_rf (some w1.2.1)), (3, va_rf (some w.2.1)), (0, va_rf (x0)), (1, .int (x1)), (2, .int (x2))]) hC dL_isBack_7 (by decide) rfl ?_
  refine xk_bipush (v := (8 : Int32)) hC dL_isBack_9 (by decide) ?_
  obtain ⟨w3, h3, hf⟩ := xk_bi hf
  refine xk_newarr (cap := 64) (atype := .int) (ty := .int) hC rfl xm_73 rfl (fun _ _ => rfl) (Nat.le_of_ble_eq_true rfl) (Nat.le_of_ble_eq_true rfl) (Nat.le_of_ble_eq_true rfl) dL_isBack_11 h3 ?_
  refine xk_astore (i := 5) (lv' := [(5, va_rf (some w2.2.1)), (4, va_rf (some w1.2.1)), (3, va_rf (some w.2.1)), (0, va_rf (x0)), (1, .int (x1)), (2, .int (x2))]) hC dL_isBack_13 (by decide) rfl ?_
  refine xk_iconst (v := (0 : Int32)) hC dL_isBack_15 (by decide) ?_
  refine xk_istore (i := 6) (lv' := [(6, .int ((0 : Int32))), (5, va_rf (some w2.2.1)), (4, va_rf (some w1.2.1)), (3, va_rf (some w.2.1)), (0, va_rf (x0)), (1, .int (x1)), (2, .int (x2))]) hC dL_isBack_16 (by decide) rfl ?_
  refine xk_iconst (v := (0 : Int32)) hC dL_isBack_18 (by decide) ?_
  refine xk_istore (i := 7) (lv' := [(7, .int ((0 : Int32))), (6, .int ((0 : Int32))), (5, va_rf (some w2.2.1)), (4, va_rf (some w1.2.1)), (3, va_rf (some w.2.1)), (0, va_rf (x0)), (1, .int (x1)), (2, .int (x2))]) hC dL_isBack_19 (by decide) rfl ?_
  refine xk_locals [5, 6, 7, 4, 3, 2, 1, 0] rfl ?_
  exact t_L_isBack_21 hC hr 4096 x0 x1 x2 (some w.2.1) (some w1.2.1) (some w2.2.1) ((0 : Int32)) ((0 : Int32)) w3 hf
theorem xd_L_isBack : xy_L_isBack.cls ≠ "java/lang/invoke/MethodHandle" ∧ xy_L_isBack.cls ≠ "java/lang/invoke/VarHandle" ∧ (parseMethodDescriptor xy_L_isBack.desc).map (fun d => d.parameters.length) = some 3 := ⟨by decide +kernel, by decide +kernel, by decide +kernel⟩
theorem c_L_isBack {l : Launch} {E : xEv} {x0 : Option Nat} {x1 : Int32} {x2 : Int32} {w : xWd} {q : (Int32 × xWd)} (hf : f_L_isBack x0 x1 x2 w = some q) : xk_M l xy_L_isBack method_5_code 13 (some .boolean) 8 175 3 192 E [va_rf (x0), .int (x1), .int (x2)] w (xk_Qi E q) := by
  refine xk_enter (by decide +kernel) (by simp [lg_sl, xk_cat1, xk_cati, xk_catl, xk_catd]) ?_
  intro p e s m args below meth c hC hr hin ha
  rw [show lv_args 0 [va_rf (x0), .int (x1), .int (x2)] = [(0, va_rf (x0)), (1, .int (x1)), (2, .int (x2))] by simp [lv_args, xk_cat1, xk_cati, xk_catl, xk_catd]]
  exact t_L_isBack_0 hC hr x0 x1 x2 w hf
def f_L_areWell_148 (w : xWd) : Option (Int32 × xWd) := some ((0 : Int32), w)
set_option maxHeartbeats 4000000 in
set_option maxRecDepth 100000 in
theorem t_L_areWell_148 {p : Program} {l : Launch} {e : Env} {s : State} {m : MethodId} {args : Array Value} {below : List Frame} {meth : Method} {c : Code} {E : xEv} (hC : xk_C p s m args meth c E method_6_code "ClickbookLaw" 8) (hr : meth.sig.returnType = (some .boolean)) {q : (Int32 × xWd)} (w : xWd) (hf : f_L_areWell_148 w = some q) : xk_X p l e { frames := 8, cells := 0, slots := 0, locals := 175 } s m args below meth c (MQ below (xk_Qi E q) args s 0 0 (xk_A E.2.2.1)) E 8 0 0 148 [] [] w := by
  refine xk_iconst (v := (0 : Int32)) hC dL_areWell_148 (by decide) ?_
  cases hf
  refine xk_widen (k := 0) (n := 0) (Nat.le_of_ble_eq_true rfl) (Nat.le_of_ble_eq_true rfl) ?_
  exact xk_iret hC hr rfl dL_areWell_149
def f_L_areWell_182 (k6 : Option Nat → Int32 → Int32 → Int32 → xWd → Option (Int32 × xWd)) (x0 : Option Nat) (x1 : Int32) (x3 : Int32) (s0 : Int32) (s1 : Int32) (w : xWd) : Option (Int32 × xWd) := k6 x0 x1 ((s1) + (s0)) (x3 + (1 : Int32)) w
set_option maxHeartbeats 4000000 in
set_option maxRecDepth 100000 in
theorem t_L_areWell_182 {p : Program} {l : Launch} {e : Env} {s : State} {m : MethodId} {args : Array Value} {below : List Frame} {meth : Method} {c : Code} {E : xEv} (hC : xk_C p s m args meth c E method_6_code "ClickbookLaw" 8) (hr : meth.sig.returnType = (some .boolean)) {q : (Int32 × xWd)} {k6 : Option Nat → Int32 → Int32 → Int32 → xWd → Option (Int32 × xWd)} (hk6 : ∀ (x0 : Option Nat) (x1 : Int32) (x2 : Int32) (x3 : Int32) (w : xWd), k6 x0 x1 x2 x3 w = some q → xk_X p l e { frames := 8, cells := 0, slots := 0, locals := 175 } s m args below meth c (MQ below (xk_Qi E q) args s 0 0 (xk_A E.2.2.1)) E 8 0 0 6 [(0, va_rf (x0)), (1, .int (x1)), (2, .int (x2)), (3, .int (x3))] [] w) (x0 : Option Nat) (x1 : Int32) (x3 : Int32) (s0 : Int32) (s1 : Int32) (w : xWd) (hf : f_L_areWell_182 k6 x0 x1 x3 s0 s1 w = some q) : xk_X p l e { frames := 8, cells := 0, slots := 0, locals := 175 } s m args below meth c (MQ below (xk_Qi E q) args s 0 0 (xk_A E.2.2.1)) E 8 0 0 182 [(0, va_rf (x0)), (1, .int (x1)), (3, .int (x3))] [.int (s0), .int (s1)] w := by
  refine xk_iadd hC dL_areWell_182 ?_
  refine xk_istore_n (i := 2) (lv' := [(2, .int ((s1) + (s0))), (0, va_rf (x0)), (1, .int (x1)), (3, .int (x3))]) hC dL_areWell_183 rfl (by decide) rfl ?_
  refine xk_iinc (v := x3 + (1 : Int32)) (lv' := [(3, .int (x3 + (1 : Int32))), (2, .int ((s1) + (s0))), (0, va_rf (x0)), (1, .int (x1))]) hC dL_areWell_184 3 rfl rfl (by decide) rfl ?_
  refine xk_goto (tgt := 6) hC dL_areWell_187 (by decide) ?_
  refine xk_locals [2, 3, 1, 0] rfl ?_
  exact hk6 x0 x1 ((s1) + (s0)) (x3 + (1 : Int32)) w hf
def f_L_areWell_150 (k6 : Option Nat → Int32 → Int32 → Int32 → xWd → Option (Int32 × xWd)) (x0 : Option Nat) (x1 : Int32) (x2 : Int32) (x3 : Int32) (x6 : Int32) (w : xWd) : Option (Int32 × xWd) := (xk_is w (x0) 0).bind (fun u2 => (f_X4_ofCue (x0) (x3) ((12 : Int32)) w).bind (fun q1 => (xk_is q1.2 (x0) 0).bind (fun u4 => (f_X4_ofCue (x0) (x3) ((4 : Int32)) q1.2).bind (fun q3 => if (x6) = ((0 : Int32)) then f_L_areWell_182 k6 x0 ((x1) + ((q1.1) * (((1 : Int32)) + (((2 : Int32)) * (q3.1))))) x3 ((0 : Int32)) x2 (q3.2) else f_L_areWell_182 k6 x0 ((x1) + ((q1.1) * (((1 : Int32)) + (((2 : Int32)) * (q3.1))))) x3 ((1 : Int32)) x2 (q3.2)))))
set_option maxHeartbeats 4000000 in
set_option maxRecDepth 100000 in
theorem t_L_areWell_150 {p : Program} {l : Launch} {e : Env} {s : State} {m : MethodId} {args : Array Value} {below : List Frame} {meth : Method} {c : Code} {E : xEv} (hC : xk_C p s m args meth c E method_6_code "ClickbookLaw" 8) (hr : meth.sig.returnType = (some .boolean)) {q : (Int32 × xWd)} {k6 : Option Nat → Int32 → Int32 → Int32 → xWd → Option (Int32 × xWd)} (hk6 : ∀ (x0 : Option Nat) (x1 : Int32) (x2 : Int32) (x3 : Int32) (w : xWd), k6 x0 x1 x2 x3 w = some q → xk_X p l e { frames := 8, cells := 0, slots := 0, locals := 175 } s m args below meth c (MQ below (xk_Qi E q) args s 0 0 (xk_A E.2.2.1)) E 8 0 0 6 [(0, va_rf (x0)), (1, .int (x1)), (2, .int (x2)), (3, .int (x3))] [] w) (x0 : Option Nat) (x1 : Int32) (x2 : Int32) (x3 : Int32) (x6 : Int32) (w : xWd) (hf : f_L_areWell_150 k6 x0 x1 x2 x3 x6 w = some q) : xk_X p l e { frames := 8, cells := 0, slots := 0, locals := 175 } s m args below meth c (MQ below (xk_Qi E q) args s 0 0 (xk_A E.2.2.1)) E 8 0 0 150 [(0, va_rf (x0)), (1, .int (x1)), (2, .int (x2)), (3, .int (x3)), (6, .int (x6))] [] w := by
  refine xk_iload_n hC dL_areWell_150 1 rfl rfl ?_
  refine xk_aload_n hC dL_areWell_151 0 rfl rfl ?_
  refine xk_iload_n hC dL_areWell_152 3 rfl rfl ?_
  refine xk_bipush (v := (12 : Int32)) hC dL_areWell_153 (by decide) ?_
  obtain ⟨u2, h2, hf⟩ := xk_bi hf
  obtain ⟨q1, h1, hf⟩ := xk_bi hf
  refine xk_backi (xk_callV hC 2 xc_0 (c_X4_ofCue h1) h2 xm_503 xm_504 xm_505 xm_1 xm_506 ⟨rfl, xd_X4_ofCue⟩ rfl ⟨Nat.le_of_ble_eq_true rfl, Nat.le_of_ble_eq_true rfl⟩ rfl (Nat.le_of_ble_eq_true rfl) dL_areWell_155 ⟨(Nat.le_of_ble_eq_true rfl), (Nat.le_of_ble_eq_true rfl)⟩) ?_
  refine xk_iconst (v := (1 : Int32)) hC dL_areWell_158 (by decide) ?_
  refine xk_iconst (v := (2 : Int32)) hC dL_areWell_159 (by decide) ?_
  refine xk_aload_n hC dL_areWell_160 0 rfl rfl ?_
  refine xk_iload_n hC dL_areWell_161 3 rfl rfl ?_
  refine xk_iconst (v := (4 : Int32)) hC dL_areWell_162 (by decide) ?_
  obtain ⟨u4, h4, hf⟩ := xk_bi hf
  obtain ⟨q3, h3, hf⟩ := xk_bi hf
  refine xk_backi (xk_callV hC 2 xc_0 (c_X4_ofCue h3) h4 xm_503 xm_504 xm_505 xm_1 xm_506 ⟨rfl, xd_X4_ofCue⟩ rfl ⟨Nat.le_of_ble_eq_true rfl, Nat.le_of_ble_eq_true rfl⟩ rfl (Nat.le_of_ble_eq_true rfl) dL_areWell_163 ⟨(Nat.le_of_ble_eq_true rfl), (Nat.le_of_ble_eq_true rfl)⟩) ?_
  refine xk_imul hC dL_areWell_166 ?_
  refine xk_iadd hC dL_areWell_167 ?_
  refine xk_imul hC dL_areWell_168 ?_
  refine xk_iadd hC dL_areWell_169 ?_
  refine xk_istore_n (i := 1) (lv' := [(1, .int ((x1) + ((q1.1) * (((1 : Int32)) + (((2 : Int32)) * (q3.1)))))), (0, va_rf (x0)), (2, .int (x2)), (3, .int (x3)), (6, .int (x6))]) hC dL_areWell_170 rfl (by decide) (by simp [xk_cat1]) ?_
  refine xk_iload_n hC dL_areWell_171 2 rfl rfl ?_
  refine xk_iload hC dL_areWell_172 4 rfl ?_
  refine xk_if_eq (tgt := 181) hC dL_areWell_174 (by decide) (fun c5 => ?_) (fun c5 => ?_)
  · replace hf := (if_pos c5).symm.trans hf
    refine xk_iconst (v := (0 : Int32)) hC dL_areWell_181 (by decide) ?_
    refine xk_locals [1, 0, 3] rfl ?_
    exact t_L_areWell_182 hC hr hk6 x0 ((x1) + ((q1.1) * (((1 : Int32)) + (((2 : Int32)) * (q3.1))))) x3 ((0 : Int32)) x2 (q3.2) hf
  · replace hf := (if_neg c5).symm.trans hf
    refine xk_iconst (v := (1 : Int32)) hC dL_areWell_177 (by decide) ?_
    refine xk_goto (tgt := 182) hC dL_areWell_178 (by decide) ?_
    refine xk_locals [1, 0, 3] rfl ?_
    exact t_L_areWell_182 hC hr hk6 x0 ((x1) + ((q1.1) * (((1 : Int32)) + (((2 : Int32)) * (q3.1))))) x3 ((1 : Int32)) x2 (q3.2) hf
def f_L_areWell_118 (k6 : Option Nat → Int32 → Int32 → Int32 → xWd → Option (Int32 × xWd)) (x0 : Option Nat) (x1 : Int32) (x2 : Int32) (x3 : Int32) (x6 : Int32) (s0 : Int32) (w : xWd) : Option (Int32 × xWd) := if (s0) = (x6) then (xk_is w (x0) 0).bind (fun u3 => (f_X4_ofCue (x0) (x3) ((12 : Int32)) w).bind (fun q2 => if (q2.1) ≤ ((0 : Int32)) then f_L_areWell_150 k6 x0 x1 x2 x3 x6 (q2.2) else if (x6) = ((0 : Int32)) then (xk_is q2.2 (x0) 0).bind (fun u7 => (f_X4_ofCue (x0) (x3) ((11 : Int32)) q2.2).bind (fun q6 => if (q6.1) = ((0 : Int32)) then f_L_areWell_148 (q6.2) else f_L_areWell_150 k6 x0 x1 x2 x3 x6 (q6.2))) else f_L_areWell_148 (q2.2))) else f_L_areWell_148 w
set_option maxHeartbeats 4000000 in
set_option maxRecDepth 100000 in
theorem t_L_areWell_118 {p : Program} {l : Launch} {e : Env} {s : State} {m : MethodId} {args : Array Value} {below : List Frame} {meth : Method} {c : Code} {E : xEv} (hC : xk_C p s m args meth c E method_6_code "ClickbookLaw" 8) (hr : meth.sig.returnType = (some .boolean)) {q : (Int32 × xWd)} {k6 : Option Nat → Int32 → Int32 → Int32 → xWd → Option (Int32 × xWd)} (hk6 : ∀ (x0 : Option Nat) (x1 : Int32) (x2 : Int32) (x3 : Int32) (w : xWd), k6 x0 x1 x2 x3 w = some q → xk_X p l e { frames := 8, cells := 0, slots := 0, locals := 175 } s m args below meth c (MQ below (xk_Qi E q) args s 0 0 (xk_A E.2.2.1)) E 8 0 0 6 [(0, va_rf (x0)), (1, .int (x1)), (2, .int (x2)), (3, .int (x3))] [] w) (x0 : Option Nat) (x1 : Int32) (x2 : Int32) (x3 : Int32) (x6 : Int32) (s0 : Int32) (w : xWd) (hf : f_L_areWell_118 k6 x0 x1 x2 x3 x6 s0 w = some q) : xk_X p l e { frames := 8, cells := 0, slots := 0, locals := 175 } s m args below meth c (MQ below (xk_Qi E q) args s 0 0 (xk_A E.2.2.1)) E 8 0 0 118 [(0, va_rf (x0)), (1, .int (x1)), (2, .int (x2)), (3, .int (x3)), (6, .int (x6))] [.int (s0)] w := by
  refine xk_iload hC dL_areWell_118 4 rfl ?_
  refine xk_icmp_ne (tgt := 148) hC dL_areWell_120 (by decide) (fun c1 => ?_) (fun c1 => ?_)
  · replace hf := (if_neg c1).symm.trans hf
    refine xk_locals [] rfl ?_
    exact t_L_areWell_148 hC hr w hf
  · replace hf := (if_pos c1).symm.trans hf
    refine xk_aload_n hC dL_areWell_123 0 rfl rfl ?_
    refine xk_iload_n hC dL_areWell_124 3 rfl rfl ?_
    refine xk_bipush (v := (12 : Int32)) hC dL_areWell_125 (by decide) ?_
    obtain ⟨u3, h3, hf⟩ := xk_bi hf
    obtain ⟨q2, h2, hf⟩ := xk_bi hf
    refine xk_backi (xk_callV hC 2 xc_0 (c_X4_ofCue h2) h3 xm_503 xm_504 xm_505 xm_1 xm_506 ⟨rfl, xd_X4_ofCue⟩ rfl ⟨Nat.le_of_ble_eq_true rfl, Nat.le_of_ble_eq_true rfl⟩ rfl (Nat.le_of_ble_eq_true rfl) dL_areWell_127 ⟨(Nat.le_of_ble_eq_true rfl), (Nat.le_of_ble_eq_true rfl)⟩) ?_
    refine xk_if_le (tgt := 150) hC dL_areWell_130 (by decide) (fun c4 => ?_) (fun c4 => ?_)
    · replace hf := (if_pos c4).symm.trans hf
      exact t_L_areWell_150 hC hr hk6 x0 x1 x2 x3 x6 (q2.2) hf
    · replace hf := (if_neg c4).symm.trans hf
      refine xk_iload hC dL_areWell_133 4 rfl ?_
      refine xk_if_ne (tgt := 148) hC dL_areWell_135 (by decide) (fun c5 => ?_) (fun c5 => ?_)
      · replace hf := (if_neg c5).symm.trans hf
        refine xk_locals [] rfl ?_
        exact t_L_areWell_148 hC hr (q2.2) hf
      · replace hf := (if_pos c5).symm.trans hf
        refine xk_aload_n hC dL_areWell_138 0 rfl rfl ?_
        refine xk_iload_n hC dL_areWell_139 3 rfl rfl ?_
        refine xk_bipush (v := (11 : Int32)) hC dL_areWell_140 (by decide) ?_
        obtain ⟨u7, h7, hf⟩ := xk_bi hf
        obtain ⟨q6, h6, hf⟩ := xk_bi hf
        refine xk_backi (xk_callV hC 2 xc_0 (c_X4_ofCue h6) h7 xm_503 xm_504 xm_505 xm_1 xm_506 ⟨rfl, xd_X4_ofCue⟩ rfl ⟨Nat.le_of_ble_eq_true rfl, Nat.le_of_ble_eq_true rfl⟩ rfl (Nat.le_of_ble_eq_true rfl) dL_areWell_142 ⟨(Nat.le_of_ble_eq_true rfl), (Nat.le_of_ble_eq_true rfl)⟩) ?_
        refine xk_if_ne (tgt := 150) hC dL_areWell_145 (by decide) (fun c8 => ?_) (fun c8 => ?_)
        · replace hf := (if_neg c8).symm.trans hf
          exact t_L_areWell_150 hC hr hk6 x0 x1 x2 x3 x6 (q6.2) hf
        · replace hf := (if_pos c8).symm.trans hf
          refine xk_locals [] rfl ?_
          exact t_L_areWell_148 hC hr (q6.2) hf
def f_L_areWell_88 (k6 : Option Nat → Int32 → Int32 → Int32 → xWd → Option (Int32 × xWd)) (x0 : Option Nat) (x1 : Int32) (x2 : Int32) (x3 : Int32) (x5 : Int32) (s0 : Int32) (w : xWd) : Option (Int32 × xWd) := (xk_is w (x0) 0).bind (fun u2 => (f_X4_ofCue (x0) (x3) ((8 : Int32)) w).bind (fun q1 => if (q1.1) ≤ (x5) then f_L_areWell_148 (q1.2) else (xk_is q1.2 (x0) 0).bind (fun u5 => (f_X4_ofCue (x0) (x3) ((9 : Int32)) q1.2).bind (fun q4 => if (q4.1) = ((1 : Int32)) then f_L_areWell_118 k6 x0 x1 x2 x3 s0 ((1 : Int32)) (q4.2) else f_L_areWell_118 k6 x0 x1 x2 x3 s0 ((0 : Int32)) (q4.2)))))
set_option maxHeartbeats 4000000 in
set_option maxRecDepth 100000 in
theorem t_L_areWell_88 {p : Program} {l : Launch} {e : Env} {s : State} {m : MethodId} {args : Array Value} {below : List Frame} {meth : Method} {c : Code} {E : xEv} (hC : xk_C p s m args meth c E method_6_code "ClickbookLaw" 8) (hr : meth.sig.returnType = (some .boolean)) {q : (Int32 × xWd)} {k6 : Option Nat → Int32 → Int32 → Int32 → xWd → Option (Int32 × xWd)} (hk6 : ∀ (x0 : Option Nat) (x1 : Int32) (x2 : Int32) (x3 : Int32) (w : xWd), k6 x0 x1 x2 x3 w = some q → xk_X p l e { frames := 8, cells := 0, slots := 0, locals := 175 } s m args below meth c (MQ below (xk_Qi E q) args s 0 0 (xk_A E.2.2.1)) E 8 0 0 6 [(0, va_rf (x0)), (1, .int (x1)), (2, .int (x2)), (3, .int (x3))] [] w) (x0 : Option Nat) (x1 : Int32) (x2 : Int32) (x3 : Int32) (x5 : Int32) (s0 : Int32) (w : xWd) (hf : f_L_areWell_88 k6 x0 x1 x2 x3 x5 s0 w = some q) : xk_X p l e { frames := 8, cells := 0, slots := 0, locals := 175 } s m args below meth c (MQ below (xk_Qi E q) args s 0 0 (xk_A E.2.2.1)) E 8 0 0 88 [(0, va_rf (x0)), (1, .int (x1)), (2, .int (x2)), (3, .int (x3)), (5, .int (x5))] [.int (s0)] w := by
  refine xk_istore (i := 6) (lv' := [(6, .int (s0)), (0, va_rf (x0)), (1, .int (x1)), (2, .int (x2)), (3, .int (x3)), (5, .int (x5))]) hC dL_areWell_88 (by decide) rfl ?_
  refine xk_iload hC dL_areWell_90 5 rfl ?_
  refine xk_aload_n hC dL_areWell_92 1 rfl rfl ?_
  refine xk_iload_n hC dL_areWell_93 4 rfl rfl ?_
  refine xk_bipush (v := (8 : Int32)) hC dL_areWell_94 (by decide) ?_
  obtain ⟨u2, h2, hf⟩ := xk_bi hf
  obtain ⟨q1, h1, hf⟩ := xk_bi hf
  refine xk_backi (xk_callV hC 2 xc_0 (c_X4_ofCue h1) h2 xm_503 xm_504 xm_505 xm_1 xm_506 ⟨rfl, xd_X4_ofCue⟩ rfl ⟨Nat.le_of_ble_eq_true rfl, Nat.le_of_ble_eq_true rfl⟩ rfl (Nat.le_of_ble_eq_true rfl) dL_areWell_96 ⟨(Nat.le_of_ble_eq_true rfl), (Nat.le_of_ble_eq_true rfl)⟩) ?_
  refine xk_icmp_ge (tgt := 148) hC dL_areWell_99 (by decide) (fun c3 => ?_) (fun c3 => ?_)
  · replace hf := (if_pos c3).symm.trans hf
    refine xk_locals [] rfl ?_
    exact t_L_areWell_148 hC hr (q1.2) hf
  · replace hf := (if_neg c3).symm.trans hf
    refine xk_aload_n hC dL_areWell_102 1 rfl rfl ?_
    refine xk_iload_n hC dL_areWell_103 4 rfl rfl ?_
    refine xk_bipush (v := (9 : Int32)) hC dL_areWell_104 (by decide) ?_
    obtain ⟨u5, h5, hf⟩ := xk_bi hf
    obtain ⟨q4, h4, hf⟩ := xk_bi hf
    refine xk_backi (xk_callV hC 2 xc_0 (c_X4_ofCue h4) h5 xm_503 xm_504 xm_505 xm_1 xm_506 ⟨rfl, xd_X4_ofCue⟩ rfl ⟨Nat.le_of_ble_eq_true rfl, Nat.le_of_ble_eq_true rfl⟩ rfl (Nat.le_of_ble_eq_true rfl) dL_areWell_106 ⟨(Nat.le_of_ble_eq_true rfl), (Nat.le_of_ble_eq_true rfl)⟩) ?_
    refine xk_iconst (v := (1 : Int32)) hC dL_areWell_109 (by decide) ?_
    refine xk_icmp_ne (tgt := 117) hC dL_areWell_110 (by decide) (fun c6 => ?_) (fun c6 => ?_)
    · replace hf := (if_neg c6).symm.trans hf
      refine xk_iconst (v := (0 : Int32)) hC dL_areWell_117 (by decide) ?_
      refine xk_locals [1, 2, 3, 4, 0] rfl ?_
      exact t_L_areWell_118 hC hr hk6 x0 x1 x2 x3 s0 ((0 : Int32)) (q4.2) hf
    · replace hf := (if_pos c6).symm.trans hf
      refine xk_iconst (v := (1 : Int32)) hC dL_areWell_113 (by decide) ?_
      refine xk_goto (tgt := 118) hC dL_areWell_114 (by decide) ?_
      refine xk_locals [1, 2, 3, 4, 0] rfl ?_
      exact t_L_areWell_118 hC hr hk6 x0 x1 x2 x3 s0 ((1 : Int32)) (q4.2) hf
def f_L_areWell_33 (k6 : Option Nat → Int32 → Int32 → Int32 → xWd → Option (Int32 × xWd)) : Nat → Option Nat → Int32 → Int32 → Int32 → Int32 → Int32 → Int32 → xWd → Option (Int32 × xWd)
  | 0, _, _, _, _, _, _, _, _ => none
  | n + 1, x0, x1, x2, x3, x4, x5, x6, w => if (x4) ≤ (x6) then (xk_is w (x0) 0).bind (fun u3 => (f_X4_ofCue (x0) (x3) ((8 : Int32)) w).bind (fun q2 => (xk_is q2.2 (x0) 0).bind (fun u5 => (f_X4_many (x0) ((0 : Int32)) q2.2).bind (fun q4 => if (q2.1) ≤ (q4.1) then f_L_areWell_88 k6 x0 x1 x2 x3 x5 ((0 : Int32)) (q4.2) else f_L_areWell_88 k6 x0 x1 x2 x3 x5 ((1 : Int32)) (q4.2))))) else (xk_is w (x0) 0).bind (fun u8 => (f_X4_beat (x0) (x3) (x6) w).bind (fun q7 => if (x5) < (q7.1) then f_L_areWell_33 k6 n x0 x1 x2 x3 x4 (q7.1) (x6 + (1 : Int32)) (q7.2) else some ((0 : Int32), q7.2)))
set_option maxHeartbeats 4000000 in
set_option maxRecDepth 100000 in
theorem t_L_areWell_33 {p : Program} {l : Launch} {e : Env} {s : State} {m : MethodId} {args : Array Value} {below : List Frame} {meth : Method} {c : Code} {E : xEv} (hC : xk_C p s m args meth c E method_6_code "ClickbookLaw" 8) (hr : meth.sig.returnType = (some .boolean)) {q : (Int32 × xWd)} {k6 : Option Nat → Int32 → Int32 → Int32 → xWd → Option (Int32 × xWd)} (hk6 : ∀ (x0 : Option Nat) (x1 : Int32) (x2 : Int32) (x3 : Int32) (w : xWd), k6 x0 x1 x2 x3 w = some q → xk_X p l e { frames := 8, cells := 0, slots := 0, locals := 175 } s m args below meth c (MQ below (xk_Qi E q) args s 0 0 (xk_A E.2.2.1)) E 8 0 0 6 [(0, va_rf (x0)), (1, .int (x1)), (2, .int (x2)), (3, .int (x3))] [] w) : ∀ (n : Nat) (x0 : Option Nat) (x1 : Int32) (x2 : Int32) (x3 : Int32) (x4 : Int32) (x5 : Int32) (x6 : Int32) (w : xWd), f_L_areWell_33 k6 n x0 x1 x2 x3 x4 x5 x6 w = some q → xk_X p l e { frames := 8, cells := 0, slots := 0, locals := 175 } s m args below meth c (MQ below (xk_Qi E q) args s 0 0 (xk_A E.2.2.1)) E 8 0 0 33 [(0, va_rf (x0)), (1, .int (x1)), (2, .int (x2)), (3, .int (x3)), (4, .int (x4)), (5, .int (x5)), (6, .int (x6))] [] w := by
  intro n
  induction n with
  | zero => intro x0 x1 x2 x3 x4 x5 x6 w hf; have hf : none = some q := hf; cases hf
  | succ n ih =>
    intro x0 x1 x2 x3 x4 x5 x6 w hf
    refine xk_iload hC dL_areWell_33 6 rfl ?_
    refine xk_iload hC dL_areWell_35 4 rfl ?_
    refine xk_icmp_ge (tgt := 68) hC dL_areWell_37 (by decide) (fun c1 => ?_) (fun c1 => ?_)
    · replace hf := (if_pos c1).symm.trans hf
      refine xk_aload_n hC dL_areWell_68 0 rfl rfl ?_
      refine xk_iload_n hC dL_areWell_69 3 rfl rfl ?_
      refine xk_bipush (v := (8 : Int32)) hC dL_areWell_70 (by decide) ?_
      obtain ⟨u3, h3, hf⟩ := xk_bi hf
      obtain ⟨q2, h2, hf⟩ := xk_bi hf
      refine xk_backi (xk_callV hC 2 xc_0 (c_X4_ofCue h2) h3 xm_503 xm_504 xm_505 xm_1 xm_506 ⟨rfl, xd_X4_ofCue⟩ rfl ⟨Nat.le_of_ble_eq_true rfl, Nat.le_of_ble_eq_true rfl⟩ rfl (Nat.le_of_ble_eq_true rfl) dL_areWell_72 ⟨(Nat.le_of_ble_eq_true rfl), (Nat.le_of_ble_eq_true rfl)⟩) ?_
      refine xk_aload_n hC dL_areWell_75 0 rfl rfl ?_
      refine xk_iconst (v := (0 : Int32)) hC dL_areWell_76 (by decide) ?_
      obtain ⟨u5, h5, hf⟩ := xk_bi hf
      obtain ⟨q4, h4, hf⟩ := xk_bi hf
      refine xk_backi (xk_callV hC 1 xc_0 (c_X4_many h4) h5 xm_542 xm_543 xm_544 xm_1 xm_545 ⟨rfl, xd_X4_many⟩ rfl ⟨Nat.le_of_ble_eq_true rfl, Nat.le_of_ble_eq_true rfl⟩ rfl (Nat.le_of_ble_eq_true rfl) dL_areWell_77 ⟨(Nat.le_of_ble_eq_true rfl), (Nat.le_of_ble_eq_true rfl)⟩) ?_
      refine xk_icmp_le (tgt := 87) hC dL_areWell_80 (by decide) (fun c6 => ?_) (fun c6 => ?_)
      · replace hf := (if_pos c6).symm.trans hf
        refine xk_iconst (v := (0 : Int32)) hC dL_areWell_87 (by decide) ?_
        refine xk_locals [0, 1, 2, 3, 5] rfl ?_
        exact t_L_areWell_88 hC hr hk6 x0 x1 x2 x3 x5 ((0 : Int32)) (q4.2) hf
      · replace hf := (if_neg c6).symm.trans hf
        refine xk_iconst (v := (1 : Int32)) hC dL_areWell_83 (by decide) ?_
        refine xk_goto (tgt := 88) hC dL_areWell_84 (by decide) ?_
        refine xk_locals [0, 1, 2, 3, 5] rfl ?_
        exact t_L_areWell_88 hC hr hk6 x0 x1 x2 x3 x5 ((1 : Int32)) (q4.2) hf
    · replace hf := (if_neg c1).symm.trans hf
      refine xk_aload_n hC dL_areWell_40 0 rfl rfl ?_
      refine xk_iload_n hC dL_areWell_41 3 rfl rfl ?_
      refine xk_iload hC dL_areWell_42 6 rfl ?_
      obtain ⟨u8, h8, hf⟩ := xk_bi hf
      obtain ⟨q7, h7, hf⟩ := xk_bi hf
      refine xk_backi (xk_callV hC 2 xc_0 (c_X4_beat h7) h8 xm_769 xm_770 xm_771 xm_1 xm_772 ⟨rfl, xd_X4_beat⟩ rfl ⟨Nat.le_of_ble_eq_true rfl, Nat.le_of_ble_eq_true rfl⟩ rfl (Nat.le_of_ble_eq_true rfl) dL_areWell_44 ⟨(Nat.le_of_ble_eq_true rfl), (Nat.le_of_ble_eq_true rfl)⟩) ?_
      refine xk_istore (i := 7) (lv' := [(7, .int (q7.1)), (0, va_rf (x0)), (1, .int (x1)), (2, .int (x2)), (3, .int (x3)), (4, .int (x4)), (5, .int (x5)), (6, .int (x6))]) hC dL_areWell_47 (by decide) rfl ?_
      refine xk_iload hC dL_areWell_49 0 rfl ?_
      refine xk_iload hC dL_areWell_51 6 rfl ?_
      refine xk_icmp_gt (tgt := 58) hC dL_areWell_53 (by decide) (fun c9 => ?_) (fun c9 => ?_)
      · replace hf := (if_pos c9).symm.trans hf
        refine xk_iload hC dL_areWell_58 0 rfl ?_
        refine xk_istore (i := 5) (lv' := [(5, .int (q7.1)), (7, .int (q7.1)), (0, va_rf (x0)), (1, .int (x1)), (2, .int (x2)), (3, .int (x3)), (4, .int (x4)), (6, .int (x6))]) hC dL_areWell_60 (by decide) rfl ?_
        refine xk_iinc (v := x6 + (1 : Int32)) (lv' := [(6, .int (x6 + (1 : Int32))), (5, .int (q7.1)), (7, .int (q7.1)), (0, va_rf (x0)), (1, .int (x1)), (2, .int (x2)), (3, .int (x3)), (4, .int (x4))]) hC dL_areWell_62 7 rfl rfl (by decide) rfl ?_
        refine xk_goto (tgt := 33) hC dL_areWell_65 (by decide) ?_
        refine xk_locals [3, 4, 5, 6, 7, 1, 0] rfl ?_
        exact ih x0 x1 x2 x3 x4 (q7.1) (x6 + (1 : Int32)) (q7.2) hf
      · replace hf := (if_neg c9).symm.trans hf
        refine xk_iconst (v := (0 : Int32)) hC dL_areWell_56 (by decide) ?_
        cases hf
        refine xk_widen (k := 0) (n := 0) (Nat.le_of_ble_eq_true rfl) (Nat.le_of_ble_eq_true rfl) ?_
        exact xk_iret hC hr rfl dL_areWell_57
def f_L_areWell_285 (w : xWd) : Option (Int32 × xWd) := some ((0 : Int32), w)
set_option maxHeartbeats 4000000 in
set_option maxRecDepth 100000 in
theorem t_L_areWell_285 {p : Program} {l : Launch} {e : Env} {s : State} {m : MethodId} {args : Array Value} {below : List Frame} {meth : Method} {c : Code} {E : xEv} (hC : xk_C p s m args meth c E method_6_code "ClickbookLaw" 8) (hr : meth.sig.returnType = (some .boolean)) {q : (Int32 × xWd)} (w : xWd) (hf : f_L_areWell_285 w = some q) : xk_X p l e { frames := 8, cells := 0, slots := 0, locals := 175 } s m args below meth c (MQ below (xk_Qi E q) args s 0 0 (xk_A E.2.2.1)) E 8 0 0 285 [] [] w := by
  refine xk_iconst (v := (0 : Int32)) hC dL_areWell_285 (by decide) ?_
  cases hf
  refine xk_widen (k := 0) (n := 0) (Nat.le_of_ble_eq_true rfl) (Nat.le_of_ble_eq_true rfl) ?_
  exact xk_iret hC hr rfl dL_areWell_286
def f_L_areWell_287 (k195 : Option Nat → Int32 → Int32 → Int32 → Int32 → xWd → Option (Int32 × xWd)) (x0 : Option Nat) (x1 : Int32) (x2 : Int32) (x3 : Int32) (x4 : Int32) (w : xWd) : Option (Int32 × xWd) := k195 x0 x1 x2 x3 (x4 + (1 : Int32)) w
set_option maxHeartbeats 4000000 in
set_option maxRecDepth 100000 in
theorem t_L_areWell_287 {p : Program} {l : Launch} {e : Env} {s : State} {m : MethodId} {args : Array Value} {below : List Frame} {meth : Method} {c : Code} {E : xEv} (hC : xk_C p s m args meth c E method_6_code "ClickbookLaw" 8) (hr : meth.sig.returnType = (some .boolean)) {q : (Int32 × xWd)} {k195 : Option Nat → Int32 → Int32 → Int32 → Int32 → xWd → Option (Int32 × xWd)} (hk195 : ∀ (x0 : Option Nat) (x1 : Int32) (x2 : Int32) (x3 : Int32) (x4 : Int32) (w : xWd), k195 x0 x1 x2 x3 x4 w = some q → xk_X p l e { frames := 8, cells := 0, slots := 0, locals := 175 } s m args below meth c (MQ below (xk_Qi E q) args s 0 0 (xk_A E.2.2.1)) E 8 0 0 195 [(0, va_rf (x0)), (1, .int (x1)), (2, .int (x2)), (3, .int (x3)), (4, .int (x4))] [] w) (x0 : Option Nat) (x1 : Int32) (x2 : Int32) (x3 : Int32) (x4 : Int32) (w : xWd) (hf : f_L_areWell_287 k195 x0 x1 x2 x3 x4 w = some q) : xk_X p l e { frames := 8, cells := 0, slots := 0, locals := 175 } s m args below meth c (MQ below (xk_Qi E q) args s 0 0 (xk_A E.2.2.1)) E 8 0 0 287 [(0, va_rf (x0)), (1, .int (x1)), (2, .int (x2)), (3, .int (x3)), (4, .int (x4))] [] w := by
  refine xk_iinc (v := x4 + (1 : Int32)) (lv' := [(4, .int (x4 + (1 : Int32))), (0, va_rf (x0)), (1, .int (x1)), (2, .int (x2)), (3, .int (x3))]) hC dL_areWell_287 4 rfl rfl (by decide) rfl ?_
  refine xk_goto (tgt := 195) hC dL_areWell_290 (by decide) ?_
  refine xk_locals [1, 2, 3, 4, 0] rfl ?_
  exact hk195 x0 x1 x2 x3 (x4 + (1 : Int32)) w hf
def f_L_areWell_365 (s0 : Int32) (w : xWd) : Option (Int32 × xWd) := (xk_zb (s0)).bind (fun u1 => some (s0, w))
set_option maxHeartbeats 4000000 in
set_option maxRecDepth 100000 in
theorem t_L_areWell_365 {p : Program} {l : Launch} {e : Env} {s : State} {m : MethodId} {args : Array Value} {below : List Frame} {meth : Method} {c : Code} {E : xEv} (hC : xk_C p s m args meth c E method_6_code "ClickbookLaw" 8) (hr : meth.sig.returnType = (some .boolean)) {q : (Int32 × xWd)} (s0 : Int32) (w : xWd) (hf : f_L_areWell_365 s0 w = some q) : xk_X p l e { frames := 8, cells := 0, slots := 0, locals := 175 } s m args below meth c (MQ below (xk_Qi E q) args s 0 0 (xk_A E.2.2.1)) E 8 0 0 365 [] [.int (s0)] w := by
  obtain ⟨u1, h1, hf⟩ := xk_bi hf
  cases hf
  refine xk_widen (k := 0) (n := 0) (Nat.le_of_ble_eq_true rfl) (Nat.le_of_ble_eq_true rfl) ?_
  exact xk_iret hC hr (xk_zb_e h1) dL_areWell_365
def f_L_areWell_364 (w : xWd) : Option (Int32 × xWd) := f_L_areWell_365 ((0 : Int32)) w
set_option maxHeartbeats 4000000 in
set_option maxRecDepth 100000 in
theorem t_L_areWell_364 {p : Program} {l : Launch} {e : Env} {s : State} {m : MethodId} {args : Array Value} {below : List Frame} {meth : Method} {c : Code} {E : xEv} (hC : xk_C p s m args meth c E method_6_code "ClickbookLaw" 8) (hr : meth.sig.returnType = (some .boolean)) {q : (Int32 × xWd)} (w : xWd) (hf : f_L_areWell_364 w = some q) : xk_X p l e { frames := 8, cells := 0, slots := 0, locals := 175 } s m args below meth c (MQ below (xk_Qi E q) args s 0 0 (xk_A E.2.2.1)) E 8 0 0 364 [] [] w := by
  refine xk_iconst (v := (0 : Int32)) hC dL_areWell_364 (by decide) ?_
  exact t_L_areWell_365 hC hr ((0 : Int32)) w hf
def f_L_areWell_195 : Nat → Option Nat → Int32 → Int32 → Int32 → Int32 → xWd → Option (Int32 × xWd)
  | 0, _, _, _, _, _, _ => none
  | n + 1, x0, x1, x2, x3, x4, w => if ((8 : Int32)) ≤ (x4) then (xk_is w (x0) 0).bind (fun u3 => (f_X4_many (x0) ((4 : Int32)) w).bind (fun q2 => if (q2.1) = (x3) then (xk_is q2.2 (x0) 0).bind (fun u6 => (f_X4_many (x0) ((7 : Int32)) q2.2).bind (fun q5 => if (q5.1) = (x2) then (xk_is q5.2 (x0) 0).bind (fun u9 => (f_X4_many (x0) ((15 : Int32)) q5.2).bind (fun q8 => if (q8.1) = (x1) then (xk_is q8.2 (x0) 0).bind (fun u12 => (f_X4_many (x0) ((13 : Int32)) q8.2).bind (fun q11 => if ((120 : Int32)) < (q11.1) then f_L_areWell_364 (q11.2) else (xk_is q11.2 (x0) 0).bind (fun u15 => (f_X4_sheet (x0) ((0 : Int32)) q11.2).bind (fun q14 => (xk_is q14.2 (x0) 0).bind (fun u17 => (f_X4_sheet (x0) ((1 : Int32)) q14.2).bind (fun q16 => (xk_is q16.2 (x0) 0).bind (fun u19 => (f_X4_sheet (x0) ((2 : Int32)) q16.2).bind (fun q18 => (xk_is q18.2 (x0) 0).bind (fun u21 => (f_X4_sheet (x0) ((3 : Int32)) q18.2).bind (fun q20 => if ((((q14.1) + (q16.1)) + (q18.1)) + (q20.1)) = (x1) then f_L_areWell_365 ((1 : Int32)) (q20.2) else f_L_areWell_364 (q20.2))))))))))) else f_L_areWell_364 (q8.2))) else f_L_areWell_364 (q5.2))) else f_L_areWell_364 (q2.2))) else (xk_is w (x0) 0).bind (fun u24 => (f_X4_ofHit (x0) (x4) ((4 : Int32)) w).bind (fun q23 => if (q23.1) = ((0 : Int32)) then f_L_areWell_287 (f_L_areWell_195 n) x0 x1 x2 x3 x4 (q23.2) else (xk_is q23.2 (x0) 0).bind (fun u27 => (f_X4_ofHit (x0) (x4) ((5 : Int32)) q23.2).bind (fun q26 => (xk_is q26.2 (x0) 0).bind (fun u29 => (f_X4_ofHit (x0) (x4) ((6 : Int32)) q26.2).bind (fun q28 => (xk_is q28.2 (x0) 0).bind (fun u31 => (f_X4_beat (x0) (q26.1) (q28.1) q28.2).bind (fun q30 => (xk_is q30.2 (x0) 0).bind (fun u33 => (f_X4_ofHit (x0) (x4) ((0 : Int32)) q30.2).bind (fun q32 => (xk_is q32.2 (x0) 0).bind (fun u35 => (f_X4_ofHit (x0) (x4) ((2 : Int32)) q32.2).bind (fun q34 => if (q34.1) = ((1 : Int32)) then f_L_areWell_285 (q34.2) else (xk_is q34.2 (x0) 0).bind (fun u38 => (f_X4_ofHit (x0) (x4) ((3 : Int32)) q34.2).bind (fun q37 => if (if 0 ≤ ((q30.1) - (q32.1)) then ((q30.1) - (q32.1)) else 0 - ((q30.1) - (q32.1))) = (q37.1) then (xk_is q37.2 (x0) 0).bind (fun u41 => (f_X4_ofHit (x0) (x4) ((1 : Int32)) q37.2).bind (fun q40 => if (if 0 ≤ ((q30.1) - (q32.1)) then ((q30.1) - (q32.1)) else 0 - ((q30.1) - (q32.1))) ≤ (q40.1) then f_L_areWell_287 (f_L_areWell_195 n) x0 x1 x2 (x3 + (1 : Int32)) x4 (q40.2) else f_L_areWell_285 (q40.2))) else f_L_areWell_285 (q37.2)))))))))))))))
set_option maxHeartbeats 4000000 in
set_option maxRecDepth 100000 in
theorem t_L_areWell_195 {p : Program} {l : Launch} {e : Env} {s : State} {m : MethodId} {args : Array Value} {below : List Frame} {meth : Method} {c : Code} {E : xEv} (hC : xk_C p s m args meth c E method_6_code "ClickbookLaw" 8) (hr : meth.sig.returnType = (some .boolean)) {q : (Int32 × xWd)} : ∀ (n : Nat) (x0 : Option Nat) (x1 : Int32) (x2 : Int32) (x3 : Int32) (x4 : Int32) (w : xWd), f_L_areWell_195 n x0 x1 x2 x3 x4 w = some q → xk_X p l e { frames := 8, cells := 0, slots := 0, locals := 175 } s m args below meth c (MQ below (xk_Qi E q) args s 0 0 (xk_A E.2.2.1)) E 8 0 0 195 [(0, va_rf (x0)), (1, .int (x1)), (2, .int (x2)), (3, .int (x3)), (4, .int (x4))] [] w := by
  intro n
  induction n with
  | zero => intro x0 x1 x2 x3 x4 w hf; have hf : none = some q := hf; cases hf
  | succ n ih =>
    intro x0 x1 x2 x3 x4 w hf
    refine xk_iload hC dL_areWell_195 4 rfl ?_
    refine xk_bipush (v := (8 : Int32)) hC dL_areWell_197 (by decide) ?_
    refine xk_icmp_ge (tgt := 293) hC dL_areWell_199 (by decide) (fun c1 => ?_) (fun c1 => ?_)
    · replace hf := (if_pos c1).symm.trans hf
      refine xk_aload_n hC dL_areWell_293 0 rfl rfl ?_
      refine xk_iconst (v := (4 : Int32)) hC dL_areWell_294 (by decide) ?_
      obtain ⟨u3, h3, hf⟩ := xk_bi hf
      obtain ⟨q2, h2, hf⟩ := xk_bi hf
      refine xk_backi (xk_callV hC 1 xc_0 (c_X4_many h2) h3 xm_542 xm_543 xm_544 xm_1 xm_545 ⟨rfl, xd_X4_many⟩ rfl ⟨Nat.le_of_ble_eq_true rfl, Nat.le_of_ble_eq_true rfl⟩ rfl (Nat.le_of_ble_eq_true rfl) dL_areWell_295 ⟨(Nat.le_of_ble_eq_true rfl), (Nat.le_of_ble_eq_true rfl)⟩) ?_
      refine xk_iload_n hC dL_areWell_298 3 rfl rfl ?_
      refine xk_icmp_ne (tgt := 364) hC dL_areWell_299 (by decide) (fun c4 => ?_) (fun c4 => ?_)
      · replace hf := (if_neg c4).symm.trans hf
        refine xk_locals [] rfl ?_
        exact t_L_areWell_364 hC hr (q2.2) hf
      · replace hf := (if_pos c4).symm.trans hf
        refine xk_aload_n hC dL_areWell_302 0 rfl rfl ?_
        refine xk_bipush (v := (7 : Int32)) hC dL_areWell_303 (by decide) ?_
        obtain ⟨u6, h6, hf⟩ := xk_bi hf
        obtain ⟨q5, h5, hf⟩ := xk_bi hf
        refine xk_backi (xk_callV hC 1 xc_0 (c_X4_many h5) h6 xm_542 xm_543 xm_544 xm_1 xm_545 ⟨rfl, xd_X4_many⟩ rfl ⟨Nat.le_of_ble_eq_true rfl, Nat.le_of_ble_eq_true rfl⟩ rfl (Nat.le_of_ble_eq_true rfl) dL_areWell_305 ⟨(Nat.le_of_ble_eq_true rfl), (Nat.le_of_ble_eq_true rfl)⟩) ?_
        refine xk_iload_n hC dL_areWell_308 2 rfl rfl ?_
        refine xk_icmp_ne (tgt := 364) hC dL_areWell_309 (by decide) (fun c7 => ?_) (fun c7 => ?_)
        · replace hf := (if_neg c7).symm.trans hf
          refine xk_locals [] rfl ?_
          exact t_L_areWell_364 hC hr (q5.2) hf
        · replace hf := (if_pos c7).symm.trans hf
          refine xk_aload_n hC dL_areWell_312 0 rfl rfl ?_
          refine xk_bipush (v := (15 : Int32)) hC dL_areWell_313 (by decide) ?_
          obtain ⟨u9, h9, hf⟩ := xk_bi hf
          obtain ⟨q8, h8, hf⟩ := xk_bi hf
          refine xk_backi (xk_callV hC 1 xc_0 (c_X4_many h8) h9 xm_542 xm_543 xm_544 xm_1 xm_545 ⟨rfl, xd_X4_many⟩ rfl ⟨Nat.le_of_ble_eq_true rfl, Nat.le_of_ble_eq_true rfl⟩ rfl (Nat.le_of_ble_eq_true rfl) dL_areWell_315 ⟨(Nat.le_of_ble_eq_true rfl), (Nat.le_of_ble_eq_true rfl)⟩) ?_
          refine xk_iload_n hC dL_areWell_318 1 rfl rfl ?_
          refine xk_icmp_ne (tgt := 364) hC dL_areWell_319 (by decide) (fun c10 => ?_) (fun c10 => ?_)
          · replace hf := (if_neg c10).symm.trans hf
            refine xk_locals [] rfl ?_
            exact t_L_areWell_364 hC hr (q8.2) hf
          · replace hf := (if_pos c10).symm.trans hf
            refine xk_aload_n hC dL_areWell_322 0 rfl rfl ?_
            refine xk_bipush (v := (13 : Int32)) hC dL_areWell_323 (by decide) ?_
            obtain ⟨u12, h12, hf⟩ := xk_bi hf
            obtain ⟨q11, h11, hf⟩ := xk_bi hf
            refine xk_backi (xk_callV hC 1 xc_0 (c_X4_many h11) h12 xm_542 xm_543 xm_544 xm_1 xm_545 ⟨rfl, xd_X4_many⟩ rfl ⟨Nat.le_of_ble_eq_true rfl, Nat.le_of_ble_eq_true rfl⟩ rfl (Nat.le_of_ble_eq_true rfl) dL_areWell_325 ⟨(Nat.le_of_ble_eq_true rfl), (Nat.le_of_ble_eq_true rfl)⟩) ?_
            refine xk_bipush (v := (120 : Int32)) hC dL_areWell_328 (by decide) ?_
            refine xk_icmp_gt (tgt := 364) hC dL_areWell_330 (by decide) (fun c13 => ?_) (fun c13 => ?_)
            · replace hf := (if_pos c13).symm.trans hf
              refine xk_locals [] rfl ?_
              exact t_L_areWell_364 hC hr (q11.2) hf
            · replace hf := (if_neg c13).symm.trans hf
              refine xk_aload_n hC dL_areWell_333 0 rfl rfl ?_
              refine xk_iconst (v := (0 : Int32)) hC dL_areWell_334 (by decide) ?_
              obtain ⟨u15, h15, hf⟩ := xk_bi hf
              obtain ⟨q14, h14, hf⟩ := xk_bi hf
              refine xk_backi (xk_callV hC 1 xc_0 (c_X4_sheet h14) h15 xm_775 xm_724 xm_725 xm_1 xm_726 ⟨rfl, xd_X4_sheet⟩ rfl ⟨Nat.le_of_ble_eq_true rfl, Nat.le_of_ble_eq_true rfl⟩ rfl (Nat.le_of_ble_eq_true rfl) dL_areWell_335 ⟨(Nat.le_of_ble_eq_true rfl), (Nat.le_of_ble_eq_true rfl)⟩) ?_
              refine xk_aload_n hC dL_areWell_338 0 rfl rfl ?_
              refine xk_iconst (v := (1 : Int32)) hC dL_areWell_339 (by decide) ?_
              obtain ⟨u17, h17, hf⟩ := xk_bi hf
              obtain ⟨q16, h16, hf⟩ := xk_bi hf
              refine xk_backi (xk_callV hC 1 xc_0 (c_X4_sheet h16) h17 xm_775 xm_724 xm_725 xm_1 xm_726 ⟨rfl, xd_X4_sheet⟩ rfl ⟨Nat.le_of_ble_eq_true rfl, Nat.le_of_ble_eq_true rfl⟩ rfl (Nat.le_of_ble_eq_true rfl) dL_areWell_340 ⟨(Nat.le_of_ble_eq_true rfl), (Nat.le_of_ble_eq_true rfl)⟩) ?_
              refine xk_iadd hC dL_areWell_343 ?_
              refine xk_aload_n hC dL_areWell_344 0 rfl rfl ?_
              refine xk_iconst (v := (2 : Int32)) hC dL_areWell_345 (by decide) ?_
              obtain ⟨u19, h19, hf⟩ := xk_bi hf
              obtain ⟨q18, h18, hf⟩ := xk_bi hf
              refine xk_backi (xk_callV hC 1 xc_0 (c_X4_sheet h18) h19 xm_775 xm_724 xm_725 xm_1 xm_726 ⟨rfl, xd_X4_sheet⟩ rfl ⟨Nat.le_of_ble_eq_true rfl, Nat.le_of_ble_eq_true rfl⟩ rfl (Nat.le_of_ble_eq_true rfl) dL_areWell_346 ⟨(Nat.le_of_ble_eq_true rfl), (Nat.le_of_ble_eq_true rfl)⟩) ?_
              refine xk_iadd hC dL_areWell_349 ?_
              refine xk_aload_n hC dL_areWell_350 0 rfl rfl ?_
              refine xk_iconst (v := (3 : Int32)) hC dL_areWell_351 (by decide) ?_
              obtain ⟨u21, h21, hf⟩ := xk_bi hf
              obtain ⟨q20, h20, hf⟩ := xk_bi hf
              refine xk_backi (xk_callV hC 1 xc_0 (c_X4_sheet h20) h21 xm_775 xm_724 xm_725 xm_1 xm_726 ⟨rfl, xd_X4_sheet⟩ rfl ⟨Nat.le_of_ble_eq_true rfl, Nat.le_of_ble_eq_true rfl⟩ rfl (Nat.le_of_ble_eq_true rfl) dL_areWell_352 ⟨(Nat.le_of_ble_eq_true rfl), (Nat.le_of_ble_eq_true rfl)⟩) ?_
              refine xk_iadd hC dL_areWell_355 ?_
              refine xk_iload_n hC dL_areWell_356 1 rfl rfl ?_
              refine xk_icmp_ne (tgt := 364) hC dL_areWell_357 (by decide) (fun c22 => ?_) (fun c22 => ?_)
              · replace hf := (if_neg c22).symm.trans hf
                refine xk_locals [] rfl ?_
                exact t_L_areWell_364 hC hr (q20.2) hf
              · replace hf := (if_pos c22).symm.trans hf
                refine xk_iconst (v := (1 : Int32)) hC dL_areWell_360 (by decide) ?_
                refine xk_goto (tgt := 365) hC dL_areWell_361 (by decide) ?_
                refine xk_locals [] rfl ?_
                exact t_L_areWell_365 hC hr ((1 : Int32)) (q20.2) hf
    · replace hf := (if_neg c1).symm.trans hf
      refine xk_aload_n hC dL_areWell_202 0 rfl rfl ?_
      refine xk_iload hC dL_areWell_203 4 rfl ?_
      refine xk_iconst (v := (4 : Int32)) hC dL_areWell_205 (by decide) ?_
      obtain ⟨u24, h24, hf⟩ := xk_bi hf
      obtain ⟨q23, h23, hf⟩ := xk_bi hf
      refine xk_backi (xk_callV hC 2 xc_0 (c_X4_ofHit h23) h24 xm_745 xm_676 xm_677 xm_1 xm_678 ⟨rfl, xd_X4_ofHit⟩ rfl ⟨Nat.le_of_ble_eq_true rfl, Nat.le_of_ble_eq_true rfl⟩ rfl (Nat.le_of_ble_eq_true rfl) dL_areWell_206 ⟨(Nat.le_of_ble_eq_true rfl), (Nat.le_of_ble_eq_true rfl)⟩) ?_
      refine xk_if_ne (tgt := 215) hC dL_areWell_209 (by decide) (fun c25 => ?_) (fun c25 => ?_)
      · replace hf := (if_neg c25).symm.trans hf
        refine xk_iinc (v := x3 + (1 : Int32)) (lv' := [(3, .int (x3 + (1 : Int32))), (0, va_rf (x0)), (1, .int (x1)), (2, .int (x2)), (4, .int (x4))]) hC dL_areWell_215 3 rfl rfl (by decide) rfl ?_
        refine xk_aload_n hC dL_areWell_218 1 rfl rfl ?_
        refine xk_aload_n hC dL_areWell_219 1 rfl rfl ?_
        refine xk_iload hC dL_areWell_220 4 rfl ?_
        refine xk_iconst (v := (5 : Int32)) hC dL_areWell_222 (by decide) ?_
        obtain ⟨u27, h27, hf⟩ := xk_bi hf
        obtain ⟨q26, h26, hf⟩ := xk_bi hf
        refine xk_backi (xk_callV hC 2 xc_0 (c_X4_ofHit h26) h27 xm_745 xm_676 xm_677 xm_1 xm_678 ⟨rfl, xd_X4_ofHit⟩ rfl ⟨Nat.le_of_ble_eq_true rfl, Nat.le_of_ble_eq_true rfl⟩ rfl (by simp [xk_cat1, xk_cati, xk_catl, xk_catd]) dL_areWell_223 ⟨(Nat.le_of_ble_eq_true rfl), (Nat.le_of_ble_eq_true rfl)⟩) ?_
        refine xk_aload_n hC dL_areWell_226 1 rfl rfl ?_
        refine xk_iload hC dL_areWell_227 4 rfl ?_
        refine xk_bipush (v := (6 : Int32)) hC dL_areWell_229 (by decide) ?_
        obtain ⟨u29, h29, hf⟩ := xk_bi hf
        obtain ⟨q28, h28, hf⟩ := xk_bi hf
        refine xk_backi (xk_callV hC 2 xc_0 (c_X4_ofHit h28) h29 xm_745 xm_676 xm_677 xm_1 xm_678 ⟨rfl, xd_X4_ofHit⟩ rfl ⟨Nat.le_of_ble_eq_true rfl, Nat.le_of_ble_eq_true rfl⟩ rfl (by simp [xk_cat1, xk_cati, xk_catl, xk_catd]) dL_areWell_231 ⟨(Nat.le_of_ble_eq_true rfl), (Nat.le_of_ble_eq_true rfl)⟩) ?_
        obtain ⟨u31, h31, hf⟩ := xk_bi hf
        obtain ⟨q30, h30, hf⟩ := xk_bi hf
        refine xk_backi (xk_callV hC 2 xc_0 (c_X4_beat h30) h31 xm_769 xm_770 xm_771 xm_1 xm_772 ⟨rfl, xd_X4_beat⟩ rfl ⟨Nat.le_of_ble_eq_true rfl, Nat.le_of_ble_eq_true rfl⟩ rfl (Nat.le_of_ble_eq_true rfl) dL_areWell_234 ⟨(Nat.le_of_ble_eq_true rfl), (Nat.le_of_ble_eq_true rfl)⟩) ?_
        refine xk_aload_n hC dL_areWell_237 1 rfl rfl ?_
        refine xk_iload hC dL_areWell_238 4 rfl ?_
        refine xk_iconst (v := (0 : Int32)) hC dL_areWell_240 (by decide) ?_
        obtain ⟨u33, h33, hf⟩ := xk_bi hf
        obtain ⟨q32, h32, hf⟩ := xk_bi hf
        refine xk_backi (xk_callV hC 2 xc_0 (c_X4_ofHit h32) h33 xm_745 xm_676 xm_677 xm_1 xm_678 ⟨rfl, xd_X4_ofHit⟩ rfl ⟨Nat.le_of_ble_eq_true rfl, Nat.le_of_ble_eq_true rfl⟩ rfl (Nat.le_of_ble_eq_true rfl) dL_areWell_241 ⟨(Nat.le_of_ble_eq_true rfl), (Nat.le_of_ble_eq_true rfl)⟩) ?_
        refine xk_isub hC dL_areWell_244 ?_
        refine xk_mabs hC xm_774 xm_449 xm_13 xm_450 (Nat.le_of_ble_eq_true rfl) (Nat.le_of_ble_eq_true rfl) (Nat.le_of_ble_eq_true rfl) (Nat.le_of_ble_eq_true rfl) dL_areWell_245 ?_
        refine xk_istore (i := 5) (lv' := [(5, .int (if 0 ≤ ((q30.1) - (q32.1)) then ((q30.1) - (q32.1)) else 0 - ((q30.1) - (q32.1)))), (3, .int (x3 + (1 : Int32))), (0, va_rf (x0)), (1, .int (x1)), (2, .int (x2)), (4, .int (x4))]) hC dL_areWell_248 (by decide) rfl ?_
        refine xk_aload_n hC dL_areWell_250 2 rfl rfl ?_
        refine xk_iload hC dL_areWell_251 5 rfl ?_
        refine xk_iconst (v := (2 : Int32)) hC dL_areWell_253 (by decide) ?_
        obtain ⟨u35, h35, hf⟩ := xk_bi hf
        obtain ⟨q34, h34, hf⟩ := xk_bi hf
        refine xk_backi (xk_callV hC 2 xc_0 (c_X4_ofHit h34) h35 xm_745 xm_676 xm_677 xm_1 xm_678 ⟨rfl, xd_X4_ofHit⟩ rfl ⟨Nat.le_of_ble_eq_true rfl, Nat.le_of_ble_eq_true rfl⟩ rfl (Nat.le_of_ble_eq_true rfl) dL_areWell_254 ⟨(Nat.le_of_ble_eq_true rfl), (Nat.le_of_ble_eq_true rfl)⟩) ?_
        refine xk_iconst (v := (1 : Int32)) hC dL_areWell_257 (by decide) ?_
        refine xk_icmp_eq (tgt := 285) hC dL_areWell_258 (by decide) (fun c36 => ?_) (fun c36 => ?_)
        · replace hf := (if_pos c36).symm.trans hf
          refine xk_locals [] rfl ?_
          exact t_L_areWell_285 hC hr (q34.2) hf
        · replace hf := (if_neg c36).symm.trans hf
          refine xk_iload hC dL_areWell_261 0 rfl ?_
          refine xk_aload_n hC dL_areWell_263 2 rfl rfl ?_
          refine xk_iload hC dL_areWell_264 5 rfl ?_
          refine xk_iconst (v := (3 : Int32)) hC dL_areWell_266 (by decide) ?_
          obtain ⟨u38, h38, hf⟩ := xk_bi hf
          obtain ⟨q37, h37, hf⟩ := xk_bi hf
          refine xk_backi (xk_callV hC 2 xc_0 (c_X4_ofHit h37) h38 xm_745 xm_676 xm_677 xm_1 xm_678 ⟨rfl, xd_X4_ofHit⟩ rfl ⟨Nat.le_of_ble_eq_true rfl, Nat.le_of_ble_eq_true rfl⟩ rfl (Nat.le_of_ble_eq_true rfl) dL_areWell_267 ⟨(Nat.le_of_ble_eq_true rfl), (Nat.le_of_ble_eq_true rfl)⟩) ?_
          refine xk_icmp_ne (tgt := 285) hC dL_areWell_270 (by decide) (fun c39 => ?_) (fun c39 => ?_)
          · replace hf := (if_neg c39).symm.trans hf
            refine xk_locals [] rfl ?_
            exact t_L_areWell_285 hC hr (q37.2) hf
          · replace hf := (if_pos c39).symm.trans hf
            refine xk_iload hC dL_areWell_273 0 rfl ?_
            refine xk_aload_n hC dL_areWell_275 2 rfl rfl ?_
            refine xk_iload hC dL_areWell_276 5 rfl ?_
            refine xk_iconst (v := (1 : Int32)) hC dL_areWell_278 (by decide) ?_
            obtain ⟨u41, h41, hf⟩ := xk_bi hf
            obtain ⟨q40, h40, hf⟩ := xk_bi hf
            refine xk_backi (xk_callV hC 2 xc_0 (c_X4_ofHit h40) h41 xm_745 xm_676 xm_677 xm_1 xm_678 ⟨rfl, xd_X4_ofHit⟩ rfl ⟨Nat.le_of_ble_eq_true rfl, Nat.le_of_ble_eq_true rfl⟩ rfl (Nat.le_of_ble_eq_true rfl) dL_areWell_279 ⟨(Nat.le_of_ble_eq_true rfl), (Nat.le_of_ble_eq_true rfl)⟩) ?_
            refine xk_icmp_le (tgt := 287) hC dL_areWell_282 (by decide) (fun c42 => ?_) (fun c42 => ?_)
            · replace hf := (if_pos c42).symm.trans hf
              refine xk_locals [2, 3, 4, 1, 5] rfl ?_
              exact t_L_areWell_287 hC hr (fun x0 x1 x2 x3 x4 w hf => ih x0 x1 x2 x3 x4 w hf) x0 x1 x2 (x3 + (1 : Int32)) x4 (q40.2) hf
            · replace hf := (if_neg c42).symm.trans hf
              refine xk_locals [] rfl ?_
              exact t_L_areWell_285 hC hr (q40.2) hf
      · replace hf := (if_pos c25).symm.trans hf
        refine xk_goto (tgt := 287) hC dL_areWell_212 (by decide) ?_
        exact t_L_areWell_287 hC hr (fun x0 x1 x2 x3 x4 w hf => ih x0 x1 x2 x3 x4 w hf) x0 x1 x2 x3 x4 (q23.2) hf
def f_L_areWell_6 : Nat → Option Nat → Int32 → Int32 → Int32 → xWd → Option (Int32 × xWd)
  | 0, _, _, _, _, _ => none
  | n + 1, x0, x1, x2, x3, w => if ((4 : Int32)) ≤ (x3) then f_L_areWell_195 4096 x0 x1 x2 ((0 : Int32)) ((0 : Int32)) w else (xk_is w (x0) 0).bind (fun u3 => (f_X4_ofCue (x0) (x3) ((7 : Int32)) w).bind (fun q2 => (xk_is q2.2 (x0) 0).bind (fun u5 => (f_X4_ofCue (x0) (x3) ((0 : Int32)) q2.2).bind (fun q4 => f_L_areWell_33 (f_L_areWell_6 n) 4096 x0 x1 x2 x3 (q2.1) ((q4.1) - ((1 : Int32))) ((0 : Int32)) (q4.2)))))
set_option maxHeartbeats 4000000 in
set_option maxRecDepth 100000 in
theorem t_L_areWell_6 {p : Program} {l : Launch} {e : Env} {s : State} {m : MethodId} {args : Array Value} {below : List Frame} {meth : Method} {c : Code} {E : xEv} (hC : xk_C p s m args meth c E method_6_code "ClickbookLaw" 8) (hr : meth.sig.returnType = (some .boolean)) {q : (Int32 × xWd)} : ∀ (n : Nat) (x0 : Option Nat) (x1 : Int32) (x2 : Int32) (x3 : Int32) (w : xWd), f_L_areWell_6 n x0 x1 x2 x3 w = some q → xk_X p l e { frames := 8, cells := 0, slots := 0, locals := 175 } s m args below meth c (MQ below (xk_Qi E q) args s 0 0 (xk_A E.2.2.1)) E 8 0 0 6 [(0, va_rf (x0)), (1, .int (x1)), (2, .int (x2)), (3, .int (x3))] [] w := by
  intro n
  induction n with
  | zero => intro x0 x1 x2 x3 w hf; have hf : none = some q := hf; cases hf
  | succ n ih =>
    intro x0 x1 x2 x3 w hf
    refine xk_iload_n hC dL_areWell_6 3 rfl rfl ?_
    refine xk_iconst (v := (4 : Int32)) hC dL_areWell_7 (by decide) ?_
    refine xk_icmp_ge (tgt := 190) hC dL_areWell_8 (by decide) (fun c1 => ?_) (fun c1 => ?_)
    · replace hf := (if_pos c1).symm.trans hf
      refine xk_iconst (v := (0 : Int32)) hC dL_areWell_190 (by decide) ?_
      refine xk_istore_n (i := 3) (lv' := [(3, .int ((0 : Int32))), (0, va_rf (x0)), (1, .int (x1)), (2, .int (x2))]) hC dL_areWell_191 rfl (by decide) rfl ?_
      refine xk_iconst (v := (0 : Int32)) hC dL_areWell_192 (by decide) ?_
      refine xk_istore (i := 4) (lv' := [(4, .int ((0 : Int32))), (3, .int ((0 : Int32))), (0, va_rf (x0)), (1, .int (x1)), (2, .int (x2))]) hC dL_areWell_193 (by decide) rfl ?_
      refine xk_locals [2, 3, 4, 1, 0] rfl ?_
      exact t_L_areWell_195 hC hr 4096 x0 x1 x2 ((0 : Int32)) ((0 : Int32)) w hf
    · replace hf := (if_neg c1).symm.trans hf
      refine xk_aload_n hC dL_areWell_11 0 rfl rfl ?_
      refine xk_iload_n hC dL_areWell_12 3 rfl rfl ?_
      refine xk_bipush (v := (7 : Int32)) hC dL_areWell_13 (by decide) ?_
      obtain ⟨u3, h3, hf⟩ := xk_bi hf
      obtain ⟨q2, h2, hf⟩ := xk_bi hf
      refine xk_backi (xk_callV hC 2 xc_0 (c_X4_ofCue h2) h3 xm_503 xm_504 xm_505 xm_1 xm_506 ⟨rfl, xd_X4_ofCue⟩ rfl ⟨Nat.le_of_ble_eq_true rfl, Nat.le_of_ble_eq_true rfl⟩ rfl (Nat.le_of_ble_eq_true rfl) dL_areWell_15 ⟨(Nat.le_of_ble_eq_true rfl), (Nat.le_of_ble_eq_true rfl)⟩) ?_
      refine xk_istore (i := 4) (lv' := [(4, .int (q2.1)), (0, va_rf (x0)), (1, .int (x1)), (2, .int (x2)), (3, .int (x3))]) hC dL_areWell_18 (by decide) rfl ?_
      refine xk_aload_n hC dL_areWell_20 1 rfl rfl ?_
      refine xk_iload_n hC dL_areWell_21 4 rfl rfl ?_
      refine xk_iconst (v := (0 : Int32)) hC dL_areWell_22 (by decide) ?_
      obtain ⟨u5, h5, hf⟩ := xk_bi hf
      obtain ⟨q4, h4, hf⟩ := xk_bi hf
      refine xk_backi (xk_callV hC 2 xc_0 (c_X4_ofCue h4) h5 xm_503 xm_504 xm_505 xm_1 xm_506 ⟨rfl, xd_X4_ofCue⟩ rfl ⟨Nat.le_of_ble_eq_true rfl, Nat.le_of_ble_eq_true rfl⟩ rfl (Nat.le_of_ble_eq_true rfl) dL_areWell_23 ⟨(Nat.le_of_ble_eq_true rfl), (Nat.le_of_ble_eq_true rfl)⟩) ?_
      refine xk_iconst (v := (1 : Int32)) hC dL_areWell_26 (by decide) ?_
      refine xk_isub hC dL_areWell_27 ?_
      refine xk_istore (i := 5) (lv' := [(5, .int ((q4.1) - ((1 : Int32)))), (4, .int (q2.1)), (0, va_rf (x0)), (1, .int (x1)), (2, .int (x2)), (3, .int (x3))]) hC dL_areWell_28 (by decide) rfl ?_
      refine xk_iconst (v := (0 : Int32)) hC dL_areWell_30 (by decide) ?_
      refine xk_istore (i := 6) (lv' := [(6, .int ((0 : Int32))), (5, .int ((q4.1) - ((1 : Int32)))), (4, .int (q2.1)), (0, va_rf (x0)), (1, .int (x1)), (2, .int (x2)), (3, .int (x3))]) hC dL_areWell_31 (by decide) rfl ?_
      refine xk_locals [3, 4, 5, 6, 2, 1, 0] rfl ?_
      exact t_L_areWell_33 hC hr (fun x0 x1 x2 x3 w hf => ih x0 x1 x2 x3 w hf) 4096 x0 x1 x2 x3 (q2.1) ((q4.1) - ((1 : Int32))) ((0 : Int32)) (q4.2) hf
def f_L_areWell (x0 : Option Nat) (w : xWd) : Option (Int32 × xWd) := f_L_areWell_6 4096 x0 ((0 : Int32)) ((0 : Int32)) ((0 : Int32)) w
set_option maxHeartbeats 4000000 in
set_option maxRecDepth 100000 in
theorem t_L_areWell_0 {p : Program} {l : Launch} {e : Env} {s : State} {m : MethodId} {args : Array Value} {below : List Frame} {meth : Method} {c : Code} {E : xEv} (hC : xk_C p s m args meth c E method_6_code "ClickbookLaw" 8) (hr : meth.sig.returnType = (some .boolean)) {q : (Int32 × xWd)} (x0 : Option Nat) (w : xWd) (hf : f_L_areWell x0 w = some q) : xk_X p l e { frames := 8, cells := 0, slots := 0, locals := 175 } s m args below meth c (MQ below (xk_Qi E q) args s 0 0 (xk_A E.2.2.1)) E 8 0 0 0 [(0, va_rf (x0))] [] w := by
  refine xk_iconst (v := (0 : Int32)) hC dL_areWell_0 (by decide) ?_
  refine xk_istore_n (i := 1) (lv' := [(1, .int ((0 : Int32))), (0, va_rf (x0))]) hC dL_areWell_1 rfl (by decide) (by simp [xk_cat1]) ?_
  refine xk_iconst (v := (0 : Int32)) hC dL_areWell_2 (by decide) ?_
  refine xk_istore_n (i := 2) (lv' := [(2, .int ((0 : Int32))), (1, .int ((0 : Int32))), (0, va_rf (x0))]) hC dL_areWell_3 rfl (by decide) rfl ?_
  refine xk_iconst (v := (0 : Int32)) hC dL_areWell_4 (by decide) ?_
  refine xk_istore_n (i := 3) (lv' := [(3, .int ((0 : Int32))), (2, .int ((0 : Int32))), (1, .int ((0 : Int32))), (0, va_rf (x0))]) hC dL_areWell_5 rfl (by decide) rfl ?_
  refine xk_locals [3, 2, 1, 0] rfl ?_
  exact t_L_areWell_6 hC hr 4096 x0 ((0 : Int32)) ((0 : Int32)) ((0 : Int32)) w hf
theorem xd_L_areWell : xy_L_areWell.cls ≠ "java/lang/invoke/MethodHandle" ∧ xy_L_areWell.cls ≠ "java/lang/invoke/VarHandle" ∧ (parseMethodDescriptor xy_L_areWell.desc).map (fun d => d.parameters.length) = some 1 := ⟨by decide +kernel, by decide +kernel, by decide +kernel⟩
theorem c_L_areWell {l : Launch} {E : xEv} {x0 : Option Nat} {w : xWd} {q : (Int32 × xWd)} (hf : f_L_areWell x0 w = some q) : xk_M l xy_L_areWell method_6_code 8 (some .boolean) 8 175 0 0 E [va_rf (x0)] w (xk_Qi E q) := by
  refine xk_enter (by decide +kernel) (by simp [lg_sl, xk_cat1, xk_cati, xk_catl, xk_catd]) ?_
  intro p e s m args below meth c hC hr hin ha
  rw [show lv_args 0 [va_rf (x0)] = [(0, va_rf (x0))] by simp [lv_args, xk_cat1, xk_cati, xk_catl, xk_catd]]
  exact t_L_areWell_0 hC hr x0 w hf
