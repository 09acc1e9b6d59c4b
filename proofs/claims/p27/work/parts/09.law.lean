def f_L_below (x0 : Int32) (x1 : Int32) (w : xWd) : Option (Int32 × xWd) := (xk_nz (x1)).bind (fun u1 => some (((x0) &&& ((2147483647 : Int32))) - ((x0) &&& ((2147483647 : Int32))) / (x1) * (x1), w))
set_option maxHeartbeats 4000000 in
set_option maxRecDepth 100000 in
theorem t_L_below_0 {p : Program} {l : Launch} {e : Env} {s : State} {m : MethodId} {args : Array Value} {below : List Frame} {meth : Method} {c : Code} {E : xEv} (hC : xk_C p s m args meth c E method_2_code "ClickbookLaw" 2) (hr : meth.sig.returnType = (some .int)) {q : (Int32 × xWd)} (x0 : Int32) (x1 : Int32) (w : xWd) (hf : f_L_below x0 x1 w = some q) : xk_X p l e { frames := 0, cells := 0, slots := 0, locals := 0 } s m args below meth c (MQ below (xk_Qi E q) args s 0 0 (xk_A E.2.2.1)) E 2 0 0 0 [(0, .int (x0)), (1, .int (x1))] [] w := by
  refine xk_iload_n hC dL_below_0 0 rfl rfl ?_
  refine xk_ldc (v := (2147483647 : Int32)) hC dL_below_1 xm_737 ?_
  refine xk_iand hC dL_below_3 ?_
  refine xk_iload_n hC dL_below_4 1 rfl rfl ?_
  obtain ⟨u1, h1, hf⟩ := xk_bi hf
  refine xk_irem hC dL_below_5 (xk_nz_e h1) ?_
  cases hf
  refine xk_widen (k := 0) (n := 0) (Nat.le_of_ble_eq_true rfl) (Nat.le_of_ble_eq_true rfl) ?_
  exact xk_iret hC hr rfl dL_below_6
theorem xd_L_below : xy_L_below.cls ≠ "java/lang/invoke/MethodHandle" ∧ xy_L_below.cls ≠ "java/lang/invoke/VarHandle" ∧ (parseMethodDescriptor xy_L_below.desc).map (fun d => d.parameters.length) = some 2 := ⟨by decide +kernel, by decide +kernel, by decide +kernel⟩
theorem c_L_below {l : Launch} {E : xEv} {x0 : Int32} {x1 : Int32} {w : xWd} {q : (Int32 × xWd)} (hf : f_L_below x0 x1 w = some q) : xk_M l xy_L_below method_2_code 2 (some .int) 0 0 0 0 E [.int (x0), .int (x1)] w (xk_Qi E q) := by
  refine xk_enter (by decide +kernel) (by simp [lg_sl, xk_cat1, xk_cati, xk_catl, xk_catd]) ?_
  intro p e s m args below meth c hC hr hin ha
  rw [show lv_args 0 [.int (x0), .int (x1)] = [(0, .int (x0)), (1, .int (x1))] by simp [lv_args, xk_cat1, xk_cati, xk_catl, xk_catd]]
  exact t_L_below_0 hC hr x0 x1 w hf
def f_L_cell_18 (s0 : Int32) (w : xWd) : Option (Int32 × xWd) := some (s0, w)
set_option maxHeartbeats 4000000 in
set_option maxRecDepth 100000 in
theorem t_L_cell_18 {p : Program} {l : Launch} {e : Env} {s : State} {m : MethodId} {args : Array Value} {below : List Frame} {meth : Method} {c : Code} {E : xEv} (hC : xk_C p s m args meth c E method_3_code "ClickbookLaw" 2) (hr : meth.sig.returnType = (some .int)) {q : (Int32 × xWd)} (s0 : Int32) (w : xWd) (hf : f_L_cell_18 s0 w = some q) : xk_X p l e { frames := 0, cells := 0, slots := 0, locals := 0 } s m args below meth c (MQ below (xk_Qi E q) args s 0 0 (xk_A E.2.2.1)) E 2 0 0 18 [] [.int (s0)] w := by
  cases hf
  refine xk_widen (k := 0) (n := 0) (Nat.le_of_ble_eq_true rfl) (Nat.le_of_ble_eq_true rfl) ?_
  exact xk_iret hC hr rfl dL_cell_18
def f_L_cell (x0 : Option Nat) (x1 : Int32) (w : xWd) : Option (Int32 × xWd) := (xk_len w (x0)).bind (fun v1 => if (v1) ≤ (x1) then f_L_cell_18 (((790386105 : Int32)) * ((x1) + ((3 : Int32)))) w else (xk_lI 0 w (x0) (x1)).bind (fun v3 => f_L_cell_18 v3 w))
set_option maxHeartbeats 4000000 in
set_option maxRecDepth 100000 in
theorem t_L_cell_0 {p : Program} {l : Launch} {e : Env} {s : State} {m : MethodId} {args : Array Value} {below : List Frame} {meth : Method} {c : Code} {E : xEv} (hC : xk_C p s m args meth c E method_3_code "ClickbookLaw" 2) (hr : meth.sig.returnType = (some .int)) {q : (Int32 × xWd)} (x0 : Option Nat) (x1 : Int32) (w : xWd) (hf : f_L_cell x0 x1 w = some q) : xk_X p l e { frames := 0, cells := 0, slots := 0, locals := 0 } s m args below meth c (MQ below (xk_Qi E q) args s 0 0 (xk_A E.2.2.1)) E 2 0 0 0 [(0, va_rf (x0)), (1, .int (x1))] [] w := by
  refine xk_iload_n hC dL_cell_0 1 rfl rfl ?_
  refine xk_aload_n hC dL_cell_1 0 rfl rfl ?_
  obtain ⟨v1, h1, hf⟩ := xk_bi hf
  refine xk_alen hC dL_cell_2 h1 ?_
  refine xk_icmp_ge (tgt := 12) hC dL_cell_3 (by decide) (fun c2 => ?_) (fun c2 => ?_)
  · replace hf := (if_pos c2).symm.trans hf
    refine xk_ldc (v := (790386105 : Int32)) hC dL_cell_12 xm_741 ?_
    refine xk_iload_n hC dL_cell_14 1 rfl rfl ?_
    refine xk_iconst (v := (3 : Int32)) hC dL_cell_15 (by decide) ?_
    refine xk_iadd hC dL_cell_16 ?_
    refine xk_imul hC dL_cell_17 ?_
    refine xk_locals [] rfl ?_
    exact t_L_cell_18 hC hr (((790386105 : Int32)) * ((x1) + ((3 : Int32)))) w hf
  · replace hf := (if_neg c2).symm.trans hf
    refine xk_aload_n hC dL_cell_6 0 rfl rfl ?_
    refine xk_iload_n hC dL_cell_7 1 rfl rfl ?_
    obtain ⟨v3, h3, hf⟩ := xk_bi hf
    refine xk_iald hC rfl dL_cell_8 h3 ?_
    refine xk_goto (tgt := 18) hC dL_cell_9 (by decide) ?_
    refine xk_locals [] rfl ?_
    exact t_L_cell_18 hC hr v3 w hf
theorem xd_L_cell : xy_L_cell.cls ≠ "java/lang/invoke/MethodHandle" ∧ xy_L_cell.cls ≠ "java/lang/invoke/VarHandle" ∧ (parseMethodDescriptor xy_L_cell.desc).map (fun d => d.parameters.length) = some 2 := ⟨by decide +kernel, by decide +kernel, by decide +kernel⟩
theorem c_L_cell {l : Launch} {E : xEv} {x0 : Option Nat} {x1 : Int32} {w : xWd} {q : (Int32 × xWd)} (hf : f_L_cell x0 x1 w = some q) : xk_M l xy_L_cell method_3_code 2 (some .int) 0 0 0 0 E [va_rf (x0), .int (x1)] w (xk_Qi E q) := by
  refine xk_enter (by decide +kernel) (by simp [lg_sl, xk_cat1, xk_cati, xk_catl, xk_catd]) ?_
  intro p e s m args below meth c hC hr hin ha
  rw [show lv_args 0 [va_rf (x0), .int (x1)] = [(0, va_rf (x0)), (1, .int (x1))] by simp [lv_args, xk_cat1, xk_cati, xk_catl, xk_catd]]
  exact t_L_cell_0 hC hr x0 x1 w hf
def f_L_isBack_77 (k21 : Option Nat → Int32 → Int32 → Option Nat → Option Nat → Option Nat → Int32 → Int32 → xWd → Option (Int32 × xWd)) (x0 : Option Nat) (x1 : Int32) (x2 : Int32) (x3 : Option Nat) (x4 : Option Nat) (x5 : Option Nat) (x7 : Int32) (s0 : Int32) (s1 : Int32) (w : xWd) : Option (Int32 × xWd) := k21 x0 x1 x2 x3 x4 x5 ((s1) + (s0)) (x7 + (1 : Int32)) w
set_option maxHeartbeats 4000000 in
set_option maxRecDepth 100000 in
theorem t_L_isBack_77 {p : Program} {l : Launch} {e : Env} {s : State} {m : MethodId} {args : Array Value} {below : List Frame} {meth : Method} {c : Code} {E : xEv} (hC : xk_C p s m args meth c E method_5_code "ClickbookLaw" 13) (hr : meth.sig.returnType = (some .boolean)) {q : (Int32 × xWd)} {k21 : Option Nat → Int32 → Int32 → Option Nat → Option Nat → Option Nat → Int32 → Int32 → xWd → Option (Int32 × xWd)} (hk21 : ∀ (x0 : Option Nat) (x1 : Int32) (x2 : Int32) (x3 : Option Nat) (x4 : Option Nat) (x5 : Option Nat) (x6 : Int32) (x7 : Int32) (w : xWd), k21 x0 x1 x2 x3 x4 x5 x6 x7 w = some q → xk_X p l e { frames := 8, cells := 3, slots := 192, locals := 175 } s m args below meth c (MQ below (xk_Qi E q) args s 3 192 (xk_A E.2.2.1)) E 13 3 192 21 [(0, va_rf (x0)), (1, .int (x1)), (2, .int (x2)), (3, va_rf (x3)), (4, va_rf (x4)), (5, va_rf (x5)), (6, .int (x6)), (7, .int (x7))] [] w) (x0 : Option Nat) (x1 : Int32) (x2 : Int32) (x3 : Option Nat) (x4 : Option Nat) (x5 : Option Nat) (x7 : Int32) (s0 : Int32) (s1 : Int32) (w : xWd) (hf : f_L_isBack_77 k21 x0 x1 x2 x3 x4 x5 x7 s0 s1 w = some q) : xk_X p l e { frames := 8, cells := 3, slots := 192, locals := 175 } s m args below meth c (MQ below (xk_Qi E q) args s 3 192 (xk_A E.2.2.1)) E 13 3 192 77 [(0, va_rf (x0)), (1, .int (x1)), (2, .int (x2)), (3, va_rf (x3)), (4, va_rf (x4)), (5, va_rf (x5)), (7, .int (x7))] [.int (s0), .int (s1)] w := by
  refine xk_iadd hC dL_isBack_77 ?_
  refine xk_istore (i := 6) (lv' := [(6, .int ((s1) + (s0))), (0, va_rf (x0)), (1, .int (x1)), (2, .int (x2)), (3, va_rf (x3)), (4, va_rf (x4)), (5, va_rf (x5)), (7, .int (x7))]) hC dL_isBack_78 (by decide) (by simp [xk_cat1]) ?_
  refine xk_iinc (v := x7 + (1 : Int32)) (lv' := [(7, .int (x7 + (1 : Int32))), (6, .int ((s1) + (s0))), (0, va_rf (x0)), (1, .int (x1)), (2, .int (x2)), (3, va_rf (x3)), (4, va_rf (x4)), (5, va_rf (x5))]) hC dL_isBack_80 7 rfl rfl (by decide) rfl ?_
  refine xk_goto (tgt := 21) hC dL_isBack_83 (by decide) ?_
  refine xk_locals [2, 3, 4, 5, 6, 7, 1, 0] rfl ?_
  exact hk21 x0 x1 x2 x3 x4 x5 ((s1) + (s0)) (x7 + (1 : Int32)) w hf
def f_L_isBack_76 (k21 : Option Nat → Int32 → Int32 → Option Nat → Option Nat → Option Nat → Int32 → Int32 → xWd → Option (Int32 × xWd)) (x0 : Option Nat) (x1 : Int32) (x2 : Int32) (x3 : Option Nat) (x4 : Option Nat) (x5 : Option Nat) (x7 : Int32) (s0 : Int32) (w : xWd) : Option (Int32 × xWd) := f_L_isBack_77 k21 x0 x1 x2 x3 x4 x5 x7 ((0 : Int32)) s0 w
set_option maxHeartbeats 4000000 in
set_option maxRecDepth 100000 in
theorem t_L_isBack_76 {p : Program} {l : Launch} {e : Env} {s : State} {m : MethodId} {args : Array Value} {below : List Frame} {meth : Method} {c : Code} {E : xEv} (hC : xk_C p s m args meth c E method_5_code "ClickbookLaw" 13) (hr : meth.sig.returnType = (some .boolean)) {q : (Int32 × xWd)} {k21 : Option Nat → Int32 → Int32 → Option Nat → Option Nat → Option Nat → Int32 → Int32 → xWd → Option (Int32 × xWd)} (hk21 : ∀ (x0 : Option Nat) (x1 : Int32) (x2 : Int32) (x3 : Option Nat) (x4 : Option Nat) (x5 : Option Nat) (x6 : Int32) (x7 : Int32) (w : xWd), k21 x0 x1 x2 x3 x4 x5 x6 x7 w = some q → xk_X p l e { frames := 8, cells := 3, slots := 192, locals := 175 } s m args below meth c (MQ below (xk_Qi E q) args s 3 192 (xk_A E.2.2.1)) E 13 3 192 21 [(0, va_rf (x0)), (1, .int (x1)), (2, .int (x2)), (3, va_rf (x3)), (4, va_rf (x4)), (5, va_rf (x5)), (6, .int (x6)), (7, .int (x7))] [] w) (x0 : Option Nat) (x1 : Int32) (x2 : Int32) (x3 : Option Nat) (x4 : Option Nat) (x5 : Option Nat) (x7 : Int32) (s0 : Int32) (w : xWd) (hf : f_L_isBack_76 k21 x0 x1 x2 x3 x4 x5 x7 s0 w = some q) : xk_X p l e { frames := 8, cells := 3, slots := 192, locals := 175 } s m args below meth c (MQ below (xk_Qi E q) args s 3 192 (xk_A E.2.2.1)) E 13 3 192 76 [(0, va_rf (x0)), (1, .int (x1)), (2, .int (x2)), (3, va_rf (x3)), (4, va_rf (x4)), (5, va_rf (x5)), (7, .int (x7))] [.int (s0)] w := by
  refine xk_iconst (v := (0 : Int32)) hC dL_isBack_76 (by decide) ?_
  exact t_L_isBack_77 hC hr hk21 x0 x1 x2 x3 x4 x5 x7 ((0 : Int32)) s0 w hf
def f_L_isBack_196 (w : xWd) : Option (Int32 × xWd) := some ((0 : Int32), w)
set_option maxHeartbeats 4000000 in
set_option maxRecDepth 100000 in
theorem t_L_isBack_196 {p : Program} {l : Launch} {e : Env} {s : State} {m : MethodId} {args : Array Value} {below : List Frame} {meth : Method} {c : Code} {E : xEv} (hC : xk_C p s m args meth c E method_5_code "ClickbookLaw" 13) (hr : meth.sig.returnType = (some .boolean)) {q : (Int32 × xWd)} (w : xWd) (hf : f_L_isBack_196 w = some q) : xk_X p l e { frames := 8, cells := 3, slots := 192, locals := 175 } s m args below meth c (MQ below (xk_Qi E q) args s 3 192 (xk_A E.2.2.1)) E 13 3 192 196 [] [] w := by
  refine xk_iconst (v := (0 : Int32)) hC dL_isBack_196 (by decide) ?_
  cases hf
  refine xk_widen (k := 3) (n := 192) (Nat.le_of_ble_eq_true rfl) (Nat.le_of_ble_eq_true rfl) ?_
  exact xk_iret hC hr rfl dL_isBack_197
def f_L_isBack_251 (w : xWd) : Option (Int32 × xWd) := some ((0 : Int32), w)
set_option maxHeartbeats 4000000 in
set_option maxRecDepth 100000 in
theorem t_L_isBack_251 {p : Program} {l : Launch} {e : Env} {s : State} {m : MethodId} {args : Array Value} {below : List Frame} {meth : Method} {c : Code} {E : xEv} (hC : xk_C p s m args meth c E method_5_code "ClickbookLaw" 13) (hr : meth.sig.returnType = (some .boolean)) {q : (Int32 × xWd)} (w : xWd) (hf : f_L_isBack_251 w = some q) : xk_X p l e { frames := 8, cells := 3, slots := 192, locals := 175 } s m args below meth c (MQ below (xk_Qi E q) args s 3 192 (xk_A E.2.2.1)) E 13 3 192 251 [] [] w := by
  refine xk_iconst (v := (0 : Int32)) hC dL_isBack_251 (by decide) ?_
  cases hf
  refine xk_widen (k := 3) (n := 192) (Nat.le_of_ble_eq_true rfl) (Nat.le_of_ble_eq_true rfl) ?_
  exact xk_iret hC hr rfl dL_isBack_252
def f_L_isBack_294 (w : xWd) : Option (Int32 × xWd) := some ((0 : Int32), w)
set_option maxHeartbeats 4000000 in
set_option maxRecDepth 100000 in
theorem t_L_isBack_294 {p : Program} {l : Launch} {e : Env} {s : State} {m : MethodId} {args : Array Value} {below : List Frame} {meth : Method} {c : Code} {E : xEv} (hC : xk_C p s m args meth c E method_5_code "ClickbookLaw" 13) (hr : meth.sig.returnType = (some .boolean)) {q : (Int32 × xWd)} (w : xWd) (hf : f_L_isBack_294 w = some q) : xk_X p l e { frames := 8, cells := 3, slots := 192, locals := 175 } s m args below meth c (MQ below (xk_Qi E q) args s 3 192 (xk_A E.2.2.1)) E 13 3 192 294 [] [] w := by
  refine xk_iconst (v := (0 : Int32)) hC dL_isBack_294 (by decide) ?_
  cases hf
  refine xk_widen (k := 3) (n := 192) (Nat.le_of_ble_eq_true rfl) (Nat.le_of_ble_eq_true rfl) ?_
  exact xk_iret hC hr rfl dL_isBack_295
def f_L_isBack_305 : Nat → Option Nat → Option Nat → Int32 → xWd → Option (Int32 × xWd)
  | 0, _, _, _, _ => none
  | n + 1, x0, x5, x12, w => if ((8 : Int32)) ≤ (x12) then some ((1 : Int32), w) else (xk_is w (x0) 0).bind (fun u3 => (f_X4_ofHit (x0) (x12) ((0 : Int32)) w).bind (fun q2 => (xk_lI 0 q2.2 (x5) (x12)).bind (fun v4 => if (q2.1) = (v4) then f_L_isBack_305 n x0 x5 (x12 + (1 : Int32)) (q2.2) else some ((0 : Int32), q2.2))))
set_option maxHeartbeats 4000000 in
set_option maxRecDepth 100000 in
theorem t_L_isBack_305 {p : Program} {l : Launch} {e : Env} {s : State} {m : MethodId} {args : Array Value} {below : List Frame} {meth : Method} {c : Code} {E : xEv} (hC : xk_C p s m args meth c E method_5_code "ClickbookLaw" 13) (hr : meth.sig.returnType = (some .boolean)) {q : (Int32 × xWd)} : ∀ (n : Nat) (x0 : Option Nat) (x5 : Option Nat) (x12 : Int32) (w : xWd), f_L_isBack_305 n x0 x5 x12 w = some q → xk_X p l e { frames := 8, cells := 3, slots := 192, locals := 175 } s m args below meth c (MQ below (xk_Qi E q) args s 3 192 (xk_A E.2.2.1)) E 13 3 192 305 [(0, va_rf (x0)), (5, va_rf (x5)), (12, .int (x12))] [] w := by
  intro n
  induction n with
  | zero => intro x0 x5 x12 w hf; have hf : none = some q := hf; cases hf
  | succ n ih =>
    intro x0 x5 x12 w hf
    refine xk_iload hC dL_isBack_305 2 rfl ?_
    refine xk_bipush (v := (8 : Int32)) hC dL_isBack_307 (by decide) ?_
    refine xk_icmp_ge (tgt := 335) hC dL_isBack_309 (by decide) (fun c1 => ?_) (fun c1 => ?_)
    · replace hf := (if_pos c1).symm.trans hf
      refine xk_iconst (v := (1 : Int32)) hC dL_isBack_335 (by decide) ?_
      cases hf
      refine xk_widen (k := 3) (n := 192) (Nat.le_of_ble_eq_true rfl) (Nat.le_of_ble_eq_true rfl) ?_
      exact xk_iret hC hr rfl dL_isBack_336
    · replace hf := (if_neg c1).symm.trans hf
      refine xk_aload_n hC dL_isBack_312 0 rfl rfl ?_
      refine xk_iload hC dL_isBack_313 2 rfl ?_
      refine xk_iconst (v := (0 : Int32)) hC dL_isBack_315 (by decide) ?_
      obtain ⟨u3, h3, hf⟩ := xk_bi hf
      obtain ⟨q2, h2, hf⟩ := xk_bi hf
      refine xk_backi (xk_callV hC 2 xc_0 (c_X4_ofHit h2) h3 xm_745 xm_676 xm_677 xm_1 xm_678 ⟨rfl, xd_X4_ofHit⟩ rfl ⟨Nat.le_of_ble_eq_true rfl, Nat.le_of_ble_eq_true rfl⟩ rfl (Nat.le_of_ble_eq_true rfl) dL_isBack_316 ⟨(Nat.le_of_ble_eq_true rfl), (Nat.le_of_ble_eq_true rfl)⟩) ?_
      refine xk_aload hC dL_isBack_319 1 rfl ?_
      refine xk_iload hC dL_isBack_321 2 rfl ?_
      obtain ⟨v4, h4, hf⟩ := xk_bi hf
      refine xk_iald hC rfl dL_isBack_323 h4 ?_
      refine xk_icmp_eq (tgt := 329) hC dL_isBack_324 (by decide) (fun c5 => ?_) (fun c5 => ?_)
      · replace hf := (if_pos c5).symm.trans hf
        refine xk_iinc (v := x12 + (1 : Int32)) (lv' := [(12, .int (x12 + (1 : Int32))), (0, va_rf (x0)), (5, va_rf (x5))]) hC dL_isBack_329 2 rfl rfl (by decide) rfl ?_
        refine xk_goto (tgt := 305) hC dL_isBack_332 (by decide) ?_
        refine xk_locals [1, 2, 0] rfl ?_
        exact ih x0 x5 (x12 + (1 : Int32)) (q2.2) hf
      · replace hf := (if_neg c5).symm.trans hf
        refine xk_iconst (v := (0 : Int32)) hC dL_isBack_327 (by decide) ?_
        cases hf
        refine xk_widen (k := 3) (n := 192) (Nat.le_of_ble_eq_true rfl) (Nat.le_of_ble_eq_true rfl) ?_
        exact xk_iret hC hr rfl dL_isBack_328
def f_L_isBack_256 : Nat → Option Nat → Option Nat → Option Nat → Option Nat → Int32 → xWd → Option (Int32 × xWd)
  | 0, _, _, _, _, _, _ => none
  | n + 1, x0, x3, x4, x5, x12, w => if ((4 : Int32)) ≤ (x12) then f_L_isBack_305 4096 x0 x5 ((0 : Int32)) w else (xk_is w (x0) 0).bind (fun u3 => (f_X4_ofCue (x0) (x12) ((0 : Int32)) w).bind (fun q2 => (xk_lI 0 q2.2 (x3) (x12)).bind (fun v4 => if (q2.1) = (v4) then (xk_is q2.2 (x0) 0).bind (fun u7 => (f_X4_ofCue (x0) (x12) ((5 : Int32)) q2.2).bind (fun q6 => (xk_lI 0 q6.2 (x4) (x12)).bind (fun v8 => (xk_nz ((2 : Int32))).bind (fun u9 => if (((q6.1) - (v8)) - ((q6.1) - (v8)) / ((2 : Int32)) * ((2 : Int32))) = ((0 : Int32)) then f_L_isBack_256 n x0 x3 x4 x5 (x12 + (1 : Int32)) (q6.2) else f_L_isBack_294 (q6.2))))) else f_L_isBack_294 (q2.2))))
set_option maxHeartbeats 4000000 in
set_option maxRecDepth 100000 in
theorem t_L_isBack_256 {p : Program} {l : Launch} {e : Env} {s : State} {m : MethodId} {args : Array Value} {below : List Frame} {meth : Method} {c : Code} {E : xEv} (hC : xk_C p s m args meth c E method_5_code "ClickbookLaw" 13) (hr : meth.sig.returnType = (some .boolean)) {q : (Int32 × xWd)} : ∀ (n : Nat) (x0 : Option Nat) (x3 : Option Nat) (x4 : Option Nat) (x5 : Option Nat) (x12 : Int32) (w : xWd), f_L_isBack_256 n x0 x3 x4 x5 x12 w = some q → xk_X p l e { frames := 8, cells := 3, slots := 192, locals := 175 } s m args below meth c (MQ below (xk_Qi E q) args s 3 192 (xk_A E.2.2.1)) E 13 3 192 256 [(0, va_rf (x0)), (3, va_rf (x3)), (4, va_rf (x4)), (5, va_rf (x5)), (12, .int (x12))] [] w := by
  intro n
  induction n with
  | zero => intro x0 x3 x4 x5 x12 w hf; have hf : none = some q := hf; cases hf
  | succ n ih =>
    intro x0 x3 x4 x5 x12 w hf
    refine xk_iload hC dL_isBack_256 4 rfl ?_
    refine xk_iconst (v := (4 : Int32)) hC dL_isBack_258 (by decide) ?_
    refine xk_icmp_ge (tgt := 302) hC dL_isBack_259 (by decide) (fun c1 => ?_) (fun c1 => ?_)
    · replace hf := (if_pos c1).symm.trans hf
      refine xk_iconst (v := (0 : Int32)) hC dL_isBack_302 (by decide) ?_
      refine xk_istore (i := 12) (lv' := [(12, .int ((0 : Int32))), (0, va_rf (x0)), (3, va_rf (x3)), (4, va_rf (x4)), (5, va_rf (x5))]) hC dL_isBack_303 (by decide) rfl ?_
      refine xk_locals [1, 4, 0] rfl ?_
      exact t_L_isBack_305 hC hr 4096 x0 x5 ((0 : Int32)) w hf
    · replace hf := (if_neg c1).symm.trans hf
      refine xk_aload_n hC dL_isBack_262 0 rfl rfl ?_
      refine xk_iload hC dL_isBack_263 4 rfl ?_
      refine xk_iconst (v := (0 : Int32)) hC dL_isBack_265 (by decide) ?_
      obtain ⟨u3, h3, hf⟩ := xk_bi hf
      obtain ⟨q2, h2, hf⟩ := xk_bi hf
      refine xk_backi (xk_callV hC 2 xc_0 (c_X4_ofCue h2) h3 xm_503 xm_504 xm_505 xm_1 xm_506 ⟨rfl, xd_X4_ofCue⟩ rfl ⟨Nat.le_of_ble_eq_true rfl, Nat.le_of_ble_eq_true rfl⟩ rfl (Nat.le_of_ble_eq_true rfl) dL_isBack_266 ⟨(Nat.le_of_ble_eq_true rfl), (Nat.le_of_ble_eq_true rfl)⟩) ?_
      refine xk_aload_n hC dL_isBack_269 1 rfl rfl ?_
      refine xk_iload hC dL_isBack_270 4 rfl ?_
      obtain ⟨v4, h4, hf⟩ := xk_bi hf
      refine xk_iald hC rfl dL_isBack_272 h4 ?_
      refine xk_icmp_ne (tgt := 294) hC dL_isBack_273 (by decide) (fun c5 => ?_) (fun c5 => ?_)
      · replace hf := (if_neg c5).symm.trans hf
        refine xk_locals [] rfl ?_
        exact t_L_isBack_294 hC hr (q2.2) hf
      · replace hf := (if_pos c5).symm.trans hf
        refine xk_aload_n hC dL_isBack_276 0 rfl rfl ?_
        refine xk_iload hC dL_isBack_277 4 rfl ?_
        refine xk_iconst (v := (5 : Int32)) hC dL_isBack_279 (by decide) ?_
        obtain ⟨u7, h7, hf⟩ := xk_bi hf
        obtain ⟨q6, h6, hf⟩ := xk_bi hf
        refine xk_backi (xk_callV hC 2 xc_0 (c_X4_ofCue h6) h7 xm_503 xm_504 xm_505 xm_1 xm_506 ⟨rfl, xd_X4_ofCue⟩ rfl ⟨Nat.le_of_ble_eq_true rfl, Nat.le_of_ble_eq_true rfl⟩ rfl (Nat.le_of_ble_eq_true rfl) dL_isBack_280 ⟨(Nat.le_of_ble_eq_true rfl), (Nat.le_of_ble_eq_true rfl)⟩) ?_
        refine xk_aload hC dL_isBack_283 2 rfl ?_
        refine xk_iload hC dL_isBack_285 4 rfl ?_
        obtain ⟨v8, h8, hf⟩ := xk_bi hf
        refine xk_iald hC rfl dL_isBack_287 h8 ?_
        refine xk_isub hC dL_isBack_288 ?_
        refine xk_iconst (v := (2 : Int32)) hC dL_isBack_289 (by decide) ?_
        obtain ⟨u9, h9, hf⟩ := xk_bi hf
        refine xk_irem hC dL_isBack_290 (xk_nz_e h9) ?_
        refine xk_if_eq (tgt := 296) hC dL_isBack_291 (by decide) (fun c10 => ?_) (fun c10 => ?_)
        · replace hf := (if_pos c10).symm.trans hf
          refine xk_iinc (v := x12 + (1 : Int32)) (lv' := [(12, .int (x12 + (1 : Int32))), (0, va_rf (x0)), (3, va_rf (x3)), (4, va_rf (x4)), (5, va_rf (x5))]) hC dL_isBack_296 4 rfl rfl (by decide) rfl ?_
          refine xk_goto (tgt := 256) hC dL_isBack_299 (by decide) ?_
          refine xk_locals [1, 2, 3, 4, 0] rfl ?_
          exact ih x0 x3 x4 x5 (x12 + (1 : Int32)) (q6.2) hf
        · replace hf := (if_neg c10).symm.trans hf
          refine xk_locals [] rfl ?_
          exact t_L_isBack_294 hC hr (q6.2) hf
def f_L_isBack_89 : Nat → Option Nat → Int32 → Int32 → Option Nat → Option Nat → Option Nat → Int32 → Int32 → xWd → Option (Int32 × xWd)
  | 0, _, _, _, _, _, _, _, _, _ => none
  | n + 1, x0, x1, x2, x3, x4, x5, x6, x7, w => if ((8 : Int32)) ≤ (x7) then (xk_is w (x0) 0).bind (fun u3 => (f_X4_many (x0) ((0 : Int32)) w).bind (fun q2 => (xk_is q2.2 (x0) 0).bind (fun u5 => (f_X4_many (x0) ((3 : Int32)) q2.2).bind (fun q4 => (xk_is q4.2 (x0) 0).bind (fun u7 => (f_X4_many (x0) ((4 : Int32)) q4.2).bind (fun q6 => (xk_is q6.2 (x0) 0).bind (fun u9 => (f_X4_many (x0) ((8 : Int32)) q6.2).bind (fun q8 => (xk_is q8.2 (x0) 0).bind (fun u11 => (f_X4_wouldMeet (x0) (x1) (x2) q8.2).bind (fun q10 => (xk_is q10.2 (x0) 0).bind (fun u13 => (f_X4_change (x0) (x1) (x2) q10.2).bind (fun q12 => if (q12.1) = (x6) then (xk_is q12.2 (x0) 0).bind (fun u16 => (f_X4_many (x0) ((4 : Int32)) q12.2).bind (fun q15 => if (q15.1) = (q10.1) then (xk_is q15.2 (x0) 0).bind (fun u19 => (f_X4_many (x0) ((0 : Int32)) q15.2).bind (fun q18 => if (q18.1) = ((q2.1) + (x2)) then (xk_is q18.2 (x0) 0).bind (fun u22 => (f_X4_wouldMeet (x0) (x1) (-(x2)) q18.2).bind (fun q21 => if (q21.1) = (q6.1) then (xk_is q21.2 (x0) 0).bind (fun u25 => (f_X4_change (x0) (x1) (-(x2)) q21.2).bind (fun q24 => if (q24.1) = (x6) then (xk_is q24.2 (x0) 0).bind (fun u28 => (f_X4_many (x0) ((0 : Int32)) q24.2).bind (fun q27 => if (q27.1) = (q2.1) then (xk_is q27.2 (x0) 0).bind (fun u31 => (f_X4_many (x0) ((3 : Int32)) q27.2).bind (fun q30 => if (q30.1) = (q4.1) then (xk_is q30.2 (x0) 0).bind (fun u34 => (f_X4_many (x0) ((4 : Int32)) q30.2).bind (fun q33 => if (q33.1) = (q6.1) then (xk_is q33.2 (x0) 0).bind (fun u37 => (f_X4_many (x0) ((8 : Int32)) q33.2).bind (fun q36 => if (q36.1) = (q8.1) then f_L_isBack_256 4096 x0 x3 x4 x5 ((0 : Int32)) (q36.2) else f_L_isBack_251 (q36.2))) else f_L_isBack_251 (q33.2))) else f_L_isBack_251 (q30.2))) else f_L_isBack_251 (q27.2))) else f_L_isBack_251 (q24.2))) else f_L_isBack_196 (q21.2))) else f_L_isBack_196 (q18.2))) else f_L_isBack_196 (q15.2))) else f_L_isBack_196 (q12.2))))))))))))) else (xk_is w (x0) 0).bind (fun u40 => (f_X4_ofHit (x0) (x7) ((0 : Int32)) w).bind (fun q39 => (xk_sI 0 q39.2 (x5) (x7) (q39.1)).bind (fun w41 => f_L_isBack_89 n x0 x1 x2 x3 x4 x5 x6 (x7 + (1 : Int32)) w41)))
set_option maxHeartbeats 4000000 in
set_option maxRecDepth 100000 in
theorem t_L_isBack_89 {p : Program} {l : Launch} {e : Env} {s : State} {m : MethodId} {args : Array Value} {below : List Frame} {meth : Method} {c : Code} {E : xEv} (hC : xk_C p s m args meth c E method_5_code "ClickbookLaw" 13) (hr : meth.sig.returnType = (some .boolean)) {q : (Int32 × xWd)} : ∀ (n : Nat) (x0 : Option Nat) (x1 : Int32) (x2 : Int32) (x3 : Option Nat) (x4 : Option Nat) (x5 : Option Nat) (x6 : Int32) (x7 : Int32) (w : xWd), f_L_isBack_89 n x0 x1 x2 x3 x4 x5 x6 x7 w = some q → xk_X p l e { frames := 8, cells := 3, slots := 192, locals := 175 } s m args below meth c (MQ below (xk_Qi E q) args s 3 192 (xk_A E.2.2.1)) E 13 3 192 89 [(0, va_rf (x0)), (1, .int (x1)), (2, .int (x2)), (3, va_rf (x3)), (4, va_rf (x4)), (5, va_rf (x5)), (6, .int (x6)), (7, .int (x7))] [] w := by
  intro n
  induction n with
  | zero => intro x0 x1 x2 x3 x4 x5 x6 x7 w hf; have hf : none = some q := hf; cases hf
  | succ n ih =>
    intro x0 x1 x2 x3 x4 x5 x6 x7 w hf
    refine xk_iload hC dL_isBack_89 7 rfl ?_
    refine xk_bipush (v := (8 : Int32)) hC dL_isBack_91 (by decide) ?_
    refine xk_icmp_ge (tgt := 114) hC dL_isBack_93 (by decide) (fun c1 => ?_) (fun c1 => ?_)
    · replace hf := (if_pos c1).symm.trans hf
      refine xk_aload_n hC dL_isBack_114 0 rfl rfl ?_
      refine xk_iconst (v := (0 : Int32)) hC dL_isBack_115 (by decide) ?_
      obtain ⟨u3, h3, hf⟩ := xk_bi hf
      obtain ⟨q2, h2, hf⟩ := xk_bi hf
      refine xk_backi (xk_callV hC 1 xc_0 (c_X4_many h2) h3 xm_542 xm_543 xm_544 xm_1 xm_545 ⟨rfl, xd_X4_many⟩ rfl ⟨Nat.le_of_ble_eq_true rfl, Nat.le_of_ble_eq_true rfl⟩ rfl (Nat.le_of_ble_eq_true rfl) dL_isBack_116 ⟨(Nat.le_of_ble_eq_true rfl), (Nat.le_of_ble_eq_true rfl)⟩) ?_
      refine xk_istore (i := 7) (lv' := [(7, .int (q2.1)), (0, va_rf (x0)), (1, .int (x1)), (2, .int (x2)), (3, va_rf (x3)), (4, va_rf (x4)), (5, va_rf (x5)), (6, .int (x6))]) hC dL_isBack_119 (by decide) rfl ?_
      refine xk_aload_n hC dL_isBack_121 1 rfl rfl ?_
      refine xk_iconst (v := (3 : Int32)) hC dL_isBack_122 (by decide) ?_
      obtain ⟨u5, h5, hf⟩ := xk_bi hf
      obtain ⟨q4, h4, hf⟩ := xk_bi hf
      refine xk_backi (xk_callV hC 1 xc_0 (c_X4_many h4) h5 xm_542 xm_543 xm_544 xm_1 xm_545 ⟨rfl, xd_X4_many⟩ rfl ⟨Nat.le_of_ble_eq_true rfl, Nat.le_of_ble_eq_true rfl⟩ rfl (Nat.le_of_ble_eq_true rfl) dL_isBack_123 ⟨(Nat.le_of_ble_eq_true rfl), (Nat.le_of_ble_eq_true rfl)⟩) ?_
      refine xk_istore (i := 8) (lv' := [(8, .int (q4.1)), (7, .int (q2.1)), (0, va_rf (x0)), (1, .int (x1)), (2, .int (x2)), (3, va_rf (x3)), (4, va_rf (x4)), (5, va_rf (x5)), (6, .int (x6))]) hC dL_isBack_126 (by decide) rfl ?_
      refine xk_aload_n hC dL_isBack_128 2 rfl rfl ?_
      refine xk_iconst (v := (4 : Int32)) hC dL_isBack_129 (by decide) ?_
      obtain ⟨u7, h7, hf⟩ := xk_bi hf
      obtain ⟨q6, h6, hf⟩ := xk_bi hf
      refine xk_backi (xk_callV hC 1 xc_0 (c_X4_many h6) h7 xm_542 xm_543 xm_544 xm_1 xm_545 ⟨rfl, xd_X4_many⟩ rfl ⟨Nat.le_of_ble_eq_true rfl, Nat.le_of_ble_eq_true rfl⟩ rfl (Nat.le_of_ble_eq_true rfl) dL_isBack_130 ⟨(Nat.le_of_ble_eq_true rfl), (Nat.le_of_ble_eq_true rfl)⟩) ?_
      refine xk_istore (i := 9) (lv' := [(9, .int (q6.1)), (8, .int (q4.1)), (7, .int (q2.1)), (0, va_rf (x0)), (1, .int (x1)), (2, .int (x2)), (3, va_rf (x3)), (4, va_rf (x4)), (5, va_rf (x5)), (6, .int (x6))]) hC dL_isBack_133 (by decide) rfl ?_
      refine xk_aload_n hC dL_isBack_135 3 rfl rfl ?_
      refine xk_bipush (v := (8 : Int32)) hC dL_isBack_136 (by decide) ?_
      obtain ⟨u9, h9, hf⟩ := xk_bi hf
      obtain ⟨q8, h8, hf⟩ := xk_bi hf
      refine xk_backi (xk_callV hC 1 xc_0 (c_X4_many h8) h9 xm_542 xm_543 xm_544 xm_1 xm_545 ⟨rfl, xd_X4_many⟩ rfl ⟨Nat.le_of_ble_eq_true rfl, Nat.le_of_ble_eq_true rfl⟩ rfl (Nat.le_of_ble_eq_true rfl) dL_isBack_138 ⟨(Nat.le_of_ble_eq_true rfl), (Nat.le_of_ble_eq_true rfl)⟩) ?_
      refine xk_istore (i := 10) (lv' := [(10, .int (q8.1)), (9, .int (q6.1)), (8, .int (q4.1)), (7, .int (q2.1)), (0, va_rf (x0)), (1, .int (x1)), (2, .int (x2)), (3, va_rf (x3)), (4, va_rf (x4)), (5, va_rf (x5)), (6, .int (x6))]) hC dL_isBack_141 (by decide) rfl ?_
      refine xk_aload_n hC dL_isBack_143 4 rfl rfl ?_
      refine xk_iload_n hC dL_isBack_144 5 rfl rfl ?_
      refine xk_iload_n hC dL_isBack_145 6 rfl rfl ?_
      obtain ⟨u11, h11, hf⟩ := xk_bi hf
      obtain ⟨q10, h10, hf⟩ := xk_bi hf
      refine xk_backi (xk_callV hC 2 xc_0 (c_X4_wouldMeet h10) h11 xm_645 xm_646 xm_647 xm_1 xm_648 ⟨rfl, xd_X4_wouldMeet⟩ rfl ⟨Nat.le_of_ble_eq_true rfl, Nat.le_of_ble_eq_true rfl⟩ rfl (Nat.le_of_ble_eq_true rfl) dL_isBack_146 ⟨(Nat.le_of_ble_eq_true rfl), (Nat.le_of_ble_eq_true rfl)⟩) ?_
      refine xk_istore (i := 11) (lv' := [(11, .int (q10.1)), (10, .int (q8.1)), (9, .int (q6.1)), (8, .int (q4.1)), (7, .int (q2.1)), (0, va_rf (x0)), (1, .int (x1)), (2, .int (x2)), (3, va_rf (x3)), (4, va_rf (x4)), (5, va_rf (x5)), (6, .int (x6))]) hC dL_isBack_149 (by decide) rfl ?_
      refine xk_aload_n hC dL_isBack_151 5 rfl rfl ?_
      refine xk_iload_n hC dL_isBack_152 6 rfl rfl ?_
      refine xk_iload_n hC dL_isBack_153 7 rfl rfl ?_
      obtain ⟨u13, h13, hf⟩ := xk_bi hf
      obtain ⟨q12, h12, hf⟩ := xk_bi hf
      refine xk_backi (xk_callV hC 2 xc_0 (c_X4_change h12) h13 xm_746 xm_747 xm_748 xm_1 xm_749 ⟨rfl, xd_X4_change⟩ rfl ⟨Nat.le_of_ble_eq_true rfl, Nat.le_of_ble_eq_true rfl⟩ rfl (Nat.le_of_ble_eq_true rfl) dL_isBack_154 ⟨(Nat.le_of_ble_eq_true rfl), (Nat.le_of_ble_eq_true rfl)⟩) ?_
      refine xk_iload hC dL_isBack_157 11 rfl ?_
      refine xk_icmp_ne (tgt := 196) hC dL_isBack_159 (by decide) (fun c14 => ?_) (fun c14 => ?_)
      · replace hf := (if_neg c14).symm.trans hf
        refine xk_locals [] rfl ?_
        exact t_L_isBack_196 hC hr (q12.2) hf
      · replace hf := (if_pos c14).symm.trans hf
        refine xk_aload_n hC dL_isBack_162 5 rfl rfl ?_
        refine xk_iconst (v := (4 : Int32)) hC dL_isBack_163 (by decide) ?_
        obtain ⟨u16, h16, hf⟩ := xk_bi hf
        obtain ⟨q15, h15, hf⟩ := xk_bi hf
        refine xk_backi (xk_callV hC 1 xc_0 (c_X4_many h15) h16 xm_542 xm_543 xm_544 xm_1 xm_545 ⟨rfl, xd_X4_many⟩ rfl ⟨Nat.le_of_ble_eq_true rfl, Nat.le_of_ble_eq_true rfl⟩ rfl (Nat.le_of_ble_eq_true rfl) dL_isBack_164 ⟨(Nat.le_of_ble_eq_true rfl), (Nat.le_of_ble_eq_true rfl)⟩) ?_
        refine xk_iload hC dL_isBack_167 0 rfl ?_
        refine xk_icmp_ne (tgt := 196) hC dL_isBack_169 (by decide) (fun c17 => ?_) (fun c17 => ?_)
        · replace hf := (if_neg c17).symm.trans hf
          refine xk_locals [] rfl ?_
          exact t_L_isBack_196 hC hr (q15.2) hf
        · replace hf := (if_pos c17).symm.trans hf
          refine xk_aload_n hC dL_isBack_172 5 rfl rfl ?_
          refine xk_iconst (v := (0 : Int32)) hC dL_isBack_173 (by decide) ?_
          obtain ⟨u19, h19, hf⟩ := xk_bi hf
          obtain ⟨q18, h18, hf⟩ := xk_bi hf
          refine xk_backi (xk_callV hC 1 xc_0 (c_X4_many h18) h19 xm_542 xm_543 xm_544 xm_1 xm_545 ⟨rfl, xd_X4_many⟩ rfl ⟨Nat.le_of_ble_eq_true rfl, Nat.le_of_ble_eq_true rfl⟩ rfl (Nat.le_of_ble_eq_true rfl) dL_isBack_174 ⟨(Nat.le_of_ble_eq_true rfl), (Nat.le_of_ble_eq_true rfl)⟩) ?_
          refine xk_iload hC dL_isBack_177 4 rfl ?_
          refine xk_iload_n hC dL_isBack_179 7 rfl rfl ?_
          refine xk_iadd hC dL_isBack_180 ?_
          refine xk_icmp_ne (tgt := 196) hC dL_isBack_181 (by decide) (fun c20 => ?_) (fun c20 => ?_)
          · replace hf := (if_neg c20).symm.trans hf
            refine xk_locals [] rfl ?_
            exact t_L_isBack_196 hC hr (q18.2) hf
          · replace hf := (if_pos c20).symm.trans hf
            refine xk_aload_n hC dL_isBack_184 5 rfl rfl ?_
            refine xk_iload_n hC dL_isBack_185 6 rfl rfl ?_
            refine xk_iload_n hC dL_isBack_186 7 rfl rfl ?_
            refine xk_ineg hC dL_isBack_187 ?_
            obtain ⟨u22, h22, hf⟩ := xk_bi hf
            obtain ⟨q21, h21, hf⟩ := xk_bi hf
            refine xk_backi (xk_callV hC 2 xc_0 (c_X4_wouldMeet h21) h22 xm_645 xm_646 xm_647 xm_1 xm_648 ⟨rfl, xd_X4_wouldMeet⟩ rfl ⟨Nat.le_of_ble_eq_true rfl, Nat.le_of_ble_eq_true rfl⟩ rfl (Nat.le_of_ble_eq_true rfl) dL_isBack_188 ⟨(Nat.le_of_ble_eq_true rfl), (Nat.le_of_ble_eq_true rfl)⟩) ?_
            refine xk_iload hC dL_isBack_191 2 rfl ?_
            refine xk_icmp_eq (tgt := 198) hC dL_isBack_193 (by decide) (fun c23 => ?_) (fun c23 => ?_)
            · replace hf := (if_pos c23).symm.trans hf
              refine xk_aload_n hC dL_isBack_198 5 rfl rfl ?_
              refine xk_iload_n hC dL_isBack_199 6 rfl rfl ?_
              refine xk_iload_n hC dL_isBack_200 7 rfl rfl ?_
              refine xk_ineg hC dL_isBack_201 ?_
              obtain ⟨u25, h25, hf⟩ := xk_bi hf
              obtain ⟨q24, h24, hf⟩ := xk_bi hf
              refine xk_backi (xk_callV hC 2 xc_0 (c_X4_change h24) h25 xm_746 xm_747 xm_748 xm_1 xm_749 ⟨rfl, xd_X4_change⟩ rfl ⟨Nat.le_of_ble_eq_true rfl, Nat.le_of_ble_eq_true rfl⟩ rfl (Nat.le_of_ble_eq_true rfl) dL_isBack_202 ⟨(Nat.le_of_ble_eq_true rfl), (Nat.le_of_ble_eq_true rfl)⟩) ?_
              refine xk_iload hC dL_isBack_205 11 rfl ?_
              refine xk_icmp_ne (tgt := 251) hC dL_isBack_207 (by decide) (fun c26 => ?_) (fun c26 => ?_)
              · replace hf := (if_neg c26).symm.trans hf
                refine xk_locals [] rfl ?_
                exact t_L_isBack_251 hC hr (q24.2) hf
              · replace hf := (if_pos c26).symm.trans hf
                refine xk_aload_n hC dL_isBack_210 5 rfl rfl ?_
                refine xk_iconst (v := (0 : Int32)) hC dL_isBack_211 (by decide) ?_
                obtain ⟨u28, h28, hf⟩ := xk_bi hf
                obtain ⟨q27, h27, hf⟩ := xk_bi hf
                refine xk_backi (xk_callV hC 1 xc_0 (c_X4_many h27) h28 xm_542 xm_543 xm_544 xm_1 xm_545 ⟨rfl, xd_X4_many⟩ rfl ⟨Nat.le_of_ble_eq_true rfl, Nat.le_of_ble_eq_true rfl⟩ rfl (Nat.le_of_ble_eq_true rfl) dL_isBack_212 ⟨(Nat.le_of_ble_eq_true rfl), (Nat.le_of_ble_eq_true rfl)⟩) ?_
                refine xk_iload hC dL_isBack_215 4 rfl ?_
                refine xk_icmp_ne (tgt := 251) hC dL_isBack_217 (by decide) (fun c29 => ?_) (fun c29 => ?_)
                · replace hf := (if_neg c29).symm.trans hf
                  refine xk_locals [] rfl ?_
                  exact t_L_isBack_251 hC hr (q27.2) hf
                · replace hf := (if_pos c29).symm.trans hf
                  refine xk_aload_n hC dL_isBack_220 5 rfl rfl ?_
                  refine xk_iconst (v := (3 : Int32)) hC dL_isBack_221 (by decide) ?_
                  obtain ⟨u31, h31, hf⟩ := xk_bi hf
                  obtain ⟨q30, h30, hf⟩ := xk_bi hf
                  refine xk_backi (xk_callV hC 1 xc_0 (c_X4_many h30) h31 xm_542 xm_543 xm_544 xm_1 xm_545 ⟨rfl, xd_X4_many⟩ rfl ⟨Nat.le_of_ble_eq_true rfl, Nat.le_of_ble_eq_true rfl⟩ rfl (Nat.le_of_ble_eq_true rfl) dL_isBack_222 ⟨(Nat.le_of_ble_eq_true rfl), (Nat.le_of_ble_eq_true rfl)⟩) ?_
                  refine xk_iload hC dL_isBack_225 3 rfl ?_
                  refine xk_icmp_ne (tgt := 251) hC dL_isBack_227 (by decide) (fun c32 => ?_) (fun c32 => ?_)
                  · replace hf := (if_neg c32).symm.trans hf
                    refine xk_locals [] rfl ?_
                    exact t_L_isBack_251 hC hr (q30.2) hf
                  · replace hf := (if_pos c32).symm.trans hf
                    refine xk_aload_n hC dL_isBack_230 5 rfl rfl ?_
                    refine xk_iconst (v := (4 : Int32)) hC dL_isBack_231 (by decide) ?_
                    obtain ⟨u34, h34, hf⟩ := xk_bi hf
                    obtain ⟨q33, h33, hf⟩ := xk_bi hf
                    refine xk_backi (xk_callV hC 1 xc_0 (c_X4_many h33) h34 xm_542 xm_543 xm_544 xm_1 xm_545 ⟨rfl, xd_X4_many⟩ rfl ⟨Nat.le_of_ble_eq_true rfl, Nat.le_of_ble_eq_true rfl⟩ rfl (Nat.le_of_ble_eq_true rfl) dL_isBack_232 ⟨(Nat.le_of_ble_eq_true rfl), (Nat.le_of_ble_eq_true rfl)⟩) ?_
                    refine xk_iload hC dL_isBack_235 2 rfl ?_
                    refine xk_icmp_ne (tgt := 251) hC dL_isBack_237 (by decide) (fun c35 => ?_) (fun c35 => ?_)
                    · replace hf := (if_neg c35).symm.trans hf
                      refine xk_locals [] rfl ?_
                      exact t_L_isBack_251 hC hr (q33.2) hf
                    · replace hf := (if_pos c35).symm.trans hf
                      refine xk_aload_n hC dL_isBack_240 5 rfl rfl ?_
                      refine xk_bipush (v := (8 : Int32)) hC dL_isBack_241 (by decide) ?_
                      obtain ⟨u37, h37, hf⟩ := xk_bi hf
                      obtain ⟨q36, h36, hf⟩ := xk_bi hf
                      refine xk_backi (xk_callV hC 1 xc_0 (c_X4_many h36) h37 xm_542 xm_543 xm_544 xm_1 xm_545 ⟨rfl, xd_X4_many⟩ rfl ⟨Nat.le_of_ble_eq_true rfl, Nat.le_of_ble_eq_true rfl⟩ rfl (Nat.le_of_ble_eq_true rfl) dL_isBack_243 ⟨(Nat.le_of_ble_eq_true rfl), (Nat.le_of_ble_eq_true rfl)⟩) ?_
                      refine xk_iload hC dL_isBack_246 1 rfl ?_
                      refine xk_icmp_eq (tgt := 253) hC dL_isBack_248 (by decide) (fun c38 => ?_) (fun c38 => ?_)
                      · replace hf := (if_pos c38).symm.trans hf
                        refine xk_iconst (v := (0 : Int32)) hC dL_isBack_253 (by decide) ?_
                        refine xk_istore (i := 12) (lv' := [(12, .int ((0 : Int32))), (11, .int (q10.1)), (10, .int (q8.1)), (9, .int (q6.1)), (8, .int (q4.1)), (7, .int (q2.1)), (0, va_rf (x0)), (1, .int (x1)), (2, .int (x2)), (3, va_rf (x3)), (4, va_rf (x4)), (5, va_rf (x5)), (6, .int (x6))]) hC dL_isBack_254 (by decide) rfl ?_
                        refine xk_locals [6, 9, 10, 11, 0] rfl ?_
                        exact t_L_isBack_256 hC hr 4096 x0 x3 x4 x5 ((0 : Int32)) (q36.2) hf
                      · replace hf := (if_neg c38).symm.trans hf
                        refine xk_locals [] rfl ?_
                        exact t_L_isBack_251 hC hr (q36.2) hf
            · replace hf := (if_neg c23).symm.trans hf
              refine xk_locals [] rfl ?_
              exact t_L_isBack_196 hC hr (q21.2) hf
    · replace hf := (if_neg c1).symm.trans hf
      refine xk_aload hC dL_isBack_96 5 rfl ?_
      refine xk_iload hC dL_isBack_98 7 rfl ?_
      refine xk_aload_n hC dL_isBack_100 0 rfl rfl ?_
      refine xk_iload hC dL_isBack_101 7 rfl ?_
      refine xk_iconst (v := (0 : Int32)) hC dL_isBack_103 (by decide) ?_
      obtain ⟨u40, h40, hf⟩ := xk_bi hf
      obtain ⟨q39, h39, hf⟩ := xk_bi hf
      refine xk_backi (xk_callV hC 2 xc_0 (c_X4_ofHit h39) h40 xm_745 xm_676 xm_677 xm_1 xm_678 ⟨rfl, xd_X4_ofHit⟩ rfl ⟨Nat.le_of_ble_eq_true rfl, Nat.le_of_ble_eq_true rfl⟩ rfl (by simp [xk_cat1, xk_cati, xk_catl, xk_catd]) dL_isBack_104 ⟨(Nat.le_of_ble_eq_true rfl), (Nat.le_of_ble_eq_true rfl)⟩) ?_
      obtain ⟨w41, h41, hf⟩ := xk_bi hf
      refine xk_iast hC rfl dL_isBack_107 h41 ?_
      refine xk_iinc (v := x7 + (1 : Int32)) (lv' := [(7, .int (x7 + (1 : Int32))), (0, va_rf (x0)), (1, .int (x1)), (2, .int (x2)), (3, va_rf (x3)), (4, va_rf (x4)), (5, va_rf (x5)), (6, .int (x6))]) hC dL_isBack_108 7 rfl rfl (by decide) rfl ?_
      refine xk_goto (tgt := 89) hC dL_isBack_111 (by decide) ?_
      refine xk_locals [1, 2, 3, 4, 5, 6, 7, 0] rfl ?_
      exact ih x0 x1 x2 x3 x4 x5 x6 (x7 + (1 : Int32)) w41 hf
def f_L_isBack_21 : Nat → Option Nat → Int32 → Int32 → Option Nat → Option Nat → Option Nat → Int32 → Int32 → xWd → Option (Int32 × xWd)
  | 0, _, _, _, _, _, _, _, _, _ => none
  | n + 1, x0, x1, x2, x3, x4, x5, x6, x7, w => if ((4 : Int32)) ≤ (x7) then f_L_isBack_89 4096 x0 x1 x2 x3 x4 x5 x6 ((0 : Int32)) w else (xk_is w (x0) 0).bind (fun u3 => (f_X4_ofCue (x0) (x7) ((0 : Int32)) w).bind (fun q2 => (xk_sI 0 q2.2 (x3) (x7) (q2.1)).bind (fun w4 => (xk_is w4 (x0) 0).bind (fun u6 => (f_X4_ofCue (x0) (x7) ((5 : Int32)) w4).bind (fun q5 => (xk_sI 0 q5.2 (x4) (x7) (q5.1)).bind (fun w7 => (xk_lI 0 w7 (x3) (x7)).bind (fun v8 => if (x1) ≤ (v8) then f_L_isBack_76 (f_L_isBack_21 n) x0 x1 x2 x3 x4 x5 x7 x6 w7 else (xk_is w7 (x0) 0).bind (fun u11 => (f_X4_ofCue (x0) (x7) ((8 : Int32)) w7).bind (fun q10 => if (q10.1) ≤ (x1) then f_L_isBack_76 (f_L_isBack_21 n) x0 x1 x2 x3 x4 x5 x7 x6 (q10.2) else f_L_isBack_77 (f_L_isBack_21 n) x0 x1 x2 x3 x4 x5 x7 ((1 : Int32)) x6 (q10.2))))))))))
set_option maxHeartbeats 4000000 in
set_option maxRecDepth 100000 in
theorem t_L_isBack_21 {p : Program} {l : Launch} {e : Env} {s : State} {m : MethodId} {args : Array Value} {below : List Frame} {meth : Method} {c : Code} {E : xEv} (hC : xk_C p s m args meth c E method_5_code "ClickbookLaw" 13) (hr : meth.sig.returnType = (some .boolean)) {q : (Int32 × xWd)} : ∀ (n : Nat) (x0 : Option Nat) (x1 : Int32) (x2 : Int32) (x3 : Option Nat) (x4 : Option Nat) (x5 : Option Nat) (x6 : Int32) (x7 : Int32) (w : xWd), f_L_isBack_21 n x0 x1 x2 x3 x4 x5 x6 x7 w = some q → xk_X p l e { frames := 8, cells := 3, slots := 192, locals := 175 } s m args below meth c (MQ below (xk_Qi E q) args s 3 192 (xk_A E.2.2.1)) E 13 3 192 21 [(0, va_rf (x0)), (1, .int (x1)), (2, .int (x2)), (3, va_rf (x3)), (4, va_rf (x4)), (5, va_rf (x5)), (6, .int (x6)), (7, .int (x7))] [] w := by
  intro n
  induction n with
  | zero => intro x0 x1 x2 x3 x4 x5 x6 x7 w hf; have hf : none = some q := hf; cases hf
  | succ n ih =>
    intro x0 x1 x2 x3 x4 x5 x6 x7 w hf
    refine xk_iload hC dL_isBack_21 7 rfl ?_
    refine xk_iconst (v := (4 : Int32)) hC dL_isBack_23 (by decide) ?_
    refine xk_icmp_ge (tgt := 86) hC dL_isBack_24 (by decide) (fun c1 => ?_) (fun c1 => ?_)
    · replace hf := (if_pos c1).symm.trans hf
      refine xk_iconst (v := (0 : Int32)) hC dL_isBack_86 (by decide) ?_
      refine xk_istore (i := 7) (lv' := [(7, .int ((0 : Int32))), (0, va_rf (x0)), (1, .int (x1)), (2, .int (x2)), (3, va_rf (x3)), (4, va_rf (x4)), (5, va_rf (x5)), (6, .int (x6))]) hC dL_isBack_87 (by decide) rfl ?_
      refine xk_locals [1, 2, 3, 4, 5, 6, 7, 0] rfl ?_
      exact t_L_isBack_89 hC hr 4096 x0 x1 x2 x3 x4 x5 x6 ((0 : Int32)) w hf
    · replace hf := (if_neg c1).symm.trans hf
      refine xk_aload_n hC dL_isBack_27 3 rfl rfl ?_
      refine xk_iload hC dL_isBack_28 7 rfl ?_
      refine xk_aload_n hC dL_isBack_30 0 rfl rfl ?_
      refine xk_iload hC dL_isBack_31 7 rfl ?_
      refine xk_iconst (v := (0 : Int32)) hC dL_isBack_33 (by decide) ?_
      obtain ⟨u3, h3, hf⟩ := xk_bi hf
      obtain ⟨q2, h2, hf⟩ := xk_bi hf
      refine xk_backi (xk_callV hC 2 xc_0 (c_X4_ofCue h2) h3 xm_503 xm_504 xm_505 xm_1 xm_506 ⟨rfl, xd_X4_ofCue⟩ rfl ⟨Nat.le_of_ble_eq_true rfl, Nat.le_of_ble_eq_true rfl⟩ rfl (by simp [xk_cat1, xk_cati, xk_catl, xk_catd]) dL_isBack_34 ⟨(Nat.le_of_ble_eq_true rfl), (Nat.le_of_ble_eq_true rfl)⟩) ?_
      obtain ⟨w4, h4, hf⟩ := xk_bi hf
      refine xk_iast hC rfl dL_isBack_37 h4 ?_
      refine xk_aload hC dL_isBack_38 4 rfl ?_
      refine xk_iload hC dL_isBack_40 7 rfl ?_
      refine xk_aload_n hC dL_isBack_42 0 rfl rfl ?_
      refine xk_iload hC dL_isBack_43 7 rfl ?_
      refine xk_iconst (v := (5 : Int32)) hC dL_isBack_45 (by decide) ?_
      obtain ⟨u6, h6, hf⟩ := xk_bi hf
      obtain ⟨q5, h5, hf⟩ := xk_bi hf
      refine xk_backi (xk_callV hC 2 xc_0 (c_X4_ofCue h5) h6 xm_503 xm_504 xm_505 xm_1 xm_506 ⟨rfl, xd_X4_ofCue⟩ rfl ⟨Nat.le_of_ble_eq_true rfl, Nat.le_of_ble_eq_true rfl⟩ rfl (by simp [xk_cat1, xk_cati, xk_catl, xk_catd]) dL_isBack_46 ⟨(Nat.le_of_ble_eq_true rfl), (Nat.le_of_ble_eq_true rfl)⟩) ?_
      obtain ⟨w7, h7, hf⟩ := xk_bi hf
      refine xk_iast hC rfl dL_isBack_49 h7 ?_
      refine xk_iload hC dL_isBack_50 6 rfl ?_
      refine xk_iload_n hC dL_isBack_52 1 rfl rfl ?_
      refine xk_aload_n hC dL_isBack_53 3 rfl rfl ?_
      refine xk_iload hC dL_isBack_54 7 rfl ?_
      obtain ⟨v8, h8, hf⟩ := xk_bi hf
      refine xk_iald hC rfl dL_isBack_56 h8 ?_
      refine xk_icmp_le (tgt := 76) hC dL_isBack_57 (by decide) (fun c9 => ?_) (fun c9 => ?_)
      · replace hf := (if_pos c9).symm.trans hf
        refine xk_locals [0, 1, 2, 3, 4, 5, 7] rfl ?_
        exact t_L_isBack_76 hC hr (fun x0 x1 x2 x3 x4 x5 x6 x7 w hf => ih x0 x1 x2 x3 x4 x5 x6 x7 w hf) x0 x1 x2 x3 x4 x5 x7 x6 w7 hf
      · replace hf := (if_neg c9).symm.trans hf
        refine xk_iload_n hC dL_isBack_60 1 rfl rfl ?_
        refine xk_aload_n hC dL_isBack_61 0 rfl rfl ?_
        refine xk_iload hC dL_isBack_62 7 rfl ?_
        refine xk_bipush (v := (8 : Int32)) hC dL_isBack_64 (by decide) ?_
        obtain ⟨u11, h11, hf⟩ := xk_bi hf
        obtain ⟨q10, h10, hf⟩ := xk_bi hf
        refine xk_backi (xk_callV hC 2 xc_0 (c_X4_ofCue h10) h11 xm_503 xm_504 xm_505 xm_1 xm_506 ⟨rfl, xd_X4_ofCue⟩ rfl ⟨Nat.le_of_ble_eq_true rfl, Nat.le_of_ble_eq_true rfl⟩ rfl (Nat.le_of_ble_eq_true rfl) dL_isBack_66 ⟨(Nat.le_of_ble_eq_true rfl), (Nat.le_of_ble_eq_true rfl)⟩) ?_
        refine xk_icmp_ge (tgt := 76) hC dL_isBack_69 (by decide) (fun c12 => ?_) (fun c12 => ?_)
        · replace hf := (if_pos c12).symm.trans hf
          refine xk_locals [0, 1, 2, 3, 4, 5, 7] rfl ?_
          exact t_L_isBack_76 hC hr (fun x0 x1 x2 x3 x4 x5 x6 x7 w hf => ih x0 x1 x2 x3 x4 x5 x6 x7 w hf) x0 x1 x2 x3 x4 x5 x7 x6 (q10.2) hf
        · replace hf := (if_neg c12).symm.trans hf
          refine xk_iconst (v := (1 : Int32)) hC dL_isBack_72 (by decide) ?_
          refine xk_goto (tgt := 77) hC dL_isBack_73 (by decide) ?_
          refine xk_locals [0, 1, 2, 3, 4, 5, 7] rfl ?_
          exact t_L_isBack_77 hC hr (fun x0 x1 x2 x3 x4 x5 x6 x7 w hf => ih x0 x1 x2 x3 x4 x5 x6 x7 w hf) x0 x1 x2 x3 x4 x5 x7 ((1 : Int32)) x6 (q10.2) hf
def f_L_isBack (x0 : Option Nat) (x1 : Int32) (x2 : Int32) (w : xWd) : Option (Int32 × xWd) := (xk_nA w 0 xk_d0 ((4 : Int32)) 64).bind (fun w1 => (xk_nA w1 0 xk_d0 ((4 : Int32)) 64).bind (fun w2 => (xk_nA w2 0 xk_d0 ((8 : Int32)) 64).bind (fun w3 => f_L_isBack_21 4096 x0 x1 x2 (some w.2.1) (some w1.2.1) (some w2.2.1) ((0 : Int32)) ((0 : Int32)) w3)))
set_option maxHeartbeats 4000000 in
set_option maxRecDepth 100000 in
theorem t_L_isBack_0 {p : Program} {l : Launch} {e : Env} {s : State} {m : MethodId} {args : Array Value} {below : List Frame} {meth : Method} {c : Code} {E : xEv} (hC : xk_C p s m args meth c E method_5_code "ClickbookLaw" 13) (hr : meth.sig.returnType = (some .boolean)) {q : (Int32 × xWd)} (x0 : Option Nat) (x1 : Int32) (x2 : Int32) (w : xWd) (hf : f_L_isBack x0 x1 x2 w = some q) : xk_X p l e { frames := 8, cells := 3, slots := 192, locals := 175 } s m args below meth c (MQ below (xk_Qi E q) args s 3 192 (xk_A E.2.2.1)) E 13 0 0 0 [(0, va_rf (x0)), (1, .int (x1)), (2, .int (x2))] [] w := by
  refine xk_iconst (v := (4 : Int32)) hC dL_isBack_0 (by decide) ?_
  obtain ⟨w1, h1, hf⟩ := xk_bi hf
  refine xk_newarr (cap := 64) (atype := .int) (ty := .int) (kd := 0) hC rfl xm_73 (by decide) rfl (fun _ _ => rfl) (Nat.le_of_ble_eq_true rfl) (Nat.le_of_ble_eq_true rfl) (Nat.le_of_ble_eq_true rfl) dL_isBack_1 h1 ?_
  refine xk_astore_n (i := 3) (lv' := [(3, va_rf (some w.2.1)), (0, va_rf (x0)), (1, .int (x1)), (2, .int (x2))]) hC dL_isBack_3 rfl (by decide) rfl ?_
  refine xk_iconst (v := (4 : Int32)) hC dL_isBack_4 (by decide) ?_
  obtain ⟨w2, h2, hf⟩ := xk_bi hf
  refine xk_newarr (cap := 64) (atype := .int) (ty := .int) (kd := 0) hC rfl xm_73 (by decide) rfl (fun _ _ => rfl) (Nat.le_of_ble_eq_true rfl) (Nat.le_of_ble_eq_true rfl) (Nat.le_of_ble_eq_true rfl) dL_isBack_5 h2 ?_
  refine xk_astore (i := 4) (lv' := [(4, va_rf (some w1.2.1)), (3, va_rf (some w.2.1)), (0, va_rf (x0)), (1, .int (x1)), (2, .int (x2))]) hC dL_isBack_7 (by decide) rfl ?_
  refine xk_bipush (v := (8 : Int32)) hC dL_isBack_9 (by decide) ?_
  obtain ⟨w3, h3, hf⟩ := xk_bi hf
  refine xk_newarr (cap := 64) (atype := .int) (ty := .int) (kd := 0) hC rfl xm_73 (by decide) rfl (fun _ _ => rfl) (Nat.le_of_ble_eq_true rfl) (Nat.le_of_ble_eq_true rfl) (Nat.le_of_ble_eq_true rfl) dL_isBack_11 h3 ?_
  refine xk_astore (i := 5) (lv' := [(5, va_rf (some w2.2.1)), (4, va_rf (some w1.2.1)), (3, va_rf (some w.2.1)), (0, va_rf (x0)), (1, .int (x1)), (2, .int (x2))]) hC dL_isBack_13 (by decide) rfl ?_
  refine xk_iconst (v := (0 : Int32)) hC dL_isBack_15 (by decide) ?_
  refine xk_istore (i := 6) (lv' := [(6, .int ((0 : Int32))), (5, va_rf (some w2.2.1)), (4, va_rf (some w1.2.1)), (3, va_rf (some w.2.1)), (0, va_rf (x0)), (1, .int (x1)), (2, .int (x2))]) hC dL_isBack_16 (by decide) rfl ?_
  refine xk_iconst (v := (0 : Int32)) hC dL_isBack_18 (by decide) ?_
  refine xk_istore (i := 7) (lv' := [(7, .int ((0 : Int32))), (6, .int ((0 : Int32))), (5, va_rf (some w2.2.1)), (4, va_rf (some w1.2.1)), (3, va_rf (some w.2.1)), (0, va_rf (x0)), (1, .int (x1)), (2, .int (x2))]) hC dL_isBack_19 (by decide) rfl ?_
  refine xk_locals [5, 6, 7, 4, 3, 2, 1, 0] rfl ?_
  exact t_L_isBack_21 hC hr 4096 x0 x1 x2 (some w.2.1) (some w1.2.1) (some w2.2.1) ((0 : Int32)) ((0 : Int32)) w3 hf
theorem xd_L_isBack : xy_L_isBack.cls ≠ "java/lang/invoke/MethodHandle" ∧ xy_L_isBack.cls ≠ "java/lang/invoke/VarHandle" ∧ (parseMethodDescriptor xy_L_isBack.desc).map (fun d => d.parameters.length) = some 3 := ⟨by decide +kernel, by decide +kernel, by decide +kernel⟩
theorem c_L_isBack {l : Launch} {E : xEv} {x0 : Option Nat} {x1 : Int32} {x2 : Int32} {w : xWd} {q : (Int32 × xWd)} (hf : f_L_isBack x0 x1 x2 w = some q) : xk_M l xy_L_isBack method_5_code 13 (some .boolean) 8 175 3 192 E [va_rf (x0), .int (x1), .int (x2)] w (xk_Qi E q) := by
  refine xk_enter (by decide +kernel) (by simp [lg_sl, xk_cat1, xk_cati, xk_catl, xk_catd]) ?_
  intro p e s m args below meth c hC hr hin ha
  rw [show lv_args 0 [va_rf (x0), .int (x1), .int (x2)] = [(0, va_rf (x0)), (1, .int (x1)), (2, .int (x2))] by simp [lv_args, xk_cat1, xk_cati, xk_catl, xk_catd]]
  exact t_L_isBack_0 hC hr x0 x1 x2 w hf
def f_L_areWell_148 (w : xWd) : Option (Int32 × xWd) := some ((0 : Int32), w)
set_option maxHeartbeats 4000000 in
set_option maxRecDepth 100000 in
theorem t_L_areWell_148 {p : Program} {l : Launch} {e : Env} {s : State} {m : MethodId} {args : Array Value} {below : List Frame} {meth : Method} {c : Code} {E : xEv} (hC : xk_C p s m args meth c E method_6_code "ClickbookLaw" 8) (hr : meth.sig.returnType = (some .boolean)) {q : (Int32 × xWd)} (w : xWd) (hf : f_L_areWell_148 w = some q) : xk_X p l e { frames := 8, cells := 0, slots := 0, locals := 175 } s m args below meth c (MQ below (xk_Qi E q) args s 0 0 (xk_A E.2.2.1)) E 8 0 0 148 [] [] w := by
  refine xk_iconst (v := (0 : Int32)) hC dL_areWell_148 (by decide) ?_
  cases hf
  refine xk_widen (k := 0) (n := 0) (Nat.le_of_ble_eq_true rfl) (Nat.le_of_ble_eq_true rfl) ?_
  exact xk_iret hC hr rfl dL_areWell_149
def f_L_areWell_182 (k6 : Option Nat → Int32 → Int32 → Int32 → xWd → Option (Int32 × xWd)) (x0 : Option Nat) (x1 : Int32) (x3 : Int32) (s0 : Int32) (s1 : Int32) (w : xWd) : Option (Int32 × xWd) := k6 x0 x1 ((s1) + (s0)) (x3 + (1 : Int32)) w
set_option maxHeartbeats 4000000 in
set_option maxRecDepth 100000 in
theorem t_L_areWell_182 {p : Program} {l : Launch} {e : Env} {s : State} {m : MethodId} {args : Array Value} {below : List Frame} {meth : Method} {c : Code} {E : xEv} (hC : xk_C p s m args meth c E method_6_code "ClickbookLaw" 8) (hr : meth.sig.returnType = (some .boolean)) {q : (Int32 × xWd)} {k6 : Option Nat → Int32 → Int32 → Int32 → xWd → Option (Int32 × xWd)} (hk6 : ∀ (x0 : Option Nat) (x1 : Int32) (x2 : Int32) (x3 : Int32) (w : xWd), k6 x0 x1 x2 x3 w = some q → xk_X p l e { frames := 8, cells := 0, slots := 0, locals := 175 } s m args below meth c (MQ below (xk_Qi E q) args s 0 0 (xk_A E.2.2.1)) E 8 0 0 6 [(0, va_rf (x0)), (1, .int (x1)), (2, .int (x2)), (3, .int (x3))] [] w) (x0 : Option Nat) (x1 : Int32) (x3 : Int32) (s0 : Int32) (s1 : Int32) (w : xWd) (hf : f_L_areWell_182 k6 x0 x1 x3 s0 s1 w = some q) : xk_X p l e { frames := 8, cells := 0, slots := 0, locals := 175 } s m args below meth c (MQ below (xk_Qi E q) args s 0 0 (xk_A E.2.2.1)) E 8 0 0 182 [(0, va_rf (x0)), (1, .int (x1)), (3, .int (x3))] [.int (s0), .int (s1)] w := by
  refine xk_iadd hC dL_areWell_182 ?_
  refine xk_istore_n (i := 2) (lv' := [(2, .int ((s1) + (s0))), (0, va_rf (x0)), (1, .int (x1)), (3, .int (x3))]) hC dL_areWell_183 rfl (by decide) rfl ?_
  refine xk_iinc (v := x3 + (1 : Int32)) (lv' := [(3, .int (x3 + (1 : Int32))), (2, .int ((s1) + (s0))), (0, va_rf (x0)), (1, .int (x1))]) hC dL_areWell_184 3 rfl rfl (by decide) rfl ?_
  refine xk_goto (tgt := 6) hC dL_areWell_187 (by decide) ?_
  refine xk_locals [2, 3, 1, 0] rfl ?_
  exact hk6 x0 x1 ((s1) + (s0)) (x3 + (1 : Int32)) w hf
def f_L_areWell_150 (k6 : Option Nat → Int32 → Int32 → Int32 → xWd → Option (Int32 × xWd)) (x0 : Option Nat) (x1 : Int32) (x2 : Int32) (x3 : Int32) (x6 : Int32) (w : xWd) : Option (Int32 × xWd) := (xk_is w (x0) 0).bind (fun u2 => (f_X4_ofCue (x0) (x3) ((12 : Int32)) w).bind (fun q1 => (xk_is q1.2 (x0) 0).bind (fun u4 => (f_X4_ofCue (x0) (x3) ((4 : Int32)) q1.2).bind (fun q3 => if (x6) = ((0 : Int32)) then f_L_areWell_182 k6 x0 ((x1) + ((q1.1) * (((1 : Int32)) + (((2 : Int32)) * (q3.1))))) x3 ((0 : Int32)) x2 (q3.2) else f_L_areWell_182 k6 x0 ((x1) + ((q1.1) * (((1 : Int32)) + (((2 : Int32)) * (q3.1))))) x3 ((1 : Int32)) x2 (q3.2)))))
set_option maxHeartbeats 4000000 in
set_option maxRecDepth 100000 in
theorem t_L_areWell_150 {p : Program} {l : Launch} {e : Env} {s : State} {m : MethodId} {args : Array Value} {below : List Frame} {meth : Method} {c : Code} {E : xEv} (hC : xk_C p s m args meth c E method_6_code "ClickbookLaw" 8) (hr : meth.sig.returnType = (some .boolean)) {q : (Int32 × xWd)} {k6 : Option Nat → Int32 → Int32 → Int32 → xWd → Option (Int32 × xWd)} (hk6 : ∀ (x0 : Option Nat) (x1 : Int32) (x2 : Int32) (x3 : Int32) (w : xWd), k6 x0 x1 x2 x3 w = some q → xk_X p l e { frames := 8, cells := 0, slots := 0, locals := 175 } s m args below meth c (MQ below (xk_Qi E q) args s 0 0 (xk_A E.2.2.1)) E 8 0 0 6 [(0, va_rf (x0)), (1, .int (x1)), (2, .int (x2)), (3, .int (x3))] [] w) (x0 : Option Nat) (x1 : Int32) (x2 : Int32) (x3 : Int32) (x6 : Int32) (w : xWd) (hf : f_L_areWell_150 k6 x0 x1 x2 x3 x6 w = some q) : xk_X p l e { frames := 8, cells := 0, slots := 0, locals := 175 } s m args below meth c (MQ below (xk_Qi E q) args s 0 0 (xk_A E.2.2.1)) E 8 0 0 150 [(0, va_rf (x0)), (1, .int (x1)), (2, .int (x2)), (3, .int (x3)), (6, .int (x6))] [] w := by
  refine xk_iload_n hC dL_areWell_150 1 rfl rfl ?_
  refine xk_aload_n hC dL_areWell_151 0 rfl rfl ?_
  refine xk_iload_n hC dL_areWell_152 3 rfl rfl ?_
  refine xk_bipush (v := (12 : Int32)) hC dL_areWell_153 (by decide) ?_
  obtain ⟨u2, h2, hf⟩ := xk_bi hf
  obtain ⟨q1, h1, hf⟩ := xk_bi hf
  refine xk_backi (xk_callV hC 2 xc_0 (c_X4_ofCue h1) h2 xm_503 xm_504 xm_505 xm_1 xm_506 ⟨rfl, xd_X4_ofCue⟩ rfl ⟨Nat.le_of_ble_eq_true rfl, Nat.le_of_ble_eq_true rfl⟩ rfl (Nat.le_of_ble_eq_true rfl) dL_areWell_155 ⟨(Nat.le_of_ble_eq_true rfl), (Nat.le_of_ble_eq_true rfl)⟩) ?_
  refine xk_iconst (v := (1 : Int32)) hC dL_areWell_158 (by decide) ?_
  refine xk_iconst (v := (2 : Int32)) hC dL_areWell_159 (by decide) ?_
  refine xk_aload_n hC dL_areWell_160 0 rfl rfl ?_
  refine xk_iload_n hC dL_areWell_161 3 rfl rfl ?_
  refine xk_iconst (v := (4 : Int32)) hC dL_areWell_162 (by decide) ?_
  obtain ⟨u4, h4, hf⟩ := xk_bi hf
  obtain ⟨q3, h3, hf⟩ := xk_bi hf
  refine xk_backi (xk_callV hC 2 xc_0 (c_X4_ofCue h3) h4 xm_503 xm_504 xm_505 xm_1 xm_506 ⟨rfl, xd_X4_ofCue⟩ rfl ⟨Nat.le_of_ble_eq_true rfl, Nat.le_of_ble_eq_true rfl⟩ rfl (Nat.le_of_ble_eq_true rfl) dL_areWell_163 ⟨(Nat.le_of_ble_eq_true rfl), (Nat.le_of_ble_eq_true rfl)⟩) ?_
  refine xk_imul hC dL_areWell_166 ?_
  refine xk_iadd hC dL_areWell_167 ?_
  refine xk_imul hC dL_areWell_168 ?_
  refine xk_iadd hC dL_areWell_169 ?_
  refine xk_istore_n (i := 1) (lv' := [(1, .int ((x1) + ((q1.1) * (((1 : Int32)) + (((2 : Int32)) * (q3.1)))))), (0, va_rf (x0)), (2, .int (x2)), (3, .int (x3)), (6, .int (x6))]) hC dL_areWell_170 rfl (by decide) (by simp [xk_cat1]) ?_
  refine xk_iload_n hC dL_areWell_171 2 rfl rfl ?_
  refine xk_iload hC dL_areWell_172 4 rfl ?_
  refine xk_if_eq (tgt := 181) hC dL_areWell_174 (by decide) (fun c5 => ?_) (fun c5 => ?_)
  · replace hf := (if_pos c5).symm.trans hf
    refine xk_iconst (v := (0 : Int32)) hC dL_areWell_181 (by decide) ?_
    refine xk_locals [1, 0, 3] rfl ?_
    exact t_L_areWell_182 hC hr hk6 x0 ((x1) + ((q1.1) * (((1 : Int32)) + (((2 : Int32)) * (q3.1))))) x3 ((0 : Int32)) x2 (q3.2) hf
  · replace hf := (if_neg c5).symm.trans hf
    refine xk_iconst (v := (1 : Int32)) hC dL_areWell_177 (by decide) ?_
    refine xk_goto (tgt := 182) hC dL_areWell_178 (by decide) ?_
    refine xk_locals [1, 0, 3] rfl ?_
    exact t_L_areWell_182 hC hr hk6 x0 ((x1) + ((q1.1) * (((1 : Int32)) + (((2 : Int32)) * (q3.1))))) x3 ((1 : Int32)) x2 (q3.2) hf
def f_L_areWell_118 (k6 : Option Nat → Int32 → Int32 → Int32 → xWd → Option (Int32 × xWd)) (x0 : Option Nat) (x1 : Int32) (x2 : Int32) (x3 : Int32) (x6 : Int32) (s0 : Int32) (w : xWd) : Option (Int32 × xWd) := if (s0) = (x6) then (xk_is w (x0) 0).bind (fun u3 => (f_X4_ofCue (x0) (x3) ((12 : Int32)) w).bind (fun q2 => if (q2.1) ≤ ((0 : Int32)) then f_L_areWell_150 k6 x0 x1 x2 x3 x6 (q2.2) else if (x6) = ((0 : Int32)) then (xk_is q2.2 (x0) 0).bind (fun u7 => (f_X4_ofCue (x0) (x3) ((11 : Int32)) q2.2).bind (fun q6 => if (q6.1) = ((0 : Int32)) then f_L_areWell_148 (q6.2) else f_L_areWell_150 k6 x0 x1 x2 x3 x6 (q6.2))) else f_L_areWell_148 (q2.2))) else f_L_areWell_148 w
set_option maxHeartbeats 4000000 in
set_option maxRecDepth 100000 in
theorem t_L_areWell_118 {p : Program} {l : Launch} {e : Env} {s : State} {m : MethodId} {args : Array Value} {below : List Frame} {meth : Method} {c : Code} {E : xEv} (hC : xk_C p s m args meth c E method_6_code "ClickbookLaw" 8) (hr : meth.sig.returnType = (some .boolean)) {q : (Int32 × xWd)} {k6 : Option Nat → Int32 → Int32 → Int32 → xWd → Option (Int32 × xWd)} (hk6 : ∀ (x0 : Option Nat) (x1 : Int32) (x2 : Int32) (x3 : Int32) (w : xWd), k6 x0 x1 x2 x3 w = some q → xk_X p l e { frames := 8, cells := 0, slots := 0, locals := 175 } s m args below meth c (MQ below (xk_Qi E q) args s 0 0 (xk_A E.2.2.1)) E 8 0 0 6 [(0, va_rf (x0)), (1, .int (x1)), (2, .int (x2)), (3, .int (x3))] [] w) (x0 : Option Nat) (x1 : Int32) (x2 : Int32) (x3 : Int32) (x6 : Int32) (s0 : Int32) (w : xWd) (hf : f_L_areWell_118 k6 x0 x1 x2 x3 x6 s0 w = some q) : xk_X p l e { frames := 8, cells := 0, slots := 0, locals := 175 } s m args below meth c (MQ below (xk_Qi E q) args s 0 0 (xk_A E.2.2.1)) E 8 0 0 118 [(0, va_rf (x0)), (1, .int (x1)), (2, .int (x2)), (3, .int (x3)), (6, .int (x6))] [.int (s0)] w := by
  refine xk_iload hC dL_areWell_118 4 rfl ?_
  refine xk_icmp_ne (tgt := 148) hC dL_areWell_120 (by decide) (fun c1 => ?_) (fun c1 => ?_)
  · replace hf := (if_neg c1).symm.trans hf
    refine xk_locals [] rfl ?_
    exact t_L_areWell_148 hC hr w hf
  · replace hf := (if_pos c1).symm.trans hf
    refine xk_aload_n hC dL_areWell_123 0 rfl rfl ?_
    refine xk_iload_n hC dL_areWell_124 3 rfl rfl ?_
    refine xk_bipush (v := (12 : Int32)) hC dL_areWell_125 (by decide) ?_
    obtain ⟨u3, h3, hf⟩ := xk_bi hf
    obtain ⟨q2, h2, hf⟩ := xk_bi hf
    refine xk_backi (xk_callV hC 2 xc_0 (c_X4_ofCue h2) h3 xm_503 xm_504 xm_505 xm_1 xm_506 ⟨rfl, xd_X4_ofCue⟩ rfl ⟨Nat.le_of_ble_eq_true rfl, Nat.le_of_ble_eq_true rfl⟩ rfl (Nat.le_of_ble_eq_true rfl) dL_areWell_127 ⟨(Nat.le_of_ble_eq_true rfl), (Nat.le_of_ble_eq_true rfl)⟩) ?_
    refine xk_if_le (tgt := 150) hC dL_areWell_130 (by decide) (fun c4 => ?_) (fun c4 => ?_)
    · replace hf := (if_pos c4).symm.trans hf
      exact t_L_areWell_150 hC hr hk6 x0 x1 x2 x3 x6 (q2.2) hf
    · replace hf := (if_neg c4).symm.trans hf
      refine xk_iload hC dL_areWell_133 4 rfl ?_
      refine xk_if_ne (tgt := 148) hC dL_areWell_135 (by decide) (fun c5 => ?_) (fun c5 => ?_)
      · replace hf := (if_neg c5).symm.trans hf
        refine xk_locals [] rfl ?_
        exact t_L_areWell_148 hC hr (q2.2) hf
      · replace hf := (if_pos c5).symm.trans hf
        refine xk_aload_n hC dL_areWell_138 0 rfl rfl ?_
        refine xk_iload_n hC dL_areWell_139 3 rfl rfl ?_
        refine xk_bipush (v := (11 : Int32)) hC dL_areWell_140 (by decide) ?_
        obtain ⟨u7, h7, hf⟩ := xk_bi hf
        obtain ⟨q6, h6, hf⟩ := xk_bi hf
        refine xk_backi (xk_callV hC 2 xc_0 (c_X4_ofCue h6) h7 xm_503 xm_504 xm_505 xm_1 xm_506 ⟨rfl, xd_X4_ofCue⟩ rfl ⟨Nat.le_of_ble_eq_true rfl, Nat.le_of_ble_eq_true rfl⟩ rfl (Nat.le_of_ble_eq_true rfl) dL_areWell_142 ⟨(Nat.le_of_ble_eq_true rfl), (Nat.le_of_ble_eq_true rfl)⟩) ?_
        refine xk_if_ne (tgt := 150) hC dL_areWell_145 (by decide) (fun c8 => ?_) (fun c8 => ?_)
        · replace hf := (if_neg c8).symm.trans hf
          exact t_L_areWell_150 hC hr hk6 x0 x1 x2 x3 x6 (q6.2) hf
        · replace hf := (if_pos c8).symm.trans hf
          refine xk_locals [] rfl ?_
          exact t_L_areWell_148 hC hr (q6.2) hf
def f_L_areWell_88 (k6 : Option Nat → Int32 → Int32 → Int32 → xWd → Option (Int32 × xWd)) (x0 : Option Nat) (x1 : Int32) (x2 : Int32) (x3 : Int32) (x5 : Int32) (s0 : Int32) (w : xWd) : Option (Int32 × xWd) := (xk_is w (x0) 0).bind (fun u2 => (f_X4_ofCue (x0) (x3) ((8 : Int32)) w).bind (fun q1 => if (q1.1) ≤ (x5) then f_L_areWell_148 (q1.2) else (xk_is q1.2 (x0) 0).bind (fun u5 => (f_X4_ofCue (x0) (x3) ((9 : Int32)) q1.2).bind (fun q4 => if (q4.1) = ((1 : Int32)) then f_L_areWell_118 k6 x0 x1 x2 x3 s0 ((1 : Int32)) (q4.2) else f_L_areWell_118 k6 x0 x1 x2 x3 s0 ((0 : Int32)) (q4.2)))))
set_option maxHeartbeats 4000000 in
set_option maxRecDepth 100000 in
theorem t_L_areWell_88 {p : Program} {l : Launch} {e : Env} {s : State} {m : MethodId} {args : Array Value} {below : List Frame} {meth : Method} {c : Code} {E : xEv} (hC : xk_C p s m args meth c E method_6_code "ClickbookLaw" 8) (hr : meth.sig.returnType = (some .boolean)) {q : (Int32 × xWd)} {k6 : Option Nat → Int32 → Int32 → Int32 → xWd → Option (Int32 × xWd)} (hk6 : ∀ (x0 : Option Nat) (x1 : Int32) (x2 : Int32) (x3 : Int32) (w : xWd), k6 x0 x1 x2 x3 w = some q → xk_X p l e { frames := 8, cells := 0, slots := 0, locals := 175 } s m args below meth c (MQ below (xk_Qi E q) args s 0 0 (xk_A E.2.2.1)) E 8 0 0 6 [(0, va_rf (x0)), (1, .int (x1)), (2, .int (x2)), (3, .int (x3))] [] w) (x0 : Option Nat) (x1 : Int32) (x2 : Int32) (x3 : Int32) (x5 : Int32) (s0 : Int32) (w : xWd) (hf : f_L_areWell_88 k6 x0 x1 x2 x3 x5 s0 w = some q) : xk_X p l e { frames := 8, cells := 0, slots := 0, locals := 175 } s m args below meth c (MQ below (xk_Qi E q) args s 0 0 (xk_A E.2.2.1)) E 8 0 0 88 [(0, va_rf (x0)), (1, .int (x1)), (2, .int (x2)), (3, .int (x3)), (5, .int (x5))] [.int (s0)] w := by
  refine xk_istore (i := 6) (lv' := [(6, .int (s0)), (0, va_rf (x0)), (1, .int (x1)), (2, .int (x2)), (3, .int (x3)), (5, .int (x5))]) hC dL_areWell_88 (by decide) rfl ?_
  refine xk_iload hC dL_areWell_90 5 rfl ?_
  refine xk_aload_n hC dL_areWell_92 1 rfl rfl ?_
  refine xk_iload_n hC dL_areWell_93 4 rfl rfl ?_
  refine xk_bipush (v := (8 : Int32)) hC dL_areWell_94 (by decide) ?_
  obtain ⟨u2, h2, hf⟩ := xk_bi hf
  obtain ⟨q1, h1, hf⟩ := xk_bi hf
  refine xk_backi (xk_callV hC 2 xc_0 (c_X4_ofCue h1) h2 xm_503 xm_504 xm_505 xm_1 xm_506 ⟨rfl, xd_X4_ofCue⟩ rfl ⟨Nat.le_of_ble_eq_true rfl, Nat.le_of_ble_eq_true rfl⟩ rfl (Nat.le_of_ble_eq_true rfl) dL_areWell_96 ⟨(Nat.le_of_ble_eq_true rfl), (Nat.le_of_ble_eq_true rfl)⟩) ?_
  refine xk_icmp_ge (tgt := 148) hC dL_areWell_99 (by decide) (fun c3 => ?_) (fun c3 => ?_)
  · replace hf := (if_pos c3).symm.trans hf
    refine xk_locals [] rfl ?_
    exact t_L_areWell_148 hC hr (q1.2) hf
  · replace hf := (if_neg c3).symm.trans hf
    refine xk_aload_n hC dL_areWell_102 1 rfl rfl ?_
    refine xk_iload_n hC dL_areWell_103 4 rfl rfl ?_
    refine xk_bipush (v := (9 : Int32)) hC dL_areWell_104 (by decide) ?_
    obtain ⟨u5, h5, hf⟩ := xk_bi hf
    obtain ⟨q4, h4, hf⟩ := xk_bi hf
    refine xk_backi (xk_callV hC 2 xc_0 (c_X4_ofCue h4) h5 xm_503 xm_504 xm_505 xm_1 xm_506 ⟨rfl, xd_X4_ofCue⟩ rfl ⟨Nat.le_of_ble_eq_true rfl, Nat.le_of_ble_eq_true rfl⟩ rfl (Nat.le_of_ble_eq_true rfl) dL_areWell_106 ⟨(Nat.le_of_ble_eq_true rfl), (Nat.le_of_ble_eq_true rfl)⟩) ?_
    refine xk_iconst (v := (1 : Int32)) hC dL_areWell_109 (by decide) ?_
    refine xk_icmp_ne (tgt := 117) hC dL_areWell_110 (by decide) (fun c6 => ?_) (fun c6 => ?_)
    · replace hf := (if_neg c6).symm.trans hf
      refine xk_iconst (v := (0 : Int32)) hC dL_areWell_117 (by decide) ?_
      refine xk_locals [1, 2, 3, 4, 0] rfl ?_
      exact t_L_areWell_118 hC hr hk6 x0 x1 x2 x3 s0 ((0 : Int32)) (q4.2) hf
    · replace hf := (if_pos c6).symm.trans hf
      refine xk_iconst (v := (1 : Int32)) hC dL_areWell_113 (by decide) ?_
      refine xk_goto (tgt := 118) hC dL_areWell_114 (by decide) ?_
      refine xk_locals [1, 2, 3, 4, 0] rfl ?_
      exact t_L_areWell_118 hC hr hk6 x0 x1 x2 x3 s0 ((1 : Int32)) (q4.2) hf
def f_L_areWell_33 (k6 : Option Nat → Int32 → Int32 → Int32 → xWd → Option (Int32 × xWd)) : Nat → Option Nat → Int32 → Int32 → Int32 → Int32 → Int32 → Int32 → xWd → Option (Int32 × xWd)
  | 0, _, _, _, _, _, _, _, _ => none
  | n + 1, x0, x1, x2, x3, x4, x5, x6, w => if (x4) ≤ (x6) then (xk_is w (x0) 0).bind (fun u3 => (f_X4_ofCue (x0) (x3) ((8 : Int32)) w).bind (fun q2 => (xk_is q2.2 (x0) 0).bind (fun u5 => (f_X4_many (x0) ((0 : Int32)) q2.2).bind (fun q4 => if (q2.1) ≤ (q4.1) then f_L_areWell_88 k6 x0 x1 x2 x3 x5 ((0 : Int32)) (q4.2) else f_L_areWell_88 k6 x0 x1 x2 x3 x5 ((1 : Int32)) (q4.2))))) else (xk_is w (x0) 0).bind (fun u8 => (f_X4_beat (x0) (x3) (x6) w).bind (fun q7 => if (x5) < (q7.1) then f_L_areWell_33 k6 n x0 x1 x2 x3 x4 (q7.1) (x6 + (1 : Int32)) (q7.2) else some ((0 : Int32), q7.2)))
set_option maxHeartbeats 4000000 in
set_option maxRecDepth 100000 in
theorem t_L_areWell_33 {p : Program} {l : Launch} {e : Env} {s : State} {m : MethodId} {args : Array Value} {below : List Frame} {meth : Method} {c : Code} {E : xEv} (hC : xk_C p s m args meth c E method_6_code "ClickbookLaw" 8) (hr : meth.sig.returnType = (some .boolean)) {q : (Int32 × xWd)} {k6 : Option Nat → Int32 → Int32 → Int32 → xWd → Option (Int32 × xWd)} (hk6 : ∀ (x0 : Option Nat) (x1 : Int32) (x2 : Int32) (x3 : Int32) (w : xWd), k6 x0 x1 x2 x3 w = some q → xk_X p l e { frames := 8, cells := 0, slots := 0, locals := 175 } s m args below meth c (MQ below (xk_Qi E q) args s 0 0 (xk_A E.2.2.1)) E 8 0 0 6 [(0, va_rf (x0)), (1, .int (x1)), (2, .int (x2)), (3, .int (x3))] [] w) : ∀ (n : Nat) (x0 : Option Nat) (x1 : Int32) (x2 : Int32) (x3 : Int32) (x4 : Int32) (x5 : Int32) (x6 : Int32) (w : xWd), f_L_areWell_33 k6 n x0 x1 x2 x3 x4 x5 x6 w = some q → xk_X p l e { frames := 8, cells := 0, slots := 0, locals := 175 } s m args below meth c (MQ below (xk_Qi E q) args s 0 0 (xk_A E.2.2.1)) E 8 0 0 33 [(0, va_rf (x0)), (1, .int (x1)), (2, .int (x2)), (3, .int (x3)), (4, .int (x4)), (5, .int (x5)), (6, .int (x6))] [] w := by
  intro n
  induction n with
  | zero => intro x0 x1 x2 x3 x4 x5 x6 w hf; have hf : none = some q := hf; cases hf
  | succ n ih =>
    intro x0 x1 x2 x3 x4 x5 x6 w hf
    refine xk_iload hC dL_areWell_33 6 rfl ?_
    refine xk_iload hC dL_areWell_35 4 rfl ?_
    refine xk_icmp_ge (tgt := 68) hC dL_areWell_37 (by decide) (fun c1 => ?_) (fun c1 => ?_)
    · replace hf := (if_pos c1).symm.trans hf
      refine xk_aload_n hC dL_areWell_68 0 rfl rfl ?_
      refine xk_iload_n hC dL_areWell_69 3 rfl rfl ?_
      refine xk_bipush (v := (8 : Int32)) hC dL_areWell_70 (by decide) ?_
      obtain ⟨u3, h3, hf⟩ := xk_bi hf
      obtain ⟨q2, h2, hf⟩ := xk_bi hf
      refine xk_backi (xk_callV hC 2 xc_0 (c_X4_ofCue h2) h3 xm_503 xm_504 xm_505 xm_1 xm_506 ⟨rfl, xd_X4_ofCue⟩ rfl ⟨Nat.le_of_ble_eq_true rfl, Nat.le_of_ble_eq_true rfl⟩ rfl (Nat.le_of_ble_eq_true rfl) dL_areWell_72 ⟨(Nat.le_of_ble_eq_true rfl), (Nat.le_of_ble_eq_true rfl)⟩) ?_
      refine xk_aload_n hC dL_areWell_75 0 rfl rfl ?_
      refine xk_iconst (v := (0 : Int32)) hC dL_areWell_76 (by decide) ?_
      obtain ⟨u5, h5, hf⟩ := xk_bi hf
      obtain ⟨q4, h4, hf⟩ := xk_bi hf
      refine xk_backi (xk_callV hC 1 xc_0 (c_X4_many h4) h5 xm_542 xm_543 xm_544 xm_1 xm_545 ⟨rfl, xd_X4_many⟩ rfl ⟨Nat.le_of_ble_eq_true rfl, Nat.le_of_ble_eq_true rfl⟩ rfl (Nat.le_of_ble_eq_true rfl) dL_areWell_77 ⟨(Nat.le_of_ble_eq_true rfl), (Nat.le_of_ble_eq_true rfl)⟩) ?_
      refine xk_icmp_le (tgt := 87) hC dL_areWell_80 (by decide) (fun c6 => ?_) (fun c6 => ?_)
      · replace hf := (if_pos c6).symm.trans hf
        refine xk_iconst (v := (0 : Int32)) hC dL_areWell_87 (by decide) ?_
        refine xk_locals [0, 1, 2, 3, 5] rfl ?_
        exact t_L_areWell_88 hC hr hk6 x0 x1 x2 x3 x5 ((0 : Int32)) (q4.2) hf
      · replace hf := (if_neg c6).symm.trans hf
        refine xk_iconst (v := (1 : Int32)) hC dL_areWell_83 (by decide) ?_
        refine xk_goto (tgt := 88) hC dL_areWell_84 (by decide) ?_
        refine xk_locals [0, 1, 2, 3, 5] rfl ?_
        exact t_L_areWell_88 hC hr hk6 x0 x1 x2 x3 x5 ((1 : Int32)) (q4.2) hf
    · replace hf := (if_neg c1).symm.trans hf
      refine xk_aload_n hC dL_areWell_40 0 rfl rfl ?_
      refine xk_iload_n hC dL_areWell_41 3 rfl rfl ?_
      refine xk_iload hC dL_areWell_42 6 rfl ?_
      obtain ⟨u8, h8, hf⟩ := xk_bi hf
      obtain ⟨q7, h7, hf⟩ := xk_bi hf
      refine xk_backi (xk_callV hC 2 xc_0 (c_X4_beat h7) h8 xm_769 xm_770 xm_771 xm_1 xm_772 ⟨rfl, xd_X4_beat⟩ rfl ⟨Nat.le_of_ble_eq_true rfl, Nat.le_of_ble_eq_true rfl⟩ rfl (Nat.le_of_ble_eq_true rfl) dL_areWell_44 ⟨(Nat.le_of_ble_eq_true rfl), (Nat.le_of_ble_eq_true rfl)⟩) ?_
      refine xk_istore (i := 7) (lv' := [(7, .int (q7.1)), (0, va_rf (x0)), (1, .int (x1)), (2, .int (x2)), (3, .int (x3)), (4, .int (x4)), (5, .int (x5)), (6, .int (x6))]) hC dL_areWell_47 (by decide) rfl ?_
      refine xk_iload hC dL_areWell_49 0 rfl ?_
      refine xk_iload hC dL_areWell_51 6 rfl ?_
      refine xk_icmp_gt (tgt := 58) hC dL_areWell_53 (by decide) (fun c9 => ?_) (fun c9 => ?_)
      · replace hf := (if_pos c9).symm.trans hf
        refine xk_iload hC dL_areWell_58 0 rfl ?_
        refine xk_istore (i := 5) (lv' := [(5, .int (q7.1)), (7, .int (q7.1)), (0, va_rf (x0)), (1, .int (x1)), (2, .int (x2)), (3, .int (x3)), (4, .int (x4)), (6, .int (x6))]) hC dL_areWell_60 (by decide) rfl ?_
        refine xk_iinc (v := x6 + (1 : Int32)) (lv' := [(6, .int (x6 + (1 : Int32))), (5, .int (q7.1)), (7, .int (q7.1)), (0, va_rf (x0)), (1, .int (x1)), (2, .int (x2)), (3, .int (x3)), (4, .int (x4))]) hC dL_areWell_62 7 rfl rfl (by decide) rfl ?_
        refine xk_goto (tgt := 33) hC dL_areWell_65 (by decide) ?_
        refine xk_locals [3, 4, 5, 6, 7, 1, 0] rfl ?_
        exact ih x0 x1 x2 x3 x4 (q7.1) (x6 + (1 : Int32)) (q7.2) hf
      · replace hf := (if_neg c9).symm.trans hf
        refine xk_iconst (v := (0 : Int32)) hC dL_areWell_56 (by decide) ?_
        cases hf
        refine xk_widen (k := 0) (n := 0) (Nat.le_of_ble_eq_true rfl) (Nat.le_of_ble_eq_true rfl) ?_
        exact xk_iret hC hr rfl dL_areWell_57
def f_L_areWell_285 (w : xWd) : Option (Int32 × xWd) := some ((0 : Int32), w)
set_option maxHeartbeats 4000000 in
set_option maxRecDepth 100000 in
theorem t_L_areWell_285 {p : Program} {l : Launch} {e : Env} {s : State} {m : MethodId} {args : Array Value} {below : List Frame} {meth : Method} {c : Code} {E : xEv} (hC : xk_C p s m args meth c E method_6_code "ClickbookLaw" 8) (hr : meth.sig.returnType = (some .boolean)) {q : (Int32 × xWd)} (w : xWd) (hf : f_L_areWell_285 w = some q) : xk_X p l e { frames := 8, cells := 0, slots := 0, locals := 175 } s m args below meth c (MQ below (xk_Qi E q) args s 0 0 (xk_A E.2.2.1)) E 8 0 0 285 [] [] w := by
  refine xk_iconst (v := (0 : Int32)) hC dL_areWell_285 (by decide) ?_
  cases hf
  refine xk_widen (k := 0) (n := 0) (Nat.le_of_ble_eq_true rfl) (Nat.le_of_ble_eq_true rfl) ?_
  exact xk_iret hC hr rfl dL_areWell_286
def f_L_areWell_287 (k195 : Option Nat → Int32 → Int32 → Int32 → Int32 → xWd → Option (Int32 × xWd)) (x0 : Option Nat) (x1 : Int32) (x2 : Int32) (x3 : Int32) (x4 : Int32) (w : xWd) : Option (Int32 × xWd) := k195 x0 x1 x2 x3 (x4 + (1 : Int32)) w
set_option maxHeartbeats 4000000 in
set_option maxRecDepth 100000 in
theorem t_L_areWell_287 {p : Program} {l : Launch} {e : Env} {s : State} {m : MethodId} {args : Array Value} {below : List Frame} {meth : Method} {c : Code} {E : xEv} (hC : xk_C p s m args meth c E method_6_code "ClickbookLaw" 8) (hr : meth.sig.returnType = (some .boolean)) {q : (Int32 × xWd)} {k195 : Option Nat → Int32 → Int32 → Int32 → Int32 → xWd → Option (Int32 × xWd)} (hk195 : ∀ (x0 : Option Nat) (x1 : Int32) (x2 : Int32) (x3 : Int32) (x4 : Int32) (w : xWd), k195 x0 x1 x2 x3 x4 w = some q → xk_X p l e { frames := 8, cells := 0, slots := 0, locals := 175 } s m args below meth c (MQ below (xk_Qi E q) args s 0 0 (xk_A E.2.2.1)) E 8 0 0 195 [(0, va_rf (x0)), (1, .int (x1)), (2, .int (x2)), (3, .int (x3)), (4, .int (x4))] [] w) (x0 : Option Nat) (x1 : Int32) (x2 : Int32) (x3 : Int32) (x4 : Int32) (w : xWd) (hf : f_L_areWell_287 k195 x0 x1 x2 x3 x4 w = some q) : xk_X p l e { frames := 8, cells := 0, slots := 0, locals := 175 } s m args below meth c (MQ below (xk_Qi E q) args s 0 0 (xk_A E.2.2.1)) E 8 0 0 287 [(0, va_rf (x0)), (1, .int (x1)), (2, .int (x2)), (3, .int (x3)), (4, .int (x4))] [] w := by
  refine xk_iinc (v := x4 + (1 : Int32)) (lv' := [(4, .int (x4 + (1 : Int32))), (0, va_rf (x0)), (1, .int (x1)), (2, .int (x2)), (3, .int (x3))]) hC dL_areWell_287 4 rfl rfl (by decide) rfl ?_
  refine xk_goto (tgt := 195) hC dL_areWell_290 (by decide) ?_
  refine xk_locals [1, 2, 3, 4, 0] rfl ?_
  exact hk195 x0 x1 x2 x3 (x4 + (1 : Int32)) w hf
def f_L_areWell_365 (s0 : Int32) (w : xWd) : Option (Int32 × xWd) := (xk_zb (s0)).bind (fun u1 => some (s0, w))
set_option maxHeartbeats 4000000 in
set_option maxRecDepth 100000 in
theorem t_L_areWell_365 {p : Program} {l : Launch} {e : Env} {s : State} {m : MethodId} {args : Array Value} {below : List Frame} {meth : Method} {c : Code} {E : xEv} (hC : xk_C p s m args meth c E method_6_code "ClickbookLaw" 8) (hr : meth.sig.returnType = (some .boolean)) {q : (Int32 × xWd)} (s0 : Int32) (w : xWd) (hf : f_L_areWell_365 s0 w = some q) : xk_X p l e { frames := 8, cells := 0, slots := 0, locals := 175 } s m args below meth c (MQ below (xk_Qi E q) args s 0 0 (xk_A E.2.2.1)) E 8 0 0 365 [] [.int (s0)] w := by
  obtain ⟨u1, h1, hf⟩ := xk_bi hf
  cases hf
  refine xk_widen (k := 0) (n := 0) (Nat.le_of_ble_eq_true rfl) (Nat.le_of_ble_eq_true rfl) ?_
  exact xk_iret hC hr (xk_zb_e h1) dL_areWell_365
def f_L_areWell_364 (w : xWd) : Option (Int32 × xWd) := f_L_areWell_365 ((0 : Int32)) w
set_option maxHeartbeats 4000000 in
set_option maxRecDepth 100000 in
theorem t_L_areWell_364 {p : Program} {l : Launch} {e : Env} {s : State} {m : MethodId} {args : Array Value} {below : List Frame} {meth : Method} {c : Code} {E : xEv} (hC : xk_C p s m args meth c E method_6_code "ClickbookLaw" 8) (hr : meth.sig.returnType = (some .boolean)) {q : (Int32 × xWd)} (w : xWd) (hf : f_L_areWell_364 w = some q) : xk_X p l e { frames := 8, cells := 0, slots := 0, locals := 175 } s m args below meth c (MQ below (xk_Qi E q) args s 0 0 (xk_A E.2.2.1)) E 8 0 0 364 [] [] w := by
  refine xk_iconst (v := (0 : Int32)) hC dL_areWell_364 (by decide) ?_
  exact t_L_areWell_365 hC hr ((0 : Int32)) w hf
def f_L_areWell_195 : Nat → Option Nat → Int32 → Int32 → Int32 → Int32 → xWd → Option (Int32 × xWd)
  | 0, _, _, _, _, _, _ => none
  | n + 1, x0, x1, x2, x3, x4, w => if ((8 : Int32)) ≤ (x4) then (xk_is w (x0) 0).bind (fun u3 => (f_X4_many (x0) ((4 : Int32)) w).bind (fun q2 => if (q2.1) = (x3) then (xk_is q2.2 (x0) 0).bind (fun u6 => (f_X4_many (x0) ((7 : Int32)) q2.2).bind (fun q5 => if (q5.1) = (x2) then (xk_is q5.2 (x0) 0).bind (fun u9 => (f_X4_many (x0) ((15 : Int32)) q5.2).bind (fun q8 => if (q8.1) = (x1) then (xk_is q8.2 (x0) 0).bind (fun u12 => (f_X4_many (x0) ((13 : Int32)) q8.2).bind (fun q11 => if ((120 : Int32)) < (q11.1) then f_L_areWell_364 (q11.2) else (xk_is q11.2 (x0) 0).bind (fun u15 => (f_X4_sheet (x0) ((0 : Int32)) q11.2).bind (fun q14 => (xk_is q14.2 (x0) 0).bind (fun u17 => (f_X4_sheet (x0) ((1 : Int32)) q14.2).bind (fun q16 => (xk_is q16.2 (x0) 0).bind (fun u19 => (f_X4_sheet (x0) ((2 : Int32)) q16.2).bind (fun q18 => (xk_is q18.2 (x0) 0).bind (fun u21 => (f_X4_sheet (x0) ((3 : Int32)) q18.2).bind (fun q20 => if ((((q14.1) + (q16.1)) + (q18.1)) + (q20.1)) = (x1) then f_L_areWell_365 ((1 : Int32)) (q20.2) else f_L_areWell_364 (q20.2))))))))))) else f_L_areWell_364 (q8.2))) else f_L_areWell_364 (q5.2))) else f_L_areWell_364 (q2.2))) else (xk_is w (x0) 0).bind (fun u24 => (f_X4_ofHit (x0) (x4) ((4 : Int32)) w).bind (fun q23 => if (q23.1) = ((0 : Int32)) then f_L_areWell_287 (f_L_areWell_195 n) x0 x1 x2 x3 x4 (q23.2) else (xk_is q23.2 (x0) 0).bind (fun u27 => (f_X4_ofHit (x0) (x4) ((5 : Int32)) q23.2).bind (fun q26 => (xk_is q26.2 (x0) 0).bind (fun u29 => (f_X4_ofHit (x0) (x4) ((6 : Int32)) q26.2).bind (fun q28 => (xk_is q28.2 (x0) 0).bind (fun u31 => (f_X4_beat (x0) (q26.1) (q28.1) q28.2).bind (fun q30 => (xk_is q30.2 (x0) 0).bind (fun u33 => (f_X4_ofHit (x0) (x4) ((0 : Int32)) q30.2).bind (fun q32 => (xk_is q32.2 (x0) 0).bind (fun u35 => (f_X4_ofHit (x0) (x4) ((2 : Int32)) q32.2).bind (fun q34 => if (q34.1) = ((1 : Int32)) then f_L_areWell_285 (q34.2) else (xk_is q34.2 (x0) 0).bind (fun u38 => (f_X4_ofHit (x0) (x4) ((3 : Int32)) q34.2).bind (fun q37 => if (if 0 ≤ ((q30.1) - (q32.1)) then ((q30.1) - (q32.1)) else 0 - ((q30.1) - (q32.1))) = (q37.1) then (xk_is q37.2 (x0) 0).bind (fun u41 => (f_X4_ofHit (x0) (x4) ((1 : Int32)) q37.2).bind (fun q40 => if (if 0 ≤ ((q30.1) - (q32.1)) then ((q30.1) - (q32.1)) else 0 - ((q30.1) - (q32.1))) ≤ (q40.1) then f_L_areWell_287 (f_L_areWell_195 n) x0 x1 x2 (x3 + (1 : Int32)) x4 (q40.2) else f_L_areWell_285 (q40.2))) else f_L_areWell_285 (q37.2)))))))))))))))
set_option maxHeartbeats 4000000 in
set_option maxRecDepth 100000 in
theorem t_L_areWell_195 {p : Program} {l : Launch} {e : Env} {s : State} {m : MethodId} {args : Array Value} {below : List Frame} {meth : Method} {c : Code} {E : xEv} (hC : xk_C p s m args meth c E method_6_code "ClickbookLaw" 8) (hr : meth.sig.returnType = (some .boolean)) {q : (Int32 × xWd)} : ∀ (n : Nat) (x0 : Option Nat) (x1 : Int32) (x2 : Int32) (x3 : Int32) (x4 : Int32) (w : xWd), f_L_areWell_195 n x0 x1 x2 x3 x4 w = some q → xk_X p l e { frames := 8, cells := 0, slots := 0, locals := 175 } s m args below meth c (MQ below (xk_Qi E q) args s 0 0 (xk_A E.2.2.1)) E 8 0 0 195 [(0, va_rf (x0)), (1, .int (x1)), (2, .int (x2)), (3, .int (x3)), (4, .int (x4))] [] w := by
  intro n
  induction n with
  | zero => intro x0 x1 x2 x3 x4 w hf; have hf : none = some q := hf; cases hf
  | succ n ih =>
    intro x0 x1 x2 x3 x4 w hf
    refine xk_iload hC dL_areWell_195 4 rfl ?_
    refine xk_bipush (v := (8 : Int32)) hC dL_areWell_197 (by decide) ?_
    refine xk_icmp_ge (tgt := 293) hC dL_areWell_199 (by decide) (fun c1 => ?_) (fun c1 => ?_)
    · replace hf := (if_pos c1).symm.trans hf
      refine xk_aload_n hC dL_areWell_293 0 rfl rfl ?_
      refine xk_iconst (v := (4 : Int32)) hC dL_areWell_294 (by decide) ?_
      obtain ⟨u3, h3, hf⟩ := xk_bi hf
      obtain ⟨q2, h2, hf⟩ := xk_bi hf
      refine xk_backi (xk_callV hC 1 xc_0 (c_X4_many h2) h3 xm_542 xm_543 xm_544 xm_1 xm_545 ⟨rfl, xd_X4_many⟩ rfl ⟨Nat.le_of_ble_eq_true rfl, Nat.le_of_ble_eq_true rfl⟩ rfl (Nat.le_of_ble_eq_true rfl) dL_areWell_295 ⟨(Nat.le_of_ble_eq_true rfl), (Nat.le_of_ble_eq_true rfl)⟩) ?_
      refine xk_iload_n hC dL_areWell_298 3 rfl rfl ?_
      refine xk_icmp_ne (tgt := 364) hC dL_areWell_299 (by decide) (fun c4 => ?_) (fun c4 => ?_)
      · replace hf := (if_neg c4).symm.trans hf
        refine xk_locals [] rfl ?_
        exact t_L_areWell_364 hC hr (q2.2) hf
      · replace hf := (if_pos c4).symm.trans hf
        refine xk_aload_n hC dL_areWell_302 0 rfl rfl ?_
        refine xk_bipush (v := (7 : Int32)) hC dL_areWell_303 (by decide) ?_
        obtain ⟨u6, h6, hf⟩ := xk_bi hf
        obtain ⟨q5, h5, hf⟩ := xk_bi hf
        refine xk_backi (xk_callV hC 1 xc_0 (c_X4_many h5) h6 xm_542 xm_543 xm_544 xm_1 xm_545 ⟨rfl, xd_X4_many⟩ rfl ⟨Nat.le_of_ble_eq_true rfl, Nat.le_of_ble_eq_true rfl⟩ rfl (Nat.le_of_ble_eq_true rfl) dL_areWell_305 ⟨(Nat.le_of_ble_eq_true rfl), (Nat.le_of_ble_eq_true rfl)⟩) ?_
        refine xk_iload_n hC dL_areWell_308 2 rfl rfl ?_
        refine xk_icmp_ne (tgt := 364) hC dL_areWell_309 (by decide) (fun c7 => ?_) (fun c7 => ?_)
        · replace hf := (if_neg c7).symm.trans hf
          refine xk_locals [] rfl ?_
          exact t_L_areWell_364 hC hr (q5.2) hf
        · replace hf := (if_pos c7).symm.trans hf
          refine xk_aload_n hC dL_areWell_312 0 rfl rfl ?_
          refine xk_bipush (v := (15 : Int32)) hC dL_areWell_313 (by decide) ?_
          obtain ⟨u9, h9, hf⟩ := xk_bi hf
          obtain ⟨q8, h8, hf⟩ := xk_bi hf
          refine xk_backi (xk_callV hC 1 xc_0 (c_X4_many h8) h9 xm_542 xm_543 xm_544 xm_1 xm_545 ⟨rfl, xd_X4_many⟩ rfl ⟨Nat.le_of_ble_eq_true rfl, Nat.le_of_ble_eq_true rfl⟩ rfl (Nat.le_of_ble_eq_true rfl) dL_areWell_315 ⟨(Nat.le_of_ble_eq_true rfl), (Nat.le_of_ble_eq_true rfl)⟩) ?_
          refine xk_iload_n hC dL_areWell_318 1 rfl rfl ?_
          refine xk_icmp_ne (tgt := 364) hC dL_areWell_319 (by decide) (fun c10 => ?_) (fun c10 => ?_)
          · replace hf := (if_neg c10).symm.trans hf
            refine xk_locals [] rfl ?_
            exact t_L_areWell_364 hC hr (q8.2) hf
          · replace hf := (if_pos c10).symm.trans hf
            refine xk_aload_n hC dL_areWell_322 0 rfl rfl ?_
            refine xk_bipush (v := (13 : Int32)) hC dL_areWell_323 (by decide) ?_
            obtain ⟨u12, h12, hf⟩ := xk_bi hf
            obtain ⟨q11, h11, hf⟩ := xk_bi hf
            refine xk_backi (xk_callV hC 1 xc_0 (c_X4_many h11) h12 xm_542 xm_543 xm_544 xm_1 xm_545 ⟨rfl, xd_X4_many⟩ rfl ⟨Nat.le_of_ble_eq_true rfl, Nat.le_of_ble_eq_true rfl⟩ rfl (Nat.le_of_ble_eq_true rfl) dL_areWell_325 ⟨(Nat.le_of_ble_eq_true rfl), (Nat.le_of_ble_eq_true rfl)⟩) ?_
            refine xk_bipush (v := (120 : Int32)) hC dL_areWell_328 (by decide) ?_
            refine xk_icmp_gt (tgt := 364) hC dL_areWell_330 (by decide) (fun c13 => ?_) (fun c13 => ?_)
            · replace hf := (if_pos c13).symm.trans hf
              refine xk_locals [] rfl ?_
              exact t_L_areWell_364 hC hr (q11.2) hf
            · replace hf := (if_neg c13).symm.trans hf
              refine xk_aload_n hC dL_areWell_333 0 rfl rfl ?_
              refine xk_iconst (v := (0 : Int32)) hC dL_areWell_334 (by decide) ?_
              obtain ⟨u15, h15, hf⟩ := xk_bi hf
              obtain ⟨q14, h14, hf⟩ := xk_bi hf
              refine xk_backi (xk_callV hC 1 xc_0 (c_X4_sheet h14) h15 xm_775 xm_724 xm_725 xm_1 xm_726 ⟨rfl, xd_X4_sheet⟩ rfl ⟨Nat.le_of_ble_eq_true rfl, Nat.le_of_ble_eq_true rfl⟩ rfl (Nat.le_of_ble_eq_true rfl) dL_areWell_335 ⟨(Nat.le_of_ble_eq_true rfl), (Nat.le_of_ble_eq_true rfl)⟩) ?_
              refine xk_aload_n hC dL_areWell_338 0 rfl rfl ?_
              refine xk_iconst (v := (1 : Int32)) hC dL_areWell_339 (by decide) ?_
              obtain ⟨u17, h17, hf⟩ := xk_bi hf
              obtain ⟨q16, h16, hf⟩ := xk_bi hf
              refine xk_backi (xk_callV hC 1 xc_0 (c_X4_sheet h16) h17 xm_775 xm_724 xm_725 xm_1 xm_726 ⟨rfl, xd_X4_sheet⟩ rfl ⟨Nat.le_of_ble_eq_true rfl, Nat.le_of_ble_eq_true rfl⟩ rfl (Nat.le_of_ble_eq_true rfl) dL_areWell_340 ⟨(Nat.le_of_ble_eq_true rfl), (Nat.le_of_ble_eq_true rfl)⟩) ?_
              refine xk_iadd hC dL_areWell_343 ?_
              refine xk_aload_n hC dL_areWell_344 0 rfl rfl ?_
              refine xk_iconst (v := (2 : Int32)) hC dL_areWell_345 (by decide) ?_
              obtain ⟨u19, h19, hf⟩ := xk_bi hf
              obtain ⟨q18, h18, hf⟩ := xk_bi hf
              refine xk_backi (xk_callV hC 1 xc_0 (c_X4_sheet h18) h19 xm_775 xm_724 xm_725 xm_1 xm_726 ⟨rfl, xd_X4_sheet⟩ rfl ⟨Nat.le_of_ble_eq_true rfl, Nat.le_of_ble_eq_true rfl⟩ rfl (Nat.le_of_ble_eq_true rfl) dL_areWell_346 ⟨(Nat.le_of_ble_eq_true rfl), (Nat.le_of_ble_eq_true rfl)⟩) ?_
              refine xk_iadd hC dL_areWell_349 ?_
              refine xk_aload_n hC dL_areWell_350 0 rfl rfl ?_
              refine xk_iconst (v := (3 : Int32)) hC dL_areWell_351 (by decide) ?_
              obtain ⟨u21, h21, hf⟩ := xk_bi hf
              obtain ⟨q20, h20, hf⟩ := xk_bi hf
              refine xk_backi (xk_callV hC 1 xc_0 (c_X4_sheet h20) h21 xm_775 xm_724 xm_725 xm_1 xm_726 ⟨rfl, xd_X4_sheet⟩ rfl ⟨Nat.le_of_ble_eq_true rfl, Nat.le_of_ble_eq_true rfl⟩ rfl (Nat.le_of_ble_eq_true rfl) dL_areWell_352 ⟨(Nat.le_of_ble_eq_true rfl), (Nat.le_of_ble_eq_true rfl)⟩) ?_
              refine xk_iadd hC dL_areWell_355 ?_
              refine xk_iload_n hC dL_areWell_356 1 rfl rfl ?_
              refine xk_icmp_ne (tgt := 364) hC dL_areWell_357 (by decide) (fun c22 => ?_) (fun c22 => ?_)
              · replace hf := (if_neg c22).symm.trans hf
                refine xk_locals [] rfl ?_
                exact t_L_areWell_364 hC hr (q20.2) hf
              · replace hf := (if_pos c22).symm.trans hf
                refine xk_iconst (v := (1 : Int32)) hC dL_areWell_360 (by decide) ?_
                refine xk_goto (tgt := 365) hC dL_areWell_361 (by decide) ?_
                refine xk_locals [] rfl ?_
                exact t_L_areWell_365 hC hr ((1 : Int32)) (q20.2) hf
    · replace hf := (if_neg c1).symm.trans hf
      refine xk_aload_n hC dL_areWell_202 0 rfl rfl ?_
      refine xk_iload hC dL_areWell_203 4 rfl ?_
      refine xk_iconst (v := (4 : Int32)) hC dL_areWell_205 (by decide) ?_
      obtain ⟨u24, h24, hf⟩ := xk_bi hf
      obtain ⟨q23, h23, hf⟩ := xk_bi hf
      refine xk_backi (xk_callV hC 2 xc_0 (c_X4_ofHit h23) h24 xm_745 xm_676 xm_677 xm_1 xm_678 ⟨rfl, xd_X4_ofHit⟩ rfl ⟨Nat.le_of_ble_eq_true rfl, Nat.le_of_ble_eq_true rfl⟩ rfl (Nat.le_of_ble_eq_true rfl) dL_areWell_206 ⟨(Nat.le_of_ble_eq_true rfl), (Nat.le_of_ble_eq_true rfl)⟩) ?_
      refine xk_if_ne (tgt := 215) hC dL_areWell_209 (by decide) (fun c25 => ?_) (fun c25 => ?_)
      · replace hf := (if_neg c25).symm.trans hf
        refine xk_iinc (v := x3 + (1 : Int32)) (lv' := [(3, .int (x3 + (1 : Int32))), (0, va_rf (x0)), (1, .int (x1)), (2, .int (x2)), (4, .int (x4))]) hC dL_areWell_215 3 rfl rfl (by decide) rfl ?_
        refine xk_aload_n hC dL_areWell_218 1 rfl rfl ?_
        refine xk_aload_n hC dL_areWell_219 1 rfl rfl ?_
        refine xk_iload hC dL_areWell_220 4 rfl ?_
        refine xk_iconst (v := (5 : Int32)) hC dL_areWell_222 (by decide) ?_
        obtain ⟨u27, h27, hf⟩ := xk_bi hf
        obtain ⟨q26, h26, hf⟩ := xk_bi hf
        refine xk_backi (xk_callV hC 2 xc_0 (c_X4_ofHit h26) h27 xm_745 xm_676 xm_677 xm_1 xm_678 ⟨rfl, xd_X4_ofHit⟩ rfl ⟨Nat.le_of_ble_eq_true rfl, Nat.le_of_ble_eq_true rfl⟩ rfl (by simp [xk_cat1, xk_cati, xk_catl, xk_catd]) dL_areWell_223 ⟨(Nat.le_of_ble_eq_true rfl), (Nat.le_of_ble_eq_true rfl)⟩) ?_
        refine xk_aload_n hC dL_areWell_226 1 rfl rfl ?_
        refine xk_iload hC dL_areWell_227 4 rfl ?_
        refine xk_bipush (v := (6 : Int32)) hC dL_areWell_229 (by decide) ?_
        obtain ⟨u29, h29, hf⟩ := xk_bi hf
        obtain ⟨q28, h28, hf⟩ := xk_bi hf
        refine xk_backi (xk_callV hC 2 xc_0 (c_X4_ofHit h28) h29 xm_745 xm_676 xm_677 xm_1 xm_678 ⟨rfl, xd_X4_ofHit⟩ rfl ⟨Nat.le_of_ble_eq_true rfl, Nat.le_of_ble_eq_true rfl⟩ rfl (by simp [xk_cat1, xk_cati, xk_catl, xk_catd]) dL_areWell_231 ⟨(Nat.le_of_ble_eq_true rfl), (Nat.le_of_ble_eq_true rfl)⟩) ?_
        obtain ⟨u31, h31, hf⟩ := xk_bi hf
        obtain ⟨q30, h30, hf⟩ := xk_bi hf
        refine xk_backi (xk_callV hC 2 xc_0 (c_X4_beat h30) h31 xm_769 xm_770 xm_771 xm_1 xm_772 ⟨rfl, xd_X4_beat⟩ rfl ⟨Nat.le_of_ble_eq_true rfl, Nat.le_of_ble_eq_true rfl⟩ rfl (Nat.le_of_ble_eq_true rfl) dL_areWell_234 ⟨(Nat.le_of_ble_eq_true rfl), (Nat.le_of_ble_eq_true rfl)⟩) ?_
        refine xk_aload_n hC dL_areWell_237 1 rfl rfl ?_
        refine xk_iload hC dL_areWell_238 4 rfl ?_
        refine xk_iconst (v := (0 : Int32)) hC dL_areWell_240 (by decide) ?_
        obtain ⟨u33, h33, hf⟩ := xk_bi hf
        obtain ⟨q32, h32, hf⟩ := xk_bi hf
        refine xk_backi (xk_callV hC 2 xc_0 (c_X4_ofHit h32) h33 xm_745 xm_676 xm_677 xm_1 xm_678 ⟨rfl, xd_X4_ofHit⟩ rfl ⟨Nat.le_of_ble_eq_true rfl, Nat.le_of_ble_eq_true rfl⟩ rfl (Nat.le_of_ble_eq_true rfl) dL_areWell_241 ⟨(Nat.le_of_ble_eq_true rfl), (Nat.le_of_ble_eq_true rfl)⟩) ?_
        refine xk_isub hC dL_areWell_244 ?_
        refine xk_mabs hC xm_774 xm_449 xm_13 xm_450 (Nat.le_of_ble_eq_true rfl) (Nat.le_of_ble_eq_true rfl) (Nat.le_of_ble_eq_true rfl) (Nat.le_of_ble_eq_true rfl) dL_areWell_245 ?_
        refine xk_istore (i := 5) (lv' := [(5, .int (if 0 ≤ ((q30.1) - (q32.1)) then ((q30.1) - (q32.1)) else 0 - ((q30.1) - (q32.1)))), (3, .int (x3 + (1 : Int32))), (0, va_rf (x0)), (1, .int (x1)), (2, .int (x2)), (4, .int (x4))]) hC dL_areWell_248 (by decide) rfl ?_
        refine xk_aload_n hC dL_areWell_250 2 rfl rfl ?_
        refine xk_iload hC dL_areWell_251 5 rfl ?_
        refine xk_iconst (v := (2 : Int32)) hC dL_areWell_253 (by decide) ?_
        obtain ⟨u35, h35, hf⟩ := xk_bi hf
        obtain ⟨q34, h34, hf⟩ := xk_bi hf
        refine xk_backi (xk_callV hC 2 xc_0 (c_X4_ofHit h34) h35 xm_745 xm_676 xm_677 xm_1 xm_678 ⟨rfl, xd_X4_ofHit⟩ rfl ⟨Nat.le_of_ble_eq_true rfl, Nat.le_of_ble_eq_true rfl⟩ rfl (Nat.le_of_ble_eq_true rfl) dL_areWell_254 ⟨(Nat.le_of_ble_eq_true rfl), (Nat.le_of_ble_eq_true rfl)⟩) ?_
        refine xk_iconst (v := (1 : Int32)) hC dL_areWell_257 (by decide) ?_
        refine xk_icmp_eq (tgt := 285) hC dL_areWell_258 (by decide) (fun c36 => ?_) (fun c36 => ?_)
        · replace hf := (if_pos c36).symm.trans hf
          refine xk_locals [] rfl ?_
          exact t_L_areWell_285 hC hr (q34.2) hf
        · replace hf := (if_neg c36).symm.trans hf
          refine xk_iload hC dL_areWell_261 0 rfl ?_
          refine xk_aload_n hC dL_areWell_263 2 rfl rfl ?_
          refine xk_iload hC dL_areWell_264 5 rfl ?_
          refine xk_iconst (v := (3 : Int32)) hC dL_areWell_266 (by decide) ?_
          obtain ⟨u38, h38, hf⟩ := xk_bi hf
          obtain ⟨q37, h37, hf⟩ := xk_bi hf
          refine xk_backi (xk_callV hC 2 xc_0 (c_X4_ofHit h37) h38 xm_745 xm_676 xm_677 xm_1 xm_678 ⟨rfl, xd_X4_ofHit⟩ rfl ⟨Nat.le_of_ble_eq_true rfl, Nat.le_of_ble_eq_true rfl⟩ rfl (Nat.le_of_ble_eq_true rfl) dL_areWell_267 ⟨(Nat.le_of_ble_eq_true rfl), (Nat.le_of_ble_eq_true rfl)⟩) ?_
          refine xk_icmp_ne (tgt := 285) hC dL_areWell_270 (by decide) (fun c39 => ?_) (fun c39 => ?_)
          · replace hf := (if_neg c39).symm.trans hf
            refine xk_locals [] rfl ?_
            exact t_L_areWell_285 hC hr (q37.2) hf
          · replace hf := (if_pos c39).symm.trans hf
            refine xk_iload hC dL_areWell_273 0 rfl ?_
            refine xk_aload_n hC dL_areWell_275 2 rfl rfl ?_
            refine xk_iload hC dL_areWell_276 5 rfl ?_
            refine xk_iconst (v := (1 : Int32)) hC dL_areWell_278 (by decide) ?_
            obtain ⟨u41, h41, hf⟩ := xk_bi hf
            obtain ⟨q40, h40, hf⟩ := xk_bi hf
            refine xk_backi (xk_callV hC 2 xc_0 (c_X4_ofHit h40) h41 xm_745 xm_676 xm_677 xm_1 xm_678 ⟨rfl, xd_X4_ofHit⟩ rfl ⟨Nat.le_of_ble_eq_true rfl, Nat.le_of_ble_eq_true rfl⟩ rfl (Nat.le_of_ble_eq_true rfl) dL_areWell_279 ⟨(Nat.le_of_ble_eq_true rfl), (Nat.le_of_ble_eq_true rfl)⟩) ?_
            refine xk_icmp_le (tgt := 287) hC dL_areWell_282 (by decide) (fun c42 => ?_) (fun c42 => ?_)
            · replace hf := (if_pos c42).symm.trans hf
              refine xk_locals [2, 3, 4, 1, 5] rfl ?_
              exact t_L_areWell_287 hC hr (fun x0 x1 x2 x3 x4 w hf => ih x0 x1 x2 x3 x4 w hf) x0 x1 x2 (x3 + (1 : Int32)) x4 (q40.2) hf
            · replace hf := (if_neg c42).symm.trans hf
              refine xk_locals [] rfl ?_
              exact t_L_areWell_285 hC hr (q40.2) hf
      · replace hf := (if_pos c25).symm.trans hf
        refine xk_goto (tgt := 287) hC dL_areWell_212 (by decide) ?_
        exact t_L_areWell_287 hC hr (fun x0 x1 x2 x3 x4 w hf => ih x0 x1 x2 x3 x4 w hf) x0 x1 x2 x3 x4 (q23.2) hf
def f_L_areWell_6 : Nat → Option Nat → Int32 → Int32 → Int32 → xWd → Option (Int32 × xWd)
  | 0, _, _, _, _, _ => none
  | n + 1, x0, x1, x2, x3, w => if ((4 : Int32)) ≤ (x3) then f_L_areWell_195 4096 x0 x1 x2 ((0 : Int32)) ((0 : Int32)) w else (xk_is w (x0) 0).bind (fun u3 => (f_X4_ofCue (x0) (x3) ((7 : Int32)) w).bind (fun q2 => (xk_is q2.2 (x0) 0).bind (fun u5 => (f_X4_ofCue (x0) (x3) ((0 : Int32)) q2.2).bind (fun q4 => f_L_areWell_33 (f_L_areWell_6 n) 4096 x0 x1 x2 x3 (q2.1) ((q4.1) - ((1 : Int32))) ((0 : Int32)) (q4.2)))))
set_option maxHeartbeats 4000000 in
set_option maxRecDepth 100000 in
theorem t_L_areWell_6 {p : Program} {l : Launch} {e : Env} {s : State} {m : MethodId} {args : Array Value} {below : List Frame} {meth : Method} {c : Code} {E : xEv} (hC : xk_C p s m args meth c E method_6_code "ClickbookLaw" 8) (hr : meth.sig.returnType = (some .boolean)) {q : (Int32 × xWd)} : ∀ (n : Nat) (x0 : Option Nat) (x1 : Int32) (x2 : Int32) (x3 : Int32) (w : xWd), f_L_areWell_6 n x0 x1 x2 x3 w = some q → xk_X p l e { frames := 8, cells := 0, slots := 0, locals := 175 } s m args below meth c (MQ below (xk_Qi E q) args s 0 0 (xk_A E.2.2.1)) E 8 0 0 6 [(0, va_rf (x0)), (1, .int (x1)), (2, .int (x2)), (3, .int (x3))] [] w := by
  intro n
  induction n with
  | zero => intro x0 x1 x2 x3 w hf; have hf : none = some q := hf; cases hf
  | succ n ih =>
    intro x0 x1 x2 x3 w hf
    refine xk_iload_n hC dL_areWell_6 3 rfl rfl ?_
    refine xk_iconst (v := (4 : Int32)) hC dL_areWell_7 (by decide) ?_
    refine xk_icmp_ge (tgt := 190) hC dL_areWell_8 (by decide) (fun c1 => ?_) (fun c1 => ?_)
    · replace hf := (if_pos c1).symm.trans hf
      refine xk_iconst (v := (0 : Int32)) hC dL_areWell_190 (by decide) ?_
      refine xk_istore_n (i := 3) (lv' := [(3, .int ((0 : Int32))), (0, va_rf (x0)), (1, .int (x1)), (2, .int (x2))]) hC dL_areWell_191 rfl (by decide) rfl ?_
      refine xk_iconst (v := (0 : Int32)) hC dL_areWell_192 (by decide) ?_
      refine xk_istore (i := 4) (lv' := [(4, .int ((0 : Int32))), (3, .int ((0 : Int32))), (0, va_rf (x0)), (1, .int (x1)), (2, .int (x2))]) hC dL_areWell_193 (by decide) rfl ?_
      refine xk_locals [2, 3, 4, 1, 0] rfl ?_
      exact t_L_areWell_195 hC hr 4096 x0 x1 x2 ((0 : Int32)) ((0 : Int32)) w hf
    · replace hf := (if_neg c1).symm.trans hf
      refine xk_aload_n hC dL_areWell_11 0 rfl rfl ?_
      refine xk_iload_n hC dL_areWell_12 3 rfl rfl ?_
      refine xk_bipush (v := (7 : Int32)) hC dL_areWell_13 (by decide) ?_
      obtain ⟨u3, h3, hf⟩ := xk_bi hf
      obtain ⟨q2, h2, hf⟩ := xk_bi hf
      refine xk_backi (xk_callV hC 2 xc_0 (c_X4_ofCue h2) h3 xm_503 xm_504 xm_505 xm_1 xm_506 ⟨rfl, xd_X4_ofCue⟩ rfl ⟨Nat.le_of_ble_eq_true rfl, Nat.le_of_ble_eq_true rfl⟩ rfl (Nat.le_of_ble_eq_true rfl) dL_areWell_15 ⟨(Nat.le_of_ble_eq_true rfl), (Nat.le_of_ble_eq_true rfl)⟩) ?_
      refine xk_istore (i := 4) (lv' := [(4, .int (q2.1)), (0, va_rf (x0)), (1, .int (x1)), (2, .int (x2)), (3, .int (x3))]) hC dL_areWell_18 (by decide) rfl ?_
      refine xk_aload_n hC dL_areWell_20 1 rfl rfl ?_
      refine xk_iload_n hC dL_areWell_21 4 rfl rfl ?_
      refine xk_iconst (v := (0 : Int32)) hC dL_areWell_22 (by decide) ?_
      obtain ⟨u5, h5, hf⟩ := xk_bi hf
      obtain ⟨q4, h4, hf⟩ := xk_bi hf
      refine xk_backi (xk_callV hC 2 xc_0 (c_X4_ofCue h4) h5 xm_503 xm_504 xm_505 xm_1 xm_506 ⟨rfl, xd_X4_ofCue⟩ rfl ⟨Nat.le_of_ble_eq_true rfl, Nat.le_of_ble_eq_true rfl⟩ rfl (Nat.le_of_ble_eq_true rfl) dL_areWell_23 ⟨(Nat.le_of_ble_eq_true rfl), (Nat.le_of_ble_eq_true rfl)⟩) ?_
      refine xk_iconst (v := (1 : Int32)) hC dL_areWell_26 (by decide) ?_
      refine xk_isub hC dL_areWell_27 ?_
      refine xk_istore (i := 5) (lv' := [(5, .int ((q4.1) - ((1 : Int32)))), (4, .int (q2.1)), (0, va_rf (x0)), (1, .int (x1)), (2, .int (x2)), (3, .int (x3))]) hC dL_areWell_28 (by decide) rfl ?_
      refine xk_iconst (v := (0 : Int32)) hC dL_areWell_30 (by decide) ?_
      refine xk_istore (i := 6) (lv' := [(6, .int ((0 : Int32))), (5, .int ((q4.1) - ((1 : Int32)))), (4, .int (q2.1)), (0, va_rf (x0)), (1, .int (x1)), (2, .int (x2)), (3, .int (x3))]) hC dL_areWell_31 (by decide) rfl ?_
      refine xk_locals [3, 4, 5, 6, 2, 1, 0] rfl ?_
      exact t_L_areWell_33 hC hr (fun x0 x1 x2 x3 w hf => ih x0 x1 x2 x3 w hf) 4096 x0 x1 x2 x3 (q2.1) ((q4.1) - ((1 : Int32))) ((0 : Int32)) (q4.2) hf
def f_L_areWell (x0 : Option Nat) (w : xWd) : Option (Int32 × xWd) := f_L_areWell_6 4096 x0 ((0 : Int32)) ((0 : Int32)) ((0 : Int32)) w
set_option maxHeartbeats 4000000 in
set_option maxRecDepth 100000 in
theorem t_L_areWell_0 {p : Program} {l : Launch} {e : Env} {s : State} {m : MethodId} {args : Array Value} {below : List Frame} {meth : Method} {c : Code} {E : xEv} (hC : xk_C p s m args meth c E method_6_code "ClickbookLaw" 8) (hr : meth.sig.returnType = (some .boolean)) {q : (Int32 × xWd)} (x0 : Option Nat) (w : xWd) (hf : f_L_areWell x0 w = some q) : xk_X p l e { frames := 8, cells := 0, slots := 0, locals := 175 } s m args below meth c (MQ below (xk_Qi E q) args s 0 0 (xk_A E.2.2.1)) E 8 0 0 0 [(0, va_rf (x0))] [] w := by
  refine xk_iconst (v := (0 : Int32)) hC dL_areWell_0 (by decide) ?_
  refine xk_istore_n (i := 1) (lv' := [(1, .int ((0 : Int32))), (0, va_rf (x0))]) hC dL_areWell_1 rfl (by decide) (by simp [xk_cat1]) ?_
  refine xk_iconst (v := (0 : Int32)) hC dL_areWell_2 (by decide) ?_
  refine xk_istore_n (i := 2) (lv' := [(2, .int ((0 : Int32))), (1, .int ((0 : Int32))), (0, va_rf (x0))]) hC dL_areWell_3 rfl (by decide) rfl ?_
  refine xk_iconst (v := (0 : Int32)) hC dL_areWell_4 (by decide) ?_
  refine xk_istore_n (i := 3) (lv' := [(3, .int ((0 : Int32))), (2, .int ((0 : Int32))), (1, .int ((0 : Int32))), (0, va_rf (x0))]) hC dL_areWell_5 rfl (by decide) rfl ?_
  refine xk_locals [3, 2, 1, 0] rfl ?_
  exact t_L_areWell_6 hC hr 4096 x0 ((0 : Int32)) ((0 : Int32)) ((0 : Int32)) w hf
theorem xd_L_areWell : xy_L_areWell.cls ≠ "java/lang/invoke/MethodHandle" ∧ xy_L_areWell.cls ≠ "java/lang/invoke/VarHandle" ∧ (parseMethodDescriptor xy_L_areWell.desc).map (fun d => d.parameters.length) = some 1 := ⟨by decide +kernel, by decide +kernel, by decide +kernel⟩
theorem c_L_areWell {l : Launch} {E : xEv} {x0 : Option Nat} {w : xWd} {q : (Int32 × xWd)} (hf : f_L_areWell x0 w = some q) : xk_M l xy_L_areWell method_6_code 8 (some .boolean) 8 175 0 0 E [va_rf (x0)] w (xk_Qi E q) := by
  refine xk_enter (by decide +kernel) (by simp [lg_sl, xk_cat1, xk_cati, xk_catl, xk_catd]) ?_
  intro p e s m args below meth c hC hr hin ha
  rw [show lv_args 0 [va_rf (x0)] = [(0, va_rf (x0))] by simp [lv_args, xk_cat1, xk_cati, xk_catl, xk_catd]]
  exact t_L_areWell_0 hC hr x0 w hf
def f_L_law_186 (w : xWd) : Option (Int32 × xWd) := some ((0 : Int32), w)
set_option maxHeartbeats 4000000 in
set_option maxRecDepth 100000 in
theorem t_L_law_186 {p : Program} {l : Launch} {e : Env} {s : State} {m : MethodId} {b : Nat} {below : List Frame} {meth : Method} {c : Code} {E : xEv} (hC : xk_C p (s.setDrawn s.drawn) m #[Value.ref b] meth c E code "ClickbookLaw" 19) (hr : meth.sig.returnType = ret) (hz : E.2.2.1 = s.heap.size) {q : (Int32 × xWd)} (hq : q.1 = 1) (w : xWd) (hf : f_L_law_186 w = some q) : xk_X p l e room_1 (s.setDrawn s.drawn) m #[Value.ref b] below meth c (lw_Z below #[Value.ref b] s) E 19 304 14692 186 [] [] w := by
  refine xk_iconst (v := (0 : Int32)) hC dL_law_186 (by decide) ?_
  cases hf
  exact xk_lawret hC hr hz hq (Nat.le_of_ble_eq_true rfl) (Nat.le_of_ble_eq_true rfl) dL_law_187
def f_L_law_413 (w : xWd) : Option (Int32 × xWd) := some ((0 : Int32), w)
set_option maxHeartbeats 4000000 in
set_option maxRecDepth 100000 in
theorem t_L_law_413 {p : Program} {l : Launch} {e : Env} {s : State} {m : MethodId} {b : Nat} {below : List Frame} {meth : Method} {c : Code} {E : xEv} (hC : xk_C p (s.setDrawn s.drawn) m #[Value.ref b] meth c E code "ClickbookLaw" 19) (hr : meth.sig.returnType = ret) (hz : E.2.2.1 = s.heap.size) {q : (Int32 × xWd)} (hq : q.1 = 1) (w : xWd) (hf : f_L_law_413 w = some q) : xk_X p l e room_1 (s.setDrawn s.drawn) m #[Value.ref b] below meth c (lw_Z below #[Value.ref b] s) E 19 447 23844 413 [] [] w := by
  refine xk_iconst (v := (0 : Int32)) hC dL_law_413 (by decide) ?_
  cases hf
  exact xk_lawret hC hr hz hq (Nat.le_of_ble_eq_true rfl) (Nat.le_of_ble_eq_true rfl) dL_law_414
def f_L_law_930 (k210 : Option Nat → Option Nat → Option Nat → Option Nat → Int32 → Int32 → xWd → Option (Int32 × xWd)) (x0 : Option Nat) (x1 : Option Nat) (x2 : Option Nat) (x3 : Option Nat) (x4 : Int32) (x5 : Int32) (w : xWd) : Option (Int32 × xWd) := (f_L_areWell (x1) w).bind (fun q1 => if (q1.1) = ((0 : Int32)) then some ((0 : Int32), q1.2) else k210 x0 x1 x2 x3 x4 (x5 + (1 : Int32)) (q1.2))
set_option maxHeartbeats 4000000 in
set_option maxRecDepth 100000 in
theorem t_L_law_930 {p : Program} {l : Launch} {e : Env} {s : State} {m : MethodId} {b : Nat} {below : List Frame} {meth : Method} {c : Code} {E : xEv} (hC : xk_C p (s.setDrawn s.drawn) m #[Value.ref b] meth c E code "ClickbookLaw" 19) (hr : meth.sig.returnType = ret) (hz : E.2.2.1 = s.heap.size) {q : (Int32 × xWd)} (hq : q.1 = 1) {KC KS kc ks : Nat} (h1 : kc + 0 ≤ KC) (h2 : ks + 0 ≤ KS) (h3 : kc + 0 ≤ 447) (h4 : ks + 0 ≤ 23844) {k210 : Option Nat → Option Nat → Option Nat → Option Nat → Int32 → Int32 → xWd → Option (Int32 × xWd)} (hk210 : ∀ (x0 : Option Nat) (x1 : Option Nat) (x2 : Option Nat) (x3 : Option Nat) (x4 : Int32) (x5 : Int32) (w : xWd), k210 x0 x1 x2 x3 x4 x5 w = some q → xk_X p l e room_1 (s.setDrawn s.drawn) m #[Value.ref b] below meth c (lw_Z below #[Value.ref b] s) E 19 KC KS 210 [(0, va_rf (x0)), (1, va_rf (x1)), (2, va_rf (x2)), (3, va_rf (x3)), (4, .int (x4)), (5, .int (x5))] [] w) (x0 : Option Nat) (x1 : Option Nat) (x2 : Option Nat) (x3 : Option Nat) (x4 : Int32) (x5 : Int32) (w : xWd) (hf : f_L_law_930 k210 x0 x1 x2 x3 x4 x5 w = some q) : xk_X p l e room_1 (s.setDrawn s.drawn) m #[Value.ref b] below meth c (lw_Z below #[Value.ref b] s) E 19 kc ks 930 [(0, va_rf (x0)), (1, va_rf (x1)), (2, va_rf (x2)), (3, va_rf (x3)), (4, .int (x4)), (5, .int (x5))] [] w := by
  refine xk_aload_n hC dL_law_930 1 rfl rfl ?_
  obtain ⟨q1, h1, hf⟩ := xk_bi hf
  refine xk_backi (xk_callS hC 1 (c_L_areWell h1) xm_766 xm_767 xm_0 xm_768 xd_L_areWell rfl ⟨Nat.le_of_ble_eq_true rfl, Nat.le_of_ble_eq_true rfl⟩ rfl (Nat.le_of_ble_eq_true rfl) dL_law_931 ⟨(by show _ ≤ 661985; omega), (by show _ ≤ 7115744; omega)⟩) ?_
  refine xk_if_ne (tgt := 939) hC dL_law_934 (by decide) (fun c2 => ?_) (fun c2 => ?_)
  · replace hf := (if_neg c2).symm.trans hf
    refine xk_iinc (v := x5 + (1 : Int32)) (lv' := [(5, .int (x5 + (1 : Int32))), (0, va_rf (x0)), (1, va_rf (x1)), (2, va_rf (x2)), (3, va_rf (x3)), (4, .int (x4))]) hC dL_law_939 5 rfl rfl (by decide) rfl ?_
    refine xk_goto (tgt := 210) hC dL_law_942 (by decide) ?_
    refine xk_locals [1, 2, 3, 4, 5, 0] rfl ?_
    refine xk_widen (k := KC) (n := KS) (by omega) (by omega) ?_
    exact hk210 x0 x1 x2 x3 x4 (x5 + (1 : Int32)) (q1.2) hf
  · replace hf := (if_pos c2).symm.trans hf
    refine xk_iconst (v := (0 : Int32)) hC dL_law_937 (by decide) ?_
    cases hf
    exact xk_lawret hC hr hz hq (by omega) (by omega) dL_law_938
def f_L_law_348 (k210 : Option Nat → Option Nat → Option Nat → Option Nat → Int32 → Int32 → xWd → Option (Int32 × xWd)) (x0 : Option Nat) (x1 : Option Nat) (x2 : Option Nat) (x3 : Option Nat) (x4 : Int32) (x5 : Int32) (x6 : Int32) (x7 : Int32) (x8 : Int32) (x9 : Int32) (x10 : Int32) (w : xWd) : Option (Int32 × xWd) := if ((9 : Int32)) ≤ (x9) then f_L_law_930 k210 x0 x1 x2 x3 x4 x5 w else (f_L_below (x7) ((6 : Int32)) w).bind (fun q2 => (f_L_below ((x6) >>> (((1 : Int32)) &&& 31)) ((137 : Int32)) q2.2).bind (fun q3 => (xk_is q3.2 (x1) 0).bind (fun u5 => (f_X4_bar (x1) (x8) (((2 : Int32)) + (q2.1)) (((24 : Int32)) + (q3.1)) q3.2).bind (fun q4 => if (q4.1) = (x9) then (xk_is q4.2 (x1) 0).bind (fun u8 => (f_X4_ofCue (x1) (x8) ((5 : Int32)) q4.2).bind (fun q7 => if (q7.1) = ((x10) + ((1 : Int32))) then (xk_is q7.2 (x1) 0).bind (fun u11 => (f_X4_ofCue (x1) (x8) ((11 : Int32)) q7.2).bind (fun q10 => if (q10.1) = ((0 : Int32)) then f_L_law_930 k210 x0 x1 x2 x3 x4 x5 (q10.2) else f_L_law_413 (q10.2))) else f_L_law_413 (q7.2))) else f_L_law_413 (q4.2)))))
set_option maxHeartbeats 4000000 in
set_option maxRecDepth 100000 in
theorem t_L_law_348 {p : Program} {l : Launch} {e : Env} {s : State} {m : MethodId} {b : Nat} {below : List Frame} {meth : Method} {c : Code} {E : xEv} (hC : xk_C p (s.setDrawn s.drawn) m #[Value.ref b] meth c E code "ClickbookLaw" 19) (hr : meth.sig.returnType = ret) (hz : E.2.2.1 = s.heap.size) {q : (Int32 × xWd)} (hq : q.1 = 1) {KC KS kc ks : Nat} (h1 : kc + 0 ≤ KC) (h2 : ks + 0 ≤ KS) (h3 : kc + 0 ≤ 447) (h4 : ks + 0 ≤ 23844) {k210 : Option Nat → Option Nat → Option Nat → Option Nat → Int32 → Int32 → xWd → Option (Int32 × xWd)} (hk210 : ∀ (x0 : Option Nat) (x1 : Option Nat) (x2 : Option Nat) (x3 : Option Nat) (x4 : Int32) (x5 : Int32) (w : xWd), k210 x0 x1 x2 x3 x4 x5 w = some q → xk_X p l e room_1 (s.setDrawn s.drawn) m #[Value.ref b] below meth c (lw_Z below #[Value.ref b] s) E 19 KC KS 210 [(0, va_rf (x0)), (1, va_rf (x1)), (2, va_rf (x2)), (3, va_rf (x3)), (4, .int (x4)), (5, .int (x5))] [] w) (x0 : Option Nat) (x1 : Option Nat) (x2 : Option Nat) (x3 : Option Nat) (x4 : Int32) (x5 : Int32) (x6 : Int32) (x7 : Int32) (x8 : Int32) (x9 : Int32) (x10 : Int32) (w : xWd) (hf : f_L_law_348 k210 x0 x1 x2 x3 x4 x5 x6 x7 x8 x9 x10 w = some q) : xk_X p l e room_1 (s.setDrawn s.drawn) m #[Value.ref b] below meth c (lw_Z below #[Value.ref b] s) E 19 kc ks 348 [(0, va_rf (x0)), (1, va_rf (x1)), (2, va_rf (x2)), (3, va_rf (x3)), (4, .int (x4)), (5, .int (x5)), (6, .int (x6)), (7, .int (x7)), (8, .int (x8)), (9, .int (x9)), (10, .int (x10))] [] w := by
  refine xk_iload hC dL_law_348 9 rfl ?_
  refine xk_bipush (v := (9 : Int32)) hC dL_law_350 (by decide) ?_
  refine xk_icmp_ge (tgt := 930) hC dL_law_352 (by decide) (fun c1 => ?_) (fun c1 => ?_)
  · replace hf := (if_pos c1).symm.trans hf
    refine xk_locals [0, 1, 2, 3, 4, 5] rfl ?_
    exact t_L_law_930 hC hr hz hq (by omega) (by omega) (by omega) (by omega) hk210 x0 x1 x2 x3 x4 x5 w hf
  · replace hf := (if_neg c1).symm.trans hf
    refine xk_aload_n hC dL_law_355 1 rfl rfl ?_
    refine xk_iload hC dL_law_356 8 rfl ?_
    refine xk_iconst (v := (2 : Int32)) hC dL_law_358 (by decide) ?_
    refine xk_iload hC dL_law_359 7 rfl ?_
    refine xk_bipush (v := (6 : Int32)) hC dL_law_361 (by decide) ?_
    obtain ⟨q2, h2, hf⟩ := xk_bi hf
    refine xk_backi (xk_callS hC 2 (c_L_below h2) xm_734 xm_735 xm_0 xm_736 xd_L_below rfl ⟨Nat.le_of_ble_eq_true rfl, Nat.le_of_ble_eq_true rfl⟩ rfl (by simp [xk_cat1, xk_cati, xk_catl, xk_catd]) dL_law_363 ⟨(by show _ ≤ 661985; omega), (by show _ ≤ 7115744; omega)⟩) ?_
    refine xk_iadd hC dL_law_366 ?_
    refine xk_bipush (v := (24 : Int32)) hC dL_law_367 (by decide) ?_
    refine xk_iload hC dL_law_369 6 rfl ?_
    refine xk_iconst (v := (1 : Int32)) hC dL_law_371 (by decide) ?_
    refine xk_ishr hC dL_law_372 ?_
    refine xk_sipush (v := (137 : Int32)) hC dL_law_373 (by decide) ?_
    obtain ⟨q3, h3, hf⟩ := xk_bi hf
    refine xk_backi (xk_callS hC 2 (c_L_below h3) xm_734 xm_735 xm_0 xm_736 xd_L_below rfl ⟨Nat.le_of_ble_eq_true rfl, Nat.le_of_ble_eq_true rfl⟩ rfl (by simp [xk_cat1, xk_cati, xk_catl, xk_catd]) dL_law_376 ⟨(by show _ ≤ 661985; omega), (by show _ ≤ 7115744; omega)⟩) ?_
    refine xk_iadd hC dL_law_379 ?_
    obtain ⟨u5, h5, hf⟩ := xk_bi hf
    obtain ⟨q4, h4, hf⟩ := xk_bi hf
    refine xk_backi (xk_callV hC 3 xc_0 (c_X4_bar h4) h5 xm_372 xm_373 xm_374 xm_1 xm_375 ⟨rfl, xd_X4_bar⟩ rfl ⟨Nat.le_of_ble_eq_true rfl, Nat.le_of_ble_eq_true rfl⟩ rfl (Nat.le_of_ble_eq_true rfl) dL_law_380 ⟨(by show _ ≤ 661985; omega), (by show _ ≤ 7115744; omega)⟩) ?_
    refine xk_iload hC dL_law_383 9 rfl ?_
    refine xk_icmp_ne (tgt := 413) hC dL_law_385 (by decide) (fun c6 => ?_) (fun c6 => ?_)
    · replace hf := (if_neg c6).symm.trans hf
      refine xk_locals [] rfl ?_
      refine xk_widen (k := 447) (n := 23844) (by omega) (by omega) ?_
      exact t_L_law_413 hC hr hz hq (q4.2) hf
    · replace hf := (if_pos c6).symm.trans hf
      refine xk_aload_n hC dL_law_388 1 rfl rfl ?_
      refine xk_iload hC dL_law_389 8 rfl ?_
      refine xk_iconst (v := (5 : Int32)) hC dL_law_391 (by decide) ?_
      obtain ⟨u8, h8, hf⟩ := xk_bi hf
      obtain ⟨q7, h7, hf⟩ := xk_bi hf
      refine xk_backi (xk_callV hC 2 xc_0 (c_X4_ofCue h7) h8 xm_503 xm_504 xm_505 xm_1 xm_506 ⟨rfl, xd_X4_ofCue⟩ rfl ⟨Nat.le_of_ble_eq_true rfl, Nat.le_of_ble_eq_true rfl⟩ rfl (Nat.le_of_ble_eq_true rfl) dL_law_392 ⟨(by show _ ≤ 661985; omega), (by show _ ≤ 7115744; omega)⟩) ?_
      refine xk_iload hC dL_law_395 10 rfl ?_
      refine xk_iconst (v := (1 : Int32)) hC dL_law_397 (by decide) ?_
      refine xk_iadd hC dL_law_398 ?_
      refine xk_icmp_ne (tgt := 413) hC dL_law_399 (by decide) (fun c9 => ?_) (fun c9 => ?_)
      · replace hf := (if_neg c9).symm.trans hf
        refine xk_locals [] rfl ?_
        refine xk_widen (k := 447) (n := 23844) (by omega) (by omega) ?_
        exact t_L_law_413 hC hr hz hq (q7.2) hf
      · replace hf := (if_pos c9).symm.trans hf
        refine xk_aload_n hC dL_law_402 1 rfl rfl ?_
        refine xk_iload hC dL_law_403 8 rfl ?_
        refine xk_bipush (v := (11 : Int32)) hC dL_law_405 (by decide) ?_
        obtain ⟨u11, h11, hf⟩ := xk_bi hf
        obtain ⟨q10, h10, hf⟩ := xk_bi hf
        refine xk_backi (xk_callV hC 2 xc_0 (c_X4_ofCue h10) h11 xm_503 xm_504 xm_505 xm_1 xm_506 ⟨rfl, xd_X4_ofCue⟩ rfl ⟨Nat.le_of_ble_eq_true rfl, Nat.le_of_ble_eq_true rfl⟩ rfl (Nat.le_of_ble_eq_true rfl) dL_law_407 ⟨(by show _ ≤ 661985; omega), (by show _ ≤ 7115744; omega)⟩) ?_
        refine xk_if_eq (tgt := 930) hC dL_law_410 (by decide) (fun c12 => ?_) (fun c12 => ?_)
        · replace hf := (if_pos c12).symm.trans hf
          refine xk_locals [0, 1, 2, 3, 4, 5] rfl ?_
          exact t_L_law_930 hC hr hz hq (by omega) (by omega) (by omega) (by omega) hk210 x0 x1 x2 x3 x4 x5 (q10.2) hf
        · replace hf := (if_neg c12).symm.trans hf
          refine xk_locals [] rfl ?_
          refine xk_widen (k := 447) (n := 23844) (by omega) (by omega) ?_
          exact t_L_law_413 hC hr hz hq (q10.2) hf
def f_L_law_477 (w : xWd) : Option (Int32 × xWd) := some ((0 : Int32), w)
set_option maxHeartbeats 4000000 in
set_option maxRecDepth 100000 in
theorem t_L_law_477 {p : Program} {l : Launch} {e : Env} {s : State} {m : MethodId} {b : Nat} {below : List Frame} {meth : Method} {c : Code} {E : xEv} (hC : xk_C p (s.setDrawn s.drawn) m #[Value.ref b] meth c E code "ClickbookLaw" 19) (hr : meth.sig.returnType = ret) (hz : E.2.2.1 = s.heap.size) {q : (Int32 × xWd)} (hq : q.1 = 1) (w : xWd) (hf : f_L_law_477 w = some q) : xk_X p l e room_1 (s.setDrawn s.drawn) m #[Value.ref b] below meth c (lw_Z below #[Value.ref b] s) E 19 447 23844 477 [] [] w := by
  refine xk_iconst (v := (0 : Int32)) hC dL_law_477 (by decide) ?_
  cases hf
  exact xk_lawret hC hr hz hq (Nat.le_of_ble_eq_true rfl) (Nat.le_of_ble_eq_true rfl) dL_law_478
def f_L_law_519 (w : xWd) : Option (Int32 × xWd) := some ((0 : Int32), w)
set_option maxHeartbeats 4000000 in
set_option maxRecDepth 100000 in
theorem t_L_law_519 {p : Program} {l : Launch} {e : Env} {s : State} {m : MethodId} {b : Nat} {below : List Frame} {meth : Method} {c : Code} {E : xEv} (hC : xk_C p (s.setDrawn s.drawn) m #[Value.ref b] meth c E code "ClickbookLaw" 19) (hr : meth.sig.returnType = ret) (hz : E.2.2.1 = s.heap.size) {q : (Int32 × xWd)} (hq : q.1 = 1) (w : xWd) (hf : f_L_law_519 w = some q) : xk_X p l e room_1 (s.setDrawn s.drawn) m #[Value.ref b] below meth c (lw_Z below #[Value.ref b] s) E 19 447 23844 519 [] [] w := by
  refine xk_iconst (v := (0 : Int32)) hC dL_law_519 (by decide) ?_
  cases hf
  exact xk_lawret hC hr hz hq (Nat.le_of_ble_eq_true rfl) (Nat.le_of_ble_eq_true rfl) dL_law_520
def f_L_law_521 (k210 : Option Nat → Option Nat → Option Nat → Option Nat → Int32 → Int32 → xWd → Option (Int32 × xWd)) (x0 : Option Nat) (x1 : Option Nat) (x2 : Option Nat) (x3 : Option Nat) (x4 : Int32) (x5 : Int32) (x6 : Int32) (x7 : Int32) (w : xWd) : Option (Int32 × xWd) := (xk_is w (x1) 0).bind (fun u2 => (f_X4_many (x1) ((1 : Int32)) w).bind (fun q1 => if ((19 : Int32)) ≤ (q1.1) then f_L_law_930 k210 x0 x1 x2 x3 x4 x5 (q1.2) else (xk_is q1.2 (x1) 0).bind (fun u5 => (f_X4_many (x1) ((0 : Int32)) q1.2).bind (fun q4 => (f_L_below ((x6) * ((3 : Int32))) ((q4.1) + ((1 : Int32))) q4.2).bind (fun q6 => (f_L_below ((x7) >>> (((2 : Int32)) &&& 31)) ((80 : Int32)) q6.2).bind (fun q7 => (f_L_isBack (x1) (q6.1) (((1 : Int32)) + (q7.1)) q7.2).bind (fun q8 => if (q8.1) = ((0 : Int32)) then some ((0 : Int32), q8.2) else f_L_law_930 k210 x0 x1 x2 x3 x4 x5 (q8.2))))))))
set_option maxHeartbeats 4000000 in
set_option maxRecDepth 100000 in
theorem t_L_law_521 {p : Program} {l : Launch} {e : Env} {s : State} {m : MethodId} {b : Nat} {below : List Frame} {meth : Method} {c : Code} {E : xEv} (hC : xk_C p (s.setDrawn s.drawn) m #[Value.ref b] meth c E code "ClickbookLaw" 19) (hr : meth.sig.returnType = ret) (hz : E.2.2.1 = s.heap.size) {q : (Int32 × xWd)} (hq : q.1 = 1) {KC KS kc ks : Nat} (h1 : kc + 3 ≤ KC) (h2 : ks + 192 ≤ KS) (h3 : kc + 3 ≤ 447) (h4 : ks + 192 ≤ 23844) {k210 : Option Nat → Option Nat → Option Nat → Option Nat → Int32 → Int32 → xWd → Option (Int32 × xWd)} (hk210 : ∀ (x0 : Option Nat) (x1 : Option Nat) (x2 : Option Nat) (x3 : Option Nat) (x4 : Int32) (x5 : Int32) (w : xWd), k210 x0 x1 x2 x3 x4 x5 w = some q → xk_X p l e room_1 (s.setDrawn s.drawn) m #[Value.ref b] below meth c (lw_Z below #[Value.ref b] s) E 19 KC KS 210 [(0, va_rf (x0)), (1, va_rf (x1)), (2, va_rf (x2)), (3, va_rf (x3)), (4, .int (x4)), (5, .int (x5))] [] w) (x0 : Option Nat) (x1 : Option Nat) (x2 : Option Nat) (x3 : Option Nat) (x4 : Int32) (x5 : Int32) (x6 : Int32) (x7 : Int32) (w : xWd) (hf : f_L_law_521 k210 x0 x1 x2 x3 x4 x5 x6 x7 w = some q) : xk_X p l e room_1 (s.setDrawn s.drawn) m #[Value.ref b] below meth c (lw_Z below #[Value.ref b] s) E 19 kc ks 521 [(0, va_rf (x0)), (1, va_rf (x1)), (2, va_rf (x2)), (3, va_rf (x3)), (4, .int (x4)), (5, .int (x5)), (6, .int (x6)), (7, .int (x7))] [] w := by
  refine xk_aload_n hC dL_law_521 1 rfl rfl ?_
  refine xk_iconst (v := (1 : Int32)) hC dL_law_522 (by decide) ?_
  obtain ⟨u2, h2, hf⟩ := xk_bi hf
  obtain ⟨q1, h1, hf⟩ := xk_bi hf
  refine xk_backi (xk_callV hC 1 xc_0 (c_X4_many h1) h2 xm_542 xm_543 xm_544 xm_1 xm_545 ⟨rfl, xd_X4_many⟩ rfl ⟨Nat.le_of_ble_eq_true rfl, Nat.le_of_ble_eq_true rfl⟩ rfl (Nat.le_of_ble_eq_true rfl) dL_law_523 ⟨(by show _ ≤ 661985; omega), (by show _ ≤ 7115744; omega)⟩) ?_
  refine xk_bipush (v := (19 : Int32)) hC dL_law_526 (by decide) ?_
  refine xk_icmp_ge (tgt := 930) hC dL_law_528 (by decide) (fun c3 => ?_) (fun c3 => ?_)
  · replace hf := (if_pos c3).symm.trans hf
    refine xk_locals [0, 1, 2, 3, 4, 5] rfl ?_
    exact t_L_law_930 hC hr hz hq (by omega) (by omega) (by omega) (by omega) hk210 x0 x1 x2 x3 x4 x5 (q1.2) hf
  · replace hf := (if_neg c3).symm.trans hf
    refine xk_aload_n hC dL_law_531 1 rfl rfl ?_
    refine xk_iload hC dL_law_532 6 rfl ?_
    refine xk_iconst (v := (3 : Int32)) hC dL_law_534 (by decide) ?_
    refine xk_imul hC dL_law_535 ?_
    refine xk_aload_n hC dL_law_536 1 rfl rfl ?_
    refine xk_iconst (v := (0 : Int32)) hC dL_law_537 (by decide) ?_
    obtain ⟨u5, h5, hf⟩ := xk_bi hf
    obtain ⟨q4, h4, hf⟩ := xk_bi hf
    refine xk_backi (xk_callV hC 1 xc_0 (c_X4_many h4) h5 xm_542 xm_543 xm_544 xm_1 xm_545 ⟨rfl, xd_X4_many⟩ rfl ⟨Nat.le_of_ble_eq_true rfl, Nat.le_of_ble_eq_true rfl⟩ rfl (by simp [xk_cat1, xk_cati, xk_catl, xk_catd]) dL_law_538 ⟨(by show _ ≤ 661985; omega), (by show _ ≤ 7115744; omega)⟩) ?_
    refine xk_iconst (v := (1 : Int32)) hC dL_law_541 (by decide) ?_
    refine xk_iadd hC dL_law_542 ?_
    obtain ⟨q6, h6, hf⟩ := xk_bi hf
    refine xk_backi (xk_callS hC 2 (c_L_below h6) xm_734 xm_735 xm_0 xm_736 xd_L_below rfl ⟨Nat.le_of_ble_eq_true rfl, Nat.le_of_ble_eq_true rfl⟩ rfl (by simp [xk_cat1, xk_cati, xk_catl, xk_catd]) dL_law_543 ⟨(by show _ ≤ 661985; omega), (by show _ ≤ 7115744; omega)⟩) ?_
    refine xk_iconst (v := (1 : Int32)) hC dL_law_546 (by decide) ?_
    refine xk_iload hC dL_law_547 7 rfl ?_
    refine xk_iconst (v := (2 : Int32)) hC dL_law_549 (by decide) ?_
    refine xk_ishr hC dL_law_550 ?_
    refine xk_bipush (v := (80 : Int32)) hC dL_law_551 (by decide) ?_
    obtain ⟨q7, h7, hf⟩ := xk_bi hf
    refine xk_backi (xk_callS hC 2 (c_L_below h7) xm_734 xm_735 xm_0 xm_736 xd_L_below rfl ⟨Nat.le_of_ble_eq_true rfl, Nat.le_of_ble_eq_true rfl⟩ rfl (by simp [xk_cat1, xk_cati, xk_catl, xk_catd]) dL_law_553 ⟨(by show _ ≤ 661985; omega), (by show _ ≤ 7115744; omega)⟩) ?_
    refine xk_iadd hC dL_law_556 ?_
    obtain ⟨q8, h8, hf⟩ := xk_bi hf
    refine xk_backi (xk_callS hC 3 (c_L_isBack h8) xm_742 xm_743 xm_0 xm_744 xd_L_isBack rfl ⟨Nat.le_of_ble_eq_true rfl, Nat.le_of_ble_eq_true rfl⟩ rfl (Nat.le_of_ble_eq_true rfl) dL_law_557 ⟨(by show _ ≤ 661985; omega), (by show _ ≤ 7115744; omega)⟩) ?_
    refine xk_if_ne (tgt := 930) hC dL_law_560 (by decide) (fun c9 => ?_) (fun c9 => ?_)
    · replace hf := (if_neg c9).symm.trans hf
      refine xk_locals [0, 1, 2, 3, 4, 5] rfl ?_
      exact t_L_law_930 hC hr hz hq (by omega) (by omega) (by omega) (by omega) hk210 x0 x1 x2 x3 x4 x5 (q8.2) hf
    · replace hf := (if_pos c9).symm.trans hf
      refine xk_iconst (v := (0 : Int32)) hC dL_law_563 (by decide) ?_
      cases hf
      exact xk_lawret hC hr hz hq (by omega) (by omega) dL_law_564
def f_L_law_632 (w : xWd) : Option (Int32 × xWd) := some ((0 : Int32), w)
set_option maxHeartbeats 4000000 in
set_option maxRecDepth 100000 in
theorem t_L_law_632 {p : Program} {l : Launch} {e : Env} {s : State} {m : MethodId} {b : Nat} {below : List Frame} {meth : Method} {c : Code} {E : xEv} (hC : xk_C p (s.setDrawn s.drawn) m #[Value.ref b] meth c E code "ClickbookLaw" 19) (hr : meth.sig.returnType = ret) (hz : E.2.2.1 = s.heap.size) {q : (Int32 × xWd)} (hq : q.1 = 1) (w : xWd) (hf : f_L_law_632 w = some q) : xk_X p l e room_1 (s.setDrawn s.drawn) m #[Value.ref b] below meth c (lw_Z below #[Value.ref b] s) E 19 447 23844 632 [] [] w := by
  refine xk_iconst (v := (0 : Int32)) hC dL_law_632 (by decide) ?_
  cases hf
  exact xk_lawret hC hr hz hq (Nat.le_of_ble_eq_true rfl) (Nat.le_of_ble_eq_true rfl) dL_law_633
def f_L_law_677 (w : xWd) : Option (Int32 × xWd) := some ((0 : Int32), w)
set_option maxHeartbeats 4000000 in
set_option maxRecDepth 100000 in
theorem t_L_law_677 {p : Program} {l : Launch} {e : Env} {s : State} {m : MethodId} {b : Nat} {below : List Frame} {meth : Method} {c : Code} {E : xEv} (hC : xk_C p (s.setDrawn s.drawn) m #[Value.ref b] meth c E code "ClickbookLaw" 19) (hr : meth.sig.returnType = ret) (hz : E.2.2.1 = s.heap.size) {q : (Int32 × xWd)} (hq : q.1 = 1) (w : xWd) (hf : f_L_law_677 w = some q) : xk_X p l e room_1 (s.setDrawn s.drawn) m #[Value.ref b] below meth c (lw_Z below #[Value.ref b] s) E 19 447 23844 677 [] [] w := by
  refine xk_iconst (v := (0 : Int32)) hC dL_law_677 (by decide) ?_
  cases hf
  exact xk_lawret hC hr hz hq (Nat.le_of_ble_eq_true rfl) (Nat.le_of_ble_eq_true rfl) dL_law_678
def f_L_law_767 (w : xWd) : Option (Int32 × xWd) := some ((0 : Int32), w)
set_option maxHeartbeats 4000000 in
set_option maxRecDepth 100000 in
theorem t_L_law_767 {p : Program} {l : Launch} {e : Env} {s : State} {m : MethodId} {b : Nat} {below : List Frame} {meth : Method} {c : Code} {E : xEv} (hC : xk_C p (s.setDrawn s.drawn) m #[Value.ref b] meth c E code "ClickbookLaw" 19) (hr : meth.sig.returnType = ret) (hz : E.2.2.1 = s.heap.size) {q : (Int32 × xWd)} (hq : q.1 = 1) (w : xWd) (hf : f_L_law_767 w = some q) : xk_X p l e room_1 (s.setDrawn s.drawn) m #[Value.ref b] below meth c (lw_Z below #[Value.ref b] s) E 19 447 23844 767 [] [] w := by
  refine xk_iconst (v := (0 : Int32)) hC dL_law_767 (by decide) ?_
  cases hf
  exact xk_lawret hC hr hz hq (Nat.le_of_ble_eq_true rfl) (Nat.le_of_ble_eq_true rfl) dL_law_768
def f_L_law_916 (w : xWd) : Option (Int32 × xWd) := some ((0 : Int32), w)
set_option maxHeartbeats 4000000 in
set_option maxRecDepth 100000 in
theorem t_L_law_916 {p : Program} {l : Launch} {e : Env} {s : State} {m : MethodId} {b : Nat} {below : List Frame} {meth : Method} {c : Code} {E : xEv} (hC : xk_C p (s.setDrawn s.drawn) m #[Value.ref b] meth c E code "ClickbookLaw" 19) (hr : meth.sig.returnType = ret) (hz : E.2.2.1 = s.heap.size) {q : (Int32 × xWd)} (hq : q.1 = 1) (w : xWd) (hf : f_L_law_916 w = some q) : xk_X p l e room_1 (s.setDrawn s.drawn) m #[Value.ref b] below meth c (lw_Z below #[Value.ref b] s) E 19 447 23844 916 [] [] w := by
  refine xk_iconst (v := (0 : Int32)) hC dL_law_916 (by decide) ?_
  cases hf
  exact xk_lawret hC hr hz hq (Nat.le_of_ble_eq_true rfl) (Nat.le_of_ble_eq_true rfl) dL_law_917
def f_L_law_812 (k210 : Option Nat → Option Nat → Option Nat → Option Nat → Int32 → Int32 → xWd → Option (Int32 × xWd)) : Nat → Option Nat → Option Nat → Option Nat → Option Nat → Int32 → Int32 → Int32 → Int32 → Int32 → Int32 → Int32 → Int32 → Int32 → Int32 → xWd → Option (Int32 × xWd)
  | 0, _, _, _, _, _, _, _, _, _, _, _, _, _, _, _ => none
  | n + 1, x0, x1, x2, x3, x4, x5, x6, x7, x8, x9, x10, x11, x17, x18, w => if (x9) ≤ (x18) then (xk_is w (x1) 0).bind (fun u3 => (f_X4_many (x1) ((13 : Int32)) w).bind (fun q2 => (f_L_below ((x7) >>> (((2 : Int32)) &&& 31)) ((5 : Int32)) q2.2).bind (fun q4 => (xk_is q4.2 (x1) 0).bind (fun u6 => (f_X4_take (x1) (x8) (x17) ((q4.1) - ((2 : Int32))) q4.2).bind (fun q5 => if (q5.1) = (x11) then (xk_is q5.2 (x1) 0).bind (fun u9 => (f_X4_many (x1) ((13 : Int32)) q5.2).bind (fun q8 => (xk_is q8.2 (x1) 0).bind (fun u11 => (f_X4_ofCue (x1) (x8) ((8 : Int32)) q8.2).bind (fun q10 => (xk_is q10.2 (x1) 0).bind (fun u13 => (f_X4_ofCue (x1) (x8) ((0 : Int32)) q10.2).bind (fun q12 => (xk_nz ((1440 : Int32))).bind (fun u14 => if (q8.1) = (((q2.1) + ((3 : Int32))) + ((((q10.1) - (q12.1)) + ((1439 : Int32))) / ((1440 : Int32)))) then (xk_sI 0 q12.2 (x2) (x11) (x10)).bind (fun w16 => (xk_sI 0 w16 (x3) (x11) (x8)).bind (fun w17 => f_L_law_930 k210 x0 x1 x2 x3 x4 x5 w17)) else f_L_law_916 (q12.2)))))))) else f_L_law_916 (q5.2)))))) else (f_L_below (((x6) >>> (((2 : Int32)) &&& 31)) + (((3 : Int32)) * (x18))) ((10 : Int32)) w).bind (fun q18 => f_L_law_812 k210 n x0 x1 x2 x3 x4 x5 x6 x7 x8 x9 x10 x11 ((((10 : Int32)) * (x17)) + (q18.1)) (x18 + (1 : Int32)) (q18.2))
set_option maxHeartbeats 4000000 in
set_option maxRecDepth 100000 in
theorem t_L_law_812 {p : Program} {l : Launch} {e : Env} {s : State} {m : MethodId} {b : Nat} {below : List Frame} {meth : Method} {c : Code} {E : xEv} (hC : xk_C p (s.setDrawn s.drawn) m #[Value.ref b] meth c E code "ClickbookLaw" 19) (hr : meth.sig.returnType = ret) (hz : E.2.2.1 = s.heap.size) {q : (Int32 × xWd)} (hq : q.1 = 1) {KC KS kc ks : Nat} (h1 : kc + 2 ≤ KC) (h2 : ks + 69 ≤ KS) (h3 : kc + 2 ≤ 447) (h4 : ks + 69 ≤ 23844) {k210 : Option Nat → Option Nat → Option Nat → Option Nat → Int32 → Int32 → xWd → Option (Int32 × xWd)} (hk210 : ∀ (x0 : Option Nat) (x1 : Option Nat) (x2 : Option Nat) (x3 : Option Nat) (x4 : Int32) (x5 : Int32) (w : xWd), k210 x0 x1 x2 x3 x4 x5 w = some q → xk_X p l e room_1 (s.setDrawn s.drawn) m #[Value.ref b] below meth c (lw_Z below #[Value.ref b] s) E 19 KC KS 210 [(0, va_rf (x0)), (1, va_rf (x1)), (2, va_rf (x2)), (3, va_rf (x3)), (4, .int (x4)), (5, .int (x5))] [] w) : ∀ (n : Nat) (x0 : Option Nat) (x1 : Option Nat) (x2 : Option Nat) (x3 : Option Nat) (x4 : Int32) (x5 : Int32) (x6 : Int32) (x7 : Int32) (x8 : Int32) (x9 : Int32) (x10 : Int32) (x11 : Int32) (x17 : Int32) (x18 : Int32) (w : xWd), f_L_law_812 k210 n x0 x1 x2 x3 x4 x5 x6 x7 x8 x9 x10 x11 x17 x18 w = some q → xk_X p l e room_1 (s.setDrawn s.drawn) m #[Value.ref b] below meth c (lw_Z below #[Value.ref b] s) E 19 kc ks 812 [(0, va_rf (x0)), (1, va_rf (x1)), (2, va_rf (x2)), (3, va_rf (x3)), (4, .int (x4)), (5, .int (x5)), (6, .int (x6)), (7, .int (x7)), (8, .int (x8)), (9, .int (x9)), (10, .int (x10)), (11, .int (x11)), (17, .int (x17)), (18, .int (x18))] [] w := by
  intro n
  induction n with
  | zero => intro x0 x1 x2 x3 x4 x5 x6 x7 x8 x9 x10 x11 x17 x18 w hf; have hf : none = some q := hf; cases hf
  | succ n ih =>
    intro x0 x1 x2 x3 x4 x5 x6 x7 x8 x9 x10 x11 x17 x18 w hf
    refine xk_iload hC dL_law_812 13 rfl ?_
    refine xk_iload hC dL_law_814 9 rfl ?_
    refine xk_icmp_ge (tgt := 847) hC dL_law_816 (by decide) (fun c1 => ?_) (fun c1 => ?_)
    · replace hf := (if_pos c1).symm.trans hf
      refine xk_aload_n hC dL_law_847 1 rfl rfl ?_
      refine xk_bipush (v := (13 : Int32)) hC dL_law_848 (by decide) ?_
      obtain ⟨u3, h3, hf⟩ := xk_bi hf
      obtain ⟨q2, h2, hf⟩ := xk_bi hf
      refine xk_backi (xk_callV hC 1 xc_0 (c_X4_many h2) h3 xm_542 xm_543 xm_544 xm_1 xm_545 ⟨rfl, xd_X4_many⟩ rfl ⟨Nat.le_of_ble_eq_true rfl, Nat.le_of_ble_eq_true rfl⟩ rfl (Nat.le_of_ble_eq_true rfl) dL_law_850 ⟨(by show _ ≤ 661985; omega), (by show _ ≤ 7115744; omega)⟩) ?_
      refine xk_istore (i := 18) (lv' := [(18, .int (q2.1)), (0, va_rf (x0)), (1, va_rf (x1)), (2, va_rf (x2)), (3, va_rf (x3)), (4, .int (x4)), (5, .int (x5)), (6, .int (x6)), (7, .int (x7)), (8, .int (x8)), (9, .int (x9)), (10, .int (x10)), (11, .int (x11)), (17, .int (x17))]) hC dL_law_853 (by decide) rfl ?_
      refine xk_aload_n hC dL_law_855 2 rfl rfl ?_
      refine xk_iload hC dL_law_856 9 rfl ?_
      refine xk_iload hC dL_law_858 13 rfl ?_
      refine xk_iload hC dL_law_860 8 rfl ?_
      refine xk_iconst (v := (2 : Int32)) hC dL_law_862 (by decide) ?_
      refine xk_ishr hC dL_law_863 ?_
      refine xk_iconst (v := (5 : Int32)) hC dL_law_864 (by decide) ?_
      obtain ⟨q4, h4, hf⟩ := xk_bi hf
      refine xk_backi (xk_callS hC 2 (c_L_below h4) xm_734 xm_735 xm_0 xm_736 xd_L_below rfl ⟨Nat.le_of_ble_eq_true rfl, Nat.le_of_ble_eq_true rfl⟩ rfl (by simp [xk_cat1, xk_cati, xk_catl, xk_catd]) dL_law_865 ⟨(by show _ ≤ 661985; omega), (by show _ ≤ 7115744; omega)⟩) ?_
      refine xk_iconst (v := (2 : Int32)) hC dL_law_868 (by decide) ?_
      refine xk_isub hC dL_law_869 ?_
      obtain ⟨u6, h6, hf⟩ := xk_bi hf
      obtain ⟨q5, h5, hf⟩ := xk_bi hf
      refine xk_backi (xk_callV hC 3 xc_0 (c_X4_take h5) h6 xm_457 xm_458 xm_459 xm_1 xm_460 ⟨rfl, xd_X4_take⟩ rfl ⟨Nat.le_of_ble_eq_true rfl, Nat.le_of_ble_eq_true rfl⟩ rfl (Nat.le_of_ble_eq_true rfl) dL_law_870 ⟨(by show _ ≤ 661985; omega), (by show _ ≤ 7115744; omega)⟩) ?_
      refine xk_iload hC dL_law_873 12 rfl ?_
      refine xk_icmp_ne (tgt := 916) hC dL_law_875 (by decide) (fun c7 => ?_) (fun c7 => ?_)
      · replace hf := (if_neg c7).symm.trans hf
        refine xk_locals [] rfl ?_
        refine xk_widen (k := 447) (n := 23844) (by omega) (by omega) ?_
        exact t_L_law_916 hC hr hz hq (q5.2) hf
      · replace hf := (if_pos c7).symm.trans hf
        refine xk_aload_n hC dL_law_878 2 rfl rfl ?_
        refine xk_bipush (v := (13 : Int32)) hC dL_law_879 (by decide) ?_
        obtain ⟨u9, h9, hf⟩ := xk_bi hf
        obtain ⟨q8, h8, hf⟩ := xk_bi hf
        refine xk_backi (xk_callV hC 1 xc_0 (c_X4_many h8) h9 xm_542 xm_543 xm_544 xm_1 xm_545 ⟨rfl, xd_X4_many⟩ rfl ⟨Nat.le_of_ble_eq_true rfl, Nat.le_of_ble_eq_true rfl⟩ rfl (Nat.le_of_ble_eq_true rfl) dL_law_881 ⟨(by show _ ≤ 661985; omega), (by show _ ≤ 7115744; omega)⟩) ?_
        refine xk_iload hC dL_law_884 0 rfl ?_
        refine xk_iconst (v := (3 : Int32)) hC dL_law_886 (by decide) ?_
        refine xk_iadd hC dL_law_887 ?_
        refine xk_aload_n hC dL_law_888 2 rfl rfl ?_
        refine xk_iload hC dL_law_889 9 rfl ?_
        refine xk_bipush (v := (8 : Int32)) hC dL_law_891 (by decide) ?_
        obtain ⟨u11, h11, hf⟩ := xk_bi hf
        obtain ⟨q10, h10, hf⟩ := xk_bi hf
        refine xk_backi (xk_callV hC 2 xc_0 (c_X4_ofCue h10) h11 xm_503 xm_504 xm_505 xm_1 xm_506 ⟨rfl, xd_X4_ofCue⟩ rfl ⟨Nat.le_of_ble_eq_true rfl, Nat.le_of_ble_eq_true rfl⟩ rfl (Nat.le_of_ble_eq_true rfl) dL_law_893 ⟨(by show _ ≤ 661985; omega), (by show _ ≤ 7115744; omega)⟩) ?_
        refine xk_aload_n hC dL_law_896 2 rfl rfl ?_
        refine xk_iload hC dL_law_897 9 rfl ?_
        refine xk_iconst (v := (0 : Int32)) hC dL_law_899 (by decide) ?_
        obtain ⟨u13, h13, hf⟩ := xk_bi hf
        obtain ⟨q12, h12, hf⟩ := xk_bi hf
        refine xk_backi (xk_callV hC 2 xc_0 (c_X4_ofCue h12) h13 xm_503 xm_504 xm_505 xm_1 xm_506 ⟨rfl, xd_X4_ofCue⟩ rfl ⟨Nat.le_of_ble_eq_true rfl, Nat.le_of_ble_eq_true rfl⟩ rfl (Nat.le_of_ble_eq_true rfl) dL_law_900 ⟨(by show _ ≤ 661985; omega), (by show _ ≤ 7115744; omega)⟩) ?_
        refine xk_isub hC dL_law_903 ?_
        refine xk_sipush (v := (1439 : Int32)) hC dL_law_904 (by decide) ?_
        refine xk_iadd hC dL_law_907 ?_
        refine xk_sipush (v := (1440 : Int32)) hC dL_law_908 (by decide) ?_
        obtain ⟨u14, h14, hf⟩ := xk_bi hf
        refine xk_idiv hC dL_law_911 (xk_nz_e h14) ?_
        refine xk_iadd hC dL_law_912 ?_
        refine xk_icmp_eq (tgt := 918) hC dL_law_913 (by decide) (fun c15 => ?_) (fun c15 => ?_)
        · replace hf := (if_pos c15).symm.trans hf
          refine xk_aload_n hC dL_law_918 3 rfl rfl ?_
          refine xk_iload hC dL_law_919 12 rfl ?_
          refine xk_iload hC dL_law_921 11 rfl ?_
          obtain ⟨w16, h16, hf⟩ := xk_bi hf
          refine xk_iast hC rfl dL_law_923 h16 ?_
          refine xk_aload_n hC dL_law_924 4 rfl rfl ?_
          refine xk_iload hC dL_law_925 12 rfl ?_
          refine xk_iload hC dL_law_927 9 rfl ?_
          obtain ⟨w17, h17, hf⟩ := xk_bi hf
          refine xk_iast hC rfl dL_law_929 h17 ?_
          refine xk_locals [1, 2, 3, 4, 5, 6] rfl ?_
          exact t_L_law_930 hC hr hz hq (by omega) (by omega) (by omega) (by omega) hk210 x0 x1 x2 x3 x4 x5 w17 hf
        · replace hf := (if_neg c15).symm.trans hf
          refine xk_locals [] rfl ?_
          refine xk_widen (k := 447) (n := 23844) (by omega) (by omega) ?_
          exact t_L_law_916 hC hr hz hq (q12.2) hf
    · replace hf := (if_neg c1).symm.trans hf
      refine xk_bipush (v := (10 : Int32)) hC dL_law_819 (by decide) ?_
      refine xk_iload hC dL_law_821 12 rfl ?_
      refine xk_imul hC dL_law_823 ?_
      refine xk_iload hC dL_law_824 6 rfl ?_
      refine xk_iconst (v := (2 : Int32)) hC dL_law_826 (by decide) ?_
      refine xk_ishr hC dL_law_827 ?_
      refine xk_iconst (v := (3 : Int32)) hC dL_law_828 (by decide) ?_
      refine xk_iload hC dL_law_829 13 rfl ?_
      refine xk_imul hC dL_law_831 ?_
      refine xk_iadd hC dL_law_832 ?_
      refine xk_bipush (v := (10 : Int32)) hC dL_law_833 (by decide) ?_
      obtain ⟨q18, h18, hf⟩ := xk_bi hf
      refine xk_backi (xk_callS hC 2 (c_L_below h18) xm_734 xm_735 xm_0 xm_736 xd_L_below rfl ⟨Nat.le_of_ble_eq_true rfl, Nat.le_of_ble_eq_true rfl⟩ rfl (Nat.le_of_ble_eq_true rfl) dL_law_835 ⟨(by show _ ≤ 661985; omega), (by show _ ≤ 7115744; omega)⟩) ?_
      refine xk_iadd hC dL_law_838 ?_
      refine xk_istore (i := 17) (lv' := [(17, .int ((((10 : Int32)) * (x17)) + (q18.1))), (0, va_rf (x0)), (1, va_rf (x1)), (2, va_rf (x2)), (3, va_rf (x3)), (4, .int (x4)), (5, .int (x5)), (6, .int (x6)), (7, .int (x7)), (8, .int (x8)), (9, .int (x9)), (10, .int (x10)), (11, .int (x11)), (18, .int (x18))]) hC dL_law_839 (by decide) rfl ?_
      refine xk_iinc (v := x18 + (1 : Int32)) (lv' := [(18, .int (x18 + (1 : Int32))), (17, .int ((((10 : Int32)) * (x17)) + (q18.1))), (0, va_rf (x0)), (1, va_rf (x1)), (2, va_rf (x2)), (3, va_rf (x3)), (4, .int (x4)), (5, .int (x5)), (6, .int (x6)), (7, .int (x7)), (8, .int (x8)), (9, .int (x9)), (10, .int (x10)), (11, .int (x11))]) hC dL_law_841 13 rfl rfl (by decide) rfl ?_
      refine xk_goto (tgt := 812) hC dL_law_844 (by decide) ?_
      refine xk_locals [2, 3, 4, 5, 6, 7, 8, 9, 10, 11, 12, 13, 1, 0] rfl ?_
      exact ih x0 x1 x2 x3 x4 x5 x6 x7 x8 x9 x10 x11 ((((10 : Int32)) * (x17)) + (q18.1)) (x18 + (1 : Int32)) (q18.2) hf
def f_L_law_1072 (w : xWd) : Option (Int32 × xWd) := some ((0 : Int32), w)
set_option maxHeartbeats 4000000 in
set_option maxRecDepth 100000 in
theorem t_L_law_1072 {p : Program} {l : Launch} {e : Env} {s : State} {m : MethodId} {b : Nat} {below : List Frame} {meth : Method} {c : Code} {E : xEv} (hC : xk_C p (s.setDrawn s.drawn) m #[Value.ref b] meth c E code "ClickbookLaw" 19) (hr : meth.sig.returnType = ret) (hz : E.2.2.1 = s.heap.size) {q : (Int32 × xWd)} (hq : q.1 = 1) (w : xWd) (hf : f_L_law_1072 w = some q) : xk_X p l e room_1 (s.setDrawn s.drawn) m #[Value.ref b] below meth c (lw_Z below #[Value.ref b] s) E 19 2211 136740 1072 [] [] w := by
  refine xk_iconst (v := (0 : Int32)) hC dL_law_1072 (by decide) ?_
  cases hf
  exact xk_lawret hC hr hz hq (Nat.le_of_ble_eq_true rfl) (Nat.le_of_ble_eq_true rfl) dL_law_1073
def f_L_law_1074 (k951 : Option Nat → Option Nat → Option Nat → Int32 → Int32 → xWd → Option (Int32 × xWd)) (x1 : Option Nat) (x2 : Option Nat) (x3 : Option Nat) (x5 : Int32) (x6 : Int32) (w : xWd) : Option (Int32 × xWd) := k951 x1 x2 x3 x5 (x6 + (1 : Int32)) w
set_option maxHeartbeats 4000000 in
set_option maxRecDepth 100000 in
theorem t_L_law_1074 {p : Program} {l : Launch} {e : Env} {s : State} {m : MethodId} {b : Nat} {below : List Frame} {meth : Method} {c : Code} {E : xEv} (hC : xk_C p (s.setDrawn s.drawn) m #[Value.ref b] meth c E code "ClickbookLaw" 19) (hr : meth.sig.returnType = ret) (hz : E.2.2.1 = s.heap.size) {q : (Int32 × xWd)} (hq : q.1 = 1) {KC KS kc ks : Nat} (h1 : kc + 0 ≤ KC) (h2 : ks + 0 ≤ KS) (h3 : kc + 0 ≤ 2211) (h4 : ks + 0 ≤ 136740) {k951 : Option Nat → Option Nat → Option Nat → Int32 → Int32 → xWd → Option (Int32 × xWd)} (hk951 : ∀ (x1 : Option Nat) (x2 : Option Nat) (x3 : Option Nat) (x5 : Int32) (x6 : Int32) (w : xWd), k951 x1 x2 x3 x5 x6 w = some q → xk_X p l e room_1 (s.setDrawn s.drawn) m #[Value.ref b] below meth c (lw_Z below #[Value.ref b] s) E 19 KC KS 951 [(1, va_rf (x1)), (2, va_rf (x2)), (3, va_rf (x3)), (5, .int (x5)), (6, .int (x6))] [] w) (x1 : Option Nat) (x2 : Option Nat) (x3 : Option Nat) (x5 : Int32) (x6 : Int32) (w : xWd) (hf : f_L_law_1074 k951 x1 x2 x3 x5 x6 w = some q) : xk_X p l e room_1 (s.setDrawn s.drawn) m #[Value.ref b] below meth c (lw_Z below #[Value.ref b] s) E 19 kc ks 1074 [(1, va_rf (x1)), (2, va_rf (x2)), (3, va_rf (x3)), (5, .int (x5)), (6, .int (x6))] [] w := by
  refine xk_iinc (v := x6 + (1 : Int32)) (lv' := [(6, .int (x6 + (1 : Int32))), (1, va_rf (x1)), (2, va_rf (x2)), (3, va_rf (x3)), (5, .int (x5))]) hC dL_law_1074 4 rfl rfl (by decide) rfl ?_
  refine xk_goto (tgt := 951) hC dL_law_1077 (by decide) ?_
  refine xk_locals [1, 2, 3, 4, 0] rfl ?_
  refine xk_widen (k := KC) (n := KS) (by omega) (by omega) ?_
  exact hk951 x1 x2 x3 x5 (x6 + (1 : Int32)) w hf
def f_L_law_1016 (k951 : Option Nat → Option Nat → Option Nat → Int32 → Int32 → xWd → Option (Int32 × xWd)) (x1 : Option Nat) (x2 : Option Nat) (x3 : Option Nat) (x5 : Int32) (x6 : Int32) (x7 : Int32) (s0 : Int32) (w : xWd) : Option (Int32 × xWd) := if (s0) = (x7) then (xk_is w (x1) 0).bind (fun u3 => (f_X4_ofTake (x1) (x6) ((0 : Int32)) w).bind (fun q2 => (xk_lI 0 q2.2 (x3) (x6)).bind (fun v4 => if (q2.1) = (v4) then (xk_is q2.2 (x1) 0).bind (fun u7 => (f_X4_ofTake (x1) (x6) ((1 : Int32)) q2.2).bind (fun q6 => (xk_lI 0 q6.2 (x2) (x6)).bind (fun v8 => if (q6.1) = (v8) then if (x7) = ((0 : Int32)) then f_L_law_1074 k951 x1 x2 x3 x5 x6 (q6.2) else (xk_is q6.2 (x1) 0).bind (fun u12 => (f_X4_ofTake (x1) (x6) ((4 : Int32)) q6.2).bind (fun q11 => (xk_lI 0 q11.2 (x3) (x6)).bind (fun v13 => (xk_is q11.2 (x1) 0).bind (fun u15 => (f_X4_join (x1) (v13) q11.2).bind (fun q14 => if (q11.1) ≤ (q14.1) then f_L_law_1074 k951 x1 x2 x3 x5 x6 (q14.2) else f_L_law_1072 (q14.2)))))) else f_L_law_1072 (q6.2)))) else f_L_law_1072 (q2.2)))) else f_L_law_1072 w
set_option maxHeartbeats 4000000 in
set_option maxRecDepth 100000 in
theorem t_L_law_1016 {p : Program} {l : Launch} {e : Env} {s : State} {m : MethodId} {b : Nat} {below : List Frame} {meth : Method} {c : Code} {E : xEv} (hC : xk_C p (s.setDrawn s.drawn) m #[Value.ref b] meth c E code "ClickbookLaw" 19) (hr : meth.sig.returnType = ret) (hz : E.2.2.1 = s.heap.size) {q : (Int32 × xWd)} (hq : q.1 = 1) {KC KS kc ks : Nat} (h1 : kc + 42 ≤ KC) (h2 : ks + 2688 ≤ KS) (h3 : kc + 42 ≤ 2211) (h4 : ks + 2688 ≤ 136740) {k951 : Option Nat → Option Nat → Option Nat → Int32 → Int32 → xWd → Option (Int32 × xWd)} (hk951 : ∀ (x1 : Option Nat) (x2 : Option Nat) (x3 : Option Nat) (x5 : Int32) (x6 : Int32) (w : xWd), k951 x1 x2 x3 x5 x6 w = some q → xk_X p l e room_1 (s.setDrawn s.drawn) m #[Value.ref b] below meth c (lw_Z below #[Value.ref b] s) E 19 KC KS 951 [(1, va_rf (x1)), (2, va_rf (x2)), (3, va_rf (x3)), (5, .int (x5)), (6, .int (x6))] [] w) (x1 : Option Nat) (x2 : Option Nat) (x3 : Option Nat) (x5 : Int32) (x6 : Int32) (x7 : Int32) (s0 : Int32) (w : xWd) (hf : f_L_law_1016 k951 x1 x2 x3 x5 x6 x7 s0 w = some q) : xk_X p l e room_1 (s.setDrawn s.drawn) m #[Value.ref b] below meth c (lw_Z below #[Value.ref b] s) E 19 kc ks 1016 [(1, va_rf (x1)), (2, va_rf (x2)), (3, va_rf (x3)), (5, .int (x5)), (6, .int (x6)), (7, .int (x7))] [.int (s0)] w := by
  refine xk_iload hC dL_law_1016 5 rfl ?_
  refine xk_icmp_ne (tgt := 1072) hC dL_law_1018 (by decide) (fun c1 => ?_) (fun c1 => ?_)
  · replace hf := (if_neg c1).symm.trans hf
    refine xk_locals [] rfl ?_
    refine xk_widen (k := 2211) (n := 136740) (by omega) (by omega) ?_
    exact t_L_law_1072 hC hr hz hq w hf
  · replace hf := (if_pos c1).symm.trans hf
    refine xk_aload_n hC dL_law_1021 0 rfl rfl ?_
    refine xk_iload hC dL_law_1022 4 rfl ?_
    refine xk_iconst (v := (0 : Int32)) hC dL_law_1024 (by decide) ?_
    obtain ⟨u3, h3, hf⟩ := xk_bi hf
    obtain ⟨q2, h2, hf⟩ := xk_bi hf
    refine xk_backi (xk_callV hC 2 xc_0 (c_X4_ofTake h2) h3 xm_528 xm_529 xm_530 xm_1 xm_531 ⟨rfl, xd_X4_ofTake⟩ rfl ⟨Nat.le_of_ble_eq_true rfl, Nat.le_of_ble_eq_true rfl⟩ rfl (Nat.le_of_ble_eq_true rfl) dL_law_1025 ⟨(by show _ ≤ 661985; omega), (by show _ ≤ 7115744; omega)⟩) ?_
    refine xk_aload_n hC dL_law_1028 2 rfl rfl ?_
    refine xk_iload hC dL_law_1029 4 rfl ?_
    obtain ⟨v4, h4, hf⟩ := xk_bi hf
    refine xk_iald hC rfl dL_law_1031 h4 ?_
    refine xk_icmp_ne (tgt := 1072) hC dL_law_1032 (by decide) (fun c5 => ?_) (fun c5 => ?_)
    · replace hf := (if_neg c5).symm.trans hf
      refine xk_locals [] rfl ?_
      refine xk_widen (k := 2211) (n := 136740) (by omega) (by omega) ?_
      exact t_L_law_1072 hC hr hz hq (q2.2) hf
    · replace hf := (if_pos c5).symm.trans hf
      refine xk_aload_n hC dL_law_1035 0 rfl rfl ?_
      refine xk_iload hC dL_law_1036 4 rfl ?_
      refine xk_iconst (v := (1 : Int32)) hC dL_law_1038 (by decide) ?_
      obtain ⟨u7, h7, hf⟩ := xk_bi hf
      obtain ⟨q6, h6, hf⟩ := xk_bi hf
      refine xk_backi (xk_callV hC 2 xc_0 (c_X4_ofTake h6) h7 xm_528 xm_529 xm_530 xm_1 xm_531 ⟨rfl, xd_X4_ofTake⟩ rfl ⟨Nat.le_of_ble_eq_true rfl, Nat.le_of_ble_eq_true rfl⟩ rfl (Nat.le_of_ble_eq_true rfl) dL_law_1039 ⟨(by show _ ≤ 661985; omega), (by show _ ≤ 7115744; omega)⟩) ?_
      refine xk_aload_n hC dL_law_1042 1 rfl rfl ?_
      refine xk_iload hC dL_law_1043 4 rfl ?_
      obtain ⟨v8, h8, hf⟩ := xk_bi hf
      refine xk_iald hC rfl dL_law_1045 h8 ?_
      refine xk_icmp_ne (tgt := 1072) hC dL_law_1046 (by decide) (fun c9 => ?_) (fun c9 => ?_)
      · replace hf := (if_neg c9).symm.trans hf
        refine xk_locals [] rfl ?_
        refine xk_widen (k := 2211) (n := 136740) (by omega) (by omega) ?_
        exact t_L_law_1072 hC hr hz hq (q6.2) hf
      · replace hf := (if_pos c9).symm.trans hf
        refine xk_iload hC dL_law_1049 5 rfl ?_
        refine xk_if_eq (tgt := 1074) hC dL_law_1051 (by decide) (fun c10 => ?_) (fun c10 => ?_)
        · replace hf := (if_pos c10).symm.trans hf
          refine xk_locals [0, 1, 2, 3, 4] rfl ?_
          exact t_L_law_1074 hC hr hz hq (by omega) (by omega) (by omega) (by omega) hk951 x1 x2 x3 x5 x6 (q6.2) hf
        · replace hf := (if_neg c10).symm.trans hf
          refine xk_aload_n hC dL_law_1054 0 rfl rfl ?_
          refine xk_iload hC dL_law_1055 4 rfl ?_
          refine xk_iconst (v := (4 : Int32)) hC dL_law_1057 (by decide) ?_
          obtain ⟨u12, h12, hf⟩ := xk_bi hf
          obtain ⟨q11, h11, hf⟩ := xk_bi hf
          refine xk_backi (xk_callV hC 2 xc_0 (c_X4_ofTake h11) h12 xm_528 xm_529 xm_530 xm_1 xm_531 ⟨rfl, xd_X4_ofTake⟩ rfl ⟨Nat.le_of_ble_eq_true rfl, Nat.le_of_ble_eq_true rfl⟩ rfl (Nat.le_of_ble_eq_true rfl) dL_law_1058 ⟨(by show _ ≤ 661985; omega), (by show _ ≤ 7115744; omega)⟩) ?_
          refine xk_aload_n hC dL_law_1061 0 rfl rfl ?_
          refine xk_aload_n hC dL_law_1062 2 rfl rfl ?_
          refine xk_iload hC dL_law_1063 4 rfl ?_
          obtain ⟨v13, h13, hf⟩ := xk_bi hf
          refine xk_iald hC rfl dL_law_1065 h13 ?_
          obtain ⟨u15, h15, hf⟩ := xk_bi hf
          obtain ⟨q14, h14, hf⟩ := xk_bi hf
          refine xk_backi (xk_callV hC 1 xc_0 (c_X4_join h14) h15 xm_582 xm_583 xm_584 xm_1 xm_585 ⟨rfl, xd_X4_join⟩ rfl ⟨Nat.le_of_ble_eq_true rfl, Nat.le_of_ble_eq_true rfl⟩ rfl (Nat.le_of_ble_eq_true rfl) dL_law_1066 ⟨(by show _ ≤ 661985; omega), (by show _ ≤ 7115744; omega)⟩) ?_
          refine xk_icmp_le (tgt := 1074) hC dL_law_1069 (by decide) (fun c16 => ?_) (fun c16 => ?_)
          · replace hf := (if_pos c16).symm.trans hf
            refine xk_locals [0, 1, 2, 3, 4] rfl ?_
            exact t_L_law_1074 hC hr hz hq (by omega) (by omega) (by omega) (by omega) hk951 x1 x2 x3 x5 x6 (q14.2) hf
          · replace hf := (if_neg c16).symm.trans hf
            refine xk_locals [] rfl ?_
            refine xk_widen (k := 2211) (n := 136740) (by omega) (by omega) ?_
            exact t_L_law_1072 hC hr hz hq (q14.2) hf
def f_L_law_997 (k951 : Option Nat → Option Nat → Option Nat → Int32 → Int32 → xWd → Option (Int32 × xWd)) (x1 : Option Nat) (x2 : Option Nat) (x3 : Option Nat) (x6 : Int32) (x7 : Int32) (s0 : Int32) (s1 : Int32) (w : xWd) : Option (Int32 × xWd) := (xk_is w (x1) 0).bind (fun u2 => (f_X4_ofTake (x1) (x6) ((3 : Int32)) w).bind (fun q1 => if (q1.1) = ((1 : Int32)) then f_L_law_1016 k951 x1 x2 x3 ((s1) + (s0)) x6 x7 ((1 : Int32)) (q1.2) else f_L_law_1016 k951 x1 x2 x3 ((s1) + (s0)) x6 x7 ((0 : Int32)) (q1.2)))
set_option maxHeartbeats 4000000 in
set_option maxRecDepth 100000 in
theorem t_L_law_997 {p : Program} {l : Launch} {e : Env} {s : State} {m : MethodId} {b : Nat} {below : List Frame} {meth : Method} {c : Code} {E : xEv} (hC : xk_C p (s.setDrawn s.drawn) m #[Value.ref b] meth c E code "ClickbookLaw" 19) (hr : meth.sig.returnType = ret) (hz : E.2.2.1 = s.heap.size) {q : (Int32 × xWd)} (hq : q.1 = 1) {KC KS kc ks : Nat} (h1 : kc + 42 ≤ KC) (h2 : ks + 2688 ≤ KS) (h3 : kc + 42 ≤ 2211) (h4 : ks + 2688 ≤ 136740) {k951 : Option Nat → Option Nat → Option Nat → Int32 → Int32 → xWd → Option (Int32 × xWd)} (hk951 : ∀ (x1 : Option Nat) (x2 : Option Nat) (x3 : Option Nat) (x5 : Int32) (x6 : Int32) (w : xWd), k951 x1 x2 x3 x5 x6 w = some q → xk_X p l e room_1 (s.setDrawn s.drawn) m #[Value.ref b] below meth c (lw_Z below #[Value.ref b] s) E 19 KC KS 951 [(1, va_rf (x1)), (2, va_rf (x2)), (3, va_rf (x3)), (5, .int (x5)), (6, .int (x6))] [] w) (x1 : Option Nat) (x2 : Option Nat) (x3 : Option Nat) (x6 : Int32) (x7 : Int32) (s0 : Int32) (s1 : Int32) (w : xWd) (hf : f_L_law_997 k951 x1 x2 x3 x6 x7 s0 s1 w = some q) : xk_X p l e room_1 (s.setDrawn s.drawn) m #[Value.ref b] below meth c (lw_Z below #[Value.ref b] s) E 19 kc ks 997 [(1, va_rf (x1)), (2, va_rf (x2)), (3, va_rf (x3)), (6, .int (x6)), (7, .int (x7))] [.int (s0), .int (s1)] w := by
  refine xk_iadd hC dL_law_997 ?_
  refine xk_istore (i := 5) (lv' := [(5, .int ((s1) + (s0))), (1, va_rf (x1)), (2, va_rf (x2)), (3, va_rf (x3)), (6, .int (x6)), (7, .int (x7))]) hC dL_law_998 (by decide) rfl ?_
  refine xk_aload_n hC dL_law_1000 1 rfl rfl ?_
  refine xk_iload hC dL_law_1001 4 rfl ?_
  refine xk_iconst (v := (3 : Int32)) hC dL_law_1003 (by decide) ?_
  obtain ⟨u2, h2, hf⟩ := xk_bi hf
  obtain ⟨q1, h1, hf⟩ := xk_bi hf
  refine xk_backi (xk_callV hC 2 xc_0 (c_X4_ofTake h1) h2 xm_528 xm_529 xm_530 xm_1 xm_531 ⟨rfl, xd_X4_ofTake⟩ rfl ⟨Nat.le_of_ble_eq_true rfl, Nat.le_of_ble_eq_true rfl⟩ rfl (Nat.le_of_ble_eq_true rfl) dL_law_1004 ⟨(by show _ ≤ 661985; omega), (by show _ ≤ 7115744; omega)⟩) ?_
  refine xk_iconst (v := (1 : Int32)) hC dL_law_1007 (by decide) ?_
  refine xk_icmp_ne (tgt := 1015) hC dL_law_1008 (by decide) (fun c3 => ?_) (fun c3 => ?_)
  · replace hf := (if_neg c3).symm.trans hf
    refine xk_iconst (v := (0 : Int32)) hC dL_law_1015 (by decide) ?_
    refine xk_locals [1, 2, 3, 0, 4, 5] rfl ?_
    exact t_L_law_1016 hC hr hz hq (by omega) (by omega) (by omega) (by omega) hk951 x1 x2 x3 ((s1) + (s0)) x6 x7 ((0 : Int32)) (q1.2) hf
  · replace hf := (if_pos c3).symm.trans hf
    refine xk_iconst (v := (1 : Int32)) hC dL_law_1011 (by decide) ?_
    refine xk_goto (tgt := 1016) hC dL_law_1012 (by decide) ?_
    refine xk_locals [1, 2, 3, 0, 4, 5] rfl ?_
    exact t_L_law_1016 hC hr hz hq (by omega) (by omega) (by omega) (by omega) hk951 x1 x2 x3 ((s1) + (s0)) x6 x7 ((1 : Int32)) (q1.2) hf
def f_L_law_983 (k951 : Option Nat → Option Nat → Option Nat → Int32 → Int32 → xWd → Option (Int32 × xWd)) (x1 : Option Nat) (x2 : Option Nat) (x3 : Option Nat) (x5 : Int32) (x6 : Int32) (s0 : Int32) (w : xWd) : Option (Int32 × xWd) := if (s0) = ((0 : Int32)) then f_L_law_997 k951 x1 x2 x3 x6 s0 ((0 : Int32)) x5 w else f_L_law_997 k951 x1 x2 x3 x6 s0 ((1 : Int32)) x5 w
set_option maxHeartbeats 4000000 in
set_option maxRecDepth 100000 in
theorem t_L_law_983 {p : Program} {l : Launch} {e : Env} {s : State} {m : MethodId} {b : Nat} {below : List Frame} {meth : Method} {c : Code} {E : xEv} (hC : xk_C p (s.setDrawn s.drawn) m #[Value.ref b] meth c E code "ClickbookLaw" 19) (hr : meth.sig.returnType = ret) (hz : E.2.2.1 = s.heap.size) {q : (Int32 × xWd)} (hq : q.1 = 1) {KC KS kc ks : Nat} (h1 : kc + 42 ≤ KC) (h2 : ks + 2688 ≤ KS) (h3 : kc + 42 ≤ 2211) (h4 : ks + 2688 ≤ 136740) {k951 : Option Nat → Option Nat → Option Nat → Int32 → Int32 → xWd → Option (Int32 × xWd)} (hk951 : ∀ (x1 : Option Nat) (x2 : Option Nat) (x3 : Option Nat) (x5 : Int32) (x6 : Int32) (w : xWd), k951 x1 x2 x3 x5 x6 w = some q → xk_X p l e room_1 (s.setDrawn s.drawn) m #[Value.ref b] below meth c (lw_Z below #[Value.ref b] s) E 19 KC KS 951 [(1, va_rf (x1)), (2, va_rf (x2)), (3, va_rf (x3)), (5, .int (x5)), (6, .int (x6))] [] w) (x1 : Option Nat) (x2 : Option Nat) (x3 : Option Nat) (x5 : Int32) (x6 : Int32) (s0 : Int32) (w : xWd) (hf : f_L_law_983 k951 x1 x2 x3 x5 x6 s0 w = some q) : xk_X p l e room_1 (s.setDrawn s.drawn) m #[Value.ref b] below meth c (lw_Z below #[Value.ref b] s) E 19 kc ks 983 [(1, va_rf (x1)), (2, va_rf (x2)), (3, va_rf (x3)), (5, .int (x5)), (6, .int (x6))] [.int (s0)] w := by
  refine xk_istore (i := 7) (lv' := [(7, .int (s0)), (1, va_rf (x1)), (2, va_rf (x2)), (3, va_rf (x3)), (5, .int (x5)), (6, .int (x6))]) hC dL_law_983 (by decide) rfl ?_
  refine xk_iload hC dL_law_985 4 rfl ?_
  refine xk_iload hC dL_law_987 0 rfl ?_
  refine xk_if_eq (tgt := 996) hC dL_law_989 (by decide) (fun c1 => ?_) (fun c1 => ?_)
  · replace hf := (if_pos c1).symm.trans hf
    refine xk_iconst (v := (0 : Int32)) hC dL_law_996 (by decide) ?_
    refine xk_locals [1, 2, 3, 5, 0] rfl ?_
    exact t_L_law_997 hC hr hz hq (by omega) (by omega) (by omega) (by omega) hk951 x1 x2 x3 x6 s0 ((0 : Int32)) x5 w hf
  · replace hf := (if_neg c1).symm.trans hf
    refine xk_iconst (v := (1 : Int32)) hC dL_law_992 (by decide) ?_
    refine xk_goto (tgt := 997) hC dL_law_993 (by decide) ?_
    refine xk_locals [1, 2, 3, 5, 0] rfl ?_
    exact t_L_law_997 hC hr hz hq (by omega) (by omega) (by omega) (by omega) hk951 x1 x2 x3 x6 s0 ((1 : Int32)) x5 w hf
def f_L_law_1133 (w : xWd) : Option (Int32 × xWd) := some ((0 : Int32), w)
set_option maxHeartbeats 4000000 in
set_option maxRecDepth 100000 in
theorem t_L_law_1133 {p : Program} {l : Launch} {e : Env} {s : State} {m : MethodId} {b : Nat} {below : List Frame} {meth : Method} {c : Code} {E : xEv} (hC : xk_C p (s.setDrawn s.drawn) m #[Value.ref b] meth c E code "ClickbookLaw" 19) (hr : meth.sig.returnType = ret) (hz : E.2.2.1 = s.heap.size) {q : (Int32 × xWd)} (hq : q.1 = 1) (w : xWd) (hf : f_L_law_1133 w = some q) : xk_X p l e room_1 (s.setDrawn s.drawn) m #[Value.ref b] below meth c (lw_Z below #[Value.ref b] s) E 19 2631 163620 1133 [] [] w := by
  refine xk_iconst (v := (0 : Int32)) hC dL_law_1133 (by decide) ?_
  cases hf
  exact xk_lawret hC hr hz hq (Nat.le_of_ble_eq_true rfl) (Nat.le_of_ble_eq_true rfl) dL_law_1134
def f_L_law_1150 (s0 : Int32) (w : xWd) : Option (Int32 × xWd) := some (s0, w)
set_option maxHeartbeats 4000000 in
set_option maxRecDepth 100000 in
theorem t_L_law_1150 {p : Program} {l : Launch} {e : Env} {s : State} {m : MethodId} {b : Nat} {below : List Frame} {meth : Method} {c : Code} {E : xEv} (hC : xk_C p (s.setDrawn s.drawn) m #[Value.ref b] meth c E code "ClickbookLaw" 19) (hr : meth.sig.returnType = ret) (hz : E.2.2.1 = s.heap.size) {q : (Int32 × xWd)} (hq : q.1 = 1) (s0 : Int32) (w : xWd) (hf : f_L_law_1150 s0 w = some q) : xk_X p l e room_1 (s.setDrawn s.drawn) m #[Value.ref b] below meth c (lw_Z below #[Value.ref b] s) E 19 3051 190500 1150 [] [.int (s0)] w := by
  cases hf
  exact xk_lawret hC hr hz hq (Nat.le_of_ble_eq_true rfl) (Nat.le_of_ble_eq_true rfl) dL_law_1150
def f_L_law_951 : Nat → Option Nat → Option Nat → Option Nat → Int32 → Int32 → xWd → Option (Int32 × xWd)
  | 0, _, _, _, _, _, _ => none
  | n + 1, x1, x2, x3, x5, x6, w => (xk_is w (x1) 0).bind (fun u2 => (f_X4_many (x1) ((10 : Int32)) w).bind (fun q1 => if (q1.1) ≤ (x6) then (xk_is q1.2 (x1) 0).bind (fun u5 => (f_X4_digest (x1)  q1.2).bind (fun q4 => (xk_is q4.2 (x1) 0).bind (fun u7 => (f_X4_many (x1) ((11 : Int32)) q4.2).bind (fun q6 => if (q6.1) = (x5) then (xk_is q6.2 (x1) 0).bind (fun u10 => (f_X4_meanNote (x1)  q6.2).bind (fun q9 => if ((0 : Int32)) < (Op.cmpValue (FP.dcmp (q9.1) ((4621256167635550208 : UInt64))) .l) then f_L_law_1133 (q9.2) else (xk_is q9.2 (x1) 0).bind (fun u13 => (f_X4_bestClick (x1) ((0 : Int32)) ((0 : Int32)) q9.2).bind (fun q12 => if (q12.1) < ((24 : Int32)) then f_L_law_1133 (q12.2) else (xk_is q12.2 (x1) 0).bind (fun u16 => (f_X4_wouldMeet (x1) ((0 : Int32)) ((1 : Int32)) q12.2).bind (fun q15 => (xk_is q15.2 (x1) 0).bind (fun u18 => (f_X4_many (x1) ((4 : Int32)) q15.2).bind (fun q17 => if (q15.1) = (q17.1) then (xk_is q17.2 (x1) 0).bind (fun u21 => (f_X4_digest (x1)  q17.2).bind (fun q20 => if (lg_cmp (q20.1) (q4.1)) = ((0 : Int32)) then f_L_law_1150 ((1 : Int32)) (q20.2) else f_L_law_1150 ((0 : Int32)) (q20.2))) else f_L_law_1133 (q17.2))))))))) else f_L_law_1133 (q6.2))))) else (xk_lI 0 q1.2 (x3) (x6)).bind (fun v23 => (xk_is q1.2 (x1) 0).bind (fun u25 => (f_X4_ofCue (x1) (v23) ((5 : Int32)) q1.2).bind (fun q24 => (xk_lI 0 q24.2 (x2) (x6)).bind (fun v26 => if (q24.1) = (v26) then f_L_law_983 (f_L_law_951 n) x1 x2 x3 x5 x6 ((1 : Int32)) (q24.2) else f_L_law_983 (f_L_law_951 n) x1 x2 x3 x5 x6 ((0 : Int32)) (q24.2)))))))
set_option maxHeartbeats 4000000 in
set_option maxRecDepth 100000 in
theorem t_L_law_951 {p : Program} {l : Launch} {e : Env} {s : State} {m : MethodId} {b : Nat} {below : List Frame} {meth : Method} {c : Code} {E : xEv} (hC : xk_C p (s.setDrawn s.drawn) m #[Value.ref b] meth c E code "ClickbookLaw" 19) (hr : meth.sig.returnType = ret) (hz : E.2.2.1 = s.heap.size) {q : (Int32 × xWd)} (hq : q.1 = 1) : ∀ (n : Nat) (x1 : Option Nat) (x2 : Option Nat) (x3 : Option Nat) (x5 : Int32) (x6 : Int32) (w : xWd) (kc ks : Nat), kc + n * 42 ≤ 2169 → ks + n * 2688 ≤ 134052 → f_L_law_951 n x1 x2 x3 x5 x6 w = some q → xk_X p l e room_1 (s.setDrawn s.drawn) m #[Value.ref b] below meth c (lw_Z below #[Value.ref b] s) E 19 kc ks 951 [(1, va_rf (x1)), (2, va_rf (x2)), (3, va_rf (x3)), (5, .int (x5)), (6, .int (x6))] [] w := by
  intro n
  induction n with
  | zero => intro x1 x2 x3 x5 x6 w kc ks hkc hks hf; have hf : none = some q := hf; cases hf
  | succ n ih =>
    intro x1 x2 x3 x5 x6 w kc ks hkc hks hf
    rw [Nat.succ_mul] at hkc hks
    refine xk_iload hC dL_law_951 4 rfl ?_
    refine xk_aload_n hC dL_law_953 0 rfl rfl ?_
    refine xk_bipush (v := (10 : Int32)) hC dL_law_954 (by decide) ?_
    obtain ⟨u2, h2, hf⟩ := xk_bi hf
    obtain ⟨q1, h1, hf⟩ := xk_bi hf
    refine xk_backi (xk_callV hC 1 xc_0 (c_X4_many h1) h2 xm_542 xm_543 xm_544 xm_1 xm_545 ⟨rfl, xd_X4_many⟩ rfl ⟨Nat.le_of_ble_eq_true rfl, Nat.le_of_ble_eq_true rfl⟩ rfl (Nat.le_of_ble_eq_true rfl) dL_law_956 ⟨(by show _ ≤ 661985; omega), (by show _ ≤ 7115744; omega)⟩) ?_
    refine xk_icmp_ge (tgt := 1080) hC dL_law_959 (by decide) (fun c3 => ?_) (fun c3 => ?_)
    · replace hf := (if_pos c3).symm.trans hf
      refine xk_aload_n hC dL_law_1080 0 rfl rfl ?_
      obtain ⟨u5, h5, hf⟩ := xk_bi hf
      obtain ⟨q4, h4, hf⟩ := xk_bi hf
      refine xk_backl (xk_callV hC 0 xc_0 (c_X4_digest h4) h5 xm_665 xm_666 xm_667 xm_1 xm_668 ⟨rfl, xd_X4_digest⟩ rfl ⟨Nat.le_of_ble_eq_true rfl, Nat.le_of_ble_eq_true rfl⟩ rfl (Nat.le_of_ble_eq_true rfl) dL_law_1081 ⟨(by show _ ≤ 661985; omega), (by show _ ≤ 7115744; omega)⟩) ?_
      refine xk_lstore (i := 6) (lv' := [(6, .long (q4.1)), (1, va_rf (x1)), (2, va_rf (x2)), (3, va_rf (x3)), (5, .int (x5))]) hC dL_law_1084 (by decide) rfl ?_
      refine xk_aload_n hC dL_law_1086 1 rfl rfl ?_
      refine xk_bipush (v := (11 : Int32)) hC dL_law_1087 (by decide) ?_
      obtain ⟨u7, h7, hf⟩ := xk_bi hf
      obtain ⟨q6, h6, hf⟩ := xk_bi hf
      refine xk_backi (xk_callV hC 1 xc_0 (c_X4_many h6) h7 xm_542 xm_543 xm_544 xm_1 xm_545 ⟨rfl, xd_X4_many⟩ rfl ⟨Nat.le_of_ble_eq_true rfl, Nat.le_of_ble_eq_true rfl⟩ rfl (Nat.le_of_ble_eq_true rfl) dL_law_1089 ⟨(by show _ ≤ 661985; omega), (by show _ ≤ 7115744; omega)⟩) ?_
      refine xk_iload hC dL_law_1092 4 rfl ?_
      refine xk_icmp_ne (tgt := 1133) hC dL_law_1094 (by decide) (fun c8 => ?_) (fun c8 => ?_)
      · replace hf := (if_neg c8).symm.trans hf
        refine xk_locals [] rfl ?_
        refine xk_widen (k := 2631) (n := 163620) (by omega) (by omega) ?_
        exact t_L_law_1133 hC hr hz hq (q6.2) hf
      · replace hf := (if_pos c8).symm.trans hf
        refine xk_aload_n hC dL_law_1097 1 rfl rfl ?_
        obtain ⟨u10, h10, hf⟩ := xk_bi hf
        obtain ⟨q9, h9, hf⟩ := xk_bi hf
        refine xk_backd (xk_callV hC 0 xc_0 (c_X4_meanNote h9) h10 xm_578 xm_579 xm_580 xm_1 xm_581 ⟨rfl, xd_X4_meanNote⟩ rfl ⟨Nat.le_of_ble_eq_true rfl, Nat.le_of_ble_eq_true rfl⟩ rfl (Nat.le_of_ble_eq_true rfl) dL_law_1098 ⟨(by show _ ≤ 661985; omega), (by show _ ≤ 7115744; omega)⟩) ?_
        refine xk_ldc2d (v := (4621256167635550208 : UInt64)) hC dL_law_1101 xm_777 ?_
        refine xk_dcmp hC dL_law_1104 ?_
        refine xk_if_gt (tgt := 1133) hC dL_law_1105 (by decide) (fun c11 => ?_) (fun c11 => ?_)
        · replace hf := (if_pos c11).symm.trans hf
          refine xk_locals [] rfl ?_
          refine xk_widen (k := 2631) (n := 163620) (by omega) (by omega) ?_
          exact t_L_law_1133 hC hr hz hq (q9.2) hf
        · replace hf := (if_neg c11).symm.trans hf
          refine xk_aload_n hC dL_law_1108 1 rfl rfl ?_
          refine xk_iconst (v := (0 : Int32)) hC dL_law_1109 (by decide) ?_
          refine xk_iconst (v := (0 : Int32)) hC dL_law_1110 (by decide) ?_
          obtain ⟨u13, h13, hf⟩ := xk_bi hf
          obtain ⟨q12, h12, hf⟩ := xk_bi hf
          refine xk_backi (xk_callV hC 2 xc_0 (c_X4_bestClick h12) h13 xm_636 xm_637 xm_638 xm_1 xm_639 ⟨rfl, xd_X4_bestClick⟩ rfl ⟨Nat.le_of_ble_eq_true rfl, Nat.le_of_ble_eq_true rfl⟩ rfl (Nat.le_of_ble_eq_true rfl) dL_law_1111 ⟨(by show _ ≤ 661985; omega), (by show _ ≤ 7115744; omega)⟩) ?_
          refine xk_bipush (v := (24 : Int32)) hC dL_law_1114 (by decide) ?_
          refine xk_icmp_lt (tgt := 1133) hC dL_law_1116 (by decide) (fun c14 => ?_) (fun c14 => ?_)
          · replace hf := (if_pos c14).symm.trans hf
            refine xk_locals [] rfl ?_
            refine xk_widen (k := 2631) (n := 163620) (by omega) (by omega) ?_
            exact t_L_law_1133 hC hr hz hq (q12.2) hf
          · replace hf := (if_neg c14).symm.trans hf
            refine xk_aload_n hC dL_law_1119 1 rfl rfl ?_
            refine xk_iconst (v := (0 : Int32)) hC dL_law_1120 (by decide) ?_
            refine xk_iconst (v := (1 : Int32)) hC dL_law_1121 (by decide) ?_
            obtain ⟨u16, h16, hf⟩ := xk_bi hf
            obtain ⟨q15, h15, hf⟩ := xk_bi hf
            refine xk_backi (xk_callV hC 2 xc_0 (c_X4_wouldMeet h15) h16 xm_645 xm_646 xm_647 xm_1 xm_648 ⟨rfl, xd_X4_wouldMeet⟩ rfl ⟨Nat.le_of_ble_eq_true rfl, Nat.le_of_ble_eq_true rfl⟩ rfl (Nat.le_of_ble_eq_true rfl) dL_law_1122 ⟨(by show _ ≤ 661985; omega), (by show _ ≤ 7115744; omega)⟩) ?_
            refine xk_aload_n hC dL_law_1125 1 rfl rfl ?_
            refine xk_iconst (v := (4 : Int32)) hC dL_law_1126 (by decide) ?_
            obtain ⟨u18, h18, hf⟩ := xk_bi hf
            obtain ⟨q17, h17, hf⟩ := xk_bi hf
            refine xk_backi (xk_callV hC 1 xc_0 (c_X4_many h17) h18 xm_542 xm_543 xm_544 xm_1 xm_545 ⟨rfl, xd_X4_many⟩ rfl ⟨Nat.le_of_ble_eq_true rfl, Nat.le_of_ble_eq_true rfl⟩ rfl (Nat.le_of_ble_eq_true rfl) dL_law_1127 ⟨(by show _ ≤ 661985; omega), (by show _ ≤ 7115744; omega)⟩) ?_
            refine xk_icmp_eq (tgt := 1135) hC dL_law_1130 (by decide) (fun c19 => ?_) (fun c19 => ?_)
            · replace hf := (if_pos c19).symm.trans hf
              refine xk_aload_n hC dL_law_1135 1 rfl rfl ?_
              obtain ⟨u21, h21, hf⟩ := xk_bi hf
              obtain ⟨q20, h20, hf⟩ := xk_bi hf
              refine xk_backl (xk_callV hC 0 xc_0 (c_X4_digest h20) h21 xm_665 xm_666 xm_667 xm_1 xm_668 ⟨rfl, xd_X4_digest⟩ rfl ⟨Nat.le_of_ble_eq_true rfl, Nat.le_of_ble_eq_true rfl⟩ rfl (Nat.le_of_ble_eq_true rfl) dL_law_1136 ⟨(by show _ ≤ 661985; omega), (by show _ ≤ 7115744; omega)⟩) ?_
              refine xk_lload hC dL_law_1139 0 rfl ?_
              refine xk_lcmp hC dL_law_1141 ?_
              refine xk_if_ne (tgt := 1149) hC dL_law_1142 (by decide) (fun c22 => ?_) (fun c22 => ?_)
              · replace hf := (if_neg c22).symm.trans hf
                refine xk_iconst (v := (0 : Int32)) hC dL_law_1149 (by decide) ?_
                refine xk_locals [] rfl ?_
                refine xk_widen (k := 3051) (n := 190500) (by omega) (by omega) ?_
                exact t_L_law_1150 hC hr hz hq ((0 : Int32)) (q20.2) hf
              · replace hf := (if_pos c22).symm.trans hf
                refine xk_iconst (v := (1 : Int32)) hC dL_law_1145 (by decide) ?_
                refine xk_goto (tgt := 1150) hC dL_law_1146 (by decide) ?_
                refine xk_locals [] rfl ?_
                refine xk_widen (k := 3051) (n := 190500) (by omega) (by omega) ?_
                exact t_L_law_1150 hC hr hz hq ((1 : Int32)) (q20.2) hf
            · replace hf := (if_neg c19).symm.trans hf
              refine xk_locals [] rfl ?_
              refine xk_widen (k := 2631) (n := 163620) (by omega) (by omega) ?_
              exact t_L_law_1133 hC hr hz hq (q17.2) hf
    · replace hf := (if_neg c3).symm.trans hf
      refine xk_aload_n hC dL_law_962 0 rfl rfl ?_
      refine xk_aload_n hC dL_law_963 2 rfl rfl ?_
      refine xk_iload hC dL_law_964 4 rfl ?_
      obtain ⟨v23, h23, hf⟩ := xk_bi hf
      refine xk_iald hC rfl dL_law_966 h23 ?_
      refine xk_iconst (v := (5 : Int32)) hC dL_law_967 (by decide) ?_
      obtain ⟨u25, h25, hf⟩ := xk_bi hf
      obtain ⟨q24, h24, hf⟩ := xk_bi hf
      refine xk_backi (xk_callV hC 2 xc_0 (c_X4_ofCue h24) h25 xm_503 xm_504 xm_505 xm_1 xm_506 ⟨rfl, xd_X4_ofCue⟩ rfl ⟨Nat.le_of_ble_eq_true rfl, Nat.le_of_ble_eq_true rfl⟩ rfl (Nat.le_of_ble_eq_true rfl) dL_law_968 ⟨(by show _ ≤ 661985; omega), (by show _ ≤ 7115744; omega)⟩) ?_
      refine xk_aload_n hC dL_law_971 1 rfl rfl ?_
      refine xk_iload hC dL_law_972 4 rfl ?_
      obtain ⟨v26, h26, hf⟩ := xk_bi hf
      refine xk_iald hC rfl dL_law_974 h26 ?_
      refine xk_icmp_ne (tgt := 982) hC dL_law_975 (by decide) (fun c27 => ?_) (fun c27 => ?_)
      · replace hf := (if_neg c27).symm.trans hf
        refine xk_iconst (v := (0 : Int32)) hC dL_law_982 (by decide) ?_
        exact t_L_law_983 hC hr hz hq (by omega) (by omega) (by omega) (by omega) (fun x1 x2 x3 x5 x6 w hf => ih x1 x2 x3 x5 x6 w (kc + 42) (ks + 2688) (by omega) (by omega) hf) x1 x2 x3 x5 x6 ((0 : Int32)) (q24.2) hf
      · replace hf := (if_pos c27).symm.trans hf
        refine xk_iconst (v := (1 : Int32)) hC dL_law_978 (by decide) ?_
        refine xk_goto (tgt := 983) hC dL_law_979 (by decide) ?_
        exact t_L_law_983 hC hr hz hq (by omega) (by omega) (by omega) (by omega) (fun x1 x2 x3 x5 x6 w hf => ih x1 x2 x3 x5 x6 w (kc + 42) (ks + 2688) (by omega) (by omega) hf) x1 x2 x3 x5 x6 ((1 : Int32)) (q24.2) hf
def f_L_law_210 : Nat → Option Nat → Option Nat → Option Nat → Option Nat → Int32 → Int32 → xWd → Option (Int32 × xWd)
  | 0, _, _, _, _, _, _, _ => none
  | n + 1, x0, x1, x2, x3, x4, x5, w => if ((44 : Int32)) ≤ (x5) then f_L_law_951 41 x1 x2 x3 ((0 : Int32)) ((0 : Int32)) w else (xk_nz ((16 : Int32))).bind (fun u2 => (f_L_cell (x0) ((x5) - (x5) / ((16 : Int32)) * ((16 : Int32))) w).bind (fun q3 => (xk_nz ((16 : Int32))).bind (fun u4 => (f_L_cell (x0) (((((7 : Int32)) * (x5)) + ((3 : Int32))) - ((((7 : Int32)) * (x5)) + ((3 : Int32))) / ((16 : Int32)) * ((16 : Int32))) q3.2).bind (fun q5 => (f_L_below ((q5.1) + (((5 : Int32)) * (x5))) ((4 : Int32)) q5.2).bind (fun q6 => (xk_is q6.2 (x1) 0).bind (fun u8 => (f_X4_ofCue (x1) (q6.1) ((6 : Int32)) q6.2).bind (fun q7 => (xk_is q7.2 (x1) 0).bind (fun u10 => (f_X4_ofCue (x1) (q6.1) ((5 : Int32)) q7.2).bind (fun q9 => (xk_is q9.2 (x1) 0).bind (fun u12 => (f_X4_many (x1) ((10 : Int32)) q9.2).bind (fun q11 => (f_L_below ((q3.1) + (((31 : Int32)) * (x5))) ((16 : Int32)) q11.2).bind (fun q13 => if (q13.1) = (0 : Int32) then f_L_law_348 (f_L_law_210 n) x0 x1 x2 x3 x4 x5 ((q3.1) + (((31 : Int32)) * (x5))) ((q5.1) + (((5 : Int32)) * (x5))) (q6.1) (q7.1) (q9.1) (q13.2) else (if (q13.1) = (1 : Int32) then f_L_law_348 (f_L_law_210 n) x0 x1 x2 x3 x4 x5 ((q3.1) + (((31 : Int32)) * (x5))) ((q5.1) + (((5 : Int32)) * (x5))) (q6.1) (q7.1) (q9.1) (q13.2) else (if (q13.1) = (2 : Int32) then (f_L_below (((q5.1) + (((5 : Int32)) * (x5))) >>> (((3 : Int32)) &&& 31)) (q7.1) q13.2).bind (fun q17 => (f_L_below ((q5.1) + (((5 : Int32)) * (x5))) ((6 : Int32)) q17.2).bind (fun q18 => (f_L_below (((q3.1) + (((31 : Int32)) * (x5))) >>> (((1 : Int32)) &&& 31)) ((137 : Int32)) q18.2).bind (fun q19 => (xk_is q19.2 (x1) 0).bind (fun u21 => (f_X4_retime (x1) (q6.1) (q17.1) (((2 : Int32)) + (q18.1)) (((24 : Int32)) + (q19.1)) q19.2).bind (fun q20 => (xk_is q20.2 (x1) 0).bind (fun u23 => (f_X4_ofCue (x1) (q6.1) ((8 : Int32)) q20.2).bind (fun q22 => if (q20.1) = (q22.1) then (xk_is q22.2 (x1) 0).bind (fun u26 => (f_X4_ofCue (x1) (q6.1) ((5 : Int32)) q22.2).bind (fun q25 => if (q25.1) = ((q9.1) + ((1 : Int32))) then f_L_law_930 (f_L_law_210 n) x0 x1 x2 x3 x4 x5 (q25.2) else f_L_law_477 (q25.2))) else f_L_law_477 (q22.2)))))))) else (if (q13.1) = (3 : Int32) then (xk_is q13.2 (x1) 0).bind (fun u30 => (f_X4_many (x1) ((0 : Int32)) q13.2).bind (fun q29 => (f_L_below (((q3.1) + (((31 : Int32)) * (x5))) * ((3 : Int32))) ((q29.1) + ((1 : Int32))) q29.2).bind (fun q31 => (xk_is q31.2 (x1) 0).bind (fun u33 => (f_X4_shift (x1) (q6.1) (q31.1) q31.2).bind (fun q32 => (xk_is q32.2 (x1) 0).bind (fun u35 => (f_X4_many (x1) ((4 : Int32)) q32.2).bind (fun q34 => if (q32.1) = (q34.1) then (xk_is q34.2 (x1) 0).bind (fun u38 => (f_X4_ofCue (x1) (q6.1) ((5 : Int32)) q34.2).bind (fun q37 => if (q37.1) = (q9.1) then f_L_law_930 (f_L_law_210 n) x0 x1 x2 x3 x4 x5 (q37.2) else f_L_law_519 (q37.2))) else f_L_law_519 (q34.2)))))))) else (if (q13.1) = (4 : Int32) then f_L_law_521 (f_L_law_210 n) x0 x1 x2 x3 x4 x5 ((q3.1) + (((31 : Int32)) * (x5))) ((q5.1) + (((5 : Int32)) * (x5))) (q13.2) else (if (q13.1) = (5 : Int32) then f_L_law_521 (f_L_law_210 n) x0 x1 x2 x3 x4 x5 ((q3.1) + (((31 : Int32)) * (x5))) ((q5.1) + (((5 : Int32)) * (x5))) (q13.2) else (if (q13.1) = (6 : Int32) then (xk_is q13.2 (x1) 0).bind (fun u44 => (f_X4_bestStart (x1) (q6.1) q13.2).bind (fun q43 => (xk_is q43.2 (x1) 0).bind (fun u46 => (f_X4_many (x1) ((4 : Int32)) q43.2).bind (fun q45 => (xk_is q45.2 (x1) 0).bind (fun u48 => (f_X4_ofCue (x1) (q6.1) ((0 : Int32)) q45.2).bind (fun q47 => if ((24 : Int32)) < (if 0 ≤ ((q43.1) - (q47.1)) then ((q43.1) - (q47.1)) else 0 - ((q43.1) - (q47.1))) then f_L_law_632 (q47.2) else (xk_is q47.2 (x1) 0).bind (fun u51 => (f_X4_shift (x1) (q6.1) (q43.1) q47.2).bind (fun q50 => if (q50.1) < (q45.1) then f_L_law_632 (q50.2) else if (q43.1) = (q47.1) then f_L_law_930 (f_L_law_210 n) x0 x1 x2 x3 x4 x5 (q50.2) else (xk_is q50.2 (x1) 0).bind (fun u55 => (f_X4_many (x1) ((4 : Int32)) q50.2).bind (fun q54 => if (q54.1) = (q45.1) then f_L_law_632 (q54.2) else f_L_law_930 (f_L_law_210 n) x0 x1 x2 x3 x4 x5 (q54.2))))))))))) else (if (q13.1) = (7 : Int32) then (xk_is q13.2 (x1) 0).bind (fun u59 => (f_X4_many (x1) ((12 : Int32)) q13.2).bind (fun q58 => if (q58.1) = ((0 : Int32)) then (f_L_below (((q5.1) + (((5 : Int32)) * (x5))) >>> (((3 : Int32)) &&& 31)) ((56 : Int32)) q58.2).bind (fun q64 => (xk_is q64.2 (x1) 0).bind (fun u66 => (f_X4_open (x1) (((5 : Int32)) + (q64.1)) q64.2).bind (fun q65 => if (q65.1) = (q11.1) then f_L_law_930 (f_L_law_210 n) x0 x1 x2 x3 x4 x5 (q65.2) else f_L_law_677 (q65.2)))) else (xk_is q58.2 (x1) 0).bind (fun u62 => (f_X4_many (x1) ((13 : Int32)) q58.2).bind (fun q61 => if (q61.1) ≤ ((120 : Int32)) then f_L_law_930 (f_L_law_210 n) x0 x1 x2 x3 x4 x5 (q61.2) else f_L_law_677 (q61.2))))) else (if (q13.1) = (8 : Int32) then (xk_is q13.2 (x1) 0).bind (fun u70 => (f_X4_many (x1) ((12 : Int32)) q13.2).bind (fun q69 => if (q69.1) = ((0 : Int32)) then f_L_law_930 (f_L_law_210 n) x0 x1 x2 x3 x4 x5 (q69.2) else (f_L_below (((q5.1) + (((5 : Int32)) * (x5))) >>> (((4 : Int32)) &&& 31)) ((2 : Int32)) q69.2).bind (fun q72 => if (q72.1) = ((0 : Int32)) then f_L_law_930 (f_L_law_210 n) x0 x1 x2 x3 x4 x5 (q72.2) else (xk_is q72.2 (x1) 0).bind (fun u75 => (f_X4_many (x1) ((13 : Int32)) q72.2).bind (fun q74 => (xk_nz ((15 : Int32))).bind (fun u76 => (xk_is q74.2 (x1) 0).bind (fun u78 => (f_X4_many (x1) ((12 : Int32)) q74.2).bind (fun q77 => (xk_is q77.2 (x1) 0).bind (fun u80 => (f_X4_close (x1)  q77.2).bind (fun q79 => if (q79.1) = ((q77.1) * ((((4 : Int32)) * (((q74.1) + ((14 : Int32))) / ((15 : Int32)))) + (((2 : Int32)) * (if ((0 : Int32)) < ((((q74.1) + ((14 : Int32))) / ((15 : Int32))) - ((4 : Int32))) then ((((q74.1) + ((14 : Int32))) / ((15 : Int32))) - ((4 : Int32))) else ((0 : Int32)))))) then (xk_is q79.2 (x1) 0).bind (fun u83 => (f_X4_many (x1) ((14 : Int32)) q79.2).bind (fun q82 => if (q82.1) = ((x4) + ((q77.1) * ((((4 : Int32)) * (((q74.1) + ((14 : Int32))) / ((15 : Int32)))) + (((2 : Int32)) * (if ((0 : Int32)) < ((((q74.1) + ((14 : Int32))) / ((15 : Int32))) - ((4 : Int32))) then ((((q74.1) + ((14 : Int32))) / ((15 : Int32))) - ((4 : Int32))) else ((0 : Int32))))))) then f_L_law_930 (f_L_law_210 n) x0 x1 x2 x3 ((x4) + ((q77.1) * ((((4 : Int32)) * (((q74.1) + ((14 : Int32))) / ((15 : Int32)))) + (((2 : Int32)) * (if ((0 : Int32)) < ((((q74.1) + ((14 : Int32))) / ((15 : Int32))) - ((4 : Int32))) then ((((q74.1) + ((14 : Int32))) / ((15 : Int32))) - ((4 : Int32))) else ((0 : Int32))))))) x5 (q82.2) else f_L_law_767 (q82.2))) else f_L_law_767 (q79.2))))))))))) else ((xk_is q13.2 (x1) 0).bind (fun u86 => (f_X4_many (x1) ((12 : Int32)) q13.2).bind (fun q85 => (xk_is q85.2 (x1) 0).bind (fun u88 => (f_X4_ofCue (x1) (q6.1) ((2 : Int32)) q85.2).bind (fun q87 => if (q85.1) < (q87.1) then f_L_law_930 (f_L_law_210 n) x0 x1 x2 x3 x4 x5 (q87.2) else (xk_is q87.2 (x1) 0).bind (fun u91 => (f_X4_many (x1) ((13 : Int32)) q87.2).bind (fun q90 => if ((110 : Int32)) < (q90.1) then f_L_law_930 (f_L_law_210 n) x0 x1 x2 x3 x4 x5 (q90.2) else if (q11.1) = ((40 : Int32)) then f_L_law_930 (f_L_law_210 n) x0 x1 x2 x3 x4 x5 (q90.2) else f_L_law_812 (f_L_law_210 n) 4096 x0 x1 x2 x3 x4 x5 ((q3.1) + (((31 : Int32)) * (x5))) ((q5.1) + (((5 : Int32)) * (x5))) (q6.1) (q7.1) (q9.1) (q11.1) ((0 : Int32)) ((0 : Int32)) (q90.2))))))))))))))))))))))))))))
set_option maxHeartbeats 4000000 in
set_option maxRecDepth 100000 in
theorem t_L_law_210 {p : Program} {l : Launch} {e : Env} {s : State} {m : MethodId} {b : Nat} {below : List Frame} {meth : Method} {c : Code} {E : xEv} (hC : xk_C p (s.setDrawn s.drawn) m #[Value.ref b] meth c E code "ClickbookLaw" 19) (hr : meth.sig.returnType = ret) (hz : E.2.2.1 = s.heap.size) {q : (Int32 × xWd)} (hq : q.1 = 1) : ∀ (n : Nat) (x0 : Option Nat) (x1 : Option Nat) (x2 : Option Nat) (x3 : Option Nat) (x4 : Int32) (x5 : Int32) (w : xWd) (kc ks : Nat), kc + n * 3 ≤ 444 → ks + n * 192 ≤ 23652 → f_L_law_210 n x0 x1 x2 x3 x4 x5 w = some q → xk_X p l e room_1 (s.setDrawn s.drawn) m #[Value.ref b] below meth c (lw_Z below #[Value.ref b] s) E 19 kc ks 210 [(0, va_rf (x0)), (1, va_rf (x1)), (2, va_rf (x2)), (3, va_rf (x3)), (4, .int (x4)), (5, .int (x5))] [] w := by
  intro n
  induction n with
  | zero => intro x0 x1 x2 x3 x4 x5 w kc ks hkc hks hf; have hf : none = some q := hf; cases hf
  | succ n ih =>
    intro x0 x1 x2 x3 x4 x5 w kc ks hkc hks hf
    rw [Nat.succ_mul] at hkc hks
    refine xk_iload hC dL_law_210 5 rfl ?_
    refine xk_bipush (v := (44 : Int32)) hC dL_law_212 (by decide) ?_
    refine xk_icmp_ge (tgt := 945) hC dL_law_214 (by decide) (fun c1 => ?_) (fun c1 => ?_)
    · replace hf := (if_pos c1).symm.trans hf
      refine xk_iconst (v := (0 : Int32)) hC dL_law_945 (by decide) ?_
      refine xk_istore (i := 5) (lv' := [(5, .int ((0 : Int32))), (0, va_rf (x0)), (1, va_rf (x1)), (2, va_rf (x2)), (3, va_rf (x3)), (4, .int (x4))]) hC dL_law_946 (by decide) rfl ?_
      refine xk_iconst (v := (0 : Int32)) hC dL_law_948 (by decide) ?_
      refine xk_istore (i := 6) (lv' := [(6, .int ((0 : Int32))), (5, .int ((0 : Int32))), (0, va_rf (x0)), (1, va_rf (x1)), (2, va_rf (x2)), (3, va_rf (x3)), (4, .int (x4))]) hC dL_law_949 (by decide) rfl ?_
      refine xk_locals [3, 4, 5, 1, 0] rfl ?_
      refine xk_widen (k := 447) (n := 23844) (by omega) (by omega) ?_
      exact t_L_law_951 hC hr hz hq 41 x1 x2 x3 ((0 : Int32)) ((0 : Int32)) w _ _ (Nat.le_of_ble_eq_true rfl) (Nat.le_of_ble_eq_true rfl) hf
    · replace hf := (if_neg c1).symm.trans hf
      refine xk_aload_n hC dL_law_217 0 rfl rfl ?_
      refine xk_iload hC dL_law_218 5 rfl ?_
      refine xk_bipush (v := (16 : Int32)) hC dL_law_220 (by decide) ?_
      obtain ⟨u2, h2, hf⟩ := xk_bi hf
      refine xk_irem hC dL_law_222 (xk_nz_e h2) ?_
      obtain ⟨q3, h3, hf⟩ := xk_bi hf
      refine xk_backi (xk_callS hC 2 (c_L_cell h3) xm_738 xm_739 xm_0 xm_740 xd_L_cell rfl ⟨Nat.le_of_ble_eq_true rfl, Nat.le_of_ble_eq_true rfl⟩ rfl (Nat.le_of_ble_eq_true rfl) dL_law_223 ⟨(by show _ ≤ 661985; omega), (by show _ ≤ 7115744; omega)⟩) ?_
      refine xk_bipush (v := (31 : Int32)) hC dL_law_226 (by decide) ?_
      refine xk_iload hC dL_law_228 5 rfl ?_
      refine xk_imul hC dL_law_230 ?_
      refine xk_iadd hC dL_law_231 ?_
      refine xk_istore (i := 6) (lv' := [(6, .int ((q3.1) + (((31 : Int32)) * (x5)))), (0, va_rf (x0)), (1, va_rf (x1)), (2, va_rf (x2)), (3, va_rf (x3)), (4, .int (x4)), (5, .int (x5))]) hC dL_law_232 (by decide) rfl ?_
      refine xk_aload_n hC dL_law_234 1 rfl rfl ?_
      refine xk_bipush (v := (7 : Int32)) hC dL_law_235 (by decide) ?_
      refine xk_iload hC dL_law_237 6 rfl ?_
      refine xk_imul hC dL_law_239 ?_
      refine xk_iconst (v := (3 : Int32)) hC dL_law_240 (by decide) ?_
      refine xk_iadd hC dL_law_241 ?_
      refine xk_bipush (v := (16 : Int32)) hC dL_law_242 (by decide) ?_
      obtain ⟨u4, h4, hf⟩ := xk_bi hf
      refine xk_irem hC dL_law_244 (xk_nz_e h4) ?_
      obtain ⟨q5, h5, hf⟩ := xk_bi hf
      refine xk_backi (xk_callS hC 2 (c_L_cell h5) xm_738 xm_739 xm_0 xm_740 xd_L_cell rfl ⟨Nat.le_of_ble_eq_true rfl, Nat.le_of_ble_eq_true rfl⟩ rfl (Nat.le_of_ble_eq_true rfl) dL_law_245 ⟨(by show _ ≤ 661985; omega), (by show _ ≤ 7115744; omega)⟩) ?_
      refine xk_iconst (v := (5 : Int32)) hC dL_law_248 (by decide) ?_
      refine xk_iload hC dL_law_249 6 rfl ?_
      refine xk_imul hC dL_law_251 ?_
      refine xk_iadd hC dL_law_252 ?_
      refine xk_istore (i := 7) (lv' := [(7, .int ((q5.1) + (((5 : Int32)) * (x5)))), (6, .int ((q3.1) + (((31 : Int32)) * (x5)))), (0, va_rf (x0)), (1, va_rf (x1)), (2, va_rf (x2)), (3, va_rf (x3)), (4, .int (x4)), (5, .int (x5))]) hC dL_law_253 (by decide) rfl ?_
      refine xk_iload hC dL_law_255 0 rfl ?_
      refine xk_iconst (v := (4 : Int32)) hC dL_law_257 (by decide) ?_
      obtain ⟨q6, h6, hf⟩ := xk_bi hf
      refine xk_backi (xk_callS hC 2 (c_L_below h6) xm_734 xm_735 xm_0 xm_736 xd_L_below rfl ⟨Nat.le_of_ble_eq_true rfl, Nat.le_of_ble_eq_true rfl⟩ rfl (Nat.le_of_ble_eq_true rfl) dL_law_258 ⟨(by show _ ≤ 661985; omega), (by show _ ≤ 7115744; omega)⟩) ?_
      refine xk_istore (i := 8) (lv' := [(8, .int (q6.1)), (7, .int ((q5.1) + (((5 : Int32)) * (x5)))), (6, .int ((q3.1) + (((31 : Int32)) * (x5)))), (0, va_rf (x0)), (1, va_rf (x1)), (2, va_rf (x2)), (3, va_rf (x3)), (4, .int (x4)), (5, .int (x5))]) hC dL_law_261 (by decide) rfl ?_
      refine xk_aload_n hC dL_law_263 4 rfl rfl ?_
      refine xk_iload hC dL_law_264 0 rfl ?_
      refine xk_bipush (v := (6 : Int32)) hC dL_law_266 (by decide) ?_
      obtain ⟨u8, h8, hf⟩ := xk_bi hf
      obtain ⟨q7, h7, hf⟩ := xk_bi hf
      refine xk_backi (xk_callV hC 2 xc_0 (c_X4_ofCue h7) h8 xm_503 xm_504 xm_505 xm_1 xm_506 ⟨rfl, xd_X4_ofCue⟩ rfl ⟨Nat.le_of_ble_eq_true rfl, Nat.le_of_ble_eq_true rfl⟩ rfl (Nat.le_of_ble_eq_true rfl) dL_law_268 ⟨(by show _ ≤ 661985; omega), (by show _ ≤ 7115744; omega)⟩) ?_
      refine xk_istore (i := 9) (lv' := [(9, .int (q7.1)), (8, .int (q6.1)), (7, .int ((q5.1) + (((5 : Int32)) * (x5)))), (6, .int ((q3.1) + (((31 : Int32)) * (x5)))), (0, va_rf (x0)), (1, va_rf (x1)), (2, va_rf (x2)), (3, va_rf (x3)), (4, .int (x4)), (5, .int (x5))]) hC dL_law_271 (by decide) rfl ?_
      refine xk_aload_n hC dL_law_273 5 rfl rfl ?_
      refine xk_iload hC dL_law_274 1 rfl ?_
      refine xk_iconst (v := (5 : Int32)) hC dL_law_276 (by decide) ?_
      obtain ⟨u10, h10, hf⟩ := xk_bi hf
      obtain ⟨q9, h9, hf⟩ := xk_bi hf
      refine xk_backi (xk_callV hC 2 xc_0 (c_X4_ofCue h9) h10 xm_503 xm_504 xm_505 xm_1 xm_506 ⟨rfl, xd_X4_ofCue⟩ rfl ⟨Nat.le_of_ble_eq_true rfl, Nat.le_of_ble_eq_true rfl⟩ rfl (Nat.le_of_ble_eq_true rfl) dL_law_277 ⟨(by show _ ≤ 661985; omega), (by show _ ≤ 7115744; omega)⟩) ?_
      refine xk_istore (i := 10) (lv' := [(10, .int (q9.1)), (9, .int (q7.1)), (8, .int (q6.1)), (7, .int ((q5.1) + (((5 : Int32)) * (x5)))), (6, .int ((q3.1) + (((31 : Int32)) * (x5)))), (0, va_rf (x0)), (1, va_rf (x1)), (2, va_rf (x2)), (3, va_rf (x3)), (4, .int (x4)), (5, .int (x5))]) hC dL_law_280 (by decide) rfl ?_
      refine xk_aload_n hC dL_law_282 6 rfl rfl ?_
      refine xk_bipush (v := (10 : Int32)) hC dL_law_283 (by decide) ?_
      obtain ⟨u12, h12, hf⟩ := xk_bi hf
      obtain ⟨q11, h11, hf⟩ := xk_bi hf
      refine xk_backi (xk_callV hC 1 xc_0 (c_X4_many h11) h12 xm_542 xm_543 xm_544 xm_1 xm_545 ⟨rfl, xd_X4_many⟩ rfl ⟨Nat.le_of_ble_eq_true rfl, Nat.le_of_ble_eq_true rfl⟩ rfl (Nat.le_of_ble_eq_true rfl) dL_law_285 ⟨(by show _ ≤ 661985; omega), (by show _ ≤ 7115744; omega)⟩) ?_
      refine xk_istore (i := 11) (lv' := [(11, .int (q11.1)), (10, .int (q9.1)), (9, .int (q7.1)), (8, .int (q6.1)), (7, .int ((q5.1) + (((5 : Int32)) * (x5)))), (6, .int ((q3.1) + (((31 : Int32)) * (x5)))), (0, va_rf (x0)), (1, va_rf (x1)), (2, va_rf (x2)), (3, va_rf (x3)), (4, .int (x4)), (5, .int (x5))]) hC dL_law_288 (by decide) rfl ?_
      refine xk_iload hC dL_law_290 5 rfl ?_
      refine xk_bipush (v := (16 : Int32)) hC dL_law_292 (by decide) ?_
      obtain ⟨q13, h13, hf⟩ := xk_bi hf
      refine xk_backi (xk_callS hC 2 (c_L_below h13) xm_734 xm_735 xm_0 xm_736 xd_L_below rfl ⟨Nat.le_of_ble_eq_true rfl, Nat.le_of_ble_eq_true rfl⟩ rfl (Nat.le_of_ble_eq_true rfl) dL_law_294 ⟨(by show _ ≤ 661985; omega), (by show _ ≤ 7115744; omega)⟩) ?_
      by_cases c14 : (q13.1) = (0 : Int32)
      · replace hf := (if_pos c14).symm.trans hf
        refine xk_tableIn (tgt := 348) hC dL_law_297 (by rw [c14]; decide) (by rw [c14]; decide) (off := 51) (by rw [c14]; rfl) (by decide) ?_
        refine xk_locals [6, 7, 8, 9, 10, 11, 5, 4, 3, 2, 1] rfl ?_
        exact t_L_law_348 hC hr hz hq (by omega) (by omega) (by omega) (by omega) (fun x0 x1 x2 x3 x4 x5 w hf => ih x0 x1 x2 x3 x4 x5 w (kc + 3) (ks + 192) (by omega) (by omega) hf) x0 x1 x2 x3 x4 x5 ((q3.1) + (((31 : Int32)) * (x5))) ((q5.1) + (((5 : Int32)) * (x5))) (q6.1) (q7.1) (q9.1) (q13.2) hf
      · replace hf := (if_neg c14).symm.trans hf
        by_cases c15 : (q13.1) = (1 : Int32)
        · replace hf := (if_pos c15).symm.trans hf
          refine xk_tableIn (tgt := 348) hC dL_law_297 (by rw [c15]; decide) (by rw [c15]; decide) (off := 51) (by rw [c15]; rfl) (by decide) ?_
          refine xk_locals [6, 7, 8, 9, 10, 11, 5, 4, 3, 2, 1] rfl ?_
          exact t_L_law_348 hC hr hz hq (by omega) (by omega) (by omega) (by omega) (fun x0 x1 x2 x3 x4 x5 w hf => ih x0 x1 x2 x3 x4 x5 w (kc + 3) (ks + 192) (by omega) (by omega) hf) x0 x1 x2 x3 x4 x5 ((q3.1) + (((31 : Int32)) * (x5))) ((q5.1) + (((5 : Int32)) * (x5))) (q6.1) (q7.1) (q9.1) (q13.2) hf
        · replace hf := (if_neg c15).symm.trans hf
          by_cases c16 : (q13.1) = (2 : Int32)
          · replace hf := (if_pos c16).symm.trans hf
            refine xk_tableIn (tgt := 415) hC dL_law_297 (by rw [c16]; decide) (by rw [c16]; decide) (off := 118) (by rw [c16]; rfl) (by decide) ?_
            refine xk_aload_n hC dL_law_415 7 rfl rfl ?_
            refine xk_iload hC dL_law_416 3 rfl ?_
            refine xk_iload hC dL_law_418 4 rfl ?_
            refine xk_iconst (v := (3 : Int32)) hC dL_law_420 (by decide) ?_
            refine xk_ishr hC dL_law_421 ?_
            refine xk_iload hC dL_law_422 2 rfl ?_
            obtain ⟨q17, h17, hf⟩ := xk_bi hf
            refine xk_backi (xk_callS hC 2 (c_L_below h17) xm_734 xm_735 xm_0 xm_736 xd_L_below rfl ⟨Nat.le_of_ble_eq_true rfl, Nat.le_of_ble_eq_true rfl⟩ rfl (by simp [xk_cat1, xk_cati, xk_catl, xk_catd]) dL_law_424 ⟨(by show _ ≤ 661985; omega), (by show _ ≤ 7115744; omega)⟩) ?_
            refine xk_iconst (v := (2 : Int32)) hC dL_law_427 (by decide) ?_
            refine xk_iload hC dL_law_428 4 rfl ?_
            refine xk_bipush (v := (6 : Int32)) hC dL_law_430 (by decide) ?_
            obtain ⟨q18, h18, hf⟩ := xk_bi hf
            refine xk_backi (xk_callS hC 2 (c_L_below h18) xm_734 xm_735 xm_0 xm_736 xd_L_below rfl ⟨Nat.le_of_ble_eq_true rfl, Nat.le_of_ble_eq_true rfl⟩ rfl (by simp [xk_cat1, xk_cati, xk_catl, xk_catd]) dL_law_432 ⟨(by show _ ≤ 661985; omega), (by show _ ≤ 7115744; omega)⟩) ?_
            refine xk_iadd hC dL_law_435 ?_
            refine xk_bipush (v := (24 : Int32)) hC dL_law_436 (by decide) ?_
            refine xk_iload hC dL_law_438 5 rfl ?_
            refine xk_iconst (v := (1 : Int32)) hC dL_law_440 (by decide) ?_
            refine xk_ishr hC dL_law_441 ?_
            refine xk_sipush (v := (137 : Int32)) hC dL_law_442 (by decide) ?_
            obtain ⟨q19, h19, hf⟩ := xk_bi hf
            refine xk_backi (xk_callS hC 2 (c_L_below h19) xm_734 xm_735 xm_0 xm_736 xd_L_below rfl ⟨Nat.le_of_ble_eq_true rfl, Nat.le_of_ble_eq_true rfl⟩ rfl (by simp [xk_cat1, xk_cati, xk_catl, xk_catd]) dL_law_445 ⟨(by show _ ≤ 661985; omega), (by show _ ≤ 7115744; omega)⟩) ?_
            refine xk_iadd hC dL_law_448 ?_
            obtain ⟨u21, h21, hf⟩ := xk_bi hf
            obtain ⟨q20, h20, hf⟩ := xk_bi hf
            refine xk_backi (xk_callV hC 4 xc_0 (c_X4_retime h20) h21 xm_415 xm_416 xm_417 xm_1 xm_418 ⟨rfl, xd_X4_retime⟩ rfl ⟨Nat.le_of_ble_eq_true rfl, Nat.le_of_ble_eq_true rfl⟩ rfl (Nat.le_of_ble_eq_true rfl) dL_law_449 ⟨(by show _ ≤ 661985; omega), (by show _ ≤ 7115744; omega)⟩) ?_
            refine xk_aload_n hC dL_law_452 7 rfl rfl ?_
            refine xk_iload hC dL_law_453 3 rfl ?_
            refine xk_bipush (v := (8 : Int32)) hC dL_law_455 (by decide) ?_
            obtain ⟨u23, h23, hf⟩ := xk_bi hf
            obtain ⟨q22, h22, hf⟩ := xk_bi hf
            refine xk_backi (xk_callV hC 2 xc_0 (c_X4_ofCue h22) h23 xm_503 xm_504 xm_505 xm_1 xm_506 ⟨rfl, xd_X4_ofCue⟩ rfl ⟨Nat.le_of_ble_eq_true rfl, Nat.le_of_ble_eq_true rfl⟩ rfl (Nat.le_of_ble_eq_true rfl) dL_law_457 ⟨(by show _ ≤ 661985; omega), (by show _ ≤ 7115744; omega)⟩) ?_
            refine xk_icmp_ne (tgt := 477) hC dL_law_460 (by decide) (fun c24 => ?_) (fun c24 => ?_)
            · replace hf := (if_neg c24).symm.trans hf
              refine xk_locals [] rfl ?_
              refine xk_widen (k := 447) (n := 23844) (by omega) (by omega) ?_
              exact t_L_law_477 hC hr hz hq (q22.2) hf
            · replace hf := (if_pos c24).symm.trans hf
              refine xk_aload_n hC dL_law_463 7 rfl rfl ?_
              refine xk_iload hC dL_law_464 3 rfl ?_
              refine xk_iconst (v := (5 : Int32)) hC dL_law_466 (by decide) ?_
              obtain ⟨u26, h26, hf⟩ := xk_bi hf
              obtain ⟨q25, h25, hf⟩ := xk_bi hf
              refine xk_backi (xk_callV hC 2 xc_0 (c_X4_ofCue h25) h26 xm_503 xm_504 xm_505 xm_1 xm_506 ⟨rfl, xd_X4_ofCue⟩ rfl ⟨Nat.le_of_ble_eq_true rfl, Nat.le_of_ble_eq_true rfl⟩ rfl (Nat.le_of_ble_eq_true rfl) dL_law_467 ⟨(by show _ ≤ 661985; omega), (by show _ ≤ 7115744; omega)⟩) ?_
              refine xk_iload hC dL_law_470 1 rfl ?_
              refine xk_iconst (v := (1 : Int32)) hC dL_law_472 (by decide) ?_
              refine xk_iadd hC dL_law_473 ?_
              refine xk_icmp_eq (tgt := 930) hC dL_law_474 (by decide) (fun c27 => ?_) (fun c27 => ?_)
              · replace hf := (if_pos c27).symm.trans hf
                refine xk_locals [6, 7, 8, 9, 10, 11] rfl ?_
                exact t_L_law_930 hC hr hz hq (by omega) (by omega) (by omega) (by omega) (fun x0 x1 x2 x3 x4 x5 w hf => ih x0 x1 x2 x3 x4 x5 w (kc + 3) (ks + 192) (by omega) (by omega) hf) x0 x1 x2 x3 x4 x5 (q25.2) hf
              · replace hf := (if_neg c27).symm.trans hf
                refine xk_locals [] rfl ?_
                refine xk_widen (k := 447) (n := 23844) (by omega) (by omega) ?_
                exact t_L_law_477 hC hr hz hq (q25.2) hf
          · replace hf := (if_neg c16).symm.trans hf
            by_cases c28 : (q13.1) = (3 : Int32)
            · replace hf := (if_pos c28).symm.trans hf
              refine xk_tableIn (tgt := 479) hC dL_law_297 (by rw [c28]; decide) (by rw [c28]; decide) (off := 182) (by rw [c28]; rfl) (by decide) ?_
              refine xk_aload_n hC dL_law_479 7 rfl rfl ?_
              refine xk_iload hC dL_law_480 3 rfl ?_
              refine xk_iload hC dL_law_482 5 rfl ?_
              refine xk_iconst (v := (3 : Int32)) hC dL_law_484 (by decide) ?_
              refine xk_imul hC dL_law_485 ?_
              refine xk_aload_n hC dL_law_486 7 rfl rfl ?_
              refine xk_iconst (v := (0 : Int32)) hC dL_law_487 (by decide) ?_
              obtain ⟨u30, h30, hf⟩ := xk_bi hf
              obtain ⟨q29, h29, hf⟩ := xk_bi hf
              refine xk_backi (xk_callV hC 1 xc_0 (c_X4_many h29) h30 xm_542 xm_543 xm_544 xm_1 xm_545 ⟨rfl, xd_X4_many⟩ rfl ⟨Nat.le_of_ble_eq_true rfl, Nat.le_of_ble_eq_true rfl⟩ rfl (by simp [xk_cat1, xk_cati, xk_catl, xk_catd]) dL_law_488 ⟨(by show _ ≤ 661985; omega), (by show _ ≤ 7115744; omega)⟩) ?_
              refine xk_iconst (v := (1 : Int32)) hC dL_law_491 (by decide) ?_
              refine xk_iadd hC dL_law_492 ?_
              obtain ⟨q31, h31, hf⟩ := xk_bi hf
              refine xk_backi (xk_callS hC 2 (c_L_below h31) xm_734 xm_735 xm_0 xm_736 xd_L_below rfl ⟨Nat.le_of_ble_eq_true rfl, Nat.le_of_ble_eq_true rfl⟩ rfl (by simp [xk_cat1, xk_cati, xk_catl, xk_catd]) dL_law_493 ⟨(by show _ ≤ 661985; omega), (by show _ ≤ 7115744; omega)⟩) ?_
              obtain ⟨u33, h33, hf⟩ := xk_bi hf
              obtain ⟨q32, h32, hf⟩ := xk_bi hf
              refine xk_backi (xk_callV hC 2 xc_0 (c_X4_shift h32) h33 xm_427 xm_428 xm_429 xm_1 xm_430 ⟨rfl, xd_X4_shift⟩ rfl ⟨Nat.le_of_ble_eq_true rfl, Nat.le_of_ble_eq_true rfl⟩ rfl (Nat.le_of_ble_eq_true rfl) dL_law_496 ⟨(by show _ ≤ 661985; omega), (by show _ ≤ 7115744; omega)⟩) ?_
              refine xk_aload_n hC dL_law_499 7 rfl rfl ?_
              refine xk_iconst (v := (4 : Int32)) hC dL_law_500 (by decide) ?_
              obtain ⟨u35, h35, hf⟩ := xk_bi hf
              obtain ⟨q34, h34, hf⟩ := xk_bi hf
              refine xk_backi (xk_callV hC 1 xc_0 (c_X4_many h34) h35 xm_542 xm_543 xm_544 xm_1 xm_545 ⟨rfl, xd_X4_many⟩ rfl ⟨Nat.le_of_ble_eq_true rfl, Nat.le_of_ble_eq_true rfl⟩ rfl (Nat.le_of_ble_eq_true rfl) dL_law_501 ⟨(by show _ ≤ 661985; omega), (by show _ ≤ 7115744; omega)⟩) ?_
              refine xk_icmp_ne (tgt := 519) hC dL_law_504 (by decide) (fun c36 => ?_) (fun c36 => ?_)
              · replace hf := (if_neg c36).symm.trans hf
                refine xk_locals [] rfl ?_
                refine xk_widen (k := 447) (n := 23844) (by omega) (by omega) ?_
                exact t_L_law_519 hC hr hz hq (q34.2) hf
              · replace hf := (if_pos c36).symm.trans hf
                refine xk_aload_n hC dL_law_507 7 rfl rfl ?_
                refine xk_iload hC dL_law_508 3 rfl ?_
                refine xk_iconst (v := (5 : Int32)) hC dL_law_510 (by decide) ?_
                obtain ⟨u38, h38, hf⟩ := xk_bi hf
                obtain ⟨q37, h37, hf⟩ := xk_bi hf
                refine xk_backi (xk_callV hC 2 xc_0 (c_X4_ofCue h37) h38 xm_503 xm_504 xm_505 xm_1 xm_506 ⟨rfl, xd_X4_ofCue⟩ rfl ⟨Nat.le_of_ble_eq_true rfl, Nat.le_of_ble_eq_true rfl⟩ rfl (Nat.le_of_ble_eq_true rfl) dL_law_511 ⟨(by show _ ≤ 661985; omega), (by show _ ≤ 7115744; omega)⟩) ?_
                refine xk_iload hC dL_law_514 1 rfl ?_
                refine xk_icmp_eq (tgt := 930) hC dL_law_516 (by decide) (fun c39 => ?_) (fun c39 => ?_)
                · replace hf := (if_pos c39).symm.trans hf
                  refine xk_locals [6, 7, 8, 9, 10, 11] rfl ?_
                  exact t_L_law_930 hC hr hz hq (by omega) (by omega) (by omega) (by omega) (fun x0 x1 x2 x3 x4 x5 w hf => ih x0 x1 x2 x3 x4 x5 w (kc + 3) (ks + 192) (by omega) (by omega) hf) x0 x1 x2 x3 x4 x5 (q37.2) hf
                · replace hf := (if_neg c39).symm.trans hf
                  refine xk_locals [] rfl ?_
                  refine xk_widen (k := 447) (n := 23844) (by omega) (by omega) ?_
                  exact t_L_law_519 hC hr hz hq (q37.2) hf
            · replace hf := (if_neg c28).symm.trans hf
              by_cases c40 : (q13.1) = (4 : Int32)
              · replace hf := (if_pos c40).symm.trans hf
                refine xk_tableIn (tgt := 521) hC dL_law_297 (by rw [c40]; decide) (by rw [c40]; decide) (off := 224) (by rw [c40]; rfl) (by decide) ?_
                refine xk_locals [6, 7, 8, 9, 10, 11, 5, 4] rfl ?_
                exact t_L_law_521 hC hr hz hq (by omega) (by omega) (by omega) (by omega) (fun x0 x1 x2 x3 x4 x5 w hf => ih x0 x1 x2 x3 x4 x5 w (kc + 3) (ks + 192) (by omega) (by omega) hf) x0 x1 x2 x3 x4 x5 ((q3.1) + (((31 : Int32)) * (x5))) ((q5.1) + (((5 : Int32)) * (x5))) (q13.2) hf
              · replace hf := (if_neg c40).symm.trans hf
                by_cases c41 : (q13.1) = (5 : Int32)
                · replace hf := (if_pos c41).symm.trans hf
                  refine xk_tableIn (tgt := 521) hC dL_law_297 (by rw [c41]; decide) (by rw [c41]; decide) (off := 224) (by rw [c41]; rfl) (by decide) ?_
                  refine xk_locals [6, 7, 8, 9, 10, 11, 5, 4] rfl ?_
                  exact t_L_law_521 hC hr hz hq (by omega) (by omega) (by omega) (by omega) (fun x0 x1 x2 x3 x4 x5 w hf => ih x0 x1 x2 x3 x4 x5 w (kc + 3) (ks + 192) (by omega) (by omega) hf) x0 x1 x2 x3 x4 x5 ((q3.1) + (((31 : Int32)) * (x5))) ((q5.1) + (((5 : Int32)) * (x5))) (q13.2) hf
                · replace hf := (if_neg c41).symm.trans hf
                  by_cases c42 : (q13.1) = (6 : Int32)
                  · replace hf := (if_pos c42).symm.trans hf
                    refine xk_tableIn (tgt := 565) hC dL_law_297 (by rw [c42]; decide) (by rw [c42]; decide) (off := 268) (by rw [c42]; rfl) (by decide) ?_
                    refine xk_aload_n hC dL_law_565 7 rfl rfl ?_
                    refine xk_iload hC dL_law_566 3 rfl ?_
                    obtain ⟨u44, h44, hf⟩ := xk_bi hf
                    obtain ⟨q43, h43, hf⟩ := xk_bi hf
                    refine xk_backi (xk_callV hC 1 xc_0 (c_X4_bestStart h43) h44 xm_624 xm_625 xm_626 xm_1 xm_627 ⟨rfl, xd_X4_bestStart⟩ rfl ⟨Nat.le_of_ble_eq_true rfl, Nat.le_of_ble_eq_true rfl⟩ rfl (Nat.le_of_ble_eq_true rfl) dL_law_568 ⟨(by show _ ≤ 661985; omega), (by show _ ≤ 7115744; omega)⟩) ?_
                    refine xk_istore (i := 12) (lv' := [(12, .int (q43.1)), (11, .int (q11.1)), (10, .int (q9.1)), (9, .int (q7.1)), (8, .int (q6.1)), (7, .int ((q5.1) + (((5 : Int32)) * (x5)))), (6, .int ((q3.1) + (((31 : Int32)) * (x5)))), (0, va_rf (x0)), (1, va_rf (x1)), (2, va_rf (x2)), (3, va_rf (x3)), (4, .int (x4)), (5, .int (x5))]) hC dL_law_571 (by decide) rfl ?_
                    refine xk_aload_n hC dL_law_573 8 rfl rfl ?_
                    refine xk_iconst (v := (4 : Int32)) hC dL_law_574 (by decide) ?_
                    obtain ⟨u46, h46, hf⟩ := xk_bi hf
                    obtain ⟨q45, h45, hf⟩ := xk_bi hf
                    refine xk_backi (xk_callV hC 1 xc_0 (c_X4_many h45) h46 xm_542 xm_543 xm_544 xm_1 xm_545 ⟨rfl, xd_X4_many⟩ rfl ⟨Nat.le_of_ble_eq_true rfl, Nat.le_of_ble_eq_true rfl⟩ rfl (Nat.le_of_ble_eq_true rfl) dL_law_575 ⟨(by show _ ≤ 661985; omega), (by show _ ≤ 7115744; omega)⟩) ?_
                    refine xk_istore (i := 13) (lv' := [(13, .int (q45.1)), (12, .int (q43.1)), (11, .int (q11.1)), (10, .int (q9.1)), (9, .int (q7.1)), (8, .int (q6.1)), (7, .int ((q5.1) + (((5 : Int32)) * (x5)))), (6, .int ((q3.1) + (((31 : Int32)) * (x5)))), (0, va_rf (x0)), (1, va_rf (x1)), (2, va_rf (x2)), (3, va_rf (x3)), (4, .int (x4)), (5, .int (x5))]) hC dL_law_578 (by decide) rfl ?_
                    refine xk_aload_n hC dL_law_580 9 rfl rfl ?_
                    refine xk_iload hC dL_law_581 5 rfl ?_
                    refine xk_iconst (v := (0 : Int32)) hC dL_law_583 (by decide) ?_
                    obtain ⟨u48, h48, hf⟩ := xk_bi hf
                    obtain ⟨q47, h47, hf⟩ := xk_bi hf
                    refine xk_backi (xk_callV hC 2 xc_0 (c_X4_ofCue h47) h48 xm_503 xm_504 xm_505 xm_1 xm_506 ⟨rfl, xd_X4_ofCue⟩ rfl ⟨Nat.le_of_ble_eq_true rfl, Nat.le_of_ble_eq_true rfl⟩ rfl (Nat.le_of_ble_eq_true rfl) dL_law_584 ⟨(by show _ ≤ 661985; omega), (by show _ ≤ 7115744; omega)⟩) ?_
                    refine xk_istore (i := 14) (lv' := [(14, .int (q47.1)), (13, .int (q45.1)), (12, .int (q43.1)), (11, .int (q11.1)), (10, .int (q9.1)), (9, .int (q7.1)), (8, .int (q6.1)), (7, .int ((q5.1) + (((5 : Int32)) * (x5)))), (6, .int ((q3.1) + (((31 : Int32)) * (x5)))), (0, va_rf (x0)), (1, va_rf (x1)), (2, va_rf (x2)), (3, va_rf (x3)), (4, .int (x4)), (5, .int (x5))]) hC dL_law_587 (by decide) rfl ?_
                    refine xk_iload hC dL_law_589 2 rfl ?_
                    refine xk_iload hC dL_law_591 0 rfl ?_
                    refine xk_isub hC dL_law_593 ?_
                    refine xk_mabs hC xm_774 xm_449 xm_13 xm_450 (Nat.le_of_ble_eq_true rfl) (Nat.le_of_ble_eq_true rfl) (by show _ ≤ 661985; omega) (by show _ ≤ 7115744; omega) dL_law_594 ?_
                    refine xk_bipush (v := (24 : Int32)) hC dL_law_597 (by decide) ?_
                    refine xk_icmp_gt (tgt := 632) hC dL_law_599 (by decide) (fun c49 => ?_) (fun c49 => ?_)
                    · replace hf := (if_pos c49).symm.trans hf
                      refine xk_locals [] rfl ?_
                      refine xk_widen (k := 447) (n := 23844) (by omega) (by omega) ?_
                      exact t_L_law_632 hC hr hz hq (q47.2) hf
                    · replace hf := (if_neg c49).symm.trans hf
                      refine xk_aload_n hC dL_law_602 10 rfl rfl ?_
                      refine xk_iload hC dL_law_603 6 rfl ?_
                      refine xk_iload hC dL_law_605 2 rfl ?_
                      obtain ⟨u51, h51, hf⟩ := xk_bi hf
                      obtain ⟨q50, h50, hf⟩ := xk_bi hf
                      refine xk_backi (xk_callV hC 2 xc_0 (c_X4_shift h50) h51 xm_427 xm_428 xm_429 xm_1 xm_430 ⟨rfl, xd_X4_shift⟩ rfl ⟨Nat.le_of_ble_eq_true rfl, Nat.le_of_ble_eq_true rfl⟩ rfl (Nat.le_of_ble_eq_true rfl) dL_law_607 ⟨(by show _ ≤ 661985; omega), (by show _ ≤ 7115744; omega)⟩) ?_
                      refine xk_iload hC dL_law_610 1 rfl ?_
                      refine xk_icmp_lt (tgt := 632) hC dL_law_612 (by decide) (fun c52 => ?_) (fun c52 => ?_)
                      · replace hf := (if_pos c52).symm.trans hf
                        refine xk_locals [] rfl ?_
                        refine xk_widen (k := 447) (n := 23844) (by omega) (by omega) ?_
                        exact t_L_law_632 hC hr hz hq (q50.2) hf
                      · replace hf := (if_neg c52).symm.trans hf
                        refine xk_iload hC dL_law_615 2 rfl ?_
                        refine xk_iload hC dL_law_617 0 rfl ?_
                        refine xk_icmp_eq (tgt := 930) hC dL_law_619 (by decide) (fun c53 => ?_) (fun c53 => ?_)
                        · replace hf := (if_pos c53).symm.trans hf
                          refine xk_locals [9, 10, 11, 12, 13, 14] rfl ?_
                          exact t_L_law_930 hC hr hz hq (by omega) (by omega) (by omega) (by omega) (fun x0 x1 x2 x3 x4 x5 w hf => ih x0 x1 x2 x3 x4 x5 w (kc + 3) (ks + 192) (by omega) (by omega) hf) x0 x1 x2 x3 x4 x5 (q50.2) hf
                        · replace hf := (if_neg c53).symm.trans hf
                          refine xk_aload_n hC dL_law_622 10 rfl rfl ?_
                          refine xk_iconst (v := (4 : Int32)) hC dL_law_623 (by decide) ?_
                          obtain ⟨u55, h55, hf⟩ := xk_bi hf
                          obtain ⟨q54, h54, hf⟩ := xk_bi hf
                          refine xk_backi (xk_callV hC 1 xc_0 (c_X4_many h54) h55 xm_542 xm_543 xm_544 xm_1 xm_545 ⟨rfl, xd_X4_many⟩ rfl ⟨Nat.le_of_ble_eq_true rfl, Nat.le_of_ble_eq_true rfl⟩ rfl (Nat.le_of_ble_eq_true rfl) dL_law_624 ⟨(by show _ ≤ 661985; omega), (by show _ ≤ 7115744; omega)⟩) ?_
                          refine xk_iload hC dL_law_627 1 rfl ?_
                          refine xk_icmp_ne (tgt := 930) hC dL_law_629 (by decide) (fun c56 => ?_) (fun c56 => ?_)
                          · replace hf := (if_neg c56).symm.trans hf
                            refine xk_locals [9, 10, 11, 12, 13, 14] rfl ?_
                            exact t_L_law_930 hC hr hz hq (by omega) (by omega) (by omega) (by omega) (fun x0 x1 x2 x3 x4 x5 w hf => ih x0 x1 x2 x3 x4 x5 w (kc + 3) (ks + 192) (by omega) (by omega) hf) x0 x1 x2 x3 x4 x5 (q54.2) hf
                          · replace hf := (if_pos c56).symm.trans hf
                            refine xk_locals [] rfl ?_
                            refine xk_widen (k := 447) (n := 23844) (by omega) (by omega) ?_
                            exact t_L_law_632 hC hr hz hq (q54.2) hf
                  · replace hf := (if_neg c42).symm.trans hf
                    by_cases c57 : (q13.1) = (7 : Int32)
                    · replace hf := (if_pos c57).symm.trans hf
                      refine xk_tableIn (tgt := 634) hC dL_law_297 (by rw [c57]; decide) (by rw [c57]; decide) (off := 337) (by rw [c57]; rfl) (by decide) ?_
                      refine xk_aload_n hC dL_law_634 7 rfl rfl ?_
                      refine xk_bipush (v := (12 : Int32)) hC dL_law_635 (by decide) ?_
                      obtain ⟨u59, h59, hf⟩ := xk_bi hf
                      obtain ⟨q58, h58, hf⟩ := xk_bi hf
                      refine xk_backi (xk_callV hC 1 xc_0 (c_X4_many h58) h59 xm_542 xm_543 xm_544 xm_1 xm_545 ⟨rfl, xd_X4_many⟩ rfl ⟨Nat.le_of_ble_eq_true rfl, Nat.le_of_ble_eq_true rfl⟩ rfl (Nat.le_of_ble_eq_true rfl) dL_law_637 ⟨(by show _ ≤ 661985; omega), (by show _ ≤ 7115744; omega)⟩) ?_
                      refine xk_if_ne (tgt := 666) hC dL_law_640 (by decide) (fun c60 => ?_) (fun c60 => ?_)
                      · replace hf := (if_neg c60).symm.trans hf
                        refine xk_aload_n hC dL_law_666 7 rfl rfl ?_
                        refine xk_bipush (v := (13 : Int32)) hC dL_law_667 (by decide) ?_
                        obtain ⟨u62, h62, hf⟩ := xk_bi hf
                        obtain ⟨q61, h61, hf⟩ := xk_bi hf
                        refine xk_backi (xk_callV hC 1 xc_0 (c_X4_many h61) h62 xm_542 xm_543 xm_544 xm_1 xm_545 ⟨rfl, xd_X4_many⟩ rfl ⟨Nat.le_of_ble_eq_true rfl, Nat.le_of_ble_eq_true rfl⟩ rfl (Nat.le_of_ble_eq_true rfl) dL_law_669 ⟨(by show _ ≤ 661985; omega), (by show _ ≤ 7115744; omega)⟩) ?_
                        refine xk_bipush (v := (120 : Int32)) hC dL_law_672 (by decide) ?_
                        refine xk_icmp_le (tgt := 930) hC dL_law_674 (by decide) (fun c63 => ?_) (fun c63 => ?_)
                        · replace hf := (if_pos c63).symm.trans hf
                          refine xk_locals [6, 7, 8, 9, 10, 11] rfl ?_
                          exact t_L_law_930 hC hr hz hq (by omega) (by omega) (by omega) (by omega) (fun x0 x1 x2 x3 x4 x5 w hf => ih x0 x1 x2 x3 x4 x5 w (kc + 3) (ks + 192) (by omega) (by omega) hf) x0 x1 x2 x3 x4 x5 (q61.2) hf
                        · replace hf := (if_neg c63).symm.trans hf
                          refine xk_locals [] rfl ?_
                          refine xk_widen (k := 447) (n := 23844) (by omega) (by omega) ?_
                          exact t_L_law_677 hC hr hz hq (q61.2) hf
                      · replace hf := (if_pos c60).symm.trans hf
                        refine xk_aload_n hC dL_law_643 7 rfl rfl ?_
                        refine xk_iconst (v := (5 : Int32)) hC dL_law_644 (by decide) ?_
                        refine xk_iload hC dL_law_645 4 rfl ?_
                        refine xk_iconst (v := (3 : Int32)) hC dL_law_647 (by decide) ?_
                        refine xk_ishr hC dL_law_648 ?_
                        refine xk_bipush (v := (56 : Int32)) hC dL_law_649 (by decide) ?_
                        obtain ⟨q64, h64, hf⟩ := xk_bi hf
                        refine xk_backi (xk_callS hC 2 (c_L_below h64) xm_734 xm_735 xm_0 xm_736 xd_L_below rfl ⟨Nat.le_of_ble_eq_true rfl, Nat.le_of_ble_eq_true rfl⟩ rfl (by simp [xk_cat1, xk_cati, xk_catl, xk_catd]) dL_law_651 ⟨(by show _ ≤ 661985; omega), (by show _ ≤ 7115744; omega)⟩) ?_
                        refine xk_iadd hC dL_law_654 ?_
                        obtain ⟨u66, h66, hf⟩ := xk_bi hf
                        obtain ⟨q65, h65, hf⟩ := xk_bi hf
                        refine xk_backi (xk_callV hC 1 xc_0 (c_X4_open h65) h66 xm_451 xm_452 xm_453 xm_1 xm_454 ⟨rfl, xd_X4_open⟩ rfl ⟨Nat.le_of_ble_eq_true rfl, Nat.le_of_ble_eq_true rfl⟩ rfl (Nat.le_of_ble_eq_true rfl) dL_law_655 ⟨(by show _ ≤ 661985; omega), (by show _ ≤ 7115744; omega)⟩) ?_
                        refine xk_iload hC dL_law_658 0 rfl ?_
                        refine xk_icmp_eq (tgt := 930) hC dL_law_660 (by decide) (fun c67 => ?_) (fun c67 => ?_)
                        · replace hf := (if_pos c67).symm.trans hf
                          refine xk_locals [6, 7, 8, 9, 10, 11] rfl ?_
                          exact t_L_law_930 hC hr hz hq (by omega) (by omega) (by omega) (by omega) (fun x0 x1 x2 x3 x4 x5 w hf => ih x0 x1 x2 x3 x4 x5 w (kc + 3) (ks + 192) (by omega) (by omega) hf) x0 x1 x2 x3 x4 x5 (q65.2) hf
                        · replace hf := (if_neg c67).symm.trans hf
                          refine xk_goto (tgt := 677) hC dL_law_663 (by decide) ?_
                          refine xk_locals [] rfl ?_
                          refine xk_widen (k := 447) (n := 23844) (by omega) (by omega) ?_
                          exact t_L_law_677 hC hr hz hq (q65.2) hf
                    · replace hf := (if_neg c57).symm.trans hf
                      by_cases c68 : (q13.1) = (8 : Int32)
                      · replace hf := (if_pos c68).symm.trans hf
                        refine xk_tableIn (tgt := 679) hC dL_law_297 (by rw [c68]; decide) (by rw [c68]; decide) (off := 382) (by rw [c68]; rfl) (by decide) ?_
                        refine xk_aload_n hC dL_law_679 7 rfl rfl ?_
                        refine xk_bipush (v := (12 : Int32)) hC dL_law_680 (by decide) ?_
                        obtain ⟨u70, h70, hf⟩ := xk_bi hf
                        obtain ⟨q69, h69, hf⟩ := xk_bi hf
                        refine xk_backi (xk_callV hC 1 xc_0 (c_X4_many h69) h70 xm_542 xm_543 xm_544 xm_1 xm_545 ⟨rfl, xd_X4_many⟩ rfl ⟨Nat.le_of_ble_eq_true rfl, Nat.le_of_ble_eq_true rfl⟩ rfl (Nat.le_of_ble_eq_true rfl) dL_law_682 ⟨(by show _ ≤ 661985; omega), (by show _ ≤ 7115744; omega)⟩) ?_
                        refine xk_if_eq (tgt := 930) hC dL_law_685 (by decide) (fun c71 => ?_) (fun c71 => ?_)
                        · replace hf := (if_pos c71).symm.trans hf
                          refine xk_locals [6, 7, 8, 9, 10, 11] rfl ?_
                          exact t_L_law_930 hC hr hz hq (by omega) (by omega) (by omega) (by omega) (fun x0 x1 x2 x3 x4 x5 w hf => ih x0 x1 x2 x3 x4 x5 w (kc + 3) (ks + 192) (by omega) (by omega) hf) x0 x1 x2 x3 x4 x5 (q69.2) hf
                        · replace hf := (if_neg c71).symm.trans hf
                          refine xk_iload hC dL_law_688 4 rfl ?_
                          refine xk_iconst (v := (4 : Int32)) hC dL_law_690 (by decide) ?_
                          refine xk_ishr hC dL_law_691 ?_
                          refine xk_iconst (v := (2 : Int32)) hC dL_law_692 (by decide) ?_
                          obtain ⟨q72, h72, hf⟩ := xk_bi hf
                          refine xk_backi (xk_callS hC 2 (c_L_below h72) xm_734 xm_735 xm_0 xm_736 xd_L_below rfl ⟨Nat.le_of_ble_eq_true rfl, Nat.le_of_ble_eq_true rfl⟩ rfl (Nat.le_of_ble_eq_true rfl) dL_law_693 ⟨(by show _ ≤ 661985; omega), (by show _ ≤ 7115744; omega)⟩) ?_
                          refine xk_if_ne (tgt := 702) hC dL_law_696 (by decide) (fun c73 => ?_) (fun c73 => ?_)
                          · replace hf := (if_neg c73).symm.trans hf
                            refine xk_aload_n hC dL_law_702 7 rfl rfl ?_
                            refine xk_bipush (v := (13 : Int32)) hC dL_law_703 (by decide) ?_
                            obtain ⟨u75, h75, hf⟩ := xk_bi hf
                            obtain ⟨q74, h74, hf⟩ := xk_bi hf
                            refine xk_backi (xk_callV hC 1 xc_0 (c_X4_many h74) h75 xm_542 xm_543 xm_544 xm_1 xm_545 ⟨rfl, xd_X4_many⟩ rfl ⟨Nat.le_of_ble_eq_true rfl, Nat.le_of_ble_eq_true rfl⟩ rfl (Nat.le_of_ble_eq_true rfl) dL_law_705 ⟨(by show _ ≤ 661985; omega), (by show _ ≤ 7115744; omega)⟩) ?_
                            refine xk_bipush (v := (14 : Int32)) hC dL_law_708 (by decide) ?_
                            refine xk_iadd hC dL_law_710 ?_
                            refine xk_bipush (v := (15 : Int32)) hC dL_law_711 (by decide) ?_
                            obtain ⟨u76, h76, hf⟩ := xk_bi hf
                            refine xk_idiv hC dL_law_713 (xk_nz_e h76) ?_
                            refine xk_istore (i := 15) (lv' := [(15, .int (((q74.1) + ((14 : Int32))) / ((15 : Int32)))), (11, .int (q11.1)), (10, .int (q9.1)), (9, .int (q7.1)), (8, .int (q6.1)), (7, .int ((q5.1) + (((5 : Int32)) * (x5)))), (6, .int ((q3.1) + (((31 : Int32)) * (x5)))), (0, va_rf (x0)), (1, va_rf (x1)), (2, va_rf (x2)), (3, va_rf (x3)), (4, .int (x4)), (5, .int (x5))]) hC dL_law_714 (by decide) rfl ?_
                            refine xk_aload_n hC dL_law_716 8 rfl rfl ?_
                            refine xk_bipush (v := (12 : Int32)) hC dL_law_717 (by decide) ?_
                            obtain ⟨u78, h78, hf⟩ := xk_bi hf
                            obtain ⟨q77, h77, hf⟩ := xk_bi hf
                            refine xk_backi (xk_callV hC 1 xc_0 (c_X4_many h77) h78 xm_542 xm_543 xm_544 xm_1 xm_545 ⟨rfl, xd_X4_many⟩ rfl ⟨Nat.le_of_ble_eq_true rfl, Nat.le_of_ble_eq_true rfl⟩ rfl (Nat.le_of_ble_eq_true rfl) dL_law_719 ⟨(by show _ ≤ 661985; omega), (by show _ ≤ 7115744; omega)⟩) ?_
                            refine xk_iconst (v := (4 : Int32)) hC dL_law_722 (by decide) ?_
                            refine xk_iload hC dL_law_723 0 rfl ?_
                            refine xk_imul hC dL_law_725 ?_
                            refine xk_iconst (v := (2 : Int32)) hC dL_law_726 (by decide) ?_
                            refine xk_iconst (v := (0 : Int32)) hC dL_law_727 (by decide) ?_
                            refine xk_iload hC dL_law_728 0 rfl ?_
                            refine xk_iconst (v := (4 : Int32)) hC dL_law_730 (by decide) ?_
                            refine xk_isub hC dL_law_731 ?_
                            refine xk_mmax hC xm_776 xm_246 xm_13 xm_247 (Nat.le_of_ble_eq_true rfl) (Nat.le_of_ble_eq_true rfl) (by show _ ≤ 661985; omega) (by show _ ≤ 7115744; omega) dL_law_732 ?_
                            refine xk_imul hC dL_law_735 ?_
                            refine xk_iadd hC dL_law_736 ?_
                            refine xk_imul hC dL_law_737 ?_
                            refine xk_istore (i := 16) (lv' := [(16, .int ((q77.1) * ((((4 : Int32)) * (((q74.1) + ((14 : Int32))) / ((15 : Int32)))) + (((2 : Int32)) * (if ((0 : Int32)) < ((((q74.1) + ((14 : Int32))) / ((15 : Int32))) - ((4 : Int32))) then ((((q74.1) + ((14 : Int32))) / ((15 : Int32))) - ((4 : Int32))) else ((0 : Int32))))))), (15, .int (((q74.1) + ((14 : Int32))) / ((15 : Int32)))), (11, .int (q11.1)), (10, .int (q9.1)), (9, .int (q7.1)), (8, .int (q6.1)), (7, .int ((q5.1) + (((5 : Int32)) * (x5)))), (6, .int ((q3.1) + (((31 : Int32)) * (x5)))), (0, va_rf (x0)), (1, va_rf (x1)), (2, va_rf (x2)), (3, va_rf (x3)), (4, .int (x4)), (5, .int (x5))]) hC dL_law_738 (by decide) rfl ?_
                            refine xk_iload hC dL_law_740 12 rfl ?_
                            refine xk_iload hC dL_law_742 0 rfl ?_
                            refine xk_iadd hC dL_law_744 ?_
                            refine xk_istore (i := 4) (lv' := [(4, .int ((x4) + ((q77.1) * ((((4 : Int32)) * (((q74.1) + ((14 : Int32))) / ((15 : Int32)))) + (((2 : Int32)) * (if ((0 : Int32)) < ((((q74.1) + ((14 : Int32))) / ((15 : Int32))) - ((4 : Int32))) then ((((q74.1) + ((14 : Int32))) / ((15 : Int32))) - ((4 : Int32))) else ((0 : Int32)))))))), (16, .int ((q77.1) * ((((4 : Int32)) * (((q74.1) + ((14 : Int32))) / ((15 : Int32)))) + (((2 : Int32)) * (if ((0 : Int32)) < ((((q74.1) + ((14 : Int32))) / ((15 : Int32))) - ((4 : Int32))) then ((((q74.1) + ((14 : Int32))) / ((15 : Int32))) - ((4 : Int32))) else ((0 : Int32))))))), (15, .int (((q74.1) + ((14 : Int32))) / ((15 : Int32)))), (11, .int (q11.1)), (10, .int (q9.1)), (9, .int (q7.1)), (8, .int (q6.1)), (7, .int ((q5.1) + (((5 : Int32)) * (x5)))), (6, .int ((q3.1) + (((31 : Int32)) * (x5)))), (0, va_rf (x0)), (1, va_rf (x1)), (2, va_rf (x2)), (3, va_rf (x3)), (5, .int (x5))]) hC dL_law_745 (by decide) (by simp [xk_cat1]) ?_
                            refine xk_aload_n hC dL_law_747 10 rfl rfl ?_
                            obtain ⟨u80, h80, hf⟩ := xk_bi hf
                            obtain ⟨q79, h79, hf⟩ := xk_bi hf
                            refine xk_backi (xk_callV hC 0 xc_0 (c_X4_close h79) h80 xm_497 xm_498 xm_499 xm_1 xm_500 ⟨rfl, xd_X4_close⟩ rfl ⟨Nat.le_of_ble_eq_true rfl, Nat.le_of_ble_eq_true rfl⟩ rfl (Nat.le_of_ble_eq_true rfl) dL_law_748 ⟨(by show _ ≤ 661985; omega), (by show _ ≤ 7115744; omega)⟩) ?_
                            refine xk_iload hC dL_law_751 1 rfl ?_
                            refine xk_icmp_ne (tgt := 767) hC dL_law_753 (by decide) (fun c81 => ?_) (fun c81 => ?_)
                            · replace hf := (if_neg c81).symm.trans hf
                              refine xk_locals [] rfl ?_
                              refine xk_widen (k := 447) (n := 23844) (by omega) (by omega) ?_
                              exact t_L_law_767 hC hr hz hq (q79.2) hf
                            · replace hf := (if_pos c81).symm.trans hf
                              refine xk_aload_n hC dL_law_756 10 rfl rfl ?_
                              refine xk_bipush (v := (14 : Int32)) hC dL_law_757 (by decide) ?_
                              obtain ⟨u83, h83, hf⟩ := xk_bi hf
                              obtain ⟨q82, h82, hf⟩ := xk_bi hf
                              refine xk_backi (xk_callV hC 1 xc_0 (c_X4_many h82) h83 xm_542 xm_543 xm_544 xm_1 xm_545 ⟨rfl, xd_X4_many⟩ rfl ⟨Nat.le_of_ble_eq_true rfl, Nat.le_of_ble_eq_true rfl⟩ rfl (Nat.le_of_ble_eq_true rfl) dL_law_759 ⟨(by show _ ≤ 661985; omega), (by show _ ≤ 7115744; omega)⟩) ?_
                              refine xk_iload hC dL_law_762 0 rfl ?_
                              refine xk_icmp_eq (tgt := 930) hC dL_law_764 (by decide) (fun c84 => ?_) (fun c84 => ?_)
                              · replace hf := (if_pos c84).symm.trans hf
                                refine xk_locals [9, 10, 11, 12, 0, 13] rfl ?_
                                exact t_L_law_930 hC hr hz hq (by omega) (by omega) (by omega) (by omega) (fun x0 x1 x2 x3 x4 x5 w hf => ih x0 x1 x2 x3 x4 x5 w (kc + 3) (ks + 192) (by omega) (by omega) hf) x0 x1 x2 x3 ((x4) + ((q77.1) * ((((4 : Int32)) * (((q74.1) + ((14 : Int32))) / ((15 : Int32)))) + (((2 : Int32)) * (if ((0 : Int32)) < ((((q74.1) + ((14 : Int32))) / ((15 : Int32))) - ((4 : Int32))) then ((((q74.1) + ((14 : Int32))) / ((15 : Int32))) - ((4 : Int32))) else ((0 : Int32))))))) x5 (q82.2) hf
                              · replace hf := (if_neg c84).symm.trans hf
                                refine xk_locals [] rfl ?_
                                refine xk_widen (k := 447) (n := 23844) (by omega) (by omega) ?_
                                exact t_L_law_767 hC hr hz hq (q82.2) hf
                          · replace hf := (if_pos c73).symm.trans hf
                            refine xk_goto (tgt := 930) hC dL_law_699 (by decide) ?_
                            refine xk_locals [6, 7, 8, 9, 10, 11] rfl ?_
                            exact t_L_law_930 hC hr hz hq (by omega) (by omega) (by omega) (by omega) (fun x0 x1 x2 x3 x4 x5 w hf => ih x0 x1 x2 x3 x4 x5 w (kc + 3) (ks + 192) (by omega) (by omega) hf) x0 x1 x2 x3 x4 x5 (q72.2) hf
                      · replace hf := (if_neg c68).symm.trans hf
                        refine xk_tableOut (tgt := 769) hC dL_law_297 (xk_swo (q13.1) 0 8 (fun v h1 h2 hv => by
                            have hh : v = 0 ∨ v = 1 ∨ v = 2 ∨ v = 3 ∨ v = 4 ∨ v = 5 ∨ v = 6 ∨ v = 7 ∨ v = 8 := by omega
                            rcases hh with rfl | rfl | rfl | rfl | rfl | rfl | rfl | rfl | rfl
                            · exact c14 (Int32.toInt_inj.mp (hv.trans (by decide)))
                            · exact c15 (Int32.toInt_inj.mp (hv.trans (by decide)))
                            · exact c16 (Int32.toInt_inj.mp (hv.trans (by decide)))
                            · exact c28 (Int32.toInt_inj.mp (hv.trans (by decide)))
                            · exact c40 (Int32.toInt_inj.mp (hv.trans (by decide)))
                            · exact c41 (Int32.toInt_inj.mp (hv.trans (by decide)))
                            · exact c42 (Int32.toInt_inj.mp (hv.trans (by decide)))
                            · exact c57 (Int32.toInt_inj.mp (hv.trans (by decide)))
                            · exact c68 (Int32.toInt_inj.mp (hv.trans (by decide)))
                            )) (by decide) ?_
                        refine xk_aload_n hC dL_law_769 7 rfl rfl ?_
                        refine xk_bipush (v := (12 : Int32)) hC dL_law_770 (by decide) ?_
                        obtain ⟨u86, h86, hf⟩ := xk_bi hf
                        obtain ⟨q85, h85, hf⟩ := xk_bi hf
                        refine xk_backi (xk_callV hC 1 xc_0 (c_X4_many h85) h86 xm_542 xm_543 xm_544 xm_1 xm_545 ⟨rfl, xd_X4_many⟩ rfl ⟨Nat.le_of_ble_eq_true rfl, Nat.le_of_ble_eq_true rfl⟩ rfl (Nat.le_of_ble_eq_true rfl) dL_law_772 ⟨(by show _ ≤ 661985; omega), (by show _ ≤ 7115744; omega)⟩) ?_
                        refine xk_aload_n hC dL_law_775 7 rfl rfl ?_
                        refine xk_iload hC dL_law_776 3 rfl ?_
                        refine xk_iconst (v := (2 : Int32)) hC dL_law_778 (by decide) ?_
                        obtain ⟨u88, h88, hf⟩ := xk_bi hf
                        obtain ⟨q87, h87, hf⟩ := xk_bi hf
                        refine xk_backi (xk_callV hC 2 xc_0 (c_X4_ofCue h87) h88 xm_503 xm_504 xm_505 xm_1 xm_506 ⟨rfl, xd_X4_ofCue⟩ rfl ⟨Nat.le_of_ble_eq_true rfl, Nat.le_of_ble_eq_true rfl⟩ rfl (Nat.le_of_ble_eq_true rfl) dL_law_779 ⟨(by show _ ≤ 661985; omega), (by show _ ≤ 7115744; omega)⟩) ?_
                        refine xk_icmp_lt (tgt := 930) hC dL_law_782 (by decide) (fun c89 => ?_) (fun c89 => ?_)
                        · replace hf := (if_pos c89).symm.trans hf
                          refine xk_locals [6, 7, 8, 9, 10, 11] rfl ?_
                          exact t_L_law_930 hC hr hz hq (by omega) (by omega) (by omega) (by omega) (fun x0 x1 x2 x3 x4 x5 w hf => ih x0 x1 x2 x3 x4 x5 w (kc + 3) (ks + 192) (by omega) (by omega) hf) x0 x1 x2 x3 x4 x5 (q87.2) hf
                        · replace hf := (if_neg c89).symm.trans hf
                          refine xk_aload_n hC dL_law_785 7 rfl rfl ?_
                          refine xk_bipush (v := (13 : Int32)) hC dL_law_786 (by decide) ?_
                          obtain ⟨u91, h91, hf⟩ := xk_bi hf
                          obtain ⟨q90, h90, hf⟩ := xk_bi hf
                          refine xk_backi (xk_callV hC 1 xc_0 (c_X4_many h90) h91 xm_542 xm_543 xm_544 xm_1 xm_545 ⟨rfl, xd_X4_many⟩ rfl ⟨Nat.le_of_ble_eq_true rfl, Nat.le_of_ble_eq_true rfl⟩ rfl (Nat.le_of_ble_eq_true rfl) dL_law_788 ⟨(by show _ ≤ 661985; omega), (by show _ ≤ 7115744; omega)⟩) ?_
                          refine xk_bipush (v := (110 : Int32)) hC dL_law_791 (by decide) ?_
                          refine xk_icmp_gt (tgt := 930) hC dL_law_793 (by decide) (fun c92 => ?_) (fun c92 => ?_)
                          · replace hf := (if_pos c92).symm.trans hf
                            refine xk_locals [6, 7, 8, 9, 10, 11] rfl ?_
                            exact t_L_law_930 hC hr hz hq (by omega) (by omega) (by omega) (by omega) (fun x0 x1 x2 x3 x4 x5 w hf => ih x0 x1 x2 x3 x4 x5 w (kc + 3) (ks + 192) (by omega) (by omega) hf) x0 x1 x2 x3 x4 x5 (q90.2) hf
                          · replace hf := (if_neg c92).symm.trans hf
                            refine xk_iload hC dL_law_796 0 rfl ?_
                            refine xk_bipush (v := (40 : Int32)) hC dL_law_798 (by decide) ?_
                            refine xk_icmp_ne (tgt := 806) hC dL_law_800 (by decide) (fun c93 => ?_) (fun c93 => ?_)
                            · replace hf := (if_neg c93).symm.trans hf
                              refine xk_iconst (v := (0 : Int32)) hC dL_law_806 (by decide) ?_
                              refine xk_istore (i := 17) (lv' := [(17, .int ((0 : Int32))), (11, .int (q11.1)), (10, .int (q9.1)), (9, .int (q7.1)), (8, .int (q6.1)), (7, .int ((q5.1) + (((5 : Int32)) * (x5)))), (6, .int ((q3.1) + (((31 : Int32)) * (x5)))), (0, va_rf (x0)), (1, va_rf (x1)), (2, va_rf (x2)), (3, va_rf (x3)), (4, .int (x4)), (5, .int (x5))]) hC dL_law_807 (by decide) rfl ?_
                              refine xk_iconst (v := (0 : Int32)) hC dL_law_809 (by decide) ?_
                              refine xk_istore (i := 18) (lv' := [(18, .int ((0 : Int32))), (17, .int ((0 : Int32))), (11, .int (q11.1)), (10, .int (q9.1)), (9, .int (q7.1)), (8, .int (q6.1)), (7, .int ((q5.1) + (((5 : Int32)) * (x5)))), (6, .int ((q3.1) + (((31 : Int32)) * (x5)))), (0, va_rf (x0)), (1, va_rf (x1)), (2, va_rf (x2)), (3, va_rf (x3)), (4, .int (x4)), (5, .int (x5))]) hC dL_law_810 (by decide) rfl ?_
                              refine xk_locals [8, 9, 10, 11, 12, 13, 7, 6, 5, 4, 3, 2, 1, 0] rfl ?_
                              exact t_L_law_812 hC hr hz hq (by omega) (by omega) (by omega) (by omega) (fun x0 x1 x2 x3 x4 x5 w hf => ih x0 x1 x2 x3 x4 x5 w (kc + 3) (ks + 192) (by omega) (by omega) hf) 4096 x0 x1 x2 x3 x4 x5 ((q3.1) + (((31 : Int32)) * (x5))) ((q5.1) + (((5 : Int32)) * (x5))) (q6.1) (q7.1) (q9.1) (q11.1) ((0 : Int32)) ((0 : Int32)) (q90.2) hf
                            · replace hf := (if_pos c93).symm.trans hf
                              refine xk_goto (tgt := 930) hC dL_law_803 (by decide) ?_
                              refine xk_locals [6, 7, 8, 9, 10, 11] rfl ?_
                              exact t_L_law_930 hC hr hz hq (by omega) (by omega) (by omega) (by omega) (fun x0 x1 x2 x3 x4 x5 w hf => ih x0 x1 x2 x3 x4 x5 w (kc + 3) (ks + 192) (by omega) (by omega) hf) x0 x1 x2 x3 x4 x5 (q90.2) hf
def f_L_law_97 : Nat → Option Nat → Option Nat → Int32 → xWd → Option (Int32 × xWd)
  | 0, _, _, _, _ => none
  | n + 1, x0, x1, x2, w => if ((4 : Int32)) ≤ (x2) then (xk_nA w 0 xk_d0 ((40 : Int32)) 64).bind (fun w2 => (xk_nA w2 0 xk_d0 ((40 : Int32)) 64).bind (fun w3 => f_L_law_210 46 x0 x1 (some w.2.1) (some w2.2.1) ((0 : Int32)) ((0 : Int32)) w3)) else (f_L_cell (x0) ((x2) + ((4 : Int32))) w).bind (fun q4 => (f_L_below ((q4.1) * ((5 : Int32))) ((2300 : Int32)) q4.2).bind (fun q5 => (f_L_below (q4.1) ((3 : Int32)) q5.2).bind (fun q6 => (f_L_below ((q4.1) >>> (((3 : Int32)) &&& 31)) ((20 : Int32)) q6.2).bind (fun q7 => (f_L_below ((q4.1) >>> (((2 : Int32)) &&& 31)) ((4 : Int32)) q7.2).bind (fun q8 => (f_L_below ((q4.1) >>> (((4 : Int32)) &&& 31)) ((3 : Int32)) q8.2).bind (fun q9 => (xk_is q9.2 (x1) 0).bind (fun u11 => (f_X4_cue (x1) (q5.1) ((q6.1) - ((1 : Int32))) (((1 : Int32)) + (q7.1)) (q8.1) (q9.1) q9.2).bind (fun q10 => if (q10.1) = (x2) then (f_L_below (q4.1) ((6 : Int32)) q10.2).bind (fun q13 => (f_L_below ((q4.1) >>> (((1 : Int32)) &&& 31)) ((137 : Int32)) q13.2).bind (fun q14 => (xk_is q14.2 (x1) 0).bind (fun u16 => (f_X4_bar (x1) (x2) (((2 : Int32)) + (q13.1)) (((24 : Int32)) + (q14.1)) q14.2).bind (fun q15 => if (q15.1) = ((0 : Int32)) then f_L_law_97 n x0 x1 (x2 + (1 : Int32)) (q15.2) else f_L_law_186 (q15.2))))) else f_L_law_186 (q10.2)))))))))
set_option maxHeartbeats 4000000 in
set_option maxRecDepth 100000 in
theorem t_L_law_97 {p : Program} {l : Launch} {e : Env} {s : State} {m : MethodId} {b : Nat} {below : List Frame} {meth : Method} {c : Code} {E : xEv} (hC : xk_C p (s.setDrawn s.drawn) m #[Value.ref b] meth c E code "ClickbookLaw" 19) (hr : meth.sig.returnType = ret) (hz : E.2.2.1 = s.heap.size) {q : (Int32 × xWd)} (hq : q.1 = 1) : ∀ (n : Nat) (x0 : Option Nat) (x1 : Option Nat) (x2 : Int32) (w : xWd) (kc ks : Nat), kc + n * 5 ≤ 299 → ks + n * 269 ≤ 14423 → f_L_law_97 n x0 x1 x2 w = some q → xk_X p l e room_1 (s.setDrawn s.drawn) m #[Value.ref b] below meth c (lw_Z below #[Value.ref b] s) E 19 kc ks 97 [(0, va_rf (x0)), (1, va_rf (x1)), (2, .int (x2))] [] w := by
  intro n
  induction n with
  | zero => intro x0 x1 x2 w kc ks hkc hks hf; have hf : none = some q := hf; cases hf
  | succ n ih =>
    intro x0 x1 x2 w kc ks hkc hks hf
    rw [Nat.succ_mul] at hkc hks
    refine xk_iload_n hC dL_law_97 2 rfl rfl ?_
    refine xk_iconst (v := (4 : Int32)) hC dL_law_98 (by decide) ?_
    refine xk_icmp_ge (tgt := 194) hC dL_law_99 (by decide) (fun c1 => ?_) (fun c1 => ?_)
    · replace hf := (if_pos c1).symm.trans hf
      refine xk_bipush (v := (40 : Int32)) hC dL_law_194 (by decide) ?_
      obtain ⟨w2, h2, hf⟩ := xk_bi hf
      refine xk_newarr (cap := 64) (atype := .int) (ty := .int) (kd := 0) hC rfl xm_73 (by decide) rfl (fun _ _ => rfl) (Nat.le_of_ble_eq_true rfl) (by show _ ≤ 661985; omega) (by show _ ≤ 7115744; omega) dL_law_196 h2 ?_
      refine xk_astore_n (i := 2) (lv' := [(2, va_rf (some w.2.1)), (0, va_rf (x0)), (1, va_rf (x1))]) hC dL_law_198 rfl (by decide) (by simp [xk_cat1]) ?_
      refine xk_bipush (v := (40 : Int32)) hC dL_law_199 (by decide) ?_
      obtain ⟨w3, h3, hf⟩ := xk_bi hf
      refine xk_newarr (cap := 64) (atype := .int) (ty := .int) (kd := 0) hC rfl xm_73 (by decide) rfl (fun _ _ => rfl) (Nat.le_of_ble_eq_true rfl) (by show _ ≤ 661985; omega) (by show _ ≤ 7115744; omega) dL_law_201 h3 ?_
      refine xk_astore_n (i := 3) (lv' := [(3, va_rf (some w2.2.1)), (2, va_rf (some w.2.1)), (0, va_rf (x0)), (1, va_rf (x1))]) hC dL_law_203 rfl (by decide) rfl ?_
      refine xk_iconst (v := (0 : Int32)) hC dL_law_204 (by decide) ?_
      refine xk_istore (i := 4) (lv' := [(4, .int ((0 : Int32))), (3, va_rf (some w2.2.1)), (2, va_rf (some w.2.1)), (0, va_rf (x0)), (1, va_rf (x1))]) hC dL_law_205 (by decide) rfl ?_
      refine xk_iconst (v := (0 : Int32)) hC dL_law_207 (by decide) ?_
      refine xk_istore (i := 5) (lv' := [(5, .int ((0 : Int32))), (4, .int ((0 : Int32))), (3, va_rf (some w2.2.1)), (2, va_rf (some w.2.1)), (0, va_rf (x0)), (1, va_rf (x1))]) hC dL_law_208 (by decide) rfl ?_
      refine xk_locals [4, 5, 3, 2, 1, 0] rfl ?_
      refine xk_widen (k := 306) (n := 14820) (by omega) (by omega) ?_
      exact t_L_law_210 hC hr hz hq 46 x0 x1 (some w.2.1) (some w2.2.1) ((0 : Int32)) ((0 : Int32)) w3 _ _ (Nat.le_of_ble_eq_true rfl) (Nat.le_of_ble_eq_true rfl) hf
    · replace hf := (if_neg c1).symm.trans hf
      refine xk_aload_n hC dL_law_102 0 rfl rfl ?_
      refine xk_iload_n hC dL_law_103 2 rfl rfl ?_
      refine xk_iconst (v := (4 : Int32)) hC dL_law_104 (by decide) ?_
      refine xk_iadd hC dL_law_105 ?_
      obtain ⟨q4, h4, hf⟩ := xk_bi hf
      refine xk_backi (xk_callS hC 2 (c_L_cell h4) xm_738 xm_739 xm_0 xm_740 xd_L_cell rfl ⟨Nat.le_of_ble_eq_true rfl, Nat.le_of_ble_eq_true rfl⟩ rfl (Nat.le_of_ble_eq_true rfl) dL_law_106 ⟨(by show _ ≤ 661985; omega), (by show _ ≤ 7115744; omega)⟩) ?_
      refine xk_istore_n (i := 3) (lv' := [(3, .int (q4.1)), (0, va_rf (x0)), (1, va_rf (x1)), (2, .int (x2))]) hC dL_law_109 rfl (by decide) rfl ?_
      refine xk_aload_n hC dL_law_110 2 rfl rfl ?_
      refine xk_iload_n hC dL_law_111 0 rfl rfl ?_
      refine xk_iconst (v := (5 : Int32)) hC dL_law_112 (by decide) ?_
      refine xk_imul hC dL_law_113 ?_
      refine xk_sipush (v := (2300 : Int32)) hC dL_law_114 (by decide) ?_
      obtain ⟨q5, h5, hf⟩ := xk_bi hf
      refine xk_backi (xk_callS hC 2 (c_L_below h5) xm_734 xm_735 xm_0 xm_736 xd_L_below rfl ⟨Nat.le_of_ble_eq_true rfl, Nat.le_of_ble_eq_true rfl⟩ rfl (by simp [xk_cat1, xk_cati, xk_catl, xk_catd]) dL_law_117 ⟨(by show _ ≤ 661985; omega), (by show _ ≤ 7115744; omega)⟩) ?_
      refine xk_iload_n hC dL_law_120 0 rfl rfl ?_
      refine xk_iconst (v := (3 : Int32)) hC dL_law_121 (by decide) ?_
      obtain ⟨q6, h6, hf⟩ := xk_bi hf
      refine xk_backi (xk_callS hC 2 (c_L_below h6) xm_734 xm_735 xm_0 xm_736 xd_L_below rfl ⟨Nat.le_of_ble_eq_true rfl, Nat.le_of_ble_eq_true rfl⟩ rfl (by simp [xk_cat1, xk_cati, xk_catl, xk_catd]) dL_law_122 ⟨(by show _ ≤ 661985; omega), (by show _ ≤ 7115744; omega)⟩) ?_
      refine xk_iconst (v := (1 : Int32)) hC dL_law_125 (by decide) ?_
      refine xk_isub hC dL_law_126 ?_
      refine xk_iconst (v := (1 : Int32)) hC dL_law_127 (by decide) ?_
      refine xk_iload_n hC dL_law_128 0 rfl rfl ?_
      refine xk_iconst (v := (3 : Int32)) hC dL_law_129 (by decide) ?_
      refine xk_ishr hC dL_law_130 ?_
      refine xk_bipush (v := (20 : Int32)) hC dL_law_131 (by decide) ?_
      obtain ⟨q7, h7, hf⟩ := xk_bi hf
      refine xk_backi (xk_callS hC 2 (c_L_below h7) xm_734 xm_735 xm_0 xm_736 xd_L_below rfl ⟨Nat.le_of_ble_eq_true rfl, Nat.le_of_ble_eq_true rfl⟩ rfl (by simp [xk_cat1, xk_cati, xk_catl, xk_catd]) dL_law_133 ⟨(by show _ ≤ 661985; omega), (by show _ ≤ 7115744; omega)⟩) ?_
      refine xk_iadd hC dL_law_136 ?_
      refine xk_iload_n hC dL_law_137 0 rfl rfl ?_
      refine xk_iconst (v := (2 : Int32)) hC dL_law_138 (by decide) ?_
      refine xk_ishr hC dL_law_139 ?_
      refine xk_iconst (v := (4 : Int32)) hC dL_law_140 (by decide) ?_
      obtain ⟨q8, h8, hf⟩ := xk_bi hf
      refine xk_backi (xk_callS hC 2 (c_L_below h8) xm_734 xm_735 xm_0 xm_736 xd_L_below rfl ⟨Nat.le_of_ble_eq_true rfl, Nat.le_of_ble_eq_true rfl⟩ rfl (by simp [xk_cat1, xk_cati, xk_catl, xk_catd]) dL_law_141 ⟨(by show _ ≤ 661985; omega), (by show _ ≤ 7115744; omega)⟩) ?_
      refine xk_iload_n hC dL_law_144 0 rfl rfl ?_
      refine xk_iconst (v := (4 : Int32)) hC dL_law_145 (by decide) ?_
      refine xk_ishr hC dL_law_146 ?_
      refine xk_iconst (v := (3 : Int32)) hC dL_law_147 (by decide) ?_
      obtain ⟨q9, h9, hf⟩ := xk_bi hf
      refine xk_backi (xk_callS hC 2 (c_L_below h9) xm_734 xm_735 xm_0 xm_736 xd_L_below rfl ⟨Nat.le_of_ble_eq_true rfl, Nat.le_of_ble_eq_true rfl⟩ rfl (by simp [xk_cat1, xk_cati, xk_catl, xk_catd]) dL_law_148 ⟨(by show _ ≤ 661985; omega), (by show _ ≤ 7115744; omega)⟩) ?_
      obtain ⟨u11, h11, hf⟩ := xk_bi hf
      obtain ⟨q10, h10, hf⟩ := xk_bi hf
      refine xk_backi (xk_callV hC 5 xc_0 (c_X4_cue h10) h11 xm_288 xm_289 xm_290 xm_1 xm_291 ⟨rfl, xd_X4_cue⟩ rfl ⟨Nat.le_of_ble_eq_true rfl, Nat.le_of_ble_eq_true rfl⟩ rfl (Nat.le_of_ble_eq_true rfl) dL_law_151 ⟨(by show _ ≤ 661985; omega), (by show _ ≤ 7115744; omega)⟩) ?_
      refine xk_iload_n hC dL_law_154 3 rfl rfl ?_
      refine xk_icmp_ne (tgt := 186) hC dL_law_155 (by decide) (fun c12 => ?_) (fun c12 => ?_)
      · replace hf := (if_neg c12).symm.trans hf
        refine xk_locals [] rfl ?_
        refine xk_widen (k := 304) (n := 14692) (by omega) (by omega) ?_
        exact t_L_law_186 hC hr hz hq (q10.2) hf
      · replace hf := (if_pos c12).symm.trans hf
        refine xk_aload_n hC dL_law_158 2 rfl rfl ?_
        refine xk_iload_n hC dL_law_159 3 rfl rfl ?_
        refine xk_iconst (v := (2 : Int32)) hC dL_law_160 (by decide) ?_
        refine xk_iload_n hC dL_law_161 0 rfl rfl ?_
        refine xk_bipush (v := (6 : Int32)) hC dL_law_162 (by decide) ?_
        obtain ⟨q13, h13, hf⟩ := xk_bi hf
        refine xk_backi (xk_callS hC 2 (c_L_below h13) xm_734 xm_735 xm_0 xm_736 xd_L_below rfl ⟨Nat.le_of_ble_eq_true rfl, Nat.le_of_ble_eq_true rfl⟩ rfl (by simp [xk_cat1, xk_cati, xk_catl, xk_catd]) dL_law_164 ⟨(by show _ ≤ 661985; omega), (by show _ ≤ 7115744; omega)⟩) ?_
        refine xk_iadd hC dL_law_167 ?_
        refine xk_bipush (v := (24 : Int32)) hC dL_law_168 (by decide) ?_
        refine xk_iload_n hC dL_law_170 0 rfl rfl ?_
        refine xk_iconst (v := (1 : Int32)) hC dL_law_171 (by decide) ?_
        refine xk_ishr hC dL_law_172 ?_
        refine xk_sipush (v := (137 : Int32)) hC dL_law_173 (by decide) ?_
        obtain ⟨q14, h14, hf⟩ := xk_bi hf
        refine xk_backi (xk_callS hC 2 (c_L_below h14) xm_734 xm_735 xm_0 xm_736 xd_L_below rfl ⟨Nat.le_of_ble_eq_true rfl, Nat.le_of_ble_eq_true rfl⟩ rfl (by simp [xk_cat1, xk_cati, xk_catl, xk_catd]) dL_law_176 ⟨(by show _ ≤ 661985; omega), (by show _ ≤ 7115744; omega)⟩) ?_
        refine xk_iadd hC dL_law_179 ?_
        obtain ⟨u16, h16, hf⟩ := xk_bi hf
        obtain ⟨q15, h15, hf⟩ := xk_bi hf
        refine xk_backi (xk_callV hC 3 xc_0 (c_X4_bar h15) h16 xm_372 xm_373 xm_374 xm_1 xm_375 ⟨rfl, xd_X4_bar⟩ rfl ⟨Nat.le_of_ble_eq_true rfl, Nat.le_of_ble_eq_true rfl⟩ rfl (Nat.le_of_ble_eq_true rfl) dL_law_180 ⟨(by show _ ≤ 661985; omega), (by show _ ≤ 7115744; omega)⟩) ?_
        refine xk_if_eq (tgt := 188) hC dL_law_183 (by decide) (fun c17 => ?_) (fun c17 => ?_)
        · replace hf := (if_pos c17).symm.trans hf
          refine xk_iinc (v := x2 + (1 : Int32)) (lv' := [(2, .int (x2 + (1 : Int32))), (3, .int (q4.1)), (0, va_rf (x0)), (1, va_rf (x1))]) hC dL_law_188 3 rfl rfl (by decide) (by simp [xk_cat1]) ?_
          refine xk_goto (tgt := 97) hC dL_law_191 (by decide) ?_
          refine xk_locals [2, 3, 0] rfl ?_
          exact ih x0 x1 (x2 + (1 : Int32)) (q15.2) _ _ (by omega) (by omega) hf
        · replace hf := (if_neg c17).symm.trans hf
          refine xk_locals [] rfl ?_
          refine xk_widen (k := 304) (n := 14692) (by omega) (by omega) ?_
          exact t_L_law_186 hC hr hz hq (q15.2) hf
def f_L_law_47 : Nat → Option Nat → Option Nat → Int32 → xWd → Option (Int32 × xWd)
  | 0, _, _, _, _ => none
  | n + 1, x0, x1, x2, w => if ((8 : Int32)) ≤ (x2) then f_L_law_97 41 x0 x1 ((0 : Int32)) w else (f_L_cell (x0) (x2) w).bind (fun q2 => (f_L_below ((q2.1) * ((7 : Int32))) ((2400 : Int32)) q2.2).bind (fun q3 => (f_L_cell (x0) (x2) q3.2).bind (fun q4 => (f_L_below ((q4.1) >>> (((3 : Int32)) &&& 31)) ((10 : Int32)) q4.2).bind (fun q5 => (xk_is q5.2 (x1) 0).bind (fun u7 => (f_X4_hit (x1) (q3.1) (q5.1) q5.2).bind (fun q6 => if (q6.1) = (x2) then f_L_law_47 n x0 x1 (x2 + (1 : Int32)) (q6.2) else some ((0 : Int32), q6.2)))))))
set_option maxHeartbeats 4000000 in
set_option maxRecDepth 100000 in
theorem t_L_law_47 {p : Program} {l : Launch} {e : Env} {s : State} {m : MethodId} {b : Nat} {below : List Frame} {meth : Method} {c : Code} {E : xEv} (hC : xk_C p (s.setDrawn s.drawn) m #[Value.ref b] meth c E code "ClickbookLaw" 19) (hr : meth.sig.returnType = ret) (hz : E.2.2.1 = s.heap.size) {q : (Int32 × xWd)} (hq : q.1 = 1) : ∀ (n : Nat) (x0 : Option Nat) (x1 : Option Nat) (x2 : Int32) (w : xWd) (kc ks : Nat), kc + n * 2 ≤ 92 → ks + n * 67 ≤ 3327 → f_L_law_47 n x0 x1 x2 w = some q → xk_X p l e room_1 (s.setDrawn s.drawn) m #[Value.ref b] below meth c (lw_Z below #[Value.ref b] s) E 19 kc ks 47 [(0, va_rf (x0)), (1, va_rf (x1)), (2, .int (x2))] [] w := by
  intro n
  induction n with
  | zero => intro x0 x1 x2 w kc ks hkc hks hf; have hf : none = some q := hf; cases hf
  | succ n ih =>
    intro x0 x1 x2 w kc ks hkc hks hf
    rw [Nat.succ_mul] at hkc hks
    refine xk_iload_n hC dL_law_47 2 rfl rfl ?_
    refine xk_bipush (v := (8 : Int32)) hC dL_law_48 (by decide) ?_
    refine xk_icmp_ge (tgt := 95) hC dL_law_50 (by decide) (fun c1 => ?_) (fun c1 => ?_)
    · replace hf := (if_pos c1).symm.trans hf
      refine xk_iconst (v := (0 : Int32)) hC dL_law_95 (by decide) ?_
      refine xk_istore_n (i := 2) (lv' := [(2, .int ((0 : Int32))), (0, va_rf (x0)), (1, va_rf (x1))]) hC dL_law_96 rfl (by decide) (by simp [xk_cat1]) ?_
      refine xk_locals [1, 2, 0] rfl ?_
      refine xk_widen (k := 94) (n := 3394) (by omega) (by omega) ?_
      exact t_L_law_97 hC hr hz hq 41 x0 x1 ((0 : Int32)) w _ _ (Nat.le_of_ble_eq_true rfl) (Nat.le_of_ble_eq_true rfl) hf
    · replace hf := (if_neg c1).symm.trans hf
      refine xk_aload_n hC dL_law_53 1 rfl rfl ?_
      refine xk_aload_n hC dL_law_54 0 rfl rfl ?_
      refine xk_iload_n hC dL_law_55 2 rfl rfl ?_
      obtain ⟨q2, h2, hf⟩ := xk_bi hf
      refine xk_backi (xk_callS hC 2 (c_L_cell h2) xm_738 xm_739 xm_0 xm_740 xd_L_cell rfl ⟨Nat.le_of_ble_eq_true rfl, Nat.le_of_ble_eq_true rfl⟩ rfl (by simp [xk_cat1, xk_cati, xk_catl, xk_catd]) dL_law_56 ⟨(by show _ ≤ 661985; omega), (by show _ ≤ 7115744; omega)⟩) ?_
      refine xk_bipush (v := (7 : Int32)) hC dL_law_59 (by decide) ?_
      refine xk_imul hC dL_law_61 ?_
      refine xk_sipush (v := (2400 : Int32)) hC dL_law_62 (by decide) ?_
      obtain ⟨q3, h3, hf⟩ := xk_bi hf
      refine xk_backi (xk_callS hC 2 (c_L_below h3) xm_734 xm_735 xm_0 xm_736 xd_L_below rfl ⟨Nat.le_of_ble_eq_true rfl, Nat.le_of_ble_eq_true rfl⟩ rfl (by simp [xk_cat1, xk_cati, xk_catl, xk_catd]) dL_law_65 ⟨(by show _ ≤ 661985; omega), (by show _ ≤ 7115744; omega)⟩) ?_
      refine xk_aload_n hC dL_law_68 0 rfl rfl ?_
      refine xk_iload_n hC dL_law_69 2 rfl rfl ?_
      obtain ⟨q4, h4, hf⟩ := xk_bi hf
      refine xk_backi (xk_callS hC 2 (c_L_cell h4) xm_738 xm_739 xm_0 xm_740 xd_L_cell rfl ⟨Nat.le_of_ble_eq_true rfl, Nat.le_of_ble_eq_true rfl⟩ rfl (by simp [xk_cat1, xk_cati, xk_catl, xk_catd]) dL_law_70 ⟨(by show _ ≤ 661985; omega), (by show _ ≤ 7115744; omega)⟩) ?_
      refine xk_iconst (v := (3 : Int32)) hC dL_law_73 (by decide) ?_
      refine xk_ishr hC dL_law_74 ?_
      refine xk_bipush (v := (10 : Int32)) hC dL_law_75 (by decide) ?_
      obtain ⟨q5, h5, hf⟩ := xk_bi hf
      refine xk_backi (xk_callS hC 2 (c_L_below h5) xm_734 xm_735 xm_0 xm_736 xd_L_below rfl ⟨Nat.le_of_ble_eq_true rfl, Nat.le_of_ble_eq_true rfl⟩ rfl (by simp [xk_cat1, xk_cati, xk_catl, xk_catd]) dL_law_77 ⟨(by show _ ≤ 661985; omega), (by show _ ≤ 7115744; omega)⟩) ?_
      obtain ⟨u7, h7, hf⟩ := xk_bi hf
      obtain ⟨q6, h6, hf⟩ := xk_bi hf
      refine xk_backi (xk_callV hC 2 xc_0 (c_X4_hit h6) h7 xm_115 xm_116 xm_117 xm_1 xm_118 ⟨rfl, xd_X4_hit⟩ rfl ⟨Nat.le_of_ble_eq_true rfl, Nat.le_of_ble_eq_true rfl⟩ rfl (Nat.le_of_ble_eq_true rfl) dL_law_80 ⟨(by show _ ≤ 661985; omega), (by show _ ≤ 7115744; omega)⟩) ?_
      refine xk_iload_n hC dL_law_83 2 rfl rfl ?_
      refine xk_icmp_eq (tgt := 89) hC dL_law_84 (by decide) (fun c8 => ?_) (fun c8 => ?_)
      · replace hf := (if_pos c8).symm.trans hf
        refine xk_iinc (v := x2 + (1 : Int32)) (lv' := [(2, .int (x2 + (1 : Int32))), (0, va_rf (x0)), (1, va_rf (x1))]) hC dL_law_89 2 rfl rfl (by decide) (by simp [xk_cat1]) ?_
        refine xk_goto (tgt := 47) hC dL_law_92 (by decide) ?_
        refine xk_locals [1, 2, 0] rfl ?_
        exact ih x0 x1 (x2 + (1 : Int32)) (q6.2) _ _ (by omega) (by omega) hf
      · replace hf := (if_neg c8).symm.trans hf
        refine xk_iconst (v := (0 : Int32)) hC dL_law_87 (by decide) ?_
        cases hf
        exact xk_lawret hC hr hz hq (by omega) (by omega) dL_law_88
def f_L_law_10 : Nat → Option Nat → Option Nat → Int32 → xWd → Option (Int32 × xWd)
  | 0, _, _, _, _ => none
  | n + 1, x0, x1, x2, w => if ((2 : Int32)) ≤ (x2) then f_L_law_47 41 x0 x1 ((0 : Int32)) w else (f_L_cell (x0) (x2) w).bind (fun q2 => (f_L_below ((q2.1) * ((9 : Int32))) ((2401 : Int32)) q2.2).bind (fun q3 => (xk_is q3.2 (x1) 0).bind (fun u5 => (f_X4_theme (x1) (q3.1) q3.2).bind (fun q4 => if (q4.1) = (x2) then f_L_law_10 n x0 x1 (x2 + (1 : Int32)) (q4.2) else some ((0 : Int32), q4.2)))))
set_option maxHeartbeats 4000000 in
set_option maxRecDepth 100000 in
theorem t_L_law_10 {p : Program} {l : Launch} {e : Env} {s : State} {m : MethodId} {b : Nat} {below : List Frame} {meth : Method} {c : Code} {E : xEv} (hC : xk_C p (s.setDrawn s.drawn) m #[Value.ref b] meth c E code "ClickbookLaw" 19) (hr : meth.sig.returnType = ret) (hz : E.2.2.1 = s.heap.size) {q : (Int32 × xWd)} (hq : q.1 = 1) : ∀ (n : Nat) (x0 : Option Nat) (x1 : Option Nat) (x2 : Int32) (w : xWd), f_L_law_10 n x0 x1 x2 w = some q → xk_X p l e room_1 (s.setDrawn s.drawn) m #[Value.ref b] below meth c (lw_Z below #[Value.ref b] s) E 19 10 580 10 [(0, va_rf (x0)), (1, va_rf (x1)), (2, .int (x2))] [] w := by
  intro n
  induction n with
  | zero => intro x0 x1 x2 w hf; have hf : none = some q := hf; cases hf
  | succ n ih =>
    intro x0 x1 x2 w hf
    refine xk_iload_n hC dL_law_10 2 rfl rfl ?_
    refine xk_iconst (v := (2 : Int32)) hC dL_law_11 (by decide) ?_
    refine xk_icmp_ge (tgt := 45) hC dL_law_12 (by decide) (fun c1 => ?_) (fun c1 => ?_)
    · replace hf := (if_pos c1).symm.trans hf
      refine xk_iconst (v := (0 : Int32)) hC dL_law_45 (by decide) ?_
      refine xk_istore_n (i := 2) (lv' := [(2, .int ((0 : Int32))), (0, va_rf (x0)), (1, va_rf (x1))]) hC dL_law_46 rfl (by decide) (by simp [xk_cat1]) ?_
      refine xk_locals [1, 2, 0] rfl ?_
      exact t_L_law_47 hC hr hz hq 41 x0 x1 ((0 : Int32)) w _ _ (Nat.le_of_ble_eq_true rfl) (Nat.le_of_ble_eq_true rfl) hf
    · replace hf := (if_neg c1).symm.trans hf
      refine xk_aload_n hC dL_law_15 1 rfl rfl ?_
      refine xk_aload_n hC dL_law_16 0 rfl rfl ?_
      refine xk_iload_n hC dL_law_17 2 rfl rfl ?_
      obtain ⟨q2, h2, hf⟩ := xk_bi hf
      refine xk_backi (xk_callS hC 2 (c_L_cell h2) xm_738 xm_739 xm_0 xm_740 xd_L_cell rfl ⟨Nat.le_of_ble_eq_true rfl, Nat.le_of_ble_eq_true rfl⟩ rfl (by simp [xk_cat1, xk_cati, xk_catl, xk_catd]) dL_law_18 ⟨(Nat.le_of_ble_eq_true rfl), (Nat.le_of_ble_eq_true rfl)⟩) ?_
      refine xk_bipush (v := (9 : Int32)) hC dL_law_21 (by decide) ?_
      refine xk_imul hC dL_law_23 ?_
      refine xk_sipush (v := (2401 : Int32)) hC dL_law_24 (by decide) ?_
      obtain ⟨q3, h3, hf⟩ := xk_bi hf
      refine xk_backi (xk_callS hC 2 (c_L_below h3) xm_734 xm_735 xm_0 xm_736 xd_L_below rfl ⟨Nat.le_of_ble_eq_true rfl, Nat.le_of_ble_eq_true rfl⟩ rfl (by simp [xk_cat1, xk_cati, xk_catl, xk_catd]) dL_law_27 ⟨(Nat.le_of_ble_eq_true rfl), (Nat.le_of_ble_eq_true rfl)⟩) ?_
      obtain ⟨u5, h5, hf⟩ := xk_bi hf
      obtain ⟨q4, h4, hf⟩ := xk_bi hf
      refine xk_backi (xk_callV hC 1 xc_0 (c_X4_theme h4) h5 xm_282 xm_283 xm_284 xm_1 xm_285 ⟨rfl, xd_X4_theme⟩ rfl ⟨Nat.le_of_ble_eq_true rfl, Nat.le_of_ble_eq_true rfl⟩ rfl (Nat.le_of_ble_eq_true rfl) dL_law_30 ⟨(Nat.le_of_ble_eq_true rfl), (Nat.le_of_ble_eq_true rfl)⟩) ?_
      refine xk_iload_n hC dL_law_33 2 rfl rfl ?_
      refine xk_icmp_eq (tgt := 39) hC dL_law_34 (by decide) (fun c6 => ?_) (fun c6 => ?_)
      · replace hf := (if_pos c6).symm.trans hf
        refine xk_iinc (v := x2 + (1 : Int32)) (lv' := [(2, .int (x2 + (1 : Int32))), (0, va_rf (x0)), (1, va_rf (x1))]) hC dL_law_39 2 rfl rfl (by decide) (by simp [xk_cat1]) ?_
        refine xk_goto (tgt := 10) hC dL_law_42 (by decide) ?_
        refine xk_locals [1, 2, 0] rfl ?_
        exact ih x0 x1 (x2 + (1 : Int32)) (q4.2) hf
      · replace hf := (if_neg c6).symm.trans hf
        refine xk_iconst (v := (0 : Int32)) hC dL_law_37 (by decide) ?_
        cases hf
        exact xk_lawret hC hr hz hq (Nat.le_of_ble_eq_true rfl) (Nat.le_of_ble_eq_true rfl) dL_law_38
def f_L_law (x0 : Option Nat) (w : xWd) : Option (Int32 × xWd) := (some (xk_nw w 0 xf_0)).bind (fun w1 => (f_X4_init (w.2.1)  w1).bind (fun q2 => f_L_law_10 4096 x0 (some w.2.1) ((0 : Int32)) q2))
set_option maxHeartbeats 4000000 in
set_option maxRecDepth 100000 in
theorem t_L_law_0 {p : Program} {l : Launch} {e : Env} {s : State} {m : MethodId} {b : Nat} {below : List Frame} {meth : Method} {c : Code} {E : xEv} (hC : xk_C p (s.setDrawn s.drawn) m #[Value.ref b] meth c E code "ClickbookLaw" 19) (hr : meth.sig.returnType = ret) (hz : E.2.2.1 = s.heap.size) {q : (Int32 × xWd)} (hq : q.1 = 1) (x0 : Option Nat) (w : xWd) (hf : f_L_law x0 w = some q) : xk_X p l e room_1 (s.setDrawn s.drawn) m #[Value.ref b] below meth c (lw_Z below #[Value.ref b] s) E 19 0 0 0 [(0, va_rf (x0))] [] w := by
  obtain ⟨w1, h1, hf⟩ := xk_bi hf
  refine xk_newH hC xi_0 xc_0 xo_0 xm_21 xm_22 xm_1 xfo_0 (Nat.le_of_ble_eq_true rfl) (Nat.le_of_ble_eq_true rfl) dL_law_0 h1 ?_
  refine xk_dup hC dL_law_3 (xk_cat1 _) ?_
  obtain ⟨q2, h2, hf⟩ := xk_bi hf
  refine xk_backv (xk_callI hC 0 (c_X4_init h2) xm_23 xm_24 xm_1 xm_25 rfl xd_X4_init rfl ⟨Nat.le_of_ble_eq_true rfl, Nat.le_of_ble_eq_true rfl⟩ rfl (Nat.le_of_ble_eq_true rfl) dL_law_4 ⟨(Nat.le_of_ble_eq_true rfl), (Nat.le_of_ble_eq_true rfl)⟩) ?_
  refine xk_astore_n (i := 1) (lv' := [(1, va_rf (some w.2.1)), (0, va_rf (x0))]) hC dL_law_7 rfl (by decide) (by simp [xk_cat1]) ?_
  refine xk_iconst (v := (0 : Int32)) hC dL_law_8 (by decide) ?_
  refine xk_istore_n (i := 2) (lv' := [(2, .int ((0 : Int32))), (1, va_rf (some w.2.1)), (0, va_rf (x0))]) hC dL_law_9 rfl (by decide) rfl ?_
  refine xk_locals [2, 1, 0] rfl ?_
  exact t_L_law_10 hC hr hz hq 4096 x0 (some w.2.1) ((0 : Int32)) q2 hf
