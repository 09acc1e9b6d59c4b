def f_X0_init (x0 : Nat) (x1 : Int32) (x2 : Int32) (x3 : Int32) (x4 : Int32) (x5 : Int32) (x6 : Int32) (w : xWd) : Option xWd := (xk_pV w (some x0) 1 0 (.int (x1))).bind (fun w1 => (xk_pV w1 (some x0) 1 1 (.int (x2))).bind (fun w2 => (xk_pV w2 (some x0) 1 2 (.int (x3))).bind (fun w3 => (xk_pV w3 (some x0) 1 3 (.int (x4))).bind (fun w4 => (xk_pV w4 (some x0) 1 4 (.int (x5))).bind (fun w5 => (xk_pV w5 (some x0) 1 5 (.int (x6))).bind (fun w6 => (xk_nA w6 0 xk_d0 ((9 : Int32)) 64).bind (fun w7 => (xk_pV w7 (some x0) 1 8 (va_rf (some w6.2.1))).bind (fun w8 => (xk_nA w8 0 xk_d0 ((9 : Int32)) 64).bind (fun w9 => (xk_pV w9 (some x0) 1 9 (va_rf (some w8.2.1))).bind (fun w10 => (xk_nA w10 0 xk_d0 ((63 : Int32)) 64).bind (fun w11 => (xk_pV w11 (some x0) 1 12 (va_rf (some w10.2.1))).bind (fun w12 => some w12))))))))))))
set_option maxHeartbeats 4000000 in
set_option maxRecDepth 100000 in
theorem t_X0_init_0 {p : Program} {l : Launch} {e : Env} {s : State} {m : MethodId} {args : Array Value} {below : List Frame} {meth : Method} {c : Code} {E : xEv} (hC : xk_C p s m args meth c E prog_2_method_1_code "Clickbook$Cue" 7) (hr : meth.sig.returnType = none) (hin : meth.name = "<init>") {q : xWd} (x0 : Nat) (x1 : Int32) (x2 : Int32) (x3 : Int32) (x4 : Int32) (x5 : Int32) (x6 : Int32) (w : xWd) (hf : f_X0_init x0 x1 x2 x3 x4 x5 x6 w = some q) : xk_X p l e { frames := 1, cells := 3, slots := 192, locals := 20 } s m args below meth c (MQ below (xk_Qv E q) args s 3 192 (xk_A E.2.2.1)) E 7 0 0 0 [(0, va_rf (some x0)), (1, .int (x1)), (2, .int (x2)), (3, .int (x3)), (4, .int (x4)), (5, .int (x5)), (6, .int (x6))] [] w := by
  refine xk_aload_n hC dX0_init_0 0 rfl rfl ?_
  refine xk_objI hC xm_316 xm_27 xm_28 dX0_init_1 (Nat.le_of_ble_eq_true rfl) (Nat.le_of_ble_eq_true rfl) ?_
  refine xk_aload_n hC dX0_init_4 0 rfl rfl ?_
  refine xk_iload_n hC dX0_init_5 1 rfl rfl ?_
  obtain ⟨w1, h1, hf⟩ := xk_bi hf
  refine xk_putF hC xi_1 xc_1 xo_1 xn_1 0 (by decide) xm_317 (Or.inl rfl) rfl hin rfl rfl rfl dX0_init_6 h1 ?_
  refine xk_aload_n hC dX0_init_9 0 rfl rfl ?_
  refine xk_iload_n hC dX0_init_10 2 rfl rfl ?_
  obtain ⟨w2, h2, hf⟩ := xk_bi hf
  refine xk_put hC xi_1 xc_1 xo_1 xn_1 1 (by decide) xm_319 (Or.inl rfl) rfl rfl rfl dX0_init_11 h2 ?_
  refine xk_aload_n hC dX0_init_14 0 rfl rfl ?_
  refine xk_iload_n hC dX0_init_15 3 rfl rfl ?_
  obtain ⟨w3, h3, hf⟩ := xk_bi hf
  refine xk_putF hC xi_1 xc_1 xo_1 xn_1 2 (by decide) xm_321 (Or.inl rfl) rfl hin rfl rfl rfl dX0_init_16 h3 ?_
  refine xk_aload_n hC dX0_init_19 0 rfl rfl ?_
  refine xk_iload hC dX0_init_20 4 rfl ?_
  obtain ⟨w4, h4, hf⟩ := xk_bi hf
  refine xk_putF hC xi_1 xc_1 xo_1 xn_1 3 (by decide) xm_323 (Or.inl rfl) rfl hin rfl rfl rfl dX0_init_22 h4 ?_
  refine xk_aload_n hC dX0_init_25 0 rfl rfl ?_
  refine xk_iload hC dX0_init_26 5 rfl ?_
  obtain ⟨w5, h5, hf⟩ := xk_bi hf
  refine xk_putF hC xi_1 xc_1 xo_1 xn_1 4 (by decide) xm_325 (Or.inl rfl) rfl hin rfl rfl rfl dX0_init_28 h5 ?_
  refine xk_aload_n hC dX0_init_31 0 rfl rfl ?_
  refine xk_iload hC dX0_init_32 6 rfl ?_
  obtain ⟨w6, h6, hf⟩ := xk_bi hf
  refine xk_putF hC xi_1 xc_1 xo_1 xn_1 5 (by decide) xm_327 (Or.inl rfl) rfl hin rfl rfl rfl dX0_init_34 h6 ?_
  refine xk_aload_n hC dX0_init_37 0 rfl rfl ?_
  refine xk_bipush (v := (9 : Int32)) hC dX0_init_38 (by decide) ?_
  obtain ⟨w7, h7, hf⟩ := xk_bi hf
  refine xk_newarr (cap := 64) (atype := .int) (ty := .int) (kd := 0) hC rfl xm_73 (by decide) rfl (fun _ _ => rfl) (Nat.le_of_ble_eq_true rfl) (Nat.le_of_ble_eq_true rfl) (Nat.le_of_ble_eq_true rfl) dX0_init_40 h7 ?_
  obtain ⟨w8, h8, hf⟩ := xk_bi hf
  refine xk_putF hC xi_1 xc_1 xo_1 xn_1 8 (by decide) xm_335 (Or.inl rfl) rfl hin rfl (xk_nra _ _) (xk_fra _ _) dX0_init_42 h8 ?_
  refine xk_aload_n hC dX0_init_45 0 rfl rfl ?_
  refine xk_bipush (v := (9 : Int32)) hC dX0_init_46 (by decide) ?_
  obtain ⟨w9, h9, hf⟩ := xk_bi hf
  refine xk_newarr (cap := 64) (atype := .int) (ty := .int) (kd := 0) hC rfl xm_73 (by decide) rfl (fun _ _ => rfl) (Nat.le_of_ble_eq_true rfl) (Nat.le_of_ble_eq_true rfl) (Nat.le_of_ble_eq_true rfl) dX0_init_48 h9 ?_
  obtain ⟨w10, h10, hf⟩ := xk_bi hf
  refine xk_putF hC xi_1 xc_1 xo_1 xn_1 9 (by decide) xm_337 (Or.inl rfl) rfl hin rfl (xk_nra _ _) (xk_fra _ _) dX0_init_50 h10 ?_
  refine xk_aload_n hC dX0_init_53 0 rfl rfl ?_
  refine xk_bipush (v := (63 : Int32)) hC dX0_init_54 (by decide) ?_
  obtain ⟨w11, h11, hf⟩ := xk_bi hf
  refine xk_newarr (cap := 64) (atype := .int) (ty := .int) (kd := 0) hC rfl xm_73 (by decide) rfl (fun _ _ => rfl) (Nat.le_of_ble_eq_true rfl) (Nat.le_of_ble_eq_true rfl) (Nat.le_of_ble_eq_true rfl) dX0_init_56 h11 ?_
  obtain ⟨w12, h12, hf⟩ := xk_bi hf
  refine xk_putF hC xi_1 xc_1 xo_1 xn_1 12 (by decide) xm_343 (Or.inl rfl) rfl hin rfl (xk_nra _ _) (xk_fra _ _) dX0_init_58 h12 ?_
  cases hf
  refine xk_widen (k := 3) (n := 192) (Nat.le_of_ble_eq_true rfl) (Nat.le_of_ble_eq_true rfl) ?_
  exact xk_vret hC hr dX0_init_61
theorem xd_X0_init : xy_X0_init.cls ≠ "java/lang/invoke/MethodHandle" ∧ xy_X0_init.cls ≠ "java/lang/invoke/VarHandle" ∧ (parseMethodDescriptor xy_X0_init.desc).map (fun d => d.parameters.length) = some 6 := ⟨by decide +kernel, by decide +kernel, by decide +kernel⟩
theorem c_X0_init {l : Launch} {E : xEv} {x0 : Nat} {x1 : Int32} {x2 : Int32} {x3 : Int32} {x4 : Int32} {x5 : Int32} {x6 : Int32} {w : xWd} {q : xWd} (hf : f_X0_init x0 x1 x2 x3 x4 x5 x6 w = some q) : xk_M l xy_X0_init prog_2_method_1_code 7 none 1 20 3 192 E [va_rf (some x0), .int (x1), .int (x2), .int (x3), .int (x4), .int (x5), .int (x6)] w (xk_Qv E q) := by
  refine xk_enter (by decide +kernel) (by simp [lg_sl, xk_cat1, xk_cati, xk_catl, xk_catd]) ?_
  intro p e s m args below meth c hC hr hin ha
  rw [show lv_args 0 [va_rf (some x0), .int (x1), .int (x2), .int (x3), .int (x4), .int (x5), .int (x6)] = [(0, va_rf (some x0)), (1, .int (x1)), (2, .int (x2)), (3, .int (x3)), (4, .int (x4)), (5, .int (x5)), (6, .int (x6))] by simp [lv_args, xk_cat1, xk_cati, xk_catl, xk_catd]]
  exact t_X0_init_0 hC hr (hin rfl) x0 x1 x2 x3 x4 x5 x6 w hf
def f_X0_firstBeat_30 (x2 : Int32) (w : xWd) : Option (Int32 × xWd) := some (x2, w)
set_option maxHeartbeats 4000000 in
set_option maxRecDepth 100000 in
theorem t_X0_firstBeat_30 {p : Program} {l : Launch} {e : Env} {s : State} {m : MethodId} {args : Array Value} {below : List Frame} {meth : Method} {c : Code} {E : xEv} (hC : xk_C p s m args meth c E prog_2_method_4_code "Clickbook$Cue" 4) (hr : meth.sig.returnType = (some .int)) {q : (Int32 × xWd)} (x2 : Int32) (w : xWd) (hf : f_X0_firstBeat_30 x2 w = some q) : xk_X p l e { frames := 0, cells := 0, slots := 0, locals := 0 } s m args below meth c (MQ below (xk_Qi E q) args s 0 0 (xk_A E.2.2.1)) E 4 0 0 30 [(2, .int (x2))] [] w := by
  refine xk_iload_n hC dX0_firstBeat_30 0 rfl rfl ?_
  cases hf
  refine xk_widen (k := 0) (n := 0) (Nat.le_of_ble_eq_true rfl) (Nat.le_of_ble_eq_true rfl) ?_
  exact xk_iret hC hr rfl dX0_firstBeat_31
def f_X0_firstBeat_4 : Nat → Option Nat → Int32 → Int32 → Int32 → xWd → Option (Int32 × xWd)
  | 0, _, _, _, _, _ => none
  | n + 1, x0, x1, x2, x3, w => if (x1) ≤ (x3) then f_X0_firstBeat_30 x2 w else if ((9 : Int32)) ≤ (x3) then f_X0_firstBeat_30 x2 w else (xk_gR w (x0) 1 8).bind (fun v3 => (xk_lI 0 w (v3) (x3)).bind (fun v4 => f_X0_firstBeat_4 n x0 x1 ((x2) + (v4)) (x3 + (1 : Int32)) w))
set_option maxHeartbeats 4000000 in
set_option maxRecDepth 100000 in
theorem t_X0_firstBeat_4 {p : Program} {l : Launch} {e : Env} {s : State} {m : MethodId} {args : Array Value} {below : List Frame} {meth : Method} {c : Code} {E : xEv} (hC : xk_C p s m args meth c E prog_2_method_4_code "Clickbook$Cue" 4) (hr : meth.sig.returnType = (some .int)) {q : (Int32 × xWd)} : ∀ (n : Nat) (x0 : Option Nat) (x1 : Int32) (x2 : Int32) (x3 : Int32) (w : xWd), f_X0_firstBeat_4 n x0 x1 x2 x3 w = some q → xk_X p l e { frames := 0, cells := 0, slots := 0, locals := 0 } s m args below meth c (MQ below (xk_Qi E q) args s 0 0 (xk_A E.2.2.1)) E 4 0 0 4 [(0, va_rf (x0)), (1, .int (x1)), (2, .int (x2)), (3, .int (x3))] [] w := by
  intro n
  induction n with
  | zero => intro x0 x1 x2 x3 w hf; have hf : none = some q := hf; cases hf
  | succ n ih =>
    intro x0 x1 x2 x3 w hf
    refine xk_iload_n hC dX0_firstBeat_4 3 rfl rfl ?_
    refine xk_iload_n hC dX0_firstBeat_5 1 rfl rfl ?_
    refine xk_icmp_ge (tgt := 30) hC dX0_firstBeat_6 (by decide) (fun c1 => ?_) (fun c1 => ?_)
    · replace hf := (if_pos c1).symm.trans hf
      refine xk_locals [2] rfl ?_
      exact t_X0_firstBeat_30 hC hr x2 w hf
    · replace hf := (if_neg c1).symm.trans hf
      refine xk_iload_n hC dX0_firstBeat_9 3 rfl rfl ?_
      refine xk_bipush (v := (9 : Int32)) hC dX0_firstBeat_10 (by decide) ?_
      refine xk_icmp_ge (tgt := 30) hC dX0_firstBeat_12 (by decide) (fun c2 => ?_) (fun c2 => ?_)
      · replace hf := (if_pos c2).symm.trans hf
        refine xk_locals [2] rfl ?_
        exact t_X0_firstBeat_30 hC hr x2 w hf
      · replace hf := (if_neg c2).symm.trans hf
        refine xk_iload_n hC dX0_firstBeat_15 2 rfl rfl ?_
        refine xk_aload_n hC dX0_firstBeat_16 0 rfl rfl ?_
        obtain ⟨v3, h3, hf⟩ := xk_bi hf
        refine xk_getR hC xi_1 xc_1 8 (by decide) xm_335 (Or.inl rfl) dX0_firstBeat_17 h3 ?_
        refine xk_iload_n hC dX0_firstBeat_20 3 rfl rfl ?_
        obtain ⟨v4, h4, hf⟩ := xk_bi hf
        refine xk_iald hC rfl dX0_firstBeat_21 h4 ?_
        refine xk_iadd hC dX0_firstBeat_22 ?_
        refine xk_istore_n (i := 2) (lv' := [(2, .int ((x2) + (v4))), (0, va_rf (x0)), (1, .int (x1)), (3, .int (x3))]) hC dX0_firstBeat_23 rfl (by decide) rfl ?_
        refine xk_iinc (v := x3 + (1 : Int32)) (lv' := [(3, .int (x3 + (1 : Int32))), (2, .int ((x2) + (v4))), (0, va_rf (x0)), (1, .int (x1))]) hC dX0_firstBeat_24 3 rfl rfl (by decide) rfl ?_
        refine xk_goto (tgt := 4) hC dX0_firstBeat_27 (by decide) ?_
        refine xk_locals [2, 3, 1, 0] rfl ?_
        exact ih x0 x1 ((x2) + (v4)) (x3 + (1 : Int32)) w hf
def f_X0_firstBeat (x0 : Option Nat) (x1 : Int32) (w : xWd) : Option (Int32 × xWd) := f_X0_firstBeat_4 4096 x0 x1 ((0 : Int32)) ((0 : Int32)) w
set_option maxHeartbeats 4000000 in
set_option maxRecDepth 100000 in
theorem t_X0_firstBeat_0 {p : Program} {l : Launch} {e : Env} {s : State} {m : MethodId} {args : Array Value} {below : List Frame} {meth : Method} {c : Code} {E : xEv} (hC : xk_C p s m args meth c E prog_2_method_4_code "Clickbook$Cue" 4) (hr : meth.sig.returnType = (some .int)) {q : (Int32 × xWd)} (x0 : Option Nat) (x1 : Int32) (w : xWd) (hf : f_X0_firstBeat x0 x1 w = some q) : xk_X p l e { frames := 0, cells := 0, slots := 0, locals := 0 } s m args below meth c (MQ below (xk_Qi E q) args s 0 0 (xk_A E.2.2.1)) E 4 0 0 0 [(0, va_rf (x0)), (1, .int (x1))] [] w := by
  refine xk_iconst (v := (0 : Int32)) hC dX0_firstBeat_0 (by decide) ?_
  refine xk_istore_n (i := 2) (lv' := [(2, .int ((0 : Int32))), (0, va_rf (x0)), (1, .int (x1))]) hC dX0_firstBeat_1 rfl (by decide) rfl ?_
  refine xk_iconst (v := (0 : Int32)) hC dX0_firstBeat_2 (by decide) ?_
  refine xk_istore_n (i := 3) (lv' := [(3, .int ((0 : Int32))), (2, .int ((0 : Int32))), (0, va_rf (x0)), (1, .int (x1))]) hC dX0_firstBeat_3 rfl (by decide) rfl ?_
  refine xk_locals [2, 3, 1, 0] rfl ?_
  exact t_X0_firstBeat_4 hC hr 4096 x0 x1 ((0 : Int32)) ((0 : Int32)) w hf
theorem xd_X0_firstBeat : xy_X0_firstBeat.cls ≠ "java/lang/invoke/MethodHandle" ∧ xy_X0_firstBeat.cls ≠ "java/lang/invoke/VarHandle" ∧ (parseMethodDescriptor xy_X0_firstBeat.desc).map (fun d => d.parameters.length) = some 1 := ⟨by decide +kernel, by decide +kernel, by decide +kernel⟩
theorem c_X0_firstBeat {l : Launch} {E : xEv} {x0 : Option Nat} {x1 : Int32} {w : xWd} {q : (Int32 × xWd)} (hf : f_X0_firstBeat x0 x1 w = some q) : xk_M l xy_X0_firstBeat prog_2_method_4_code 4 (some .int) 0 0 0 0 E [va_rf (x0), .int (x1)] w (xk_Qi E q) := by
  refine xk_enter (by decide +kernel) (by simp [lg_sl, xk_cat1, xk_cati, xk_catl, xk_catd]) ?_
  intro p e s m args below meth c hC hr hin ha
  rw [show lv_args 0 [va_rf (x0), .int (x1)] = [(0, va_rf (x0)), (1, .int (x1))] by simp [lv_args, xk_cat1, xk_cati, xk_catl, xk_catd]]
  exact t_X0_firstBeat_0 hC hr x0 x1 w hf
def f_X0_layOut_90 (k9 : Option Nat → Option Nat → Int32 → Int32 → Int32 → Int32 → Int32 → xWd → Option (Int32 × xWd)) (x0 : Option Nat) (x1 : Option Nat) (x2 : Int32) (x3 : Int32) (x4 : Int32) (x5 : Int32) (x6 : Int32) (w : xWd) : Option (Int32 × xWd) := k9 x0 x1 x2 x3 x4 x5 (x6 + (1 : Int32)) w
set_option maxHeartbeats 4000000 in
set_option maxRecDepth 100000 in
theorem t_X0_layOut_90 {p : Program} {l : Launch} {e : Env} {s : State} {m : MethodId} {args : Array Value} {below : List Frame} {meth : Method} {c : Code} {E : xEv} (hC : xk_C p s m args meth c E prog_2_method_3_code "Clickbook$Cue" 9) (hr : meth.sig.returnType = (some .int)) {q : (Int32 × xWd)} {k9 : Option Nat → Option Nat → Int32 → Int32 → Int32 → Int32 → Int32 → xWd → Option (Int32 × xWd)} (hk9 : ∀ (x0 : Option Nat) (x1 : Option Nat) (x2 : Int32) (x3 : Int32) (x4 : Int32) (x5 : Int32) (x6 : Int32) (w : xWd), k9 x0 x1 x2 x3 x4 x5 x6 w = some q → xk_X p l e { frames := 0, cells := 0, slots := 0, locals := 0 } s m args below meth c (MQ below (xk_Qi E q) args s 0 0 (xk_A E.2.2.1)) E 9 0 0 9 [(0, va_rf (x0)), (1, va_rf (x1)), (2, .int (x2)), (3, .int (x3)), (4, .int (x4)), (5, .int (x5)), (6, .int (x6))] [] w) (x0 : Option Nat) (x1 : Option Nat) (x2 : Int32) (x3 : Int32) (x4 : Int32) (x5 : Int32) (x6 : Int32) (w : xWd) (hf : f_X0_layOut_90 k9 x0 x1 x2 x3 x4 x5 x6 w = some q) : xk_X p l e { frames := 0, cells := 0, slots := 0, locals := 0 } s m args below meth c (MQ below (xk_Qi E q) args s 0 0 (xk_A E.2.2.1)) E 9 0 0 90 [(0, va_rf (x0)), (1, va_rf (x1)), (2, .int (x2)), (3, .int (x3)), (4, .int (x4)), (5, .int (x5)), (6, .int (x6))] [] w := by
  refine xk_iinc (v := x6 + (1 : Int32)) (lv' := [(6, .int (x6 + (1 : Int32))), (0, va_rf (x0)), (1, va_rf (x1)), (2, .int (x2)), (3, .int (x3)), (4, .int (x4)), (5, .int (x5))]) hC dX0_layOut_90 6 rfl rfl (by decide) rfl ?_
  refine xk_goto (tgt := 9) hC dX0_layOut_93 (by decide) ?_
  refine xk_locals [1, 2, 3, 4, 5, 6, 0] rfl ?_
  exact hk9 x0 x1 x2 x3 x4 x5 (x6 + (1 : Int32)) w hf
def f_X0_layOut_47 (k9 : Option Nat → Option Nat → Int32 → Int32 → Int32 → Int32 → Int32 → xWd → Option (Int32 × xWd)) : Nat → Option Nat → Option Nat → Int32 → Int32 → Int32 → Int32 → Int32 → Int32 → Int32 → xWd → Option (Int32 × xWd)
  | 0, _, _, _, _, _, _, _, _, _, _ => none
  | n + 1, x0, x1, x2, x3, x4, x5, x6, x7, x8, w => (xk_gR w (x0) 1 8).bind (fun v1 => (xk_lI 0 w (v1) (x6)).bind (fun v2 => if (v2) ≤ (x8) then f_X0_layOut_90 k9 x0 x1 x2 x3 x4 x5 x6 w else (xk_len w (x1)).bind (fun v4 => if (v4) ≤ (x5) then f_X0_layOut_90 k9 x0 x1 x2 x3 x4 x5 x6 w else (xk_nz ((4 : Int32))).bind (fun u6 => (xk_sI 0 w (x1) (x5) ((x4) / ((4 : Int32)))).bind (fun w7 => f_X0_layOut_47 k9 n x0 x1 x2 x3 ((x4) + (x7)) (x5 + (1 : Int32)) x6 x7 (x8 + (1 : Int32)) w7)))))
set_option maxHeartbeats 4000000 in
set_option maxRecDepth 100000 in
theorem t_X0_layOut_47 {p : Program} {l : Launch} {e : Env} {s : State} {m : MethodId} {args : Array Value} {below : List Frame} {meth : Method} {c : Code} {E : xEv} (hC : xk_C p s m args meth c E prog_2_method_3_code "Clickbook$Cue" 9) (hr : meth.sig.returnType = (some .int)) {q : (Int32 × xWd)} {k9 : Option Nat → Option Nat → Int32 → Int32 → Int32 → Int32 → Int32 → xWd → Option (Int32 × xWd)} (hk9 : ∀ (x0 : Option Nat) (x1 : Option Nat) (x2 : Int32) (x3 : Int32) (x4 : Int32) (x5 : Int32) (x6 : Int32) (w : xWd), k9 x0 x1 x2 x3 x4 x5 x6 w = some q → xk_X p l e { frames := 0, cells := 0, slots := 0, locals := 0 } s m args below meth c (MQ below (xk_Qi E q) args s 0 0 (xk_A E.2.2.1)) E 9 0 0 9 [(0, va_rf (x0)), (1, va_rf (x1)), (2, .int (x2)), (3, .int (x3)), (4, .int (x4)), (5, .int (x5)), (6, .int (x6))] [] w) : ∀ (n : Nat) (x0 : Option Nat) (x1 : Option Nat) (x2 : Int32) (x3 : Int32) (x4 : Int32) (x5 : Int32) (x6 : Int32) (x7 : Int32) (x8 : Int32) (w : xWd), f_X0_layOut_47 k9 n x0 x1 x2 x3 x4 x5 x6 x7 x8 w = some q → xk_X p l e { frames := 0, cells := 0, slots := 0, locals := 0 } s m args below meth c (MQ below (xk_Qi E q) args s 0 0 (xk_A E.2.2.1)) E 9 0 0 47 [(0, va_rf (x0)), (1, va_rf (x1)), (2, .int (x2)), (3, .int (x3)), (4, .int (x4)), (5, .int (x5)), (6, .int (x6)), (7, .int (x7)), (8, .int (x8))] [] w := by
  intro n
  induction n with
  | zero => intro x0 x1 x2 x3 x4 x5 x6 x7 x8 w hf; have hf : none = some q := hf; cases hf
  | succ n ih =>
    intro x0 x1 x2 x3 x4 x5 x6 x7 x8 w hf
    refine xk_iload hC dX0_layOut_47 8 rfl ?_
    refine xk_aload_n hC dX0_layOut_49 0 rfl rfl ?_
    obtain ⟨v1, h1, hf⟩ := xk_bi hf
    refine xk_getR hC xi_1 xc_1 8 (by decide) xm_335 (Or.inl rfl) dX0_layOut_50 h1 ?_
    refine xk_iload hC dX0_layOut_53 6 rfl ?_
    obtain ⟨v2, h2, hf⟩ := xk_bi hf
    refine xk_iald hC rfl dX0_layOut_55 h2 ?_
    refine xk_icmp_ge (tgt := 90) hC dX0_layOut_56 (by decide) (fun c3 => ?_) (fun c3 => ?_)
    · replace hf := (if_pos c3).symm.trans hf
      refine xk_locals [0, 1, 2, 3, 4, 5, 6] rfl ?_
      exact t_X0_layOut_90 hC hr hk9 x0 x1 x2 x3 x4 x5 x6 w hf
    · replace hf := (if_neg c3).symm.trans hf
      refine xk_iload hC dX0_layOut_59 5 rfl ?_
      refine xk_aload_n hC dX0_layOut_61 1 rfl rfl ?_
      obtain ⟨v4, h4, hf⟩ := xk_bi hf
      refine xk_alen hC dX0_layOut_62 h4 ?_
      refine xk_icmp_ge (tgt := 90) hC dX0_layOut_63 (by decide) (fun c5 => ?_) (fun c5 => ?_)
      · replace hf := (if_pos c5).symm.trans hf
        refine xk_locals [0, 1, 2, 3, 4, 5, 6] rfl ?_
        exact t_X0_layOut_90 hC hr hk9 x0 x1 x2 x3 x4 x5 x6 w hf
      · replace hf := (if_neg c5).symm.trans hf
        refine xk_aload_n hC dX0_layOut_66 1 rfl rfl ?_
        refine xk_iload hC dX0_layOut_67 5 rfl ?_
        refine xk_iload hC dX0_layOut_69 4 rfl ?_
        refine xk_iconst (v := (4 : Int32)) hC dX0_layOut_71 (by decide) ?_
        obtain ⟨u6, h6, hf⟩ := xk_bi hf
        refine xk_idiv hC dX0_layOut_72 (xk_nz_e h6) ?_
        obtain ⟨w7, h7, hf⟩ := xk_bi hf
        refine xk_iast hC rfl dX0_layOut_73 h7 ?_
        refine xk_iload hC dX0_layOut_74 4 rfl ?_
        refine xk_iload hC dX0_layOut_76 7 rfl ?_
        refine xk_iadd hC dX0_layOut_78 ?_
        refine xk_istore (i := 4) (lv' := [(4, .int ((x4) + (x7))), (0, va_rf (x0)), (1, va_rf (x1)), (2, .int (x2)), (3, .int (x3)), (5, .int (x5)), (6, .int (x6)), (7, .int (x7)), (8, .int (x8))]) hC dX0_layOut_79 (by decide) rfl ?_
        refine xk_iinc (v := x5 + (1 : Int32)) (lv' := [(5, .int (x5 + (1 : Int32))), (4, .int ((x4) + (x7))), (0, va_rf (x0)), (1, va_rf (x1)), (2, .int (x2)), (3, .int (x3)), (6, .int (x6)), (7, .int (x7)), (8, .int (x8))]) hC dX0_layOut_81 5 rfl rfl (by decide) rfl ?_
        refine xk_iinc (v := x8 + (1 : Int32)) (lv' := [(8, .int (x8 + (1 : Int32))), (5, .int (x5 + (1 : Int32))), (4, .int ((x4) + (x7))), (0, va_rf (x0)), (1, va_rf (x1)), (2, .int (x2)), (3, .int (x3)), (6, .int (x6)), (7, .int (x7))]) hC dX0_layOut_84 8 rfl rfl (by decide) rfl ?_
        refine xk_goto (tgt := 47) hC dX0_layOut_87 (by decide) ?_
        refine xk_locals [3, 4, 5, 6, 2, 1, 7, 8, 0] rfl ?_
        exact ih x0 x1 x2 x3 ((x4) + (x7)) (x5 + (1 : Int32)) x6 x7 (x8 + (1 : Int32)) w7 hf
def f_X0_layOut_42 (k9 : Option Nat → Option Nat → Int32 → Int32 → Int32 → Int32 → Int32 → xWd → Option (Int32 × xWd)) (x0 : Option Nat) (x1 : Option Nat) (x2 : Int32) (x3 : Int32) (x4 : Int32) (x5 : Int32) (x6 : Int32) (s0 : Int32) (w : xWd) : Option (Int32 × xWd) := f_X0_layOut_47 k9 4096 x0 x1 x2 x3 x4 x5 x6 s0 ((0 : Int32)) w
set_option maxHeartbeats 4000000 in
set_option maxRecDepth 100000 in
theorem t_X0_layOut_42 {p : Program} {l : Launch} {e : Env} {s : State} {m : MethodId} {args : Array Value} {below : List Frame} {meth : Method} {c : Code} {E : xEv} (hC : xk_C p s m args meth c E prog_2_method_3_code "Clickbook$Cue" 9) (hr : meth.sig.returnType = (some .int)) {q : (Int32 × xWd)} {k9 : Option Nat → Option Nat → Int32 → Int32 → Int32 → Int32 → Int32 → xWd → Option (Int32 × xWd)} (hk9 : ∀ (x0 : Option Nat) (x1 : Option Nat) (x2 : Int32) (x3 : Int32) (x4 : Int32) (x5 : Int32) (x6 : Int32) (w : xWd), k9 x0 x1 x2 x3 x4 x5 x6 w = some q → xk_X p l e { frames := 0, cells := 0, slots := 0, locals := 0 } s m args below meth c (MQ below (xk_Qi E q) args s 0 0 (xk_A E.2.2.1)) E 9 0 0 9 [(0, va_rf (x0)), (1, va_rf (x1)), (2, .int (x2)), (3, .int (x3)), (4, .int (x4)), (5, .int (x5)), (6, .int (x6))] [] w) (x0 : Option Nat) (x1 : Option Nat) (x2 : Int32) (x3 : Int32) (x4 : Int32) (x5 : Int32) (x6 : Int32) (s0 : Int32) (w : xWd) (hf : f_X0_layOut_42 k9 x0 x1 x2 x3 x4 x5 x6 s0 w = some q) : xk_X p l e { frames := 0, cells := 0, slots := 0, locals := 0 } s m args below meth c (MQ below (xk_Qi E q) args s 0 0 (xk_A E.2.2.1)) E 9 0 0 42 [(0, va_rf (x0)), (1, va_rf (x1)), (2, .int (x2)), (3, .int (x3)), (4, .int (x4)), (5, .int (x5)), (6, .int (x6))] [.int (s0)] w := by
  refine xk_istore (i := 7) (lv' := [(7, .int (s0)), (0, va_rf (x0)), (1, va_rf (x1)), (2, .int (x2)), (3, .int (x3)), (4, .int (x4)), (5, .int (x5)), (6, .int (x6))]) hC dX0_layOut_42 (by decide) rfl ?_
  refine xk_iconst (v := (0 : Int32)) hC dX0_layOut_44 (by decide) ?_
  refine xk_istore (i := 8) (lv' := [(8, .int ((0 : Int32))), (7, .int (s0)), (0, va_rf (x0)), (1, va_rf (x1)), (2, .int (x2)), (3, .int (x3)), (4, .int (x4)), (5, .int (x5)), (6, .int (x6))]) hC dX0_layOut_45 (by decide) rfl ?_
  refine xk_locals [2, 3, 4, 5, 6, 7, 8, 1, 0] rfl ?_
  exact t_X0_layOut_47 hC hr hk9 4096 x0 x1 x2 x3 x4 x5 x6 s0 ((0 : Int32)) w hf
def f_X0_layOut_96 (x4 : Int32) (w : xWd) : Option (Int32 × xWd) := some (x4, w)
set_option maxHeartbeats 4000000 in
set_option maxRecDepth 100000 in
theorem t_X0_layOut_96 {p : Program} {l : Launch} {e : Env} {s : State} {m : MethodId} {args : Array Value} {below : List Frame} {meth : Method} {c : Code} {E : xEv} (hC : xk_C p s m args meth c E prog_2_method_3_code "Clickbook$Cue" 9) (hr : meth.sig.returnType = (some .int)) {q : (Int32 × xWd)} (x4 : Int32) (w : xWd) (hf : f_X0_layOut_96 x4 w = some q) : xk_X p l e { frames := 0, cells := 0, slots := 0, locals := 0 } s m args below meth c (MQ below (xk_Qi E q) args s 0 0 (xk_A E.2.2.1)) E 9 0 0 96 [(4, .int (x4))] [] w := by
  refine xk_iload hC dX0_layOut_96 0 rfl ?_
  cases hf
  refine xk_widen (k := 0) (n := 0) (Nat.le_of_ble_eq_true rfl) (Nat.le_of_ble_eq_true rfl) ?_
  exact xk_iret hC hr rfl dX0_layOut_98
def f_X0_layOut_9 : Nat → Option Nat → Option Nat → Int32 → Int32 → Int32 → Int32 → Int32 → xWd → Option (Int32 × xWd)
  | 0, _, _, _, _, _, _, _, _ => none
  | n + 1, x0, x1, x2, x3, x4, x5, x6, w => (xk_gI w (x0) 1 7).bind (fun v1 => if (v1) ≤ (x6) then f_X0_layOut_96 x4 w else if ((9 : Int32)) ≤ (x6) then f_X0_layOut_96 x4 w else if (x6) = (x2) then f_X0_layOut_42 (f_X0_layOut_9 n) x0 x1 x2 x3 x4 x5 x6 x3 w else (xk_gR w (x0) 1 9).bind (fun v5 => (xk_lI 0 w (v5) (x6)).bind (fun v6 => f_X0_layOut_42 (f_X0_layOut_9 n) x0 x1 x2 x3 x4 x5 x6 v6 w)))
set_option maxHeartbeats 4000000 in
set_option maxRecDepth 100000 in
theorem t_X0_layOut_9 {p : Program} {l : Launch} {e : Env} {s : State} {m : MethodId} {args : Array Value} {below : List Frame} {meth : Method} {c : Code} {E : xEv} (hC : xk_C p s m args meth c E prog_2_method_3_code "Clickbook$Cue" 9) (hr : meth.sig.returnType = (some .int)) {q : (Int32 × xWd)} : ∀ (n : Nat) (x0 : Option Nat) (x1 : Option Nat) (x2 : Int32) (x3 : Int32) (x4 : Int32) (x5 : Int32) (x6 : Int32) (w : xWd), f_X0_layOut_9 n x0 x1 x2 x3 x4 x5 x6 w = some q → xk_X p l e { frames := 0, cells := 0, slots := 0, locals := 0 } s m args below meth c (MQ below (xk_Qi E q) args s 0 0 (xk_A E.2.2.1)) E 9 0 0 9 [(0, va_rf (x0)), (1, va_rf (x1)), (2, .int (x2)), (3, .int (x3)), (4, .int (x4)), (5, .int (x5)), (6, .int (x6))] [] w := by
  intro n
  induction n with
  | zero => intro x0 x1 x2 x3 x4 x5 x6 w hf; have hf : none = some q := hf; cases hf
  | succ n ih =>
    intro x0 x1 x2 x3 x4 x5 x6 w hf
    refine xk_iload hC dX0_layOut_9 6 rfl ?_
    refine xk_aload_n hC dX0_layOut_11 0 rfl rfl ?_
    obtain ⟨v1, h1, hf⟩ := xk_bi hf
    refine xk_getI hC xi_1 xc_1 7 (by decide) xm_333 (Or.inl rfl) dX0_layOut_12 h1 ?_
    refine xk_icmp_ge (tgt := 96) hC dX0_layOut_15 (by decide) (fun c2 => ?_) (fun c2 => ?_)
    · replace hf := (if_pos c2).symm.trans hf
      refine xk_locals [4] rfl ?_
      exact t_X0_layOut_96 hC hr x4 w hf
    · replace hf := (if_neg c2).symm.trans hf
      refine xk_iload hC dX0_layOut_18 6 rfl ?_
      refine xk_bipush (v := (9 : Int32)) hC dX0_layOut_20 (by decide) ?_
      refine xk_icmp_ge (tgt := 96) hC dX0_layOut_22 (by decide) (fun c3 => ?_) (fun c3 => ?_)
      · replace hf := (if_pos c3).symm.trans hf
        refine xk_locals [4] rfl ?_
        exact t_X0_layOut_96 hC hr x4 w hf
      · replace hf := (if_neg c3).symm.trans hf
        refine xk_iload hC dX0_layOut_25 6 rfl ?_
        refine xk_iload_n hC dX0_layOut_27 2 rfl rfl ?_
        refine xk_icmp_ne (tgt := 35) hC dX0_layOut_28 (by decide) (fun c4 => ?_) (fun c4 => ?_)
        · replace hf := (if_neg c4).symm.trans hf
          refine xk_aload_n hC dX0_layOut_35 0 rfl rfl ?_
          obtain ⟨v5, h5, hf⟩ := xk_bi hf
          refine xk_getR hC xi_1 xc_1 9 (by decide) xm_337 (Or.inl rfl) dX0_layOut_36 h5 ?_
          refine xk_iload hC dX0_layOut_39 6 rfl ?_
          obtain ⟨v6, h6, hf⟩ := xk_bi hf
          refine xk_iald hC rfl dX0_layOut_41 h6 ?_
          exact t_X0_layOut_42 hC hr (fun x0 x1 x2 x3 x4 x5 x6 w hf => ih x0 x1 x2 x3 x4 x5 x6 w hf) x0 x1 x2 x3 x4 x5 x6 v6 w hf
        · replace hf := (if_pos c4).symm.trans hf
          refine xk_iload_n hC dX0_layOut_31 3 rfl rfl ?_
          refine xk_goto (tgt := 42) hC dX0_layOut_32 (by decide) ?_
          exact t_X0_layOut_42 hC hr (fun x0 x1 x2 x3 x4 x5 x6 w hf => ih x0 x1 x2 x3 x4 x5 x6 w hf) x0 x1 x2 x3 x4 x5 x6 x3 w hf
def f_X0_layOut (x0 : Option Nat) (x1 : Option Nat) (x2 : Int32) (x3 : Int32) (w : xWd) : Option (Int32 × xWd) := f_X0_layOut_9 4096 x0 x1 x2 x3 ((0 : Int32)) ((0 : Int32)) ((0 : Int32)) w
set_option maxHeartbeats 4000000 in
set_option maxRecDepth 100000 in
theorem t_X0_layOut_0 {p : Program} {l : Launch} {e : Env} {s : State} {m : MethodId} {args : Array Value} {below : List Frame} {meth : Method} {c : Code} {E : xEv} (hC : xk_C p s m args meth c E prog_2_method_3_code "Clickbook$Cue" 9) (hr : meth.sig.returnType = (some .int)) {q : (Int32 × xWd)} (x0 : Option Nat) (x1 : Option Nat) (x2 : Int32) (x3 : Int32) (w : xWd) (hf : f_X0_layOut x0 x1 x2 x3 w = some q) : xk_X p l e { frames := 0, cells := 0, slots := 0, locals := 0 } s m args below meth c (MQ below (xk_Qi E q) args s 0 0 (xk_A E.2.2.1)) E 9 0 0 0 [(0, va_rf (x0)), (1, va_rf (x1)), (2, .int (x2)), (3, .int (x3))] [] w := by
  refine xk_iconst (v := (0 : Int32)) hC dX0_layOut_0 (by decide) ?_
  refine xk_istore (i := 4) (lv' := [(4, .int ((0 : Int32))), (0, va_rf (x0)), (1, va_rf (x1)), (2, .int (x2)), (3, .int (x3))]) hC dX0_layOut_1 (by decide) rfl ?_
  refine xk_iconst (v := (0 : Int32)) hC dX0_layOut_3 (by decide) ?_
  refine xk_istore (i := 5) (lv' := [(5, .int ((0 : Int32))), (4, .int ((0 : Int32))), (0, va_rf (x0)), (1, va_rf (x1)), (2, .int (x2)), (3, .int (x3))]) hC dX0_layOut_4 (by decide) rfl ?_
  refine xk_iconst (v := (0 : Int32)) hC dX0_layOut_6 (by decide) ?_
  refine xk_istore (i := 6) (lv' := [(6, .int ((0 : Int32))), (5, .int ((0 : Int32))), (4, .int ((0 : Int32))), (0, va_rf (x0)), (1, va_rf (x1)), (2, .int (x2)), (3, .int (x3))]) hC dX0_layOut_7 (by decide) rfl ?_
  refine xk_locals [3, 4, 5, 6, 2, 1, 0] rfl ?_
  exact t_X0_layOut_9 hC hr 4096 x0 x1 x2 x3 ((0 : Int32)) ((0 : Int32)) ((0 : Int32)) w hf
theorem xd_X0_layOut : xy_X0_layOut.cls ≠ "java/lang/invoke/MethodHandle" ∧ xy_X0_layOut.cls ≠ "java/lang/invoke/VarHandle" ∧ (parseMethodDescriptor xy_X0_layOut.desc).map (fun d => d.parameters.length) = some 3 := ⟨by decide +kernel, by decide +kernel, by decide +kernel⟩
theorem c_X0_layOut {l : Launch} {E : xEv} {x0 : Option Nat} {x1 : Option Nat} {x2 : Int32} {x3 : Int32} {w : xWd} {q : (Int32 × xWd)} (hf : f_X0_layOut x0 x1 x2 x3 w = some q) : xk_M l xy_X0_layOut prog_2_method_3_code 9 (some .int) 0 0 0 0 E [va_rf (x0), va_rf (x1), .int (x2), .int (x3)] w (xk_Qi E q) := by
  refine xk_enter (by decide +kernel) (by simp [lg_sl, xk_cat1, xk_cati, xk_catl, xk_catd]) ?_
  intro p e s m args below meth c hC hr hin ha
  rw [show lv_args 0 [va_rf (x0), va_rf (x1), .int (x2), .int (x3)] = [(0, va_rf (x0)), (1, va_rf (x1)), (2, .int (x2)), (3, .int (x3))] by simp [lv_args, xk_cat1, xk_cati, xk_catl, xk_catd]]
  exact t_X0_layOut_0 hC hr x0 x1 x2 x3 w hf
def f_X4_roundedUp_16 (s0 : Int32) (w : xWd) : Option (Int32 × xWd) := some (s0, w)
set_option maxHeartbeats 4000000 in
set_option maxRecDepth 100000 in
theorem t_X4_roundedUp_16 {p : Program} {l : Launch} {e : Env} {s : State} {m : MethodId} {args : Array Value} {below : List Frame} {meth : Method} {c : Code} {E : xEv} (hC : xk_C p s m args meth c E prog_1_method_19_code "Clickbook" 2) (hr : meth.sig.returnType = (some .int)) {q : (Int32 × xWd)} (s0 : Int32) (w : xWd) (hf : f_X4_roundedUp_16 s0 w = some q) : xk_X p l e { frames := 0, cells := 0, slots := 0, locals := 0 } s m args below meth c (MQ below (xk_Qi E q) args s 0 0 (xk_A E.2.2.1)) E 2 0 0 16 [] [.int (s0)] w := by
  cases hf
  refine xk_widen (k := 0) (n := 0) (Nat.le_of_ble_eq_true rfl) (Nat.le_of_ble_eq_true rfl) ?_
  exact xk_iret hC hr rfl dX4_roundedUp_16
def f_X4_roundedUp (x0 : Int32) (x1 : Int32) (w : xWd) : Option (Int32 × xWd) := if ((1 : Int32)) ≤ (x1) then (xk_nz (x1)).bind (fun u2 => f_X4_roundedUp_16 ((((x0) + (x1)) - ((1 : Int32))) / (x1)) w) else f_X4_roundedUp_16 ((0 : Int32)) w
set_option maxHeartbeats 4000000 in
set_option maxRecDepth 100000 in
theorem t_X4_roundedUp_0 {p : Program} {l : Launch} {e : Env} {s : State} {m : MethodId} {args : Array Value} {below : List Frame} {meth : Method} {c : Code} {E : xEv} (hC : xk_C p s m args meth c E prog_1_method_19_code "Clickbook" 2) (hr : meth.sig.returnType = (some .int)) {q : (Int32 × xWd)} (x0 : Int32) (x1 : Int32) (w : xWd) (hf : f_X4_roundedUp x0 x1 w = some q) : xk_X p l e { frames := 0, cells := 0, slots := 0, locals := 0 } s m args below meth c (MQ below (xk_Qi E q) args s 0 0 (xk_A E.2.2.1)) E 2 0 0 0 [(0, .int (x0)), (1, .int (x1))] [] w := by
  refine xk_iload_n hC dX4_roundedUp_0 1 rfl rfl ?_
  refine xk_iconst (v := (1 : Int32)) hC dX4_roundedUp_1 (by decide) ?_
  refine xk_icmp_ge (tgt := 9) hC dX4_roundedUp_2 (by decide) (fun c1 => ?_) (fun c1 => ?_)
  · replace hf := (if_pos c1).symm.trans hf
    refine xk_iload_n hC dX4_roundedUp_9 0 rfl rfl ?_
    refine xk_iload_n hC dX4_roundedUp_10 1 rfl rfl ?_
    refine xk_iadd hC dX4_roundedUp_11 ?_
    refine xk_iconst (v := (1 : Int32)) hC dX4_roundedUp_12 (by decide) ?_
    refine xk_isub hC dX4_roundedUp_13 ?_
    refine xk_iload_n hC dX4_roundedUp_14 1 rfl rfl ?_
    obtain ⟨u2, h2, hf⟩ := xk_bi hf
    refine xk_idiv hC dX4_roundedUp_15 (xk_nz_e h2) ?_
    refine xk_locals [] rfl ?_
    exact t_X4_roundedUp_16 hC hr ((((x0) + (x1)) - ((1 : Int32))) / (x1)) w hf
  · replace hf := (if_neg c1).symm.trans hf
    refine xk_iconst (v := (0 : Int32)) hC dX4_roundedUp_5 (by decide) ?_
    refine xk_goto (tgt := 16) hC dX4_roundedUp_6 (by decide) ?_
    refine xk_locals [] rfl ?_
    exact t_X4_roundedUp_16 hC hr ((0 : Int32)) w hf
theorem xd_X4_roundedUp : xy_X4_roundedUp.cls ≠ "java/lang/invoke/MethodHandle" ∧ xy_X4_roundedUp.cls ≠ "java/lang/invoke/VarHandle" ∧ (parseMethodDescriptor xy_X4_roundedUp.desc).map (fun d => d.parameters.length) = some 2 := ⟨by decide +kernel, by decide +kernel, by decide +kernel⟩
theorem c_X4_roundedUp {l : Launch} {E : xEv} {x0 : Int32} {x1 : Int32} {w : xWd} {q : (Int32 × xWd)} (hf : f_X4_roundedUp x0 x1 w = some q) : xk_M l xy_X4_roundedUp prog_1_method_19_code 2 (some .int) 0 0 0 0 E [.int (x0), .int (x1)] w (xk_Qi E q) := by
  refine xk_enter (by decide +kernel) (by simp [lg_sl, xk_cat1, xk_cati, xk_catl, xk_catd]) ?_
  intro p e s m args below meth c hC hr hin ha
  rw [show lv_args 0 [.int (x0), .int (x1)] = [(0, .int (x0)), (1, .int (x1))] by simp [lv_args, xk_cat1, xk_cati, xk_catl, xk_catd]]
  exact t_X4_roundedUp_0 hC hr x0 x1 w hf
def f_X0_setBar_18 (w : xWd) : Option xWd := some w
set_option maxHeartbeats 4000000 in
set_option maxRecDepth 100000 in
theorem t_X0_setBar_18 {p : Program} {l : Launch} {e : Env} {s : State} {m : MethodId} {args : Array Value} {below : List Frame} {meth : Method} {c : Code} {E : xEv} (hC : xk_C p s m args meth c E prog_2_method_2_code "Clickbook$Cue" 4) (hr : meth.sig.returnType = none) {q : xWd} (w : xWd) (hf : f_X0_setBar_18 w = some q) : xk_X p l e { frames := 1, cells := 0, slots := 0, locals := 28 } s m args below meth c (MQ below (xk_Qv E q) args s 0 0 (xk_A E.2.2.1)) E 4 0 0 18 [] [] w := by
  cases hf
  refine xk_widen (k := 0) (n := 0) (Nat.le_of_ble_eq_true rfl) (Nat.le_of_ble_eq_true rfl) ?_
  exact xk_vret hC hr dX0_setBar_18
def f_X0_setBar (x0 : Option Nat) (x1 : Int32) (x2 : Int32) (x3 : Int32) (w : xWd) : Option xWd := if (x1) < ((0 : Int32)) then f_X0_setBar_18 w else (xk_gI w (x0) 1 7).bind (fun v2 => if (v2) ≤ (x1) then f_X0_setBar_18 w else if (x1) < ((9 : Int32)) then (xk_gR w (x0) 1 8).bind (fun v5 => (xk_sI 0 w (v5) (x1) (x2)).bind (fun w6 => (xk_gR w6 (x0) 1 9).bind (fun v7 => (xk_sI 0 w6 (v7) (x1) (x3)).bind (fun w8 => (xk_gI w8 (x0) 1 6).bind (fun v9 => (xk_pV w8 (x0) 1 6 (.int ((v9) + ((1 : Int32))))).bind (fun w10 => (xk_gI w10 (x0) 1 7).bind (fun v11 => (xk_is w10 (x0) 1).bind (fun u13 => (f_X0_firstBeat (x0) (v11) w10).bind (fun q12 => (xk_pV q12.2 (x0) 1 10 (.int (q12.1))).bind (fun w14 => (xk_gR w14 (x0) 1 12).bind (fun v15 => (xk_is w14 (x0) 1).bind (fun u17 => (f_X0_layOut (x0) (v15) ((-1 : Int32)) ((0 : Int32)) w14).bind (fun q16 => (f_X4_roundedUp (q16.1) ((4 : Int32)) q16.2).bind (fun q18 => (xk_pV q18.2 (x0) 1 11 (.int (q18.1))).bind (fun w19 => some w19))))))))))))))) else f_X0_setBar_18 w)
set_option maxHeartbeats 4000000 in
set_option maxRecDepth 100000 in
theorem t_X0_setBar_0 {p : Program} {l : Launch} {e : Env} {s : State} {m : MethodId} {args : Array Value} {below : List Frame} {meth : Method} {c : Code} {E : xEv} (hC : xk_C p s m args meth c E prog_2_method_2_code "Clickbook$Cue" 4) (hr : meth.sig.returnType = none) {q : xWd} (x0 : Option Nat) (x1 : Int32) (x2 : Int32) (x3 : Int32) (w : xWd) (hf : f_X0_setBar x0 x1 x2 x3 w = some q) : xk_X p l e { frames := 1, cells := 0, slots := 0, locals := 28 } s m args below meth c (MQ below (xk_Qv E q) args s 0 0 (xk_A E.2.2.1)) E 4 0 0 0 [(0, va_rf (x0)), (1, .int (x1)), (2, .int (x2)), (3, .int (x3))] [] w := by
  refine xk_iload_n hC dX0_setBar_0 1 rfl rfl ?_
  refine xk_if_lt (tgt := 18) hC dX0_setBar_1 (by decide) (fun c1 => ?_) (fun c1 => ?_)
  · replace hf := (if_pos c1).symm.trans hf
    refine xk_locals [] rfl ?_
    exact t_X0_setBar_18 hC hr w hf
  · replace hf := (if_neg c1).symm.trans hf
    refine xk_iload_n hC dX0_setBar_4 1 rfl rfl ?_
    refine xk_aload_n hC dX0_setBar_5 0 rfl rfl ?_
    obtain ⟨v2, h2, hf⟩ := xk_bi hf
    refine xk_getI hC xi_1 xc_1 7 (by decide) xm_333 (Or.inl rfl) dX0_setBar_6 h2 ?_
    refine xk_icmp_ge (tgt := 18) hC dX0_setBar_9 (by decide) (fun c3 => ?_) (fun c3 => ?_)
    · replace hf := (if_pos c3).symm.trans hf
      refine xk_locals [] rfl ?_
      exact t_X0_setBar_18 hC hr w hf
    · replace hf := (if_neg c3).symm.trans hf
      refine xk_iload_n hC dX0_setBar_12 1 rfl rfl ?_
      refine xk_bipush (v := (9 : Int32)) hC dX0_setBar_13 (by decide) ?_
      refine xk_icmp_lt (tgt := 19) hC dX0_setBar_15 (by decide) (fun c4 => ?_) (fun c4 => ?_)
      · replace hf := (if_pos c4).symm.trans hf
        refine xk_aload_n hC dX0_setBar_19 0 rfl rfl ?_
        obtain ⟨v5, h5, hf⟩ := xk_bi hf
        refine xk_getR hC xi_1 xc_1 8 (by decide) xm_335 (Or.inl rfl) dX0_setBar_20 h5 ?_
        refine xk_iload_n hC dX0_setBar_23 1 rfl rfl ?_
        refine xk_iload_n hC dX0_setBar_24 2 rfl rfl ?_
        obtain ⟨w6, h6, hf⟩ := xk_bi hf
        refine xk_iast hC rfl dX0_setBar_25 h6 ?_
        refine xk_aload_n hC dX0_setBar_26 0 rfl rfl ?_
        obtain ⟨v7, h7, hf⟩ := xk_bi hf
        refine xk_getR hC xi_1 xc_1 9 (by decide) xm_337 (Or.inl rfl) dX0_setBar_27 h7 ?_
        refine xk_iload_n hC dX0_setBar_30 1 rfl rfl ?_
        refine xk_iload_n hC dX0_setBar_31 3 rfl rfl ?_
        obtain ⟨w8, h8, hf⟩ := xk_bi hf
        refine xk_iast hC rfl dX0_setBar_32 h8 ?_
        refine xk_aload_n hC dX0_setBar_33 0 rfl rfl ?_
        refine xk_dup hC dX0_setBar_34 (xk_cat1 _) ?_
        obtain ⟨v9, h9, hf⟩ := xk_bi hf
        refine xk_getI hC xi_1 xc_1 6 (by decide) xm_330 (Or.inl rfl) dX0_setBar_35 h9 ?_
        refine xk_iconst (v := (1 : Int32)) hC dX0_setBar_38 (by decide) ?_
        refine xk_iadd hC dX0_setBar_39 ?_
        obtain ⟨w10, h10, hf⟩ := xk_bi hf
        refine xk_put hC xi_1 xc_1 xo_1 xn_1 6 (by decide) xm_330 (Or.inl rfl) rfl rfl rfl dX0_setBar_40 h10 ?_
        refine xk_aload_n hC dX0_setBar_43 0 rfl rfl ?_
        refine xk_aload_n hC dX0_setBar_44 0 rfl rfl ?_
        refine xk_aload_n hC dX0_setBar_45 0 rfl rfl ?_
        obtain ⟨v11, h11, hf⟩ := xk_bi hf
        refine xk_getI hC xi_1 xc_1 7 (by decide) xm_333 (Or.inl rfl) dX0_setBar_46 h11 ?_
        obtain ⟨u13, h13, hf⟩ := xk_bi hf
        obtain ⟨q12, h12, hf⟩ := xk_bi hf
        refine xk_backi (xk_callV hC 1 xc_1 (c_X0_firstBeat h12) h13 xm_404 xm_405 xm_406 xm_17 xm_407 ⟨rfl, xd_X0_firstBeat⟩ rfl ⟨Nat.le_of_ble_eq_true rfl, Nat.le_of_ble_eq_true rfl⟩ rfl (by simp [xk_cat1, xk_cati, xk_catl, xk_catd]) dX0_setBar_49 ⟨(Nat.le_of_ble_eq_true rfl), (Nat.le_of_ble_eq_true rfl)⟩) ?_
        obtain ⟨w14, h14, hf⟩ := xk_bi hf
        refine xk_put hC xi_1 xc_1 xo_1 xn_1 10 (by decide) xm_339 (Or.inl rfl) rfl rfl rfl dX0_setBar_52 h14 ?_
        refine xk_aload_n hC dX0_setBar_55 0 rfl rfl ?_
        refine xk_aload_n hC dX0_setBar_56 0 rfl rfl ?_
        refine xk_aload_n hC dX0_setBar_57 0 rfl rfl ?_
        obtain ⟨v15, h15, hf⟩ := xk_bi hf
        refine xk_getR hC xi_1 xc_1 12 (by decide) xm_343 (Or.inl rfl) dX0_setBar_58 h15 ?_
        refine xk_iconst (v := (-1 : Int32)) hC dX0_setBar_61 (by decide) ?_
        refine xk_iconst (v := (0 : Int32)) hC dX0_setBar_62 (by decide) ?_
        obtain ⟨u17, h17, hf⟩ := xk_bi hf
        obtain ⟨q16, h16, hf⟩ := xk_bi hf
        refine xk_backi (xk_callV hC 3 xc_1 (c_X0_layOut h16) h17 xm_408 xm_409 xm_410 xm_17 xm_411 ⟨rfl, xd_X0_layOut⟩ rfl ⟨Nat.le_of_ble_eq_true rfl, Nat.le_of_ble_eq_true rfl⟩ rfl (by simp [xk_cat1, xk_cati, xk_catl, xk_catd]) dX0_setBar_63 ⟨(Nat.le_of_ble_eq_true rfl), (Nat.le_of_ble_eq_true rfl)⟩) ?_
        refine xk_iconst (v := (4 : Int32)) hC dX0_setBar_66 (by decide) ?_
        obtain ⟨q18, h18, hf⟩ := xk_bi hf
        refine xk_backi (xk_callSN hC 2 (c_X4_roundedUp h18) (xk_note1 hC) xm_413 xm_1 xm_414 xd_X4_roundedUp rfl ⟨Nat.le_of_ble_eq_true rfl, Nat.le_of_ble_eq_true rfl⟩ rfl (by simp [xk_cat1, xk_cati, xk_catl, xk_catd]) dX0_setBar_67 ⟨(Nat.le_of_ble_eq_true rfl), (Nat.le_of_ble_eq_true rfl)⟩) ?_
        obtain ⟨w19, h19, hf⟩ := xk_bi hf
        refine xk_put hC xi_1 xc_1 xo_1 xn_1 11 (by decide) xm_341 (Or.inl rfl) rfl rfl rfl dX0_setBar_70 h19 ?_
        cases hf
        refine xk_widen (k := 0) (n := 0) (Nat.le_of_ble_eq_true rfl) (Nat.le_of_ble_eq_true rfl) ?_
        exact xk_vret hC hr dX0_setBar_73
      · replace hf := (if_neg c4).symm.trans hf
        refine xk_locals [] rfl ?_
        exact t_X0_setBar_18 hC hr w hf
theorem xd_X0_setBar : xy_X0_setBar.cls ≠ "java/lang/invoke/MethodHandle" ∧ xy_X0_setBar.cls ≠ "java/lang/invoke/VarHandle" ∧ (parseMethodDescriptor xy_X0_setBar.desc).map (fun d => d.parameters.length) = some 3 := ⟨by decide +kernel, by decide +kernel, by decide +kernel⟩
theorem c_X0_setBar {l : Launch} {E : xEv} {x0 : Option Nat} {x1 : Int32} {x2 : Int32} {x3 : Int32} {w : xWd} {q : xWd} (hf : f_X0_setBar x0 x1 x2 x3 w = some q) : xk_M l xy_X0_setBar prog_2_method_2_code 4 none 1 28 0 0 E [va_rf (x0), .int (x1), .int (x2), .int (x3)] w (xk_Qv E q) := by
  refine xk_enter (by decide +kernel) (by simp [lg_sl, xk_cat1, xk_cati, xk_catl, xk_catd]) ?_
  intro p e s m args below meth c hC hr hin ha
  rw [show lv_args 0 [va_rf (x0), .int (x1), .int (x2), .int (x3)] = [(0, va_rf (x0)), (1, .int (x1)), (2, .int (x2)), (3, .int (x3))] by simp [lv_args, xk_cat1, xk_cati, xk_catl, xk_catd]]
  exact t_X0_setBar_0 hC hr x0 x1 x2 x3 w hf
def f_X0_beatFrame_39 (s0 : Int32) (w : xWd) : Option (Int32 × xWd) := some (s0, w)
set_option maxHeartbeats 4000000 in
set_option maxRecDepth 100000 in
theorem t_X0_beatFrame_39 {p : Program} {l : Launch} {e : Env} {s : State} {m : MethodId} {args : Array Value} {below : List Frame} {meth : Method} {c : Code} {E : xEv} (hC : xk_C p s m args meth c E prog_2_method_5_code "Clickbook$Cue" 2) (hr : meth.sig.returnType = (some .int)) {q : (Int32 × xWd)} (s0 : Int32) (w : xWd) (hf : f_X0_beatFrame_39 s0 w = some q) : xk_X p l e { frames := 0, cells := 0, slots := 0, locals := 0 } s m args below meth c (MQ below (xk_Qi E q) args s 0 0 (xk_A E.2.2.1)) E 2 0 0 39 [] [.int (s0)] w := by
  cases hf
  refine xk_widen (k := 0) (n := 0) (Nat.le_of_ble_eq_true rfl) (Nat.le_of_ble_eq_true rfl) ?_
  exact xk_iret hC hr rfl dX0_beatFrame_39
def f_X0_beatFrame_21 (x0 : Option Nat) (w : xWd) : Option (Int32 × xWd) := (xk_gI w (x0) 1 1).bind (fun v1 => f_X0_beatFrame_39 v1 w)
set_option maxHeartbeats 4000000 in
set_option maxRecDepth 100000 in
theorem t_X0_beatFrame_21 {p : Program} {l : Launch} {e : Env} {s : State} {m : MethodId} {args : Array Value} {below : List Frame} {meth : Method} {c : Code} {E : xEv} (hC : xk_C p s m args meth c E prog_2_method_5_code "Clickbook$Cue" 2) (hr : meth.sig.returnType = (some .int)) {q : (Int32 × xWd)} (x0 : Option Nat) (w : xWd) (hf : f_X0_beatFrame_21 x0 w = some q) : xk_X p l e { frames := 0, cells := 0, slots := 0, locals := 0 } s m args below meth c (MQ below (xk_Qi E q) args s 0 0 (xk_A E.2.2.1)) E 2 0 0 21 [(0, va_rf (x0))] [] w := by
  refine xk_aload_n hC dX0_beatFrame_21 0 rfl rfl ?_
  obtain ⟨v1, h1, hf⟩ := xk_bi hf
  refine xk_getI hC xi_1 xc_1 1 (by decide) xm_319 (Or.inl rfl) dX0_beatFrame_22 h1 ?_
  refine xk_goto (tgt := 39) hC dX0_beatFrame_25 (by decide) ?_
  refine xk_locals [] rfl ?_
  exact t_X0_beatFrame_39 hC hr v1 w hf
def f_X0_beatFrame (x0 : Option Nat) (x1 : Int32) (w : xWd) : Option (Int32 × xWd) := if (x1) < ((0 : Int32)) then f_X0_beatFrame_21 x0 w else (xk_gI w (x0) 1 10).bind (fun v2 => if (v2) ≤ (x1) then f_X0_beatFrame_21 x0 w else (xk_gR w (x0) 1 12).bind (fun v4 => (xk_len w (v4)).bind (fun v5 => if (x1) < (v5) then (xk_gI w (x0) 1 1).bind (fun v7 => (xk_gR w (x0) 1 12).bind (fun v8 => (xk_lI 0 w (v8) (x1)).bind (fun v9 => f_X0_beatFrame_39 ((v7) + (v9)) w))) else f_X0_beatFrame_21 x0 w)))
set_option maxHeartbeats 4000000 in
set_option maxRecDepth 100000 in
theorem t_X0_beatFrame_0 {p : Program} {l : Launch} {e : Env} {s : State} {m : MethodId} {args : Array Value} {below : List Frame} {meth : Method} {c : Code} {E : xEv} (hC : xk_C p s m args meth c E prog_2_method_5_code "Clickbook$Cue" 2) (hr : meth.sig.returnType = (some .int)) {q : (Int32 × xWd)} (x0 : Option Nat) (x1 : Int32) (w : xWd) (hf : f_X0_beatFrame x0 x1 w = some q) : xk_X p l e { frames := 0, cells := 0, slots := 0, locals := 0 } s m args below meth c (MQ below (xk_Qi E q) args s 0 0 (xk_A E.2.2.1)) E 2 0 0 0 [(0, va_rf (x0)), (1, .int (x1))] [] w := by
  refine xk_iload_n hC dX0_beatFrame_0 1 rfl rfl ?_
  refine xk_if_lt (tgt := 21) hC dX0_beatFrame_1 (by decide) (fun c1 => ?_) (fun c1 => ?_)
  · replace hf := (if_pos c1).symm.trans hf
    refine xk_locals [0] rfl ?_
    exact t_X0_beatFrame_21 hC hr x0 w hf
  · replace hf := (if_neg c1).symm.trans hf
    refine xk_iload_n hC dX0_beatFrame_4 1 rfl rfl ?_
    refine xk_aload_n hC dX0_beatFrame_5 0 rfl rfl ?_
    obtain ⟨v2, h2, hf⟩ := xk_bi hf
    refine xk_getI hC xi_1 xc_1 10 (by decide) xm_339 (Or.inl rfl) dX0_beatFrame_6 h2 ?_
    refine xk_icmp_ge (tgt := 21) hC dX0_beatFrame_9 (by decide) (fun c3 => ?_) (fun c3 => ?_)
    · replace hf := (if_pos c3).symm.trans hf
      refine xk_locals [0] rfl ?_
      exact t_X0_beatFrame_21 hC hr x0 w hf
    · replace hf := (if_neg c3).symm.trans hf
      refine xk_iload_n hC dX0_beatFrame_12 1 rfl rfl ?_
      refine xk_aload_n hC dX0_beatFrame_13 0 rfl rfl ?_
      obtain ⟨v4, h4, hf⟩ := xk_bi hf
      refine xk_getR hC xi_1 xc_1 12 (by decide) xm_343 (Or.inl rfl) dX0_beatFrame_14 h4 ?_
      obtain ⟨v5, h5, hf⟩ := xk_bi hf
      refine xk_alen hC dX0_beatFrame_17 h5 ?_
      refine xk_icmp_lt (tgt := 28) hC dX0_beatFrame_18 (by decide) (fun c6 => ?_) (fun c6 => ?_)
      · replace hf := (if_pos c6).symm.trans hf
        refine xk_aload_n hC dX0_beatFrame_28 0 rfl rfl ?_
        obtain ⟨v7, h7, hf⟩ := xk_bi hf
        refine xk_getI hC xi_1 xc_1 1 (by decide) xm_319 (Or.inl rfl) dX0_beatFrame_29 h7 ?_
        refine xk_aload_n hC dX0_beatFrame_32 0 rfl rfl ?_
        obtain ⟨v8, h8, hf⟩ := xk_bi hf
        refine xk_getR hC xi_1 xc_1 12 (by decide) xm_343 (Or.inl rfl) dX0_beatFrame_33 h8 ?_
        refine xk_iload_n hC dX0_beatFrame_36 1 rfl rfl ?_
        obtain ⟨v9, h9, hf⟩ := xk_bi hf
        refine xk_iald hC rfl dX0_beatFrame_37 h9 ?_
        refine xk_iadd hC dX0_beatFrame_38 ?_
        refine xk_locals [] rfl ?_
        exact t_X0_beatFrame_39 hC hr ((v7) + (v9)) w hf
      · replace hf := (if_neg c6).symm.trans hf
        refine xk_locals [0] rfl ?_
        exact t_X0_beatFrame_21 hC hr x0 w hf
theorem xd_X0_beatFrame : xy_X0_beatFrame.cls ≠ "java/lang/invoke/MethodHandle" ∧ xy_X0_beatFrame.cls ≠ "java/lang/invoke/VarHandle" ∧ (parseMethodDescriptor xy_X0_beatFrame.desc).map (fun d => d.parameters.length) = some 1 := ⟨by decide +kernel, by decide +kernel, by decide +kernel⟩
theorem c_X0_beatFrame {l : Launch} {E : xEv} {x0 : Option Nat} {x1 : Int32} {w : xWd} {q : (Int32 × xWd)} (hf : f_X0_beatFrame x0 x1 w = some q) : xk_M l xy_X0_beatFrame prog_2_method_5_code 2 (some .int) 0 0 0 0 E [va_rf (x0), .int (x1)] w (xk_Qi E q) := by
  refine xk_enter (by decide +kernel) (by simp [lg_sl, xk_cat1, xk_cati, xk_catl, xk_catd]) ?_
  intro p e s m args below meth c hC hr hin ha
  rw [show lv_args 0 [va_rf (x0), .int (x1)] = [(0, va_rf (x0)), (1, .int (x1))] by simp [lv_args, xk_cat1, xk_cati, xk_catl, xk_catd]]
  exact t_X0_beatFrame_0 hC hr x0 x1 w hf
def f_X0_end (x0 : Option Nat) (w : xWd) : Option (Int32 × xWd) := (xk_gI w (x0) 1 1).bind (fun v1 => (xk_gI w (x0) 1 11).bind (fun v2 => some ((v1) + (v2), w)))
set_option maxHeartbeats 4000000 in
set_option maxRecDepth 100000 in
theorem t_X0_end_0 {p : Program} {l : Launch} {e : Env} {s : State} {m : MethodId} {args : Array Value} {below : List Frame} {meth : Method} {c : Code} {E : xEv} (hC : xk_C p s m args meth c E prog_2_method_6_code "Clickbook$Cue" 1) (hr : meth.sig.returnType = (some .int)) {q : (Int32 × xWd)} (x0 : Option Nat) (w : xWd) (hf : f_X0_end x0 w = some q) : xk_X p l e { frames := 0, cells := 0, slots := 0, locals := 0 } s m args below meth c (MQ below (xk_Qi E q) args s 0 0 (xk_A E.2.2.1)) E 1 0 0 0 [(0, va_rf (x0))] [] w := by
  refine xk_aload_n hC dX0_end_0 0 rfl rfl ?_
  obtain ⟨v1, h1, hf⟩ := xk_bi hf
  refine xk_getI hC xi_1 xc_1 1 (by decide) xm_319 (Or.inl rfl) dX0_end_1 h1 ?_
  refine xk_aload_n hC dX0_end_4 0 rfl rfl ?_
  obtain ⟨v2, h2, hf⟩ := xk_bi hf
  refine xk_getI hC xi_1 xc_1 11 (by decide) xm_341 (Or.inl rfl) dX0_end_5 h2 ?_
  refine xk_iadd hC dX0_end_8 ?_
  cases hf
  refine xk_widen (k := 0) (n := 0) (Nat.le_of_ble_eq_true rfl) (Nat.le_of_ble_eq_true rfl) ?_
  exact xk_iret hC hr rfl dX0_end_9
theorem xd_X0_end : xy_X0_end.cls ≠ "java/lang/invoke/MethodHandle" ∧ xy_X0_end.cls ≠ "java/lang/invoke/VarHandle" ∧ (parseMethodDescriptor xy_X0_end.desc).map (fun d => d.parameters.length) = some 0 := ⟨by decide +kernel, by decide +kernel, by decide +kernel⟩
theorem c_X0_end {l : Launch} {E : xEv} {x0 : Option Nat} {w : xWd} {q : (Int32 × xWd)} (hf : f_X0_end x0 w = some q) : xk_M l xy_X0_end prog_2_method_6_code 1 (some .int) 0 0 0 0 E [va_rf (x0)] w (xk_Qi E q) := by
  refine xk_enter (by decide +kernel) (by simp [lg_sl, xk_cat1, xk_cati, xk_catl, xk_catd]) ?_
  intro p e s m args below meth c hC hr hin ha
  rw [show lv_args 0 [va_rf (x0)] = [(0, va_rf (x0))] by simp [lv_args, xk_cat1, xk_cati, xk_catl, xk_catd]]
  exact t_X0_end_0 hC hr x0 w hf
def f_X0_mostNotes_4 : Nat → Option Nat → Int32 → Int32 → xWd → Option (Int32 × xWd)
  | 0, _, _, _, _ => none
  | n + 1, x0, x1, x2, w => (xk_gI w (x0) 1 7).bind (fun v1 => if (v1) ≤ (x2) then some ((x1) - ((1 : Int32)), w) else f_X0_mostNotes_4 n x0 ((x1) * ((10 : Int32))) (x2 + (1 : Int32)) w)
set_option maxHeartbeats 4000000 in
set_option maxRecDepth 100000 in
theorem t_X0_mostNotes_4 {p : Program} {l : Launch} {e : Env} {s : State} {m : MethodId} {args : Array Value} {below : List Frame} {meth : Method} {c : Code} {E : xEv} (hC : xk_C p s m args meth c E prog_2_method_7_code "Clickbook$Cue" 3) (hr : meth.sig.returnType = (some .int)) {q : (Int32 × xWd)} : ∀ (n : Nat) (x0 : Option Nat) (x1 : Int32) (x2 : Int32) (w : xWd), f_X0_mostNotes_4 n x0 x1 x2 w = some q → xk_X p l e { frames := 0, cells := 0, slots := 0, locals := 0 } s m args below meth c (MQ below (xk_Qi E q) args s 0 0 (xk_A E.2.2.1)) E 3 0 0 4 [(0, va_rf (x0)), (1, .int (x1)), (2, .int (x2))] [] w := by
  intro n
  induction n with
  | zero => intro x0 x1 x2 w hf; have hf : none = some q := hf; cases hf
  | succ n ih =>
    intro x0 x1 x2 w hf
    refine xk_iload_n hC dX0_mostNotes_4 2 rfl rfl ?_
    refine xk_aload_n hC dX0_mostNotes_5 0 rfl rfl ?_
    obtain ⟨v1, h1, hf⟩ := xk_bi hf
    refine xk_getI hC xi_1 xc_1 7 (by decide) xm_333 (Or.inl rfl) dX0_mostNotes_6 h1 ?_
    refine xk_icmp_ge (tgt := 23) hC dX0_mostNotes_9 (by decide) (fun c2 => ?_) (fun c2 => ?_)
    · replace hf := (if_pos c2).symm.trans hf
      refine xk_iload_n hC dX0_mostNotes_23 1 rfl rfl ?_
      refine xk_iconst (v := (1 : Int32)) hC dX0_mostNotes_24 (by decide) ?_
      refine xk_isub hC dX0_mostNotes_25 ?_
      cases hf
      refine xk_widen (k := 0) (n := 0) (Nat.le_of_ble_eq_true rfl) (Nat.le_of_ble_eq_true rfl) ?_
      exact xk_iret hC hr rfl dX0_mostNotes_26
    · replace hf := (if_neg c2).symm.trans hf
      refine xk_iload_n hC dX0_mostNotes_12 1 rfl rfl ?_
      refine xk_bipush (v := (10 : Int32)) hC dX0_mostNotes_13 (by decide) ?_
      refine xk_imul hC dX0_mostNotes_15 ?_
      refine xk_istore_n (i := 1) (lv' := [(1, .int ((x1) * ((10 : Int32)))), (0, va_rf (x0)), (2, .int (x2))]) hC dX0_mostNotes_16 rfl (by decide) (by simp [xk_cat1]) ?_
      refine xk_iinc (v := x2 + (1 : Int32)) (lv' := [(2, .int (x2 + (1 : Int32))), (1, .int ((x1) * ((10 : Int32)))), (0, va_rf (x0))]) hC dX0_mostNotes_17 2 rfl rfl (by decide) rfl ?_
      refine xk_goto (tgt := 4) hC dX0_mostNotes_20 (by decide) ?_
      refine xk_locals [2, 1, 0] rfl ?_
      exact ih x0 ((x1) * ((10 : Int32))) (x2 + (1 : Int32)) w hf
def f_X0_mostNotes (x0 : Option Nat) (w : xWd) : Option (Int32 × xWd) := f_X0_mostNotes_4 4096 x0 ((1 : Int32)) ((0 : Int32)) w
set_option maxHeartbeats 4000000 in
set_option maxRecDepth 100000 in
theorem t_X0_mostNotes_0 {p : Program} {l : Launch} {e : Env} {s : State} {m : MethodId} {args : Array Value} {below : List Frame} {meth : Method} {c : Code} {E : xEv} (hC : xk_C p s m args meth c E prog_2_method_7_code "Clickbook$Cue" 3) (hr : meth.sig.returnType = (some .int)) {q : (Int32 × xWd)} (x0 : Option Nat) (w : xWd) (hf : f_X0_mostNotes x0 w = some q) : xk_X p l e { frames := 0, cells := 0, slots := 0, locals := 0 } s m args below meth c (MQ below (xk_Qi E q) args s 0 0 (xk_A E.2.2.1)) E 3 0 0 0 [(0, va_rf (x0))] [] w := by
  refine xk_iconst (v := (1 : Int32)) hC dX0_mostNotes_0 (by decide) ?_
  refine xk_istore_n (i := 1) (lv' := [(1, .int ((1 : Int32))), (0, va_rf (x0))]) hC dX0_mostNotes_1 rfl (by decide) (by simp [xk_cat1]) ?_
  refine xk_iconst (v := (0 : Int32)) hC dX0_mostNotes_2 (by decide) ?_
  refine xk_istore_n (i := 2) (lv' := [(2, .int ((0 : Int32))), (1, .int ((1 : Int32))), (0, va_rf (x0))]) hC dX0_mostNotes_3 rfl (by decide) rfl ?_
  refine xk_locals [2, 1, 0] rfl ?_
  exact t_X0_mostNotes_4 hC hr 4096 x0 ((1 : Int32)) ((0 : Int32)) w hf
theorem xd_X0_mostNotes : xy_X0_mostNotes.cls ≠ "java/lang/invoke/MethodHandle" ∧ xy_X0_mostNotes.cls ≠ "java/lang/invoke/VarHandle" ∧ (parseMethodDescriptor xy_X0_mostNotes.desc).map (fun d => d.parameters.length) = some 0 := ⟨by decide +kernel, by decide +kernel, by decide +kernel⟩
theorem c_X0_mostNotes {l : Launch} {E : xEv} {x0 : Option Nat} {w : xWd} {q : (Int32 × xWd)} (hf : f_X0_mostNotes x0 w = some q) : xk_M l xy_X0_mostNotes prog_2_method_7_code 3 (some .int) 0 0 0 0 E [va_rf (x0)] w (xk_Qi E q) := by
  refine xk_enter (by decide +kernel) (by simp [lg_sl, xk_cat1, xk_cati, xk_catl, xk_catd]) ?_
  intro p e s m args below meth c hC hr hin ha
  rw [show lv_args 0 [va_rf (x0)] = [(0, va_rf (x0))] by simp [lv_args, xk_cat1, xk_cati, xk_catl, xk_catd]]
  exact t_X0_mostNotes_0 hC hr x0 w hf
def f_X0_isTouched_25 (s0 : Int32) (w : xWd) : Option (Int32 × xWd) := (xk_zb (s0)).bind (fun u1 => some (s0, w))
set_option maxHeartbeats 4000000 in
set_option maxRecDepth 100000 in
theorem t_X0_isTouched_25 {p : Program} {l : Launch} {e : Env} {s : State} {m : MethodId} {args : Array Value} {below : List Frame} {meth : Method} {c : Code} {E : xEv} (hC : xk_C p s m args meth c E prog_2_method_8_code "Clickbook$Cue" 3) (hr : meth.sig.returnType = (some .boolean)) {q : (Int32 × xWd)} (s0 : Int32) (w : xWd) (hf : f_X0_isTouched_25 s0 w = some q) : xk_X p l e { frames := 1, cells := 0, slots := 0, locals := 20 } s m args below meth c (MQ below (xk_Qi E q) args s 0 0 (xk_A E.2.2.1)) E 3 0 0 25 [] [.int (s0)] w := by
  obtain ⟨u1, h1, hf⟩ := xk_bi hf
  cases hf
  refine xk_widen (k := 0) (n := 0) (Nat.le_of_ble_eq_true rfl) (Nat.le_of_ble_eq_true rfl) ?_
  exact xk_iret hC hr (xk_zb_e h1) dX0_isTouched_25
def f_X0_isTouched_24 (w : xWd) : Option (Int32 × xWd) := f_X0_isTouched_25 ((0 : Int32)) w
set_option maxHeartbeats 4000000 in
set_option maxRecDepth 100000 in
theorem t_X0_isTouched_24 {p : Program} {l : Launch} {e : Env} {s : State} {m : MethodId} {args : Array Value} {below : List Frame} {meth : Method} {c : Code} {E : xEv} (hC : xk_C p s m args meth c E prog_2_method_8_code "Clickbook$Cue" 3) (hr : meth.sig.returnType = (some .boolean)) {q : (Int32 × xWd)} (w : xWd) (hf : f_X0_isTouched_24 w = some q) : xk_X p l e { frames := 1, cells := 0, slots := 0, locals := 20 } s m args below meth c (MQ below (xk_Qi E q) args s 0 0 (xk_A E.2.2.1)) E 3 0 0 24 [] [] w := by
  refine xk_iconst (v := (0 : Int32)) hC dX0_isTouched_24 (by decide) ?_
  exact t_X0_isTouched_25 hC hr ((0 : Int32)) w hf
def f_X0_isTouched_56 (s0 : Int32) (w : xWd) : Option (Int32 × xWd) := (xk_zb (s0)).bind (fun u1 => some (s0, w))
set_option maxHeartbeats 4000000 in
set_option maxRecDepth 100000 in
theorem t_X0_isTouched_56 {p : Program} {l : Launch} {e : Env} {s : State} {m : MethodId} {args : Array Value} {below : List Frame} {meth : Method} {c : Code} {E : xEv} (hC : xk_C p s m args meth c E prog_2_method_8_code "Clickbook$Cue" 3) (hr : meth.sig.returnType = (some .boolean)) {q : (Int32 × xWd)} (s0 : Int32) (w : xWd) (hf : f_X0_isTouched_56 s0 w = some q) : xk_X p l e { frames := 1, cells := 0, slots := 0, locals := 20 } s m args below meth c (MQ below (xk_Qi E q) args s 0 0 (xk_A E.2.2.1)) E 3 0 0 56 [] [.int (s0)] w := by
  obtain ⟨u1, h1, hf⟩ := xk_bi hf
  cases hf
  refine xk_widen (k := 0) (n := 0) (Nat.le_of_ble_eq_true rfl) (Nat.le_of_ble_eq_true rfl) ?_
  exact xk_iret hC hr (xk_zb_e h1) dX0_isTouched_56
def f_X0_isTouched_55 (w : xWd) : Option (Int32 × xWd) := f_X0_isTouched_56 ((0 : Int32)) w
set_option maxHeartbeats 4000000 in
set_option maxRecDepth 100000 in
theorem t_X0_isTouched_55 {p : Program} {l : Launch} {e : Env} {s : State} {m : MethodId} {args : Array Value} {below : List Frame} {meth : Method} {c : Code} {E : xEv} (hC : xk_C p s m args meth c E prog_2_method_8_code "Clickbook$Cue" 3) (hr : meth.sig.returnType = (some .boolean)) {q : (Int32 × xWd)} (w : xWd) (hf : f_X0_isTouched_55 w = some q) : xk_X p l e { frames := 1, cells := 0, slots := 0, locals := 20 } s m args below meth c (MQ below (xk_Qi E q) args s 0 0 (xk_A E.2.2.1)) E 3 0 0 55 [] [] w := by
  refine xk_iconst (v := (0 : Int32)) hC dX0_isTouched_55 (by decide) ?_
  exact t_X0_isTouched_56 hC hr ((0 : Int32)) w hf
def f_X0_isTouched (x0 : Option Nat) (x1 : Int32) (x2 : Int32) (w : xWd) : Option (Int32 × xWd) := if (x2) ≤ ((0 : Int32)) then (xk_gI w (x0) 1 7).bind (fun v2 => if (v2) ≤ ((0 : Int32)) then f_X0_isTouched_55 w else (xk_gI w (x0) 1 1).bind (fun v4 => if ((x1) - (x2)) ≤ (v4) then f_X0_isTouched_55 w else (xk_is w (x0) 1).bind (fun u7 => (f_X0_end (x0)  w).bind (fun q6 => if (q6.1) ≤ (x1) then f_X0_isTouched_55 (q6.2) else f_X0_isTouched_56 ((1 : Int32)) (q6.2))))) else (xk_gI w (x0) 1 1).bind (fun v9 => if (x1) ≤ (v9) then f_X0_isTouched_24 w else (xk_is w (x0) 1).bind (fun u12 => (f_X0_end (x0)  w).bind (fun q11 => if (q11.1) ≤ (x1) then f_X0_isTouched_24 (q11.2) else f_X0_isTouched_25 ((1 : Int32)) (q11.2))))
set_option maxHeartbeats 4000000 in
set_option maxRecDepth 100000 in
theorem t_X0_isTouched_0 {p : Program} {l : Launch} {e : Env} {s : State} {m : MethodId} {args : Array Value} {below : List Frame} {meth : Method} {c : Code} {E : xEv} (hC : xk_C p s m args meth c E prog_2_method_8_code "Clickbook$Cue" 3) (hr : meth.sig.returnType = (some .boolean)) {q : (Int32 × xWd)} (x0 : Option Nat) (x1 : Int32) (x2 : Int32) (w : xWd) (hf : f_X0_isTouched x0 x1 x2 w = some q) : xk_X p l e { frames := 1, cells := 0, slots := 0, locals := 20 } s m args below meth c (MQ below (xk_Qi E q) args s 0 0 (xk_A E.2.2.1)) E 3 0 0 0 [(0, va_rf (x0)), (1, .int (x1)), (2, .int (x2))] [] w := by
  refine xk_iload_n hC dX0_isTouched_0 2 rfl rfl ?_
  refine xk_if_le (tgt := 26) hC dX0_isTouched_1 (by decide) (fun c1 => ?_) (fun c1 => ?_)
  · replace hf := (if_pos c1).symm.trans hf
    refine xk_aload_n hC dX0_isTouched_26 0 rfl rfl ?_
    obtain ⟨v2, h2, hf⟩ := xk_bi hf
    refine xk_getI hC xi_1 xc_1 7 (by decide) xm_333 (Or.inl rfl) dX0_isTouched_27 h2 ?_
    refine xk_if_le (tgt := 55) hC dX0_isTouched_30 (by decide) (fun c3 => ?_) (fun c3 => ?_)
    · replace hf := (if_pos c3).symm.trans hf
      refine xk_locals [] rfl ?_
      exact t_X0_isTouched_55 hC hr w hf
    · replace hf := (if_neg c3).symm.trans hf
      refine xk_aload_n hC dX0_isTouched_33 0 rfl rfl ?_
      obtain ⟨v4, h4, hf⟩ := xk_bi hf
      refine xk_getI hC xi_1 xc_1 1 (by decide) xm_319 (Or.inl rfl) dX0_isTouched_34 h4 ?_
      refine xk_iload_n hC dX0_isTouched_37 1 rfl rfl ?_
      refine xk_iload_n hC dX0_isTouched_38 2 rfl rfl ?_
      refine xk_isub hC dX0_isTouched_39 ?_
      refine xk_icmp_ge (tgt := 55) hC dX0_isTouched_40 (by decide) (fun c5 => ?_) (fun c5 => ?_)
      · replace hf := (if_pos c5).symm.trans hf
        refine xk_locals [] rfl ?_
        exact t_X0_isTouched_55 hC hr w hf
      · replace hf := (if_neg c5).symm.trans hf
        refine xk_iload_n hC dX0_isTouched_43 1 rfl rfl ?_
        refine xk_aload_n hC dX0_isTouched_44 0 rfl rfl ?_
        obtain ⟨u7, h7, hf⟩ := xk_bi hf
        obtain ⟨q6, h6, hf⟩ := xk_bi hf
        refine xk_backi (xk_callV hC 0 xc_1 (c_X0_end h6) h7 xm_759 xm_424 xm_425 xm_17 xm_426 ⟨rfl, xd_X0_end⟩ rfl ⟨Nat.le_of_ble_eq_true rfl, Nat.le_of_ble_eq_true rfl⟩ rfl (Nat.le_of_ble_eq_true rfl) dX0_isTouched_45 ⟨(Nat.le_of_ble_eq_true rfl), (Nat.le_of_ble_eq_true rfl)⟩) ?_
        refine xk_icmp_ge (tgt := 55) hC dX0_isTouched_48 (by decide) (fun c8 => ?_) (fun c8 => ?_)
        · replace hf := (if_pos c8).symm.trans hf
          refine xk_locals [] rfl ?_
          exact t_X0_isTouched_55 hC hr (q6.2) hf
        · replace hf := (if_neg c8).symm.trans hf
          refine xk_iconst (v := (1 : Int32)) hC dX0_isTouched_51 (by decide) ?_
          refine xk_goto (tgt := 56) hC dX0_isTouched_52 (by decide) ?_
          refine xk_locals [] rfl ?_
          exact t_X0_isTouched_56 hC hr ((1 : Int32)) (q6.2) hf
  · replace hf := (if_neg c1).symm.trans hf
    refine xk_aload_n hC dX0_isTouched_4 0 rfl rfl ?_
    obtain ⟨v9, h9, hf⟩ := xk_bi hf
    refine xk_getI hC xi_1 xc_1 1 (by decide) xm_319 (Or.inl rfl) dX0_isTouched_5 h9 ?_
    refine xk_iload_n hC dX0_isTouched_8 1 rfl rfl ?_
    refine xk_icmp_ge (tgt := 24) hC dX0_isTouched_9 (by decide) (fun c10 => ?_) (fun c10 => ?_)
    · replace hf := (if_pos c10).symm.trans hf
      refine xk_locals [] rfl ?_
      exact t_X0_isTouched_24 hC hr w hf
    · replace hf := (if_neg c10).symm.trans hf
      refine xk_iload_n hC dX0_isTouched_12 1 rfl rfl ?_
      refine xk_aload_n hC dX0_isTouched_13 0 rfl rfl ?_
      obtain ⟨u12, h12, hf⟩ := xk_bi hf
      obtain ⟨q11, h11, hf⟩ := xk_bi hf
      refine xk_backi (xk_callV hC 0 xc_1 (c_X0_end h11) h12 xm_759 xm_424 xm_425 xm_17 xm_426 ⟨rfl, xd_X0_end⟩ rfl ⟨Nat.le_of_ble_eq_true rfl, Nat.le_of_ble_eq_true rfl⟩ rfl (Nat.le_of_ble_eq_true rfl) dX0_isTouched_14 ⟨(Nat.le_of_ble_eq_true rfl), (Nat.le_of_ble_eq_true rfl)⟩) ?_
      refine xk_icmp_ge (tgt := 24) hC dX0_isTouched_17 (by decide) (fun c13 => ?_) (fun c13 => ?_)
      · replace hf := (if_pos c13).symm.trans hf
        refine xk_locals [] rfl ?_
        exact t_X0_isTouched_24 hC hr (q11.2) hf
      · replace hf := (if_neg c13).symm.trans hf
        refine xk_iconst (v := (1 : Int32)) hC dX0_isTouched_20 (by decide) ?_
        refine xk_goto (tgt := 25) hC dX0_isTouched_21 (by decide) ?_
        refine xk_locals [] rfl ?_
        exact t_X0_isTouched_25 hC hr ((1 : Int32)) (q11.2) hf
theorem xd_X0_isTouched : xy_X0_isTouched.cls ≠ "java/lang/invoke/MethodHandle" ∧ xy_X0_isTouched.cls ≠ "java/lang/invoke/VarHandle" ∧ (parseMethodDescriptor xy_X0_isTouched.desc).map (fun d => d.parameters.length) = some 2 := ⟨by decide +kernel, by decide +kernel, by decide +kernel⟩
theorem c_X0_isTouched {l : Launch} {E : xEv} {x0 : Option Nat} {x1 : Int32} {x2 : Int32} {w : xWd} {q : (Int32 × xWd)} (hf : f_X0_isTouched x0 x1 x2 w = some q) : xk_M l xy_X0_isTouched prog_2_method_8_code 3 (some .boolean) 1 20 0 0 E [va_rf (x0), .int (x1), .int (x2)] w (xk_Qi E q) := by
  refine xk_enter (by decide +kernel) (by simp [lg_sl, xk_cat1, xk_cati, xk_catl, xk_catd]) ?_
  intro p e s m args below meth c hC hr hin ha
  rw [show lv_args 0 [va_rf (x0), .int (x1), .int (x2)] = [(0, va_rf (x0)), (1, .int (x1)), (2, .int (x2))] by simp [lv_args, xk_cat1, xk_cati, xk_catl, xk_catd]]
  exact t_X0_isTouched_0 hC hr x0 x1 x2 w hf
def f_X0_nearestBeat_62 (k7 : Option Nat → Int32 → Int32 → Int32 → Int32 → xWd → Option (Int32 × xWd)) (x0 : Option Nat) (x1 : Int32) (x2 : Int32) (x3 : Int32) (x4 : Int32) (w : xWd) : Option (Int32 × xWd) := k7 x0 x1 x2 x3 (x4 + (1 : Int32)) w
set_option maxHeartbeats 4000000 in
set_option maxRecDepth 100000 in
theorem t_X0_nearestBeat_62 {p : Program} {l : Launch} {e : Env} {s : State} {m : MethodId} {args : Array Value} {below : List Frame} {meth : Method} {c : Code} {E : xEv} (hC : xk_C p s m args meth c E prog_2_method_9_code "Clickbook$Cue" 6) (hr : meth.sig.returnType = (some .int)) {q : (Int32 × xWd)} {k7 : Option Nat → Int32 → Int32 → Int32 → Int32 → xWd → Option (Int32 × xWd)} (hk7 : ∀ (x0 : Option Nat) (x1 : Int32) (x2 : Int32) (x3 : Int32) (x4 : Int32) (w : xWd), k7 x0 x1 x2 x3 x4 w = some q → xk_X p l e { frames := 1, cells := 0, slots := 0, locals := 21 } s m args below meth c (MQ below (xk_Qi E q) args s 0 0 (xk_A E.2.2.1)) E 6 0 0 7 [(0, va_rf (x0)), (1, .int (x1)), (2, .int (x2)), (3, .int (x3)), (4, .int (x4))] [] w) (x0 : Option Nat) (x1 : Int32) (x2 : Int32) (x3 : Int32) (x4 : Int32) (w : xWd) (hf : f_X0_nearestBeat_62 k7 x0 x1 x2 x3 x4 w = some q) : xk_X p l e { frames := 1, cells := 0, slots := 0, locals := 21 } s m args below meth c (MQ below (xk_Qi E q) args s 0 0 (xk_A E.2.2.1)) E 6 0 0 62 [(0, va_rf (x0)), (1, .int (x1)), (2, .int (x2)), (3, .int (x3)), (4, .int (x4))] [] w := by
  refine xk_iinc (v := x4 + (1 : Int32)) (lv' := [(4, .int (x4 + (1 : Int32))), (0, va_rf (x0)), (1, .int (x1)), (2, .int (x2)), (3, .int (x3))]) hC dX0_nearestBeat_62 4 rfl rfl (by decide) rfl ?_
  refine xk_goto (tgt := 7) hC dX0_nearestBeat_65 (by decide) ?_
  refine xk_locals [1, 2, 3, 4, 0] rfl ?_
  exact hk7 x0 x1 x2 x3 (x4 + (1 : Int32)) w hf
def f_X0_nearestBeat_56 (k7 : Option Nat → Int32 → Int32 → Int32 → Int32 → xWd → Option (Int32 × xWd)) (x0 : Option Nat) (x1 : Int32) (x4 : Int32) (x5 : Int32) (w : xWd) : Option (Int32 × xWd) := f_X0_nearestBeat_62 k7 x0 x1 x4 x5 x4 w
set_option maxHeartbeats 4000000 in
set_option maxRecDepth 100000 in
theorem t_X0_nearestBeat_56 {p : Program} {l : Launch} {e : Env} {s : State} {m : MethodId} {args : Array Value} {below : List Frame} {meth : Method} {c : Code} {E : xEv} (hC : xk_C p s m args meth c E prog_2_method_9_code "Clickbook$Cue" 6) (hr : meth.sig.returnType = (some .int)) {q : (Int32 × xWd)} {k7 : Option Nat → Int32 → Int32 → Int32 → Int32 → xWd → Option (Int32 × xWd)} (hk7 : ∀ (x0 : Option Nat) (x1 : Int32) (x2 : Int32) (x3 : Int32) (x4 : Int32) (w : xWd), k7 x0 x1 x2 x3 x4 w = some q → xk_X p l e { frames := 1, cells := 0, slots := 0, locals := 21 } s m args below meth c (MQ below (xk_Qi E q) args s 0 0 (xk_A E.2.2.1)) E 6 0 0 7 [(0, va_rf (x0)), (1, .int (x1)), (2, .int (x2)), (3, .int (x3)), (4, .int (x4))] [] w) (x0 : Option Nat) (x1 : Int32) (x4 : Int32) (x5 : Int32) (w : xWd) (hf : f_X0_nearestBeat_56 k7 x0 x1 x4 x5 w = some q) : xk_X p l e { frames := 1, cells := 0, slots := 0, locals := 21 } s m args below meth c (MQ below (xk_Qi E q) args s 0 0 (xk_A E.2.2.1)) E 6 0 0 56 [(0, va_rf (x0)), (1, .int (x1)), (4, .int (x4)), (5, .int (x5))] [] w := by
  refine xk_iload hC dX0_nearestBeat_56 2 rfl ?_
  refine xk_istore_n (i := 2) (lv' := [(2, .int (x4)), (0, va_rf (x0)), (1, .int (x1)), (4, .int (x4)), (5, .int (x5))]) hC dX0_nearestBeat_58 rfl (by decide) rfl ?_
  refine xk_iload hC dX0_nearestBeat_59 4 rfl ?_
  refine xk_istore_n (i := 3) (lv' := [(3, .int (x5)), (2, .int (x4)), (0, va_rf (x0)), (1, .int (x1)), (4, .int (x4)), (5, .int (x5))]) hC dX0_nearestBeat_61 rfl (by decide) rfl ?_
  refine xk_locals [2, 3, 1, 0, 4] rfl ?_
  exact t_X0_nearestBeat_62 hC hr hk7 x0 x1 x4 x5 x4 w hf
def f_X0_nearestBeat_68 (x2 : Int32) (w : xWd) : Option (Int32 × xWd) := some (x2, w)
set_option maxHeartbeats 4000000 in
set_option maxRecDepth 100000 in
theorem t_X0_nearestBeat_68 {p : Program} {l : Launch} {e : Env} {s : State} {m : MethodId} {args : Array Value} {below : List Frame} {meth : Method} {c : Code} {E : xEv} (hC : xk_C p s m args meth c E prog_2_method_9_code "Clickbook$Cue" 6) (hr : meth.sig.returnType = (some .int)) {q : (Int32 × xWd)} (x2 : Int32) (w : xWd) (hf : f_X0_nearestBeat_68 x2 w = some q) : xk_X p l e { frames := 1, cells := 0, slots := 0, locals := 21 } s m args below meth c (MQ below (xk_Qi E q) args s 0 0 (xk_A E.2.2.1)) E 6 0 0 68 [(2, .int (x2))] [] w := by
  refine xk_iload_n hC dX0_nearestBeat_68 0 rfl rfl ?_
  cases hf
  refine xk_widen (k := 0) (n := 0) (Nat.le_of_ble_eq_true rfl) (Nat.le_of_ble_eq_true rfl) ?_
  exact xk_iret hC hr rfl dX0_nearestBeat_69
def f_X0_nearestBeat_7 : Nat → Option Nat → Int32 → Int32 → Int32 → Int32 → xWd → Option (Int32 × xWd)
  | 0, _, _, _, _, _, _ => none
  | n + 1, x0, x1, x2, x3, x4, w => (xk_gI w (x0) 1 10).bind (fun v1 => if (v1) ≤ (x4) then f_X0_nearestBeat_68 x2 w else (xk_gR w (x0) 1 12).bind (fun v3 => (xk_len w (v3)).bind (fun v4 => if (v4) ≤ (x4) then f_X0_nearestBeat_68 x2 w else (xk_gI w (x0) 1 1).bind (fun v6 => (xk_gR w (x0) 1 12).bind (fun v7 => (xk_lI 0 w (v7) (x4)).bind (fun v8 => if (x3) = ((-1 : Int32)) then f_X0_nearestBeat_56 (f_X0_nearestBeat_7 n) x0 x1 x4 (if 0 ≤ (((v6) + (v8)) - (x1)) then (((v6) + (v8)) - (x1)) else 0 - (((v6) + (v8)) - (x1))) w else if (x3) ≤ (if 0 ≤ (((v6) + (v8)) - (x1)) then (((v6) + (v8)) - (x1)) else 0 - (((v6) + (v8)) - (x1))) then f_X0_nearestBeat_62 (f_X0_nearestBeat_7 n) x0 x1 x2 x3 x4 w else f_X0_nearestBeat_56 (f_X0_nearestBeat_7 n) x0 x1 x4 (if 0 ≤ (((v6) + (v8)) - (x1)) then (((v6) + (v8)) - (x1)) else 0 - (((v6) + (v8)) - (x1))) w))))))
set_option maxHeartbeats 4000000 in
set_option maxRecDepth 100000 in
theorem t_X0_nearestBeat_7 {p : Program} {l : Launch} {e : Env} {s : State} {m : MethodId} {args : Array Value} {below : List Frame} {meth : Method} {c : Code} {E : xEv} (hC : xk_C p s m args meth c E prog_2_method_9_code "Clickbook$Cue" 6) (hr : meth.sig.returnType = (some .int)) {q : (Int32 × xWd)} : ∀ (n : Nat) (x0 : Option Nat) (x1 : Int32) (x2 : Int32) (x3 : Int32) (x4 : Int32) (w : xWd), f_X0_nearestBeat_7 n x0 x1 x2 x3 x4 w = some q → xk_X p l e { frames := 1, cells := 0, slots := 0, locals := 21 } s m args below meth c (MQ below (xk_Qi E q) args s 0 0 (xk_A E.2.2.1)) E 6 0 0 7 [(0, va_rf (x0)), (1, .int (x1)), (2, .int (x2)), (3, .int (x3)), (4, .int (x4))] [] w := by
  intro n
  induction n with
  | zero => intro x0 x1 x2 x3 x4 w hf; have hf : none = some q := hf; cases hf
  | succ n ih =>
    intro x0 x1 x2 x3 x4 w hf
    refine xk_iload hC dX0_nearestBeat_7 4 rfl ?_
    refine xk_aload_n hC dX0_nearestBeat_9 0 rfl rfl ?_
    obtain ⟨v1, h1, hf⟩ := xk_bi hf
    refine xk_getI hC xi_1 xc_1 10 (by decide) xm_339 (Or.inl rfl) dX0_nearestBeat_10 h1 ?_
    refine xk_icmp_ge (tgt := 68) hC dX0_nearestBeat_13 (by decide) (fun c2 => ?_) (fun c2 => ?_)
    · replace hf := (if_pos c2).symm.trans hf
      refine xk_locals [2] rfl ?_
      exact t_X0_nearestBeat_68 hC hr x2 w hf
    · replace hf := (if_neg c2).symm.trans hf
      refine xk_iload hC dX0_nearestBeat_16 4 rfl ?_
      refine xk_aload_n hC dX0_nearestBeat_18 0 rfl rfl ?_
      obtain ⟨v3, h3, hf⟩ := xk_bi hf
      refine xk_getR hC xi_1 xc_1 12 (by decide) xm_343 (Or.inl rfl) dX0_nearestBeat_19 h3 ?_
      obtain ⟨v4, h4, hf⟩ := xk_bi hf
      refine xk_alen hC dX0_nearestBeat_22 h4 ?_
      refine xk_icmp_ge (tgt := 68) hC dX0_nearestBeat_23 (by decide) (fun c5 => ?_) (fun c5 => ?_)
      · replace hf := (if_pos c5).symm.trans hf
        refine xk_locals [2] rfl ?_
        exact t_X0_nearestBeat_68 hC hr x2 w hf
      · replace hf := (if_neg c5).symm.trans hf
        refine xk_aload_n hC dX0_nearestBeat_26 0 rfl rfl ?_
        obtain ⟨v6, h6, hf⟩ := xk_bi hf
        refine xk_getI hC xi_1 xc_1 1 (by decide) xm_319 (Or.inl rfl) dX0_nearestBeat_27 h6 ?_
        refine xk_aload_n hC dX0_nearestBeat_30 0 rfl rfl ?_
        obtain ⟨v7, h7, hf⟩ := xk_bi hf
        refine xk_getR hC xi_1 xc_1 12 (by decide) xm_343 (Or.inl rfl) dX0_nearestBeat_31 h7 ?_
        refine xk_iload hC dX0_nearestBeat_34 4 rfl ?_
        obtain ⟨v8, h8, hf⟩ := xk_bi hf
        refine xk_iald hC rfl dX0_nearestBeat_36 h8 ?_
        refine xk_iadd hC dX0_nearestBeat_37 ?_
        refine xk_iload_n hC dX0_nearestBeat_38 1 rfl rfl ?_
        refine xk_isub hC dX0_nearestBeat_39 ?_
        refine xk_mabs hC xm_448 xm_449 xm_13 xm_450 (Nat.le_of_ble_eq_true rfl) (Nat.le_of_ble_eq_true rfl) (Nat.le_of_ble_eq_true rfl) (Nat.le_of_ble_eq_true rfl) dX0_nearestBeat_40 ?_
        refine xk_istore (i := 5) (lv' := [(5, .int (if 0 ≤ (((v6) + (v8)) - (x1)) then (((v6) + (v8)) - (x1)) else 0 - (((v6) + (v8)) - (x1)))), (0, va_rf (x0)), (1, .int (x1)), (2, .int (x2)), (3, .int (x3)), (4, .int (x4))]) hC dX0_nearestBeat_43 (by decide) rfl ?_
        refine xk_iload_n hC dX0_nearestBeat_45 4 rfl rfl ?_
        refine xk_iconst (v := (-1 : Int32)) hC dX0_nearestBeat_46 (by decide) ?_
        refine xk_icmp_eq (tgt := 56) hC dX0_nearestBeat_47 (by decide) (fun c9 => ?_) (fun c9 => ?_)
        · replace hf := (if_pos c9).symm.trans hf
          refine xk_locals [1, 2, 5, 0] rfl ?_
          exact t_X0_nearestBeat_56 hC hr (fun x0 x1 x2 x3 x4 w hf => ih x0 x1 x2 x3 x4 w hf) x0 x1 x4 (if 0 ≤ (((v6) + (v8)) - (x1)) then (((v6) + (v8)) - (x1)) else 0 - (((v6) + (v8)) - (x1))) w hf
        · replace hf := (if_neg c9).symm.trans hf
          refine xk_iload hC dX0_nearestBeat_50 0 rfl ?_
          refine xk_iload_n hC dX0_nearestBeat_52 4 rfl rfl ?_
          refine xk_icmp_ge (tgt := 62) hC dX0_nearestBeat_53 (by decide) (fun c10 => ?_) (fun c10 => ?_)
          · replace hf := (if_pos c10).symm.trans hf
            refine xk_locals [1, 2, 3, 4, 5] rfl ?_
            exact t_X0_nearestBeat_62 hC hr (fun x0 x1 x2 x3 x4 w hf => ih x0 x1 x2 x3 x4 w hf) x0 x1 x2 x3 x4 w hf
          · replace hf := (if_neg c10).symm.trans hf
            refine xk_locals [1, 2, 5, 0] rfl ?_
            exact t_X0_nearestBeat_56 hC hr (fun x0 x1 x2 x3 x4 w hf => ih x0 x1 x2 x3 x4 w hf) x0 x1 x4 (if 0 ≤ (((v6) + (v8)) - (x1)) then (((v6) + (v8)) - (x1)) else 0 - (((v6) + (v8)) - (x1))) w hf
def f_X0_nearestBeat (x0 : Option Nat) (x1 : Int32) (w : xWd) : Option (Int32 × xWd) := f_X0_nearestBeat_7 4096 x0 x1 ((-1 : Int32)) ((-1 : Int32)) ((0 : Int32)) w
set_option maxHeartbeats 4000000 in
set_option maxRecDepth 100000 in
theorem t_X0_nearestBeat_0 {p : Program} {l : Launch} {e : Env} {s : State} {m : MethodId} {args : Array Value} {below : List Frame} {meth : Method} {c : Code} {E : xEv} (hC : xk_C p s m args meth c E prog_2_method_9_code "Clickbook$Cue" 6) (hr : meth.sig.returnType = (some .int)) {q : (Int32 × xWd)} (x0 : Option Nat) (x1 : Int32) (w : xWd) (hf : f_X0_nearestBeat x0 x1 w = some q) : xk_X p l e { frames := 1, cells := 0, slots := 0, locals := 21 } s m args below meth c (MQ below (xk_Qi E q) args s 0 0 (xk_A E.2.2.1)) E 6 0 0 0 [(0, va_rf (x0)), (1, .int (x1))] [] w := by
  refine xk_iconst (v := (-1 : Int32)) hC dX0_nearestBeat_0 (by decide) ?_
  refine xk_istore_n (i := 2) (lv' := [(2, .int ((-1 : Int32))), (0, va_rf (x0)), (1, .int (x1))]) hC dX0_nearestBeat_1 rfl (by decide) rfl ?_
  refine xk_iconst (v := (-1 : Int32)) hC dX0_nearestBeat_2 (by decide) ?_
  refine xk_istore_n (i := 3) (lv' := [(3, .int ((-1 : Int32))), (2, .int ((-1 : Int32))), (0, va_rf (x0)), (1, .int (x1))]) hC dX0_nearestBeat_3 rfl (by decide) rfl ?_
  refine xk_iconst (v := (0 : Int32)) hC dX0_nearestBeat_4 (by decide) ?_
  refine xk_istore (i := 4) (lv' := [(4, .int ((0 : Int32))), (3, .int ((-1 : Int32))), (2, .int ((-1 : Int32))), (0, va_rf (x0)), (1, .int (x1))]) hC dX0_nearestBeat_5 (by decide) rfl ?_
  refine xk_locals [3, 4, 2, 1, 0] rfl ?_
  exact t_X0_nearestBeat_7 hC hr 4096 x0 x1 ((-1 : Int32)) ((-1 : Int32)) ((0 : Int32)) w hf
theorem xd_X0_nearestBeat : xy_X0_nearestBeat.cls ≠ "java/lang/invoke/MethodHandle" ∧ xy_X0_nearestBeat.cls ≠ "java/lang/invoke/VarHandle" ∧ (parseMethodDescriptor xy_X0_nearestBeat.desc).map (fun d => d.parameters.length) = some 1 := ⟨by decide +kernel, by decide +kernel, by decide +kernel⟩
theorem c_X0_nearestBeat {l : Launch} {E : xEv} {x0 : Option Nat} {x1 : Int32} {w : xWd} {q : (Int32 × xWd)} (hf : f_X0_nearestBeat x0 x1 w = some q) : xk_M l xy_X0_nearestBeat prog_2_method_9_code 6 (some .int) 1 21 0 0 E [va_rf (x0), .int (x1)] w (xk_Qi E q) := by
  refine xk_enter (by decide +kernel) (by simp [lg_sl, xk_cat1, xk_cati, xk_catl, xk_catd]) ?_
  intro p e s m args below meth c hC hr hin ha
  rw [show lv_args 0 [va_rf (x0), .int (x1)] = [(0, va_rf (x0)), (1, .int (x1))] by simp [lv_args, xk_cat1, xk_cati, xk_catl, xk_catd]]
  exact t_X0_nearestBeat_0 hC hr x0 x1 w hf
def f_X0_missOf_25 (s0 : Int32) (w : xWd) : Option (Int32 × xWd) := some (s0, w)
set_option maxHeartbeats 4000000 in
set_option maxRecDepth 100000 in
theorem t_X0_missOf_25 {p : Program} {l : Launch} {e : Env} {s : State} {m : MethodId} {args : Array Value} {below : List Frame} {meth : Method} {c : Code} {E : xEv} (hC : xk_C p s m args meth c E prog_2_method_10_code "Clickbook$Cue" 3) (hr : meth.sig.returnType = (some .int)) {q : (Int32 × xWd)} (s0 : Int32) (w : xWd) (hf : f_X0_missOf_25 s0 w = some q) : xk_X p l e { frames := 2, cells := 0, slots := 0, locals := 46 } s m args below meth c (MQ below (xk_Qi E q) args s 0 0 (xk_A E.2.2.1)) E 3 0 0 25 [] [.int (s0)] w := by
  cases hf
  refine xk_widen (k := 0) (n := 0) (Nat.le_of_ble_eq_true rfl) (Nat.le_of_ble_eq_true rfl) ?_
  exact xk_iret hC hr rfl dX0_missOf_25
def f_X0_missOf (x0 : Option Nat) (x1 : Int32) (w : xWd) : Option (Int32 × xWd) := (xk_is w (x0) 1).bind (fun u2 => (f_X0_nearestBeat (x0) (x1) w).bind (fun q1 => if (q1.1) = ((-1 : Int32)) then f_X0_missOf_25 ((-1 : Int32)) (q1.2) else (xk_is q1.2 (x0) 1).bind (fun u5 => (f_X0_beatFrame (x0) (q1.1) q1.2).bind (fun q4 => f_X0_missOf_25 (if 0 ≤ ((q4.1) - (x1)) then ((q4.1) - (x1)) else 0 - ((q4.1) - (x1))) (q4.2)))))
set_option maxHeartbeats 4000000 in
set_option maxRecDepth 100000 in
theorem t_X0_missOf_0 {p : Program} {l : Launch} {e : Env} {s : State} {m : MethodId} {args : Array Value} {below : List Frame} {meth : Method} {c : Code} {E : xEv} (hC : xk_C p s m args meth c E prog_2_method_10_code "Clickbook$Cue" 3) (hr : meth.sig.returnType = (some .int)) {q : (Int32 × xWd)} (x0 : Option Nat) (x1 : Int32) (w : xWd) (hf : f_X0_missOf x0 x1 w = some q) : xk_X p l e { frames := 2, cells := 0, slots := 0, locals := 46 } s m args below meth c (MQ below (xk_Qi E q) args s 0 0 (xk_A E.2.2.1)) E 3 0 0 0 [(0, va_rf (x0)), (1, .int (x1))] [] w := by
  refine xk_aload_n hC dX0_missOf_0 0 rfl rfl ?_
  refine xk_iload_n hC dX0_missOf_1 1 rfl rfl ?_
  obtain ⟨u2, h2, hf⟩ := xk_bi hf
  obtain ⟨q1, h1, hf⟩ := xk_bi hf
  refine xk_backi (xk_callV hC 1 xc_1 (c_X0_nearestBeat h1) h2 xm_692 xm_693 xm_694 xm_17 xm_695 ⟨rfl, xd_X0_nearestBeat⟩ rfl ⟨Nat.le_of_ble_eq_true rfl, Nat.le_of_ble_eq_true rfl⟩ rfl (Nat.le_of_ble_eq_true rfl) dX0_missOf_2 ⟨(Nat.le_of_ble_eq_true rfl), (Nat.le_of_ble_eq_true rfl)⟩) ?_
  refine xk_istore_n (i := 2) (lv' := [(2, .int (q1.1)), (0, va_rf (x0)), (1, .int (x1))]) hC dX0_missOf_5 rfl (by decide) rfl ?_
  refine xk_iload_n hC dX0_missOf_6 0 rfl rfl ?_
  refine xk_iconst (v := (-1 : Int32)) hC dX0_missOf_7 (by decide) ?_
  refine xk_icmp_ne (tgt := 15) hC dX0_missOf_8 (by decide) (fun c3 => ?_) (fun c3 => ?_)
  · replace hf := (if_neg c3).symm.trans hf
    refine xk_aload_n hC dX0_missOf_15 1 rfl rfl ?_
    refine xk_iload_n hC dX0_missOf_16 0 rfl rfl ?_
    obtain ⟨u5, h5, hf⟩ := xk_bi hf
    obtain ⟨q4, h4, hf⟩ := xk_bi hf
    refine xk_backi (xk_callV hC 1 xc_1 (c_X0_beatFrame h4) h5 xm_696 xm_697 xm_698 xm_17 xm_699 ⟨rfl, xd_X0_beatFrame⟩ rfl ⟨Nat.le_of_ble_eq_true rfl, Nat.le_of_ble_eq_true rfl⟩ rfl (Nat.le_of_ble_eq_true rfl) dX0_missOf_17 ⟨(Nat.le_of_ble_eq_true rfl), (Nat.le_of_ble_eq_true rfl)⟩) ?_
    refine xk_iload_n hC dX0_missOf_20 2 rfl rfl ?_
    refine xk_isub hC dX0_missOf_21 ?_
    refine xk_mabs hC xm_448 xm_449 xm_13 xm_450 (Nat.le_of_ble_eq_true rfl) (Nat.le_of_ble_eq_true rfl) (Nat.le_of_ble_eq_true rfl) (Nat.le_of_ble_eq_true rfl) dX0_missOf_22 ?_
    refine xk_locals [] rfl ?_
    exact t_X0_missOf_25 hC hr (if 0 ≤ ((q4.1) - (x1)) then ((q4.1) - (x1)) else 0 - ((q4.1) - (x1))) (q4.2) hf
  · replace hf := (if_pos c3).symm.trans hf
    refine xk_iconst (v := (-1 : Int32)) hC dX0_missOf_11 (by decide) ?_
    refine xk_goto (tgt := 25) hC dX0_missOf_12 (by decide) ?_
    refine xk_locals [] rfl ?_
    exact t_X0_missOf_25 hC hr ((-1 : Int32)) (q1.2) hf
theorem xd_X0_missOf : xy_X0_missOf.cls ≠ "java/lang/invoke/MethodHandle" ∧ xy_X0_missOf.cls ≠ "java/lang/invoke/VarHandle" ∧ (parseMethodDescriptor xy_X0_missOf.desc).map (fun d => d.parameters.length) = some 1 := ⟨by decide +kernel, by decide +kernel, by decide +kernel⟩
theorem c_X0_missOf {l : Launch} {E : xEv} {x0 : Option Nat} {x1 : Int32} {w : xWd} {q : (Int32 × xWd)} (hf : f_X0_missOf x0 x1 w = some q) : xk_M l xy_X0_missOf prog_2_method_10_code 3 (some .int) 2 46 0 0 E [va_rf (x0), .int (x1)] w (xk_Qi E q) := by
  refine xk_enter (by decide +kernel) (by simp [lg_sl, xk_cat1, xk_cati, xk_catl, xk_catd]) ?_
  intro p e s m args below meth c hC hr hin ha
  rw [show lv_args 0 [va_rf (x0), .int (x1)] = [(0, va_rf (x0)), (1, .int (x1))] by simp [lv_args, xk_cat1, xk_cati, xk_catl, xk_catd]]
  exact t_X0_missOf_0 hC hr x0 x1 w hf
def f_X0_reaches_44 (w : xWd) : Option (Int32 × xWd) := some ((0 : Int32), w)
set_option maxHeartbeats 4000000 in
set_option maxRecDepth 100000 in
theorem t_X0_reaches_44 {p : Program} {l : Launch} {e : Env} {s : State} {m : MethodId} {args : Array Value} {below : List Frame} {meth : Method} {c : Code} {E : xEv} (hC : xk_C p s m args meth c E prog_2_method_11_code "Clickbook$Cue" 6) (hr : meth.sig.returnType = (some .boolean)) {q : (Int32 × xWd)} (w : xWd) (hf : f_X0_reaches_44 w = some q) : xk_X p l e { frames := 1, cells := 0, slots := 0, locals := 21 } s m args below meth c (MQ below (xk_Qi E q) args s 0 0 (xk_A E.2.2.1)) E 6 0 0 44 [] [] w := by
  refine xk_iconst (v := (0 : Int32)) hC dX0_reaches_44 (by decide) ?_
  cases hf
  refine xk_widen (k := 0) (n := 0) (Nat.le_of_ble_eq_true rfl) (Nat.le_of_ble_eq_true rfl) ?_
  exact xk_iret hC hr rfl dX0_reaches_45
def f_X0_reaches_3 : Nat → Option Nat → Int32 → Int32 → Int32 → Option Nat → Int32 → xWd → Option (Int32 × xWd)
  | 0, _, _, _, _, _, _, _ => none
  | n + 1, x0, x1, x2, x3, x4, x5, w => (xk_gI w (x0) 1 10).bind (fun v1 => if (v1) ≤ (x5) then f_X0_reaches_44 w else (xk_len w (x4)).bind (fun v3 => if (v3) ≤ (x5) then f_X0_reaches_44 w else (xk_lI 0 w (x4) (x5)).bind (fun v5 => if (x2) < (if 0 ≤ (((x3) + (v5)) - (x1)) then (((x3) + (v5)) - (x1)) else 0 - (((x3) + (v5)) - (x1))) then f_X0_reaches_3 n x0 x1 x2 x3 x4 (x5 + (1 : Int32)) w else some ((1 : Int32), w))))
set_option maxHeartbeats 4000000 in
set_option maxRecDepth 100000 in
theorem t_X0_reaches_3 {p : Program} {l : Launch} {e : Env} {s : State} {m : MethodId} {args : Array Value} {below : List Frame} {meth : Method} {c : Code} {E : xEv} (hC : xk_C p s m args meth c E prog_2_method_11_code "Clickbook$Cue" 6) (hr : meth.sig.returnType = (some .boolean)) {q : (Int32 × xWd)} : ∀ (n : Nat) (x0 : Option Nat) (x1 : Int32) (x2 : Int32) (x3 : Int32) (x4 : Option Nat) (x5 : Int32) (w : xWd), f_X0_reaches_3 n x0 x1 x2 x3 x4 x5 w = some q → xk_X p l e { frames := 1, cells := 0, slots := 0, locals := 21 } s m args below meth c (MQ below (xk_Qi E q) args s 0 0 (xk_A E.2.2.1)) E 6 0 0 3 [(0, va_rf (x0)), (1, .int (x1)), (2, .int (x2)), (3, .int (x3)), (4, va_rf (x4)), (5, .int (x5))] [] w := by
  intro n
  induction n with
  | zero => intro x0 x1 x2 x3 x4 x5 w hf; have hf : none = some q := hf; cases hf
  | succ n ih =>
    intro x0 x1 x2 x3 x4 x5 w hf
    refine xk_iload hC dX0_reaches_3 5 rfl ?_
    refine xk_aload_n hC dX0_reaches_5 0 rfl rfl ?_
    obtain ⟨v1, h1, hf⟩ := xk_bi hf
    refine xk_getI hC xi_1 xc_1 10 (by decide) xm_339 (Or.inl rfl) dX0_reaches_6 h1 ?_
    refine xk_icmp_ge (tgt := 44) hC dX0_reaches_9 (by decide) (fun c2 => ?_) (fun c2 => ?_)
    · replace hf := (if_pos c2).symm.trans hf
      refine xk_locals [] rfl ?_
      exact t_X0_reaches_44 hC hr w hf
    · replace hf := (if_neg c2).symm.trans hf
      refine xk_iload hC dX0_reaches_12 5 rfl ?_
      refine xk_aload hC dX0_reaches_14 4 rfl ?_
      obtain ⟨v3, h3, hf⟩ := xk_bi hf
      refine xk_alen hC dX0_reaches_16 h3 ?_
      refine xk_icmp_ge (tgt := 44) hC dX0_reaches_17 (by decide) (fun c4 => ?_) (fun c4 => ?_)
      · replace hf := (if_pos c4).symm.trans hf
        refine xk_locals [] rfl ?_
        exact t_X0_reaches_44 hC hr w hf
      · replace hf := (if_neg c4).symm.trans hf
        refine xk_iload_n hC dX0_reaches_20 3 rfl rfl ?_
        refine xk_aload hC dX0_reaches_21 4 rfl ?_
        refine xk_iload hC dX0_reaches_23 5 rfl ?_
        obtain ⟨v5, h5, hf⟩ := xk_bi hf
        refine xk_iald hC rfl dX0_reaches_25 h5 ?_
        refine xk_iadd hC dX0_reaches_26 ?_
        refine xk_iload_n hC dX0_reaches_27 1 rfl rfl ?_
        refine xk_isub hC dX0_reaches_28 ?_
        refine xk_mabs hC xm_448 xm_449 xm_13 xm_450 (Nat.le_of_ble_eq_true rfl) (Nat.le_of_ble_eq_true rfl) (Nat.le_of_ble_eq_true rfl) (Nat.le_of_ble_eq_true rfl) dX0_reaches_29 ?_
        refine xk_iload_n hC dX0_reaches_32 2 rfl rfl ?_
        refine xk_icmp_gt (tgt := 38) hC dX0_reaches_33 (by decide) (fun c6 => ?_) (fun c6 => ?_)
        · replace hf := (if_pos c6).symm.trans hf
          refine xk_iinc (v := x5 + (1 : Int32)) (lv' := [(5, .int (x5 + (1 : Int32))), (0, va_rf (x0)), (1, .int (x1)), (2, .int (x2)), (3, .int (x3)), (4, va_rf (x4))]) hC dX0_reaches_38 5 rfl rfl (by decide) (by simp [xk_cat1]) ?_
          refine xk_goto (tgt := 3) hC dX0_reaches_41 (by decide) ?_
          refine xk_locals [1, 2, 3, 4, 5, 0] rfl ?_
          exact ih x0 x1 x2 x3 x4 (x5 + (1 : Int32)) w hf
        · replace hf := (if_neg c6).symm.trans hf
          refine xk_iconst (v := (1 : Int32)) hC dX0_reaches_36 (by decide) ?_
          cases hf
          refine xk_widen (k := 0) (n := 0) (Nat.le_of_ble_eq_true rfl) (Nat.le_of_ble_eq_true rfl) ?_
          exact xk_iret hC hr rfl dX0_reaches_37
def f_X0_reaches (x0 : Option Nat) (x1 : Int32) (x2 : Int32) (x3 : Int32) (x4 : Option Nat) (w : xWd) : Option (Int32 × xWd) := f_X0_reaches_3 4096 x0 x1 x2 x3 x4 ((0 : Int32)) w
set_option maxHeartbeats 4000000 in
set_option maxRecDepth 100000 in
theorem t_X0_reaches_0 {p : Program} {l : Launch} {e : Env} {s : State} {m : MethodId} {args : Array Value} {below : List Frame} {meth : Method} {c : Code} {E : xEv} (hC : xk_C p s m args meth c E prog_2_method_11_code "Clickbook$Cue" 6) (hr : meth.sig.returnType = (some .boolean)) {q : (Int32 × xWd)} (x0 : Option Nat) (x1 : Int32) (x2 : Int32) (x3 : Int32) (x4 : Option Nat) (w : xWd) (hf : f_X0_reaches x0 x1 x2 x3 x4 w = some q) : xk_X p l e { frames := 1, cells := 0, slots := 0, locals := 21 } s m args below meth c (MQ below (xk_Qi E q) args s 0 0 (xk_A E.2.2.1)) E 6 0 0 0 [(0, va_rf (x0)), (1, .int (x1)), (2, .int (x2)), (3, .int (x3)), (4, va_rf (x4))] [] w := by
  refine xk_iconst (v := (0 : Int32)) hC dX0_reaches_0 (by decide) ?_
  refine xk_istore (i := 5) (lv' := [(5, .int ((0 : Int32))), (0, va_rf (x0)), (1, .int (x1)), (2, .int (x2)), (3, .int (x3)), (4, va_rf (x4))]) hC dX0_reaches_1 (by decide) (by simp [xk_cat1]) ?_
  refine xk_locals [1, 2, 3, 4, 5, 0] rfl ?_
  exact t_X0_reaches_3 hC hr 4096 x0 x1 x2 x3 x4 ((0 : Int32)) w hf
theorem xd_X0_reaches : xy_X0_reaches.cls ≠ "java/lang/invoke/MethodHandle" ∧ xy_X0_reaches.cls ≠ "java/lang/invoke/VarHandle" ∧ (parseMethodDescriptor xy_X0_reaches.desc).map (fun d => d.parameters.length) = some 4 := ⟨by decide +kernel, by decide +kernel, by decide +kernel⟩
theorem c_X0_reaches {l : Launch} {E : xEv} {x0 : Option Nat} {x1 : Int32} {x2 : Int32} {x3 : Int32} {x4 : Option Nat} {w : xWd} {q : (Int32 × xWd)} (hf : f_X0_reaches x0 x1 x2 x3 x4 w = some q) : xk_M l xy_X0_reaches prog_2_method_11_code 6 (some .boolean) 1 21 0 0 E [va_rf (x0), .int (x1), .int (x2), .int (x3), va_rf (x4)] w (xk_Qi E q) := by
  refine xk_enter (by decide +kernel) (by simp [lg_sl, xk_cat1, xk_cati, xk_catl, xk_catd]) ?_
  intro p e s m args below meth c hC hr hin ha
  rw [show lv_args 0 [va_rf (x0), .int (x1), .int (x2), .int (x3), va_rf (x4)] = [(0, va_rf (x0)), (1, .int (x1)), (2, .int (x2)), (3, .int (x3)), (4, va_rf (x4))] by simp [lv_args, xk_cat1, xk_cati, xk_catl, xk_catd]]
  exact t_X0_reaches_0 hC hr x0 x1 x2 x3 x4 w hf
def f_X1_init (x0 : Nat) (x1 : Int32) (x2 : Int32) (w : xWd) : Option xWd := (xk_pV w (some x0) 2 0 (.int (x1))).bind (fun w1 => (xk_pV w1 (some x0) 2 1 (.int (x2))).bind (fun w2 => some w2))
set_option maxHeartbeats 4000000 in
set_option maxRecDepth 100000 in
theorem t_X1_init_0 {p : Program} {l : Launch} {e : Env} {s : State} {m : MethodId} {args : Array Value} {below : List Frame} {meth : Method} {c : Code} {E : xEv} (hC : xk_C p s m args meth c E prog_3_method_1_code "Clickbook$Hit" 3) (hr : meth.sig.returnType = none) (hin : meth.name = "<init>") {q : xWd} (x0 : Nat) (x1 : Int32) (x2 : Int32) (w : xWd) (hf : f_X1_init x0 x1 x2 w = some q) : xk_X p l e { frames := 1, cells := 0, slots := 0, locals := 20 } s m args below meth c (MQ below (xk_Qv E q) args s 0 0 (xk_A E.2.2.1)) E 3 0 0 0 [(0, va_rf (some x0)), (1, .int (x1)), (2, .int (x2))] [] w := by
  refine xk_aload_n hC dX1_init_0 0 rfl rfl ?_
  refine xk_objI hC xm_212 xm_27 xm_28 dX1_init_1 (Nat.le_of_ble_eq_true rfl) (Nat.le_of_ble_eq_true rfl) ?_
  refine xk_aload_n hC dX1_init_4 0 rfl rfl ?_
  refine xk_iload_n hC dX1_init_5 1 rfl rfl ?_
  obtain ⟨w1, h1, hf⟩ := xk_bi hf
  refine xk_put hC xi_2 xc_2 xo_2 xn_2 0 (by decide) xm_213 (Or.inl rfl) rfl rfl rfl dX1_init_6 h1 ?_
  refine xk_aload_n hC dX1_init_9 0 rfl rfl ?_
  refine xk_iload_n hC dX1_init_10 2 rfl rfl ?_
  obtain ⟨w2, h2, hf⟩ := xk_bi hf
  refine xk_putF hC xi_2 xc_2 xo_2 xn_2 1 (by decide) xm_215 (Or.inl rfl) rfl hin rfl rfl rfl dX1_init_11 h2 ?_
  cases hf
  refine xk_widen (k := 0) (n := 0) (Nat.le_of_ble_eq_true rfl) (Nat.le_of_ble_eq_true rfl) ?_
  exact xk_vret hC hr dX1_init_14
theorem xd_X1_init : xy_X1_init.cls ≠ "java/lang/invoke/MethodHandle" ∧ xy_X1_init.cls ≠ "java/lang/invoke/VarHandle" ∧ (parseMethodDescriptor xy_X1_init.desc).map (fun d => d.parameters.length) = some 2 := ⟨by decide +kernel, by decide +kernel, by decide +kernel⟩
theorem c_X1_init {l : Launch} {E : xEv} {x0 : Nat} {x1 : Int32} {x2 : Int32} {w : xWd} {q : xWd} (hf : f_X1_init x0 x1 x2 w = some q) : xk_M l xy_X1_init prog_3_method_1_code 3 none 1 20 0 0 E [va_rf (some x0), .int (x1), .int (x2)] w (xk_Qv E q) := by
  refine xk_enter (by decide +kernel) (by simp [lg_sl, xk_cat1, xk_cati, xk_catl, xk_catd]) ?_
  intro p e s m args below meth c hC hr hin ha
  rw [show lv_args 0 [va_rf (some x0), .int (x1), .int (x2)] = [(0, va_rf (some x0)), (1, .int (x1)), (2, .int (x2))] by simp [lv_args, xk_cat1, xk_cati, xk_catl, xk_catd]]
  exact t_X1_init_0 hC hr (hin rfl) x0 x1 x2 w hf
def f_X4_isTakenOut_21 (s0 : Int32) (w : xWd) : Option (Int32 × xWd) := (xk_zb (s0)).bind (fun u1 => some (s0, w))
set_option maxHeartbeats 4000000 in
set_option maxRecDepth 100000 in
theorem t_X4_isTakenOut_21 {p : Program} {l : Launch} {e : Env} {s : State} {m : MethodId} {args : Array Value} {below : List Frame} {meth : Method} {c : Code} {E : xEv} (hC : xk_C p s m args meth c E prog_1_method_7_code "Clickbook" 3) (hr : meth.sig.returnType = (some .boolean)) {q : (Int32 × xWd)} (s0 : Int32) (w : xWd) (hf : f_X4_isTakenOut_21 s0 w = some q) : xk_X p l e { frames := 0, cells := 0, slots := 0, locals := 0 } s m args below meth c (MQ below (xk_Qi E q) args s 0 0 (xk_A E.2.2.1)) E 3 0 0 21 [] [.int (s0)] w := by
  obtain ⟨u1, h1, hf⟩ := xk_bi hf
  cases hf
  refine xk_widen (k := 0) (n := 0) (Nat.le_of_ble_eq_true rfl) (Nat.le_of_ble_eq_true rfl) ?_
  exact xk_iret hC hr (xk_zb_e h1) dX4_isTakenOut_21
def f_X4_isTakenOut_20 (w : xWd) : Option (Int32 × xWd) := f_X4_isTakenOut_21 ((0 : Int32)) w
set_option maxHeartbeats 4000000 in
set_option maxRecDepth 100000 in
theorem t_X4_isTakenOut_20 {p : Program} {l : Launch} {e : Env} {s : State} {m : MethodId} {args : Array Value} {below : List Frame} {meth : Method} {c : Code} {E : xEv} (hC : xk_C p s m args meth c E prog_1_method_7_code "Clickbook" 3) (hr : meth.sig.returnType = (some .boolean)) {q : (Int32 × xWd)} (w : xWd) (hf : f_X4_isTakenOut_20 w = some q) : xk_X p l e { frames := 0, cells := 0, slots := 0, locals := 0 } s m args below meth c (MQ below (xk_Qi E q) args s 0 0 (xk_A E.2.2.1)) E 3 0 0 20 [] [] w := by
  refine xk_iconst (v := (0 : Int32)) hC dX4_isTakenOut_20 (by decide) ?_
  exact t_X4_isTakenOut_21 hC hr ((0 : Int32)) w hf
def f_X4_isTakenOut (x0 : Int32) (x1 : Int32) (x2 : Int32) (w : xWd) : Option (Int32 × xWd) := if ((0 : Int32)) ≤ (x2) then f_X4_isTakenOut_20 w else if (x0) < (x1) then f_X4_isTakenOut_20 w else if ((x1) - (x2)) ≤ (x0) then f_X4_isTakenOut_20 w else f_X4_isTakenOut_21 ((1 : Int32)) w
set_option maxHeartbeats 4000000 in
set_option maxRecDepth 100000 in
theorem t_X4_isTakenOut_0 {p : Program} {l : Launch} {e : Env} {s : State} {m : MethodId} {args : Array Value} {below : List Frame} {meth : Method} {c : Code} {E : xEv} (hC : xk_C p s m args meth c E prog_1_method_7_code "Clickbook" 3) (hr : meth.sig.returnType = (some .boolean)) {q : (Int32 × xWd)} (x0 : Int32) (x1 : Int32) (x2 : Int32) (w : xWd) (hf : f_X4_isTakenOut x0 x1 x2 w = some q) : xk_X p l e { frames := 0, cells := 0, slots := 0, locals := 0 } s m args below meth c (MQ below (xk_Qi E q) args s 0 0 (xk_A E.2.2.1)) E 3 0 0 0 [(0, .int (x0)), (1, .int (x1)), (2, .int (x2))] [] w := by
  refine xk_iload_n hC dX4_isTakenOut_0 2 rfl rfl ?_
  refine xk_if_ge (tgt := 20) hC dX4_isTakenOut_1 (by decide) (fun c1 => ?_) (fun c1 => ?_)
  · replace hf := (if_pos c1).symm.trans hf
    refine xk_locals [] rfl ?_
    exact t_X4_isTakenOut_20 hC hr w hf
  · replace hf := (if_neg c1).symm.trans hf
    refine xk_iload_n hC dX4_isTakenOut_4 0 rfl rfl ?_
    refine xk_iload_n hC dX4_isTakenOut_5 1 rfl rfl ?_
    refine xk_icmp_lt (tgt := 20) hC dX4_isTakenOut_6 (by decide) (fun c2 => ?_) (fun c2 => ?_)
    · replace hf := (if_pos c2).symm.trans hf
      refine xk_locals [] rfl ?_
      exact t_X4_isTakenOut_20 hC hr w hf
    · replace hf := (if_neg c2).symm.trans hf
      refine xk_iload_n hC dX4_isTakenOut_9 0 rfl rfl ?_
      refine xk_iload_n hC dX4_isTakenOut_10 1 rfl rfl ?_
      refine xk_iload_n hC dX4_isTakenOut_11 2 rfl rfl ?_
      refine xk_isub hC dX4_isTakenOut_12 ?_
      refine xk_icmp_ge (tgt := 20) hC dX4_isTakenOut_13 (by decide) (fun c3 => ?_) (fun c3 => ?_)
      · replace hf := (if_pos c3).symm.trans hf
        refine xk_locals [] rfl ?_
        exact t_X4_isTakenOut_20 hC hr w hf
      · replace hf := (if_neg c3).symm.trans hf
        refine xk_iconst (v := (1 : Int32)) hC dX4_isTakenOut_16 (by decide) ?_
        refine xk_goto (tgt := 21) hC dX4_isTakenOut_17 (by decide) ?_
        refine xk_locals [] rfl ?_
        exact t_X4_isTakenOut_21 hC hr ((1 : Int32)) w hf
theorem xd_X4_isTakenOut : xy_X4_isTakenOut.cls ≠ "java/lang/invoke/MethodHandle" ∧ xy_X4_isTakenOut.cls ≠ "java/lang/invoke/VarHandle" ∧ (parseMethodDescriptor xy_X4_isTakenOut.desc).map (fun d => d.parameters.length) = some 3 := ⟨by decide +kernel, by decide +kernel, by decide +kernel⟩
theorem c_X4_isTakenOut {l : Launch} {E : xEv} {x0 : Int32} {x1 : Int32} {x2 : Int32} {w : xWd} {q : (Int32 × xWd)} (hf : f_X4_isTakenOut x0 x1 x2 w = some q) : xk_M l xy_X4_isTakenOut prog_1_method_7_code 3 (some .boolean) 0 0 0 0 E [.int (x0), .int (x1), .int (x2)] w (xk_Qi E q) := by
  refine xk_enter (by decide +kernel) (by simp [lg_sl, xk_cat1, xk_cati, xk_catl, xk_catd]) ?_
  intro p e s m args below meth c hC hr hin ha
  rw [show lv_args 0 [.int (x0), .int (x1), .int (x2)] = [(0, .int (x0)), (1, .int (x1)), (2, .int (x2))] by simp [lv_args, xk_cat1, xk_cati, xk_catl, xk_catd]]
  exact t_X4_isTakenOut_0 hC hr x0 x1 x2 w hf
def f_X4_movedFrame_23 (s0 : Int32) (w : xWd) : Option (Int32 × xWd) := some (s0, w)
set_option maxHeartbeats 4000000 in
set_option maxRecDepth 100000 in
theorem t_X4_movedFrame_23 {p : Program} {l : Launch} {e : Env} {s : State} {m : MethodId} {args : Array Value} {below : List Frame} {meth : Method} {c : Code} {E : xEv} (hC : xk_C p s m args meth c E prog_1_method_8_code "Clickbook" 3) (hr : meth.sig.returnType = (some .int)) {q : (Int32 × xWd)} (s0 : Int32) (w : xWd) (hf : f_X4_movedFrame_23 s0 w = some q) : xk_X p l e { frames := 1, cells := 0, slots := 0, locals := 22 } s m args below meth c (MQ below (xk_Qi E q) args s 0 0 (xk_A E.2.2.1)) E 3 0 0 23 [] [.int (s0)] w := by
  cases hf
  refine xk_widen (k := 0) (n := 0) (Nat.le_of_ble_eq_true rfl) (Nat.le_of_ble_eq_true rfl) ?_
  exact xk_iret hC hr rfl dX4_movedFrame_23
def f_X4_movedFrame (x0 : Int32) (x1 : Int32) (x2 : Int32) (w : xWd) : Option (Int32 × xWd) := if (x1) ≤ (x0) then (f_X4_isTakenOut (x0) (x1) (x2) w).bind (fun q2 => if (q2.1) = ((0 : Int32)) then f_X4_movedFrame_23 ((x0) + (x2)) (q2.2) else f_X4_movedFrame_23 x1 (q2.2)) else some (x0, w)
set_option maxHeartbeats 4000000 in
set_option maxRecDepth 100000 in
theorem t_X4_movedFrame_0 {p : Program} {l : Launch} {e : Env} {s : State} {m : MethodId} {args : Array Value} {below : List Frame} {meth : Method} {c : Code} {E : xEv} (hC : xk_C p s m args meth c E prog_1_method_8_code "Clickbook" 3) (hr : meth.sig.returnType = (some .int)) {q : (Int32 × xWd)} (x0 : Int32) (x1 : Int32) (x2 : Int32) (w : xWd) (hf : f_X4_movedFrame x0 x1 x2 w = some q) : xk_X p l e { frames := 1, cells := 0, slots := 0, locals := 22 } s m args below meth c (MQ below (xk_Qi E q) args s 0 0 (xk_A E.2.2.1)) E 3 0 0 0 [(0, .int (x0)), (1, .int (x1)), (2, .int (x2))] [] w := by
  refine xk_iload_n hC dX4_movedFrame_0 0 rfl rfl ?_
  refine xk_iload_n hC dX4_movedFrame_1 1 rfl rfl ?_
  refine xk_icmp_ge (tgt := 7) hC dX4_movedFrame_2 (by decide) (fun c1 => ?_) (fun c1 => ?_)
  · replace hf := (if_pos c1).symm.trans hf
    refine xk_iload_n hC dX4_movedFrame_7 0 rfl rfl ?_
    refine xk_iload_n hC dX4_movedFrame_8 1 rfl rfl ?_
    refine xk_iload_n hC dX4_movedFrame_9 2 rfl rfl ?_
    obtain ⟨q2, h2, hf⟩ := xk_bi hf
    refine xk_backi (xk_callS hC 3 (c_X4_isTakenOut h2) xm_655 xm_656 xm_1 xm_657 xd_X4_isTakenOut rfl ⟨Nat.le_of_ble_eq_true rfl, Nat.le_of_ble_eq_true rfl⟩ rfl (Nat.le_of_ble_eq_true rfl) dX4_movedFrame_10 ⟨(Nat.le_of_ble_eq_true rfl), (Nat.le_of_ble_eq_true rfl)⟩) ?_
    refine xk_if_eq (tgt := 20) hC dX4_movedFrame_13 (by decide) (fun c3 => ?_) (fun c3 => ?_)
    · replace hf := (if_pos c3).symm.trans hf
      refine xk_iload_n hC dX4_movedFrame_20 0 rfl rfl ?_
      refine xk_iload_n hC dX4_movedFrame_21 2 rfl rfl ?_
      refine xk_iadd hC dX4_movedFrame_22 ?_
      refine xk_locals [] rfl ?_
      exact t_X4_movedFrame_23 hC hr ((x0) + (x2)) (q2.2) hf
    · replace hf := (if_neg c3).symm.trans hf
      refine xk_iload_n hC dX4_movedFrame_16 1 rfl rfl ?_
      refine xk_goto (tgt := 23) hC dX4_movedFrame_17 (by decide) ?_
      refine xk_locals [] rfl ?_
      exact t_X4_movedFrame_23 hC hr x1 (q2.2) hf
  · replace hf := (if_neg c1).symm.trans hf
    refine xk_iload_n hC dX4_movedFrame_5 0 rfl rfl ?_
    cases hf
    refine xk_widen (k := 0) (n := 0) (Nat.le_of_ble_eq_true rfl) (Nat.le_of_ble_eq_true rfl) ?_
    exact xk_iret hC hr rfl dX4_movedFrame_6
theorem xd_X4_movedFrame : xy_X4_movedFrame.cls ≠ "java/lang/invoke/MethodHandle" ∧ xy_X4_movedFrame.cls ≠ "java/lang/invoke/VarHandle" ∧ (parseMethodDescriptor xy_X4_movedFrame.desc).map (fun d => d.parameters.length) = some 3 := ⟨by decide +kernel, by decide +kernel, by decide +kernel⟩
theorem c_X4_movedFrame {l : Launch} {E : xEv} {x0 : Int32} {x1 : Int32} {x2 : Int32} {w : xWd} {q : (Int32 × xWd)} (hf : f_X4_movedFrame x0 x1 x2 w = some q) : xk_M l xy_X4_movedFrame prog_1_method_8_code 3 (some .int) 1 22 0 0 E [.int (x0), .int (x1), .int (x2)] w (xk_Qi E q) := by
  refine xk_enter (by decide +kernel) (by simp [lg_sl, xk_cat1, xk_cati, xk_catl, xk_catd]) ?_
  intro p e s m args below meth c hC hr hin ha
  rw [show lv_args 0 [.int (x0), .int (x1), .int (x2)] = [(0, .int (x0)), (1, .int (x1)), (2, .int (x2))] by simp [lv_args, xk_cat1, xk_cati, xk_catl, xk_catd]]
  exact t_X4_movedFrame_0 hC hr x0 x1 x2 w hf
def f_X1_cut_41 (w : xWd) : Option xWd := some w
set_option maxHeartbeats 4000000 in
set_option maxRecDepth 100000 in
theorem t_X1_cut_41 {p : Program} {l : Launch} {e : Env} {s : State} {m : MethodId} {args : Array Value} {below : List Frame} {meth : Method} {c : Code} {E : xEv} (hC : xk_C p s m args meth c E prog_3_method_2_code "Clickbook$Hit" 3) (hr : meth.sig.returnType = none) {q : xWd} (w : xWd) (hf : f_X1_cut_41 w = some q) : xk_X p l e { frames := 2, cells := 0, slots := 0, locals := 44 } s m args below meth c (MQ below (xk_Qv E q) args s 0 0 (xk_A E.2.2.1)) E 3 0 0 41 [] [] w := by
  cases hf
  refine xk_widen (k := 0) (n := 0) (Nat.le_of_ble_eq_true rfl) (Nat.le_of_ble_eq_true rfl) ?_
  exact xk_vret hC hr dX1_cut_41
def f_X1_cut (x0 : Option Nat) (x1 : Int32) (x2 : Int32) (w : xWd) : Option xWd := (xk_gI w (x0) 2 2).bind (fun v1 => if (v1) = ((0 : Int32)) then (xk_gI w (x0) 2 0).bind (fun v3 => (f_X4_isTakenOut (v3) (x1) (x2) w).bind (fun q4 => if (q4.1) = ((0 : Int32)) then (xk_gI q4.2 (x0) 2 0).bind (fun v6 => (f_X4_movedFrame (v6) (x1) (x2) q4.2).bind (fun q7 => (xk_pV q7.2 (x0) 2 0 (.int (q7.1))).bind (fun w8 => f_X1_cut_41 w8))) else (xk_pV q4.2 (x0) 2 2 (.int ((1 : Int32)))).bind (fun w9 => f_X1_cut_41 w9))) else some w)
set_option maxHeartbeats 4000000 in
set_option maxRecDepth 100000 in
theorem t_X1_cut_0 {p : Program} {l : Launch} {e : Env} {s : State} {m : MethodId} {args : Array Value} {below : List Frame} {meth : Method} {c : Code} {E : xEv} (hC : xk_C p s m args meth c E prog_3_method_2_code "Clickbook$Hit" 3) (hr : meth.sig.returnType = none) {q : xWd} (x0 : Option Nat) (x1 : Int32) (x2 : Int32) (w : xWd) (hf : f_X1_cut x0 x1 x2 w = some q) : xk_X p l e { frames := 2, cells := 0, slots := 0, locals := 44 } s m args below meth c (MQ below (xk_Qv E q) args s 0 0 (xk_A E.2.2.1)) E 3 0 0 0 [(0, va_rf (x0)), (1, .int (x1)), (2, .int (x2))] [] w := by
  refine xk_aload_n hC dX1_cut_0 0 rfl rfl ?_
  obtain ⟨v1, h1, hf⟩ := xk_bi hf
  refine xk_getI hC xi_2 xc_2 2 (by decide) xm_217 (Or.inl rfl) dX1_cut_1 h1 ?_
  refine xk_if_eq (tgt := 8) hC dX1_cut_4 (by decide) (fun c2 => ?_) (fun c2 => ?_)
  · replace hf := (if_pos c2).symm.trans hf
    refine xk_aload_n hC dX1_cut_8 0 rfl rfl ?_
    obtain ⟨v3, h3, hf⟩ := xk_bi hf
    refine xk_getI hC xi_2 xc_2 0 (by decide) xm_213 (Or.inl rfl) dX1_cut_9 h3 ?_
    refine xk_iload_n hC dX1_cut_12 1 rfl rfl ?_
    refine xk_iload_n hC dX1_cut_13 2 rfl rfl ?_
    obtain ⟨q4, h4, hf⟩ := xk_bi hf
    refine xk_backi (xk_callSN hC 3 (c_X4_isTakenOut h4) (xk_note2 hC) xm_656 xm_1 xm_657 xd_X4_isTakenOut rfl ⟨Nat.le_of_ble_eq_true rfl, Nat.le_of_ble_eq_true rfl⟩ rfl (Nat.le_of_ble_eq_true rfl) dX1_cut_14 ⟨(Nat.le_of_ble_eq_true rfl), (Nat.le_of_ble_eq_true rfl)⟩) ?_
    refine xk_if_eq (tgt := 28) hC dX1_cut_17 (by decide) (fun c5 => ?_) (fun c5 => ?_)
    · replace hf := (if_pos c5).symm.trans hf
      refine xk_aload_n hC dX1_cut_28 0 rfl rfl ?_
      refine xk_aload_n hC dX1_cut_29 0 rfl rfl ?_
      obtain ⟨v6, h6, hf⟩ := xk_bi hf
      refine xk_getI hC xi_2 xc_2 0 (by decide) xm_213 (Or.inl rfl) dX1_cut_30 h6 ?_
      refine xk_iload_n hC dX1_cut_33 1 rfl rfl ?_
      refine xk_iload_n hC dX1_cut_34 2 rfl rfl ?_
      obtain ⟨q7, h7, hf⟩ := xk_bi hf
      refine xk_backi (xk_callSN hC 3 (c_X4_movedFrame h7) (xk_note3 hC) xm_663 xm_1 xm_664 xd_X4_movedFrame rfl ⟨Nat.le_of_ble_eq_true rfl, Nat.le_of_ble_eq_true rfl⟩ rfl (by simp [xk_cat1, xk_cati, xk_catl, xk_catd]) dX1_cut_35 ⟨(Nat.le_of_ble_eq_true rfl), (Nat.le_of_ble_eq_true rfl)⟩) ?_
      obtain ⟨w8, h8, hf⟩ := xk_bi hf
      refine xk_put hC xi_2 xc_2 xo_2 xn_2 0 (by decide) xm_213 (Or.inl rfl) rfl rfl rfl dX1_cut_38 h8 ?_
      refine xk_locals [] rfl ?_
      exact t_X1_cut_41 hC hr w8 hf
    · replace hf := (if_neg c5).symm.trans hf
      refine xk_aload_n hC dX1_cut_20 0 rfl rfl ?_
      refine xk_iconst (v := (1 : Int32)) hC dX1_cut_21 (by decide) ?_
      obtain ⟨w9, h9, hf⟩ := xk_bi hf
      refine xk_put hC xi_2 xc_2 xo_2 xn_2 2 (by decide) xm_217 (Or.inl rfl) rfl rfl rfl dX1_cut_22 h9 ?_
      refine xk_goto (tgt := 41) hC dX1_cut_25 (by decide) ?_
      refine xk_locals [] rfl ?_
      exact t_X1_cut_41 hC hr w9 hf
  · replace hf := (if_neg c2).symm.trans hf
    cases hf
    refine xk_widen (k := 0) (n := 0) (Nat.le_of_ble_eq_true rfl) (Nat.le_of_ble_eq_true rfl) ?_
    exact xk_vret hC hr dX1_cut_7
theorem xd_X1_cut : xy_X1_cut.cls ≠ "java/lang/invoke/MethodHandle" ∧ xy_X1_cut.cls ≠ "java/lang/invoke/VarHandle" ∧ (parseMethodDescriptor xy_X1_cut.desc).map (fun d => d.parameters.length) = some 2 := ⟨by decide +kernel, by decide +kernel, by decide +kernel⟩
theorem c_X1_cut {l : Launch} {E : xEv} {x0 : Option Nat} {x1 : Int32} {x2 : Int32} {w : xWd} {q : xWd} (hf : f_X1_cut x0 x1 x2 w = some q) : xk_M l xy_X1_cut prog_3_method_2_code 3 none 2 44 0 0 E [va_rf (x0), .int (x1), .int (x2)] w (xk_Qv E q) := by
  refine xk_enter (by decide +kernel) (by simp [lg_sl, xk_cat1, xk_cati, xk_catl, xk_catd]) ?_
  intro p e s m args below meth c hC hr hin ha
  rw [show lv_args 0 [va_rf (x0), .int (x1), .int (x2)] = [(0, va_rf (x0)), (1, .int (x1)), (2, .int (x2))] by simp [lv_args, xk_cat1, xk_cati, xk_catl, xk_catd]]
  exact t_X1_cut_0 hC hr x0 x1 x2 w hf
def f_Jxa1e45_init_da8c8 (x0 : Nat) (w : xWd) : Option xWd := some w
set_option maxHeartbeats 4000000 in
set_option maxRecDepth 100000 in
theorem t_Jxa1e45_init_da8c8_0 {p : Program} {l : Launch} {e : Env} {s : State} {m : MethodId} {args : Array Value} {below : List Frame} {meth : Method} {c : Code} {E : xEv} (hC : xk_C p s m args meth c E prog_23_method_1_code "java/util/AbstractCollection" 1) (hr : meth.sig.returnType = none) (hin : meth.name = "<init>") {q : xWd} (x0 : Nat) (w : xWd) (hf : f_Jxa1e45_init_da8c8 x0 w = some q) : xk_X p l e { frames := 1, cells := 0, slots := 0, locals := 20 } s m args below meth c (MQ below (xk_Qv E q) args s 0 0 (xk_A E.2.2.1)) E 1 0 0 0 [(0, va_rf (some x0))] [] w := by
  refine xk_aload_n hC dJxa1e45_init_da8c8_0 0 rfl rfl ?_
  refine xk_objI hC xm_40 xm_27 xm_28 dJxa1e45_init_da8c8_1 (Nat.le_of_ble_eq_true rfl) (Nat.le_of_ble_eq_true rfl) ?_
  cases hf
  refine xk_widen (k := 0) (n := 0) (Nat.le_of_ble_eq_true rfl) (Nat.le_of_ble_eq_true rfl) ?_
  exact xk_vret hC hr dJxa1e45_init_da8c8_4
theorem xd_Jxa1e45_init_da8c8 : xy_Jxa1e45_init_da8c8.cls ≠ "java/lang/invoke/MethodHandle" ∧ xy_Jxa1e45_init_da8c8.cls ≠ "java/lang/invoke/VarHandle" ∧ (parseMethodDescriptor xy_Jxa1e45_init_da8c8.desc).map (fun d => d.parameters.length) = some 0 := ⟨by decide +kernel, by decide +kernel, by decide +kernel⟩
theorem c_Jxa1e45_init_da8c8 {l : Launch} {E : xEv} {x0 : Nat} {w : xWd} {q : xWd} (hf : f_Jxa1e45_init_da8c8 x0 w = some q) : xk_M l xy_Jxa1e45_init_da8c8 prog_23_method_1_code 1 none 1 20 0 0 E [va_rf (some x0)] w (xk_Qv E q) := by
  refine xk_enter (by decide +kernel) (by simp [lg_sl, xk_cat1, xk_cati, xk_catl, xk_catd]) ?_
  intro p e s m args below meth c hC hr hin ha
  rw [show lv_args 0 [va_rf (some x0)] = [(0, va_rf (some x0))] by simp [lv_args, xk_cat1, xk_cati, xk_catl, xk_catd]]
  exact t_Jxa1e45_init_da8c8_0 hC hr (hin rfl) x0 w hf
def f_Jxc12de_init_da8c8 (x0 : Nat) (w : xWd) : Option xWd := (f_Jxa1e45_init_da8c8 (x0)  w).bind (fun q1 => (xk_pV q1 (some x0) 5 0 (.int ((0 : Int32)))).bind (fun w2 => some w2))
set_option maxHeartbeats 4000000 in
set_option maxRecDepth 100000 in
theorem t_Jxc12de_init_da8c8_0 {p : Program} {l : Launch} {e : Env} {s : State} {m : MethodId} {args : Array Value} {below : List Frame} {meth : Method} {c : Code} {E : xEv} (hC : xk_C p s m args meth c E prog_24_method_1_code "java/util/AbstractList" 1) (hr : meth.sig.returnType = none) (hin : meth.name = "<init>") {q : xWd} (x0 : Nat) (w : xWd) (hf : f_Jxc12de_init_da8c8 x0 w = some q) : xk_X p l e { frames := 2, cells := 0, slots := 0, locals := 40 } s m args below meth c (MQ below (xk_Qv E q) args s 0 0 (xk_A E.2.2.1)) E 1 0 0 0 [(0, va_rf (some x0))] [] w := by
  refine xk_aload_n hC dJxc12de_init_da8c8_0 0 rfl rfl ?_
  obtain ⟨q1, h1, hf⟩ := xk_bi hf
  refine xk_backv (xk_callI hC 0 (c_Jxa1e45_init_da8c8 h1) xm_37 xm_38 xm_2 xm_39 rfl xd_Jxa1e45_init_da8c8 rfl ⟨Nat.le_of_ble_eq_true rfl, Nat.le_of_ble_eq_true rfl⟩ rfl (Nat.le_of_ble_eq_true rfl) dJxc12de_init_da8c8_1 ⟨(Nat.le_of_ble_eq_true rfl), (Nat.le_of_ble_eq_true rfl)⟩) ?_
  refine xk_aload_n hC dJxc12de_init_da8c8_4 0 rfl rfl ?_
  refine xk_iconst (v := (0 : Int32)) hC dJxc12de_init_da8c8_5 (by decide) ?_
  obtain ⟨w2, h2, hf⟩ := xk_bi hf
  refine xk_put hC xi_5 xc_5 xo_5 xn_5 0 (by decide) xm_45 (Or.inl rfl) rfl rfl rfl dJxc12de_init_da8c8_6 h2 ?_
  cases hf
  refine xk_widen (k := 0) (n := 0) (Nat.le_of_ble_eq_true rfl) (Nat.le_of_ble_eq_true rfl) ?_
  exact xk_vret hC hr dJxc12de_init_da8c8_9
theorem xd_Jxc12de_init_da8c8 : xy_Jxc12de_init_da8c8.cls ≠ "java/lang/invoke/MethodHandle" ∧ xy_Jxc12de_init_da8c8.cls ≠ "java/lang/invoke/VarHandle" ∧ (parseMethodDescriptor xy_Jxc12de_init_da8c8.desc).map (fun d => d.parameters.length) = some 0 := ⟨by decide +kernel, by decide +kernel, by decide +kernel⟩
theorem c_Jxc12de_init_da8c8 {l : Launch} {E : xEv} {x0 : Nat} {w : xWd} {q : xWd} (hf : f_Jxc12de_init_da8c8 x0 w = some q) : xk_M l xy_Jxc12de_init_da8c8 prog_24_method_1_code 1 none 2 40 0 0 E [va_rf (some x0)] w (xk_Qv E q) := by
  refine xk_enter (by decide +kernel) (by simp [lg_sl, xk_cat1, xk_cati, xk_catl, xk_catd]) ?_
  intro p e s m args below meth c hC hr hin ha
  rw [show lv_args 0 [va_rf (some x0)] = [(0, va_rf (some x0))] by simp [lv_args, xk_cat1, xk_cati, xk_catl, xk_catd]]
  exact t_Jxc12de_init_da8c8_0 hC hr (hin rfl) x0 w hf
def f_Jx4a65c_init_da8c8 (x0 : Nat) (w : xWd) : Option xWd := (f_Jxc12de_init_da8c8 (x0)  w).bind (fun q1 => (xk_pV q1 (some x0) 5 1 (va_rf (some q1.2.2.1))).bind (fun w2 => some w2))
set_option maxHeartbeats 4000000 in
set_option maxRecDepth 100000 in
theorem t_Jx4a65c_init_da8c8_0 {p : Program} {l : Launch} {e : Env} {s : State} {m : MethodId} {args : Array Value} {below : List Frame} {meth : Method} {c : Code} {E : xEv} (hC : xk_C p s m args meth c E prog_25_method_2_code "java/util/ArrayList" 1) (hr : meth.sig.returnType = none) (hin : meth.name = "<init>") {q : xWd} (x0 : Nat) (w : xWd) (hf : f_Jx4a65c_init_da8c8 x0 w = some q) : xk_X p l e { frames := 3, cells := 0, slots := 0, locals := 60 } s m args below meth c (MQ below (xk_Qv E q) args s 0 0 (xk_A E.2.2.1)) E 1 0 0 0 [(0, va_rf (some x0))] [] w := by
  refine xk_aload_n hC dJx4a65c_init_da8c8_0 0 rfl rfl ?_
  obtain ⟨q1, h1, hf⟩ := xk_bi hf
  refine xk_backv (xk_callI hC 0 (c_Jxc12de_init_da8c8 h1) xm_34 xm_35 xm_3 xm_36 rfl xd_Jxc12de_init_da8c8 rfl ⟨Nat.le_of_ble_eq_true rfl, Nat.le_of_ble_eq_true rfl⟩ rfl (Nat.le_of_ble_eq_true rfl) dJx4a65c_init_da8c8_1 ⟨(Nat.le_of_ble_eq_true rfl), (Nat.le_of_ble_eq_true rfl)⟩) ?_
  refine xk_aload_n hC dJx4a65c_init_da8c8_4 0 rfl rfl ?_
  refine xk_gets hC xm_41 dJx4a65c_init_da8c8_5 ?_
  obtain ⟨w2, h2, hf⟩ := xk_bi hf
  refine xk_put hC xi_5 xc_5 xo_5 xn_5 1 (by decide) xm_43 (Or.inl rfl) rfl (xk_nra _ _) (xk_fra _ _) dJx4a65c_init_da8c8_8 h2 ?_
  cases hf
  refine xk_widen (k := 0) (n := 0) (Nat.le_of_ble_eq_true rfl) (Nat.le_of_ble_eq_true rfl) ?_
  exact xk_vret hC hr dJx4a65c_init_da8c8_11
theorem xd_Jx4a65c_init_da8c8 : xy_Jx4a65c_init_da8c8.cls ≠ "java/lang/invoke/MethodHandle" ∧ xy_Jx4a65c_init_da8c8.cls ≠ "java/lang/invoke/VarHandle" ∧ (parseMethodDescriptor xy_Jx4a65c_init_da8c8.desc).map (fun d => d.parameters.length) = some 0 := ⟨by decide +kernel, by decide +kernel, by decide +kernel⟩
theorem c_Jx4a65c_init_da8c8 {l : Launch} {E : xEv} {x0 : Nat} {w : xWd} {q : xWd} (hf : f_Jx4a65c_init_da8c8 x0 w = some q) : xk_M l xy_Jx4a65c_init_da8c8 prog_25_method_2_code 1 none 3 60 0 0 E [va_rf (some x0)] w (xk_Qv E q) := by
  refine xk_enter (by decide +kernel) (by simp [lg_sl, xk_cat1, xk_cati, xk_catl, xk_catd]) ?_
  intro p e s m args below meth c hC hr hin ha
  rw [show lv_args 0 [va_rf (some x0)] = [(0, va_rf (some x0))] by simp [lv_args, xk_cat1, xk_cati, xk_catl, xk_catd]]
  exact t_Jx4a65c_init_da8c8_0 hC hr (hin rfl) x0 w hf
def f_X2_init (x0 : Nat) (w : xWd) : Option xWd := (some (xk_nw w 5 xf_5)).bind (fun w1 => (f_Jx4a65c_init_da8c8 (w.2.1)  w1).bind (fun q2 => (xk_pV q2 (some x0) 3 0 (va_rf (some w.2.1))).bind (fun w3 => (xk_nA w3 0 xk_d0 ((360 : Int32)) 360).bind (fun w4 => (xk_pV w4 (some x0) 3 2 (va_rf (some w3.2.1))).bind (fun w5 => some w5)))))
set_option maxHeartbeats 4000000 in
set_option maxRecDepth 100000 in
theorem t_X2_init_0 {p : Program} {l : Launch} {e : Env} {s : State} {m : MethodId} {args : Array Value} {below : List Frame} {meth : Method} {c : Code} {E : xEv} (hC : xk_C p s m args meth c E prog_4_method_1_code "Clickbook$JoinTable" 1) (hr : meth.sig.returnType = none) (hin : meth.name = "<init>") {q : xWd} (x0 : Nat) (w : xWd) (hf : f_X2_init x0 w = some q) : xk_X p l e { frames := 4, cells := 2, slots := 363, locals := 80 } s m args below meth c (MQ below (xk_Qv E q) args s 2 363 (xk_A E.2.2.1)) E 1 0 0 0 [(0, va_rf (some x0))] [] w := by
  refine xk_aload_n hC dX2_init_0 0 rfl rfl ?_
  refine xk_objI hC xm_60 xm_27 xm_28 dX2_init_1 (Nat.le_of_ble_eq_true rfl) (Nat.le_of_ble_eq_true rfl) ?_
  refine xk_aload_n hC dX2_init_4 0 rfl rfl ?_
  obtain ⟨w1, h1, hf⟩ := xk_bi hf
  refine xk_newH hC xi_5 xc_5 xo_5 xm_61 xm_30 xm_4 xfo_5 (Nat.le_of_ble_eq_true rfl) (Nat.le_of_ble_eq_true rfl) dX2_init_5 h1 ?_
  refine xk_dup hC dX2_init_8 (xk_cat1 _) ?_
  obtain ⟨q2, h2, hf⟩ := xk_bi hf
  refine xk_backv (xk_callI hC 0 (c_Jx4a65c_init_da8c8 h2) xm_62 xm_32 xm_4 xm_33 rfl xd_Jx4a65c_init_da8c8 rfl ⟨Nat.le_of_ble_eq_true rfl, Nat.le_of_ble_eq_true rfl⟩ rfl (Nat.le_of_ble_eq_true rfl) dX2_init_9 ⟨(Nat.le_of_ble_eq_true rfl), (Nat.le_of_ble_eq_true rfl)⟩) ?_
  obtain ⟨w3, h3, hf⟩ := xk_bi hf
  refine xk_putF hC xi_3 xc_3 xo_3 xn_3 0 (by decide) xm_63 (Or.inl rfl) rfl hin rfl (xk_nr _ _) (xk_fr _ _) dX2_init_12 h3 ?_
  refine xk_aload_n hC dX2_init_15 0 rfl rfl ?_
  refine xk_sipush (v := (360 : Int32)) hC dX2_init_16 (by decide) ?_
  obtain ⟨w4, h4, hf⟩ := xk_bi hf
  refine xk_newarr (cap := 360) (atype := .int) (ty := .int) (kd := 0) hC rfl xm_73 (by decide) rfl (fun _ _ => rfl) (Nat.le_of_ble_eq_true rfl) (Nat.le_of_ble_eq_true rfl) (Nat.le_of_ble_eq_true rfl) dX2_init_19 h4 ?_
  obtain ⟨w5, h5, hf⟩ := xk_bi hf
  refine xk_putF hC xi_3 xc_3 xo_3 xn_3 2 (by decide) xm_65 (Or.inl rfl) rfl hin rfl (xk_nra _ _) (xk_fra _ _) dX2_init_21 h5 ?_
  cases hf
  refine xk_widen (k := 2) (n := 363) (Nat.le_of_ble_eq_true rfl) (Nat.le_of_ble_eq_true rfl) ?_
  exact xk_vret hC hr dX2_init_24
theorem xd_X2_init : xy_X2_init.cls ≠ "java/lang/invoke/MethodHandle" ∧ xy_X2_init.cls ≠ "java/lang/invoke/VarHandle" ∧ (parseMethodDescriptor xy_X2_init.desc).map (fun d => d.parameters.length) = some 0 := ⟨by decide +kernel, by decide +kernel, by decide +kernel⟩
theorem c_X2_init {l : Launch} {E : xEv} {x0 : Nat} {w : xWd} {q : xWd} (hf : f_X2_init x0 w = some q) : xk_M l xy_X2_init prog_4_method_1_code 1 none 4 80 2 363 E [va_rf (some x0)] w (xk_Qv E q) := by
  refine xk_enter (by decide +kernel) (by simp [lg_sl, xk_cat1, xk_cati, xk_catl, xk_catd]) ?_
  intro p e s m args below meth c hC hr hin ha
  rw [show lv_args 0 [va_rf (some x0)] = [(0, va_rf (some x0))] by simp [lv_args, xk_cat1, xk_cati, xk_catl, xk_catd]]
  exact t_X2_init_0 hC hr (hin rfl) x0 w hf
def f_Jx4a65c_clear_da8c8_27 : Nat → Option Nat → Int32 → Int32 → xWd → Option xWd
  | 0, _, _, _, _ => none
  | n + 1, x1, x2, x3, w => if (x2) ≤ (x3) then some w else (xk_any w (none)).bind (fun u3 => (xk_sR 2 w (x1) (x3) (none)).bind (fun w2 => f_Jx4a65c_clear_da8c8_27 n x1 x2 (x3 + (1 : Int32)) w2))
set_option maxHeartbeats 4000000 in
set_option maxRecDepth 100000 in
theorem t_Jx4a65c_clear_da8c8_27 {p : Program} {l : Launch} {e : Env} {s : State} {m : MethodId} {args : Array Value} {below : List Frame} {meth : Method} {c : Code} {E : xEv} (hC : xk_C p s m args meth c E prog_25_method_40_code "java/util/ArrayList" 4) (hr : meth.sig.returnType = none) {q : xWd} : ∀ (n : Nat) (x1 : Option Nat) (x2 : Int32) (x3 : Int32) (w : xWd), f_Jx4a65c_clear_da8c8_27 n x1 x2 x3 w = some q → xk_X p l e { frames := 0, cells := 0, slots := 0, locals := 0 } s m args below meth c (MQ below (xk_Qv E q) args s 0 0 (xk_A E.2.2.1)) E 4 0 0 27 [(1, va_rf (x1)), (2, .int (x2)), (3, .int (x3))] [] w := by
  intro n
  induction n with
  | zero => intro x1 x2 x3 w hf; have hf : none = some q := hf; cases hf
  | succ n ih =>
    intro x1 x2 x3 w hf
    refine xk_iload_n hC dJx4a65c_clear_da8c8_27 2 rfl rfl ?_
    refine xk_iload_n hC dJx4a65c_clear_da8c8_28 1 rfl rfl ?_
    refine xk_icmp_ge (tgt := 42) hC dJx4a65c_clear_da8c8_29 (by decide) (fun c1 => ?_) (fun c1 => ?_)
    · replace hf := (if_pos c1).symm.trans hf
      cases hf
      refine xk_widen (k := 0) (n := 0) (Nat.le_of_ble_eq_true rfl) (Nat.le_of_ble_eq_true rfl) ?_
      exact xk_vret hC hr dJx4a65c_clear_da8c8_42
    · replace hf := (if_neg c1).symm.trans hf
      refine xk_aload_n hC dJx4a65c_clear_da8c8_32 0 rfl rfl ?_
      refine xk_iload_n hC dJx4a65c_clear_da8c8_33 2 rfl rfl ?_
      refine xk_null hC dJx4a65c_clear_da8c8_34 ?_
      obtain ⟨u3, h3, hf⟩ := xk_bi hf
      obtain ⟨w2, h2, hf⟩ := xk_bi hf
      refine xk_aast hC rfl (xk_cas hC) dJx4a65c_clear_da8c8_35 h2 (xk_any_e h3) ?_
      refine xk_iinc (v := x3 + (1 : Int32)) (lv' := [(3, .int (x3 + (1 : Int32))), (1, va_rf (x1)), (2, .int (x2))]) hC dJx4a65c_clear_da8c8_36 2 rfl rfl (by decide) rfl ?_
      refine xk_goto (tgt := 27) hC dJx4a65c_clear_da8c8_39 (by decide) ?_
      refine xk_locals [1, 2, 0] rfl ?_
      exact ih x1 x2 (x3 + (1 : Int32)) w2 hf
def f_Jx4a65c_clear_da8c8 (x0 : Option Nat) (w : xWd) : Option xWd := (xk_gI w (x0) 5 0).bind (fun v1 => (xk_pV w (x0) 5 0 (.int ((v1) + ((1 : Int32))))).bind (fun w2 => (xk_gR w2 (x0) 5 1).bind (fun v3 => (xk_gI w2 (x0) 5 2).bind (fun v4 => (xk_pV w2 (x0) 5 2 (.int ((0 : Int32)))).bind (fun w5 => f_Jx4a65c_clear_da8c8_27 4096 v3 v4 ((0 : Int32)) w5)))))
set_option maxHeartbeats 4000000 in
set_option maxRecDepth 100000 in
theorem t_Jx4a65c_clear_da8c8_0 {p : Program} {l : Launch} {e : Env} {s : State} {m : MethodId} {args : Array Value} {below : List Frame} {meth : Method} {c : Code} {E : xEv} (hC : xk_C p s m args meth c E prog_25_method_40_code "java/util/ArrayList" 4) (hr : meth.sig.returnType = none) {q : xWd} (x0 : Option Nat) (w : xWd) (hf : f_Jx4a65c_clear_da8c8 x0 w = some q) : xk_X p l e { frames := 0, cells := 0, slots := 0, locals := 0 } s m args below meth c (MQ below (xk_Qv E q) args s 0 0 (xk_A E.2.2.1)) E 4 0 0 0 [(0, va_rf (x0))] [] w := by
  refine xk_aload_n hC dJx4a65c_clear_da8c8_0 0 rfl rfl ?_
  refine xk_dup hC dJx4a65c_clear_da8c8_1 (xk_cat1 _) ?_
  obtain ⟨v1, h1, hf⟩ := xk_bi hf
  refine xk_getI hC xi_5 xc_5 0 (by decide) xm_46 (Or.inr xm_47) dJx4a65c_clear_da8c8_2 h1 ?_
  refine xk_iconst (v := (1 : Int32)) hC dJx4a65c_clear_da8c8_5 (by decide) ?_
  refine xk_iadd hC dJx4a65c_clear_da8c8_6 ?_
  obtain ⟨w2, h2, hf⟩ := xk_bi hf
  refine xk_put hC xi_5 xc_5 xo_5 xn_5 0 (by decide) xm_46 (Or.inr xm_47) rfl rfl rfl dJx4a65c_clear_da8c8_7 h2 ?_
  refine xk_aload_n hC dJx4a65c_clear_da8c8_10 0 rfl rfl ?_
  obtain ⟨v3, h3, hf⟩ := xk_bi hf
  refine xk_getR hC xi_5 xc_5 1 (by decide) xm_43 (Or.inl rfl) dJx4a65c_clear_da8c8_11 h3 ?_
  refine xk_astore_n (i := 1) (lv' := [(1, va_rf (v3)), (0, va_rf (x0))]) hC dJx4a65c_clear_da8c8_14 rfl (by decide) (by simp [xk_cat1]) ?_
  refine xk_aload_n hC dJx4a65c_clear_da8c8_15 1 rfl rfl ?_
  obtain ⟨v4, h4, hf⟩ := xk_bi hf
  refine xk_getI hC xi_5 xc_5 2 (by decide) xm_44 (Or.inl rfl) dJx4a65c_clear_da8c8_16 h4 ?_
  refine xk_istore_n (i := 2) (lv' := [(2, .int (v4)), (1, va_rf (v3)), (0, va_rf (x0))]) hC dJx4a65c_clear_da8c8_19 rfl (by decide) (by simp [xk_cat1]) ?_
  refine xk_aload_n hC dJx4a65c_clear_da8c8_20 2 rfl rfl ?_
  refine xk_iconst (v := (0 : Int32)) hC dJx4a65c_clear_da8c8_21 (by decide) ?_
  refine xk_dup_x1 hC dJx4a65c_clear_da8c8_22 rfl (xk_cat1 _) ?_
  obtain ⟨w5, h5, hf⟩ := xk_bi hf
  refine xk_put hC xi_5 xc_5 xo_5 xn_5 2 (by decide) xm_44 (Or.inl rfl) rfl rfl rfl dJx4a65c_clear_da8c8_23 h5 ?_
  refine xk_istore_n (i := 3) (lv' := [(3, .int ((0 : Int32))), (2, .int (v4)), (1, va_rf (v3)), (0, va_rf (x0))]) hC dJx4a65c_clear_da8c8_26 rfl (by decide) rfl ?_
  refine xk_locals [2, 1, 0] rfl ?_
  exact t_Jx4a65c_clear_da8c8_27 hC hr 4096 v3 v4 ((0 : Int32)) w5 hf
theorem xd_Jx4a65c_clear_da8c8 : xy_Jx4a65c_clear_da8c8.cls ≠ "java/lang/invoke/MethodHandle" ∧ xy_Jx4a65c_clear_da8c8.cls ≠ "java/lang/invoke/VarHandle" ∧ (parseMethodDescriptor xy_Jx4a65c_clear_da8c8.desc).map (fun d => d.parameters.length) = some 0 := ⟨by decide +kernel, by decide +kernel, by decide +kernel⟩
theorem c_Jx4a65c_clear_da8c8 {l : Launch} {E : xEv} {x0 : Option Nat} {w : xWd} {q : xWd} (hf : f_Jx4a65c_clear_da8c8 x0 w = some q) : xk_M l xy_Jx4a65c_clear_da8c8 prog_25_method_40_code 4 none 0 0 0 0 E [va_rf (x0)] w (xk_Qv E q) := by
  refine xk_enter (by decide +kernel) (by simp [lg_sl, xk_cat1, xk_cati, xk_catl, xk_catd]) ?_
  intro p e s m args below meth c hC hr hin ha
  rw [show lv_args 0 [va_rf (x0)] = [(0, va_rf (x0))] by simp [lv_args, xk_cat1, xk_cati, xk_catl, xk_catd]]
  exact t_Jx4a65c_clear_da8c8_0 hC hr x0 w hf
def f_Jx4a65c_size_8abf5 (x0 : Option Nat) (w : xWd) : Option (Int32 × xWd) := (xk_gI w (x0) 5 2).bind (fun v1 => some (v1, w))
set_option maxHeartbeats 4000000 in
set_option maxRecDepth 100000 in
theorem t_Jx4a65c_size_8abf5_0 {p : Program} {l : Launch} {e : Env} {s : State} {m : MethodId} {args : Array Value} {below : List Frame} {meth : Method} {c : Code} {E : xEv} (hC : xk_C p s m args meth c E prog_25_method_8_code "java/util/ArrayList" 1) (hr : meth.sig.returnType = (some .int)) {q : (Int32 × xWd)} (x0 : Option Nat) (w : xWd) (hf : f_Jx4a65c_size_8abf5 x0 w = some q) : xk_X p l e { frames := 0, cells := 0, slots := 0, locals := 0 } s m args below meth c (MQ below (xk_Qi E q) args s 0 0 (xk_A E.2.2.1)) E 1 0 0 0 [(0, va_rf (x0))] [] w := by
  refine xk_aload_n hC dJx4a65c_size_8abf5_0 0 rfl rfl ?_
  obtain ⟨v1, h1, hf⟩ := xk_bi hf
  refine xk_getI hC xi_5 xc_5 2 (by decide) xm_44 (Or.inl rfl) dJx4a65c_size_8abf5_1 h1 ?_
  cases hf
  refine xk_widen (k := 0) (n := 0) (Nat.le_of_ble_eq_true rfl) (Nat.le_of_ble_eq_true rfl) ?_
  exact xk_iret hC hr rfl dJx4a65c_size_8abf5_4
theorem xd_Jx4a65c_size_8abf5 : xy_Jx4a65c_size_8abf5.cls ≠ "java/lang/invoke/MethodHandle" ∧ xy_Jx4a65c_size_8abf5.cls ≠ "java/lang/invoke/VarHandle" ∧ (parseMethodDescriptor xy_Jx4a65c_size_8abf5.desc).map (fun d => d.parameters.length) = some 0 := ⟨by decide +kernel, by decide +kernel, by decide +kernel⟩
theorem c_Jx4a65c_size_8abf5 {l : Launch} {E : xEv} {x0 : Option Nat} {w : xWd} {q : (Int32 × xWd)} (hf : f_Jx4a65c_size_8abf5 x0 w = some q) : xk_M l xy_Jx4a65c_size_8abf5 prog_25_method_8_code 1 (some .int) 0 0 0 0 E [va_rf (x0)] w (xk_Qi E q) := by
  refine xk_enter (by decide +kernel) (by simp [lg_sl, xk_cat1, xk_cati, xk_catl, xk_catd]) ?_
  intro p e s m args below meth c hC hr hin ha
  rw [show lv_args 0 [va_rf (x0)] = [(0, va_rf (x0))] by simp [lv_args, xk_cat1, xk_cati, xk_catl, xk_catd]]
  exact t_Jx4a65c_size_8abf5_0 hC hr x0 w hf
def f_J3_checkIndex_8e157_9 (x0 : Int32) (x1 : Int32) (x2 : Option Nat) (w : xWd) : Option (Int32 × xWd) := none
set_option maxHeartbeats 4000000 in
set_option maxRecDepth 100000 in
theorem t_J3_checkIndex_8e157_9 {p : Program} {l : Launch} {e : Env} {s : State} {m : MethodId} {args : Array Value} {below : List Frame} {meth : Method} {c : Code} {E : xEv} (hC : xk_C p s m args meth c E prog_33_method_11_code "jdk/internal/util/Preconditions" 3) (hr : meth.sig.returnType = (some .int)) {q : (Int32 × xWd)} (x0 : Int32) (x1 : Int32) (x2 : Option Nat) (w : xWd) (hf : f_J3_checkIndex_8e157_9 x0 x1 x2 w = some q) : xk_X p l e { frames := 0, cells := 0, slots := 0, locals := 0 } s m args below meth c (MQ below (xk_Qi E q) args s 0 0 (xk_A E.2.2.1)) E 3 0 0 9 [(0, .int (x0)), (1, .int (x1)), (2, va_rf (x2))] [] w := by
  refine xk_aload_n hC dJ3_checkIndex_8e157_9 2 rfl rfl ?_
  refine xk_iload_n hC dJ3_checkIndex_8e157_10 0 rfl rfl ?_
  refine xk_iload_n hC dJ3_checkIndex_8e157_11 1 rfl rfl ?_
  cases hf
def f_J3_checkIndex_8e157 (x0 : Int32) (x1 : Int32) (x2 : Option Nat) (w : xWd) : Option (Int32 × xWd) := if (x0) < ((0 : Int32)) then f_J3_checkIndex_8e157_9 x0 x1 x2 w else if (x0) < (x1) then some (x0, w) else f_J3_checkIndex_8e157_9 x0 x1 x2 w
set_option maxHeartbeats 4000000 in
set_option maxRecDepth 100000 in
theorem t_J3_checkIndex_8e157_0 {p : Program} {l : Launch} {e : Env} {s : State} {m : MethodId} {args : Array Value} {below : List Frame} {meth : Method} {c : Code} {E : xEv} (hC : xk_C p s m args meth c E prog_33_method_11_code "jdk/internal/util/Preconditions" 3) (hr : meth.sig.returnType = (some .int)) {q : (Int32 × xWd)} (x0 : Int32) (x1 : Int32) (x2 : Option Nat) (w : xWd) (hf : f_J3_checkIndex_8e157 x0 x1 x2 w = some q) : xk_X p l e { frames := 0, cells := 0, slots := 0, locals := 0 } s m args below meth c (MQ below (xk_Qi E q) args s 0 0 (xk_A E.2.2.1)) E 3 0 0 0 [(0, .int (x0)), (1, .int (x1)), (2, va_rf (x2))] [] w := by
  refine xk_iload_n hC dJ3_checkIndex_8e157_0 0 rfl rfl ?_
  refine xk_if_lt (tgt := 9) hC dJ3_checkIndex_8e157_1 (by decide) (fun c1 => ?_) (fun c1 => ?_)
  · replace hf := (if_pos c1).symm.trans hf
    exact t_J3_checkIndex_8e157_9 hC hr x0 x1 x2 w hf
  · replace hf := (if_neg c1).symm.trans hf
    refine xk_iload_n hC dJ3_checkIndex_8e157_4 0 rfl rfl ?_
    refine xk_iload_n hC dJ3_checkIndex_8e157_5 1 rfl rfl ?_
    refine xk_icmp_lt (tgt := 16) hC dJ3_checkIndex_8e157_6 (by decide) (fun c2 => ?_) (fun c2 => ?_)
    · replace hf := (if_pos c2).symm.trans hf
      refine xk_iload_n hC dJ3_checkIndex_8e157_16 0 rfl rfl ?_
      cases hf
      refine xk_widen (k := 0) (n := 0) (Nat.le_of_ble_eq_true rfl) (Nat.le_of_ble_eq_true rfl) ?_
      exact xk_iret hC hr rfl dJ3_checkIndex_8e157_17
    · replace hf := (if_neg c2).symm.trans hf
      exact t_J3_checkIndex_8e157_9 hC hr x0 x1 x2 w hf
theorem xd_J3_checkIndex_8e157 : xy_J3_checkIndex_8e157.cls ≠ "java/lang/invoke/MethodHandle" ∧ xy_J3_checkIndex_8e157.cls ≠ "java/lang/invoke/VarHandle" ∧ (parseMethodDescriptor xy_J3_checkIndex_8e157.desc).map (fun d => d.parameters.length) = some 3 := ⟨by decide +kernel, by decide +kernel, by decide +kernel⟩
theorem c_J3_checkIndex_8e157 {l : Launch} {E : xEv} {x0 : Int32} {x1 : Int32} {x2 : Option Nat} {w : xWd} {q : (Int32 × xWd)} (hf : f_J3_checkIndex_8e157 x0 x1 x2 w = some q) : xk_M l xy_J3_checkIndex_8e157 prog_33_method_11_code 3 (some .int) 0 0 0 0 E [.int (x0), .int (x1), va_rf (x2)] w (xk_Qi E q) := by
  refine xk_enter (by decide +kernel) (by simp [lg_sl, xk_cat1, xk_cati, xk_catl, xk_catd]) ?_
  intro p e s m args below meth c hC hr hin ha
  rw [show lv_args 0 [.int (x0), .int (x1), va_rf (x2)] = [(0, .int (x0)), (1, .int (x1)), (2, va_rf (x2))] by simp [lv_args, xk_cat1, xk_cati, xk_catl, xk_catd]]
  exact t_J3_checkIndex_8e157_0 hC hr x0 x1 x2 w hf
def f_J15_checkIndex_7cf53 (x0 : Int32) (x1 : Int32) (w : xWd) : Option (Int32 × xWd) := (f_J3_checkIndex_8e157 (x0) (x1) (none) w).bind (fun q1 => some (q1.1, q1.2))
set_option maxHeartbeats 4000000 in
set_option maxRecDepth 100000 in
theorem t_J15_checkIndex_7cf53_0 {p : Program} {l : Launch} {e : Env} {s : State} {m : MethodId} {args : Array Value} {below : List Frame} {meth : Method} {c : Code} {E : xEv} (hC : xk_C p s m args meth c E prog_29_method_17_code "java/util/Objects" 2) (hr : meth.sig.returnType = (some .int)) {q : (Int32 × xWd)} (x0 : Int32) (x1 : Int32) (w : xWd) (hf : f_J15_checkIndex_7cf53 x0 x1 w = some q) : xk_X p l e { frames := 1, cells := 0, slots := 0, locals := 22 } s m args below meth c (MQ below (xk_Qi E q) args s 0 0 (xk_A E.2.2.1)) E 2 0 0 0 [(0, .int (x0)), (1, .int (x1))] [] w := by
  refine xk_iload_n hC dJ15_checkIndex_7cf53_0 0 rfl rfl ?_
  refine xk_iload_n hC dJ15_checkIndex_7cf53_1 1 rfl rfl ?_
  refine xk_null hC dJ15_checkIndex_7cf53_2 ?_
  obtain ⟨q1, h1, hf⟩ := xk_bi hf
  refine xk_backi (xk_callS hC 3 (c_J3_checkIndex_8e157 h1) xm_388 xm_389 xm_19 xm_390 xd_J3_checkIndex_8e157 rfl ⟨Nat.le_of_ble_eq_true rfl, Nat.le_of_ble_eq_true rfl⟩ rfl (Nat.le_of_ble_eq_true rfl) dJ15_checkIndex_7cf53_3 ⟨(Nat.le_of_ble_eq_true rfl), (Nat.le_of_ble_eq_true rfl)⟩) ?_
  cases hf
  refine xk_widen (k := 0) (n := 0) (Nat.le_of_ble_eq_true rfl) (Nat.le_of_ble_eq_true rfl) ?_
  exact xk_iret hC hr rfl dJ15_checkIndex_7cf53_6
theorem xd_J15_checkIndex_7cf53 : xy_J15_checkIndex_7cf53.cls ≠ "java/lang/invoke/MethodHandle" ∧ xy_J15_checkIndex_7cf53.cls ≠ "java/lang/invoke/VarHandle" ∧ (parseMethodDescriptor xy_J15_checkIndex_7cf53.desc).map (fun d => d.parameters.length) = some 2 := ⟨by decide +kernel, by decide +kernel, by decide +kernel⟩
theorem c_J15_checkIndex_7cf53 {l : Launch} {E : xEv} {x0 : Int32} {x1 : Int32} {w : xWd} {q : (Int32 × xWd)} (hf : f_J15_checkIndex_7cf53 x0 x1 w = some q) : xk_M l xy_J15_checkIndex_7cf53 prog_29_method_17_code 2 (some .int) 1 22 0 0 E [.int (x0), .int (x1)] w (xk_Qi E q) := by
  refine xk_enter (by decide +kernel) (by simp [lg_sl, xk_cat1, xk_cati, xk_catl, xk_catd]) ?_
  intro p e s m args below meth c hC hr hin ha
  rw [show lv_args 0 [.int (x0), .int (x1)] = [(0, .int (x0)), (1, .int (x1))] by simp [lv_args, xk_cat1, xk_cati, xk_catl, xk_catd]]
  exact t_J15_checkIndex_7cf53_0 hC hr x0 x1 w hf
def f_Jx4a65c_elementData_915e3 (x0 : Option Nat) (x1 : Int32) (w : xWd) : Option (Option Nat × xWd) := (xk_gR w (x0) 5 1).bind (fun v1 => (xk_lR 2 w (v1) (x1)).bind (fun v2 => some (v2, w)))
set_option maxHeartbeats 4000000 in
set_option maxRecDepth 100000 in
theorem t_Jx4a65c_elementData_915e3_0 {p : Program} {l : Launch} {e : Env} {s : State} {m : MethodId} {args : Array Value} {below : List Frame} {meth : Method} {c : Code} {E : xEv} (hC : xk_C p s m args meth c E prog_25_method_18_code "java/util/ArrayList" 2) (hr : meth.sig.returnType = (some (.object "java/lang/Object"))) {q : (Option Nat × xWd)} (x0 : Option Nat) (x1 : Int32) (w : xWd) (hf : f_Jx4a65c_elementData_915e3 x0 x1 w = some q) : xk_X p l e { frames := 0, cells := 0, slots := 0, locals := 0 } s m args below meth c (MQ below (xk_Qq E q) args s 0 0 (xk_A E.2.2.1)) E 2 0 0 0 [(0, va_rf (x0)), (1, .int (x1))] [] w := by
  refine xk_aload_n hC dJx4a65c_elementData_915e3_0 0 rfl rfl ?_
  obtain ⟨v1, h1, hf⟩ := xk_bi hf
  refine xk_getR hC xi_5 xc_5 1 (by decide) xm_43 (Or.inl rfl) dJx4a65c_elementData_915e3_1 h1 ?_
  refine xk_iload_n hC dJx4a65c_elementData_915e3_4 1 rfl rfl ?_
  obtain ⟨v2, h2, hf⟩ := xk_bi hf
  refine xk_aald hC rfl dJx4a65c_elementData_915e3_5 h2 ?_
  cases hf
  refine xk_widen (k := 0) (n := 0) (Nat.le_of_ble_eq_true rfl) (Nat.le_of_ble_eq_true rfl) ?_
  exact xk_aret hC hr (Or.inl ⟨_, rfl⟩) dJx4a65c_elementData_915e3_6
theorem xd_Jx4a65c_elementData_915e3 : xy_Jx4a65c_elementData_915e3.cls ≠ "java/lang/invoke/MethodHandle" ∧ xy_Jx4a65c_elementData_915e3.cls ≠ "java/lang/invoke/VarHandle" ∧ (parseMethodDescriptor xy_Jx4a65c_elementData_915e3.desc).map (fun d => d.parameters.length) = some 1 := ⟨by decide +kernel, by decide +kernel, by decide +kernel⟩
theorem c_Jx4a65c_elementData_915e3 {l : Launch} {E : xEv} {x0 : Option Nat} {x1 : Int32} {w : xWd} {q : (Option Nat × xWd)} (hf : f_Jx4a65c_elementData_915e3 x0 x1 w = some q) : xk_M l xy_Jx4a65c_elementData_915e3 prog_25_method_18_code 2 (some (.object "java/lang/Object")) 0 0 0 0 E [va_rf (x0), .int (x1)] w (xk_Qq E q) := by
  refine xk_enter (by decide +kernel) (by simp [lg_sl, xk_cat1, xk_cati, xk_catl, xk_catd]) ?_
  intro p e s m args below meth c hC hr hin ha
  rw [show lv_args 0 [va_rf (x0), .int (x1)] = [(0, va_rf (x0)), (1, .int (x1))] by simp [lv_args, xk_cat1, xk_cati, xk_catl, xk_catd]]
  exact t_Jx4a65c_elementData_915e3_0 hC hr x0 x1 w hf
def f_Jx4a65c_get_915e3 (x0 : Option Nat) (x1 : Int32) (w : xWd) : Option (Option Nat × xWd) := (xk_gI w (x0) 5 2).bind (fun v1 => (f_J15_checkIndex_7cf53 (x1) (v1) w).bind (fun q2 => (xk_is q2.2 (x0) 5).bind (fun u4 => (f_Jx4a65c_elementData_915e3 (x0) (x1) q2.2).bind (fun q3 => some (q3.1, q3.2)))))
set_option maxHeartbeats 4000000 in
set_option maxRecDepth 100000 in
theorem t_Jx4a65c_get_915e3_0 {p : Program} {l : Launch} {e : Env} {s : State} {m : MethodId} {args : Array Value} {below : List Frame} {meth : Method} {c : Code} {E : xEv} (hC : xk_C p s m args meth c E prog_25_method_20_code "java/util/ArrayList" 2) (hr : meth.sig.returnType = (some (.object "java/lang/Object"))) {q : (Option Nat × xWd)} (x0 : Option Nat) (x1 : Int32) (w : xWd) (hf : f_Jx4a65c_get_915e3 x0 x1 w = some q) : xk_X p l e { frames := 2, cells := 0, slots := 0, locals := 43 } s m args below meth c (MQ below (xk_Qq E q) args s 0 0 (xk_A E.2.2.1)) E 2 0 0 0 [(0, va_rf (x0)), (1, .int (x1))] [] w := by
  refine xk_iload_n hC dJx4a65c_get_915e3_0 1 rfl rfl ?_
  refine xk_aload_n hC dJx4a65c_get_915e3_1 0 rfl rfl ?_
  obtain ⟨v1, h1, hf⟩ := xk_bi hf
  refine xk_getI hC xi_5 xc_5 2 (by decide) xm_44 (Or.inl rfl) dJx4a65c_get_915e3_2 h1 ?_
  obtain ⟨q2, h2, hf⟩ := xk_bi hf
  refine xk_backi (xk_callS hC 2 (c_J15_checkIndex_7cf53 h2) xm_385 xm_386 xm_18 xm_387 xd_J15_checkIndex_7cf53 rfl ⟨Nat.le_of_ble_eq_true rfl, Nat.le_of_ble_eq_true rfl⟩ rfl (Nat.le_of_ble_eq_true rfl) dJx4a65c_get_915e3_5 ⟨(Nat.le_of_ble_eq_true rfl), (Nat.le_of_ble_eq_true rfl)⟩) ?_
  refine xk_pop hC dJx4a65c_get_915e3_8 rfl ?_
  refine xk_aload_n hC dJx4a65c_get_915e3_9 0 rfl rfl ?_
  refine xk_iload_n hC dJx4a65c_get_915e3_10 1 rfl rfl ?_
  obtain ⟨u4, h4, hf⟩ := xk_bi hf
  obtain ⟨q3, h3, hf⟩ := xk_bi hf
  refine xk_backq (xk_callV hC 1 xc_5 (c_Jx4a65c_elementData_915e3 h3) h4 xm_391 xm_392 xm_393 xm_4 xm_394 ⟨rfl, xd_Jx4a65c_elementData_915e3⟩ rfl ⟨Nat.le_of_ble_eq_true rfl, Nat.le_of_ble_eq_true rfl⟩ rfl (Nat.le_of_ble_eq_true rfl) dJx4a65c_get_915e3_11 ⟨(Nat.le_of_ble_eq_true rfl), (Nat.le_of_ble_eq_true rfl)⟩) ?_
  cases hf
  refine xk_widen (k := 0) (n := 0) (Nat.le_of_ble_eq_true rfl) (Nat.le_of_ble_eq_true rfl) ?_
  exact xk_aret hC hr (Or.inl ⟨_, rfl⟩) dJx4a65c_get_915e3_14
theorem xd_Jx4a65c_get_915e3 : xy_Jx4a65c_get_915e3.cls ≠ "java/lang/invoke/MethodHandle" ∧ xy_Jx4a65c_get_915e3.cls ≠ "java/lang/invoke/VarHandle" ∧ (parseMethodDescriptor xy_Jx4a65c_get_915e3.desc).map (fun d => d.parameters.length) = some 1 := ⟨by decide +kernel, by decide +kernel, by decide +kernel⟩
theorem c_Jx4a65c_get_915e3 {l : Launch} {E : xEv} {x0 : Option Nat} {x1 : Int32} {w : xWd} {q : (Option Nat × xWd)} (hf : f_Jx4a65c_get_915e3 x0 x1 w = some q) : xk_M l xy_Jx4a65c_get_915e3 prog_25_method_20_code 2 (some (.object "java/lang/Object")) 2 43 0 0 E [va_rf (x0), .int (x1)] w (xk_Qq E q) := by
  refine xk_enter (by decide +kernel) (by simp [lg_sl, xk_cat1, xk_cati, xk_catl, xk_catd]) ?_
  intro p e s m args below meth c hC hr hin ha
  rw [show lv_args 0 [va_rf (x0), .int (x1)] = [(0, va_rf (x0)), (1, .int (x1))] by simp [lv_args, xk_cat1, xk_cati, xk_catl, xk_catd]]
  exact t_Jx4a65c_get_915e3_0 hC hr x0 x1 w hf
def f_X3_isValid_19 (s0 : Int32) (w : xWd) : Option (Int32 × xWd) := (xk_zb (s0)).bind (fun u1 => some (s0, w))
set_option maxHeartbeats 4000000 in
set_option maxRecDepth 100000 in
theorem t_X3_isValid_19 {p : Program} {l : Launch} {e : Env} {s : State} {m : MethodId} {args : Array Value} {below : List Frame} {meth : Method} {c : Code} {E : xEv} (hC : xk_C p s m args meth c E prog_5_method_2_code "Clickbook$Take" 1) (hr : meth.sig.returnType = (some .boolean)) {q : (Int32 × xWd)} (s0 : Int32) (w : xWd) (hf : f_X3_isValid_19 s0 w = some q) : xk_X p l e { frames := 0, cells := 0, slots := 0, locals := 0 } s m args below meth c (MQ below (xk_Qi E q) args s 0 0 (xk_A E.2.2.1)) E 1 0 0 19 [] [.int (s0)] w := by
  obtain ⟨u1, h1, hf⟩ := xk_bi hf
  cases hf
  refine xk_widen (k := 0) (n := 0) (Nat.le_of_ble_eq_true rfl) (Nat.le_of_ble_eq_true rfl) ?_
  exact xk_iret hC hr (xk_zb_e h1) dX3_isValid_19
def f_X3_isValid (x0 : Option Nat) (w : xWd) : Option (Int32 × xWd) := (xk_gI w (x0) 4 2).bind (fun v1 => (xk_gR w (x0) 4 1).bind (fun v2 => (xk_gI w (v2) 1 6).bind (fun v3 => if (v1) = (v3) then f_X3_isValid_19 ((1 : Int32)) w else f_X3_isValid_19 ((0 : Int32)) w)))
set_option maxHeartbeats 4000000 in
set_option maxRecDepth 100000 in
theorem t_X3_isValid_0 {p : Program} {l : Launch} {e : Env} {s : State} {m : MethodId} {args : Array Value} {below : List Frame} {meth : Method} {c : Code} {E : xEv} (hC : xk_C p s m args meth c E prog_5_method_2_code "Clickbook$Take" 1) (hr : meth.sig.returnType = (some .boolean)) {q : (Int32 × xWd)} (x0 : Option Nat) (w : xWd) (hf : f_X3_isValid x0 w = some q) : xk_X p l e { frames := 0, cells := 0, slots := 0, locals := 0 } s m args below meth c (MQ below (xk_Qi E q) args s 0 0 (xk_A E.2.2.1)) E 1 0 0 0 [(0, va_rf (x0))] [] w := by
  refine xk_aload_n hC dX3_isValid_0 0 rfl rfl ?_
  obtain ⟨v1, h1, hf⟩ := xk_bi hf
  refine xk_getI hC xi_4 xc_4 2 (by decide) xm_480 (Or.inl rfl) dX3_isValid_1 h1 ?_
  refine xk_aload_n hC dX3_isValid_4 0 rfl rfl ?_
  obtain ⟨v2, h2, hf⟩ := xk_bi hf
  refine xk_getR hC xi_4 xc_4 1 (by decide) xm_477 (Or.inl rfl) dX3_isValid_5 h2 ?_
  obtain ⟨v3, h3, hf⟩ := xk_bi hf
  refine xk_getI hC xi_1 xc_1 6 (by decide) xm_329 (Or.inl rfl) dX3_isValid_8 h3 ?_
  refine xk_icmp_ne (tgt := 18) hC dX3_isValid_11 (by decide) (fun c4 => ?_) (fun c4 => ?_)
  · replace hf := (if_neg c4).symm.trans hf
    refine xk_iconst (v := (0 : Int32)) hC dX3_isValid_18 (by decide) ?_
    refine xk_locals [] rfl ?_
    exact t_X3_isValid_19 hC hr ((0 : Int32)) w hf
  · replace hf := (if_pos c4).symm.trans hf
    refine xk_iconst (v := (1 : Int32)) hC dX3_isValid_14 (by decide) ?_
    refine xk_goto (tgt := 19) hC dX3_isValid_15 (by decide) ?_
    refine xk_locals [] rfl ?_
    exact t_X3_isValid_19 hC hr ((1 : Int32)) w hf
theorem xd_X3_isValid : xy_X3_isValid.cls ≠ "java/lang/invoke/MethodHandle" ∧ xy_X3_isValid.cls ≠ "java/lang/invoke/VarHandle" ∧ (parseMethodDescriptor xy_X3_isValid.desc).map (fun d => d.parameters.length) = some 0 := ⟨by decide +kernel, by decide +kernel, by decide +kernel⟩
theorem c_X3_isValid {l : Launch} {E : xEv} {x0 : Option Nat} {w : xWd} {q : (Int32 × xWd)} (hf : f_X3_isValid x0 w = some q) : xk_M l xy_X3_isValid prog_5_method_2_code 1 (some .boolean) 0 0 0 0 E [va_rf (x0)] w (xk_Qi E q) := by
  refine xk_enter (by decide +kernel) (by simp [lg_sl, xk_cat1, xk_cati, xk_catl, xk_catd]) ?_
  intro p e s m args below meth c hC hr hin ha
  rw [show lv_args 0 [va_rf (x0)] = [(0, va_rf (x0))] by simp [lv_args, xk_cat1, xk_cati, xk_catl, xk_catd]]
  exact t_X3_isValid_0 hC hr x0 w hf
def f_J8_hugeLength_7cf53 (x0 : Int32) (x1 : Int32) (w : xWd) : Option (Int32 × xWd) := if ((0 : Int32)) ≤ ((x0) + (x1)) then if ((2147483639 : Int32)) < ((x0) + (x1)) then some ((x0) + (x1), w) else some ((2147483639 : Int32), w) else none
set_option maxHeartbeats 4000000 in
set_option maxRecDepth 100000 in
theorem t_J8_hugeLength_7cf53_0 {p : Program} {l : Launch} {e : Env} {s : State} {m : MethodId} {args : Array Value} {below : List Frame} {meth : Method} {c : Code} {E : xEv} (hC : xk_C p s m args meth c E prog_32_method_28_code "jdk/internal/util/ArraysSupport" 3) (hr : meth.sig.returnType = (some .int)) {q : (Int32 × xWd)} (x0 : Int32) (x1 : Int32) (w : xWd) (hf : f_J8_hugeLength_7cf53 x0 x1 w = some q) : xk_X p l e { frames := 0, cells := 0, slots := 0, locals := 0 } s m args below meth c (MQ below (xk_Qi E q) args s 0 0 (xk_A E.2.2.1)) E 3 0 0 0 [(0, .int (x0)), (1, .int (x1))] [] w := by
  refine xk_iload_n hC dJ8_hugeLength_7cf53_0 0 rfl rfl ?_
  refine xk_iload_n hC dJ8_hugeLength_7cf53_1 1 rfl rfl ?_
  refine xk_iadd hC dJ8_hugeLength_7cf53_2 ?_
  refine xk_istore_n (i := 2) (lv' := [(2, .int ((x0) + (x1))), (0, .int (x0)), (1, .int (x1))]) hC dJ8_hugeLength_7cf53_3 rfl (by decide) rfl ?_
  refine xk_iload_n hC dJ8_hugeLength_7cf53_4 0 rfl rfl ?_
  refine xk_if_ge (tgt := 49) hC dJ8_hugeLength_7cf53_5 (by decide) (fun c1 => ?_) (fun c1 => ?_)
  · replace hf := (if_pos c1).symm.trans hf
    refine xk_iload_n hC dJ8_hugeLength_7cf53_49 0 rfl rfl ?_
    refine xk_ldc (v := (2147483639 : Int32)) hC dJ8_hugeLength_7cf53_50 xm_248 ?_
    refine xk_icmp_gt (tgt := 58) hC dJ8_hugeLength_7cf53_52 (by decide) (fun c2 => ?_) (fun c2 => ?_)
    · replace hf := (if_pos c2).symm.trans hf
      refine xk_iload_n hC dJ8_hugeLength_7cf53_58 0 rfl rfl ?_
      cases hf
      refine xk_widen (k := 0) (n := 0) (Nat.le_of_ble_eq_true rfl) (Nat.le_of_ble_eq_true rfl) ?_
      exact xk_iret hC hr rfl dJ8_hugeLength_7cf53_59
    · replace hf := (if_neg c2).symm.trans hf
      refine xk_ldc (v := (2147483639 : Int32)) hC dJ8_hugeLength_7cf53_55 xm_248 ?_
      cases hf
      refine xk_widen (k := 0) (n := 0) (Nat.le_of_ble_eq_true rfl) (Nat.le_of_ble_eq_true rfl) ?_
      exact xk_iret hC hr rfl dJ8_hugeLength_7cf53_57
  · replace hf := (if_neg c1).symm.trans hf
    cases hf
theorem xd_J8_hugeLength_7cf53 : xy_J8_hugeLength_7cf53.cls ≠ "java/lang/invoke/MethodHandle" ∧ xy_J8_hugeLength_7cf53.cls ≠ "java/lang/invoke/VarHandle" ∧ (parseMethodDescriptor xy_J8_hugeLength_7cf53.desc).map (fun d => d.parameters.length) = some 2 := ⟨by decide +kernel, by decide +kernel, by decide +kernel⟩
theorem c_J8_hugeLength_7cf53 {l : Launch} {E : xEv} {x0 : Int32} {x1 : Int32} {w : xWd} {q : (Int32 × xWd)} (hf : f_J8_hugeLength_7cf53 x0 x1 w = some q) : xk_M l xy_J8_hugeLength_7cf53 prog_32_method_28_code 3 (some .int) 0 0 0 0 E [.int (x0), .int (x1)] w (xk_Qi E q) := by
  refine xk_enter (by decide +kernel) (by simp [lg_sl, xk_cat1, xk_cati, xk_catl, xk_catd]) ?_
  intro p e s m args below meth c hC hr hin ha
  rw [show lv_args 0 [.int (x0), .int (x1)] = [(0, .int (x0)), (1, .int (x1))] by simp [lv_args, xk_cat1, xk_cati, xk_catl, xk_catd]]
  exact t_J8_hugeLength_7cf53_0 hC hr x0 x1 w hf
def f_J8_newLength_cabcc_21 (x0 : Int32) (x1 : Int32) (w : xWd) : Option (Int32 × xWd) := (f_J8_hugeLength_7cf53 (x0) (x1) w).bind (fun q1 => some (q1.1, q1.2))
set_option maxHeartbeats 4000000 in
set_option maxRecDepth 100000 in
theorem t_J8_newLength_cabcc_21 {p : Program} {l : Launch} {e : Env} {s : State} {m : MethodId} {args : Array Value} {below : List Frame} {meth : Method} {c : Code} {E : xEv} (hC : xk_C p s m args meth c E prog_32_method_27_code "jdk/internal/util/ArraysSupport" 4) (hr : meth.sig.returnType = (some .int)) {q : (Int32 × xWd)} (x0 : Int32) (x1 : Int32) (w : xWd) (hf : f_J8_newLength_cabcc_21 x0 x1 w = some q) : xk_X p l e { frames := 1, cells := 0, slots := 0, locals := 22 } s m args below meth c (MQ below (xk_Qi E q) args s 0 0 (xk_A E.2.2.1)) E 4 0 0 21 [(0, .int (x0)), (1, .int (x1))] [] w := by
  refine xk_iload_n hC dJ8_newLength_cabcc_21 0 rfl rfl ?_
  refine xk_iload_n hC dJ8_newLength_cabcc_22 1 rfl rfl ?_
  obtain ⟨q1, h1, hf⟩ := xk_bi hf
  refine xk_backi (xk_callS hC 2 (c_J8_hugeLength_7cf53 h1) xm_249 xm_250 xm_12 xm_251 xd_J8_hugeLength_7cf53 rfl ⟨Nat.le_of_ble_eq_true rfl, Nat.le_of_ble_eq_true rfl⟩ rfl (Nat.le_of_ble_eq_true rfl) dJ8_newLength_cabcc_23 ⟨(Nat.le_of_ble_eq_true rfl), (Nat.le_of_ble_eq_true rfl)⟩) ?_
  cases hf
  refine xk_widen (k := 0) (n := 0) (Nat.le_of_ble_eq_true rfl) (Nat.le_of_ble_eq_true rfl) ?_
  exact xk_iret hC hr rfl dJ8_newLength_cabcc_26
def f_J8_newLength_cabcc (x0 : Int32) (x1 : Int32) (x2 : Int32) (w : xWd) : Option (Int32 × xWd) := if ((x0) + (if (x1) < (x2) then (x2) else (x1))) ≤ ((0 : Int32)) then f_J8_newLength_cabcc_21 x0 x1 w else if ((2147483639 : Int32)) < ((x0) + (if (x1) < (x2) then (x2) else (x1))) then f_J8_newLength_cabcc_21 x0 x1 w else some ((x0) + (if (x1) < (x2) then (x2) else (x1)), w)
set_option maxHeartbeats 4000000 in
set_option maxRecDepth 100000 in
theorem t_J8_newLength_cabcc_0 {p : Program} {l : Launch} {e : Env} {s : State} {m : MethodId} {args : Array Value} {below : List Frame} {meth : Method} {c : Code} {E : xEv} (hC : xk_C p s m args meth c E prog_32_method_27_code "jdk/internal/util/ArraysSupport" 4) (hr : meth.sig.returnType = (some .int)) {q : (Int32 × xWd)} (x0 : Int32) (x1 : Int32) (x2 : Int32) (w : xWd) (hf : f_J8_newLength_cabcc x0 x1 x2 w = some q) : xk_X p l e { frames := 1, cells := 0, slots := 0, locals := 22 } s m args below meth c (MQ below (xk_Qi E q) args s 0 0 (xk_A E.2.2.1)) E 4 0 0 0 [(0, .int (x0)), (1, .int (x1)), (2, .int (x2))] [] w := by
  refine xk_iload_n hC dJ8_newLength_cabcc_0 0 rfl rfl ?_
  refine xk_iload_n hC dJ8_newLength_cabcc_1 1 rfl rfl ?_
  refine xk_iload_n hC dJ8_newLength_cabcc_2 2 rfl rfl ?_
  refine xk_mmax hC xm_245 xm_246 xm_13 xm_247 (Nat.le_of_ble_eq_true rfl) (Nat.le_of_ble_eq_true rfl) (Nat.le_of_ble_eq_true rfl) (Nat.le_of_ble_eq_true rfl) dJ8_newLength_cabcc_3 ?_
  refine xk_iadd hC dJ8_newLength_cabcc_6 ?_
  refine xk_istore_n (i := 3) (lv' := [(3, .int ((x0) + (if (x1) < (x2) then (x2) else (x1)))), (0, .int (x0)), (1, .int (x1)), (2, .int (x2))]) hC dJ8_newLength_cabcc_7 rfl (by decide) rfl ?_
  refine xk_iconst (v := (0 : Int32)) hC dJ8_newLength_cabcc_8 (by decide) ?_
  refine xk_iload_n hC dJ8_newLength_cabcc_9 0 rfl rfl ?_
  refine xk_icmp_ge (tgt := 21) hC dJ8_newLength_cabcc_10 (by decide) (fun c1 => ?_) (fun c1 => ?_)
  · replace hf := (if_pos c1).symm.trans hf
    refine xk_locals [1, 2] rfl ?_
    exact t_J8_newLength_cabcc_21 hC hr x0 x1 w hf
  · replace hf := (if_neg c1).symm.trans hf
    refine xk_iload_n hC dJ8_newLength_cabcc_13 0 rfl rfl ?_
    refine xk_ldc (v := (2147483639 : Int32)) hC dJ8_newLength_cabcc_14 xm_248 ?_
    refine xk_icmp_gt (tgt := 21) hC dJ8_newLength_cabcc_16 (by decide) (fun c2 => ?_) (fun c2 => ?_)
    · replace hf := (if_pos c2).symm.trans hf
      refine xk_locals [1, 2] rfl ?_
      exact t_J8_newLength_cabcc_21 hC hr x0 x1 w hf
    · replace hf := (if_neg c2).symm.trans hf
      refine xk_iload_n hC dJ8_newLength_cabcc_19 0 rfl rfl ?_
      cases hf
      refine xk_widen (k := 0) (n := 0) (Nat.le_of_ble_eq_true rfl) (Nat.le_of_ble_eq_true rfl) ?_
      exact xk_iret hC hr rfl dJ8_newLength_cabcc_20
theorem xd_J8_newLength_cabcc : xy_J8_newLength_cabcc.cls ≠ "java/lang/invoke/MethodHandle" ∧ xy_J8_newLength_cabcc.cls ≠ "java/lang/invoke/VarHandle" ∧ (parseMethodDescriptor xy_J8_newLength_cabcc.desc).map (fun d => d.parameters.length) = some 3 := ⟨by decide +kernel, by decide +kernel, by decide +kernel⟩
theorem c_J8_newLength_cabcc {l : Launch} {E : xEv} {x0 : Int32} {x1 : Int32} {x2 : Int32} {w : xWd} {q : (Int32 × xWd)} (hf : f_J8_newLength_cabcc x0 x1 x2 w = some q) : xk_M l xy_J8_newLength_cabcc prog_32_method_27_code 4 (some .int) 1 22 0 0 E [.int (x0), .int (x1), .int (x2)] w (xk_Qi E q) := by
  refine xk_enter (by decide +kernel) (by simp [lg_sl, xk_cat1, xk_cati, xk_catl, xk_catd]) ?_
  intro p e s m args below meth c hC hr hin ha
  rw [show lv_args 0 [.int (x0), .int (x1), .int (x2)] = [(0, .int (x0)), (1, .int (x1)), (2, .int (x2))] by simp [lv_args, xk_cat1, xk_cati, xk_catl, xk_catd]]
  exact t_J8_newLength_cabcc_0 hC hr x0 x1 x2 w hf
def f_J7_copyOf_6403c (x0 : Option Nat) (x1 : Int32) (x2 : Option Nat) (w : xWd) : Option (Option Nat × xWd) := if (x2) = (some w.2.2.2) then (xk_nA w 2 xk_dR (x1) 64).bind (fun w2 => (xk_len w2 (x0)).bind (fun v3 => (xk_cpy w2 (x0) ((0 : Int32)) (some w.2.1) ((0 : Int32)) (if (x1) < (v3) then (x1) else (v3))).bind (fun w4 => some (some w.2.1, w4)))) else none
set_option maxHeartbeats 4000000 in
set_option maxRecDepth 100000 in
theorem t_J7_copyOf_6403c_0 {p : Program} {l : Launch} {e : Env} {s : State} {m : MethodId} {args : Array Value} {below : List Frame} {meth : Method} {c : Code} {E : xEv} (hC : xk_C p s m args meth c E prog_26_method_120_code "java/util/Arrays" 4) (hr : meth.sig.returnType = (some (.array (.object "java/lang/Object")))) {q : (Option Nat × xWd)} (x0 : Option Nat) (x1 : Int32) (x2 : Option Nat) (w : xWd) (hf : f_J7_copyOf_6403c x0 x1 x2 w = some q) : xk_X p l e { frames := 1, cells := 1, slots := 64, locals := 39 } s m args below meth c (MQ below (xk_Qq E q) args s 1 64 (xk_A E.2.2.1)) E 4 0 0 0 [(0, va_rf (x0)), (1, .int (x1)), (2, va_rf (x2))] [] w := by
  refine xk_aload_n hC dJ7_copyOf_6403c_0 2 rfl rfl ?_
  refine xk_ldcM hC xm_271 dJ7_copyOf_6403c_1 ?_
  refine xk_acmp_ne (tgt := 13) hC dJ7_copyOf_6403c_3 (by decide) (fun c1 => ?_) (fun c1 => ?_)
  · replace hf := (if_neg c1).symm.trans hf
    refine xk_aload_n hC dJ7_copyOf_6403c_13 2 rfl rfl ?_
    cases hf
  · replace hf := (if_pos c1).symm.trans hf
    refine xk_iload_n hC dJ7_copyOf_6403c_6 1 rfl rfl ?_
    obtain ⟨w2, h2, hf⟩ := xk_bi hf
    refine xk_anew (cap := 64) hC xm_273 (xk_over hC) rfl (Nat.le_of_ble_eq_true rfl) (Nat.le_of_ble_eq_true rfl) (Nat.le_of_ble_eq_true rfl) dJ7_copyOf_6403c_7 h2 ?_
    refine xk_goto (tgt := 24) hC dJ7_copyOf_6403c_10 (by decide) ?_
    refine xk_astore_n (i := 3) (lv' := [(3, va_rf (some w.2.1)), (0, va_rf (x0)), (1, .int (x1)), (2, va_rf (x2))]) hC dJ7_copyOf_6403c_24 rfl (by decide) (by simp [xk_cat1]) ?_
    refine xk_aload_n hC dJ7_copyOf_6403c_25 1 rfl rfl ?_
    refine xk_iconst (v := (0 : Int32)) hC dJ7_copyOf_6403c_26 (by decide) ?_
    refine xk_aload_n hC dJ7_copyOf_6403c_27 0 rfl rfl ?_
    refine xk_iconst (v := (0 : Int32)) hC dJ7_copyOf_6403c_28 (by decide) ?_
    refine xk_aload_n hC dJ7_copyOf_6403c_29 1 rfl rfl ?_
    obtain ⟨v3, h3, hf⟩ := xk_bi hf
    refine xk_alen hC dJ7_copyOf_6403c_30 h3 ?_
    refine xk_iload_n hC dJ7_copyOf_6403c_31 2 rfl rfl ?_
    refine xk_mmin hC xm_274 xm_275 xm_13 xm_276 (Nat.le_of_ble_eq_true rfl) (by simp [xk_cat1, xk_cati, xk_catl, xk_catd]) (Nat.le_of_ble_eq_true rfl) (Nat.le_of_ble_eq_true rfl) dJ7_copyOf_6403c_32 ?_
    obtain ⟨w4, h4, hf⟩ := xk_bi hf
    refine xk_acpy hC (xk_cas hC) xm_277 xm_279 xm_278 xm_15 (Nat.le_of_ble_eq_true rfl) (Nat.le_of_ble_eq_true rfl) dJ7_copyOf_6403c_35 h4 ?_
    refine xk_aload_n hC dJ7_copyOf_6403c_38 0 rfl rfl ?_
    cases hf
    refine xk_widen (k := 1) (n := 64) (Nat.le_of_ble_eq_true rfl) (Nat.le_of_ble_eq_true rfl) ?_
    exact xk_aret hC hr (Or.inr ⟨_, rfl⟩) dJ7_copyOf_6403c_39
theorem xd_J7_copyOf_6403c : xy_J7_copyOf_6403c.cls ≠ "java/lang/invoke/MethodHandle" ∧ xy_J7_copyOf_6403c.cls ≠ "java/lang/invoke/VarHandle" ∧ (parseMethodDescriptor xy_J7_copyOf_6403c.desc).map (fun d => d.parameters.length) = some 3 := ⟨by decide +kernel, by decide +kernel, by decide +kernel⟩
theorem c_J7_copyOf_6403c {l : Launch} {E : xEv} {x0 : Option Nat} {x1 : Int32} {x2 : Option Nat} {w : xWd} {q : (Option Nat × xWd)} (hf : f_J7_copyOf_6403c x0 x1 x2 w = some q) : xk_M l xy_J7_copyOf_6403c prog_26_method_120_code 4 (some (.array (.object "java/lang/Object"))) 1 39 1 64 E [va_rf (x0), .int (x1), va_rf (x2)] w (xk_Qq E q) := by
  refine xk_enter (by decide +kernel) (by simp [lg_sl, xk_cat1, xk_cati, xk_catl, xk_catd]) ?_
  intro p e s m args below meth c hC hr hin ha
  rw [show lv_args 0 [va_rf (x0), .int (x1), va_rf (x2)] = [(0, va_rf (x0)), (1, .int (x1)), (2, va_rf (x2))] by simp [lv_args, xk_cat1, xk_cati, xk_catl, xk_catd]]
  exact t_J7_copyOf_6403c_0 hC hr x0 x1 x2 w hf
def f_J7_copyOf_1904c (x0 : Option Nat) (x1 : Int32) (w : xWd) : Option (Option Nat × xWd) := (xk_ar2 w (x0)).bind (fun u1 => (f_J7_copyOf_6403c (x0) (x1) (some w.2.2.2) w).bind (fun q2 => some (q2.1, q2.2)))
set_option maxHeartbeats 4000000 in
set_option maxRecDepth 100000 in
theorem t_J7_copyOf_1904c_0 {p : Program} {l : Launch} {e : Env} {s : State} {m : MethodId} {args : Array Value} {below : List Frame} {meth : Method} {c : Code} {E : xEv} (hC : xk_C p s m args meth c E prog_26_method_119_code "java/util/Arrays" 2) (hr : meth.sig.returnType = (some (.array (.object "java/lang/Object")))) {q : (Option Nat × xWd)} (x0 : Option Nat) (x1 : Int32) (w : xWd) (hf : f_J7_copyOf_1904c x0 x1 w = some q) : xk_X p l e { frames := 2, cells := 1, slots := 64, locals := 62 } s m args below meth c (MQ below (xk_Qq E q) args s 1 64 (xk_A E.2.2.1)) E 2 0 0 0 [(0, va_rf (x0)), (1, .int (x1))] [] w := by
  refine xk_aload_n hC dJ7_copyOf_1904c_0 0 rfl rfl ?_
  refine xk_iload_n hC dJ7_copyOf_1904c_1 1 rfl rfl ?_
  refine xk_aload_n hC dJ7_copyOf_1904c_2 0 rfl rfl ?_
  obtain ⟨u1, h1, hf⟩ := xk_bi hf
  refine xk_getC hC xm_255 (xk_note10 hC) xm_791 xm_256 xm_267 (Nat.le_of_ble_eq_true rfl) (by simp [xk_cat1, xk_cati, xk_catl, xk_catd]) dJ7_copyOf_1904c_3 h1 ?_
  obtain ⟨q2, h2, hf⟩ := xk_bi hf
  refine xk_backq (xk_callS hC 3 (c_J7_copyOf_6403c h2) xm_268 xm_269 xm_14 xm_270 xd_J7_copyOf_6403c rfl ⟨Nat.le_of_ble_eq_true rfl, Nat.le_of_ble_eq_true rfl⟩ rfl (Nat.le_of_ble_eq_true rfl) dJ7_copyOf_1904c_6 ⟨(Nat.le_of_ble_eq_true rfl), (Nat.le_of_ble_eq_true rfl)⟩) ?_
  cases hf
  refine xk_widen (k := 1) (n := 64) (Nat.le_of_ble_eq_true rfl) (Nat.le_of_ble_eq_true rfl) ?_
  exact xk_aret hC hr (Or.inr ⟨_, rfl⟩) dJ7_copyOf_1904c_9
theorem xd_J7_copyOf_1904c : xy_J7_copyOf_1904c.cls ≠ "java/lang/invoke/MethodHandle" ∧ xy_J7_copyOf_1904c.cls ≠ "java/lang/invoke/VarHandle" ∧ (parseMethodDescriptor xy_J7_copyOf_1904c.desc).map (fun d => d.parameters.length) = some 2 := ⟨by decide +kernel, by decide +kernel, by decide +kernel⟩
theorem c_J7_copyOf_1904c {l : Launch} {E : xEv} {x0 : Option Nat} {x1 : Int32} {w : xWd} {q : (Option Nat × xWd)} (hf : f_J7_copyOf_1904c x0 x1 w = some q) : xk_M l xy_J7_copyOf_1904c prog_26_method_119_code 2 (some (.array (.object "java/lang/Object"))) 2 62 1 64 E [va_rf (x0), .int (x1)] w (xk_Qq E q) := by
  refine xk_enter (by decide +kernel) (by simp [lg_sl, xk_cat1, xk_cati, xk_catl, xk_catd]) ?_
  intro p e s m args below meth c hC hr hin ha
  rw [show lv_args 0 [va_rf (x0), .int (x1)] = [(0, va_rf (x0)), (1, .int (x1))] by simp [lv_args, xk_cat1, xk_cati, xk_catl, xk_catd]]
  exact t_J7_copyOf_1904c_0 hC hr x0 x1 w hf
def f_Jx4a65c_grow_92f84_20 (x0 : Option Nat) (x1 : Int32) (x2 : Int32) (w : xWd) : Option (Option Nat × xWd) := (f_J8_newLength_cabcc (x2) ((x1) - (x2)) ((x2) >>> (((1 : Int32)) &&& 31)) w).bind (fun q1 => (xk_gR q1.2 (x0) 5 1).bind (fun v2 => (f_J7_copyOf_1904c (v2) (q1.1) q1.2).bind (fun q3 => (xk_pV q3.2 (x0) 5 1 (va_rf (q3.1))).bind (fun w4 => some (q3.1, w4)))))
set_option maxHeartbeats 4000000 in
set_option maxRecDepth 100000 in
theorem t_Jx4a65c_grow_92f84_20 {p : Program} {l : Launch} {e : Env} {s : State} {m : MethodId} {args : Array Value} {below : List Frame} {meth : Method} {c : Code} {E : xEv} (hC : xk_C p s m args meth c E prog_25_method_6_code "java/util/ArrayList" 4) (hr : meth.sig.returnType = (some (.array (.object "java/lang/Object")))) {q : (Option Nat × xWd)} (x0 : Option Nat) (x1 : Int32) (x2 : Int32) (w : xWd) (hf : f_Jx4a65c_grow_92f84_20 x0 x1 x2 w = some q) : xk_X p l e { frames := 3, cells := 1, slots := 64, locals := 83 } s m args below meth c (MQ below (xk_Qq E q) args s 1 64 (xk_A E.2.2.1)) E 4 0 0 20 [(0, va_rf (x0)), (1, .int (x1)), (2, .int (x2))] [] w := by
  refine xk_iload_n hC dJx4a65c_grow_92f84_20 2 rfl rfl ?_
  refine xk_iload_n hC dJx4a65c_grow_92f84_21 1 rfl rfl ?_
  refine xk_iload_n hC dJx4a65c_grow_92f84_22 2 rfl rfl ?_
  refine xk_isub hC dJx4a65c_grow_92f84_23 ?_
  refine xk_iload_n hC dJx4a65c_grow_92f84_24 2 rfl rfl ?_
  refine xk_iconst (v := (1 : Int32)) hC dJx4a65c_grow_92f84_25 (by decide) ?_
  refine xk_ishr hC dJx4a65c_grow_92f84_26 ?_
  obtain ⟨q1, h1, hf⟩ := xk_bi hf
  refine xk_backi (xk_callS hC 3 (c_J8_newLength_cabcc h1) xm_242 xm_243 xm_12 xm_244 xd_J8_newLength_cabcc rfl ⟨Nat.le_of_ble_eq_true rfl, Nat.le_of_ble_eq_true rfl⟩ rfl (Nat.le_of_ble_eq_true rfl) dJx4a65c_grow_92f84_27 ⟨(Nat.le_of_ble_eq_true rfl), (Nat.le_of_ble_eq_true rfl)⟩) ?_
  refine xk_istore_n (i := 3) (lv' := [(3, .int (q1.1)), (0, va_rf (x0)), (1, .int (x1)), (2, .int (x2))]) hC dJx4a65c_grow_92f84_30 rfl (by decide) rfl ?_
  refine xk_aload_n hC dJx4a65c_grow_92f84_31 1 rfl rfl ?_
  refine xk_aload_n hC dJx4a65c_grow_92f84_32 1 rfl rfl ?_
  obtain ⟨v2, h2, hf⟩ := xk_bi hf
  refine xk_getR hC xi_5 xc_5 1 (by decide) xm_43 (Or.inl rfl) dJx4a65c_grow_92f84_33 h2 ?_
  refine xk_iload_n hC dJx4a65c_grow_92f84_36 0 rfl rfl ?_
  obtain ⟨q3, h3, hf⟩ := xk_bi hf
  refine xk_backq (xk_callS hC 2 (c_J7_copyOf_1904c h3) xm_252 xm_253 xm_14 xm_254 xd_J7_copyOf_1904c rfl ⟨Nat.le_of_ble_eq_true rfl, Nat.le_of_ble_eq_true rfl⟩ rfl (by simp [xk_cat1, xk_cati, xk_catl, xk_catd]) dJx4a65c_grow_92f84_37 ⟨(Nat.le_of_ble_eq_true rfl), (Nat.le_of_ble_eq_true rfl)⟩) ?_
  refine xk_dup_x1 hC dJx4a65c_grow_92f84_40 (xk_cat1 _) (xk_cat1 _) ?_
  obtain ⟨w4, h4, hf⟩ := xk_bi hf
  refine xk_put hC xi_5 xc_5 xo_5 xn_5 1 (by decide) xm_43 (Or.inl rfl) rfl (xk_nra _ _) (xk_fra _ _) dJx4a65c_grow_92f84_41 h4 ?_
  cases hf
  refine xk_widen (k := 1) (n := 64) (Nat.le_of_ble_eq_true rfl) (Nat.le_of_ble_eq_true rfl) ?_
  exact xk_aret hC hr (Or.inr ⟨_, rfl⟩) dJx4a65c_grow_92f84_44
def f_Jx4a65c_grow_92f84 (x0 : Option Nat) (x1 : Int32) (w : xWd) : Option (Option Nat × xWd) := (xk_gR w (x0) 5 1).bind (fun v1 => (xk_len w (v1)).bind (fun v2 => if ((0 : Int32)) < (v2) then f_Jx4a65c_grow_92f84_20 x0 x1 v2 w else (xk_gR w (x0) 5 1).bind (fun v4 => if (v4) = (some w.2.2.1) then (xk_nA w 2 xk_dR (if ((10 : Int32)) < (x1) then (x1) else ((10 : Int32))) 64).bind (fun w6 => (xk_pV w6 (x0) 5 1 (va_rf (some w.2.1))).bind (fun w7 => some (some w.2.1, w7))) else f_Jx4a65c_grow_92f84_20 x0 x1 v2 w)))
set_option maxHeartbeats 4000000 in
set_option maxRecDepth 100000 in
theorem t_Jx4a65c_grow_92f84_0 {p : Program} {l : Launch} {e : Env} {s : State} {m : MethodId} {args : Array Value} {below : List Frame} {meth : Method} {c : Code} {E : xEv} (hC : xk_C p s m args meth c E prog_25_method_6_code "java/util/ArrayList" 4) (hr : meth.sig.returnType = (some (.array (.object "java/lang/Object")))) {q : (Option Nat × xWd)} (x0 : Option Nat) (x1 : Int32) (w : xWd) (hf : f_Jx4a65c_grow_92f84 x0 x1 w = some q) : xk_X p l e { frames := 3, cells := 1, slots := 64, locals := 83 } s m args below meth c (MQ below (xk_Qq E q) args s 1 64 (xk_A E.2.2.1)) E 4 0 0 0 [(0, va_rf (x0)), (1, .int (x1))] [] w := by
  refine xk_aload_n hC dJx4a65c_grow_92f84_0 0 rfl rfl ?_
  obtain ⟨v1, h1, hf⟩ := xk_bi hf
  refine xk_getR hC xi_5 xc_5 1 (by decide) xm_43 (Or.inl rfl) dJx4a65c_grow_92f84_1 h1 ?_
  obtain ⟨v2, h2, hf⟩ := xk_bi hf
  refine xk_alen hC dJx4a65c_grow_92f84_4 h2 ?_
  refine xk_istore_n (i := 2) (lv' := [(2, .int (v2)), (0, va_rf (x0)), (1, .int (x1))]) hC dJx4a65c_grow_92f84_5 rfl (by decide) rfl ?_
  refine xk_iload_n hC dJx4a65c_grow_92f84_6 0 rfl rfl ?_
  refine xk_if_gt (tgt := 20) hC dJx4a65c_grow_92f84_7 (by decide) (fun c3 => ?_) (fun c3 => ?_)
  · replace hf := (if_pos c3).symm.trans hf
    refine xk_locals [1, 2, 0] rfl ?_
    exact t_Jx4a65c_grow_92f84_20 hC hr x0 x1 v2 w hf
  · replace hf := (if_neg c3).symm.trans hf
    refine xk_aload_n hC dJx4a65c_grow_92f84_10 1 rfl rfl ?_
    obtain ⟨v4, h4, hf⟩ := xk_bi hf
    refine xk_getR hC xi_5 xc_5 1 (by decide) xm_43 (Or.inl rfl) dJx4a65c_grow_92f84_11 h4 ?_
    refine xk_gets hC xm_41 dJx4a65c_grow_92f84_14 ?_
    refine xk_acmp_eq (tgt := 45) hC dJx4a65c_grow_92f84_17 (by decide) (fun c5 => ?_) (fun c5 => ?_)
    · replace hf := (if_pos c5).symm.trans hf
      refine xk_aload_n hC dJx4a65c_grow_92f84_45 1 rfl rfl ?_
      refine xk_bipush (v := (10 : Int32)) hC dJx4a65c_grow_92f84_46 (by decide) ?_
      refine xk_iload_n hC dJx4a65c_grow_92f84_48 2 rfl rfl ?_
      refine xk_mmax hC xm_280 xm_246 xm_13 xm_247 (Nat.le_of_ble_eq_true rfl) (by simp [xk_cat1, xk_cati, xk_catl, xk_catd]) (Nat.le_of_ble_eq_true rfl) (Nat.le_of_ble_eq_true rfl) dJx4a65c_grow_92f84_49 ?_
      obtain ⟨w6, h6, hf⟩ := xk_bi hf
      refine xk_anew (cap := 64) hC xm_281 (xk_over hC) rfl (Nat.le_of_ble_eq_true rfl) (Nat.le_of_ble_eq_true rfl) (Nat.le_of_ble_eq_true rfl) dJx4a65c_grow_92f84_52 h6 ?_
      refine xk_dup_x1 hC dJx4a65c_grow_92f84_55 (xk_cat1 _) (xk_cat1 _) ?_
      obtain ⟨w7, h7, hf⟩ := xk_bi hf
      refine xk_put hC xi_5 xc_5 xo_5 xn_5 1 (by decide) xm_43 (Or.inl rfl) rfl (xk_nra _ _) (xk_fra _ _) dJx4a65c_grow_92f84_56 h7 ?_
      cases hf
      refine xk_widen (k := 1) (n := 64) (Nat.le_of_ble_eq_true rfl) (Nat.le_of_ble_eq_true rfl) ?_
      exact xk_aret hC hr (Or.inr ⟨_, rfl⟩) dJx4a65c_grow_92f84_59
    · replace hf := (if_neg c5).symm.trans hf
      refine xk_locals [1, 2, 0] rfl ?_
      exact t_Jx4a65c_grow_92f84_20 hC hr x0 x1 v2 w hf
theorem xd_Jx4a65c_grow_92f84 : xy_Jx4a65c_grow_92f84.cls ≠ "java/lang/invoke/MethodHandle" ∧ xy_Jx4a65c_grow_92f84.cls ≠ "java/lang/invoke/VarHandle" ∧ (parseMethodDescriptor xy_Jx4a65c_grow_92f84.desc).map (fun d => d.parameters.length) = some 1 := ⟨by decide +kernel, by decide +kernel, by decide +kernel⟩
theorem c_Jx4a65c_grow_92f84 {l : Launch} {E : xEv} {x0 : Option Nat} {x1 : Int32} {w : xWd} {q : (Option Nat × xWd)} (hf : f_Jx4a65c_grow_92f84 x0 x1 w = some q) : xk_M l xy_Jx4a65c_grow_92f84 prog_25_method_6_code 4 (some (.array (.object "java/lang/Object"))) 3 83 1 64 E [va_rf (x0), .int (x1)] w (xk_Qq E q) := by
  refine xk_enter (by decide +kernel) (by simp [lg_sl, xk_cat1, xk_cati, xk_catl, xk_catd]) ?_
  intro p e s m args below meth c hC hr hin ha
  rw [show lv_args 0 [va_rf (x0), .int (x1)] = [(0, va_rf (x0)), (1, .int (x1))] by simp [lv_args, xk_cat1, xk_cati, xk_catl, xk_catd]]
  exact t_Jx4a65c_grow_92f84_0 hC hr x0 x1 w hf
def f_Jx4a65c_grow_d5877 (x0 : Option Nat) (w : xWd) : Option (Option Nat × xWd) := (xk_gI w (x0) 5 2).bind (fun v1 => (xk_is w (x0) 5).bind (fun u3 => (f_Jx4a65c_grow_92f84 (x0) ((v1) + ((1 : Int32))) w).bind (fun q2 => some (q2.1, q2.2))))
set_option maxHeartbeats 4000000 in
set_option maxRecDepth 100000 in
theorem t_Jx4a65c_grow_d5877_0 {p : Program} {l : Launch} {e : Env} {s : State} {m : MethodId} {args : Array Value} {below : List Frame} {meth : Method} {c : Code} {E : xEv} (hC : xk_C p s m args meth c E prog_25_method_7_code "java/util/ArrayList" 1) (hr : meth.sig.returnType = (some (.array (.object "java/lang/Object")))) {q : (Option Nat × xWd)} (x0 : Option Nat) (w : xWd) (hf : f_Jx4a65c_grow_d5877 x0 w = some q) : xk_X p l e { frames := 4, cells := 1, slots := 64, locals := 106 } s m args below meth c (MQ below (xk_Qq E q) args s 1 64 (xk_A E.2.2.1)) E 1 0 0 0 [(0, va_rf (x0))] [] w := by
  refine xk_aload_n hC dJx4a65c_grow_d5877_0 0 rfl rfl ?_
  refine xk_aload_n hC dJx4a65c_grow_d5877_1 0 rfl rfl ?_
  obtain ⟨v1, h1, hf⟩ := xk_bi hf
  refine xk_getI hC xi_5 xc_5 2 (by decide) xm_44 (Or.inl rfl) dJx4a65c_grow_d5877_2 h1 ?_
  refine xk_iconst (v := (1 : Int32)) hC dJx4a65c_grow_d5877_5 (by decide) ?_
  refine xk_iadd hC dJx4a65c_grow_d5877_6 ?_
  obtain ⟨u3, h3, hf⟩ := xk_bi hf
  obtain ⟨q2, h2, hf⟩ := xk_bi hf
  refine xk_backq (xk_callV hC 1 xc_5 (c_Jx4a65c_grow_92f84 h2) h3 xm_238 xm_240 xm_p3 xm_4 xm_241 ⟨rfl, xd_Jx4a65c_grow_92f84⟩ rfl ⟨Nat.le_of_ble_eq_true rfl, Nat.le_of_ble_eq_true rfl⟩ rfl (Nat.le_of_ble_eq_true rfl) dJx4a65c_grow_d5877_7 ⟨(Nat.le_of_ble_eq_true rfl), (Nat.le_of_ble_eq_true rfl)⟩) ?_
  cases hf
  refine xk_widen (k := 1) (n := 64) (Nat.le_of_ble_eq_true rfl) (Nat.le_of_ble_eq_true rfl) ?_
  exact xk_aret hC hr (Or.inr ⟨_, rfl⟩) dJx4a65c_grow_d5877_10
theorem xd_Jx4a65c_grow_d5877 : xy_Jx4a65c_grow_d5877.cls ≠ "java/lang/invoke/MethodHandle" ∧ xy_Jx4a65c_grow_d5877.cls ≠ "java/lang/invoke/VarHandle" ∧ (parseMethodDescriptor xy_Jx4a65c_grow_d5877.desc).map (fun d => d.parameters.length) = some 0 := ⟨by decide +kernel, by decide +kernel, by decide +kernel⟩
theorem c_Jx4a65c_grow_d5877 {l : Launch} {E : xEv} {x0 : Option Nat} {w : xWd} {q : (Option Nat × xWd)} (hf : f_Jx4a65c_grow_d5877 x0 w = some q) : xk_M l xy_Jx4a65c_grow_d5877 prog_25_method_7_code 1 (some (.array (.object "java/lang/Object"))) 4 106 1 64 E [va_rf (x0)] w (xk_Qq E q) := by
  refine xk_enter (by decide +kernel) (by simp [lg_sl, xk_cat1, xk_cati, xk_catl, xk_catd]) ?_
  intro p e s m args below meth c hC hr hin ha
  rw [show lv_args 0 [va_rf (x0)] = [(0, va_rf (x0))] by simp [lv_args, xk_cat1, xk_cati, xk_catl, xk_catd]]
  exact t_Jx4a65c_grow_d5877_0 hC hr x0 w hf
def f_Jx4a65c_add_72be8_11 (x0 : Option Nat) (x1 : Option Nat) (x2 : Option Nat) (x3 : Int32) (w : xWd) : Option xWd := (xk_any w (x1)).bind (fun u2 => (xk_sR 2 w (x2) (x3) (x1)).bind (fun w1 => (xk_pV w1 (x0) 5 2 (.int ((x3) + ((1 : Int32))))).bind (fun w3 => some w3)))
set_option maxHeartbeats 4000000 in
set_option maxRecDepth 100000 in
theorem t_Jx4a65c_add_72be8_11 {p : Program} {l : Launch} {e : Env} {s : State} {m : MethodId} {args : Array Value} {below : List Frame} {meth : Method} {c : Code} {E : xEv} (hC : xk_C p s m args meth c E prog_25_method_24_code "java/util/ArrayList" 4) (hr : meth.sig.returnType = none) {q : xWd} (x0 : Option Nat) (x1 : Option Nat) (x2 : Option Nat) (x3 : Int32) (w : xWd) (hf : f_Jx4a65c_add_72be8_11 x0 x1 x2 x3 w = some q) : xk_X p l e { frames := 5, cells := 1, slots := 64, locals := 126 } s m args below meth c (MQ below (xk_Qv E q) args s 1 64 (xk_A E.2.2.1)) E 4 1 64 11 [(0, va_rf (x0)), (1, va_rf (x1)), (2, va_rf (x2)), (3, .int (x3))] [] w := by
  refine xk_aload_n hC dJx4a65c_add_72be8_11 2 rfl rfl ?_
  refine xk_iload_n hC dJx4a65c_add_72be8_12 3 rfl rfl ?_
  refine xk_aload_n hC dJx4a65c_add_72be8_13 1 rfl rfl ?_
  obtain ⟨u2, h2, hf⟩ := xk_bi hf
  obtain ⟨w1, h1, hf⟩ := xk_bi hf
  refine xk_aast hC rfl (xk_cas hC) dJx4a65c_add_72be8_14 h1 (xk_any_e h2) ?_
  refine xk_aload_n hC dJx4a65c_add_72be8_15 0 rfl rfl ?_
  refine xk_iload_n hC dJx4a65c_add_72be8_16 3 rfl rfl ?_
  refine xk_iconst (v := (1 : Int32)) hC dJx4a65c_add_72be8_17 (by decide) ?_
  refine xk_iadd hC dJx4a65c_add_72be8_18 ?_
  obtain ⟨w3, h3, hf⟩ := xk_bi hf
  refine xk_put hC xi_5 xc_5 xo_5 xn_5 2 (by decide) xm_44 (Or.inl rfl) rfl rfl rfl dJx4a65c_add_72be8_19 h3 ?_
  cases hf
  refine xk_widen (k := 1) (n := 64) (Nat.le_of_ble_eq_true rfl) (Nat.le_of_ble_eq_true rfl) ?_
  exact xk_vret hC hr dJx4a65c_add_72be8_22
def f_Jx4a65c_add_72be8 (x0 : Option Nat) (x1 : Option Nat) (x2 : Option Nat) (x3 : Int32) (w : xWd) : Option xWd := (xk_len w (x2)).bind (fun v1 => if (x3) = (v1) then (xk_is w (x0) 5).bind (fun u4 => (f_Jx4a65c_grow_d5877 (x0)  w).bind (fun q3 => f_Jx4a65c_add_72be8_11 x0 x1 (q3.1) x3 (q3.2))) else f_Jx4a65c_add_72be8_11 x0 x1 x2 x3 w)
set_option maxHeartbeats 4000000 in
set_option maxRecDepth 100000 in
theorem t_Jx4a65c_add_72be8_0 {p : Program} {l : Launch} {e : Env} {s : State} {m : MethodId} {args : Array Value} {below : List Frame} {meth : Method} {c : Code} {E : xEv} (hC : xk_C p s m args meth c E prog_25_method_24_code "java/util/ArrayList" 4) (hr : meth.sig.returnType = none) {q : xWd} (x0 : Option Nat) (x1 : Option Nat) (x2 : Option Nat) (x3 : Int32) (w : xWd) (hf : f_Jx4a65c_add_72be8 x0 x1 x2 x3 w = some q) : xk_X p l e { frames := 5, cells := 1, slots := 64, locals := 126 } s m args below meth c (MQ below (xk_Qv E q) args s 1 64 (xk_A E.2.2.1)) E 4 0 0 0 [(0, va_rf (x0)), (1, va_rf (x1)), (2, va_rf (x2)), (3, .int (x3))] [] w := by
  refine xk_iload_n hC dJx4a65c_add_72be8_0 3 rfl rfl ?_
  refine xk_aload_n hC dJx4a65c_add_72be8_1 2 rfl rfl ?_
  obtain ⟨v1, h1, hf⟩ := xk_bi hf
  refine xk_alen hC dJx4a65c_add_72be8_2 h1 ?_
  refine xk_icmp_ne (tgt := 11) hC dJx4a65c_add_72be8_3 (by decide) (fun c2 => ?_) (fun c2 => ?_)
  · replace hf := (if_neg c2).symm.trans hf
    refine xk_widen (k := 1) (n := 64) (Nat.le_of_ble_eq_true rfl) (Nat.le_of_ble_eq_true rfl) ?_
    exact t_Jx4a65c_add_72be8_11 hC hr x0 x1 x2 x3 w hf
  · replace hf := (if_pos c2).symm.trans hf
    refine xk_aload_n hC dJx4a65c_add_72be8_6 0 rfl rfl ?_
    obtain ⟨u4, h4, hf⟩ := xk_bi hf
    obtain ⟨q3, h3, hf⟩ := xk_bi hf
    refine xk_backq (xk_callV hC 0 xc_5 (c_Jx4a65c_grow_d5877 h3) h4 xm_234 xm_236 xm_p2 xm_4 xm_237 ⟨rfl, xd_Jx4a65c_grow_d5877⟩ rfl ⟨Nat.le_of_ble_eq_true rfl, Nat.le_of_ble_eq_true rfl⟩ rfl (Nat.le_of_ble_eq_true rfl) dJx4a65c_add_72be8_7 ⟨(Nat.le_of_ble_eq_true rfl), (Nat.le_of_ble_eq_true rfl)⟩) ?_
    refine xk_astore_n (i := 2) (lv' := [(2, va_rf (q3.1)), (0, va_rf (x0)), (1, va_rf (x1)), (3, .int (x3))]) hC dJx4a65c_add_72be8_10 rfl (by decide) (by simp [xk_cat1]) ?_
    refine xk_locals [1, 2, 0, 3] rfl ?_
    exact t_Jx4a65c_add_72be8_11 hC hr x0 x1 (q3.1) x3 (q3.2) hf
theorem xd_Jx4a65c_add_72be8 : xy_Jx4a65c_add_72be8.cls ≠ "java/lang/invoke/MethodHandle" ∧ xy_Jx4a65c_add_72be8.cls ≠ "java/lang/invoke/VarHandle" ∧ (parseMethodDescriptor xy_Jx4a65c_add_72be8.desc).map (fun d => d.parameters.length) = some 3 := ⟨by decide +kernel, by decide +kernel, by decide +kernel⟩
theorem c_Jx4a65c_add_72be8 {l : Launch} {E : xEv} {x0 : Option Nat} {x1 : Option Nat} {x2 : Option Nat} {x3 : Int32} {w : xWd} {q : xWd} (hf : f_Jx4a65c_add_72be8 x0 x1 x2 x3 w = some q) : xk_M l xy_Jx4a65c_add_72be8 prog_25_method_24_code 4 none 5 126 1 64 E [va_rf (x0), va_rf (x1), va_rf (x2), .int (x3)] w (xk_Qv E q) := by
  refine xk_enter (by decide +kernel) (by simp [lg_sl, xk_cat1, xk_cati, xk_catl, xk_catd]) ?_
  intro p e s m args below meth c hC hr hin ha
  rw [show lv_args 0 [va_rf (x0), va_rf (x1), va_rf (x2), .int (x3)] = [(0, va_rf (x0)), (1, va_rf (x1)), (2, va_rf (x2)), (3, .int (x3))] by simp [lv_args, xk_cat1, xk_cati, xk_catl, xk_catd]]
  exact t_Jx4a65c_add_72be8_0 hC hr x0 x1 x2 x3 w hf
def f_Jx4a65c_add_9ea2d (x0 : Option Nat) (x1 : Option Nat) (w : xWd) : Option (Int32 × xWd) := (xk_gI w (x0) 5 0).bind (fun v1 => (xk_pV w (x0) 5 0 (.int ((v1) + ((1 : Int32))))).bind (fun w2 => (xk_gR w2 (x0) 5 1).bind (fun v3 => (xk_gI w2 (x0) 5 2).bind (fun v4 => (xk_is w2 (x0) 5).bind (fun u6 => (f_Jx4a65c_add_72be8 (x0) (x1) (v3) (v4) w2).bind (fun q5 => some ((1 : Int32), q5)))))))
set_option maxHeartbeats 4000000 in
set_option maxRecDepth 100000 in
theorem t_Jx4a65c_add_9ea2d_0 {p : Program} {l : Launch} {e : Env} {s : State} {m : MethodId} {args : Array Value} {below : List Frame} {meth : Method} {c : Code} {E : xEv} (hC : xk_C p s m args meth c E prog_25_method_25_code "java/util/ArrayList" 2) (hr : meth.sig.returnType = (some .boolean)) {q : (Int32 × xWd)} (x0 : Option Nat) (x1 : Option Nat) (w : xWd) (hf : f_Jx4a65c_add_9ea2d x0 x1 w = some q) : xk_X p l e { frames := 6, cells := 1, slots := 64, locals := 149 } s m args below meth c (MQ below (xk_Qi E q) args s 1 64 (xk_A E.2.2.1)) E 2 0 0 0 [(0, va_rf (x0)), (1, va_rf (x1))] [] w := by
  refine xk_aload_n hC dJx4a65c_add_9ea2d_0 0 rfl rfl ?_
  refine xk_dup hC dJx4a65c_add_9ea2d_1 (xk_cat1 _) ?_
  obtain ⟨v1, h1, hf⟩ := xk_bi hf
  refine xk_getI hC xi_5 xc_5 0 (by decide) xm_46 (Or.inr xm_47) dJx4a65c_add_9ea2d_2 h1 ?_
  refine xk_iconst (v := (1 : Int32)) hC dJx4a65c_add_9ea2d_5 (by decide) ?_
  refine xk_iadd hC dJx4a65c_add_9ea2d_6 ?_
  obtain ⟨w2, h2, hf⟩ := xk_bi hf
  refine xk_put hC xi_5 xc_5 xo_5 xn_5 0 (by decide) xm_46 (Or.inr xm_47) rfl rfl rfl dJx4a65c_add_9ea2d_7 h2 ?_
  refine xk_aload_n hC dJx4a65c_add_9ea2d_10 0 rfl rfl ?_
  refine xk_aload_n hC dJx4a65c_add_9ea2d_11 1 rfl rfl ?_
  refine xk_aload_n hC dJx4a65c_add_9ea2d_12 0 rfl rfl ?_
  obtain ⟨v3, h3, hf⟩ := xk_bi hf
  refine xk_getR hC xi_5 xc_5 1 (by decide) xm_43 (Or.inl rfl) dJx4a65c_add_9ea2d_13 h3 ?_
  refine xk_aload_n hC dJx4a65c_add_9ea2d_16 0 rfl rfl ?_
  obtain ⟨v4, h4, hf⟩ := xk_bi hf
  refine xk_getI hC xi_5 xc_5 2 (by decide) xm_44 (Or.inl rfl) dJx4a65c_add_9ea2d_17 h4 ?_
  obtain ⟨u6, h6, hf⟩ := xk_bi hf
  obtain ⟨q5, h5, hf⟩ := xk_bi hf
  refine xk_backv (xk_callV hC 3 xc_5 (c_Jx4a65c_add_72be8 h5) h6 xm_230 xm_232 xm_p1 xm_4 xm_233 ⟨rfl, xd_Jx4a65c_add_72be8⟩ rfl ⟨Nat.le_of_ble_eq_true rfl, Nat.le_of_ble_eq_true rfl⟩ rfl (Nat.le_of_ble_eq_true rfl) dJx4a65c_add_9ea2d_20 ⟨(Nat.le_of_ble_eq_true rfl), (Nat.le_of_ble_eq_true rfl)⟩) ?_
  refine xk_iconst (v := (1 : Int32)) hC dJx4a65c_add_9ea2d_23 (by decide) ?_
  cases hf
  refine xk_widen (k := 1) (n := 64) (Nat.le_of_ble_eq_true rfl) (Nat.le_of_ble_eq_true rfl) ?_
  exact xk_iret hC hr rfl dJx4a65c_add_9ea2d_24
theorem xd_Jx4a65c_add_9ea2d : xy_Jx4a65c_add_9ea2d.cls ≠ "java/lang/invoke/MethodHandle" ∧ xy_Jx4a65c_add_9ea2d.cls ≠ "java/lang/invoke/VarHandle" ∧ (parseMethodDescriptor xy_Jx4a65c_add_9ea2d.desc).map (fun d => d.parameters.length) = some 1 := ⟨by decide +kernel, by decide +kernel, by decide +kernel⟩
theorem c_Jx4a65c_add_9ea2d {l : Launch} {E : xEv} {x0 : Option Nat} {x1 : Option Nat} {w : xWd} {q : (Int32 × xWd)} (hf : f_Jx4a65c_add_9ea2d x0 x1 w = some q) : xk_M l xy_Jx4a65c_add_9ea2d prog_25_method_25_code 2 (some .boolean) 6 149 1 64 E [va_rf (x0), va_rf (x1)] w (xk_Qi E q) := by
  refine xk_enter (by decide +kernel) (by simp [lg_sl, xk_cat1, xk_cati, xk_catl, xk_catd]) ?_
  intro p e s m args below meth c hC hr hin ha
  rw [show lv_args 0 [va_rf (x0), va_rf (x1)] = [(0, va_rf (x0)), (1, va_rf (x1))] by simp [lv_args, xk_cat1, xk_cati, xk_catl, xk_catd]]
  exact t_Jx4a65c_add_9ea2d_0 hC hr x0 x1 w hf
def f_X3_noteOf_7 : Nat → Int32 → Int32 → Int32 → xWd → Option (Int32 × xWd)
  | 0, _, _, _, _ => none
  | n + 1, x1, x2, x3, w => if (x1) ≤ (x3) then (xk_nz ((10 : Int32))).bind (fun u2 => some ((x2) - (x2) / ((10 : Int32)) * ((10 : Int32)), w)) else (xk_nz ((10 : Int32))).bind (fun u3 => f_X3_noteOf_7 n x1 ((x2) / ((10 : Int32))) (x3 + (1 : Int32)) w)
set_option maxHeartbeats 4000000 in
set_option maxRecDepth 100000 in
theorem t_X3_noteOf_7 {p : Program} {l : Launch} {e : Env} {s : State} {m : MethodId} {args : Array Value} {below : List Frame} {meth : Method} {c : Code} {E : xEv} (hC : xk_C p s m args meth c E prog_5_method_3_code "Clickbook$Take" 4) (hr : meth.sig.returnType = (some .int)) {q : (Int32 × xWd)} : ∀ (n : Nat) (x1 : Int32) (x2 : Int32) (x3 : Int32) (w : xWd), f_X3_noteOf_7 n x1 x2 x3 w = some q → xk_X p l e { frames := 0, cells := 0, slots := 0, locals := 0 } s m args below meth c (MQ below (xk_Qi E q) args s 0 0 (xk_A E.2.2.1)) E 4 0 0 7 [(1, .int (x1)), (2, .int (x2)), (3, .int (x3))] [] w := by
  intro n
  induction n with
  | zero => intro x1 x2 x3 w hf; have hf : none = some q := hf; cases hf
  | succ n ih =>
    intro x1 x2 x3 w hf
    refine xk_iload_n hC dX3_noteOf_7 2 rfl rfl ?_
    refine xk_iload_n hC dX3_noteOf_8 0 rfl rfl ?_
    refine xk_icmp_ge (tgt := 23) hC dX3_noteOf_9 (by decide) (fun c1 => ?_) (fun c1 => ?_)
    · replace hf := (if_pos c1).symm.trans hf
      refine xk_iload_n hC dX3_noteOf_23 1 rfl rfl ?_
      refine xk_bipush (v := (10 : Int32)) hC dX3_noteOf_24 (by decide) ?_
      obtain ⟨u2, h2, hf⟩ := xk_bi hf
      refine xk_irem hC dX3_noteOf_26 (xk_nz_e h2) ?_
      cases hf
      refine xk_widen (k := 0) (n := 0) (Nat.le_of_ble_eq_true rfl) (Nat.le_of_ble_eq_true rfl) ?_
      exact xk_iret hC hr rfl dX3_noteOf_27
    · replace hf := (if_neg c1).symm.trans hf
      refine xk_iload_n hC dX3_noteOf_12 1 rfl rfl ?_
      refine xk_bipush (v := (10 : Int32)) hC dX3_noteOf_13 (by decide) ?_
      obtain ⟨u3, h3, hf⟩ := xk_bi hf
      refine xk_idiv hC dX3_noteOf_15 (xk_nz_e h3) ?_
      refine xk_istore_n (i := 2) (lv' := [(2, .int ((x2) / ((10 : Int32)))), (1, .int (x1)), (3, .int (x3))]) hC dX3_noteOf_16 rfl (by decide) rfl ?_
      refine xk_iinc (v := x3 + (1 : Int32)) (lv' := [(3, .int (x3 + (1 : Int32))), (2, .int ((x2) / ((10 : Int32)))), (1, .int (x1))]) hC dX3_noteOf_17 2 rfl rfl (by decide) rfl ?_
      refine xk_goto (tgt := 7) hC dX3_noteOf_20 (by decide) ?_
      refine xk_locals [2, 1, 0] rfl ?_
      exact ih x1 ((x2) / ((10 : Int32))) (x3 + (1 : Int32)) w hf
def f_X3_noteOf (x0 : Option Nat) (x1 : Int32) (w : xWd) : Option (Int32 × xWd) := (xk_gI w (x0) 4 3).bind (fun v1 => f_X3_noteOf_7 4096 x1 v1 ((0 : Int32)) w)
set_option maxHeartbeats 4000000 in
set_option maxRecDepth 100000 in
theorem t_X3_noteOf_0 {p : Program} {l : Launch} {e : Env} {s : State} {m : MethodId} {args : Array Value} {below : List Frame} {meth : Method} {c : Code} {E : xEv} (hC : xk_C p s m args meth c E prog_5_method_3_code "Clickbook$Take" 4) (hr : meth.sig.returnType = (some .int)) {q : (Int32 × xWd)} (x0 : Option Nat) (x1 : Int32) (w : xWd) (hf : f_X3_noteOf x0 x1 w = some q) : xk_X p l e { frames := 0, cells := 0, slots := 0, locals := 0 } s m args below meth c (MQ below (xk_Qi E q) args s 0 0 (xk_A E.2.2.1)) E 4 0 0 0 [(0, va_rf (x0)), (1, .int (x1))] [] w := by
  refine xk_aload_n hC dX3_noteOf_0 0 rfl rfl ?_
  obtain ⟨v1, h1, hf⟩ := xk_bi hf
  refine xk_getI hC xi_4 xc_4 3 (by decide) xm_482 (Or.inl rfl) dX3_noteOf_1 h1 ?_
  refine xk_istore_n (i := 2) (lv' := [(2, .int (v1)), (0, va_rf (x0)), (1, .int (x1))]) hC dX3_noteOf_4 rfl (by decide) rfl ?_
  refine xk_iconst (v := (0 : Int32)) hC dX3_noteOf_5 (by decide) ?_
  refine xk_istore_n (i := 3) (lv' := [(3, .int ((0 : Int32))), (2, .int (v1)), (0, va_rf (x0)), (1, .int (x1))]) hC dX3_noteOf_6 rfl (by decide) rfl ?_
  refine xk_locals [3, 1, 0] rfl ?_
  exact t_X3_noteOf_7 hC hr 4096 x1 v1 ((0 : Int32)) w hf
theorem xd_X3_noteOf : xy_X3_noteOf.cls ≠ "java/lang/invoke/MethodHandle" ∧ xy_X3_noteOf.cls ≠ "java/lang/invoke/VarHandle" ∧ (parseMethodDescriptor xy_X3_noteOf.desc).map (fun d => d.parameters.length) = some 1 := ⟨by decide +kernel, by decide +kernel, by decide +kernel⟩
theorem c_X3_noteOf {l : Launch} {E : xEv} {x0 : Option Nat} {x1 : Int32} {w : xWd} {q : (Int32 × xWd)} (hf : f_X3_noteOf x0 x1 w = some q) : xk_M l xy_X3_noteOf prog_5_method_3_code 4 (some .int) 0 0 0 0 E [va_rf (x0), .int (x1)] w (xk_Qi E q) := by
  refine xk_enter (by decide +kernel) (by simp [lg_sl, xk_cat1, xk_cati, xk_catl, xk_catd]) ?_
  intro p e s m args below meth c hC hr hin ha
  rw [show lv_args 0 [va_rf (x0), .int (x1)] = [(0, va_rf (x0)), (1, .int (x1))] by simp [lv_args, xk_cat1, xk_cati, xk_catl, xk_catd]]
  exact t_X3_noteOf_0 hC hr x0 x1 w hf
def f_X2_slotOf_40 (s0 : Int32) (w : xWd) : Option (Int32 × xWd) := some (s0, w)
set_option maxHeartbeats 4000000 in
set_option maxRecDepth 100000 in
theorem t_X2_slotOf_40 {p : Program} {l : Launch} {e : Env} {s : State} {m : MethodId} {args : Array Value} {below : List Frame} {meth : Method} {c : Code} {E : xEv} (hC : xk_C p s m args meth c E prog_4_method_9_code "Clickbook$JoinTable" 3) (hr : meth.sig.returnType = (some .int)) {q : (Int32 × xWd)} (s0 : Int32) (w : xWd) (hf : f_X2_slotOf_40 s0 w = some q) : xk_X p l e { frames := 0, cells := 0, slots := 0, locals := 0 } s m args below meth c (MQ below (xk_Qi E q) args s 0 0 (xk_A E.2.2.1)) E 3 0 0 40 [] [.int (s0)] w := by
  cases hf
  refine xk_widen (k := 0) (n := 0) (Nat.le_of_ble_eq_true rfl) (Nat.le_of_ble_eq_true rfl) ?_
  exact xk_iret hC hr rfl dX2_slotOf_40
def f_X2_slotOf_25 (x0 : Int32) (x1 : Int32) (s0 : Int32) (w : xWd) : Option (Int32 × xWd) := if (s0) = ((0 : Int32)) then f_X2_slotOf_40 ((-1 : Int32)) w else f_X2_slotOf_40 (((x0) * ((40 : Int32))) + (x1)) w
set_option maxHeartbeats 4000000 in
set_option maxRecDepth 100000 in
theorem t_X2_slotOf_25 {p : Program} {l : Launch} {e : Env} {s : State} {m : MethodId} {args : Array Value} {below : List Frame} {meth : Method} {c : Code} {E : xEv} (hC : xk_C p s m args meth c E prog_4_method_9_code "Clickbook$JoinTable" 3) (hr : meth.sig.returnType = (some .int)) {q : (Int32 × xWd)} (x0 : Int32) (x1 : Int32) (s0 : Int32) (w : xWd) (hf : f_X2_slotOf_25 x0 x1 s0 w = some q) : xk_X p l e { frames := 0, cells := 0, slots := 0, locals := 0 } s m args below meth c (MQ below (xk_Qi E q) args s 0 0 (xk_A E.2.2.1)) E 3 0 0 25 [(0, .int (x0)), (1, .int (x1))] [.int (s0)] w := by
  refine xk_istore_n (i := 2) (lv' := [(2, .int (s0)), (0, .int (x0)), (1, .int (x1))]) hC dX2_slotOf_25 rfl (by decide) rfl ?_
  refine xk_iload_n hC dX2_slotOf_26 0 rfl rfl ?_
  refine xk_if_eq (tgt := 39) hC dX2_slotOf_27 (by decide) (fun c1 => ?_) (fun c1 => ?_)
  · replace hf := (if_pos c1).symm.trans hf
    refine xk_iconst (v := (-1 : Int32)) hC dX2_slotOf_39 (by decide) ?_
    refine xk_locals [] rfl ?_
    exact t_X2_slotOf_40 hC hr ((-1 : Int32)) w hf
  · replace hf := (if_neg c1).symm.trans hf
    refine xk_iload_n hC dX2_slotOf_30 1 rfl rfl ?_
    refine xk_bipush (v := (40 : Int32)) hC dX2_slotOf_31 (by decide) ?_
    refine xk_imul hC dX2_slotOf_33 ?_
    refine xk_iload_n hC dX2_slotOf_34 2 rfl rfl ?_
    refine xk_iadd hC dX2_slotOf_35 ?_
    refine xk_goto (tgt := 40) hC dX2_slotOf_36 (by decide) ?_
    refine xk_locals [] rfl ?_
    exact t_X2_slotOf_40 hC hr (((x0) * ((40 : Int32))) + (x1)) w hf
def f_X2_slotOf_24 (x0 : Int32) (x1 : Int32) (w : xWd) : Option (Int32 × xWd) := f_X2_slotOf_25 x0 x1 ((0 : Int32)) w
set_option maxHeartbeats 4000000 in
set_option maxRecDepth 100000 in
theorem t_X2_slotOf_24 {p : Program} {l : Launch} {e : Env} {s : State} {m : MethodId} {args : Array Value} {below : List Frame} {meth : Method} {c : Code} {E : xEv} (hC : xk_C p s m args meth c E prog_4_method_9_code "Clickbook$JoinTable" 3) (hr : meth.sig.returnType = (some .int)) {q : (Int32 × xWd)} (x0 : Int32) (x1 : Int32) (w : xWd) (hf : f_X2_slotOf_24 x0 x1 w = some q) : xk_X p l e { frames := 0, cells := 0, slots := 0, locals := 0 } s m args below meth c (MQ below (xk_Qi E q) args s 0 0 (xk_A E.2.2.1)) E 3 0 0 24 [(0, .int (x0)), (1, .int (x1))] [] w := by
  refine xk_iconst (v := (0 : Int32)) hC dX2_slotOf_24 (by decide) ?_
  exact t_X2_slotOf_25 hC hr x0 x1 ((0 : Int32)) w hf
def f_X2_slotOf (x0 : Int32) (x1 : Int32) (w : xWd) : Option (Int32 × xWd) := if (x0) < ((0 : Int32)) then f_X2_slotOf_24 x0 x1 w else if ((9 : Int32)) ≤ (x0) then f_X2_slotOf_24 x0 x1 w else if (x1) < ((0 : Int32)) then f_X2_slotOf_24 x0 x1 w else if ((40 : Int32)) ≤ (x1) then f_X2_slotOf_24 x0 x1 w else f_X2_slotOf_25 x0 x1 ((1 : Int32)) w
set_option maxHeartbeats 4000000 in
set_option maxRecDepth 100000 in
theorem t_X2_slotOf_0 {p : Program} {l : Launch} {e : Env} {s : State} {m : MethodId} {args : Array Value} {below : List Frame} {meth : Method} {c : Code} {E : xEv} (hC : xk_C p s m args meth c E prog_4_method_9_code "Clickbook$JoinTable" 3) (hr : meth.sig.returnType = (some .int)) {q : (Int32 × xWd)} (x0 : Int32) (x1 : Int32) (w : xWd) (hf : f_X2_slotOf x0 x1 w = some q) : xk_X p l e { frames := 0, cells := 0, slots := 0, locals := 0 } s m args below meth c (MQ below (xk_Qi E q) args s 0 0 (xk_A E.2.2.1)) E 3 0 0 0 [(0, .int (x0)), (1, .int (x1))] [] w := by
  refine xk_iload_n hC dX2_slotOf_0 0 rfl rfl ?_
  refine xk_if_lt (tgt := 24) hC dX2_slotOf_1 (by decide) (fun c1 => ?_) (fun c1 => ?_)
  · replace hf := (if_pos c1).symm.trans hf
    exact t_X2_slotOf_24 hC hr x0 x1 w hf
  · replace hf := (if_neg c1).symm.trans hf
    refine xk_iload_n hC dX2_slotOf_4 0 rfl rfl ?_
    refine xk_bipush (v := (9 : Int32)) hC dX2_slotOf_5 (by decide) ?_
    refine xk_icmp_ge (tgt := 24) hC dX2_slotOf_7 (by decide) (fun c2 => ?_) (fun c2 => ?_)
    · replace hf := (if_pos c2).symm.trans hf
      exact t_X2_slotOf_24 hC hr x0 x1 w hf
    · replace hf := (if_neg c2).symm.trans hf
      refine xk_iload_n hC dX2_slotOf_10 1 rfl rfl ?_
      refine xk_if_lt (tgt := 24) hC dX2_slotOf_11 (by decide) (fun c3 => ?_) (fun c3 => ?_)
      · replace hf := (if_pos c3).symm.trans hf
        exact t_X2_slotOf_24 hC hr x0 x1 w hf
      · replace hf := (if_neg c3).symm.trans hf
        refine xk_iload_n hC dX2_slotOf_14 1 rfl rfl ?_
        refine xk_bipush (v := (40 : Int32)) hC dX2_slotOf_15 (by decide) ?_
        refine xk_icmp_ge (tgt := 24) hC dX2_slotOf_17 (by decide) (fun c4 => ?_) (fun c4 => ?_)
        · replace hf := (if_pos c4).symm.trans hf
          exact t_X2_slotOf_24 hC hr x0 x1 w hf
        · replace hf := (if_neg c4).symm.trans hf
          refine xk_iconst (v := (1 : Int32)) hC dX2_slotOf_20 (by decide) ?_
          refine xk_goto (tgt := 25) hC dX2_slotOf_21 (by decide) ?_
          exact t_X2_slotOf_25 hC hr x0 x1 ((1 : Int32)) w hf
theorem xd_X2_slotOf : xy_X2_slotOf.cls ≠ "java/lang/invoke/MethodHandle" ∧ xy_X2_slotOf.cls ≠ "java/lang/invoke/VarHandle" ∧ (parseMethodDescriptor xy_X2_slotOf.desc).map (fun d => d.parameters.length) = some 2 := ⟨by decide +kernel, by decide +kernel, by decide +kernel⟩
theorem c_X2_slotOf {l : Launch} {E : xEv} {x0 : Int32} {x1 : Int32} {w : xWd} {q : (Int32 × xWd)} (hf : f_X2_slotOf x0 x1 w = some q) : xk_M l xy_X2_slotOf prog_4_method_9_code 3 (some .int) 0 0 0 0 E [.int (x0), .int (x1)] w (xk_Qi E q) := by
  refine xk_enter (by decide +kernel) (by simp [lg_sl, xk_cat1, xk_cati, xk_catl, xk_catd]) ?_
  intro p e s m args below meth c hC hr hin ha
  rw [show lv_args 0 [.int (x0), .int (x1)] = [(0, .int (x0)), (1, .int (x1))] by simp [lv_args, xk_cat1, xk_cati, xk_catl, xk_catd]]
  exact t_X2_slotOf_0 hC hr x0 x1 w hf
def f_X2_worthFrom_21 (s0 : Int32) (w : xWd) : Option (Int32 × xWd) := some (s0, w)
set_option maxHeartbeats 4000000 in
set_option maxRecDepth 100000 in
theorem t_X2_worthFrom_21 {p : Program} {l : Launch} {e : Env} {s : State} {m : MethodId} {args : Array Value} {below : List Frame} {meth : Method} {c : Code} {E : xEv} (hC : xk_C p s m args meth c E prog_4_method_8_code "Clickbook$JoinTable" 4) (hr : meth.sig.returnType = (some .int)) {q : (Int32 × xWd)} (s0 : Int32) (w : xWd) (hf : f_X2_worthFrom_21 s0 w = some q) : xk_X p l e { frames := 1, cells := 0, slots := 0, locals := 22 } s m args below meth c (MQ below (xk_Qi E q) args s 0 0 (xk_A E.2.2.1)) E 4 0 0 21 [] [.int (s0)] w := by
  cases hf
  refine xk_widen (k := 0) (n := 0) (Nat.le_of_ble_eq_true rfl) (Nat.le_of_ble_eq_true rfl) ?_
  exact xk_iret hC hr rfl dX2_worthFrom_21
def f_X2_worthFrom (x0 : Option Nat) (x1 : Int32) (x2 : Int32) (w : xWd) : Option (Int32 × xWd) := (f_X2_slotOf (x1) (x2) w).bind (fun q1 => if (q1.1) = ((-1 : Int32)) then f_X2_worthFrom_21 ((0 : Int32)) (q1.2) else (xk_gR q1.2 (x0) 3 2).bind (fun v3 => (xk_lI 0 q1.2 (v3) (q1.1)).bind (fun v4 => f_X2_worthFrom_21 v4 (q1.2))))
set_option maxHeartbeats 4000000 in
set_option maxRecDepth 100000 in
theorem t_X2_worthFrom_0 {p : Program} {l : Launch} {e : Env} {s : State} {m : MethodId} {args : Array Value} {below : List Frame} {meth : Method} {c : Code} {E : xEv} (hC : xk_C p s m args meth c E prog_4_method_8_code "Clickbook$JoinTable" 4) (hr : meth.sig.returnType = (some .int)) {q : (Int32 × xWd)} (x0 : Option Nat) (x1 : Int32) (x2 : Int32) (w : xWd) (hf : f_X2_worthFrom x0 x1 x2 w = some q) : xk_X p l e { frames := 1, cells := 0, slots := 0, locals := 22 } s m args below meth c (MQ below (xk_Qi E q) args s 0 0 (xk_A E.2.2.1)) E 4 0 0 0 [(0, va_rf (x0)), (1, .int (x1)), (2, .int (x2))] [] w := by
  refine xk_iload_n hC dX2_worthFrom_0 1 rfl rfl ?_
  refine xk_iload_n hC dX2_worthFrom_1 2 rfl rfl ?_
  obtain ⟨q1, h1, hf⟩ := xk_bi hf
  refine xk_backi (xk_callS hC 2 (c_X2_slotOf h1) xm_612 xm_613 xm_5 xm_614 xd_X2_slotOf rfl ⟨Nat.le_of_ble_eq_true rfl, Nat.le_of_ble_eq_true rfl⟩ rfl (Nat.le_of_ble_eq_true rfl) dX2_worthFrom_2 ⟨(Nat.le_of_ble_eq_true rfl), (Nat.le_of_ble_eq_true rfl)⟩) ?_
  refine xk_istore_n (i := 3) (lv' := [(3, .int (q1.1)), (0, va_rf (x0)), (1, .int (x1)), (2, .int (x2))]) hC dX2_worthFrom_5 rfl (by decide) rfl ?_
  refine xk_iload_n hC dX2_worthFrom_6 0 rfl rfl ?_
  refine xk_iconst (v := (-1 : Int32)) hC dX2_worthFrom_7 (by decide) ?_
  refine xk_icmp_ne (tgt := 15) hC dX2_worthFrom_8 (by decide) (fun c2 => ?_) (fun c2 => ?_)
  · replace hf := (if_neg c2).symm.trans hf
    refine xk_aload_n hC dX2_worthFrom_15 1 rfl rfl ?_
    obtain ⟨v3, h3, hf⟩ := xk_bi hf
    refine xk_getR hC xi_3 xc_3 2 (by decide) xm_65 (Or.inl rfl) dX2_worthFrom_16 h3 ?_
    refine xk_iload_n hC dX2_worthFrom_19 0 rfl rfl ?_
    obtain ⟨v4, h4, hf⟩ := xk_bi hf
    refine xk_iald hC rfl dX2_worthFrom_20 h4 ?_
    refine xk_locals [] rfl ?_
    exact t_X2_worthFrom_21 hC hr v4 (q1.2) hf
  · replace hf := (if_pos c2).symm.trans hf
    refine xk_iconst (v := (0 : Int32)) hC dX2_worthFrom_11 (by decide) ?_
    refine xk_goto (tgt := 21) hC dX2_worthFrom_12 (by decide) ?_
    refine xk_locals [] rfl ?_
    exact t_X2_worthFrom_21 hC hr ((0 : Int32)) (q1.2) hf
theorem xd_X2_worthFrom : xy_X2_worthFrom.cls ≠ "java/lang/invoke/MethodHandle" ∧ xy_X2_worthFrom.cls ≠ "java/lang/invoke/VarHandle" ∧ (parseMethodDescriptor xy_X2_worthFrom.desc).map (fun d => d.parameters.length) = some 2 := ⟨by decide +kernel, by decide +kernel, by decide +kernel⟩
theorem c_X2_worthFrom {l : Launch} {E : xEv} {x0 : Option Nat} {x1 : Int32} {x2 : Int32} {w : xWd} {q : (Int32 × xWd)} (hf : f_X2_worthFrom x0 x1 x2 w = some q) : xk_M l xy_X2_worthFrom prog_4_method_8_code 4 (some .int) 1 22 0 0 E [va_rf (x0), .int (x1), .int (x2)] w (xk_Qi E q) := by
  refine xk_enter (by decide +kernel) (by simp [lg_sl, xk_cat1, xk_cati, xk_catl, xk_catd]) ?_
  intro p e s m args below meth c hC hr hin ha
  rw [show lv_args 0 [va_rf (x0), .int (x1), .int (x2)] = [(0, va_rf (x0)), (1, .int (x1)), (2, .int (x2))] by simp [lv_args, xk_cat1, xk_cati, xk_catl, xk_catd]]
  exact t_X2_worthFrom_0 hC hr x0 x1 x2 w hf
def f_X2_costOfSplice_13 (w : xWd) : Option (Int32 × xWd) := some ((0 : Int32), w)
set_option maxHeartbeats 4000000 in
set_option maxRecDepth 100000 in
theorem t_X2_costOfSplice_13 {p : Program} {l : Launch} {e : Env} {s : State} {m : MethodId} {args : Array Value} {below : List Frame} {meth : Method} {c : Code} {E : xEv} (hC : xk_C p s m args meth c E prog_4_method_7_code "Clickbook$JoinTable" 3) (hr : meth.sig.returnType = (some .int)) {q : (Int32 × xWd)} (w : xWd) (hf : f_X2_costOfSplice_13 w = some q) : xk_X p l e { frames := 3, cells := 0, slots := 0, locals := 64 } s m args below meth c (MQ below (xk_Qi E q) args s 0 0 (xk_A E.2.2.1)) E 3 0 0 13 [] [] w := by
  refine xk_iconst (v := (0 : Int32)) hC dX2_costOfSplice_13 (by decide) ?_
  cases hf
  refine xk_widen (k := 0) (n := 0) (Nat.le_of_ble_eq_true rfl) (Nat.le_of_ble_eq_true rfl) ?_
  exact xk_iret hC hr rfl dX2_costOfSplice_14
def f_X2_costOfSplice_37 (w : xWd) : Option (Int32 × xWd) := some ((0 : Int32), w)
set_option maxHeartbeats 4000000 in
set_option maxRecDepth 100000 in
theorem t_X2_costOfSplice_37 {p : Program} {l : Launch} {e : Env} {s : State} {m : MethodId} {args : Array Value} {below : List Frame} {meth : Method} {c : Code} {E : xEv} (hC : xk_C p s m args meth c E prog_4_method_7_code "Clickbook$JoinTable" 3) (hr : meth.sig.returnType = (some .int)) {q : (Int32 × xWd)} (w : xWd) (hf : f_X2_costOfSplice_37 w = some q) : xk_X p l e { frames := 3, cells := 0, slots := 0, locals := 64 } s m args below meth c (MQ below (xk_Qi E q) args s 0 0 (xk_A E.2.2.1)) E 3 0 0 37 [] [] w := by
  refine xk_iconst (v := (0 : Int32)) hC dX2_costOfSplice_37 (by decide) ?_
  cases hf
  refine xk_widen (k := 0) (n := 0) (Nat.le_of_ble_eq_true rfl) (Nat.le_of_ble_eq_true rfl) ?_
  exact xk_iret hC hr rfl dX2_costOfSplice_38
def f_X2_costOfSplice (x0 : Option Nat) (x1 : Int32) (x2 : Int32) (w : xWd) : Option (Int32 × xWd) := if (x1) = (x2) then f_X2_costOfSplice_13 w else if (x1) < ((0 : Int32)) then f_X2_costOfSplice_13 w else if ((0 : Int32)) ≤ (x2) then (xk_gR w (x0) 3 0).bind (fun v4 => (xk_is w (v4) 5).bind (fun u6 => (f_Jx4a65c_size_8abf5 (v4)  w).bind (fun q5 => if (q5.1) ≤ (x1) then f_X2_costOfSplice_37 (q5.2) else (xk_gR q5.2 (x0) 3 0).bind (fun v8 => (xk_is q5.2 (v8) 5).bind (fun u10 => (f_Jx4a65c_size_8abf5 (v8)  q5.2).bind (fun q9 => if (x2) < (q9.1) then (xk_gR q9.2 (x0) 3 0).bind (fun v12 => (xk_is q9.2 (v12) 5).bind (fun u14 => (f_Jx4a65c_get_915e3 (v12) (x1) q9.2).bind (fun q13 => (xk_cc q13.2 (q13.1) 4).bind (fun u15 => (xk_gI q13.2 (q13.1) 4 4).bind (fun v16 => (xk_gR q13.2 (x0) 3 0).bind (fun v17 => (xk_is q13.2 (v17) 5).bind (fun u19 => (f_Jx4a65c_get_915e3 (v17) (x2) q13.2).bind (fun q18 => (xk_cc q18.2 (q18.1) 4).bind (fun u20 => (xk_gI q18.2 (q18.1) 4 4).bind (fun v21 => some (((4 : Int32)) + (((2 : Int32)) * (if 0 ≤ ((v16) - (v21)) then ((v16) - (v21)) else 0 - ((v16) - (v21)))), q18.2))))))))))) else f_X2_costOfSplice_37 (q9.2))))))) else f_X2_costOfSplice_13 w
set_option maxHeartbeats 4000000 in
set_option maxRecDepth 100000 in
theorem t_X2_costOfSplice_0 {p : Program} {l : Launch} {e : Env} {s : State} {m : MethodId} {args : Array Value} {below : List Frame} {meth : Method} {c : Code} {E : xEv} (hC : xk_C p s m args meth c E prog_4_method_7_code "Clickbook$JoinTable" 3) (hr : meth.sig.returnType = (some .int)) {q : (Int32 × xWd)} (x0 : Option Nat) (x1 : Int32) (x2 : Int32) (w : xWd) (hf : f_X2_costOfSplice x0 x1 x2 w = some q) : xk_X p l e { frames := 3, cells := 0, slots := 0, locals := 64 } s m args below meth c (MQ below (xk_Qi E q) args s 0 0 (xk_A E.2.2.1)) E 3 0 0 0 [(0, va_rf (x0)), (1, .int (x1)), (2, .int (x2))] [] w := by
  refine xk_iload_n hC dX2_costOfSplice_0 1 rfl rfl ?_
  refine xk_iload_n hC dX2_costOfSplice_1 2 rfl rfl ?_
  refine xk_icmp_eq (tgt := 13) hC dX2_costOfSplice_2 (by decide) (fun c1 => ?_) (fun c1 => ?_)
  · replace hf := (if_pos c1).symm.trans hf
    refine xk_locals [] rfl ?_
    exact t_X2_costOfSplice_13 hC hr w hf
  · replace hf := (if_neg c1).symm.trans hf
    refine xk_iload_n hC dX2_costOfSplice_5 1 rfl rfl ?_
    refine xk_if_lt (tgt := 13) hC dX2_costOfSplice_6 (by decide) (fun c2 => ?_) (fun c2 => ?_)
    · replace hf := (if_pos c2).symm.trans hf
      refine xk_locals [] rfl ?_
      exact t_X2_costOfSplice_13 hC hr w hf
    · replace hf := (if_neg c2).symm.trans hf
      refine xk_iload_n hC dX2_costOfSplice_9 2 rfl rfl ?_
      refine xk_if_ge (tgt := 15) hC dX2_costOfSplice_10 (by decide) (fun c3 => ?_) (fun c3 => ?_)
      · replace hf := (if_pos c3).symm.trans hf
        refine xk_iload_n hC dX2_costOfSplice_15 1 rfl rfl ?_
        refine xk_aload_n hC dX2_costOfSplice_16 0 rfl rfl ?_
        obtain ⟨v4, h4, hf⟩ := xk_bi hf
        refine xk_getR hC xi_3 xc_3 0 (by decide) xm_63 (Or.inl rfl) dX2_costOfSplice_17 h4 ?_
        obtain ⟨u6, h6, hf⟩ := xk_bi hf
        obtain ⟨q5, h5, hf⟩ := xk_bi hf
        refine xk_backi (xk_callV hC 0 xc_5 (c_Jx4a65c_size_8abf5 h5) h6 xm_594 xm_188 xm_189 xm_4 xm_190 ⟨rfl, xd_Jx4a65c_size_8abf5⟩ rfl ⟨Nat.le_of_ble_eq_true rfl, Nat.le_of_ble_eq_true rfl⟩ rfl (Nat.le_of_ble_eq_true rfl) dX2_costOfSplice_20 ⟨(Nat.le_of_ble_eq_true rfl), (Nat.le_of_ble_eq_true rfl)⟩) ?_
        refine xk_icmp_ge (tgt := 37) hC dX2_costOfSplice_23 (by decide) (fun c7 => ?_) (fun c7 => ?_)
        · replace hf := (if_pos c7).symm.trans hf
          refine xk_locals [] rfl ?_
          exact t_X2_costOfSplice_37 hC hr (q5.2) hf
        · replace hf := (if_neg c7).symm.trans hf
          refine xk_iload_n hC dX2_costOfSplice_26 2 rfl rfl ?_
          refine xk_aload_n hC dX2_costOfSplice_27 0 rfl rfl ?_
          obtain ⟨v8, h8, hf⟩ := xk_bi hf
          refine xk_getR hC xi_3 xc_3 0 (by decide) xm_63 (Or.inl rfl) dX2_costOfSplice_28 h8 ?_
          obtain ⟨u10, h10, hf⟩ := xk_bi hf
          obtain ⟨q9, h9, hf⟩ := xk_bi hf
          refine xk_backi (xk_callV hC 0 xc_5 (c_Jx4a65c_size_8abf5 h9) h10 xm_594 xm_188 xm_189 xm_4 xm_190 ⟨rfl, xd_Jx4a65c_size_8abf5⟩ rfl ⟨Nat.le_of_ble_eq_true rfl, Nat.le_of_ble_eq_true rfl⟩ rfl (Nat.le_of_ble_eq_true rfl) dX2_costOfSplice_31 ⟨(Nat.le_of_ble_eq_true rfl), (Nat.le_of_ble_eq_true rfl)⟩) ?_
          refine xk_icmp_lt (tgt := 39) hC dX2_costOfSplice_34 (by decide) (fun c11 => ?_) (fun c11 => ?_)
          · replace hf := (if_pos c11).symm.trans hf
            refine xk_iconst (v := (4 : Int32)) hC dX2_costOfSplice_39 (by decide) ?_
            refine xk_iconst (v := (2 : Int32)) hC dX2_costOfSplice_40 (by decide) ?_
            refine xk_aload_n hC dX2_costOfSplice_41 0 rfl rfl ?_
            obtain ⟨v12, h12, hf⟩ := xk_bi hf
            refine xk_getR hC xi_3 xc_3 0 (by decide) xm_63 (Or.inl rfl) dX2_costOfSplice_42 h12 ?_
            refine xk_iload_n hC dX2_costOfSplice_45 1 rfl rfl ?_
            obtain ⟨u14, h14, hf⟩ := xk_bi hf
            obtain ⟨q13, h13, hf⟩ := xk_bi hf
            refine xk_backq (xk_callV hC 1 xc_5 (c_Jx4a65c_get_915e3 h13) h14 xm_595 xm_382 xm_383 xm_4 xm_384 ⟨rfl, xd_Jx4a65c_get_915e3⟩ rfl ⟨Nat.le_of_ble_eq_true rfl, Nat.le_of_ble_eq_true rfl⟩ rfl (Nat.le_of_ble_eq_true rfl) dX2_costOfSplice_46 ⟨(Nat.le_of_ble_eq_true rfl), (Nat.le_of_ble_eq_true rfl)⟩) ?_
            obtain ⟨u15, h15, hf⟩ := xk_bi hf
            refine xk_cast hC xc_4 xm_596 dX2_costOfSplice_49 h15 ?_
            obtain ⟨v16, h16, hf⟩ := xk_bi hf
            refine xk_getI hC xi_4 xc_4 4 (by decide) xm_484 (Or.inl rfl) dX2_costOfSplice_52 h16 ?_
            refine xk_aload_n hC dX2_costOfSplice_55 0 rfl rfl ?_
            obtain ⟨v17, h17, hf⟩ := xk_bi hf
            refine xk_getR hC xi_3 xc_3 0 (by decide) xm_63 (Or.inl rfl) dX2_costOfSplice_56 h17 ?_
            refine xk_iload_n hC dX2_costOfSplice_59 2 rfl rfl ?_
            obtain ⟨u19, h19, hf⟩ := xk_bi hf
            obtain ⟨q18, h18, hf⟩ := xk_bi hf
            refine xk_backq (xk_callV hC 1 xc_5 (c_Jx4a65c_get_915e3 h18) h19 xm_595 xm_382 xm_383 xm_4 xm_384 ⟨rfl, xd_Jx4a65c_get_915e3⟩ rfl ⟨Nat.le_of_ble_eq_true rfl, Nat.le_of_ble_eq_true rfl⟩ rfl (Nat.le_of_ble_eq_true rfl) dX2_costOfSplice_60 ⟨(Nat.le_of_ble_eq_true rfl), (Nat.le_of_ble_eq_true rfl)⟩) ?_
            obtain ⟨u20, h20, hf⟩ := xk_bi hf
            refine xk_cast hC xc_4 xm_596 dX2_costOfSplice_63 h20 ?_
            obtain ⟨v21, h21, hf⟩ := xk_bi hf
            refine xk_getI hC xi_4 xc_4 4 (by decide) xm_484 (Or.inl rfl) dX2_costOfSplice_66 h21 ?_
            refine xk_isub hC dX2_costOfSplice_69 ?_
            refine xk_mabs hC xm_619 xm_449 xm_13 xm_450 (Nat.le_of_ble_eq_true rfl) (Nat.le_of_ble_eq_true rfl) (Nat.le_of_ble_eq_true rfl) (Nat.le_of_ble_eq_true rfl) dX2_costOfSplice_70 ?_
            refine xk_imul hC dX2_costOfSplice_73 ?_
            refine xk_iadd hC dX2_costOfSplice_74 ?_
            cases hf
            refine xk_widen (k := 0) (n := 0) (Nat.le_of_ble_eq_true rfl) (Nat.le_of_ble_eq_true rfl) ?_
            exact xk_iret hC hr rfl dX2_costOfSplice_75
          · replace hf := (if_neg c11).symm.trans hf
            refine xk_locals [] rfl ?_
            exact t_X2_costOfSplice_37 hC hr (q9.2) hf
      · replace hf := (if_neg c3).symm.trans hf
        refine xk_locals [] rfl ?_
        exact t_X2_costOfSplice_13 hC hr w hf
theorem xd_X2_costOfSplice : xy_X2_costOfSplice.cls ≠ "java/lang/invoke/MethodHandle" ∧ xy_X2_costOfSplice.cls ≠ "java/lang/invoke/VarHandle" ∧ (parseMethodDescriptor xy_X2_costOfSplice.desc).map (fun d => d.parameters.length) = some 2 := ⟨by decide +kernel, by decide +kernel, by decide +kernel⟩
theorem c_X2_costOfSplice {l : Launch} {E : xEv} {x0 : Option Nat} {x1 : Int32} {x2 : Int32} {w : xWd} {q : (Int32 × xWd)} (hf : f_X2_costOfSplice x0 x1 x2 w = some q) : xk_M l xy_X2_costOfSplice prog_4_method_7_code 3 (some .int) 3 64 0 0 E [va_rf (x0), .int (x1), .int (x2)] w (xk_Qi E q) := by
  refine xk_enter (by decide +kernel) (by simp [lg_sl, xk_cat1, xk_cati, xk_catl, xk_catd]) ?_
  intro p e s m args below meth c hC hr hin ha
  rw [show lv_args 0 [va_rf (x0), .int (x1), .int (x2)] = [(0, va_rf (x0)), (1, .int (x1)), (2, .int (x2))] by simp [lv_args, xk_cat1, xk_cati, xk_catl, xk_catd]]
  exact t_X2_costOfSplice_0 hC hr x0 x1 x2 w hf
def f_X2_bestPlace_64 (k8 : Option Nat → Int32 → Int32 → Int32 → Int32 → Int32 → xWd → Option (Int32 × xWd)) (x0 : Option Nat) (x1 : Int32) (x2 : Int32) (x3 : Int32) (x4 : Int32) (x5 : Int32) (w : xWd) : Option (Int32 × xWd) := k8 x0 x1 x2 x3 x4 (x5 + (1 : Int32)) w
set_option maxHeartbeats 4000000 in
set_option maxRecDepth 100000 in
theorem t_X2_bestPlace_64 {p : Program} {l : Launch} {e : Env} {s : State} {m : MethodId} {args : Array Value} {below : List Frame} {meth : Method} {c : Code} {E : xEv} (hC : xk_C p s m args meth c E prog_4_method_6_code "Clickbook$JoinTable" 7) (hr : meth.sig.returnType = (some .int)) {q : (Int32 × xWd)} {k8 : Option Nat → Int32 → Int32 → Int32 → Int32 → Int32 → xWd → Option (Int32 × xWd)} (hk8 : ∀ (x0 : Option Nat) (x1 : Int32) (x2 : Int32) (x3 : Int32) (x4 : Int32) (x5 : Int32) (w : xWd), k8 x0 x1 x2 x3 x4 x5 w = some q → xk_X p l e { frames := 4, cells := 0, slots := 0, locals := 86 } s m args below meth c (MQ below (xk_Qi E q) args s 0 0 (xk_A E.2.2.1)) E 7 0 0 8 [(0, va_rf (x0)), (1, .int (x1)), (2, .int (x2)), (3, .int (x3)), (4, .int (x4)), (5, .int (x5))] [] w) (x0 : Option Nat) (x1 : Int32) (x2 : Int32) (x3 : Int32) (x4 : Int32) (x5 : Int32) (w : xWd) (hf : f_X2_bestPlace_64 k8 x0 x1 x2 x3 x4 x5 w = some q) : xk_X p l e { frames := 4, cells := 0, slots := 0, locals := 86 } s m args below meth c (MQ below (xk_Qi E q) args s 0 0 (xk_A E.2.2.1)) E 7 0 0 64 [(0, va_rf (x0)), (1, .int (x1)), (2, .int (x2)), (3, .int (x3)), (4, .int (x4)), (5, .int (x5))] [] w := by
  refine xk_iinc (v := x5 + (1 : Int32)) (lv' := [(5, .int (x5 + (1 : Int32))), (0, va_rf (x0)), (1, .int (x1)), (2, .int (x2)), (3, .int (x3)), (4, .int (x4))]) hC dX2_bestPlace_64 5 rfl rfl (by decide) rfl ?_
  refine xk_goto (tgt := 8) hC dX2_bestPlace_67 (by decide) ?_
  refine xk_locals [1, 2, 3, 4, 5, 0] rfl ?_
  exact hk8 x0 x1 x2 x3 x4 (x5 + (1 : Int32)) w hf
def f_X2_bestPlace_57 (k8 : Option Nat → Int32 → Int32 → Int32 → Int32 → Int32 → xWd → Option (Int32 × xWd)) (x0 : Option Nat) (x1 : Int32) (x2 : Int32) (x5 : Int32) (x6 : Int32) (w : xWd) : Option (Int32 × xWd) := f_X2_bestPlace_64 k8 x0 x1 x2 x5 x6 x5 w
set_option maxHeartbeats 4000000 in
set_option maxRecDepth 100000 in
theorem t_X2_bestPlace_57 {p : Program} {l : Launch} {e : Env} {s : State} {m : MethodId} {args : Array Value} {below : List Frame} {meth : Method} {c : Code} {E : xEv} (hC : xk_C p s m args meth c E prog_4_method_6_code "Clickbook$JoinTable" 7) (hr : meth.sig.returnType = (some .int)) {q : (Int32 × xWd)} {k8 : Option Nat → Int32 → Int32 → Int32 → Int32 → Int32 → xWd → Option (Int32 × xWd)} (hk8 : ∀ (x0 : Option Nat) (x1 : Int32) (x2 : Int32) (x3 : Int32) (x4 : Int32) (x5 : Int32) (w : xWd), k8 x0 x1 x2 x3 x4 x5 w = some q → xk_X p l e { frames := 4, cells := 0, slots := 0, locals := 86 } s m args below meth c (MQ below (xk_Qi E q) args s 0 0 (xk_A E.2.2.1)) E 7 0 0 8 [(0, va_rf (x0)), (1, .int (x1)), (2, .int (x2)), (3, .int (x3)), (4, .int (x4)), (5, .int (x5))] [] w) (x0 : Option Nat) (x1 : Int32) (x2 : Int32) (x5 : Int32) (x6 : Int32) (w : xWd) (hf : f_X2_bestPlace_57 k8 x0 x1 x2 x5 x6 w = some q) : xk_X p l e { frames := 4, cells := 0, slots := 0, locals := 86 } s m args below meth c (MQ below (xk_Qi E q) args s 0 0 (xk_A E.2.2.1)) E 7 0 0 57 [(0, va_rf (x0)), (1, .int (x1)), (2, .int (x2)), (5, .int (x5)), (6, .int (x6))] [] w := by
  refine xk_iload hC dX2_bestPlace_57 3 rfl ?_
  refine xk_istore_n (i := 3) (lv' := [(3, .int (x5)), (0, va_rf (x0)), (1, .int (x1)), (2, .int (x2)), (5, .int (x5)), (6, .int (x6))]) hC dX2_bestPlace_59 rfl (by decide) rfl ?_
  refine xk_iload hC dX2_bestPlace_60 5 rfl ?_
  refine xk_istore (i := 4) (lv' := [(4, .int (x6)), (3, .int (x5)), (0, va_rf (x0)), (1, .int (x1)), (2, .int (x2)), (5, .int (x5)), (6, .int (x6))]) hC dX2_bestPlace_62 (by decide) rfl ?_
  refine xk_locals [2, 3, 4, 1, 0, 5] rfl ?_
  exact t_X2_bestPlace_64 hC hr hk8 x0 x1 x2 x5 x6 x5 w hf
def f_X2_bestPlace_70 (x3 : Int32) (w : xWd) : Option (Int32 × xWd) := some (x3, w)
set_option maxHeartbeats 4000000 in
set_option maxRecDepth 100000 in
theorem t_X2_bestPlace_70 {p : Program} {l : Launch} {e : Env} {s : State} {m : MethodId} {args : Array Value} {below : List Frame} {meth : Method} {c : Code} {E : xEv} (hC : xk_C p s m args meth c E prog_4_method_6_code "Clickbook$JoinTable" 7) (hr : meth.sig.returnType = (some .int)) {q : (Int32 × xWd)} (x3 : Int32) (w : xWd) (hf : f_X2_bestPlace_70 x3 w = some q) : xk_X p l e { frames := 4, cells := 0, slots := 0, locals := 86 } s m args below meth c (MQ below (xk_Qi E q) args s 0 0 (xk_A E.2.2.1)) E 7 0 0 70 [(3, .int (x3))] [] w := by
  refine xk_iload_n hC dX2_bestPlace_70 0 rfl rfl ?_
  cases hf
  refine xk_widen (k := 0) (n := 0) (Nat.le_of_ble_eq_true rfl) (Nat.le_of_ble_eq_true rfl) ?_
  exact xk_iret hC hr rfl dX2_bestPlace_71
def f_X2_bestPlace_8 : Nat → Option Nat → Int32 → Int32 → Int32 → Int32 → Int32 → xWd → Option (Int32 × xWd)
  | 0, _, _, _, _, _, _, _ => none
  | n + 1, x0, x1, x2, x3, x4, x5, w => (xk_gR w (x0) 3 0).bind (fun v1 => (xk_is w (v1) 5).bind (fun u3 => (f_Jx4a65c_size_8abf5 (v1)  w).bind (fun q2 => if (q2.1) ≤ (x5) then f_X2_bestPlace_70 x3 (q2.2) else (xk_gI q2.2 (x0) 3 1).bind (fun v5 => if (v5) ≤ (x1) then f_X2_bestPlace_70 x3 (q2.2) else (xk_is q2.2 (x0) 3).bind (fun u8 => (f_X2_worthFrom (x0) (x1) (x5) q2.2).bind (fun q7 => (xk_is q7.2 (x0) 3).bind (fun u10 => (f_X2_costOfSplice (x0) (x2) (x5) q7.2).bind (fun q9 => if (x3) = ((-1 : Int32)) then f_X2_bestPlace_57 (f_X2_bestPlace_8 n) x0 x1 x2 x5 ((q7.1) - (q9.1)) (q9.2) else if ((q7.1) - (q9.1)) ≤ (x4) then f_X2_bestPlace_64 (f_X2_bestPlace_8 n) x0 x1 x2 x3 x4 x5 (q9.2) else f_X2_bestPlace_57 (f_X2_bestPlace_8 n) x0 x1 x2 x5 ((q7.1) - (q9.1)) (q9.2)))))))))
set_option maxHeartbeats 4000000 in
set_option maxRecDepth 100000 in
theorem t_X2_bestPlace_8 {p : Program} {l : Launch} {e : Env} {s : State} {m : MethodId} {args : Array Value} {below : List Frame} {meth : Method} {c : Code} {E : xEv} (hC : xk_C p s m args meth c E prog_4_method_6_code "Clickbook$JoinTable" 7) (hr : meth.sig.returnType = (some .int)) {q : (Int32 × xWd)} : ∀ (n : Nat) (x0 : Option Nat) (x1 : Int32) (x2 : Int32) (x3 : Int32) (x4 : Int32) (x5 : Int32) (w : xWd), f_X2_bestPlace_8 n x0 x1 x2 x3 x4 x5 w = some q → xk_X p l e { frames := 4, cells := 0, slots := 0, locals := 86 } s m args below meth c (MQ below (xk_Qi E q) args s 0 0 (xk_A E.2.2.1)) E 7 0 0 8 [(0, va_rf (x0)), (1, .int (x1)), (2, .int (x2)), (3, .int (x3)), (4, .int (x4)), (5, .int (x5))] [] w := by
  intro n
  induction n with
  | zero => intro x0 x1 x2 x3 x4 x5 w hf; have hf : none = some q := hf; cases hf
  | succ n ih =>
    intro x0 x1 x2 x3 x4 x5 w hf
    refine xk_iload hC dX2_bestPlace_8 5 rfl ?_
    refine xk_aload_n hC dX2_bestPlace_10 0 rfl rfl ?_
    obtain ⟨v1, h1, hf⟩ := xk_bi hf
    refine xk_getR hC xi_3 xc_3 0 (by decide) xm_63 (Or.inl rfl) dX2_bestPlace_11 h1 ?_
    obtain ⟨u3, h3, hf⟩ := xk_bi hf
    obtain ⟨q2, h2, hf⟩ := xk_bi hf
    refine xk_backi (xk_callV hC 0 xc_5 (c_Jx4a65c_size_8abf5 h2) h3 xm_594 xm_188 xm_189 xm_4 xm_190 ⟨rfl, xd_Jx4a65c_size_8abf5⟩ rfl ⟨Nat.le_of_ble_eq_true rfl, Nat.le_of_ble_eq_true rfl⟩ rfl (Nat.le_of_ble_eq_true rfl) dX2_bestPlace_14 ⟨(Nat.le_of_ble_eq_true rfl), (Nat.le_of_ble_eq_true rfl)⟩) ?_
    refine xk_icmp_ge (tgt := 70) hC dX2_bestPlace_17 (by decide) (fun c4 => ?_) (fun c4 => ?_)
    · replace hf := (if_pos c4).symm.trans hf
      refine xk_locals [3] rfl ?_
      exact t_X2_bestPlace_70 hC hr x3 (q2.2) hf
    · replace hf := (if_neg c4).symm.trans hf
      refine xk_iload_n hC dX2_bestPlace_20 1 rfl rfl ?_
      refine xk_aload_n hC dX2_bestPlace_21 0 rfl rfl ?_
      obtain ⟨v5, h5, hf⟩ := xk_bi hf
      refine xk_getI hC xi_3 xc_3 1 (by decide) xm_64 (Or.inl rfl) dX2_bestPlace_22 h5 ?_
      refine xk_icmp_ge (tgt := 70) hC dX2_bestPlace_25 (by decide) (fun c6 => ?_) (fun c6 => ?_)
      · replace hf := (if_pos c6).symm.trans hf
        refine xk_locals [3] rfl ?_
        exact t_X2_bestPlace_70 hC hr x3 (q2.2) hf
      · replace hf := (if_neg c6).symm.trans hf
        refine xk_aload_n hC dX2_bestPlace_28 0 rfl rfl ?_
        refine xk_iload_n hC dX2_bestPlace_29 1 rfl rfl ?_
        refine xk_iload hC dX2_bestPlace_30 5 rfl ?_
        obtain ⟨u8, h8, hf⟩ := xk_bi hf
        obtain ⟨q7, h7, hf⟩ := xk_bi hf
        refine xk_backi (xk_callV hC 2 xc_3 (c_X2_worthFrom h7) h8 xm_608 xm_610 xm_p21 xm_5 xm_611 ⟨rfl, xd_X2_worthFrom⟩ rfl ⟨Nat.le_of_ble_eq_true rfl, Nat.le_of_ble_eq_true rfl⟩ rfl (Nat.le_of_ble_eq_true rfl) dX2_bestPlace_32 ⟨(Nat.le_of_ble_eq_true rfl), (Nat.le_of_ble_eq_true rfl)⟩) ?_
        refine xk_aload_n hC dX2_bestPlace_35 0 rfl rfl ?_
        refine xk_iload_n hC dX2_bestPlace_36 2 rfl rfl ?_
        refine xk_iload hC dX2_bestPlace_37 5 rfl ?_
        obtain ⟨u10, h10, hf⟩ := xk_bi hf
        obtain ⟨q9, h9, hf⟩ := xk_bi hf
        refine xk_backi (xk_callV hC 2 xc_3 (c_X2_costOfSplice h9) h10 xm_615 xm_617 xm_p22 xm_5 xm_618 ⟨rfl, xd_X2_costOfSplice⟩ rfl ⟨Nat.le_of_ble_eq_true rfl, Nat.le_of_ble_eq_true rfl⟩ rfl (Nat.le_of_ble_eq_true rfl) dX2_bestPlace_39 ⟨(Nat.le_of_ble_eq_true rfl), (Nat.le_of_ble_eq_true rfl)⟩) ?_
        refine xk_isub hC dX2_bestPlace_42 ?_
        refine xk_istore (i := 6) (lv' := [(6, .int ((q7.1) - (q9.1))), (0, va_rf (x0)), (1, .int (x1)), (2, .int (x2)), (3, .int (x3)), (4, .int (x4)), (5, .int (x5))]) hC dX2_bestPlace_43 (by decide) rfl ?_
        refine xk_iload_n hC dX2_bestPlace_45 4 rfl rfl ?_
        refine xk_iconst (v := (-1 : Int32)) hC dX2_bestPlace_46 (by decide) ?_
        refine xk_icmp_eq (tgt := 57) hC dX2_bestPlace_47 (by decide) (fun c11 => ?_) (fun c11 => ?_)
        · replace hf := (if_pos c11).symm.trans hf
          refine xk_locals [1, 2, 3, 6, 0] rfl ?_
          exact t_X2_bestPlace_57 hC hr (fun x0 x1 x2 x3 x4 x5 w hf => ih x0 x1 x2 x3 x4 x5 w hf) x0 x1 x2 x5 ((q7.1) - (q9.1)) (q9.2) hf
        · replace hf := (if_neg c11).symm.trans hf
          refine xk_iload hC dX2_bestPlace_50 0 rfl ?_
          refine xk_iload hC dX2_bestPlace_52 5 rfl ?_
          refine xk_icmp_le (tgt := 64) hC dX2_bestPlace_54 (by decide) (fun c12 => ?_) (fun c12 => ?_)
          · replace hf := (if_pos c12).symm.trans hf
            refine xk_locals [1, 2, 3, 4, 5, 6] rfl ?_
            exact t_X2_bestPlace_64 hC hr (fun x0 x1 x2 x3 x4 x5 w hf => ih x0 x1 x2 x3 x4 x5 w hf) x0 x1 x2 x3 x4 x5 (q9.2) hf
          · replace hf := (if_neg c12).symm.trans hf
            refine xk_locals [1, 2, 3, 6, 0] rfl ?_
            exact t_X2_bestPlace_57 hC hr (fun x0 x1 x2 x3 x4 x5 w hf => ih x0 x1 x2 x3 x4 x5 w hf) x0 x1 x2 x5 ((q7.1) - (q9.1)) (q9.2) hf
def f_X2_bestPlace (x0 : Option Nat) (x1 : Int32) (x2 : Int32) (w : xWd) : Option (Int32 × xWd) := f_X2_bestPlace_8 4096 x0 x1 x2 ((-1 : Int32)) ((0 : Int32)) ((0 : Int32)) w
set_option maxHeartbeats 4000000 in
set_option maxRecDepth 100000 in
theorem t_X2_bestPlace_0 {p : Program} {l : Launch} {e : Env} {s : State} {m : MethodId} {args : Array Value} {below : List Frame} {meth : Method} {c : Code} {E : xEv} (hC : xk_C p s m args meth c E prog_4_method_6_code "Clickbook$JoinTable" 7) (hr : meth.sig.returnType = (some .int)) {q : (Int32 × xWd)} (x0 : Option Nat) (x1 : Int32) (x2 : Int32) (w : xWd) (hf : f_X2_bestPlace x0 x1 x2 w = some q) : xk_X p l e { frames := 4, cells := 0, slots := 0, locals := 86 } s m args below meth c (MQ below (xk_Qi E q) args s 0 0 (xk_A E.2.2.1)) E 7 0 0 0 [(0, va_rf (x0)), (1, .int (x1)), (2, .int (x2))] [] w := by
  refine xk_iconst (v := (-1 : Int32)) hC dX2_bestPlace_0 (by decide) ?_
  refine xk_istore_n (i := 3) (lv' := [(3, .int ((-1 : Int32))), (0, va_rf (x0)), (1, .int (x1)), (2, .int (x2))]) hC dX2_bestPlace_1 rfl (by decide) rfl ?_
  refine xk_iconst (v := (0 : Int32)) hC dX2_bestPlace_2 (by decide) ?_
  refine xk_istore (i := 4) (lv' := [(4, .int ((0 : Int32))), (3, .int ((-1 : Int32))), (0, va_rf (x0)), (1, .int (x1)), (2, .int (x2))]) hC dX2_bestPlace_3 (by decide) rfl ?_
  refine xk_iconst (v := (0 : Int32)) hC dX2_bestPlace_5 (by decide) ?_
  refine xk_istore (i := 5) (lv' := [(5, .int ((0 : Int32))), (4, .int ((0 : Int32))), (3, .int ((-1 : Int32))), (0, va_rf (x0)), (1, .int (x1)), (2, .int (x2))]) hC dX2_bestPlace_6 (by decide) rfl ?_
  refine xk_locals [3, 4, 5, 2, 1, 0] rfl ?_
  exact t_X2_bestPlace_8 hC hr 4096 x0 x1 x2 ((-1 : Int32)) ((0 : Int32)) ((0 : Int32)) w hf
theorem xd_X2_bestPlace : xy_X2_bestPlace.cls ≠ "java/lang/invoke/MethodHandle" ∧ xy_X2_bestPlace.cls ≠ "java/lang/invoke/VarHandle" ∧ (parseMethodDescriptor xy_X2_bestPlace.desc).map (fun d => d.parameters.length) = some 2 := ⟨by decide +kernel, by decide +kernel, by decide +kernel⟩
theorem c_X2_bestPlace {l : Launch} {E : xEv} {x0 : Option Nat} {x1 : Int32} {x2 : Int32} {w : xWd} {q : (Int32 × xWd)} (hf : f_X2_bestPlace x0 x1 x2 w = some q) : xk_M l xy_X2_bestPlace prog_4_method_6_code 7 (some .int) 4 86 0 0 E [va_rf (x0), .int (x1), .int (x2)] w (xk_Qi E q) := by
  refine xk_enter (by decide +kernel) (by simp [lg_sl, xk_cat1, xk_cati, xk_catl, xk_catd]) ?_
  intro p e s m args below meth c hC hr hin ha
  rw [show lv_args 0 [va_rf (x0), .int (x1), .int (x2)] = [(0, va_rf (x0)), (1, .int (x1)), (2, .int (x2))] by simp [lv_args, xk_cat1, xk_cati, xk_catl, xk_catd]]
  exact t_X2_bestPlace_0 hC hr x0 x1 x2 w hf
def f_X2_fillBar_86 (k2 : Option Nat → Int32 → Int32 → xWd → Option xWd) (x0 : Option Nat) (x1 : Int32) (x2 : Int32) (w : xWd) : Option xWd := k2 x0 x1 (x2 + (1 : Int32)) w
set_option maxHeartbeats 4000000 in
set_option maxRecDepth 100000 in
theorem t_X2_fillBar_86 {p : Program} {l : Launch} {e : Env} {s : State} {m : MethodId} {args : Array Value} {below : List Frame} {meth : Method} {c : Code} {E : xEv} (hC : xk_C p s m args meth c E prog_4_method_3_code "Clickbook$JoinTable" 6) (hr : meth.sig.returnType = none) {q : xWd} {k2 : Option Nat → Int32 → Int32 → xWd → Option xWd} (hk2 : ∀ (x0 : Option Nat) (x1 : Int32) (x2 : Int32) (w : xWd), k2 x0 x1 x2 w = some q → xk_X p l e { frames := 5, cells := 0, slots := 0, locals := 112 } s m args below meth c (MQ below (xk_Qv E q) args s 0 0 (xk_A E.2.2.1)) E 6 0 0 2 [(0, va_rf (x0)), (1, .int (x1)), (2, .int (x2))] [] w) (x0 : Option Nat) (x1 : Int32) (x2 : Int32) (w : xWd) (hf : f_X2_fillBar_86 k2 x0 x1 x2 w = some q) : xk_X p l e { frames := 5, cells := 0, slots := 0, locals := 112 } s m args below meth c (MQ below (xk_Qv E q) args s 0 0 (xk_A E.2.2.1)) E 6 0 0 86 [(0, va_rf (x0)), (1, .int (x1)), (2, .int (x2))] [] w := by
  refine xk_iinc (v := x2 + (1 : Int32)) (lv' := [(2, .int (x2 + (1 : Int32))), (0, va_rf (x0)), (1, .int (x1))]) hC dX2_fillBar_86 2 rfl rfl (by decide) rfl ?_
  refine xk_goto (tgt := 2) hC dX2_fillBar_89 (by decide) ?_
  refine xk_locals [1, 2, 0] rfl ?_
  exact hk2 x0 x1 (x2 + (1 : Int32)) w hf
def f_X2_fillBar_65 (k2 : Option Nat → Int32 → Int32 → xWd → Option xWd) (x0 : Option Nat) (x1 : Int32) (x2 : Int32) (x3 : Int32) (w : xWd) : Option xWd := (f_X2_slotOf (x1) (x2) w).bind (fun q1 => if (q1.1) = ((-1 : Int32)) then f_X2_fillBar_86 k2 x0 x1 x2 (q1.2) else (xk_gR q1.2 (x0) 3 2).bind (fun v3 => (xk_sI 0 q1.2 (v3) (q1.1) (x3)).bind (fun w4 => f_X2_fillBar_86 k2 x0 x1 x2 w4)))
set_option maxHeartbeats 4000000 in
set_option maxRecDepth 100000 in
theorem t_X2_fillBar_65 {p : Program} {l : Launch} {e : Env} {s : State} {m : MethodId} {args : Array Value} {below : List Frame} {meth : Method} {c : Code} {E : xEv} (hC : xk_C p s m args meth c E prog_4_method_3_code "Clickbook$JoinTable" 6) (hr : meth.sig.returnType = none) {q : xWd} {k2 : Option Nat → Int32 → Int32 → xWd → Option xWd} (hk2 : ∀ (x0 : Option Nat) (x1 : Int32) (x2 : Int32) (w : xWd), k2 x0 x1 x2 w = some q → xk_X p l e { frames := 5, cells := 0, slots := 0, locals := 112 } s m args below meth c (MQ below (xk_Qv E q) args s 0 0 (xk_A E.2.2.1)) E 6 0 0 2 [(0, va_rf (x0)), (1, .int (x1)), (2, .int (x2))] [] w) (x0 : Option Nat) (x1 : Int32) (x2 : Int32) (x3 : Int32) (w : xWd) (hf : f_X2_fillBar_65 k2 x0 x1 x2 x3 w = some q) : xk_X p l e { frames := 5, cells := 0, slots := 0, locals := 112 } s m args below meth c (MQ below (xk_Qv E q) args s 0 0 (xk_A E.2.2.1)) E 6 0 0 65 [(0, va_rf (x0)), (1, .int (x1)), (2, .int (x2)), (3, .int (x3))] [] w := by
  refine xk_iload_n hC dX2_fillBar_65 1 rfl rfl ?_
  refine xk_iload_n hC dX2_fillBar_66 2 rfl rfl ?_
  obtain ⟨q1, h1, hf⟩ := xk_bi hf
  refine xk_backi (xk_callS hC 2 (c_X2_slotOf h1) xm_612 xm_613 xm_5 xm_614 xd_X2_slotOf rfl ⟨Nat.le_of_ble_eq_true rfl, Nat.le_of_ble_eq_true rfl⟩ rfl (Nat.le_of_ble_eq_true rfl) dX2_fillBar_67 ⟨(Nat.le_of_ble_eq_true rfl), (Nat.le_of_ble_eq_true rfl)⟩) ?_
  refine xk_istore (i := 5) (lv' := [(5, .int (q1.1)), (0, va_rf (x0)), (1, .int (x1)), (2, .int (x2)), (3, .int (x3))]) hC dX2_fillBar_70 (by decide) rfl ?_
  refine xk_iload hC dX2_fillBar_72 0 rfl ?_
  refine xk_iconst (v := (-1 : Int32)) hC dX2_fillBar_74 (by decide) ?_
  refine xk_icmp_eq (tgt := 86) hC dX2_fillBar_75 (by decide) (fun c2 => ?_) (fun c2 => ?_)
  · replace hf := (if_pos c2).symm.trans hf
    refine xk_locals [1, 2, 3] rfl ?_
    exact t_X2_fillBar_86 hC hr hk2 x0 x1 x2 (q1.2) hf
  · replace hf := (if_neg c2).symm.trans hf
    refine xk_aload_n hC dX2_fillBar_78 1 rfl rfl ?_
    obtain ⟨v3, h3, hf⟩ := xk_bi hf
    refine xk_getR hC xi_3 xc_3 2 (by decide) xm_65 (Or.inl rfl) dX2_fillBar_79 h3 ?_
    refine xk_iload hC dX2_fillBar_82 0 rfl ?_
    refine xk_iload_n hC dX2_fillBar_84 4 rfl rfl ?_
    obtain ⟨w4, h4, hf⟩ := xk_bi hf
    refine xk_iast hC rfl dX2_fillBar_85 h4 ?_
    refine xk_locals [1, 2, 3] rfl ?_
    exact t_X2_fillBar_86 hC hr hk2 x0 x1 x2 w4 hf
def f_X2_fillBar_2 : Nat → Option Nat → Int32 → Int32 → xWd → Option xWd
  | 0, _, _, _, _ => none
  | n + 1, x0, x1, x2, w => (xk_gR w (x0) 3 0).bind (fun v1 => (xk_is w (v1) 5).bind (fun u3 => (f_Jx4a65c_size_8abf5 (v1)  w).bind (fun q2 => if (q2.1) ≤ (x2) then some q2.2 else (xk_gR q2.2 (x0) 3 0).bind (fun v5 => (xk_is q2.2 (v5) 5).bind (fun u7 => (f_Jx4a65c_get_915e3 (v5) (x2) q2.2).bind (fun q6 => (xk_cc q6.2 (q6.1) 4).bind (fun u8 => (xk_is q6.2 (q6.1) 4).bind (fun u10 => (f_X3_noteOf (q6.1) (x1) q6.2).bind (fun q9 => (xk_is q9.2 (x0) 3).bind (fun u12 => (f_X2_bestPlace (x0) ((x1) + ((1 : Int32))) (x2) q9.2).bind (fun q11 => if (q11.1) = ((-1 : Int32)) then f_X2_fillBar_65 (f_X2_fillBar_2 n) x0 x1 x2 (q9.1) (q11.2) else (xk_is q11.2 (x0) 3).bind (fun u15 => (f_X2_worthFrom (x0) ((x1) + ((1 : Int32))) (q11.1) q11.2).bind (fun q14 => (xk_is q14.2 (x0) 3).bind (fun u17 => (f_X2_costOfSplice (x0) (x2) (q11.1) q14.2).bind (fun q16 => f_X2_fillBar_65 (f_X2_fillBar_2 n) x0 x1 x2 ((q9.1) + ((q14.1) - (q16.1))) (q16.2))))))))))))))))
set_option maxHeartbeats 4000000 in
set_option maxRecDepth 100000 in
theorem t_X2_fillBar_2 {p : Program} {l : Launch} {e : Env} {s : State} {m : MethodId} {args : Array Value} {below : List Frame} {meth : Method} {c : Code} {E : xEv} (hC : xk_C p s m args meth c E prog_4_method_3_code "Clickbook$JoinTable" 6) (hr : meth.sig.returnType = none) {q : xWd} : ∀ (n : Nat) (x0 : Option Nat) (x1 : Int32) (x2 : Int32) (w : xWd), f_X2_fillBar_2 n x0 x1 x2 w = some q → xk_X p l e { frames := 5, cells := 0, slots := 0, locals := 112 } s m args below meth c (MQ below (xk_Qv E q) args s 0 0 (xk_A E.2.2.1)) E 6 0 0 2 [(0, va_rf (x0)), (1, .int (x1)), (2, .int (x2))] [] w := by
  intro n
  induction n with
  | zero => intro x0 x1 x2 w hf; have hf : none = some q := hf; cases hf
  | succ n ih =>
    intro x0 x1 x2 w hf
    refine xk_iload_n hC dX2_fillBar_2 2 rfl rfl ?_
    refine xk_aload_n hC dX2_fillBar_3 0 rfl rfl ?_
    obtain ⟨v1, h1, hf⟩ := xk_bi hf
    refine xk_getR hC xi_3 xc_3 0 (by decide) xm_63 (Or.inl rfl) dX2_fillBar_4 h1 ?_
    obtain ⟨u3, h3, hf⟩ := xk_bi hf
    obtain ⟨q2, h2, hf⟩ := xk_bi hf
    refine xk_backi (xk_callV hC 0 xc_5 (c_Jx4a65c_size_8abf5 h2) h3 xm_594 xm_188 xm_189 xm_4 xm_190 ⟨rfl, xd_Jx4a65c_size_8abf5⟩ rfl ⟨Nat.le_of_ble_eq_true rfl, Nat.le_of_ble_eq_true rfl⟩ rfl (Nat.le_of_ble_eq_true rfl) dX2_fillBar_7 ⟨(Nat.le_of_ble_eq_true rfl), (Nat.le_of_ble_eq_true rfl)⟩) ?_
    refine xk_icmp_ge (tgt := 92) hC dX2_fillBar_10 (by decide) (fun c4 => ?_) (fun c4 => ?_)
    · replace hf := (if_pos c4).symm.trans hf
      cases hf
      refine xk_widen (k := 0) (n := 0) (Nat.le_of_ble_eq_true rfl) (Nat.le_of_ble_eq_true rfl) ?_
      exact xk_vret hC hr dX2_fillBar_92
    · replace hf := (if_neg c4).symm.trans hf
      refine xk_aload_n hC dX2_fillBar_13 0 rfl rfl ?_
      obtain ⟨v5, h5, hf⟩ := xk_bi hf
      refine xk_getR hC xi_3 xc_3 0 (by decide) xm_63 (Or.inl rfl) dX2_fillBar_14 h5 ?_
      refine xk_iload_n hC dX2_fillBar_17 2 rfl rfl ?_
      obtain ⟨u7, h7, hf⟩ := xk_bi hf
      obtain ⟨q6, h6, hf⟩ := xk_bi hf
      refine xk_backq (xk_callV hC 1 xc_5 (c_Jx4a65c_get_915e3 h6) h7 xm_595 xm_382 xm_383 xm_4 xm_384 ⟨rfl, xd_Jx4a65c_get_915e3⟩ rfl ⟨Nat.le_of_ble_eq_true rfl, Nat.le_of_ble_eq_true rfl⟩ rfl (Nat.le_of_ble_eq_true rfl) dX2_fillBar_18 ⟨(Nat.le_of_ble_eq_true rfl), (Nat.le_of_ble_eq_true rfl)⟩) ?_
      obtain ⟨u8, h8, hf⟩ := xk_bi hf
      refine xk_cast hC xc_4 xm_596 dX2_fillBar_21 h8 ?_
      refine xk_iload_n hC dX2_fillBar_24 1 rfl rfl ?_
      obtain ⟨u10, h10, hf⟩ := xk_bi hf
      obtain ⟨q9, h9, hf⟩ := xk_bi hf
      refine xk_backi (xk_callV hC 1 xc_4 (c_X3_noteOf h9) h10 xm_603 xm_538 xm_539 xm_20 xm_540 ⟨rfl, xd_X3_noteOf⟩ rfl ⟨Nat.le_of_ble_eq_true rfl, Nat.le_of_ble_eq_true rfl⟩ rfl (Nat.le_of_ble_eq_true rfl) dX2_fillBar_25 ⟨(Nat.le_of_ble_eq_true rfl), (Nat.le_of_ble_eq_true rfl)⟩) ?_
      refine xk_istore_n (i := 3) (lv' := [(3, .int (q9.1)), (0, va_rf (x0)), (1, .int (x1)), (2, .int (x2))]) hC dX2_fillBar_28 rfl (by decide) rfl ?_
      refine xk_aload_n hC dX2_fillBar_29 1 rfl rfl ?_
      refine xk_iload_n hC dX2_fillBar_30 2 rfl rfl ?_
      refine xk_iconst (v := (1 : Int32)) hC dX2_fillBar_31 (by decide) ?_
      refine xk_iadd hC dX2_fillBar_32 ?_
      refine xk_iload_n hC dX2_fillBar_33 3 rfl rfl ?_
      obtain ⟨u12, h12, hf⟩ := xk_bi hf
      obtain ⟨q11, h11, hf⟩ := xk_bi hf
      refine xk_backi (xk_callV hC 2 xc_3 (c_X2_bestPlace h11) h12 xm_604 xm_606 xm_p20 xm_5 xm_607 ⟨rfl, xd_X2_bestPlace⟩ rfl ⟨Nat.le_of_ble_eq_true rfl, Nat.le_of_ble_eq_true rfl⟩ rfl (Nat.le_of_ble_eq_true rfl) dX2_fillBar_34 ⟨(Nat.le_of_ble_eq_true rfl), (Nat.le_of_ble_eq_true rfl)⟩) ?_
      refine xk_istore (i := 4) (lv' := [(4, .int (q11.1)), (3, .int (q9.1)), (0, va_rf (x0)), (1, .int (x1)), (2, .int (x2))]) hC dX2_fillBar_37 (by decide) rfl ?_
      refine xk_iload hC dX2_fillBar_39 0 rfl ?_
      refine xk_iconst (v := (-1 : Int32)) hC dX2_fillBar_41 (by decide) ?_
      refine xk_icmp_eq (tgt := 65) hC dX2_fillBar_42 (by decide) (fun c13 => ?_) (fun c13 => ?_)
      · replace hf := (if_pos c13).symm.trans hf
        refine xk_locals [2, 3, 4, 1] rfl ?_
        exact t_X2_fillBar_65 hC hr (fun x0 x1 x2 w hf => ih x0 x1 x2 w hf) x0 x1 x2 (q9.1) (q11.2) hf
      · replace hf := (if_neg c13).symm.trans hf
        refine xk_iload_n hC dX2_fillBar_45 1 rfl rfl ?_
        refine xk_aload_n hC dX2_fillBar_46 2 rfl rfl ?_
        refine xk_iload_n hC dX2_fillBar_47 3 rfl rfl ?_
        refine xk_iconst (v := (1 : Int32)) hC dX2_fillBar_48 (by decide) ?_
        refine xk_iadd hC dX2_fillBar_49 ?_
        refine xk_iload hC dX2_fillBar_50 0 rfl ?_
        obtain ⟨u15, h15, hf⟩ := xk_bi hf
        obtain ⟨q14, h14, hf⟩ := xk_bi hf
        refine xk_backi (xk_callV hC 2 xc_3 (c_X2_worthFrom h14) h15 xm_608 xm_610 xm_p21 xm_5 xm_611 ⟨rfl, xd_X2_worthFrom⟩ rfl ⟨Nat.le_of_ble_eq_true rfl, Nat.le_of_ble_eq_true rfl⟩ rfl (Nat.le_of_ble_eq_true rfl) dX2_fillBar_52 ⟨(Nat.le_of_ble_eq_true rfl), (Nat.le_of_ble_eq_true rfl)⟩) ?_
        refine xk_aload_n hC dX2_fillBar_55 2 rfl rfl ?_
        refine xk_iload_n hC dX2_fillBar_56 4 rfl rfl ?_
        refine xk_iload hC dX2_fillBar_57 0 rfl ?_
        obtain ⟨u17, h17, hf⟩ := xk_bi hf
        obtain ⟨q16, h16, hf⟩ := xk_bi hf
        refine xk_backi (xk_callV hC 2 xc_3 (c_X2_costOfSplice h16) h17 xm_615 xm_617 xm_p22 xm_5 xm_618 ⟨rfl, xd_X2_costOfSplice⟩ rfl ⟨Nat.le_of_ble_eq_true rfl, Nat.le_of_ble_eq_true rfl⟩ rfl (Nat.le_of_ble_eq_true rfl) dX2_fillBar_59 ⟨(Nat.le_of_ble_eq_true rfl), (Nat.le_of_ble_eq_true rfl)⟩) ?_
        refine xk_isub hC dX2_fillBar_62 ?_
        refine xk_iadd hC dX2_fillBar_63 ?_
        refine xk_istore_n (i := 3) (lv' := [(3, .int ((q9.1) + ((q14.1) - (q16.1)))), (4, .int (q11.1)), (0, va_rf (x0)), (1, .int (x1)), (2, .int (x2))]) hC dX2_fillBar_64 rfl (by decide) rfl ?_
        refine xk_locals [2, 3, 4, 0] rfl ?_
        exact t_X2_fillBar_65 hC hr (fun x0 x1 x2 w hf => ih x0 x1 x2 w hf) x0 x1 x2 ((q9.1) + ((q14.1) - (q16.1))) (q16.2) hf
def f_X2_fillBar (x0 : Option Nat) (x1 : Int32) (w : xWd) : Option xWd := f_X2_fillBar_2 4096 x0 x1 ((0 : Int32)) w
set_option maxHeartbeats 4000000 in
set_option maxRecDepth 100000 in
theorem t_X2_fillBar_0 {p : Program} {l : Launch} {e : Env} {s : State} {m : MethodId} {args : Array Value} {below : List Frame} {meth : Method} {c : Code} {E : xEv} (hC : xk_C p s m args meth c E prog_4_method_3_code "Clickbook$JoinTable" 6) (hr : meth.sig.returnType = none) {q : xWd} (x0 : Option Nat) (x1 : Int32) (w : xWd) (hf : f_X2_fillBar x0 x1 w = some q) : xk_X p l e { frames := 5, cells := 0, slots := 0, locals := 112 } s m args below meth c (MQ below (xk_Qv E q) args s 0 0 (xk_A E.2.2.1)) E 6 0 0 0 [(0, va_rf (x0)), (1, .int (x1))] [] w := by
  refine xk_iconst (v := (0 : Int32)) hC dX2_fillBar_0 (by decide) ?_
  refine xk_istore_n (i := 2) (lv' := [(2, .int ((0 : Int32))), (0, va_rf (x0)), (1, .int (x1))]) hC dX2_fillBar_1 rfl (by decide) rfl ?_
  refine xk_locals [1, 2, 0] rfl ?_
  exact t_X2_fillBar_2 hC hr 4096 x0 x1 ((0 : Int32)) w hf
theorem xd_X2_fillBar : xy_X2_fillBar.cls ≠ "java/lang/invoke/MethodHandle" ∧ xy_X2_fillBar.cls ≠ "java/lang/invoke/VarHandle" ∧ (parseMethodDescriptor xy_X2_fillBar.desc).map (fun d => d.parameters.length) = some 1 := ⟨by decide +kernel, by decide +kernel, by decide +kernel⟩
theorem c_X2_fillBar {l : Launch} {E : xEv} {x0 : Option Nat} {x1 : Int32} {w : xWd} {q : xWd} (hf : f_X2_fillBar x0 x1 w = some q) : xk_M l xy_X2_fillBar prog_4_method_3_code 6 none 5 112 0 0 E [va_rf (x0), .int (x1)] w (xk_Qv E q) := by
  refine xk_enter (by decide +kernel) (by simp [lg_sl, xk_cat1, xk_cati, xk_catl, xk_catd]) ?_
  intro p e s m args below meth c hC hr hin ha
  rw [show lv_args 0 [va_rf (x0), .int (x1)] = [(0, va_rf (x0)), (1, .int (x1))] by simp [lv_args, xk_cat1, xk_cati, xk_catl, xk_catd]]
  exact t_X2_fillBar_0 hC hr x0 x1 w hf
def f_X2_fill_68 (k17 : Option Nat → Option Nat → Option Nat → Int32 → xWd → Option xWd) (x0 : Option Nat) (x1 : Option Nat) (x2 : Option Nat) (x3 : Int32) (w : xWd) : Option xWd := k17 x0 x1 x2 (x3 + (1 : Int32)) w
set_option maxHeartbeats 4000000 in
set_option maxRecDepth 100000 in
theorem t_X2_fill_68 {p : Program} {l : Launch} {e : Env} {s : State} {m : MethodId} {args : Array Value} {below : List Frame} {meth : Method} {c : Code} {E : xEv} (hC : xk_C p s m args meth c E prog_4_method_2_code "Clickbook$JoinTable" 5) (hr : meth.sig.returnType = none) {q : xWd} {KC KS kc ks : Nat} (h1 : kc + 0 ≤ KC) (h2 : ks + 0 ≤ KS) (h3 : kc + 0 ≤ 42) (h4 : ks + 0 ≤ 2688) {k17 : Option Nat → Option Nat → Option Nat → Int32 → xWd → Option xWd} (hk17 : ∀ (x0 : Option Nat) (x1 : Option Nat) (x2 : Option Nat) (x3 : Int32) (w : xWd), k17 x0 x1 x2 x3 w = some q → xk_X p l e { frames := 7, cells := 42, slots := 2688, locals := 170 } s m args below meth c (MQ below (xk_Qv E q) args s 42 2688 (xk_A E.2.2.1)) E 5 KC KS 17 [(0, va_rf (x0)), (1, va_rf (x1)), (2, va_rf (x2)), (3, .int (x3))] [] w) (x0 : Option Nat) (x1 : Option Nat) (x2 : Option Nat) (x3 : Int32) (w : xWd) (hf : f_X2_fill_68 k17 x0 x1 x2 x3 w = some q) : xk_X p l e { frames := 7, cells := 42, slots := 2688, locals := 170 } s m args below meth c (MQ below (xk_Qv E q) args s 42 2688 (xk_A E.2.2.1)) E 5 kc ks 68 [(0, va_rf (x0)), (1, va_rf (x1)), (2, va_rf (x2)), (3, .int (x3))] [] w := by
  refine xk_iinc (v := x3 + (1 : Int32)) (lv' := [(3, .int (x3 + (1 : Int32))), (0, va_rf (x0)), (1, va_rf (x1)), (2, va_rf (x2))]) hC dX2_fill_68 3 rfl rfl (by decide) (by simp [xk_cat1]) ?_
  refine xk_goto (tgt := 17) hC dX2_fill_71 (by decide) ?_
  refine xk_locals [1, 2, 3, 0] rfl ?_
  refine xk_widen (k := KC) (n := KS) (by omega) (by omega) ?_
  exact hk17 x0 x1 x2 (x3 + (1 : Int32)) w hf
def f_X2_fill_81 : Nat → Option Nat → Int32 → xWd → Option xWd
  | 0, _, _, _ => none
  | n + 1, x0, x3, w => if (x3) < ((0 : Int32)) then some w else (xk_is w (x0) 3).bind (fun u3 => (f_X2_fillBar (x0) (x3) w).bind (fun q2 => f_X2_fill_81 n x0 (x3 + (-1 : Int32)) q2))
set_option maxHeartbeats 4000000 in
set_option maxRecDepth 100000 in
theorem t_X2_fill_81 {p : Program} {l : Launch} {e : Env} {s : State} {m : MethodId} {args : Array Value} {below : List Frame} {meth : Method} {c : Code} {E : xEv} (hC : xk_C p s m args meth c E prog_4_method_2_code "Clickbook$JoinTable" 5) (hr : meth.sig.returnType = none) {q : xWd} : ∀ (n : Nat) (x0 : Option Nat) (x3 : Int32) (w : xWd), f_X2_fill_81 n x0 x3 w = some q → xk_X p l e { frames := 7, cells := 42, slots := 2688, locals := 170 } s m args below meth c (MQ below (xk_Qv E q) args s 42 2688 (xk_A E.2.2.1)) E 5 42 2688 81 [(0, va_rf (x0)), (3, .int (x3))] [] w := by
  intro n
  induction n with
  | zero => intro x0 x3 w hf; have hf : none = some q := hf; cases hf
  | succ n ih =>
    intro x0 x3 w hf
    refine xk_iload_n hC dX2_fill_81 1 rfl rfl ?_
    refine xk_if_lt (tgt := 96) hC dX2_fill_82 (by decide) (fun c1 => ?_) (fun c1 => ?_)
    · replace hf := (if_pos c1).symm.trans hf
      cases hf
      refine xk_widen (k := 42) (n := 2688) (Nat.le_of_ble_eq_true rfl) (Nat.le_of_ble_eq_true rfl) ?_
      exact xk_vret hC hr dX2_fill_96
    · replace hf := (if_neg c1).symm.trans hf
      refine xk_aload_n hC dX2_fill_85 0 rfl rfl ?_
      refine xk_iload_n hC dX2_fill_86 1 rfl rfl ?_
      obtain ⟨u3, h3, hf⟩ := xk_bi hf
      obtain ⟨q2, h2, hf⟩ := xk_bi hf
      refine xk_backv (xk_callV hC 1 xc_3 (c_X2_fillBar h2) h3 xm_599 xm_601 xm_p19 xm_5 xm_602 ⟨rfl, xd_X2_fillBar⟩ rfl ⟨Nat.le_of_ble_eq_true rfl, Nat.le_of_ble_eq_true rfl⟩ rfl (Nat.le_of_ble_eq_true rfl) dX2_fill_87 ⟨(Nat.le_of_ble_eq_true rfl), (Nat.le_of_ble_eq_true rfl)⟩) ?_
      refine xk_iinc (v := x3 + (-1 : Int32)) (lv' := [(3, .int (x3 + (-1 : Int32))), (0, va_rf (x0))]) hC dX2_fill_90 1 rfl rfl (by decide) rfl ?_
      refine xk_goto (tgt := 81) hC dX2_fill_93 (by decide) ?_
      refine xk_locals [1, 0] rfl ?_
      exact ih x0 (x3 + (-1 : Int32)) q2 hf
def f_X2_fill_74 (x0 : Option Nat) (w : xWd) : Option xWd := (xk_gI w (x0) 3 1).bind (fun v1 => f_X2_fill_81 4096 x0 ((v1) - ((1 : Int32))) w)
set_option maxHeartbeats 4000000 in
set_option maxRecDepth 100000 in
theorem t_X2_fill_74 {p : Program} {l : Launch} {e : Env} {s : State} {m : MethodId} {args : Array Value} {below : List Frame} {meth : Method} {c : Code} {E : xEv} (hC : xk_C p s m args meth c E prog_4_method_2_code "Clickbook$JoinTable" 5) (hr : meth.sig.returnType = none) {q : xWd} (x0 : Option Nat) (w : xWd) (hf : f_X2_fill_74 x0 w = some q) : xk_X p l e { frames := 7, cells := 42, slots := 2688, locals := 170 } s m args below meth c (MQ below (xk_Qv E q) args s 42 2688 (xk_A E.2.2.1)) E 5 42 2688 74 [(0, va_rf (x0))] [] w := by
  refine xk_aload_n hC dX2_fill_74 0 rfl rfl ?_
  obtain ⟨v1, h1, hf⟩ := xk_bi hf
  refine xk_getI hC xi_3 xc_3 1 (by decide) xm_64 (Or.inl rfl) dX2_fill_75 h1 ?_
  refine xk_iconst (v := (1 : Int32)) hC dX2_fill_78 (by decide) ?_
  refine xk_isub hC dX2_fill_79 ?_
  refine xk_istore_n (i := 3) (lv' := [(3, .int ((v1) - ((1 : Int32)))), (0, va_rf (x0))]) hC dX2_fill_80 rfl (by decide) rfl ?_
  refine xk_locals [1, 0] rfl ?_
  exact t_X2_fill_81 hC hr 4096 x0 ((v1) - ((1 : Int32))) w hf
def f_X2_fill_17 : Nat → Option Nat → Option Nat → Option Nat → Int32 → xWd → Option xWd
  | 0, _, _, _, _, _ => none
  | n + 1, x0, x1, x2, x3, w => (xk_is w (x2) 5).bind (fun u2 => (f_Jx4a65c_size_8abf5 (x2)  w).bind (fun q1 => if (q1.1) ≤ (x3) then f_X2_fill_74 x0 (q1.2) else if ((40 : Int32)) ≤ (x3) then f_X2_fill_74 x0 (q1.2) else (xk_is q1.2 (x2) 5).bind (fun u6 => (f_Jx4a65c_get_915e3 (x2) (x3) q1.2).bind (fun q5 => (xk_cc q5.2 (q5.1) 4).bind (fun u7 => (xk_gR q5.2 (q5.1) 4 1).bind (fun v8 => if (v8) = (x1) then (xk_is q5.2 (q5.1) 4).bind (fun u11 => (f_X3_isValid (q5.1)  q5.2).bind (fun q10 => if (q10.1) = ((0 : Int32)) then f_X2_fill_68 (f_X2_fill_17 n) x0 x1 x2 x3 (q10.2) else (xk_gR q10.2 (x0) 3 0).bind (fun v13 => (xk_is q10.2 (v13) 5).bind (fun u15 => (f_Jx4a65c_add_9ea2d (v13) (q5.1) q10.2).bind (fun q14 => f_X2_fill_68 (f_X2_fill_17 n) x0 x1 x2 x3 (q14.2)))))) else f_X2_fill_68 (f_X2_fill_17 n) x0 x1 x2 x3 (q5.2)))))))
set_option maxHeartbeats 4000000 in
set_option maxRecDepth 100000 in
theorem t_X2_fill_17 {p : Program} {l : Launch} {e : Env} {s : State} {m : MethodId} {args : Array Value} {below : List Frame} {meth : Method} {c : Code} {E : xEv} (hC : xk_C p s m args meth c E prog_4_method_2_code "Clickbook$JoinTable" 5) (hr : meth.sig.returnType = none) {q : xWd} : ∀ (n : Nat) (x0 : Option Nat) (x1 : Option Nat) (x2 : Option Nat) (x3 : Int32) (w : xWd) (kc ks : Nat), kc + n * 1 ≤ 41 → ks + n * 64 ≤ 2624 → f_X2_fill_17 n x0 x1 x2 x3 w = some q → xk_X p l e { frames := 7, cells := 42, slots := 2688, locals := 170 } s m args below meth c (MQ below (xk_Qv E q) args s 42 2688 (xk_A E.2.2.1)) E 5 kc ks 17 [(0, va_rf (x0)), (1, va_rf (x1)), (2, va_rf (x2)), (3, .int (x3))] [] w := by
  intro n
  induction n with
  | zero => intro x0 x1 x2 x3 w kc ks hkc hks hf; have hf : none = some q := hf; cases hf
  | succ n ih =>
    intro x0 x1 x2 x3 w kc ks hkc hks hf
    rw [Nat.succ_mul] at hkc hks
    refine xk_iload_n hC dX2_fill_17 3 rfl rfl ?_
    refine xk_aload_n hC dX2_fill_18 2 rfl rfl ?_
    obtain ⟨u2, h2, hf⟩ := xk_bi hf
    obtain ⟨q1, h1, hf⟩ := xk_bi hf
    refine xk_backi (xk_callV hC 0 xc_5 (c_Jx4a65c_size_8abf5 h1) h2 xm_594 xm_188 xm_189 xm_4 xm_190 ⟨rfl, xd_Jx4a65c_size_8abf5⟩ rfl ⟨Nat.le_of_ble_eq_true rfl, Nat.le_of_ble_eq_true rfl⟩ rfl (Nat.le_of_ble_eq_true rfl) dX2_fill_19 ⟨(by show _ ≤ 42; omega), (by show _ ≤ 2688; omega)⟩) ?_
    refine xk_icmp_ge (tgt := 74) hC dX2_fill_22 (by decide) (fun c3 => ?_) (fun c3 => ?_)
    · replace hf := (if_pos c3).symm.trans hf
      refine xk_locals [0] rfl ?_
      refine xk_widen (k := 42) (n := 2688) (by omega) (by omega) ?_
      exact t_X2_fill_74 hC hr x0 (q1.2) hf
    · replace hf := (if_neg c3).symm.trans hf
      refine xk_iload_n hC dX2_fill_25 3 rfl rfl ?_
      refine xk_bipush (v := (40 : Int32)) hC dX2_fill_26 (by decide) ?_
      refine xk_icmp_ge (tgt := 74) hC dX2_fill_28 (by decide) (fun c4 => ?_) (fun c4 => ?_)
      · replace hf := (if_pos c4).symm.trans hf
        refine xk_locals [0] rfl ?_
        refine xk_widen (k := 42) (n := 2688) (by omega) (by omega) ?_
        exact t_X2_fill_74 hC hr x0 (q1.2) hf
      · replace hf := (if_neg c4).symm.trans hf
        refine xk_aload_n hC dX2_fill_31 2 rfl rfl ?_
        refine xk_iload_n hC dX2_fill_32 3 rfl rfl ?_
        obtain ⟨u6, h6, hf⟩ := xk_bi hf
        obtain ⟨q5, h5, hf⟩ := xk_bi hf
        refine xk_backq (xk_callV hC 1 xc_5 (c_Jx4a65c_get_915e3 h5) h6 xm_595 xm_382 xm_383 xm_4 xm_384 ⟨rfl, xd_Jx4a65c_get_915e3⟩ rfl ⟨Nat.le_of_ble_eq_true rfl, Nat.le_of_ble_eq_true rfl⟩ rfl (Nat.le_of_ble_eq_true rfl) dX2_fill_33 ⟨(by show _ ≤ 42; omega), (by show _ ≤ 2688; omega)⟩) ?_
        obtain ⟨u7, h7, hf⟩ := xk_bi hf
        refine xk_cast hC xc_4 xm_596 dX2_fill_36 h7 ?_
        refine xk_astore (i := 4) (lv' := [(4, va_rf (q5.1)), (0, va_rf (x0)), (1, va_rf (x1)), (2, va_rf (x2)), (3, .int (x3))]) hC dX2_fill_39 (by decide) rfl ?_
        refine xk_aload hC dX2_fill_41 0 rfl ?_
        obtain ⟨v8, h8, hf⟩ := xk_bi hf
        refine xk_getR hC xi_4 xc_4 1 (by decide) xm_478 (Or.inl rfl) dX2_fill_43 h8 ?_
        refine xk_aload_n hC dX2_fill_46 2 rfl rfl ?_
        refine xk_acmp_ne (tgt := 68) hC dX2_fill_47 (by decide) (fun c9 => ?_) (fun c9 => ?_)
        · replace hf := (if_neg c9).symm.trans hf
          refine xk_locals [1, 2, 3, 4] rfl ?_
          exact t_X2_fill_68 hC hr (by omega) (by omega) (by omega) (by omega) (fun x0 x1 x2 x3 w hf => ih x0 x1 x2 x3 w (kc + 1) (ks + 64) (by omega) (by omega) hf) x0 x1 x2 x3 (q5.2) hf
        · replace hf := (if_pos c9).symm.trans hf
          refine xk_aload hC dX2_fill_50 0 rfl ?_
          obtain ⟨u11, h11, hf⟩ := xk_bi hf
          obtain ⟨q10, h10, hf⟩ := xk_bi hf
          refine xk_backi (xk_callV hC 0 xc_4 (c_X3_isValid h10) h11 xm_597 xm_520 xm_521 xm_20 xm_522 ⟨rfl, xd_X3_isValid⟩ rfl ⟨Nat.le_of_ble_eq_true rfl, Nat.le_of_ble_eq_true rfl⟩ rfl (Nat.le_of_ble_eq_true rfl) dX2_fill_52 ⟨(by show _ ≤ 42; omega), (by show _ ≤ 2688; omega)⟩) ?_
          refine xk_if_eq (tgt := 68) hC dX2_fill_55 (by decide) (fun c12 => ?_) (fun c12 => ?_)
          · replace hf := (if_pos c12).symm.trans hf
            refine xk_locals [1, 2, 3, 4] rfl ?_
            exact t_X2_fill_68 hC hr (by omega) (by omega) (by omega) (by omega) (fun x0 x1 x2 x3 w hf => ih x0 x1 x2 x3 w (kc + 1) (ks + 64) (by omega) (by omega) hf) x0 x1 x2 x3 (q10.2) hf
          · replace hf := (if_neg c12).symm.trans hf
            refine xk_aload_n hC dX2_fill_58 1 rfl rfl ?_
            obtain ⟨v13, h13, hf⟩ := xk_bi hf
            refine xk_getR hC xi_3 xc_3 0 (by decide) xm_63 (Or.inl rfl) dX2_fill_59 h13 ?_
            refine xk_aload hC dX2_fill_62 0 rfl ?_
            obtain ⟨u15, h15, hf⟩ := xk_bi hf
            obtain ⟨q14, h14, hf⟩ := xk_bi hf
            refine xk_backi (xk_callV hC 1 xc_5 (c_Jx4a65c_add_9ea2d h14) h15 xm_598 xm_227 xm_228 xm_4 xm_229 ⟨rfl, xd_Jx4a65c_add_9ea2d⟩ rfl ⟨Nat.le_of_ble_eq_true rfl, Nat.le_of_ble_eq_true rfl⟩ rfl (Nat.le_of_ble_eq_true rfl) dX2_fill_64 ⟨(by show _ ≤ 42; omega), (by show _ ≤ 2688; omega)⟩) ?_
            refine xk_pop hC dX2_fill_67 rfl ?_
            refine xk_locals [1, 2, 3, 4] rfl ?_
            exact t_X2_fill_68 hC hr (by omega) (by omega) (by omega) (by omega) (fun x0 x1 x2 x3 w hf => ih x0 x1 x2 x3 w (kc + 1) (ks + 64) (by omega) (by omega) hf) x0 x1 x2 x3 (q14.2) hf
def f_X2_fill (x0 : Option Nat) (x1 : Option Nat) (x2 : Option Nat) (w : xWd) : Option xWd := (xk_gI w (x1) 1 7).bind (fun v1 => (xk_pV w (x0) 3 1 (.int (v1))).bind (fun w2 => (xk_gR w2 (x0) 3 0).bind (fun v3 => (xk_is w2 (v3) 5).bind (fun u5 => (f_Jx4a65c_clear_da8c8 (v3)  w2).bind (fun q4 => f_X2_fill_17 41 x0 x1 x2 ((0 : Int32)) q4)))))
set_option maxHeartbeats 4000000 in
set_option maxRecDepth 100000 in
theorem t_X2_fill_0 {p : Program} {l : Launch} {e : Env} {s : State} {m : MethodId} {args : Array Value} {below : List Frame} {meth : Method} {c : Code} {E : xEv} (hC : xk_C p s m args meth c E prog_4_method_2_code "Clickbook$JoinTable" 5) (hr : meth.sig.returnType = none) {q : xWd} (x0 : Option Nat) (x1 : Option Nat) (x2 : Option Nat) (w : xWd) (hf : f_X2_fill x0 x1 x2 w = some q) : xk_X p l e { frames := 7, cells := 42, slots := 2688, locals := 170 } s m args below meth c (MQ below (xk_Qv E q) args s 42 2688 (xk_A E.2.2.1)) E 5 0 0 0 [(0, va_rf (x0)), (1, va_rf (x1)), (2, va_rf (x2))] [] w := by
  refine xk_aload_n hC dX2_fill_0 0 rfl rfl ?_
  refine xk_aload_n hC dX2_fill_1 1 rfl rfl ?_
  obtain ⟨v1, h1, hf⟩ := xk_bi hf
  refine xk_getI hC xi_1 xc_1 7 (by decide) xm_332 (Or.inl rfl) dX2_fill_2 h1 ?_
  obtain ⟨w2, h2, hf⟩ := xk_bi hf
  refine xk_put hC xi_3 xc_3 xo_3 xn_3 1 (by decide) xm_64 (Or.inl rfl) rfl rfl rfl dX2_fill_5 h2 ?_
  refine xk_aload_n hC dX2_fill_8 0 rfl rfl ?_
  obtain ⟨v3, h3, hf⟩ := xk_bi hf
  refine xk_getR hC xi_3 xc_3 0 (by decide) xm_63 (Or.inl rfl) dX2_fill_9 h3 ?_
  obtain ⟨u5, h5, hf⟩ := xk_bi hf
  obtain ⟨q4, h4, hf⟩ := xk_bi hf
  refine xk_backv (xk_callV hC 0 xc_5 (c_Jx4a65c_clear_da8c8 h4) h5 xm_590 xm_591 xm_592 xm_4 xm_593 ⟨rfl, xd_Jx4a65c_clear_da8c8⟩ rfl ⟨Nat.le_of_ble_eq_true rfl, Nat.le_of_ble_eq_true rfl⟩ rfl (Nat.le_of_ble_eq_true rfl) dX2_fill_12 ⟨(Nat.le_of_ble_eq_true rfl), (Nat.le_of_ble_eq_true rfl)⟩) ?_
  refine xk_iconst (v := (0 : Int32)) hC dX2_fill_15 (by decide) ?_
  refine xk_istore_n (i := 3) (lv' := [(3, .int ((0 : Int32))), (0, va_rf (x0)), (1, va_rf (x1)), (2, va_rf (x2))]) hC dX2_fill_16 rfl (by decide) (by simp [xk_cat1]) ?_
  refine xk_locals [1, 2, 3, 0] rfl ?_
  exact t_X2_fill_17 hC hr 41 x0 x1 x2 ((0 : Int32)) q4 _ _ (Nat.le_of_ble_eq_true rfl) (Nat.le_of_ble_eq_true rfl) hf
theorem xd_X2_fill : xy_X2_fill.cls ≠ "java/lang/invoke/MethodHandle" ∧ xy_X2_fill.cls ≠ "java/lang/invoke/VarHandle" ∧ (parseMethodDescriptor xy_X2_fill.desc).map (fun d => d.parameters.length) = some 2 := ⟨by decide +kernel, by decide +kernel, by decide +kernel⟩
theorem c_X2_fill {l : Launch} {E : xEv} {x0 : Option Nat} {x1 : Option Nat} {x2 : Option Nat} {w : xWd} {q : xWd} (hf : f_X2_fill x0 x1 x2 w = some q) : xk_M l xy_X2_fill prog_4_method_2_code 5 none 7 170 42 2688 E [va_rf (x0), va_rf (x1), va_rf (x2)] w (xk_Qv E q) := by
  refine xk_enter (by decide +kernel) (by simp [lg_sl, xk_cat1, xk_cati, xk_catl, xk_catd]) ?_
  intro p e s m args below meth c hC hr hin ha
  rw [show lv_args 0 [va_rf (x0), va_rf (x1), va_rf (x2)] = [(0, va_rf (x0)), (1, va_rf (x1)), (2, va_rf (x2))] by simp [lv_args, xk_cat1, xk_cati, xk_catl, xk_catd]]
  exact t_X2_fill_0 hC hr x0 x1 x2 w hf
def f_X2_bestWorth_22 (s0 : Int32) (w : xWd) : Option (Int32 × xWd) := some (s0, w)
set_option maxHeartbeats 4000000 in
set_option maxRecDepth 100000 in
theorem t_X2_bestWorth_22 {p : Program} {l : Launch} {e : Env} {s : State} {m : MethodId} {args : Array Value} {below : List Frame} {meth : Method} {c : Code} {E : xEv} (hC : xk_C p s m args meth c E prog_4_method_4_code "Clickbook$JoinTable" 2) (hr : meth.sig.returnType = (some .int)) {q : (Int32 × xWd)} (s0 : Int32) (w : xWd) (hf : f_X2_bestWorth_22 s0 w = some q) : xk_X p l e { frames := 5, cells := 0, slots := 0, locals := 112 } s m args below meth c (MQ below (xk_Qi E q) args s 0 0 (xk_A E.2.2.1)) E 2 0 0 22 [] [.int (s0)] w := by
  cases hf
  refine xk_widen (k := 0) (n := 0) (Nat.le_of_ble_eq_true rfl) (Nat.le_of_ble_eq_true rfl) ?_
  exact xk_iret hC hr rfl dX2_bestWorth_22
def f_X2_bestWorth (x0 : Option Nat) (w : xWd) : Option (Int32 × xWd) := (xk_is w (x0) 3).bind (fun u2 => (f_X2_bestPlace (x0) ((0 : Int32)) ((-1 : Int32)) w).bind (fun q1 => if (q1.1) = ((-1 : Int32)) then f_X2_bestWorth_22 ((-1 : Int32)) (q1.2) else (xk_is q1.2 (x0) 3).bind (fun u5 => (f_X2_worthFrom (x0) ((0 : Int32)) (q1.1) q1.2).bind (fun q4 => f_X2_bestWorth_22 (q4.1) (q4.2)))))
set_option maxHeartbeats 4000000 in
set_option maxRecDepth 100000 in
theorem t_X2_bestWorth_0 {p : Program} {l : Launch} {e : Env} {s : State} {m : MethodId} {args : Array Value} {below : List Frame} {meth : Method} {c : Code} {E : xEv} (hC : xk_C p s m args meth c E prog_4_method_4_code "Clickbook$JoinTable" 2) (hr : meth.sig.returnType = (some .int)) {q : (Int32 × xWd)} (x0 : Option Nat) (w : xWd) (hf : f_X2_bestWorth x0 w = some q) : xk_X p l e { frames := 5, cells := 0, slots := 0, locals := 112 } s m args below meth c (MQ below (xk_Qi E q) args s 0 0 (xk_A E.2.2.1)) E 2 0 0 0 [(0, va_rf (x0))] [] w := by
  refine xk_aload_n hC dX2_bestWorth_0 0 rfl rfl ?_
  refine xk_iconst (v := (0 : Int32)) hC dX2_bestWorth_1 (by decide) ?_
  refine xk_iconst (v := (-1 : Int32)) hC dX2_bestWorth_2 (by decide) ?_
  obtain ⟨u2, h2, hf⟩ := xk_bi hf
  obtain ⟨q1, h1, hf⟩ := xk_bi hf
  refine xk_backi (xk_callV hC 2 xc_3 (c_X2_bestPlace h1) h2 xm_604 xm_606 xm_p20 xm_5 xm_607 ⟨rfl, xd_X2_bestPlace⟩ rfl ⟨Nat.le_of_ble_eq_true rfl, Nat.le_of_ble_eq_true rfl⟩ rfl (Nat.le_of_ble_eq_true rfl) dX2_bestWorth_3 ⟨(Nat.le_of_ble_eq_true rfl), (Nat.le_of_ble_eq_true rfl)⟩) ?_
  refine xk_istore_n (i := 1) (lv' := [(1, .int (q1.1)), (0, va_rf (x0))]) hC dX2_bestWorth_6 rfl (by decide) (by simp [xk_cat1]) ?_
  refine xk_iload_n hC dX2_bestWorth_7 0 rfl rfl ?_
  refine xk_iconst (v := (-1 : Int32)) hC dX2_bestWorth_8 (by decide) ?_
  refine xk_icmp_ne (tgt := 16) hC dX2_bestWorth_9 (by decide) (fun c3 => ?_) (fun c3 => ?_)
  · replace hf := (if_neg c3).symm.trans hf
    refine xk_aload_n hC dX2_bestWorth_16 1 rfl rfl ?_
    refine xk_iconst (v := (0 : Int32)) hC dX2_bestWorth_17 (by decide) ?_
    refine xk_iload_n hC dX2_bestWorth_18 0 rfl rfl ?_
    obtain ⟨u5, h5, hf⟩ := xk_bi hf
    obtain ⟨q4, h4, hf⟩ := xk_bi hf
    refine xk_backi (xk_callV hC 2 xc_3 (c_X2_worthFrom h4) h5 xm_608 xm_610 xm_p21 xm_5 xm_611 ⟨rfl, xd_X2_worthFrom⟩ rfl ⟨Nat.le_of_ble_eq_true rfl, Nat.le_of_ble_eq_true rfl⟩ rfl (Nat.le_of_ble_eq_true rfl) dX2_bestWorth_19 ⟨(Nat.le_of_ble_eq_true rfl), (Nat.le_of_ble_eq_true rfl)⟩) ?_
    refine xk_locals [] rfl ?_
    exact t_X2_bestWorth_22 hC hr (q4.1) (q4.2) hf
  · replace hf := (if_pos c3).symm.trans hf
    refine xk_iconst (v := (-1 : Int32)) hC dX2_bestWorth_12 (by decide) ?_
    refine xk_goto (tgt := 22) hC dX2_bestWorth_13 (by decide) ?_
    refine xk_locals [] rfl ?_
    exact t_X2_bestWorth_22 hC hr ((-1 : Int32)) (q1.2) hf
theorem xd_X2_bestWorth : xy_X2_bestWorth.cls ≠ "java/lang/invoke/MethodHandle" ∧ xy_X2_bestWorth.cls ≠ "java/lang/invoke/VarHandle" ∧ (parseMethodDescriptor xy_X2_bestWorth.desc).map (fun d => d.parameters.length) = some 0 := ⟨by decide +kernel, by decide +kernel, by decide +kernel⟩
theorem c_X2_bestWorth {l : Launch} {E : xEv} {x0 : Option Nat} {w : xWd} {q : (Int32 × xWd)} (hf : f_X2_bestWorth x0 w = some q) : xk_M l xy_X2_bestWorth prog_4_method_4_code 2 (some .int) 5 112 0 0 E [va_rf (x0)] w (xk_Qi E q) := by
  refine xk_enter (by decide +kernel) (by simp [lg_sl, xk_cat1, xk_cati, xk_catl, xk_catd]) ?_
  intro p e s m args below meth c hC hr hin ha
  rw [show lv_args 0 [va_rf (x0)] = [(0, va_rf (x0))] by simp [lv_args, xk_cat1, xk_cati, xk_catl, xk_catd]]
  exact t_X2_bestWorth_0 hC hr x0 w hf
def f_X2_takeOf_63 (s0 : Int32) (w : xWd) : Option (Int32 × xWd) := some (s0, w)
set_option maxHeartbeats 4000000 in
set_option maxRecDepth 100000 in
theorem t_X2_takeOf_63 {p : Program} {l : Launch} {e : Env} {s : State} {m : MethodId} {args : Array Value} {below : List Frame} {meth : Method} {c : Code} {E : xEv} (hC : xk_C p s m args meth c E prog_4_method_5_code "Clickbook$JoinTable" 4) (hr : meth.sig.returnType = (some .int)) {q : (Int32 × xWd)} (s0 : Int32) (w : xWd) (hf : f_X2_takeOf_63 s0 w = some q) : xk_X p l e { frames := 5, cells := 0, slots := 0, locals := 112 } s m args below meth c (MQ below (xk_Qi E q) args s 0 0 (xk_A E.2.2.1)) E 4 0 0 63 [] [.int (s0)] w := by
  cases hf
  refine xk_widen (k := 0) (n := 0) (Nat.le_of_ble_eq_true rfl) (Nat.le_of_ble_eq_true rfl) ?_
  exact xk_iret hC hr rfl dX2_takeOf_63
def f_X2_takeOf_45 (w : xWd) : Option (Int32 × xWd) := f_X2_takeOf_63 ((-1 : Int32)) w
set_option maxHeartbeats 4000000 in
set_option maxRecDepth 100000 in
theorem t_X2_takeOf_45 {p : Program} {l : Launch} {e : Env} {s : State} {m : MethodId} {args : Array Value} {below : List Frame} {meth : Method} {c : Code} {E : xEv} (hC : xk_C p s m args meth c E prog_4_method_5_code "Clickbook$JoinTable" 4) (hr : meth.sig.returnType = (some .int)) {q : (Int32 × xWd)} (w : xWd) (hf : f_X2_takeOf_45 w = some q) : xk_X p l e { frames := 5, cells := 0, slots := 0, locals := 112 } s m args below meth c (MQ below (xk_Qi E q) args s 0 0 (xk_A E.2.2.1)) E 4 0 0 45 [] [] w := by
  refine xk_iconst (v := (-1 : Int32)) hC dX2_takeOf_45 (by decide) ?_
  refine xk_goto (tgt := 63) hC dX2_takeOf_46 (by decide) ?_
  exact t_X2_takeOf_63 hC hr ((-1 : Int32)) w hf
def f_X2_takeOf_30 (x0 : Option Nat) (x2 : Int32) (w : xWd) : Option (Int32 × xWd) := if (x2) < ((0 : Int32)) then f_X2_takeOf_45 w else (xk_gR w (x0) 3 0).bind (fun v2 => (xk_is w (v2) 5).bind (fun u4 => (f_Jx4a65c_size_8abf5 (v2)  w).bind (fun q3 => if (x2) < (q3.1) then (xk_gR q3.2 (x0) 3 0).bind (fun v6 => (xk_is q3.2 (v6) 5).bind (fun u8 => (f_Jx4a65c_get_915e3 (v6) (x2) q3.2).bind (fun q7 => (xk_cc q7.2 (q7.1) 4).bind (fun u9 => (xk_gI q7.2 (q7.1) 4 0).bind (fun v10 => f_X2_takeOf_63 v10 (q7.2)))))) else f_X2_takeOf_45 (q3.2))))
set_option maxHeartbeats 4000000 in
set_option maxRecDepth 100000 in
theorem t_X2_takeOf_30 {p : Program} {l : Launch} {e : Env} {s : State} {m : MethodId} {args : Array Value} {below : List Frame} {meth : Method} {c : Code} {E : xEv} (hC : xk_C p s m args meth c E prog_4_method_5_code "Clickbook$JoinTable" 4) (hr : meth.sig.returnType = (some .int)) {q : (Int32 × xWd)} (x0 : Option Nat) (x2 : Int32) (w : xWd) (hf : f_X2_takeOf_30 x0 x2 w = some q) : xk_X p l e { frames := 5, cells := 0, slots := 0, locals := 112 } s m args below meth c (MQ below (xk_Qi E q) args s 0 0 (xk_A E.2.2.1)) E 4 0 0 30 [(0, va_rf (x0)), (2, .int (x2))] [] w := by
  refine xk_iload_n hC dX2_takeOf_30 1 rfl rfl ?_
  refine xk_if_lt (tgt := 45) hC dX2_takeOf_31 (by decide) (fun c1 => ?_) (fun c1 => ?_)
  · replace hf := (if_pos c1).symm.trans hf
    refine xk_locals [] rfl ?_
    exact t_X2_takeOf_45 hC hr w hf
  · replace hf := (if_neg c1).symm.trans hf
    refine xk_iload_n hC dX2_takeOf_34 1 rfl rfl ?_
    refine xk_aload_n hC dX2_takeOf_35 0 rfl rfl ?_
    obtain ⟨v2, h2, hf⟩ := xk_bi hf
    refine xk_getR hC xi_3 xc_3 0 (by decide) xm_63 (Or.inl rfl) dX2_takeOf_36 h2 ?_
    obtain ⟨u4, h4, hf⟩ := xk_bi hf
    obtain ⟨q3, h3, hf⟩ := xk_bi hf
    refine xk_backi (xk_callV hC 0 xc_5 (c_Jx4a65c_size_8abf5 h3) h4 xm_594 xm_188 xm_189 xm_4 xm_190 ⟨rfl, xd_Jx4a65c_size_8abf5⟩ rfl ⟨Nat.le_of_ble_eq_true rfl, Nat.le_of_ble_eq_true rfl⟩ rfl (Nat.le_of_ble_eq_true rfl) dX2_takeOf_39 ⟨(Nat.le_of_ble_eq_true rfl), (Nat.le_of_ble_eq_true rfl)⟩) ?_
    refine xk_icmp_lt (tgt := 49) hC dX2_takeOf_42 (by decide) (fun c5 => ?_) (fun c5 => ?_)
    · replace hf := (if_pos c5).symm.trans hf
      refine xk_aload_n hC dX2_takeOf_49 0 rfl rfl ?_
      obtain ⟨v6, h6, hf⟩ := xk_bi hf
      refine xk_getR hC xi_3 xc_3 0 (by decide) xm_63 (Or.inl rfl) dX2_takeOf_50 h6 ?_
      refine xk_iload_n hC dX2_takeOf_53 1 rfl rfl ?_
      obtain ⟨u8, h8, hf⟩ := xk_bi hf
      obtain ⟨q7, h7, hf⟩ := xk_bi hf
      refine xk_backq (xk_callV hC 1 xc_5 (c_Jx4a65c_get_915e3 h7) h8 xm_595 xm_382 xm_383 xm_4 xm_384 ⟨rfl, xd_Jx4a65c_get_915e3⟩ rfl ⟨Nat.le_of_ble_eq_true rfl, Nat.le_of_ble_eq_true rfl⟩ rfl (Nat.le_of_ble_eq_true rfl) dX2_takeOf_54 ⟨(Nat.le_of_ble_eq_true rfl), (Nat.le_of_ble_eq_true rfl)⟩) ?_
      obtain ⟨u9, h9, hf⟩ := xk_bi hf
      refine xk_cast hC xc_4 xm_596 dX2_takeOf_57 h9 ?_
      obtain ⟨v10, h10, hf⟩ := xk_bi hf
      refine xk_getI hC xi_4 xc_4 0 (by decide) xm_476 (Or.inl rfl) dX2_takeOf_60 h10 ?_
      refine xk_locals [] rfl ?_
      exact t_X2_takeOf_63 hC hr v10 (q7.2) hf
    · replace hf := (if_neg c5).symm.trans hf
      refine xk_locals [] rfl ?_
      exact t_X2_takeOf_45 hC hr (q3.2) hf
def f_X2_takeOf_4 : Nat → Option Nat → Int32 → Int32 → Int32 → xWd → Option (Int32 × xWd)
  | 0, _, _, _, _, _ => none
  | n + 1, x0, x1, x2, x3, w => if (x1) < (x3) then f_X2_takeOf_30 x0 x2 w else (xk_gI w (x0) 3 1).bind (fun v2 => if (v2) ≤ (x3) then f_X2_takeOf_30 x0 x2 w else (xk_is w (x0) 3).bind (fun u5 => (f_X2_bestPlace (x0) (x3) (x2) w).bind (fun q4 => f_X2_takeOf_4 n x0 x1 (q4.1) (x3 + (1 : Int32)) (q4.2))))
set_option maxHeartbeats 4000000 in
set_option maxRecDepth 100000 in
theorem t_X2_takeOf_4 {p : Program} {l : Launch} {e : Env} {s : State} {m : MethodId} {args : Array Value} {below : List Frame} {meth : Method} {c : Code} {E : xEv} (hC : xk_C p s m args meth c E prog_4_method_5_code "Clickbook$JoinTable" 4) (hr : meth.sig.returnType = (some .int)) {q : (Int32 × xWd)} : ∀ (n : Nat) (x0 : Option Nat) (x1 : Int32) (x2 : Int32) (x3 : Int32) (w : xWd), f_X2_takeOf_4 n x0 x1 x2 x3 w = some q → xk_X p l e { frames := 5, cells := 0, slots := 0, locals := 112 } s m args below meth c (MQ below (xk_Qi E q) args s 0 0 (xk_A E.2.2.1)) E 4 0 0 4 [(0, va_rf (x0)), (1, .int (x1)), (2, .int (x2)), (3, .int (x3))] [] w := by
  intro n
  induction n with
  | zero => intro x0 x1 x2 x3 w hf; have hf : none = some q := hf; cases hf
  | succ n ih =>
    intro x0 x1 x2 x3 w hf
    refine xk_iload_n hC dX2_takeOf_4 3 rfl rfl ?_
    refine xk_iload_n hC dX2_takeOf_5 1 rfl rfl ?_
    refine xk_icmp_gt (tgt := 30) hC dX2_takeOf_6 (by decide) (fun c1 => ?_) (fun c1 => ?_)
    · replace hf := (if_pos c1).symm.trans hf
      refine xk_locals [0, 2] rfl ?_
      exact t_X2_takeOf_30 hC hr x0 x2 w hf
    · replace hf := (if_neg c1).symm.trans hf
      refine xk_iload_n hC dX2_takeOf_9 3 rfl rfl ?_
      refine xk_aload_n hC dX2_takeOf_10 0 rfl rfl ?_
      obtain ⟨v2, h2, hf⟩ := xk_bi hf
      refine xk_getI hC xi_3 xc_3 1 (by decide) xm_64 (Or.inl rfl) dX2_takeOf_11 h2 ?_
      refine xk_icmp_ge (tgt := 30) hC dX2_takeOf_14 (by decide) (fun c3 => ?_) (fun c3 => ?_)
      · replace hf := (if_pos c3).symm.trans hf
        refine xk_locals [0, 2] rfl ?_
        exact t_X2_takeOf_30 hC hr x0 x2 w hf
      · replace hf := (if_neg c3).symm.trans hf
        refine xk_aload_n hC dX2_takeOf_17 0 rfl rfl ?_
        refine xk_iload_n hC dX2_takeOf_18 3 rfl rfl ?_
        refine xk_iload_n hC dX2_takeOf_19 2 rfl rfl ?_
        obtain ⟨u5, h5, hf⟩ := xk_bi hf
        obtain ⟨q4, h4, hf⟩ := xk_bi hf
        refine xk_backi (xk_callV hC 2 xc_3 (c_X2_bestPlace h4) h5 xm_604 xm_606 xm_p20 xm_5 xm_607 ⟨rfl, xd_X2_bestPlace⟩ rfl ⟨Nat.le_of_ble_eq_true rfl, Nat.le_of_ble_eq_true rfl⟩ rfl (Nat.le_of_ble_eq_true rfl) dX2_takeOf_20 ⟨(Nat.le_of_ble_eq_true rfl), (Nat.le_of_ble_eq_true rfl)⟩) ?_
        refine xk_istore_n (i := 2) (lv' := [(2, .int (q4.1)), (0, va_rf (x0)), (1, .int (x1)), (3, .int (x3))]) hC dX2_takeOf_23 rfl (by decide) rfl ?_
        refine xk_iinc (v := x3 + (1 : Int32)) (lv' := [(3, .int (x3 + (1 : Int32))), (2, .int (q4.1)), (0, va_rf (x0)), (1, .int (x1))]) hC dX2_takeOf_24 3 rfl rfl (by decide) rfl ?_
        refine xk_goto (tgt := 4) hC dX2_takeOf_27 (by decide) ?_
        refine xk_locals [2, 3, 1, 0] rfl ?_
        exact ih x0 x1 (q4.1) (x3 + (1 : Int32)) (q4.2) hf
def f_X2_takeOf (x0 : Option Nat) (x1 : Int32) (w : xWd) : Option (Int32 × xWd) := f_X2_takeOf_4 4096 x0 x1 ((-1 : Int32)) ((0 : Int32)) w
set_option maxHeartbeats 4000000 in
set_option maxRecDepth 100000 in
theorem t_X2_takeOf_0 {p : Program} {l : Launch} {e : Env} {s : State} {m : MethodId} {args : Array Value} {below : List Frame} {meth : Method} {c : Code} {E : xEv} (hC : xk_C p s m args meth c E prog_4_method_5_code "Clickbook$JoinTable" 4) (hr : meth.sig.returnType = (some .int)) {q : (Int32 × xWd)} (x0 : Option Nat) (x1 : Int32) (w : xWd) (hf : f_X2_takeOf x0 x1 w = some q) : xk_X p l e { frames := 5, cells := 0, slots := 0, locals := 112 } s m args below meth c (MQ below (xk_Qi E q) args s 0 0 (xk_A E.2.2.1)) E 4 0 0 0 [(0, va_rf (x0)), (1, .int (x1))] [] w := by
  refine xk_iconst (v := (-1 : Int32)) hC dX2_takeOf_0 (by decide) ?_
  refine xk_istore_n (i := 2) (lv' := [(2, .int ((-1 : Int32))), (0, va_rf (x0)), (1, .int (x1))]) hC dX2_takeOf_1 rfl (by decide) rfl ?_
  refine xk_iconst (v := (0 : Int32)) hC dX2_takeOf_2 (by decide) ?_
  refine xk_istore_n (i := 3) (lv' := [(3, .int ((0 : Int32))), (2, .int ((-1 : Int32))), (0, va_rf (x0)), (1, .int (x1))]) hC dX2_takeOf_3 rfl (by decide) rfl ?_
  refine xk_locals [2, 3, 1, 0] rfl ?_
  exact t_X2_takeOf_4 hC hr 4096 x0 x1 ((-1 : Int32)) ((0 : Int32)) w hf
theorem xd_X2_takeOf : xy_X2_takeOf.cls ≠ "java/lang/invoke/MethodHandle" ∧ xy_X2_takeOf.cls ≠ "java/lang/invoke/VarHandle" ∧ (parseMethodDescriptor xy_X2_takeOf.desc).map (fun d => d.parameters.length) = some 1 := ⟨by decide +kernel, by decide +kernel, by decide +kernel⟩
theorem c_X2_takeOf {l : Launch} {E : xEv} {x0 : Option Nat} {x1 : Int32} {w : xWd} {q : (Int32 × xWd)} (hf : f_X2_takeOf x0 x1 w = some q) : xk_M l xy_X2_takeOf prog_4_method_5_code 4 (some .int) 5 112 0 0 E [va_rf (x0), .int (x1)] w (xk_Qi E q) := by
  refine xk_enter (by decide +kernel) (by simp [lg_sl, xk_cat1, xk_cati, xk_catl, xk_catd]) ?_
  intro p e s m args below meth c hC hr hin ha
  rw [show lv_args 0 [va_rf (x0), .int (x1)] = [(0, va_rf (x0)), (1, .int (x1))] by simp [lv_args, xk_cat1, xk_cati, xk_catl, xk_catd]]
  exact t_X2_takeOf_0 hC hr x0 x1 w hf
def f_X3_init (x0 : Nat) (x1 : Int32) (x2 : Option Nat) (x3 : Int32) (x4 : Int32) (w : xWd) : Option xWd := (xk_pV w (some x0) 4 0 (.int (x1))).bind (fun w1 => (xk_pV w1 (some x0) 4 1 (va_rf (x2))).bind (fun w2 => (xk_gI w2 (x2) 1 6).bind (fun v3 => (xk_pV w2 (some x0) 4 2 (.int (v3))).bind (fun w4 => (xk_pV w4 (some x0) 4 3 (.int (x3))).bind (fun w5 => (xk_pV w5 (some x0) 4 4 (.int (x4))).bind (fun w6 => some w6))))))
set_option maxHeartbeats 4000000 in
set_option maxRecDepth 100000 in
theorem t_X3_init_0 {p : Program} {l : Launch} {e : Env} {s : State} {m : MethodId} {args : Array Value} {below : List Frame} {meth : Method} {c : Code} {E : xEv} (hC : xk_C p s m args meth c E prog_5_method_1_code "Clickbook$Take" 5) (hr : meth.sig.returnType = none) (hin : meth.name = "<init>") {q : xWd} (x0 : Nat) (x1 : Int32) (x2 : Option Nat) (x3 : Int32) (x4 : Int32) (w : xWd) (hf : f_X3_init x0 x1 x2 x3 x4 w = some q) : xk_X p l e { frames := 1, cells := 0, slots := 0, locals := 20 } s m args below meth c (MQ below (xk_Qv E q) args s 0 0 (xk_A E.2.2.1)) E 5 0 0 0 [(0, va_rf (some x0)), (1, .int (x1)), (2, va_rf (x2)), (3, .int (x3)), (4, .int (x4))] [] w := by
  refine xk_aload_n hC dX3_init_0 0 rfl rfl ?_
  refine xk_objI hC xm_474 xm_27 xm_28 dX3_init_1 (Nat.le_of_ble_eq_true rfl) (Nat.le_of_ble_eq_true rfl) ?_
  refine xk_aload_n hC dX3_init_4 0 rfl rfl ?_
  refine xk_iload_n hC dX3_init_5 1 rfl rfl ?_
  obtain ⟨w1, h1, hf⟩ := xk_bi hf
  refine xk_putF hC xi_4 xc_4 xo_4 xn_4 0 (by decide) xm_475 (Or.inl rfl) rfl hin rfl rfl rfl dX3_init_6 h1 ?_
  refine xk_aload_n hC dX3_init_9 0 rfl rfl ?_
  refine xk_aload_n hC dX3_init_10 2 rfl rfl ?_
  obtain ⟨w2, h2, hf⟩ := xk_bi hf
  refine xk_putF hC xi_4 xc_4 xo_4 xn_4 1 (by decide) xm_477 (Or.inl rfl) rfl hin rfl (xk_nr _ _) (xk_fr _ _) dX3_init_11 h2 ?_
  refine xk_aload_n hC dX3_init_14 0 rfl rfl ?_
  refine xk_aload_n hC dX3_init_15 2 rfl rfl ?_
  obtain ⟨v3, h3, hf⟩ := xk_bi hf
  refine xk_getI hC xi_1 xc_1 6 (by decide) xm_329 (Or.inl rfl) dX3_init_16 h3 ?_
  obtain ⟨w4, h4, hf⟩ := xk_bi hf
  refine xk_putF hC xi_4 xc_4 xo_4 xn_4 2 (by decide) xm_480 (Or.inl rfl) rfl hin rfl rfl rfl dX3_init_19 h4 ?_
  refine xk_aload_n hC dX3_init_22 0 rfl rfl ?_
  refine xk_iload_n hC dX3_init_23 3 rfl rfl ?_
  obtain ⟨w5, h5, hf⟩ := xk_bi hf
  refine xk_putF hC xi_4 xc_4 xo_4 xn_4 3 (by decide) xm_482 (Or.inl rfl) rfl hin rfl rfl rfl dX3_init_24 h5 ?_
  refine xk_aload_n hC dX3_init_27 0 rfl rfl ?_
  refine xk_iload hC dX3_init_28 4 rfl ?_
  obtain ⟨w6, h6, hf⟩ := xk_bi hf
  refine xk_putF hC xi_4 xc_4 xo_4 xn_4 4 (by decide) xm_483 (Or.inl rfl) rfl hin rfl rfl rfl dX3_init_30 h6 ?_
  cases hf
  refine xk_widen (k := 0) (n := 0) (Nat.le_of_ble_eq_true rfl) (Nat.le_of_ble_eq_true rfl) ?_
  exact xk_vret hC hr dX3_init_33
theorem xd_X3_init : xy_X3_init.cls ≠ "java/lang/invoke/MethodHandle" ∧ xy_X3_init.cls ≠ "java/lang/invoke/VarHandle" ∧ (parseMethodDescriptor xy_X3_init.desc).map (fun d => d.parameters.length) = some 4 := ⟨by decide +kernel, by decide +kernel, by decide +kernel⟩
theorem c_X3_init {l : Launch} {E : xEv} {x0 : Nat} {x1 : Int32} {x2 : Option Nat} {x3 : Int32} {x4 : Int32} {w : xWd} {q : xWd} (hf : f_X3_init x0 x1 x2 x3 x4 w = some q) : xk_M l xy_X3_init prog_5_method_1_code 5 none 1 20 0 0 E [va_rf (some x0), .int (x1), va_rf (x2), .int (x3), .int (x4)] w (xk_Qv E q) := by
  refine xk_enter (by decide +kernel) (by simp [lg_sl, xk_cat1, xk_cati, xk_catl, xk_catd]) ?_
  intro p e s m args below meth c hC hr hin ha
  rw [show lv_args 0 [va_rf (some x0), .int (x1), va_rf (x2), .int (x3), .int (x4)] = [(0, va_rf (some x0)), (1, .int (x1)), (2, va_rf (x2)), (3, .int (x3)), (4, .int (x4))] by simp [lv_args, xk_cat1, xk_cati, xk_catl, xk_catd]]
  exact t_X3_init_0 hC hr (hin rfl) x0 x1 x2 x3 x4 w hf
def f_X3_sumOfNotes_4 : Nat → Option Nat → Int32 → Int32 → xWd → Option (Int32 × xWd)
  | 0, _, _, _, _ => none
  | n + 1, x0, x1, x2, w => if ((9 : Int32)) ≤ (x2) then some (x1, w) else (xk_is w (x0) 4).bind (fun u3 => (f_X3_noteOf (x0) (x2) w).bind (fun q2 => f_X3_sumOfNotes_4 n x0 ((x1) + (q2.1)) (x2 + (1 : Int32)) (q2.2)))
set_option maxHeartbeats 4000000 in
set_option maxRecDepth 100000 in
theorem t_X3_sumOfNotes_4 {p : Program} {l : Launch} {e : Env} {s : State} {m : MethodId} {args : Array Value} {below : List Frame} {meth : Method} {c : Code} {E : xEv} (hC : xk_C p s m args meth c E prog_5_method_4_code "Clickbook$Take" 3) (hr : meth.sig.returnType = (some .int)) {q : (Int32 × xWd)} : ∀ (n : Nat) (x0 : Option Nat) (x1 : Int32) (x2 : Int32) (w : xWd), f_X3_sumOfNotes_4 n x0 x1 x2 w = some q → xk_X p l e { frames := 1, cells := 0, slots := 0, locals := 23 } s m args below meth c (MQ below (xk_Qi E q) args s 0 0 (xk_A E.2.2.1)) E 3 0 0 4 [(0, va_rf (x0)), (1, .int (x1)), (2, .int (x2))] [] w := by
  intro n
  induction n with
  | zero => intro x0 x1 x2 w hf; have hf : none = some q := hf; cases hf
  | succ n ih =>
    intro x0 x1 x2 w hf
    refine xk_iload_n hC dX3_sumOfNotes_4 2 rfl rfl ?_
    refine xk_bipush (v := (9 : Int32)) hC dX3_sumOfNotes_5 (by decide) ?_
    refine xk_icmp_ge (tgt := 24) hC dX3_sumOfNotes_7 (by decide) (fun c1 => ?_) (fun c1 => ?_)
    · replace hf := (if_pos c1).symm.trans hf
      refine xk_iload_n hC dX3_sumOfNotes_24 1 rfl rfl ?_
      cases hf
      refine xk_widen (k := 0) (n := 0) (Nat.le_of_ble_eq_true rfl) (Nat.le_of_ble_eq_true rfl) ?_
      exact xk_iret hC hr rfl dX3_sumOfNotes_25
    · replace hf := (if_neg c1).symm.trans hf
      refine xk_iload_n hC dX3_sumOfNotes_10 1 rfl rfl ?_
      refine xk_aload_n hC dX3_sumOfNotes_11 0 rfl rfl ?_
      refine xk_iload_n hC dX3_sumOfNotes_12 2 rfl rfl ?_
      obtain ⟨u3, h3, hf⟩ := xk_bi hf
      obtain ⟨q2, h2, hf⟩ := xk_bi hf
      refine xk_backi (xk_callV hC 1 xc_4 (c_X3_noteOf h2) h3 xm_537 xm_538 xm_539 xm_20 xm_540 ⟨rfl, xd_X3_noteOf⟩ rfl ⟨Nat.le_of_ble_eq_true rfl, Nat.le_of_ble_eq_true rfl⟩ rfl (Nat.le_of_ble_eq_true rfl) dX3_sumOfNotes_13 ⟨(Nat.le_of_ble_eq_true rfl), (Nat.le_of_ble_eq_true rfl)⟩) ?_
      refine xk_iadd hC dX3_sumOfNotes_16 ?_
      refine xk_istore_n (i := 1) (lv' := [(1, .int ((x1) + (q2.1))), (0, va_rf (x0)), (2, .int (x2))]) hC dX3_sumOfNotes_17 rfl (by decide) (by simp [xk_cat1]) ?_
      refine xk_iinc (v := x2 + (1 : Int32)) (lv' := [(2, .int (x2 + (1 : Int32))), (1, .int ((x1) + (q2.1))), (0, va_rf (x0))]) hC dX3_sumOfNotes_18 2 rfl rfl (by decide) rfl ?_
      refine xk_goto (tgt := 4) hC dX3_sumOfNotes_21 (by decide) ?_
      refine xk_locals [2, 1, 0] rfl ?_
      exact ih x0 ((x1) + (q2.1)) (x2 + (1 : Int32)) (q2.2) hf
def f_X3_sumOfNotes (x0 : Option Nat) (w : xWd) : Option (Int32 × xWd) := f_X3_sumOfNotes_4 4096 x0 ((0 : Int32)) ((0 : Int32)) w
set_option maxHeartbeats 4000000 in
set_option maxRecDepth 100000 in
theorem t_X3_sumOfNotes_0 {p : Program} {l : Launch} {e : Env} {s : State} {m : MethodId} {args : Array Value} {below : List Frame} {meth : Method} {c : Code} {E : xEv} (hC : xk_C p s m args meth c E prog_5_method_4_code "Clickbook$Take" 3) (hr : meth.sig.returnType = (some .int)) {q : (Int32 × xWd)} (x0 : Option Nat) (w : xWd) (hf : f_X3_sumOfNotes x0 w = some q) : xk_X p l e { frames := 1, cells := 0, slots := 0, locals := 23 } s m args below meth c (MQ below (xk_Qi E q) args s 0 0 (xk_A E.2.2.1)) E 3 0 0 0 [(0, va_rf (x0))] [] w := by
  refine xk_iconst (v := (0 : Int32)) hC dX3_sumOfNotes_0 (by decide) ?_
  refine xk_istore_n (i := 1) (lv' := [(1, .int ((0 : Int32))), (0, va_rf (x0))]) hC dX3_sumOfNotes_1 rfl (by decide) (by simp [xk_cat1]) ?_
  refine xk_iconst (v := (0 : Int32)) hC dX3_sumOfNotes_2 (by decide) ?_
  refine xk_istore_n (i := 2) (lv' := [(2, .int ((0 : Int32))), (1, .int ((0 : Int32))), (0, va_rf (x0))]) hC dX3_sumOfNotes_3 rfl (by decide) rfl ?_
  refine xk_locals [2, 1, 0] rfl ?_
  exact t_X3_sumOfNotes_4 hC hr 4096 x0 ((0 : Int32)) ((0 : Int32)) w hf
theorem xd_X3_sumOfNotes : xy_X3_sumOfNotes.cls ≠ "java/lang/invoke/MethodHandle" ∧ xy_X3_sumOfNotes.cls ≠ "java/lang/invoke/VarHandle" ∧ (parseMethodDescriptor xy_X3_sumOfNotes.desc).map (fun d => d.parameters.length) = some 0 := ⟨by decide +kernel, by decide +kernel, by decide +kernel⟩
theorem c_X3_sumOfNotes {l : Launch} {E : xEv} {x0 : Option Nat} {w : xWd} {q : (Int32 × xWd)} (hf : f_X3_sumOfNotes x0 w = some q) : xk_M l xy_X3_sumOfNotes prog_5_method_4_code 3 (some .int) 1 23 0 0 E [va_rf (x0)] w (xk_Qi E q) := by
  refine xk_enter (by decide +kernel) (by simp [lg_sl, xk_cat1, xk_cati, xk_catl, xk_catd]) ?_
  intro p e s m args below meth c hC hr hin ha
  rw [show lv_args 0 [va_rf (x0)] = [(0, va_rf (x0))] by simp [lv_args, xk_cat1, xk_cati, xk_catl, xk_catd]]
  exact t_X3_sumOfNotes_0 hC hr x0 w hf
def f_Jx4a65c_isEmpty_aae02_12 (s0 : Int32) (w : xWd) : Option (Int32 × xWd) := (xk_zb (s0)).bind (fun u1 => some (s0, w))
set_option maxHeartbeats 4000000 in
set_option maxRecDepth 100000 in
theorem t_Jx4a65c_isEmpty_aae02_12 {p : Program} {l : Launch} {e : Env} {s : State} {m : MethodId} {args : Array Value} {below : List Frame} {meth : Method} {c : Code} {E : xEv} (hC : xk_C p s m args meth c E prog_25_method_9_code "java/util/ArrayList" 1) (hr : meth.sig.returnType = (some .boolean)) {q : (Int32 × xWd)} (s0 : Int32) (w : xWd) (hf : f_Jx4a65c_isEmpty_aae02_12 s0 w = some q) : xk_X p l e { frames := 0, cells := 0, slots := 0, locals := 0 } s m args below meth c (MQ below (xk_Qi E q) args s 0 0 (xk_A E.2.2.1)) E 1 0 0 12 [] [.int (s0)] w := by
  obtain ⟨u1, h1, hf⟩ := xk_bi hf
  cases hf
  refine xk_widen (k := 0) (n := 0) (Nat.le_of_ble_eq_true rfl) (Nat.le_of_ble_eq_true rfl) ?_
  exact xk_iret hC hr (xk_zb_e h1) dJx4a65c_isEmpty_aae02_12
def f_Jx4a65c_isEmpty_aae02 (x0 : Option Nat) (w : xWd) : Option (Int32 × xWd) := (xk_gI w (x0) 5 2).bind (fun v1 => if (v1) = ((0 : Int32)) then f_Jx4a65c_isEmpty_aae02_12 ((1 : Int32)) w else f_Jx4a65c_isEmpty_aae02_12 ((0 : Int32)) w)
set_option maxHeartbeats 4000000 in
set_option maxRecDepth 100000 in
theorem t_Jx4a65c_isEmpty_aae02_0 {p : Program} {l : Launch} {e : Env} {s : State} {m : MethodId} {args : Array Value} {below : List Frame} {meth : Method} {c : Code} {E : xEv} (hC : xk_C p s m args meth c E prog_25_method_9_code "java/util/ArrayList" 1) (hr : meth.sig.returnType = (some .boolean)) {q : (Int32 × xWd)} (x0 : Option Nat) (w : xWd) (hf : f_Jx4a65c_isEmpty_aae02 x0 w = some q) : xk_X p l e { frames := 0, cells := 0, slots := 0, locals := 0 } s m args below meth c (MQ below (xk_Qi E q) args s 0 0 (xk_A E.2.2.1)) E 1 0 0 0 [(0, va_rf (x0))] [] w := by
  refine xk_aload_n hC dJx4a65c_isEmpty_aae02_0 0 rfl rfl ?_
  obtain ⟨v1, h1, hf⟩ := xk_bi hf
  refine xk_getI hC xi_5 xc_5 2 (by decide) xm_44 (Or.inl rfl) dJx4a65c_isEmpty_aae02_1 h1 ?_
  refine xk_if_ne (tgt := 11) hC dJx4a65c_isEmpty_aae02_4 (by decide) (fun c2 => ?_) (fun c2 => ?_)
  · replace hf := (if_neg c2).symm.trans hf
    refine xk_iconst (v := (0 : Int32)) hC dJx4a65c_isEmpty_aae02_11 (by decide) ?_
    refine xk_locals [] rfl ?_
    exact t_Jx4a65c_isEmpty_aae02_12 hC hr ((0 : Int32)) w hf
  · replace hf := (if_pos c2).symm.trans hf
    refine xk_iconst (v := (1 : Int32)) hC dJx4a65c_isEmpty_aae02_7 (by decide) ?_
    refine xk_goto (tgt := 12) hC dJx4a65c_isEmpty_aae02_8 (by decide) ?_
    refine xk_locals [] rfl ?_
    exact t_Jx4a65c_isEmpty_aae02_12 hC hr ((1 : Int32)) w hf
theorem xd_Jx4a65c_isEmpty_aae02 : xy_Jx4a65c_isEmpty_aae02.cls ≠ "java/lang/invoke/MethodHandle" ∧ xy_Jx4a65c_isEmpty_aae02.cls ≠ "java/lang/invoke/VarHandle" ∧ (parseMethodDescriptor xy_Jx4a65c_isEmpty_aae02.desc).map (fun d => d.parameters.length) = some 0 := ⟨by decide +kernel, by decide +kernel, by decide +kernel⟩
theorem c_Jx4a65c_isEmpty_aae02 {l : Launch} {E : xEv} {x0 : Option Nat} {w : xWd} {q : (Int32 × xWd)} (hf : f_Jx4a65c_isEmpty_aae02 x0 w = some q) : xk_M l xy_Jx4a65c_isEmpty_aae02 prog_25_method_9_code 1 (some .boolean) 0 0 0 0 E [va_rf (x0)] w (xk_Qi E q) := by
  refine xk_enter (by decide +kernel) (by simp [lg_sl, xk_cat1, xk_cati, xk_catl, xk_catd]) ?_
  intro p e s m args below meth c hC hr hin ha
  rw [show lv_args 0 [va_rf (x0)] = [(0, va_rf (x0))] by simp [lv_args, xk_cat1, xk_cati, xk_catl, xk_catd]]
  exact t_Jx4a65c_isEmpty_aae02_0 hC hr x0 w hf
