def f_X8_init (x0 : Nat) (w : xWd) : Option xWd := (xk_pV w (some x0) 5 1 (.int ((2400 : Int32)))).bind (fun w1 => (some (xk_nw w1 4 xf_4)).bind (fun w2 => (f_Jx4a65c_init_da8c8 (w1.2.1)  w2).bind (fun q3 => (xk_pV q3 (some x0) 5 3 (va_rf (some w1.2.1))).bind (fun w4 => (some (xk_nw w4 4 xf_4)).bind (fun w5 => (f_Jx4a65c_init_da8c8 (w4.2.1)  w5).bind (fun q6 => (xk_pV q6 (some x0) 5 4 (va_rf (some w4.2.1))).bind (fun w7 => (some (xk_nw w7 4 xf_4)).bind (fun w8 => (f_Jx4a65c_init_da8c8 (w7.2.1)  w8).bind (fun q9 => (xk_pV q9 (some x0) 5 5 (va_rf (some w7.2.1))).bind (fun w10 => (some (xk_nw w10 4 xf_4)).bind (fun w11 => (f_Jx4a65c_init_da8c8 (w10.2.1)  w11).bind (fun q12 => (xk_pV q12 (some x0) 5 6 (va_rf (some w10.2.1))).bind (fun w13 => some w13)))))))))))))
set_option maxHeartbeats 4000000 in
set_option maxRecDepth 100000 in
theorem t_X8_init_0 {p : Program} {l : Launch} {e : Env} {s : State} {m : MethodId} {args : Array Value} {below : List Frame} {meth : Method} {c : Code} {E : xEv} (hC : xk_C p s m args meth c E prog_7_method_3_code "ClickbookModel" 1) (hr : meth.sig.returnType = none) (hin : meth.name = "<init>") {q : xWd} (x0 : Nat) (w : xWd) (hf : f_X8_init x0 w = some q) : xk_X p l e { frames := 4, cells := 4, slots := 12, locals := 80 } s m args below meth c (MQ below (xk_Qv E q) args s 4 12 (xk_A E.2.2.1)) E 1 0 0 0 [(0, va_rf (some x0))] [] w := by
  refine xk_aload_n hC dX8_init_0 0 rfl rfl ?_
  refine xk_objI hC xm_857 xm_35 xm_36 dX8_init_1 (Nat.le_of_ble_eq_true rfl) (Nat.le_of_ble_eq_true rfl) ?_
  refine xk_aload_n hC dX8_init_4 0 rfl rfl ?_
  refine xk_sipush (v := (2400 : Int32)) hC dX8_init_5 (by decide) ?_
  obtain ⟨w1, h1, hf⟩ := xk_bi hf
  refine xk_put hC xi_5 xc_5 xo_5 xn_5 1 (by decide) xm_861 (Or.inl rfl) rfl rfl rfl dX8_init_8 h1 ?_
  refine xk_aload_n hC dX8_init_11 0 rfl rfl ?_
  obtain ⟨w2, h2, hf⟩ := xk_bi hf
  refine xk_newH hC xi_4 xc_4 xo_4 xm_858 xm_38 xm_4 xfo_4 (Nat.le_of_ble_eq_true rfl) (Nat.le_of_ble_eq_true rfl) dX8_init_12 h2 ?_
  refine xk_dup hC dX8_init_15 (xk_cat1 _) ?_
  obtain ⟨q3, h3, hf⟩ := xk_bi hf
  refine xk_backv (xk_callI hC 0 (c_Jx4a65c_init_da8c8 h3) xm_859 xm_40 xm_4 xm_41 rfl xd_Jx4a65c_init_da8c8 rfl ⟨Nat.le_of_ble_eq_true rfl, Nat.le_of_ble_eq_true rfl⟩ rfl (Nat.le_of_ble_eq_true rfl) dX8_init_16 ⟨(Nat.le_of_ble_eq_true rfl), (Nat.le_of_ble_eq_true rfl)⟩) ?_
  obtain ⟨w4, h4, hf⟩ := xk_bi hf
  refine xk_putF hC xi_5 xc_5 xo_5 xn_5 3 (by decide) xm_863 (Or.inl rfl) rfl hin rfl (xk_nr _ _) (xk_fr _ _) dX8_init_19 h4 ?_
  refine xk_aload_n hC dX8_init_22 0 rfl rfl ?_
  obtain ⟨w5, h5, hf⟩ := xk_bi hf
  refine xk_newH hC xi_4 xc_4 xo_4 xm_858 xm_38 xm_4 xfo_4 (Nat.le_of_ble_eq_true rfl) (Nat.le_of_ble_eq_true rfl) dX8_init_23 h5 ?_
  refine xk_dup hC dX8_init_26 (xk_cat1 _) ?_
  obtain ⟨q6, h6, hf⟩ := xk_bi hf
  refine xk_backv (xk_callI hC 0 (c_Jx4a65c_init_da8c8 h6) xm_859 xm_40 xm_4 xm_41 rfl xd_Jx4a65c_init_da8c8 rfl ⟨Nat.le_of_ble_eq_true rfl, Nat.le_of_ble_eq_true rfl⟩ rfl (Nat.le_of_ble_eq_true rfl) dX8_init_27 ⟨(Nat.le_of_ble_eq_true rfl), (Nat.le_of_ble_eq_true rfl)⟩) ?_
  obtain ⟨w7, h7, hf⟩ := xk_bi hf
  refine xk_putF hC xi_5 xc_5 xo_5 xn_5 4 (by decide) xm_864 (Or.inl rfl) rfl hin rfl (xk_nr _ _) (xk_fr _ _) dX8_init_30 h7 ?_
  refine xk_aload_n hC dX8_init_33 0 rfl rfl ?_
  obtain ⟨w8, h8, hf⟩ := xk_bi hf
  refine xk_newH hC xi_4 xc_4 xo_4 xm_858 xm_38 xm_4 xfo_4 (Nat.le_of_ble_eq_true rfl) (Nat.le_of_ble_eq_true rfl) dX8_init_34 h8 ?_
  refine xk_dup hC dX8_init_37 (xk_cat1 _) ?_
  obtain ⟨q9, h9, hf⟩ := xk_bi hf
  refine xk_backv (xk_callI hC 0 (c_Jx4a65c_init_da8c8 h9) xm_859 xm_40 xm_4 xm_41 rfl xd_Jx4a65c_init_da8c8 rfl ⟨Nat.le_of_ble_eq_true rfl, Nat.le_of_ble_eq_true rfl⟩ rfl (Nat.le_of_ble_eq_true rfl) dX8_init_38 ⟨(Nat.le_of_ble_eq_true rfl), (Nat.le_of_ble_eq_true rfl)⟩) ?_
  obtain ⟨w10, h10, hf⟩ := xk_bi hf
  refine xk_putF hC xi_5 xc_5 xo_5 xn_5 5 (by decide) xm_865 (Or.inl rfl) rfl hin rfl (xk_nr _ _) (xk_fr _ _) dX8_init_41 h10 ?_
  refine xk_aload_n hC dX8_init_44 0 rfl rfl ?_
  obtain ⟨w11, h11, hf⟩ := xk_bi hf
  refine xk_newH hC xi_4 xc_4 xo_4 xm_858 xm_38 xm_4 xfo_4 (Nat.le_of_ble_eq_true rfl) (Nat.le_of_ble_eq_true rfl) dX8_init_45 h11 ?_
  refine xk_dup hC dX8_init_48 (xk_cat1 _) ?_
  obtain ⟨q12, h12, hf⟩ := xk_bi hf
  refine xk_backv (xk_callI hC 0 (c_Jx4a65c_init_da8c8 h12) xm_859 xm_40 xm_4 xm_41 rfl xd_Jx4a65c_init_da8c8 rfl ⟨Nat.le_of_ble_eq_true rfl, Nat.le_of_ble_eq_true rfl⟩ rfl (Nat.le_of_ble_eq_true rfl) dX8_init_49 ⟨(Nat.le_of_ble_eq_true rfl), (Nat.le_of_ble_eq_true rfl)⟩) ?_
  obtain ⟨w13, h13, hf⟩ := xk_bi hf
  refine xk_putF hC xi_5 xc_5 xo_5 xn_5 6 (by decide) xm_866 (Or.inl rfl) rfl hin rfl (xk_nr _ _) (xk_fr _ _) dX8_init_52 h13 ?_
  cases hf
  refine xk_widen (k := 4) (n := 12) (Nat.le_of_ble_eq_true rfl) (Nat.le_of_ble_eq_true rfl) ?_
  exact xk_vret hC hr dX8_init_55
theorem xd_X8_init : xy_X8_init.cls ≠ "java/lang/invoke/MethodHandle" ∧ xy_X8_init.cls ≠ "java/lang/invoke/VarHandle" ∧ (parseMethodDescriptor xy_X8_init.desc).map (fun d => d.parameters.length) = some 0 := ⟨by decide +kernel, by decide +kernel, by decide +kernel⟩
theorem c_X8_init {l : Launch} {E : xEv} {x0 : Nat} {w : xWd} {q : xWd} (hf : f_X8_init x0 w = some q) : xk_M l xy_X8_init prog_7_method_3_code 1 none 4 80 4 12 E [va_rf (some x0)] w (xk_Qv E q) := by
  refine xk_enter (by decide +kernel) (by simp [lg_sl, xk_cat1, xk_cati, xk_catl, xk_catd]) ?_
  intro p e s m args below meth c hC hr hin ha
  rw [show lv_args 0 [va_rf (some x0)] = [(0, va_rf (some x0))] by simp [lv_args, xk_cat1, xk_cati, xk_catl, xk_catd]]
  exact t_X8_init_0 hC hr (hin rfl) x0 w hf
def f_X8_isIn_15 (s0 : Int32) (w : xWd) : Option (Int32 × xWd) := (xk_zb (s0)).bind (fun u1 => some (s0, w))
set_option maxHeartbeats 4000000 in
set_option maxRecDepth 100000 in
theorem t_X8_isIn_15 {p : Program} {l : Launch} {e : Env} {s : State} {m : MethodId} {args : Array Value} {below : List Frame} {meth : Method} {c : Code} {E : xEv} (hC : xk_C p s m args meth c E prog_7_method_1_code "ClickbookModel" 3) (hr : meth.sig.returnType = (some .boolean)) {q : (Int32 × xWd)} (s0 : Int32) (w : xWd) (hf : f_X8_isIn_15 s0 w = some q) : xk_X p l e { frames := 0, cells := 0, slots := 0, locals := 0 } s m args below meth c (MQ below (xk_Qi E q) args s 0 0 (xk_A E.2.2.1)) E 3 0 0 15 [] [.int (s0)] w := by
  obtain ⟨u1, h1, hf⟩ := xk_bi hf
  cases hf
  refine xk_widen (k := 0) (n := 0) (Nat.le_of_ble_eq_true rfl) (Nat.le_of_ble_eq_true rfl) ?_
  exact xk_iret hC hr (xk_zb_e h1) dX8_isIn_15
def f_X8_isIn_14 (w : xWd) : Option (Int32 × xWd) := f_X8_isIn_15 ((0 : Int32)) w
set_option maxHeartbeats 4000000 in
set_option maxRecDepth 100000 in
theorem t_X8_isIn_14 {p : Program} {l : Launch} {e : Env} {s : State} {m : MethodId} {args : Array Value} {below : List Frame} {meth : Method} {c : Code} {E : xEv} (hC : xk_C p s m args meth c E prog_7_method_1_code "ClickbookModel" 3) (hr : meth.sig.returnType = (some .boolean)) {q : (Int32 × xWd)} (w : xWd) (hf : f_X8_isIn_14 w = some q) : xk_X p l e { frames := 0, cells := 0, slots := 0, locals := 0 } s m args below meth c (MQ below (xk_Qi E q) args s 0 0 (xk_A E.2.2.1)) E 3 0 0 14 [] [] w := by
  refine xk_iconst (v := (0 : Int32)) hC dX8_isIn_14 (by decide) ?_
  exact t_X8_isIn_15 hC hr ((0 : Int32)) w hf
def f_X8_isIn (x0 : Int32) (x1 : Int32) (x2 : Int32) (w : xWd) : Option (Int32 × xWd) := if (x0) < (x1) then f_X8_isIn_14 w else if (x2) < (x0) then f_X8_isIn_14 w else f_X8_isIn_15 ((1 : Int32)) w
set_option maxHeartbeats 4000000 in
set_option maxRecDepth 100000 in
theorem t_X8_isIn_0 {p : Program} {l : Launch} {e : Env} {s : State} {m : MethodId} {args : Array Value} {below : List Frame} {meth : Method} {c : Code} {E : xEv} (hC : xk_C p s m args meth c E prog_7_method_1_code "ClickbookModel" 3) (hr : meth.sig.returnType = (some .boolean)) {q : (Int32 × xWd)} (x0 : Int32) (x1 : Int32) (x2 : Int32) (w : xWd) (hf : f_X8_isIn x0 x1 x2 w = some q) : xk_X p l e { frames := 0, cells := 0, slots := 0, locals := 0 } s m args below meth c (MQ below (xk_Qi E q) args s 0 0 (xk_A E.2.2.1)) E 3 0 0 0 [(0, .int (x0)), (1, .int (x1)), (2, .int (x2))] [] w := by
  refine xk_iload_n hC dX8_isIn_0 0 rfl rfl ?_
  refine xk_iload_n hC dX8_isIn_1 1 rfl rfl ?_
  refine xk_icmp_lt (tgt := 14) hC dX8_isIn_2 (by decide) (fun c1 => ?_) (fun c1 => ?_)
  · replace hf := (if_pos c1).symm.trans hf
    refine xk_locals [] rfl ?_
    exact t_X8_isIn_14 hC hr w hf
  · replace hf := (if_neg c1).symm.trans hf
    refine xk_iload_n hC dX8_isIn_5 0 rfl rfl ?_
    refine xk_iload_n hC dX8_isIn_6 2 rfl rfl ?_
    refine xk_icmp_gt (tgt := 14) hC dX8_isIn_7 (by decide) (fun c2 => ?_) (fun c2 => ?_)
    · replace hf := (if_pos c2).symm.trans hf
      refine xk_locals [] rfl ?_
      exact t_X8_isIn_14 hC hr w hf
    · replace hf := (if_neg c2).symm.trans hf
      refine xk_iconst (v := (1 : Int32)) hC dX8_isIn_10 (by decide) ?_
      refine xk_goto (tgt := 15) hC dX8_isIn_11 (by decide) ?_
      refine xk_locals [] rfl ?_
      exact t_X8_isIn_15 hC hr ((1 : Int32)) w hf
theorem xd_X8_isIn : xy_X8_isIn.cls ≠ "java/lang/invoke/MethodHandle" ∧ xy_X8_isIn.cls ≠ "java/lang/invoke/VarHandle" ∧ (parseMethodDescriptor xy_X8_isIn.desc).map (fun d => d.parameters.length) = some 3 := ⟨by decide +kernel, by decide +kernel, by decide +kernel⟩
theorem c_X8_isIn {l : Launch} {E : xEv} {x0 : Int32} {x1 : Int32} {x2 : Int32} {w : xWd} {q : (Int32 × xWd)} (hf : f_X8_isIn x0 x1 x2 w = some q) : xk_M l xy_X8_isIn prog_7_method_1_code 3 (some .boolean) 0 0 0 0 E [.int (x0), .int (x1), .int (x2)] w (xk_Qi E q) := by
  refine xk_enter (by decide +kernel) (by simp [lg_sl, xk_cat1, xk_cati, xk_catl, xk_catd]) ?_
  intro p e s m args below meth c hC hr hin ha
  rw [show lv_args 0 [.int (x0), .int (x1), .int (x2)] = [(0, .int (x0)), (1, .int (x1)), (2, .int (x2))] by simp [lv_args, xk_cat1, xk_cati, xk_catl, xk_catd]]
  exact t_X8_isIn_0 hC hr x0 x1 x2 w hf
def f_X8_refuse_28 (s0 : Int32) (w : xWd) : Option (Int32 × xWd) := (xk_zb (s0)).bind (fun u1 => some (s0, w))
set_option maxHeartbeats 4000000 in
set_option maxRecDepth 100000 in
theorem t_X8_refuse_28 {p : Program} {l : Launch} {e : Env} {s : State} {m : MethodId} {args : Array Value} {below : List Frame} {meth : Method} {c : Code} {E : xEv} (hC : xk_C p s m args meth c E prog_7_method_5_code "ClickbookModel" 3) (hr : meth.sig.returnType = (some .boolean)) {q : (Int32 × xWd)} (s0 : Int32) (w : xWd) (hf : f_X8_refuse_28 s0 w = some q) : xk_X p l e { frames := 0, cells := 0, slots := 0, locals := 0 } s m args below meth c (MQ below (xk_Qi E q) args s 0 0 (xk_A E.2.2.1)) E 3 0 0 28 [] [.int (s0)] w := by
  obtain ⟨u1, h1, hf⟩ := xk_bi hf
  cases hf
  refine xk_widen (k := 0) (n := 0) (Nat.le_of_ble_eq_true rfl) (Nat.le_of_ble_eq_true rfl) ?_
  exact xk_iret hC hr (xk_zb_e h1) dX8_refuse_28
def f_X8_refuse_16 (x0 : Option Nat) (w : xWd) : Option (Int32 × xWd) := (xk_gI w (x0) 5 0).bind (fun v1 => if (v1) ≤ ((0 : Int32)) then f_X8_refuse_28 ((0 : Int32)) w else f_X8_refuse_28 ((1 : Int32)) w)
set_option maxHeartbeats 4000000 in
set_option maxRecDepth 100000 in
theorem t_X8_refuse_16 {p : Program} {l : Launch} {e : Env} {s : State} {m : MethodId} {args : Array Value} {below : List Frame} {meth : Method} {c : Code} {E : xEv} (hC : xk_C p s m args meth c E prog_7_method_5_code "ClickbookModel" 3) (hr : meth.sig.returnType = (some .boolean)) {q : (Int32 × xWd)} (x0 : Option Nat) (w : xWd) (hf : f_X8_refuse_16 x0 w = some q) : xk_X p l e { frames := 0, cells := 0, slots := 0, locals := 0 } s m args below meth c (MQ below (xk_Qi E q) args s 0 0 (xk_A E.2.2.1)) E 3 0 0 16 [(0, va_rf (x0))] [] w := by
  refine xk_aload_n hC dX8_refuse_16 0 rfl rfl ?_
  obtain ⟨v1, h1, hf⟩ := xk_bi hf
  refine xk_getI hC xi_5 xc_5 0 (by decide) xm_860 (Or.inl rfl) dX8_refuse_17 h1 ?_
  refine xk_if_le (tgt := 27) hC dX8_refuse_20 (by decide) (fun c2 => ?_) (fun c2 => ?_)
  · replace hf := (if_pos c2).symm.trans hf
    refine xk_iconst (v := (0 : Int32)) hC dX8_refuse_27 (by decide) ?_
    refine xk_locals [] rfl ?_
    exact t_X8_refuse_28 hC hr ((0 : Int32)) w hf
  · replace hf := (if_neg c2).symm.trans hf
    refine xk_iconst (v := (1 : Int32)) hC dX8_refuse_23 (by decide) ?_
    refine xk_goto (tgt := 28) hC dX8_refuse_24 (by decide) ?_
    refine xk_locals [] rfl ?_
    exact t_X8_refuse_28 hC hr ((1 : Int32)) w hf
def f_X8_refuse (x0 : Option Nat) (x1 : Int32) (x2 : Int32) (w : xWd) : Option (Int32 × xWd) := if (x1) = ((0 : Int32)) then f_X8_refuse_16 x0 w else (xk_gI w (x0) 5 0).bind (fun v2 => if (v2) = ((0 : Int32)) then (xk_pV w (x0) 5 0 (.int (x2))).bind (fun w4 => f_X8_refuse_16 x0 w4) else f_X8_refuse_16 x0 w)
set_option maxHeartbeats 4000000 in
set_option maxRecDepth 100000 in
theorem t_X8_refuse_0 {p : Program} {l : Launch} {e : Env} {s : State} {m : MethodId} {args : Array Value} {below : List Frame} {meth : Method} {c : Code} {E : xEv} (hC : xk_C p s m args meth c E prog_7_method_5_code "ClickbookModel" 3) (hr : meth.sig.returnType = (some .boolean)) {q : (Int32 × xWd)} (x0 : Option Nat) (x1 : Int32) (x2 : Int32) (w : xWd) (hf : f_X8_refuse x0 x1 x2 w = some q) : xk_X p l e { frames := 0, cells := 0, slots := 0, locals := 0 } s m args below meth c (MQ below (xk_Qi E q) args s 0 0 (xk_A E.2.2.1)) E 3 0 0 0 [(0, va_rf (x0)), (1, .int (x1)), (2, .int (x2))] [] w := by
  refine xk_iload_n hC dX8_refuse_0 1 rfl rfl ?_
  refine xk_if_eq (tgt := 16) hC dX8_refuse_1 (by decide) (fun c1 => ?_) (fun c1 => ?_)
  · replace hf := (if_pos c1).symm.trans hf
    refine xk_locals [0] rfl ?_
    exact t_X8_refuse_16 hC hr x0 w hf
  · replace hf := (if_neg c1).symm.trans hf
    refine xk_aload_n hC dX8_refuse_4 0 rfl rfl ?_
    obtain ⟨v2, h2, hf⟩ := xk_bi hf
    refine xk_getI hC xi_5 xc_5 0 (by decide) xm_860 (Or.inl rfl) dX8_refuse_5 h2 ?_
    refine xk_if_ne (tgt := 16) hC dX8_refuse_8 (by decide) (fun c3 => ?_) (fun c3 => ?_)
    · replace hf := (if_neg c3).symm.trans hf
      refine xk_locals [0] rfl ?_
      exact t_X8_refuse_16 hC hr x0 w hf
    · replace hf := (if_pos c3).symm.trans hf
      refine xk_aload_n hC dX8_refuse_11 0 rfl rfl ?_
      refine xk_iload_n hC dX8_refuse_12 2 rfl rfl ?_
      obtain ⟨w4, h4, hf⟩ := xk_bi hf
      refine xk_put hC xi_5 xc_5 xo_5 xn_5 0 (by decide) xm_860 (Or.inl rfl) rfl rfl rfl dX8_refuse_13 h4 ?_
      refine xk_locals [0] rfl ?_
      exact t_X8_refuse_16 hC hr x0 w4 hf
theorem xd_X8_refuse : xy_X8_refuse.cls ≠ "java/lang/invoke/MethodHandle" ∧ xy_X8_refuse.cls ≠ "java/lang/invoke/VarHandle" ∧ (parseMethodDescriptor xy_X8_refuse.desc).map (fun d => d.parameters.length) = some 2 := ⟨by decide +kernel, by decide +kernel, by decide +kernel⟩
theorem c_X8_refuse {l : Launch} {E : xEv} {x0 : Option Nat} {x1 : Int32} {x2 : Int32} {w : xWd} {q : (Int32 × xWd)} (hf : f_X8_refuse x0 x1 x2 w = some q) : xk_M l xy_X8_refuse prog_7_method_5_code 3 (some .boolean) 0 0 0 0 E [va_rf (x0), .int (x1), .int (x2)] w (xk_Qi E q) := by
  refine xk_enter (by decide +kernel) (by simp [lg_sl, xk_cat1, xk_cati, xk_catl, xk_catd]) ?_
  intro p e s m args below meth c hC hr hin ha
  rw [show lv_args 0 [va_rf (x0), .int (x1), .int (x2)] = [(0, va_rf (x0)), (1, .int (x1)), (2, .int (x2))] by simp [lv_args, xk_cat1, xk_cati, xk_catl, xk_catd]]
  exact t_X8_refuse_0 hC hr x0 x1 x2 w hf
def f_X8_start (x0 : Option Nat) (x1 : Int32) (x2 : Int32) (w : xWd) : Option (Int32 × xWd) := (xk_pV w (x0) 5 0 (.int ((0 : Int32)))).bind (fun w1 => (xk_is w1 (x0) 5).bind (fun u3 => (f_X8_refuse (x0) (x1) (x2) w1).bind (fun q2 => (xk_zb (q2.1)).bind (fun u4 => some (q2.1, q2.2)))))
set_option maxHeartbeats 4000000 in
set_option maxRecDepth 100000 in
theorem t_X8_start_0 {p : Program} {l : Launch} {e : Env} {s : State} {m : MethodId} {args : Array Value} {below : List Frame} {meth : Method} {c : Code} {E : xEv} (hC : xk_C p s m args meth c E prog_7_method_6_code "ClickbookModel" 3) (hr : meth.sig.returnType = (some .boolean)) {q : (Int32 × xWd)} (x0 : Option Nat) (x1 : Int32) (x2 : Int32) (w : xWd) (hf : f_X8_start x0 x1 x2 w = some q) : xk_X p l e { frames := 1, cells := 0, slots := 0, locals := 22 } s m args below meth c (MQ below (xk_Qi E q) args s 0 0 (xk_A E.2.2.1)) E 3 0 0 0 [(0, va_rf (x0)), (1, .int (x1)), (2, .int (x2))] [] w := by
  refine xk_aload_n hC dX8_start_0 0 rfl rfl ?_
  refine xk_iconst (v := (0 : Int32)) hC dX8_start_1 (by decide) ?_
  obtain ⟨w1, h1, hf⟩ := xk_bi hf
  refine xk_put hC xi_5 xc_5 xo_5 xn_5 0 (by decide) xm_860 (Or.inl rfl) rfl rfl rfl dX8_start_2 h1 ?_
  refine xk_aload_n hC dX8_start_5 0 rfl rfl ?_
  refine xk_iload_n hC dX8_start_6 1 rfl rfl ?_
  refine xk_iload_n hC dX8_start_7 2 rfl rfl ?_
  obtain ⟨u3, h3, hf⟩ := xk_bi hf
  obtain ⟨q2, h2, hf⟩ := xk_bi hf
  refine xk_backi (xk_callV hC 2 xc_5 (c_X8_refuse h2) h3 xm_906 xm_908 xm_p34 xm_6 xm_909 ⟨rfl, xd_X8_refuse⟩ rfl ⟨Nat.le_of_ble_eq_true rfl, Nat.le_of_ble_eq_true rfl⟩ rfl (Nat.le_of_ble_eq_true rfl) dX8_start_8 ⟨(Nat.le_of_ble_eq_true rfl), (Nat.le_of_ble_eq_true rfl)⟩) ?_
  obtain ⟨u4, h4, hf⟩ := xk_bi hf
  cases hf
  refine xk_widen (k := 0) (n := 0) (Nat.le_of_ble_eq_true rfl) (Nat.le_of_ble_eq_true rfl) ?_
  exact xk_iret hC hr (xk_zb_e h4) dX8_start_11
theorem xd_X8_start : xy_X8_start.cls ≠ "java/lang/invoke/MethodHandle" ∧ xy_X8_start.cls ≠ "java/lang/invoke/VarHandle" ∧ (parseMethodDescriptor xy_X8_start.desc).map (fun d => d.parameters.length) = some 2 := ⟨by decide +kernel, by decide +kernel, by decide +kernel⟩
theorem c_X8_start {l : Launch} {E : xEv} {x0 : Option Nat} {x1 : Int32} {x2 : Int32} {w : xWd} {q : (Int32 × xWd)} (hf : f_X8_start x0 x1 x2 w = some q) : xk_M l xy_X8_start prog_7_method_6_code 3 (some .boolean) 1 22 0 0 E [va_rf (x0), .int (x1), .int (x2)] w (xk_Qi E q) := by
  refine xk_enter (by decide +kernel) (by simp [lg_sl, xk_cat1, xk_cati, xk_catl, xk_catd]) ?_
  intro p e s m args below meth c hC hr hin ha
  rw [show lv_args 0 [va_rf (x0), .int (x1), .int (x2)] = [(0, va_rf (x0)), (1, .int (x1)), (2, .int (x2))] by simp [lv_args, xk_cat1, xk_cati, xk_catl, xk_catd]]
  exact t_X8_start_0 hC hr x0 x1 x2 w hf
def f_X6_init (x0 : Nat) (x1 : Int32) (x2 : Int32) (w : xWd) : Option xWd := (xk_pV w (some x0) 7 0 (.int (x1))).bind (fun w1 => (xk_pV w1 (some x0) 7 1 (.int (x2))).bind (fun w2 => some w2))
set_option maxHeartbeats 4000000 in
set_option maxRecDepth 100000 in
theorem t_X6_init_0 {p : Program} {l : Launch} {e : Env} {s : State} {m : MethodId} {args : Array Value} {below : List Frame} {meth : Method} {c : Code} {E : xEv} (hC : xk_C p s m args meth c E prog_9_method_1_code "ClickbookModel$Hit" 3) (hr : meth.sig.returnType = none) (hin : meth.name = "<init>") {q : xWd} (x0 : Nat) (x1 : Int32) (x2 : Int32) (w : xWd) (hf : f_X6_init x0 x1 x2 w = some q) : xk_X p l e { frames := 1, cells := 0, slots := 0, locals := 20 } s m args below meth c (MQ below (xk_Qv E q) args s 0 0 (xk_A E.2.2.1)) E 3 0 0 0 [(0, va_rf (some x0)), (1, .int (x1)), (2, .int (x2))] [] w := by
  refine xk_aload_n hC dX6_init_0 0 rfl rfl ?_
  refine xk_objI hC xm_916 xm_35 xm_36 dX6_init_1 (Nat.le_of_ble_eq_true rfl) (Nat.le_of_ble_eq_true rfl) ?_
  refine xk_aload_n hC dX6_init_4 0 rfl rfl ?_
  refine xk_iload_n hC dX6_init_5 1 rfl rfl ?_
  obtain ⟨w1, h1, hf⟩ := xk_bi hf
  refine xk_put hC xi_7 xc_7 xo_7 xn_7 0 (by decide) xm_917 (Or.inl rfl) rfl rfl rfl dX6_init_6 h1 ?_
  refine xk_aload_n hC dX6_init_9 0 rfl rfl ?_
  refine xk_iload_n hC dX6_init_10 2 rfl rfl ?_
  obtain ⟨w2, h2, hf⟩ := xk_bi hf
  refine xk_putF hC xi_7 xc_7 xo_7 xn_7 1 (by decide) xm_919 (Or.inl rfl) rfl hin rfl rfl rfl dX6_init_11 h2 ?_
  cases hf
  refine xk_widen (k := 0) (n := 0) (Nat.le_of_ble_eq_true rfl) (Nat.le_of_ble_eq_true rfl) ?_
  exact xk_vret hC hr dX6_init_14
theorem xd_X6_init : xy_X6_init.cls ≠ "java/lang/invoke/MethodHandle" ∧ xy_X6_init.cls ≠ "java/lang/invoke/VarHandle" ∧ (parseMethodDescriptor xy_X6_init.desc).map (fun d => d.parameters.length) = some 2 := ⟨by decide +kernel, by decide +kernel, by decide +kernel⟩
theorem c_X6_init {l : Launch} {E : xEv} {x0 : Nat} {x1 : Int32} {x2 : Int32} {w : xWd} {q : xWd} (hf : f_X6_init x0 x1 x2 w = some q) : xk_M l xy_X6_init prog_9_method_1_code 3 none 1 20 0 0 E [va_rf (some x0), .int (x1), .int (x2)] w (xk_Qv E q) := by
  refine xk_enter (by decide +kernel) (by simp [lg_sl, xk_cat1, xk_cati, xk_catl, xk_catd]) ?_
  intro p e s m args below meth c hC hr hin ha
  rw [show lv_args 0 [va_rf (some x0), .int (x1), .int (x2)] = [(0, va_rf (some x0)), (1, .int (x1)), (2, .int (x2))] by simp [lv_args, xk_cat1, xk_cati, xk_catl, xk_catd]]
  exact t_X6_init_0 hC hr (hin rfl) x0 x1 x2 w hf
def f_X8_hit_62 (w : xWd) : Option (Int32 × xWd) := some ((0 : Int32), w)
set_option maxHeartbeats 4000000 in
set_option maxRecDepth 100000 in
theorem t_X8_hit_62 {p : Program} {l : Launch} {e : Env} {s : State} {m : MethodId} {args : Array Value} {below : List Frame} {meth : Method} {c : Code} {E : xEv} (hC : xk_C p s m args meth c E prog_7_method_16_code "ClickbookModel" 3) (hr : meth.sig.returnType = (some .int)) {q : (Int32 × xWd)} (w : xWd) (hf : f_X8_hit_62 w = some q) : xk_X p l e { frames := 5, cells := 2, slots := 67, locals := 108 } s m args below meth c (MQ below (xk_Qi E q) args s 2 67 (xk_A E.2.2.1)) E 3 0 0 62 [] [] w := by
  refine xk_iconst (v := (0 : Int32)) hC dX8_hit_62 (by decide) ?_
  cases hf
  refine xk_widen (k := 2) (n := 67) (Nat.le_of_ble_eq_true rfl) (Nat.le_of_ble_eq_true rfl) ?_
  exact xk_iret hC hr rfl dX8_hit_63
def f_X8_hit_55 (x0 : Option Nat) (x1 : Int32) (x2 : Int32) (s0 : Int32) (s1 : Option Nat) (w : xWd) : Option (Int32 × xWd) := (xk_is w (s1) 5).bind (fun u2 => (f_X8_refuse (s1) (s0) ((2 : Int32)) w).bind (fun q1 => if (q1.1) = ((0 : Int32)) then (xk_gR q1.2 (x0) 5 3).bind (fun v4 => (some (xk_nw q1.2 7 xf_7)).bind (fun w5 => (f_X6_init (q1.2.2.1) (x1) (x2) w5).bind (fun q6 => (xk_is q6 (v4) 4).bind (fun u8 => (f_Jx4a65c_add_9ea2d (v4) (some q1.2.2.1) q6).bind (fun q7 => (xk_gR q7.2 (x0) 5 3).bind (fun v9 => (xk_is q7.2 (v9) 4).bind (fun u11 => (f_Jx4a65c_size_8abf5 (v9)  q7.2).bind (fun q10 => some ((q10.1) - ((1 : Int32)), q10.2))))))))) else f_X8_hit_62 (q1.2)))
set_option maxHeartbeats 4000000 in
set_option maxRecDepth 100000 in
theorem t_X8_hit_55 {p : Program} {l : Launch} {e : Env} {s : State} {m : MethodId} {args : Array Value} {below : List Frame} {meth : Method} {c : Code} {E : xEv} (hC : xk_C p s m args meth c E prog_7_method_16_code "ClickbookModel" 3) (hr : meth.sig.returnType = (some .int)) {q : (Int32 × xWd)} (x0 : Option Nat) (x1 : Int32) (x2 : Int32) (s0 : Int32) (s1 : Option Nat) (w : xWd) (hf : f_X8_hit_55 x0 x1 x2 s0 s1 w = some q) : xk_X p l e { frames := 5, cells := 2, slots := 67, locals := 108 } s m args below meth c (MQ below (xk_Qi E q) args s 2 67 (xk_A E.2.2.1)) E 3 0 0 55 [(0, va_rf (x0)), (1, .int (x1)), (2, .int (x2))] [.int (s0), va_rf (s1)] w := by
  refine xk_iconst (v := (2 : Int32)) hC dX8_hit_55 (by decide) ?_
  obtain ⟨u2, h2, hf⟩ := xk_bi hf
  obtain ⟨q1, h1, hf⟩ := xk_bi hf
  refine xk_backi (xk_callV hC 2 xc_5 (c_X8_refuse h1) h2 xm_906 xm_908 xm_p34 xm_6 xm_909 ⟨rfl, xd_X8_refuse⟩ rfl ⟨Nat.le_of_ble_eq_true rfl, Nat.le_of_ble_eq_true rfl⟩ rfl (Nat.le_of_ble_eq_true rfl) dX8_hit_56 ⟨(Nat.le_of_ble_eq_true rfl), (Nat.le_of_ble_eq_true rfl)⟩) ?_
  refine xk_if_eq (tgt := 64) hC dX8_hit_59 (by decide) (fun c3 => ?_) (fun c3 => ?_)
  · replace hf := (if_pos c3).symm.trans hf
    refine xk_aload_n hC dX8_hit_64 0 rfl rfl ?_
    obtain ⟨v4, h4, hf⟩ := xk_bi hf
    refine xk_getR hC xi_5 xc_5 3 (by decide) xm_863 (Or.inl rfl) dX8_hit_65 h4 ?_
    obtain ⟨w5, h5, hf⟩ := xk_bi hf
    refine xk_newH hC xi_7 xc_7 xo_7 xm_911 xm_912 xm_17 xfo_7 (Nat.le_of_ble_eq_true rfl) (Nat.le_of_ble_eq_true rfl) dX8_hit_68 h5 ?_
    refine xk_dup hC dX8_hit_71 (xk_cat1 _) ?_
    refine xk_iload_n hC dX8_hit_72 1 rfl rfl ?_
    refine xk_iload_n hC dX8_hit_73 2 rfl rfl ?_
    obtain ⟨q6, h6, hf⟩ := xk_bi hf
    refine xk_backv (xk_callI hC 2 (c_X6_init h6) xm_913 xm_914 xm_17 xm_915 rfl xd_X6_init rfl ⟨Nat.le_of_ble_eq_true rfl, Nat.le_of_ble_eq_true rfl⟩ rfl (by simp [xk_cat1, xk_cati, xk_catl, xk_catd]) dX8_hit_74 ⟨(Nat.le_of_ble_eq_true rfl), (Nat.le_of_ble_eq_true rfl)⟩) ?_
    obtain ⟨u8, h8, hf⟩ := xk_bi hf
    obtain ⟨q7, h7, hf⟩ := xk_bi hf
    refine xk_backi (xk_callV hC 1 xc_4 (c_Jx4a65c_add_9ea2d h7) h8 xm_929 xm_387 xm_388 xm_4 xm_389 ⟨rfl, xd_Jx4a65c_add_9ea2d⟩ rfl ⟨Nat.le_of_ble_eq_true rfl, Nat.le_of_ble_eq_true rfl⟩ rfl (Nat.le_of_ble_eq_true rfl) dX8_hit_77 ⟨(Nat.le_of_ble_eq_true rfl), (Nat.le_of_ble_eq_true rfl)⟩) ?_
    refine xk_pop hC dX8_hit_80 rfl ?_
    refine xk_aload_n hC dX8_hit_81 0 rfl rfl ?_
    obtain ⟨v9, h9, hf⟩ := xk_bi hf
    refine xk_getR hC xi_5 xc_5 3 (by decide) xm_863 (Or.inl rfl) dX8_hit_82 h9 ?_
    obtain ⟨u11, h11, hf⟩ := xk_bi hf
    obtain ⟨q10, h10, hf⟩ := xk_bi hf
    refine xk_backi (xk_callV hC 0 xc_4 (c_Jx4a65c_size_8abf5 h10) h11 xm_910 xm_131 xm_132 xm_4 xm_133 ⟨rfl, xd_Jx4a65c_size_8abf5⟩ rfl ⟨Nat.le_of_ble_eq_true rfl, Nat.le_of_ble_eq_true rfl⟩ rfl (Nat.le_of_ble_eq_true rfl) dX8_hit_85 ⟨(Nat.le_of_ble_eq_true rfl), (Nat.le_of_ble_eq_true rfl)⟩) ?_
    refine xk_iconst (v := (1 : Int32)) hC dX8_hit_88 (by decide) ?_
    refine xk_isub hC dX8_hit_89 ?_
    cases hf
    refine xk_widen (k := 2) (n := 67) (Nat.le_of_ble_eq_true rfl) (Nat.le_of_ble_eq_true rfl) ?_
    exact xk_iret hC hr rfl dX8_hit_90
  · replace hf := (if_neg c3).symm.trans hf
    refine xk_locals [] rfl ?_
    exact t_X8_hit_62 hC hr (q1.2) hf
def f_X8_hit_30 (x0 : Option Nat) (x1 : Int32) (x2 : Int32) (s0 : Int32) (s1 : Option Nat) (w : xWd) : Option (Int32 × xWd) := (xk_is w (s1) 5).bind (fun u2 => (f_X8_start (s1) (s0) ((1 : Int32)) w).bind (fun q1 => if (q1.1) = ((0 : Int32)) then (xk_gR q1.2 (x0) 5 3).bind (fun v4 => (xk_is q1.2 (v4) 4).bind (fun u6 => (f_Jx4a65c_size_8abf5 (v4)  q1.2).bind (fun q5 => if (q5.1) = ((12 : Int32)) then f_X8_hit_55 x0 x1 x2 ((1 : Int32)) x0 (q5.2) else f_X8_hit_55 x0 x1 x2 ((0 : Int32)) x0 (q5.2)))) else f_X8_hit_62 (q1.2)))
set_option maxHeartbeats 4000000 in
set_option maxRecDepth 100000 in
theorem t_X8_hit_30 {p : Program} {l : Launch} {e : Env} {s : State} {m : MethodId} {args : Array Value} {below : List Frame} {meth : Method} {c : Code} {E : xEv} (hC : xk_C p s m args meth c E prog_7_method_16_code "ClickbookModel" 3) (hr : meth.sig.returnType = (some .int)) {q : (Int32 × xWd)} (x0 : Option Nat) (x1 : Int32) (x2 : Int32) (s0 : Int32) (s1 : Option Nat) (w : xWd) (hf : f_X8_hit_30 x0 x1 x2 s0 s1 w = some q) : xk_X p l e { frames := 5, cells := 2, slots := 67, locals := 108 } s m args below meth c (MQ below (xk_Qi E q) args s 2 67 (xk_A E.2.2.1)) E 3 0 0 30 [(0, va_rf (x0)), (1, .int (x1)), (2, .int (x2))] [.int (s0), va_rf (s1)] w := by
  refine xk_iconst (v := (1 : Int32)) hC dX8_hit_30 (by decide) ?_
  obtain ⟨u2, h2, hf⟩ := xk_bi hf
  obtain ⟨q1, h1, hf⟩ := xk_bi hf
  refine xk_backi (xk_callV hC 2 xc_5 (c_X8_start h1) h2 xm_902 xm_904 xm_p33 xm_6 xm_905 ⟨rfl, xd_X8_start⟩ rfl ⟨Nat.le_of_ble_eq_true rfl, Nat.le_of_ble_eq_true rfl⟩ rfl (Nat.le_of_ble_eq_true rfl) dX8_hit_31 ⟨(Nat.le_of_ble_eq_true rfl), (Nat.le_of_ble_eq_true rfl)⟩) ?_
  refine xk_if_ne (tgt := 62) hC dX8_hit_34 (by decide) (fun c3 => ?_) (fun c3 => ?_)
  · replace hf := (if_neg c3).symm.trans hf
    refine xk_locals [] rfl ?_
    exact t_X8_hit_62 hC hr (q1.2) hf
  · replace hf := (if_pos c3).symm.trans hf
    refine xk_aload_n hC dX8_hit_37 0 rfl rfl ?_
    refine xk_aload_n hC dX8_hit_38 0 rfl rfl ?_
    obtain ⟨v4, h4, hf⟩ := xk_bi hf
    refine xk_getR hC xi_5 xc_5 3 (by decide) xm_863 (Or.inl rfl) dX8_hit_39 h4 ?_
    obtain ⟨u6, h6, hf⟩ := xk_bi hf
    obtain ⟨q5, h5, hf⟩ := xk_bi hf
    refine xk_backi (xk_callV hC 0 xc_4 (c_Jx4a65c_size_8abf5 h5) h6 xm_910 xm_131 xm_132 xm_4 xm_133 ⟨rfl, xd_Jx4a65c_size_8abf5⟩ rfl ⟨Nat.le_of_ble_eq_true rfl, Nat.le_of_ble_eq_true rfl⟩ rfl (by simp [xk_cat1, xk_cati, xk_catl, xk_catd]) dX8_hit_42 ⟨(Nat.le_of_ble_eq_true rfl), (Nat.le_of_ble_eq_true rfl)⟩) ?_
    refine xk_bipush (v := (12 : Int32)) hC dX8_hit_45 (by decide) ?_
    refine xk_icmp_ne (tgt := 54) hC dX8_hit_47 (by decide) (fun c7 => ?_) (fun c7 => ?_)
    · replace hf := (if_neg c7).symm.trans hf
      refine xk_iconst (v := (0 : Int32)) hC dX8_hit_54 (by decide) ?_
      exact t_X8_hit_55 hC hr x0 x1 x2 ((0 : Int32)) x0 (q5.2) hf
    · replace hf := (if_pos c7).symm.trans hf
      refine xk_iconst (v := (1 : Int32)) hC dX8_hit_50 (by decide) ?_
      refine xk_goto (tgt := 55) hC dX8_hit_51 (by decide) ?_
      exact t_X8_hit_55 hC hr x0 x1 x2 ((1 : Int32)) x0 (q5.2) hf
def f_X8_hit_25 (x0 : Option Nat) (x1 : Int32) (x2 : Int32) (s0 : Option Nat) (w : xWd) : Option (Int32 × xWd) := f_X8_hit_30 x0 x1 x2 ((1 : Int32)) s0 w
set_option maxHeartbeats 4000000 in
set_option maxRecDepth 100000 in
theorem t_X8_hit_25 {p : Program} {l : Launch} {e : Env} {s : State} {m : MethodId} {args : Array Value} {below : List Frame} {meth : Method} {c : Code} {E : xEv} (hC : xk_C p s m args meth c E prog_7_method_16_code "ClickbookModel" 3) (hr : meth.sig.returnType = (some .int)) {q : (Int32 × xWd)} (x0 : Option Nat) (x1 : Int32) (x2 : Int32) (s0 : Option Nat) (w : xWd) (hf : f_X8_hit_25 x0 x1 x2 s0 w = some q) : xk_X p l e { frames := 5, cells := 2, slots := 67, locals := 108 } s m args below meth c (MQ below (xk_Qi E q) args s 2 67 (xk_A E.2.2.1)) E 3 0 0 25 [(0, va_rf (x0)), (1, .int (x1)), (2, .int (x2))] [va_rf (s0)] w := by
  refine xk_iconst (v := (1 : Int32)) hC dX8_hit_25 (by decide) ?_
  refine xk_goto (tgt := 30) hC dX8_hit_26 (by decide) ?_
  exact t_X8_hit_30 hC hr x0 x1 x2 ((1 : Int32)) s0 w hf
def f_X8_hit (x0 : Option Nat) (x1 : Int32) (x2 : Int32) (w : xWd) : Option (Int32 × xWd) := (xk_gI w (x0) 5 1).bind (fun v1 => (f_X8_isIn (x1) ((0 : Int32)) ((v1) - ((1 : Int32))) w).bind (fun q2 => if (q2.1) = ((0 : Int32)) then f_X8_hit_25 x0 x1 x2 x0 (q2.2) else (f_X8_isIn (x2) ((0 : Int32)) ((9 : Int32)) q2.2).bind (fun q4 => if (q4.1) = ((0 : Int32)) then f_X8_hit_25 x0 x1 x2 x0 (q4.2) else f_X8_hit_30 x0 x1 x2 ((0 : Int32)) x0 (q4.2))))
set_option maxHeartbeats 4000000 in
set_option maxRecDepth 100000 in
theorem t_X8_hit_0 {p : Program} {l : Launch} {e : Env} {s : State} {m : MethodId} {args : Array Value} {below : List Frame} {meth : Method} {c : Code} {E : xEv} (hC : xk_C p s m args meth c E prog_7_method_16_code "ClickbookModel" 3) (hr : meth.sig.returnType = (some .int)) {q : (Int32 × xWd)} (x0 : Option Nat) (x1 : Int32) (x2 : Int32) (w : xWd) (hf : f_X8_hit x0 x1 x2 w = some q) : xk_X p l e { frames := 5, cells := 2, slots := 67, locals := 108 } s m args below meth c (MQ below (xk_Qi E q) args s 2 67 (xk_A E.2.2.1)) E 3 0 0 0 [(0, va_rf (x0)), (1, .int (x1)), (2, .int (x2))] [] w := by
  refine xk_aload_n hC dX8_hit_0 0 rfl rfl ?_
  refine xk_iload_n hC dX8_hit_1 1 rfl rfl ?_
  refine xk_iconst (v := (0 : Int32)) hC dX8_hit_2 (by decide) ?_
  refine xk_aload_n hC dX8_hit_3 0 rfl rfl ?_
  obtain ⟨v1, h1, hf⟩ := xk_bi hf
  refine xk_getI hC xi_5 xc_5 1 (by decide) xm_861 (Or.inl rfl) dX8_hit_4 h1 ?_
  refine xk_iconst (v := (1 : Int32)) hC dX8_hit_7 (by decide) ?_
  refine xk_isub hC dX8_hit_8 ?_
  obtain ⟨q2, h2, hf⟩ := xk_bi hf
  refine xk_backi (xk_callS hC 3 (c_X8_isIn h2) xm_899 xm_900 xm_6 xm_901 xd_X8_isIn rfl ⟨Nat.le_of_ble_eq_true rfl, Nat.le_of_ble_eq_true rfl⟩ rfl (by simp [xk_cat1, xk_cati, xk_catl, xk_catd]) dX8_hit_9 ⟨(Nat.le_of_ble_eq_true rfl), (Nat.le_of_ble_eq_true rfl)⟩) ?_
  refine xk_if_eq (tgt := 25) hC dX8_hit_12 (by decide) (fun c3 => ?_) (fun c3 => ?_)
  · replace hf := (if_pos c3).symm.trans hf
    exact t_X8_hit_25 hC hr x0 x1 x2 x0 (q2.2) hf
  · replace hf := (if_neg c3).symm.trans hf
    refine xk_iload_n hC dX8_hit_15 2 rfl rfl ?_
    refine xk_iconst (v := (0 : Int32)) hC dX8_hit_16 (by decide) ?_
    refine xk_bipush (v := (9 : Int32)) hC dX8_hit_17 (by decide) ?_
    obtain ⟨q4, h4, hf⟩ := xk_bi hf
    refine xk_backi (xk_callS hC 3 (c_X8_isIn h4) xm_899 xm_900 xm_6 xm_901 xd_X8_isIn rfl ⟨Nat.le_of_ble_eq_true rfl, Nat.le_of_ble_eq_true rfl⟩ rfl (by simp [xk_cat1, xk_cati, xk_catl, xk_catd]) dX8_hit_19 ⟨(Nat.le_of_ble_eq_true rfl), (Nat.le_of_ble_eq_true rfl)⟩) ?_
    refine xk_if_ne (tgt := 29) hC dX8_hit_22 (by decide) (fun c5 => ?_) (fun c5 => ?_)
    · replace hf := (if_neg c5).symm.trans hf
      refine xk_iconst (v := (0 : Int32)) hC dX8_hit_29 (by decide) ?_
      exact t_X8_hit_30 hC hr x0 x1 x2 ((0 : Int32)) x0 (q4.2) hf
    · replace hf := (if_pos c5).symm.trans hf
      exact t_X8_hit_25 hC hr x0 x1 x2 x0 (q4.2) hf
theorem xd_X8_hit : xy_X8_hit.cls ≠ "java/lang/invoke/MethodHandle" ∧ xy_X8_hit.cls ≠ "java/lang/invoke/VarHandle" ∧ (parseMethodDescriptor xy_X8_hit.desc).map (fun d => d.parameters.length) = some 2 := ⟨by decide +kernel, by decide +kernel, by decide +kernel⟩
theorem c_X8_hit {l : Launch} {E : xEv} {x0 : Option Nat} {x1 : Int32} {x2 : Int32} {w : xWd} {q : (Int32 × xWd)} (hf : f_X8_hit x0 x1 x2 w = some q) : xk_M l xy_X8_hit prog_7_method_16_code 3 (some .int) 5 108 2 67 E [va_rf (x0), .int (x1), .int (x2)] w (xk_Qi E q) := by
  refine xk_enter (by decide +kernel) (by simp [lg_sl, xk_cat1, xk_cati, xk_catl, xk_catd]) ?_
  intro p e s m args below meth c hC hr hin ha
  rw [show lv_args 0 [va_rf (x0), .int (x1), .int (x2)] = [(0, va_rf (x0)), (1, .int (x1)), (2, .int (x2))] by simp [lv_args, xk_cat1, xk_cati, xk_catl, xk_catd]]
  exact t_X8_hit_0 hC hr x0 x1 x2 w hf
def f_X8_thrown (x0 : Option Nat) (w : xWd) : Option (Int32 × xWd) := (xk_gI w (x0) 5 0).bind (fun v1 => some (v1, w))
set_option maxHeartbeats 4000000 in
set_option maxRecDepth 100000 in
theorem t_X8_thrown_0 {p : Program} {l : Launch} {e : Env} {s : State} {m : MethodId} {args : Array Value} {below : List Frame} {meth : Method} {c : Code} {E : xEv} (hC : xk_C p s m args meth c E prog_7_method_4_code "ClickbookModel" 1) (hr : meth.sig.returnType = (some .int)) {q : (Int32 × xWd)} (x0 : Option Nat) (w : xWd) (hf : f_X8_thrown x0 w = some q) : xk_X p l e { frames := 0, cells := 0, slots := 0, locals := 0 } s m args below meth c (MQ below (xk_Qi E q) args s 0 0 (xk_A E.2.2.1)) E 1 0 0 0 [(0, va_rf (x0))] [] w := by
  refine xk_aload_n hC dX8_thrown_0 0 rfl rfl ?_
  obtain ⟨v1, h1, hf⟩ := xk_bi hf
  refine xk_getI hC xi_5 xc_5 0 (by decide) xm_860 (Or.inl rfl) dX8_thrown_1 h1 ?_
  cases hf
  refine xk_widen (k := 0) (n := 0) (Nat.le_of_ble_eq_true rfl) (Nat.le_of_ble_eq_true rfl) ?_
  exact xk_iret hC hr rfl dX8_thrown_4
theorem xd_X8_thrown : xy_X8_thrown.cls ≠ "java/lang/invoke/MethodHandle" ∧ xy_X8_thrown.cls ≠ "java/lang/invoke/VarHandle" ∧ (parseMethodDescriptor xy_X8_thrown.desc).map (fun d => d.parameters.length) = some 0 := ⟨by decide +kernel, by decide +kernel, by decide +kernel⟩
theorem c_X8_thrown {l : Launch} {E : xEv} {x0 : Option Nat} {w : xWd} {q : (Int32 × xWd)} (hf : f_X8_thrown x0 w = some q) : xk_M l xy_X8_thrown prog_7_method_4_code 1 (some .int) 0 0 0 0 E [va_rf (x0)] w (xk_Qi E q) := by
  refine xk_enter (by decide +kernel) (by simp [lg_sl, xk_cat1, xk_cati, xk_catl, xk_catd]) ?_
  intro p e s m args below meth c hC hr hin ha
  rw [show lv_args 0 [va_rf (x0)] = [(0, va_rf (x0))] by simp [lv_args, xk_cat1, xk_cati, xk_catl, xk_catd]]
  exact t_X8_thrown_0 hC hr x0 w hf
def f_X8_theme_49 (w : xWd) : Option (Int32 × xWd) := some ((0 : Int32), w)
set_option maxHeartbeats 4000000 in
set_option maxRecDepth 100000 in
theorem t_X8_theme_49 {p : Program} {l : Launch} {e : Env} {s : State} {m : MethodId} {args : Array Value} {below : List Frame} {meth : Method} {c : Code} {E : xEv} (hC : xk_C p s m args meth c E prog_7_method_17_code "ClickbookModel" 2) (hr : meth.sig.returnType = (some .int)) {q : (Int32 × xWd)} (w : xWd) (hf : f_X8_theme_49 w = some q) : xk_X p l e { frames := 5, cells := 2, slots := 65, locals := 108 } s m args below meth c (MQ below (xk_Qi E q) args s 2 65 (xk_A E.2.2.1)) E 2 0 0 49 [] [] w := by
  refine xk_iconst (v := (0 : Int32)) hC dX8_theme_49 (by decide) ?_
  cases hf
  refine xk_widen (k := 2) (n := 65) (Nat.le_of_ble_eq_true rfl) (Nat.le_of_ble_eq_true rfl) ?_
  exact xk_iret hC hr rfl dX8_theme_50
def f_X8_theme_42 (x0 : Option Nat) (x1 : Int32) (s0 : Int32) (s1 : Option Nat) (w : xWd) : Option (Int32 × xWd) := (xk_is w (s1) 5).bind (fun u2 => (f_X8_refuse (s1) (s0) ((2 : Int32)) w).bind (fun q1 => if (q1.1) = ((0 : Int32)) then (xk_gR q1.2 (x0) 5 4).bind (fun v4 => (f_J6_valueOf_2dffe (x1) q1.2).bind (fun q5 => (xk_is q5.2 (v4) 4).bind (fun u7 => (f_Jx4a65c_add_9ea2d (v4) (q5.1) q5.2).bind (fun q6 => (xk_gR q6.2 (x0) 5 4).bind (fun v8 => (xk_is q6.2 (v8) 4).bind (fun u10 => (f_Jx4a65c_size_8abf5 (v8)  q6.2).bind (fun q9 => some ((q9.1) - ((1 : Int32)), q9.2)))))))) else f_X8_theme_49 (q1.2)))
set_option maxHeartbeats 4000000 in
set_option maxRecDepth 100000 in
theorem t_X8_theme_42 {p : Program} {l : Launch} {e : Env} {s : State} {m : MethodId} {args : Array Value} {below : List Frame} {meth : Method} {c : Code} {E : xEv} (hC : xk_C p s m args meth c E prog_7_method_17_code "ClickbookModel" 2) (hr : meth.sig.returnType = (some .int)) {q : (Int32 × xWd)} (x0 : Option Nat) (x1 : Int32) (s0 : Int32) (s1 : Option Nat) (w : xWd) (hf : f_X8_theme_42 x0 x1 s0 s1 w = some q) : xk_X p l e { frames := 5, cells := 2, slots := 65, locals := 108 } s m args below meth c (MQ below (xk_Qi E q) args s 2 65 (xk_A E.2.2.1)) E 2 0 0 42 [(0, va_rf (x0)), (1, .int (x1))] [.int (s0), va_rf (s1)] w := by
  refine xk_iconst (v := (2 : Int32)) hC dX8_theme_42 (by decide) ?_
  obtain ⟨u2, h2, hf⟩ := xk_bi hf
  obtain ⟨q1, h1, hf⟩ := xk_bi hf
  refine xk_backi (xk_callV hC 2 xc_5 (c_X8_refuse h1) h2 xm_906 xm_908 xm_p34 xm_6 xm_909 ⟨rfl, xd_X8_refuse⟩ rfl ⟨Nat.le_of_ble_eq_true rfl, Nat.le_of_ble_eq_true rfl⟩ rfl (Nat.le_of_ble_eq_true rfl) dX8_theme_43 ⟨(Nat.le_of_ble_eq_true rfl), (Nat.le_of_ble_eq_true rfl)⟩) ?_
  refine xk_if_eq (tgt := 51) hC dX8_theme_46 (by decide) (fun c3 => ?_) (fun c3 => ?_)
  · replace hf := (if_pos c3).symm.trans hf
    refine xk_aload_n hC dX8_theme_51 0 rfl rfl ?_
    obtain ⟨v4, h4, hf⟩ := xk_bi hf
    refine xk_getR hC xi_5 xc_5 4 (by decide) xm_864 (Or.inl rfl) dX8_theme_52 h4 ?_
    refine xk_iload_n hC dX8_theme_55 1 rfl rfl ?_
    obtain ⟨q5, h5, hf⟩ := xk_bi hf
    refine xk_backq (xk_callS hC 1 (c_J6_valueOf_2dffe h5) xm_934 xm_935 xm_19 xm_936 xd_J6_valueOf_2dffe rfl ⟨Nat.le_of_ble_eq_true rfl, Nat.le_of_ble_eq_true rfl⟩ rfl (by simp [xk_cat1, xk_cati, xk_catl, xk_catd]) dX8_theme_56 ⟨(Nat.le_of_ble_eq_true rfl), (Nat.le_of_ble_eq_true rfl)⟩) ?_
    obtain ⟨u7, h7, hf⟩ := xk_bi hf
    obtain ⟨q6, h6, hf⟩ := xk_bi hf
    refine xk_backi (xk_callV hC 1 xc_4 (c_Jx4a65c_add_9ea2d h6) h7 xm_929 xm_387 xm_388 xm_4 xm_389 ⟨rfl, xd_Jx4a65c_add_9ea2d⟩ rfl ⟨Nat.le_of_ble_eq_true rfl, Nat.le_of_ble_eq_true rfl⟩ rfl (Nat.le_of_ble_eq_true rfl) dX8_theme_59 ⟨(Nat.le_of_ble_eq_true rfl), (Nat.le_of_ble_eq_true rfl)⟩) ?_
    refine xk_pop hC dX8_theme_62 rfl ?_
    refine xk_aload_n hC dX8_theme_63 0 rfl rfl ?_
    obtain ⟨v8, h8, hf⟩ := xk_bi hf
    refine xk_getR hC xi_5 xc_5 4 (by decide) xm_864 (Or.inl rfl) dX8_theme_64 h8 ?_
    obtain ⟨u10, h10, hf⟩ := xk_bi hf
    obtain ⟨q9, h9, hf⟩ := xk_bi hf
    refine xk_backi (xk_callV hC 0 xc_4 (c_Jx4a65c_size_8abf5 h9) h10 xm_910 xm_131 xm_132 xm_4 xm_133 ⟨rfl, xd_Jx4a65c_size_8abf5⟩ rfl ⟨Nat.le_of_ble_eq_true rfl, Nat.le_of_ble_eq_true rfl⟩ rfl (Nat.le_of_ble_eq_true rfl) dX8_theme_67 ⟨(Nat.le_of_ble_eq_true rfl), (Nat.le_of_ble_eq_true rfl)⟩) ?_
    refine xk_iconst (v := (1 : Int32)) hC dX8_theme_70 (by decide) ?_
    refine xk_isub hC dX8_theme_71 ?_
    cases hf
    refine xk_widen (k := 2) (n := 65) (Nat.le_of_ble_eq_true rfl) (Nat.le_of_ble_eq_true rfl) ?_
    exact xk_iret hC hr rfl dX8_theme_72
  · replace hf := (if_neg c3).symm.trans hf
    refine xk_locals [] rfl ?_
    exact t_X8_theme_49 hC hr (q1.2) hf
def f_X8_theme_18 (x0 : Option Nat) (x1 : Int32) (s0 : Int32) (s1 : Option Nat) (w : xWd) : Option (Int32 × xWd) := (xk_is w (s1) 5).bind (fun u2 => (f_X8_start (s1) (s0) ((1 : Int32)) w).bind (fun q1 => if (q1.1) = ((0 : Int32)) then (xk_gR q1.2 (x0) 5 4).bind (fun v4 => (xk_is q1.2 (v4) 4).bind (fun u6 => (f_Jx4a65c_size_8abf5 (v4)  q1.2).bind (fun q5 => if (q5.1) = ((4 : Int32)) then f_X8_theme_42 x0 x1 ((1 : Int32)) x0 (q5.2) else f_X8_theme_42 x0 x1 ((0 : Int32)) x0 (q5.2)))) else f_X8_theme_49 (q1.2)))
set_option maxHeartbeats 4000000 in
set_option maxRecDepth 100000 in
theorem t_X8_theme_18 {p : Program} {l : Launch} {e : Env} {s : State} {m : MethodId} {args : Array Value} {below : List Frame} {meth : Method} {c : Code} {E : xEv} (hC : xk_C p s m args meth c E prog_7_method_17_code "ClickbookModel" 2) (hr : meth.sig.returnType = (some .int)) {q : (Int32 × xWd)} (x0 : Option Nat) (x1 : Int32) (s0 : Int32) (s1 : Option Nat) (w : xWd) (hf : f_X8_theme_18 x0 x1 s0 s1 w = some q) : xk_X p l e { frames := 5, cells := 2, slots := 65, locals := 108 } s m args below meth c (MQ below (xk_Qi E q) args s 2 65 (xk_A E.2.2.1)) E 2 0 0 18 [(0, va_rf (x0)), (1, .int (x1))] [.int (s0), va_rf (s1)] w := by
  refine xk_iconst (v := (1 : Int32)) hC dX8_theme_18 (by decide) ?_
  obtain ⟨u2, h2, hf⟩ := xk_bi hf
  obtain ⟨q1, h1, hf⟩ := xk_bi hf
  refine xk_backi (xk_callV hC 2 xc_5 (c_X8_start h1) h2 xm_902 xm_904 xm_p33 xm_6 xm_905 ⟨rfl, xd_X8_start⟩ rfl ⟨Nat.le_of_ble_eq_true rfl, Nat.le_of_ble_eq_true rfl⟩ rfl (Nat.le_of_ble_eq_true rfl) dX8_theme_19 ⟨(Nat.le_of_ble_eq_true rfl), (Nat.le_of_ble_eq_true rfl)⟩) ?_
  refine xk_if_ne (tgt := 49) hC dX8_theme_22 (by decide) (fun c3 => ?_) (fun c3 => ?_)
  · replace hf := (if_neg c3).symm.trans hf
    refine xk_locals [] rfl ?_
    exact t_X8_theme_49 hC hr (q1.2) hf
  · replace hf := (if_pos c3).symm.trans hf
    refine xk_aload_n hC dX8_theme_25 0 rfl rfl ?_
    refine xk_aload_n hC dX8_theme_26 0 rfl rfl ?_
    obtain ⟨v4, h4, hf⟩ := xk_bi hf
    refine xk_getR hC xi_5 xc_5 4 (by decide) xm_864 (Or.inl rfl) dX8_theme_27 h4 ?_
    obtain ⟨u6, h6, hf⟩ := xk_bi hf
    obtain ⟨q5, h5, hf⟩ := xk_bi hf
    refine xk_backi (xk_callV hC 0 xc_4 (c_Jx4a65c_size_8abf5 h5) h6 xm_910 xm_131 xm_132 xm_4 xm_133 ⟨rfl, xd_Jx4a65c_size_8abf5⟩ rfl ⟨Nat.le_of_ble_eq_true rfl, Nat.le_of_ble_eq_true rfl⟩ rfl (by simp [xk_cat1, xk_cati, xk_catl, xk_catd]) dX8_theme_30 ⟨(Nat.le_of_ble_eq_true rfl), (Nat.le_of_ble_eq_true rfl)⟩) ?_
    refine xk_iconst (v := (4 : Int32)) hC dX8_theme_33 (by decide) ?_
    refine xk_icmp_ne (tgt := 41) hC dX8_theme_34 (by decide) (fun c7 => ?_) (fun c7 => ?_)
    · replace hf := (if_neg c7).symm.trans hf
      refine xk_iconst (v := (0 : Int32)) hC dX8_theme_41 (by decide) ?_
      exact t_X8_theme_42 hC hr x0 x1 ((0 : Int32)) x0 (q5.2) hf
    · replace hf := (if_pos c7).symm.trans hf
      refine xk_iconst (v := (1 : Int32)) hC dX8_theme_37 (by decide) ?_
      refine xk_goto (tgt := 42) hC dX8_theme_38 (by decide) ?_
      exact t_X8_theme_42 hC hr x0 x1 ((1 : Int32)) x0 (q5.2) hf
def f_X8_theme (x0 : Option Nat) (x1 : Int32) (w : xWd) : Option (Int32 × xWd) := (xk_gI w (x0) 5 1).bind (fun v1 => (f_X8_isIn (x1) ((0 : Int32)) (v1) w).bind (fun q2 => if (q2.1) = ((0 : Int32)) then f_X8_theme_18 x0 x1 ((1 : Int32)) x0 (q2.2) else f_X8_theme_18 x0 x1 ((0 : Int32)) x0 (q2.2)))
set_option maxHeartbeats 4000000 in
set_option maxRecDepth 100000 in
theorem t_X8_theme_0 {p : Program} {l : Launch} {e : Env} {s : State} {m : MethodId} {args : Array Value} {below : List Frame} {meth : Method} {c : Code} {E : xEv} (hC : xk_C p s m args meth c E prog_7_method_17_code "ClickbookModel" 2) (hr : meth.sig.returnType = (some .int)) {q : (Int32 × xWd)} (x0 : Option Nat) (x1 : Int32) (w : xWd) (hf : f_X8_theme x0 x1 w = some q) : xk_X p l e { frames := 5, cells := 2, slots := 65, locals := 108 } s m args below meth c (MQ below (xk_Qi E q) args s 2 65 (xk_A E.2.2.1)) E 2 0 0 0 [(0, va_rf (x0)), (1, .int (x1))] [] w := by
  refine xk_aload_n hC dX8_theme_0 0 rfl rfl ?_
  refine xk_iload_n hC dX8_theme_1 1 rfl rfl ?_
  refine xk_iconst (v := (0 : Int32)) hC dX8_theme_2 (by decide) ?_
  refine xk_aload_n hC dX8_theme_3 0 rfl rfl ?_
  obtain ⟨v1, h1, hf⟩ := xk_bi hf
  refine xk_getI hC xi_5 xc_5 1 (by decide) xm_861 (Or.inl rfl) dX8_theme_4 h1 ?_
  obtain ⟨q2, h2, hf⟩ := xk_bi hf
  refine xk_backi (xk_callS hC 3 (c_X8_isIn h2) xm_899 xm_900 xm_6 xm_901 xd_X8_isIn rfl ⟨Nat.le_of_ble_eq_true rfl, Nat.le_of_ble_eq_true rfl⟩ rfl (by simp [xk_cat1, xk_cati, xk_catl, xk_catd]) dX8_theme_7 ⟨(Nat.le_of_ble_eq_true rfl), (Nat.le_of_ble_eq_true rfl)⟩) ?_
  refine xk_if_ne (tgt := 17) hC dX8_theme_10 (by decide) (fun c3 => ?_) (fun c3 => ?_)
  · replace hf := (if_neg c3).symm.trans hf
    refine xk_iconst (v := (0 : Int32)) hC dX8_theme_17 (by decide) ?_
    exact t_X8_theme_18 hC hr x0 x1 ((0 : Int32)) x0 (q2.2) hf
  · replace hf := (if_pos c3).symm.trans hf
    refine xk_iconst (v := (1 : Int32)) hC dX8_theme_13 (by decide) ?_
    refine xk_goto (tgt := 18) hC dX8_theme_14 (by decide) ?_
    exact t_X8_theme_18 hC hr x0 x1 ((1 : Int32)) x0 (q2.2) hf
theorem xd_X8_theme : xy_X8_theme.cls ≠ "java/lang/invoke/MethodHandle" ∧ xy_X8_theme.cls ≠ "java/lang/invoke/VarHandle" ∧ (parseMethodDescriptor xy_X8_theme.desc).map (fun d => d.parameters.length) = some 1 := ⟨by decide +kernel, by decide +kernel, by decide +kernel⟩
theorem c_X8_theme {l : Launch} {E : xEv} {x0 : Option Nat} {x1 : Int32} {w : xWd} {q : (Int32 × xWd)} (hf : f_X8_theme x0 x1 w = some q) : xk_M l xy_X8_theme prog_7_method_17_code 2 (some .int) 5 108 2 65 E [va_rf (x0), .int (x1)] w (xk_Qi E q) := by
  refine xk_enter (by decide +kernel) (by simp [lg_sl, xk_cat1, xk_cati, xk_catl, xk_catd]) ?_
  intro p e s m args below meth c hC hr hin ha
  rw [show lv_args 0 [va_rf (x0), .int (x1)] = [(0, va_rf (x0)), (1, .int (x1))] by simp [lv_args, xk_cat1, xk_cati, xk_catl, xk_catd]]
  exact t_X8_theme_0 hC hr x0 x1 w hf
def f_X8_isNoChange_59 (s0 : Int32) (w : xWd) : Option (Int32 × xWd) := (xk_zb (s0)).bind (fun u1 => some (s0, w))
set_option maxHeartbeats 4000000 in
set_option maxRecDepth 100000 in
theorem t_X8_isNoChange_59 {p : Program} {l : Launch} {e : Env} {s : State} {m : MethodId} {args : Array Value} {below : List Frame} {meth : Method} {c : Code} {E : xEv} (hC : xk_C p s m args meth c E prog_7_method_18_code "ClickbookModel" 3) (hr : meth.sig.returnType = (some .boolean)) {q : (Int32 × xWd)} (s0 : Int32) (w : xWd) (hf : f_X8_isNoChange_59 s0 w = some q) : xk_X p l e { frames := 1, cells := 0, slots := 0, locals := 22 } s m args below meth c (MQ below (xk_Qi E q) args s 0 0 (xk_A E.2.2.1)) E 3 0 0 59 [] [.int (s0)] w := by
  obtain ⟨u1, h1, hf⟩ := xk_bi hf
  cases hf
  refine xk_widen (k := 0) (n := 0) (Nat.le_of_ble_eq_true rfl) (Nat.le_of_ble_eq_true rfl) ?_
  exact xk_iret hC hr (xk_zb_e h1) dX8_isNoChange_59
def f_X8_isNoChange_54 (w : xWd) : Option (Int32 × xWd) := f_X8_isNoChange_59 ((1 : Int32)) w
set_option maxHeartbeats 4000000 in
set_option maxRecDepth 100000 in
theorem t_X8_isNoChange_54 {p : Program} {l : Launch} {e : Env} {s : State} {m : MethodId} {args : Array Value} {below : List Frame} {meth : Method} {c : Code} {E : xEv} (hC : xk_C p s m args meth c E prog_7_method_18_code "ClickbookModel" 3) (hr : meth.sig.returnType = (some .boolean)) {q : (Int32 × xWd)} (w : xWd) (hf : f_X8_isNoChange_54 w = some q) : xk_X p l e { frames := 1, cells := 0, slots := 0, locals := 22 } s m args below meth c (MQ below (xk_Qi E q) args s 0 0 (xk_A E.2.2.1)) E 3 0 0 54 [] [] w := by
  refine xk_iconst (v := (1 : Int32)) hC dX8_isNoChange_54 (by decide) ?_
  refine xk_goto (tgt := 59) hC dX8_isNoChange_55 (by decide) ?_
  exact t_X8_isNoChange_59 hC hr ((1 : Int32)) w hf
def f_X8_isNoChange_58 (w : xWd) : Option (Int32 × xWd) := f_X8_isNoChange_59 ((0 : Int32)) w
set_option maxHeartbeats 4000000 in
set_option maxRecDepth 100000 in
theorem t_X8_isNoChange_58 {p : Program} {l : Launch} {e : Env} {s : State} {m : MethodId} {args : Array Value} {below : List Frame} {meth : Method} {c : Code} {E : xEv} (hC : xk_C p s m args meth c E prog_7_method_18_code "ClickbookModel" 3) (hr : meth.sig.returnType = (some .boolean)) {q : (Int32 × xWd)} (w : xWd) (hf : f_X8_isNoChange_58 w = some q) : xk_X p l e { frames := 1, cells := 0, slots := 0, locals := 22 } s m args below meth c (MQ below (xk_Qi E q) args s 0 0 (xk_A E.2.2.1)) E 3 0 0 58 [] [] w := by
  refine xk_iconst (v := (0 : Int32)) hC dX8_isNoChange_58 (by decide) ?_
  exact t_X8_isNoChange_59 hC hr ((0 : Int32)) w hf
def f_X8_isNoChange (x0 : Option Nat) (x1 : Int32) (x2 : Int32) (w : xWd) : Option (Int32 × xWd) := (xk_gI w (x0) 5 1).bind (fun v1 => (f_X8_isIn (x1) ((0 : Int32)) (v1) w).bind (fun q2 => if (q2.1) = ((0 : Int32)) then f_X8_isNoChange_54 (q2.2) else if (x2) = ((0 : Int32)) then f_X8_isNoChange_54 (q2.2) else (f_X8_isIn (x2) ((-999 : Int32)) ((999 : Int32)) q2.2).bind (fun q5 => if (q5.1) = ((0 : Int32)) then f_X8_isNoChange_54 (q5.2) else if ((0 : Int32)) ≤ (x2) then f_X8_isNoChange_58 (q5.2) else (xk_gI q5.2 (x0) 5 1).bind (fun v8 => if (v8) < ((x1) - (x2)) then f_X8_isNoChange_54 (q5.2) else (xk_gI q5.2 (x0) 5 1).bind (fun v10 => if ((24 : Int32)) ≤ ((v10) + (x2)) then f_X8_isNoChange_58 (q5.2) else f_X8_isNoChange_54 (q5.2))))))
set_option maxHeartbeats 4000000 in
set_option maxRecDepth 100000 in
theorem t_X8_isNoChange_0 {p : Program} {l : Launch} {e : Env} {s : State} {m : MethodId} {args : Array Value} {below : List Frame} {meth : Method} {c : Code} {E : xEv} (hC : xk_C p s m args meth c E prog_7_method_18_code "ClickbookModel" 3) (hr : meth.sig.returnType = (some .boolean)) {q : (Int32 × xWd)} (x0 : Option Nat) (x1 : Int32) (x2 : Int32) (w : xWd) (hf : f_X8_isNoChange x0 x1 x2 w = some q) : xk_X p l e { frames := 1, cells := 0, slots := 0, locals := 22 } s m args below meth c (MQ below (xk_Qi E q) args s 0 0 (xk_A E.2.2.1)) E 3 0 0 0 [(0, va_rf (x0)), (1, .int (x1)), (2, .int (x2))] [] w := by
  refine xk_iload_n hC dX8_isNoChange_0 1 rfl rfl ?_
  refine xk_iconst (v := (0 : Int32)) hC dX8_isNoChange_1 (by decide) ?_
  refine xk_aload_n hC dX8_isNoChange_2 0 rfl rfl ?_
  obtain ⟨v1, h1, hf⟩ := xk_bi hf
  refine xk_getI hC xi_5 xc_5 1 (by decide) xm_861 (Or.inl rfl) dX8_isNoChange_3 h1 ?_
  obtain ⟨q2, h2, hf⟩ := xk_bi hf
  refine xk_backi (xk_callS hC 3 (c_X8_isIn h2) xm_899 xm_900 xm_6 xm_901 xd_X8_isIn rfl ⟨Nat.le_of_ble_eq_true rfl, Nat.le_of_ble_eq_true rfl⟩ rfl (Nat.le_of_ble_eq_true rfl) dX8_isNoChange_6 ⟨(Nat.le_of_ble_eq_true rfl), (Nat.le_of_ble_eq_true rfl)⟩) ?_
  refine xk_if_eq (tgt := 54) hC dX8_isNoChange_9 (by decide) (fun c3 => ?_) (fun c3 => ?_)
  · replace hf := (if_pos c3).symm.trans hf
    refine xk_locals [] rfl ?_
    exact t_X8_isNoChange_54 hC hr (q2.2) hf
  · replace hf := (if_neg c3).symm.trans hf
    refine xk_iload_n hC dX8_isNoChange_12 2 rfl rfl ?_
    refine xk_if_eq (tgt := 54) hC dX8_isNoChange_13 (by decide) (fun c4 => ?_) (fun c4 => ?_)
    · replace hf := (if_pos c4).symm.trans hf
      refine xk_locals [] rfl ?_
      exact t_X8_isNoChange_54 hC hr (q2.2) hf
    · replace hf := (if_neg c4).symm.trans hf
      refine xk_iload_n hC dX8_isNoChange_16 2 rfl rfl ?_
      refine xk_sipush (v := (-999 : Int32)) hC dX8_isNoChange_17 (by decide) ?_
      refine xk_sipush (v := (999 : Int32)) hC dX8_isNoChange_20 (by decide) ?_
      obtain ⟨q5, h5, hf⟩ := xk_bi hf
      refine xk_backi (xk_callS hC 3 (c_X8_isIn h5) xm_899 xm_900 xm_6 xm_901 xd_X8_isIn rfl ⟨Nat.le_of_ble_eq_true rfl, Nat.le_of_ble_eq_true rfl⟩ rfl (Nat.le_of_ble_eq_true rfl) dX8_isNoChange_23 ⟨(Nat.le_of_ble_eq_true rfl), (Nat.le_of_ble_eq_true rfl)⟩) ?_
      refine xk_if_eq (tgt := 54) hC dX8_isNoChange_26 (by decide) (fun c6 => ?_) (fun c6 => ?_)
      · replace hf := (if_pos c6).symm.trans hf
        refine xk_locals [] rfl ?_
        exact t_X8_isNoChange_54 hC hr (q5.2) hf
      · replace hf := (if_neg c6).symm.trans hf
        refine xk_iload_n hC dX8_isNoChange_29 2 rfl rfl ?_
        refine xk_if_ge (tgt := 58) hC dX8_isNoChange_30 (by decide) (fun c7 => ?_) (fun c7 => ?_)
        · replace hf := (if_pos c7).symm.trans hf
          refine xk_locals [] rfl ?_
          exact t_X8_isNoChange_58 hC hr (q5.2) hf
        · replace hf := (if_neg c7).symm.trans hf
          refine xk_iload_n hC dX8_isNoChange_33 1 rfl rfl ?_
          refine xk_iload_n hC dX8_isNoChange_34 2 rfl rfl ?_
          refine xk_isub hC dX8_isNoChange_35 ?_
          refine xk_aload_n hC dX8_isNoChange_36 0 rfl rfl ?_
          obtain ⟨v8, h8, hf⟩ := xk_bi hf
          refine xk_getI hC xi_5 xc_5 1 (by decide) xm_861 (Or.inl rfl) dX8_isNoChange_37 h8 ?_
          refine xk_icmp_gt (tgt := 54) hC dX8_isNoChange_40 (by decide) (fun c9 => ?_) (fun c9 => ?_)
          · replace hf := (if_pos c9).symm.trans hf
            refine xk_locals [] rfl ?_
            exact t_X8_isNoChange_54 hC hr (q5.2) hf
          · replace hf := (if_neg c9).symm.trans hf
            refine xk_aload_n hC dX8_isNoChange_43 0 rfl rfl ?_
            obtain ⟨v10, h10, hf⟩ := xk_bi hf
            refine xk_getI hC xi_5 xc_5 1 (by decide) xm_861 (Or.inl rfl) dX8_isNoChange_44 h10 ?_
            refine xk_iload_n hC dX8_isNoChange_47 2 rfl rfl ?_
            refine xk_iadd hC dX8_isNoChange_48 ?_
            refine xk_bipush (v := (24 : Int32)) hC dX8_isNoChange_49 (by decide) ?_
            refine xk_icmp_ge (tgt := 58) hC dX8_isNoChange_51 (by decide) (fun c11 => ?_) (fun c11 => ?_)
            · replace hf := (if_pos c11).symm.trans hf
              refine xk_locals [] rfl ?_
              exact t_X8_isNoChange_58 hC hr (q5.2) hf
            · replace hf := (if_neg c11).symm.trans hf
              refine xk_locals [] rfl ?_
              exact t_X8_isNoChange_54 hC hr (q5.2) hf
theorem xd_X8_isNoChange : xy_X8_isNoChange.cls ≠ "java/lang/invoke/MethodHandle" ∧ xy_X8_isNoChange.cls ≠ "java/lang/invoke/VarHandle" ∧ (parseMethodDescriptor xy_X8_isNoChange.desc).map (fun d => d.parameters.length) = some 2 := ⟨by decide +kernel, by decide +kernel, by decide +kernel⟩
theorem c_X8_isNoChange {l : Launch} {E : xEv} {x0 : Option Nat} {x1 : Int32} {x2 : Int32} {w : xWd} {q : (Int32 × xWd)} (hf : f_X8_isNoChange x0 x1 x2 w = some q) : xk_M l xy_X8_isNoChange prog_7_method_18_code 3 (some .boolean) 1 22 0 0 E [va_rf (x0), .int (x1), .int (x2)] w (xk_Qi E q) := by
  refine xk_enter (by decide +kernel) (by simp [lg_sl, xk_cat1, xk_cati, xk_catl, xk_catd]) ?_
  intro p e s m args below meth c hC hr hin ha
  rw [show lv_args 0 [va_rf (x0), .int (x1), .int (x2)] = [(0, va_rf (x0)), (1, .int (x1)), (2, .int (x2))] by simp [lv_args, xk_cat1, xk_cati, xk_catl, xk_catd]]
  exact t_X8_isNoChange_0 hC hr x0 x1 x2 w hf
def f_X8_change_36 (w : xWd) : Option (Int32 × xWd) := some ((0 : Int32), w)
set_option maxHeartbeats 4000000 in
set_option maxRecDepth 100000 in
theorem t_X8_change_36 {p : Program} {l : Launch} {e : Env} {s : State} {m : MethodId} {args : Array Value} {below : List Frame} {meth : Method} {c : Code} {E : xEv} (hC : xk_C p s m args meth c E prog_7_method_21_code "ClickbookModel" 6) (hr : meth.sig.returnType = (some .int)) {q : (Int32 × xWd)} (w : xWd) (hf : f_X8_change_36 w = some q) : xk_X p l e { frames := 3, cells := 2, slots := 8, locals := 61 } s m args below meth c (MQ below (xk_Qi E q) args s 2 8 (xk_A E.2.2.1)) E 6 0 0 36 [] [] w := by
  refine xk_iconst (v := (0 : Int32)) hC dX8_change_36 (by decide) ?_
  cases hf
  refine xk_widen (k := 2) (n := 8) (Nat.le_of_ble_eq_true rfl) (Nat.le_of_ble_eq_true rfl) ?_
  exact xk_iret hC hr rfl dX8_change_37
def f_X8_change_29 (x0 : Option Nat) (x2 : Int32) (s0 : Int32) (s1 : Option Nat) (w : xWd) : Option (Int32 × xWd) := (xk_is w (s1) 5).bind (fun u2 => (f_X8_refuse (s1) (s0) ((2 : Int32)) w).bind (fun q1 => if (q1.1) = ((0 : Int32)) then (xk_gR q1.2 (x0) 5 5).bind (fun v4 => (xk_is q1.2 (v4) 4).bind (fun u6 => (f_Jx4a65c_iterator_32c93 (v4)  q1.2).bind (fun q5 => (xk_is q5.2 (q5.1) 8).bind (fun u7 => (f_Jx35411_hasNext_aae02 (q5.1) q5.2).bind (fun q8 => if (q8.1) = ((0 : Int32)) then (xk_gR q8.2 (x0) 5 3).bind (fun v10 => (xk_is q8.2 (v10) 4).bind (fun u12 => (f_Jx4a65c_iterator_32c93 (v10)  q8.2).bind (fun q11 => (xk_is q11.2 (q11.1) 8).bind (fun u13 => (f_Jx35411_hasNext_aae02 (q11.1) q11.2).bind (fun q14 => if (q14.1) = ((0 : Int32)) then (xk_gR q14.2 (x0) 5 4).bind (fun v16 => (xk_is q14.2 (v16) 4).bind (fun u18 => (f_Jx4a65c_size_8abf5 (v16)  q14.2).bind (fun q17 => if (q17.1) ≤ ((0 : Int32)) then (xk_gI q17.2 (x0) 5 1).bind (fun v20 => (xk_pV q17.2 (x0) 5 1 (.int ((v20) + (x2)))).bind (fun w21 => (xk_gI w21 (x0) 5 2).bind (fun v22 => (xk_pV w21 (x0) 5 2 (.int ((v22) + ((1 : Int32))))).bind (fun w23 => some ((0 : Int32), w23))))) else (xk_gR q17.2 (x0) 5 4).bind (fun v24 => (xk_gR q17.2 (x0) 5 4).bind (fun v25 => none))))) else none))))) else none))))) else f_X8_change_36 (q1.2)))
set_option maxHeartbeats 4000000 in
set_option maxRecDepth 100000 in
theorem t_X8_change_29 {p : Program} {l : Launch} {e : Env} {s : State} {m : MethodId} {args : Array Value} {below : List Frame} {meth : Method} {c : Code} {E : xEv} (hC : xk_C p s m args meth c E prog_7_method_21_code "ClickbookModel" 6) (hr : meth.sig.returnType = (some .int)) {q : (Int32 × xWd)} (x0 : Option Nat) (x2 : Int32) (s0 : Int32) (s1 : Option Nat) (w : xWd) (hf : f_X8_change_29 x0 x2 s0 s1 w = some q) : xk_X p l e { frames := 3, cells := 2, slots := 8, locals := 61 } s m args below meth c (MQ below (xk_Qi E q) args s 2 8 (xk_A E.2.2.1)) E 6 0 0 29 [(0, va_rf (x0)), (2, .int (x2))] [.int (s0), va_rf (s1)] w := by
  refine xk_iconst (v := (2 : Int32)) hC dX8_change_29 (by decide) ?_
  obtain ⟨u2, h2, hf⟩ := xk_bi hf
  obtain ⟨q1, h1, hf⟩ := xk_bi hf
  refine xk_backi (xk_callV hC 2 xc_5 (c_X8_refuse h1) h2 xm_906 xm_908 xm_p34 xm_6 xm_909 ⟨rfl, xd_X8_refuse⟩ rfl ⟨Nat.le_of_ble_eq_true rfl, Nat.le_of_ble_eq_true rfl⟩ rfl (Nat.le_of_ble_eq_true rfl) dX8_change_30 ⟨(Nat.le_of_ble_eq_true rfl), (Nat.le_of_ble_eq_true rfl)⟩) ?_
  refine xk_if_eq (tgt := 38) hC dX8_change_33 (by decide) (fun c3 => ?_) (fun c3 => ?_)
  · replace hf := (if_pos c3).symm.trans hf
    refine xk_iconst (v := (0 : Int32)) hC dX8_change_38 (by decide) ?_
    refine xk_istore_n (i := 3) (lv' := [(3, .int ((0 : Int32))), (0, va_rf (x0)), (2, .int (x2))]) hC dX8_change_39 rfl (by decide) rfl ?_
    refine xk_aload_n hC dX8_change_40 1 rfl rfl ?_
    obtain ⟨v4, h4, hf⟩ := xk_bi hf
    refine xk_getR hC xi_5 xc_5 5 (by decide) xm_865 (Or.inl rfl) dX8_change_41 h4 ?_
    obtain ⟨u6, h6, hf⟩ := xk_bi hf
    obtain ⟨q5, h5, hf⟩ := xk_bi hf
    refine xk_backq (xk_callV hC 0 xc_4 (c_Jx4a65c_iterator_32c93 h5) h6 xm_962 xm_963 xm_964 xm_4 xm_965 ⟨rfl, xd_Jx4a65c_iterator_32c93⟩ rfl ⟨Nat.le_of_ble_eq_true rfl, Nat.le_of_ble_eq_true rfl⟩ rfl (Nat.le_of_ble_eq_true rfl) dX8_change_44 ⟨(Nat.le_of_ble_eq_true rfl), (Nat.le_of_ble_eq_true rfl)⟩) ?_
    refine xk_astore (i := 4) (lv' := [(4, va_rf (q5.1)), (3, .int ((0 : Int32))), (0, va_rf (x0)), (2, .int (x2))]) hC dX8_change_47 (by decide) rfl ?_
    refine xk_aload hC dX8_change_49 0 rfl ?_
    obtain ⟨u7, h7, hf⟩ := xk_bi hf
    obtain ⟨q8, h8, hf⟩ := xk_bi hf
    refine xk_callFi (av := []) (rest := []) hC 0 xc_8 (c_Jx35411_hasNext_aae02 h8) h7 (xk_note54 hC) xm_986 xm_990 xm_992 xm_23 xm_994 ⟨by decide +kernel, by decide +kernel, by decide +kernel⟩ rfl ⟨Nat.le_of_ble_eq_true rfl, Nat.le_of_ble_eq_true rfl⟩ rfl (Nat.le_of_ble_eq_true rfl) dX8_change_51 ⟨(Nat.le_of_ble_eq_true rfl), (Nat.le_of_ble_eq_true rfl)⟩ ?_
    refine xk_if_eq (tgt := 113) hC dX8_change_56 (by decide) (fun c9 => ?_) (fun c9 => ?_)
    · replace hf := (if_pos c9).symm.trans hf
      refine xk_aload_n hC dX8_change_113 2 rfl rfl ?_
      obtain ⟨v10, h10, hf⟩ := xk_bi hf
      refine xk_getR hC xi_5 xc_5 3 (by decide) xm_863 (Or.inl rfl) dX8_change_114 h10 ?_
      obtain ⟨u12, h12, hf⟩ := xk_bi hf
      obtain ⟨q11, h11, hf⟩ := xk_bi hf
      refine xk_backq (xk_callV hC 0 xc_4 (c_Jx4a65c_iterator_32c93 h11) h12 xm_962 xm_963 xm_964 xm_4 xm_965 ⟨rfl, xd_Jx4a65c_iterator_32c93⟩ rfl ⟨Nat.le_of_ble_eq_true rfl, Nat.le_of_ble_eq_true rfl⟩ rfl (Nat.le_of_ble_eq_true rfl) dX8_change_117 ⟨(Nat.le_of_ble_eq_true rfl), (Nat.le_of_ble_eq_true rfl)⟩) ?_
      refine xk_astore (i := 4) (lv' := [(4, va_rf (q11.1)), (3, .int ((0 : Int32))), (0, va_rf (x0)), (2, .int (x2))]) hC dX8_change_120 (by decide) rfl ?_
      refine xk_aload hC dX8_change_122 0 rfl ?_
      obtain ⟨u13, h13, hf⟩ := xk_bi hf
      obtain ⟨q14, h14, hf⟩ := xk_bi hf
      refine xk_callFi (av := []) (rest := []) hC 0 xc_8 (c_Jx35411_hasNext_aae02 h14) h13 (xk_note54 hC) xm_986 xm_990 xm_992 xm_23 xm_994 ⟨by decide +kernel, by decide +kernel, by decide +kernel⟩ rfl ⟨Nat.le_of_ble_eq_true rfl, Nat.le_of_ble_eq_true rfl⟩ rfl (Nat.le_of_ble_eq_true rfl) dX8_change_124 ⟨(Nat.le_of_ble_eq_true rfl), (Nat.le_of_ble_eq_true rfl)⟩ ?_
      refine xk_if_eq (tgt := 196) hC dX8_change_129 (by decide) (fun c15 => ?_) (fun c15 => ?_)
      · replace hf := (if_pos c15).symm.trans hf
        refine xk_iconst (v := (0 : Int32)) hC dX8_change_196 (by decide) ?_
        refine xk_istore (i := 4) (lv' := [(4, .int ((0 : Int32))), (3, .int ((0 : Int32))), (0, va_rf (x0)), (2, .int (x2))]) hC dX8_change_197 (by decide) rfl ?_
        refine xk_iload hC dX8_change_199 0 rfl ?_
        refine xk_aload_n hC dX8_change_201 2 rfl rfl ?_
        obtain ⟨v16, h16, hf⟩ := xk_bi hf
        refine xk_getR hC xi_5 xc_5 4 (by decide) xm_864 (Or.inl rfl) dX8_change_202 h16 ?_
        obtain ⟨u18, h18, hf⟩ := xk_bi hf
        obtain ⟨q17, h17, hf⟩ := xk_bi hf
        refine xk_backi (xk_callV hC 0 xc_4 (c_Jx4a65c_size_8abf5 h17) h18 xm_910 xm_131 xm_132 xm_4 xm_133 ⟨rfl, xd_Jx4a65c_size_8abf5⟩ rfl ⟨Nat.le_of_ble_eq_true rfl, Nat.le_of_ble_eq_true rfl⟩ rfl (Nat.le_of_ble_eq_true rfl) dX8_change_205 ⟨(Nat.le_of_ble_eq_true rfl), (Nat.le_of_ble_eq_true rfl)⟩) ?_
        refine xk_icmp_ge (tgt := 250) hC dX8_change_208 (by decide) (fun c19 => ?_) (fun c19 => ?_)
        · replace hf := (if_pos c19).symm.trans hf
          refine xk_aload_n hC dX8_change_250 2 rfl rfl ?_
          refine xk_dup hC dX8_change_251 (xk_cat1 _) ?_
          obtain ⟨v20, h20, hf⟩ := xk_bi hf
          refine xk_getI hC xi_5 xc_5 1 (by decide) xm_861 (Or.inl rfl) dX8_change_252 h20 ?_
          refine xk_iload_n hC dX8_change_255 3 rfl rfl ?_
          refine xk_iadd hC dX8_change_256 ?_
          obtain ⟨w21, h21, hf⟩ := xk_bi hf
          refine xk_put hC xi_5 xc_5 xo_5 xn_5 1 (by decide) xm_861 (Or.inl rfl) rfl rfl rfl dX8_change_257 h21 ?_
          refine xk_aload_n hC dX8_change_260 2 rfl rfl ?_
          refine xk_dup hC dX8_change_261 (xk_cat1 _) ?_
          obtain ⟨v22, h22, hf⟩ := xk_bi hf
          refine xk_getI hC xi_5 xc_5 2 (by decide) xm_862 (Or.inl rfl) dX8_change_262 h22 ?_
          refine xk_iconst (v := (1 : Int32)) hC dX8_change_265 (by decide) ?_
          refine xk_iadd hC dX8_change_266 ?_
          obtain ⟨w23, h23, hf⟩ := xk_bi hf
          refine xk_put hC xi_5 xc_5 xo_5 xn_5 2 (by decide) xm_862 (Or.inl rfl) rfl rfl rfl dX8_change_267 h23 ?_
          refine xk_iload_n hC dX8_change_270 1 rfl rfl ?_
          cases hf
          refine xk_widen (k := 2) (n := 8) (Nat.le_of_ble_eq_true rfl) (Nat.le_of_ble_eq_true rfl) ?_
          exact xk_iret hC hr rfl dX8_change_271
        · replace hf := (if_neg c19).symm.trans hf
          refine xk_aload_n hC dX8_change_211 2 rfl rfl ?_
          obtain ⟨v24, h24, hf⟩ := xk_bi hf
          refine xk_getR hC xi_5 xc_5 4 (by decide) xm_864 (Or.inl rfl) dX8_change_212 h24 ?_
          refine xk_iload hC dX8_change_215 0 rfl ?_
          refine xk_aload_n hC dX8_change_217 2 rfl rfl ?_
          obtain ⟨v25, h25, hf⟩ := xk_bi hf
          refine xk_getR hC xi_5 xc_5 4 (by decide) xm_864 (Or.inl rfl) dX8_change_218 h25 ?_
          refine xk_iload hC dX8_change_221 0 rfl ?_
          cases hf
      · replace hf := (if_neg c15).symm.trans hf
        refine xk_aload hC dX8_change_132 0 rfl ?_
        cases hf
    · replace hf := (if_neg c9).symm.trans hf
      refine xk_aload hC dX8_change_59 0 rfl ?_
      cases hf
  · replace hf := (if_neg c3).symm.trans hf
    refine xk_locals [] rfl ?_
    exact t_X8_change_36 hC hr (q1.2) hf
def f_X8_change (x0 : Option Nat) (x1 : Int32) (x2 : Int32) (w : xWd) : Option (Int32 × xWd) := (xk_is w (x0) 5).bind (fun u2 => (f_X8_isNoChange (x0) (x1) (x2) w).bind (fun q1 => (xk_is q1.2 (x0) 5).bind (fun u4 => (f_X8_start (x0) (q1.1) ((1 : Int32)) q1.2).bind (fun q3 => if (q3.1) = ((0 : Int32)) then (xk_gI q3.2 (x0) 5 2).bind (fun v6 => if (v6) = ((20 : Int32)) then f_X8_change_29 x0 x2 ((1 : Int32)) x0 (q3.2) else f_X8_change_29 x0 x2 ((0 : Int32)) x0 (q3.2)) else f_X8_change_36 (q3.2)))))
set_option maxHeartbeats 4000000 in
set_option maxRecDepth 100000 in
theorem t_X8_change_0 {p : Program} {l : Launch} {e : Env} {s : State} {m : MethodId} {args : Array Value} {below : List Frame} {meth : Method} {c : Code} {E : xEv} (hC : xk_C p s m args meth c E prog_7_method_21_code "ClickbookModel" 6) (hr : meth.sig.returnType = (some .int)) {q : (Int32 × xWd)} (x0 : Option Nat) (x1 : Int32) (x2 : Int32) (w : xWd) (hf : f_X8_change x0 x1 x2 w = some q) : xk_X p l e { frames := 3, cells := 2, slots := 8, locals := 61 } s m args below meth c (MQ below (xk_Qi E q) args s 2 8 (xk_A E.2.2.1)) E 6 0 0 0 [(0, va_rf (x0)), (1, .int (x1)), (2, .int (x2))] [] w := by
  refine xk_aload_n hC dX8_change_0 0 rfl rfl ?_
  refine xk_aload_n hC dX8_change_1 0 rfl rfl ?_
  refine xk_iload_n hC dX8_change_2 1 rfl rfl ?_
  refine xk_iload_n hC dX8_change_3 2 rfl rfl ?_
  obtain ⟨u2, h2, hf⟩ := xk_bi hf
  obtain ⟨q1, h1, hf⟩ := xk_bi hf
  refine xk_backi (xk_callV hC 2 xc_5 (c_X8_isNoChange h1) h2 xm_958 xm_960 xm_p35 xm_6 xm_961 ⟨rfl, xd_X8_isNoChange⟩ rfl ⟨Nat.le_of_ble_eq_true rfl, Nat.le_of_ble_eq_true rfl⟩ rfl (by simp [xk_cat1, xk_cati, xk_catl, xk_catd]) dX8_change_4 ⟨(Nat.le_of_ble_eq_true rfl), (Nat.le_of_ble_eq_true rfl)⟩) ?_
  refine xk_iconst (v := (1 : Int32)) hC dX8_change_7 (by decide) ?_
  obtain ⟨u4, h4, hf⟩ := xk_bi hf
  obtain ⟨q3, h3, hf⟩ := xk_bi hf
  refine xk_backi (xk_callV hC 2 xc_5 (c_X8_start h3) h4 xm_902 xm_904 xm_p33 xm_6 xm_905 ⟨rfl, xd_X8_start⟩ rfl ⟨Nat.le_of_ble_eq_true rfl, Nat.le_of_ble_eq_true rfl⟩ rfl (Nat.le_of_ble_eq_true rfl) dX8_change_8 ⟨(Nat.le_of_ble_eq_true rfl), (Nat.le_of_ble_eq_true rfl)⟩) ?_
  refine xk_if_ne (tgt := 36) hC dX8_change_11 (by decide) (fun c5 => ?_) (fun c5 => ?_)
  · replace hf := (if_neg c5).symm.trans hf
    refine xk_locals [] rfl ?_
    exact t_X8_change_36 hC hr (q3.2) hf
  · replace hf := (if_pos c5).symm.trans hf
    refine xk_aload_n hC dX8_change_14 0 rfl rfl ?_
    refine xk_aload_n hC dX8_change_15 0 rfl rfl ?_
    obtain ⟨v6, h6, hf⟩ := xk_bi hf
    refine xk_getI hC xi_5 xc_5 2 (by decide) xm_862 (Or.inl rfl) dX8_change_16 h6 ?_
    refine xk_bipush (v := (20 : Int32)) hC dX8_change_19 (by decide) ?_
    refine xk_icmp_ne (tgt := 28) hC dX8_change_21 (by decide) (fun c7 => ?_) (fun c7 => ?_)
    · replace hf := (if_neg c7).symm.trans hf
      refine xk_iconst (v := (0 : Int32)) hC dX8_change_28 (by decide) ?_
      refine xk_locals [0, 2] rfl ?_
      exact t_X8_change_29 hC hr x0 x2 ((0 : Int32)) x0 (q3.2) hf
    · replace hf := (if_pos c7).symm.trans hf
      refine xk_iconst (v := (1 : Int32)) hC dX8_change_24 (by decide) ?_
      refine xk_goto (tgt := 29) hC dX8_change_25 (by decide) ?_
      refine xk_locals [0, 2] rfl ?_
      exact t_X8_change_29 hC hr x0 x2 ((1 : Int32)) x0 (q3.2) hf
theorem xd_X8_change : xy_X8_change.cls ≠ "java/lang/invoke/MethodHandle" ∧ xy_X8_change.cls ≠ "java/lang/invoke/VarHandle" ∧ (parseMethodDescriptor xy_X8_change.desc).map (fun d => d.parameters.length) = some 2 := ⟨by decide +kernel, by decide +kernel, by decide +kernel⟩
theorem c_X8_change {l : Launch} {E : xEv} {x0 : Option Nat} {x1 : Int32} {x2 : Int32} {w : xWd} {q : (Int32 × xWd)} (hf : f_X8_change x0 x1 x2 w = some q) : xk_M l xy_X8_change prog_7_method_21_code 6 (some .int) 3 61 2 8 E [va_rf (x0), .int (x1), .int (x2)] w (xk_Qi E q) := by
  refine xk_enter (by decide +kernel) (by simp [lg_sl, xk_cat1, xk_cati, xk_catl, xk_catd]) ?_
  intro p e s m args below meth c hC hr hin ha
  rw [show lv_args 0 [va_rf (x0), .int (x1), .int (x2)] = [(0, va_rf (x0)), (1, .int (x1)), (2, .int (x2))] by simp [lv_args, xk_cat1, xk_cati, xk_catl, xk_catd]]
  exact t_X8_change_0 hC hr x0 x1 x2 w hf
def f_X5_init (x0 : Nat) (x1 : Int32) (x2 : Int32) (x3 : Int32) (x4 : Int32) (x5 : Int32) (w : xWd) : Option xWd := (xk_nA w 0 xk_d0 ((9 : Int32)) 64).bind (fun w1 => (xk_pV w1 (some x0) 6 7 (va_rf (some w.2.1))).bind (fun w2 => (xk_nA w2 0 xk_d0 ((9 : Int32)) 64).bind (fun w3 => (xk_pV w3 (some x0) 6 8 (va_rf (some w2.2.1))).bind (fun w4 => (xk_pV w4 (some x0) 6 0 (.int (x1))).bind (fun w5 => (xk_pV w5 (some x0) 6 1 (.int (x2))).bind (fun w6 => (xk_pV w6 (some x0) 6 2 (.int (x3))).bind (fun w7 => (xk_pV w7 (some x0) 6 3 (.int (x4))).bind (fun w8 => (xk_pV w8 (some x0) 6 4 (.int (x5))).bind (fun w9 => some w9)))))))))
set_option maxHeartbeats 4000000 in
set_option maxRecDepth 100000 in
theorem t_X5_init_0 {p : Program} {l : Launch} {e : Env} {s : State} {m : MethodId} {args : Array Value} {below : List Frame} {meth : Method} {c : Code} {E : xEv} (hC : xk_C p s m args meth c E prog_8_method_1_code "ClickbookModel$Cue" 6) (hr : meth.sig.returnType = none) (hin : meth.name = "<init>") {q : xWd} (x0 : Nat) (x1 : Int32) (x2 : Int32) (x3 : Int32) (x4 : Int32) (x5 : Int32) (w : xWd) (hf : f_X5_init x0 x1 x2 x3 x4 x5 w = some q) : xk_X p l e { frames := 1, cells := 2, slots := 128, locals := 20 } s m args below meth c (MQ below (xk_Qv E q) args s 2 128 (xk_A E.2.2.1)) E 6 0 0 0 [(0, va_rf (some x0)), (1, .int (x1)), (2, .int (x2)), (3, .int (x3)), (4, .int (x4)), (5, .int (x5))] [] w := by
  refine xk_aload_n hC dX5_init_0 0 rfl rfl ?_
  refine xk_objI hC xm_1049 xm_35 xm_36 dX5_init_1 (Nat.le_of_ble_eq_true rfl) (Nat.le_of_ble_eq_true rfl) ?_
  refine xk_aload_n hC dX5_init_4 0 rfl rfl ?_
  refine xk_bipush (v := (9 : Int32)) hC dX5_init_5 (by decide) ?_
  obtain ⟨w1, h1, hf⟩ := xk_bi hf
  refine xk_newarr (cap := 64) (atype := .int) (ty := .int) (kd := 0) hC rfl xm_84 (by decide) rfl (fun _ _ => rfl) (Nat.le_of_ble_eq_true rfl) (Nat.le_of_ble_eq_true rfl) (Nat.le_of_ble_eq_true rfl) dX5_init_7 h1 ?_
  obtain ⟨w2, h2, hf⟩ := xk_bi hf
  refine xk_putF hC xi_6 xc_6 xo_6 xn_6 7 (by decide) xm_1063 (Or.inl rfl) rfl hin rfl (xk_nra _ _) (xk_fra _ _) dX5_init_9 h2 ?_
  refine xk_aload_n hC dX5_init_12 0 rfl rfl ?_
  refine xk_bipush (v := (9 : Int32)) hC dX5_init_13 (by decide) ?_
  obtain ⟨w3, h3, hf⟩ := xk_bi hf
  refine xk_newarr (cap := 64) (atype := .int) (ty := .int) (kd := 0) hC rfl xm_84 (by decide) rfl (fun _ _ => rfl) (Nat.le_of_ble_eq_true rfl) (Nat.le_of_ble_eq_true rfl) (Nat.le_of_ble_eq_true rfl) dX5_init_15 h3 ?_
  obtain ⟨w4, h4, hf⟩ := xk_bi hf
  refine xk_putF hC xi_6 xc_6 xo_6 xn_6 8 (by decide) xm_1065 (Or.inl rfl) rfl hin rfl (xk_nra _ _) (xk_fra _ _) dX5_init_17 h4 ?_
  refine xk_aload_n hC dX5_init_20 0 rfl rfl ?_
  refine xk_iload_n hC dX5_init_21 1 rfl rfl ?_
  obtain ⟨w5, h5, hf⟩ := xk_bi hf
  refine xk_put hC xi_6 xc_6 xo_6 xn_6 0 (by decide) xm_1050 (Or.inl rfl) rfl rfl rfl dX5_init_22 h5 ?_
  refine xk_aload_n hC dX5_init_25 0 rfl rfl ?_
  refine xk_iload_n hC dX5_init_26 2 rfl rfl ?_
  obtain ⟨w6, h6, hf⟩ := xk_bi hf
  refine xk_putF hC xi_6 xc_6 xo_6 xn_6 1 (by decide) xm_1052 (Or.inl rfl) rfl hin rfl rfl rfl dX5_init_27 h6 ?_
  refine xk_aload_n hC dX5_init_30 0 rfl rfl ?_
  refine xk_iload_n hC dX5_init_31 3 rfl rfl ?_
  obtain ⟨w7, h7, hf⟩ := xk_bi hf
  refine xk_putF hC xi_6 xc_6 xo_6 xn_6 2 (by decide) xm_1054 (Or.inl rfl) rfl hin rfl rfl rfl dX5_init_32 h7 ?_
  refine xk_aload_n hC dX5_init_35 0 rfl rfl ?_
  refine xk_iload hC dX5_init_36 4 rfl ?_
  obtain ⟨w8, h8, hf⟩ := xk_bi hf
  refine xk_putF hC xi_6 xc_6 xo_6 xn_6 3 (by decide) xm_1056 (Or.inl rfl) rfl hin rfl rfl rfl dX5_init_38 h8 ?_
  refine xk_aload_n hC dX5_init_41 0 rfl rfl ?_
  refine xk_iload hC dX5_init_42 5 rfl ?_
  obtain ⟨w9, h9, hf⟩ := xk_bi hf
  refine xk_putF hC xi_6 xc_6 xo_6 xn_6 4 (by decide) xm_1058 (Or.inl rfl) rfl hin rfl rfl rfl dX5_init_44 h9 ?_
  cases hf
  refine xk_widen (k := 2) (n := 128) (Nat.le_of_ble_eq_true rfl) (Nat.le_of_ble_eq_true rfl) ?_
  exact xk_vret hC hr dX5_init_47
theorem xd_X5_init : xy_X5_init.cls ≠ "java/lang/invoke/MethodHandle" ∧ xy_X5_init.cls ≠ "java/lang/invoke/VarHandle" ∧ (parseMethodDescriptor xy_X5_init.desc).map (fun d => d.parameters.length) = some 5 := ⟨by decide +kernel, by decide +kernel, by decide +kernel⟩
theorem c_X5_init {l : Launch} {E : xEv} {x0 : Nat} {x1 : Int32} {x2 : Int32} {x3 : Int32} {x4 : Int32} {x5 : Int32} {w : xWd} {q : xWd} (hf : f_X5_init x0 x1 x2 x3 x4 x5 w = some q) : xk_M l xy_X5_init prog_8_method_1_code 6 none 1 20 2 128 E [va_rf (some x0), .int (x1), .int (x2), .int (x3), .int (x4), .int (x5)] w (xk_Qv E q) := by
  refine xk_enter (by decide +kernel) (by simp [lg_sl, xk_cat1, xk_cati, xk_catl, xk_catd]) ?_
  intro p e s m args below meth c hC hr hin ha
  rw [show lv_args 0 [va_rf (some x0), .int (x1), .int (x2), .int (x3), .int (x4), .int (x5)] = [(0, va_rf (some x0)), (1, .int (x1)), (2, .int (x2)), (3, .int (x3)), (4, .int (x4)), (5, .int (x5))] by simp [lv_args, xk_cat1, xk_cati, xk_catl, xk_catd]]
  exact t_X5_init_0 hC hr (hin rfl) x0 x1 x2 x3 x4 x5 w hf
def f_X8_cue_115 (w : xWd) : Option (Int32 × xWd) := some ((0 : Int32), w)
set_option maxHeartbeats 4000000 in
set_option maxRecDepth 100000 in
theorem t_X8_cue_115 {p : Program} {l : Launch} {e : Env} {s : State} {m : MethodId} {args : Array Value} {below : List Frame} {meth : Method} {c : Code} {E : xEv} (hC : xk_C p s m args meth c E prog_7_method_22_code "ClickbookModel" 6) (hr : meth.sig.returnType = (some .int)) {q : (Int32 × xWd)} (w : xWd) (hf : f_X8_cue_115 w = some q) : xk_X p l e { frames := 5, cells := 4, slots := 201, locals := 108 } s m args below meth c (MQ below (xk_Qi E q) args s 4 201 (xk_A E.2.2.1)) E 6 0 0 115 [] [] w := by
  refine xk_iconst (v := (0 : Int32)) hC dX8_cue_115 (by decide) ?_
  cases hf
  refine xk_widen (k := 4) (n := 201) (Nat.le_of_ble_eq_true rfl) (Nat.le_of_ble_eq_true rfl) ?_
  exact xk_iret hC hr rfl dX8_cue_116
def f_X8_cue_108 (x0 : Option Nat) (x1 : Int32) (x2 : Int32) (x3 : Int32) (x4 : Int32) (x5 : Int32) (s0 : Int32) (s1 : Option Nat) (w : xWd) : Option (Int32 × xWd) := (xk_is w (s1) 5).bind (fun u2 => (f_X8_refuse (s1) (s0) ((3 : Int32)) w).bind (fun q1 => if (q1.1) = ((0 : Int32)) then (xk_gR q1.2 (x0) 5 5).bind (fun v4 => (some (xk_nw q1.2 6 xf_6)).bind (fun w5 => (f_X5_init (q1.2.2.1) (x1) (x2) (x3) (x4) (x5) w5).bind (fun q6 => (xk_is q6 (v4) 4).bind (fun u8 => (f_Jx4a65c_add_9ea2d (v4) (some q1.2.2.1) q6).bind (fun q7 => (xk_gR q7.2 (x0) 5 5).bind (fun v9 => (xk_is q7.2 (v9) 4).bind (fun u11 => (f_Jx4a65c_size_8abf5 (v9)  q7.2).bind (fun q10 => some ((q10.1) - ((1 : Int32)), q10.2))))))))) else f_X8_cue_115 (q1.2)))
set_option maxHeartbeats 4000000 in
set_option maxRecDepth 100000 in
theorem t_X8_cue_108 {p : Program} {l : Launch} {e : Env} {s : State} {m : MethodId} {args : Array Value} {below : List Frame} {meth : Method} {c : Code} {E : xEv} (hC : xk_C p s m args meth c E prog_7_method_22_code "ClickbookModel" 6) (hr : meth.sig.returnType = (some .int)) {q : (Int32 × xWd)} (x0 : Option Nat) (x1 : Int32) (x2 : Int32) (x3 : Int32) (x4 : Int32) (x5 : Int32) (s0 : Int32) (s1 : Option Nat) (w : xWd) (hf : f_X8_cue_108 x0 x1 x2 x3 x4 x5 s0 s1 w = some q) : xk_X p l e { frames := 5, cells := 4, slots := 201, locals := 108 } s m args below meth c (MQ below (xk_Qi E q) args s 4 201 (xk_A E.2.2.1)) E 6 0 0 108 [(0, va_rf (x0)), (1, .int (x1)), (2, .int (x2)), (3, .int (x3)), (4, .int (x4)), (5, .int (x5))] [.int (s0), va_rf (s1)] w := by
  refine xk_iconst (v := (3 : Int32)) hC dX8_cue_108 (by decide) ?_
  obtain ⟨u2, h2, hf⟩ := xk_bi hf
  obtain ⟨q1, h1, hf⟩ := xk_bi hf
  refine xk_backi (xk_callV hC 2 xc_5 (c_X8_refuse h1) h2 xm_906 xm_908 xm_p34 xm_6 xm_909 ⟨rfl, xd_X8_refuse⟩ rfl ⟨Nat.le_of_ble_eq_true rfl, Nat.le_of_ble_eq_true rfl⟩ rfl (Nat.le_of_ble_eq_true rfl) dX8_cue_109 ⟨(Nat.le_of_ble_eq_true rfl), (Nat.le_of_ble_eq_true rfl)⟩) ?_
  refine xk_if_eq (tgt := 117) hC dX8_cue_112 (by decide) (fun c3 => ?_) (fun c3 => ?_)
  · replace hf := (if_pos c3).symm.trans hf
    refine xk_aload_n hC dX8_cue_117 0 rfl rfl ?_
    obtain ⟨v4, h4, hf⟩ := xk_bi hf
    refine xk_getR hC xi_5 xc_5 5 (by decide) xm_865 (Or.inl rfl) dX8_cue_118 h4 ?_
    obtain ⟨w5, h5, hf⟩ := xk_bi hf
    refine xk_newH hC xi_6 xc_6 xo_6 xm_1008 xm_1045 xm_26 xfo_6 (Nat.le_of_ble_eq_true rfl) (Nat.le_of_ble_eq_true rfl) dX8_cue_121 h5 ?_
    refine xk_dup hC dX8_cue_124 (xk_cat1 _) ?_
    refine xk_iload_n hC dX8_cue_125 1 rfl rfl ?_
    refine xk_iload_n hC dX8_cue_126 2 rfl rfl ?_
    refine xk_iload_n hC dX8_cue_127 3 rfl rfl ?_
    refine xk_iload hC dX8_cue_128 4 rfl ?_
    refine xk_iload hC dX8_cue_130 5 rfl ?_
    obtain ⟨q6, h6, hf⟩ := xk_bi hf
    refine xk_backv (xk_callI hC 5 (c_X5_init h6) xm_1046 xm_1047 xm_26 xm_1048 rfl xd_X5_init rfl ⟨Nat.le_of_ble_eq_true rfl, Nat.le_of_ble_eq_true rfl⟩ rfl (by simp [xk_cat1, xk_cati, xk_catl, xk_catd]) dX8_cue_132 ⟨(Nat.le_of_ble_eq_true rfl), (Nat.le_of_ble_eq_true rfl)⟩) ?_
    obtain ⟨u8, h8, hf⟩ := xk_bi hf
    obtain ⟨q7, h7, hf⟩ := xk_bi hf
    refine xk_backi (xk_callV hC 1 xc_4 (c_Jx4a65c_add_9ea2d h7) h8 xm_929 xm_387 xm_388 xm_4 xm_389 ⟨rfl, xd_Jx4a65c_add_9ea2d⟩ rfl ⟨Nat.le_of_ble_eq_true rfl, Nat.le_of_ble_eq_true rfl⟩ rfl (Nat.le_of_ble_eq_true rfl) dX8_cue_135 ⟨(Nat.le_of_ble_eq_true rfl), (Nat.le_of_ble_eq_true rfl)⟩) ?_
    refine xk_pop hC dX8_cue_138 rfl ?_
    refine xk_aload_n hC dX8_cue_139 0 rfl rfl ?_
    obtain ⟨v9, h9, hf⟩ := xk_bi hf
    refine xk_getR hC xi_5 xc_5 5 (by decide) xm_865 (Or.inl rfl) dX8_cue_140 h9 ?_
    obtain ⟨u11, h11, hf⟩ := xk_bi hf
    obtain ⟨q10, h10, hf⟩ := xk_bi hf
    refine xk_backi (xk_callV hC 0 xc_4 (c_Jx4a65c_size_8abf5 h10) h11 xm_910 xm_131 xm_132 xm_4 xm_133 ⟨rfl, xd_Jx4a65c_size_8abf5⟩ rfl ⟨Nat.le_of_ble_eq_true rfl, Nat.le_of_ble_eq_true rfl⟩ rfl (Nat.le_of_ble_eq_true rfl) dX8_cue_143 ⟨(Nat.le_of_ble_eq_true rfl), (Nat.le_of_ble_eq_true rfl)⟩) ?_
    refine xk_iconst (v := (1 : Int32)) hC dX8_cue_146 (by decide) ?_
    refine xk_isub hC dX8_cue_147 ?_
    cases hf
    refine xk_widen (k := 4) (n := 201) (Nat.le_of_ble_eq_true rfl) (Nat.le_of_ble_eq_true rfl) ?_
    exact xk_iret hC hr rfl dX8_cue_148
  · replace hf := (if_neg c3).symm.trans hf
    refine xk_locals [] rfl ?_
    exact t_X8_cue_115 hC hr (q1.2) hf
def f_X8_cue_83 (x0 : Option Nat) (x1 : Int32) (x2 : Int32) (x3 : Int32) (x4 : Int32) (x5 : Int32) (s0 : Int32) (s1 : Option Nat) (w : xWd) : Option (Int32 × xWd) := (xk_is w (s1) 5).bind (fun u2 => (f_X8_refuse (s1) (s0) ((2 : Int32)) w).bind (fun q1 => if (q1.1) = ((0 : Int32)) then (xk_gR q1.2 (x0) 5 5).bind (fun v4 => (xk_is q1.2 (v4) 4).bind (fun u6 => (f_Jx4a65c_size_8abf5 (v4)  q1.2).bind (fun q5 => if (q5.1) = ((8 : Int32)) then f_X8_cue_108 x0 x1 x2 x3 x4 x5 ((1 : Int32)) x0 (q5.2) else f_X8_cue_108 x0 x1 x2 x3 x4 x5 ((0 : Int32)) x0 (q5.2)))) else f_X8_cue_115 (q1.2)))
set_option maxHeartbeats 4000000 in
set_option maxRecDepth 100000 in
theorem t_X8_cue_83 {p : Program} {l : Launch} {e : Env} {s : State} {m : MethodId} {args : Array Value} {below : List Frame} {meth : Method} {c : Code} {E : xEv} (hC : xk_C p s m args meth c E prog_7_method_22_code "ClickbookModel" 6) (hr : meth.sig.returnType = (some .int)) {q : (Int32 × xWd)} (x0 : Option Nat) (x1 : Int32) (x2 : Int32) (x3 : Int32) (x4 : Int32) (x5 : Int32) (s0 : Int32) (s1 : Option Nat) (w : xWd) (hf : f_X8_cue_83 x0 x1 x2 x3 x4 x5 s0 s1 w = some q) : xk_X p l e { frames := 5, cells := 4, slots := 201, locals := 108 } s m args below meth c (MQ below (xk_Qi E q) args s 4 201 (xk_A E.2.2.1)) E 6 0 0 83 [(0, va_rf (x0)), (1, .int (x1)), (2, .int (x2)), (3, .int (x3)), (4, .int (x4)), (5, .int (x5))] [.int (s0), va_rf (s1)] w := by
  refine xk_iconst (v := (2 : Int32)) hC dX8_cue_83 (by decide) ?_
  obtain ⟨u2, h2, hf⟩ := xk_bi hf
  obtain ⟨q1, h1, hf⟩ := xk_bi hf
  refine xk_backi (xk_callV hC 2 xc_5 (c_X8_refuse h1) h2 xm_906 xm_908 xm_p34 xm_6 xm_909 ⟨rfl, xd_X8_refuse⟩ rfl ⟨Nat.le_of_ble_eq_true rfl, Nat.le_of_ble_eq_true rfl⟩ rfl (Nat.le_of_ble_eq_true rfl) dX8_cue_84 ⟨(Nat.le_of_ble_eq_true rfl), (Nat.le_of_ble_eq_true rfl)⟩) ?_
  refine xk_if_ne (tgt := 115) hC dX8_cue_87 (by decide) (fun c3 => ?_) (fun c3 => ?_)
  · replace hf := (if_neg c3).symm.trans hf
    refine xk_locals [] rfl ?_
    exact t_X8_cue_115 hC hr (q1.2) hf
  · replace hf := (if_pos c3).symm.trans hf
    refine xk_aload_n hC dX8_cue_90 0 rfl rfl ?_
    refine xk_aload_n hC dX8_cue_91 0 rfl rfl ?_
    obtain ⟨v4, h4, hf⟩ := xk_bi hf
    refine xk_getR hC xi_5 xc_5 5 (by decide) xm_865 (Or.inl rfl) dX8_cue_92 h4 ?_
    obtain ⟨u6, h6, hf⟩ := xk_bi hf
    obtain ⟨q5, h5, hf⟩ := xk_bi hf
    refine xk_backi (xk_callV hC 0 xc_4 (c_Jx4a65c_size_8abf5 h5) h6 xm_910 xm_131 xm_132 xm_4 xm_133 ⟨rfl, xd_Jx4a65c_size_8abf5⟩ rfl ⟨Nat.le_of_ble_eq_true rfl, Nat.le_of_ble_eq_true rfl⟩ rfl (by simp [xk_cat1, xk_cati, xk_catl, xk_catd]) dX8_cue_95 ⟨(Nat.le_of_ble_eq_true rfl), (Nat.le_of_ble_eq_true rfl)⟩) ?_
    refine xk_bipush (v := (8 : Int32)) hC dX8_cue_98 (by decide) ?_
    refine xk_icmp_ne (tgt := 107) hC dX8_cue_100 (by decide) (fun c7 => ?_) (fun c7 => ?_)
    · replace hf := (if_neg c7).symm.trans hf
      refine xk_iconst (v := (0 : Int32)) hC dX8_cue_107 (by decide) ?_
      exact t_X8_cue_108 hC hr x0 x1 x2 x3 x4 x5 ((0 : Int32)) x0 (q5.2) hf
    · replace hf := (if_pos c7).symm.trans hf
      refine xk_iconst (v := (1 : Int32)) hC dX8_cue_103 (by decide) ?_
      refine xk_goto (tgt := 108) hC dX8_cue_104 (by decide) ?_
      exact t_X8_cue_108 hC hr x0 x1 x2 x3 x4 x5 ((1 : Int32)) x0 (q5.2) hf
def f_X8_cue_78 (x0 : Option Nat) (x1 : Int32) (x2 : Int32) (x3 : Int32) (x4 : Int32) (x5 : Int32) (s0 : Option Nat) (w : xWd) : Option (Int32 × xWd) := f_X8_cue_83 x0 x1 x2 x3 x4 x5 ((1 : Int32)) s0 w
set_option maxHeartbeats 4000000 in
set_option maxRecDepth 100000 in
theorem t_X8_cue_78 {p : Program} {l : Launch} {e : Env} {s : State} {m : MethodId} {args : Array Value} {below : List Frame} {meth : Method} {c : Code} {E : xEv} (hC : xk_C p s m args meth c E prog_7_method_22_code "ClickbookModel" 6) (hr : meth.sig.returnType = (some .int)) {q : (Int32 × xWd)} (x0 : Option Nat) (x1 : Int32) (x2 : Int32) (x3 : Int32) (x4 : Int32) (x5 : Int32) (s0 : Option Nat) (w : xWd) (hf : f_X8_cue_78 x0 x1 x2 x3 x4 x5 s0 w = some q) : xk_X p l e { frames := 5, cells := 4, slots := 201, locals := 108 } s m args below meth c (MQ below (xk_Qi E q) args s 4 201 (xk_A E.2.2.1)) E 6 0 0 78 [(0, va_rf (x0)), (1, .int (x1)), (2, .int (x2)), (3, .int (x3)), (4, .int (x4)), (5, .int (x5))] [va_rf (s0)] w := by
  refine xk_iconst (v := (1 : Int32)) hC dX8_cue_78 (by decide) ?_
  refine xk_goto (tgt := 83) hC dX8_cue_79 (by decide) ?_
  exact t_X8_cue_83 hC hr x0 x1 x2 x3 x4 x5 ((1 : Int32)) s0 w hf
def f_X8_cue_28 (x0 : Option Nat) (x1 : Int32) (x2 : Int32) (x3 : Int32) (x4 : Int32) (x5 : Int32) (s0 : Int32) (s1 : Option Nat) (w : xWd) : Option (Int32 × xWd) := (xk_is w (s1) 5).bind (fun u2 => (f_X8_start (s1) (s0) ((1 : Int32)) w).bind (fun q1 => if (q1.1) = ((0 : Int32)) then (xk_gI q1.2 (x0) 5 1).bind (fun v4 => (f_X8_isIn (x1) ((0 : Int32)) (v4) q1.2).bind (fun q5 => if (q5.1) = ((0 : Int32)) then f_X8_cue_78 x0 x1 x2 x3 x4 x5 x0 (q5.2) else (f_X8_isIn (x3) ((1 : Int32)) ((40 : Int32)) q5.2).bind (fun q7 => if (q7.1) = ((0 : Int32)) then f_X8_cue_78 x0 x1 x2 x3 x4 x5 x0 (q7.2) else (f_X8_isIn (x4) ((0 : Int32)) ((3 : Int32)) q7.2).bind (fun q9 => if (q9.1) = ((0 : Int32)) then f_X8_cue_78 x0 x1 x2 x3 x4 x5 x0 (q9.2) else (f_X8_isIn (x5) ((0 : Int32)) ((2 : Int32)) q9.2).bind (fun q11 => if (q11.1) = ((0 : Int32)) then f_X8_cue_78 x0 x1 x2 x3 x4 x5 x0 (q11.2) else f_X8_cue_83 x0 x1 x2 x3 x4 x5 ((0 : Int32)) x0 (q11.2)))))) else f_X8_cue_115 (q1.2)))
set_option maxHeartbeats 4000000 in
set_option maxRecDepth 100000 in
theorem t_X8_cue_28 {p : Program} {l : Launch} {e : Env} {s : State} {m : MethodId} {args : Array Value} {below : List Frame} {meth : Method} {c : Code} {E : xEv} (hC : xk_C p s m args meth c E prog_7_method_22_code "ClickbookModel" 6) (hr : meth.sig.returnType = (some .int)) {q : (Int32 × xWd)} (x0 : Option Nat) (x1 : Int32) (x2 : Int32) (x3 : Int32) (x4 : Int32) (x5 : Int32) (s0 : Int32) (s1 : Option Nat) (w : xWd) (hf : f_X8_cue_28 x0 x1 x2 x3 x4 x5 s0 s1 w = some q) : xk_X p l e { frames := 5, cells := 4, slots := 201, locals := 108 } s m args below meth c (MQ below (xk_Qi E q) args s 4 201 (xk_A E.2.2.1)) E 6 0 0 28 [(0, va_rf (x0)), (1, .int (x1)), (2, .int (x2)), (3, .int (x3)), (4, .int (x4)), (5, .int (x5))] [.int (s0), va_rf (s1)] w := by
  refine xk_iconst (v := (1 : Int32)) hC dX8_cue_28 (by decide) ?_
  obtain ⟨u2, h2, hf⟩ := xk_bi hf
  obtain ⟨q1, h1, hf⟩ := xk_bi hf
  refine xk_backi (xk_callV hC 2 xc_5 (c_X8_start h1) h2 xm_902 xm_904 xm_p33 xm_6 xm_905 ⟨rfl, xd_X8_start⟩ rfl ⟨Nat.le_of_ble_eq_true rfl, Nat.le_of_ble_eq_true rfl⟩ rfl (Nat.le_of_ble_eq_true rfl) dX8_cue_29 ⟨(Nat.le_of_ble_eq_true rfl), (Nat.le_of_ble_eq_true rfl)⟩) ?_
  refine xk_if_ne (tgt := 115) hC dX8_cue_32 (by decide) (fun c3 => ?_) (fun c3 => ?_)
  · replace hf := (if_neg c3).symm.trans hf
    refine xk_locals [] rfl ?_
    exact t_X8_cue_115 hC hr (q1.2) hf
  · replace hf := (if_pos c3).symm.trans hf
    refine xk_aload_n hC dX8_cue_35 0 rfl rfl ?_
    refine xk_iload_n hC dX8_cue_36 1 rfl rfl ?_
    refine xk_iconst (v := (0 : Int32)) hC dX8_cue_37 (by decide) ?_
    refine xk_aload_n hC dX8_cue_38 0 rfl rfl ?_
    obtain ⟨v4, h4, hf⟩ := xk_bi hf
    refine xk_getI hC xi_5 xc_5 1 (by decide) xm_861 (Or.inl rfl) dX8_cue_39 h4 ?_
    obtain ⟨q5, h5, hf⟩ := xk_bi hf
    refine xk_backi (xk_callS hC 3 (c_X8_isIn h5) xm_899 xm_900 xm_6 xm_901 xd_X8_isIn rfl ⟨Nat.le_of_ble_eq_true rfl, Nat.le_of_ble_eq_true rfl⟩ rfl (by simp [xk_cat1, xk_cati, xk_catl, xk_catd]) dX8_cue_42 ⟨(Nat.le_of_ble_eq_true rfl), (Nat.le_of_ble_eq_true rfl)⟩) ?_
    refine xk_if_eq (tgt := 78) hC dX8_cue_45 (by decide) (fun c6 => ?_) (fun c6 => ?_)
    · replace hf := (if_pos c6).symm.trans hf
      exact t_X8_cue_78 hC hr x0 x1 x2 x3 x4 x5 x0 (q5.2) hf
    · replace hf := (if_neg c6).symm.trans hf
      refine xk_iload_n hC dX8_cue_48 3 rfl rfl ?_
      refine xk_iconst (v := (1 : Int32)) hC dX8_cue_49 (by decide) ?_
      refine xk_bipush (v := (40 : Int32)) hC dX8_cue_50 (by decide) ?_
      obtain ⟨q7, h7, hf⟩ := xk_bi hf
      refine xk_backi (xk_callS hC 3 (c_X8_isIn h7) xm_899 xm_900 xm_6 xm_901 xd_X8_isIn rfl ⟨Nat.le_of_ble_eq_true rfl, Nat.le_of_ble_eq_true rfl⟩ rfl (by simp [xk_cat1, xk_cati, xk_catl, xk_catd]) dX8_cue_52 ⟨(Nat.le_of_ble_eq_true rfl), (Nat.le_of_ble_eq_true rfl)⟩) ?_
      refine xk_if_eq (tgt := 78) hC dX8_cue_55 (by decide) (fun c8 => ?_) (fun c8 => ?_)
      · replace hf := (if_pos c8).symm.trans hf
        exact t_X8_cue_78 hC hr x0 x1 x2 x3 x4 x5 x0 (q7.2) hf
      · replace hf := (if_neg c8).symm.trans hf
        refine xk_iload hC dX8_cue_58 4 rfl ?_
        refine xk_iconst (v := (0 : Int32)) hC dX8_cue_60 (by decide) ?_
        refine xk_iconst (v := (3 : Int32)) hC dX8_cue_61 (by decide) ?_
        obtain ⟨q9, h9, hf⟩ := xk_bi hf
        refine xk_backi (xk_callS hC 3 (c_X8_isIn h9) xm_899 xm_900 xm_6 xm_901 xd_X8_isIn rfl ⟨Nat.le_of_ble_eq_true rfl, Nat.le_of_ble_eq_true rfl⟩ rfl (by simp [xk_cat1, xk_cati, xk_catl, xk_catd]) dX8_cue_62 ⟨(Nat.le_of_ble_eq_true rfl), (Nat.le_of_ble_eq_true rfl)⟩) ?_
        refine xk_if_eq (tgt := 78) hC dX8_cue_65 (by decide) (fun c10 => ?_) (fun c10 => ?_)
        · replace hf := (if_pos c10).symm.trans hf
          exact t_X8_cue_78 hC hr x0 x1 x2 x3 x4 x5 x0 (q9.2) hf
        · replace hf := (if_neg c10).symm.trans hf
          refine xk_iload hC dX8_cue_68 5 rfl ?_
          refine xk_iconst (v := (0 : Int32)) hC dX8_cue_70 (by decide) ?_
          refine xk_iconst (v := (2 : Int32)) hC dX8_cue_71 (by decide) ?_
          obtain ⟨q11, h11, hf⟩ := xk_bi hf
          refine xk_backi (xk_callS hC 3 (c_X8_isIn h11) xm_899 xm_900 xm_6 xm_901 xd_X8_isIn rfl ⟨Nat.le_of_ble_eq_true rfl, Nat.le_of_ble_eq_true rfl⟩ rfl (by simp [xk_cat1, xk_cati, xk_catl, xk_catd]) dX8_cue_72 ⟨(Nat.le_of_ble_eq_true rfl), (Nat.le_of_ble_eq_true rfl)⟩) ?_
          refine xk_if_ne (tgt := 82) hC dX8_cue_75 (by decide) (fun c12 => ?_) (fun c12 => ?_)
          · replace hf := (if_neg c12).symm.trans hf
            refine xk_iconst (v := (0 : Int32)) hC dX8_cue_82 (by decide) ?_
            exact t_X8_cue_83 hC hr x0 x1 x2 x3 x4 x5 ((0 : Int32)) x0 (q11.2) hf
          · replace hf := (if_pos c12).symm.trans hf
            exact t_X8_cue_78 hC hr x0 x1 x2 x3 x4 x5 x0 (q11.2) hf
def f_X8_cue_27 (x0 : Option Nat) (x1 : Int32) (x2 : Int32) (x3 : Int32) (x4 : Int32) (x5 : Int32) (s0 : Option Nat) (w : xWd) : Option (Int32 × xWd) := f_X8_cue_28 x0 x1 x2 x3 x4 x5 ((0 : Int32)) s0 w
set_option maxHeartbeats 4000000 in
set_option maxRecDepth 100000 in
theorem t_X8_cue_27 {p : Program} {l : Launch} {e : Env} {s : State} {m : MethodId} {args : Array Value} {below : List Frame} {meth : Method} {c : Code} {E : xEv} (hC : xk_C p s m args meth c E prog_7_method_22_code "ClickbookModel" 6) (hr : meth.sig.returnType = (some .int)) {q : (Int32 × xWd)} (x0 : Option Nat) (x1 : Int32) (x2 : Int32) (x3 : Int32) (x4 : Int32) (x5 : Int32) (s0 : Option Nat) (w : xWd) (hf : f_X8_cue_27 x0 x1 x2 x3 x4 x5 s0 w = some q) : xk_X p l e { frames := 5, cells := 4, slots := 201, locals := 108 } s m args below meth c (MQ below (xk_Qi E q) args s 4 201 (xk_A E.2.2.1)) E 6 0 0 27 [(0, va_rf (x0)), (1, .int (x1)), (2, .int (x2)), (3, .int (x3)), (4, .int (x4)), (5, .int (x5))] [va_rf (s0)] w := by
  refine xk_iconst (v := (0 : Int32)) hC dX8_cue_27 (by decide) ?_
  exact t_X8_cue_28 hC hr x0 x1 x2 x3 x4 x5 ((0 : Int32)) s0 w hf
def f_X8_cue (x0 : Option Nat) (x1 : Int32) (x2 : Int32) (x3 : Int32) (x4 : Int32) (x5 : Int32) (w : xWd) : Option (Int32 × xWd) := if (x2) = ((-1 : Int32)) then f_X8_cue_27 x0 x1 x2 x3 x4 x5 x0 w else (xk_gR w (x0) 5 4).bind (fun v2 => (xk_is w (v2) 4).bind (fun u4 => (f_Jx4a65c_size_8abf5 (v2)  w).bind (fun q3 => (f_X8_isIn (x2) ((0 : Int32)) ((q3.1) - ((1 : Int32))) q3.2).bind (fun q5 => if (q5.1) = ((0 : Int32)) then f_X8_cue_28 x0 x1 x2 x3 x4 x5 ((1 : Int32)) x0 (q5.2) else f_X8_cue_27 x0 x1 x2 x3 x4 x5 x0 (q5.2)))))
set_option maxHeartbeats 4000000 in
set_option maxRecDepth 100000 in
theorem t_X8_cue_0 {p : Program} {l : Launch} {e : Env} {s : State} {m : MethodId} {args : Array Value} {below : List Frame} {meth : Method} {c : Code} {E : xEv} (hC : xk_C p s m args meth c E prog_7_method_22_code "ClickbookModel" 6) (hr : meth.sig.returnType = (some .int)) {q : (Int32 × xWd)} (x0 : Option Nat) (x1 : Int32) (x2 : Int32) (x3 : Int32) (x4 : Int32) (x5 : Int32) (w : xWd) (hf : f_X8_cue x0 x1 x2 x3 x4 x5 w = some q) : xk_X p l e { frames := 5, cells := 4, slots := 201, locals := 108 } s m args below meth c (MQ below (xk_Qi E q) args s 4 201 (xk_A E.2.2.1)) E 6 0 0 0 [(0, va_rf (x0)), (1, .int (x1)), (2, .int (x2)), (3, .int (x3)), (4, .int (x4)), (5, .int (x5))] [] w := by
  refine xk_aload_n hC dX8_cue_0 0 rfl rfl ?_
  refine xk_iload_n hC dX8_cue_1 2 rfl rfl ?_
  refine xk_iconst (v := (-1 : Int32)) hC dX8_cue_2 (by decide) ?_
  refine xk_icmp_eq (tgt := 27) hC dX8_cue_3 (by decide) (fun c1 => ?_) (fun c1 => ?_)
  · replace hf := (if_pos c1).symm.trans hf
    exact t_X8_cue_27 hC hr x0 x1 x2 x3 x4 x5 x0 w hf
  · replace hf := (if_neg c1).symm.trans hf
    refine xk_iload_n hC dX8_cue_6 2 rfl rfl ?_
    refine xk_iconst (v := (0 : Int32)) hC dX8_cue_7 (by decide) ?_
    refine xk_aload_n hC dX8_cue_8 0 rfl rfl ?_
    obtain ⟨v2, h2, hf⟩ := xk_bi hf
    refine xk_getR hC xi_5 xc_5 4 (by decide) xm_864 (Or.inl rfl) dX8_cue_9 h2 ?_
    obtain ⟨u4, h4, hf⟩ := xk_bi hf
    obtain ⟨q3, h3, hf⟩ := xk_bi hf
    refine xk_backi (xk_callV hC 0 xc_4 (c_Jx4a65c_size_8abf5 h3) h4 xm_910 xm_131 xm_132 xm_4 xm_133 ⟨rfl, xd_Jx4a65c_size_8abf5⟩ rfl ⟨Nat.le_of_ble_eq_true rfl, Nat.le_of_ble_eq_true rfl⟩ rfl (by simp [xk_cat1, xk_cati, xk_catl, xk_catd]) dX8_cue_12 ⟨(Nat.le_of_ble_eq_true rfl), (Nat.le_of_ble_eq_true rfl)⟩) ?_
    refine xk_iconst (v := (1 : Int32)) hC dX8_cue_15 (by decide) ?_
    refine xk_isub hC dX8_cue_16 ?_
    obtain ⟨q5, h5, hf⟩ := xk_bi hf
    refine xk_backi (xk_callS hC 3 (c_X8_isIn h5) xm_899 xm_900 xm_6 xm_901 xd_X8_isIn rfl ⟨Nat.le_of_ble_eq_true rfl, Nat.le_of_ble_eq_true rfl⟩ rfl (by simp [xk_cat1, xk_cati, xk_catl, xk_catd]) dX8_cue_17 ⟨(Nat.le_of_ble_eq_true rfl), (Nat.le_of_ble_eq_true rfl)⟩) ?_
    refine xk_if_ne (tgt := 27) hC dX8_cue_20 (by decide) (fun c6 => ?_) (fun c6 => ?_)
    · replace hf := (if_neg c6).symm.trans hf
      exact t_X8_cue_27 hC hr x0 x1 x2 x3 x4 x5 x0 (q5.2) hf
    · replace hf := (if_pos c6).symm.trans hf
      refine xk_iconst (v := (1 : Int32)) hC dX8_cue_23 (by decide) ?_
      refine xk_goto (tgt := 28) hC dX8_cue_24 (by decide) ?_
      exact t_X8_cue_28 hC hr x0 x1 x2 x3 x4 x5 ((1 : Int32)) x0 (q5.2) hf
theorem xd_X8_cue : xy_X8_cue.cls ≠ "java/lang/invoke/MethodHandle" ∧ xy_X8_cue.cls ≠ "java/lang/invoke/VarHandle" ∧ (parseMethodDescriptor xy_X8_cue.desc).map (fun d => d.parameters.length) = some 5 := ⟨by decide +kernel, by decide +kernel, by decide +kernel⟩
theorem c_X8_cue {l : Launch} {E : xEv} {x0 : Option Nat} {x1 : Int32} {x2 : Int32} {x3 : Int32} {x4 : Int32} {x5 : Int32} {w : xWd} {q : (Int32 × xWd)} (hf : f_X8_cue x0 x1 x2 x3 x4 x5 w = some q) : xk_M l xy_X8_cue prog_7_method_22_code 6 (some .int) 5 108 4 201 E [va_rf (x0), .int (x1), .int (x2), .int (x3), .int (x4), .int (x5)] w (xk_Qi E q) := by
  refine xk_enter (by decide +kernel) (by simp [lg_sl, xk_cat1, xk_cati, xk_catl, xk_catd]) ?_
  intro p e s m args below meth c hC hr hin ha
  rw [show lv_args 0 [va_rf (x0), .int (x1), .int (x2), .int (x3), .int (x4), .int (x5)] = [(0, va_rf (x0)), (1, .int (x1)), (2, .int (x2)), (3, .int (x3)), (4, .int (x4)), (5, .int (x5))] by simp [lv_args, xk_cat1, xk_cati, xk_catl, xk_catd]]
  exact t_X8_cue_0 hC hr x0 x1 x2 x3 x4 x5 w hf
def f_X8_isNoCue_22 (s0 : Int32) (w : xWd) : Option (Int32 × xWd) := (xk_zb (s0)).bind (fun u1 => some (s0, w))
set_option maxHeartbeats 4000000 in
set_option maxRecDepth 100000 in
theorem t_X8_isNoCue_22 {p : Program} {l : Launch} {e : Env} {s : State} {m : MethodId} {args : Array Value} {below : List Frame} {meth : Method} {c : Code} {E : xEv} (hC : xk_C p s m args meth c E prog_7_method_7_code "ClickbookModel" 2) (hr : meth.sig.returnType = (some .boolean)) {q : (Int32 × xWd)} (s0 : Int32) (w : xWd) (hf : f_X8_isNoCue_22 s0 w = some q) : xk_X p l e { frames := 1, cells := 0, slots := 0, locals := 22 } s m args below meth c (MQ below (xk_Qi E q) args s 0 0 (xk_A E.2.2.1)) E 2 0 0 22 [] [.int (s0)] w := by
  obtain ⟨u1, h1, hf⟩ := xk_bi hf
  cases hf
  refine xk_widen (k := 0) (n := 0) (Nat.le_of_ble_eq_true rfl) (Nat.le_of_ble_eq_true rfl) ?_
  exact xk_iret hC hr (xk_zb_e h1) dX8_isNoCue_22
def f_X8_isNoCue (x0 : Option Nat) (x1 : Int32) (w : xWd) : Option (Int32 × xWd) := (xk_gR w (x0) 5 5).bind (fun v1 => (xk_is w (v1) 4).bind (fun u3 => (f_Jx4a65c_size_8abf5 (v1)  w).bind (fun q2 => (f_X8_isIn (x1) ((0 : Int32)) ((q2.1) - ((1 : Int32))) q2.2).bind (fun q4 => if (q4.1) = ((0 : Int32)) then f_X8_isNoCue_22 ((1 : Int32)) (q4.2) else f_X8_isNoCue_22 ((0 : Int32)) (q4.2)))))
set_option maxHeartbeats 4000000 in
set_option maxRecDepth 100000 in
theorem t_X8_isNoCue_0 {p : Program} {l : Launch} {e : Env} {s : State} {m : MethodId} {args : Array Value} {below : List Frame} {meth : Method} {c : Code} {E : xEv} (hC : xk_C p s m args meth c E prog_7_method_7_code "ClickbookModel" 2) (hr : meth.sig.returnType = (some .boolean)) {q : (Int32 × xWd)} (x0 : Option Nat) (x1 : Int32) (w : xWd) (hf : f_X8_isNoCue x0 x1 w = some q) : xk_X p l e { frames := 1, cells := 0, slots := 0, locals := 22 } s m args below meth c (MQ below (xk_Qi E q) args s 0 0 (xk_A E.2.2.1)) E 2 0 0 0 [(0, va_rf (x0)), (1, .int (x1))] [] w := by
  refine xk_iload_n hC dX8_isNoCue_0 1 rfl rfl ?_
  refine xk_iconst (v := (0 : Int32)) hC dX8_isNoCue_1 (by decide) ?_
  refine xk_aload_n hC dX8_isNoCue_2 0 rfl rfl ?_
  obtain ⟨v1, h1, hf⟩ := xk_bi hf
  refine xk_getR hC xi_5 xc_5 5 (by decide) xm_865 (Or.inl rfl) dX8_isNoCue_3 h1 ?_
  obtain ⟨u3, h3, hf⟩ := xk_bi hf
  obtain ⟨q2, h2, hf⟩ := xk_bi hf
  refine xk_backi (xk_callV hC 0 xc_4 (c_Jx4a65c_size_8abf5 h2) h3 xm_910 xm_131 xm_132 xm_4 xm_133 ⟨rfl, xd_Jx4a65c_size_8abf5⟩ rfl ⟨Nat.le_of_ble_eq_true rfl, Nat.le_of_ble_eq_true rfl⟩ rfl (Nat.le_of_ble_eq_true rfl) dX8_isNoCue_6 ⟨(Nat.le_of_ble_eq_true rfl), (Nat.le_of_ble_eq_true rfl)⟩) ?_
  refine xk_iconst (v := (1 : Int32)) hC dX8_isNoCue_9 (by decide) ?_
  refine xk_isub hC dX8_isNoCue_10 ?_
  obtain ⟨q4, h4, hf⟩ := xk_bi hf
  refine xk_backi (xk_callS hC 3 (c_X8_isIn h4) xm_899 xm_900 xm_6 xm_901 xd_X8_isIn rfl ⟨Nat.le_of_ble_eq_true rfl, Nat.le_of_ble_eq_true rfl⟩ rfl (Nat.le_of_ble_eq_true rfl) dX8_isNoCue_11 ⟨(Nat.le_of_ble_eq_true rfl), (Nat.le_of_ble_eq_true rfl)⟩) ?_
  refine xk_if_ne (tgt := 21) hC dX8_isNoCue_14 (by decide) (fun c5 => ?_) (fun c5 => ?_)
  · replace hf := (if_neg c5).symm.trans hf
    refine xk_iconst (v := (0 : Int32)) hC dX8_isNoCue_21 (by decide) ?_
    refine xk_locals [] rfl ?_
    exact t_X8_isNoCue_22 hC hr ((0 : Int32)) (q4.2) hf
  · replace hf := (if_pos c5).symm.trans hf
    refine xk_iconst (v := (1 : Int32)) hC dX8_isNoCue_17 (by decide) ?_
    refine xk_goto (tgt := 22) hC dX8_isNoCue_18 (by decide) ?_
    refine xk_locals [] rfl ?_
    exact t_X8_isNoCue_22 hC hr ((1 : Int32)) (q4.2) hf
theorem xd_X8_isNoCue : xy_X8_isNoCue.cls ≠ "java/lang/invoke/MethodHandle" ∧ xy_X8_isNoCue.cls ≠ "java/lang/invoke/VarHandle" ∧ (parseMethodDescriptor xy_X8_isNoCue.desc).map (fun d => d.parameters.length) = some 1 := ⟨by decide +kernel, by decide +kernel, by decide +kernel⟩
theorem c_X8_isNoCue {l : Launch} {E : xEv} {x0 : Option Nat} {x1 : Int32} {w : xWd} {q : (Int32 × xWd)} (hf : f_X8_isNoCue x0 x1 w = some q) : xk_M l xy_X8_isNoCue prog_7_method_7_code 2 (some .boolean) 1 22 0 0 E [va_rf (x0), .int (x1)] w (xk_Qi E q) := by
  refine xk_enter (by decide +kernel) (by simp [lg_sl, xk_cat1, xk_cati, xk_catl, xk_catd]) ?_
  intro p e s m args below meth c hC hr hin ha
  rw [show lv_args 0 [va_rf (x0), .int (x1)] = [(0, va_rf (x0)), (1, .int (x1))] by simp [lv_args, xk_cat1, xk_cati, xk_catl, xk_catd]]
  exact t_X8_isNoCue_0 hC hr x0 x1 w hf
def f_X8_isNoClick_27 (s0 : Int32) (w : xWd) : Option (Int32 × xWd) := (xk_zb (s0)).bind (fun u1 => some (s0, w))
set_option maxHeartbeats 4000000 in
set_option maxRecDepth 100000 in
theorem t_X8_isNoClick_27 {p : Program} {l : Launch} {e : Env} {s : State} {m : MethodId} {args : Array Value} {below : List Frame} {meth : Method} {c : Code} {E : xEv} (hC : xk_C p s m args meth c E prog_7_method_9_code "ClickbookModel" 2) (hr : meth.sig.returnType = (some .boolean)) {q : (Int32 × xWd)} (s0 : Int32) (w : xWd) (hf : f_X8_isNoClick_27 s0 w = some q) : xk_X p l e { frames := 1, cells := 0, slots := 0, locals := 22 } s m args below meth c (MQ below (xk_Qi E q) args s 0 0 (xk_A E.2.2.1)) E 2 0 0 27 [] [.int (s0)] w := by
  obtain ⟨u1, h1, hf⟩ := xk_bi hf
  cases hf
  refine xk_widen (k := 0) (n := 0) (Nat.le_of_ble_eq_true rfl) (Nat.le_of_ble_eq_true rfl) ?_
  exact xk_iret hC hr (xk_zb_e h1) dX8_isNoClick_27
def f_X8_isNoClick_22 (w : xWd) : Option (Int32 × xWd) := f_X8_isNoClick_27 ((1 : Int32)) w
set_option maxHeartbeats 4000000 in
set_option maxRecDepth 100000 in
theorem t_X8_isNoClick_22 {p : Program} {l : Launch} {e : Env} {s : State} {m : MethodId} {args : Array Value} {below : List Frame} {meth : Method} {c : Code} {E : xEv} (hC : xk_C p s m args meth c E prog_7_method_9_code "ClickbookModel" 2) (hr : meth.sig.returnType = (some .boolean)) {q : (Int32 × xWd)} (w : xWd) (hf : f_X8_isNoClick_22 w = some q) : xk_X p l e { frames := 1, cells := 0, slots := 0, locals := 22 } s m args below meth c (MQ below (xk_Qi E q) args s 0 0 (xk_A E.2.2.1)) E 2 0 0 22 [] [] w := by
  refine xk_iconst (v := (1 : Int32)) hC dX8_isNoClick_22 (by decide) ?_
  refine xk_goto (tgt := 27) hC dX8_isNoClick_23 (by decide) ?_
  exact t_X8_isNoClick_27 hC hr ((1 : Int32)) w hf
def f_X8_isNoClick (x0 : Int32) (x1 : Int32) (w : xWd) : Option (Int32 × xWd) := (f_X8_isIn (x0) ((2 : Int32)) ((7 : Int32)) w).bind (fun q1 => if (q1.1) = ((0 : Int32)) then f_X8_isNoClick_22 (q1.2) else (f_X8_isIn (x1) ((24 : Int32)) ((160 : Int32)) q1.2).bind (fun q3 => if (q3.1) = ((0 : Int32)) then f_X8_isNoClick_22 (q3.2) else f_X8_isNoClick_27 ((0 : Int32)) (q3.2)))
set_option maxHeartbeats 4000000 in
set_option maxRecDepth 100000 in
theorem t_X8_isNoClick_0 {p : Program} {l : Launch} {e : Env} {s : State} {m : MethodId} {args : Array Value} {below : List Frame} {meth : Method} {c : Code} {E : xEv} (hC : xk_C p s m args meth c E prog_7_method_9_code "ClickbookModel" 2) (hr : meth.sig.returnType = (some .boolean)) {q : (Int32 × xWd)} (x0 : Int32) (x1 : Int32) (w : xWd) (hf : f_X8_isNoClick x0 x1 w = some q) : xk_X p l e { frames := 1, cells := 0, slots := 0, locals := 22 } s m args below meth c (MQ below (xk_Qi E q) args s 0 0 (xk_A E.2.2.1)) E 2 0 0 0 [(0, .int (x0)), (1, .int (x1))] [] w := by
  refine xk_iload_n hC dX8_isNoClick_0 0 rfl rfl ?_
  refine xk_iconst (v := (2 : Int32)) hC dX8_isNoClick_1 (by decide) ?_
  refine xk_bipush (v := (7 : Int32)) hC dX8_isNoClick_2 (by decide) ?_
  obtain ⟨q1, h1, hf⟩ := xk_bi hf
  refine xk_backi (xk_callS hC 3 (c_X8_isIn h1) xm_899 xm_900 xm_6 xm_901 xd_X8_isIn rfl ⟨Nat.le_of_ble_eq_true rfl, Nat.le_of_ble_eq_true rfl⟩ rfl (Nat.le_of_ble_eq_true rfl) dX8_isNoClick_4 ⟨(Nat.le_of_ble_eq_true rfl), (Nat.le_of_ble_eq_true rfl)⟩) ?_
  refine xk_if_eq (tgt := 22) hC dX8_isNoClick_7 (by decide) (fun c2 => ?_) (fun c2 => ?_)
  · replace hf := (if_pos c2).symm.trans hf
    refine xk_locals [] rfl ?_
    exact t_X8_isNoClick_22 hC hr (q1.2) hf
  · replace hf := (if_neg c2).symm.trans hf
    refine xk_iload_n hC dX8_isNoClick_10 1 rfl rfl ?_
    refine xk_bipush (v := (24 : Int32)) hC dX8_isNoClick_11 (by decide) ?_
    refine xk_sipush (v := (160 : Int32)) hC dX8_isNoClick_13 (by decide) ?_
    obtain ⟨q3, h3, hf⟩ := xk_bi hf
    refine xk_backi (xk_callS hC 3 (c_X8_isIn h3) xm_899 xm_900 xm_6 xm_901 xd_X8_isIn rfl ⟨Nat.le_of_ble_eq_true rfl, Nat.le_of_ble_eq_true rfl⟩ rfl (Nat.le_of_ble_eq_true rfl) dX8_isNoClick_16 ⟨(Nat.le_of_ble_eq_true rfl), (Nat.le_of_ble_eq_true rfl)⟩) ?_
    refine xk_if_ne (tgt := 26) hC dX8_isNoClick_19 (by decide) (fun c4 => ?_) (fun c4 => ?_)
    · replace hf := (if_neg c4).symm.trans hf
      refine xk_iconst (v := (0 : Int32)) hC dX8_isNoClick_26 (by decide) ?_
      refine xk_locals [] rfl ?_
      exact t_X8_isNoClick_27 hC hr ((0 : Int32)) (q3.2) hf
    · replace hf := (if_pos c4).symm.trans hf
      refine xk_locals [] rfl ?_
      exact t_X8_isNoClick_22 hC hr (q3.2) hf
theorem xd_X8_isNoClick : xy_X8_isNoClick.cls ≠ "java/lang/invoke/MethodHandle" ∧ xy_X8_isNoClick.cls ≠ "java/lang/invoke/VarHandle" ∧ (parseMethodDescriptor xy_X8_isNoClick.desc).map (fun d => d.parameters.length) = some 2 := ⟨by decide +kernel, by decide +kernel, by decide +kernel⟩
theorem c_X8_isNoClick {l : Launch} {E : xEv} {x0 : Int32} {x1 : Int32} {w : xWd} {q : (Int32 × xWd)} (hf : f_X8_isNoClick x0 x1 w = some q) : xk_M l xy_X8_isNoClick prog_7_method_9_code 2 (some .boolean) 1 22 0 0 E [.int (x0), .int (x1)] w (xk_Qi E q) := by
  refine xk_enter (by decide +kernel) (by simp [lg_sl, xk_cat1, xk_cati, xk_catl, xk_catd]) ?_
  intro p e s m args below meth c hC hr hin ha
  rw [show lv_args 0 [.int (x0), .int (x1)] = [(0, .int (x0)), (1, .int (x1))] by simp [lv_args, xk_cat1, xk_cati, xk_catl, xk_catd]]
  exact t_X8_isNoClick_0 hC hr x0 x1 w hf
def f_X8_bar_58 (w : xWd) : Option (Int32 × xWd) := some ((0 : Int32), w)
set_option maxHeartbeats 4000000 in
set_option maxRecDepth 100000 in
theorem t_X8_bar_58 {p : Program} {l : Launch} {e : Env} {s : State} {m : MethodId} {args : Array Value} {below : List Frame} {meth : Method} {c : Code} {E : xEv} (hC : xk_C p s m args meth c E prog_7_method_23_code "ClickbookModel" 5) (hr : meth.sig.returnType = (some .int)) {q : (Int32 × xWd)} (w : xWd) (hf : f_X8_bar_58 w = some q) : xk_X p l e { frames := 2, cells := 0, slots := 0, locals := 44 } s m args below meth c (MQ below (xk_Qi E q) args s 0 0 (xk_A E.2.2.1)) E 5 0 0 58 [] [] w := by
  refine xk_iconst (v := (0 : Int32)) hC dX8_bar_58 (by decide) ?_
  cases hf
  refine xk_widen (k := 0) (n := 0) (Nat.le_of_ble_eq_true rfl) (Nat.le_of_ble_eq_true rfl) ?_
  exact xk_iret hC hr rfl dX8_bar_59
def f_X8_bar (x0 : Option Nat) (x1 : Int32) (x2 : Int32) (x3 : Int32) (w : xWd) : Option (Int32 × xWd) := (xk_is w (x0) 5).bind (fun u2 => (f_X8_isNoCue (x0) (x1) w).bind (fun q1 => (xk_is q1.2 (x0) 5).bind (fun u4 => (f_X8_start (x0) (q1.1) ((1 : Int32)) q1.2).bind (fun q3 => if (q3.1) = ((0 : Int32)) then (f_X8_isNoClick (x2) (x3) q3.2).bind (fun q6 => (xk_is q6.2 (x0) 5).bind (fun u8 => (f_X8_refuse (x0) (q6.1) ((2 : Int32)) q6.2).bind (fun q7 => if (q7.1) = ((0 : Int32)) then (xk_gR q7.2 (x0) 5 5).bind (fun v10 => none) else f_X8_bar_58 (q7.2)))) else f_X8_bar_58 (q3.2)))))
set_option maxHeartbeats 4000000 in
set_option maxRecDepth 100000 in
theorem t_X8_bar_0 {p : Program} {l : Launch} {e : Env} {s : State} {m : MethodId} {args : Array Value} {below : List Frame} {meth : Method} {c : Code} {E : xEv} (hC : xk_C p s m args meth c E prog_7_method_23_code "ClickbookModel" 5) (hr : meth.sig.returnType = (some .int)) {q : (Int32 × xWd)} (x0 : Option Nat) (x1 : Int32) (x2 : Int32) (x3 : Int32) (w : xWd) (hf : f_X8_bar x0 x1 x2 x3 w = some q) : xk_X p l e { frames := 2, cells := 0, slots := 0, locals := 44 } s m args below meth c (MQ below (xk_Qi E q) args s 0 0 (xk_A E.2.2.1)) E 5 0 0 0 [(0, va_rf (x0)), (1, .int (x1)), (2, .int (x2)), (3, .int (x3))] [] w := by
  refine xk_aload_n hC dX8_bar_0 0 rfl rfl ?_
  refine xk_aload_n hC dX8_bar_1 0 rfl rfl ?_
  refine xk_iload_n hC dX8_bar_2 1 rfl rfl ?_
  obtain ⟨u2, h2, hf⟩ := xk_bi hf
  obtain ⟨q1, h1, hf⟩ := xk_bi hf
  refine xk_backi (xk_callV hC 1 xc_5 (c_X8_isNoCue h1) h2 xm_1090 xm_1092 xm_p36 xm_6 xm_1093 ⟨rfl, xd_X8_isNoCue⟩ rfl ⟨Nat.le_of_ble_eq_true rfl, Nat.le_of_ble_eq_true rfl⟩ rfl (by simp [xk_cat1, xk_cati, xk_catl, xk_catd]) dX8_bar_3 ⟨(Nat.le_of_ble_eq_true rfl), (Nat.le_of_ble_eq_true rfl)⟩) ?_
  refine xk_iconst (v := (1 : Int32)) hC dX8_bar_6 (by decide) ?_
  obtain ⟨u4, h4, hf⟩ := xk_bi hf
  obtain ⟨q3, h3, hf⟩ := xk_bi hf
  refine xk_backi (xk_callV hC 2 xc_5 (c_X8_start h3) h4 xm_902 xm_904 xm_p33 xm_6 xm_905 ⟨rfl, xd_X8_start⟩ rfl ⟨Nat.le_of_ble_eq_true rfl, Nat.le_of_ble_eq_true rfl⟩ rfl (Nat.le_of_ble_eq_true rfl) dX8_bar_7 ⟨(Nat.le_of_ble_eq_true rfl), (Nat.le_of_ble_eq_true rfl)⟩) ?_
  refine xk_if_ne (tgt := 58) hC dX8_bar_10 (by decide) (fun c5 => ?_) (fun c5 => ?_)
  · replace hf := (if_neg c5).symm.trans hf
    refine xk_locals [] rfl ?_
    exact t_X8_bar_58 hC hr (q3.2) hf
  · replace hf := (if_pos c5).symm.trans hf
    refine xk_aload_n hC dX8_bar_13 0 rfl rfl ?_
    refine xk_iload_n hC dX8_bar_14 2 rfl rfl ?_
    refine xk_iload_n hC dX8_bar_15 3 rfl rfl ?_
    obtain ⟨q6, h6, hf⟩ := xk_bi hf
    refine xk_backi (xk_callS hC 2 (c_X8_isNoClick h6) xm_1094 xm_1095 xm_6 xm_1096 xd_X8_isNoClick rfl ⟨Nat.le_of_ble_eq_true rfl, Nat.le_of_ble_eq_true rfl⟩ rfl (by simp [xk_cat1, xk_cati, xk_catl, xk_catd]) dX8_bar_16 ⟨(Nat.le_of_ble_eq_true rfl), (Nat.le_of_ble_eq_true rfl)⟩) ?_
    refine xk_iconst (v := (2 : Int32)) hC dX8_bar_19 (by decide) ?_
    obtain ⟨u8, h8, hf⟩ := xk_bi hf
    obtain ⟨q7, h7, hf⟩ := xk_bi hf
    refine xk_backi (xk_callV hC 2 xc_5 (c_X8_refuse h7) h8 xm_906 xm_908 xm_p34 xm_6 xm_909 ⟨rfl, xd_X8_refuse⟩ rfl ⟨Nat.le_of_ble_eq_true rfl, Nat.le_of_ble_eq_true rfl⟩ rfl (Nat.le_of_ble_eq_true rfl) dX8_bar_20 ⟨(Nat.le_of_ble_eq_true rfl), (Nat.le_of_ble_eq_true rfl)⟩) ?_
    refine xk_if_ne (tgt := 58) hC dX8_bar_23 (by decide) (fun c9 => ?_) (fun c9 => ?_)
    · replace hf := (if_neg c9).symm.trans hf
      refine xk_locals [] rfl ?_
      exact t_X8_bar_58 hC hr (q7.2) hf
    · replace hf := (if_pos c9).symm.trans hf
      refine xk_aload_n hC dX8_bar_26 0 rfl rfl ?_
      refine xk_aload_n hC dX8_bar_27 0 rfl rfl ?_
      obtain ⟨v10, h10, hf⟩ := xk_bi hf
      refine xk_getR hC xi_5 xc_5 5 (by decide) xm_865 (Or.inl rfl) dX8_bar_28 h10 ?_
      refine xk_iload_n hC dX8_bar_31 1 rfl rfl ?_
      cases hf
theorem xd_X8_bar : xy_X8_bar.cls ≠ "java/lang/invoke/MethodHandle" ∧ xy_X8_bar.cls ≠ "java/lang/invoke/VarHandle" ∧ (parseMethodDescriptor xy_X8_bar.desc).map (fun d => d.parameters.length) = some 3 := ⟨by decide +kernel, by decide +kernel, by decide +kernel⟩
theorem c_X8_bar {l : Launch} {E : xEv} {x0 : Option Nat} {x1 : Int32} {x2 : Int32} {x3 : Int32} {w : xWd} {q : (Int32 × xWd)} (hf : f_X8_bar x0 x1 x2 x3 w = some q) : xk_M l xy_X8_bar prog_7_method_23_code 5 (some .int) 2 44 0 0 E [va_rf (x0), .int (x1), .int (x2), .int (x3)] w (xk_Qi E q) := by
  refine xk_enter (by decide +kernel) (by simp [lg_sl, xk_cat1, xk_cati, xk_catl, xk_catd]) ?_
  intro p e s m args below meth c hC hr hin ha
  rw [show lv_args 0 [va_rf (x0), .int (x1), .int (x2), .int (x3)] = [(0, va_rf (x0)), (1, .int (x1)), (2, .int (x2)), (3, .int (x3))] by simp [lv_args, xk_cat1, xk_cati, xk_catl, xk_catd]]
  exact t_X8_bar_0 hC hr x0 x1 x2 x3 w hf
def f_X8_isNoBar (x0 : Option Nat) (x1 : Int32) (x2 : Int32) (w : xWd) : Option (Int32 × xWd) := (xk_is w (x0) 5).bind (fun u2 => (f_X8_isNoCue (x0) (x1) w).bind (fun q1 => if (q1.1) = ((0 : Int32)) then (xk_gR q1.2 (x0) 5 5).bind (fun v4 => none) else some ((1 : Int32), q1.2)))
set_option maxHeartbeats 4000000 in
set_option maxRecDepth 100000 in
theorem t_X8_isNoBar_0 {p : Program} {l : Launch} {e : Env} {s : State} {m : MethodId} {args : Array Value} {below : List Frame} {meth : Method} {c : Code} {E : xEv} (hC : xk_C p s m args meth c E prog_7_method_8_code "ClickbookModel" 3) (hr : meth.sig.returnType = (some .boolean)) {q : (Int32 × xWd)} (x0 : Option Nat) (x1 : Int32) (x2 : Int32) (w : xWd) (hf : f_X8_isNoBar x0 x1 x2 w = some q) : xk_X p l e { frames := 2, cells := 0, slots := 0, locals := 43 } s m args below meth c (MQ below (xk_Qi E q) args s 0 0 (xk_A E.2.2.1)) E 3 0 0 0 [(0, va_rf (x0)), (1, .int (x1)), (2, .int (x2))] [] w := by
  refine xk_aload_n hC dX8_isNoBar_0 0 rfl rfl ?_
  refine xk_iload_n hC dX8_isNoBar_1 1 rfl rfl ?_
  obtain ⟨u2, h2, hf⟩ := xk_bi hf
  obtain ⟨q1, h1, hf⟩ := xk_bi hf
  refine xk_backi (xk_callV hC 1 xc_5 (c_X8_isNoCue h1) h2 xm_1090 xm_1092 xm_p36 xm_6 xm_1093 ⟨rfl, xd_X8_isNoCue⟩ rfl ⟨Nat.le_of_ble_eq_true rfl, Nat.le_of_ble_eq_true rfl⟩ rfl (Nat.le_of_ble_eq_true rfl) dX8_isNoBar_2 ⟨(Nat.le_of_ble_eq_true rfl), (Nat.le_of_ble_eq_true rfl)⟩) ?_
  refine xk_if_ne (tgt := 32) hC dX8_isNoBar_5 (by decide) (fun c3 => ?_) (fun c3 => ?_)
  · replace hf := (if_neg c3).symm.trans hf
    refine xk_iconst (v := (1 : Int32)) hC dX8_isNoBar_32 (by decide) ?_
    refine xk_goto (tgt := 37) hC dX8_isNoBar_33 (by decide) ?_
    cases hf
    refine xk_widen (k := 0) (n := 0) (Nat.le_of_ble_eq_true rfl) (Nat.le_of_ble_eq_true rfl) ?_
    exact xk_iret hC hr rfl dX8_isNoBar_37
  · replace hf := (if_pos c3).symm.trans hf
    refine xk_iload_n hC dX8_isNoBar_8 2 rfl rfl ?_
    refine xk_iconst (v := (0 : Int32)) hC dX8_isNoBar_9 (by decide) ?_
    refine xk_aload_n hC dX8_isNoBar_10 0 rfl rfl ?_
    obtain ⟨v4, h4, hf⟩ := xk_bi hf
    refine xk_getR hC xi_5 xc_5 5 (by decide) xm_865 (Or.inl rfl) dX8_isNoBar_11 h4 ?_
    refine xk_iload_n hC dX8_isNoBar_14 1 rfl rfl ?_
    cases hf
theorem xd_X8_isNoBar : xy_X8_isNoBar.cls ≠ "java/lang/invoke/MethodHandle" ∧ xy_X8_isNoBar.cls ≠ "java/lang/invoke/VarHandle" ∧ (parseMethodDescriptor xy_X8_isNoBar.desc).map (fun d => d.parameters.length) = some 2 := ⟨by decide +kernel, by decide +kernel, by decide +kernel⟩
theorem c_X8_isNoBar {l : Launch} {E : xEv} {x0 : Option Nat} {x1 : Int32} {x2 : Int32} {w : xWd} {q : (Int32 × xWd)} (hf : f_X8_isNoBar x0 x1 x2 w = some q) : xk_M l xy_X8_isNoBar prog_7_method_8_code 3 (some .boolean) 2 43 0 0 E [va_rf (x0), .int (x1), .int (x2)] w (xk_Qi E q) := by
  refine xk_enter (by decide +kernel) (by simp [lg_sl, xk_cat1, xk_cati, xk_catl, xk_catd]) ?_
  intro p e s m args below meth c hC hr hin ha
  rw [show lv_args 0 [va_rf (x0), .int (x1), .int (x2)] = [(0, va_rf (x0)), (1, .int (x1)), (2, .int (x2))] by simp [lv_args, xk_cat1, xk_cati, xk_catl, xk_catd]]
  exact t_X8_isNoBar_0 hC hr x0 x1 x2 w hf
def f_X8_retime_28 (w : xWd) : Option (Int32 × xWd) := some ((0 : Int32), w)
set_option maxHeartbeats 4000000 in
set_option maxRecDepth 100000 in
theorem t_X8_retime_28 {p : Program} {l : Launch} {e : Env} {s : State} {m : MethodId} {args : Array Value} {below : List Frame} {meth : Method} {c : Code} {E : xEv} (hC : xk_C p s m args meth c E prog_7_method_24_code "ClickbookModel" 6) (hr : meth.sig.returnType = (some .int)) {q : (Int32 × xWd)} (w : xWd) (hf : f_X8_retime_28 w = some q) : xk_X p l e { frames := 3, cells := 0, slots := 0, locals := 65 } s m args below meth c (MQ below (xk_Qi E q) args s 0 0 (xk_A E.2.2.1)) E 6 0 0 28 [] [] w := by
  refine xk_iconst (v := (0 : Int32)) hC dX8_retime_28 (by decide) ?_
  cases hf
  refine xk_widen (k := 0) (n := 0) (Nat.le_of_ble_eq_true rfl) (Nat.le_of_ble_eq_true rfl) ?_
  exact xk_iret hC hr rfl dX8_retime_29
def f_X8_retime (x0 : Option Nat) (x1 : Int32) (x2 : Int32) (x3 : Int32) (x4 : Int32) (w : xWd) : Option (Int32 × xWd) := (xk_is w (x0) 5).bind (fun u2 => (f_X8_isNoBar (x0) (x1) (x2) w).bind (fun q1 => (xk_is q1.2 (x0) 5).bind (fun u4 => (f_X8_start (x0) (q1.1) ((1 : Int32)) q1.2).bind (fun q3 => if (q3.1) = ((0 : Int32)) then (f_X8_isNoClick (x3) (x4) q3.2).bind (fun q6 => (xk_is q6.2 (x0) 5).bind (fun u8 => (f_X8_refuse (x0) (q6.1) ((2 : Int32)) q6.2).bind (fun q7 => if (q7.1) = ((0 : Int32)) then (xk_gR q7.2 (x0) 5 5).bind (fun v10 => none) else f_X8_retime_28 (q7.2)))) else f_X8_retime_28 (q3.2)))))
set_option maxHeartbeats 4000000 in
set_option maxRecDepth 100000 in
theorem t_X8_retime_0 {p : Program} {l : Launch} {e : Env} {s : State} {m : MethodId} {args : Array Value} {below : List Frame} {meth : Method} {c : Code} {E : xEv} (hC : xk_C p s m args meth c E prog_7_method_24_code "ClickbookModel" 6) (hr : meth.sig.returnType = (some .int)) {q : (Int32 × xWd)} (x0 : Option Nat) (x1 : Int32) (x2 : Int32) (x3 : Int32) (x4 : Int32) (w : xWd) (hf : f_X8_retime x0 x1 x2 x3 x4 w = some q) : xk_X p l e { frames := 3, cells := 0, slots := 0, locals := 65 } s m args below meth c (MQ below (xk_Qi E q) args s 0 0 (xk_A E.2.2.1)) E 6 0 0 0 [(0, va_rf (x0)), (1, .int (x1)), (2, .int (x2)), (3, .int (x3)), (4, .int (x4))] [] w := by
  refine xk_aload_n hC dX8_retime_0 0 rfl rfl ?_
  refine xk_aload_n hC dX8_retime_1 0 rfl rfl ?_
  refine xk_iload_n hC dX8_retime_2 1 rfl rfl ?_
  refine xk_iload_n hC dX8_retime_3 2 rfl rfl ?_
  obtain ⟨u2, h2, hf⟩ := xk_bi hf
  obtain ⟨q1, h1, hf⟩ := xk_bi hf
  refine xk_backi (xk_callV hC 2 xc_5 (c_X8_isNoBar h1) h2 xm_1101 xm_1103 xm_p37 xm_6 xm_1104 ⟨rfl, xd_X8_isNoBar⟩ rfl ⟨Nat.le_of_ble_eq_true rfl, Nat.le_of_ble_eq_true rfl⟩ rfl (by simp [xk_cat1, xk_cati, xk_catl, xk_catd]) dX8_retime_4 ⟨(Nat.le_of_ble_eq_true rfl), (Nat.le_of_ble_eq_true rfl)⟩) ?_
  refine xk_iconst (v := (1 : Int32)) hC dX8_retime_7 (by decide) ?_
  obtain ⟨u4, h4, hf⟩ := xk_bi hf
  obtain ⟨q3, h3, hf⟩ := xk_bi hf
  refine xk_backi (xk_callV hC 2 xc_5 (c_X8_start h3) h4 xm_902 xm_904 xm_p33 xm_6 xm_905 ⟨rfl, xd_X8_start⟩ rfl ⟨Nat.le_of_ble_eq_true rfl, Nat.le_of_ble_eq_true rfl⟩ rfl (Nat.le_of_ble_eq_true rfl) dX8_retime_8 ⟨(Nat.le_of_ble_eq_true rfl), (Nat.le_of_ble_eq_true rfl)⟩) ?_
  refine xk_if_ne (tgt := 28) hC dX8_retime_11 (by decide) (fun c5 => ?_) (fun c5 => ?_)
  · replace hf := (if_neg c5).symm.trans hf
    refine xk_locals [] rfl ?_
    exact t_X8_retime_28 hC hr (q3.2) hf
  · replace hf := (if_pos c5).symm.trans hf
    refine xk_aload_n hC dX8_retime_14 0 rfl rfl ?_
    refine xk_iload_n hC dX8_retime_15 3 rfl rfl ?_
    refine xk_iload hC dX8_retime_16 4 rfl ?_
    obtain ⟨q6, h6, hf⟩ := xk_bi hf
    refine xk_backi (xk_callS hC 2 (c_X8_isNoClick h6) xm_1094 xm_1095 xm_6 xm_1096 xd_X8_isNoClick rfl ⟨Nat.le_of_ble_eq_true rfl, Nat.le_of_ble_eq_true rfl⟩ rfl (by simp [xk_cat1, xk_cati, xk_catl, xk_catd]) dX8_retime_18 ⟨(Nat.le_of_ble_eq_true rfl), (Nat.le_of_ble_eq_true rfl)⟩) ?_
    refine xk_iconst (v := (2 : Int32)) hC dX8_retime_21 (by decide) ?_
    obtain ⟨u8, h8, hf⟩ := xk_bi hf
    obtain ⟨q7, h7, hf⟩ := xk_bi hf
    refine xk_backi (xk_callV hC 2 xc_5 (c_X8_refuse h7) h8 xm_906 xm_908 xm_p34 xm_6 xm_909 ⟨rfl, xd_X8_refuse⟩ rfl ⟨Nat.le_of_ble_eq_true rfl, Nat.le_of_ble_eq_true rfl⟩ rfl (Nat.le_of_ble_eq_true rfl) dX8_retime_22 ⟨(Nat.le_of_ble_eq_true rfl), (Nat.le_of_ble_eq_true rfl)⟩) ?_
    refine xk_if_eq (tgt := 30) hC dX8_retime_25 (by decide) (fun c9 => ?_) (fun c9 => ?_)
    · replace hf := (if_pos c9).symm.trans hf
      refine xk_aload_n hC dX8_retime_30 0 rfl rfl ?_
      obtain ⟨v10, h10, hf⟩ := xk_bi hf
      refine xk_getR hC xi_5 xc_5 5 (by decide) xm_865 (Or.inl rfl) dX8_retime_31 h10 ?_
      refine xk_iload_n hC dX8_retime_34 1 rfl rfl ?_
      cases hf
    · replace hf := (if_neg c9).symm.trans hf
      refine xk_locals [] rfl ?_
      exact t_X8_retime_28 hC hr (q7.2) hf
theorem xd_X8_retime : xy_X8_retime.cls ≠ "java/lang/invoke/MethodHandle" ∧ xy_X8_retime.cls ≠ "java/lang/invoke/VarHandle" ∧ (parseMethodDescriptor xy_X8_retime.desc).map (fun d => d.parameters.length) = some 4 := ⟨by decide +kernel, by decide +kernel, by decide +kernel⟩
theorem c_X8_retime {l : Launch} {E : xEv} {x0 : Option Nat} {x1 : Int32} {x2 : Int32} {x3 : Int32} {x4 : Int32} {w : xWd} {q : (Int32 × xWd)} (hf : f_X8_retime x0 x1 x2 x3 x4 w = some q) : xk_M l xy_X8_retime prog_7_method_24_code 6 (some .int) 3 65 0 0 E [va_rf (x0), .int (x1), .int (x2), .int (x3), .int (x4)] w (xk_Qi E q) := by
  refine xk_enter (by decide +kernel) (by simp [lg_sl, xk_cat1, xk_cati, xk_catl, xk_catd]) ?_
  intro p e s m args below meth c hC hr hin ha
  rw [show lv_args 0 [va_rf (x0), .int (x1), .int (x2), .int (x3), .int (x4)] = [(0, va_rf (x0)), (1, .int (x1)), (2, .int (x2)), (3, .int (x3)), (4, .int (x4))] by simp [lv_args, xk_cat1, xk_cati, xk_catl, xk_catd]]
  exact t_X8_retime_0 hC hr x0 x1 x2 x3 x4 w hf
def f_X8_shift_38 (w : xWd) : Option (Int32 × xWd) := some ((0 : Int32), w)
set_option maxHeartbeats 4000000 in
set_option maxRecDepth 100000 in
theorem t_X8_shift_38 {p : Program} {l : Launch} {e : Env} {s : State} {m : MethodId} {args : Array Value} {below : List Frame} {meth : Method} {c : Code} {E : xEv} (hC : xk_C p s m args meth c E prog_7_method_25_code "ClickbookModel" 3) (hr : meth.sig.returnType = (some .int)) {q : (Int32 × xWd)} (w : xWd) (hf : f_X8_shift_38 w = some q) : xk_X p l e { frames := 2, cells := 0, slots := 0, locals := 44 } s m args below meth c (MQ below (xk_Qi E q) args s 0 0 (xk_A E.2.2.1)) E 3 0 0 38 [] [] w := by
  refine xk_iconst (v := (0 : Int32)) hC dX8_shift_38 (by decide) ?_
  cases hf
  refine xk_widen (k := 0) (n := 0) (Nat.le_of_ble_eq_true rfl) (Nat.le_of_ble_eq_true rfl) ?_
  exact xk_iret hC hr rfl dX8_shift_39
def f_X8_shift_31 (x0 : Option Nat) (x1 : Int32) (s0 : Int32) (s1 : Option Nat) (w : xWd) : Option (Int32 × xWd) := (xk_is w (s1) 5).bind (fun u2 => (f_X8_refuse (s1) (s0) ((2 : Int32)) w).bind (fun q1 => if (q1.1) = ((0 : Int32)) then (xk_gR q1.2 (x0) 5 5).bind (fun v4 => none) else f_X8_shift_38 (q1.2)))
set_option maxHeartbeats 4000000 in
set_option maxRecDepth 100000 in
theorem t_X8_shift_31 {p : Program} {l : Launch} {e : Env} {s : State} {m : MethodId} {args : Array Value} {below : List Frame} {meth : Method} {c : Code} {E : xEv} (hC : xk_C p s m args meth c E prog_7_method_25_code "ClickbookModel" 3) (hr : meth.sig.returnType = (some .int)) {q : (Int32 × xWd)} (x0 : Option Nat) (x1 : Int32) (s0 : Int32) (s1 : Option Nat) (w : xWd) (hf : f_X8_shift_31 x0 x1 s0 s1 w = some q) : xk_X p l e { frames := 2, cells := 0, slots := 0, locals := 44 } s m args below meth c (MQ below (xk_Qi E q) args s 0 0 (xk_A E.2.2.1)) E 3 0 0 31 [(0, va_rf (x0)), (1, .int (x1))] [.int (s0), va_rf (s1)] w := by
  refine xk_iconst (v := (2 : Int32)) hC dX8_shift_31 (by decide) ?_
  obtain ⟨u2, h2, hf⟩ := xk_bi hf
  obtain ⟨q1, h1, hf⟩ := xk_bi hf
  refine xk_backi (xk_callV hC 2 xc_5 (c_X8_refuse h1) h2 xm_906 xm_908 xm_p34 xm_6 xm_909 ⟨rfl, xd_X8_refuse⟩ rfl ⟨Nat.le_of_ble_eq_true rfl, Nat.le_of_ble_eq_true rfl⟩ rfl (Nat.le_of_ble_eq_true rfl) dX8_shift_32 ⟨(Nat.le_of_ble_eq_true rfl), (Nat.le_of_ble_eq_true rfl)⟩) ?_
  refine xk_if_eq (tgt := 40) hC dX8_shift_35 (by decide) (fun c3 => ?_) (fun c3 => ?_)
  · replace hf := (if_pos c3).symm.trans hf
    refine xk_aload_n hC dX8_shift_40 0 rfl rfl ?_
    obtain ⟨v4, h4, hf⟩ := xk_bi hf
    refine xk_getR hC xi_5 xc_5 5 (by decide) xm_865 (Or.inl rfl) dX8_shift_41 h4 ?_
    refine xk_iload_n hC dX8_shift_44 1 rfl rfl ?_
    cases hf
  · replace hf := (if_neg c3).symm.trans hf
    refine xk_locals [] rfl ?_
    exact t_X8_shift_38 hC hr (q1.2) hf
def f_X8_shift (x0 : Option Nat) (x1 : Int32) (x2 : Int32) (w : xWd) : Option (Int32 × xWd) := (xk_is w (x0) 5).bind (fun u2 => (f_X8_isNoCue (x0) (x1) w).bind (fun q1 => (xk_is q1.2 (x0) 5).bind (fun u4 => (f_X8_start (x0) (q1.1) ((1 : Int32)) q1.2).bind (fun q3 => if (q3.1) = ((0 : Int32)) then (xk_gI q3.2 (x0) 5 1).bind (fun v6 => (f_X8_isIn (x2) ((0 : Int32)) (v6) q3.2).bind (fun q7 => if (q7.1) = ((0 : Int32)) then f_X8_shift_31 x0 x1 ((1 : Int32)) x0 (q7.2) else f_X8_shift_31 x0 x1 ((0 : Int32)) x0 (q7.2))) else f_X8_shift_38 (q3.2)))))
set_option maxHeartbeats 4000000 in
set_option maxRecDepth 100000 in
theorem t_X8_shift_0 {p : Program} {l : Launch} {e : Env} {s : State} {m : MethodId} {args : Array Value} {below : List Frame} {meth : Method} {c : Code} {E : xEv} (hC : xk_C p s m args meth c E prog_7_method_25_code "ClickbookModel" 3) (hr : meth.sig.returnType = (some .int)) {q : (Int32 × xWd)} (x0 : Option Nat) (x1 : Int32) (x2 : Int32) (w : xWd) (hf : f_X8_shift x0 x1 x2 w = some q) : xk_X p l e { frames := 2, cells := 0, slots := 0, locals := 44 } s m args below meth c (MQ below (xk_Qi E q) args s 0 0 (xk_A E.2.2.1)) E 3 0 0 0 [(0, va_rf (x0)), (1, .int (x1)), (2, .int (x2))] [] w := by
  refine xk_aload_n hC dX8_shift_0 0 rfl rfl ?_
  refine xk_aload_n hC dX8_shift_1 0 rfl rfl ?_
  refine xk_iload_n hC dX8_shift_2 1 rfl rfl ?_
  obtain ⟨u2, h2, hf⟩ := xk_bi hf
  obtain ⟨q1, h1, hf⟩ := xk_bi hf
  refine xk_backi (xk_callV hC 1 xc_5 (c_X8_isNoCue h1) h2 xm_1090 xm_1092 xm_p36 xm_6 xm_1093 ⟨rfl, xd_X8_isNoCue⟩ rfl ⟨Nat.le_of_ble_eq_true rfl, Nat.le_of_ble_eq_true rfl⟩ rfl (by simp [xk_cat1, xk_cati, xk_catl, xk_catd]) dX8_shift_3 ⟨(Nat.le_of_ble_eq_true rfl), (Nat.le_of_ble_eq_true rfl)⟩) ?_
  refine xk_iconst (v := (1 : Int32)) hC dX8_shift_6 (by decide) ?_
  obtain ⟨u4, h4, hf⟩ := xk_bi hf
  obtain ⟨q3, h3, hf⟩ := xk_bi hf
  refine xk_backi (xk_callV hC 2 xc_5 (c_X8_start h3) h4 xm_902 xm_904 xm_p33 xm_6 xm_905 ⟨rfl, xd_X8_start⟩ rfl ⟨Nat.le_of_ble_eq_true rfl, Nat.le_of_ble_eq_true rfl⟩ rfl (Nat.le_of_ble_eq_true rfl) dX8_shift_7 ⟨(Nat.le_of_ble_eq_true rfl), (Nat.le_of_ble_eq_true rfl)⟩) ?_
  refine xk_if_ne (tgt := 38) hC dX8_shift_10 (by decide) (fun c5 => ?_) (fun c5 => ?_)
  · replace hf := (if_neg c5).symm.trans hf
    refine xk_locals [] rfl ?_
    exact t_X8_shift_38 hC hr (q3.2) hf
  · replace hf := (if_pos c5).symm.trans hf
    refine xk_aload_n hC dX8_shift_13 0 rfl rfl ?_
    refine xk_iload_n hC dX8_shift_14 2 rfl rfl ?_
    refine xk_iconst (v := (0 : Int32)) hC dX8_shift_15 (by decide) ?_
    refine xk_aload_n hC dX8_shift_16 0 rfl rfl ?_
    obtain ⟨v6, h6, hf⟩ := xk_bi hf
    refine xk_getI hC xi_5 xc_5 1 (by decide) xm_861 (Or.inl rfl) dX8_shift_17 h6 ?_
    obtain ⟨q7, h7, hf⟩ := xk_bi hf
    refine xk_backi (xk_callS hC 3 (c_X8_isIn h7) xm_899 xm_900 xm_6 xm_901 xd_X8_isIn rfl ⟨Nat.le_of_ble_eq_true rfl, Nat.le_of_ble_eq_true rfl⟩ rfl (by simp [xk_cat1, xk_cati, xk_catl, xk_catd]) dX8_shift_20 ⟨(Nat.le_of_ble_eq_true rfl), (Nat.le_of_ble_eq_true rfl)⟩) ?_
    refine xk_if_ne (tgt := 30) hC dX8_shift_23 (by decide) (fun c8 => ?_) (fun c8 => ?_)
    · replace hf := (if_neg c8).symm.trans hf
      refine xk_iconst (v := (0 : Int32)) hC dX8_shift_30 (by decide) ?_
      refine xk_locals [0, 1] rfl ?_
      exact t_X8_shift_31 hC hr x0 x1 ((0 : Int32)) x0 (q7.2) hf
    · replace hf := (if_pos c8).symm.trans hf
      refine xk_iconst (v := (1 : Int32)) hC dX8_shift_26 (by decide) ?_
      refine xk_goto (tgt := 31) hC dX8_shift_27 (by decide) ?_
      refine xk_locals [0, 1] rfl ?_
      exact t_X8_shift_31 hC hr x0 x1 ((1 : Int32)) x0 (q7.2) hf
theorem xd_X8_shift : xy_X8_shift.cls ≠ "java/lang/invoke/MethodHandle" ∧ xy_X8_shift.cls ≠ "java/lang/invoke/VarHandle" ∧ (parseMethodDescriptor xy_X8_shift.desc).map (fun d => d.parameters.length) = some 2 := ⟨by decide +kernel, by decide +kernel, by decide +kernel⟩
theorem c_X8_shift {l : Launch} {E : xEv} {x0 : Option Nat} {x1 : Int32} {x2 : Int32} {w : xWd} {q : (Int32 × xWd)} (hf : f_X8_shift x0 x1 x2 w = some q) : xk_M l xy_X8_shift prog_7_method_25_code 3 (some .int) 2 44 0 0 E [va_rf (x0), .int (x1), .int (x2)] w (xk_Qi E q) := by
  refine xk_enter (by decide +kernel) (by simp [lg_sl, xk_cat1, xk_cati, xk_catl, xk_catd]) ?_
  intro p e s m args below meth c hC hr hin ha
  rw [show lv_args 0 [va_rf (x0), .int (x1), .int (x2)] = [(0, va_rf (x0)), (1, .int (x1)), (2, .int (x2))] by simp [lv_args, xk_cat1, xk_cati, xk_catl, xk_catd]]
  exact t_X8_shift_0 hC hr x0 x1 x2 w hf
def f_X8_open_43 (w : xWd) : Option (Int32 × xWd) := some ((0 : Int32), w)
set_option maxHeartbeats 4000000 in
set_option maxRecDepth 100000 in
theorem t_X8_open_43 {p : Program} {l : Launch} {e : Env} {s : State} {m : MethodId} {args : Array Value} {below : List Frame} {meth : Method} {c : Code} {E : xEv} (hC : xk_C p s m args meth c E prog_7_method_26_code "ClickbookModel" 2) (hr : meth.sig.returnType = (some .int)) {q : (Int32 × xWd)} (w : xWd) (hf : f_X8_open_43 w = some q) : xk_X p l e { frames := 2, cells := 0, slots := 0, locals := 44 } s m args below meth c (MQ below (xk_Qi E q) args s 0 0 (xk_A E.2.2.1)) E 2 0 0 43 [] [] w := by
  refine xk_iconst (v := (0 : Int32)) hC dX8_open_43 (by decide) ?_
  cases hf
  refine xk_widen (k := 0) (n := 0) (Nat.le_of_ble_eq_true rfl) (Nat.le_of_ble_eq_true rfl) ?_
  exact xk_iret hC hr rfl dX8_open_44
def f_X8_open_36 (x0 : Option Nat) (x1 : Int32) (s0 : Int32) (s1 : Option Nat) (w : xWd) : Option (Int32 × xWd) := (xk_is w (s1) 5).bind (fun u2 => (f_X8_refuse (s1) (s0) ((2 : Int32)) w).bind (fun q1 => if (q1.1) = ((0 : Int32)) then (xk_pV q1.2 (x0) 5 7 (.int (x1))).bind (fun w4 => (xk_pV w4 (x0) 5 8 (.int ((0 : Int32)))).bind (fun w5 => (xk_gR w5 (x0) 5 6).bind (fun v6 => (xk_is w5 (v6) 4).bind (fun u8 => (f_Jx4a65c_size_8abf5 (v6)  w5).bind (fun q7 => some (q7.1, q7.2)))))) else f_X8_open_43 (q1.2)))
set_option maxHeartbeats 4000000 in
set_option maxRecDepth 100000 in
theorem t_X8_open_36 {p : Program} {l : Launch} {e : Env} {s : State} {m : MethodId} {args : Array Value} {below : List Frame} {meth : Method} {c : Code} {E : xEv} (hC : xk_C p s m args meth c E prog_7_method_26_code "ClickbookModel" 2) (hr : meth.sig.returnType = (some .int)) {q : (Int32 × xWd)} (x0 : Option Nat) (x1 : Int32) (s0 : Int32) (s1 : Option Nat) (w : xWd) (hf : f_X8_open_36 x0 x1 s0 s1 w = some q) : xk_X p l e { frames := 2, cells := 0, slots := 0, locals := 44 } s m args below meth c (MQ below (xk_Qi E q) args s 0 0 (xk_A E.2.2.1)) E 2 0 0 36 [(0, va_rf (x0)), (1, .int (x1))] [.int (s0), va_rf (s1)] w := by
  refine xk_iconst (v := (2 : Int32)) hC dX8_open_36 (by decide) ?_
  obtain ⟨u2, h2, hf⟩ := xk_bi hf
  obtain ⟨q1, h1, hf⟩ := xk_bi hf
  refine xk_backi (xk_callV hC 2 xc_5 (c_X8_refuse h1) h2 xm_906 xm_908 xm_p34 xm_6 xm_909 ⟨rfl, xd_X8_refuse⟩ rfl ⟨Nat.le_of_ble_eq_true rfl, Nat.le_of_ble_eq_true rfl⟩ rfl (Nat.le_of_ble_eq_true rfl) dX8_open_37 ⟨(Nat.le_of_ble_eq_true rfl), (Nat.le_of_ble_eq_true rfl)⟩) ?_
  refine xk_if_eq (tgt := 45) hC dX8_open_40 (by decide) (fun c3 => ?_) (fun c3 => ?_)
  · replace hf := (if_pos c3).symm.trans hf
    refine xk_aload_n hC dX8_open_45 0 rfl rfl ?_
    refine xk_iload_n hC dX8_open_46 1 rfl rfl ?_
    obtain ⟨w4, h4, hf⟩ := xk_bi hf
    refine xk_put hC xi_5 xc_5 xo_5 xn_5 7 (by decide) xm_867 (Or.inl rfl) rfl rfl rfl dX8_open_47 h4 ?_
    refine xk_aload_n hC dX8_open_50 0 rfl rfl ?_
    refine xk_iconst (v := (0 : Int32)) hC dX8_open_51 (by decide) ?_
    obtain ⟨w5, h5, hf⟩ := xk_bi hf
    refine xk_put hC xi_5 xc_5 xo_5 xn_5 8 (by decide) xm_868 (Or.inl rfl) rfl rfl rfl dX8_open_52 h5 ?_
    refine xk_aload_n hC dX8_open_55 0 rfl rfl ?_
    obtain ⟨v6, h6, hf⟩ := xk_bi hf
    refine xk_getR hC xi_5 xc_5 6 (by decide) xm_866 (Or.inl rfl) dX8_open_56 h6 ?_
    obtain ⟨u8, h8, hf⟩ := xk_bi hf
    obtain ⟨q7, h7, hf⟩ := xk_bi hf
    refine xk_backi (xk_callV hC 0 xc_4 (c_Jx4a65c_size_8abf5 h7) h8 xm_910 xm_131 xm_132 xm_4 xm_133 ⟨rfl, xd_Jx4a65c_size_8abf5⟩ rfl ⟨Nat.le_of_ble_eq_true rfl, Nat.le_of_ble_eq_true rfl⟩ rfl (Nat.le_of_ble_eq_true rfl) dX8_open_59 ⟨(Nat.le_of_ble_eq_true rfl), (Nat.le_of_ble_eq_true rfl)⟩) ?_
    cases hf
    refine xk_widen (k := 0) (n := 0) (Nat.le_of_ble_eq_true rfl) (Nat.le_of_ble_eq_true rfl) ?_
    exact xk_iret hC hr rfl dX8_open_62
  · replace hf := (if_neg c3).symm.trans hf
    refine xk_locals [] rfl ?_
    exact t_X8_open_43 hC hr (q1.2) hf
def f_X8_open_16 (x0 : Option Nat) (x1 : Int32) (s0 : Int32) (s1 : Option Nat) (w : xWd) : Option (Int32 × xWd) := (xk_is w (s1) 5).bind (fun u2 => (f_X8_start (s1) (s0) ((1 : Int32)) w).bind (fun q1 => if (q1.1) = ((0 : Int32)) then (xk_gI q1.2 (x0) 5 7).bind (fun v4 => if (v4) ≤ ((0 : Int32)) then f_X8_open_36 x0 x1 ((0 : Int32)) x0 (q1.2) else f_X8_open_36 x0 x1 ((1 : Int32)) x0 (q1.2)) else f_X8_open_43 (q1.2)))
set_option maxHeartbeats 4000000 in
set_option maxRecDepth 100000 in
theorem t_X8_open_16 {p : Program} {l : Launch} {e : Env} {s : State} {m : MethodId} {args : Array Value} {below : List Frame} {meth : Method} {c : Code} {E : xEv} (hC : xk_C p s m args meth c E prog_7_method_26_code "ClickbookModel" 2) (hr : meth.sig.returnType = (some .int)) {q : (Int32 × xWd)} (x0 : Option Nat) (x1 : Int32) (s0 : Int32) (s1 : Option Nat) (w : xWd) (hf : f_X8_open_16 x0 x1 s0 s1 w = some q) : xk_X p l e { frames := 2, cells := 0, slots := 0, locals := 44 } s m args below meth c (MQ below (xk_Qi E q) args s 0 0 (xk_A E.2.2.1)) E 2 0 0 16 [(0, va_rf (x0)), (1, .int (x1))] [.int (s0), va_rf (s1)] w := by
  refine xk_iconst (v := (1 : Int32)) hC dX8_open_16 (by decide) ?_
  obtain ⟨u2, h2, hf⟩ := xk_bi hf
  obtain ⟨q1, h1, hf⟩ := xk_bi hf
  refine xk_backi (xk_callV hC 2 xc_5 (c_X8_start h1) h2 xm_902 xm_904 xm_p33 xm_6 xm_905 ⟨rfl, xd_X8_start⟩ rfl ⟨Nat.le_of_ble_eq_true rfl, Nat.le_of_ble_eq_true rfl⟩ rfl (Nat.le_of_ble_eq_true rfl) dX8_open_17 ⟨(Nat.le_of_ble_eq_true rfl), (Nat.le_of_ble_eq_true rfl)⟩) ?_
  refine xk_if_ne (tgt := 43) hC dX8_open_20 (by decide) (fun c3 => ?_) (fun c3 => ?_)
  · replace hf := (if_neg c3).symm.trans hf
    refine xk_locals [] rfl ?_
    exact t_X8_open_43 hC hr (q1.2) hf
  · replace hf := (if_pos c3).symm.trans hf
    refine xk_aload_n hC dX8_open_23 0 rfl rfl ?_
    refine xk_aload_n hC dX8_open_24 0 rfl rfl ?_
    obtain ⟨v4, h4, hf⟩ := xk_bi hf
    refine xk_getI hC xi_5 xc_5 7 (by decide) xm_867 (Or.inl rfl) dX8_open_25 h4 ?_
    refine xk_if_le (tgt := 35) hC dX8_open_28 (by decide) (fun c5 => ?_) (fun c5 => ?_)
    · replace hf := (if_pos c5).symm.trans hf
      refine xk_iconst (v := (0 : Int32)) hC dX8_open_35 (by decide) ?_
      exact t_X8_open_36 hC hr x0 x1 ((0 : Int32)) x0 (q1.2) hf
    · replace hf := (if_neg c5).symm.trans hf
      refine xk_iconst (v := (1 : Int32)) hC dX8_open_31 (by decide) ?_
      refine xk_goto (tgt := 36) hC dX8_open_32 (by decide) ?_
      exact t_X8_open_36 hC hr x0 x1 ((1 : Int32)) x0 (q1.2) hf
def f_X8_open (x0 : Option Nat) (x1 : Int32) (w : xWd) : Option (Int32 × xWd) := (f_X8_isIn (x1) ((1 : Int32)) ((60 : Int32)) w).bind (fun q1 => if (q1.1) = ((0 : Int32)) then f_X8_open_16 x0 x1 ((1 : Int32)) x0 (q1.2) else f_X8_open_16 x0 x1 ((0 : Int32)) x0 (q1.2))
set_option maxHeartbeats 4000000 in
set_option maxRecDepth 100000 in
theorem t_X8_open_0 {p : Program} {l : Launch} {e : Env} {s : State} {m : MethodId} {args : Array Value} {below : List Frame} {meth : Method} {c : Code} {E : xEv} (hC : xk_C p s m args meth c E prog_7_method_26_code "ClickbookModel" 2) (hr : meth.sig.returnType = (some .int)) {q : (Int32 × xWd)} (x0 : Option Nat) (x1 : Int32) (w : xWd) (hf : f_X8_open x0 x1 w = some q) : xk_X p l e { frames := 2, cells := 0, slots := 0, locals := 44 } s m args below meth c (MQ below (xk_Qi E q) args s 0 0 (xk_A E.2.2.1)) E 2 0 0 0 [(0, va_rf (x0)), (1, .int (x1))] [] w := by
  refine xk_aload_n hC dX8_open_0 0 rfl rfl ?_
  refine xk_iload_n hC dX8_open_1 1 rfl rfl ?_
  refine xk_iconst (v := (1 : Int32)) hC dX8_open_2 (by decide) ?_
  refine xk_bipush (v := (60 : Int32)) hC dX8_open_3 (by decide) ?_
  obtain ⟨q1, h1, hf⟩ := xk_bi hf
  refine xk_backi (xk_callS hC 3 (c_X8_isIn h1) xm_899 xm_900 xm_6 xm_901 xd_X8_isIn rfl ⟨Nat.le_of_ble_eq_true rfl, Nat.le_of_ble_eq_true rfl⟩ rfl (by simp [xk_cat1, xk_cati, xk_catl, xk_catd]) dX8_open_5 ⟨(Nat.le_of_ble_eq_true rfl), (Nat.le_of_ble_eq_true rfl)⟩) ?_
  refine xk_if_ne (tgt := 15) hC dX8_open_8 (by decide) (fun c2 => ?_) (fun c2 => ?_)
  · replace hf := (if_neg c2).symm.trans hf
    refine xk_iconst (v := (0 : Int32)) hC dX8_open_15 (by decide) ?_
    exact t_X8_open_16 hC hr x0 x1 ((0 : Int32)) x0 (q1.2) hf
  · replace hf := (if_pos c2).symm.trans hf
    refine xk_iconst (v := (1 : Int32)) hC dX8_open_11 (by decide) ?_
    refine xk_goto (tgt := 16) hC dX8_open_12 (by decide) ?_
    exact t_X8_open_16 hC hr x0 x1 ((1 : Int32)) x0 (q1.2) hf
theorem xd_X8_open : xy_X8_open.cls ≠ "java/lang/invoke/MethodHandle" ∧ xy_X8_open.cls ≠ "java/lang/invoke/VarHandle" ∧ (parseMethodDescriptor xy_X8_open.desc).map (fun d => d.parameters.length) = some 1 := ⟨by decide +kernel, by decide +kernel, by decide +kernel⟩
theorem c_X8_open {l : Launch} {E : xEv} {x0 : Option Nat} {x1 : Int32} {w : xWd} {q : (Int32 × xWd)} (hf : f_X8_open x0 x1 w = some q) : xk_M l xy_X8_open prog_7_method_26_code 2 (some .int) 2 44 0 0 E [va_rf (x0), .int (x1)] w (xk_Qi E q) := by
  refine xk_enter (by decide +kernel) (by simp [lg_sl, xk_cat1, xk_cati, xk_catl, xk_catd]) ?_
  intro p e s m args below meth c hC hr hin ha
  rw [show lv_args 0 [va_rf (x0), .int (x1)] = [(0, va_rf (x0)), (1, .int (x1))] by simp [lv_args, xk_cat1, xk_cati, xk_catl, xk_catd]]
  exact t_X8_open_0 hC hr x0 x1 w hf
def f_X8_take (x0 : Option Nat) (x1 : Int32) (x2 : Int32) (x3 : Int32) (w : xWd) : Option (Int32 × xWd) := (xk_is w (x0) 5).bind (fun u2 => (f_X8_isNoCue (x0) (x1) w).bind (fun q1 => (xk_is q1.2 (x0) 5).bind (fun u4 => (f_X8_start (x0) (q1.1) ((1 : Int32)) q1.2).bind (fun q3 => if (q3.1) = ((0 : Int32)) then (xk_gR q3.2 (x0) 5 5).bind (fun v6 => none) else some ((0 : Int32), q3.2)))))
set_option maxHeartbeats 4000000 in
set_option maxRecDepth 100000 in
theorem t_X8_take_0 {p : Program} {l : Launch} {e : Env} {s : State} {m : MethodId} {args : Array Value} {below : List Frame} {meth : Method} {c : Code} {E : xEv} (hC : xk_C p s m args meth c E prog_7_method_28_code "ClickbookModel" 9) (hr : meth.sig.returnType = (some .int)) {q : (Int32 × xWd)} (x0 : Option Nat) (x1 : Int32) (x2 : Int32) (x3 : Int32) (w : xWd) (hf : f_X8_take x0 x1 x2 x3 w = some q) : xk_X p l e { frames := 2, cells := 0, slots := 0, locals := 44 } s m args below meth c (MQ below (xk_Qi E q) args s 0 0 (xk_A E.2.2.1)) E 9 0 0 0 [(0, va_rf (x0)), (1, .int (x1)), (2, .int (x2)), (3, .int (x3))] [] w := by
  refine xk_aload_n hC dX8_take_0 0 rfl rfl ?_
  refine xk_aload_n hC dX8_take_1 0 rfl rfl ?_
  refine xk_iload_n hC dX8_take_2 1 rfl rfl ?_
  obtain ⟨u2, h2, hf⟩ := xk_bi hf
  obtain ⟨q1, h1, hf⟩ := xk_bi hf
  refine xk_backi (xk_callV hC 1 xc_5 (c_X8_isNoCue h1) h2 xm_1090 xm_1092 xm_p36 xm_6 xm_1093 ⟨rfl, xd_X8_isNoCue⟩ rfl ⟨Nat.le_of_ble_eq_true rfl, Nat.le_of_ble_eq_true rfl⟩ rfl (by simp [xk_cat1, xk_cati, xk_catl, xk_catd]) dX8_take_3 ⟨(Nat.le_of_ble_eq_true rfl), (Nat.le_of_ble_eq_true rfl)⟩) ?_
  refine xk_iconst (v := (1 : Int32)) hC dX8_take_6 (by decide) ?_
  obtain ⟨u4, h4, hf⟩ := xk_bi hf
  obtain ⟨q3, h3, hf⟩ := xk_bi hf
  refine xk_backi (xk_callV hC 2 xc_5 (c_X8_start h3) h4 xm_902 xm_904 xm_p33 xm_6 xm_905 ⟨rfl, xd_X8_start⟩ rfl ⟨Nat.le_of_ble_eq_true rfl, Nat.le_of_ble_eq_true rfl⟩ rfl (Nat.le_of_ble_eq_true rfl) dX8_take_7 ⟨(Nat.le_of_ble_eq_true rfl), (Nat.le_of_ble_eq_true rfl)⟩) ?_
  refine xk_if_eq (tgt := 15) hC dX8_take_10 (by decide) (fun c5 => ?_) (fun c5 => ?_)
  · replace hf := (if_pos c5).symm.trans hf
    refine xk_aload_n hC dX8_take_15 0 rfl rfl ?_
    obtain ⟨v6, h6, hf⟩ := xk_bi hf
    refine xk_getR hC xi_5 xc_5 5 (by decide) xm_865 (Or.inl rfl) dX8_take_16 h6 ?_
    refine xk_iload_n hC dX8_take_19 1 rfl rfl ?_
    cases hf
  · replace hf := (if_neg c5).symm.trans hf
    refine xk_iconst (v := (0 : Int32)) hC dX8_take_13 (by decide) ?_
    cases hf
    refine xk_widen (k := 0) (n := 0) (Nat.le_of_ble_eq_true rfl) (Nat.le_of_ble_eq_true rfl) ?_
    exact xk_iret hC hr rfl dX8_take_14
theorem xd_X8_take : xy_X8_take.cls ≠ "java/lang/invoke/MethodHandle" ∧ xy_X8_take.cls ≠ "java/lang/invoke/VarHandle" ∧ (parseMethodDescriptor xy_X8_take.desc).map (fun d => d.parameters.length) = some 3 := ⟨by decide +kernel, by decide +kernel, by decide +kernel⟩
theorem c_X8_take {l : Launch} {E : xEv} {x0 : Option Nat} {x1 : Int32} {x2 : Int32} {x3 : Int32} {w : xWd} {q : (Int32 × xWd)} (hf : f_X8_take x0 x1 x2 x3 w = some q) : xk_M l xy_X8_take prog_7_method_28_code 9 (some .int) 2 44 0 0 E [va_rf (x0), .int (x1), .int (x2), .int (x3)] w (xk_Qi E q) := by
  refine xk_enter (by decide +kernel) (by simp [lg_sl, xk_cat1, xk_cati, xk_catl, xk_catd]) ?_
  intro p e s m args below meth c hC hr hin ha
  rw [show lv_args 0 [va_rf (x0), .int (x1), .int (x2), .int (x3)] = [(0, va_rf (x0)), (1, .int (x1)), (2, .int (x2)), (3, .int (x3))] by simp [lv_args, xk_cat1, xk_cati, xk_catl, xk_catd]]
  exact t_X8_take_0 hC hr x0 x1 x2 x3 w hf
def f_X8_up (x0 : Int32) (x1 : Int32) (w : xWd) : Option (Int32 × xWd) := (xk_nz (x1)).bind (fun u1 => some ((((x0) + (x1)) - ((1 : Int32))) / (x1), w))
set_option maxHeartbeats 4000000 in
set_option maxRecDepth 100000 in
theorem t_X8_up_0 {p : Program} {l : Launch} {e : Env} {s : State} {m : MethodId} {args : Array Value} {below : List Frame} {meth : Method} {c : Code} {E : xEv} (hC : xk_C p s m args meth c E prog_7_method_2_code "ClickbookModel" 2) (hr : meth.sig.returnType = (some .int)) {q : (Int32 × xWd)} (x0 : Int32) (x1 : Int32) (w : xWd) (hf : f_X8_up x0 x1 w = some q) : xk_X p l e { frames := 0, cells := 0, slots := 0, locals := 0 } s m args below meth c (MQ below (xk_Qi E q) args s 0 0 (xk_A E.2.2.1)) E 2 0 0 0 [(0, .int (x0)), (1, .int (x1))] [] w := by
  refine xk_iload_n hC dX8_up_0 0 rfl rfl ?_
  refine xk_iload_n hC dX8_up_1 1 rfl rfl ?_
  refine xk_iadd hC dX8_up_2 ?_
  refine xk_iconst (v := (1 : Int32)) hC dX8_up_3 (by decide) ?_
  refine xk_isub hC dX8_up_4 ?_
  refine xk_iload_n hC dX8_up_5 1 rfl rfl ?_
  obtain ⟨u1, h1, hf⟩ := xk_bi hf
  refine xk_idiv hC dX8_up_6 (xk_nz_e h1) ?_
  cases hf
  refine xk_widen (k := 0) (n := 0) (Nat.le_of_ble_eq_true rfl) (Nat.le_of_ble_eq_true rfl) ?_
  exact xk_iret hC hr rfl dX8_up_7
theorem xd_X8_up : xy_X8_up.cls ≠ "java/lang/invoke/MethodHandle" ∧ xy_X8_up.cls ≠ "java/lang/invoke/VarHandle" ∧ (parseMethodDescriptor xy_X8_up.desc).map (fun d => d.parameters.length) = some 2 := ⟨by decide +kernel, by decide +kernel, by decide +kernel⟩
theorem c_X8_up {l : Launch} {E : xEv} {x0 : Int32} {x1 : Int32} {w : xWd} {q : (Int32 × xWd)} (hf : f_X8_up x0 x1 w = some q) : xk_M l xy_X8_up prog_7_method_2_code 2 (some .int) 0 0 0 0 E [.int (x0), .int (x1)] w (xk_Qi E q) := by
  refine xk_enter (by decide +kernel) (by simp [lg_sl, xk_cat1, xk_cati, xk_catl, xk_catd]) ?_
  intro p e s m args below meth c hC hr hin ha
  rw [show lv_args 0 [.int (x0), .int (x1)] = [(0, .int (x0)), (1, .int (x1))] by simp [lv_args, xk_cat1, xk_cati, xk_catl, xk_catd]]
  exact t_X8_up_0 hC hr x0 x1 w hf
def f_X8_close_13 (x0 : Option Nat) (s0 : Int32) (s1 : Option Nat) (w : xWd) : Option (Int32 × xWd) := (xk_is w (s1) 5).bind (fun u2 => (f_X8_start (s1) (s0) ((1 : Int32)) w).bind (fun q1 => if (q1.1) = ((0 : Int32)) then (xk_gI q1.2 (x0) 5 8).bind (fun v4 => (f_X8_up (v4) ((15 : Int32)) q1.2).bind (fun q5 => (xk_gI q5.2 (x0) 5 7).bind (fun v6 => (xk_gI q5.2 (x0) 5 9).bind (fun v7 => (xk_pV q5.2 (x0) 5 9 (.int ((v7) + ((v6) * ((((4 : Int32)) * (if (q5.1) < ((4 : Int32)) then (q5.1) else ((4 : Int32)))) + (((6 : Int32)) * (if ((0 : Int32)) < ((q5.1) - ((4 : Int32))) then ((q5.1) - ((4 : Int32))) else ((0 : Int32))))))))).bind (fun w8 => (xk_pV w8 (x0) 5 7 (.int ((0 : Int32)))).bind (fun w9 => (xk_pV w9 (x0) 5 8 (.int ((0 : Int32)))).bind (fun w10 => some ((v6) * ((((4 : Int32)) * (if (q5.1) < ((4 : Int32)) then (q5.1) else ((4 : Int32)))) + (((6 : Int32)) * (if ((0 : Int32)) < ((q5.1) - ((4 : Int32))) then ((q5.1) - ((4 : Int32))) else ((0 : Int32))))), w10)))))))) else some ((0 : Int32), q1.2)))
set_option maxHeartbeats 4000000 in
set_option maxRecDepth 100000 in
theorem t_X8_close_13 {p : Program} {l : Launch} {e : Env} {s : State} {m : MethodId} {args : Array Value} {below : List Frame} {meth : Method} {c : Code} {E : xEv} (hC : xk_C p s m args meth c E prog_7_method_29_code "ClickbookModel" 3) (hr : meth.sig.returnType = (some .int)) {q : (Int32 × xWd)} (x0 : Option Nat) (s0 : Int32) (s1 : Option Nat) (w : xWd) (hf : f_X8_close_13 x0 s0 s1 w = some q) : xk_X p l e { frames := 2, cells := 0, slots := 0, locals := 44 } s m args below meth c (MQ below (xk_Qi E q) args s 0 0 (xk_A E.2.2.1)) E 3 0 0 13 [(0, va_rf (x0))] [.int (s0), va_rf (s1)] w := by
  refine xk_iconst (v := (1 : Int32)) hC dX8_close_13 (by decide) ?_
  obtain ⟨u2, h2, hf⟩ := xk_bi hf
  obtain ⟨q1, h1, hf⟩ := xk_bi hf
  refine xk_backi (xk_callV hC 2 xc_5 (c_X8_start h1) h2 xm_902 xm_904 xm_p33 xm_6 xm_905 ⟨rfl, xd_X8_start⟩ rfl ⟨Nat.le_of_ble_eq_true rfl, Nat.le_of_ble_eq_true rfl⟩ rfl (Nat.le_of_ble_eq_true rfl) dX8_close_14 ⟨(Nat.le_of_ble_eq_true rfl), (Nat.le_of_ble_eq_true rfl)⟩) ?_
  refine xk_if_eq (tgt := 22) hC dX8_close_17 (by decide) (fun c3 => ?_) (fun c3 => ?_)
  · replace hf := (if_pos c3).symm.trans hf
    refine xk_aload_n hC dX8_close_22 0 rfl rfl ?_
    obtain ⟨v4, h4, hf⟩ := xk_bi hf
    refine xk_getI hC xi_5 xc_5 8 (by decide) xm_868 (Or.inl rfl) dX8_close_23 h4 ?_
    refine xk_bipush (v := (15 : Int32)) hC dX8_close_26 (by decide) ?_
    obtain ⟨q5, h5, hf⟩ := xk_bi hf
    refine xk_backi (xk_callS hC 2 (c_X8_up h5) xm_1159 xm_1022 xm_6 xm_1023 xd_X8_up rfl ⟨Nat.le_of_ble_eq_true rfl, Nat.le_of_ble_eq_true rfl⟩ rfl (Nat.le_of_ble_eq_true rfl) dX8_close_28 ⟨(Nat.le_of_ble_eq_true rfl), (Nat.le_of_ble_eq_true rfl)⟩) ?_
    refine xk_istore_n (i := 1) (lv' := [(1, .int (q5.1)), (0, va_rf (x0))]) hC dX8_close_31 rfl (by decide) (by simp [xk_cat1]) ?_
    refine xk_aload_n hC dX8_close_32 1 rfl rfl ?_
    obtain ⟨v6, h6, hf⟩ := xk_bi hf
    refine xk_getI hC xi_5 xc_5 7 (by decide) xm_867 (Or.inl rfl) dX8_close_33 h6 ?_
    refine xk_iconst (v := (4 : Int32)) hC dX8_close_36 (by decide) ?_
    refine xk_iconst (v := (4 : Int32)) hC dX8_close_37 (by decide) ?_
    refine xk_iload_n hC dX8_close_38 0 rfl rfl ?_
    refine xk_mmin hC xm_1191 xm_441 xm_14 xm_442 (Nat.le_of_ble_eq_true rfl) (Nat.le_of_ble_eq_true rfl) (Nat.le_of_ble_eq_true rfl) (Nat.le_of_ble_eq_true rfl) dX8_close_39 ?_
    refine xk_imul hC dX8_close_42 ?_
    refine xk_bipush (v := (6 : Int32)) hC dX8_close_43 (by decide) ?_
    refine xk_iconst (v := (0 : Int32)) hC dX8_close_45 (by decide) ?_
    refine xk_iload_n hC dX8_close_46 0 rfl rfl ?_
    refine xk_iconst (v := (4 : Int32)) hC dX8_close_47 (by decide) ?_
    refine xk_isub hC dX8_close_48 ?_
    refine xk_mmax hC xm_1027 xm_406 xm_14 xm_407 (Nat.le_of_ble_eq_true rfl) (Nat.le_of_ble_eq_true rfl) (Nat.le_of_ble_eq_true rfl) (Nat.le_of_ble_eq_true rfl) dX8_close_49 ?_
    refine xk_imul hC dX8_close_52 ?_
    refine xk_iadd hC dX8_close_53 ?_
    refine xk_imul hC dX8_close_54 ?_
    refine xk_istore_n (i := 2) (lv' := [(2, .int ((v6) * ((((4 : Int32)) * (if (q5.1) < ((4 : Int32)) then (q5.1) else ((4 : Int32)))) + (((6 : Int32)) * (if ((0 : Int32)) < ((q5.1) - ((4 : Int32))) then ((q5.1) - ((4 : Int32))) else ((0 : Int32))))))), (1, .int (q5.1)), (0, va_rf (x0))]) hC dX8_close_55 rfl (by decide) rfl ?_
    refine xk_aload_n hC dX8_close_56 2 rfl rfl ?_
    refine xk_dup hC dX8_close_57 (xk_cat1 _) ?_
    obtain ⟨v7, h7, hf⟩ := xk_bi hf
    refine xk_getI hC xi_5 xc_5 9 (by decide) xm_869 (Or.inl rfl) dX8_close_58 h7 ?_
    refine xk_iload_n hC dX8_close_61 0 rfl rfl ?_
    refine xk_iadd hC dX8_close_62 ?_
    obtain ⟨w8, h8, hf⟩ := xk_bi hf
    refine xk_put hC xi_5 xc_5 xo_5 xn_5 9 (by decide) xm_869 (Or.inl rfl) rfl rfl rfl dX8_close_63 h8 ?_
    refine xk_aload_n hC dX8_close_66 2 rfl rfl ?_
    refine xk_iconst (v := (0 : Int32)) hC dX8_close_67 (by decide) ?_
    obtain ⟨w9, h9, hf⟩ := xk_bi hf
    refine xk_put hC xi_5 xc_5 xo_5 xn_5 7 (by decide) xm_867 (Or.inl rfl) rfl rfl rfl dX8_close_68 h9 ?_
    refine xk_aload_n hC dX8_close_71 2 rfl rfl ?_
    refine xk_iconst (v := (0 : Int32)) hC dX8_close_72 (by decide) ?_
    obtain ⟨w10, h10, hf⟩ := xk_bi hf
    refine xk_put hC xi_5 xc_5 xo_5 xn_5 8 (by decide) xm_868 (Or.inl rfl) rfl rfl rfl dX8_close_73 h10 ?_
    refine xk_iload_n hC dX8_close_76 0 rfl rfl ?_
    cases hf
    refine xk_widen (k := 0) (n := 0) (Nat.le_of_ble_eq_true rfl) (Nat.le_of_ble_eq_true rfl) ?_
    exact xk_iret hC hr rfl dX8_close_77
  · replace hf := (if_neg c3).symm.trans hf
    refine xk_iconst (v := (0 : Int32)) hC dX8_close_20 (by decide) ?_
    cases hf
    refine xk_widen (k := 0) (n := 0) (Nat.le_of_ble_eq_true rfl) (Nat.le_of_ble_eq_true rfl) ?_
    exact xk_iret hC hr rfl dX8_close_21
def f_X8_close (x0 : Option Nat) (w : xWd) : Option (Int32 × xWd) := (xk_gI w (x0) 5 7).bind (fun v1 => if (v1) = ((0 : Int32)) then f_X8_close_13 x0 ((1 : Int32)) x0 w else f_X8_close_13 x0 ((0 : Int32)) x0 w)
set_option maxHeartbeats 4000000 in
set_option maxRecDepth 100000 in
theorem t_X8_close_0 {p : Program} {l : Launch} {e : Env} {s : State} {m : MethodId} {args : Array Value} {below : List Frame} {meth : Method} {c : Code} {E : xEv} (hC : xk_C p s m args meth c E prog_7_method_29_code "ClickbookModel" 3) (hr : meth.sig.returnType = (some .int)) {q : (Int32 × xWd)} (x0 : Option Nat) (w : xWd) (hf : f_X8_close x0 w = some q) : xk_X p l e { frames := 2, cells := 0, slots := 0, locals := 44 } s m args below meth c (MQ below (xk_Qi E q) args s 0 0 (xk_A E.2.2.1)) E 3 0 0 0 [(0, va_rf (x0))] [] w := by
  refine xk_aload_n hC dX8_close_0 0 rfl rfl ?_
  refine xk_aload_n hC dX8_close_1 0 rfl rfl ?_
  obtain ⟨v1, h1, hf⟩ := xk_bi hf
  refine xk_getI hC xi_5 xc_5 7 (by decide) xm_867 (Or.inl rfl) dX8_close_2 h1 ?_
  refine xk_if_ne (tgt := 12) hC dX8_close_5 (by decide) (fun c2 => ?_) (fun c2 => ?_)
  · replace hf := (if_neg c2).symm.trans hf
    refine xk_iconst (v := (0 : Int32)) hC dX8_close_12 (by decide) ?_
    exact t_X8_close_13 hC hr x0 ((0 : Int32)) x0 w hf
  · replace hf := (if_pos c2).symm.trans hf
    refine xk_iconst (v := (1 : Int32)) hC dX8_close_8 (by decide) ?_
    refine xk_goto (tgt := 13) hC dX8_close_9 (by decide) ?_
    exact t_X8_close_13 hC hr x0 ((1 : Int32)) x0 w hf
theorem xd_X8_close : xy_X8_close.cls ≠ "java/lang/invoke/MethodHandle" ∧ xy_X8_close.cls ≠ "java/lang/invoke/VarHandle" ∧ (parseMethodDescriptor xy_X8_close.desc).map (fun d => d.parameters.length) = some 0 := ⟨by decide +kernel, by decide +kernel, by decide +kernel⟩
theorem c_X8_close {l : Launch} {E : xEv} {x0 : Option Nat} {w : xWd} {q : (Int32 × xWd)} (hf : f_X8_close x0 w = some q) : xk_M l xy_X8_close prog_7_method_29_code 3 (some .int) 2 44 0 0 E [va_rf (x0)] w (xk_Qi E q) := by
  refine xk_enter (by decide +kernel) (by simp [lg_sl, xk_cat1, xk_cati, xk_catl, xk_catd]) ?_
  intro p e s m args below meth c hC hr hin ha
  rw [show lv_args 0 [va_rf (x0)] = [(0, va_rf (x0))] by simp [lv_args, xk_cat1, xk_cati, xk_catl, xk_catd]]
  exact t_X8_close_0 hC hr x0 w hf
def f_X8_beats (x0 : Option Nat) (w : xWd) : Option (Option Nat × xWd) := (xk_gR w (x0) 5 5).bind (fun v1 => (xk_is w (v1) 4).bind (fun u3 => (f_Jx4a65c_size_8abf5 (v1)  w).bind (fun q2 => (xk_nA q2.2 6 xk_dR (q2.1) 64).bind (fun w4 => (xk_len w4 (some q2.2.2.1)).bind (fun v5 => if (v5) ≤ ((0 : Int32)) then some (some q2.2.2.1, w4) else (xk_gR w4 (x0) 5 5).bind (fun v7 => none))))))
set_option maxHeartbeats 4000000 in
set_option maxRecDepth 100000 in
theorem t_X8_beats_0 {p : Program} {l : Launch} {e : Env} {s : State} {m : MethodId} {args : Array Value} {below : List Frame} {meth : Method} {c : Code} {E : xEv} (hC : xk_C p s m args meth c E prog_7_method_11_code "ClickbookModel" 3) (hr : meth.sig.returnType = (some (.array (.array .int)))) {q : (Option Nat × xWd)} (x0 : Option Nat) (w : xWd) (hf : f_X8_beats x0 w = some q) : xk_X p l e { frames := 1, cells := 1, slots := 64, locals := 20 } s m args below meth c (MQ below (xk_Qq E q) args s 1 64 (xk_A E.2.2.1)) E 3 0 0 0 [(0, va_rf (x0))] [] w := by
  refine xk_aload_n hC dX8_beats_0 0 rfl rfl ?_
  obtain ⟨v1, h1, hf⟩ := xk_bi hf
  refine xk_getR hC xi_5 xc_5 5 (by decide) xm_865 (Or.inl rfl) dX8_beats_1 h1 ?_
  obtain ⟨u3, h3, hf⟩ := xk_bi hf
  obtain ⟨q2, h2, hf⟩ := xk_bi hf
  refine xk_backi (xk_callV hC 0 xc_4 (c_Jx4a65c_size_8abf5 h2) h3 xm_910 xm_131 xm_132 xm_4 xm_133 ⟨rfl, xd_Jx4a65c_size_8abf5⟩ rfl ⟨Nat.le_of_ble_eq_true rfl, Nat.le_of_ble_eq_true rfl⟩ rfl (Nat.le_of_ble_eq_true rfl) dX8_beats_4 ⟨(Nat.le_of_ble_eq_true rfl), (Nat.le_of_ble_eq_true rfl)⟩) ?_
  obtain ⟨w4, h4, hf⟩ := xk_bi hf
  refine xk_anewA (cap := 64) hC xm_1122 (xk_note43 hC) rfl (Nat.le_of_ble_eq_true rfl) (Nat.le_of_ble_eq_true rfl) (Nat.le_of_ble_eq_true rfl) dX8_beats_7 h4 ?_
  refine xk_astore_n (i := 1) (lv' := [(1, va_rf (some q2.2.2.1)), (0, va_rf (x0))]) hC dX8_beats_10 rfl (by decide) (by simp [xk_cat1]) ?_
  refine xk_iconst (v := (0 : Int32)) hC dX8_beats_11 (by decide) ?_
  refine xk_istore_n (i := 2) (lv' := [(2, .int ((0 : Int32))), (1, va_rf (some q2.2.2.1)), (0, va_rf (x0))]) hC dX8_beats_12 rfl (by decide) rfl ?_
  refine xk_iload_n hC dX8_beats_13 0 rfl rfl ?_
  refine xk_aload_n hC dX8_beats_14 1 rfl rfl ?_
  obtain ⟨v5, h5, hf⟩ := xk_bi hf
  refine xk_alen hC dX8_beats_15 h5 ?_
  refine xk_icmp_ge (tgt := 42) hC dX8_beats_16 (by decide) (fun c6 => ?_) (fun c6 => ?_)
  · replace hf := (if_pos c6).symm.trans hf
    refine xk_aload_n hC dX8_beats_42 1 rfl rfl ?_
    cases hf
    refine xk_widen (k := 1) (n := 64) (Nat.le_of_ble_eq_true rfl) (Nat.le_of_ble_eq_true rfl) ?_
    exact xk_aret hC hr (Or.inr ⟨_, rfl⟩) dX8_beats_43
  · replace hf := (if_neg c6).symm.trans hf
    refine xk_aload_n hC dX8_beats_19 1 rfl rfl ?_
    refine xk_iload_n hC dX8_beats_20 0 rfl rfl ?_
    refine xk_aload_n hC dX8_beats_21 2 rfl rfl ?_
    obtain ⟨v7, h7, hf⟩ := xk_bi hf
    refine xk_getR hC xi_5 xc_5 5 (by decide) xm_865 (Or.inl rfl) dX8_beats_22 h7 ?_
    refine xk_iload_n hC dX8_beats_25 0 rfl rfl ?_
    cases hf
theorem xd_X8_beats : xy_X8_beats.cls ≠ "java/lang/invoke/MethodHandle" ∧ xy_X8_beats.cls ≠ "java/lang/invoke/VarHandle" ∧ (parseMethodDescriptor xy_X8_beats.desc).map (fun d => d.parameters.length) = some 0 := ⟨by decide +kernel, by decide +kernel, by decide +kernel⟩
theorem c_X8_beats {l : Launch} {E : xEv} {x0 : Option Nat} {w : xWd} {q : (Option Nat × xWd)} (hf : f_X8_beats x0 w = some q) : xk_M l xy_X8_beats prog_7_method_11_code 3 (some (.array (.array .int))) 1 20 1 64 E [va_rf (x0)] w (xk_Qq E q) := by
  refine xk_enter (by decide +kernel) (by simp [lg_sl, xk_cat1, xk_cati, xk_catl, xk_catd]) ?_
  intro p e s m args below meth c hC hr hin ha
  rw [show lv_args 0 [va_rf (x0)] = [(0, va_rf (x0))] by simp [lv_args, xk_cat1, xk_cati, xk_catl, xk_catd]]
  exact t_X8_beats_0 hC hr x0 w hf
def f_X8_ofHit_53 (w : xWd) : Option (Int32 × xWd) := some ((0 : Int32), w)
set_option maxHeartbeats 4000000 in
set_option maxRecDepth 100000 in
theorem t_X8_ofHit_53 {p : Program} {l : Launch} {e : Env} {s : State} {m : MethodId} {args : Array Value} {below : List Frame} {meth : Method} {c : Code} {E : xEv} (hC : xk_C p s m args meth c E prog_7_method_42_code "ClickbookModel" 3) (hr : meth.sig.returnType = (some .int)) {q : (Int32 × xWd)} (w : xWd) (hf : f_X8_ofHit_53 w = some q) : xk_X p l e { frames := 2, cells := 1, slots := 64, locals := 44 } s m args below meth c (MQ below (xk_Qi E q) args s 1 64 (xk_A E.2.2.1)) E 3 0 0 53 [] [] w := by
  refine xk_iconst (v := (0 : Int32)) hC dX8_ofHit_53 (by decide) ?_
  refine xk_goto (tgt := 67) hC dX8_ofHit_54 (by decide) ?_
  cases hf
  refine xk_widen (k := 1) (n := 64) (Nat.le_of_ble_eq_true rfl) (Nat.le_of_ble_eq_true rfl) ?_
  exact xk_iret hC hr rfl dX8_ofHit_67
def f_X8_ofHit_46 (x0 : Option Nat) (x1 : Int32) (x2 : Int32) (s0 : Int32) (s1 : Option Nat) (w : xWd) : Option (Int32 × xWd) := (xk_is w (s1) 5).bind (fun u2 => (f_X8_refuse (s1) (s0) ((2 : Int32)) w).bind (fun q1 => if (q1.1) = ((0 : Int32)) then (xk_is q1.2 (x0) 5).bind (fun u5 => (f_X8_beats (x0)  q1.2).bind (fun q4 => none)) else f_X8_ofHit_53 (q1.2)))
set_option maxHeartbeats 4000000 in
set_option maxRecDepth 100000 in
theorem t_X8_ofHit_46 {p : Program} {l : Launch} {e : Env} {s : State} {m : MethodId} {args : Array Value} {below : List Frame} {meth : Method} {c : Code} {E : xEv} (hC : xk_C p s m args meth c E prog_7_method_42_code "ClickbookModel" 3) (hr : meth.sig.returnType = (some .int)) {q : (Int32 × xWd)} (x0 : Option Nat) (x1 : Int32) (x2 : Int32) (s0 : Int32) (s1 : Option Nat) (w : xWd) (hf : f_X8_ofHit_46 x0 x1 x2 s0 s1 w = some q) : xk_X p l e { frames := 2, cells := 1, slots := 64, locals := 44 } s m args below meth c (MQ below (xk_Qi E q) args s 1 64 (xk_A E.2.2.1)) E 3 0 0 46 [(0, va_rf (x0)), (1, .int (x1)), (2, .int (x2))] [.int (s0), va_rf (s1)] w := by
  refine xk_iconst (v := (2 : Int32)) hC dX8_ofHit_46 (by decide) ?_
  obtain ⟨u2, h2, hf⟩ := xk_bi hf
  obtain ⟨q1, h1, hf⟩ := xk_bi hf
  refine xk_backi (xk_callV hC 2 xc_5 (c_X8_refuse h1) h2 xm_906 xm_908 xm_p34 xm_6 xm_909 ⟨rfl, xd_X8_refuse⟩ rfl ⟨Nat.le_of_ble_eq_true rfl, Nat.le_of_ble_eq_true rfl⟩ rfl (Nat.le_of_ble_eq_true rfl) dX8_ofHit_47 ⟨(Nat.le_of_ble_eq_true rfl), (Nat.le_of_ble_eq_true rfl)⟩) ?_
  refine xk_if_eq (tgt := 57) hC dX8_ofHit_50 (by decide) (fun c3 => ?_) (fun c3 => ?_)
  · replace hf := (if_pos c3).symm.trans hf
    refine xk_aload_n hC dX8_ofHit_57 0 rfl rfl ?_
    refine xk_iload_n hC dX8_ofHit_58 1 rfl rfl ?_
    refine xk_iload_n hC dX8_ofHit_59 2 rfl rfl ?_
    refine xk_aload_n hC dX8_ofHit_60 0 rfl rfl ?_
    obtain ⟨u5, h5, hf⟩ := xk_bi hf
    obtain ⟨q4, h4, hf⟩ := xk_bi hf
    refine xk_backq (xk_callV hC 0 xc_5 (c_X8_beats h4) h5 xm_1118 xm_1120 xm_p40 xm_6 xm_1121 ⟨rfl, xd_X8_beats⟩ rfl ⟨Nat.le_of_ble_eq_true rfl, Nat.le_of_ble_eq_true rfl⟩ rfl (by simp [xk_cat1, xk_cati, xk_catl, xk_catd]) dX8_ofHit_61 ⟨(Nat.le_of_ble_eq_true rfl), (Nat.le_of_ble_eq_true rfl)⟩) ?_
    cases hf
  · replace hf := (if_neg c3).symm.trans hf
    refine xk_locals [] rfl ?_
    exact t_X8_ofHit_53 hC hr (q1.2) hf
def f_X8_ofHit_23 (x0 : Option Nat) (x1 : Int32) (x2 : Int32) (s0 : Int32) (s1 : Option Nat) (w : xWd) : Option (Int32 × xWd) := (xk_is w (s1) 5).bind (fun u2 => (f_X8_start (s1) (s0) ((1 : Int32)) w).bind (fun q1 => if (q1.1) = ((0 : Int32)) then (f_X8_isIn (x2) ((0 : Int32)) ((6 : Int32)) q1.2).bind (fun q4 => if (q4.1) = ((0 : Int32)) then f_X8_ofHit_46 x0 x1 x2 ((1 : Int32)) x0 (q4.2) else f_X8_ofHit_46 x0 x1 x2 ((0 : Int32)) x0 (q4.2)) else f_X8_ofHit_53 (q1.2)))
set_option maxHeartbeats 4000000 in
set_option maxRecDepth 100000 in
theorem t_X8_ofHit_23 {p : Program} {l : Launch} {e : Env} {s : State} {m : MethodId} {args : Array Value} {below : List Frame} {meth : Method} {c : Code} {E : xEv} (hC : xk_C p s m args meth c E prog_7_method_42_code "ClickbookModel" 3) (hr : meth.sig.returnType = (some .int)) {q : (Int32 × xWd)} (x0 : Option Nat) (x1 : Int32) (x2 : Int32) (s0 : Int32) (s1 : Option Nat) (w : xWd) (hf : f_X8_ofHit_23 x0 x1 x2 s0 s1 w = some q) : xk_X p l e { frames := 2, cells := 1, slots := 64, locals := 44 } s m args below meth c (MQ below (xk_Qi E q) args s 1 64 (xk_A E.2.2.1)) E 3 0 0 23 [(0, va_rf (x0)), (1, .int (x1)), (2, .int (x2))] [.int (s0), va_rf (s1)] w := by
  refine xk_iconst (v := (1 : Int32)) hC dX8_ofHit_23 (by decide) ?_
  obtain ⟨u2, h2, hf⟩ := xk_bi hf
  obtain ⟨q1, h1, hf⟩ := xk_bi hf
  refine xk_backi (xk_callV hC 2 xc_5 (c_X8_start h1) h2 xm_902 xm_904 xm_p33 xm_6 xm_905 ⟨rfl, xd_X8_start⟩ rfl ⟨Nat.le_of_ble_eq_true rfl, Nat.le_of_ble_eq_true rfl⟩ rfl (Nat.le_of_ble_eq_true rfl) dX8_ofHit_24 ⟨(Nat.le_of_ble_eq_true rfl), (Nat.le_of_ble_eq_true rfl)⟩) ?_
  refine xk_if_ne (tgt := 53) hC dX8_ofHit_27 (by decide) (fun c3 => ?_) (fun c3 => ?_)
  · replace hf := (if_neg c3).symm.trans hf
    refine xk_locals [] rfl ?_
    exact t_X8_ofHit_53 hC hr (q1.2) hf
  · replace hf := (if_pos c3).symm.trans hf
    refine xk_aload_n hC dX8_ofHit_30 0 rfl rfl ?_
    refine xk_iload_n hC dX8_ofHit_31 2 rfl rfl ?_
    refine xk_iconst (v := (0 : Int32)) hC dX8_ofHit_32 (by decide) ?_
    refine xk_bipush (v := (6 : Int32)) hC dX8_ofHit_33 (by decide) ?_
    obtain ⟨q4, h4, hf⟩ := xk_bi hf
    refine xk_backi (xk_callS hC 3 (c_X8_isIn h4) xm_899 xm_900 xm_6 xm_901 xd_X8_isIn rfl ⟨Nat.le_of_ble_eq_true rfl, Nat.le_of_ble_eq_true rfl⟩ rfl (by simp [xk_cat1, xk_cati, xk_catl, xk_catd]) dX8_ofHit_35 ⟨(Nat.le_of_ble_eq_true rfl), (Nat.le_of_ble_eq_true rfl)⟩) ?_
    refine xk_if_ne (tgt := 45) hC dX8_ofHit_38 (by decide) (fun c5 => ?_) (fun c5 => ?_)
    · replace hf := (if_neg c5).symm.trans hf
      refine xk_iconst (v := (0 : Int32)) hC dX8_ofHit_45 (by decide) ?_
      exact t_X8_ofHit_46 hC hr x0 x1 x2 ((0 : Int32)) x0 (q4.2) hf
    · replace hf := (if_pos c5).symm.trans hf
      refine xk_iconst (v := (1 : Int32)) hC dX8_ofHit_41 (by decide) ?_
      refine xk_goto (tgt := 46) hC dX8_ofHit_42 (by decide) ?_
      exact t_X8_ofHit_46 hC hr x0 x1 x2 ((1 : Int32)) x0 (q4.2) hf
def f_X8_ofHit (x0 : Option Nat) (x1 : Int32) (x2 : Int32) (w : xWd) : Option (Int32 × xWd) := (xk_gR w (x0) 5 3).bind (fun v1 => (xk_is w (v1) 4).bind (fun u3 => (f_Jx4a65c_size_8abf5 (v1)  w).bind (fun q2 => (f_X8_isIn (x1) ((0 : Int32)) ((q2.1) - ((1 : Int32))) q2.2).bind (fun q4 => if (q4.1) = ((0 : Int32)) then f_X8_ofHit_23 x0 x1 x2 ((1 : Int32)) x0 (q4.2) else f_X8_ofHit_23 x0 x1 x2 ((0 : Int32)) x0 (q4.2)))))
set_option maxHeartbeats 4000000 in
set_option maxRecDepth 100000 in
theorem t_X8_ofHit_0 {p : Program} {l : Launch} {e : Env} {s : State} {m : MethodId} {args : Array Value} {below : List Frame} {meth : Method} {c : Code} {E : xEv} (hC : xk_C p s m args meth c E prog_7_method_42_code "ClickbookModel" 3) (hr : meth.sig.returnType = (some .int)) {q : (Int32 × xWd)} (x0 : Option Nat) (x1 : Int32) (x2 : Int32) (w : xWd) (hf : f_X8_ofHit x0 x1 x2 w = some q) : xk_X p l e { frames := 2, cells := 1, slots := 64, locals := 44 } s m args below meth c (MQ below (xk_Qi E q) args s 1 64 (xk_A E.2.2.1)) E 3 0 0 0 [(0, va_rf (x0)), (1, .int (x1)), (2, .int (x2))] [] w := by
  refine xk_aload_n hC dX8_ofHit_0 0 rfl rfl ?_
  refine xk_iload_n hC dX8_ofHit_1 1 rfl rfl ?_
  refine xk_iconst (v := (0 : Int32)) hC dX8_ofHit_2 (by decide) ?_
  refine xk_aload_n hC dX8_ofHit_3 0 rfl rfl ?_
  obtain ⟨v1, h1, hf⟩ := xk_bi hf
  refine xk_getR hC xi_5 xc_5 3 (by decide) xm_863 (Or.inl rfl) dX8_ofHit_4 h1 ?_
  obtain ⟨u3, h3, hf⟩ := xk_bi hf
  obtain ⟨q2, h2, hf⟩ := xk_bi hf
  refine xk_backi (xk_callV hC 0 xc_4 (c_Jx4a65c_size_8abf5 h2) h3 xm_910 xm_131 xm_132 xm_4 xm_133 ⟨rfl, xd_Jx4a65c_size_8abf5⟩ rfl ⟨Nat.le_of_ble_eq_true rfl, Nat.le_of_ble_eq_true rfl⟩ rfl (by simp [xk_cat1, xk_cati, xk_catl, xk_catd]) dX8_ofHit_7 ⟨(Nat.le_of_ble_eq_true rfl), (Nat.le_of_ble_eq_true rfl)⟩) ?_
  refine xk_iconst (v := (1 : Int32)) hC dX8_ofHit_10 (by decide) ?_
  refine xk_isub hC dX8_ofHit_11 ?_
  obtain ⟨q4, h4, hf⟩ := xk_bi hf
  refine xk_backi (xk_callS hC 3 (c_X8_isIn h4) xm_899 xm_900 xm_6 xm_901 xd_X8_isIn rfl ⟨Nat.le_of_ble_eq_true rfl, Nat.le_of_ble_eq_true rfl⟩ rfl (by simp [xk_cat1, xk_cati, xk_catl, xk_catd]) dX8_ofHit_12 ⟨(Nat.le_of_ble_eq_true rfl), (Nat.le_of_ble_eq_true rfl)⟩) ?_
  refine xk_if_ne (tgt := 22) hC dX8_ofHit_15 (by decide) (fun c5 => ?_) (fun c5 => ?_)
  · replace hf := (if_neg c5).symm.trans hf
    refine xk_iconst (v := (0 : Int32)) hC dX8_ofHit_22 (by decide) ?_
    exact t_X8_ofHit_23 hC hr x0 x1 x2 ((0 : Int32)) x0 (q4.2) hf
  · replace hf := (if_pos c5).symm.trans hf
    refine xk_iconst (v := (1 : Int32)) hC dX8_ofHit_18 (by decide) ?_
    refine xk_goto (tgt := 23) hC dX8_ofHit_19 (by decide) ?_
    exact t_X8_ofHit_23 hC hr x0 x1 x2 ((1 : Int32)) x0 (q4.2) hf
theorem xd_X8_ofHit : xy_X8_ofHit.cls ≠ "java/lang/invoke/MethodHandle" ∧ xy_X8_ofHit.cls ≠ "java/lang/invoke/VarHandle" ∧ (parseMethodDescriptor xy_X8_ofHit.desc).map (fun d => d.parameters.length) = some 2 := ⟨by decide +kernel, by decide +kernel, by decide +kernel⟩
theorem c_X8_ofHit {l : Launch} {E : xEv} {x0 : Option Nat} {x1 : Int32} {x2 : Int32} {w : xWd} {q : (Int32 × xWd)} (hf : f_X8_ofHit x0 x1 x2 w = some q) : xk_M l xy_X8_ofHit prog_7_method_42_code 3 (some .int) 2 44 1 64 E [va_rf (x0), .int (x1), .int (x2)] w (xk_Qi E q) := by
  refine xk_enter (by decide +kernel) (by simp [lg_sl, xk_cat1, xk_cati, xk_catl, xk_catd]) ?_
  intro p e s m args below meth c hC hr hin ha
  rw [show lv_args 0 [va_rf (x0), .int (x1), .int (x2)] = [(0, va_rf (x0)), (1, .int (x1)), (2, .int (x2))] by simp [lv_args, xk_cat1, xk_cati, xk_catl, xk_catd]]
  exact t_X8_ofHit_0 hC hr x0 x1 x2 w hf
def f_X8_ofCue_36 (w : xWd) : Option (Int32 × xWd) := some ((0 : Int32), w)
set_option maxHeartbeats 4000000 in
set_option maxRecDepth 100000 in
theorem t_X8_ofCue_36 {p : Program} {l : Launch} {e : Env} {s : State} {m : MethodId} {args : Array Value} {below : List Frame} {meth : Method} {c : Code} {E : xEv} (hC : xk_C p s m args meth c E prog_7_method_44_code "ClickbookModel" 3) (hr : meth.sig.returnType = (some .int)) {q : (Int32 × xWd)} (w : xWd) (hf : f_X8_ofCue_36 w = some q) : xk_X p l e { frames := 2, cells := 0, slots := 0, locals := 44 } s m args below meth c (MQ below (xk_Qi E q) args s 0 0 (xk_A E.2.2.1)) E 3 0 0 36 [] [] w := by
  refine xk_iconst (v := (0 : Int32)) hC dX8_ofCue_36 (by decide) ?_
  refine xk_goto (tgt := 46) hC dX8_ofCue_37 (by decide) ?_
  cases hf
  refine xk_widen (k := 0) (n := 0) (Nat.le_of_ble_eq_true rfl) (Nat.le_of_ble_eq_true rfl) ?_
  exact xk_iret hC hr rfl dX8_ofCue_46
def f_X8_ofCue_29 (x0 : Option Nat) (x1 : Int32) (x2 : Int32) (s0 : Int32) (s1 : Option Nat) (w : xWd) : Option (Int32 × xWd) := (xk_is w (s1) 5).bind (fun u2 => (f_X8_refuse (s1) (s0) ((2 : Int32)) w).bind (fun q1 => if (q1.1) = ((0 : Int32)) then none else f_X8_ofCue_36 (q1.2)))
set_option maxHeartbeats 4000000 in
set_option maxRecDepth 100000 in
theorem t_X8_ofCue_29 {p : Program} {l : Launch} {e : Env} {s : State} {m : MethodId} {args : Array Value} {below : List Frame} {meth : Method} {c : Code} {E : xEv} (hC : xk_C p s m args meth c E prog_7_method_44_code "ClickbookModel" 3) (hr : meth.sig.returnType = (some .int)) {q : (Int32 × xWd)} (x0 : Option Nat) (x1 : Int32) (x2 : Int32) (s0 : Int32) (s1 : Option Nat) (w : xWd) (hf : f_X8_ofCue_29 x0 x1 x2 s0 s1 w = some q) : xk_X p l e { frames := 2, cells := 0, slots := 0, locals := 44 } s m args below meth c (MQ below (xk_Qi E q) args s 0 0 (xk_A E.2.2.1)) E 3 0 0 29 [(0, va_rf (x0)), (1, .int (x1)), (2, .int (x2))] [.int (s0), va_rf (s1)] w := by
  refine xk_iconst (v := (2 : Int32)) hC dX8_ofCue_29 (by decide) ?_
  obtain ⟨u2, h2, hf⟩ := xk_bi hf
  obtain ⟨q1, h1, hf⟩ := xk_bi hf
  refine xk_backi (xk_callV hC 2 xc_5 (c_X8_refuse h1) h2 xm_906 xm_908 xm_p34 xm_6 xm_909 ⟨rfl, xd_X8_refuse⟩ rfl ⟨Nat.le_of_ble_eq_true rfl, Nat.le_of_ble_eq_true rfl⟩ rfl (Nat.le_of_ble_eq_true rfl) dX8_ofCue_30 ⟨(Nat.le_of_ble_eq_true rfl), (Nat.le_of_ble_eq_true rfl)⟩) ?_
  refine xk_if_eq (tgt := 40) hC dX8_ofCue_33 (by decide) (fun c3 => ?_) (fun c3 => ?_)
  · replace hf := (if_pos c3).symm.trans hf
    refine xk_aload_n hC dX8_ofCue_40 0 rfl rfl ?_
    refine xk_iload_n hC dX8_ofCue_41 1 rfl rfl ?_
    refine xk_iload_n hC dX8_ofCue_42 2 rfl rfl ?_
    cases hf
  · replace hf := (if_neg c3).symm.trans hf
    refine xk_locals [] rfl ?_
    exact t_X8_ofCue_36 hC hr (q1.2) hf
def f_X8_ofCue (x0 : Option Nat) (x1 : Int32) (x2 : Int32) (w : xWd) : Option (Int32 × xWd) := (xk_is w (x0) 5).bind (fun u2 => (f_X8_isNoCue (x0) (x1) w).bind (fun q1 => (xk_is q1.2 (x0) 5).bind (fun u4 => (f_X8_start (x0) (q1.1) ((1 : Int32)) q1.2).bind (fun q3 => if (q3.1) = ((0 : Int32)) then (f_X8_isIn (x2) ((0 : Int32)) ((12 : Int32)) q3.2).bind (fun q6 => if (q6.1) = ((0 : Int32)) then f_X8_ofCue_29 x0 x1 x2 ((1 : Int32)) x0 (q6.2) else f_X8_ofCue_29 x0 x1 x2 ((0 : Int32)) x0 (q6.2)) else f_X8_ofCue_36 (q3.2)))))
set_option maxHeartbeats 4000000 in
set_option maxRecDepth 100000 in
theorem t_X8_ofCue_0 {p : Program} {l : Launch} {e : Env} {s : State} {m : MethodId} {args : Array Value} {below : List Frame} {meth : Method} {c : Code} {E : xEv} (hC : xk_C p s m args meth c E prog_7_method_44_code "ClickbookModel" 3) (hr : meth.sig.returnType = (some .int)) {q : (Int32 × xWd)} (x0 : Option Nat) (x1 : Int32) (x2 : Int32) (w : xWd) (hf : f_X8_ofCue x0 x1 x2 w = some q) : xk_X p l e { frames := 2, cells := 0, slots := 0, locals := 44 } s m args below meth c (MQ below (xk_Qi E q) args s 0 0 (xk_A E.2.2.1)) E 3 0 0 0 [(0, va_rf (x0)), (1, .int (x1)), (2, .int (x2))] [] w := by
  refine xk_aload_n hC dX8_ofCue_0 0 rfl rfl ?_
  refine xk_aload_n hC dX8_ofCue_1 0 rfl rfl ?_
  refine xk_iload_n hC dX8_ofCue_2 1 rfl rfl ?_
  obtain ⟨u2, h2, hf⟩ := xk_bi hf
  obtain ⟨q1, h1, hf⟩ := xk_bi hf
  refine xk_backi (xk_callV hC 1 xc_5 (c_X8_isNoCue h1) h2 xm_1090 xm_1092 xm_p36 xm_6 xm_1093 ⟨rfl, xd_X8_isNoCue⟩ rfl ⟨Nat.le_of_ble_eq_true rfl, Nat.le_of_ble_eq_true rfl⟩ rfl (by simp [xk_cat1, xk_cati, xk_catl, xk_catd]) dX8_ofCue_3 ⟨(Nat.le_of_ble_eq_true rfl), (Nat.le_of_ble_eq_true rfl)⟩) ?_
  refine xk_iconst (v := (1 : Int32)) hC dX8_ofCue_6 (by decide) ?_
  obtain ⟨u4, h4, hf⟩ := xk_bi hf
  obtain ⟨q3, h3, hf⟩ := xk_bi hf
  refine xk_backi (xk_callV hC 2 xc_5 (c_X8_start h3) h4 xm_902 xm_904 xm_p33 xm_6 xm_905 ⟨rfl, xd_X8_start⟩ rfl ⟨Nat.le_of_ble_eq_true rfl, Nat.le_of_ble_eq_true rfl⟩ rfl (Nat.le_of_ble_eq_true rfl) dX8_ofCue_7 ⟨(Nat.le_of_ble_eq_true rfl), (Nat.le_of_ble_eq_true rfl)⟩) ?_
  refine xk_if_ne (tgt := 36) hC dX8_ofCue_10 (by decide) (fun c5 => ?_) (fun c5 => ?_)
  · replace hf := (if_neg c5).symm.trans hf
    refine xk_locals [] rfl ?_
    exact t_X8_ofCue_36 hC hr (q3.2) hf
  · replace hf := (if_pos c5).symm.trans hf
    refine xk_aload_n hC dX8_ofCue_13 0 rfl rfl ?_
    refine xk_iload_n hC dX8_ofCue_14 2 rfl rfl ?_
    refine xk_iconst (v := (0 : Int32)) hC dX8_ofCue_15 (by decide) ?_
    refine xk_bipush (v := (12 : Int32)) hC dX8_ofCue_16 (by decide) ?_
    obtain ⟨q6, h6, hf⟩ := xk_bi hf
    refine xk_backi (xk_callS hC 3 (c_X8_isIn h6) xm_899 xm_900 xm_6 xm_901 xd_X8_isIn rfl ⟨Nat.le_of_ble_eq_true rfl, Nat.le_of_ble_eq_true rfl⟩ rfl (by simp [xk_cat1, xk_cati, xk_catl, xk_catd]) dX8_ofCue_18 ⟨(Nat.le_of_ble_eq_true rfl), (Nat.le_of_ble_eq_true rfl)⟩) ?_
    refine xk_if_ne (tgt := 28) hC dX8_ofCue_21 (by decide) (fun c7 => ?_) (fun c7 => ?_)
    · replace hf := (if_neg c7).symm.trans hf
      refine xk_iconst (v := (0 : Int32)) hC dX8_ofCue_28 (by decide) ?_
      exact t_X8_ofCue_29 hC hr x0 x1 x2 ((0 : Int32)) x0 (q6.2) hf
    · replace hf := (if_pos c7).symm.trans hf
      refine xk_iconst (v := (1 : Int32)) hC dX8_ofCue_24 (by decide) ?_
      refine xk_goto (tgt := 29) hC dX8_ofCue_25 (by decide) ?_
      exact t_X8_ofCue_29 hC hr x0 x1 x2 ((1 : Int32)) x0 (q6.2) hf
theorem xd_X8_ofCue : xy_X8_ofCue.cls ≠ "java/lang/invoke/MethodHandle" ∧ xy_X8_ofCue.cls ≠ "java/lang/invoke/VarHandle" ∧ (parseMethodDescriptor xy_X8_ofCue.desc).map (fun d => d.parameters.length) = some 2 := ⟨by decide +kernel, by decide +kernel, by decide +kernel⟩
theorem c_X8_ofCue {l : Launch} {E : xEv} {x0 : Option Nat} {x1 : Int32} {x2 : Int32} {w : xWd} {q : (Int32 × xWd)} (hf : f_X8_ofCue x0 x1 x2 w = some q) : xk_M l xy_X8_ofCue prog_7_method_44_code 3 (some .int) 2 44 0 0 E [va_rf (x0), .int (x1), .int (x2)] w (xk_Qi E q) := by
  refine xk_enter (by decide +kernel) (by simp [lg_sl, xk_cat1, xk_cati, xk_catl, xk_catd]) ?_
  intro p e s m args below meth c hC hr hin ha
  rw [show lv_args 0 [va_rf (x0), .int (x1), .int (x2)] = [(0, va_rf (x0)), (1, .int (x1)), (2, .int (x2))] by simp [lv_args, xk_cat1, xk_cati, xk_catl, xk_catd]]
  exact t_X8_ofCue_0 hC hr x0 x1 x2 w hf
def f_X8_ofBar_36 (w : xWd) : Option (Int32 × xWd) := some ((0 : Int32), w)
set_option maxHeartbeats 4000000 in
set_option maxRecDepth 100000 in
theorem t_X8_ofBar_36 {p : Program} {l : Launch} {e : Env} {s : State} {m : MethodId} {args : Array Value} {below : List Frame} {meth : Method} {c : Code} {E : xEv} (hC : xk_C p s m args meth c E prog_7_method_46_code "ClickbookModel" 4) (hr : meth.sig.returnType = (some .int)) {q : (Int32 × xWd)} (w : xWd) (hf : f_X8_ofBar_36 w = some q) : xk_X p l e { frames := 3, cells := 0, slots := 0, locals := 65 } s m args below meth c (MQ below (xk_Qi E q) args s 0 0 (xk_A E.2.2.1)) E 4 0 0 36 [] [] w := by
  refine xk_iconst (v := (0 : Int32)) hC dX8_ofBar_36 (by decide) ?_
  refine xk_goto (tgt := 47) hC dX8_ofBar_37 (by decide) ?_
  cases hf
  refine xk_widen (k := 0) (n := 0) (Nat.le_of_ble_eq_true rfl) (Nat.le_of_ble_eq_true rfl) ?_
  exact xk_iret hC hr rfl dX8_ofBar_47
def f_X8_ofBar_29 (x0 : Option Nat) (x1 : Int32) (x2 : Int32) (x3 : Int32) (s0 : Int32) (s1 : Option Nat) (w : xWd) : Option (Int32 × xWd) := (xk_is w (s1) 5).bind (fun u2 => (f_X8_refuse (s1) (s0) ((2 : Int32)) w).bind (fun q1 => if (q1.1) = ((0 : Int32)) then none else f_X8_ofBar_36 (q1.2)))
set_option maxHeartbeats 4000000 in
set_option maxRecDepth 100000 in
theorem t_X8_ofBar_29 {p : Program} {l : Launch} {e : Env} {s : State} {m : MethodId} {args : Array Value} {below : List Frame} {meth : Method} {c : Code} {E : xEv} (hC : xk_C p s m args meth c E prog_7_method_46_code "ClickbookModel" 4) (hr : meth.sig.returnType = (some .int)) {q : (Int32 × xWd)} (x0 : Option Nat) (x1 : Int32) (x2 : Int32) (x3 : Int32) (s0 : Int32) (s1 : Option Nat) (w : xWd) (hf : f_X8_ofBar_29 x0 x1 x2 x3 s0 s1 w = some q) : xk_X p l e { frames := 3, cells := 0, slots := 0, locals := 65 } s m args below meth c (MQ below (xk_Qi E q) args s 0 0 (xk_A E.2.2.1)) E 4 0 0 29 [(0, va_rf (x0)), (1, .int (x1)), (2, .int (x2)), (3, .int (x3))] [.int (s0), va_rf (s1)] w := by
  refine xk_iconst (v := (2 : Int32)) hC dX8_ofBar_29 (by decide) ?_
  obtain ⟨u2, h2, hf⟩ := xk_bi hf
  obtain ⟨q1, h1, hf⟩ := xk_bi hf
  refine xk_backi (xk_callV hC 2 xc_5 (c_X8_refuse h1) h2 xm_906 xm_908 xm_p34 xm_6 xm_909 ⟨rfl, xd_X8_refuse⟩ rfl ⟨Nat.le_of_ble_eq_true rfl, Nat.le_of_ble_eq_true rfl⟩ rfl (Nat.le_of_ble_eq_true rfl) dX8_ofBar_30 ⟨(Nat.le_of_ble_eq_true rfl), (Nat.le_of_ble_eq_true rfl)⟩) ?_
  refine xk_if_eq (tgt := 40) hC dX8_ofBar_33 (by decide) (fun c3 => ?_) (fun c3 => ?_)
  · replace hf := (if_pos c3).symm.trans hf
    refine xk_aload_n hC dX8_ofBar_40 0 rfl rfl ?_
    refine xk_iload_n hC dX8_ofBar_41 1 rfl rfl ?_
    refine xk_iload_n hC dX8_ofBar_42 2 rfl rfl ?_
    refine xk_iload_n hC dX8_ofBar_43 3 rfl rfl ?_
    cases hf
  · replace hf := (if_neg c3).symm.trans hf
    refine xk_locals [] rfl ?_
    exact t_X8_ofBar_36 hC hr (q1.2) hf
def f_X8_ofBar (x0 : Option Nat) (x1 : Int32) (x2 : Int32) (x3 : Int32) (w : xWd) : Option (Int32 × xWd) := (xk_is w (x0) 5).bind (fun u2 => (f_X8_isNoBar (x0) (x1) (x2) w).bind (fun q1 => (xk_is q1.2 (x0) 5).bind (fun u4 => (f_X8_start (x0) (q1.1) ((1 : Int32)) q1.2).bind (fun q3 => if (q3.1) = ((0 : Int32)) then (f_X8_isIn (x3) ((0 : Int32)) ((3 : Int32)) q3.2).bind (fun q6 => if (q6.1) = ((0 : Int32)) then f_X8_ofBar_29 x0 x1 x2 x3 ((1 : Int32)) x0 (q6.2) else f_X8_ofBar_29 x0 x1 x2 x3 ((0 : Int32)) x0 (q6.2)) else f_X8_ofBar_36 (q3.2)))))
set_option maxHeartbeats 4000000 in
set_option maxRecDepth 100000 in
theorem t_X8_ofBar_0 {p : Program} {l : Launch} {e : Env} {s : State} {m : MethodId} {args : Array Value} {below : List Frame} {meth : Method} {c : Code} {E : xEv} (hC : xk_C p s m args meth c E prog_7_method_46_code "ClickbookModel" 4) (hr : meth.sig.returnType = (some .int)) {q : (Int32 × xWd)} (x0 : Option Nat) (x1 : Int32) (x2 : Int32) (x3 : Int32) (w : xWd) (hf : f_X8_ofBar x0 x1 x2 x3 w = some q) : xk_X p l e { frames := 3, cells := 0, slots := 0, locals := 65 } s m args below meth c (MQ below (xk_Qi E q) args s 0 0 (xk_A E.2.2.1)) E 4 0 0 0 [(0, va_rf (x0)), (1, .int (x1)), (2, .int (x2)), (3, .int (x3))] [] w := by
  refine xk_aload_n hC dX8_ofBar_0 0 rfl rfl ?_
  refine xk_aload_n hC dX8_ofBar_1 0 rfl rfl ?_
  refine xk_iload_n hC dX8_ofBar_2 1 rfl rfl ?_
  refine xk_iload_n hC dX8_ofBar_3 2 rfl rfl ?_
  obtain ⟨u2, h2, hf⟩ := xk_bi hf
  obtain ⟨q1, h1, hf⟩ := xk_bi hf
  refine xk_backi (xk_callV hC 2 xc_5 (c_X8_isNoBar h1) h2 xm_1101 xm_1103 xm_p37 xm_6 xm_1104 ⟨rfl, xd_X8_isNoBar⟩ rfl ⟨Nat.le_of_ble_eq_true rfl, Nat.le_of_ble_eq_true rfl⟩ rfl (by simp [xk_cat1, xk_cati, xk_catl, xk_catd]) dX8_ofBar_4 ⟨(Nat.le_of_ble_eq_true rfl), (Nat.le_of_ble_eq_true rfl)⟩) ?_
  refine xk_iconst (v := (1 : Int32)) hC dX8_ofBar_7 (by decide) ?_
  obtain ⟨u4, h4, hf⟩ := xk_bi hf
  obtain ⟨q3, h3, hf⟩ := xk_bi hf
  refine xk_backi (xk_callV hC 2 xc_5 (c_X8_start h3) h4 xm_902 xm_904 xm_p33 xm_6 xm_905 ⟨rfl, xd_X8_start⟩ rfl ⟨Nat.le_of_ble_eq_true rfl, Nat.le_of_ble_eq_true rfl⟩ rfl (Nat.le_of_ble_eq_true rfl) dX8_ofBar_8 ⟨(Nat.le_of_ble_eq_true rfl), (Nat.le_of_ble_eq_true rfl)⟩) ?_
  refine xk_if_ne (tgt := 36) hC dX8_ofBar_11 (by decide) (fun c5 => ?_) (fun c5 => ?_)
  · replace hf := (if_neg c5).symm.trans hf
    refine xk_locals [] rfl ?_
    exact t_X8_ofBar_36 hC hr (q3.2) hf
  · replace hf := (if_pos c5).symm.trans hf
    refine xk_aload_n hC dX8_ofBar_14 0 rfl rfl ?_
    refine xk_iload_n hC dX8_ofBar_15 3 rfl rfl ?_
    refine xk_iconst (v := (0 : Int32)) hC dX8_ofBar_16 (by decide) ?_
    refine xk_iconst (v := (3 : Int32)) hC dX8_ofBar_17 (by decide) ?_
    obtain ⟨q6, h6, hf⟩ := xk_bi hf
    refine xk_backi (xk_callS hC 3 (c_X8_isIn h6) xm_899 xm_900 xm_6 xm_901 xd_X8_isIn rfl ⟨Nat.le_of_ble_eq_true rfl, Nat.le_of_ble_eq_true rfl⟩ rfl (by simp [xk_cat1, xk_cati, xk_catl, xk_catd]) dX8_ofBar_18 ⟨(Nat.le_of_ble_eq_true rfl), (Nat.le_of_ble_eq_true rfl)⟩) ?_
    refine xk_if_ne (tgt := 28) hC dX8_ofBar_21 (by decide) (fun c7 => ?_) (fun c7 => ?_)
    · replace hf := (if_neg c7).symm.trans hf
      refine xk_iconst (v := (0 : Int32)) hC dX8_ofBar_28 (by decide) ?_
      exact t_X8_ofBar_29 hC hr x0 x1 x2 x3 ((0 : Int32)) x0 (q6.2) hf
    · replace hf := (if_pos c7).symm.trans hf
      refine xk_iconst (v := (1 : Int32)) hC dX8_ofBar_24 (by decide) ?_
      refine xk_goto (tgt := 29) hC dX8_ofBar_25 (by decide) ?_
      exact t_X8_ofBar_29 hC hr x0 x1 x2 x3 ((1 : Int32)) x0 (q6.2) hf
theorem xd_X8_ofBar : xy_X8_ofBar.cls ≠ "java/lang/invoke/MethodHandle" ∧ xy_X8_ofBar.cls ≠ "java/lang/invoke/VarHandle" ∧ (parseMethodDescriptor xy_X8_ofBar.desc).map (fun d => d.parameters.length) = some 3 := ⟨by decide +kernel, by decide +kernel, by decide +kernel⟩
theorem c_X8_ofBar {l : Launch} {E : xEv} {x0 : Option Nat} {x1 : Int32} {x2 : Int32} {x3 : Int32} {w : xWd} {q : (Int32 × xWd)} (hf : f_X8_ofBar x0 x1 x2 x3 w = some q) : xk_M l xy_X8_ofBar prog_7_method_46_code 4 (some .int) 3 65 0 0 E [va_rf (x0), .int (x1), .int (x2), .int (x3)] w (xk_Qi E q) := by
  refine xk_enter (by decide +kernel) (by simp [lg_sl, xk_cat1, xk_cati, xk_catl, xk_catd]) ?_
  intro p e s m args below meth c hC hr hin ha
  rw [show lv_args 0 [va_rf (x0), .int (x1), .int (x2), .int (x3)] = [(0, va_rf (x0)), (1, .int (x1)), (2, .int (x2)), (3, .int (x3))] by simp [lv_args, xk_cat1, xk_cati, xk_catl, xk_catd]]
  exact t_X8_ofBar_0 hC hr x0 x1 x2 x3 w hf
def f_X8_beat (x0 : Option Nat) (x1 : Int32) (x2 : Int32) (w : xWd) : Option (Int32 × xWd) := (xk_is w (x0) 5).bind (fun u2 => (f_X8_isNoCue (x0) (x1) w).bind (fun q1 => if (q1.1) = ((0 : Int32)) then (xk_gR q1.2 (x0) 5 5).bind (fun v8 => none) else (xk_is q1.2 (x0) 5).bind (fun u5 => (f_X8_start (x0) ((1 : Int32)) ((1 : Int32)) q1.2).bind (fun q4 => if (q4.1) = ((0 : Int32)) then (xk_gR q4.2 (x0) 5 5).bind (fun v7 => none) else some ((0 : Int32), q4.2)))))
set_option maxHeartbeats 4000000 in
set_option maxRecDepth 100000 in
theorem t_X8_beat_0 {p : Program} {l : Launch} {e : Env} {s : State} {m : MethodId} {args : Array Value} {below : List Frame} {meth : Method} {c : Code} {E : xEv} (hC : xk_C p s m args meth c E prog_7_method_47_code "ClickbookModel" 3) (hr : meth.sig.returnType = (some .int)) {q : (Int32 × xWd)} (x0 : Option Nat) (x1 : Int32) (x2 : Int32) (w : xWd) (hf : f_X8_beat x0 x1 x2 w = some q) : xk_X p l e { frames := 2, cells := 0, slots := 0, locals := 44 } s m args below meth c (MQ below (xk_Qi E q) args s 0 0 (xk_A E.2.2.1)) E 3 0 0 0 [(0, va_rf (x0)), (1, .int (x1)), (2, .int (x2))] [] w := by
  refine xk_aload_n hC dX8_beat_0 0 rfl rfl ?_
  refine xk_aload_n hC dX8_beat_1 0 rfl rfl ?_
  refine xk_iload_n hC dX8_beat_2 1 rfl rfl ?_
  obtain ⟨u2, h2, hf⟩ := xk_bi hf
  obtain ⟨q1, h1, hf⟩ := xk_bi hf
  refine xk_backi (xk_callV hC 1 xc_5 (c_X8_isNoCue h1) h2 xm_1090 xm_1092 xm_p36 xm_6 xm_1093 ⟨rfl, xd_X8_isNoCue⟩ rfl ⟨Nat.le_of_ble_eq_true rfl, Nat.le_of_ble_eq_true rfl⟩ rfl (by simp [xk_cat1, xk_cati, xk_catl, xk_catd]) dX8_beat_3 ⟨(Nat.le_of_ble_eq_true rfl), (Nat.le_of_ble_eq_true rfl)⟩) ?_
  refine xk_if_ne (tgt := 33) hC dX8_beat_6 (by decide) (fun c3 => ?_) (fun c3 => ?_)
  · replace hf := (if_neg c3).symm.trans hf
    refine xk_iconst (v := (1 : Int32)) hC dX8_beat_33 (by decide) ?_
    refine xk_goto (tgt := 38) hC dX8_beat_34 (by decide) ?_
    refine xk_iconst (v := (1 : Int32)) hC dX8_beat_38 (by decide) ?_
    obtain ⟨u5, h5, hf⟩ := xk_bi hf
    obtain ⟨q4, h4, hf⟩ := xk_bi hf
    refine xk_backi (xk_callV hC 2 xc_5 (c_X8_start h4) h5 xm_902 xm_904 xm_p33 xm_6 xm_905 ⟨rfl, xd_X8_start⟩ rfl ⟨Nat.le_of_ble_eq_true rfl, Nat.le_of_ble_eq_true rfl⟩ rfl (Nat.le_of_ble_eq_true rfl) dX8_beat_39 ⟨(Nat.le_of_ble_eq_true rfl), (Nat.le_of_ble_eq_true rfl)⟩) ?_
    refine xk_if_eq (tgt := 49) hC dX8_beat_42 (by decide) (fun c6 => ?_) (fun c6 => ?_)
    · replace hf := (if_pos c6).symm.trans hf
      refine xk_aload_n hC dX8_beat_49 0 rfl rfl ?_
      obtain ⟨v7, h7, hf⟩ := xk_bi hf
      refine xk_getR hC xi_5 xc_5 5 (by decide) xm_865 (Or.inl rfl) dX8_beat_50 h7 ?_
      refine xk_iload_n hC dX8_beat_53 1 rfl rfl ?_
      cases hf
    · replace hf := (if_neg c6).symm.trans hf
      refine xk_iconst (v := (0 : Int32)) hC dX8_beat_45 (by decide) ?_
      refine xk_goto (tgt := 65) hC dX8_beat_46 (by decide) ?_
      cases hf
      refine xk_widen (k := 0) (n := 0) (Nat.le_of_ble_eq_true rfl) (Nat.le_of_ble_eq_true rfl) ?_
      exact xk_iret hC hr rfl dX8_beat_65
  · replace hf := (if_pos c3).symm.trans hf
    refine xk_iload_n hC dX8_beat_9 2 rfl rfl ?_
    refine xk_iconst (v := (0 : Int32)) hC dX8_beat_10 (by decide) ?_
    refine xk_aload_n hC dX8_beat_11 0 rfl rfl ?_
    obtain ⟨v8, h8, hf⟩ := xk_bi hf
    refine xk_getR hC xi_5 xc_5 5 (by decide) xm_865 (Or.inl rfl) dX8_beat_12 h8 ?_
    refine xk_iload_n hC dX8_beat_15 1 rfl rfl ?_
    cases hf
theorem xd_X8_beat : xy_X8_beat.cls ≠ "java/lang/invoke/MethodHandle" ∧ xy_X8_beat.cls ≠ "java/lang/invoke/VarHandle" ∧ (parseMethodDescriptor xy_X8_beat.desc).map (fun d => d.parameters.length) = some 2 := ⟨by decide +kernel, by decide +kernel, by decide +kernel⟩
theorem c_X8_beat {l : Launch} {E : xEv} {x0 : Option Nat} {x1 : Int32} {x2 : Int32} {w : xWd} {q : (Int32 × xWd)} (hf : f_X8_beat x0 x1 x2 w = some q) : xk_M l xy_X8_beat prog_7_method_47_code 3 (some .int) 2 44 0 0 E [va_rf (x0), .int (x1), .int (x2)] w (xk_Qi E q) := by
  refine xk_enter (by decide +kernel) (by simp [lg_sl, xk_cat1, xk_cati, xk_catl, xk_catd]) ?_
  intro p e s m args below meth c hC hr hin ha
  rw [show lv_args 0 [va_rf (x0), .int (x1), .int (x2)] = [(0, va_rf (x0)), (1, .int (x1)), (2, .int (x2))] by simp [lv_args, xk_cat1, xk_cati, xk_catl, xk_catd]]
  exact t_X8_beat_0 hC hr x0 x1 x2 w hf
def f_X8_ofTake_52 (w : xWd) : Option (Int32 × xWd) := some ((0 : Int32), w)
set_option maxHeartbeats 4000000 in
set_option maxRecDepth 100000 in
theorem t_X8_ofTake_52 {p : Program} {l : Launch} {e : Env} {s : State} {m : MethodId} {args : Array Value} {below : List Frame} {meth : Method} {c : Code} {E : xEv} (hC : xk_C p s m args meth c E prog_7_method_49_code "ClickbookModel" 3) (hr : meth.sig.returnType = (some .int)) {q : (Int32 × xWd)} (w : xWd) (hf : f_X8_ofTake_52 w = some q) : xk_X p l e { frames := 2, cells := 0, slots := 0, locals := 44 } s m args below meth c (MQ below (xk_Qi E q) args s 0 0 (xk_A E.2.2.1)) E 3 0 0 52 [] [] w := by
  refine xk_iconst (v := (0 : Int32)) hC dX8_ofTake_52 (by decide) ?_
  refine xk_goto (tgt := 62) hC dX8_ofTake_53 (by decide) ?_
  cases hf
  refine xk_widen (k := 0) (n := 0) (Nat.le_of_ble_eq_true rfl) (Nat.le_of_ble_eq_true rfl) ?_
  exact xk_iret hC hr rfl dX8_ofTake_62
def f_X8_ofTake_45 (x0 : Option Nat) (x1 : Int32) (x2 : Int32) (s0 : Int32) (s1 : Option Nat) (w : xWd) : Option (Int32 × xWd) := (xk_is w (s1) 5).bind (fun u2 => (f_X8_refuse (s1) (s0) ((2 : Int32)) w).bind (fun q1 => if (q1.1) = ((0 : Int32)) then none else f_X8_ofTake_52 (q1.2)))
set_option maxHeartbeats 4000000 in
set_option maxRecDepth 100000 in
theorem t_X8_ofTake_45 {p : Program} {l : Launch} {e : Env} {s : State} {m : MethodId} {args : Array Value} {below : List Frame} {meth : Method} {c : Code} {E : xEv} (hC : xk_C p s m args meth c E prog_7_method_49_code "ClickbookModel" 3) (hr : meth.sig.returnType = (some .int)) {q : (Int32 × xWd)} (x0 : Option Nat) (x1 : Int32) (x2 : Int32) (s0 : Int32) (s1 : Option Nat) (w : xWd) (hf : f_X8_ofTake_45 x0 x1 x2 s0 s1 w = some q) : xk_X p l e { frames := 2, cells := 0, slots := 0, locals := 44 } s m args below meth c (MQ below (xk_Qi E q) args s 0 0 (xk_A E.2.2.1)) E 3 0 0 45 [(0, va_rf (x0)), (1, .int (x1)), (2, .int (x2))] [.int (s0), va_rf (s1)] w := by
  refine xk_iconst (v := (2 : Int32)) hC dX8_ofTake_45 (by decide) ?_
  obtain ⟨u2, h2, hf⟩ := xk_bi hf
  obtain ⟨q1, h1, hf⟩ := xk_bi hf
  refine xk_backi (xk_callV hC 2 xc_5 (c_X8_refuse h1) h2 xm_906 xm_908 xm_p34 xm_6 xm_909 ⟨rfl, xd_X8_refuse⟩ rfl ⟨Nat.le_of_ble_eq_true rfl, Nat.le_of_ble_eq_true rfl⟩ rfl (Nat.le_of_ble_eq_true rfl) dX8_ofTake_46 ⟨(Nat.le_of_ble_eq_true rfl), (Nat.le_of_ble_eq_true rfl)⟩) ?_
  refine xk_if_eq (tgt := 56) hC dX8_ofTake_49 (by decide) (fun c3 => ?_) (fun c3 => ?_)
  · replace hf := (if_pos c3).symm.trans hf
    refine xk_aload_n hC dX8_ofTake_56 0 rfl rfl ?_
    refine xk_iload_n hC dX8_ofTake_57 1 rfl rfl ?_
    refine xk_iload_n hC dX8_ofTake_58 2 rfl rfl ?_
    cases hf
  · replace hf := (if_neg c3).symm.trans hf
    refine xk_locals [] rfl ?_
    exact t_X8_ofTake_52 hC hr (q1.2) hf
def f_X8_ofTake_23 (x0 : Option Nat) (x1 : Int32) (x2 : Int32) (s0 : Int32) (s1 : Option Nat) (w : xWd) : Option (Int32 × xWd) := (xk_is w (s1) 5).bind (fun u2 => (f_X8_start (s1) (s0) ((1 : Int32)) w).bind (fun q1 => if (q1.1) = ((0 : Int32)) then (f_X8_isIn (x2) ((0 : Int32)) ((4 : Int32)) q1.2).bind (fun q4 => if (q4.1) = ((0 : Int32)) then f_X8_ofTake_45 x0 x1 x2 ((1 : Int32)) x0 (q4.2) else f_X8_ofTake_45 x0 x1 x2 ((0 : Int32)) x0 (q4.2)) else f_X8_ofTake_52 (q1.2)))
set_option maxHeartbeats 4000000 in
set_option maxRecDepth 100000 in
theorem t_X8_ofTake_23 {p : Program} {l : Launch} {e : Env} {s : State} {m : MethodId} {args : Array Value} {below : List Frame} {meth : Method} {c : Code} {E : xEv} (hC : xk_C p s m args meth c E prog_7_method_49_code "ClickbookModel" 3) (hr : meth.sig.returnType = (some .int)) {q : (Int32 × xWd)} (x0 : Option Nat) (x1 : Int32) (x2 : Int32) (s0 : Int32) (s1 : Option Nat) (w : xWd) (hf : f_X8_ofTake_23 x0 x1 x2 s0 s1 w = some q) : xk_X p l e { frames := 2, cells := 0, slots := 0, locals := 44 } s m args below meth c (MQ below (xk_Qi E q) args s 0 0 (xk_A E.2.2.1)) E 3 0 0 23 [(0, va_rf (x0)), (1, .int (x1)), (2, .int (x2))] [.int (s0), va_rf (s1)] w := by
  refine xk_iconst (v := (1 : Int32)) hC dX8_ofTake_23 (by decide) ?_
  obtain ⟨u2, h2, hf⟩ := xk_bi hf
  obtain ⟨q1, h1, hf⟩ := xk_bi hf
  refine xk_backi (xk_callV hC 2 xc_5 (c_X8_start h1) h2 xm_902 xm_904 xm_p33 xm_6 xm_905 ⟨rfl, xd_X8_start⟩ rfl ⟨Nat.le_of_ble_eq_true rfl, Nat.le_of_ble_eq_true rfl⟩ rfl (Nat.le_of_ble_eq_true rfl) dX8_ofTake_24 ⟨(Nat.le_of_ble_eq_true rfl), (Nat.le_of_ble_eq_true rfl)⟩) ?_
  refine xk_if_ne (tgt := 52) hC dX8_ofTake_27 (by decide) (fun c3 => ?_) (fun c3 => ?_)
  · replace hf := (if_neg c3).symm.trans hf
    refine xk_locals [] rfl ?_
    exact t_X8_ofTake_52 hC hr (q1.2) hf
  · replace hf := (if_pos c3).symm.trans hf
    refine xk_aload_n hC dX8_ofTake_30 0 rfl rfl ?_
    refine xk_iload_n hC dX8_ofTake_31 2 rfl rfl ?_
    refine xk_iconst (v := (0 : Int32)) hC dX8_ofTake_32 (by decide) ?_
    refine xk_iconst (v := (4 : Int32)) hC dX8_ofTake_33 (by decide) ?_
    obtain ⟨q4, h4, hf⟩ := xk_bi hf
    refine xk_backi (xk_callS hC 3 (c_X8_isIn h4) xm_899 xm_900 xm_6 xm_901 xd_X8_isIn rfl ⟨Nat.le_of_ble_eq_true rfl, Nat.le_of_ble_eq_true rfl⟩ rfl (by simp [xk_cat1, xk_cati, xk_catl, xk_catd]) dX8_ofTake_34 ⟨(Nat.le_of_ble_eq_true rfl), (Nat.le_of_ble_eq_true rfl)⟩) ?_
    refine xk_if_ne (tgt := 44) hC dX8_ofTake_37 (by decide) (fun c5 => ?_) (fun c5 => ?_)
    · replace hf := (if_neg c5).symm.trans hf
      refine xk_iconst (v := (0 : Int32)) hC dX8_ofTake_44 (by decide) ?_
      exact t_X8_ofTake_45 hC hr x0 x1 x2 ((0 : Int32)) x0 (q4.2) hf
    · replace hf := (if_pos c5).symm.trans hf
      refine xk_iconst (v := (1 : Int32)) hC dX8_ofTake_40 (by decide) ?_
      refine xk_goto (tgt := 45) hC dX8_ofTake_41 (by decide) ?_
      exact t_X8_ofTake_45 hC hr x0 x1 x2 ((1 : Int32)) x0 (q4.2) hf
def f_X8_ofTake (x0 : Option Nat) (x1 : Int32) (x2 : Int32) (w : xWd) : Option (Int32 × xWd) := (xk_gR w (x0) 5 6).bind (fun v1 => (xk_is w (v1) 4).bind (fun u3 => (f_Jx4a65c_size_8abf5 (v1)  w).bind (fun q2 => (f_X8_isIn (x1) ((0 : Int32)) ((q2.1) - ((1 : Int32))) q2.2).bind (fun q4 => if (q4.1) = ((0 : Int32)) then f_X8_ofTake_23 x0 x1 x2 ((1 : Int32)) x0 (q4.2) else f_X8_ofTake_23 x0 x1 x2 ((0 : Int32)) x0 (q4.2)))))
set_option maxHeartbeats 4000000 in
set_option maxRecDepth 100000 in
theorem t_X8_ofTake_0 {p : Program} {l : Launch} {e : Env} {s : State} {m : MethodId} {args : Array Value} {below : List Frame} {meth : Method} {c : Code} {E : xEv} (hC : xk_C p s m args meth c E prog_7_method_49_code "ClickbookModel" 3) (hr : meth.sig.returnType = (some .int)) {q : (Int32 × xWd)} (x0 : Option Nat) (x1 : Int32) (x2 : Int32) (w : xWd) (hf : f_X8_ofTake x0 x1 x2 w = some q) : xk_X p l e { frames := 2, cells := 0, slots := 0, locals := 44 } s m args below meth c (MQ below (xk_Qi E q) args s 0 0 (xk_A E.2.2.1)) E 3 0 0 0 [(0, va_rf (x0)), (1, .int (x1)), (2, .int (x2))] [] w := by
  refine xk_aload_n hC dX8_ofTake_0 0 rfl rfl ?_
  refine xk_iload_n hC dX8_ofTake_1 1 rfl rfl ?_
  refine xk_iconst (v := (0 : Int32)) hC dX8_ofTake_2 (by decide) ?_
  refine xk_aload_n hC dX8_ofTake_3 0 rfl rfl ?_
  obtain ⟨v1, h1, hf⟩ := xk_bi hf
  refine xk_getR hC xi_5 xc_5 6 (by decide) xm_866 (Or.inl rfl) dX8_ofTake_4 h1 ?_
  obtain ⟨u3, h3, hf⟩ := xk_bi hf
  obtain ⟨q2, h2, hf⟩ := xk_bi hf
  refine xk_backi (xk_callV hC 0 xc_4 (c_Jx4a65c_size_8abf5 h2) h3 xm_910 xm_131 xm_132 xm_4 xm_133 ⟨rfl, xd_Jx4a65c_size_8abf5⟩ rfl ⟨Nat.le_of_ble_eq_true rfl, Nat.le_of_ble_eq_true rfl⟩ rfl (by simp [xk_cat1, xk_cati, xk_catl, xk_catd]) dX8_ofTake_7 ⟨(Nat.le_of_ble_eq_true rfl), (Nat.le_of_ble_eq_true rfl)⟩) ?_
  refine xk_iconst (v := (1 : Int32)) hC dX8_ofTake_10 (by decide) ?_
  refine xk_isub hC dX8_ofTake_11 ?_
  obtain ⟨q4, h4, hf⟩ := xk_bi hf
  refine xk_backi (xk_callS hC 3 (c_X8_isIn h4) xm_899 xm_900 xm_6 xm_901 xd_X8_isIn rfl ⟨Nat.le_of_ble_eq_true rfl, Nat.le_of_ble_eq_true rfl⟩ rfl (by simp [xk_cat1, xk_cati, xk_catl, xk_catd]) dX8_ofTake_12 ⟨(Nat.le_of_ble_eq_true rfl), (Nat.le_of_ble_eq_true rfl)⟩) ?_
  refine xk_if_ne (tgt := 22) hC dX8_ofTake_15 (by decide) (fun c5 => ?_) (fun c5 => ?_)
  · replace hf := (if_neg c5).symm.trans hf
    refine xk_iconst (v := (0 : Int32)) hC dX8_ofTake_22 (by decide) ?_
    exact t_X8_ofTake_23 hC hr x0 x1 x2 ((0 : Int32)) x0 (q4.2) hf
  · replace hf := (if_pos c5).symm.trans hf
    refine xk_iconst (v := (1 : Int32)) hC dX8_ofTake_18 (by decide) ?_
    refine xk_goto (tgt := 23) hC dX8_ofTake_19 (by decide) ?_
    exact t_X8_ofTake_23 hC hr x0 x1 x2 ((1 : Int32)) x0 (q4.2) hf
theorem xd_X8_ofTake : xy_X8_ofTake.cls ≠ "java/lang/invoke/MethodHandle" ∧ xy_X8_ofTake.cls ≠ "java/lang/invoke/VarHandle" ∧ (parseMethodDescriptor xy_X8_ofTake.desc).map (fun d => d.parameters.length) = some 2 := ⟨by decide +kernel, by decide +kernel, by decide +kernel⟩
theorem c_X8_ofTake {l : Launch} {E : xEv} {x0 : Option Nat} {x1 : Int32} {x2 : Int32} {w : xWd} {q : (Int32 × xWd)} (hf : f_X8_ofTake x0 x1 x2 w = some q) : xk_M l xy_X8_ofTake prog_7_method_49_code 3 (some .int) 2 44 0 0 E [va_rf (x0), .int (x1), .int (x2)] w (xk_Qi E q) := by
  refine xk_enter (by decide +kernel) (by simp [lg_sl, xk_cat1, xk_cati, xk_catl, xk_catd]) ?_
  intro p e s m args below meth c hC hr hin ha
  rw [show lv_args 0 [va_rf (x0), .int (x1), .int (x2)] = [(0, va_rf (x0)), (1, .int (x1)), (2, .int (x2))] by simp [lv_args, xk_cat1, xk_cati, xk_catl, xk_catd]]
  exact t_X8_ofTake_0 hC hr x0 x1 x2 w hf
def f_X8_sheetNow (x0 : Option Nat) (x1 : Int32) (w : xWd) : Option (Int32 × xWd) := (xk_gR w (x0) 5 5).bind (fun v1 => (xk_is w (v1) 4).bind (fun u3 => (f_Jx4a65c_size_8abf5 (v1)  w).bind (fun q2 => if (q2.1) ≤ ((0 : Int32)) then some ((0 : Int32), q2.2) else (xk_gR q2.2 (x0) 5 5).bind (fun v5 => none))))
set_option maxHeartbeats 4000000 in
set_option maxRecDepth 100000 in
theorem t_X8_sheetNow_0 {p : Program} {l : Launch} {e : Env} {s : State} {m : MethodId} {args : Array Value} {below : List Frame} {meth : Method} {c : Code} {E : xEv} (hC : xk_C p s m args meth c E prog_7_method_39_code "ClickbookModel" 4) (hr : meth.sig.returnType = (some .int)) {q : (Int32 × xWd)} (x0 : Option Nat) (x1 : Int32) (w : xWd) (hf : f_X8_sheetNow x0 x1 w = some q) : xk_X p l e { frames := 1, cells := 0, slots := 0, locals := 20 } s m args below meth c (MQ below (xk_Qi E q) args s 0 0 (xk_A E.2.2.1)) E 4 0 0 0 [(0, va_rf (x0)), (1, .int (x1))] [] w := by
  refine xk_iconst (v := (0 : Int32)) hC dX8_sheetNow_0 (by decide) ?_
  refine xk_istore_n (i := 2) (lv' := [(2, .int ((0 : Int32))), (0, va_rf (x0)), (1, .int (x1))]) hC dX8_sheetNow_1 rfl (by decide) rfl ?_
  refine xk_iconst (v := (0 : Int32)) hC dX8_sheetNow_2 (by decide) ?_
  refine xk_istore_n (i := 3) (lv' := [(3, .int ((0 : Int32))), (2, .int ((0 : Int32))), (0, va_rf (x0)), (1, .int (x1))]) hC dX8_sheetNow_3 rfl (by decide) rfl ?_
  refine xk_iload_n hC dX8_sheetNow_4 0 rfl rfl ?_
  refine xk_aload_n hC dX8_sheetNow_5 2 rfl rfl ?_
  obtain ⟨v1, h1, hf⟩ := xk_bi hf
  refine xk_getR hC xi_5 xc_5 5 (by decide) xm_865 (Or.inl rfl) dX8_sheetNow_6 h1 ?_
  obtain ⟨u3, h3, hf⟩ := xk_bi hf
  obtain ⟨q2, h2, hf⟩ := xk_bi hf
  refine xk_backi (xk_callV hC 0 xc_4 (c_Jx4a65c_size_8abf5 h2) h3 xm_910 xm_131 xm_132 xm_4 xm_133 ⟨rfl, xd_Jx4a65c_size_8abf5⟩ rfl ⟨Nat.le_of_ble_eq_true rfl, Nat.le_of_ble_eq_true rfl⟩ rfl (Nat.le_of_ble_eq_true rfl) dX8_sheetNow_9 ⟨(Nat.le_of_ble_eq_true rfl), (Nat.le_of_ble_eq_true rfl)⟩) ?_
  refine xk_icmp_ge (tgt := 66) hC dX8_sheetNow_12 (by decide) (fun c4 => ?_) (fun c4 => ?_)
  · replace hf := (if_pos c4).symm.trans hf
    refine xk_iload_n hC dX8_sheetNow_66 1 rfl rfl ?_
    cases hf
    refine xk_widen (k := 0) (n := 0) (Nat.le_of_ble_eq_true rfl) (Nat.le_of_ble_eq_true rfl) ?_
    exact xk_iret hC hr rfl dX8_sheetNow_67
  · replace hf := (if_neg c4).symm.trans hf
    refine xk_aload_n hC dX8_sheetNow_15 2 rfl rfl ?_
    obtain ⟨v5, h5, hf⟩ := xk_bi hf
    refine xk_getR hC xi_5 xc_5 5 (by decide) xm_865 (Or.inl rfl) dX8_sheetNow_16 h5 ?_
    refine xk_iload_n hC dX8_sheetNow_19 0 rfl rfl ?_
    cases hf
theorem xd_X8_sheetNow : xy_X8_sheetNow.cls ≠ "java/lang/invoke/MethodHandle" ∧ xy_X8_sheetNow.cls ≠ "java/lang/invoke/VarHandle" ∧ (parseMethodDescriptor xy_X8_sheetNow.desc).map (fun d => d.parameters.length) = some 1 := ⟨by decide +kernel, by decide +kernel, by decide +kernel⟩
theorem c_X8_sheetNow {l : Launch} {E : xEv} {x0 : Option Nat} {x1 : Int32} {w : xWd} {q : (Int32 × xWd)} (hf : f_X8_sheetNow x0 x1 w = some q) : xk_M l xy_X8_sheetNow prog_7_method_39_code 4 (some .int) 1 20 0 0 E [va_rf (x0), .int (x1)] w (xk_Qi E q) := by
  refine xk_enter (by decide +kernel) (by simp [lg_sl, xk_cat1, xk_cati, xk_catl, xk_catd]) ?_
  intro p e s m args below meth c hC hr hin ha
  rw [show lv_args 0 [va_rf (x0), .int (x1)] = [(0, va_rf (x0)), (1, .int (x1))] by simp [lv_args, xk_cat1, xk_cati, xk_catl, xk_catd]]
  exact t_X8_sheetNow_0 hC hr x0 x1 w hf
def f_X8_sheet_31 (s0 : Int32) (w : xWd) : Option (Int32 × xWd) := some (s0, w)
set_option maxHeartbeats 4000000 in
set_option maxRecDepth 100000 in
theorem t_X8_sheet_31 {p : Program} {l : Launch} {e : Env} {s : State} {m : MethodId} {args : Array Value} {below : List Frame} {meth : Method} {c : Code} {E : xEv} (hC : xk_C p s m args meth c E prog_7_method_50_code "ClickbookModel" 2) (hr : meth.sig.returnType = (some .int)) {q : (Int32 × xWd)} (s0 : Int32) (w : xWd) (hf : f_X8_sheet_31 s0 w = some q) : xk_X p l e { frames := 2, cells := 0, slots := 0, locals := 44 } s m args below meth c (MQ below (xk_Qi E q) args s 0 0 (xk_A E.2.2.1)) E 2 0 0 31 [] [.int (s0)] w := by
  cases hf
  refine xk_widen (k := 0) (n := 0) (Nat.le_of_ble_eq_true rfl) (Nat.le_of_ble_eq_true rfl) ?_
  exact xk_iret hC hr rfl dX8_sheet_31
def f_X8_sheet_15 (x0 : Option Nat) (x1 : Int32) (s0 : Int32) (s1 : Option Nat) (w : xWd) : Option (Int32 × xWd) := (xk_is w (s1) 5).bind (fun u2 => (f_X8_start (s1) (s0) ((1 : Int32)) w).bind (fun q1 => if (q1.1) = ((0 : Int32)) then (xk_is q1.2 (x0) 5).bind (fun u5 => (f_X8_sheetNow (x0) (x1) q1.2).bind (fun q4 => f_X8_sheet_31 (q4.1) (q4.2))) else f_X8_sheet_31 ((0 : Int32)) (q1.2)))
set_option maxHeartbeats 4000000 in
set_option maxRecDepth 100000 in
theorem t_X8_sheet_15 {p : Program} {l : Launch} {e : Env} {s : State} {m : MethodId} {args : Array Value} {below : List Frame} {meth : Method} {c : Code} {E : xEv} (hC : xk_C p s m args meth c E prog_7_method_50_code "ClickbookModel" 2) (hr : meth.sig.returnType = (some .int)) {q : (Int32 × xWd)} (x0 : Option Nat) (x1 : Int32) (s0 : Int32) (s1 : Option Nat) (w : xWd) (hf : f_X8_sheet_15 x0 x1 s0 s1 w = some q) : xk_X p l e { frames := 2, cells := 0, slots := 0, locals := 44 } s m args below meth c (MQ below (xk_Qi E q) args s 0 0 (xk_A E.2.2.1)) E 2 0 0 15 [(0, va_rf (x0)), (1, .int (x1))] [.int (s0), va_rf (s1)] w := by
  refine xk_iconst (v := (1 : Int32)) hC dX8_sheet_15 (by decide) ?_
  obtain ⟨u2, h2, hf⟩ := xk_bi hf
  obtain ⟨q1, h1, hf⟩ := xk_bi hf
  refine xk_backi (xk_callV hC 2 xc_5 (c_X8_start h1) h2 xm_902 xm_904 xm_p33 xm_6 xm_905 ⟨rfl, xd_X8_start⟩ rfl ⟨Nat.le_of_ble_eq_true rfl, Nat.le_of_ble_eq_true rfl⟩ rfl (Nat.le_of_ble_eq_true rfl) dX8_sheet_16 ⟨(Nat.le_of_ble_eq_true rfl), (Nat.le_of_ble_eq_true rfl)⟩) ?_
  refine xk_if_eq (tgt := 26) hC dX8_sheet_19 (by decide) (fun c3 => ?_) (fun c3 => ?_)
  · replace hf := (if_pos c3).symm.trans hf
    refine xk_aload_n hC dX8_sheet_26 0 rfl rfl ?_
    refine xk_iload_n hC dX8_sheet_27 1 rfl rfl ?_
    obtain ⟨u5, h5, hf⟩ := xk_bi hf
    obtain ⟨q4, h4, hf⟩ := xk_bi hf
    refine xk_backi (xk_callV hC 1 xc_5 (c_X8_sheetNow h4) h5 xm_1254 xm_1256 xm_p51 xm_6 xm_1257 ⟨rfl, xd_X8_sheetNow⟩ rfl ⟨Nat.le_of_ble_eq_true rfl, Nat.le_of_ble_eq_true rfl⟩ rfl (Nat.le_of_ble_eq_true rfl) dX8_sheet_28 ⟨(Nat.le_of_ble_eq_true rfl), (Nat.le_of_ble_eq_true rfl)⟩) ?_
    refine xk_locals [] rfl ?_
    exact t_X8_sheet_31 hC hr (q4.1) (q4.2) hf
  · replace hf := (if_neg c3).symm.trans hf
    refine xk_iconst (v := (0 : Int32)) hC dX8_sheet_22 (by decide) ?_
    refine xk_goto (tgt := 31) hC dX8_sheet_23 (by decide) ?_
    refine xk_locals [] rfl ?_
    exact t_X8_sheet_31 hC hr ((0 : Int32)) (q1.2) hf
def f_X8_sheet (x0 : Option Nat) (x1 : Int32) (w : xWd) : Option (Int32 × xWd) := (f_X8_isIn (x1) ((0 : Int32)) ((3 : Int32)) w).bind (fun q1 => if (q1.1) = ((0 : Int32)) then f_X8_sheet_15 x0 x1 ((1 : Int32)) x0 (q1.2) else f_X8_sheet_15 x0 x1 ((0 : Int32)) x0 (q1.2))
set_option maxHeartbeats 4000000 in
set_option maxRecDepth 100000 in
theorem t_X8_sheet_0 {p : Program} {l : Launch} {e : Env} {s : State} {m : MethodId} {args : Array Value} {below : List Frame} {meth : Method} {c : Code} {E : xEv} (hC : xk_C p s m args meth c E prog_7_method_50_code "ClickbookModel" 2) (hr : meth.sig.returnType = (some .int)) {q : (Int32 × xWd)} (x0 : Option Nat) (x1 : Int32) (w : xWd) (hf : f_X8_sheet x0 x1 w = some q) : xk_X p l e { frames := 2, cells := 0, slots := 0, locals := 44 } s m args below meth c (MQ below (xk_Qi E q) args s 0 0 (xk_A E.2.2.1)) E 2 0 0 0 [(0, va_rf (x0)), (1, .int (x1))] [] w := by
  refine xk_aload_n hC dX8_sheet_0 0 rfl rfl ?_
  refine xk_iload_n hC dX8_sheet_1 1 rfl rfl ?_
  refine xk_iconst (v := (0 : Int32)) hC dX8_sheet_2 (by decide) ?_
  refine xk_iconst (v := (3 : Int32)) hC dX8_sheet_3 (by decide) ?_
  obtain ⟨q1, h1, hf⟩ := xk_bi hf
  refine xk_backi (xk_callS hC 3 (c_X8_isIn h1) xm_899 xm_900 xm_6 xm_901 xd_X8_isIn rfl ⟨Nat.le_of_ble_eq_true rfl, Nat.le_of_ble_eq_true rfl⟩ rfl (by simp [xk_cat1, xk_cati, xk_catl, xk_catd]) dX8_sheet_4 ⟨(Nat.le_of_ble_eq_true rfl), (Nat.le_of_ble_eq_true rfl)⟩) ?_
  refine xk_if_ne (tgt := 14) hC dX8_sheet_7 (by decide) (fun c2 => ?_) (fun c2 => ?_)
  · replace hf := (if_neg c2).symm.trans hf
    refine xk_iconst (v := (0 : Int32)) hC dX8_sheet_14 (by decide) ?_
    exact t_X8_sheet_15 hC hr x0 x1 ((0 : Int32)) x0 (q1.2) hf
  · replace hf := (if_pos c2).symm.trans hf
    refine xk_iconst (v := (1 : Int32)) hC dX8_sheet_10 (by decide) ?_
    refine xk_goto (tgt := 15) hC dX8_sheet_11 (by decide) ?_
    exact t_X8_sheet_15 hC hr x0 x1 ((1 : Int32)) x0 (q1.2) hf
theorem xd_X8_sheet : xy_X8_sheet.cls ≠ "java/lang/invoke/MethodHandle" ∧ xy_X8_sheet.cls ≠ "java/lang/invoke/VarHandle" ∧ (parseMethodDescriptor xy_X8_sheet.desc).map (fun d => d.parameters.length) = some 1 := ⟨by decide +kernel, by decide +kernel, by decide +kernel⟩
theorem c_X8_sheet {l : Launch} {E : xEv} {x0 : Option Nat} {x1 : Int32} {w : xWd} {q : (Int32 × xWd)} (hf : f_X8_sheet x0 x1 w = some q) : xk_M l xy_X8_sheet prog_7_method_50_code 2 (some .int) 2 44 0 0 E [va_rf (x0), .int (x1)] w (xk_Qi E q) := by
  refine xk_enter (by decide +kernel) (by simp [lg_sl, xk_cat1, xk_cati, xk_catl, xk_catd]) ?_
  intro p e s m args below meth c hC hr hin ha
  rw [show lv_args 0 [va_rf (x0), .int (x1)] = [(0, va_rf (x0)), (1, .int (x1))] by simp [lv_args, xk_cat1, xk_cati, xk_catl, xk_catd]]
  exact t_X8_sheet_0 hC hr x0 x1 w hf
def f_X8_gone (x0 : Option Nat) (w : xWd) : Option (Int32 × xWd) := (xk_gR w (x0) 5 3).bind (fun v1 => (xk_is w (v1) 4).bind (fun u3 => (f_Jx4a65c_iterator_32c93 (v1)  w).bind (fun q2 => (xk_is q2.2 (q2.1) 8).bind (fun u4 => (f_Jx35411_hasNext_aae02 (q2.1) q2.2).bind (fun q5 => if (q5.1) = ((0 : Int32)) then some ((0 : Int32), q5.2) else none)))))
set_option maxHeartbeats 4000000 in
set_option maxRecDepth 100000 in
theorem t_X8_gone_0 {p : Program} {l : Launch} {e : Env} {s : State} {m : MethodId} {args : Array Value} {below : List Frame} {meth : Method} {c : Code} {E : xEv} (hC : xk_C p s m args meth c E prog_7_method_52_code "ClickbookModel" 4) (hr : meth.sig.returnType = (some .int)) {q : (Int32 × xWd)} (x0 : Option Nat) (w : xWd) (hf : f_X8_gone x0 w = some q) : xk_X p l e { frames := 3, cells := 1, slots := 4, locals := 61 } s m args below meth c (MQ below (xk_Qi E q) args s 1 4 (xk_A E.2.2.1)) E 4 0 0 0 [(0, va_rf (x0))] [] w := by
  refine xk_iconst (v := (0 : Int32)) hC dX8_gone_0 (by decide) ?_
  refine xk_istore_n (i := 1) (lv' := [(1, .int ((0 : Int32))), (0, va_rf (x0))]) hC dX8_gone_1 rfl (by decide) (by simp [xk_cat1]) ?_
  refine xk_aload_n hC dX8_gone_2 1 rfl rfl ?_
  obtain ⟨v1, h1, hf⟩ := xk_bi hf
  refine xk_getR hC xi_5 xc_5 3 (by decide) xm_863 (Or.inl rfl) dX8_gone_3 h1 ?_
  obtain ⟨u3, h3, hf⟩ := xk_bi hf
  obtain ⟨q2, h2, hf⟩ := xk_bi hf
  refine xk_backq (xk_callV hC 0 xc_4 (c_Jx4a65c_iterator_32c93 h2) h3 xm_962 xm_963 xm_964 xm_4 xm_965 ⟨rfl, xd_Jx4a65c_iterator_32c93⟩ rfl ⟨Nat.le_of_ble_eq_true rfl, Nat.le_of_ble_eq_true rfl⟩ rfl (Nat.le_of_ble_eq_true rfl) dX8_gone_6 ⟨(Nat.le_of_ble_eq_true rfl), (Nat.le_of_ble_eq_true rfl)⟩) ?_
  refine xk_astore_n (i := 2) (lv' := [(2, va_rf (q2.1)), (1, .int ((0 : Int32))), (0, va_rf (x0))]) hC dX8_gone_9 rfl (by decide) rfl ?_
  refine xk_aload_n hC dX8_gone_10 0 rfl rfl ?_
  obtain ⟨u4, h4, hf⟩ := xk_bi hf
  obtain ⟨q5, h5, hf⟩ := xk_bi hf
  refine xk_callFi (av := []) (rest := []) hC 0 xc_8 (c_Jx35411_hasNext_aae02 h5) h4 (xk_note54 hC) xm_986 xm_990 xm_992 xm_23 xm_994 ⟨by decide +kernel, by decide +kernel, by decide +kernel⟩ rfl ⟨Nat.le_of_ble_eq_true rfl, Nat.le_of_ble_eq_true rfl⟩ rfl (Nat.le_of_ble_eq_true rfl) dX8_gone_11 ⟨(Nat.le_of_ble_eq_true rfl), (Nat.le_of_ble_eq_true rfl)⟩ ?_
  refine xk_if_eq (tgt := 47) hC dX8_gone_16 (by decide) (fun c6 => ?_) (fun c6 => ?_)
  · replace hf := (if_pos c6).symm.trans hf
    refine xk_iload_n hC dX8_gone_47 1 rfl rfl ?_
    cases hf
    refine xk_widen (k := 1) (n := 4) (Nat.le_of_ble_eq_true rfl) (Nat.le_of_ble_eq_true rfl) ?_
    exact xk_iret hC hr rfl dX8_gone_48
  · replace hf := (if_neg c6).symm.trans hf
    refine xk_aload_n hC dX8_gone_19 0 rfl rfl ?_
    cases hf
theorem xd_X8_gone : xy_X8_gone.cls ≠ "java/lang/invoke/MethodHandle" ∧ xy_X8_gone.cls ≠ "java/lang/invoke/VarHandle" ∧ (parseMethodDescriptor xy_X8_gone.desc).map (fun d => d.parameters.length) = some 0 := ⟨by decide +kernel, by decide +kernel, by decide +kernel⟩
theorem c_X8_gone {l : Launch} {E : xEv} {x0 : Option Nat} {w : xWd} {q : (Int32 × xWd)} (hf : f_X8_gone x0 w = some q) : xk_M l xy_X8_gone prog_7_method_52_code 4 (some .int) 3 61 1 4 E [va_rf (x0)] w (xk_Qi E q) := by
  refine xk_enter (by decide +kernel) (by simp [lg_sl, xk_cat1, xk_cati, xk_catl, xk_catd]) ?_
  intro p e s m args below meth c hC hr hin ha
  rw [show lv_args 0 [va_rf (x0)] = [(0, va_rf (x0))] by simp [lv_args, xk_cat1, xk_cati, xk_catl, xk_catd]]
  exact t_X8_gone_0 hC hr x0 w hf
def f_X8_frames (x0 : Option Nat) (w : xWd) : Option (Option Nat × xWd) := (xk_gR w (x0) 5 3).bind (fun v1 => (xk_is w (v1) 4).bind (fun u3 => (f_Jx4a65c_size_8abf5 (v1)  w).bind (fun q2 => (xk_nA q2.2 0 xk_d0 (q2.1) 64).bind (fun w4 => (xk_len w4 (some q2.2.2.1)).bind (fun v5 => if (v5) ≤ ((0 : Int32)) then some (some q2.2.2.1, w4) else (xk_gR w4 (x0) 5 3).bind (fun v7 => none))))))
set_option maxHeartbeats 4000000 in
set_option maxRecDepth 100000 in
theorem t_X8_frames_0 {p : Program} {l : Launch} {e : Env} {s : State} {m : MethodId} {args : Array Value} {below : List Frame} {meth : Method} {c : Code} {E : xEv} (hC : xk_C p s m args meth c E prog_7_method_14_code "ClickbookModel" 3) (hr : meth.sig.returnType = (some (.array .int))) {q : (Option Nat × xWd)} (x0 : Option Nat) (w : xWd) (hf : f_X8_frames x0 w = some q) : xk_X p l e { frames := 1, cells := 1, slots := 64, locals := 20 } s m args below meth c (MQ below (xk_Qq E q) args s 1 64 (xk_A E.2.2.1)) E 3 0 0 0 [(0, va_rf (x0))] [] w := by
  refine xk_aload_n hC dX8_frames_0 0 rfl rfl ?_
  obtain ⟨v1, h1, hf⟩ := xk_bi hf
  refine xk_getR hC xi_5 xc_5 3 (by decide) xm_863 (Or.inl rfl) dX8_frames_1 h1 ?_
  obtain ⟨u3, h3, hf⟩ := xk_bi hf
  obtain ⟨q2, h2, hf⟩ := xk_bi hf
  refine xk_backi (xk_callV hC 0 xc_4 (c_Jx4a65c_size_8abf5 h2) h3 xm_910 xm_131 xm_132 xm_4 xm_133 ⟨rfl, xd_Jx4a65c_size_8abf5⟩ rfl ⟨Nat.le_of_ble_eq_true rfl, Nat.le_of_ble_eq_true rfl⟩ rfl (Nat.le_of_ble_eq_true rfl) dX8_frames_4 ⟨(Nat.le_of_ble_eq_true rfl), (Nat.le_of_ble_eq_true rfl)⟩) ?_
  obtain ⟨w4, h4, hf⟩ := xk_bi hf
  refine xk_newarr (cap := 64) (atype := .int) (ty := .int) (kd := 0) hC rfl xm_84 (by decide) rfl (fun _ _ => rfl) (Nat.le_of_ble_eq_true rfl) (Nat.le_of_ble_eq_true rfl) (Nat.le_of_ble_eq_true rfl) dX8_frames_7 h4 ?_
  refine xk_astore_n (i := 1) (lv' := [(1, va_rf (some q2.2.2.1)), (0, va_rf (x0))]) hC dX8_frames_9 rfl (by decide) (by simp [xk_cat1]) ?_
  refine xk_iconst (v := (0 : Int32)) hC dX8_frames_10 (by decide) ?_
  refine xk_istore_n (i := 2) (lv' := [(2, .int ((0 : Int32))), (1, va_rf (some q2.2.2.1)), (0, va_rf (x0))]) hC dX8_frames_11 rfl (by decide) rfl ?_
  refine xk_iload_n hC dX8_frames_12 0 rfl rfl ?_
  refine xk_aload_n hC dX8_frames_13 1 rfl rfl ?_
  obtain ⟨v5, h5, hf⟩ := xk_bi hf
  refine xk_alen hC dX8_frames_14 h5 ?_
  refine xk_icmp_ge (tgt := 62) hC dX8_frames_15 (by decide) (fun c6 => ?_) (fun c6 => ?_)
  · replace hf := (if_pos c6).symm.trans hf
    refine xk_aload_n hC dX8_frames_62 1 rfl rfl ?_
    cases hf
    refine xk_widen (k := 1) (n := 64) (Nat.le_of_ble_eq_true rfl) (Nat.le_of_ble_eq_true rfl) ?_
    exact xk_aret hC hr (Or.inr ⟨_, rfl⟩) dX8_frames_63
  · replace hf := (if_neg c6).symm.trans hf
    refine xk_aload_n hC dX8_frames_18 1 rfl rfl ?_
    refine xk_iload_n hC dX8_frames_19 0 rfl rfl ?_
    refine xk_aload_n hC dX8_frames_20 2 rfl rfl ?_
    obtain ⟨v7, h7, hf⟩ := xk_bi hf
    refine xk_getR hC xi_5 xc_5 3 (by decide) xm_863 (Or.inl rfl) dX8_frames_21 h7 ?_
    refine xk_iload_n hC dX8_frames_24 0 rfl rfl ?_
    cases hf
theorem xd_X8_frames : xy_X8_frames.cls ≠ "java/lang/invoke/MethodHandle" ∧ xy_X8_frames.cls ≠ "java/lang/invoke/VarHandle" ∧ (parseMethodDescriptor xy_X8_frames.desc).map (fun d => d.parameters.length) = some 0 := ⟨by decide +kernel, by decide +kernel, by decide +kernel⟩
theorem c_X8_frames {l : Launch} {E : xEv} {x0 : Option Nat} {w : xWd} {q : (Option Nat × xWd)} (hf : f_X8_frames x0 w = some q) : xk_M l xy_X8_frames prog_7_method_14_code 3 (some (.array .int)) 1 20 1 64 E [va_rf (x0)] w (xk_Qq E q) := by
  refine xk_enter (by decide +kernel) (by simp [lg_sl, xk_cat1, xk_cati, xk_catl, xk_catd]) ?_
  intro p e s m args below meth c hC hr hin ha
  rw [show lv_args 0 [va_rf (x0)] = [(0, va_rf (x0))] by simp [lv_args, xk_cat1, xk_cati, xk_catl, xk_catd]]
  exact t_X8_frames_0 hC hr x0 w hf
def f_X8_miss_47 (k11 : Int32 → Int32 → Option Nat → Int32 → Int32 → xWd → Option (Int32 × xWd)) (x0 : Int32) (x2 : Int32) (x3 : Option Nat) (x4 : Int32) (x5 : Int32) (w : xWd) : Option (Int32 × xWd) := k11 x0 x2 x3 x4 (x5 + (1 : Int32)) w
set_option maxHeartbeats 4000000 in
set_option maxRecDepth 100000 in
theorem t_X8_miss_47 {p : Program} {l : Launch} {e : Env} {s : State} {m : MethodId} {args : Array Value} {below : List Frame} {meth : Method} {c : Code} {E : xEv} (hC : xk_C p s m args meth c E prog_7_method_10_code "ClickbookModel" 8) (hr : meth.sig.returnType = (some .int)) {q : (Int32 × xWd)} {k11 : Int32 → Int32 → Option Nat → Int32 → Int32 → xWd → Option (Int32 × xWd)} (hk11 : ∀ (x0 : Int32) (x2 : Int32) (x3 : Option Nat) (x4 : Int32) (x5 : Int32) (w : xWd), k11 x0 x2 x3 x4 x5 w = some q → xk_X p l e { frames := 1, cells := 0, slots := 0, locals := 21 } s m args below meth c (MQ below (xk_Qi E q) args s 0 0 (xk_A E.2.2.1)) E 8 0 0 11 [(0, .int (x0)), (2, .int (x2)), (3, va_rf (x3)), (4, .int (x4)), (5, .int (x5))] [] w) (x0 : Int32) (x2 : Int32) (x3 : Option Nat) (x4 : Int32) (x5 : Int32) (w : xWd) (hf : f_X8_miss_47 k11 x0 x2 x3 x4 x5 w = some q) : xk_X p l e { frames := 1, cells := 0, slots := 0, locals := 21 } s m args below meth c (MQ below (xk_Qi E q) args s 0 0 (xk_A E.2.2.1)) E 8 0 0 47 [(0, .int (x0)), (2, .int (x2)), (3, va_rf (x3)), (4, .int (x4)), (5, .int (x5))] [] w := by
  refine xk_iinc (v := x5 + (1 : Int32)) (lv' := [(5, .int (x5 + (1 : Int32))), (0, .int (x0)), (2, .int (x2)), (3, va_rf (x3)), (4, .int (x4))]) hC dX8_miss_47 4 rfl rfl (by decide) rfl ?_
  refine xk_goto (tgt := 11) hC dX8_miss_50 (by decide) ?_
  refine xk_locals [1, 2, 3, 4, 0] rfl ?_
  exact hk11 x0 x2 x3 x4 (x5 + (1 : Int32)) w hf
def f_X8_miss_44 (k11 : Int32 → Int32 → Option Nat → Int32 → Int32 → xWd → Option (Int32 × xWd)) (x0 : Int32) (x3 : Option Nat) (x4 : Int32) (x5 : Int32) (x7 : Int32) (w : xWd) : Option (Int32 × xWd) := f_X8_miss_47 k11 x0 x7 x3 x4 x5 w
set_option maxHeartbeats 4000000 in
set_option maxRecDepth 100000 in
theorem t_X8_miss_44 {p : Program} {l : Launch} {e : Env} {s : State} {m : MethodId} {args : Array Value} {below : List Frame} {meth : Method} {c : Code} {E : xEv} (hC : xk_C p s m args meth c E prog_7_method_10_code "ClickbookModel" 8) (hr : meth.sig.returnType = (some .int)) {q : (Int32 × xWd)} {k11 : Int32 → Int32 → Option Nat → Int32 → Int32 → xWd → Option (Int32 × xWd)} (hk11 : ∀ (x0 : Int32) (x2 : Int32) (x3 : Option Nat) (x4 : Int32) (x5 : Int32) (w : xWd), k11 x0 x2 x3 x4 x5 w = some q → xk_X p l e { frames := 1, cells := 0, slots := 0, locals := 21 } s m args below meth c (MQ below (xk_Qi E q) args s 0 0 (xk_A E.2.2.1)) E 8 0 0 11 [(0, .int (x0)), (2, .int (x2)), (3, va_rf (x3)), (4, .int (x4)), (5, .int (x5))] [] w) (x0 : Int32) (x3 : Option Nat) (x4 : Int32) (x5 : Int32) (x7 : Int32) (w : xWd) (hf : f_X8_miss_44 k11 x0 x3 x4 x5 x7 w = some q) : xk_X p l e { frames := 1, cells := 0, slots := 0, locals := 21 } s m args below meth c (MQ below (xk_Qi E q) args s 0 0 (xk_A E.2.2.1)) E 8 0 0 44 [(0, .int (x0)), (3, va_rf (x3)), (4, .int (x4)), (5, .int (x5)), (7, .int (x7))] [] w := by
  refine xk_iload hC dX8_miss_44 4 rfl ?_
  refine xk_istore_n (i := 2) (lv' := [(2, .int (x7)), (0, .int (x0)), (3, va_rf (x3)), (4, .int (x4)), (5, .int (x5)), (7, .int (x7))]) hC dX8_miss_46 rfl (by decide) rfl ?_
  refine xk_locals [1, 0, 2, 3, 4] rfl ?_
  exact t_X8_miss_47 hC hr hk11 x0 x7 x3 x4 x5 w hf
def f_X8_miss_11 : Nat → Int32 → Int32 → Option Nat → Int32 → Int32 → xWd → Option (Int32 × xWd)
  | 0, _, _, _, _, _, _ => none
  | n + 1, x0, x2, x3, x4, x5, w => if (x4) ≤ (x5) then some (x2, w) else (xk_lI 0 w (x3) (x5)).bind (fun v2 => if (x2) = ((-1 : Int32)) then f_X8_miss_44 (f_X8_miss_11 n) x0 x3 x4 x5 (if 0 ≤ ((v2) - (x0)) then ((v2) - (x0)) else 0 - ((v2) - (x0))) w else if (x2) ≤ (if 0 ≤ ((v2) - (x0)) then ((v2) - (x0)) else 0 - ((v2) - (x0))) then f_X8_miss_47 (f_X8_miss_11 n) x0 x2 x3 x4 x5 w else f_X8_miss_44 (f_X8_miss_11 n) x0 x3 x4 x5 (if 0 ≤ ((v2) - (x0)) then ((v2) - (x0)) else 0 - ((v2) - (x0))) w)
set_option maxHeartbeats 4000000 in
set_option maxRecDepth 100000 in
theorem t_X8_miss_11 {p : Program} {l : Launch} {e : Env} {s : State} {m : MethodId} {args : Array Value} {below : List Frame} {meth : Method} {c : Code} {E : xEv} (hC : xk_C p s m args meth c E prog_7_method_10_code "ClickbookModel" 8) (hr : meth.sig.returnType = (some .int)) {q : (Int32 × xWd)} : ∀ (n : Nat) (x0 : Int32) (x2 : Int32) (x3 : Option Nat) (x4 : Int32) (x5 : Int32) (w : xWd), f_X8_miss_11 n x0 x2 x3 x4 x5 w = some q → xk_X p l e { frames := 1, cells := 0, slots := 0, locals := 21 } s m args below meth c (MQ below (xk_Qi E q) args s 0 0 (xk_A E.2.2.1)) E 8 0 0 11 [(0, .int (x0)), (2, .int (x2)), (3, va_rf (x3)), (4, .int (x4)), (5, .int (x5))] [] w := by
  intro n
  induction n with
  | zero => intro x0 x2 x3 x4 x5 w hf; have hf : none = some q := hf; cases hf
  | succ n ih =>
    intro x0 x2 x3 x4 x5 w hf
    refine xk_iload hC dX8_miss_11 4 rfl ?_
    refine xk_iload hC dX8_miss_13 3 rfl ?_
    refine xk_icmp_ge (tgt := 53) hC dX8_miss_15 (by decide) (fun c1 => ?_) (fun c1 => ?_)
    · replace hf := (if_pos c1).symm.trans hf
      refine xk_iload_n hC dX8_miss_53 1 rfl rfl ?_
      cases hf
      refine xk_widen (k := 0) (n := 0) (Nat.le_of_ble_eq_true rfl) (Nat.le_of_ble_eq_true rfl) ?_
      exact xk_iret hC hr rfl dX8_miss_54
    · replace hf := (if_neg c1).symm.trans hf
      refine xk_aload_n hC dX8_miss_18 2 rfl rfl ?_
      refine xk_iload hC dX8_miss_19 4 rfl ?_
      obtain ⟨v2, h2, hf⟩ := xk_bi hf
      refine xk_iald hC rfl dX8_miss_21 h2 ?_
      refine xk_istore (i := 6) (lv' := [(6, .int (v2)), (0, .int (x0)), (2, .int (x2)), (3, va_rf (x3)), (4, .int (x4)), (5, .int (x5))]) hC dX8_miss_22 (by decide) rfl ?_
      refine xk_iload hC dX8_miss_24 0 rfl ?_
      refine xk_iload_n hC dX8_miss_26 1 rfl rfl ?_
      refine xk_isub hC dX8_miss_27 ?_
      refine xk_mabs hC xm_1146 xm_193 xm_14 xm_194 (Nat.le_of_ble_eq_true rfl) (Nat.le_of_ble_eq_true rfl) (Nat.le_of_ble_eq_true rfl) (Nat.le_of_ble_eq_true rfl) dX8_miss_28 ?_
      refine xk_istore (i := 7) (lv' := [(7, .int (if 0 ≤ ((v2) - (x0)) then ((v2) - (x0)) else 0 - ((v2) - (x0)))), (6, .int (v2)), (0, .int (x0)), (2, .int (x2)), (3, va_rf (x3)), (4, .int (x4)), (5, .int (x5))]) hC dX8_miss_31 (by decide) rfl ?_
      refine xk_iload_n hC dX8_miss_33 3 rfl rfl ?_
      refine xk_iconst (v := (-1 : Int32)) hC dX8_miss_34 (by decide) ?_
      refine xk_icmp_eq (tgt := 44) hC dX8_miss_35 (by decide) (fun c3 => ?_) (fun c3 => ?_)
      · replace hf := (if_pos c3).symm.trans hf
        refine xk_locals [2, 4, 5, 6, 0] rfl ?_
        exact t_X8_miss_44 hC hr (fun x0 x2 x3 x4 x5 w hf => ih x0 x2 x3 x4 x5 w hf) x0 x3 x4 x5 (if 0 ≤ ((v2) - (x0)) then ((v2) - (x0)) else 0 - ((v2) - (x0))) w hf
      · replace hf := (if_neg c3).symm.trans hf
        refine xk_iload hC dX8_miss_38 0 rfl ?_
        refine xk_iload_n hC dX8_miss_40 3 rfl rfl ?_
        refine xk_icmp_ge (tgt := 47) hC dX8_miss_41 (by decide) (fun c4 => ?_) (fun c4 => ?_)
        · replace hf := (if_pos c4).symm.trans hf
          refine xk_locals [2, 3, 4, 5, 6] rfl ?_
          exact t_X8_miss_47 hC hr (fun x0 x2 x3 x4 x5 w hf => ih x0 x2 x3 x4 x5 w hf) x0 x2 x3 x4 x5 w hf
        · replace hf := (if_neg c4).symm.trans hf
          refine xk_locals [2, 4, 5, 6, 0] rfl ?_
          exact t_X8_miss_44 hC hr (fun x0 x2 x3 x4 x5 w hf => ih x0 x2 x3 x4 x5 w hf) x0 x3 x4 x5 (if 0 ≤ ((v2) - (x0)) then ((v2) - (x0)) else 0 - ((v2) - (x0))) w hf
def f_X8_miss (x0 : Int32) (x1 : Option Nat) (w : xWd) : Option (Int32 × xWd) := (xk_len w (x1)).bind (fun v1 => f_X8_miss_11 24 x0 ((-1 : Int32)) x1 v1 ((0 : Int32)) w)
set_option maxHeartbeats 4000000 in
set_option maxRecDepth 100000 in
theorem t_X8_miss_0 {p : Program} {l : Launch} {e : Env} {s : State} {m : MethodId} {args : Array Value} {below : List Frame} {meth : Method} {c : Code} {E : xEv} (hC : xk_C p s m args meth c E prog_7_method_10_code "ClickbookModel" 8) (hr : meth.sig.returnType = (some .int)) {q : (Int32 × xWd)} (x0 : Int32) (x1 : Option Nat) (w : xWd) (hf : f_X8_miss x0 x1 w = some q) : xk_X p l e { frames := 1, cells := 0, slots := 0, locals := 21 } s m args below meth c (MQ below (xk_Qi E q) args s 0 0 (xk_A E.2.2.1)) E 8 0 0 0 [(0, .int (x0)), (1, va_rf (x1))] [] w := by
  refine xk_iconst (v := (-1 : Int32)) hC dX8_miss_0 (by decide) ?_
  refine xk_istore_n (i := 2) (lv' := [(2, .int ((-1 : Int32))), (0, .int (x0)), (1, va_rf (x1))]) hC dX8_miss_1 rfl (by decide) (by simp [xk_cat1]) ?_
  refine xk_aload_n hC dX8_miss_2 2 rfl rfl ?_
  refine xk_astore_n (i := 3) (lv' := [(3, va_rf (x1)), (2, .int ((-1 : Int32))), (0, .int (x0)), (1, va_rf (x1))]) hC dX8_miss_3 rfl (by decide) rfl ?_
  refine xk_aload_n hC dX8_miss_4 0 rfl rfl ?_
  obtain ⟨v1, h1, hf⟩ := xk_bi hf
  refine xk_alen hC dX8_miss_5 h1 ?_
  refine xk_istore (i := 4) (lv' := [(4, .int (v1)), (3, va_rf (x1)), (2, .int ((-1 : Int32))), (0, .int (x0)), (1, va_rf (x1))]) hC dX8_miss_6 (by decide) (by simp [xk_cat1]) ?_
  refine xk_iconst (v := (0 : Int32)) hC dX8_miss_8 (by decide) ?_
  refine xk_istore (i := 5) (lv' := [(5, .int ((0 : Int32))), (4, .int (v1)), (3, va_rf (x1)), (2, .int ((-1 : Int32))), (0, .int (x0)), (1, va_rf (x1))]) hC dX8_miss_9 (by decide) rfl ?_
  refine xk_locals [4, 3, 2, 1, 0] rfl ?_
  exact t_X8_miss_11 hC hr 24 x0 ((-1 : Int32)) x1 v1 ((0 : Int32)) w hf
theorem xd_X8_miss : xy_X8_miss.cls ≠ "java/lang/invoke/MethodHandle" ∧ xy_X8_miss.cls ≠ "java/lang/invoke/VarHandle" ∧ (parseMethodDescriptor xy_X8_miss.desc).map (fun d => d.parameters.length) = some 2 := ⟨by decide +kernel, by decide +kernel, by decide +kernel⟩
theorem c_X8_miss {l : Launch} {E : xEv} {x0 : Int32} {x1 : Option Nat} {w : xWd} {q : (Int32 × xWd)} (hf : f_X8_miss x0 x1 w = some q) : xk_M l xy_X8_miss prog_7_method_10_code 8 (some .int) 1 21 0 0 E [.int (x0), va_rf (x1)] w (xk_Qi E q) := by
  refine xk_enter (by decide +kernel) (by simp [lg_sl, xk_cat1, xk_cati, xk_catl, xk_catd]) ?_
  intro p e s m args below meth c hC hr hin ha
  rw [show lv_args 0 [.int (x0), va_rf (x1)] = [(0, .int (x0)), (1, va_rf (x1))] by simp [lv_args, xk_cat1, xk_cati, xk_catl, xk_catd]]
  exact t_X8_miss_0 hC hr x0 x1 w hf
def f_X8_miss__52 (k11 : Int32 → Int32 → Option Nat → Int32 → Int32 → xWd → Option (Int32 × xWd)) (x0 : Int32) (x2 : Int32) (x3 : Option Nat) (x4 : Int32) (x5 : Int32) (w : xWd) : Option (Int32 × xWd) := k11 x0 x2 x3 x4 (x5 + (1 : Int32)) w
set_option maxHeartbeats 4000000 in
set_option maxRecDepth 100000 in
theorem t_X8_miss__52 {p : Program} {l : Launch} {e : Env} {s : State} {m : MethodId} {args : Array Value} {below : List Frame} {meth : Method} {c : Code} {E : xEv} (hC : xk_C p s m args meth c E prog_7_method_12_code "ClickbookModel" 8) (hr : meth.sig.returnType = (some .int)) {q : (Int32 × xWd)} {k11 : Int32 → Int32 → Option Nat → Int32 → Int32 → xWd → Option (Int32 × xWd)} (hk11 : ∀ (x0 : Int32) (x2 : Int32) (x3 : Option Nat) (x4 : Int32) (x5 : Int32) (w : xWd), k11 x0 x2 x3 x4 x5 w = some q → xk_X p l e { frames := 2, cells := 0, slots := 0, locals := 48 } s m args below meth c (MQ below (xk_Qi E q) args s 0 0 (xk_A E.2.2.1)) E 8 0 0 11 [(0, .int (x0)), (2, .int (x2)), (3, va_rf (x3)), (4, .int (x4)), (5, .int (x5))] [] w) (x0 : Int32) (x2 : Int32) (x3 : Option Nat) (x4 : Int32) (x5 : Int32) (w : xWd) (hf : f_X8_miss__52 k11 x0 x2 x3 x4 x5 w = some q) : xk_X p l e { frames := 2, cells := 0, slots := 0, locals := 48 } s m args below meth c (MQ below (xk_Qi E q) args s 0 0 (xk_A E.2.2.1)) E 8 0 0 52 [(0, .int (x0)), (2, .int (x2)), (3, va_rf (x3)), (4, .int (x4)), (5, .int (x5))] [] w := by
  refine xk_iinc (v := x5 + (1 : Int32)) (lv' := [(5, .int (x5 + (1 : Int32))), (0, .int (x0)), (2, .int (x2)), (3, va_rf (x3)), (4, .int (x4))]) hC dX8_miss__52 4 rfl rfl (by decide) rfl ?_
  refine xk_goto (tgt := 11) hC dX8_miss__55 (by decide) ?_
  refine xk_locals [1, 2, 3, 4, 0] rfl ?_
  exact hk11 x0 x2 x3 x4 (x5 + (1 : Int32)) w hf
def f_X8_miss__49 (k11 : Int32 → Int32 → Option Nat → Int32 → Int32 → xWd → Option (Int32 × xWd)) (x0 : Int32) (x3 : Option Nat) (x4 : Int32) (x5 : Int32) (x7 : Int32) (w : xWd) : Option (Int32 × xWd) := f_X8_miss__52 k11 x0 x7 x3 x4 x5 w
set_option maxHeartbeats 4000000 in
set_option maxRecDepth 100000 in
theorem t_X8_miss__49 {p : Program} {l : Launch} {e : Env} {s : State} {m : MethodId} {args : Array Value} {below : List Frame} {meth : Method} {c : Code} {E : xEv} (hC : xk_C p s m args meth c E prog_7_method_12_code "ClickbookModel" 8) (hr : meth.sig.returnType = (some .int)) {q : (Int32 × xWd)} {k11 : Int32 → Int32 → Option Nat → Int32 → Int32 → xWd → Option (Int32 × xWd)} (hk11 : ∀ (x0 : Int32) (x2 : Int32) (x3 : Option Nat) (x4 : Int32) (x5 : Int32) (w : xWd), k11 x0 x2 x3 x4 x5 w = some q → xk_X p l e { frames := 2, cells := 0, slots := 0, locals := 48 } s m args below meth c (MQ below (xk_Qi E q) args s 0 0 (xk_A E.2.2.1)) E 8 0 0 11 [(0, .int (x0)), (2, .int (x2)), (3, va_rf (x3)), (4, .int (x4)), (5, .int (x5))] [] w) (x0 : Int32) (x3 : Option Nat) (x4 : Int32) (x5 : Int32) (x7 : Int32) (w : xWd) (hf : f_X8_miss__49 k11 x0 x3 x4 x5 x7 w = some q) : xk_X p l e { frames := 2, cells := 0, slots := 0, locals := 48 } s m args below meth c (MQ below (xk_Qi E q) args s 0 0 (xk_A E.2.2.1)) E 8 0 0 49 [(0, .int (x0)), (3, va_rf (x3)), (4, .int (x4)), (5, .int (x5)), (7, .int (x7))] [] w := by
  refine xk_iload hC dX8_miss__49 4 rfl ?_
  refine xk_istore_n (i := 2) (lv' := [(2, .int (x7)), (0, .int (x0)), (3, va_rf (x3)), (4, .int (x4)), (5, .int (x5)), (7, .int (x7))]) hC dX8_miss__51 rfl (by decide) rfl ?_
  refine xk_locals [1, 0, 2, 3, 4] rfl ?_
  exact t_X8_miss__52 hC hr hk11 x0 x7 x3 x4 x5 w hf
def f_X8_miss__11 : Nat → Int32 → Int32 → Option Nat → Int32 → Int32 → xWd → Option (Int32 × xWd)
  | 0, _, _, _, _, _, _ => none
  | n + 1, x0, x2, x3, x4, x5, w => if (x4) ≤ (x5) then some (x2, w) else (xk_lR 2 w (x3) (x5)).bind (fun v2 => (f_X8_miss (x0) (v2) w).bind (fun q3 => if (q3.1) = ((-1 : Int32)) then f_X8_miss__52 (f_X8_miss__11 n) x0 x2 x3 x4 x5 (q3.2) else if (x2) = ((-1 : Int32)) then f_X8_miss__49 (f_X8_miss__11 n) x0 x3 x4 x5 (q3.1) (q3.2) else if (x2) ≤ (q3.1) then f_X8_miss__52 (f_X8_miss__11 n) x0 x2 x3 x4 x5 (q3.2) else f_X8_miss__49 (f_X8_miss__11 n) x0 x3 x4 x5 (q3.1) (q3.2)))
set_option maxHeartbeats 4000000 in
set_option maxRecDepth 100000 in
theorem t_X8_miss__11 {p : Program} {l : Launch} {e : Env} {s : State} {m : MethodId} {args : Array Value} {below : List Frame} {meth : Method} {c : Code} {E : xEv} (hC : xk_C p s m args meth c E prog_7_method_12_code "ClickbookModel" 8) (hr : meth.sig.returnType = (some .int)) {q : (Int32 × xWd)} : ∀ (n : Nat) (x0 : Int32) (x2 : Int32) (x3 : Option Nat) (x4 : Int32) (x5 : Int32) (w : xWd), f_X8_miss__11 n x0 x2 x3 x4 x5 w = some q → xk_X p l e { frames := 2, cells := 0, slots := 0, locals := 48 } s m args below meth c (MQ below (xk_Qi E q) args s 0 0 (xk_A E.2.2.1)) E 8 0 0 11 [(0, .int (x0)), (2, .int (x2)), (3, va_rf (x3)), (4, .int (x4)), (5, .int (x5))] [] w := by
  intro n
  induction n with
  | zero => intro x0 x2 x3 x4 x5 w hf; have hf : none = some q := hf; cases hf
  | succ n ih =>
    intro x0 x2 x3 x4 x5 w hf
    refine xk_iload hC dX8_miss__11 4 rfl ?_
    refine xk_iload hC dX8_miss__13 3 rfl ?_
    refine xk_icmp_ge (tgt := 58) hC dX8_miss__15 (by decide) (fun c1 => ?_) (fun c1 => ?_)
    · replace hf := (if_pos c1).symm.trans hf
      refine xk_iload_n hC dX8_miss__58 1 rfl rfl ?_
      cases hf
      refine xk_widen (k := 0) (n := 0) (Nat.le_of_ble_eq_true rfl) (Nat.le_of_ble_eq_true rfl) ?_
      exact xk_iret hC hr rfl dX8_miss__59
    · replace hf := (if_neg c1).symm.trans hf
      refine xk_aload_n hC dX8_miss__18 2 rfl rfl ?_
      refine xk_iload hC dX8_miss__19 4 rfl ?_
      obtain ⟨v2, h2, hf⟩ := xk_bi hf
      refine xk_aald hC rfl dX8_miss__21 h2 ?_
      refine xk_astore (i := 6) (lv' := [(6, va_rf (v2)), (0, .int (x0)), (2, .int (x2)), (3, va_rf (x3)), (4, .int (x4)), (5, .int (x5))]) hC dX8_miss__22 (by decide) rfl ?_
      refine xk_iload_n hC dX8_miss__24 1 rfl rfl ?_
      refine xk_aload hC dX8_miss__25 0 rfl ?_
      obtain ⟨q3, h3, hf⟩ := xk_bi hf
      refine xk_backi (xk_callS hC 2 (c_X8_miss h3) xm_1143 xm_1144 xm_6 xm_1145 xd_X8_miss rfl ⟨Nat.le_of_ble_eq_true rfl, Nat.le_of_ble_eq_true rfl⟩ rfl (Nat.le_of_ble_eq_true rfl) dX8_miss__27 ⟨(Nat.le_of_ble_eq_true rfl), (Nat.le_of_ble_eq_true rfl)⟩) ?_
      refine xk_istore (i := 7) (lv' := [(7, .int (q3.1)), (6, va_rf (v2)), (0, .int (x0)), (2, .int (x2)), (3, va_rf (x3)), (4, .int (x4)), (5, .int (x5))]) hC dX8_miss__30 (by decide) (by simp [xk_cat1]) ?_
      refine xk_iload hC dX8_miss__32 0 rfl ?_
      refine xk_iconst (v := (-1 : Int32)) hC dX8_miss__34 (by decide) ?_
      refine xk_icmp_eq (tgt := 52) hC dX8_miss__35 (by decide) (fun c4 => ?_) (fun c4 => ?_)
      · replace hf := (if_pos c4).symm.trans hf
        refine xk_locals [2, 3, 4, 5, 6] rfl ?_
        exact t_X8_miss__52 hC hr (fun x0 x2 x3 x4 x5 w hf => ih x0 x2 x3 x4 x5 w hf) x0 x2 x3 x4 x5 (q3.2) hf
      · replace hf := (if_neg c4).symm.trans hf
        refine xk_iload_n hC dX8_miss__38 3 rfl rfl ?_
        refine xk_iconst (v := (-1 : Int32)) hC dX8_miss__39 (by decide) ?_
        refine xk_icmp_eq (tgt := 49) hC dX8_miss__40 (by decide) (fun c5 => ?_) (fun c5 => ?_)
        · replace hf := (if_pos c5).symm.trans hf
          refine xk_locals [2, 4, 5, 6, 0] rfl ?_
          exact t_X8_miss__49 hC hr (fun x0 x2 x3 x4 x5 w hf => ih x0 x2 x3 x4 x5 w hf) x0 x3 x4 x5 (q3.1) (q3.2) hf
        · replace hf := (if_neg c5).symm.trans hf
          refine xk_iload hC dX8_miss__43 0 rfl ?_
          refine xk_iload_n hC dX8_miss__45 3 rfl rfl ?_
          refine xk_icmp_ge (tgt := 52) hC dX8_miss__46 (by decide) (fun c6 => ?_) (fun c6 => ?_)
          · replace hf := (if_pos c6).symm.trans hf
            refine xk_locals [2, 3, 4, 5, 6] rfl ?_
            exact t_X8_miss__52 hC hr (fun x0 x2 x3 x4 x5 w hf => ih x0 x2 x3 x4 x5 w hf) x0 x2 x3 x4 x5 (q3.2) hf
          · replace hf := (if_neg c6).symm.trans hf
            refine xk_locals [2, 4, 5, 6, 0] rfl ?_
            exact t_X8_miss__49 hC hr (fun x0 x2 x3 x4 x5 w hf => ih x0 x2 x3 x4 x5 w hf) x0 x3 x4 x5 (q3.1) (q3.2) hf
def f_X8_miss_ (x0 : Int32) (x1 : Option Nat) (w : xWd) : Option (Int32 × xWd) := (xk_len w (x1)).bind (fun v1 => f_X8_miss__11 24 x0 ((-1 : Int32)) x1 v1 ((0 : Int32)) w)
set_option maxHeartbeats 4000000 in
set_option maxRecDepth 100000 in
theorem t_X8_miss__0 {p : Program} {l : Launch} {e : Env} {s : State} {m : MethodId} {args : Array Value} {below : List Frame} {meth : Method} {c : Code} {E : xEv} (hC : xk_C p s m args meth c E prog_7_method_12_code "ClickbookModel" 8) (hr : meth.sig.returnType = (some .int)) {q : (Int32 × xWd)} (x0 : Int32) (x1 : Option Nat) (w : xWd) (hf : f_X8_miss_ x0 x1 w = some q) : xk_X p l e { frames := 2, cells := 0, slots := 0, locals := 48 } s m args below meth c (MQ below (xk_Qi E q) args s 0 0 (xk_A E.2.2.1)) E 8 0 0 0 [(0, .int (x0)), (1, va_rf (x1))] [] w := by
  refine xk_iconst (v := (-1 : Int32)) hC dX8_miss__0 (by decide) ?_
  refine xk_istore_n (i := 2) (lv' := [(2, .int ((-1 : Int32))), (0, .int (x0)), (1, va_rf (x1))]) hC dX8_miss__1 rfl (by decide) (by simp [xk_cat1]) ?_
  refine xk_aload_n hC dX8_miss__2 2 rfl rfl ?_
  refine xk_astore_n (i := 3) (lv' := [(3, va_rf (x1)), (2, .int ((-1 : Int32))), (0, .int (x0)), (1, va_rf (x1))]) hC dX8_miss__3 rfl (by decide) rfl ?_
  refine xk_aload_n hC dX8_miss__4 0 rfl rfl ?_
  obtain ⟨v1, h1, hf⟩ := xk_bi hf
  refine xk_alen hC dX8_miss__5 h1 ?_
  refine xk_istore (i := 4) (lv' := [(4, .int (v1)), (3, va_rf (x1)), (2, .int ((-1 : Int32))), (0, .int (x0)), (1, va_rf (x1))]) hC dX8_miss__6 (by decide) (by simp [xk_cat1]) ?_
  refine xk_iconst (v := (0 : Int32)) hC dX8_miss__8 (by decide) ?_
  refine xk_istore (i := 5) (lv' := [(5, .int ((0 : Int32))), (4, .int (v1)), (3, va_rf (x1)), (2, .int ((-1 : Int32))), (0, .int (x0)), (1, va_rf (x1))]) hC dX8_miss__9 (by decide) rfl ?_
  refine xk_locals [4, 3, 2, 1, 0] rfl ?_
  exact t_X8_miss__11 hC hr 24 x0 ((-1 : Int32)) x1 v1 ((0 : Int32)) w hf
theorem xd_X8_miss_ : xy_X8_miss_.cls ≠ "java/lang/invoke/MethodHandle" ∧ xy_X8_miss_.cls ≠ "java/lang/invoke/VarHandle" ∧ (parseMethodDescriptor xy_X8_miss_.desc).map (fun d => d.parameters.length) = some 2 := ⟨by decide +kernel, by decide +kernel, by decide +kernel⟩
theorem c_X8_miss_ {l : Launch} {E : xEv} {x0 : Int32} {x1 : Option Nat} {w : xWd} {q : (Int32 × xWd)} (hf : f_X8_miss_ x0 x1 w = some q) : xk_M l xy_X8_miss_ prog_7_method_12_code 8 (some .int) 2 48 0 0 E [.int (x0), va_rf (x1)] w (xk_Qi E q) := by
  refine xk_enter (by decide +kernel) (by simp [lg_sl, xk_cat1, xk_cati, xk_catl, xk_catd]) ?_
  intro p e s m args below meth c hC hr hin ha
  rw [show lv_args 0 [.int (x0), va_rf (x1)] = [(0, .int (x0)), (1, va_rf (x1))] by simp [lv_args, xk_cat1, xk_cati, xk_catl, xk_catd]]
  exact t_X8_miss__0 hC hr x0 x1 w hf
def f_X8_met_32 (k5 : Option Nat → Option Nat → Option Nat → Int32 → Int32 → xWd → Option (Int32 × xWd)) (x0 : Option Nat) (x1 : Option Nat) (x2 : Option Nat) (x3 : Int32) (x4 : Int32) (s0 : Int32) (w : xWd) : Option (Int32 × xWd) := if (s0) = ((-1 : Int32)) then k5 x0 x1 x2 ((x3) + ((0 : Int32))) (x4 + (1 : Int32)) w else (xk_gR w (x0) 5 3).bind (fun v2 => none)
set_option maxHeartbeats 4000000 in
set_option maxRecDepth 100000 in
theorem t_X8_met_32 {p : Program} {l : Launch} {e : Env} {s : State} {m : MethodId} {args : Array Value} {below : List Frame} {meth : Method} {c : Code} {E : xEv} (hC : xk_C p s m args meth c E prog_7_method_13_code "ClickbookModel" 6) (hr : meth.sig.returnType = (some .int)) {q : (Int32 × xWd)} {k5 : Option Nat → Option Nat → Option Nat → Int32 → Int32 → xWd → Option (Int32 × xWd)} (hk5 : ∀ (x0 : Option Nat) (x1 : Option Nat) (x2 : Option Nat) (x3 : Int32) (x4 : Int32) (w : xWd), k5 x0 x1 x2 x3 x4 w = some q → xk_X p l e { frames := 3, cells := 0, slots := 0, locals := 75 } s m args below meth c (MQ below (xk_Qi E q) args s 0 0 (xk_A E.2.2.1)) E 6 0 0 5 [(0, va_rf (x0)), (1, va_rf (x1)), (2, va_rf (x2)), (3, .int (x3)), (4, .int (x4))] [] w) (x0 : Option Nat) (x1 : Option Nat) (x2 : Option Nat) (x3 : Int32) (x4 : Int32) (s0 : Int32) (w : xWd) (hf : f_X8_met_32 k5 x0 x1 x2 x3 x4 s0 w = some q) : xk_X p l e { frames := 3, cells := 0, slots := 0, locals := 75 } s m args below meth c (MQ below (xk_Qi E q) args s 0 0 (xk_A E.2.2.1)) E 6 0 0 32 [(0, va_rf (x0)), (1, va_rf (x1)), (2, va_rf (x2)), (3, .int (x3)), (4, .int (x4))] [.int (s0)] w := by
  refine xk_istore (i := 5) (lv' := [(5, .int (s0)), (0, va_rf (x0)), (1, va_rf (x1)), (2, va_rf (x2)), (3, .int (x3)), (4, .int (x4))]) hC dX8_met_32 (by decide) rfl ?_
  refine xk_iload_n hC dX8_met_34 4 rfl rfl ?_
  refine xk_iload hC dX8_met_35 0 rfl ?_
  refine xk_iconst (v := (-1 : Int32)) hC dX8_met_37 (by decide) ?_
  refine xk_icmp_eq (tgt := 65) hC dX8_met_38 (by decide) (fun c1 => ?_) (fun c1 => ?_)
  · replace hf := (if_pos c1).symm.trans hf
    refine xk_iconst (v := (0 : Int32)) hC dX8_met_65 (by decide) ?_
    refine xk_iadd hC dX8_met_66 ?_
    refine xk_istore_n (i := 3) (lv' := [(3, .int ((x3) + ((0 : Int32)))), (5, .int (s0)), (0, va_rf (x0)), (1, va_rf (x1)), (2, va_rf (x2)), (4, .int (x4))]) hC dX8_met_67 rfl (by decide) (by simp [xk_cat1]) ?_
    refine xk_iinc (v := x4 + (1 : Int32)) (lv' := [(4, .int (x4 + (1 : Int32))), (3, .int ((x3) + ((0 : Int32)))), (5, .int (s0)), (0, va_rf (x0)), (1, va_rf (x1)), (2, va_rf (x2))]) hC dX8_met_68 5 rfl rfl (by decide) rfl ?_
    refine xk_goto (tgt := 5) hC dX8_met_71 (by decide) ?_
    refine xk_locals [3, 4, 5, 1, 0] rfl ?_
    exact hk5 x0 x1 x2 ((x3) + ((0 : Int32))) (x4 + (1 : Int32)) w hf
  · replace hf := (if_neg c1).symm.trans hf
    refine xk_iload hC dX8_met_41 0 rfl ?_
    refine xk_aload_n hC dX8_met_43 1 rfl rfl ?_
    obtain ⟨v2, h2, hf⟩ := xk_bi hf
    refine xk_getR hC xi_5 xc_5 3 (by decide) xm_863 (Or.inl rfl) dX8_met_44 h2 ?_
    refine xk_iload hC dX8_met_47 5 rfl ?_
    cases hf
def f_X8_met_5 : Nat → Option Nat → Option Nat → Option Nat → Int32 → Int32 → xWd → Option (Int32 × xWd)
  | 0, _, _, _, _, _, _ => none
  | n + 1, x0, x1, x2, x3, x4, w => (xk_len w (x1)).bind (fun v1 => if (v1) ≤ (x4) then some (x3, w) else (xk_lI 0 w (x1) (x4)).bind (fun v3 => if (v3) = ((-1 : Int32)) then f_X8_met_32 (f_X8_met_5 n) x0 x1 x2 x3 x4 ((-1 : Int32)) w else (xk_lI 0 w (x1) (x4)).bind (fun v5 => (f_X8_miss_ (v5) (x2) w).bind (fun q6 => f_X8_met_32 (f_X8_met_5 n) x0 x1 x2 x3 x4 (q6.1) (q6.2)))))
set_option maxHeartbeats 4000000 in
set_option maxRecDepth 100000 in
theorem t_X8_met_5 {p : Program} {l : Launch} {e : Env} {s : State} {m : MethodId} {args : Array Value} {below : List Frame} {meth : Method} {c : Code} {E : xEv} (hC : xk_C p s m args meth c E prog_7_method_13_code "ClickbookModel" 6) (hr : meth.sig.returnType = (some .int)) {q : (Int32 × xWd)} : ∀ (n : Nat) (x0 : Option Nat) (x1 : Option Nat) (x2 : Option Nat) (x3 : Int32) (x4 : Int32) (w : xWd), f_X8_met_5 n x0 x1 x2 x3 x4 w = some q → xk_X p l e { frames := 3, cells := 0, slots := 0, locals := 75 } s m args below meth c (MQ below (xk_Qi E q) args s 0 0 (xk_A E.2.2.1)) E 6 0 0 5 [(0, va_rf (x0)), (1, va_rf (x1)), (2, va_rf (x2)), (3, .int (x3)), (4, .int (x4))] [] w := by
  intro n
  induction n with
  | zero => intro x0 x1 x2 x3 x4 w hf; have hf : none = some q := hf; cases hf
  | succ n ih =>
    intro x0 x1 x2 x3 x4 w hf
    refine xk_iload hC dX8_met_5 4 rfl ?_
    refine xk_aload_n hC dX8_met_7 1 rfl rfl ?_
    obtain ⟨v1, h1, hf⟩ := xk_bi hf
    refine xk_alen hC dX8_met_8 h1 ?_
    refine xk_icmp_ge (tgt := 74) hC dX8_met_9 (by decide) (fun c2 => ?_) (fun c2 => ?_)
    · replace hf := (if_pos c2).symm.trans hf
      refine xk_iload_n hC dX8_met_74 3 rfl rfl ?_
      cases hf
      refine xk_widen (k := 0) (n := 0) (Nat.le_of_ble_eq_true rfl) (Nat.le_of_ble_eq_true rfl) ?_
      exact xk_iret hC hr rfl dX8_met_75
    · replace hf := (if_neg c2).symm.trans hf
      refine xk_aload_n hC dX8_met_12 1 rfl rfl ?_
      refine xk_iload hC dX8_met_13 4 rfl ?_
      obtain ⟨v3, h3, hf⟩ := xk_bi hf
      refine xk_iald hC rfl dX8_met_15 h3 ?_
      refine xk_iconst (v := (-1 : Int32)) hC dX8_met_16 (by decide) ?_
      refine xk_icmp_ne (tgt := 24) hC dX8_met_17 (by decide) (fun c4 => ?_) (fun c4 => ?_)
      · replace hf := (if_neg c4).symm.trans hf
        refine xk_aload_n hC dX8_met_24 1 rfl rfl ?_
        refine xk_iload hC dX8_met_25 4 rfl ?_
        obtain ⟨v5, h5, hf⟩ := xk_bi hf
        refine xk_iald hC rfl dX8_met_27 h5 ?_
        refine xk_aload_n hC dX8_met_28 2 rfl rfl ?_
        obtain ⟨q6, h6, hf⟩ := xk_bi hf
        refine xk_backi (xk_callS hC 2 (c_X8_miss_ h6) xm_1140 xm_1141 xm_6 xm_1142 xd_X8_miss_ rfl ⟨Nat.le_of_ble_eq_true rfl, Nat.le_of_ble_eq_true rfl⟩ rfl (Nat.le_of_ble_eq_true rfl) dX8_met_29 ⟨(Nat.le_of_ble_eq_true rfl), (Nat.le_of_ble_eq_true rfl)⟩) ?_
        exact t_X8_met_32 hC hr (fun x0 x1 x2 x3 x4 w hf => ih x0 x1 x2 x3 x4 w hf) x0 x1 x2 x3 x4 (q6.1) (q6.2) hf
      · replace hf := (if_pos c4).symm.trans hf
        refine xk_iconst (v := (-1 : Int32)) hC dX8_met_20 (by decide) ?_
        refine xk_goto (tgt := 32) hC dX8_met_21 (by decide) ?_
        exact t_X8_met_32 hC hr (fun x0 x1 x2 x3 x4 w hf => ih x0 x1 x2 x3 x4 w hf) x0 x1 x2 x3 x4 ((-1 : Int32)) w hf
def f_X8_met (x0 : Option Nat) (x1 : Option Nat) (x2 : Option Nat) (w : xWd) : Option (Int32 × xWd) := f_X8_met_5 24 x0 x1 x2 ((0 : Int32)) ((0 : Int32)) w
set_option maxHeartbeats 4000000 in
set_option maxRecDepth 100000 in
theorem t_X8_met_0 {p : Program} {l : Launch} {e : Env} {s : State} {m : MethodId} {args : Array Value} {below : List Frame} {meth : Method} {c : Code} {E : xEv} (hC : xk_C p s m args meth c E prog_7_method_13_code "ClickbookModel" 6) (hr : meth.sig.returnType = (some .int)) {q : (Int32 × xWd)} (x0 : Option Nat) (x1 : Option Nat) (x2 : Option Nat) (w : xWd) (hf : f_X8_met x0 x1 x2 w = some q) : xk_X p l e { frames := 3, cells := 0, slots := 0, locals := 75 } s m args below meth c (MQ below (xk_Qi E q) args s 0 0 (xk_A E.2.2.1)) E 6 0 0 0 [(0, va_rf (x0)), (1, va_rf (x1)), (2, va_rf (x2))] [] w := by
  refine xk_iconst (v := (0 : Int32)) hC dX8_met_0 (by decide) ?_
  refine xk_istore_n (i := 3) (lv' := [(3, .int ((0 : Int32))), (0, va_rf (x0)), (1, va_rf (x1)), (2, va_rf (x2))]) hC dX8_met_1 rfl (by decide) (by simp [xk_cat1]) ?_
  refine xk_iconst (v := (0 : Int32)) hC dX8_met_2 (by decide) ?_
  refine xk_istore (i := 4) (lv' := [(4, .int ((0 : Int32))), (3, .int ((0 : Int32))), (0, va_rf (x0)), (1, va_rf (x1)), (2, va_rf (x2))]) hC dX8_met_3 (by decide) rfl ?_
  refine xk_locals [2, 3, 4, 1, 0] rfl ?_
  exact t_X8_met_5 hC hr 24 x0 x1 x2 ((0 : Int32)) ((0 : Int32)) w hf
theorem xd_X8_met : xy_X8_met.cls ≠ "java/lang/invoke/MethodHandle" ∧ xy_X8_met.cls ≠ "java/lang/invoke/VarHandle" ∧ (parseMethodDescriptor xy_X8_met.desc).map (fun d => d.parameters.length) = some 2 := ⟨by decide +kernel, by decide +kernel, by decide +kernel⟩
theorem c_X8_met {l : Launch} {E : xEv} {x0 : Option Nat} {x1 : Option Nat} {x2 : Option Nat} {w : xWd} {q : (Int32 × xWd)} (hf : f_X8_met x0 x1 x2 w = some q) : xk_M l xy_X8_met prog_7_method_13_code 6 (some .int) 3 75 0 0 E [va_rf (x0), va_rf (x1), va_rf (x2)] w (xk_Qi E q) := by
  refine xk_enter (by decide +kernel) (by simp [lg_sl, xk_cat1, xk_cati, xk_catl, xk_catd]) ?_
  intro p e s m args below meth c hC hr hin ha
  rw [show lv_args 0 [va_rf (x0), va_rf (x1), va_rf (x2)] = [(0, va_rf (x0)), (1, va_rf (x1)), (2, va_rf (x2))] by simp [lv_args, xk_cat1, xk_cati, xk_catl, xk_catd]]
  exact t_X8_met_0 hC hr x0 x1 x2 w hf
def f_X8_met_ (x0 : Option Nat) (w : xWd) : Option (Int32 × xWd) := (xk_is w (x0) 5).bind (fun u2 => (f_X8_frames (x0)  w).bind (fun q1 => (xk_is q1.2 (x0) 5).bind (fun u4 => (f_X8_beats (x0)  q1.2).bind (fun q3 => (xk_is q3.2 (x0) 5).bind (fun u6 => (f_X8_met (x0) (q1.1) (q3.1) q3.2).bind (fun q5 => some (q5.1, q5.2)))))))
set_option maxHeartbeats 4000000 in
set_option maxRecDepth 100000 in
theorem t_X8_met__0 {p : Program} {l : Launch} {e : Env} {s : State} {m : MethodId} {args : Array Value} {below : List Frame} {meth : Method} {c : Code} {E : xEv} (hC : xk_C p s m args meth c E prog_7_method_15_code "ClickbookModel" 1) (hr : meth.sig.returnType = (some .int)) {q : (Int32 × xWd)} (x0 : Option Nat) (w : xWd) (hf : f_X8_met_ x0 w = some q) : xk_X p l e { frames := 4, cells := 2, slots := 128, locals := 100 } s m args below meth c (MQ below (xk_Qi E q) args s 2 128 (xk_A E.2.2.1)) E 1 0 0 0 [(0, va_rf (x0))] [] w := by
  refine xk_aload_n hC dX8_met__0 0 rfl rfl ?_
  refine xk_aload_n hC dX8_met__1 0 rfl rfl ?_
  obtain ⟨u2, h2, hf⟩ := xk_bi hf
  obtain ⟨q1, h1, hf⟩ := xk_bi hf
  refine xk_backq (xk_callV hC 0 xc_5 (c_X8_frames h1) h2 xm_1114 xm_1116 xm_p39 xm_6 xm_1117 ⟨rfl, xd_X8_frames⟩ rfl ⟨Nat.le_of_ble_eq_true rfl, Nat.le_of_ble_eq_true rfl⟩ rfl (by simp [xk_cat1, xk_cati, xk_catl, xk_catd]) dX8_met__2 ⟨(Nat.le_of_ble_eq_true rfl), (Nat.le_of_ble_eq_true rfl)⟩) ?_
  refine xk_aload_n hC dX8_met__5 0 rfl rfl ?_
  obtain ⟨u4, h4, hf⟩ := xk_bi hf
  obtain ⟨q3, h3, hf⟩ := xk_bi hf
  refine xk_backq (xk_callV hC 0 xc_5 (c_X8_beats h3) h4 xm_1118 xm_1120 xm_p40 xm_6 xm_1121 ⟨rfl, xd_X8_beats⟩ rfl ⟨Nat.le_of_ble_eq_true rfl, Nat.le_of_ble_eq_true rfl⟩ rfl (by simp [xk_cat1, xk_cati, xk_catl, xk_catd]) dX8_met__6 ⟨(Nat.le_of_ble_eq_true rfl), (Nat.le_of_ble_eq_true rfl)⟩) ?_
  obtain ⟨u6, h6, hf⟩ := xk_bi hf
  obtain ⟨q5, h5, hf⟩ := xk_bi hf
  refine xk_backi (xk_callV hC 2 xc_5 (c_X8_met h5) h6 xm_1136 xm_1138 xm_p41 xm_6 xm_1139 ⟨rfl, xd_X8_met⟩ rfl ⟨Nat.le_of_ble_eq_true rfl, Nat.le_of_ble_eq_true rfl⟩ rfl (Nat.le_of_ble_eq_true rfl) dX8_met__9 ⟨(Nat.le_of_ble_eq_true rfl), (Nat.le_of_ble_eq_true rfl)⟩) ?_
  cases hf
  refine xk_widen (k := 2) (n := 128) (Nat.le_of_ble_eq_true rfl) (Nat.le_of_ble_eq_true rfl) ?_
  exact xk_iret hC hr rfl dX8_met__12
theorem xd_X8_met_ : xy_X8_met_.cls ≠ "java/lang/invoke/MethodHandle" ∧ xy_X8_met_.cls ≠ "java/lang/invoke/VarHandle" ∧ (parseMethodDescriptor xy_X8_met_.desc).map (fun d => d.parameters.length) = some 0 := ⟨by decide +kernel, by decide +kernel, by decide +kernel⟩
theorem c_X8_met_ {l : Launch} {E : xEv} {x0 : Option Nat} {w : xWd} {q : (Int32 × xWd)} (hf : f_X8_met_ x0 w = some q) : xk_M l xy_X8_met_ prog_7_method_15_code 1 (some .int) 4 100 2 128 E [va_rf (x0)] w (xk_Qi E q) := by
  refine xk_enter (by decide +kernel) (by simp [lg_sl, xk_cat1, xk_cati, xk_catl, xk_catd]) ?_
  intro p e s m args below meth c hC hr hin ha
  rw [show lv_args 0 [va_rf (x0)] = [(0, va_rf (x0))] by simp [lv_args, xk_cat1, xk_cati, xk_catl, xk_catd]]
  exact t_X8_met__0 hC hr x0 w hf
def f_X8_clashes_4 : Nat → Option Nat → Int32 → Int32 → xWd → Option (Int32 × xWd)
  | 0, _, _, _, _ => none
  | n + 1, x0, x1, x2, w => (xk_gR w (x0) 5 5).bind (fun v1 => (xk_is w (v1) 4).bind (fun u3 => (f_Jx4a65c_size_8abf5 (v1)  w).bind (fun q2 => if (q2.1) ≤ (x2) then some (x1, q2.2) else if (x2) ≤ ((0 : Int32)) then f_X8_clashes_4 n x0 x1 (x2 + (1 : Int32)) (q2.2) else (xk_gR q2.2 (x0) 5 5).bind (fun v6 => none))))
set_option maxHeartbeats 4000000 in
set_option maxRecDepth 100000 in
theorem t_X8_clashes_4 {p : Program} {l : Launch} {e : Env} {s : State} {m : MethodId} {args : Array Value} {below : List Frame} {meth : Method} {c : Code} {E : xEv} (hC : xk_C p s m args meth c E prog_7_method_51_code "ClickbookModel" 4) (hr : meth.sig.returnType = (some .int)) {q : (Int32 × xWd)} : ∀ (n : Nat) (x0 : Option Nat) (x1 : Int32) (x2 : Int32) (w : xWd), f_X8_clashes_4 n x0 x1 x2 w = some q → xk_X p l e { frames := 1, cells := 0, slots := 0, locals := 20 } s m args below meth c (MQ below (xk_Qi E q) args s 0 0 (xk_A E.2.2.1)) E 4 0 0 4 [(0, va_rf (x0)), (1, .int (x1)), (2, .int (x2))] [] w := by
  intro n
  induction n with
  | zero => intro x0 x1 x2 w hf; have hf : none = some q := hf; cases hf
  | succ n ih =>
    intro x0 x1 x2 w hf
    refine xk_iload_n hC dX8_clashes_4 2 rfl rfl ?_
    refine xk_aload_n hC dX8_clashes_5 0 rfl rfl ?_
    obtain ⟨v1, h1, hf⟩ := xk_bi hf
    refine xk_getR hC xi_5 xc_5 5 (by decide) xm_865 (Or.inl rfl) dX8_clashes_6 h1 ?_
    obtain ⟨u3, h3, hf⟩ := xk_bi hf
    obtain ⟨q2, h2, hf⟩ := xk_bi hf
    refine xk_backi (xk_callV hC 0 xc_4 (c_Jx4a65c_size_8abf5 h2) h3 xm_910 xm_131 xm_132 xm_4 xm_133 ⟨rfl, xd_Jx4a65c_size_8abf5⟩ rfl ⟨Nat.le_of_ble_eq_true rfl, Nat.le_of_ble_eq_true rfl⟩ rfl (Nat.le_of_ble_eq_true rfl) dX8_clashes_9 ⟨(Nat.le_of_ble_eq_true rfl), (Nat.le_of_ble_eq_true rfl)⟩) ?_
    refine xk_icmp_ge (tgt := 107) hC dX8_clashes_12 (by decide) (fun c4 => ?_) (fun c4 => ?_)
    · replace hf := (if_pos c4).symm.trans hf
      refine xk_iload_n hC dX8_clashes_107 1 rfl rfl ?_
      cases hf
      refine xk_widen (k := 0) (n := 0) (Nat.le_of_ble_eq_true rfl) (Nat.le_of_ble_eq_true rfl) ?_
      exact xk_iret hC hr rfl dX8_clashes_108
    · replace hf := (if_neg c4).symm.trans hf
      refine xk_iconst (v := (0 : Int32)) hC dX8_clashes_15 (by decide) ?_
      refine xk_istore_n (i := 3) (lv' := [(3, .int ((0 : Int32))), (0, va_rf (x0)), (1, .int (x1)), (2, .int (x2))]) hC dX8_clashes_16 rfl (by decide) rfl ?_
      refine xk_iload_n hC dX8_clashes_17 0 rfl rfl ?_
      refine xk_iload_n hC dX8_clashes_18 3 rfl rfl ?_
      refine xk_icmp_ge (tgt := 101) hC dX8_clashes_19 (by decide) (fun c5 => ?_) (fun c5 => ?_)
      · replace hf := (if_pos c5).symm.trans hf
        refine xk_iinc (v := x2 + (1 : Int32)) (lv' := [(2, .int (x2 + (1 : Int32))), (3, .int ((0 : Int32))), (0, va_rf (x0)), (1, .int (x1))]) hC dX8_clashes_101 3 rfl rfl (by decide) rfl ?_
        refine xk_goto (tgt := 4) hC dX8_clashes_104 (by decide) ?_
        refine xk_locals [2, 3, 0] rfl ?_
        exact ih x0 x1 (x2 + (1 : Int32)) (q2.2) hf
      · replace hf := (if_neg c5).symm.trans hf
        refine xk_iload_n hC dX8_clashes_22 2 rfl rfl ?_
        refine xk_aload_n hC dX8_clashes_23 1 rfl rfl ?_
        obtain ⟨v6, h6, hf⟩ := xk_bi hf
        refine xk_getR hC xi_5 xc_5 5 (by decide) xm_865 (Or.inl rfl) dX8_clashes_24 h6 ?_
        refine xk_iload_n hC dX8_clashes_27 3 rfl rfl ?_
        cases hf
def f_X8_clashes (x0 : Option Nat) (w : xWd) : Option (Int32 × xWd) := f_X8_clashes_4 24 x0 ((0 : Int32)) ((0 : Int32)) w
set_option maxHeartbeats 4000000 in
set_option maxRecDepth 100000 in
theorem t_X8_clashes_0 {p : Program} {l : Launch} {e : Env} {s : State} {m : MethodId} {args : Array Value} {below : List Frame} {meth : Method} {c : Code} {E : xEv} (hC : xk_C p s m args meth c E prog_7_method_51_code "ClickbookModel" 4) (hr : meth.sig.returnType = (some .int)) {q : (Int32 × xWd)} (x0 : Option Nat) (w : xWd) (hf : f_X8_clashes x0 w = some q) : xk_X p l e { frames := 1, cells := 0, slots := 0, locals := 20 } s m args below meth c (MQ below (xk_Qi E q) args s 0 0 (xk_A E.2.2.1)) E 4 0 0 0 [(0, va_rf (x0))] [] w := by
  refine xk_iconst (v := (0 : Int32)) hC dX8_clashes_0 (by decide) ?_
  refine xk_istore_n (i := 1) (lv' := [(1, .int ((0 : Int32))), (0, va_rf (x0))]) hC dX8_clashes_1 rfl (by decide) (by simp [xk_cat1]) ?_
  refine xk_iconst (v := (0 : Int32)) hC dX8_clashes_2 (by decide) ?_
  refine xk_istore_n (i := 2) (lv' := [(2, .int ((0 : Int32))), (1, .int ((0 : Int32))), (0, va_rf (x0))]) hC dX8_clashes_3 rfl (by decide) rfl ?_
  refine xk_locals [2, 1, 0] rfl ?_
  exact t_X8_clashes_4 hC hr 24 x0 ((0 : Int32)) ((0 : Int32)) w hf
theorem xd_X8_clashes : xy_X8_clashes.cls ≠ "java/lang/invoke/MethodHandle" ∧ xy_X8_clashes.cls ≠ "java/lang/invoke/VarHandle" ∧ (parseMethodDescriptor xy_X8_clashes.desc).map (fun d => d.parameters.length) = some 0 := ⟨by decide +kernel, by decide +kernel, by decide +kernel⟩
theorem c_X8_clashes {l : Launch} {E : xEv} {x0 : Option Nat} {w : xWd} {q : (Int32 × xWd)} (hf : f_X8_clashes x0 w = some q) : xk_M l xy_X8_clashes prog_7_method_51_code 4 (some .int) 1 20 0 0 E [va_rf (x0)] w (xk_Qi E q) := by
  refine xk_enter (by decide +kernel) (by simp [lg_sl, xk_cat1, xk_cati, xk_catl, xk_catd]) ?_
  intro p e s m args below meth c hC hr hin ha
  rw [show lv_args 0 [va_rf (x0)] = [(0, va_rf (x0))] by simp [lv_args, xk_cat1, xk_cati, xk_catl, xk_catd]]
  exact t_X8_clashes_0 hC hr x0 w hf
def f_X8_manyNow_99 : Nat → Option Nat → Int32 → Int32 → Int32 → Int32 → Int32 → Int32 → xWd → Option (Int32 × xWd)
  | 0, _, _, _, _, _, _, _, _ => none
  | n + 1, x0, x1, x2, x3, x4, x5, x6, w => if ((4 : Int32)) ≤ (x6) then (xk_nA w 0 xk_d0 ((16 : Int32)) 64).bind (fun w2 => (xk_gI w2 (x0) 5 1).bind (fun v3 => (xk_sI 0 w2 (some w.2.1) ((0 : Int32)) (v3)).bind (fun w4 => (xk_gI w4 (x0) 5 2).bind (fun v5 => (xk_sI 0 w4 (some w.2.1) ((1 : Int32)) (v5)).bind (fun w6 => (xk_gR w6 (x0) 5 3).bind (fun v7 => (xk_is w6 (v7) 4).bind (fun u9 => (f_Jx4a65c_size_8abf5 (v7)  w6).bind (fun q8 => (xk_sI 0 q8.2 (some w.2.1) ((2 : Int32)) (q8.1)).bind (fun w10 => (xk_is w10 (x0) 5).bind (fun u12 => (f_X8_gone (x0)  w10).bind (fun q11 => (xk_sI 0 q11.2 (some w.2.1) ((3 : Int32)) (q11.1)).bind (fun w13 => (xk_is w13 (x0) 5).bind (fun u15 => (f_X8_met_ (x0)  w13).bind (fun q14 => (xk_sI 0 q14.2 (some w.2.1) ((4 : Int32)) (q14.1)).bind (fun w16 => (xk_gR w16 (x0) 5 4).bind (fun v17 => (xk_is w16 (v17) 4).bind (fun u19 => (f_Jx4a65c_size_8abf5 (v17)  w16).bind (fun q18 => (xk_sI 0 q18.2 (some w.2.1) ((5 : Int32)) (q18.1)).bind (fun w20 => (xk_gR w20 (x0) 5 5).bind (fun v21 => (xk_is w20 (v21) 4).bind (fun u23 => (f_Jx4a65c_size_8abf5 (v21)  w20).bind (fun q22 => (xk_sI 0 q22.2 (some w.2.1) ((6 : Int32)) (q22.1)).bind (fun w24 => (xk_sI 0 w24 (some w.2.1) ((7 : Int32)) (x2)).bind (fun w25 => (xk_sI 0 w25 (some w.2.1) ((8 : Int32)) (x3)).bind (fun w26 => (xk_is w26 (x0) 5).bind (fun u28 => (f_X8_clashes (x0)  w26).bind (fun q27 => (xk_sI 0 q27.2 (some w.2.1) ((9 : Int32)) (q27.1)).bind (fun w29 => (xk_gR w29 (x0) 5 6).bind (fun v30 => (xk_is w29 (v30) 4).bind (fun u32 => (f_Jx4a65c_size_8abf5 (v30)  w29).bind (fun q31 => (xk_sI 0 q31.2 (some w.2.1) ((10 : Int32)) (q31.1)).bind (fun w33 => (xk_sI 0 w33 (some w.2.1) ((11 : Int32)) (x4)).bind (fun w34 => (xk_gI w34 (x0) 5 7).bind (fun v35 => (xk_sI 0 w34 (some w.2.1) ((12 : Int32)) (v35)).bind (fun w36 => (xk_gI w36 (x0) 5 8).bind (fun v37 => (xk_sI 0 w36 (some w.2.1) ((13 : Int32)) (v37)).bind (fun w38 => (xk_gI w38 (x0) 5 9).bind (fun v39 => (xk_sI 0 w38 (some w.2.1) ((14 : Int32)) (v39)).bind (fun w40 => (xk_sI 0 w40 (some w.2.1) ((15 : Int32)) (x5)).bind (fun w41 => (xk_lI 0 w41 (some w.2.1) (x1)).bind (fun v42 => some (v42, w41)))))))))))))))))))))))))))))))))))))))))) else (xk_is w (x0) 5).bind (fun u44 => (f_X8_sheetNow (x0) (x6) w).bind (fun q43 => f_X8_manyNow_99 n x0 x1 x2 x3 x4 ((x5) + (q43.1)) (x6 + (1 : Int32)) (q43.2)))
set_option maxHeartbeats 4000000 in
set_option maxRecDepth 100000 in
theorem t_X8_manyNow_99 {p : Program} {l : Launch} {e : Env} {s : State} {m : MethodId} {args : Array Value} {below : List Frame} {meth : Method} {c : Code} {E : xEv} (hC : xk_C p s m args meth c E prog_7_method_53_code "ClickbookModel" 7) (hr : meth.sig.returnType = (some .int)) {q : (Int32 × xWd)} : ∀ (n : Nat) (x0 : Option Nat) (x1 : Int32) (x2 : Int32) (x3 : Int32) (x4 : Int32) (x5 : Int32) (x6 : Int32) (w : xWd), f_X8_manyNow_99 n x0 x1 x2 x3 x4 x5 x6 w = some q → xk_X p l e { frames := 5, cells := 4, slots := 196, locals := 120 } s m args below meth c (MQ below (xk_Qi E q) args s 4 196 (xk_A E.2.2.1)) E 7 0 0 99 [(0, va_rf (x0)), (1, .int (x1)), (2, .int (x2)), (3, .int (x3)), (4, .int (x4)), (5, .int (x5)), (6, .int (x6))] [] w := by
  intro n
  induction n with
  | zero => intro x0 x1 x2 x3 x4 x5 x6 w hf; have hf : none = some q := hf; cases hf
  | succ n ih =>
    intro x0 x1 x2 x3 x4 x5 x6 w hf
    refine xk_iload hC dX8_manyNow_99 6 rfl ?_
    refine xk_iconst (v := (4 : Int32)) hC dX8_manyNow_101 (by decide) ?_
    refine xk_icmp_ge (tgt := 122) hC dX8_manyNow_102 (by decide) (fun c1 => ?_) (fun c1 => ?_)
    · replace hf := (if_pos c1).symm.trans hf
      refine xk_bipush (v := (16 : Int32)) hC dX8_manyNow_122 (by decide) ?_
      obtain ⟨w2, h2, hf⟩ := xk_bi hf
      refine xk_newarr (cap := 64) (atype := .int) (ty := .int) (kd := 0) hC rfl xm_84 (by decide) rfl (fun _ _ => rfl) (Nat.le_of_ble_eq_true rfl) (Nat.le_of_ble_eq_true rfl) (Nat.le_of_ble_eq_true rfl) dX8_manyNow_124 h2 ?_
      refine xk_dup hC dX8_manyNow_126 (xk_cat1 _) ?_
      refine xk_iconst (v := (0 : Int32)) hC dX8_manyNow_127 (by decide) ?_
      refine xk_aload_n hC dX8_manyNow_128 0 rfl rfl ?_
      obtain ⟨v3, h3, hf⟩ := xk_bi hf
      refine xk_getI hC xi_5 xc_5 1 (by decide) xm_861 (Or.inl rfl) dX8_manyNow_129 h3 ?_
      obtain ⟨w4, h4, hf⟩ := xk_bi hf
      refine xk_iast hC rfl dX8_manyNow_132 h4 ?_
      refine xk_dup hC dX8_manyNow_133 (xk_cat1 _) ?_
      refine xk_iconst (v := (1 : Int32)) hC dX8_manyNow_134 (by decide) ?_
      refine xk_aload_n hC dX8_manyNow_135 0 rfl rfl ?_
      obtain ⟨v5, h5, hf⟩ := xk_bi hf
      refine xk_getI hC xi_5 xc_5 2 (by decide) xm_862 (Or.inl rfl) dX8_manyNow_136 h5 ?_
      obtain ⟨w6, h6, hf⟩ := xk_bi hf
      refine xk_iast hC rfl dX8_manyNow_139 h6 ?_
      refine xk_dup hC dX8_manyNow_140 (xk_cat1 _) ?_
      refine xk_iconst (v := (2 : Int32)) hC dX8_manyNow_141 (by decide) ?_
      refine xk_aload_n hC dX8_manyNow_142 0 rfl rfl ?_
      obtain ⟨v7, h7, hf⟩ := xk_bi hf
      refine xk_getR hC xi_5 xc_5 3 (by decide) xm_863 (Or.inl rfl) dX8_manyNow_143 h7 ?_
      obtain ⟨u9, h9, hf⟩ := xk_bi hf
      obtain ⟨q8, h8, hf⟩ := xk_bi hf
      refine xk_backi (xk_callV hC 0 xc_4 (c_Jx4a65c_size_8abf5 h8) h9 xm_910 xm_131 xm_132 xm_4 xm_133 ⟨rfl, xd_Jx4a65c_size_8abf5⟩ rfl ⟨Nat.le_of_ble_eq_true rfl, Nat.le_of_ble_eq_true rfl⟩ rfl (Nat.le_of_ble_eq_true rfl) dX8_manyNow_146 ⟨(Nat.le_of_ble_eq_true rfl), (Nat.le_of_ble_eq_true rfl)⟩) ?_
      obtain ⟨w10, h10, hf⟩ := xk_bi hf
      refine xk_iast hC rfl dX8_manyNow_149 h10 ?_
      refine xk_dup hC dX8_manyNow_150 (xk_cat1 _) ?_
      refine xk_iconst (v := (3 : Int32)) hC dX8_manyNow_151 (by decide) ?_
      refine xk_aload_n hC dX8_manyNow_152 0 rfl rfl ?_
      obtain ⟨u12, h12, hf⟩ := xk_bi hf
      obtain ⟨q11, h11, hf⟩ := xk_bi hf
      refine xk_backi (xk_callV hC 0 xc_5 (c_X8_gone h11) h12 xm_1268 xm_1270 xm_p53 xm_6 xm_1271 ⟨rfl, xd_X8_gone⟩ rfl ⟨Nat.le_of_ble_eq_true rfl, Nat.le_of_ble_eq_true rfl⟩ rfl (Nat.le_of_ble_eq_true rfl) dX8_manyNow_153 ⟨(Nat.le_of_ble_eq_true rfl), (Nat.le_of_ble_eq_true rfl)⟩) ?_
      obtain ⟨w13, h13, hf⟩ := xk_bi hf
      refine xk_iast hC rfl dX8_manyNow_156 h13 ?_
      refine xk_dup hC dX8_manyNow_157 (xk_cat1 _) ?_
      refine xk_iconst (v := (4 : Int32)) hC dX8_manyNow_158 (by decide) ?_
      refine xk_aload_n hC dX8_manyNow_159 0 rfl rfl ?_
      obtain ⟨u15, h15, hf⟩ := xk_bi hf
      obtain ⟨q14, h14, hf⟩ := xk_bi hf
      refine xk_backi (xk_callV hC 0 xc_5 (c_X8_met_ h14) h15 xm_1110 xm_1112 xm_p38 xm_6 xm_1113 ⟨rfl, xd_X8_met_⟩ rfl ⟨Nat.le_of_ble_eq_true rfl, Nat.le_of_ble_eq_true rfl⟩ rfl (Nat.le_of_ble_eq_true rfl) dX8_manyNow_160 ⟨(Nat.le_of_ble_eq_true rfl), (Nat.le_of_ble_eq_true rfl)⟩) ?_
      obtain ⟨w16, h16, hf⟩ := xk_bi hf
      refine xk_iast hC rfl dX8_manyNow_163 h16 ?_
      refine xk_dup hC dX8_manyNow_164 (xk_cat1 _) ?_
      refine xk_iconst (v := (5 : Int32)) hC dX8_manyNow_165 (by decide) ?_
      refine xk_aload_n hC dX8_manyNow_166 0 rfl rfl ?_
      obtain ⟨v17, h17, hf⟩ := xk_bi hf
      refine xk_getR hC xi_5 xc_5 4 (by decide) xm_864 (Or.inl rfl) dX8_manyNow_167 h17 ?_
      obtain ⟨u19, h19, hf⟩ := xk_bi hf
      obtain ⟨q18, h18, hf⟩ := xk_bi hf
      refine xk_backi (xk_callV hC 0 xc_4 (c_Jx4a65c_size_8abf5 h18) h19 xm_910 xm_131 xm_132 xm_4 xm_133 ⟨rfl, xd_Jx4a65c_size_8abf5⟩ rfl ⟨Nat.le_of_ble_eq_true rfl, Nat.le_of_ble_eq_true rfl⟩ rfl (Nat.le_of_ble_eq_true rfl) dX8_manyNow_170 ⟨(Nat.le_of_ble_eq_true rfl), (Nat.le_of_ble_eq_true rfl)⟩) ?_
      obtain ⟨w20, h20, hf⟩ := xk_bi hf
      refine xk_iast hC rfl dX8_manyNow_173 h20 ?_
      refine xk_dup hC dX8_manyNow_174 (xk_cat1 _) ?_
      refine xk_bipush (v := (6 : Int32)) hC dX8_manyNow_175 (by decide) ?_
      refine xk_aload_n hC dX8_manyNow_177 0 rfl rfl ?_
      obtain ⟨v21, h21, hf⟩ := xk_bi hf
      refine xk_getR hC xi_5 xc_5 5 (by decide) xm_865 (Or.inl rfl) dX8_manyNow_178 h21 ?_
      obtain ⟨u23, h23, hf⟩ := xk_bi hf
      obtain ⟨q22, h22, hf⟩ := xk_bi hf
      refine xk_backi (xk_callV hC 0 xc_4 (c_Jx4a65c_size_8abf5 h22) h23 xm_910 xm_131 xm_132 xm_4 xm_133 ⟨rfl, xd_Jx4a65c_size_8abf5⟩ rfl ⟨Nat.le_of_ble_eq_true rfl, Nat.le_of_ble_eq_true rfl⟩ rfl (Nat.le_of_ble_eq_true rfl) dX8_manyNow_181 ⟨(Nat.le_of_ble_eq_true rfl), (Nat.le_of_ble_eq_true rfl)⟩) ?_
      obtain ⟨w24, h24, hf⟩ := xk_bi hf
      refine xk_iast hC rfl dX8_manyNow_184 h24 ?_
      refine xk_dup hC dX8_manyNow_185 (xk_cat1 _) ?_
      refine xk_bipush (v := (7 : Int32)) hC dX8_manyNow_186 (by decide) ?_
      refine xk_iload_n hC dX8_manyNow_188 2 rfl rfl ?_
      obtain ⟨w25, h25, hf⟩ := xk_bi hf
      refine xk_iast hC rfl dX8_manyNow_189 h25 ?_
      refine xk_dup hC dX8_manyNow_190 (xk_cat1 _) ?_
      refine xk_bipush (v := (8 : Int32)) hC dX8_manyNow_191 (by decide) ?_
      refine xk_iload_n hC dX8_manyNow_193 3 rfl rfl ?_
      obtain ⟨w26, h26, hf⟩ := xk_bi hf
      refine xk_iast hC rfl dX8_manyNow_194 h26 ?_
      refine xk_dup hC dX8_manyNow_195 (xk_cat1 _) ?_
      refine xk_bipush (v := (9 : Int32)) hC dX8_manyNow_196 (by decide) ?_
      refine xk_aload_n hC dX8_manyNow_198 0 rfl rfl ?_
      obtain ⟨u28, h28, hf⟩ := xk_bi hf
      obtain ⟨q27, h27, hf⟩ := xk_bi hf
      refine xk_backi (xk_callV hC 0 xc_5 (c_X8_clashes h27) h28 xm_1272 xm_1274 xm_p54 xm_6 xm_1275 ⟨rfl, xd_X8_clashes⟩ rfl ⟨Nat.le_of_ble_eq_true rfl, Nat.le_of_ble_eq_true rfl⟩ rfl (Nat.le_of_ble_eq_true rfl) dX8_manyNow_199 ⟨(Nat.le_of_ble_eq_true rfl), (Nat.le_of_ble_eq_true rfl)⟩) ?_
      obtain ⟨w29, h29, hf⟩ := xk_bi hf
      refine xk_iast hC rfl dX8_manyNow_202 h29 ?_
      refine xk_dup hC dX8_manyNow_203 (xk_cat1 _) ?_
      refine xk_bipush (v := (10 : Int32)) hC dX8_manyNow_204 (by decide) ?_
      refine xk_aload_n hC dX8_manyNow_206 0 rfl rfl ?_
      obtain ⟨v30, h30, hf⟩ := xk_bi hf
      refine xk_getR hC xi_5 xc_5 6 (by decide) xm_866 (Or.inl rfl) dX8_manyNow_207 h30 ?_
      obtain ⟨u32, h32, hf⟩ := xk_bi hf
      obtain ⟨q31, h31, hf⟩ := xk_bi hf
      refine xk_backi (xk_callV hC 0 xc_4 (c_Jx4a65c_size_8abf5 h31) h32 xm_910 xm_131 xm_132 xm_4 xm_133 ⟨rfl, xd_Jx4a65c_size_8abf5⟩ rfl ⟨Nat.le_of_ble_eq_true rfl, Nat.le_of_ble_eq_true rfl⟩ rfl (Nat.le_of_ble_eq_true rfl) dX8_manyNow_210 ⟨(Nat.le_of_ble_eq_true rfl), (Nat.le_of_ble_eq_true rfl)⟩) ?_
      obtain ⟨w33, h33, hf⟩ := xk_bi hf
      refine xk_iast hC rfl dX8_manyNow_213 h33 ?_
      refine xk_dup hC dX8_manyNow_214 (xk_cat1 _) ?_
      refine xk_bipush (v := (11 : Int32)) hC dX8_manyNow_215 (by decide) ?_
      refine xk_iload hC dX8_manyNow_217 4 rfl ?_
      obtain ⟨w34, h34, hf⟩ := xk_bi hf
      refine xk_iast hC rfl dX8_manyNow_219 h34 ?_
      refine xk_dup hC dX8_manyNow_220 (xk_cat1 _) ?_
      refine xk_bipush (v := (12 : Int32)) hC dX8_manyNow_221 (by decide) ?_
      refine xk_aload_n hC dX8_manyNow_223 0 rfl rfl ?_
      obtain ⟨v35, h35, hf⟩ := xk_bi hf
      refine xk_getI hC xi_5 xc_5 7 (by decide) xm_867 (Or.inl rfl) dX8_manyNow_224 h35 ?_
      obtain ⟨w36, h36, hf⟩ := xk_bi hf
      refine xk_iast hC rfl dX8_manyNow_227 h36 ?_
      refine xk_dup hC dX8_manyNow_228 (xk_cat1 _) ?_
      refine xk_bipush (v := (13 : Int32)) hC dX8_manyNow_229 (by decide) ?_
      refine xk_aload_n hC dX8_manyNow_231 0 rfl rfl ?_
      obtain ⟨v37, h37, hf⟩ := xk_bi hf
      refine xk_getI hC xi_5 xc_5 8 (by decide) xm_868 (Or.inl rfl) dX8_manyNow_232 h37 ?_
      obtain ⟨w38, h38, hf⟩ := xk_bi hf
      refine xk_iast hC rfl dX8_manyNow_235 h38 ?_
      refine xk_dup hC dX8_manyNow_236 (xk_cat1 _) ?_
      refine xk_bipush (v := (14 : Int32)) hC dX8_manyNow_237 (by decide) ?_
      refine xk_aload_n hC dX8_manyNow_239 0 rfl rfl ?_
      obtain ⟨v39, h39, hf⟩ := xk_bi hf
      refine xk_getI hC xi_5 xc_5 9 (by decide) xm_869 (Or.inl rfl) dX8_manyNow_240 h39 ?_
      obtain ⟨w40, h40, hf⟩ := xk_bi hf
      refine xk_iast hC rfl dX8_manyNow_243 h40 ?_
      refine xk_dup hC dX8_manyNow_244 (xk_cat1 _) ?_
      refine xk_bipush (v := (15 : Int32)) hC dX8_manyNow_245 (by decide) ?_
      refine xk_iload hC dX8_manyNow_247 5 rfl ?_
      obtain ⟨w41, h41, hf⟩ := xk_bi hf
      refine xk_iast hC rfl dX8_manyNow_249 h41 ?_
      refine xk_astore (i := 6) (lv' := [(6, va_rf (some w.2.1)), (0, va_rf (x0)), (1, .int (x1)), (2, .int (x2)), (3, .int (x3)), (4, .int (x4)), (5, .int (x5))]) hC dX8_manyNow_250 (by decide) rfl ?_
      refine xk_aload hC dX8_manyNow_252 0 rfl ?_
      refine xk_iload_n hC dX8_manyNow_254 2 rfl rfl ?_
      obtain ⟨v42, h42, hf⟩ := xk_bi hf
      refine xk_iald hC rfl dX8_manyNow_255 h42 ?_
      cases hf
      refine xk_widen (k := 4) (n := 196) (Nat.le_of_ble_eq_true rfl) (Nat.le_of_ble_eq_true rfl) ?_
      exact xk_iret hC hr rfl dX8_manyNow_256
    · replace hf := (if_neg c1).symm.trans hf
      refine xk_iload hC dX8_manyNow_105 5 rfl ?_
      refine xk_aload_n hC dX8_manyNow_107 0 rfl rfl ?_
      refine xk_iload hC dX8_manyNow_108 6 rfl ?_
      obtain ⟨u44, h44, hf⟩ := xk_bi hf
      obtain ⟨q43, h43, hf⟩ := xk_bi hf
      refine xk_backi (xk_callV hC 1 xc_5 (c_X8_sheetNow h43) h44 xm_1254 xm_1256 xm_p51 xm_6 xm_1257 ⟨rfl, xd_X8_sheetNow⟩ rfl ⟨Nat.le_of_ble_eq_true rfl, Nat.le_of_ble_eq_true rfl⟩ rfl (Nat.le_of_ble_eq_true rfl) dX8_manyNow_110 ⟨(Nat.le_of_ble_eq_true rfl), (Nat.le_of_ble_eq_true rfl)⟩) ?_
      refine xk_iadd hC dX8_manyNow_113 ?_
      refine xk_istore (i := 5) (lv' := [(5, .int ((x5) + (q43.1))), (0, va_rf (x0)), (1, .int (x1)), (2, .int (x2)), (3, .int (x3)), (4, .int (x4)), (6, .int (x6))]) hC dX8_manyNow_114 (by decide) rfl ?_
      refine xk_iinc (v := x6 + (1 : Int32)) (lv' := [(6, .int (x6 + (1 : Int32))), (5, .int ((x5) + (q43.1))), (0, va_rf (x0)), (1, .int (x1)), (2, .int (x2)), (3, .int (x3)), (4, .int (x4))]) hC dX8_manyNow_116 6 rfl rfl (by decide) rfl ?_
      refine xk_goto (tgt := 99) hC dX8_manyNow_119 (by decide) ?_
      refine xk_locals [2, 3, 4, 5, 6, 1, 0] rfl ?_
      exact ih x0 x1 x2 x3 x4 ((x5) + (q43.1)) (x6 + (1 : Int32)) (q43.2) hf
def f_X8_manyNow (x0 : Option Nat) (x1 : Int32) (w : xWd) : Option (Int32 × xWd) := (xk_gR w (x0) 5 5).bind (fun v1 => (xk_is w (v1) 4).bind (fun u3 => (f_Jx4a65c_size_8abf5 (v1)  w).bind (fun q2 => if (q2.1) ≤ ((0 : Int32)) then f_X8_manyNow_99 24 x0 x1 ((0 : Int32)) ((0 : Int32)) ((0 : Int32)) ((0 : Int32)) ((0 : Int32)) (q2.2) else (xk_gR q2.2 (x0) 5 5).bind (fun v5 => none))))
set_option maxHeartbeats 4000000 in
set_option maxRecDepth 100000 in
theorem t_X8_manyNow_0 {p : Program} {l : Launch} {e : Env} {s : State} {m : MethodId} {args : Array Value} {below : List Frame} {meth : Method} {c : Code} {E : xEv} (hC : xk_C p s m args meth c E prog_7_method_53_code "ClickbookModel" 7) (hr : meth.sig.returnType = (some .int)) {q : (Int32 × xWd)} (x0 : Option Nat) (x1 : Int32) (w : xWd) (hf : f_X8_manyNow x0 x1 w = some q) : xk_X p l e { frames := 5, cells := 4, slots := 196, locals := 120 } s m args below meth c (MQ below (xk_Qi E q) args s 4 196 (xk_A E.2.2.1)) E 7 0 0 0 [(0, va_rf (x0)), (1, .int (x1))] [] w := by
  refine xk_iconst (v := (0 : Int32)) hC dX8_manyNow_0 (by decide) ?_
  refine xk_istore_n (i := 2) (lv' := [(2, .int ((0 : Int32))), (0, va_rf (x0)), (1, .int (x1))]) hC dX8_manyNow_1 rfl (by decide) rfl ?_
  refine xk_iconst (v := (0 : Int32)) hC dX8_manyNow_2 (by decide) ?_
  refine xk_istore_n (i := 3) (lv' := [(3, .int ((0 : Int32))), (2, .int ((0 : Int32))), (0, va_rf (x0)), (1, .int (x1))]) hC dX8_manyNow_3 rfl (by decide) rfl ?_
  refine xk_iconst (v := (0 : Int32)) hC dX8_manyNow_4 (by decide) ?_
  refine xk_istore (i := 4) (lv' := [(4, .int ((0 : Int32))), (3, .int ((0 : Int32))), (2, .int ((0 : Int32))), (0, va_rf (x0)), (1, .int (x1))]) hC dX8_manyNow_5 (by decide) rfl ?_
  refine xk_iconst (v := (0 : Int32)) hC dX8_manyNow_7 (by decide) ?_
  refine xk_istore (i := 5) (lv' := [(5, .int ((0 : Int32))), (4, .int ((0 : Int32))), (3, .int ((0 : Int32))), (2, .int ((0 : Int32))), (0, va_rf (x0)), (1, .int (x1))]) hC dX8_manyNow_8 (by decide) rfl ?_
  refine xk_iconst (v := (0 : Int32)) hC dX8_manyNow_10 (by decide) ?_
  refine xk_istore (i := 6) (lv' := [(6, .int ((0 : Int32))), (5, .int ((0 : Int32))), (4, .int ((0 : Int32))), (3, .int ((0 : Int32))), (2, .int ((0 : Int32))), (0, va_rf (x0)), (1, .int (x1))]) hC dX8_manyNow_11 (by decide) rfl ?_
  refine xk_iload hC dX8_manyNow_13 0 rfl ?_
  refine xk_aload_n hC dX8_manyNow_15 5 rfl rfl ?_
  obtain ⟨v1, h1, hf⟩ := xk_bi hf
  refine xk_getR hC xi_5 xc_5 5 (by decide) xm_865 (Or.inl rfl) dX8_manyNow_16 h1 ?_
  obtain ⟨u3, h3, hf⟩ := xk_bi hf
  obtain ⟨q2, h2, hf⟩ := xk_bi hf
  refine xk_backi (xk_callV hC 0 xc_4 (c_Jx4a65c_size_8abf5 h2) h3 xm_910 xm_131 xm_132 xm_4 xm_133 ⟨rfl, xd_Jx4a65c_size_8abf5⟩ rfl ⟨Nat.le_of_ble_eq_true rfl, Nat.le_of_ble_eq_true rfl⟩ rfl (Nat.le_of_ble_eq_true rfl) dX8_manyNow_19 ⟨(Nat.le_of_ble_eq_true rfl), (Nat.le_of_ble_eq_true rfl)⟩) ?_
  refine xk_icmp_ge (tgt := 96) hC dX8_manyNow_22 (by decide) (fun c4 => ?_) (fun c4 => ?_)
  · replace hf := (if_pos c4).symm.trans hf
    refine xk_iconst (v := (0 : Int32)) hC dX8_manyNow_96 (by decide) ?_
    refine xk_istore (i := 6) (lv' := [(6, .int ((0 : Int32))), (5, .int ((0 : Int32))), (4, .int ((0 : Int32))), (3, .int ((0 : Int32))), (2, .int ((0 : Int32))), (0, va_rf (x0)), (1, .int (x1))]) hC dX8_manyNow_97 (by decide) rfl ?_
    refine xk_locals [5, 6, 4, 3, 2, 1, 0] rfl ?_
    exact t_X8_manyNow_99 hC hr 24 x0 x1 ((0 : Int32)) ((0 : Int32)) ((0 : Int32)) ((0 : Int32)) ((0 : Int32)) (q2.2) hf
  · replace hf := (if_neg c4).symm.trans hf
    refine xk_iload_n hC dX8_manyNow_25 4 rfl rfl ?_
    refine xk_aload_n hC dX8_manyNow_26 5 rfl rfl ?_
    refine xk_aload_n hC dX8_manyNow_27 5 rfl rfl ?_
    obtain ⟨v5, h5, hf⟩ := xk_bi hf
    refine xk_getR hC xi_5 xc_5 5 (by decide) xm_865 (Or.inl rfl) dX8_manyNow_28 h5 ?_
    refine xk_iload hC dX8_manyNow_31 0 rfl ?_
    cases hf
theorem xd_X8_manyNow : xy_X8_manyNow.cls ≠ "java/lang/invoke/MethodHandle" ∧ xy_X8_manyNow.cls ≠ "java/lang/invoke/VarHandle" ∧ (parseMethodDescriptor xy_X8_manyNow.desc).map (fun d => d.parameters.length) = some 1 := ⟨by decide +kernel, by decide +kernel, by decide +kernel⟩
theorem c_X8_manyNow {l : Launch} {E : xEv} {x0 : Option Nat} {x1 : Int32} {w : xWd} {q : (Int32 × xWd)} (hf : f_X8_manyNow x0 x1 w = some q) : xk_M l xy_X8_manyNow prog_7_method_53_code 7 (some .int) 5 120 4 196 E [va_rf (x0), .int (x1)] w (xk_Qi E q) := by
  refine xk_enter (by decide +kernel) (by simp [lg_sl, xk_cat1, xk_cati, xk_catl, xk_catd]) ?_
  intro p e s m args below meth c hC hr hin ha
  rw [show lv_args 0 [va_rf (x0), .int (x1)] = [(0, va_rf (x0)), (1, .int (x1))] by simp [lv_args, xk_cat1, xk_cati, xk_catl, xk_catd]]
  exact t_X8_manyNow_0 hC hr x0 x1 w hf
def f_X8_many_32 (s0 : Int32) (w : xWd) : Option (Int32 × xWd) := some (s0, w)
set_option maxHeartbeats 4000000 in
set_option maxRecDepth 100000 in
theorem t_X8_many_32 {p : Program} {l : Launch} {e : Env} {s : State} {m : MethodId} {args : Array Value} {below : List Frame} {meth : Method} {c : Code} {E : xEv} (hC : xk_C p s m args meth c E prog_7_method_54_code "ClickbookModel" 2) (hr : meth.sig.returnType = (some .int)) {q : (Int32 × xWd)} (s0 : Int32) (w : xWd) (hf : f_X8_many_32 s0 w = some q) : xk_X p l e { frames := 6, cells := 4, slots := 196, locals := 146 } s m args below meth c (MQ below (xk_Qi E q) args s 4 196 (xk_A E.2.2.1)) E 2 4 196 32 [] [.int (s0)] w := by
  cases hf
  refine xk_widen (k := 4) (n := 196) (Nat.le_of_ble_eq_true rfl) (Nat.le_of_ble_eq_true rfl) ?_
  exact xk_iret hC hr rfl dX8_many_32
def f_X8_many_16 (x0 : Option Nat) (x1 : Int32) (s0 : Int32) (s1 : Option Nat) (w : xWd) : Option (Int32 × xWd) := (xk_is w (s1) 5).bind (fun u2 => (f_X8_start (s1) (s0) ((1 : Int32)) w).bind (fun q1 => if (q1.1) = ((0 : Int32)) then (xk_is q1.2 (x0) 5).bind (fun u5 => (f_X8_manyNow (x0) (x1) q1.2).bind (fun q4 => f_X8_many_32 (q4.1) (q4.2))) else f_X8_many_32 ((0 : Int32)) (q1.2)))
set_option maxHeartbeats 4000000 in
set_option maxRecDepth 100000 in
theorem t_X8_many_16 {p : Program} {l : Launch} {e : Env} {s : State} {m : MethodId} {args : Array Value} {below : List Frame} {meth : Method} {c : Code} {E : xEv} (hC : xk_C p s m args meth c E prog_7_method_54_code "ClickbookModel" 2) (hr : meth.sig.returnType = (some .int)) {q : (Int32 × xWd)} (x0 : Option Nat) (x1 : Int32) (s0 : Int32) (s1 : Option Nat) (w : xWd) (hf : f_X8_many_16 x0 x1 s0 s1 w = some q) : xk_X p l e { frames := 6, cells := 4, slots := 196, locals := 146 } s m args below meth c (MQ below (xk_Qi E q) args s 4 196 (xk_A E.2.2.1)) E 2 0 0 16 [(0, va_rf (x0)), (1, .int (x1))] [.int (s0), va_rf (s1)] w := by
  refine xk_iconst (v := (1 : Int32)) hC dX8_many_16 (by decide) ?_
  obtain ⟨u2, h2, hf⟩ := xk_bi hf
  obtain ⟨q1, h1, hf⟩ := xk_bi hf
  refine xk_backi (xk_callV hC 2 xc_5 (c_X8_start h1) h2 xm_902 xm_904 xm_p33 xm_6 xm_905 ⟨rfl, xd_X8_start⟩ rfl ⟨Nat.le_of_ble_eq_true rfl, Nat.le_of_ble_eq_true rfl⟩ rfl (Nat.le_of_ble_eq_true rfl) dX8_many_17 ⟨(Nat.le_of_ble_eq_true rfl), (Nat.le_of_ble_eq_true rfl)⟩) ?_
  refine xk_if_eq (tgt := 27) hC dX8_many_20 (by decide) (fun c3 => ?_) (fun c3 => ?_)
  · replace hf := (if_pos c3).symm.trans hf
    refine xk_aload_n hC dX8_many_27 0 rfl rfl ?_
    refine xk_iload_n hC dX8_many_28 1 rfl rfl ?_
    obtain ⟨u5, h5, hf⟩ := xk_bi hf
    obtain ⟨q4, h4, hf⟩ := xk_bi hf
    refine xk_backi (xk_callV hC 1 xc_5 (c_X8_manyNow h4) h5 xm_1264 xm_1266 xm_p52 xm_6 xm_1267 ⟨rfl, xd_X8_manyNow⟩ rfl ⟨Nat.le_of_ble_eq_true rfl, Nat.le_of_ble_eq_true rfl⟩ rfl (Nat.le_of_ble_eq_true rfl) dX8_many_29 ⟨(Nat.le_of_ble_eq_true rfl), (Nat.le_of_ble_eq_true rfl)⟩) ?_
    refine xk_locals [] rfl ?_
    exact t_X8_many_32 hC hr (q4.1) (q4.2) hf
  · replace hf := (if_neg c3).symm.trans hf
    refine xk_iconst (v := (0 : Int32)) hC dX8_many_23 (by decide) ?_
    refine xk_goto (tgt := 32) hC dX8_many_24 (by decide) ?_
    refine xk_locals [] rfl ?_
    refine xk_widen (k := 4) (n := 196) (Nat.le_of_ble_eq_true rfl) (Nat.le_of_ble_eq_true rfl) ?_
    exact t_X8_many_32 hC hr ((0 : Int32)) (q1.2) hf
def f_X8_many (x0 : Option Nat) (x1 : Int32) (w : xWd) : Option (Int32 × xWd) := (f_X8_isIn (x1) ((0 : Int32)) ((15 : Int32)) w).bind (fun q1 => if (q1.1) = ((0 : Int32)) then f_X8_many_16 x0 x1 ((1 : Int32)) x0 (q1.2) else f_X8_many_16 x0 x1 ((0 : Int32)) x0 (q1.2))
set_option maxHeartbeats 4000000 in
set_option maxRecDepth 100000 in
theorem t_X8_many_0 {p : Program} {l : Launch} {e : Env} {s : State} {m : MethodId} {args : Array Value} {below : List Frame} {meth : Method} {c : Code} {E : xEv} (hC : xk_C p s m args meth c E prog_7_method_54_code "ClickbookModel" 2) (hr : meth.sig.returnType = (some .int)) {q : (Int32 × xWd)} (x0 : Option Nat) (x1 : Int32) (w : xWd) (hf : f_X8_many x0 x1 w = some q) : xk_X p l e { frames := 6, cells := 4, slots := 196, locals := 146 } s m args below meth c (MQ below (xk_Qi E q) args s 4 196 (xk_A E.2.2.1)) E 2 0 0 0 [(0, va_rf (x0)), (1, .int (x1))] [] w := by
  refine xk_aload_n hC dX8_many_0 0 rfl rfl ?_
  refine xk_iload_n hC dX8_many_1 1 rfl rfl ?_
  refine xk_iconst (v := (0 : Int32)) hC dX8_many_2 (by decide) ?_
  refine xk_bipush (v := (15 : Int32)) hC dX8_many_3 (by decide) ?_
  obtain ⟨q1, h1, hf⟩ := xk_bi hf
  refine xk_backi (xk_callS hC 3 (c_X8_isIn h1) xm_899 xm_900 xm_6 xm_901 xd_X8_isIn rfl ⟨Nat.le_of_ble_eq_true rfl, Nat.le_of_ble_eq_true rfl⟩ rfl (by simp [xk_cat1, xk_cati, xk_catl, xk_catd]) dX8_many_5 ⟨(Nat.le_of_ble_eq_true rfl), (Nat.le_of_ble_eq_true rfl)⟩) ?_
  refine xk_if_ne (tgt := 15) hC dX8_many_8 (by decide) (fun c2 => ?_) (fun c2 => ?_)
  · replace hf := (if_neg c2).symm.trans hf
    refine xk_iconst (v := (0 : Int32)) hC dX8_many_15 (by decide) ?_
    exact t_X8_many_16 hC hr x0 x1 ((0 : Int32)) x0 (q1.2) hf
  · replace hf := (if_pos c2).symm.trans hf
    refine xk_iconst (v := (1 : Int32)) hC dX8_many_11 (by decide) ?_
    refine xk_goto (tgt := 16) hC dX8_many_12 (by decide) ?_
    exact t_X8_many_16 hC hr x0 x1 ((1 : Int32)) x0 (q1.2) hf
theorem xd_X8_many : xy_X8_many.cls ≠ "java/lang/invoke/MethodHandle" ∧ xy_X8_many.cls ≠ "java/lang/invoke/VarHandle" ∧ (parseMethodDescriptor xy_X8_many.desc).map (fun d => d.parameters.length) = some 1 := ⟨by decide +kernel, by decide +kernel, by decide +kernel⟩
theorem c_X8_many {l : Launch} {E : xEv} {x0 : Option Nat} {x1 : Int32} {w : xWd} {q : (Int32 × xWd)} (hf : f_X8_many x0 x1 w = some q) : xk_M l xy_X8_many prog_7_method_54_code 2 (some .int) 6 146 4 196 E [va_rf (x0), .int (x1)] w (xk_Qi E q) := by
  refine xk_enter (by decide +kernel) (by simp [lg_sl, xk_cat1, xk_cati, xk_catl, xk_catd]) ?_
  intro p e s m args below meth c hC hr hin ha
  rw [show lv_args 0 [va_rf (x0), .int (x1)] = [(0, va_rf (x0)), (1, .int (x1))] by simp [lv_args, xk_cat1, xk_cati, xk_catl, xk_catd]]
  exact t_X8_many_0 hC hr x0 x1 w hf
def f_X8_meanNote_76 (s0 : UInt64) (w : xWd) : Option (UInt64 × xWd) := some (s0, w)
set_option maxHeartbeats 4000000 in
set_option maxRecDepth 100000 in
theorem t_X8_meanNote_76 {p : Program} {l : Launch} {e : Env} {s : State} {m : MethodId} {args : Array Value} {below : List Frame} {meth : Method} {c : Code} {E : xEv} (hC : xk_C p s m args meth c E prog_7_method_55_code "ClickbookModel" 4) (hr : meth.sig.returnType = (some .double)) {q : (UInt64 × xWd)} (s0 : UInt64) (w : xWd) (hf : f_X8_meanNote_76 s0 w = some q) : xk_X p l e { frames := 1, cells := 0, slots := 0, locals := 20 } s m args below meth c (MQ below (xk_Qd E q) args s 0 0 (xk_A E.2.2.1)) E 4 0 0 76 [] [.double (s0)] w := by
  cases hf
  refine xk_widen (k := 0) (n := 0) (Nat.le_of_ble_eq_true rfl) (Nat.le_of_ble_eq_true rfl) ?_
  exact xk_dret hC hr dX8_meanNote_76
def f_X8_meanNote (x0 : Option Nat) (w : xWd) : Option (UInt64 × xWd) := (xk_pV w (x0) 5 0 (.int ((0 : Int32)))).bind (fun w1 => (xk_gR w1 (x0) 5 6).bind (fun v2 => (xk_is w1 (v2) 4).bind (fun u4 => (f_Jx4a65c_size_8abf5 (v2)  w1).bind (fun q3 => if (q3.1) ≤ ((0 : Int32)) then if ((0 : Int32)) = ((0 : Int32)) then f_X8_meanNote_76 (FP.dconst0) (q3.2) else (xk_nn (FP.ddiv (FP.i2d ((0 : Int32))) (FP.i2d ((0 : Int32))))).bind (fun u7 => f_X8_meanNote_76 (FP.ddiv (FP.i2d ((0 : Int32))) (FP.i2d ((0 : Int32)))) (q3.2)) else none))))
set_option maxHeartbeats 4000000 in
set_option maxRecDepth 100000 in
theorem t_X8_meanNote_0 {p : Program} {l : Launch} {e : Env} {s : State} {m : MethodId} {args : Array Value} {below : List Frame} {meth : Method} {c : Code} {E : xEv} (hC : xk_C p s m args meth c E prog_7_method_55_code "ClickbookModel" 4) (hr : meth.sig.returnType = (some .double)) {q : (UInt64 × xWd)} (x0 : Option Nat) (w : xWd) (hf : f_X8_meanNote x0 w = some q) : xk_X p l e { frames := 1, cells := 0, slots := 0, locals := 20 } s m args below meth c (MQ below (xk_Qd E q) args s 0 0 (xk_A E.2.2.1)) E 4 0 0 0 [(0, va_rf (x0))] [] w := by
  refine xk_aload_n hC dX8_meanNote_0 0 rfl rfl ?_
  refine xk_iconst (v := (0 : Int32)) hC dX8_meanNote_1 (by decide) ?_
  obtain ⟨w1, h1, hf⟩ := xk_bi hf
  refine xk_put hC xi_5 xc_5 xo_5 xn_5 0 (by decide) xm_860 (Or.inl rfl) rfl rfl rfl dX8_meanNote_2 h1 ?_
  refine xk_iconst (v := (0 : Int32)) hC dX8_meanNote_5 (by decide) ?_
  refine xk_istore_n (i := 1) (lv' := [(1, .int ((0 : Int32))), (0, va_rf (x0))]) hC dX8_meanNote_6 rfl (by decide) (by simp [xk_cat1]) ?_
  refine xk_iconst (v := (0 : Int32)) hC dX8_meanNote_7 (by decide) ?_
  refine xk_istore_n (i := 2) (lv' := [(2, .int ((0 : Int32))), (1, .int ((0 : Int32))), (0, va_rf (x0))]) hC dX8_meanNote_8 rfl (by decide) rfl ?_
  refine xk_iconst (v := (0 : Int32)) hC dX8_meanNote_9 (by decide) ?_
  refine xk_istore_n (i := 3) (lv' := [(3, .int ((0 : Int32))), (2, .int ((0 : Int32))), (1, .int ((0 : Int32))), (0, va_rf (x0))]) hC dX8_meanNote_10 rfl (by decide) rfl ?_
  refine xk_iload_n hC dX8_meanNote_11 0 rfl rfl ?_
  refine xk_aload_n hC dX8_meanNote_12 3 rfl rfl ?_
  obtain ⟨v2, h2, hf⟩ := xk_bi hf
  refine xk_getR hC xi_5 xc_5 6 (by decide) xm_866 (Or.inl rfl) dX8_meanNote_13 h2 ?_
  obtain ⟨u4, h4, hf⟩ := xk_bi hf
  obtain ⟨q3, h3, hf⟩ := xk_bi hf
  refine xk_backi (xk_callV hC 0 xc_4 (c_Jx4a65c_size_8abf5 h3) h4 xm_910 xm_131 xm_132 xm_4 xm_133 ⟨rfl, xd_Jx4a65c_size_8abf5⟩ rfl ⟨Nat.le_of_ble_eq_true rfl, Nat.le_of_ble_eq_true rfl⟩ rfl (Nat.le_of_ble_eq_true rfl) dX8_meanNote_16 ⟨(Nat.le_of_ble_eq_true rfl), (Nat.le_of_ble_eq_true rfl)⟩) ?_
  refine xk_icmp_ge (tgt := 63) hC dX8_meanNote_19 (by decide) (fun c5 => ?_) (fun c5 => ?_)
  · replace hf := (if_pos c5).symm.trans hf
    refine xk_iload_n hC dX8_meanNote_63 2 rfl rfl ?_
    refine xk_if_ne (tgt := 71) hC dX8_meanNote_64 (by decide) (fun c6 => ?_) (fun c6 => ?_)
    · replace hf := (if_neg c6).symm.trans hf
      refine xk_iload_n hC dX8_meanNote_71 1 rfl rfl ?_
      refine xk_i2d hC dX8_meanNote_72 ?_
      refine xk_iload_n hC dX8_meanNote_73 2 rfl rfl ?_
      refine xk_i2d hC dX8_meanNote_74 ?_
      obtain ⟨u7, h7, hf⟩ := xk_bi hf
      refine xk_ddiv hC dX8_meanNote_75 (xk_nn_e h7) ?_
      refine xk_locals [] rfl ?_
      exact t_X8_meanNote_76 hC hr (FP.ddiv (FP.i2d ((0 : Int32))) (FP.i2d ((0 : Int32)))) (q3.2) hf
    · replace hf := (if_pos c6).symm.trans hf
      refine xk_dconst0 hC dX8_meanNote_67 ?_
      refine xk_goto (tgt := 76) hC dX8_meanNote_68 (by decide) ?_
      refine xk_locals [] rfl ?_
      exact t_X8_meanNote_76 hC hr (FP.dconst0) (q3.2) hf
  · replace hf := (if_neg c5).symm.trans hf
    refine xk_aload_n hC dX8_meanNote_22 3 rfl rfl ?_
    refine xk_iload_n hC dX8_meanNote_23 0 rfl rfl ?_
    cases hf
theorem xd_X8_meanNote : xy_X8_meanNote.cls ≠ "java/lang/invoke/MethodHandle" ∧ xy_X8_meanNote.cls ≠ "java/lang/invoke/VarHandle" ∧ (parseMethodDescriptor xy_X8_meanNote.desc).map (fun d => d.parameters.length) = some 0 := ⟨by decide +kernel, by decide +kernel, by decide +kernel⟩
theorem c_X8_meanNote {l : Launch} {E : xEv} {x0 : Option Nat} {w : xWd} {q : (UInt64 × xWd)} (hf : f_X8_meanNote x0 w = some q) : xk_M l xy_X8_meanNote prog_7_method_55_code 4 (some .double) 1 20 0 0 E [va_rf (x0)] w (xk_Qd E q) := by
  refine xk_enter (by decide +kernel) (by simp [lg_sl, xk_cat1, xk_cati, xk_catl, xk_catd]) ?_
  intro p e s m args below meth c hC hr hin ha
  rw [show lv_args 0 [va_rf (x0)] = [(0, va_rf (x0))] by simp [lv_args, xk_cat1, xk_cati, xk_catl, xk_catd]]
  exact t_X8_meanNote_0 hC hr x0 w hf
def f_X8_valid (x0 : Option Nat) (x1 : Int32) (w : xWd) : Option (Int32 × xWd) := (xk_gR w (x0) 5 6).bind (fun v1 => (xk_is w (v1) 4).bind (fun u3 => (f_Jx4a65c_size_8abf5 (v1)  w).bind (fun q2 => if (q2.1) ≤ ((0 : Int32)) then some ((0 : Int32), q2.2) else (xk_gR q2.2 (x0) 5 6).bind (fun v5 => none))))
set_option maxHeartbeats 4000000 in
set_option maxRecDepth 100000 in
theorem t_X8_valid_0 {p : Program} {l : Launch} {e : Env} {s : State} {m : MethodId} {args : Array Value} {below : List Frame} {meth : Method} {c : Code} {E : xEv} (hC : xk_C p s m args meth c E prog_7_method_31_code "ClickbookModel" 4) (hr : meth.sig.returnType = (some .int)) {q : (Int32 × xWd)} (x0 : Option Nat) (x1 : Int32) (w : xWd) (hf : f_X8_valid x0 x1 w = some q) : xk_X p l e { frames := 1, cells := 0, slots := 0, locals := 20 } s m args below meth c (MQ below (xk_Qi E q) args s 0 0 (xk_A E.2.2.1)) E 4 0 0 0 [(0, va_rf (x0)), (1, .int (x1))] [] w := by
  refine xk_iconst (v := (0 : Int32)) hC dX8_valid_0 (by decide) ?_
  refine xk_istore_n (i := 2) (lv' := [(2, .int ((0 : Int32))), (0, va_rf (x0)), (1, .int (x1))]) hC dX8_valid_1 rfl (by decide) rfl ?_
  refine xk_iconst (v := (0 : Int32)) hC dX8_valid_2 (by decide) ?_
  refine xk_istore_n (i := 3) (lv' := [(3, .int ((0 : Int32))), (2, .int ((0 : Int32))), (0, va_rf (x0)), (1, .int (x1))]) hC dX8_valid_3 rfl (by decide) rfl ?_
  refine xk_iload_n hC dX8_valid_4 0 rfl rfl ?_
  refine xk_aload_n hC dX8_valid_5 2 rfl rfl ?_
  obtain ⟨v1, h1, hf⟩ := xk_bi hf
  refine xk_getR hC xi_5 xc_5 6 (by decide) xm_866 (Or.inl rfl) dX8_valid_6 h1 ?_
  obtain ⟨u3, h3, hf⟩ := xk_bi hf
  obtain ⟨q2, h2, hf⟩ := xk_bi hf
  refine xk_backi (xk_callV hC 0 xc_4 (c_Jx4a65c_size_8abf5 h2) h3 xm_910 xm_131 xm_132 xm_4 xm_133 ⟨rfl, xd_Jx4a65c_size_8abf5⟩ rfl ⟨Nat.le_of_ble_eq_true rfl, Nat.le_of_ble_eq_true rfl⟩ rfl (Nat.le_of_ble_eq_true rfl) dX8_valid_9 ⟨(Nat.le_of_ble_eq_true rfl), (Nat.le_of_ble_eq_true rfl)⟩) ?_
  refine xk_icmp_ge (tgt := 55) hC dX8_valid_12 (by decide) (fun c4 => ?_) (fun c4 => ?_)
  · replace hf := (if_pos c4).symm.trans hf
    refine xk_iload_n hC dX8_valid_55 1 rfl rfl ?_
    cases hf
    refine xk_widen (k := 0) (n := 0) (Nat.le_of_ble_eq_true rfl) (Nat.le_of_ble_eq_true rfl) ?_
    exact xk_iret hC hr rfl dX8_valid_56
  · replace hf := (if_neg c4).symm.trans hf
    refine xk_iload_n hC dX8_valid_15 1 rfl rfl ?_
    refine xk_aload_n hC dX8_valid_16 2 rfl rfl ?_
    obtain ⟨v5, h5, hf⟩ := xk_bi hf
    refine xk_getR hC xi_5 xc_5 6 (by decide) xm_866 (Or.inl rfl) dX8_valid_17 h5 ?_
    refine xk_iload_n hC dX8_valid_20 0 rfl rfl ?_
    cases hf
theorem xd_X8_valid : xy_X8_valid.cls ≠ "java/lang/invoke/MethodHandle" ∧ xy_X8_valid.cls ≠ "java/lang/invoke/VarHandle" ∧ (parseMethodDescriptor xy_X8_valid.desc).map (fun d => d.parameters.length) = some 1 := ⟨by decide +kernel, by decide +kernel, by decide +kernel⟩
theorem c_X8_valid {l : Launch} {E : xEv} {x0 : Option Nat} {x1 : Int32} {w : xWd} {q : (Int32 × xWd)} (hf : f_X8_valid x0 x1 w = some q) : xk_M l xy_X8_valid prog_7_method_31_code 4 (some .int) 1 20 0 0 E [va_rf (x0), .int (x1)] w (xk_Qi E q) := by
  refine xk_enter (by decide +kernel) (by simp [lg_sl, xk_cat1, xk_cati, xk_catl, xk_catd]) ?_
  intro p e s m args below meth c hC hr hin ha
  rw [show lv_args 0 [va_rf (x0), .int (x1)] = [(0, va_rf (x0)), (1, .int (x1))] by simp [lv_args, xk_cat1, xk_cati, xk_catl, xk_catd]]
  exact t_X8_valid_0 hC hr x0 x1 w hf
def f_X8_joinNow (x0 : Option Nat) (x1 : Int32) (w : xWd) : Option (Int32 × xWd) := (xk_is w (x0) 5).bind (fun u2 => (f_X8_valid (x0) (x1) w).bind (fun q1 => if (q1.1) = ((0 : Int32)) then some ((-1 : Int32), q1.2) else none))
set_option maxHeartbeats 4000000 in
set_option maxRecDepth 100000 in
theorem t_X8_joinNow_0 {p : Program} {l : Launch} {e : Env} {s : State} {m : MethodId} {args : Array Value} {below : List Frame} {meth : Method} {c : Code} {E : xEv} (hC : xk_C p s m args meth c E prog_7_method_36_code "ClickbookModel" 3) (hr : meth.sig.returnType = (some .int)) {q : (Int32 × xWd)} (x0 : Option Nat) (x1 : Int32) (w : xWd) (hf : f_X8_joinNow x0 x1 w = some q) : xk_X p l e { frames := 2, cells := 0, slots := 0, locals := 43 } s m args below meth c (MQ below (xk_Qi E q) args s 0 0 (xk_A E.2.2.1)) E 3 0 0 0 [(0, va_rf (x0)), (1, .int (x1))] [] w := by
  refine xk_aload_n hC dX8_joinNow_0 0 rfl rfl ?_
  refine xk_iload_n hC dX8_joinNow_1 1 rfl rfl ?_
  obtain ⟨u2, h2, hf⟩ := xk_bi hf
  obtain ⟨q1, h1, hf⟩ := xk_bi hf
  refine xk_backi (xk_callV hC 1 xc_5 (c_X8_valid h1) h2 xm_1217 xm_1219 xm_p46 xm_6 xm_1220 ⟨rfl, xd_X8_valid⟩ rfl ⟨Nat.le_of_ble_eq_true rfl, Nat.le_of_ble_eq_true rfl⟩ rfl (Nat.le_of_ble_eq_true rfl) dX8_joinNow_2 ⟨(Nat.le_of_ble_eq_true rfl), (Nat.le_of_ble_eq_true rfl)⟩) ?_
  refine xk_if_ne (tgt := 10) hC dX8_joinNow_5 (by decide) (fun c3 => ?_) (fun c3 => ?_)
  · replace hf := (if_neg c3).symm.trans hf
    refine xk_aload_n hC dX8_joinNow_10 0 rfl rfl ?_
    refine xk_iload_n hC dX8_joinNow_11 1 rfl rfl ?_
    cases hf
  · replace hf := (if_pos c3).symm.trans hf
    refine xk_iconst (v := (-1 : Int32)) hC dX8_joinNow_8 (by decide) ?_
    cases hf
    refine xk_widen (k := 0) (n := 0) (Nat.le_of_ble_eq_true rfl) (Nat.le_of_ble_eq_true rfl) ?_
    exact xk_iret hC hr rfl dX8_joinNow_9
theorem xd_X8_joinNow : xy_X8_joinNow.cls ≠ "java/lang/invoke/MethodHandle" ∧ xy_X8_joinNow.cls ≠ "java/lang/invoke/VarHandle" ∧ (parseMethodDescriptor xy_X8_joinNow.desc).map (fun d => d.parameters.length) = some 1 := ⟨by decide +kernel, by decide +kernel, by decide +kernel⟩
theorem c_X8_joinNow {l : Launch} {E : xEv} {x0 : Option Nat} {x1 : Int32} {w : xWd} {q : (Int32 × xWd)} (hf : f_X8_joinNow x0 x1 w = some q) : xk_M l xy_X8_joinNow prog_7_method_36_code 3 (some .int) 2 43 0 0 E [va_rf (x0), .int (x1)] w (xk_Qi E q) := by
  refine xk_enter (by decide +kernel) (by simp [lg_sl, xk_cat1, xk_cati, xk_catl, xk_catd]) ?_
  intro p e s m args below meth c hC hr hin ha
  rw [show lv_args 0 [va_rf (x0), .int (x1)] = [(0, va_rf (x0)), (1, .int (x1))] by simp [lv_args, xk_cat1, xk_cati, xk_catl, xk_catd]]
  exact t_X8_joinNow_0 hC hr x0 x1 w hf
def f_X8_join_22 (s0 : Int32) (w : xWd) : Option (Int32 × xWd) := some (s0, w)
set_option maxHeartbeats 4000000 in
set_option maxRecDepth 100000 in
theorem t_X8_join_22 {p : Program} {l : Launch} {e : Env} {s : State} {m : MethodId} {args : Array Value} {below : List Frame} {meth : Method} {c : Code} {E : xEv} (hC : xk_C p s m args meth c E prog_7_method_56_code "ClickbookModel" 2) (hr : meth.sig.returnType = (some .int)) {q : (Int32 × xWd)} (s0 : Int32) (w : xWd) (hf : f_X8_join_22 s0 w = some q) : xk_X p l e { frames := 3, cells := 0, slots := 0, locals := 65 } s m args below meth c (MQ below (xk_Qi E q) args s 0 0 (xk_A E.2.2.1)) E 2 0 0 22 [] [.int (s0)] w := by
  cases hf
  refine xk_widen (k := 0) (n := 0) (Nat.le_of_ble_eq_true rfl) (Nat.le_of_ble_eq_true rfl) ?_
  exact xk_iret hC hr rfl dX8_join_22
def f_X8_join (x0 : Option Nat) (x1 : Int32) (w : xWd) : Option (Int32 × xWd) := (xk_is w (x0) 5).bind (fun u2 => (f_X8_isNoCue (x0) (x1) w).bind (fun q1 => (xk_is q1.2 (x0) 5).bind (fun u4 => (f_X8_start (x0) (q1.1) ((1 : Int32)) q1.2).bind (fun q3 => if (q3.1) = ((0 : Int32)) then (xk_is q3.2 (x0) 5).bind (fun u7 => (f_X8_joinNow (x0) (x1) q3.2).bind (fun q6 => f_X8_join_22 (q6.1) (q6.2))) else f_X8_join_22 ((0 : Int32)) (q3.2)))))
set_option maxHeartbeats 4000000 in
set_option maxRecDepth 100000 in
theorem t_X8_join_0 {p : Program} {l : Launch} {e : Env} {s : State} {m : MethodId} {args : Array Value} {below : List Frame} {meth : Method} {c : Code} {E : xEv} (hC : xk_C p s m args meth c E prog_7_method_56_code "ClickbookModel" 2) (hr : meth.sig.returnType = (some .int)) {q : (Int32 × xWd)} (x0 : Option Nat) (x1 : Int32) (w : xWd) (hf : f_X8_join x0 x1 w = some q) : xk_X p l e { frames := 3, cells := 0, slots := 0, locals := 65 } s m args below meth c (MQ below (xk_Qi E q) args s 0 0 (xk_A E.2.2.1)) E 2 0 0 0 [(0, va_rf (x0)), (1, .int (x1))] [] w := by
  refine xk_aload_n hC dX8_join_0 0 rfl rfl ?_
  refine xk_aload_n hC dX8_join_1 0 rfl rfl ?_
  refine xk_iload_n hC dX8_join_2 1 rfl rfl ?_
  obtain ⟨u2, h2, hf⟩ := xk_bi hf
  obtain ⟨q1, h1, hf⟩ := xk_bi hf
  refine xk_backi (xk_callV hC 1 xc_5 (c_X8_isNoCue h1) h2 xm_1090 xm_1092 xm_p36 xm_6 xm_1093 ⟨rfl, xd_X8_isNoCue⟩ rfl ⟨Nat.le_of_ble_eq_true rfl, Nat.le_of_ble_eq_true rfl⟩ rfl (by simp [xk_cat1, xk_cati, xk_catl, xk_catd]) dX8_join_3 ⟨(Nat.le_of_ble_eq_true rfl), (Nat.le_of_ble_eq_true rfl)⟩) ?_
  refine xk_iconst (v := (1 : Int32)) hC dX8_join_6 (by decide) ?_
  obtain ⟨u4, h4, hf⟩ := xk_bi hf
  obtain ⟨q3, h3, hf⟩ := xk_bi hf
  refine xk_backi (xk_callV hC 2 xc_5 (c_X8_start h3) h4 xm_902 xm_904 xm_p33 xm_6 xm_905 ⟨rfl, xd_X8_start⟩ rfl ⟨Nat.le_of_ble_eq_true rfl, Nat.le_of_ble_eq_true rfl⟩ rfl (Nat.le_of_ble_eq_true rfl) dX8_join_7 ⟨(Nat.le_of_ble_eq_true rfl), (Nat.le_of_ble_eq_true rfl)⟩) ?_
  refine xk_if_eq (tgt := 17) hC dX8_join_10 (by decide) (fun c5 => ?_) (fun c5 => ?_)
  · replace hf := (if_pos c5).symm.trans hf
    refine xk_aload_n hC dX8_join_17 0 rfl rfl ?_
    refine xk_iload_n hC dX8_join_18 1 rfl rfl ?_
    obtain ⟨u7, h7, hf⟩ := xk_bi hf
    obtain ⟨q6, h6, hf⟩ := xk_bi hf
    refine xk_backi (xk_callV hC 1 xc_5 (c_X8_joinNow h6) h7 xm_1284 xm_1286 xm_p55 xm_6 xm_1287 ⟨rfl, xd_X8_joinNow⟩ rfl ⟨Nat.le_of_ble_eq_true rfl, Nat.le_of_ble_eq_true rfl⟩ rfl (Nat.le_of_ble_eq_true rfl) dX8_join_19 ⟨(Nat.le_of_ble_eq_true rfl), (Nat.le_of_ble_eq_true rfl)⟩) ?_
    refine xk_locals [] rfl ?_
    exact t_X8_join_22 hC hr (q6.1) (q6.2) hf
  · replace hf := (if_neg c5).symm.trans hf
    refine xk_iconst (v := (0 : Int32)) hC dX8_join_13 (by decide) ?_
    refine xk_goto (tgt := 22) hC dX8_join_14 (by decide) ?_
    refine xk_locals [] rfl ?_
    exact t_X8_join_22 hC hr ((0 : Int32)) (q3.2) hf
theorem xd_X8_join : xy_X8_join.cls ≠ "java/lang/invoke/MethodHandle" ∧ xy_X8_join.cls ≠ "java/lang/invoke/VarHandle" ∧ (parseMethodDescriptor xy_X8_join.desc).map (fun d => d.parameters.length) = some 1 := ⟨by decide +kernel, by decide +kernel, by decide +kernel⟩
theorem c_X8_join {l : Launch} {E : xEv} {x0 : Option Nat} {x1 : Int32} {w : xWd} {q : (Int32 × xWd)} (hf : f_X8_join x0 x1 w = some q) : xk_M l xy_X8_join prog_7_method_56_code 2 (some .int) 3 65 0 0 E [va_rf (x0), .int (x1)] w (xk_Qi E q) := by
  refine xk_enter (by decide +kernel) (by simp [lg_sl, xk_cat1, xk_cati, xk_catl, xk_catd]) ?_
  intro p e s m args below meth c hC hr hin ha
  rw [show lv_args 0 [va_rf (x0), .int (x1)] = [(0, va_rf (x0)), (1, .int (x1))] by simp [lv_args, xk_cat1, xk_cati, xk_catl, xk_catd]]
  exact t_X8_join_0 hC hr x0 x1 w hf
def f_X8_joined (x0 : Option Nat) (x1 : Int32) (w : xWd) : Option (Option Nat × xWd) := (xk_is w (x0) 5).bind (fun u2 => (f_X8_valid (x0) (x1) w).bind (fun q1 => if (q1.1) = ((0 : Int32)) then some (none, q1.2) else none))
set_option maxHeartbeats 4000000 in
set_option maxRecDepth 100000 in
theorem t_X8_joined_0 {p : Program} {l : Launch} {e : Env} {s : State} {m : MethodId} {args : Array Value} {below : List Frame} {meth : Method} {c : Code} {E : xEv} (hC : xk_C p s m args meth c E prog_7_method_35_code "ClickbookModel" 5) (hr : meth.sig.returnType = (some (.array .int))) {q : (Option Nat × xWd)} (x0 : Option Nat) (x1 : Int32) (w : xWd) (hf : f_X8_joined x0 x1 w = some q) : xk_X p l e { frames := 2, cells := 0, slots := 0, locals := 43 } s m args below meth c (MQ below (xk_Qq E q) args s 0 0 (xk_A E.2.2.1)) E 5 0 0 0 [(0, va_rf (x0)), (1, .int (x1))] [] w := by
  refine xk_aload_n hC dX8_joined_0 0 rfl rfl ?_
  refine xk_iload_n hC dX8_joined_1 1 rfl rfl ?_
  obtain ⟨u2, h2, hf⟩ := xk_bi hf
  obtain ⟨q1, h1, hf⟩ := xk_bi hf
  refine xk_backi (xk_callV hC 1 xc_5 (c_X8_valid h1) h2 xm_1217 xm_1219 xm_p46 xm_6 xm_1220 ⟨rfl, xd_X8_valid⟩ rfl ⟨Nat.le_of_ble_eq_true rfl, Nat.le_of_ble_eq_true rfl⟩ rfl (Nat.le_of_ble_eq_true rfl) dX8_joined_2 ⟨(Nat.le_of_ble_eq_true rfl), (Nat.le_of_ble_eq_true rfl)⟩) ?_
  refine xk_if_ne (tgt := 10) hC dX8_joined_5 (by decide) (fun c3 => ?_) (fun c3 => ?_)
  · replace hf := (if_neg c3).symm.trans hf
    refine xk_aload_n hC dX8_joined_10 0 rfl rfl ?_
    refine xk_iload_n hC dX8_joined_11 1 rfl rfl ?_
    cases hf
  · replace hf := (if_pos c3).symm.trans hf
    refine xk_null hC dX8_joined_8 ?_
    cases hf
    refine xk_widen (k := 0) (n := 0) (Nat.le_of_ble_eq_true rfl) (Nat.le_of_ble_eq_true rfl) ?_
    exact xk_aret hC hr (Or.inr ⟨_, rfl⟩) dX8_joined_9
theorem xd_X8_joined : xy_X8_joined.cls ≠ "java/lang/invoke/MethodHandle" ∧ xy_X8_joined.cls ≠ "java/lang/invoke/VarHandle" ∧ (parseMethodDescriptor xy_X8_joined.desc).map (fun d => d.parameters.length) = some 1 := ⟨by decide +kernel, by decide +kernel, by decide +kernel⟩
theorem c_X8_joined {l : Launch} {E : xEv} {x0 : Option Nat} {x1 : Int32} {w : xWd} {q : (Option Nat × xWd)} (hf : f_X8_joined x0 x1 w = some q) : xk_M l xy_X8_joined prog_7_method_35_code 5 (some (.array .int)) 2 43 0 0 E [va_rf (x0), .int (x1)] w (xk_Qq E q) := by
  refine xk_enter (by decide +kernel) (by simp [lg_sl, xk_cat1, xk_cati, xk_catl, xk_catd]) ?_
  intro p e s m args below meth c hC hr hin ha
  rw [show lv_args 0 [va_rf (x0), .int (x1)] = [(0, va_rf (x0)), (1, .int (x1))] by simp [lv_args, xk_cat1, xk_cati, xk_catl, xk_catd]]
  exact t_X8_joined_0 hC hr x0 x1 w hf
def f_X8_joined__33 (s0 : Int32) (w : xWd) : Option (Int32 × xWd) := some (s0, w)
set_option maxHeartbeats 4000000 in
set_option maxRecDepth 100000 in
theorem t_X8_joined__33 {p : Program} {l : Launch} {e : Env} {s : State} {m : MethodId} {args : Array Value} {below : List Frame} {meth : Method} {c : Code} {E : xEv} (hC : xk_C p s m args meth c E prog_7_method_57_code "ClickbookModel" 4) (hr : meth.sig.returnType = (some .int)) {q : (Int32 × xWd)} (s0 : Int32) (w : xWd) (hf : f_X8_joined__33 s0 w = some q) : xk_X p l e { frames := 3, cells := 0, slots := 0, locals := 67 } s m args below meth c (MQ below (xk_Qi E q) args s 0 0 (xk_A E.2.2.1)) E 4 0 0 33 [] [.int (s0)] w := by
  cases hf
  refine xk_widen (k := 0) (n := 0) (Nat.le_of_ble_eq_true rfl) (Nat.le_of_ble_eq_true rfl) ?_
  exact xk_iret hC hr rfl dX8_joined__33
def f_X8_joined_ (x0 : Option Nat) (x1 : Int32) (x2 : Int32) (w : xWd) : Option (Int32 × xWd) := (xk_is w (x0) 5).bind (fun u2 => (f_X8_isNoBar (x0) (x1) (x2) w).bind (fun q1 => (xk_is q1.2 (x0) 5).bind (fun u4 => (f_X8_start (x0) (q1.1) ((1 : Int32)) q1.2).bind (fun q3 => if (q3.1) = ((0 : Int32)) then (xk_is q3.2 (x0) 5).bind (fun u7 => (f_X8_joined (x0) (x1) q3.2).bind (fun q6 => if (q6.1) = none then f_X8_joined__33 ((-1 : Int32)) (q6.2) else (xk_lI 0 q6.2 (q6.1) (x2)).bind (fun v9 => f_X8_joined__33 v9 (q6.2)))) else some ((0 : Int32), q3.2)))))
set_option maxHeartbeats 4000000 in
set_option maxRecDepth 100000 in
theorem t_X8_joined__0 {p : Program} {l : Launch} {e : Env} {s : State} {m : MethodId} {args : Array Value} {below : List Frame} {meth : Method} {c : Code} {E : xEv} (hC : xk_C p s m args meth c E prog_7_method_57_code "ClickbookModel" 4) (hr : meth.sig.returnType = (some .int)) {q : (Int32 × xWd)} (x0 : Option Nat) (x1 : Int32) (x2 : Int32) (w : xWd) (hf : f_X8_joined_ x0 x1 x2 w = some q) : xk_X p l e { frames := 3, cells := 0, slots := 0, locals := 67 } s m args below meth c (MQ below (xk_Qi E q) args s 0 0 (xk_A E.2.2.1)) E 4 0 0 0 [(0, va_rf (x0)), (1, .int (x1)), (2, .int (x2))] [] w := by
  refine xk_aload_n hC dX8_joined__0 0 rfl rfl ?_
  refine xk_aload_n hC dX8_joined__1 0 rfl rfl ?_
  refine xk_iload_n hC dX8_joined__2 1 rfl rfl ?_
  refine xk_iload_n hC dX8_joined__3 2 rfl rfl ?_
  obtain ⟨u2, h2, hf⟩ := xk_bi hf
  obtain ⟨q1, h1, hf⟩ := xk_bi hf
  refine xk_backi (xk_callV hC 2 xc_5 (c_X8_isNoBar h1) h2 xm_1101 xm_1103 xm_p37 xm_6 xm_1104 ⟨rfl, xd_X8_isNoBar⟩ rfl ⟨Nat.le_of_ble_eq_true rfl, Nat.le_of_ble_eq_true rfl⟩ rfl (by simp [xk_cat1, xk_cati, xk_catl, xk_catd]) dX8_joined__4 ⟨(Nat.le_of_ble_eq_true rfl), (Nat.le_of_ble_eq_true rfl)⟩) ?_
  refine xk_iconst (v := (1 : Int32)) hC dX8_joined__7 (by decide) ?_
  obtain ⟨u4, h4, hf⟩ := xk_bi hf
  obtain ⟨q3, h3, hf⟩ := xk_bi hf
  refine xk_backi (xk_callV hC 2 xc_5 (c_X8_start h3) h4 xm_902 xm_904 xm_p33 xm_6 xm_905 ⟨rfl, xd_X8_start⟩ rfl ⟨Nat.le_of_ble_eq_true rfl, Nat.le_of_ble_eq_true rfl⟩ rfl (Nat.le_of_ble_eq_true rfl) dX8_joined__8 ⟨(Nat.le_of_ble_eq_true rfl), (Nat.le_of_ble_eq_true rfl)⟩) ?_
  refine xk_if_eq (tgt := 16) hC dX8_joined__11 (by decide) (fun c5 => ?_) (fun c5 => ?_)
  · replace hf := (if_pos c5).symm.trans hf
    refine xk_aload_n hC dX8_joined__16 0 rfl rfl ?_
    refine xk_iload_n hC dX8_joined__17 1 rfl rfl ?_
    obtain ⟨u7, h7, hf⟩ := xk_bi hf
    obtain ⟨q6, h6, hf⟩ := xk_bi hf
    refine xk_backq (xk_callV hC 1 xc_5 (c_X8_joined h6) h7 xm_1305 xm_1307 xm_p59 xm_6 xm_1308 ⟨rfl, xd_X8_joined⟩ rfl ⟨Nat.le_of_ble_eq_true rfl, Nat.le_of_ble_eq_true rfl⟩ rfl (Nat.le_of_ble_eq_true rfl) dX8_joined__18 ⟨(Nat.le_of_ble_eq_true rfl), (Nat.le_of_ble_eq_true rfl)⟩) ?_
    refine xk_astore_n (i := 3) (lv' := [(3, va_rf (q6.1)), (0, va_rf (x0)), (1, .int (x1)), (2, .int (x2))]) hC dX8_joined__21 rfl (by decide) rfl ?_
    refine xk_aload_n hC dX8_joined__22 0 rfl rfl ?_
    refine xk_ifnonnull (tgt := 30) hC dX8_joined__23 (by decide) (fun c8 => ?_) (fun c8 => ?_)
    · replace hf := (if_neg c8).symm.trans hf
      refine xk_aload_n hC dX8_joined__30 0 rfl rfl ?_
      refine xk_iload_n hC dX8_joined__31 3 rfl rfl ?_
      obtain ⟨v9, h9, hf⟩ := xk_bi hf
      refine xk_iald hC rfl dX8_joined__32 h9 ?_
      refine xk_locals [] rfl ?_
      exact t_X8_joined__33 hC hr v9 (q6.2) hf
    · replace hf := (if_pos c8).symm.trans hf
      refine xk_iconst (v := (-1 : Int32)) hC dX8_joined__26 (by decide) ?_
      refine xk_goto (tgt := 33) hC dX8_joined__27 (by decide) ?_
      refine xk_locals [] rfl ?_
      exact t_X8_joined__33 hC hr ((-1 : Int32)) (q6.2) hf
  · replace hf := (if_neg c5).symm.trans hf
    refine xk_iconst (v := (0 : Int32)) hC dX8_joined__14 (by decide) ?_
    cases hf
    refine xk_widen (k := 0) (n := 0) (Nat.le_of_ble_eq_true rfl) (Nat.le_of_ble_eq_true rfl) ?_
    exact xk_iret hC hr rfl dX8_joined__15
theorem xd_X8_joined_ : xy_X8_joined_.cls ≠ "java/lang/invoke/MethodHandle" ∧ xy_X8_joined_.cls ≠ "java/lang/invoke/VarHandle" ∧ (parseMethodDescriptor xy_X8_joined_.desc).map (fun d => d.parameters.length) = some 2 := ⟨by decide +kernel, by decide +kernel, by decide +kernel⟩
theorem c_X8_joined_ {l : Launch} {E : xEv} {x0 : Option Nat} {x1 : Int32} {x2 : Int32} {w : xWd} {q : (Int32 × xWd)} (hf : f_X8_joined_ x0 x1 x2 w = some q) : xk_M l xy_X8_joined_ prog_7_method_57_code 4 (some .int) 3 67 0 0 E [va_rf (x0), .int (x1), .int (x2)] w (xk_Qi E q) := by
  refine xk_enter (by decide +kernel) (by simp [lg_sl, xk_cat1, xk_cati, xk_catl, xk_catd]) ?_
  intro p e s m args below meth c hC hr hin ha
  rw [show lv_args 0 [va_rf (x0), .int (x1), .int (x2)] = [(0, va_rf (x0)), (1, .int (x1)), (2, .int (x2))] by simp [lv_args, xk_cat1, xk_cati, xk_catl, xk_catd]]
  exact t_X8_joined__0 hC hr x0 x1 x2 w hf
def f_X8_bestStart (x0 : Option Nat) (x1 : Int32) (w : xWd) : Option (Int32 × xWd) := (xk_is w (x0) 5).bind (fun u2 => (f_X8_isNoCue (x0) (x1) w).bind (fun q1 => (xk_is q1.2 (x0) 5).bind (fun u4 => (f_X8_start (x0) (q1.1) ((1 : Int32)) q1.2).bind (fun q3 => if (q3.1) = ((0 : Int32)) then none else some ((0 : Int32), q3.2)))))
set_option maxHeartbeats 4000000 in
set_option maxRecDepth 100000 in
theorem t_X8_bestStart_0 {p : Program} {l : Launch} {e : Env} {s : State} {m : MethodId} {args : Array Value} {below : List Frame} {meth : Method} {c : Code} {E : xEv} (hC : xk_C p s m args meth c E prog_7_method_59_code "ClickbookModel" 2) (hr : meth.sig.returnType = (some .int)) {q : (Int32 × xWd)} (x0 : Option Nat) (x1 : Int32) (w : xWd) (hf : f_X8_bestStart x0 x1 w = some q) : xk_X p l e { frames := 2, cells := 0, slots := 0, locals := 44 } s m args below meth c (MQ below (xk_Qi E q) args s 0 0 (xk_A E.2.2.1)) E 2 0 0 0 [(0, va_rf (x0)), (1, .int (x1))] [] w := by
  refine xk_aload_n hC dX8_bestStart_0 0 rfl rfl ?_
  refine xk_aload_n hC dX8_bestStart_1 0 rfl rfl ?_
  refine xk_iload_n hC dX8_bestStart_2 1 rfl rfl ?_
  obtain ⟨u2, h2, hf⟩ := xk_bi hf
  obtain ⟨q1, h1, hf⟩ := xk_bi hf
  refine xk_backi (xk_callV hC 1 xc_5 (c_X8_isNoCue h1) h2 xm_1090 xm_1092 xm_p36 xm_6 xm_1093 ⟨rfl, xd_X8_isNoCue⟩ rfl ⟨Nat.le_of_ble_eq_true rfl, Nat.le_of_ble_eq_true rfl⟩ rfl (by simp [xk_cat1, xk_cati, xk_catl, xk_catd]) dX8_bestStart_3 ⟨(Nat.le_of_ble_eq_true rfl), (Nat.le_of_ble_eq_true rfl)⟩) ?_
  refine xk_iconst (v := (1 : Int32)) hC dX8_bestStart_6 (by decide) ?_
  obtain ⟨u4, h4, hf⟩ := xk_bi hf
  obtain ⟨q3, h3, hf⟩ := xk_bi hf
  refine xk_backi (xk_callV hC 2 xc_5 (c_X8_start h3) h4 xm_902 xm_904 xm_p33 xm_6 xm_905 ⟨rfl, xd_X8_start⟩ rfl ⟨Nat.le_of_ble_eq_true rfl, Nat.le_of_ble_eq_true rfl⟩ rfl (Nat.le_of_ble_eq_true rfl) dX8_bestStart_7 ⟨(Nat.le_of_ble_eq_true rfl), (Nat.le_of_ble_eq_true rfl)⟩) ?_
  refine xk_if_eq (tgt := 17) hC dX8_bestStart_10 (by decide) (fun c5 => ?_) (fun c5 => ?_)
  · replace hf := (if_pos c5).symm.trans hf
    refine xk_aload_n hC dX8_bestStart_17 0 rfl rfl ?_
    refine xk_iload_n hC dX8_bestStart_18 1 rfl rfl ?_
    cases hf
  · replace hf := (if_neg c5).symm.trans hf
    refine xk_iconst (v := (0 : Int32)) hC dX8_bestStart_13 (by decide) ?_
    refine xk_goto (tgt := 22) hC dX8_bestStart_14 (by decide) ?_
    cases hf
    refine xk_widen (k := 0) (n := 0) (Nat.le_of_ble_eq_true rfl) (Nat.le_of_ble_eq_true rfl) ?_
    exact xk_iret hC hr rfl dX8_bestStart_22
theorem xd_X8_bestStart : xy_X8_bestStart.cls ≠ "java/lang/invoke/MethodHandle" ∧ xy_X8_bestStart.cls ≠ "java/lang/invoke/VarHandle" ∧ (parseMethodDescriptor xy_X8_bestStart.desc).map (fun d => d.parameters.length) = some 1 := ⟨by decide +kernel, by decide +kernel, by decide +kernel⟩
theorem c_X8_bestStart {l : Launch} {E : xEv} {x0 : Option Nat} {x1 : Int32} {w : xWd} {q : (Int32 × xWd)} (hf : f_X8_bestStart x0 x1 w = some q) : xk_M l xy_X8_bestStart prog_7_method_59_code 2 (some .int) 2 44 0 0 E [va_rf (x0), .int (x1)] w (xk_Qi E q) := by
  refine xk_enter (by decide +kernel) (by simp [lg_sl, xk_cat1, xk_cati, xk_catl, xk_catd]) ?_
  intro p e s m args below meth c hC hr hin ha
  rw [show lv_args 0 [va_rf (x0), .int (x1)] = [(0, va_rf (x0)), (1, .int (x1))] by simp [lv_args, xk_cat1, xk_cati, xk_catl, xk_catd]]
  exact t_X8_bestStart_0 hC hr x0 x1 w hf
def f_X8_bestClick (x0 : Option Nat) (x1 : Int32) (x2 : Int32) (w : xWd) : Option (Int32 × xWd) := (xk_is w (x0) 5).bind (fun u2 => (f_X8_isNoBar (x0) (x1) (x2) w).bind (fun q1 => (xk_is q1.2 (x0) 5).bind (fun u4 => (f_X8_start (x0) (q1.1) ((1 : Int32)) q1.2).bind (fun q3 => if (q3.1) = ((0 : Int32)) then none else some ((0 : Int32), q3.2)))))
set_option maxHeartbeats 4000000 in
set_option maxRecDepth 100000 in
theorem t_X8_bestClick_0 {p : Program} {l : Launch} {e : Env} {s : State} {m : MethodId} {args : Array Value} {below : List Frame} {meth : Method} {c : Code} {E : xEv} (hC : xk_C p s m args meth c E prog_7_method_61_code "ClickbookModel" 3) (hr : meth.sig.returnType = (some .int)) {q : (Int32 × xWd)} (x0 : Option Nat) (x1 : Int32) (x2 : Int32) (w : xWd) (hf : f_X8_bestClick x0 x1 x2 w = some q) : xk_X p l e { frames := 3, cells := 0, slots := 0, locals := 65 } s m args below meth c (MQ below (xk_Qi E q) args s 0 0 (xk_A E.2.2.1)) E 3 0 0 0 [(0, va_rf (x0)), (1, .int (x1)), (2, .int (x2))] [] w := by
  refine xk_aload_n hC dX8_bestClick_0 0 rfl rfl ?_
  refine xk_aload_n hC dX8_bestClick_1 0 rfl rfl ?_
  refine xk_iload_n hC dX8_bestClick_2 1 rfl rfl ?_
  refine xk_iload_n hC dX8_bestClick_3 2 rfl rfl ?_
  obtain ⟨u2, h2, hf⟩ := xk_bi hf
  obtain ⟨q1, h1, hf⟩ := xk_bi hf
  refine xk_backi (xk_callV hC 2 xc_5 (c_X8_isNoBar h1) h2 xm_1101 xm_1103 xm_p37 xm_6 xm_1104 ⟨rfl, xd_X8_isNoBar⟩ rfl ⟨Nat.le_of_ble_eq_true rfl, Nat.le_of_ble_eq_true rfl⟩ rfl (by simp [xk_cat1, xk_cati, xk_catl, xk_catd]) dX8_bestClick_4 ⟨(Nat.le_of_ble_eq_true rfl), (Nat.le_of_ble_eq_true rfl)⟩) ?_
  refine xk_iconst (v := (1 : Int32)) hC dX8_bestClick_7 (by decide) ?_
  obtain ⟨u4, h4, hf⟩ := xk_bi hf
  obtain ⟨q3, h3, hf⟩ := xk_bi hf
  refine xk_backi (xk_callV hC 2 xc_5 (c_X8_start h3) h4 xm_902 xm_904 xm_p33 xm_6 xm_905 ⟨rfl, xd_X8_start⟩ rfl ⟨Nat.le_of_ble_eq_true rfl, Nat.le_of_ble_eq_true rfl⟩ rfl (Nat.le_of_ble_eq_true rfl) dX8_bestClick_8 ⟨(Nat.le_of_ble_eq_true rfl), (Nat.le_of_ble_eq_true rfl)⟩) ?_
  refine xk_if_eq (tgt := 18) hC dX8_bestClick_11 (by decide) (fun c5 => ?_) (fun c5 => ?_)
  · replace hf := (if_pos c5).symm.trans hf
    refine xk_aload_n hC dX8_bestClick_18 0 rfl rfl ?_
    refine xk_iload_n hC dX8_bestClick_19 1 rfl rfl ?_
    refine xk_iload_n hC dX8_bestClick_20 2 rfl rfl ?_
    cases hf
  · replace hf := (if_neg c5).symm.trans hf
    refine xk_iconst (v := (0 : Int32)) hC dX8_bestClick_14 (by decide) ?_
    refine xk_goto (tgt := 24) hC dX8_bestClick_15 (by decide) ?_
    cases hf
    refine xk_widen (k := 0) (n := 0) (Nat.le_of_ble_eq_true rfl) (Nat.le_of_ble_eq_true rfl) ?_
    exact xk_iret hC hr rfl dX8_bestClick_24
theorem xd_X8_bestClick : xy_X8_bestClick.cls ≠ "java/lang/invoke/MethodHandle" ∧ xy_X8_bestClick.cls ≠ "java/lang/invoke/VarHandle" ∧ (parseMethodDescriptor xy_X8_bestClick.desc).map (fun d => d.parameters.length) = some 2 := ⟨by decide +kernel, by decide +kernel, by decide +kernel⟩
theorem c_X8_bestClick {l : Launch} {E : xEv} {x0 : Option Nat} {x1 : Int32} {x2 : Int32} {w : xWd} {q : (Int32 × xWd)} (hf : f_X8_bestClick x0 x1 x2 w = some q) : xk_M l xy_X8_bestClick prog_7_method_61_code 3 (some .int) 3 65 0 0 E [va_rf (x0), .int (x1), .int (x2)] w (xk_Qi E q) := by
  refine xk_enter (by decide +kernel) (by simp [lg_sl, xk_cat1, xk_cati, xk_catl, xk_catd]) ?_
  intro p e s m args below meth c hC hr hin ha
  rw [show lv_args 0 [va_rf (x0), .int (x1), .int (x2)] = [(0, va_rf (x0)), (1, .int (x1)), (2, .int (x2))] by simp [lv_args, xk_cat1, xk_cati, xk_catl, xk_catd]]
  exact t_X8_bestClick_0 hC hr x0 x1 x2 w hf
def f_X8_wouldMeetNow (x0 : Option Nat) (x1 : Int32) (x2 : Int32) (w : xWd) : Option (Int32 × xWd) := (xk_is w (x0) 5).bind (fun u2 => (f_X8_frames (x0)  w).bind (fun q1 => (xk_len q1.2 (q1.1)).bind (fun v3 => if (v3) ≤ ((0 : Int32)) then (xk_is q1.2 (x0) 5).bind (fun u6 => (f_X8_beats (x0)  q1.2).bind (fun q5 => (xk_len q5.2 (q5.1)).bind (fun v7 => if (v7) ≤ ((0 : Int32)) then (xk_is q5.2 (x0) 5).bind (fun u10 => (f_X8_met (x0) (q1.1) (q5.1) q5.2).bind (fun q9 => some (q9.1, q9.2))) else none))) else none)))
set_option maxHeartbeats 4000000 in
set_option maxRecDepth 100000 in
theorem t_X8_wouldMeetNow_0 {p : Program} {l : Launch} {e : Env} {s : State} {m : MethodId} {args : Array Value} {below : List Frame} {meth : Method} {c : Code} {E : xEv} (hC : xk_C p s m args meth c E prog_7_method_62_code "ClickbookModel" 8) (hr : meth.sig.returnType = (some .int)) {q : (Int32 × xWd)} (x0 : Option Nat) (x1 : Int32) (x2 : Int32) (w : xWd) (hf : f_X8_wouldMeetNow x0 x1 x2 w = some q) : xk_X p l e { frames := 4, cells := 2, slots := 128, locals := 100 } s m args below meth c (MQ below (xk_Qi E q) args s 2 128 (xk_A E.2.2.1)) E 8 0 0 0 [(0, va_rf (x0)), (1, .int (x1)), (2, .int (x2))] [] w := by
  refine xk_aload_n hC dX8_wouldMeetNow_0 0 rfl rfl ?_
  obtain ⟨u2, h2, hf⟩ := xk_bi hf
  obtain ⟨q1, h1, hf⟩ := xk_bi hf
  refine xk_backq (xk_callV hC 0 xc_5 (c_X8_frames h1) h2 xm_1114 xm_1116 xm_p39 xm_6 xm_1117 ⟨rfl, xd_X8_frames⟩ rfl ⟨Nat.le_of_ble_eq_true rfl, Nat.le_of_ble_eq_true rfl⟩ rfl (Nat.le_of_ble_eq_true rfl) dX8_wouldMeetNow_1 ⟨(Nat.le_of_ble_eq_true rfl), (Nat.le_of_ble_eq_true rfl)⟩) ?_
  refine xk_astore_n (i := 3) (lv' := [(3, va_rf (q1.1)), (0, va_rf (x0)), (1, .int (x1)), (2, .int (x2))]) hC dX8_wouldMeetNow_4 rfl (by decide) rfl ?_
  refine xk_iconst (v := (0 : Int32)) hC dX8_wouldMeetNow_5 (by decide) ?_
  refine xk_istore (i := 4) (lv' := [(4, .int ((0 : Int32))), (3, va_rf (q1.1)), (0, va_rf (x0)), (1, .int (x1)), (2, .int (x2))]) hC dX8_wouldMeetNow_6 (by decide) (by simp [xk_cat1]) ?_
  refine xk_iload hC dX8_wouldMeetNow_8 0 rfl ?_
  refine xk_aload_n hC dX8_wouldMeetNow_10 1 rfl rfl ?_
  obtain ⟨v3, h3, hf⟩ := xk_bi hf
  refine xk_alen hC dX8_wouldMeetNow_11 h3 ?_
  refine xk_icmp_ge (tgt := 58) hC dX8_wouldMeetNow_12 (by decide) (fun c4 => ?_) (fun c4 => ?_)
  · replace hf := (if_pos c4).symm.trans hf
    refine xk_aload_n hC dX8_wouldMeetNow_58 2 rfl rfl ?_
    obtain ⟨u6, h6, hf⟩ := xk_bi hf
    obtain ⟨q5, h5, hf⟩ := xk_bi hf
    refine xk_backq (xk_callV hC 0 xc_5 (c_X8_beats h5) h6 xm_1118 xm_1120 xm_p40 xm_6 xm_1121 ⟨rfl, xd_X8_beats⟩ rfl ⟨Nat.le_of_ble_eq_true rfl, Nat.le_of_ble_eq_true rfl⟩ rfl (Nat.le_of_ble_eq_true rfl) dX8_wouldMeetNow_59 ⟨(Nat.le_of_ble_eq_true rfl), (Nat.le_of_ble_eq_true rfl)⟩) ?_
    refine xk_astore (i := 4) (lv' := [(4, va_rf (q5.1)), (3, va_rf (q1.1)), (0, va_rf (x0)), (1, .int (x1)), (2, .int (x2))]) hC dX8_wouldMeetNow_62 (by decide) (by simp [xk_cat1]) ?_
    refine xk_iconst (v := (0 : Int32)) hC dX8_wouldMeetNow_64 (by decide) ?_
    refine xk_istore (i := 5) (lv' := [(5, .int ((0 : Int32))), (4, va_rf (q5.1)), (3, va_rf (q1.1)), (0, va_rf (x0)), (1, .int (x1)), (2, .int (x2))]) hC dX8_wouldMeetNow_65 (by decide) (by simp [xk_cat1]) ?_
    refine xk_iload hC dX8_wouldMeetNow_67 0 rfl ?_
    refine xk_aload hC dX8_wouldMeetNow_69 1 rfl ?_
    obtain ⟨v7, h7, hf⟩ := xk_bi hf
    refine xk_alen hC dX8_wouldMeetNow_71 h7 ?_
    refine xk_icmp_ge (tgt := 152) hC dX8_wouldMeetNow_72 (by decide) (fun c8 => ?_) (fun c8 => ?_)
    · replace hf := (if_pos c8).symm.trans hf
      refine xk_aload_n hC dX8_wouldMeetNow_152 3 rfl rfl ?_
      refine xk_aload_n hC dX8_wouldMeetNow_153 2 rfl rfl ?_
      refine xk_aload hC dX8_wouldMeetNow_154 1 rfl ?_
      obtain ⟨u10, h10, hf⟩ := xk_bi hf
      obtain ⟨q9, h9, hf⟩ := xk_bi hf
      refine xk_backi (xk_callV hC 2 xc_5 (c_X8_met h9) h10 xm_1136 xm_1138 xm_p41 xm_6 xm_1139 ⟨rfl, xd_X8_met⟩ rfl ⟨Nat.le_of_ble_eq_true rfl, Nat.le_of_ble_eq_true rfl⟩ rfl (Nat.le_of_ble_eq_true rfl) dX8_wouldMeetNow_156 ⟨(Nat.le_of_ble_eq_true rfl), (Nat.le_of_ble_eq_true rfl)⟩) ?_
      cases hf
      refine xk_widen (k := 2) (n := 128) (Nat.le_of_ble_eq_true rfl) (Nat.le_of_ble_eq_true rfl) ?_
      exact xk_iret hC hr rfl dX8_wouldMeetNow_159
    · replace hf := (if_neg c8).symm.trans hf
      cases hf
  · replace hf := (if_neg c4).symm.trans hf
    cases hf
theorem xd_X8_wouldMeetNow : xy_X8_wouldMeetNow.cls ≠ "java/lang/invoke/MethodHandle" ∧ xy_X8_wouldMeetNow.cls ≠ "java/lang/invoke/VarHandle" ∧ (parseMethodDescriptor xy_X8_wouldMeetNow.desc).map (fun d => d.parameters.length) = some 2 := ⟨by decide +kernel, by decide +kernel, by decide +kernel⟩
theorem c_X8_wouldMeetNow {l : Launch} {E : xEv} {x0 : Option Nat} {x1 : Int32} {x2 : Int32} {w : xWd} {q : (Int32 × xWd)} (hf : f_X8_wouldMeetNow x0 x1 x2 w = some q) : xk_M l xy_X8_wouldMeetNow prog_7_method_62_code 8 (some .int) 4 100 2 128 E [va_rf (x0), .int (x1), .int (x2)] w (xk_Qi E q) := by
  refine xk_enter (by decide +kernel) (by simp [lg_sl, xk_cat1, xk_cati, xk_catl, xk_catd]) ?_
  intro p e s m args below meth c hC hr hin ha
  rw [show lv_args 0 [va_rf (x0), .int (x1), .int (x2)] = [(0, va_rf (x0)), (1, .int (x1)), (2, .int (x2))] by simp [lv_args, xk_cat1, xk_cati, xk_catl, xk_catd]]
  exact t_X8_wouldMeetNow_0 hC hr x0 x1 x2 w hf
def f_X8_wouldMeet_24 (s0 : Int32) (w : xWd) : Option (Int32 × xWd) := some (s0, w)
set_option maxHeartbeats 4000000 in
set_option maxRecDepth 100000 in
theorem t_X8_wouldMeet_24 {p : Program} {l : Launch} {e : Env} {s : State} {m : MethodId} {args : Array Value} {below : List Frame} {meth : Method} {c : Code} {E : xEv} (hC : xk_C p s m args meth c E prog_7_method_63_code "ClickbookModel" 3) (hr : meth.sig.returnType = (some .int)) {q : (Int32 × xWd)} (s0 : Int32) (w : xWd) (hf : f_X8_wouldMeet_24 s0 w = some q) : xk_X p l e { frames := 5, cells := 2, slots := 128, locals := 127 } s m args below meth c (MQ below (xk_Qi E q) args s 2 128 (xk_A E.2.2.1)) E 3 2 128 24 [] [.int (s0)] w := by
  cases hf
  refine xk_widen (k := 2) (n := 128) (Nat.le_of_ble_eq_true rfl) (Nat.le_of_ble_eq_true rfl) ?_
  exact xk_iret hC hr rfl dX8_wouldMeet_24
def f_X8_wouldMeet (x0 : Option Nat) (x1 : Int32) (x2 : Int32) (w : xWd) : Option (Int32 × xWd) := (xk_is w (x0) 5).bind (fun u2 => (f_X8_isNoChange (x0) (x1) (x2) w).bind (fun q1 => (xk_is q1.2 (x0) 5).bind (fun u4 => (f_X8_start (x0) (q1.1) ((1 : Int32)) q1.2).bind (fun q3 => if (q3.1) = ((0 : Int32)) then (xk_is q3.2 (x0) 5).bind (fun u7 => (f_X8_wouldMeetNow (x0) (x1) (x2) q3.2).bind (fun q6 => f_X8_wouldMeet_24 (q6.1) (q6.2))) else f_X8_wouldMeet_24 ((0 : Int32)) (q3.2)))))
set_option maxHeartbeats 4000000 in
set_option maxRecDepth 100000 in
theorem t_X8_wouldMeet_0 {p : Program} {l : Launch} {e : Env} {s : State} {m : MethodId} {args : Array Value} {below : List Frame} {meth : Method} {c : Code} {E : xEv} (hC : xk_C p s m args meth c E prog_7_method_63_code "ClickbookModel" 3) (hr : meth.sig.returnType = (some .int)) {q : (Int32 × xWd)} (x0 : Option Nat) (x1 : Int32) (x2 : Int32) (w : xWd) (hf : f_X8_wouldMeet x0 x1 x2 w = some q) : xk_X p l e { frames := 5, cells := 2, slots := 128, locals := 127 } s m args below meth c (MQ below (xk_Qi E q) args s 2 128 (xk_A E.2.2.1)) E 3 0 0 0 [(0, va_rf (x0)), (1, .int (x1)), (2, .int (x2))] [] w := by
  refine xk_aload_n hC dX8_wouldMeet_0 0 rfl rfl ?_
  refine xk_aload_n hC dX8_wouldMeet_1 0 rfl rfl ?_
  refine xk_iload_n hC dX8_wouldMeet_2 1 rfl rfl ?_
  refine xk_iload_n hC dX8_wouldMeet_3 2 rfl rfl ?_
  obtain ⟨u2, h2, hf⟩ := xk_bi hf
  obtain ⟨q1, h1, hf⟩ := xk_bi hf
  refine xk_backi (xk_callV hC 2 xc_5 (c_X8_isNoChange h1) h2 xm_958 xm_960 xm_p35 xm_6 xm_961 ⟨rfl, xd_X8_isNoChange⟩ rfl ⟨Nat.le_of_ble_eq_true rfl, Nat.le_of_ble_eq_true rfl⟩ rfl (by simp [xk_cat1, xk_cati, xk_catl, xk_catd]) dX8_wouldMeet_4 ⟨(Nat.le_of_ble_eq_true rfl), (Nat.le_of_ble_eq_true rfl)⟩) ?_
  refine xk_iconst (v := (1 : Int32)) hC dX8_wouldMeet_7 (by decide) ?_
  obtain ⟨u4, h4, hf⟩ := xk_bi hf
  obtain ⟨q3, h3, hf⟩ := xk_bi hf
  refine xk_backi (xk_callV hC 2 xc_5 (c_X8_start h3) h4 xm_902 xm_904 xm_p33 xm_6 xm_905 ⟨rfl, xd_X8_start⟩ rfl ⟨Nat.le_of_ble_eq_true rfl, Nat.le_of_ble_eq_true rfl⟩ rfl (Nat.le_of_ble_eq_true rfl) dX8_wouldMeet_8 ⟨(Nat.le_of_ble_eq_true rfl), (Nat.le_of_ble_eq_true rfl)⟩) ?_
  refine xk_if_eq (tgt := 18) hC dX8_wouldMeet_11 (by decide) (fun c5 => ?_) (fun c5 => ?_)
  · replace hf := (if_pos c5).symm.trans hf
    refine xk_aload_n hC dX8_wouldMeet_18 0 rfl rfl ?_
    refine xk_iload_n hC dX8_wouldMeet_19 1 rfl rfl ?_
    refine xk_iload_n hC dX8_wouldMeet_20 2 rfl rfl ?_
    obtain ⟨u7, h7, hf⟩ := xk_bi hf
    obtain ⟨q6, h6, hf⟩ := xk_bi hf
    refine xk_backi (xk_callV hC 2 xc_5 (c_X8_wouldMeetNow h6) h7 xm_1329 xm_1331 xm_p62 xm_6 xm_1332 ⟨rfl, xd_X8_wouldMeetNow⟩ rfl ⟨Nat.le_of_ble_eq_true rfl, Nat.le_of_ble_eq_true rfl⟩ rfl (Nat.le_of_ble_eq_true rfl) dX8_wouldMeet_21 ⟨(Nat.le_of_ble_eq_true rfl), (Nat.le_of_ble_eq_true rfl)⟩) ?_
    refine xk_locals [] rfl ?_
    exact t_X8_wouldMeet_24 hC hr (q6.1) (q6.2) hf
  · replace hf := (if_neg c5).symm.trans hf
    refine xk_iconst (v := (0 : Int32)) hC dX8_wouldMeet_14 (by decide) ?_
    refine xk_goto (tgt := 24) hC dX8_wouldMeet_15 (by decide) ?_
    refine xk_locals [] rfl ?_
    refine xk_widen (k := 2) (n := 128) (Nat.le_of_ble_eq_true rfl) (Nat.le_of_ble_eq_true rfl) ?_
    exact t_X8_wouldMeet_24 hC hr ((0 : Int32)) (q3.2) hf
theorem xd_X8_wouldMeet : xy_X8_wouldMeet.cls ≠ "java/lang/invoke/MethodHandle" ∧ xy_X8_wouldMeet.cls ≠ "java/lang/invoke/VarHandle" ∧ (parseMethodDescriptor xy_X8_wouldMeet.desc).map (fun d => d.parameters.length) = some 2 := ⟨by decide +kernel, by decide +kernel, by decide +kernel⟩
theorem c_X8_wouldMeet {l : Launch} {E : xEv} {x0 : Option Nat} {x1 : Int32} {x2 : Int32} {w : xWd} {q : (Int32 × xWd)} (hf : f_X8_wouldMeet x0 x1 x2 w = some q) : xk_M l xy_X8_wouldMeet prog_7_method_63_code 3 (some .int) 5 127 2 128 E [va_rf (x0), .int (x1), .int (x2)] w (xk_Qi E q) := by
  refine xk_enter (by decide +kernel) (by simp [lg_sl, xk_cat1, xk_cati, xk_catl, xk_catd]) ?_
  intro p e s m args below meth c hC hr hin ha
  rw [show lv_args 0 [va_rf (x0), .int (x1), .int (x2)] = [(0, va_rf (x0)), (1, .int (x1)), (2, .int (x2))] by simp [lv_args, xk_cat1, xk_cati, xk_catl, xk_catd]]
  exact t_X8_wouldMeet_0 hC hr x0 x1 x2 w hf
def f_X8_add (x0 : Int64) (x2 : Int64) (w : xWd) : Option (Int64 × xWd) := some (((x0) * ((31 : Int64))) + (x2), w)
set_option maxHeartbeats 4000000 in
set_option maxRecDepth 100000 in
theorem t_X8_add_0 {p : Program} {l : Launch} {e : Env} {s : State} {m : MethodId} {args : Array Value} {below : List Frame} {meth : Method} {c : Code} {E : xEv} (hC : xk_C p s m args meth c E prog_7_method_64_code "ClickbookModel" 4) (hr : meth.sig.returnType = (some .long)) {q : (Int64 × xWd)} (x0 : Int64) (x2 : Int64) (w : xWd) (hf : f_X8_add x0 x2 w = some q) : xk_X p l e { frames := 0, cells := 0, slots := 0, locals := 0 } s m args below meth c (MQ below (xk_Ql E q) args s 0 0 (xk_A E.2.2.1)) E 4 0 0 0 [(0, .long (x0)), (2, .long (x2))] [] w := by
  refine xk_lload_n hC dX8_add_0 0 rfl rfl ?_
  refine xk_ldc2 (v := (31 : Int64)) hC dX8_add_1 xm_1341 ?_
  refine xk_lmul hC dX8_add_4 ?_
  refine xk_lload_n hC dX8_add_5 1 rfl rfl ?_
  refine xk_ladd hC dX8_add_6 ?_
  cases hf
  refine xk_widen (k := 0) (n := 0) (Nat.le_of_ble_eq_true rfl) (Nat.le_of_ble_eq_true rfl) ?_
  exact xk_lret hC hr dX8_add_7
theorem xd_X8_add : xy_X8_add.cls ≠ "java/lang/invoke/MethodHandle" ∧ xy_X8_add.cls ≠ "java/lang/invoke/VarHandle" ∧ (parseMethodDescriptor xy_X8_add.desc).map (fun d => d.parameters.length) = some 2 := ⟨by decide +kernel, by decide +kernel, by decide +kernel⟩
theorem c_X8_add {l : Launch} {E : xEv} {x0 : Int64} {x2 : Int64} {w : xWd} {q : (Int64 × xWd)} (hf : f_X8_add x0 x2 w = some q) : xk_M l xy_X8_add prog_7_method_64_code 4 (some .long) 0 0 0 0 E [.long (x0), .long (x2)] w (xk_Ql E q) := by
  refine xk_enter (by decide +kernel) (by simp [lg_sl, xk_cat1, xk_cati, xk_catl, xk_catd]) ?_
  intro p e s m args below meth c hC hr hin ha
  rw [show lv_args 0 [.long (x0), .long (x2)] = [(0, .long (x0)), (2, .long (x2))] by simp [lv_args, xk_cat1, xk_cati, xk_catl, xk_catd]]
  exact t_X8_add_0 hC hr x0 x2 w hf
def f_X8_digest_173 : Nat → Option Nat → Int64 → Int32 → xWd → Option (Int64 × xWd)
  | 0, _, _, _, _ => none
  | n + 1, x0, x1, x4, w => if ((4 : Int32)) ≤ (x4) then (xk_gI w (x0) 5 1).bind (fun v2 => (xk_nz ((2 : Int32))).bind (fun u3 => (xk_is w (x0) 5).bind (fun u5 => (f_X8_wouldMeetNow (x0) ((v2) / ((2 : Int32))) ((24 : Int32)) w).bind (fun q4 => (f_X8_add (x1) ((q4.1).toInt64) q4.2).bind (fun q6 => (xk_gR q6.2 (x0) 5 5).bind (fun v7 => (xk_is q6.2 (v7) 4).bind (fun u9 => (f_Jx4a65c_isEmpty_aae02 (v7)  q6.2).bind (fun q8 => if (q8.1) = ((0 : Int32)) then none else some (q6.1, q8.2))))))))) else (xk_is w (x0) 5).bind (fun u12 => (f_X8_sheetNow (x0) (x4) w).bind (fun q11 => (f_X8_add (x1) ((q11.1).toInt64) q11.2).bind (fun q13 => f_X8_digest_173 n x0 (q13.1) (x4 + (1 : Int32)) (q13.2))))
set_option maxHeartbeats 4000000 in
set_option maxRecDepth 100000 in
theorem t_X8_digest_173 {p : Program} {l : Launch} {e : Env} {s : State} {m : MethodId} {args : Array Value} {below : List Frame} {meth : Method} {c : Code} {E : xEv} (hC : xk_C p s m args meth c E prog_7_method_66_code "ClickbookModel" 6) (hr : meth.sig.returnType = (some .long)) {q : (Int64 × xWd)} : ∀ (n : Nat) (x0 : Option Nat) (x1 : Int64) (x4 : Int32) (w : xWd), f_X8_digest_173 n x0 x1 x4 w = some q → xk_X p l e { frames := 6, cells := 75, slots := 3720, locals := 146 } s m args below meth c (MQ below (xk_Ql E q) args s 75 3720 (xk_A E.2.2.1)) E 6 73 3592 173 [(0, va_rf (x0)), (1, .long (x1)), (4, .int (x4))] [] w := by
  intro n
  induction n with
  | zero => intro x0 x1 x4 w hf; have hf : none = some q := hf; cases hf
  | succ n ih =>
    intro x0 x1 x4 w hf
    refine xk_iload hC dX8_digest_173 2 rfl ?_
    refine xk_iconst (v := (4 : Int32)) hC dX8_digest_175 (by decide) ?_
    refine xk_icmp_ge (tgt := 197) hC dX8_digest_176 (by decide) (fun c1 => ?_) (fun c1 => ?_)
    · replace hf := (if_pos c1).symm.trans hf
      refine xk_lload_n hC dX8_digest_197 1 rfl rfl ?_
      refine xk_aload_n hC dX8_digest_198 0 rfl rfl ?_
      refine xk_aload_n hC dX8_digest_199 0 rfl rfl ?_
      obtain ⟨v2, h2, hf⟩ := xk_bi hf
      refine xk_getI hC xi_5 xc_5 1 (by decide) xm_861 (Or.inl rfl) dX8_digest_200 h2 ?_
      refine xk_iconst (v := (2 : Int32)) hC dX8_digest_203 (by decide) ?_
      obtain ⟨u3, h3, hf⟩ := xk_bi hf
      refine xk_idiv hC dX8_digest_204 (xk_nz_e h3) ?_
      refine xk_bipush (v := (24 : Int32)) hC dX8_digest_205 (by decide) ?_
      obtain ⟨u5, h5, hf⟩ := xk_bi hf
      obtain ⟨q4, h4, hf⟩ := xk_bi hf
      refine xk_backi (xk_callV hC 2 xc_5 (c_X8_wouldMeetNow h4) h5 xm_1329 xm_1331 xm_p62 xm_6 xm_1332 ⟨rfl, xd_X8_wouldMeetNow⟩ rfl ⟨Nat.le_of_ble_eq_true rfl, Nat.le_of_ble_eq_true rfl⟩ rfl (Nat.le_of_ble_eq_true rfl) dX8_digest_207 ⟨(Nat.le_of_ble_eq_true rfl), (Nat.le_of_ble_eq_true rfl)⟩) ?_
      refine xk_i2l hC dX8_digest_210 ?_
      obtain ⟨q6, h6, hf⟩ := xk_bi hf
      refine xk_backl (xk_callS hC 2 (c_X8_add h6) xm_1338 xm_1339 xm_6 xm_1340 xd_X8_add rfl ⟨Nat.le_of_ble_eq_true rfl, Nat.le_of_ble_eq_true rfl⟩ rfl (Nat.le_of_ble_eq_true rfl) dX8_digest_211 ⟨(Nat.le_of_ble_eq_true rfl), (Nat.le_of_ble_eq_true rfl)⟩) ?_
      refine xk_lstore_n (i := 1) (lv' := [(1, .long (q6.1)), (0, va_rf (x0)), (4, .int (x4))]) hC dX8_digest_214 rfl (by decide) (by simp [xk_cat1]) ?_
      refine xk_aload_n hC dX8_digest_215 1 rfl rfl ?_
      obtain ⟨v7, h7, hf⟩ := xk_bi hf
      refine xk_getR hC xi_5 xc_5 5 (by decide) xm_865 (Or.inl rfl) dX8_digest_216 h7 ?_
      obtain ⟨u9, h9, hf⟩ := xk_bi hf
      obtain ⟨q8, h8, hf⟩ := xk_bi hf
      refine xk_backi (xk_callV hC 0 xc_4 (c_Jx4a65c_isEmpty_aae02 h8) h9 xm_1347 xm_523 xm_524 xm_4 xm_525 ⟨rfl, xd_Jx4a65c_isEmpty_aae02⟩ rfl ⟨Nat.le_of_ble_eq_true rfl, Nat.le_of_ble_eq_true rfl⟩ rfl (Nat.le_of_ble_eq_true rfl) dX8_digest_219 ⟨(Nat.le_of_ble_eq_true rfl), (Nat.le_of_ble_eq_true rfl)⟩) ?_
      refine xk_if_eq (tgt := 229) hC dX8_digest_222 (by decide) (fun c10 => ?_) (fun c10 => ?_)
      · replace hf := (if_pos c10).symm.trans hf
        refine xk_lload_n hC dX8_digest_229 0 rfl rfl ?_
        refine xk_aload_n hC dX8_digest_230 1 rfl rfl ?_
        refine xk_iconst (v := (0 : Int32)) hC dX8_digest_231 (by decide) ?_
        cases hf
      · replace hf := (if_neg c10).symm.trans hf
        refine xk_lload_n hC dX8_digest_225 0 rfl rfl ?_
        refine xk_goto (tgt := 239) hC dX8_digest_226 (by decide) ?_
        cases hf
        refine xk_widen (k := 75) (n := 3720) (Nat.le_of_ble_eq_true rfl) (Nat.le_of_ble_eq_true rfl) ?_
        exact xk_lret hC hr dX8_digest_239
    · replace hf := (if_neg c1).symm.trans hf
      refine xk_lload_n hC dX8_digest_179 1 rfl rfl ?_
      refine xk_aload_n hC dX8_digest_180 0 rfl rfl ?_
      refine xk_iload hC dX8_digest_181 2 rfl ?_
      obtain ⟨u12, h12, hf⟩ := xk_bi hf
      obtain ⟨q11, h11, hf⟩ := xk_bi hf
      refine xk_backi (xk_callV hC 1 xc_5 (c_X8_sheetNow h11) h12 xm_1254 xm_1256 xm_p51 xm_6 xm_1257 ⟨rfl, xd_X8_sheetNow⟩ rfl ⟨Nat.le_of_ble_eq_true rfl, Nat.le_of_ble_eq_true rfl⟩ rfl (Nat.le_of_ble_eq_true rfl) dX8_digest_183 ⟨(Nat.le_of_ble_eq_true rfl), (Nat.le_of_ble_eq_true rfl)⟩) ?_
      refine xk_i2l hC dX8_digest_186 ?_
      obtain ⟨q13, h13, hf⟩ := xk_bi hf
      refine xk_backl (xk_callS hC 2 (c_X8_add h13) xm_1338 xm_1339 xm_6 xm_1340 xd_X8_add rfl ⟨Nat.le_of_ble_eq_true rfl, Nat.le_of_ble_eq_true rfl⟩ rfl (Nat.le_of_ble_eq_true rfl) dX8_digest_187 ⟨(Nat.le_of_ble_eq_true rfl), (Nat.le_of_ble_eq_true rfl)⟩) ?_
      refine xk_lstore_n (i := 1) (lv' := [(1, .long (q13.1)), (0, va_rf (x0)), (4, .int (x4))]) hC dX8_digest_190 rfl (by decide) (by simp [xk_cat1]) ?_
      refine xk_iinc (v := x4 + (1 : Int32)) (lv' := [(4, .int (x4 + (1 : Int32))), (1, .long (q13.1)), (0, va_rf (x0))]) hC dX8_digest_191 2 rfl rfl (by decide) rfl ?_
      refine xk_goto (tgt := 173) hC dX8_digest_194 (by decide) ?_
      refine xk_locals [2, 1, 0] rfl ?_
      exact ih x0 (q13.1) (x4 + (1 : Int32)) (q13.2) hf
def f_X8_digest_123 : Nat → Option Nat → Int64 → Int32 → xWd → Option (Int64 × xWd)
  | 0, _, _, _, _ => none
  | n + 1, x0, x1, x4, w => (xk_gR w (x0) 5 6).bind (fun v1 => (xk_is w (v1) 4).bind (fun u3 => (f_Jx4a65c_size_8abf5 (v1)  w).bind (fun q2 => if (q2.1) ≤ (x4) then f_X8_digest_173 24 x0 x1 ((0 : Int32)) (q2.2) else if ((5 : Int32)) ≤ ((0 : Int32)) then f_X8_digest_123 n x0 x1 (x4 + (1 : Int32)) (q2.2) else none)))
set_option maxHeartbeats 4000000 in
set_option maxRecDepth 100000 in
theorem t_X8_digest_123 {p : Program} {l : Launch} {e : Env} {s : State} {m : MethodId} {args : Array Value} {below : List Frame} {meth : Method} {c : Code} {E : xEv} (hC : xk_C p s m args meth c E prog_7_method_66_code "ClickbookModel" 6) (hr : meth.sig.returnType = (some .long)) {q : (Int64 × xWd)} : ∀ (n : Nat) (x0 : Option Nat) (x1 : Int64) (x4 : Int32) (w : xWd), f_X8_digest_123 n x0 x1 x4 w = some q → xk_X p l e { frames := 6, cells := 75, slots := 3720, locals := 146 } s m args below meth c (MQ below (xk_Ql E q) args s 75 3720 (xk_A E.2.2.1)) E 6 73 3592 123 [(0, va_rf (x0)), (1, .long (x1)), (4, .int (x4))] [] w := by
  intro n
  induction n with
  | zero => intro x0 x1 x4 w hf; have hf : none = some q := hf; cases hf
  | succ n ih =>
    intro x0 x1 x4 w hf
    refine xk_iload hC dX8_digest_123 2 rfl ?_
    refine xk_aload_n hC dX8_digest_125 0 rfl rfl ?_
    obtain ⟨v1, h1, hf⟩ := xk_bi hf
    refine xk_getR hC xi_5 xc_5 6 (by decide) xm_866 (Or.inl rfl) dX8_digest_126 h1 ?_
    obtain ⟨u3, h3, hf⟩ := xk_bi hf
    obtain ⟨q2, h2, hf⟩ := xk_bi hf
    refine xk_backi (xk_callV hC 0 xc_4 (c_Jx4a65c_size_8abf5 h2) h3 xm_910 xm_131 xm_132 xm_4 xm_133 ⟨rfl, xd_Jx4a65c_size_8abf5⟩ rfl ⟨Nat.le_of_ble_eq_true rfl, Nat.le_of_ble_eq_true rfl⟩ rfl (Nat.le_of_ble_eq_true rfl) dX8_digest_129 ⟨(Nat.le_of_ble_eq_true rfl), (Nat.le_of_ble_eq_true rfl)⟩) ?_
    refine xk_icmp_ge (tgt := 170) hC dX8_digest_132 (by decide) (fun c4 => ?_) (fun c4 => ?_)
    · replace hf := (if_pos c4).symm.trans hf
      refine xk_iconst (v := (0 : Int32)) hC dX8_digest_170 (by decide) ?_
      refine xk_istore (i := 4) (lv' := [(4, .int ((0 : Int32))), (0, va_rf (x0)), (1, .long (x1))]) hC dX8_digest_171 (by decide) rfl ?_
      refine xk_locals [1, 2, 0] rfl ?_
      exact t_X8_digest_173 hC hr 24 x0 x1 ((0 : Int32)) (q2.2) hf
    · replace hf := (if_neg c4).symm.trans hf
      refine xk_iconst (v := (0 : Int32)) hC dX8_digest_135 (by decide) ?_
      refine xk_istore (i := 5) (lv' := [(5, .int ((0 : Int32))), (0, va_rf (x0)), (1, .long (x1)), (4, .int (x4))]) hC dX8_digest_136 (by decide) rfl ?_
      refine xk_iload hC dX8_digest_138 0 rfl ?_
      refine xk_iconst (v := (5 : Int32)) hC dX8_digest_140 (by decide) ?_
      refine xk_icmp_ge (tgt := 164) hC dX8_digest_141 (by decide) (fun c5 => ?_) (fun c5 => ?_)
      · replace hf := (if_pos c5).symm.trans hf
        refine xk_iinc (v := x4 + (1 : Int32)) (lv' := [(4, .int (x4 + (1 : Int32))), (5, .int ((0 : Int32))), (0, va_rf (x0)), (1, .long (x1))]) hC dX8_digest_164 3 rfl rfl (by decide) rfl ?_
        refine xk_goto (tgt := 123) hC dX8_digest_167 (by decide) ?_
        refine xk_locals [2, 3, 0] rfl ?_
        exact ih x0 x1 (x4 + (1 : Int32)) (q2.2) hf
      · replace hf := (if_neg c5).symm.trans hf
        refine xk_lload_n hC dX8_digest_144 2 rfl rfl ?_
        refine xk_aload_n hC dX8_digest_145 1 rfl rfl ?_
        refine xk_iload hC dX8_digest_146 3 rfl ?_
        refine xk_iload hC dX8_digest_148 0 rfl ?_
        cases hf
def f_X8_digest_42 : Nat → Option Nat → Int64 → Option Nat → Int32 → xWd → Option (Int64 × xWd)
  | 0, _, _, _, _, _ => none
  | n + 1, x0, x1, x3, x4, w => (xk_gR w (x0) 5 3).bind (fun v1 => (xk_is w (v1) 4).bind (fun u3 => (f_Jx4a65c_size_8abf5 (v1)  w).bind (fun q2 => if (q2.1) ≤ (x4) then (xk_gR q2.2 (x0) 5 5).bind (fun v5 => (xk_is q2.2 (v5) 4).bind (fun u7 => (f_Jx4a65c_size_8abf5 (v5)  q2.2).bind (fun q6 => if (q6.1) ≤ ((0 : Int32)) then f_X8_digest_123 24 x0 x1 ((0 : Int32)) (q6.2) else none))) else if ((7 : Int32)) ≤ ((0 : Int32)) then f_X8_digest_42 n x0 x1 x3 (x4 + (1 : Int32)) (q2.2) else none)))
set_option maxHeartbeats 4000000 in
set_option maxRecDepth 100000 in
theorem t_X8_digest_42 {p : Program} {l : Launch} {e : Env} {s : State} {m : MethodId} {args : Array Value} {below : List Frame} {meth : Method} {c : Code} {E : xEv} (hC : xk_C p s m args meth c E prog_7_method_66_code "ClickbookModel" 6) (hr : meth.sig.returnType = (some .long)) {q : (Int64 × xWd)} : ∀ (n : Nat) (x0 : Option Nat) (x1 : Int64) (x3 : Option Nat) (x4 : Int32) (w : xWd), f_X8_digest_42 n x0 x1 x3 x4 w = some q → xk_X p l e { frames := 6, cells := 75, slots := 3720, locals := 146 } s m args below meth c (MQ below (xk_Ql E q) args s 75 3720 (xk_A E.2.2.1)) E 6 73 3592 42 [(0, va_rf (x0)), (1, .long (x1)), (3, va_rf (x3)), (4, .int (x4))] [] w := by
  intro n
  induction n with
  | zero => intro x0 x1 x3 x4 w hf; have hf : none = some q := hf; cases hf
  | succ n ih =>
    intro x0 x1 x3 x4 w hf
    refine xk_iload hC dX8_digest_42 3 rfl ?_
    refine xk_aload_n hC dX8_digest_44 0 rfl rfl ?_
    obtain ⟨v1, h1, hf⟩ := xk_bi hf
    refine xk_getR hC xi_5 xc_5 3 (by decide) xm_863 (Or.inl rfl) dX8_digest_45 h1 ?_
    obtain ⟨u3, h3, hf⟩ := xk_bi hf
    obtain ⟨q2, h2, hf⟩ := xk_bi hf
    refine xk_backi (xk_callV hC 0 xc_4 (c_Jx4a65c_size_8abf5 h2) h3 xm_910 xm_131 xm_132 xm_4 xm_133 ⟨rfl, xd_Jx4a65c_size_8abf5⟩ rfl ⟨Nat.le_of_ble_eq_true rfl, Nat.le_of_ble_eq_true rfl⟩ rfl (Nat.le_of_ble_eq_true rfl) dX8_digest_48 ⟨(Nat.le_of_ble_eq_true rfl), (Nat.le_of_ble_eq_true rfl)⟩) ?_
    refine xk_icmp_ge (tgt := 91) hC dX8_digest_51 (by decide) (fun c4 => ?_) (fun c4 => ?_)
    · replace hf := (if_pos c4).symm.trans hf
      refine xk_iconst (v := (0 : Int32)) hC dX8_digest_91 (by decide) ?_
      refine xk_istore (i := 4) (lv' := [(4, .int ((0 : Int32))), (0, va_rf (x0)), (1, .long (x1)), (3, va_rf (x3))]) hC dX8_digest_92 (by decide) (by simp [xk_cat1]) ?_
      refine xk_iload hC dX8_digest_94 0 rfl ?_
      refine xk_aload_n hC dX8_digest_96 1 rfl rfl ?_
      obtain ⟨v5, h5, hf⟩ := xk_bi hf
      refine xk_getR hC xi_5 xc_5 5 (by decide) xm_865 (Or.inl rfl) dX8_digest_97 h5 ?_
      obtain ⟨u7, h7, hf⟩ := xk_bi hf
      obtain ⟨q6, h6, hf⟩ := xk_bi hf
      refine xk_backi (xk_callV hC 0 xc_4 (c_Jx4a65c_size_8abf5 h6) h7 xm_910 xm_131 xm_132 xm_4 xm_133 ⟨rfl, xd_Jx4a65c_size_8abf5⟩ rfl ⟨Nat.le_of_ble_eq_true rfl, Nat.le_of_ble_eq_true rfl⟩ rfl (Nat.le_of_ble_eq_true rfl) dX8_digest_100 ⟨(Nat.le_of_ble_eq_true rfl), (Nat.le_of_ble_eq_true rfl)⟩) ?_
      refine xk_icmp_ge (tgt := 120) hC dX8_digest_103 (by decide) (fun c8 => ?_) (fun c8 => ?_)
      · replace hf := (if_pos c8).symm.trans hf
        refine xk_iconst (v := (0 : Int32)) hC dX8_digest_120 (by decide) ?_
        refine xk_istore (i := 4) (lv' := [(4, .int ((0 : Int32))), (0, va_rf (x0)), (1, .long (x1)), (3, va_rf (x3))]) hC dX8_digest_121 (by decide) (by simp [xk_cat1]) ?_
        refine xk_locals [1, 2, 0] rfl ?_
        exact t_X8_digest_123 hC hr 24 x0 x1 ((0 : Int32)) (q6.2) hf
      · replace hf := (if_neg c8).symm.trans hf
        refine xk_aload_n hC dX8_digest_106 1 rfl rfl ?_
        refine xk_lload_n hC dX8_digest_107 2 rfl rfl ?_
        refine xk_iload hC dX8_digest_108 0 rfl ?_
        cases hf
    · replace hf := (if_neg c4).symm.trans hf
      refine xk_iconst (v := (0 : Int32)) hC dX8_digest_54 (by decide) ?_
      refine xk_istore (i := 5) (lv' := [(5, .int ((0 : Int32))), (0, va_rf (x0)), (1, .long (x1)), (3, va_rf (x3)), (4, .int (x4))]) hC dX8_digest_55 (by decide) rfl ?_
      refine xk_iload hC dX8_digest_57 0 rfl ?_
      refine xk_bipush (v := (7 : Int32)) hC dX8_digest_59 (by decide) ?_
      refine xk_icmp_ge (tgt := 85) hC dX8_digest_61 (by decide) (fun c9 => ?_) (fun c9 => ?_)
      · replace hf := (if_pos c9).symm.trans hf
        refine xk_iinc (v := x4 + (1 : Int32)) (lv' := [(4, .int (x4 + (1 : Int32))), (5, .int ((0 : Int32))), (0, va_rf (x0)), (1, .long (x1)), (3, va_rf (x3))]) hC dX8_digest_85 4 rfl rfl (by decide) (by simp [xk_cat1]) ?_
        refine xk_goto (tgt := 42) hC dX8_digest_88 (by decide) ?_
        refine xk_locals [2, 3, 4, 0] rfl ?_
        exact ih x0 x1 x3 (x4 + (1 : Int32)) (q2.2) hf
      · replace hf := (if_neg c9).symm.trans hf
        refine xk_lload_n hC dX8_digest_64 2 rfl rfl ?_
        refine xk_aload_n hC dX8_digest_65 1 rfl rfl ?_
        refine xk_iload hC dX8_digest_66 4 rfl ?_
        refine xk_iload hC dX8_digest_68 0 rfl ?_
        refine xk_aload_n hC dX8_digest_70 3 rfl rfl ?_
        cases hf
def f_X8_digest_11 : Nat → Option Nat → Int64 → Int32 → xWd → Option (Int64 × xWd)
  | 0, _, _, _, _ => none
  | n + 1, x0, x1, x3, w => if ((16 : Int32)) ≤ (x3) then (xk_is w (x0) 5).bind (fun u3 => (f_X8_beats (x0)  w).bind (fun q2 => f_X8_digest_42 24 x0 x1 (q2.1) ((0 : Int32)) (q2.2))) else (xk_is w (x0) 5).bind (fun u5 => (f_X8_manyNow (x0) (x3) w).bind (fun q4 => (f_X8_add (x1) ((q4.1).toInt64) q4.2).bind (fun q6 => f_X8_digest_11 n x0 (q6.1) (x3 + (1 : Int32)) (q6.2))))
set_option maxHeartbeats 4000000 in
set_option maxRecDepth 100000 in
theorem t_X8_digest_11 {p : Program} {l : Launch} {e : Env} {s : State} {m : MethodId} {args : Array Value} {below : List Frame} {meth : Method} {c : Code} {E : xEv} (hC : xk_C p s m args meth c E prog_7_method_66_code "ClickbookModel" 6) (hr : meth.sig.returnType = (some .long)) {q : (Int64 × xWd)} : ∀ (n : Nat) (x0 : Option Nat) (x1 : Int64) (x3 : Int32) (w : xWd) (kc ks : Nat), kc + n * 4 ≤ 68 → ks + n * 196 ≤ 3332 → f_X8_digest_11 n x0 x1 x3 w = some q → xk_X p l e { frames := 6, cells := 75, slots := 3720, locals := 146 } s m args below meth c (MQ below (xk_Ql E q) args s 75 3720 (xk_A E.2.2.1)) E 6 kc ks 11 [(0, va_rf (x0)), (1, .long (x1)), (3, .int (x3))] [] w := by
  intro n
  induction n with
  | zero => intro x0 x1 x3 w kc ks hkc hks hf; have hf : none = some q := hf; cases hf
  | succ n ih =>
    intro x0 x1 x3 w kc ks hkc hks hf
    rw [Nat.succ_mul] at hkc hks
    refine xk_iload_n hC dX8_digest_11 2 rfl rfl ?_
    refine xk_bipush (v := (16 : Int32)) hC dX8_digest_12 (by decide) ?_
    refine xk_icmp_ge (tgt := 34) hC dX8_digest_14 (by decide) (fun c1 => ?_) (fun c1 => ?_)
    · replace hf := (if_pos c1).symm.trans hf
      refine xk_aload_n hC dX8_digest_34 0 rfl rfl ?_
      obtain ⟨u3, h3, hf⟩ := xk_bi hf
      obtain ⟨q2, h2, hf⟩ := xk_bi hf
      refine xk_backq (xk_callV hC 0 xc_5 (c_X8_beats h2) h3 xm_1118 xm_1120 xm_p40 xm_6 xm_1121 ⟨rfl, xd_X8_beats⟩ rfl ⟨Nat.le_of_ble_eq_true rfl, Nat.le_of_ble_eq_true rfl⟩ rfl (Nat.le_of_ble_eq_true rfl) dX8_digest_35 ⟨(by show _ ≤ 75; omega), (by show _ ≤ 3720; omega)⟩) ?_
      refine xk_astore_n (i := 3) (lv' := [(3, va_rf (q2.1)), (0, va_rf (x0)), (1, .long (x1))]) hC dX8_digest_38 rfl (by decide) rfl ?_
      refine xk_iconst (v := (0 : Int32)) hC dX8_digest_39 (by decide) ?_
      refine xk_istore (i := 4) (lv' := [(4, .int ((0 : Int32))), (3, va_rf (q2.1)), (0, va_rf (x0)), (1, .long (x1))]) hC dX8_digest_40 (by decide) (by simp [xk_cat1]) ?_
      refine xk_locals [2, 3, 1, 0] rfl ?_
      refine xk_widen (k := 73) (n := 3592) (by omega) (by omega) ?_
      exact t_X8_digest_42 hC hr 24 x0 x1 (q2.1) ((0 : Int32)) (q2.2) hf
    · replace hf := (if_neg c1).symm.trans hf
      refine xk_lload_n hC dX8_digest_17 1 rfl rfl ?_
      refine xk_aload_n hC dX8_digest_18 0 rfl rfl ?_
      refine xk_iload_n hC dX8_digest_19 2 rfl rfl ?_
      obtain ⟨u5, h5, hf⟩ := xk_bi hf
      obtain ⟨q4, h4, hf⟩ := xk_bi hf
      refine xk_backi (xk_callV hC 1 xc_5 (c_X8_manyNow h4) h5 xm_1264 xm_1266 xm_p52 xm_6 xm_1267 ⟨rfl, xd_X8_manyNow⟩ rfl ⟨Nat.le_of_ble_eq_true rfl, Nat.le_of_ble_eq_true rfl⟩ rfl (Nat.le_of_ble_eq_true rfl) dX8_digest_20 ⟨(by show _ ≤ 75; omega), (by show _ ≤ 3720; omega)⟩) ?_
      refine xk_i2l hC dX8_digest_23 ?_
      obtain ⟨q6, h6, hf⟩ := xk_bi hf
      refine xk_backl (xk_callS hC 2 (c_X8_add h6) xm_1338 xm_1339 xm_6 xm_1340 xd_X8_add rfl ⟨Nat.le_of_ble_eq_true rfl, Nat.le_of_ble_eq_true rfl⟩ rfl (Nat.le_of_ble_eq_true rfl) dX8_digest_24 ⟨(by show _ ≤ 75; omega), (by show _ ≤ 3720; omega)⟩) ?_
      refine xk_lstore_n (i := 1) (lv' := [(1, .long (q6.1)), (0, va_rf (x0)), (3, .int (x3))]) hC dX8_digest_27 rfl (by decide) (by simp [xk_cat1]) ?_
      refine xk_iinc (v := x3 + (1 : Int32)) (lv' := [(3, .int (x3 + (1 : Int32))), (1, .long (q6.1)), (0, va_rf (x0))]) hC dX8_digest_28 2 rfl rfl (by decide) rfl ?_
      refine xk_goto (tgt := 11) hC dX8_digest_31 (by decide) ?_
      refine xk_locals [2, 1, 0] rfl ?_
      exact ih x0 (q6.1) (x3 + (1 : Int32)) (q6.2) _ _ (by omega) (by omega) hf
def f_X8_digest (x0 : Option Nat) (w : xWd) : Option (Int64 × xWd) := (xk_pV w (x0) 5 0 (.int ((0 : Int32)))).bind (fun w1 => f_X8_digest_11 17 x0 ((58231 : Int64)) ((0 : Int32)) w1)
set_option maxHeartbeats 4000000 in
set_option maxRecDepth 100000 in
theorem t_X8_digest_0 {p : Program} {l : Launch} {e : Env} {s : State} {m : MethodId} {args : Array Value} {below : List Frame} {meth : Method} {c : Code} {E : xEv} (hC : xk_C p s m args meth c E prog_7_method_66_code "ClickbookModel" 6) (hr : meth.sig.returnType = (some .long)) {q : (Int64 × xWd)} (x0 : Option Nat) (w : xWd) (hf : f_X8_digest x0 w = some q) : xk_X p l e { frames := 6, cells := 75, slots := 3720, locals := 146 } s m args below meth c (MQ below (xk_Ql E q) args s 75 3720 (xk_A E.2.2.1)) E 6 0 0 0 [(0, va_rf (x0))] [] w := by
  refine xk_aload_n hC dX8_digest_0 0 rfl rfl ?_
  refine xk_iconst (v := (0 : Int32)) hC dX8_digest_1 (by decide) ?_
  obtain ⟨w1, h1, hf⟩ := xk_bi hf
  refine xk_put hC xi_5 xc_5 xo_5 xn_5 0 (by decide) xm_860 (Or.inl rfl) rfl rfl rfl dX8_digest_2 h1 ?_
  refine xk_ldc2 (v := (58231 : Int64)) hC dX8_digest_5 xm_1337 ?_
  refine xk_lstore_n (i := 1) (lv' := [(1, .long ((58231 : Int64))), (0, va_rf (x0))]) hC dX8_digest_8 rfl (by decide) (by simp [xk_cat1]) ?_
  refine xk_iconst (v := (0 : Int32)) hC dX8_digest_9 (by decide) ?_
  refine xk_istore_n (i := 3) (lv' := [(3, .int ((0 : Int32))), (1, .long ((58231 : Int64))), (0, va_rf (x0))]) hC dX8_digest_10 rfl (by decide) rfl ?_
  refine xk_locals [2, 1, 0] rfl ?_
  exact t_X8_digest_11 hC hr 17 x0 ((58231 : Int64)) ((0 : Int32)) w1 _ _ (Nat.le_of_ble_eq_true rfl) (Nat.le_of_ble_eq_true rfl) hf
theorem xd_X8_digest : xy_X8_digest.cls ≠ "java/lang/invoke/MethodHandle" ∧ xy_X8_digest.cls ≠ "java/lang/invoke/VarHandle" ∧ (parseMethodDescriptor xy_X8_digest.desc).map (fun d => d.parameters.length) = some 0 := ⟨by decide +kernel, by decide +kernel, by decide +kernel⟩
theorem c_X8_digest {l : Launch} {E : xEv} {x0 : Option Nat} {w : xWd} {q : (Int64 × xWd)} (hf : f_X8_digest x0 w = some q) : xk_M l xy_X8_digest prog_7_method_66_code 6 (some .long) 6 146 75 3720 E [va_rf (x0)] w (xk_Ql E q) := by
  refine xk_enter (by decide +kernel) (by simp [lg_sl, xk_cat1, xk_cati, xk_catl, xk_catd]) ?_
  intro p e s m args below meth c hC hr hin ha
  rw [show lv_args 0 [va_rf (x0)] = [(0, va_rf (x0))] by simp [lv_args, xk_cat1, xk_cati, xk_catl, xk_catd]]
  exact t_X8_digest_0 hC hr x0 w hf
