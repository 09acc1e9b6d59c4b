def f_X2_init (x0 : Nat) (w : xWd) : Option xWd := (some (xk_nw w 4 xf_4)).bind (fun w1 => (f_Jx4a65c_init_da8c8 (w.2.1)  w1).bind (fun q2 => (xk_pV q2 (some x0) 3 0 (va_rf (some w.2.1))).bind (fun w3 => (xk_nA w3 0 xk_d0 ((360 : Int32)) 360).bind (fun w4 => (xk_pV w4 (some x0) 3 2 (va_rf (some w3.2.1))).bind (fun w5 => some w5)))))
set_option maxHeartbeats 4000000 in
set_option maxRecDepth 100000 in
theorem t_X2_init_0 {p : Program} {l : Launch} {e : Env} {s : State} {m : MethodId} {args : Array Value} {below : List Frame} {meth : Method} {c : Code} {E : xEv} (hC : xk_C p s m args meth c E prog_4_method_1_code "Clickbook$JoinTable" 1) (hr : meth.sig.returnType = none) (hin : meth.name = "<init>") {q : xWd} (x0 : Nat) (w : xWd) (hf : f_X2_init x0 w = some q) : xk_X p l e { frames := 4, cells := 2, slots := 363, locals := 80 } s m args below meth c (MQ below (xk_Qv E q) args s 2 363 (xk_A E.2.2.1)) E 1 0 0 0 [(0, va_rf (some x0))] [] w := by
  refine xk_aload_n hC dX2_init_0 0 rfl rfl ?_
  refine xk_objI hC xm_71 xm_35 xm_36 dX2_init_1 (Nat.le_of_ble_eq_true rfl) (Nat.le_of_ble_eq_true rfl) ?_
  refine xk_aload_n hC dX2_init_4 0 rfl rfl ?_
  obtain ⟨w1, h1, hf⟩ := xk_bi hf
  refine xk_newH hC xi_4 xc_4 xo_4 xm_72 xm_38 xm_4 xfo_4 (Nat.le_of_ble_eq_true rfl) (Nat.le_of_ble_eq_true rfl) dX2_init_5 h1 ?_
  refine xk_dup hC dX2_init_8 (xk_cat1 _) ?_
  obtain ⟨q2, h2, hf⟩ := xk_bi hf
  refine xk_backv (xk_callI hC 0 (c_Jx4a65c_init_da8c8 h2) xm_73 xm_40 xm_4 xm_41 rfl xd_Jx4a65c_init_da8c8 rfl ⟨Nat.le_of_ble_eq_true rfl, Nat.le_of_ble_eq_true rfl⟩ rfl (Nat.le_of_ble_eq_true rfl) dX2_init_9 ⟨(Nat.le_of_ble_eq_true rfl), (Nat.le_of_ble_eq_true rfl)⟩) ?_
  obtain ⟨w3, h3, hf⟩ := xk_bi hf
  refine xk_putF hC xi_3 xc_3 xo_3 xn_3 0 (by decide) xm_74 (Or.inl rfl) rfl hin rfl (xk_nr _ _) (xk_fr _ _) dX2_init_12 h3 ?_
  refine xk_aload_n hC dX2_init_15 0 rfl rfl ?_
  refine xk_sipush (v := (360 : Int32)) hC dX2_init_16 (by decide) ?_
  obtain ⟨w4, h4, hf⟩ := xk_bi hf
  refine xk_newarr (cap := 360) (atype := .int) (ty := .int) (kd := 0) hC rfl xm_84 (by decide) rfl (fun _ _ => rfl) (Nat.le_of_ble_eq_true rfl) (Nat.le_of_ble_eq_true rfl) (Nat.le_of_ble_eq_true rfl) dX2_init_19 h4 ?_
  obtain ⟨w5, h5, hf⟩ := xk_bi hf
  refine xk_putF hC xi_3 xc_3 xo_3 xn_3 2 (by decide) xm_76 (Or.inl rfl) rfl hin rfl (xk_nra _ _) (xk_fra _ _) dX2_init_21 h5 ?_
  cases hf
  refine xk_widen (k := 2) (n := 363) (Nat.le_of_ble_eq_true rfl) (Nat.le_of_ble_eq_true rfl) ?_
  exact xk_vret hC hr dX2_init_24
theorem xd_X2_init : xy_X2_init.cls ≠ "java/lang/invoke/MethodHandle" ∧ xy_X2_init.cls ≠ "java/lang/invoke/VarHandle" ∧ (parseMethodDescriptor xy_X2_init.desc).map (fun d => d.parameters.length) = some 0 := ⟨by decide +kernel, by decide +kernel, by decide +kernel⟩
theorem c_X2_init {l : Launch} {E : xEv} {x0 : Nat} {w : xWd} {q : xWd} (hf : f_X2_init x0 w = some q) : xk_M l xy_X2_init prog_4_method_1_code 1 none 4 80 2 363 E [va_rf (some x0)] w (xk_Qv E q) := by
  refine xk_enter (by decide +kernel) (by simp [lg_sl, xk_cat1, xk_cati, xk_catl, xk_catd]) ?_
  intro p e s m args below meth c hC hr hin ha
  rw [show lv_args 0 [va_rf (some x0)] = [(0, va_rf (some x0))] by simp [lv_args, xk_cat1, xk_cati, xk_catl, xk_catd]]
  exact t_X2_init_0 hC hr (hin rfl) x0 w hf
def f_X4_init (x0 : Nat) (w : xWd) : Option xWd := (some (xk_nw w 4 xf_4)).bind (fun w1 => (f_Jx4a65c_init_da8c8 (w.2.1)  w1).bind (fun q2 => (xk_pV q2 (some x0) 0 0 (va_rf (some w.2.1))).bind (fun w3 => (xk_nA w3 0 xk_d0 ((4 : Int32)) 64).bind (fun w4 => (xk_pV w4 (some x0) 0 1 (va_rf (some w3.2.1))).bind (fun w5 => (some (xk_nw w5 4 xf_4)).bind (fun w6 => (f_Jx4a65c_init_da8c8 (w5.2.1)  w6).bind (fun q7 => (xk_pV q7 (some x0) 0 3 (va_rf (some w5.2.1))).bind (fun w8 => (some (xk_nw w8 4 xf_4)).bind (fun w9 => (f_Jx4a65c_init_da8c8 (w8.2.1)  w9).bind (fun q10 => (xk_pV q10 (some x0) 0 4 (va_rf (some w8.2.1))).bind (fun w11 => (xk_pV w11 (some x0) 0 5 (.int ((2400 : Int32)))).bind (fun w12 => (some (xk_nw w12 3 xf_3)).bind (fun w13 => (f_X2_init (w12.2.1)  w13).bind (fun q14 => (xk_pV q14 (some x0) 0 10 (va_rf (some w12.2.1))).bind (fun w15 => (xk_nA w15 0 xk_d0 ((63 : Int32)) 64).bind (fun w16 => (xk_pV w16 (some x0) 0 11 (va_rf (some w15.2.1))).bind (fun w17 => (xk_nA w17 1 xk_d0 ((12 : Int32)) 64).bind (fun w18 => (xk_pV w18 (some x0) 0 12 (va_rf (some w17.2.1))).bind (fun w19 => some w19)))))))))))))))))))
set_option maxHeartbeats 4000000 in
set_option maxRecDepth 100000 in
theorem t_X4_init_0 {p : Program} {l : Launch} {e : Env} {s : State} {m : MethodId} {args : Array Value} {below : List Frame} {meth : Method} {c : Code} {E : xEv} (hC : xk_C p s m args meth c E prog_1_method_1_code "Clickbook" 1) (hr : meth.sig.returnType = none) (hin : meth.name = "<init>") {q : xWd} (x0 : Nat) (w : xWd) (hf : f_X4_init x0 w = some q) : xk_X p l e { frames := 5, cells := 9, slots := 567, locals := 100 } s m args below meth c (MQ below (xk_Qv E q) args s 9 567 (xk_A E.2.2.1)) E 1 0 0 0 [(0, va_rf (some x0))] [] w := by
  refine xk_aload_n hC dX4_init_0 0 rfl rfl ?_
  refine xk_objI hC xm_34 xm_35 xm_36 dX4_init_1 (Nat.le_of_ble_eq_true rfl) (Nat.le_of_ble_eq_true rfl) ?_
  refine xk_aload_n hC dX4_init_4 0 rfl rfl ?_
  obtain ⟨w1, h1, hf⟩ := xk_bi hf
  refine xk_newH hC xi_4 xc_4 xo_4 xm_37 xm_38 xm_4 xfo_4 (Nat.le_of_ble_eq_true rfl) (Nat.le_of_ble_eq_true rfl) dX4_init_5 h1 ?_
  refine xk_dup hC dX4_init_8 (xk_cat1 _) ?_
  obtain ⟨q2, h2, hf⟩ := xk_bi hf
  refine xk_backv (xk_callI hC 0 (c_Jx4a65c_init_da8c8 h2) xm_39 xm_40 xm_4 xm_41 rfl xd_Jx4a65c_init_da8c8 rfl ⟨Nat.le_of_ble_eq_true rfl, Nat.le_of_ble_eq_true rfl⟩ rfl (Nat.le_of_ble_eq_true rfl) dX4_init_9 ⟨(Nat.le_of_ble_eq_true rfl), (Nat.le_of_ble_eq_true rfl)⟩) ?_
  obtain ⟨w3, h3, hf⟩ := xk_bi hf
  refine xk_putF hC xi_0 xc_0 xo_0 xn_0 0 (by decide) xm_85 (Or.inl rfl) rfl hin rfl (xk_nr _ _) (xk_fr _ _) dX4_init_12 h3 ?_
  refine xk_aload_n hC dX4_init_15 0 rfl rfl ?_
  refine xk_iconst (v := (4 : Int32)) hC dX4_init_16 (by decide) ?_
  obtain ⟨w4, h4, hf⟩ := xk_bi hf
  refine xk_newarr (cap := 64) (atype := .int) (ty := .int) (kd := 0) hC rfl xm_84 (by decide) rfl (fun _ _ => rfl) (Nat.le_of_ble_eq_true rfl) (Nat.le_of_ble_eq_true rfl) (Nat.le_of_ble_eq_true rfl) dX4_init_17 h4 ?_
  obtain ⟨w5, h5, hf⟩ := xk_bi hf
  refine xk_putF hC xi_0 xc_0 xo_0 xn_0 1 (by decide) xm_86 (Or.inl rfl) rfl hin rfl (xk_nra _ _) (xk_fra _ _) dX4_init_19 h5 ?_
  refine xk_aload_n hC dX4_init_22 0 rfl rfl ?_
  obtain ⟨w6, h6, hf⟩ := xk_bi hf
  refine xk_newH hC xi_4 xc_4 xo_4 xm_37 xm_38 xm_4 xfo_4 (Nat.le_of_ble_eq_true rfl) (Nat.le_of_ble_eq_true rfl) dX4_init_23 h6 ?_
  refine xk_dup hC dX4_init_26 (xk_cat1 _) ?_
  obtain ⟨q7, h7, hf⟩ := xk_bi hf
  refine xk_backv (xk_callI hC 0 (c_Jx4a65c_init_da8c8 h7) xm_39 xm_40 xm_4 xm_41 rfl xd_Jx4a65c_init_da8c8 rfl ⟨Nat.le_of_ble_eq_true rfl, Nat.le_of_ble_eq_true rfl⟩ rfl (Nat.le_of_ble_eq_true rfl) dX4_init_27 ⟨(Nat.le_of_ble_eq_true rfl), (Nat.le_of_ble_eq_true rfl)⟩) ?_
  obtain ⟨w8, h8, hf⟩ := xk_bi hf
  refine xk_putF hC xi_0 xc_0 xo_0 xn_0 3 (by decide) xm_88 (Or.inl rfl) rfl hin rfl (xk_nr _ _) (xk_fr _ _) dX4_init_30 h8 ?_
  refine xk_aload_n hC dX4_init_33 0 rfl rfl ?_
  obtain ⟨w9, h9, hf⟩ := xk_bi hf
  refine xk_newH hC xi_4 xc_4 xo_4 xm_37 xm_38 xm_4 xfo_4 (Nat.le_of_ble_eq_true rfl) (Nat.le_of_ble_eq_true rfl) dX4_init_34 h9 ?_
  refine xk_dup hC dX4_init_37 (xk_cat1 _) ?_
  obtain ⟨q10, h10, hf⟩ := xk_bi hf
  refine xk_backv (xk_callI hC 0 (c_Jx4a65c_init_da8c8 h10) xm_39 xm_40 xm_4 xm_41 rfl xd_Jx4a65c_init_da8c8 rfl ⟨Nat.le_of_ble_eq_true rfl, Nat.le_of_ble_eq_true rfl⟩ rfl (Nat.le_of_ble_eq_true rfl) dX4_init_38 ⟨(Nat.le_of_ble_eq_true rfl), (Nat.le_of_ble_eq_true rfl)⟩) ?_
  obtain ⟨w11, h11, hf⟩ := xk_bi hf
  refine xk_putF hC xi_0 xc_0 xo_0 xn_0 4 (by decide) xm_89 (Or.inl rfl) rfl hin rfl (xk_nr _ _) (xk_fr _ _) dX4_init_41 h11 ?_
  refine xk_aload_n hC dX4_init_44 0 rfl rfl ?_
  refine xk_sipush (v := (2400 : Int32)) hC dX4_init_45 (by decide) ?_
  obtain ⟨w12, h12, hf⟩ := xk_bi hf
  refine xk_put hC xi_0 xc_0 xo_0 xn_0 5 (by decide) xm_90 (Or.inl rfl) rfl rfl rfl dX4_init_48 h12 ?_
  refine xk_aload_n hC dX4_init_51 0 rfl rfl ?_
  obtain ⟨w13, h13, hf⟩ := xk_bi hf
  refine xk_newH hC xi_3 xc_3 xo_3 xm_66 xm_67 xm_5 xfo_3 (Nat.le_of_ble_eq_true rfl) (Nat.le_of_ble_eq_true rfl) dX4_init_52 h13 ?_
  refine xk_dup hC dX4_init_55 (xk_cat1 _) ?_
  obtain ⟨q14, h14, hf⟩ := xk_bi hf
  refine xk_backv (xk_callI hC 0 (c_X2_init h14) xm_68 xm_69 xm_5 xm_70 rfl xd_X2_init rfl ⟨Nat.le_of_ble_eq_true rfl, Nat.le_of_ble_eq_true rfl⟩ rfl (Nat.le_of_ble_eq_true rfl) dX4_init_56 ⟨(Nat.le_of_ble_eq_true rfl), (Nat.le_of_ble_eq_true rfl)⟩) ?_
  obtain ⟨w15, h15, hf⟩ := xk_bi hf
  refine xk_putF hC xi_0 xc_0 xo_0 xn_0 10 (by decide) xm_95 (Or.inl rfl) rfl hin rfl (xk_nr _ _) (xk_fr _ _) dX4_init_59 h15 ?_
  refine xk_aload_n hC dX4_init_62 0 rfl rfl ?_
  refine xk_bipush (v := (63 : Int32)) hC dX4_init_63 (by decide) ?_
  obtain ⟨w16, h16, hf⟩ := xk_bi hf
  refine xk_newarr (cap := 64) (atype := .int) (ty := .int) (kd := 0) hC rfl xm_84 (by decide) rfl (fun _ _ => rfl) (Nat.le_of_ble_eq_true rfl) (Nat.le_of_ble_eq_true rfl) (Nat.le_of_ble_eq_true rfl) dX4_init_65 h16 ?_
  obtain ⟨w17, h17, hf⟩ := xk_bi hf
  refine xk_putF hC xi_0 xc_0 xo_0 xn_0 11 (by decide) xm_96 (Or.inl rfl) rfl hin rfl (xk_nra _ _) (xk_fra _ _) dX4_init_67 h17 ?_
  refine xk_aload_n hC dX4_init_70 0 rfl rfl ?_
  refine xk_bipush (v := (12 : Int32)) hC dX4_init_71 (by decide) ?_
  obtain ⟨w18, h18, hf⟩ := xk_bi hf
  refine xk_newarr (cap := 64) (atype := .boolean) (ty := .boolean) (kd := 1) hC rfl xm_125 (by decide) rfl (fun _ _ => rfl) (Nat.le_of_ble_eq_true rfl) (Nat.le_of_ble_eq_true rfl) (Nat.le_of_ble_eq_true rfl) dX4_init_73 h18 ?_
  obtain ⟨w19, h19, hf⟩ := xk_bi hf
  refine xk_putF hC xi_0 xc_0 xo_0 xn_0 12 (by decide) xm_97 (Or.inl rfl) rfl hin rfl (xk_nra _ _) (xk_fra _ _) dX4_init_75 h19 ?_
  cases hf
  refine xk_widen (k := 9) (n := 567) (Nat.le_of_ble_eq_true rfl) (Nat.le_of_ble_eq_true rfl) ?_
  exact xk_vret hC hr dX4_init_78
theorem xd_X4_init : xy_X4_init.cls ≠ "java/lang/invoke/MethodHandle" ∧ xy_X4_init.cls ≠ "java/lang/invoke/VarHandle" ∧ (parseMethodDescriptor xy_X4_init.desc).map (fun d => d.parameters.length) = some 0 := ⟨by decide +kernel, by decide +kernel, by decide +kernel⟩
theorem c_X4_init {l : Launch} {E : xEv} {x0 : Nat} {w : xWd} {q : xWd} (hf : f_X4_init x0 w = some q) : xk_M l xy_X4_init prog_1_method_1_code 1 none 5 100 9 567 E [va_rf (some x0)] w (xk_Qv E q) := by
  refine xk_enter (by decide +kernel) (by simp [lg_sl, xk_cat1, xk_cati, xk_catl, xk_catd]) ?_
  intro p e s m args below meth c hC hr hin ha
  rw [show lv_args 0 [va_rf (some x0)] = [(0, va_rf (some x0))] by simp [lv_args, xk_cat1, xk_cati, xk_catl, xk_catd]]
  exact t_X4_init_0 hC hr (hin rfl) x0 w hf
def f_X1_init (x0 : Nat) (x1 : Int32) (x2 : Int32) (w : xWd) : Option xWd := (xk_pV w (some x0) 2 0 (.int (x1))).bind (fun w1 => (xk_pV w1 (some x0) 2 1 (.int (x2))).bind (fun w2 => some w2))
set_option maxHeartbeats 4000000 in
set_option maxRecDepth 100000 in
theorem t_X1_init_0 {p : Program} {l : Launch} {e : Env} {s : State} {m : MethodId} {args : Array Value} {below : List Frame} {meth : Method} {c : Code} {E : xEv} (hC : xk_C p s m args meth c E prog_3_method_1_code "Clickbook$Hit" 3) (hr : meth.sig.returnType = none) (hin : meth.name = "<init>") {q : xWd} (x0 : Nat) (x1 : Int32) (x2 : Int32) (w : xWd) (hf : f_X1_init x0 x1 x2 w = some q) : xk_X p l e { frames := 1, cells := 0, slots := 0, locals := 20 } s m args below meth c (MQ below (xk_Qv E q) args s 0 0 (xk_A E.2.2.1)) E 3 0 0 0 [(0, va_rf (some x0)), (1, .int (x1)), (2, .int (x2))] [] w := by
  refine xk_aload_n hC dX1_init_0 0 rfl rfl ?_
  refine xk_objI hC xm_568 xm_35 xm_36 dX1_init_1 (Nat.le_of_ble_eq_true rfl) (Nat.le_of_ble_eq_true rfl) ?_
  refine xk_aload_n hC dX1_init_4 0 rfl rfl ?_
  refine xk_iload_n hC dX1_init_5 1 rfl rfl ?_
  obtain ⟨w1, h1, hf⟩ := xk_bi hf
  refine xk_put hC xi_2 xc_2 xo_2 xn_2 0 (by decide) xm_569 (Or.inl rfl) rfl rfl rfl dX1_init_6 h1 ?_
  refine xk_aload_n hC dX1_init_9 0 rfl rfl ?_
  refine xk_iload_n hC dX1_init_10 2 rfl rfl ?_
  obtain ⟨w2, h2, hf⟩ := xk_bi hf
  refine xk_putF hC xi_2 xc_2 xo_2 xn_2 1 (by decide) xm_571 (Or.inl rfl) rfl hin rfl rfl rfl dX1_init_11 h2 ?_
  cases hf
  refine xk_widen (k := 0) (n := 0) (Nat.le_of_ble_eq_true rfl) (Nat.le_of_ble_eq_true rfl) ?_
  exact xk_vret hC hr dX1_init_14
theorem xd_X1_init : xy_X1_init.cls ≠ "java/lang/invoke/MethodHandle" ∧ xy_X1_init.cls ≠ "java/lang/invoke/VarHandle" ∧ (parseMethodDescriptor xy_X1_init.desc).map (fun d => d.parameters.length) = some 2 := ⟨by decide +kernel, by decide +kernel, by decide +kernel⟩
theorem c_X1_init {l : Launch} {E : xEv} {x0 : Nat} {x1 : Int32} {x2 : Int32} {w : xWd} {q : xWd} (hf : f_X1_init x0 x1 x2 w = some q) : xk_M l xy_X1_init prog_3_method_1_code 3 none 1 20 0 0 E [va_rf (some x0), .int (x1), .int (x2)] w (xk_Qv E q) := by
  refine xk_enter (by decide +kernel) (by simp [lg_sl, xk_cat1, xk_cati, xk_catl, xk_catd]) ?_
  intro p e s m args below meth c hC hr hin ha
  rw [show lv_args 0 [va_rf (some x0), .int (x1), .int (x2)] = [(0, va_rf (some x0)), (1, .int (x1)), (2, .int (x2))] by simp [lv_args, xk_cat1, xk_cati, xk_catl, xk_catd]]
  exact t_X1_init_0 hC hr (hin rfl) x0 x1 x2 w hf
def f_X4_hit_22 (w : xWd) : Option (Int32 × xWd) := none
set_option maxHeartbeats 4000000 in
set_option maxRecDepth 100000 in
theorem t_X4_hit_22 {p : Program} {l : Launch} {e : Env} {s : State} {m : MethodId} {args : Array Value} {below : List Frame} {meth : Method} {c : Code} {E : xEv} (hC : xk_C p s m args meth c E prog_1_method_2_code "Clickbook" 3) (hr : meth.sig.returnType = (some .int)) {q : (Int32 × xWd)} (w : xWd) (hf : f_X4_hit_22 w = some q) : xk_X p l e { frames := 5, cells := 2, slots := 67, locals := 108 } s m args below meth c (MQ below (xk_Qi E q) args s 2 67 (xk_A E.2.2.1)) E 3 0 0 22 [] [] w := by
  cases hf
def f_X4_hit (x0 : Option Nat) (x1 : Int32) (x2 : Int32) (w : xWd) : Option (Int32 × xWd) := if (x1) < ((0 : Int32)) then f_X4_hit_22 w else (xk_gI w (x0) 0 5).bind (fun v2 => if (v2) ≤ (x1) then f_X4_hit_22 w else if (x2) < ((0 : Int32)) then f_X4_hit_22 w else if (x2) ≤ ((9 : Int32)) then (xk_gR w (x0) 0 0).bind (fun v6 => (xk_is w (v6) 4).bind (fun u8 => (f_Jx4a65c_size_8abf5 (v6)  w).bind (fun q7 => if (q7.1) < ((12 : Int32)) then (xk_gR q7.2 (x0) 0 0).bind (fun v10 => (some (xk_nw q7.2 2 xf_2)).bind (fun w11 => (f_X1_init (q7.2.2.1) (x1) (x2) w11).bind (fun q12 => (xk_is q12 (v10) 4).bind (fun u14 => (f_Jx4a65c_add_9ea2d (v10) (some q7.2.2.1) q12).bind (fun q13 => (xk_gR q13.2 (x0) 0 0).bind (fun v15 => (xk_is q13.2 (v15) 4).bind (fun u17 => (f_Jx4a65c_size_8abf5 (v15)  q13.2).bind (fun q16 => some ((q16.1) - ((1 : Int32)), q16.2))))))))) else none))) else f_X4_hit_22 w)
set_option maxHeartbeats 4000000 in
set_option maxRecDepth 100000 in
theorem t_X4_hit_0 {p : Program} {l : Launch} {e : Env} {s : State} {m : MethodId} {args : Array Value} {below : List Frame} {meth : Method} {c : Code} {E : xEv} (hC : xk_C p s m args meth c E prog_1_method_2_code "Clickbook" 3) (hr : meth.sig.returnType = (some .int)) {q : (Int32 × xWd)} (x0 : Option Nat) (x1 : Int32) (x2 : Int32) (w : xWd) (hf : f_X4_hit x0 x1 x2 w = some q) : xk_X p l e { frames := 5, cells := 2, slots := 67, locals := 108 } s m args below meth c (MQ below (xk_Qi E q) args s 2 67 (xk_A E.2.2.1)) E 3 0 0 0 [(0, va_rf (x0)), (1, .int (x1)), (2, .int (x2))] [] w := by
  refine xk_iload_n hC dX4_hit_0 1 rfl rfl ?_
  refine xk_if_lt (tgt := 22) hC dX4_hit_1 (by decide) (fun c1 => ?_) (fun c1 => ?_)
  · replace hf := (if_pos c1).symm.trans hf
    refine xk_locals [] rfl ?_
    exact t_X4_hit_22 hC hr w hf
  · replace hf := (if_neg c1).symm.trans hf
    refine xk_iload_n hC dX4_hit_4 1 rfl rfl ?_
    refine xk_aload_n hC dX4_hit_5 0 rfl rfl ?_
    obtain ⟨v2, h2, hf⟩ := xk_bi hf
    refine xk_getI hC xi_0 xc_0 5 (by decide) xm_90 (Or.inl rfl) dX4_hit_6 h2 ?_
    refine xk_icmp_ge (tgt := 22) hC dX4_hit_9 (by decide) (fun c3 => ?_) (fun c3 => ?_)
    · replace hf := (if_pos c3).symm.trans hf
      refine xk_locals [] rfl ?_
      exact t_X4_hit_22 hC hr w hf
    · replace hf := (if_neg c3).symm.trans hf
      refine xk_iload_n hC dX4_hit_12 2 rfl rfl ?_
      refine xk_if_lt (tgt := 22) hC dX4_hit_13 (by decide) (fun c4 => ?_) (fun c4 => ?_)
      · replace hf := (if_pos c4).symm.trans hf
        refine xk_locals [] rfl ?_
        exact t_X4_hit_22 hC hr w hf
      · replace hf := (if_neg c4).symm.trans hf
        refine xk_iload_n hC dX4_hit_16 2 rfl rfl ?_
        refine xk_bipush (v := (9 : Int32)) hC dX4_hit_17 (by decide) ?_
        refine xk_icmp_le (tgt := 32) hC dX4_hit_19 (by decide) (fun c5 => ?_) (fun c5 => ?_)
        · replace hf := (if_pos c5).symm.trans hf
          refine xk_aload_n hC dX4_hit_32 0 rfl rfl ?_
          obtain ⟨v6, h6, hf⟩ := xk_bi hf
          refine xk_getR hC xi_0 xc_0 0 (by decide) xm_85 (Or.inl rfl) dX4_hit_33 h6 ?_
          obtain ⟨u8, h8, hf⟩ := xk_bi hf
          obtain ⟨q7, h7, hf⟩ := xk_bi hf
          refine xk_backi (xk_callV hC 0 xc_4 (c_Jx4a65c_size_8abf5 h7) h8 xm_130 xm_131 xm_132 xm_4 xm_133 ⟨rfl, xd_Jx4a65c_size_8abf5⟩ rfl ⟨Nat.le_of_ble_eq_true rfl, Nat.le_of_ble_eq_true rfl⟩ rfl (Nat.le_of_ble_eq_true rfl) dX4_hit_36 ⟨(Nat.le_of_ble_eq_true rfl), (Nat.le_of_ble_eq_true rfl)⟩) ?_
          refine xk_bipush (v := (12 : Int32)) hC dX4_hit_39 (by decide) ?_
          refine xk_icmp_lt (tgt := 54) hC dX4_hit_41 (by decide) (fun c9 => ?_) (fun c9 => ?_)
          · replace hf := (if_pos c9).symm.trans hf
            refine xk_aload_n hC dX4_hit_54 0 rfl rfl ?_
            obtain ⟨v10, h10, hf⟩ := xk_bi hf
            refine xk_getR hC xi_0 xc_0 0 (by decide) xm_85 (Or.inl rfl) dX4_hit_55 h10 ?_
            obtain ⟨w11, h11, hf⟩ := xk_bi hf
            refine xk_newH hC xi_2 xc_2 xo_2 xm_174 xm_564 xm_12 xfo_2 (Nat.le_of_ble_eq_true rfl) (Nat.le_of_ble_eq_true rfl) dX4_hit_58 h11 ?_
            refine xk_dup hC dX4_hit_61 (xk_cat1 _) ?_
            refine xk_iload_n hC dX4_hit_62 1 rfl rfl ?_
            refine xk_iload_n hC dX4_hit_63 2 rfl rfl ?_
            obtain ⟨q12, h12, hf⟩ := xk_bi hf
            refine xk_backv (xk_callI hC 2 (c_X1_init h12) xm_565 xm_566 xm_12 xm_567 rfl xd_X1_init rfl ⟨Nat.le_of_ble_eq_true rfl, Nat.le_of_ble_eq_true rfl⟩ rfl (by simp [xk_cat1, xk_cati, xk_catl, xk_catd]) dX4_hit_64 ⟨(Nat.le_of_ble_eq_true rfl), (Nat.le_of_ble_eq_true rfl)⟩) ?_
            obtain ⟨u14, h14, hf⟩ := xk_bi hf
            obtain ⟨q13, h13, hf⟩ := xk_bi hf
            refine xk_backi (xk_callV hC 1 xc_4 (c_Jx4a65c_add_9ea2d h13) h14 xm_582 xm_387 xm_388 xm_4 xm_389 ⟨rfl, xd_Jx4a65c_add_9ea2d⟩ rfl ⟨Nat.le_of_ble_eq_true rfl, Nat.le_of_ble_eq_true rfl⟩ rfl (Nat.le_of_ble_eq_true rfl) dX4_hit_67 ⟨(Nat.le_of_ble_eq_true rfl), (Nat.le_of_ble_eq_true rfl)⟩) ?_
            refine xk_pop hC dX4_hit_70 rfl ?_
            refine xk_aload_n hC dX4_hit_71 0 rfl rfl ?_
            obtain ⟨v15, h15, hf⟩ := xk_bi hf
            refine xk_getR hC xi_0 xc_0 0 (by decide) xm_85 (Or.inl rfl) dX4_hit_72 h15 ?_
            obtain ⟨u17, h17, hf⟩ := xk_bi hf
            obtain ⟨q16, h16, hf⟩ := xk_bi hf
            refine xk_backi (xk_callV hC 0 xc_4 (c_Jx4a65c_size_8abf5 h16) h17 xm_130 xm_131 xm_132 xm_4 xm_133 ⟨rfl, xd_Jx4a65c_size_8abf5⟩ rfl ⟨Nat.le_of_ble_eq_true rfl, Nat.le_of_ble_eq_true rfl⟩ rfl (Nat.le_of_ble_eq_true rfl) dX4_hit_75 ⟨(Nat.le_of_ble_eq_true rfl), (Nat.le_of_ble_eq_true rfl)⟩) ?_
            refine xk_iconst (v := (1 : Int32)) hC dX4_hit_78 (by decide) ?_
            refine xk_isub hC dX4_hit_79 ?_
            cases hf
            refine xk_widen (k := 2) (n := 67) (Nat.le_of_ble_eq_true rfl) (Nat.le_of_ble_eq_true rfl) ?_
            exact xk_iret hC hr rfl dX4_hit_80
          · replace hf := (if_neg c9).symm.trans hf
            cases hf
        · replace hf := (if_neg c5).symm.trans hf
          refine xk_locals [] rfl ?_
          exact t_X4_hit_22 hC hr w hf
theorem xd_X4_hit : xy_X4_hit.cls ≠ "java/lang/invoke/MethodHandle" ∧ xy_X4_hit.cls ≠ "java/lang/invoke/VarHandle" ∧ (parseMethodDescriptor xy_X4_hit.desc).map (fun d => d.parameters.length) = some 2 := ⟨by decide +kernel, by decide +kernel, by decide +kernel⟩
theorem c_X4_hit {l : Launch} {E : xEv} {x0 : Option Nat} {x1 : Int32} {x2 : Int32} {w : xWd} {q : (Int32 × xWd)} (hf : f_X4_hit x0 x1 x2 w = some q) : xk_M l xy_X4_hit prog_1_method_2_code 3 (some .int) 5 108 2 67 E [va_rf (x0), .int (x1), .int (x2)] w (xk_Qi E q) := by
  refine xk_enter (by decide +kernel) (by simp [lg_sl, xk_cat1, xk_cati, xk_catl, xk_catd]) ?_
  intro p e s m args below meth c hC hr hin ha
  rw [show lv_args 0 [va_rf (x0), .int (x1), .int (x2)] = [(0, va_rf (x0)), (1, .int (x1)), (2, .int (x2))] by simp [lv_args, xk_cat1, xk_cati, xk_catl, xk_catd]]
  exact t_X4_hit_0 hC hr x0 x1 x2 w hf
def e_X4_hit_22 (w : xWd) : Option (Nat × xWd) := some (0, (w.1, w.2.1 + 1, w.2.2))
set_option maxHeartbeats 4000000 in
set_option maxRecDepth 100000 in
theorem te_X4_hit_22 {p : Program} {l : Launch} {e : Env} {s : State} {m : MethodId} {args : Array Value} {below : List Frame} {meth : Method} {c : Code} {E : xEv} (hC : xk_C p s m args meth c E prog_1_method_2_code "Clickbook" 3) (hr : meth.sig.returnType = (some .int)) (hX : ∀ x ∈ c.exceptionTable.toList, False) (hl9 : l.stackTraces = false) {q : (Nat × xWd)} (w : xWd) (hf : e_X4_hit_22 w = some q) : xk_X p l e { frames := 6, cells := 2, slots := 67, locals := 108 } s m args below meth c (vx_MQ below xk_QN (xk_XC E q) args s 2 67 (xk_A E.2.2.1)) E 3 0 0 22 [] [] w := by
  cases hf
  exact xk_throw (k := 0) (B := [Cond.declares ⟨"java/lang/RuntimeException", "<init>", "(Ljava/lang/String;)V"⟩, Cond.declares ⟨"java/lang/Exception", "<init>", "(Ljava/lang/String;)V"⟩, Cond.declares ⟨"java/lang/Throwable", "<init>", "(Ljava/lang/String;)V"⟩, Cond.castable "java/lang/IllegalArgumentException" "java/lang/IllegalArgumentException"]) (names := ["java/lang/RuntimeException", "java/lang/Exception"]) hC hX hl9 rfl (by decide +kernel) (by decide +kernel) rfl xm_242 xm_10 (xk_note19 hC) xw_0a xw_0b (vx_c (va_Nw.use rfl (xk_note2 hC)) (vx_c (va_Nw.use rfl (xk_note3 hC)) (vx_c (va_Nw.use rfl (xk_note4 hC)) (vx_c (va_Nw.use rfl (xk_note1 hC)) vx_n)))) xw_0c dX4_hit_22 dX4_hit_25 dX4_hit_26 dX4_hit_28 dX4_hit_31 (Nat.le_of_ble_eq_true rfl) (Nat.le_of_ble_eq_true rfl) (Nat.le_of_ble_eq_true rfl) (Nat.le_of_ble_eq_true rfl) (Nat.le_of_ble_eq_true rfl) (Nat.le_of_ble_eq_true rfl)
def e_X4_hit (x0 : Option Nat) (x1 : Int32) (x2 : Int32) (w : xWd) : Option (Nat × xWd) := if (x1) < ((0 : Int32)) then e_X4_hit_22 w else (xk_gI w (x0) 0 5).bind (fun v2 => if (v2) ≤ (x1) then e_X4_hit_22 w else if (x2) < ((0 : Int32)) then e_X4_hit_22 w else if (x2) ≤ ((9 : Int32)) then (xk_gR w (x0) 0 0).bind (fun v6 => (xk_is w (v6) 4).bind (fun u8 => (f_Jx4a65c_size_8abf5 (v6)  w).bind (fun q7 => if (q7.1) < ((12 : Int32)) then (xk_gR q7.2 (x0) 0 0).bind (fun v10 => (some (xk_nw q7.2 2 xf_2)).bind (fun w11 => (f_X1_init (q7.2.2.1) (x1) (x2) w11).bind (fun q12 => (xk_is q12 (v10) 4).bind (fun u14 => (f_Jx4a65c_add_9ea2d (v10) (some q7.2.2.1) q12).bind (fun q13 => (xk_gR q13.2 (x0) 0 0).bind (fun v15 => (xk_is q13.2 (v15) 4).bind (fun u17 => (f_Jx4a65c_size_8abf5 (v15)  q13.2).bind (fun q16 => none)))))))) else some (1, (q7.2.1, q7.2.2.1 + 1, q7.2.2.2))))) else e_X4_hit_22 w)
set_option maxHeartbeats 4000000 in
set_option maxRecDepth 100000 in
theorem te_X4_hit_0 {p : Program} {l : Launch} {e : Env} {s : State} {m : MethodId} {args : Array Value} {below : List Frame} {meth : Method} {c : Code} {E : xEv} (hC : xk_C p s m args meth c E prog_1_method_2_code "Clickbook" 3) (hr : meth.sig.returnType = (some .int)) (hX : ∀ x ∈ c.exceptionTable.toList, False) (hl9 : l.stackTraces = false) {q : (Nat × xWd)} (x0 : Option Nat) (x1 : Int32) (x2 : Int32) (w : xWd) (hf : e_X4_hit x0 x1 x2 w = some q) : xk_X p l e { frames := 6, cells := 2, slots := 67, locals := 108 } s m args below meth c (vx_MQ below xk_QN (xk_XC E q) args s 2 67 (xk_A E.2.2.1)) E 3 0 0 0 [(0, va_rf (x0)), (1, .int (x1)), (2, .int (x2))] [] w := by
  refine xk_iload_n hC dX4_hit_0 1 rfl rfl ?_
  refine xk_if_lt (tgt := 22) hC dX4_hit_1 (by decide) (fun c1 => ?_) (fun c1 => ?_)
  · replace hf := (if_pos c1).symm.trans hf
    refine xk_locals [] rfl ?_
    exact te_X4_hit_22 hC hr hX hl9 w hf
  · replace hf := (if_neg c1).symm.trans hf
    refine xk_iload_n hC dX4_hit_4 1 rfl rfl ?_
    refine xk_aload_n hC dX4_hit_5 0 rfl rfl ?_
    obtain ⟨v2, h2, hf⟩ := xk_bi hf
    refine xk_getI hC xi_0 xc_0 5 (by decide) xm_90 (Or.inl rfl) dX4_hit_6 h2 ?_
    refine xk_icmp_ge (tgt := 22) hC dX4_hit_9 (by decide) (fun c3 => ?_) (fun c3 => ?_)
    · replace hf := (if_pos c3).symm.trans hf
      refine xk_locals [] rfl ?_
      exact te_X4_hit_22 hC hr hX hl9 w hf
    · replace hf := (if_neg c3).symm.trans hf
      refine xk_iload_n hC dX4_hit_12 2 rfl rfl ?_
      refine xk_if_lt (tgt := 22) hC dX4_hit_13 (by decide) (fun c4 => ?_) (fun c4 => ?_)
      · replace hf := (if_pos c4).symm.trans hf
        refine xk_locals [] rfl ?_
        exact te_X4_hit_22 hC hr hX hl9 w hf
      · replace hf := (if_neg c4).symm.trans hf
        refine xk_iload_n hC dX4_hit_16 2 rfl rfl ?_
        refine xk_bipush (v := (9 : Int32)) hC dX4_hit_17 (by decide) ?_
        refine xk_icmp_le (tgt := 32) hC dX4_hit_19 (by decide) (fun c5 => ?_) (fun c5 => ?_)
        · replace hf := (if_pos c5).symm.trans hf
          refine xk_aload_n hC dX4_hit_32 0 rfl rfl ?_
          obtain ⟨v6, h6, hf⟩ := xk_bi hf
          refine xk_getR hC xi_0 xc_0 0 (by decide) xm_85 (Or.inl rfl) dX4_hit_33 h6 ?_
          obtain ⟨u8, h8, hf⟩ := xk_bi hf
          obtain ⟨q7, h7, hf⟩ := xk_bi hf
          refine xk_backi (xk_callV hC 0 xc_4 (c_Jx4a65c_size_8abf5 h7) h8 xm_130 xm_131 xm_132 xm_4 xm_133 ⟨rfl, xd_Jx4a65c_size_8abf5⟩ rfl ⟨Nat.le_of_ble_eq_true rfl, Nat.le_of_ble_eq_true rfl⟩ rfl (Nat.le_of_ble_eq_true rfl) dX4_hit_36 ⟨(Nat.le_of_ble_eq_true rfl), (Nat.le_of_ble_eq_true rfl)⟩) ?_
          refine xk_bipush (v := (12 : Int32)) hC dX4_hit_39 (by decide) ?_
          refine xk_icmp_lt (tgt := 54) hC dX4_hit_41 (by decide) (fun c9 => ?_) (fun c9 => ?_)
          · replace hf := (if_pos c9).symm.trans hf
            refine xk_aload_n hC dX4_hit_54 0 rfl rfl ?_
            obtain ⟨v10, h10, hf⟩ := xk_bi hf
            refine xk_getR hC xi_0 xc_0 0 (by decide) xm_85 (Or.inl rfl) dX4_hit_55 h10 ?_
            obtain ⟨w11, h11, hf⟩ := xk_bi hf
            refine xk_newH hC xi_2 xc_2 xo_2 xm_174 xm_564 xm_12 xfo_2 (Nat.le_of_ble_eq_true rfl) (Nat.le_of_ble_eq_true rfl) dX4_hit_58 h11 ?_
            refine xk_dup hC dX4_hit_61 (xk_cat1 _) ?_
            refine xk_iload_n hC dX4_hit_62 1 rfl rfl ?_
            refine xk_iload_n hC dX4_hit_63 2 rfl rfl ?_
            obtain ⟨q12, h12, hf⟩ := xk_bi hf
            refine xk_backv (xk_callI hC 2 (c_X1_init h12) xm_565 xm_566 xm_12 xm_567 rfl xd_X1_init rfl ⟨Nat.le_of_ble_eq_true rfl, Nat.le_of_ble_eq_true rfl⟩ rfl (by simp [xk_cat1, xk_cati, xk_catl, xk_catd]) dX4_hit_64 ⟨(Nat.le_of_ble_eq_true rfl), (Nat.le_of_ble_eq_true rfl)⟩) ?_
            obtain ⟨u14, h14, hf⟩ := xk_bi hf
            obtain ⟨q13, h13, hf⟩ := xk_bi hf
            refine xk_backi (xk_callV hC 1 xc_4 (c_Jx4a65c_add_9ea2d h13) h14 xm_582 xm_387 xm_388 xm_4 xm_389 ⟨rfl, xd_Jx4a65c_add_9ea2d⟩ rfl ⟨Nat.le_of_ble_eq_true rfl, Nat.le_of_ble_eq_true rfl⟩ rfl (Nat.le_of_ble_eq_true rfl) dX4_hit_67 ⟨(Nat.le_of_ble_eq_true rfl), (Nat.le_of_ble_eq_true rfl)⟩) ?_
            refine xk_pop hC dX4_hit_70 rfl ?_
            refine xk_aload_n hC dX4_hit_71 0 rfl rfl ?_
            obtain ⟨v15, h15, hf⟩ := xk_bi hf
            refine xk_getR hC xi_0 xc_0 0 (by decide) xm_85 (Or.inl rfl) dX4_hit_72 h15 ?_
            obtain ⟨u17, h17, hf⟩ := xk_bi hf
            obtain ⟨q16, h16, hf⟩ := xk_bi hf
            refine xk_backi (xk_callV hC 0 xc_4 (c_Jx4a65c_size_8abf5 h16) h17 xm_130 xm_131 xm_132 xm_4 xm_133 ⟨rfl, xd_Jx4a65c_size_8abf5⟩ rfl ⟨Nat.le_of_ble_eq_true rfl, Nat.le_of_ble_eq_true rfl⟩ rfl (Nat.le_of_ble_eq_true rfl) dX4_hit_75 ⟨(Nat.le_of_ble_eq_true rfl), (Nat.le_of_ble_eq_true rfl)⟩) ?_
            refine xk_iconst (v := (1 : Int32)) hC dX4_hit_78 (by decide) ?_
            refine xk_isub hC dX4_hit_79 ?_
            cases hf
          · replace hf := (if_neg c9).symm.trans hf
            cases hf
            exact xk_throw (k := 1) (B := [Cond.declares ⟨"java/lang/RuntimeException", "<init>", "(Ljava/lang/String;)V"⟩, Cond.declares ⟨"java/lang/Exception", "<init>", "(Ljava/lang/String;)V"⟩, Cond.declares ⟨"java/lang/Throwable", "<init>", "(Ljava/lang/String;)V"⟩, Cond.castable "java/lang/IllegalStateException" "java/lang/IllegalStateException"]) (names := ["java/lang/RuntimeException", "java/lang/Exception"]) hC hX hl9 rfl (by decide +kernel) (by decide +kernel) rfl xm_548 xm_11 (xk_note21 hC) xw_1a xw_1b (vx_c (va_Nw.use rfl (xk_note2 hC)) (vx_c (va_Nw.use rfl (xk_note3 hC)) (vx_c (va_Nw.use rfl (xk_note4 hC)) (vx_c (va_Nw.use rfl (xk_note20 hC)) vx_n)))) xw_1c dX4_hit_44 dX4_hit_47 dX4_hit_48 dX4_hit_50 dX4_hit_53 (Nat.le_of_ble_eq_true rfl) (Nat.le_of_ble_eq_true rfl) (Nat.le_of_ble_eq_true rfl) (Nat.le_of_ble_eq_true rfl) (Nat.le_of_ble_eq_true rfl) (Nat.le_of_ble_eq_true rfl)
        · replace hf := (if_neg c5).symm.trans hf
          refine xk_locals [] rfl ?_
          exact te_X4_hit_22 hC hr hX hl9 w hf
theorem ce_X4_hit {l : Launch} (hl9 : l.stackTraces = false) {E : xEv} {x0 : Option Nat} {x1 : Int32} {x2 : Int32} {w : xWd} {q : Nat × xWd} (hf : e_X4_hit x0 x1 x2 w = some q) : xk_MX l xy_X4_hit prog_1_method_2_code 3 (some .int) 6 108 2 67 E [va_rf (x0), .int (x1), .int (x2)] w q := by
  refine xk_enterX (by decide +kernel) (by simp [lg_sl, xk_cat1, xk_cati, xk_catl, xk_catd]) ?_
  intro p e s m args below meth c hC hr hX ha
  rw [show lv_args 0 [va_rf (x0), .int (x1), .int (x2)] = [(0, va_rf (x0)), (1, .int (x1)), (2, .int (x2))] by simp [lv_args, xk_cat1, xk_cati, xk_catl, xk_catd]]
  exact te_X4_hit_0 hC hr hX hl9 x0 x1 x2 w hf
def f_X4_theme_12 (w : xWd) : Option (Int32 × xWd) := none
set_option maxHeartbeats 4000000 in
set_option maxRecDepth 100000 in
theorem t_X4_theme_12 {p : Program} {l : Launch} {e : Env} {s : State} {m : MethodId} {args : Array Value} {below : List Frame} {meth : Method} {c : Code} {E : xEv} (hC : xk_C p s m args meth c E prog_1_method_3_code "Clickbook" 2) (hr : meth.sig.returnType = (some .int)) {q : (Int32 × xWd)} (w : xWd) (hf : f_X4_theme_12 w = some q) : xk_X p l e { frames := 0, cells := 0, slots := 0, locals := 0 } s m args below meth c (MQ below (xk_Qi E q) args s 0 0 (xk_A E.2.2.1)) E 2 0 0 12 [] [] w := by
  cases hf
def f_X4_theme (x0 : Option Nat) (x1 : Int32) (w : xWd) : Option (Int32 × xWd) := if (x1) < ((0 : Int32)) then f_X4_theme_12 w else (xk_gI w (x0) 0 5).bind (fun v2 => if (x1) ≤ (v2) then (xk_gI w (x0) 0 2).bind (fun v4 => if (v4) < ((4 : Int32)) then (xk_gR w (x0) 0 1).bind (fun v6 => (xk_gI w (x0) 0 2).bind (fun v7 => (xk_sI 0 w (v6) (v7) (x1)).bind (fun w8 => (xk_gI w8 (x0) 0 2).bind (fun v9 => (xk_pV w8 (x0) 0 2 (.int ((v9) + ((1 : Int32))))).bind (fun w10 => (xk_gI w10 (x0) 0 2).bind (fun v11 => some ((v11) - ((1 : Int32)), w10))))))) else none) else f_X4_theme_12 w)
set_option maxHeartbeats 4000000 in
set_option maxRecDepth 100000 in
theorem t_X4_theme_0 {p : Program} {l : Launch} {e : Env} {s : State} {m : MethodId} {args : Array Value} {below : List Frame} {meth : Method} {c : Code} {E : xEv} (hC : xk_C p s m args meth c E prog_1_method_3_code "Clickbook" 2) (hr : meth.sig.returnType = (some .int)) {q : (Int32 × xWd)} (x0 : Option Nat) (x1 : Int32) (w : xWd) (hf : f_X4_theme x0 x1 w = some q) : xk_X p l e { frames := 0, cells := 0, slots := 0, locals := 0 } s m args below meth c (MQ below (xk_Qi E q) args s 0 0 (xk_A E.2.2.1)) E 2 0 0 0 [(0, va_rf (x0)), (1, .int (x1))] [] w := by
  refine xk_iload_n hC dX4_theme_0 1 rfl rfl ?_
  refine xk_if_lt (tgt := 12) hC dX4_theme_1 (by decide) (fun c1 => ?_) (fun c1 => ?_)
  · replace hf := (if_pos c1).symm.trans hf
    refine xk_locals [] rfl ?_
    exact t_X4_theme_12 hC hr w hf
  · replace hf := (if_neg c1).symm.trans hf
    refine xk_iload_n hC dX4_theme_4 1 rfl rfl ?_
    refine xk_aload_n hC dX4_theme_5 0 rfl rfl ?_
    obtain ⟨v2, h2, hf⟩ := xk_bi hf
    refine xk_getI hC xi_0 xc_0 5 (by decide) xm_90 (Or.inl rfl) dX4_theme_6 h2 ?_
    refine xk_icmp_le (tgt := 22) hC dX4_theme_9 (by decide) (fun c3 => ?_) (fun c3 => ?_)
    · replace hf := (if_pos c3).symm.trans hf
      refine xk_aload_n hC dX4_theme_22 0 rfl rfl ?_
      obtain ⟨v4, h4, hf⟩ := xk_bi hf
      refine xk_getI hC xi_0 xc_0 2 (by decide) xm_87 (Or.inl rfl) dX4_theme_23 h4 ?_
      refine xk_iconst (v := (4 : Int32)) hC dX4_theme_26 (by decide) ?_
      refine xk_icmp_lt (tgt := 40) hC dX4_theme_27 (by decide) (fun c5 => ?_) (fun c5 => ?_)
      · replace hf := (if_pos c5).symm.trans hf
        refine xk_aload_n hC dX4_theme_40 0 rfl rfl ?_
        obtain ⟨v6, h6, hf⟩ := xk_bi hf
        refine xk_getR hC xi_0 xc_0 1 (by decide) xm_86 (Or.inl rfl) dX4_theme_41 h6 ?_
        refine xk_aload_n hC dX4_theme_44 0 rfl rfl ?_
        obtain ⟨v7, h7, hf⟩ := xk_bi hf
        refine xk_getI hC xi_0 xc_0 2 (by decide) xm_87 (Or.inl rfl) dX4_theme_45 h7 ?_
        refine xk_iload_n hC dX4_theme_48 1 rfl rfl ?_
        obtain ⟨w8, h8, hf⟩ := xk_bi hf
        refine xk_iast hC rfl dX4_theme_49 h8 ?_
        refine xk_aload_n hC dX4_theme_50 0 rfl rfl ?_
        refine xk_dup hC dX4_theme_51 (xk_cat1 _) ?_
        obtain ⟨v9, h9, hf⟩ := xk_bi hf
        refine xk_getI hC xi_0 xc_0 2 (by decide) xm_87 (Or.inl rfl) dX4_theme_52 h9 ?_
        refine xk_iconst (v := (1 : Int32)) hC dX4_theme_55 (by decide) ?_
        refine xk_iadd hC dX4_theme_56 ?_
        obtain ⟨w10, h10, hf⟩ := xk_bi hf
        refine xk_put hC xi_0 xc_0 xo_0 xn_0 2 (by decide) xm_87 (Or.inl rfl) rfl rfl rfl dX4_theme_57 h10 ?_
        refine xk_aload_n hC dX4_theme_60 0 rfl rfl ?_
        obtain ⟨v11, h11, hf⟩ := xk_bi hf
        refine xk_getI hC xi_0 xc_0 2 (by decide) xm_87 (Or.inl rfl) dX4_theme_61 h11 ?_
        refine xk_iconst (v := (1 : Int32)) hC dX4_theme_64 (by decide) ?_
        refine xk_isub hC dX4_theme_65 ?_
        cases hf
        refine xk_widen (k := 0) (n := 0) (Nat.le_of_ble_eq_true rfl) (Nat.le_of_ble_eq_true rfl) ?_
        exact xk_iret hC hr rfl dX4_theme_66
      · replace hf := (if_neg c5).symm.trans hf
        cases hf
    · replace hf := (if_neg c3).symm.trans hf
      refine xk_locals [] rfl ?_
      exact t_X4_theme_12 hC hr w hf
theorem xd_X4_theme : xy_X4_theme.cls ≠ "java/lang/invoke/MethodHandle" ∧ xy_X4_theme.cls ≠ "java/lang/invoke/VarHandle" ∧ (parseMethodDescriptor xy_X4_theme.desc).map (fun d => d.parameters.length) = some 1 := ⟨by decide +kernel, by decide +kernel, by decide +kernel⟩
theorem c_X4_theme {l : Launch} {E : xEv} {x0 : Option Nat} {x1 : Int32} {w : xWd} {q : (Int32 × xWd)} (hf : f_X4_theme x0 x1 w = some q) : xk_M l xy_X4_theme prog_1_method_3_code 2 (some .int) 0 0 0 0 E [va_rf (x0), .int (x1)] w (xk_Qi E q) := by
  refine xk_enter (by decide +kernel) (by simp [lg_sl, xk_cat1, xk_cati, xk_catl, xk_catd]) ?_
  intro p e s m args below meth c hC hr hin ha
  rw [show lv_args 0 [va_rf (x0), .int (x1)] = [(0, va_rf (x0)), (1, .int (x1))] by simp [lv_args, xk_cat1, xk_cati, xk_catl, xk_catd]]
  exact t_X4_theme_0 hC hr x0 x1 w hf
def e_X4_theme_12 (w : xWd) : Option (Nat × xWd) := some (0, (w.1, w.2.1 + 1, w.2.2))
set_option maxHeartbeats 4000000 in
set_option maxRecDepth 100000 in
theorem te_X4_theme_12 {p : Program} {l : Launch} {e : Env} {s : State} {m : MethodId} {args : Array Value} {below : List Frame} {meth : Method} {c : Code} {E : xEv} (hC : xk_C p s m args meth c E prog_1_method_3_code "Clickbook" 2) (hr : meth.sig.returnType = (some .int)) (hX : ∀ x ∈ c.exceptionTable.toList, False) (hl9 : l.stackTraces = false) {q : (Nat × xWd)} (w : xWd) (hf : e_X4_theme_12 w = some q) : xk_X p l e { frames := 6, cells := 1, slots := 6, locals := 92 } s m args below meth c (vx_MQ below xk_QN (xk_XC E q) args s 1 6 (xk_A E.2.2.1)) E 2 0 0 12 [] [] w := by
  cases hf
  exact xk_throw (k := 0) (B := [Cond.declares ⟨"java/lang/RuntimeException", "<init>", "(Ljava/lang/String;)V"⟩, Cond.declares ⟨"java/lang/Exception", "<init>", "(Ljava/lang/String;)V"⟩, Cond.declares ⟨"java/lang/Throwable", "<init>", "(Ljava/lang/String;)V"⟩, Cond.castable "java/lang/IllegalArgumentException" "java/lang/IllegalArgumentException"]) (names := ["java/lang/RuntimeException", "java/lang/Exception"]) hC hX hl9 rfl (by decide +kernel) (by decide +kernel) rfl xm_242 xm_10 (xk_note22 hC) xw_0a xw_0b (vx_c (va_Nw.use rfl (xk_note2 hC)) (vx_c (va_Nw.use rfl (xk_note3 hC)) (vx_c (va_Nw.use rfl (xk_note4 hC)) (vx_c (va_Nw.use rfl (xk_note1 hC)) vx_n)))) xw_0c dX4_theme_12 dX4_theme_15 dX4_theme_16 dX4_theme_18 dX4_theme_21 (Nat.le_of_ble_eq_true rfl) (Nat.le_of_ble_eq_true rfl) (Nat.le_of_ble_eq_true rfl) (Nat.le_of_ble_eq_true rfl) (Nat.le_of_ble_eq_true rfl) (Nat.le_of_ble_eq_true rfl)
def e_X4_theme (x0 : Option Nat) (x1 : Int32) (w : xWd) : Option (Nat × xWd) := if (x1) < ((0 : Int32)) then e_X4_theme_12 w else (xk_gI w (x0) 0 5).bind (fun v2 => if (x1) ≤ (v2) then (xk_gI w (x0) 0 2).bind (fun v4 => if (v4) < ((4 : Int32)) then (xk_gR w (x0) 0 1).bind (fun v6 => (xk_gI w (x0) 0 2).bind (fun v7 => (xk_sI 0 w (v6) (v7) (x1)).bind (fun w8 => (xk_gI w8 (x0) 0 2).bind (fun v9 => (xk_pV w8 (x0) 0 2 (.int ((v9) + ((1 : Int32))))).bind (fun w10 => (xk_gI w10 (x0) 0 2).bind (fun v11 => none)))))) else some (1, (w.1, w.2.1 + 1, w.2.2))) else e_X4_theme_12 w)
set_option maxHeartbeats 4000000 in
set_option maxRecDepth 100000 in
theorem te_X4_theme_0 {p : Program} {l : Launch} {e : Env} {s : State} {m : MethodId} {args : Array Value} {below : List Frame} {meth : Method} {c : Code} {E : xEv} (hC : xk_C p s m args meth c E prog_1_method_3_code "Clickbook" 2) (hr : meth.sig.returnType = (some .int)) (hX : ∀ x ∈ c.exceptionTable.toList, False) (hl9 : l.stackTraces = false) {q : (Nat × xWd)} (x0 : Option Nat) (x1 : Int32) (w : xWd) (hf : e_X4_theme x0 x1 w = some q) : xk_X p l e { frames := 6, cells := 1, slots := 6, locals := 92 } s m args below meth c (vx_MQ below xk_QN (xk_XC E q) args s 1 6 (xk_A E.2.2.1)) E 2 0 0 0 [(0, va_rf (x0)), (1, .int (x1))] [] w := by
  refine xk_iload_n hC dX4_theme_0 1 rfl rfl ?_
  refine xk_if_lt (tgt := 12) hC dX4_theme_1 (by decide) (fun c1 => ?_) (fun c1 => ?_)
  · replace hf := (if_pos c1).symm.trans hf
    refine xk_locals [] rfl ?_
    exact te_X4_theme_12 hC hr hX hl9 w hf
  · replace hf := (if_neg c1).symm.trans hf
    refine xk_iload_n hC dX4_theme_4 1 rfl rfl ?_
    refine xk_aload_n hC dX4_theme_5 0 rfl rfl ?_
    obtain ⟨v2, h2, hf⟩ := xk_bi hf
    refine xk_getI hC xi_0 xc_0 5 (by decide) xm_90 (Or.inl rfl) dX4_theme_6 h2 ?_
    refine xk_icmp_le (tgt := 22) hC dX4_theme_9 (by decide) (fun c3 => ?_) (fun c3 => ?_)
    · replace hf := (if_pos c3).symm.trans hf
      refine xk_aload_n hC dX4_theme_22 0 rfl rfl ?_
      obtain ⟨v4, h4, hf⟩ := xk_bi hf
      refine xk_getI hC xi_0 xc_0 2 (by decide) xm_87 (Or.inl rfl) dX4_theme_23 h4 ?_
      refine xk_iconst (v := (4 : Int32)) hC dX4_theme_26 (by decide) ?_
      refine xk_icmp_lt (tgt := 40) hC dX4_theme_27 (by decide) (fun c5 => ?_) (fun c5 => ?_)
      · replace hf := (if_pos c5).symm.trans hf
        refine xk_aload_n hC dX4_theme_40 0 rfl rfl ?_
        obtain ⟨v6, h6, hf⟩ := xk_bi hf
        refine xk_getR hC xi_0 xc_0 1 (by decide) xm_86 (Or.inl rfl) dX4_theme_41 h6 ?_
        refine xk_aload_n hC dX4_theme_44 0 rfl rfl ?_
        obtain ⟨v7, h7, hf⟩ := xk_bi hf
        refine xk_getI hC xi_0 xc_0 2 (by decide) xm_87 (Or.inl rfl) dX4_theme_45 h7 ?_
        refine xk_iload_n hC dX4_theme_48 1 rfl rfl ?_
        obtain ⟨w8, h8, hf⟩ := xk_bi hf
        refine xk_iast hC rfl dX4_theme_49 h8 ?_
        refine xk_aload_n hC dX4_theme_50 0 rfl rfl ?_
        refine xk_dup hC dX4_theme_51 (xk_cat1 _) ?_
        obtain ⟨v9, h9, hf⟩ := xk_bi hf
        refine xk_getI hC xi_0 xc_0 2 (by decide) xm_87 (Or.inl rfl) dX4_theme_52 h9 ?_
        refine xk_iconst (v := (1 : Int32)) hC dX4_theme_55 (by decide) ?_
        refine xk_iadd hC dX4_theme_56 ?_
        obtain ⟨w10, h10, hf⟩ := xk_bi hf
        refine xk_put hC xi_0 xc_0 xo_0 xn_0 2 (by decide) xm_87 (Or.inl rfl) rfl rfl rfl dX4_theme_57 h10 ?_
        refine xk_aload_n hC dX4_theme_60 0 rfl rfl ?_
        obtain ⟨v11, h11, hf⟩ := xk_bi hf
        refine xk_getI hC xi_0 xc_0 2 (by decide) xm_87 (Or.inl rfl) dX4_theme_61 h11 ?_
        refine xk_iconst (v := (1 : Int32)) hC dX4_theme_64 (by decide) ?_
        refine xk_isub hC dX4_theme_65 ?_
        cases hf
      · replace hf := (if_neg c5).symm.trans hf
        cases hf
        exact xk_throw (k := 1) (B := [Cond.declares ⟨"java/lang/RuntimeException", "<init>", "(Ljava/lang/String;)V"⟩, Cond.declares ⟨"java/lang/Exception", "<init>", "(Ljava/lang/String;)V"⟩, Cond.declares ⟨"java/lang/Throwable", "<init>", "(Ljava/lang/String;)V"⟩, Cond.castable "java/lang/IllegalStateException" "java/lang/IllegalStateException"]) (names := ["java/lang/RuntimeException", "java/lang/Exception"]) hC hX hl9 rfl (by decide +kernel) (by decide +kernel) rfl xm_548 xm_11 (xk_note23 hC) xw_1a xw_1b (vx_c (va_Nw.use rfl (xk_note2 hC)) (vx_c (va_Nw.use rfl (xk_note3 hC)) (vx_c (va_Nw.use rfl (xk_note4 hC)) (vx_c (va_Nw.use rfl (xk_note20 hC)) vx_n)))) xw_1c dX4_theme_30 dX4_theme_33 dX4_theme_34 dX4_theme_36 dX4_theme_39 (Nat.le_of_ble_eq_true rfl) (Nat.le_of_ble_eq_true rfl) (Nat.le_of_ble_eq_true rfl) (Nat.le_of_ble_eq_true rfl) (Nat.le_of_ble_eq_true rfl) (Nat.le_of_ble_eq_true rfl)
    · replace hf := (if_neg c3).symm.trans hf
      refine xk_locals [] rfl ?_
      exact te_X4_theme_12 hC hr hX hl9 w hf
theorem ce_X4_theme {l : Launch} (hl9 : l.stackTraces = false) {E : xEv} {x0 : Option Nat} {x1 : Int32} {w : xWd} {q : Nat × xWd} (hf : e_X4_theme x0 x1 w = some q) : xk_MX l xy_X4_theme prog_1_method_3_code 2 (some .int) 6 92 1 6 E [va_rf (x0), .int (x1)] w q := by
  refine xk_enterX (by decide +kernel) (by simp [lg_sl, xk_cat1, xk_cati, xk_catl, xk_catd]) ?_
  intro p e s m args below meth c hC hr hX ha
  rw [show lv_args 0 [va_rf (x0), .int (x1)] = [(0, va_rf (x0)), (1, .int (x1))] by simp [lv_args, xk_cat1, xk_cati, xk_catl, xk_catd]]
  exact te_X4_theme_0 hC hr hX hl9 x0 x1 w hf
def f_X4_refuseBadCut_30 (w : xWd) : Option xWd := none
set_option maxHeartbeats 4000000 in
set_option maxRecDepth 100000 in
theorem t_X4_refuseBadCut_30 {p : Program} {l : Launch} {e : Env} {s : State} {m : MethodId} {args : Array Value} {below : List Frame} {meth : Method} {c : Code} {E : xEv} (hC : xk_C p s m args meth c E prog_1_method_6_code "Clickbook" 3) (hr : meth.sig.returnType = none) {q : xWd} (w : xWd) (hf : f_X4_refuseBadCut_30 w = some q) : xk_X p l e { frames := 0, cells := 0, slots := 0, locals := 0 } s m args below meth c (MQ below (xk_Qv E q) args s 0 0 (xk_A E.2.2.1)) E 3 0 0 30 [] [] w := by
  cases hf
def f_X4_refuseBadCut_65 (w : xWd) : Option xWd := none
set_option maxHeartbeats 4000000 in
set_option maxRecDepth 100000 in
theorem t_X4_refuseBadCut_65 {p : Program} {l : Launch} {e : Env} {s : State} {m : MethodId} {args : Array Value} {below : List Frame} {meth : Method} {c : Code} {E : xEv} (hC : xk_C p s m args meth c E prog_1_method_6_code "Clickbook" 3) (hr : meth.sig.returnType = none) {q : xWd} (w : xWd) (hf : f_X4_refuseBadCut_65 w = some q) : xk_X p l e { frames := 0, cells := 0, slots := 0, locals := 0 } s m args below meth c (MQ below (xk_Qv E q) args s 0 0 (xk_A E.2.2.1)) E 3 0 0 65 [] [] w := by
  cases hf
def f_X4_refuseBadCut_75 (w : xWd) : Option xWd := some w
set_option maxHeartbeats 4000000 in
set_option maxRecDepth 100000 in
theorem t_X4_refuseBadCut_75 {p : Program} {l : Launch} {e : Env} {s : State} {m : MethodId} {args : Array Value} {below : List Frame} {meth : Method} {c : Code} {E : xEv} (hC : xk_C p s m args meth c E prog_1_method_6_code "Clickbook" 3) (hr : meth.sig.returnType = none) {q : xWd} (w : xWd) (hf : f_X4_refuseBadCut_75 w = some q) : xk_X p l e { frames := 0, cells := 0, slots := 0, locals := 0 } s m args below meth c (MQ below (xk_Qv E q) args s 0 0 (xk_A E.2.2.1)) E 3 0 0 75 [] [] w := by
  cases hf
  refine xk_widen (k := 0) (n := 0) (Nat.le_of_ble_eq_true rfl) (Nat.le_of_ble_eq_true rfl) ?_
  exact xk_vret hC hr dX4_refuseBadCut_75
def f_X4_refuseBadCut (x0 : Option Nat) (x1 : Int32) (x2 : Int32) (w : xWd) : Option xWd := if (x1) < ((0 : Int32)) then f_X4_refuseBadCut_30 w else (xk_gI w (x0) 0 5).bind (fun v2 => if (v2) < (x1) then f_X4_refuseBadCut_30 w else if (x2) = ((0 : Int32)) then f_X4_refuseBadCut_30 w else if (x2) < ((-999 : Int32)) then f_X4_refuseBadCut_30 w else if (x2) ≤ ((999 : Int32)) then if ((0 : Int32)) ≤ (x2) then f_X4_refuseBadCut_75 w else (xk_gI w (x0) 0 5).bind (fun v8 => if (v8) < ((x1) - (x2)) then f_X4_refuseBadCut_65 w else (xk_gI w (x0) 0 5).bind (fun v10 => if ((24 : Int32)) ≤ ((v10) + (x2)) then f_X4_refuseBadCut_75 w else f_X4_refuseBadCut_65 w)) else f_X4_refuseBadCut_30 w)
set_option maxHeartbeats 4000000 in
set_option maxRecDepth 100000 in
theorem t_X4_refuseBadCut_0 {p : Program} {l : Launch} {e : Env} {s : State} {m : MethodId} {args : Array Value} {below : List Frame} {meth : Method} {c : Code} {E : xEv} (hC : xk_C p s m args meth c E prog_1_method_6_code "Clickbook" 3) (hr : meth.sig.returnType = none) {q : xWd} (x0 : Option Nat) (x1 : Int32) (x2 : Int32) (w : xWd) (hf : f_X4_refuseBadCut x0 x1 x2 w = some q) : xk_X p l e { frames := 0, cells := 0, slots := 0, locals := 0 } s m args below meth c (MQ below (xk_Qv E q) args s 0 0 (xk_A E.2.2.1)) E 3 0 0 0 [(0, va_rf (x0)), (1, .int (x1)), (2, .int (x2))] [] w := by
  refine xk_iload_n hC dX4_refuseBadCut_0 1 rfl rfl ?_
  refine xk_if_lt (tgt := 30) hC dX4_refuseBadCut_1 (by decide) (fun c1 => ?_) (fun c1 => ?_)
  · replace hf := (if_pos c1).symm.trans hf
    refine xk_locals [] rfl ?_
    exact t_X4_refuseBadCut_30 hC hr w hf
  · replace hf := (if_neg c1).symm.trans hf
    refine xk_iload_n hC dX4_refuseBadCut_4 1 rfl rfl ?_
    refine xk_aload_n hC dX4_refuseBadCut_5 0 rfl rfl ?_
    obtain ⟨v2, h2, hf⟩ := xk_bi hf
    refine xk_getI hC xi_0 xc_0 5 (by decide) xm_90 (Or.inl rfl) dX4_refuseBadCut_6 h2 ?_
    refine xk_icmp_gt (tgt := 30) hC dX4_refuseBadCut_9 (by decide) (fun c3 => ?_) (fun c3 => ?_)
    · replace hf := (if_pos c3).symm.trans hf
      refine xk_locals [] rfl ?_
      exact t_X4_refuseBadCut_30 hC hr w hf
    · replace hf := (if_neg c3).symm.trans hf
      refine xk_iload_n hC dX4_refuseBadCut_12 2 rfl rfl ?_
      refine xk_if_eq (tgt := 30) hC dX4_refuseBadCut_13 (by decide) (fun c4 => ?_) (fun c4 => ?_)
      · replace hf := (if_pos c4).symm.trans hf
        refine xk_locals [] rfl ?_
        exact t_X4_refuseBadCut_30 hC hr w hf
      · replace hf := (if_neg c4).symm.trans hf
        refine xk_iload_n hC dX4_refuseBadCut_16 2 rfl rfl ?_
        refine xk_sipush (v := (-999 : Int32)) hC dX4_refuseBadCut_17 (by decide) ?_
        refine xk_icmp_lt (tgt := 30) hC dX4_refuseBadCut_20 (by decide) (fun c5 => ?_) (fun c5 => ?_)
        · replace hf := (if_pos c5).symm.trans hf
          refine xk_locals [] rfl ?_
          exact t_X4_refuseBadCut_30 hC hr w hf
        · replace hf := (if_neg c5).symm.trans hf
          refine xk_iload_n hC dX4_refuseBadCut_23 2 rfl rfl ?_
          refine xk_sipush (v := (999 : Int32)) hC dX4_refuseBadCut_24 (by decide) ?_
          refine xk_icmp_le (tgt := 40) hC dX4_refuseBadCut_27 (by decide) (fun c6 => ?_) (fun c6 => ?_)
          · replace hf := (if_pos c6).symm.trans hf
            refine xk_iload_n hC dX4_refuseBadCut_40 2 rfl rfl ?_
            refine xk_if_ge (tgt := 75) hC dX4_refuseBadCut_41 (by decide) (fun c7 => ?_) (fun c7 => ?_)
            · replace hf := (if_pos c7).symm.trans hf
              refine xk_locals [] rfl ?_
              exact t_X4_refuseBadCut_75 hC hr w hf
            · replace hf := (if_neg c7).symm.trans hf
              refine xk_iload_n hC dX4_refuseBadCut_44 1 rfl rfl ?_
              refine xk_iload_n hC dX4_refuseBadCut_45 2 rfl rfl ?_
              refine xk_isub hC dX4_refuseBadCut_46 ?_
              refine xk_aload_n hC dX4_refuseBadCut_47 0 rfl rfl ?_
              obtain ⟨v8, h8, hf⟩ := xk_bi hf
              refine xk_getI hC xi_0 xc_0 5 (by decide) xm_90 (Or.inl rfl) dX4_refuseBadCut_48 h8 ?_
              refine xk_icmp_gt (tgt := 65) hC dX4_refuseBadCut_51 (by decide) (fun c9 => ?_) (fun c9 => ?_)
              · replace hf := (if_pos c9).symm.trans hf
                refine xk_locals [] rfl ?_
                exact t_X4_refuseBadCut_65 hC hr w hf
              · replace hf := (if_neg c9).symm.trans hf
                refine xk_aload_n hC dX4_refuseBadCut_54 0 rfl rfl ?_
                obtain ⟨v10, h10, hf⟩ := xk_bi hf
                refine xk_getI hC xi_0 xc_0 5 (by decide) xm_90 (Or.inl rfl) dX4_refuseBadCut_55 h10 ?_
                refine xk_iload_n hC dX4_refuseBadCut_58 2 rfl rfl ?_
                refine xk_iadd hC dX4_refuseBadCut_59 ?_
                refine xk_bipush (v := (24 : Int32)) hC dX4_refuseBadCut_60 (by decide) ?_
                refine xk_icmp_ge (tgt := 75) hC dX4_refuseBadCut_62 (by decide) (fun c11 => ?_) (fun c11 => ?_)
                · replace hf := (if_pos c11).symm.trans hf
                  refine xk_locals [] rfl ?_
                  exact t_X4_refuseBadCut_75 hC hr w hf
                · replace hf := (if_neg c11).symm.trans hf
                  refine xk_locals [] rfl ?_
                  exact t_X4_refuseBadCut_65 hC hr w hf
          · replace hf := (if_neg c6).symm.trans hf
            refine xk_locals [] rfl ?_
            exact t_X4_refuseBadCut_30 hC hr w hf
theorem xd_X4_refuseBadCut : xy_X4_refuseBadCut.cls ≠ "java/lang/invoke/MethodHandle" ∧ xy_X4_refuseBadCut.cls ≠ "java/lang/invoke/VarHandle" ∧ (parseMethodDescriptor xy_X4_refuseBadCut.desc).map (fun d => d.parameters.length) = some 2 := ⟨by decide +kernel, by decide +kernel, by decide +kernel⟩
theorem c_X4_refuseBadCut {l : Launch} {E : xEv} {x0 : Option Nat} {x1 : Int32} {x2 : Int32} {w : xWd} {q : xWd} (hf : f_X4_refuseBadCut x0 x1 x2 w = some q) : xk_M l xy_X4_refuseBadCut prog_1_method_6_code 3 none 0 0 0 0 E [va_rf (x0), .int (x1), .int (x2)] w (xk_Qv E q) := by
  refine xk_enter (by decide +kernel) (by simp [lg_sl, xk_cat1, xk_cati, xk_catl, xk_catd]) ?_
  intro p e s m args below meth c hC hr hin ha
  rw [show lv_args 0 [va_rf (x0), .int (x1), .int (x2)] = [(0, va_rf (x0)), (1, .int (x1)), (2, .int (x2))] by simp [lv_args, xk_cat1, xk_cati, xk_catl, xk_catd]]
  exact t_X4_refuseBadCut_0 hC hr x0 x1 x2 w hf
def f_X4_cutCues (x0 : Option Nat) (x1 : Int32) (x2 : Int32) (w : xWd) : Option (Int32 × xWd) := (xk_gR w (x0) 0 3).bind (fun v1 => (xk_is w (v1) 4).bind (fun u3 => (f_Jx4a65c_size_8abf5 (v1)  w).bind (fun q2 => if (q2.1) ≤ ((0 : Int32)) then some ((0 : Int32), q2.2) else (xk_gR q2.2 (x0) 0 3).bind (fun v5 => none))))
set_option maxHeartbeats 4000000 in
set_option maxRecDepth 100000 in
theorem t_X4_cutCues_0 {p : Program} {l : Launch} {e : Env} {s : State} {m : MethodId} {args : Array Value} {below : List Frame} {meth : Method} {c : Code} {E : xEv} (hC : xk_C p s m args meth c E prog_1_method_5_code "Clickbook" 6) (hr : meth.sig.returnType = (some .int)) {q : (Int32 × xWd)} (x0 : Option Nat) (x1 : Int32) (x2 : Int32) (w : xWd) (hf : f_X4_cutCues x0 x1 x2 w = some q) : xk_X p l e { frames := 1, cells := 0, slots := 0, locals := 20 } s m args below meth c (MQ below (xk_Qi E q) args s 0 0 (xk_A E.2.2.1)) E 6 0 0 0 [(0, va_rf (x0)), (1, .int (x1)), (2, .int (x2))] [] w := by
  refine xk_iconst (v := (0 : Int32)) hC dX4_cutCues_0 (by decide) ?_
  refine xk_istore_n (i := 3) (lv' := [(3, .int ((0 : Int32))), (0, va_rf (x0)), (1, .int (x1)), (2, .int (x2))]) hC dX4_cutCues_1 rfl (by decide) rfl ?_
  refine xk_iconst (v := (0 : Int32)) hC dX4_cutCues_2 (by decide) ?_
  refine xk_istore (i := 4) (lv' := [(4, .int ((0 : Int32))), (3, .int ((0 : Int32))), (0, va_rf (x0)), (1, .int (x1)), (2, .int (x2))]) hC dX4_cutCues_3 (by decide) rfl ?_
  refine xk_iload hC dX4_cutCues_5 0 rfl ?_
  refine xk_aload_n hC dX4_cutCues_7 2 rfl rfl ?_
  obtain ⟨v1, h1, hf⟩ := xk_bi hf
  refine xk_getR hC xi_0 xc_0 3 (by decide) xm_88 (Or.inl rfl) dX4_cutCues_8 h1 ?_
  obtain ⟨u3, h3, hf⟩ := xk_bi hf
  obtain ⟨q2, h2, hf⟩ := xk_bi hf
  refine xk_backi (xk_callV hC 0 xc_4 (c_Jx4a65c_size_8abf5 h2) h3 xm_130 xm_131 xm_132 xm_4 xm_133 ⟨rfl, xd_Jx4a65c_size_8abf5⟩ rfl ⟨Nat.le_of_ble_eq_true rfl, Nat.le_of_ble_eq_true rfl⟩ rfl (Nat.le_of_ble_eq_true rfl) dX4_cutCues_11 ⟨(Nat.le_of_ble_eq_true rfl), (Nat.le_of_ble_eq_true rfl)⟩) ?_
  refine xk_icmp_ge (tgt := 76) hC dX4_cutCues_14 (by decide) (fun c4 => ?_) (fun c4 => ?_)
  · replace hf := (if_pos c4).symm.trans hf
    refine xk_iload_n hC dX4_cutCues_76 1 rfl rfl ?_
    cases hf
    refine xk_widen (k := 0) (n := 0) (Nat.le_of_ble_eq_true rfl) (Nat.le_of_ble_eq_true rfl) ?_
    exact xk_iret hC hr rfl dX4_cutCues_77
  · replace hf := (if_neg c4).symm.trans hf
    refine xk_aload_n hC dX4_cutCues_17 2 rfl rfl ?_
    obtain ⟨v5, h5, hf⟩ := xk_bi hf
    refine xk_getR hC xi_0 xc_0 3 (by decide) xm_88 (Or.inl rfl) dX4_cutCues_18 h5 ?_
    refine xk_iload hC dX4_cutCues_21 0 rfl ?_
    cases hf
theorem xd_X4_cutCues : xy_X4_cutCues.cls ≠ "java/lang/invoke/MethodHandle" ∧ xy_X4_cutCues.cls ≠ "java/lang/invoke/VarHandle" ∧ (parseMethodDescriptor xy_X4_cutCues.desc).map (fun d => d.parameters.length) = some 2 := ⟨by decide +kernel, by decide +kernel, by decide +kernel⟩
theorem c_X4_cutCues {l : Launch} {E : xEv} {x0 : Option Nat} {x1 : Int32} {x2 : Int32} {w : xWd} {q : (Int32 × xWd)} (hf : f_X4_cutCues x0 x1 x2 w = some q) : xk_M l xy_X4_cutCues prog_1_method_5_code 6 (some .int) 1 20 0 0 E [va_rf (x0), .int (x1), .int (x2)] w (xk_Qi E q) := by
  refine xk_enter (by decide +kernel) (by simp [lg_sl, xk_cat1, xk_cati, xk_catl, xk_catd]) ?_
  intro p e s m args below meth c hC hr hin ha
  rw [show lv_args 0 [va_rf (x0), .int (x1), .int (x2)] = [(0, va_rf (x0)), (1, .int (x1)), (2, .int (x2))] by simp [lv_args, xk_cat1, xk_cati, xk_catl, xk_catd]]
  exact t_X4_cutCues_0 hC hr x0 x1 x2 w hf
def f_X4_isTakenOut_21 (s0 : Int32) (w : xWd) : Option (Int32 × xWd) := (xk_zb (s0)).bind (fun u1 => some (s0, w))
set_option maxHeartbeats 4000000 in
set_option maxRecDepth 100000 in
theorem t_X4_isTakenOut_21 {p : Program} {l : Launch} {e : Env} {s : State} {m : MethodId} {args : Array Value} {below : List Frame} {meth : Method} {c : Code} {E : xEv} (hC : xk_C p s m args meth c E prog_1_method_7_code "Clickbook" 3) (hr : meth.sig.returnType = (some .boolean)) {q : (Int32 × xWd)} (s0 : Int32) (w : xWd) (hf : f_X4_isTakenOut_21 s0 w = some q) : xk_X p l e { frames := 0, cells := 0, slots := 0, locals := 0 } s m args below meth c (MQ below (xk_Qi E q) args s 0 0 (xk_A E.2.2.1)) E 3 0 0 21 [] [.int (s0)] w := by
  obtain ⟨u1, h1, hf⟩ := xk_bi hf
  cases hf
  refine xk_widen (k := 0) (n := 0) (Nat.le_of_ble_eq_true rfl) (Nat.le_of_ble_eq_true rfl) ?_
  exact xk_iret hC hr (xk_zb_e h1) dX4_isTakenOut_21
def f_X4_isTakenOut_20 (w : xWd) : Option (Int32 × xWd) := f_X4_isTakenOut_21 ((0 : Int32)) w
set_option maxHeartbeats 4000000 in
set_option maxRecDepth 100000 in
theorem t_X4_isTakenOut_20 {p : Program} {l : Launch} {e : Env} {s : State} {m : MethodId} {args : Array Value} {below : List Frame} {meth : Method} {c : Code} {E : xEv} (hC : xk_C p s m args meth c E prog_1_method_7_code "Clickbook" 3) (hr : meth.sig.returnType = (some .boolean)) {q : (Int32 × xWd)} (w : xWd) (hf : f_X4_isTakenOut_20 w = some q) : xk_X p l e { frames := 0, cells := 0, slots := 0, locals := 0 } s m args below meth c (MQ below (xk_Qi E q) args s 0 0 (xk_A E.2.2.1)) E 3 0 0 20 [] [] w := by
  refine xk_iconst (v := (0 : Int32)) hC dX4_isTakenOut_20 (by decide) ?_
  exact t_X4_isTakenOut_21 hC hr ((0 : Int32)) w hf
def f_X4_isTakenOut (x0 : Int32) (x1 : Int32) (x2 : Int32) (w : xWd) : Option (Int32 × xWd) := if ((0 : Int32)) ≤ (x2) then f_X4_isTakenOut_20 w else if (x0) < (x1) then f_X4_isTakenOut_20 w else if ((x1) - (x2)) ≤ (x0) then f_X4_isTakenOut_20 w else f_X4_isTakenOut_21 ((1 : Int32)) w
set_option maxHeartbeats 4000000 in
set_option maxRecDepth 100000 in
theorem t_X4_isTakenOut_0 {p : Program} {l : Launch} {e : Env} {s : State} {m : MethodId} {args : Array Value} {below : List Frame} {meth : Method} {c : Code} {E : xEv} (hC : xk_C p s m args meth c E prog_1_method_7_code "Clickbook" 3) (hr : meth.sig.returnType = (some .boolean)) {q : (Int32 × xWd)} (x0 : Int32) (x1 : Int32) (x2 : Int32) (w : xWd) (hf : f_X4_isTakenOut x0 x1 x2 w = some q) : xk_X p l e { frames := 0, cells := 0, slots := 0, locals := 0 } s m args below meth c (MQ below (xk_Qi E q) args s 0 0 (xk_A E.2.2.1)) E 3 0 0 0 [(0, .int (x0)), (1, .int (x1)), (2, .int (x2))] [] w := by
  refine xk_iload_n hC dX4_isTakenOut_0 2 rfl rfl ?_
  refine xk_if_ge (tgt := 20) hC dX4_isTakenOut_1 (by decide) (fun c1 => ?_) (fun c1 => ?_)
  · replace hf := (if_pos c1).symm.trans hf
    refine xk_locals [] rfl ?_
    exact t_X4_isTakenOut_20 hC hr w hf
  · replace hf := (if_neg c1).symm.trans hf
    refine xk_iload_n hC dX4_isTakenOut_4 0 rfl rfl ?_
    refine xk_iload_n hC dX4_isTakenOut_5 1 rfl rfl ?_
    refine xk_icmp_lt (tgt := 20) hC dX4_isTakenOut_6 (by decide) (fun c2 => ?_) (fun c2 => ?_)
    · replace hf := (if_pos c2).symm.trans hf
      refine xk_locals [] rfl ?_
      exact t_X4_isTakenOut_20 hC hr w hf
    · replace hf := (if_neg c2).symm.trans hf
      refine xk_iload_n hC dX4_isTakenOut_9 0 rfl rfl ?_
      refine xk_iload_n hC dX4_isTakenOut_10 1 rfl rfl ?_
      refine xk_iload_n hC dX4_isTakenOut_11 2 rfl rfl ?_
      refine xk_isub hC dX4_isTakenOut_12 ?_
      refine xk_icmp_ge (tgt := 20) hC dX4_isTakenOut_13 (by decide) (fun c3 => ?_) (fun c3 => ?_)
      · replace hf := (if_pos c3).symm.trans hf
        refine xk_locals [] rfl ?_
        exact t_X4_isTakenOut_20 hC hr w hf
      · replace hf := (if_neg c3).symm.trans hf
        refine xk_iconst (v := (1 : Int32)) hC dX4_isTakenOut_16 (by decide) ?_
        refine xk_goto (tgt := 21) hC dX4_isTakenOut_17 (by decide) ?_
        refine xk_locals [] rfl ?_
        exact t_X4_isTakenOut_21 hC hr ((1 : Int32)) w hf
theorem xd_X4_isTakenOut : xy_X4_isTakenOut.cls ≠ "java/lang/invoke/MethodHandle" ∧ xy_X4_isTakenOut.cls ≠ "java/lang/invoke/VarHandle" ∧ (parseMethodDescriptor xy_X4_isTakenOut.desc).map (fun d => d.parameters.length) = some 3 := ⟨by decide +kernel, by decide +kernel, by decide +kernel⟩
theorem c_X4_isTakenOut {l : Launch} {E : xEv} {x0 : Int32} {x1 : Int32} {x2 : Int32} {w : xWd} {q : (Int32 × xWd)} (hf : f_X4_isTakenOut x0 x1 x2 w = some q) : xk_M l xy_X4_isTakenOut prog_1_method_7_code 3 (some .boolean) 0 0 0 0 E [.int (x0), .int (x1), .int (x2)] w (xk_Qi E q) := by
  refine xk_enter (by decide +kernel) (by simp [lg_sl, xk_cat1, xk_cati, xk_catl, xk_catd]) ?_
  intro p e s m args below meth c hC hr hin ha
  rw [show lv_args 0 [.int (x0), .int (x1), .int (x2)] = [(0, .int (x0)), (1, .int (x1)), (2, .int (x2))] by simp [lv_args, xk_cat1, xk_cati, xk_catl, xk_catd]]
  exact t_X4_isTakenOut_0 hC hr x0 x1 x2 w hf
def f_X4_movedFrame_23 (s0 : Int32) (w : xWd) : Option (Int32 × xWd) := some (s0, w)
set_option maxHeartbeats 4000000 in
set_option maxRecDepth 100000 in
theorem t_X4_movedFrame_23 {p : Program} {l : Launch} {e : Env} {s : State} {m : MethodId} {args : Array Value} {below : List Frame} {meth : Method} {c : Code} {E : xEv} (hC : xk_C p s m args meth c E prog_1_method_8_code "Clickbook" 3) (hr : meth.sig.returnType = (some .int)) {q : (Int32 × xWd)} (s0 : Int32) (w : xWd) (hf : f_X4_movedFrame_23 s0 w = some q) : xk_X p l e { frames := 1, cells := 0, slots := 0, locals := 22 } s m args below meth c (MQ below (xk_Qi E q) args s 0 0 (xk_A E.2.2.1)) E 3 0 0 23 [] [.int (s0)] w := by
  cases hf
  refine xk_widen (k := 0) (n := 0) (Nat.le_of_ble_eq_true rfl) (Nat.le_of_ble_eq_true rfl) ?_
  exact xk_iret hC hr rfl dX4_movedFrame_23
def f_X4_movedFrame (x0 : Int32) (x1 : Int32) (x2 : Int32) (w : xWd) : Option (Int32 × xWd) := if (x1) ≤ (x0) then (f_X4_isTakenOut (x0) (x1) (x2) w).bind (fun q2 => if (q2.1) = ((0 : Int32)) then f_X4_movedFrame_23 ((x0) + (x2)) (q2.2) else f_X4_movedFrame_23 x1 (q2.2)) else some (x0, w)
set_option maxHeartbeats 4000000 in
set_option maxRecDepth 100000 in
theorem t_X4_movedFrame_0 {p : Program} {l : Launch} {e : Env} {s : State} {m : MethodId} {args : Array Value} {below : List Frame} {meth : Method} {c : Code} {E : xEv} (hC : xk_C p s m args meth c E prog_1_method_8_code "Clickbook" 3) (hr : meth.sig.returnType = (some .int)) {q : (Int32 × xWd)} (x0 : Int32) (x1 : Int32) (x2 : Int32) (w : xWd) (hf : f_X4_movedFrame x0 x1 x2 w = some q) : xk_X p l e { frames := 1, cells := 0, slots := 0, locals := 22 } s m args below meth c (MQ below (xk_Qi E q) args s 0 0 (xk_A E.2.2.1)) E 3 0 0 0 [(0, .int (x0)), (1, .int (x1)), (2, .int (x2))] [] w := by
  refine xk_iload_n hC dX4_movedFrame_0 0 rfl rfl ?_
  refine xk_iload_n hC dX4_movedFrame_1 1 rfl rfl ?_
  refine xk_icmp_ge (tgt := 7) hC dX4_movedFrame_2 (by decide) (fun c1 => ?_) (fun c1 => ?_)
  · replace hf := (if_pos c1).symm.trans hf
    refine xk_iload_n hC dX4_movedFrame_7 0 rfl rfl ?_
    refine xk_iload_n hC dX4_movedFrame_8 1 rfl rfl ?_
    refine xk_iload_n hC dX4_movedFrame_9 2 rfl rfl ?_
    obtain ⟨q2, h2, hf⟩ := xk_bi hf
    refine xk_backi (xk_callS hC 3 (c_X4_isTakenOut h2) xm_512 xm_513 xm_1 xm_514 xd_X4_isTakenOut rfl ⟨Nat.le_of_ble_eq_true rfl, Nat.le_of_ble_eq_true rfl⟩ rfl (Nat.le_of_ble_eq_true rfl) dX4_movedFrame_10 ⟨(Nat.le_of_ble_eq_true rfl), (Nat.le_of_ble_eq_true rfl)⟩) ?_
    refine xk_if_eq (tgt := 20) hC dX4_movedFrame_13 (by decide) (fun c3 => ?_) (fun c3 => ?_)
    · replace hf := (if_pos c3).symm.trans hf
      refine xk_iload_n hC dX4_movedFrame_20 0 rfl rfl ?_
      refine xk_iload_n hC dX4_movedFrame_21 2 rfl rfl ?_
      refine xk_iadd hC dX4_movedFrame_22 ?_
      refine xk_locals [] rfl ?_
      exact t_X4_movedFrame_23 hC hr ((x0) + (x2)) (q2.2) hf
    · replace hf := (if_neg c3).symm.trans hf
      refine xk_iload_n hC dX4_movedFrame_16 1 rfl rfl ?_
      refine xk_goto (tgt := 23) hC dX4_movedFrame_17 (by decide) ?_
      refine xk_locals [] rfl ?_
      exact t_X4_movedFrame_23 hC hr x1 (q2.2) hf
  · replace hf := (if_neg c1).symm.trans hf
    refine xk_iload_n hC dX4_movedFrame_5 0 rfl rfl ?_
    cases hf
    refine xk_widen (k := 0) (n := 0) (Nat.le_of_ble_eq_true rfl) (Nat.le_of_ble_eq_true rfl) ?_
    exact xk_iret hC hr rfl dX4_movedFrame_6
theorem xd_X4_movedFrame : xy_X4_movedFrame.cls ≠ "java/lang/invoke/MethodHandle" ∧ xy_X4_movedFrame.cls ≠ "java/lang/invoke/VarHandle" ∧ (parseMethodDescriptor xy_X4_movedFrame.desc).map (fun d => d.parameters.length) = some 3 := ⟨by decide +kernel, by decide +kernel, by decide +kernel⟩
theorem c_X4_movedFrame {l : Launch} {E : xEv} {x0 : Int32} {x1 : Int32} {x2 : Int32} {w : xWd} {q : (Int32 × xWd)} (hf : f_X4_movedFrame x0 x1 x2 w = some q) : xk_M l xy_X4_movedFrame prog_1_method_8_code 3 (some .int) 1 22 0 0 E [.int (x0), .int (x1), .int (x2)] w (xk_Qi E q) := by
  refine xk_enter (by decide +kernel) (by simp [lg_sl, xk_cat1, xk_cati, xk_catl, xk_catd]) ?_
  intro p e s m args below meth c hC hr hin ha
  rw [show lv_args 0 [.int (x0), .int (x1), .int (x2)] = [(0, .int (x0)), (1, .int (x1)), (2, .int (x2))] by simp [lv_args, xk_cat1, xk_cati, xk_catl, xk_catd]]
  exact t_X4_movedFrame_0 hC hr x0 x1 x2 w hf
def f_X4_change_73 : Nat → Option Nat → Int32 → Int32 → Int32 → Int32 → xWd → Option (Int32 × xWd)
  | 0, _, _, _, _, _, _ => none
  | n + 1, x0, x1, x2, x3, x4, w => (xk_gI w (x0) 0 2).bind (fun v1 => if (v1) ≤ (x4) then (xk_gI w (x0) 0 5).bind (fun v3 => (xk_pV w (x0) 0 5 (.int ((v3) + (x2)))).bind (fun w4 => (xk_gI w4 (x0) 0 6).bind (fun v5 => (xk_pV w4 (x0) 0 6 (.int ((v5) + ((1 : Int32))))).bind (fun w6 => some (x3, w6))))) else (xk_gR w (x0) 0 1).bind (fun v7 => (xk_gR w (x0) 0 1).bind (fun v8 => (xk_lI 0 w (v8) (x4)).bind (fun v9 => (f_X4_movedFrame (v9) (x1) (x2) w).bind (fun q10 => (xk_sI 0 q10.2 (v7) (x4) (q10.1)).bind (fun w11 => f_X4_change_73 n x0 x1 x2 x3 (x4 + (1 : Int32)) w11))))))
set_option maxHeartbeats 4000000 in
set_option maxRecDepth 100000 in
theorem t_X4_change_73 {p : Program} {l : Launch} {e : Env} {s : State} {m : MethodId} {args : Array Value} {below : List Frame} {meth : Method} {c : Code} {E : xEv} (hC : xk_C p s m args meth c E prog_1_method_4_code "Clickbook" 5) (hr : meth.sig.returnType = (some .int)) {q : (Int32 × xWd)} : ∀ (n : Nat) (x0 : Option Nat) (x1 : Int32) (x2 : Int32) (x3 : Int32) (x4 : Int32) (w : xWd), f_X4_change_73 n x0 x1 x2 x3 x4 w = some q → xk_X p l e { frames := 2, cells := 0, slots := 0, locals := 45 } s m args below meth c (MQ below (xk_Qi E q) args s 0 0 (xk_A E.2.2.1)) E 5 0 0 73 [(0, va_rf (x0)), (1, .int (x1)), (2, .int (x2)), (3, .int (x3)), (4, .int (x4))] [] w := by
  intro n
  induction n with
  | zero => intro x0 x1 x2 x3 x4 w hf; have hf : none = some q := hf; cases hf
  | succ n ih =>
    intro x0 x1 x2 x3 x4 w hf
    refine xk_iload hC dX4_change_73 4 rfl ?_
    refine xk_aload_n hC dX4_change_75 0 rfl rfl ?_
    obtain ⟨v1, h1, hf⟩ := xk_bi hf
    refine xk_getI hC xi_0 xc_0 2 (by decide) xm_87 (Or.inl rfl) dX4_change_76 h1 ?_
    refine xk_icmp_ge (tgt := 107) hC dX4_change_79 (by decide) (fun c2 => ?_) (fun c2 => ?_)
    · replace hf := (if_pos c2).symm.trans hf
      refine xk_aload_n hC dX4_change_107 0 rfl rfl ?_
      refine xk_dup hC dX4_change_108 (xk_cat1 _) ?_
      obtain ⟨v3, h3, hf⟩ := xk_bi hf
      refine xk_getI hC xi_0 xc_0 5 (by decide) xm_90 (Or.inl rfl) dX4_change_109 h3 ?_
      refine xk_iload_n hC dX4_change_112 2 rfl rfl ?_
      refine xk_iadd hC dX4_change_113 ?_
      obtain ⟨w4, h4, hf⟩ := xk_bi hf
      refine xk_put hC xi_0 xc_0 xo_0 xn_0 5 (by decide) xm_90 (Or.inl rfl) rfl rfl rfl dX4_change_114 h4 ?_
      refine xk_aload_n hC dX4_change_117 0 rfl rfl ?_
      refine xk_dup hC dX4_change_118 (xk_cat1 _) ?_
      obtain ⟨v5, h5, hf⟩ := xk_bi hf
      refine xk_getI hC xi_0 xc_0 6 (by decide) xm_91 (Or.inl rfl) dX4_change_119 h5 ?_
      refine xk_iconst (v := (1 : Int32)) hC dX4_change_122 (by decide) ?_
      refine xk_iadd hC dX4_change_123 ?_
      obtain ⟨w6, h6, hf⟩ := xk_bi hf
      refine xk_put hC xi_0 xc_0 xo_0 xn_0 6 (by decide) xm_91 (Or.inl rfl) rfl rfl rfl dX4_change_124 h6 ?_
      refine xk_iload_n hC dX4_change_127 3 rfl rfl ?_
      cases hf
      refine xk_widen (k := 0) (n := 0) (Nat.le_of_ble_eq_true rfl) (Nat.le_of_ble_eq_true rfl) ?_
      exact xk_iret hC hr rfl dX4_change_128
    · replace hf := (if_neg c2).symm.trans hf
      refine xk_aload_n hC dX4_change_82 0 rfl rfl ?_
      obtain ⟨v7, h7, hf⟩ := xk_bi hf
      refine xk_getR hC xi_0 xc_0 1 (by decide) xm_86 (Or.inl rfl) dX4_change_83 h7 ?_
      refine xk_iload hC dX4_change_86 4 rfl ?_
      refine xk_aload_n hC dX4_change_88 0 rfl rfl ?_
      obtain ⟨v8, h8, hf⟩ := xk_bi hf
      refine xk_getR hC xi_0 xc_0 1 (by decide) xm_86 (Or.inl rfl) dX4_change_89 h8 ?_
      refine xk_iload hC dX4_change_92 4 rfl ?_
      obtain ⟨v9, h9, hf⟩ := xk_bi hf
      refine xk_iald hC rfl dX4_change_94 h9 ?_
      refine xk_iload_n hC dX4_change_95 1 rfl rfl ?_
      refine xk_iload_n hC dX4_change_96 2 rfl rfl ?_
      obtain ⟨q10, h10, hf⟩ := xk_bi hf
      refine xk_backi (xk_callS hC 3 (c_X4_movedFrame h10) xm_519 xm_520 xm_1 xm_521 xd_X4_movedFrame rfl ⟨Nat.le_of_ble_eq_true rfl, Nat.le_of_ble_eq_true rfl⟩ rfl (by simp [xk_cat1, xk_cati, xk_catl, xk_catd]) dX4_change_97 ⟨(Nat.le_of_ble_eq_true rfl), (Nat.le_of_ble_eq_true rfl)⟩) ?_
      obtain ⟨w11, h11, hf⟩ := xk_bi hf
      refine xk_iast hC rfl dX4_change_100 h11 ?_
      refine xk_iinc (v := x4 + (1 : Int32)) (lv' := [(4, .int (x4 + (1 : Int32))), (0, va_rf (x0)), (1, .int (x1)), (2, .int (x2)), (3, .int (x3))]) hC dX4_change_101 4 rfl rfl (by decide) rfl ?_
      refine xk_goto (tgt := 73) hC dX4_change_104 (by decide) ?_
      refine xk_locals [1, 2, 3, 4, 0] rfl ?_
      exact ih x0 x1 x2 x3 (x4 + (1 : Int32)) w11 hf
def f_X4_change (x0 : Option Nat) (x1 : Int32) (x2 : Int32) (w : xWd) : Option (Int32 × xWd) := (xk_is w (x0) 0).bind (fun u2 => (f_X4_refuseBadCut (x0) (x1) (x2) w).bind (fun q1 => (xk_gI q1 (x0) 0 6).bind (fun v3 => if (v3) < ((20 : Int32)) then (xk_is q1 (x0) 0).bind (fun u6 => (f_X4_cutCues (x0) (x1) (x2) q1).bind (fun q5 => (xk_gR q5.2 (x0) 0 0).bind (fun v7 => (xk_is q5.2 (v7) 4).bind (fun u9 => (f_Jx4a65c_size_8abf5 (v7)  q5.2).bind (fun q8 => if (q8.1) ≤ ((0 : Int32)) then f_X4_change_73 24 x0 x1 x2 (q5.1) ((0 : Int32)) (q8.2) else (xk_gR q8.2 (x0) 0 0).bind (fun v11 => none)))))) else none)))
set_option maxHeartbeats 4000000 in
set_option maxRecDepth 100000 in
theorem t_X4_change_0 {p : Program} {l : Launch} {e : Env} {s : State} {m : MethodId} {args : Array Value} {below : List Frame} {meth : Method} {c : Code} {E : xEv} (hC : xk_C p s m args meth c E prog_1_method_4_code "Clickbook" 5) (hr : meth.sig.returnType = (some .int)) {q : (Int32 × xWd)} (x0 : Option Nat) (x1 : Int32) (x2 : Int32) (w : xWd) (hf : f_X4_change x0 x1 x2 w = some q) : xk_X p l e { frames := 2, cells := 0, slots := 0, locals := 45 } s m args below meth c (MQ below (xk_Qi E q) args s 0 0 (xk_A E.2.2.1)) E 5 0 0 0 [(0, va_rf (x0)), (1, .int (x1)), (2, .int (x2))] [] w := by
  refine xk_aload_n hC dX4_change_0 0 rfl rfl ?_
  refine xk_iload_n hC dX4_change_1 1 rfl rfl ?_
  refine xk_iload_n hC dX4_change_2 2 rfl rfl ?_
  obtain ⟨u2, h2, hf⟩ := xk_bi hf
  obtain ⟨q1, h1, hf⟩ := xk_bi hf
  refine xk_backv (xk_callV hC 2 xc_0 (c_X4_refuseBadCut h1) h2 xm_506 xm_508 xm_p27 xm_1 xm_509 ⟨rfl, xd_X4_refuseBadCut⟩ rfl ⟨Nat.le_of_ble_eq_true rfl, Nat.le_of_ble_eq_true rfl⟩ rfl (Nat.le_of_ble_eq_true rfl) dX4_change_3 ⟨(Nat.le_of_ble_eq_true rfl), (Nat.le_of_ble_eq_true rfl)⟩) ?_
  refine xk_aload_n hC dX4_change_6 0 rfl rfl ?_
  obtain ⟨v3, h3, hf⟩ := xk_bi hf
  refine xk_getI hC xi_0 xc_0 6 (by decide) xm_91 (Or.inl rfl) dX4_change_7 h3 ?_
  refine xk_bipush (v := (20 : Int32)) hC dX4_change_10 (by decide) ?_
  refine xk_icmp_lt (tgt := 25) hC dX4_change_12 (by decide) (fun c4 => ?_) (fun c4 => ?_)
  · replace hf := (if_pos c4).symm.trans hf
    refine xk_aload_n hC dX4_change_25 0 rfl rfl ?_
    refine xk_iload_n hC dX4_change_26 1 rfl rfl ?_
    refine xk_iload_n hC dX4_change_27 2 rfl rfl ?_
    obtain ⟨u6, h6, hf⟩ := xk_bi hf
    obtain ⟨q5, h5, hf⟩ := xk_bi hf
    refine xk_backi (xk_callV hC 2 xc_0 (c_X4_cutCues h5) h6 xm_600 xm_602 xm_p31 xm_1 xm_603 ⟨rfl, xd_X4_cutCues⟩ rfl ⟨Nat.le_of_ble_eq_true rfl, Nat.le_of_ble_eq_true rfl⟩ rfl (Nat.le_of_ble_eq_true rfl) dX4_change_28 ⟨(Nat.le_of_ble_eq_true rfl), (Nat.le_of_ble_eq_true rfl)⟩) ?_
    refine xk_istore_n (i := 3) (lv' := [(3, .int (q5.1)), (0, va_rf (x0)), (1, .int (x1)), (2, .int (x2))]) hC dX4_change_31 rfl (by decide) rfl ?_
    refine xk_iconst (v := (0 : Int32)) hC dX4_change_32 (by decide) ?_
    refine xk_istore (i := 4) (lv' := [(4, .int ((0 : Int32))), (3, .int (q5.1)), (0, va_rf (x0)), (1, .int (x1)), (2, .int (x2))]) hC dX4_change_33 (by decide) rfl ?_
    refine xk_iload hC dX4_change_35 0 rfl ?_
    refine xk_aload_n hC dX4_change_37 2 rfl rfl ?_
    obtain ⟨v7, h7, hf⟩ := xk_bi hf
    refine xk_getR hC xi_0 xc_0 0 (by decide) xm_85 (Or.inl rfl) dX4_change_38 h7 ?_
    obtain ⟨u9, h9, hf⟩ := xk_bi hf
    obtain ⟨q8, h8, hf⟩ := xk_bi hf
    refine xk_backi (xk_callV hC 0 xc_4 (c_Jx4a65c_size_8abf5 h8) h9 xm_130 xm_131 xm_132 xm_4 xm_133 ⟨rfl, xd_Jx4a65c_size_8abf5⟩ rfl ⟨Nat.le_of_ble_eq_true rfl, Nat.le_of_ble_eq_true rfl⟩ rfl (Nat.le_of_ble_eq_true rfl) dX4_change_41 ⟨(Nat.le_of_ble_eq_true rfl), (Nat.le_of_ble_eq_true rfl)⟩) ?_
    refine xk_icmp_ge (tgt := 70) hC dX4_change_44 (by decide) (fun c10 => ?_) (fun c10 => ?_)
    · replace hf := (if_pos c10).symm.trans hf
      refine xk_iconst (v := (0 : Int32)) hC dX4_change_70 (by decide) ?_
      refine xk_istore (i := 4) (lv' := [(4, .int ((0 : Int32))), (3, .int (q5.1)), (0, va_rf (x0)), (1, .int (x1)), (2, .int (x2))]) hC dX4_change_71 (by decide) rfl ?_
      refine xk_locals [2, 3, 4, 1, 0] rfl ?_
      exact t_X4_change_73 hC hr 24 x0 x1 x2 (q5.1) ((0 : Int32)) (q8.2) hf
    · replace hf := (if_neg c10).symm.trans hf
      refine xk_aload_n hC dX4_change_47 2 rfl rfl ?_
      obtain ⟨v11, h11, hf⟩ := xk_bi hf
      refine xk_getR hC xi_0 xc_0 0 (by decide) xm_85 (Or.inl rfl) dX4_change_48 h11 ?_
      refine xk_iload hC dX4_change_51 0 rfl ?_
      cases hf
  · replace hf := (if_neg c4).symm.trans hf
    cases hf
theorem xd_X4_change : xy_X4_change.cls ≠ "java/lang/invoke/MethodHandle" ∧ xy_X4_change.cls ≠ "java/lang/invoke/VarHandle" ∧ (parseMethodDescriptor xy_X4_change.desc).map (fun d => d.parameters.length) = some 2 := ⟨by decide +kernel, by decide +kernel, by decide +kernel⟩
theorem c_X4_change {l : Launch} {E : xEv} {x0 : Option Nat} {x1 : Int32} {x2 : Int32} {w : xWd} {q : (Int32 × xWd)} (hf : f_X4_change x0 x1 x2 w = some q) : xk_M l xy_X4_change prog_1_method_4_code 5 (some .int) 2 45 0 0 E [va_rf (x0), .int (x1), .int (x2)] w (xk_Qi E q) := by
  refine xk_enter (by decide +kernel) (by simp [lg_sl, xk_cat1, xk_cati, xk_catl, xk_catd]) ?_
  intro p e s m args below meth c hC hr hin ha
  rw [show lv_args 0 [va_rf (x0), .int (x1), .int (x2)] = [(0, va_rf (x0)), (1, .int (x1)), (2, .int (x2))] by simp [lv_args, xk_cat1, xk_cati, xk_catl, xk_catd]]
  exact t_X4_change_0 hC hr x0 x1 x2 w hf
def e_X4_refuseBadCut_30 (w : xWd) : Option (Nat × xWd) := some (0, (w.1, w.2.1 + 1, w.2.2))
set_option maxHeartbeats 4000000 in
set_option maxRecDepth 100000 in
theorem te_X4_refuseBadCut_30 {p : Program} {l : Launch} {e : Env} {s : State} {m : MethodId} {args : Array Value} {below : List Frame} {meth : Method} {c : Code} {E : xEv} (hC : xk_C p s m args meth c E prog_1_method_6_code "Clickbook" 3) (hr : meth.sig.returnType = none) (hX : ∀ x ∈ c.exceptionTable.toList, False) (hl9 : l.stackTraces = false) {q : (Nat × xWd)} (w : xWd) (hf : e_X4_refuseBadCut_30 w = some q) : xk_X p l e { frames := 6, cells := 1, slots := 6, locals := 92 } s m args below meth c (vx_MQ below xk_QN (xk_XC E q) args s 1 6 (xk_A E.2.2.1)) E 3 0 0 30 [] [] w := by
  cases hf
  exact xk_throw (k := 0) (B := [Cond.declares ⟨"java/lang/RuntimeException", "<init>", "(Ljava/lang/String;)V"⟩, Cond.declares ⟨"java/lang/Exception", "<init>", "(Ljava/lang/String;)V"⟩, Cond.declares ⟨"java/lang/Throwable", "<init>", "(Ljava/lang/String;)V"⟩, Cond.castable "java/lang/IllegalArgumentException" "java/lang/IllegalArgumentException"]) (names := ["java/lang/RuntimeException", "java/lang/Exception"]) hC hX hl9 rfl (by decide +kernel) (by decide +kernel) rfl xm_242 xm_10 (xk_note17 hC) xw_0a xw_0b (vx_c (va_Nw.use rfl (xk_note2 hC)) (vx_c (va_Nw.use rfl (xk_note3 hC)) (vx_c (va_Nw.use rfl (xk_note4 hC)) (vx_c (va_Nw.use rfl (xk_note1 hC)) vx_n)))) xw_0c dX4_refuseBadCut_30 dX4_refuseBadCut_33 dX4_refuseBadCut_34 dX4_refuseBadCut_36 dX4_refuseBadCut_39 (Nat.le_of_ble_eq_true rfl) (Nat.le_of_ble_eq_true rfl) (Nat.le_of_ble_eq_true rfl) (Nat.le_of_ble_eq_true rfl) (Nat.le_of_ble_eq_true rfl) (Nat.le_of_ble_eq_true rfl)
def e_X4_refuseBadCut_65 (w : xWd) : Option (Nat × xWd) := some (0, (w.1, w.2.1 + 1, w.2.2))
set_option maxHeartbeats 4000000 in
set_option maxRecDepth 100000 in
theorem te_X4_refuseBadCut_65 {p : Program} {l : Launch} {e : Env} {s : State} {m : MethodId} {args : Array Value} {below : List Frame} {meth : Method} {c : Code} {E : xEv} (hC : xk_C p s m args meth c E prog_1_method_6_code "Clickbook" 3) (hr : meth.sig.returnType = none) (hX : ∀ x ∈ c.exceptionTable.toList, False) (hl9 : l.stackTraces = false) {q : (Nat × xWd)} (w : xWd) (hf : e_X4_refuseBadCut_65 w = some q) : xk_X p l e { frames := 6, cells := 1, slots := 6, locals := 92 } s m args below meth c (vx_MQ below xk_QN (xk_XC E q) args s 1 6 (xk_A E.2.2.1)) E 3 0 0 65 [] [] w := by
  cases hf
  exact xk_throw (k := 0) (B := [Cond.declares ⟨"java/lang/RuntimeException", "<init>", "(Ljava/lang/String;)V"⟩, Cond.declares ⟨"java/lang/Exception", "<init>", "(Ljava/lang/String;)V"⟩, Cond.declares ⟨"java/lang/Throwable", "<init>", "(Ljava/lang/String;)V"⟩, Cond.castable "java/lang/IllegalArgumentException" "java/lang/IllegalArgumentException"]) (names := ["java/lang/RuntimeException", "java/lang/Exception"]) hC hX hl9 rfl (by decide +kernel) (by decide +kernel) rfl xm_242 xm_10 (xk_note18 hC) xw_0a xw_0b (vx_c (va_Nw.use rfl (xk_note2 hC)) (vx_c (va_Nw.use rfl (xk_note3 hC)) (vx_c (va_Nw.use rfl (xk_note4 hC)) (vx_c (va_Nw.use rfl (xk_note1 hC)) vx_n)))) xw_0c dX4_refuseBadCut_65 dX4_refuseBadCut_68 dX4_refuseBadCut_69 dX4_refuseBadCut_71 dX4_refuseBadCut_74 (Nat.le_of_ble_eq_true rfl) (Nat.le_of_ble_eq_true rfl) (Nat.le_of_ble_eq_true rfl) (Nat.le_of_ble_eq_true rfl) (Nat.le_of_ble_eq_true rfl) (Nat.le_of_ble_eq_true rfl)
def e_X4_refuseBadCut_75 (w : xWd) : Option (Nat × xWd) := none
set_option maxHeartbeats 4000000 in
set_option maxRecDepth 100000 in
theorem te_X4_refuseBadCut_75 {p : Program} {l : Launch} {e : Env} {s : State} {m : MethodId} {args : Array Value} {below : List Frame} {meth : Method} {c : Code} {E : xEv} (hC : xk_C p s m args meth c E prog_1_method_6_code "Clickbook" 3) (hr : meth.sig.returnType = none) (hX : ∀ x ∈ c.exceptionTable.toList, False) (hl9 : l.stackTraces = false) {q : (Nat × xWd)} (w : xWd) (hf : e_X4_refuseBadCut_75 w = some q) : xk_X p l e { frames := 6, cells := 1, slots := 6, locals := 92 } s m args below meth c (vx_MQ below xk_QN (xk_XC E q) args s 1 6 (xk_A E.2.2.1)) E 3 0 0 75 [] [] w := by
  cases hf
def e_X4_refuseBadCut (x0 : Option Nat) (x1 : Int32) (x2 : Int32) (w : xWd) : Option (Nat × xWd) := if (x1) < ((0 : Int32)) then e_X4_refuseBadCut_30 w else (xk_gI w (x0) 0 5).bind (fun v2 => if (v2) < (x1) then e_X4_refuseBadCut_30 w else if (x2) = ((0 : Int32)) then e_X4_refuseBadCut_30 w else if (x2) < ((-999 : Int32)) then e_X4_refuseBadCut_30 w else if (x2) ≤ ((999 : Int32)) then if ((0 : Int32)) ≤ (x2) then e_X4_refuseBadCut_75 w else (xk_gI w (x0) 0 5).bind (fun v8 => if (v8) < ((x1) - (x2)) then e_X4_refuseBadCut_65 w else (xk_gI w (x0) 0 5).bind (fun v10 => if ((24 : Int32)) ≤ ((v10) + (x2)) then e_X4_refuseBadCut_75 w else e_X4_refuseBadCut_65 w)) else e_X4_refuseBadCut_30 w)
set_option maxHeartbeats 4000000 in
set_option maxRecDepth 100000 in
theorem te_X4_refuseBadCut_0 {p : Program} {l : Launch} {e : Env} {s : State} {m : MethodId} {args : Array Value} {below : List Frame} {meth : Method} {c : Code} {E : xEv} (hC : xk_C p s m args meth c E prog_1_method_6_code "Clickbook" 3) (hr : meth.sig.returnType = none) (hX : ∀ x ∈ c.exceptionTable.toList, False) (hl9 : l.stackTraces = false) {q : (Nat × xWd)} (x0 : Option Nat) (x1 : Int32) (x2 : Int32) (w : xWd) (hf : e_X4_refuseBadCut x0 x1 x2 w = some q) : xk_X p l e { frames := 6, cells := 1, slots := 6, locals := 92 } s m args below meth c (vx_MQ below xk_QN (xk_XC E q) args s 1 6 (xk_A E.2.2.1)) E 3 0 0 0 [(0, va_rf (x0)), (1, .int (x1)), (2, .int (x2))] [] w := by
  refine xk_iload_n hC dX4_refuseBadCut_0 1 rfl rfl ?_
  refine xk_if_lt (tgt := 30) hC dX4_refuseBadCut_1 (by decide) (fun c1 => ?_) (fun c1 => ?_)
  · replace hf := (if_pos c1).symm.trans hf
    refine xk_locals [] rfl ?_
    exact te_X4_refuseBadCut_30 hC hr hX hl9 w hf
  · replace hf := (if_neg c1).symm.trans hf
    refine xk_iload_n hC dX4_refuseBadCut_4 1 rfl rfl ?_
    refine xk_aload_n hC dX4_refuseBadCut_5 0 rfl rfl ?_
    obtain ⟨v2, h2, hf⟩ := xk_bi hf
    refine xk_getI hC xi_0 xc_0 5 (by decide) xm_90 (Or.inl rfl) dX4_refuseBadCut_6 h2 ?_
    refine xk_icmp_gt (tgt := 30) hC dX4_refuseBadCut_9 (by decide) (fun c3 => ?_) (fun c3 => ?_)
    · replace hf := (if_pos c3).symm.trans hf
      refine xk_locals [] rfl ?_
      exact te_X4_refuseBadCut_30 hC hr hX hl9 w hf
    · replace hf := (if_neg c3).symm.trans hf
      refine xk_iload_n hC dX4_refuseBadCut_12 2 rfl rfl ?_
      refine xk_if_eq (tgt := 30) hC dX4_refuseBadCut_13 (by decide) (fun c4 => ?_) (fun c4 => ?_)
      · replace hf := (if_pos c4).symm.trans hf
        refine xk_locals [] rfl ?_
        exact te_X4_refuseBadCut_30 hC hr hX hl9 w hf
      · replace hf := (if_neg c4).symm.trans hf
        refine xk_iload_n hC dX4_refuseBadCut_16 2 rfl rfl ?_
        refine xk_sipush (v := (-999 : Int32)) hC dX4_refuseBadCut_17 (by decide) ?_
        refine xk_icmp_lt (tgt := 30) hC dX4_refuseBadCut_20 (by decide) (fun c5 => ?_) (fun c5 => ?_)
        · replace hf := (if_pos c5).symm.trans hf
          refine xk_locals [] rfl ?_
          exact te_X4_refuseBadCut_30 hC hr hX hl9 w hf
        · replace hf := (if_neg c5).symm.trans hf
          refine xk_iload_n hC dX4_refuseBadCut_23 2 rfl rfl ?_
          refine xk_sipush (v := (999 : Int32)) hC dX4_refuseBadCut_24 (by decide) ?_
          refine xk_icmp_le (tgt := 40) hC dX4_refuseBadCut_27 (by decide) (fun c6 => ?_) (fun c6 => ?_)
          · replace hf := (if_pos c6).symm.trans hf
            refine xk_iload_n hC dX4_refuseBadCut_40 2 rfl rfl ?_
            refine xk_if_ge (tgt := 75) hC dX4_refuseBadCut_41 (by decide) (fun c7 => ?_) (fun c7 => ?_)
            · replace hf := (if_pos c7).symm.trans hf
              refine xk_locals [] rfl ?_
              exact te_X4_refuseBadCut_75 hC hr hX hl9 w hf
            · replace hf := (if_neg c7).symm.trans hf
              refine xk_iload_n hC dX4_refuseBadCut_44 1 rfl rfl ?_
              refine xk_iload_n hC dX4_refuseBadCut_45 2 rfl rfl ?_
              refine xk_isub hC dX4_refuseBadCut_46 ?_
              refine xk_aload_n hC dX4_refuseBadCut_47 0 rfl rfl ?_
              obtain ⟨v8, h8, hf⟩ := xk_bi hf
              refine xk_getI hC xi_0 xc_0 5 (by decide) xm_90 (Or.inl rfl) dX4_refuseBadCut_48 h8 ?_
              refine xk_icmp_gt (tgt := 65) hC dX4_refuseBadCut_51 (by decide) (fun c9 => ?_) (fun c9 => ?_)
              · replace hf := (if_pos c9).symm.trans hf
                refine xk_locals [] rfl ?_
                exact te_X4_refuseBadCut_65 hC hr hX hl9 w hf
              · replace hf := (if_neg c9).symm.trans hf
                refine xk_aload_n hC dX4_refuseBadCut_54 0 rfl rfl ?_
                obtain ⟨v10, h10, hf⟩ := xk_bi hf
                refine xk_getI hC xi_0 xc_0 5 (by decide) xm_90 (Or.inl rfl) dX4_refuseBadCut_55 h10 ?_
                refine xk_iload_n hC dX4_refuseBadCut_58 2 rfl rfl ?_
                refine xk_iadd hC dX4_refuseBadCut_59 ?_
                refine xk_bipush (v := (24 : Int32)) hC dX4_refuseBadCut_60 (by decide) ?_
                refine xk_icmp_ge (tgt := 75) hC dX4_refuseBadCut_62 (by decide) (fun c11 => ?_) (fun c11 => ?_)
                · replace hf := (if_pos c11).symm.trans hf
                  refine xk_locals [] rfl ?_
                  exact te_X4_refuseBadCut_75 hC hr hX hl9 w hf
                · replace hf := (if_neg c11).symm.trans hf
                  refine xk_locals [] rfl ?_
                  exact te_X4_refuseBadCut_65 hC hr hX hl9 w hf
          · replace hf := (if_neg c6).symm.trans hf
            refine xk_locals [] rfl ?_
            exact te_X4_refuseBadCut_30 hC hr hX hl9 w hf
theorem ce_X4_refuseBadCut {l : Launch} (hl9 : l.stackTraces = false) {E : xEv} {x0 : Option Nat} {x1 : Int32} {x2 : Int32} {w : xWd} {q : Nat × xWd} (hf : e_X4_refuseBadCut x0 x1 x2 w = some q) : xk_MX l xy_X4_refuseBadCut prog_1_method_6_code 3 none 6 92 1 6 E [va_rf (x0), .int (x1), .int (x2)] w q := by
  refine xk_enterX (by decide +kernel) (by simp [lg_sl, xk_cat1, xk_cati, xk_catl, xk_catd]) ?_
  intro p e s m args below meth c hC hr hX ha
  rw [show lv_args 0 [va_rf (x0), .int (x1), .int (x2)] = [(0, va_rf (x0)), (1, .int (x1)), (2, .int (x2))] by simp [lv_args, xk_cat1, xk_cati, xk_catl, xk_catd]]
  exact te_X4_refuseBadCut_0 hC hr hX hl9 x0 x1 x2 w hf
def e_X4_change_73 : Nat → Option Nat → Int32 → Int32 → Int32 → Int32 → xWd → Option (Nat × xWd)
  | 0, _, _, _, _, _, _ => none
  | n + 1, x0, x1, x2, x3, x4, w => (xk_gI w (x0) 0 2).bind (fun v1 => if (v1) ≤ (x4) then (xk_gI w (x0) 0 5).bind (fun v3 => (xk_pV w (x0) 0 5 (.int ((v3) + (x2)))).bind (fun w4 => (xk_gI w4 (x0) 0 6).bind (fun v5 => (xk_pV w4 (x0) 0 6 (.int ((v5) + ((1 : Int32))))).bind (fun w6 => none)))) else (xk_gR w (x0) 0 1).bind (fun v7 => (xk_gR w (x0) 0 1).bind (fun v8 => (xk_lI 0 w (v8) (x4)).bind (fun v9 => (f_X4_movedFrame (v9) (x1) (x2) w).bind (fun q10 => (xk_sI 0 q10.2 (v7) (x4) (q10.1)).bind (fun w11 => e_X4_change_73 n x0 x1 x2 x3 (x4 + (1 : Int32)) w11))))))
set_option maxHeartbeats 4000000 in
set_option maxRecDepth 100000 in
theorem te_X4_change_73 {p : Program} {l : Launch} {e : Env} {s : State} {m : MethodId} {args : Array Value} {below : List Frame} {meth : Method} {c : Code} {E : xEv} (hC : xk_C p s m args meth c E prog_1_method_4_code "Clickbook" 5) (hr : meth.sig.returnType = (some .int)) (hX : ∀ x ∈ c.exceptionTable.toList, False) (hl9 : l.stackTraces = false) {q : (Nat × xWd)} : ∀ (n : Nat) (x0 : Option Nat) (x1 : Int32) (x2 : Int32) (x3 : Int32) (x4 : Int32) (w : xWd), e_X4_change_73 n x0 x1 x2 x3 x4 w = some q → xk_X p l e { frames := 7, cells := 2, slots := 12, locals := 114 } s m args below meth c (vx_MQ below xk_QN (xk_XC E q) args s 2 12 (xk_A E.2.2.1)) E 5 1 6 73 [(0, va_rf (x0)), (1, .int (x1)), (2, .int (x2)), (3, .int (x3)), (4, .int (x4))] [] w := by
  intro n
  induction n with
  | zero => intro x0 x1 x2 x3 x4 w hf; have hf : none = some q := hf; cases hf
  | succ n ih =>
    intro x0 x1 x2 x3 x4 w hf
    refine xk_iload hC dX4_change_73 4 rfl ?_
    refine xk_aload_n hC dX4_change_75 0 rfl rfl ?_
    obtain ⟨v1, h1, hf⟩ := xk_bi hf
    refine xk_getI hC xi_0 xc_0 2 (by decide) xm_87 (Or.inl rfl) dX4_change_76 h1 ?_
    refine xk_icmp_ge (tgt := 107) hC dX4_change_79 (by decide) (fun c2 => ?_) (fun c2 => ?_)
    · replace hf := (if_pos c2).symm.trans hf
      refine xk_aload_n hC dX4_change_107 0 rfl rfl ?_
      refine xk_dup hC dX4_change_108 (xk_cat1 _) ?_
      obtain ⟨v3, h3, hf⟩ := xk_bi hf
      refine xk_getI hC xi_0 xc_0 5 (by decide) xm_90 (Or.inl rfl) dX4_change_109 h3 ?_
      refine xk_iload_n hC dX4_change_112 2 rfl rfl ?_
      refine xk_iadd hC dX4_change_113 ?_
      obtain ⟨w4, h4, hf⟩ := xk_bi hf
      refine xk_put hC xi_0 xc_0 xo_0 xn_0 5 (by decide) xm_90 (Or.inl rfl) rfl rfl rfl dX4_change_114 h4 ?_
      refine xk_aload_n hC dX4_change_117 0 rfl rfl ?_
      refine xk_dup hC dX4_change_118 (xk_cat1 _) ?_
      obtain ⟨v5, h5, hf⟩ := xk_bi hf
      refine xk_getI hC xi_0 xc_0 6 (by decide) xm_91 (Or.inl rfl) dX4_change_119 h5 ?_
      refine xk_iconst (v := (1 : Int32)) hC dX4_change_122 (by decide) ?_
      refine xk_iadd hC dX4_change_123 ?_
      obtain ⟨w6, h6, hf⟩ := xk_bi hf
      refine xk_put hC xi_0 xc_0 xo_0 xn_0 6 (by decide) xm_91 (Or.inl rfl) rfl rfl rfl dX4_change_124 h6 ?_
      refine xk_iload_n hC dX4_change_127 3 rfl rfl ?_
      cases hf
    · replace hf := (if_neg c2).symm.trans hf
      refine xk_aload_n hC dX4_change_82 0 rfl rfl ?_
      obtain ⟨v7, h7, hf⟩ := xk_bi hf
      refine xk_getR hC xi_0 xc_0 1 (by decide) xm_86 (Or.inl rfl) dX4_change_83 h7 ?_
      refine xk_iload hC dX4_change_86 4 rfl ?_
      refine xk_aload_n hC dX4_change_88 0 rfl rfl ?_
      obtain ⟨v8, h8, hf⟩ := xk_bi hf
      refine xk_getR hC xi_0 xc_0 1 (by decide) xm_86 (Or.inl rfl) dX4_change_89 h8 ?_
      refine xk_iload hC dX4_change_92 4 rfl ?_
      obtain ⟨v9, h9, hf⟩ := xk_bi hf
      refine xk_iald hC rfl dX4_change_94 h9 ?_
      refine xk_iload_n hC dX4_change_95 1 rfl rfl ?_
      refine xk_iload_n hC dX4_change_96 2 rfl rfl ?_
      obtain ⟨q10, h10, hf⟩ := xk_bi hf
      refine xk_backi (xk_callS hC 3 (c_X4_movedFrame h10) xm_519 xm_520 xm_1 xm_521 xd_X4_movedFrame rfl ⟨Nat.le_of_ble_eq_true rfl, Nat.le_of_ble_eq_true rfl⟩ rfl (by simp [xk_cat1, xk_cati, xk_catl, xk_catd]) dX4_change_97 ⟨(Nat.le_of_ble_eq_true rfl), (Nat.le_of_ble_eq_true rfl)⟩) ?_
      obtain ⟨w11, h11, hf⟩ := xk_bi hf
      refine xk_iast hC rfl dX4_change_100 h11 ?_
      refine xk_iinc (v := x4 + (1 : Int32)) (lv' := [(4, .int (x4 + (1 : Int32))), (0, va_rf (x0)), (1, .int (x1)), (2, .int (x2)), (3, .int (x3))]) hC dX4_change_101 4 rfl rfl (by decide) rfl ?_
      refine xk_goto (tgt := 73) hC dX4_change_104 (by decide) ?_
      refine xk_locals [1, 2, 3, 4, 0] rfl ?_
      exact ih x0 x1 x2 x3 (x4 + (1 : Int32)) w11 hf
def e_X4_change (x0 : Option Nat) (x1 : Int32) (x2 : Int32) (w : xWd) : Option (Nat × xWd) := (xk_is w (x0) 0).bind (fun u2 => xk_or (f_X4_refuseBadCut (x0) (x1) (x2) w) (fun q1 => (xk_gI q1 (x0) 0 6).bind (fun v3 => if (v3) < ((20 : Int32)) then (xk_is q1 (x0) 0).bind (fun u6 => (f_X4_cutCues (x0) (x1) (x2) q1).bind (fun q5 => (xk_gR q5.2 (x0) 0 0).bind (fun v7 => (xk_is q5.2 (v7) 4).bind (fun u9 => (f_Jx4a65c_size_8abf5 (v7)  q5.2).bind (fun q8 => if (q8.1) ≤ ((0 : Int32)) then e_X4_change_73 24 x0 x1 x2 (q5.1) ((0 : Int32)) (q8.2) else (xk_gR q8.2 (x0) 0 0).bind (fun v11 => none)))))) else some (1, (q1.1, q1.2.1 + 1, q1.2.2)))) (e_X4_refuseBadCut (x0) (x1) (x2) w))
set_option maxHeartbeats 4000000 in
set_option maxRecDepth 100000 in
theorem te_X4_change_0 {p : Program} {l : Launch} {e : Env} {s : State} {m : MethodId} {args : Array Value} {below : List Frame} {meth : Method} {c : Code} {E : xEv} (hC : xk_C p s m args meth c E prog_1_method_4_code "Clickbook" 5) (hr : meth.sig.returnType = (some .int)) (hX : ∀ x ∈ c.exceptionTable.toList, False) (hl9 : l.stackTraces = false) {q : (Nat × xWd)} (x0 : Option Nat) (x1 : Int32) (x2 : Int32) (w : xWd) (hf : e_X4_change x0 x1 x2 w = some q) : xk_X p l e { frames := 7, cells := 2, slots := 12, locals := 114 } s m args below meth c (vx_MQ below xk_QN (xk_XC E q) args s 2 12 (xk_A E.2.2.1)) E 5 0 0 0 [(0, va_rf (x0)), (1, .int (x1)), (2, .int (x2))] [] w := by
  refine xk_aload_n hC dX4_change_0 0 rfl rfl ?_
  refine xk_iload_n hC dX4_change_1 1 rfl rfl ?_
  refine xk_iload_n hC dX4_change_2 2 rfl rfl ?_
  obtain ⟨u2, h2, hf⟩ := xk_bi hf
  rcases xk_or_e hf with ⟨-, hf⟩ | ⟨q1, h1, hf⟩
  · skip
    exact xk_outX hC hX (Nat.le_of_ble_eq_true rfl) (Nat.le_of_ble_eq_true rfl) (xk_callVX (av := [.int (x1), .int (x2)]) (rest := []) hC 2 xc_0 (ce_X4_refuseBadCut hl9 hf) h2 xm_506 xm_508 xm_p27 xm_1 xm_509 ⟨rfl, xd_X4_refuseBadCut⟩ rfl ⟨Nat.le_of_ble_eq_true rfl, Nat.le_of_ble_eq_true rfl⟩ rfl (Nat.le_of_ble_eq_true rfl) dX4_change_3 ⟨(Nat.le_of_ble_eq_true rfl), (Nat.le_of_ble_eq_true rfl)⟩)
  refine xk_backv (xk_callV (av := [.int (x1), .int (x2)]) (rest := []) hC 2 xc_0 (c_X4_refuseBadCut h1) h2 xm_506 xm_508 xm_p27 xm_1 xm_509 ⟨rfl, xd_X4_refuseBadCut⟩ rfl ⟨Nat.le_of_ble_eq_true rfl, Nat.le_of_ble_eq_true rfl⟩ rfl (Nat.le_of_ble_eq_true rfl) dX4_change_3 ⟨(Nat.le_of_ble_eq_true rfl), (Nat.le_of_ble_eq_true rfl)⟩) ?_
  refine xk_aload_n hC dX4_change_6 0 rfl rfl ?_
  obtain ⟨v3, h3, hf⟩ := xk_bi hf
  refine xk_getI hC xi_0 xc_0 6 (by decide) xm_91 (Or.inl rfl) dX4_change_7 h3 ?_
  refine xk_bipush (v := (20 : Int32)) hC dX4_change_10 (by decide) ?_
  refine xk_icmp_lt (tgt := 25) hC dX4_change_12 (by decide) (fun c4 => ?_) (fun c4 => ?_)
  · replace hf := (if_pos c4).symm.trans hf
    refine xk_aload_n hC dX4_change_25 0 rfl rfl ?_
    refine xk_iload_n hC dX4_change_26 1 rfl rfl ?_
    refine xk_iload_n hC dX4_change_27 2 rfl rfl ?_
    obtain ⟨u6, h6, hf⟩ := xk_bi hf
    obtain ⟨q5, h5, hf⟩ := xk_bi hf
    refine xk_backi (xk_callV hC 2 xc_0 (c_X4_cutCues h5) h6 xm_600 xm_602 xm_p31 xm_1 xm_603 ⟨rfl, xd_X4_cutCues⟩ rfl ⟨Nat.le_of_ble_eq_true rfl, Nat.le_of_ble_eq_true rfl⟩ rfl (Nat.le_of_ble_eq_true rfl) dX4_change_28 ⟨(Nat.le_of_ble_eq_true rfl), (Nat.le_of_ble_eq_true rfl)⟩) ?_
    refine xk_istore_n (i := 3) (lv' := [(3, .int (q5.1)), (0, va_rf (x0)), (1, .int (x1)), (2, .int (x2))]) hC dX4_change_31 rfl (by decide) rfl ?_
    refine xk_iconst (v := (0 : Int32)) hC dX4_change_32 (by decide) ?_
    refine xk_istore (i := 4) (lv' := [(4, .int ((0 : Int32))), (3, .int (q5.1)), (0, va_rf (x0)), (1, .int (x1)), (2, .int (x2))]) hC dX4_change_33 (by decide) rfl ?_
    refine xk_iload hC dX4_change_35 0 rfl ?_
    refine xk_aload_n hC dX4_change_37 2 rfl rfl ?_
    obtain ⟨v7, h7, hf⟩ := xk_bi hf
    refine xk_getR hC xi_0 xc_0 0 (by decide) xm_85 (Or.inl rfl) dX4_change_38 h7 ?_
    obtain ⟨u9, h9, hf⟩ := xk_bi hf
    obtain ⟨q8, h8, hf⟩ := xk_bi hf
    refine xk_backi (xk_callV hC 0 xc_4 (c_Jx4a65c_size_8abf5 h8) h9 xm_130 xm_131 xm_132 xm_4 xm_133 ⟨rfl, xd_Jx4a65c_size_8abf5⟩ rfl ⟨Nat.le_of_ble_eq_true rfl, Nat.le_of_ble_eq_true rfl⟩ rfl (Nat.le_of_ble_eq_true rfl) dX4_change_41 ⟨(Nat.le_of_ble_eq_true rfl), (Nat.le_of_ble_eq_true rfl)⟩) ?_
    refine xk_icmp_ge (tgt := 70) hC dX4_change_44 (by decide) (fun c10 => ?_) (fun c10 => ?_)
    · replace hf := (if_pos c10).symm.trans hf
      refine xk_iconst (v := (0 : Int32)) hC dX4_change_70 (by decide) ?_
      refine xk_istore (i := 4) (lv' := [(4, .int ((0 : Int32))), (3, .int (q5.1)), (0, va_rf (x0)), (1, .int (x1)), (2, .int (x2))]) hC dX4_change_71 (by decide) rfl ?_
      refine xk_locals [2, 3, 4, 1, 0] rfl ?_
      refine xk_widen (k := 1) (n := 6) (Nat.le_of_ble_eq_true rfl) (Nat.le_of_ble_eq_true rfl) ?_
      exact te_X4_change_73 hC hr hX hl9 24 x0 x1 x2 (q5.1) ((0 : Int32)) (q8.2) hf
    · replace hf := (if_neg c10).symm.trans hf
      refine xk_aload_n hC dX4_change_47 2 rfl rfl ?_
      obtain ⟨v11, h11, hf⟩ := xk_bi hf
      refine xk_getR hC xi_0 xc_0 0 (by decide) xm_85 (Or.inl rfl) dX4_change_48 h11 ?_
      refine xk_iload hC dX4_change_51 0 rfl ?_
      cases hf
  · replace hf := (if_neg c4).symm.trans hf
    cases hf
    exact xk_throw (k := 1) (B := [Cond.declares ⟨"java/lang/RuntimeException", "<init>", "(Ljava/lang/String;)V"⟩, Cond.declares ⟨"java/lang/Exception", "<init>", "(Ljava/lang/String;)V"⟩, Cond.declares ⟨"java/lang/Throwable", "<init>", "(Ljava/lang/String;)V"⟩, Cond.castable "java/lang/IllegalStateException" "java/lang/IllegalStateException"]) (names := ["java/lang/RuntimeException", "java/lang/Exception"]) hC hX hl9 rfl (by decide +kernel) (by decide +kernel) rfl xm_548 xm_11 (xk_note24 hC) xw_1a xw_1b (vx_c (va_Nw.use rfl (xk_note2 hC)) (vx_c (va_Nw.use rfl (xk_note3 hC)) (vx_c (va_Nw.use rfl (xk_note4 hC)) (vx_c (va_Nw.use rfl (xk_note20 hC)) vx_n)))) xw_1c dX4_change_15 dX4_change_18 dX4_change_19 dX4_change_21 dX4_change_24 (Nat.le_of_ble_eq_true rfl) (Nat.le_of_ble_eq_true rfl) (Nat.le_of_ble_eq_true rfl) (Nat.le_of_ble_eq_true rfl) (Nat.le_of_ble_eq_true rfl) (Nat.le_of_ble_eq_true rfl)
theorem ce_X4_change {l : Launch} (hl9 : l.stackTraces = false) {E : xEv} {x0 : Option Nat} {x1 : Int32} {x2 : Int32} {w : xWd} {q : Nat × xWd} (hf : e_X4_change x0 x1 x2 w = some q) : xk_MX l xy_X4_change prog_1_method_4_code 5 (some .int) 7 114 2 12 E [va_rf (x0), .int (x1), .int (x2)] w q := by
  refine xk_enterX (by decide +kernel) (by simp [lg_sl, xk_cat1, xk_cati, xk_catl, xk_catd]) ?_
  intro p e s m args below meth c hC hr hX ha
  rw [show lv_args 0 [va_rf (x0), .int (x1), .int (x2)] = [(0, va_rf (x0)), (1, .int (x1)), (2, .int (x2))] by simp [lv_args, xk_cat1, xk_cati, xk_catl, xk_catd]]
  exact te_X4_change_0 hC hr hX hl9 x0 x1 x2 w hf
def f_X0_init (x0 : Nat) (x1 : Int32) (x2 : Int32) (x3 : Int32) (x4 : Int32) (x5 : Int32) (x6 : Int32) (w : xWd) : Option xWd := (xk_pV w (some x0) 1 0 (.int (x1))).bind (fun w1 => (xk_pV w1 (some x0) 1 1 (.int (x2))).bind (fun w2 => (xk_pV w2 (some x0) 1 2 (.int (x3))).bind (fun w3 => (xk_pV w3 (some x0) 1 3 (.int (x4))).bind (fun w4 => (xk_pV w4 (some x0) 1 4 (.int (x5))).bind (fun w5 => (xk_pV w5 (some x0) 1 5 (.int (x6))).bind (fun w6 => (xk_nA w6 0 xk_d0 ((9 : Int32)) 64).bind (fun w7 => (xk_pV w7 (some x0) 1 8 (va_rf (some w6.2.1))).bind (fun w8 => (xk_nA w8 0 xk_d0 ((9 : Int32)) 64).bind (fun w9 => (xk_pV w9 (some x0) 1 9 (va_rf (some w8.2.1))).bind (fun w10 => (xk_nA w10 0 xk_d0 ((63 : Int32)) 64).bind (fun w11 => (xk_pV w11 (some x0) 1 12 (va_rf (some w10.2.1))).bind (fun w12 => some w12))))))))))))
set_option maxHeartbeats 4000000 in
set_option maxRecDepth 100000 in
theorem t_X0_init_0 {p : Program} {l : Launch} {e : Env} {s : State} {m : MethodId} {args : Array Value} {below : List Frame} {meth : Method} {c : Code} {E : xEv} (hC : xk_C p s m args meth c E prog_2_method_1_code "Clickbook$Cue" 7) (hr : meth.sig.returnType = none) (hin : meth.name = "<init>") {q : xWd} (x0 : Nat) (x1 : Int32) (x2 : Int32) (x3 : Int32) (x4 : Int32) (x5 : Int32) (x6 : Int32) (w : xWd) (hf : f_X0_init x0 x1 x2 x3 x4 x5 x6 w = some q) : xk_X p l e { frames := 1, cells := 3, slots := 192, locals := 20 } s m args below meth c (MQ below (xk_Qv E q) args s 3 192 (xk_A E.2.2.1)) E 7 0 0 0 [(0, va_rf (some x0)), (1, .int (x1)), (2, .int (x2)), (3, .int (x3)), (4, .int (x4)), (5, .int (x5)), (6, .int (x6))] [] w := by
  refine xk_aload_n hC dX0_init_0 0 rfl rfl ?_
  refine xk_objI hC xm_631 xm_35 xm_36 dX0_init_1 (Nat.le_of_ble_eq_true rfl) (Nat.le_of_ble_eq_true rfl) ?_
  refine xk_aload_n hC dX0_init_4 0 rfl rfl ?_
  refine xk_iload_n hC dX0_init_5 1 rfl rfl ?_
  obtain ⟨w1, h1, hf⟩ := xk_bi hf
  refine xk_putF hC xi_1 xc_1 xo_1 xn_1 0 (by decide) xm_632 (Or.inl rfl) rfl hin rfl rfl rfl dX0_init_6 h1 ?_
  refine xk_aload_n hC dX0_init_9 0 rfl rfl ?_
  refine xk_iload_n hC dX0_init_10 2 rfl rfl ?_
  obtain ⟨w2, h2, hf⟩ := xk_bi hf
  refine xk_put hC xi_1 xc_1 xo_1 xn_1 1 (by decide) xm_634 (Or.inl rfl) rfl rfl rfl dX0_init_11 h2 ?_
  refine xk_aload_n hC dX0_init_14 0 rfl rfl ?_
  refine xk_iload_n hC dX0_init_15 3 rfl rfl ?_
  obtain ⟨w3, h3, hf⟩ := xk_bi hf
  refine xk_putF hC xi_1 xc_1 xo_1 xn_1 2 (by decide) xm_636 (Or.inl rfl) rfl hin rfl rfl rfl dX0_init_16 h3 ?_
  refine xk_aload_n hC dX0_init_19 0 rfl rfl ?_
  refine xk_iload hC dX0_init_20 4 rfl ?_
  obtain ⟨w4, h4, hf⟩ := xk_bi hf
  refine xk_putF hC xi_1 xc_1 xo_1 xn_1 3 (by decide) xm_638 (Or.inl rfl) rfl hin rfl rfl rfl dX0_init_22 h4 ?_
  refine xk_aload_n hC dX0_init_25 0 rfl rfl ?_
  refine xk_iload hC dX0_init_26 5 rfl ?_
  obtain ⟨w5, h5, hf⟩ := xk_bi hf
  refine xk_putF hC xi_1 xc_1 xo_1 xn_1 4 (by decide) xm_640 (Or.inl rfl) rfl hin rfl rfl rfl dX0_init_28 h5 ?_
  refine xk_aload_n hC dX0_init_31 0 rfl rfl ?_
  refine xk_iload hC dX0_init_32 6 rfl ?_
  obtain ⟨w6, h6, hf⟩ := xk_bi hf
  refine xk_putF hC xi_1 xc_1 xo_1 xn_1 5 (by decide) xm_642 (Or.inl rfl) rfl hin rfl rfl rfl dX0_init_34 h6 ?_
  refine xk_aload_n hC dX0_init_37 0 rfl rfl ?_
  refine xk_bipush (v := (9 : Int32)) hC dX0_init_38 (by decide) ?_
  obtain ⟨w7, h7, hf⟩ := xk_bi hf
  refine xk_newarr (cap := 64) (atype := .int) (ty := .int) (kd := 0) hC rfl xm_84 (by decide) rfl (fun _ _ => rfl) (Nat.le_of_ble_eq_true rfl) (Nat.le_of_ble_eq_true rfl) (Nat.le_of_ble_eq_true rfl) dX0_init_40 h7 ?_
  obtain ⟨w8, h8, hf⟩ := xk_bi hf
  refine xk_putF hC xi_1 xc_1 xo_1 xn_1 8 (by decide) xm_650 (Or.inl rfl) rfl hin rfl (xk_nra _ _) (xk_fra _ _) dX0_init_42 h8 ?_
  refine xk_aload_n hC dX0_init_45 0 rfl rfl ?_
  refine xk_bipush (v := (9 : Int32)) hC dX0_init_46 (by decide) ?_
  obtain ⟨w9, h9, hf⟩ := xk_bi hf
  refine xk_newarr (cap := 64) (atype := .int) (ty := .int) (kd := 0) hC rfl xm_84 (by decide) rfl (fun _ _ => rfl) (Nat.le_of_ble_eq_true rfl) (Nat.le_of_ble_eq_true rfl) (Nat.le_of_ble_eq_true rfl) dX0_init_48 h9 ?_
  obtain ⟨w10, h10, hf⟩ := xk_bi hf
  refine xk_putF hC xi_1 xc_1 xo_1 xn_1 9 (by decide) xm_652 (Or.inl rfl) rfl hin rfl (xk_nra _ _) (xk_fra _ _) dX0_init_50 h10 ?_
  refine xk_aload_n hC dX0_init_53 0 rfl rfl ?_
  refine xk_bipush (v := (63 : Int32)) hC dX0_init_54 (by decide) ?_
  obtain ⟨w11, h11, hf⟩ := xk_bi hf
  refine xk_newarr (cap := 64) (atype := .int) (ty := .int) (kd := 0) hC rfl xm_84 (by decide) rfl (fun _ _ => rfl) (Nat.le_of_ble_eq_true rfl) (Nat.le_of_ble_eq_true rfl) (Nat.le_of_ble_eq_true rfl) dX0_init_56 h11 ?_
  obtain ⟨w12, h12, hf⟩ := xk_bi hf
  refine xk_putF hC xi_1 xc_1 xo_1 xn_1 12 (by decide) xm_658 (Or.inl rfl) rfl hin rfl (xk_nra _ _) (xk_fra _ _) dX0_init_58 h12 ?_
  cases hf
  refine xk_widen (k := 3) (n := 192) (Nat.le_of_ble_eq_true rfl) (Nat.le_of_ble_eq_true rfl) ?_
  exact xk_vret hC hr dX0_init_61
theorem xd_X0_init : xy_X0_init.cls ≠ "java/lang/invoke/MethodHandle" ∧ xy_X0_init.cls ≠ "java/lang/invoke/VarHandle" ∧ (parseMethodDescriptor xy_X0_init.desc).map (fun d => d.parameters.length) = some 6 := ⟨by decide +kernel, by decide +kernel, by decide +kernel⟩
theorem c_X0_init {l : Launch} {E : xEv} {x0 : Nat} {x1 : Int32} {x2 : Int32} {x3 : Int32} {x4 : Int32} {x5 : Int32} {x6 : Int32} {w : xWd} {q : xWd} (hf : f_X0_init x0 x1 x2 x3 x4 x5 x6 w = some q) : xk_M l xy_X0_init prog_2_method_1_code 7 none 1 20 3 192 E [va_rf (some x0), .int (x1), .int (x2), .int (x3), .int (x4), .int (x5), .int (x6)] w (xk_Qv E q) := by
  refine xk_enter (by decide +kernel) (by simp [lg_sl, xk_cat1, xk_cati, xk_catl, xk_catd]) ?_
  intro p e s m args below meth c hC hr hin ha
  rw [show lv_args 0 [va_rf (some x0), .int (x1), .int (x2), .int (x3), .int (x4), .int (x5), .int (x6)] = [(0, va_rf (some x0)), (1, .int (x1)), (2, .int (x2)), (3, .int (x3)), (4, .int (x4)), (5, .int (x5)), (6, .int (x6))] by simp [lv_args, xk_cat1, xk_cati, xk_catl, xk_catd]]
  exact t_X0_init_0 hC hr (hin rfl) x0 x1 x2 x3 x4 x5 x6 w hf
def f_X4_cue_13 (w : xWd) : Option (Int32 × xWd) := none
set_option maxHeartbeats 4000000 in
set_option maxRecDepth 100000 in
theorem t_X4_cue_13 {p : Program} {l : Launch} {e : Env} {s : State} {m : MethodId} {args : Array Value} {below : List Frame} {meth : Method} {c : Code} {E : xEv} (hC : xk_C p s m args meth c E prog_1_method_9_code "Clickbook" 7) (hr : meth.sig.returnType = (some .int)) {q : (Int32 × xWd)} (w : xWd) (hf : f_X4_cue_13 w = some q) : xk_X p l e { frames := 5, cells := 5, slots := 269, locals := 108 } s m args below meth c (MQ below (xk_Qi E q) args s 5 269 (xk_A E.2.2.1)) E 7 0 0 13 [] [] w := by
  cases hf
def f_X4_cue_46 (w : xWd) : Option (Int32 × xWd) := none
set_option maxHeartbeats 4000000 in
set_option maxRecDepth 100000 in
theorem t_X4_cue_46 {p : Program} {l : Launch} {e : Env} {s : State} {m : MethodId} {args : Array Value} {below : List Frame} {meth : Method} {c : Code} {E : xEv} (hC : xk_C p s m args meth c E prog_1_method_9_code "Clickbook" 7) (hr : meth.sig.returnType = (some .int)) {q : (Int32 × xWd)} (w : xWd) (hf : f_X4_cue_46 w = some q) : xk_X p l e { frames := 5, cells := 5, slots := 269, locals := 108 } s m args below meth c (MQ below (xk_Qi E q) args s 5 269 (xk_A E.2.2.1)) E 7 0 0 46 [] [] w := by
  cases hf
def f_X4_cue_78 (w : xWd) : Option (Int32 × xWd) := none
set_option maxHeartbeats 4000000 in
set_option maxRecDepth 100000 in
theorem t_X4_cue_78 {p : Program} {l : Launch} {e : Env} {s : State} {m : MethodId} {args : Array Value} {below : List Frame} {meth : Method} {c : Code} {E : xEv} (hC : xk_C p s m args meth c E prog_1_method_9_code "Clickbook" 7) (hr : meth.sig.returnType = (some .int)) {q : (Int32 × xWd)} (w : xWd) (hf : f_X4_cue_78 w = some q) : xk_X p l e { frames := 5, cells := 5, slots := 269, locals := 108 } s m args below meth c (MQ below (xk_Qi E q) args s 5 269 (xk_A E.2.2.1)) E 7 0 0 78 [] [] w := by
  cases hf
def f_X4_cue (x0 : Option Nat) (x1 : Int32) (x2 : Int32) (x3 : Int32) (x4 : Int32) (x5 : Int32) (w : xWd) : Option (Int32 × xWd) := if (x2) < ((-1 : Int32)) then f_X4_cue_13 w else (xk_gI w (x0) 0 2).bind (fun v2 => if (x2) < (v2) then if (x1) < ((0 : Int32)) then f_X4_cue_46 w else (xk_gI w (x0) 0 5).bind (fun v5 => if (v5) < (x1) then f_X4_cue_46 w else if (x3) < ((1 : Int32)) then f_X4_cue_46 w else if (x3) ≤ ((40 : Int32)) then if (x4) < ((0 : Int32)) then f_X4_cue_78 w else if ((4 : Int32)) ≤ (x4) then f_X4_cue_78 w else if (x5) < ((0 : Int32)) then f_X4_cue_78 w else if (x5) ≤ ((2 : Int32)) then (xk_gR w (x0) 0 3).bind (fun v13 => (xk_is w (v13) 4).bind (fun u15 => (f_Jx4a65c_size_8abf5 (v13)  w).bind (fun q14 => if (q14.1) < ((8 : Int32)) then (some (xk_nw q14.2 1 xf_1)).bind (fun w17 => (xk_gR w17 (x0) 0 3).bind (fun v18 => (xk_is w17 (v18) 4).bind (fun u20 => (f_Jx4a65c_size_8abf5 (v18)  w17).bind (fun q19 => (f_X0_init (q14.2.2.1) (q19.1) (x1) (x2) (x3) (x4) (x5) q19.2).bind (fun q21 => (xk_gR q21 (x0) 0 3).bind (fun v22 => (xk_is q21 (v22) 4).bind (fun u24 => (f_Jx4a65c_add_9ea2d (v22) (some q14.2.2.1) q21).bind (fun q23 => (xk_gI q23.2 (some q14.2.2.1) 1 0).bind (fun v25 => some (v25, q23.2)))))))))) else none))) else f_X4_cue_78 w else f_X4_cue_46 w) else f_X4_cue_13 w)
set_option maxHeartbeats 4000000 in
set_option maxRecDepth 100000 in
theorem t_X4_cue_0 {p : Program} {l : Launch} {e : Env} {s : State} {m : MethodId} {args : Array Value} {below : List Frame} {meth : Method} {c : Code} {E : xEv} (hC : xk_C p s m args meth c E prog_1_method_9_code "Clickbook" 7) (hr : meth.sig.returnType = (some .int)) {q : (Int32 × xWd)} (x0 : Option Nat) (x1 : Int32) (x2 : Int32) (x3 : Int32) (x4 : Int32) (x5 : Int32) (w : xWd) (hf : f_X4_cue x0 x1 x2 x3 x4 x5 w = some q) : xk_X p l e { frames := 5, cells := 5, slots := 269, locals := 108 } s m args below meth c (MQ below (xk_Qi E q) args s 5 269 (xk_A E.2.2.1)) E 7 0 0 0 [(0, va_rf (x0)), (1, .int (x1)), (2, .int (x2)), (3, .int (x3)), (4, .int (x4)), (5, .int (x5))] [] w := by
  refine xk_iload_n hC dX4_cue_0 2 rfl rfl ?_
  refine xk_iconst (v := (-1 : Int32)) hC dX4_cue_1 (by decide) ?_
  refine xk_icmp_lt (tgt := 13) hC dX4_cue_2 (by decide) (fun c1 => ?_) (fun c1 => ?_)
  · replace hf := (if_pos c1).symm.trans hf
    refine xk_locals [] rfl ?_
    exact t_X4_cue_13 hC hr w hf
  · replace hf := (if_neg c1).symm.trans hf
    refine xk_iload_n hC dX4_cue_5 2 rfl rfl ?_
    refine xk_aload_n hC dX4_cue_6 0 rfl rfl ?_
    obtain ⟨v2, h2, hf⟩ := xk_bi hf
    refine xk_getI hC xi_0 xc_0 2 (by decide) xm_87 (Or.inl rfl) dX4_cue_7 h2 ?_
    refine xk_icmp_lt (tgt := 23) hC dX4_cue_10 (by decide) (fun c3 => ?_) (fun c3 => ?_)
    · replace hf := (if_pos c3).symm.trans hf
      refine xk_iload_n hC dX4_cue_23 1 rfl rfl ?_
      refine xk_if_lt (tgt := 46) hC dX4_cue_24 (by decide) (fun c4 => ?_) (fun c4 => ?_)
      · replace hf := (if_pos c4).symm.trans hf
        refine xk_locals [] rfl ?_
        exact t_X4_cue_46 hC hr w hf
      · replace hf := (if_neg c4).symm.trans hf
        refine xk_iload_n hC dX4_cue_27 1 rfl rfl ?_
        refine xk_aload_n hC dX4_cue_28 0 rfl rfl ?_
        obtain ⟨v5, h5, hf⟩ := xk_bi hf
        refine xk_getI hC xi_0 xc_0 5 (by decide) xm_90 (Or.inl rfl) dX4_cue_29 h5 ?_
        refine xk_icmp_gt (tgt := 46) hC dX4_cue_32 (by decide) (fun c6 => ?_) (fun c6 => ?_)
        · replace hf := (if_pos c6).symm.trans hf
          refine xk_locals [] rfl ?_
          exact t_X4_cue_46 hC hr w hf
        · replace hf := (if_neg c6).symm.trans hf
          refine xk_iload_n hC dX4_cue_35 3 rfl rfl ?_
          refine xk_iconst (v := (1 : Int32)) hC dX4_cue_36 (by decide) ?_
          refine xk_icmp_lt (tgt := 46) hC dX4_cue_37 (by decide) (fun c7 => ?_) (fun c7 => ?_)
          · replace hf := (if_pos c7).symm.trans hf
            refine xk_locals [] rfl ?_
            exact t_X4_cue_46 hC hr w hf
          · replace hf := (if_neg c7).symm.trans hf
            refine xk_iload_n hC dX4_cue_40 3 rfl rfl ?_
            refine xk_bipush (v := (40 : Int32)) hC dX4_cue_41 (by decide) ?_
            refine xk_icmp_le (tgt := 56) hC dX4_cue_43 (by decide) (fun c8 => ?_) (fun c8 => ?_)
            · replace hf := (if_pos c8).symm.trans hf
              refine xk_iload hC dX4_cue_56 4 rfl ?_
              refine xk_if_lt (tgt := 78) hC dX4_cue_58 (by decide) (fun c9 => ?_) (fun c9 => ?_)
              · replace hf := (if_pos c9).symm.trans hf
                refine xk_locals [] rfl ?_
                exact t_X4_cue_78 hC hr w hf
              · replace hf := (if_neg c9).symm.trans hf
                refine xk_iload hC dX4_cue_61 4 rfl ?_
                refine xk_iconst (v := (4 : Int32)) hC dX4_cue_63 (by decide) ?_
                refine xk_icmp_ge (tgt := 78) hC dX4_cue_64 (by decide) (fun c10 => ?_) (fun c10 => ?_)
                · replace hf := (if_pos c10).symm.trans hf
                  refine xk_locals [] rfl ?_
                  exact t_X4_cue_78 hC hr w hf
                · replace hf := (if_neg c10).symm.trans hf
                  refine xk_iload hC dX4_cue_67 5 rfl ?_
                  refine xk_if_lt (tgt := 78) hC dX4_cue_69 (by decide) (fun c11 => ?_) (fun c11 => ?_)
                  · replace hf := (if_pos c11).symm.trans hf
                    refine xk_locals [] rfl ?_
                    exact t_X4_cue_78 hC hr w hf
                  · replace hf := (if_neg c11).symm.trans hf
                    refine xk_iload hC dX4_cue_72 5 rfl ?_
                    refine xk_iconst (v := (2 : Int32)) hC dX4_cue_74 (by decide) ?_
                    refine xk_icmp_le (tgt := 88) hC dX4_cue_75 (by decide) (fun c12 => ?_) (fun c12 => ?_)
                    · replace hf := (if_pos c12).symm.trans hf
                      refine xk_aload_n hC dX4_cue_88 0 rfl rfl ?_
                      obtain ⟨v13, h13, hf⟩ := xk_bi hf
                      refine xk_getR hC xi_0 xc_0 3 (by decide) xm_88 (Or.inl rfl) dX4_cue_89 h13 ?_
                      obtain ⟨u15, h15, hf⟩ := xk_bi hf
                      obtain ⟨q14, h14, hf⟩ := xk_bi hf
                      refine xk_backi (xk_callV hC 0 xc_4 (c_Jx4a65c_size_8abf5 h14) h15 xm_130 xm_131 xm_132 xm_4 xm_133 ⟨rfl, xd_Jx4a65c_size_8abf5⟩ rfl ⟨Nat.le_of_ble_eq_true rfl, Nat.le_of_ble_eq_true rfl⟩ rfl (Nat.le_of_ble_eq_true rfl) dX4_cue_92 ⟨(Nat.le_of_ble_eq_true rfl), (Nat.le_of_ble_eq_true rfl)⟩) ?_
                      refine xk_bipush (v := (8 : Int32)) hC dX4_cue_95 (by decide) ?_
                      refine xk_icmp_lt (tgt := 110) hC dX4_cue_97 (by decide) (fun c16 => ?_) (fun c16 => ?_)
                      · replace hf := (if_pos c16).symm.trans hf
                        obtain ⟨w17, h17, hf⟩ := xk_bi hf
                        refine xk_newH hC xi_1 xc_1 xo_1 xm_187 xm_627 xm_25 xfo_1 (Nat.le_of_ble_eq_true rfl) (Nat.le_of_ble_eq_true rfl) dX4_cue_110 h17 ?_
                        refine xk_dup hC dX4_cue_113 (xk_cat1 _) ?_
                        refine xk_aload_n hC dX4_cue_114 0 rfl rfl ?_
                        obtain ⟨v18, h18, hf⟩ := xk_bi hf
                        refine xk_getR hC xi_0 xc_0 3 (by decide) xm_88 (Or.inl rfl) dX4_cue_115 h18 ?_
                        obtain ⟨u20, h20, hf⟩ := xk_bi hf
                        obtain ⟨q19, h19, hf⟩ := xk_bi hf
                        refine xk_backi (xk_callV hC 0 xc_4 (c_Jx4a65c_size_8abf5 h19) h20 xm_130 xm_131 xm_132 xm_4 xm_133 ⟨rfl, xd_Jx4a65c_size_8abf5⟩ rfl ⟨Nat.le_of_ble_eq_true rfl, Nat.le_of_ble_eq_true rfl⟩ rfl (Nat.le_of_ble_eq_true rfl) dX4_cue_118 ⟨(Nat.le_of_ble_eq_true rfl), (Nat.le_of_ble_eq_true rfl)⟩) ?_
                        refine xk_iload_n hC dX4_cue_121 1 rfl rfl ?_
                        refine xk_iload_n hC dX4_cue_122 2 rfl rfl ?_
                        refine xk_iload_n hC dX4_cue_123 3 rfl rfl ?_
                        refine xk_iload hC dX4_cue_124 4 rfl ?_
                        refine xk_iload hC dX4_cue_126 5 rfl ?_
                        obtain ⟨q21, h21, hf⟩ := xk_bi hf
                        refine xk_backv (xk_callI hC 6 (c_X0_init h21) xm_628 xm_629 xm_25 xm_630 rfl xd_X0_init rfl ⟨Nat.le_of_ble_eq_true rfl, Nat.le_of_ble_eq_true rfl⟩ rfl (Nat.le_of_ble_eq_true rfl) dX4_cue_128 ⟨(Nat.le_of_ble_eq_true rfl), (Nat.le_of_ble_eq_true rfl)⟩) ?_
                        refine xk_astore (i := 6) (lv' := [(6, va_rf (some q14.2.2.1)), (0, va_rf (x0)), (1, .int (x1)), (2, .int (x2)), (3, .int (x3)), (4, .int (x4)), (5, .int (x5))]) hC dX4_cue_131 (by decide) rfl ?_
                        refine xk_aload_n hC dX4_cue_133 1 rfl rfl ?_
                        obtain ⟨v22, h22, hf⟩ := xk_bi hf
                        refine xk_getR hC xi_0 xc_0 3 (by decide) xm_88 (Or.inl rfl) dX4_cue_134 h22 ?_
                        refine xk_aload hC dX4_cue_137 0 rfl ?_
                        obtain ⟨u24, h24, hf⟩ := xk_bi hf
                        obtain ⟨q23, h23, hf⟩ := xk_bi hf
                        refine xk_backi (xk_callV hC 1 xc_4 (c_Jx4a65c_add_9ea2d h23) h24 xm_582 xm_387 xm_388 xm_4 xm_389 ⟨rfl, xd_Jx4a65c_add_9ea2d⟩ rfl ⟨Nat.le_of_ble_eq_true rfl, Nat.le_of_ble_eq_true rfl⟩ rfl (Nat.le_of_ble_eq_true rfl) dX4_cue_139 ⟨(Nat.le_of_ble_eq_true rfl), (Nat.le_of_ble_eq_true rfl)⟩) ?_
                        refine xk_pop hC dX4_cue_142 rfl ?_
                        refine xk_aload hC dX4_cue_143 0 rfl ?_
                        obtain ⟨v25, h25, hf⟩ := xk_bi hf
                        refine xk_getI hC xi_1 xc_1 0 (by decide) xm_633 (Or.inl rfl) dX4_cue_145 h25 ?_
                        cases hf
                        refine xk_widen (k := 5) (n := 269) (Nat.le_of_ble_eq_true rfl) (Nat.le_of_ble_eq_true rfl) ?_
                        exact xk_iret hC hr rfl dX4_cue_148
                      · replace hf := (if_neg c16).symm.trans hf
                        cases hf
                    · replace hf := (if_neg c12).symm.trans hf
                      refine xk_locals [] rfl ?_
                      exact t_X4_cue_78 hC hr w hf
            · replace hf := (if_neg c8).symm.trans hf
              refine xk_locals [] rfl ?_
              exact t_X4_cue_46 hC hr w hf
    · replace hf := (if_neg c3).symm.trans hf
      refine xk_locals [] rfl ?_
      exact t_X4_cue_13 hC hr w hf
theorem xd_X4_cue : xy_X4_cue.cls ≠ "java/lang/invoke/MethodHandle" ∧ xy_X4_cue.cls ≠ "java/lang/invoke/VarHandle" ∧ (parseMethodDescriptor xy_X4_cue.desc).map (fun d => d.parameters.length) = some 5 := ⟨by decide +kernel, by decide +kernel, by decide +kernel⟩
theorem c_X4_cue {l : Launch} {E : xEv} {x0 : Option Nat} {x1 : Int32} {x2 : Int32} {x3 : Int32} {x4 : Int32} {x5 : Int32} {w : xWd} {q : (Int32 × xWd)} (hf : f_X4_cue x0 x1 x2 x3 x4 x5 w = some q) : xk_M l xy_X4_cue prog_1_method_9_code 7 (some .int) 5 108 5 269 E [va_rf (x0), .int (x1), .int (x2), .int (x3), .int (x4), .int (x5)] w (xk_Qi E q) := by
  refine xk_enter (by decide +kernel) (by simp [lg_sl, xk_cat1, xk_cati, xk_catl, xk_catd]) ?_
  intro p e s m args below meth c hC hr hin ha
  rw [show lv_args 0 [va_rf (x0), .int (x1), .int (x2), .int (x3), .int (x4), .int (x5)] = [(0, va_rf (x0)), (1, .int (x1)), (2, .int (x2)), (3, .int (x3)), (4, .int (x4)), (5, .int (x5))] by simp [lv_args, xk_cat1, xk_cati, xk_catl, xk_catd]]
  exact t_X4_cue_0 hC hr x0 x1 x2 x3 x4 x5 w hf
def e_X4_cue_13 (w : xWd) : Option (Nat × xWd) := some (2, (w.1, w.2.1 + 1, w.2.2))
set_option maxHeartbeats 4000000 in
set_option maxRecDepth 100000 in
theorem te_X4_cue_13 {p : Program} {l : Launch} {e : Env} {s : State} {m : MethodId} {args : Array Value} {below : List Frame} {meth : Method} {c : Code} {E : xEv} (hC : xk_C p s m args meth c E prog_1_method_9_code "Clickbook" 7) (hr : meth.sig.returnType = (some .int)) (hX : ∀ x ∈ c.exceptionTable.toList, False) (hl9 : l.stackTraces = false) {q : (Nat × xWd)} (w : xWd) (hf : e_X4_cue_13 w = some q) : xk_X p l e { frames := 6, cells := 5, slots := 269, locals := 108 } s m args below meth c (vx_MQ below xk_QN (xk_XC E q) args s 5 269 (xk_A E.2.2.1)) E 7 0 0 13 [] [] w := by
  cases hf
  exact xk_throw (k := 2) (B := [Cond.declares ⟨"java/lang/RuntimeException", "<init>", "(Ljava/lang/String;)V"⟩, Cond.declares ⟨"java/lang/Exception", "<init>", "(Ljava/lang/String;)V"⟩, Cond.declares ⟨"java/lang/Throwable", "<init>", "(Ljava/lang/String;)V"⟩, Cond.castable "java/lang/IndexOutOfBoundsException" "java/lang/IndexOutOfBoundsException"]) (names := ["java/lang/RuntimeException", "java/lang/Exception"]) hC hX hl9 rfl (by decide +kernel) (by decide +kernel) rfl xm_318 xm_24 (xk_note27 hC) xw_2a xw_2b (vx_c (va_Nw.use rfl (xk_note2 hC)) (vx_c (va_Nw.use rfl (xk_note3 hC)) (vx_c (va_Nw.use rfl (xk_note4 hC)) (vx_c (va_Nw.use rfl (xk_note6 hC)) vx_n)))) xw_2c dX4_cue_13 dX4_cue_16 dX4_cue_17 dX4_cue_19 dX4_cue_22 (Nat.le_of_ble_eq_true rfl) (Nat.le_of_ble_eq_true rfl) (Nat.le_of_ble_eq_true rfl) (Nat.le_of_ble_eq_true rfl) (Nat.le_of_ble_eq_true rfl) (Nat.le_of_ble_eq_true rfl)
def e_X4_cue_46 (w : xWd) : Option (Nat × xWd) := some (0, (w.1, w.2.1 + 1, w.2.2))
set_option maxHeartbeats 4000000 in
set_option maxRecDepth 100000 in
theorem te_X4_cue_46 {p : Program} {l : Launch} {e : Env} {s : State} {m : MethodId} {args : Array Value} {below : List Frame} {meth : Method} {c : Code} {E : xEv} (hC : xk_C p s m args meth c E prog_1_method_9_code "Clickbook" 7) (hr : meth.sig.returnType = (some .int)) (hX : ∀ x ∈ c.exceptionTable.toList, False) (hl9 : l.stackTraces = false) {q : (Nat × xWd)} (w : xWd) (hf : e_X4_cue_46 w = some q) : xk_X p l e { frames := 6, cells := 5, slots := 269, locals := 108 } s m args below meth c (vx_MQ below xk_QN (xk_XC E q) args s 5 269 (xk_A E.2.2.1)) E 7 0 0 46 [] [] w := by
  cases hf
  exact xk_throw (k := 0) (B := [Cond.declares ⟨"java/lang/RuntimeException", "<init>", "(Ljava/lang/String;)V"⟩, Cond.declares ⟨"java/lang/Exception", "<init>", "(Ljava/lang/String;)V"⟩, Cond.declares ⟨"java/lang/Throwable", "<init>", "(Ljava/lang/String;)V"⟩, Cond.castable "java/lang/IllegalArgumentException" "java/lang/IllegalArgumentException"]) (names := ["java/lang/RuntimeException", "java/lang/Exception"]) hC hX hl9 rfl (by decide +kernel) (by decide +kernel) rfl xm_242 xm_10 (xk_note28 hC) xw_0a xw_0b (vx_c (va_Nw.use rfl (xk_note2 hC)) (vx_c (va_Nw.use rfl (xk_note3 hC)) (vx_c (va_Nw.use rfl (xk_note4 hC)) (vx_c (va_Nw.use rfl (xk_note1 hC)) vx_n)))) xw_0c dX4_cue_46 dX4_cue_49 dX4_cue_50 dX4_cue_52 dX4_cue_55 (Nat.le_of_ble_eq_true rfl) (Nat.le_of_ble_eq_true rfl) (Nat.le_of_ble_eq_true rfl) (Nat.le_of_ble_eq_true rfl) (Nat.le_of_ble_eq_true rfl) (Nat.le_of_ble_eq_true rfl)
def e_X4_cue_78 (w : xWd) : Option (Nat × xWd) := some (0, (w.1, w.2.1 + 1, w.2.2))
set_option maxHeartbeats 4000000 in
set_option maxRecDepth 100000 in
theorem te_X4_cue_78 {p : Program} {l : Launch} {e : Env} {s : State} {m : MethodId} {args : Array Value} {below : List Frame} {meth : Method} {c : Code} {E : xEv} (hC : xk_C p s m args meth c E prog_1_method_9_code "Clickbook" 7) (hr : meth.sig.returnType = (some .int)) (hX : ∀ x ∈ c.exceptionTable.toList, False) (hl9 : l.stackTraces = false) {q : (Nat × xWd)} (w : xWd) (hf : e_X4_cue_78 w = some q) : xk_X p l e { frames := 6, cells := 5, slots := 269, locals := 108 } s m args below meth c (vx_MQ below xk_QN (xk_XC E q) args s 5 269 (xk_A E.2.2.1)) E 7 0 0 78 [] [] w := by
  cases hf
  exact xk_throw (k := 0) (B := [Cond.declares ⟨"java/lang/RuntimeException", "<init>", "(Ljava/lang/String;)V"⟩, Cond.declares ⟨"java/lang/Exception", "<init>", "(Ljava/lang/String;)V"⟩, Cond.declares ⟨"java/lang/Throwable", "<init>", "(Ljava/lang/String;)V"⟩, Cond.castable "java/lang/IllegalArgumentException" "java/lang/IllegalArgumentException"]) (names := ["java/lang/RuntimeException", "java/lang/Exception"]) hC hX hl9 rfl (by decide +kernel) (by decide +kernel) rfl xm_242 xm_10 (xk_note29 hC) xw_0a xw_0b (vx_c (va_Nw.use rfl (xk_note2 hC)) (vx_c (va_Nw.use rfl (xk_note3 hC)) (vx_c (va_Nw.use rfl (xk_note4 hC)) (vx_c (va_Nw.use rfl (xk_note1 hC)) vx_n)))) xw_0c dX4_cue_78 dX4_cue_81 dX4_cue_82 dX4_cue_84 dX4_cue_87 (Nat.le_of_ble_eq_true rfl) (Nat.le_of_ble_eq_true rfl) (Nat.le_of_ble_eq_true rfl) (Nat.le_of_ble_eq_true rfl) (Nat.le_of_ble_eq_true rfl) (Nat.le_of_ble_eq_true rfl)
def e_X4_cue (x0 : Option Nat) (x1 : Int32) (x2 : Int32) (x3 : Int32) (x4 : Int32) (x5 : Int32) (w : xWd) : Option (Nat × xWd) := if (x2) < ((-1 : Int32)) then e_X4_cue_13 w else (xk_gI w (x0) 0 2).bind (fun v2 => if (x2) < (v2) then if (x1) < ((0 : Int32)) then e_X4_cue_46 w else (xk_gI w (x0) 0 5).bind (fun v5 => if (v5) < (x1) then e_X4_cue_46 w else if (x3) < ((1 : Int32)) then e_X4_cue_46 w else if (x3) ≤ ((40 : Int32)) then if (x4) < ((0 : Int32)) then e_X4_cue_78 w else if ((4 : Int32)) ≤ (x4) then e_X4_cue_78 w else if (x5) < ((0 : Int32)) then e_X4_cue_78 w else if (x5) ≤ ((2 : Int32)) then (xk_gR w (x0) 0 3).bind (fun v13 => (xk_is w (v13) 4).bind (fun u15 => (f_Jx4a65c_size_8abf5 (v13)  w).bind (fun q14 => if (q14.1) < ((8 : Int32)) then (some (xk_nw q14.2 1 xf_1)).bind (fun w17 => (xk_gR w17 (x0) 0 3).bind (fun v18 => (xk_is w17 (v18) 4).bind (fun u20 => (f_Jx4a65c_size_8abf5 (v18)  w17).bind (fun q19 => (f_X0_init (q14.2.2.1) (q19.1) (x1) (x2) (x3) (x4) (x5) q19.2).bind (fun q21 => (xk_gR q21 (x0) 0 3).bind (fun v22 => (xk_is q21 (v22) 4).bind (fun u24 => (f_Jx4a65c_add_9ea2d (v22) (some q14.2.2.1) q21).bind (fun q23 => (xk_gI q23.2 (some q14.2.2.1) 1 0).bind (fun v25 => none))))))))) else some (1, (q14.2.1, q14.2.2.1 + 1, q14.2.2.2))))) else e_X4_cue_78 w else e_X4_cue_46 w) else e_X4_cue_13 w)
set_option maxHeartbeats 4000000 in
set_option maxRecDepth 100000 in
theorem te_X4_cue_0 {p : Program} {l : Launch} {e : Env} {s : State} {m : MethodId} {args : Array Value} {below : List Frame} {meth : Method} {c : Code} {E : xEv} (hC : xk_C p s m args meth c E prog_1_method_9_code "Clickbook" 7) (hr : meth.sig.returnType = (some .int)) (hX : ∀ x ∈ c.exceptionTable.toList, False) (hl9 : l.stackTraces = false) {q : (Nat × xWd)} (x0 : Option Nat) (x1 : Int32) (x2 : Int32) (x3 : Int32) (x4 : Int32) (x5 : Int32) (w : xWd) (hf : e_X4_cue x0 x1 x2 x3 x4 x5 w = some q) : xk_X p l e { frames := 6, cells := 5, slots := 269, locals := 108 } s m args below meth c (vx_MQ below xk_QN (xk_XC E q) args s 5 269 (xk_A E.2.2.1)) E 7 0 0 0 [(0, va_rf (x0)), (1, .int (x1)), (2, .int (x2)), (3, .int (x3)), (4, .int (x4)), (5, .int (x5))] [] w := by
  refine xk_iload_n hC dX4_cue_0 2 rfl rfl ?_
  refine xk_iconst (v := (-1 : Int32)) hC dX4_cue_1 (by decide) ?_
  refine xk_icmp_lt (tgt := 13) hC dX4_cue_2 (by decide) (fun c1 => ?_) (fun c1 => ?_)
  · replace hf := (if_pos c1).symm.trans hf
    refine xk_locals [] rfl ?_
    exact te_X4_cue_13 hC hr hX hl9 w hf
  · replace hf := (if_neg c1).symm.trans hf
    refine xk_iload_n hC dX4_cue_5 2 rfl rfl ?_
    refine xk_aload_n hC dX4_cue_6 0 rfl rfl ?_
    obtain ⟨v2, h2, hf⟩ := xk_bi hf
    refine xk_getI hC xi_0 xc_0 2 (by decide) xm_87 (Or.inl rfl) dX4_cue_7 h2 ?_
    refine xk_icmp_lt (tgt := 23) hC dX4_cue_10 (by decide) (fun c3 => ?_) (fun c3 => ?_)
    · replace hf := (if_pos c3).symm.trans hf
      refine xk_iload_n hC dX4_cue_23 1 rfl rfl ?_
      refine xk_if_lt (tgt := 46) hC dX4_cue_24 (by decide) (fun c4 => ?_) (fun c4 => ?_)
      · replace hf := (if_pos c4).symm.trans hf
        refine xk_locals [] rfl ?_
        exact te_X4_cue_46 hC hr hX hl9 w hf
      · replace hf := (if_neg c4).symm.trans hf
        refine xk_iload_n hC dX4_cue_27 1 rfl rfl ?_
        refine xk_aload_n hC dX4_cue_28 0 rfl rfl ?_
        obtain ⟨v5, h5, hf⟩ := xk_bi hf
        refine xk_getI hC xi_0 xc_0 5 (by decide) xm_90 (Or.inl rfl) dX4_cue_29 h5 ?_
        refine xk_icmp_gt (tgt := 46) hC dX4_cue_32 (by decide) (fun c6 => ?_) (fun c6 => ?_)
        · replace hf := (if_pos c6).symm.trans hf
          refine xk_locals [] rfl ?_
          exact te_X4_cue_46 hC hr hX hl9 w hf
        · replace hf := (if_neg c6).symm.trans hf
          refine xk_iload_n hC dX4_cue_35 3 rfl rfl ?_
          refine xk_iconst (v := (1 : Int32)) hC dX4_cue_36 (by decide) ?_
          refine xk_icmp_lt (tgt := 46) hC dX4_cue_37 (by decide) (fun c7 => ?_) (fun c7 => ?_)
          · replace hf := (if_pos c7).symm.trans hf
            refine xk_locals [] rfl ?_
            exact te_X4_cue_46 hC hr hX hl9 w hf
          · replace hf := (if_neg c7).symm.trans hf
            refine xk_iload_n hC dX4_cue_40 3 rfl rfl ?_
            refine xk_bipush (v := (40 : Int32)) hC dX4_cue_41 (by decide) ?_
            refine xk_icmp_le (tgt := 56) hC dX4_cue_43 (by decide) (fun c8 => ?_) (fun c8 => ?_)
            · replace hf := (if_pos c8).symm.trans hf
              refine xk_iload hC dX4_cue_56 4 rfl ?_
              refine xk_if_lt (tgt := 78) hC dX4_cue_58 (by decide) (fun c9 => ?_) (fun c9 => ?_)
              · replace hf := (if_pos c9).symm.trans hf
                refine xk_locals [] rfl ?_
                exact te_X4_cue_78 hC hr hX hl9 w hf
              · replace hf := (if_neg c9).symm.trans hf
                refine xk_iload hC dX4_cue_61 4 rfl ?_
                refine xk_iconst (v := (4 : Int32)) hC dX4_cue_63 (by decide) ?_
                refine xk_icmp_ge (tgt := 78) hC dX4_cue_64 (by decide) (fun c10 => ?_) (fun c10 => ?_)
                · replace hf := (if_pos c10).symm.trans hf
                  refine xk_locals [] rfl ?_
                  exact te_X4_cue_78 hC hr hX hl9 w hf
                · replace hf := (if_neg c10).symm.trans hf
                  refine xk_iload hC dX4_cue_67 5 rfl ?_
                  refine xk_if_lt (tgt := 78) hC dX4_cue_69 (by decide) (fun c11 => ?_) (fun c11 => ?_)
                  · replace hf := (if_pos c11).symm.trans hf
                    refine xk_locals [] rfl ?_
                    exact te_X4_cue_78 hC hr hX hl9 w hf
                  · replace hf := (if_neg c11).symm.trans hf
                    refine xk_iload hC dX4_cue_72 5 rfl ?_
                    refine xk_iconst (v := (2 : Int32)) hC dX4_cue_74 (by decide) ?_
                    refine xk_icmp_le (tgt := 88) hC dX4_cue_75 (by decide) (fun c12 => ?_) (fun c12 => ?_)
                    · replace hf := (if_pos c12).symm.trans hf
                      refine xk_aload_n hC dX4_cue_88 0 rfl rfl ?_
                      obtain ⟨v13, h13, hf⟩ := xk_bi hf
                      refine xk_getR hC xi_0 xc_0 3 (by decide) xm_88 (Or.inl rfl) dX4_cue_89 h13 ?_
                      obtain ⟨u15, h15, hf⟩ := xk_bi hf
                      obtain ⟨q14, h14, hf⟩ := xk_bi hf
                      refine xk_backi (xk_callV hC 0 xc_4 (c_Jx4a65c_size_8abf5 h14) h15 xm_130 xm_131 xm_132 xm_4 xm_133 ⟨rfl, xd_Jx4a65c_size_8abf5⟩ rfl ⟨Nat.le_of_ble_eq_true rfl, Nat.le_of_ble_eq_true rfl⟩ rfl (Nat.le_of_ble_eq_true rfl) dX4_cue_92 ⟨(Nat.le_of_ble_eq_true rfl), (Nat.le_of_ble_eq_true rfl)⟩) ?_
                      refine xk_bipush (v := (8 : Int32)) hC dX4_cue_95 (by decide) ?_
                      refine xk_icmp_lt (tgt := 110) hC dX4_cue_97 (by decide) (fun c16 => ?_) (fun c16 => ?_)
                      · replace hf := (if_pos c16).symm.trans hf
                        obtain ⟨w17, h17, hf⟩ := xk_bi hf
                        refine xk_newH hC xi_1 xc_1 xo_1 xm_187 xm_627 xm_25 xfo_1 (Nat.le_of_ble_eq_true rfl) (Nat.le_of_ble_eq_true rfl) dX4_cue_110 h17 ?_
                        refine xk_dup hC dX4_cue_113 (xk_cat1 _) ?_
                        refine xk_aload_n hC dX4_cue_114 0 rfl rfl ?_
                        obtain ⟨v18, h18, hf⟩ := xk_bi hf
                        refine xk_getR hC xi_0 xc_0 3 (by decide) xm_88 (Or.inl rfl) dX4_cue_115 h18 ?_
                        obtain ⟨u20, h20, hf⟩ := xk_bi hf
                        obtain ⟨q19, h19, hf⟩ := xk_bi hf
                        refine xk_backi (xk_callV hC 0 xc_4 (c_Jx4a65c_size_8abf5 h19) h20 xm_130 xm_131 xm_132 xm_4 xm_133 ⟨rfl, xd_Jx4a65c_size_8abf5⟩ rfl ⟨Nat.le_of_ble_eq_true rfl, Nat.le_of_ble_eq_true rfl⟩ rfl (Nat.le_of_ble_eq_true rfl) dX4_cue_118 ⟨(Nat.le_of_ble_eq_true rfl), (Nat.le_of_ble_eq_true rfl)⟩) ?_
                        refine xk_iload_n hC dX4_cue_121 1 rfl rfl ?_
                        refine xk_iload_n hC dX4_cue_122 2 rfl rfl ?_
                        refine xk_iload_n hC dX4_cue_123 3 rfl rfl ?_
                        refine xk_iload hC dX4_cue_124 4 rfl ?_
                        refine xk_iload hC dX4_cue_126 5 rfl ?_
                        obtain ⟨q21, h21, hf⟩ := xk_bi hf
                        refine xk_backv (xk_callI hC 6 (c_X0_init h21) xm_628 xm_629 xm_25 xm_630 rfl xd_X0_init rfl ⟨Nat.le_of_ble_eq_true rfl, Nat.le_of_ble_eq_true rfl⟩ rfl (Nat.le_of_ble_eq_true rfl) dX4_cue_128 ⟨(Nat.le_of_ble_eq_true rfl), (Nat.le_of_ble_eq_true rfl)⟩) ?_
                        refine xk_astore (i := 6) (lv' := [(6, va_rf (some q14.2.2.1)), (0, va_rf (x0)), (1, .int (x1)), (2, .int (x2)), (3, .int (x3)), (4, .int (x4)), (5, .int (x5))]) hC dX4_cue_131 (by decide) rfl ?_
                        refine xk_aload_n hC dX4_cue_133 1 rfl rfl ?_
                        obtain ⟨v22, h22, hf⟩ := xk_bi hf
                        refine xk_getR hC xi_0 xc_0 3 (by decide) xm_88 (Or.inl rfl) dX4_cue_134 h22 ?_
                        refine xk_aload hC dX4_cue_137 0 rfl ?_
                        obtain ⟨u24, h24, hf⟩ := xk_bi hf
                        obtain ⟨q23, h23, hf⟩ := xk_bi hf
                        refine xk_backi (xk_callV hC 1 xc_4 (c_Jx4a65c_add_9ea2d h23) h24 xm_582 xm_387 xm_388 xm_4 xm_389 ⟨rfl, xd_Jx4a65c_add_9ea2d⟩ rfl ⟨Nat.le_of_ble_eq_true rfl, Nat.le_of_ble_eq_true rfl⟩ rfl (Nat.le_of_ble_eq_true rfl) dX4_cue_139 ⟨(Nat.le_of_ble_eq_true rfl), (Nat.le_of_ble_eq_true rfl)⟩) ?_
                        refine xk_pop hC dX4_cue_142 rfl ?_
                        refine xk_aload hC dX4_cue_143 0 rfl ?_
                        obtain ⟨v25, h25, hf⟩ := xk_bi hf
                        refine xk_getI hC xi_1 xc_1 0 (by decide) xm_633 (Or.inl rfl) dX4_cue_145 h25 ?_
                        cases hf
                      · replace hf := (if_neg c16).symm.trans hf
                        cases hf
                        exact xk_throw (k := 1) (B := [Cond.declares ⟨"java/lang/RuntimeException", "<init>", "(Ljava/lang/String;)V"⟩, Cond.declares ⟨"java/lang/Exception", "<init>", "(Ljava/lang/String;)V"⟩, Cond.declares ⟨"java/lang/Throwable", "<init>", "(Ljava/lang/String;)V"⟩, Cond.castable "java/lang/IllegalStateException" "java/lang/IllegalStateException"]) (names := ["java/lang/RuntimeException", "java/lang/Exception"]) hC hX hl9 rfl (by decide +kernel) (by decide +kernel) rfl xm_548 xm_11 (xk_note30 hC) xw_1a xw_1b (vx_c (va_Nw.use rfl (xk_note2 hC)) (vx_c (va_Nw.use rfl (xk_note3 hC)) (vx_c (va_Nw.use rfl (xk_note4 hC)) (vx_c (va_Nw.use rfl (xk_note20 hC)) vx_n)))) xw_1c dX4_cue_100 dX4_cue_103 dX4_cue_104 dX4_cue_106 dX4_cue_109 (Nat.le_of_ble_eq_true rfl) (Nat.le_of_ble_eq_true rfl) (Nat.le_of_ble_eq_true rfl) (Nat.le_of_ble_eq_true rfl) (Nat.le_of_ble_eq_true rfl) (Nat.le_of_ble_eq_true rfl)
                    · replace hf := (if_neg c12).symm.trans hf
                      refine xk_locals [] rfl ?_
                      exact te_X4_cue_78 hC hr hX hl9 w hf
            · replace hf := (if_neg c8).symm.trans hf
              refine xk_locals [] rfl ?_
              exact te_X4_cue_46 hC hr hX hl9 w hf
    · replace hf := (if_neg c3).symm.trans hf
      refine xk_locals [] rfl ?_
      exact te_X4_cue_13 hC hr hX hl9 w hf
theorem ce_X4_cue {l : Launch} (hl9 : l.stackTraces = false) {E : xEv} {x0 : Option Nat} {x1 : Int32} {x2 : Int32} {x3 : Int32} {x4 : Int32} {x5 : Int32} {w : xWd} {q : Nat × xWd} (hf : e_X4_cue x0 x1 x2 x3 x4 x5 w = some q) : xk_MX l xy_X4_cue prog_1_method_9_code 7 (some .int) 6 108 5 269 E [va_rf (x0), .int (x1), .int (x2), .int (x3), .int (x4), .int (x5)] w q := by
  refine xk_enterX (by decide +kernel) (by simp [lg_sl, xk_cat1, xk_cati, xk_catl, xk_catd]) ?_
  intro p e s m args below meth c hC hr hX ha
  rw [show lv_args 0 [va_rf (x0), .int (x1), .int (x2), .int (x3), .int (x4), .int (x5)] = [(0, va_rf (x0)), (1, .int (x1)), (2, .int (x2)), (3, .int (x3)), (4, .int (x4)), (5, .int (x5))] by simp [lv_args, xk_cat1, xk_cati, xk_catl, xk_catd]]
  exact te_X4_cue_0 hC hr hX hl9 x0 x1 x2 x3 x4 x5 w hf
def e_X4_cueNumbered_15 (w : xWd) : Option (Nat × xWd) := some (2, (w.1, w.2.1 + 1, w.2.2))
set_option maxHeartbeats 4000000 in
set_option maxRecDepth 100000 in
theorem te_X4_cueNumbered_15 {p : Program} {l : Launch} {e : Env} {s : State} {m : MethodId} {args : Array Value} {below : List Frame} {meth : Method} {c : Code} {E : xEv} (hC : xk_C p s m args meth c E prog_1_method_13_code "Clickbook" 2) (hr : meth.sig.returnType = (some (.object "Clickbook$Cue"))) (hX : ∀ x ∈ c.exceptionTable.toList, False) (hl9 : l.stackTraces = false) {q : (Nat × xWd)} (w : xWd) (hf : e_X4_cueNumbered_15 w = some q) : xk_X p l e { frames := 6, cells := 1, slots := 6, locals := 92 } s m args below meth c (vx_MQ below xk_QN (xk_XC E q) args s 1 6 (xk_A E.2.2.1)) E 2 0 0 15 [] [] w := by
  cases hf
  exact xk_throw (k := 2) (B := [Cond.declares ⟨"java/lang/RuntimeException", "<init>", "(Ljava/lang/String;)V"⟩, Cond.declares ⟨"java/lang/Exception", "<init>", "(Ljava/lang/String;)V"⟩, Cond.declares ⟨"java/lang/Throwable", "<init>", "(Ljava/lang/String;)V"⟩, Cond.castable "java/lang/IndexOutOfBoundsException" "java/lang/IndexOutOfBoundsException"]) (names := ["java/lang/RuntimeException", "java/lang/Exception"]) hC hX hl9 rfl (by decide +kernel) (by decide +kernel) rfl xm_318 xm_24 (xk_note9 hC) xw_2a xw_2b (vx_c (va_Nw.use rfl (xk_note2 hC)) (vx_c (va_Nw.use rfl (xk_note3 hC)) (vx_c (va_Nw.use rfl (xk_note4 hC)) (vx_c (va_Nw.use rfl (xk_note6 hC)) vx_n)))) xw_2c dX4_cueNumbered_15 dX4_cueNumbered_18 dX4_cueNumbered_19 dX4_cueNumbered_21 dX4_cueNumbered_24 (Nat.le_of_ble_eq_true rfl) (Nat.le_of_ble_eq_true rfl) (Nat.le_of_ble_eq_true rfl) (Nat.le_of_ble_eq_true rfl) (Nat.le_of_ble_eq_true rfl) (Nat.le_of_ble_eq_true rfl)
def e_X4_cueNumbered (x0 : Option Nat) (x1 : Int32) (w : xWd) : Option (Nat × xWd) := if (x1) < ((0 : Int32)) then e_X4_cueNumbered_15 w else (xk_gR w (x0) 0 3).bind (fun v2 => (xk_is w (v2) 4).bind (fun u4 => (f_Jx4a65c_size_8abf5 (v2)  w).bind (fun q3 => if (x1) < (q3.1) then (xk_gR q3.2 (x0) 0 3).bind (fun v6 => none) else e_X4_cueNumbered_15 (q3.2))))
set_option maxHeartbeats 4000000 in
set_option maxRecDepth 100000 in
theorem te_X4_cueNumbered_0 {p : Program} {l : Launch} {e : Env} {s : State} {m : MethodId} {args : Array Value} {below : List Frame} {meth : Method} {c : Code} {E : xEv} (hC : xk_C p s m args meth c E prog_1_method_13_code "Clickbook" 2) (hr : meth.sig.returnType = (some (.object "Clickbook$Cue"))) (hX : ∀ x ∈ c.exceptionTable.toList, False) (hl9 : l.stackTraces = false) {q : (Nat × xWd)} (x0 : Option Nat) (x1 : Int32) (w : xWd) (hf : e_X4_cueNumbered x0 x1 w = some q) : xk_X p l e { frames := 6, cells := 1, slots := 6, locals := 92 } s m args below meth c (vx_MQ below xk_QN (xk_XC E q) args s 1 6 (xk_A E.2.2.1)) E 2 0 0 0 [(0, va_rf (x0)), (1, .int (x1))] [] w := by
  refine xk_iload_n hC dX4_cueNumbered_0 1 rfl rfl ?_
  refine xk_if_lt (tgt := 15) hC dX4_cueNumbered_1 (by decide) (fun c1 => ?_) (fun c1 => ?_)
  · replace hf := (if_pos c1).symm.trans hf
    refine xk_locals [] rfl ?_
    exact te_X4_cueNumbered_15 hC hr hX hl9 w hf
  · replace hf := (if_neg c1).symm.trans hf
    refine xk_iload_n hC dX4_cueNumbered_4 1 rfl rfl ?_
    refine xk_aload_n hC dX4_cueNumbered_5 0 rfl rfl ?_
    obtain ⟨v2, h2, hf⟩ := xk_bi hf
    refine xk_getR hC xi_0 xc_0 3 (by decide) xm_88 (Or.inl rfl) dX4_cueNumbered_6 h2 ?_
    obtain ⟨u4, h4, hf⟩ := xk_bi hf
    obtain ⟨q3, h3, hf⟩ := xk_bi hf
    refine xk_backi (xk_callV hC 0 xc_4 (c_Jx4a65c_size_8abf5 h3) h4 xm_130 xm_131 xm_132 xm_4 xm_133 ⟨rfl, xd_Jx4a65c_size_8abf5⟩ rfl ⟨Nat.le_of_ble_eq_true rfl, Nat.le_of_ble_eq_true rfl⟩ rfl (Nat.le_of_ble_eq_true rfl) dX4_cueNumbered_9 ⟨(Nat.le_of_ble_eq_true rfl), (Nat.le_of_ble_eq_true rfl)⟩) ?_
    refine xk_icmp_lt (tgt := 25) hC dX4_cueNumbered_12 (by decide) (fun c5 => ?_) (fun c5 => ?_)
    · replace hf := (if_pos c5).symm.trans hf
      refine xk_aload_n hC dX4_cueNumbered_25 0 rfl rfl ?_
      obtain ⟨v6, h6, hf⟩ := xk_bi hf
      refine xk_getR hC xi_0 xc_0 3 (by decide) xm_88 (Or.inl rfl) dX4_cueNumbered_26 h6 ?_
      refine xk_iload_n hC dX4_cueNumbered_29 1 rfl rfl ?_
      cases hf
    · replace hf := (if_neg c5).symm.trans hf
      refine xk_locals [] rfl ?_
      exact te_X4_cueNumbered_15 hC hr hX hl9 (q3.2) hf
theorem xd_X4_cueNumbered : xy_X4_cueNumbered.cls ≠ "java/lang/invoke/MethodHandle" ∧ xy_X4_cueNumbered.cls ≠ "java/lang/invoke/VarHandle" ∧ (parseMethodDescriptor xy_X4_cueNumbered.desc).map (fun d => d.parameters.length) = some 1 := ⟨by decide +kernel, by decide +kernel, by decide +kernel⟩
theorem ce_X4_cueNumbered {l : Launch} (hl9 : l.stackTraces = false) {E : xEv} {x0 : Option Nat} {x1 : Int32} {w : xWd} {q : Nat × xWd} (hf : e_X4_cueNumbered x0 x1 w = some q) : xk_MX l xy_X4_cueNumbered prog_1_method_13_code 2 (some (.object "Clickbook$Cue")) 6 92 1 6 E [va_rf (x0), .int (x1)] w q := by
  refine xk_enterX (by decide +kernel) (by simp [lg_sl, xk_cat1, xk_cati, xk_catl, xk_catd]) ?_
  intro p e s m args below meth c hC hr hX ha
  rw [show lv_args 0 [va_rf (x0), .int (x1)] = [(0, va_rf (x0)), (1, .int (x1))] by simp [lv_args, xk_cat1, xk_cati, xk_catl, xk_catd]]
  exact te_X4_cueNumbered_0 hC hr hX hl9 x0 x1 w hf
def e_X4_bar (x0 : Option Nat) (x1 : Int32) (x2 : Int32) (x3 : Int32) (w : xWd) : Option (Nat × xWd) := (xk_is w (x0) 0).bind (fun u2 => e_X4_cueNumbered (x0) (x1) w)
set_option maxHeartbeats 4000000 in
set_option maxRecDepth 100000 in
theorem te_X4_bar_0 {p : Program} {l : Launch} {e : Env} {s : State} {m : MethodId} {args : Array Value} {below : List Frame} {meth : Method} {c : Code} {E : xEv} (hC : xk_C p s m args meth c E prog_1_method_10_code "Clickbook" 5) (hr : meth.sig.returnType = (some .int)) (hX : ∀ x ∈ c.exceptionTable.toList, False) (hl9 : l.stackTraces = false) {q : (Nat × xWd)} (x0 : Option Nat) (x1 : Int32) (x2 : Int32) (x3 : Int32) (w : xWd) (hf : e_X4_bar x0 x1 x2 x3 w = some q) : xk_X p l e { frames := 7, cells := 1, slots := 6, locals := 113 } s m args below meth c (vx_MQ below xk_QN (xk_XC E q) args s 1 6 (xk_A E.2.2.1)) E 5 0 0 0 [(0, va_rf (x0)), (1, .int (x1)), (2, .int (x2)), (3, .int (x3))] [] w := by
  refine xk_aload_n hC dX4_bar_0 0 rfl rfl ?_
  refine xk_iload_n hC dX4_bar_1 1 rfl rfl ?_
  obtain ⟨u2, h2, hf⟩ := xk_bi hf
  exact xk_outX hC hX (Nat.le_of_ble_eq_true rfl) (Nat.le_of_ble_eq_true rfl) (xk_callVX (av := [.int (x1)]) (rest := []) hC 1 xc_0 (ce_X4_cueNumbered hl9 hf) h2 xm_368 xm_370 xm_p19 xm_1 xm_371 ⟨rfl, xd_X4_cueNumbered⟩ rfl ⟨Nat.le_of_ble_eq_true rfl, Nat.le_of_ble_eq_true rfl⟩ rfl (Nat.le_of_ble_eq_true rfl) dX4_bar_2 ⟨(Nat.le_of_ble_eq_true rfl), (Nat.le_of_ble_eq_true rfl)⟩)
theorem xd_X4_bar : xy_X4_bar.cls ≠ "java/lang/invoke/MethodHandle" ∧ xy_X4_bar.cls ≠ "java/lang/invoke/VarHandle" ∧ (parseMethodDescriptor xy_X4_bar.desc).map (fun d => d.parameters.length) = some 3 := ⟨by decide +kernel, by decide +kernel, by decide +kernel⟩
theorem ce_X4_bar {l : Launch} (hl9 : l.stackTraces = false) {E : xEv} {x0 : Option Nat} {x1 : Int32} {x2 : Int32} {x3 : Int32} {w : xWd} {q : Nat × xWd} (hf : e_X4_bar x0 x1 x2 x3 w = some q) : xk_MX l xy_X4_bar prog_1_method_10_code 5 (some .int) 7 113 1 6 E [va_rf (x0), .int (x1), .int (x2), .int (x3)] w q := by
  refine xk_enterX (by decide +kernel) (by simp [lg_sl, xk_cat1, xk_cati, xk_catl, xk_catd]) ?_
  intro p e s m args below meth c hC hr hX ha
  rw [show lv_args 0 [va_rf (x0), .int (x1), .int (x2), .int (x3)] = [(0, va_rf (x0)), (1, .int (x1)), (2, .int (x2)), (3, .int (x3))] by simp [lv_args, xk_cat1, xk_cati, xk_catl, xk_catd]]
  exact te_X4_bar_0 hC hr hX hl9 x0 x1 x2 x3 w hf
def e_X4_retime (x0 : Option Nat) (x1 : Int32) (x2 : Int32) (x3 : Int32) (x4 : Int32) (w : xWd) : Option (Nat × xWd) := (xk_is w (x0) 0).bind (fun u2 => e_X4_cueNumbered (x0) (x1) w)
set_option maxHeartbeats 4000000 in
set_option maxRecDepth 100000 in
theorem te_X4_retime_0 {p : Program} {l : Launch} {e : Env} {s : State} {m : MethodId} {args : Array Value} {below : List Frame} {meth : Method} {c : Code} {E : xEv} (hC : xk_C p s m args meth c E prog_1_method_11_code "Clickbook" 6) (hr : meth.sig.returnType = (some .int)) (hX : ∀ x ∈ c.exceptionTable.toList, False) (hl9 : l.stackTraces = false) {q : (Nat × xWd)} (x0 : Option Nat) (x1 : Int32) (x2 : Int32) (x3 : Int32) (x4 : Int32) (w : xWd) (hf : e_X4_retime x0 x1 x2 x3 x4 w = some q) : xk_X p l e { frames := 7, cells := 1, slots := 6, locals := 113 } s m args below meth c (vx_MQ below xk_QN (xk_XC E q) args s 1 6 (xk_A E.2.2.1)) E 6 0 0 0 [(0, va_rf (x0)), (1, .int (x1)), (2, .int (x2)), (3, .int (x3)), (4, .int (x4))] [] w := by
  refine xk_aload_n hC dX4_retime_0 0 rfl rfl ?_
  refine xk_iload_n hC dX4_retime_1 1 rfl rfl ?_
  obtain ⟨u2, h2, hf⟩ := xk_bi hf
  exact xk_outX hC hX (Nat.le_of_ble_eq_true rfl) (Nat.le_of_ble_eq_true rfl) (xk_callVX (av := [.int (x1)]) (rest := []) hC 1 xc_0 (ce_X4_cueNumbered hl9 hf) h2 xm_368 xm_370 xm_p19 xm_1 xm_371 ⟨rfl, xd_X4_cueNumbered⟩ rfl ⟨Nat.le_of_ble_eq_true rfl, Nat.le_of_ble_eq_true rfl⟩ rfl (Nat.le_of_ble_eq_true rfl) dX4_retime_2 ⟨(Nat.le_of_ble_eq_true rfl), (Nat.le_of_ble_eq_true rfl)⟩)
theorem xd_X4_retime : xy_X4_retime.cls ≠ "java/lang/invoke/MethodHandle" ∧ xy_X4_retime.cls ≠ "java/lang/invoke/VarHandle" ∧ (parseMethodDescriptor xy_X4_retime.desc).map (fun d => d.parameters.length) = some 4 := ⟨by decide +kernel, by decide +kernel, by decide +kernel⟩
theorem ce_X4_retime {l : Launch} (hl9 : l.stackTraces = false) {E : xEv} {x0 : Option Nat} {x1 : Int32} {x2 : Int32} {x3 : Int32} {x4 : Int32} {w : xWd} {q : Nat × xWd} (hf : e_X4_retime x0 x1 x2 x3 x4 w = some q) : xk_MX l xy_X4_retime prog_1_method_11_code 6 (some .int) 7 113 1 6 E [va_rf (x0), .int (x1), .int (x2), .int (x3), .int (x4)] w q := by
  refine xk_enterX (by decide +kernel) (by simp [lg_sl, xk_cat1, xk_cati, xk_catl, xk_catd]) ?_
  intro p e s m args below meth c hC hr hX ha
  rw [show lv_args 0 [va_rf (x0), .int (x1), .int (x2), .int (x3), .int (x4)] = [(0, va_rf (x0)), (1, .int (x1)), (2, .int (x2)), (3, .int (x3)), (4, .int (x4))] by simp [lv_args, xk_cat1, xk_cati, xk_catl, xk_catd]]
  exact te_X4_retime_0 hC hr hX hl9 x0 x1 x2 x3 x4 w hf
def e_X4_shift (x0 : Option Nat) (x1 : Int32) (x2 : Int32) (w : xWd) : Option (Nat × xWd) := (xk_is w (x0) 0).bind (fun u2 => e_X4_cueNumbered (x0) (x1) w)
set_option maxHeartbeats 4000000 in
set_option maxRecDepth 100000 in
theorem te_X4_shift_0 {p : Program} {l : Launch} {e : Env} {s : State} {m : MethodId} {args : Array Value} {below : List Frame} {meth : Method} {c : Code} {E : xEv} (hC : xk_C p s m args meth c E prog_1_method_12_code "Clickbook" 4) (hr : meth.sig.returnType = (some .int)) (hX : ∀ x ∈ c.exceptionTable.toList, False) (hl9 : l.stackTraces = false) {q : (Nat × xWd)} (x0 : Option Nat) (x1 : Int32) (x2 : Int32) (w : xWd) (hf : e_X4_shift x0 x1 x2 w = some q) : xk_X p l e { frames := 7, cells := 1, slots := 6, locals := 113 } s m args below meth c (vx_MQ below xk_QN (xk_XC E q) args s 1 6 (xk_A E.2.2.1)) E 4 0 0 0 [(0, va_rf (x0)), (1, .int (x1)), (2, .int (x2))] [] w := by
  refine xk_aload_n hC dX4_shift_0 0 rfl rfl ?_
  refine xk_iload_n hC dX4_shift_1 1 rfl rfl ?_
  obtain ⟨u2, h2, hf⟩ := xk_bi hf
  exact xk_outX hC hX (Nat.le_of_ble_eq_true rfl) (Nat.le_of_ble_eq_true rfl) (xk_callVX (av := [.int (x1)]) (rest := []) hC 1 xc_0 (ce_X4_cueNumbered hl9 hf) h2 xm_368 xm_370 xm_p19 xm_1 xm_371 ⟨rfl, xd_X4_cueNumbered⟩ rfl ⟨Nat.le_of_ble_eq_true rfl, Nat.le_of_ble_eq_true rfl⟩ rfl (Nat.le_of_ble_eq_true rfl) dX4_shift_2 ⟨(Nat.le_of_ble_eq_true rfl), (Nat.le_of_ble_eq_true rfl)⟩)
theorem xd_X4_shift : xy_X4_shift.cls ≠ "java/lang/invoke/MethodHandle" ∧ xy_X4_shift.cls ≠ "java/lang/invoke/VarHandle" ∧ (parseMethodDescriptor xy_X4_shift.desc).map (fun d => d.parameters.length) = some 2 := ⟨by decide +kernel, by decide +kernel, by decide +kernel⟩
theorem ce_X4_shift {l : Launch} (hl9 : l.stackTraces = false) {E : xEv} {x0 : Option Nat} {x1 : Int32} {x2 : Int32} {w : xWd} {q : Nat × xWd} (hf : e_X4_shift x0 x1 x2 w = some q) : xk_MX l xy_X4_shift prog_1_method_12_code 4 (some .int) 7 113 1 6 E [va_rf (x0), .int (x1), .int (x2)] w q := by
  refine xk_enterX (by decide +kernel) (by simp [lg_sl, xk_cat1, xk_cati, xk_catl, xk_catd]) ?_
  intro p e s m args below meth c hC hr hX ha
  rw [show lv_args 0 [va_rf (x0), .int (x1), .int (x2)] = [(0, va_rf (x0)), (1, .int (x1)), (2, .int (x2))] by simp [lv_args, xk_cat1, xk_cati, xk_catl, xk_catd]]
  exact te_X4_shift_0 hC hr hX hl9 x0 x1 x2 w hf
def f_X4_open_11 (w : xWd) : Option (Int32 × xWd) := none
set_option maxHeartbeats 4000000 in
set_option maxRecDepth 100000 in
theorem t_X4_open_11 {p : Program} {l : Launch} {e : Env} {s : State} {m : MethodId} {args : Array Value} {below : List Frame} {meth : Method} {c : Code} {E : xEv} (hC : xk_C p s m args meth c E prog_1_method_16_code "Clickbook" 2) (hr : meth.sig.returnType = (some .int)) {q : (Int32 × xWd)} (w : xWd) (hf : f_X4_open_11 w = some q) : xk_X p l e { frames := 1, cells := 0, slots := 0, locals := 20 } s m args below meth c (MQ below (xk_Qi E q) args s 0 0 (xk_A E.2.2.1)) E 2 0 0 11 [] [] w := by
  cases hf
def f_X4_open (x0 : Option Nat) (x1 : Int32) (w : xWd) : Option (Int32 × xWd) := if (x1) < ((1 : Int32)) then f_X4_open_11 w else if (x1) ≤ ((60 : Int32)) then (xk_gI w (x0) 0 7).bind (fun v3 => if (v3) ≤ ((0 : Int32)) then (xk_pV w (x0) 0 7 (.int (x1))).bind (fun w5 => (xk_gR w5 (x0) 0 4).bind (fun v6 => (xk_is w5 (v6) 4).bind (fun u8 => (f_Jx4a65c_size_8abf5 (v6)  w5).bind (fun q7 => some (q7.1, q7.2))))) else none) else f_X4_open_11 w
set_option maxHeartbeats 4000000 in
set_option maxRecDepth 100000 in
theorem t_X4_open_0 {p : Program} {l : Launch} {e : Env} {s : State} {m : MethodId} {args : Array Value} {below : List Frame} {meth : Method} {c : Code} {E : xEv} (hC : xk_C p s m args meth c E prog_1_method_16_code "Clickbook" 2) (hr : meth.sig.returnType = (some .int)) {q : (Int32 × xWd)} (x0 : Option Nat) (x1 : Int32) (w : xWd) (hf : f_X4_open x0 x1 w = some q) : xk_X p l e { frames := 1, cells := 0, slots := 0, locals := 20 } s m args below meth c (MQ below (xk_Qi E q) args s 0 0 (xk_A E.2.2.1)) E 2 0 0 0 [(0, va_rf (x0)), (1, .int (x1))] [] w := by
  refine xk_iload_n hC dX4_open_0 1 rfl rfl ?_
  refine xk_iconst (v := (1 : Int32)) hC dX4_open_1 (by decide) ?_
  refine xk_icmp_lt (tgt := 11) hC dX4_open_2 (by decide) (fun c1 => ?_) (fun c1 => ?_)
  · replace hf := (if_pos c1).symm.trans hf
    refine xk_locals [] rfl ?_
    exact t_X4_open_11 hC hr w hf
  · replace hf := (if_neg c1).symm.trans hf
    refine xk_iload_n hC dX4_open_5 1 rfl rfl ?_
    refine xk_bipush (v := (60 : Int32)) hC dX4_open_6 (by decide) ?_
    refine xk_icmp_le (tgt := 21) hC dX4_open_8 (by decide) (fun c2 => ?_) (fun c2 => ?_)
    · replace hf := (if_pos c2).symm.trans hf
      refine xk_aload_n hC dX4_open_21 0 rfl rfl ?_
      obtain ⟨v3, h3, hf⟩ := xk_bi hf
      refine xk_getI hC xi_0 xc_0 7 (by decide) xm_92 (Or.inl rfl) dX4_open_22 h3 ?_
      refine xk_if_le (tgt := 38) hC dX4_open_25 (by decide) (fun c4 => ?_) (fun c4 => ?_)
      · replace hf := (if_pos c4).symm.trans hf
        refine xk_aload_n hC dX4_open_38 0 rfl rfl ?_
        refine xk_iload_n hC dX4_open_39 1 rfl rfl ?_
        obtain ⟨w5, h5, hf⟩ := xk_bi hf
        refine xk_put hC xi_0 xc_0 xo_0 xn_0 7 (by decide) xm_92 (Or.inl rfl) rfl rfl rfl dX4_open_40 h5 ?_
        refine xk_aload_n hC dX4_open_43 0 rfl rfl ?_
        obtain ⟨v6, h6, hf⟩ := xk_bi hf
        refine xk_getR hC xi_0 xc_0 4 (by decide) xm_89 (Or.inl rfl) dX4_open_44 h6 ?_
        obtain ⟨u8, h8, hf⟩ := xk_bi hf
        obtain ⟨q7, h7, hf⟩ := xk_bi hf
        refine xk_backi (xk_callV hC 0 xc_4 (c_Jx4a65c_size_8abf5 h7) h8 xm_130 xm_131 xm_132 xm_4 xm_133 ⟨rfl, xd_Jx4a65c_size_8abf5⟩ rfl ⟨Nat.le_of_ble_eq_true rfl, Nat.le_of_ble_eq_true rfl⟩ rfl (Nat.le_of_ble_eq_true rfl) dX4_open_47 ⟨(Nat.le_of_ble_eq_true rfl), (Nat.le_of_ble_eq_true rfl)⟩) ?_
        cases hf
        refine xk_widen (k := 0) (n := 0) (Nat.le_of_ble_eq_true rfl) (Nat.le_of_ble_eq_true rfl) ?_
        exact xk_iret hC hr rfl dX4_open_50
      · replace hf := (if_neg c4).symm.trans hf
        cases hf
    · replace hf := (if_neg c2).symm.trans hf
      refine xk_locals [] rfl ?_
      exact t_X4_open_11 hC hr w hf
theorem xd_X4_open : xy_X4_open.cls ≠ "java/lang/invoke/MethodHandle" ∧ xy_X4_open.cls ≠ "java/lang/invoke/VarHandle" ∧ (parseMethodDescriptor xy_X4_open.desc).map (fun d => d.parameters.length) = some 1 := ⟨by decide +kernel, by decide +kernel, by decide +kernel⟩
theorem c_X4_open {l : Launch} {E : xEv} {x0 : Option Nat} {x1 : Int32} {w : xWd} {q : (Int32 × xWd)} (hf : f_X4_open x0 x1 w = some q) : xk_M l xy_X4_open prog_1_method_16_code 2 (some .int) 1 20 0 0 E [va_rf (x0), .int (x1)] w (xk_Qi E q) := by
  refine xk_enter (by decide +kernel) (by simp [lg_sl, xk_cat1, xk_cati, xk_catl, xk_catd]) ?_
  intro p e s m args below meth c hC hr hin ha
  rw [show lv_args 0 [va_rf (x0), .int (x1)] = [(0, va_rf (x0)), (1, .int (x1))] by simp [lv_args, xk_cat1, xk_cati, xk_catl, xk_catd]]
  exact t_X4_open_0 hC hr x0 x1 w hf
def e_X4_open_11 (w : xWd) : Option (Nat × xWd) := some (0, (w.1, w.2.1 + 1, w.2.2))
set_option maxHeartbeats 4000000 in
set_option maxRecDepth 100000 in
theorem te_X4_open_11 {p : Program} {l : Launch} {e : Env} {s : State} {m : MethodId} {args : Array Value} {below : List Frame} {meth : Method} {c : Code} {E : xEv} (hC : xk_C p s m args meth c E prog_1_method_16_code "Clickbook" 2) (hr : meth.sig.returnType = (some .int)) (hX : ∀ x ∈ c.exceptionTable.toList, False) (hl9 : l.stackTraces = false) {q : (Nat × xWd)} (w : xWd) (hf : e_X4_open_11 w = some q) : xk_X p l e { frames := 6, cells := 1, slots := 6, locals := 92 } s m args below meth c (vx_MQ below xk_QN (xk_XC E q) args s 1 6 (xk_A E.2.2.1)) E 2 0 0 11 [] [] w := by
  cases hf
  exact xk_throw (k := 0) (B := [Cond.declares ⟨"java/lang/RuntimeException", "<init>", "(Ljava/lang/String;)V"⟩, Cond.declares ⟨"java/lang/Exception", "<init>", "(Ljava/lang/String;)V"⟩, Cond.declares ⟨"java/lang/Throwable", "<init>", "(Ljava/lang/String;)V"⟩, Cond.castable "java/lang/IllegalArgumentException" "java/lang/IllegalArgumentException"]) (names := ["java/lang/RuntimeException", "java/lang/Exception"]) hC hX hl9 rfl (by decide +kernel) (by decide +kernel) rfl xm_242 xm_10 (xk_note35 hC) xw_0a xw_0b (vx_c (va_Nw.use rfl (xk_note2 hC)) (vx_c (va_Nw.use rfl (xk_note3 hC)) (vx_c (va_Nw.use rfl (xk_note4 hC)) (vx_c (va_Nw.use rfl (xk_note1 hC)) vx_n)))) xw_0c dX4_open_11 dX4_open_14 dX4_open_15 dX4_open_17 dX4_open_20 (Nat.le_of_ble_eq_true rfl) (Nat.le_of_ble_eq_true rfl) (Nat.le_of_ble_eq_true rfl) (Nat.le_of_ble_eq_true rfl) (Nat.le_of_ble_eq_true rfl) (Nat.le_of_ble_eq_true rfl)
def e_X4_open (x0 : Option Nat) (x1 : Int32) (w : xWd) : Option (Nat × xWd) := if (x1) < ((1 : Int32)) then e_X4_open_11 w else if (x1) ≤ ((60 : Int32)) then (xk_gI w (x0) 0 7).bind (fun v3 => if (v3) ≤ ((0 : Int32)) then (xk_pV w (x0) 0 7 (.int (x1))).bind (fun w5 => (xk_gR w5 (x0) 0 4).bind (fun v6 => (xk_is w5 (v6) 4).bind (fun u8 => (f_Jx4a65c_size_8abf5 (v6)  w5).bind (fun q7 => none)))) else some (1, (w.1, w.2.1 + 1, w.2.2))) else e_X4_open_11 w
set_option maxHeartbeats 4000000 in
set_option maxRecDepth 100000 in
theorem te_X4_open_0 {p : Program} {l : Launch} {e : Env} {s : State} {m : MethodId} {args : Array Value} {below : List Frame} {meth : Method} {c : Code} {E : xEv} (hC : xk_C p s m args meth c E prog_1_method_16_code "Clickbook" 2) (hr : meth.sig.returnType = (some .int)) (hX : ∀ x ∈ c.exceptionTable.toList, False) (hl9 : l.stackTraces = false) {q : (Nat × xWd)} (x0 : Option Nat) (x1 : Int32) (w : xWd) (hf : e_X4_open x0 x1 w = some q) : xk_X p l e { frames := 6, cells := 1, slots := 6, locals := 92 } s m args below meth c (vx_MQ below xk_QN (xk_XC E q) args s 1 6 (xk_A E.2.2.1)) E 2 0 0 0 [(0, va_rf (x0)), (1, .int (x1))] [] w := by
  refine xk_iload_n hC dX4_open_0 1 rfl rfl ?_
  refine xk_iconst (v := (1 : Int32)) hC dX4_open_1 (by decide) ?_
  refine xk_icmp_lt (tgt := 11) hC dX4_open_2 (by decide) (fun c1 => ?_) (fun c1 => ?_)
  · replace hf := (if_pos c1).symm.trans hf
    refine xk_locals [] rfl ?_
    exact te_X4_open_11 hC hr hX hl9 w hf
  · replace hf := (if_neg c1).symm.trans hf
    refine xk_iload_n hC dX4_open_5 1 rfl rfl ?_
    refine xk_bipush (v := (60 : Int32)) hC dX4_open_6 (by decide) ?_
    refine xk_icmp_le (tgt := 21) hC dX4_open_8 (by decide) (fun c2 => ?_) (fun c2 => ?_)
    · replace hf := (if_pos c2).symm.trans hf
      refine xk_aload_n hC dX4_open_21 0 rfl rfl ?_
      obtain ⟨v3, h3, hf⟩ := xk_bi hf
      refine xk_getI hC xi_0 xc_0 7 (by decide) xm_92 (Or.inl rfl) dX4_open_22 h3 ?_
      refine xk_if_le (tgt := 38) hC dX4_open_25 (by decide) (fun c4 => ?_) (fun c4 => ?_)
      · replace hf := (if_pos c4).symm.trans hf
        refine xk_aload_n hC dX4_open_38 0 rfl rfl ?_
        refine xk_iload_n hC dX4_open_39 1 rfl rfl ?_
        obtain ⟨w5, h5, hf⟩ := xk_bi hf
        refine xk_put hC xi_0 xc_0 xo_0 xn_0 7 (by decide) xm_92 (Or.inl rfl) rfl rfl rfl dX4_open_40 h5 ?_
        refine xk_aload_n hC dX4_open_43 0 rfl rfl ?_
        obtain ⟨v6, h6, hf⟩ := xk_bi hf
        refine xk_getR hC xi_0 xc_0 4 (by decide) xm_89 (Or.inl rfl) dX4_open_44 h6 ?_
        obtain ⟨u8, h8, hf⟩ := xk_bi hf
        obtain ⟨q7, h7, hf⟩ := xk_bi hf
        refine xk_backi (xk_callV hC 0 xc_4 (c_Jx4a65c_size_8abf5 h7) h8 xm_130 xm_131 xm_132 xm_4 xm_133 ⟨rfl, xd_Jx4a65c_size_8abf5⟩ rfl ⟨Nat.le_of_ble_eq_true rfl, Nat.le_of_ble_eq_true rfl⟩ rfl (Nat.le_of_ble_eq_true rfl) dX4_open_47 ⟨(Nat.le_of_ble_eq_true rfl), (Nat.le_of_ble_eq_true rfl)⟩) ?_
        cases hf
      · replace hf := (if_neg c4).symm.trans hf
        cases hf
        exact xk_throw (k := 1) (B := [Cond.declares ⟨"java/lang/RuntimeException", "<init>", "(Ljava/lang/String;)V"⟩, Cond.declares ⟨"java/lang/Exception", "<init>", "(Ljava/lang/String;)V"⟩, Cond.declares ⟨"java/lang/Throwable", "<init>", "(Ljava/lang/String;)V"⟩, Cond.castable "java/lang/IllegalStateException" "java/lang/IllegalStateException"]) (names := ["java/lang/RuntimeException", "java/lang/Exception"]) hC hX hl9 rfl (by decide +kernel) (by decide +kernel) rfl xm_548 xm_11 (xk_note36 hC) xw_1a xw_1b (vx_c (va_Nw.use rfl (xk_note2 hC)) (vx_c (va_Nw.use rfl (xk_note3 hC)) (vx_c (va_Nw.use rfl (xk_note4 hC)) (vx_c (va_Nw.use rfl (xk_note20 hC)) vx_n)))) xw_1c dX4_open_28 dX4_open_31 dX4_open_32 dX4_open_34 dX4_open_37 (Nat.le_of_ble_eq_true rfl) (Nat.le_of_ble_eq_true rfl) (Nat.le_of_ble_eq_true rfl) (Nat.le_of_ble_eq_true rfl) (Nat.le_of_ble_eq_true rfl) (Nat.le_of_ble_eq_true rfl)
    · replace hf := (if_neg c2).symm.trans hf
      refine xk_locals [] rfl ?_
      exact te_X4_open_11 hC hr hX hl9 w hf
theorem ce_X4_open {l : Launch} (hl9 : l.stackTraces = false) {E : xEv} {x0 : Option Nat} {x1 : Int32} {w : xWd} {q : Nat × xWd} (hf : e_X4_open x0 x1 w = some q) : xk_MX l xy_X4_open prog_1_method_16_code 2 (some .int) 6 92 1 6 E [va_rf (x0), .int (x1)] w q := by
  refine xk_enterX (by decide +kernel) (by simp [lg_sl, xk_cat1, xk_cati, xk_catl, xk_catd]) ?_
  intro p e s m args below meth c hC hr hX ha
  rw [show lv_args 0 [va_rf (x0), .int (x1)] = [(0, va_rf (x0)), (1, .int (x1))] by simp [lv_args, xk_cat1, xk_cati, xk_catl, xk_catd]]
  exact te_X4_open_0 hC hr hX hl9 x0 x1 w hf
def e_X4_take (x0 : Option Nat) (x1 : Int32) (x2 : Int32) (x3 : Int32) (w : xWd) : Option (Nat × xWd) := (xk_is w (x0) 0).bind (fun u2 => e_X4_cueNumbered (x0) (x1) w)
set_option maxHeartbeats 4000000 in
set_option maxRecDepth 100000 in
theorem te_X4_take_0 {p : Program} {l : Launch} {e : Env} {s : State} {m : MethodId} {args : Array Value} {below : List Frame} {meth : Method} {c : Code} {E : xEv} (hC : xk_C p s m args meth c E prog_1_method_17_code "Clickbook" 6) (hr : meth.sig.returnType = (some .int)) (hX : ∀ x ∈ c.exceptionTable.toList, False) (hl9 : l.stackTraces = false) {q : (Nat × xWd)} (x0 : Option Nat) (x1 : Int32) (x2 : Int32) (x3 : Int32) (w : xWd) (hf : e_X4_take x0 x1 x2 x3 w = some q) : xk_X p l e { frames := 7, cells := 1, slots := 6, locals := 113 } s m args below meth c (vx_MQ below xk_QN (xk_XC E q) args s 1 6 (xk_A E.2.2.1)) E 6 0 0 0 [(0, va_rf (x0)), (1, .int (x1)), (2, .int (x2)), (3, .int (x3))] [] w := by
  refine xk_aload_n hC dX4_take_0 0 rfl rfl ?_
  refine xk_iload_n hC dX4_take_1 1 rfl rfl ?_
  obtain ⟨u2, h2, hf⟩ := xk_bi hf
  exact xk_outX hC hX (Nat.le_of_ble_eq_true rfl) (Nat.le_of_ble_eq_true rfl) (xk_callVX (av := [.int (x1)]) (rest := []) hC 1 xc_0 (ce_X4_cueNumbered hl9 hf) h2 xm_368 xm_370 xm_p19 xm_1 xm_371 ⟨rfl, xd_X4_cueNumbered⟩ rfl ⟨Nat.le_of_ble_eq_true rfl, Nat.le_of_ble_eq_true rfl⟩ rfl (Nat.le_of_ble_eq_true rfl) dX4_take_2 ⟨(Nat.le_of_ble_eq_true rfl), (Nat.le_of_ble_eq_true rfl)⟩)
theorem xd_X4_take : xy_X4_take.cls ≠ "java/lang/invoke/MethodHandle" ∧ xy_X4_take.cls ≠ "java/lang/invoke/VarHandle" ∧ (parseMethodDescriptor xy_X4_take.desc).map (fun d => d.parameters.length) = some 3 := ⟨by decide +kernel, by decide +kernel, by decide +kernel⟩
theorem ce_X4_take {l : Launch} (hl9 : l.stackTraces = false) {E : xEv} {x0 : Option Nat} {x1 : Int32} {x2 : Int32} {x3 : Int32} {w : xWd} {q : Nat × xWd} (hf : e_X4_take x0 x1 x2 x3 w = some q) : xk_MX l xy_X4_take prog_1_method_17_code 6 (some .int) 7 113 1 6 E [va_rf (x0), .int (x1), .int (x2), .int (x3)] w q := by
  refine xk_enterX (by decide +kernel) (by simp [lg_sl, xk_cat1, xk_cati, xk_catl, xk_catd]) ?_
  intro p e s m args below meth c hC hr hX ha
  rw [show lv_args 0 [va_rf (x0), .int (x1), .int (x2), .int (x3)] = [(0, va_rf (x0)), (1, .int (x1)), (2, .int (x2)), (3, .int (x3))] by simp [lv_args, xk_cat1, xk_cati, xk_catl, xk_catd]]
  exact te_X4_take_0 hC hr hX hl9 x0 x1 x2 x3 w hf
def f_X4_roundedUp_16 (s0 : Int32) (w : xWd) : Option (Int32 × xWd) := some (s0, w)
set_option maxHeartbeats 4000000 in
set_option maxRecDepth 100000 in
theorem t_X4_roundedUp_16 {p : Program} {l : Launch} {e : Env} {s : State} {m : MethodId} {args : Array Value} {below : List Frame} {meth : Method} {c : Code} {E : xEv} (hC : xk_C p s m args meth c E prog_1_method_19_code "Clickbook" 2) (hr : meth.sig.returnType = (some .int)) {q : (Int32 × xWd)} (s0 : Int32) (w : xWd) (hf : f_X4_roundedUp_16 s0 w = some q) : xk_X p l e { frames := 0, cells := 0, slots := 0, locals := 0 } s m args below meth c (MQ below (xk_Qi E q) args s 0 0 (xk_A E.2.2.1)) E 2 0 0 16 [] [.int (s0)] w := by
  cases hf
  refine xk_widen (k := 0) (n := 0) (Nat.le_of_ble_eq_true rfl) (Nat.le_of_ble_eq_true rfl) ?_
  exact xk_iret hC hr rfl dX4_roundedUp_16
def f_X4_roundedUp (x0 : Int32) (x1 : Int32) (w : xWd) : Option (Int32 × xWd) := if ((1 : Int32)) ≤ (x1) then (xk_nz (x1)).bind (fun u2 => f_X4_roundedUp_16 ((((x0) + (x1)) - ((1 : Int32))) / (x1)) w) else f_X4_roundedUp_16 ((0 : Int32)) w
set_option maxHeartbeats 4000000 in
set_option maxRecDepth 100000 in
theorem t_X4_roundedUp_0 {p : Program} {l : Launch} {e : Env} {s : State} {m : MethodId} {args : Array Value} {below : List Frame} {meth : Method} {c : Code} {E : xEv} (hC : xk_C p s m args meth c E prog_1_method_19_code "Clickbook" 2) (hr : meth.sig.returnType = (some .int)) {q : (Int32 × xWd)} (x0 : Int32) (x1 : Int32) (w : xWd) (hf : f_X4_roundedUp x0 x1 w = some q) : xk_X p l e { frames := 0, cells := 0, slots := 0, locals := 0 } s m args below meth c (MQ below (xk_Qi E q) args s 0 0 (xk_A E.2.2.1)) E 2 0 0 0 [(0, .int (x0)), (1, .int (x1))] [] w := by
  refine xk_iload_n hC dX4_roundedUp_0 1 rfl rfl ?_
  refine xk_iconst (v := (1 : Int32)) hC dX4_roundedUp_1 (by decide) ?_
  refine xk_icmp_ge (tgt := 9) hC dX4_roundedUp_2 (by decide) (fun c1 => ?_) (fun c1 => ?_)
  · replace hf := (if_pos c1).symm.trans hf
    refine xk_iload_n hC dX4_roundedUp_9 0 rfl rfl ?_
    refine xk_iload_n hC dX4_roundedUp_10 1 rfl rfl ?_
    refine xk_iadd hC dX4_roundedUp_11 ?_
    refine xk_iconst (v := (1 : Int32)) hC dX4_roundedUp_12 (by decide) ?_
    refine xk_isub hC dX4_roundedUp_13 ?_
    refine xk_iload_n hC dX4_roundedUp_14 1 rfl rfl ?_
    obtain ⟨u2, h2, hf⟩ := xk_bi hf
    refine xk_idiv hC dX4_roundedUp_15 (xk_nz_e h2) ?_
    refine xk_locals [] rfl ?_
    exact t_X4_roundedUp_16 hC hr ((((x0) + (x1)) - ((1 : Int32))) / (x1)) w hf
  · replace hf := (if_neg c1).symm.trans hf
    refine xk_iconst (v := (0 : Int32)) hC dX4_roundedUp_5 (by decide) ?_
    refine xk_goto (tgt := 16) hC dX4_roundedUp_6 (by decide) ?_
    refine xk_locals [] rfl ?_
    exact t_X4_roundedUp_16 hC hr ((0 : Int32)) w hf
theorem xd_X4_roundedUp : xy_X4_roundedUp.cls ≠ "java/lang/invoke/MethodHandle" ∧ xy_X4_roundedUp.cls ≠ "java/lang/invoke/VarHandle" ∧ (parseMethodDescriptor xy_X4_roundedUp.desc).map (fun d => d.parameters.length) = some 2 := ⟨by decide +kernel, by decide +kernel, by decide +kernel⟩
theorem c_X4_roundedUp {l : Launch} {E : xEv} {x0 : Int32} {x1 : Int32} {w : xWd} {q : (Int32 × xWd)} (hf : f_X4_roundedUp x0 x1 w = some q) : xk_M l xy_X4_roundedUp prog_1_method_19_code 2 (some .int) 0 0 0 0 E [.int (x0), .int (x1)] w (xk_Qi E q) := by
  refine xk_enter (by decide +kernel) (by simp [lg_sl, xk_cat1, xk_cati, xk_catl, xk_catd]) ?_
  intro p e s m args below meth c hC hr hin ha
  rw [show lv_args 0 [.int (x0), .int (x1)] = [(0, .int (x0)), (1, .int (x1))] by simp [lv_args, xk_cat1, xk_cati, xk_catl, xk_catd]]
  exact t_X4_roundedUp_0 hC hr x0 x1 w hf
def f_X4_close (x0 : Option Nat) (w : xWd) : Option (Int32 × xWd) := (xk_gI w (x0) 0 7).bind (fun v1 => if (v1) = ((0 : Int32)) then none else (xk_gI w (x0) 0 8).bind (fun v3 => (f_X4_roundedUp (v3) ((15 : Int32)) w).bind (fun q4 => (xk_gI q4.2 (x0) 0 7).bind (fun v5 => (xk_gI q4.2 (x0) 0 9).bind (fun v6 => (xk_pV q4.2 (x0) 0 9 (.int ((v6) + ((v5) * (((if ((4 : Int32)) < (q4.1) then ((4 : Int32)) else (q4.1)) * ((4 : Int32))) + (((q4.1) - (if ((4 : Int32)) < (q4.1) then ((4 : Int32)) else (q4.1))) * ((6 : Int32)))))))).bind (fun w7 => (xk_pV w7 (x0) 0 7 (.int ((0 : Int32)))).bind (fun w8 => (xk_pV w8 (x0) 0 8 (.int ((0 : Int32)))).bind (fun w9 => some ((v5) * (((if ((4 : Int32)) < (q4.1) then ((4 : Int32)) else (q4.1)) * ((4 : Int32))) + (((q4.1) - (if ((4 : Int32)) < (q4.1) then ((4 : Int32)) else (q4.1))) * ((6 : Int32)))), w9)))))))))
set_option maxHeartbeats 4000000 in
set_option maxRecDepth 100000 in
theorem t_X4_close_0 {p : Program} {l : Launch} {e : Env} {s : State} {m : MethodId} {args : Array Value} {below : List Frame} {meth : Method} {c : Code} {E : xEv} (hC : xk_C p s m args meth c E prog_1_method_18_code "Clickbook" 4) (hr : meth.sig.returnType = (some .int)) {q : (Int32 × xWd)} (x0 : Option Nat) (w : xWd) (hf : f_X4_close x0 w = some q) : xk_X p l e { frames := 1, cells := 0, slots := 0, locals := 21 } s m args below meth c (MQ below (xk_Qi E q) args s 0 0 (xk_A E.2.2.1)) E 4 0 0 0 [(0, va_rf (x0))] [] w := by
  refine xk_aload_n hC dX4_close_0 0 rfl rfl ?_
  obtain ⟨v1, h1, hf⟩ := xk_bi hf
  refine xk_getI hC xi_0 xc_0 7 (by decide) xm_92 (Or.inl rfl) dX4_close_1 h1 ?_
  refine xk_if_ne (tgt := 17) hC dX4_close_4 (by decide) (fun c2 => ?_) (fun c2 => ?_)
  · replace hf := (if_neg c2).symm.trans hf
    refine xk_aload_n hC dX4_close_17 0 rfl rfl ?_
    obtain ⟨v3, h3, hf⟩ := xk_bi hf
    refine xk_getI hC xi_0 xc_0 8 (by decide) xm_93 (Or.inl rfl) dX4_close_18 h3 ?_
    refine xk_bipush (v := (15 : Int32)) hC dX4_close_21 (by decide) ?_
    obtain ⟨q4, h4, hf⟩ := xk_bi hf
    refine xk_backi (xk_callS hC 2 (c_X4_roundedUp h4) xm_748 xm_709 xm_1 xm_710 xd_X4_roundedUp rfl ⟨Nat.le_of_ble_eq_true rfl, Nat.le_of_ble_eq_true rfl⟩ rfl (Nat.le_of_ble_eq_true rfl) dX4_close_23 ⟨(Nat.le_of_ble_eq_true rfl), (Nat.le_of_ble_eq_true rfl)⟩) ?_
    refine xk_istore_n (i := 1) (lv' := [(1, .int (q4.1)), (0, va_rf (x0))]) hC dX4_close_26 rfl (by decide) (by simp [xk_cat1]) ?_
    refine xk_iload_n hC dX4_close_27 0 rfl rfl ?_
    refine xk_iconst (v := (4 : Int32)) hC dX4_close_28 (by decide) ?_
    refine xk_mmin hC xm_785 xm_441 xm_14 xm_442 (Nat.le_of_ble_eq_true rfl) (Nat.le_of_ble_eq_true rfl) (Nat.le_of_ble_eq_true rfl) (Nat.le_of_ble_eq_true rfl) dX4_close_29 ?_
    refine xk_istore_n (i := 2) (lv' := [(2, .int (if ((4 : Int32)) < (q4.1) then ((4 : Int32)) else (q4.1))), (1, .int (q4.1)), (0, va_rf (x0))]) hC dX4_close_32 rfl (by decide) rfl ?_
    refine xk_aload_n hC dX4_close_33 2 rfl rfl ?_
    obtain ⟨v5, h5, hf⟩ := xk_bi hf
    refine xk_getI hC xi_0 xc_0 7 (by decide) xm_92 (Or.inl rfl) dX4_close_34 h5 ?_
    refine xk_iload_n hC dX4_close_37 0 rfl rfl ?_
    refine xk_iconst (v := (4 : Int32)) hC dX4_close_38 (by decide) ?_
    refine xk_imul hC dX4_close_39 ?_
    refine xk_iload_n hC dX4_close_40 1 rfl rfl ?_
    refine xk_iload_n hC dX4_close_41 0 rfl rfl ?_
    refine xk_isub hC dX4_close_42 ?_
    refine xk_bipush (v := (6 : Int32)) hC dX4_close_43 (by decide) ?_
    refine xk_imul hC dX4_close_45 ?_
    refine xk_iadd hC dX4_close_46 ?_
    refine xk_imul hC dX4_close_47 ?_
    refine xk_istore_n (i := 3) (lv' := [(3, .int ((v5) * (((if ((4 : Int32)) < (q4.1) then ((4 : Int32)) else (q4.1)) * ((4 : Int32))) + (((q4.1) - (if ((4 : Int32)) < (q4.1) then ((4 : Int32)) else (q4.1))) * ((6 : Int32)))))), (2, .int (if ((4 : Int32)) < (q4.1) then ((4 : Int32)) else (q4.1))), (1, .int (q4.1)), (0, va_rf (x0))]) hC dX4_close_48 rfl (by decide) rfl ?_
    refine xk_aload_n hC dX4_close_49 3 rfl rfl ?_
    refine xk_dup hC dX4_close_50 (xk_cat1 _) ?_
    obtain ⟨v6, h6, hf⟩ := xk_bi hf
    refine xk_getI hC xi_0 xc_0 9 (by decide) xm_94 (Or.inl rfl) dX4_close_51 h6 ?_
    refine xk_iload_n hC dX4_close_54 0 rfl rfl ?_
    refine xk_iadd hC dX4_close_55 ?_
    obtain ⟨w7, h7, hf⟩ := xk_bi hf
    refine xk_put hC xi_0 xc_0 xo_0 xn_0 9 (by decide) xm_94 (Or.inl rfl) rfl rfl rfl dX4_close_56 h7 ?_
    refine xk_aload_n hC dX4_close_59 3 rfl rfl ?_
    refine xk_iconst (v := (0 : Int32)) hC dX4_close_60 (by decide) ?_
    obtain ⟨w8, h8, hf⟩ := xk_bi hf
    refine xk_put hC xi_0 xc_0 xo_0 xn_0 7 (by decide) xm_92 (Or.inl rfl) rfl rfl rfl dX4_close_61 h8 ?_
    refine xk_aload_n hC dX4_close_64 3 rfl rfl ?_
    refine xk_iconst (v := (0 : Int32)) hC dX4_close_65 (by decide) ?_
    obtain ⟨w9, h9, hf⟩ := xk_bi hf
    refine xk_put hC xi_0 xc_0 xo_0 xn_0 8 (by decide) xm_93 (Or.inl rfl) rfl rfl rfl dX4_close_66 h9 ?_
    refine xk_iload_n hC dX4_close_69 0 rfl rfl ?_
    cases hf
    refine xk_widen (k := 0) (n := 0) (Nat.le_of_ble_eq_true rfl) (Nat.le_of_ble_eq_true rfl) ?_
    exact xk_iret hC hr rfl dX4_close_70
  · replace hf := (if_pos c2).symm.trans hf
    cases hf
theorem xd_X4_close : xy_X4_close.cls ≠ "java/lang/invoke/MethodHandle" ∧ xy_X4_close.cls ≠ "java/lang/invoke/VarHandle" ∧ (parseMethodDescriptor xy_X4_close.desc).map (fun d => d.parameters.length) = some 0 := ⟨by decide +kernel, by decide +kernel, by decide +kernel⟩
theorem c_X4_close {l : Launch} {E : xEv} {x0 : Option Nat} {w : xWd} {q : (Int32 × xWd)} (hf : f_X4_close x0 w = some q) : xk_M l xy_X4_close prog_1_method_18_code 4 (some .int) 1 21 0 0 E [va_rf (x0)] w (xk_Qi E q) := by
  refine xk_enter (by decide +kernel) (by simp [lg_sl, xk_cat1, xk_cati, xk_catl, xk_catd]) ?_
  intro p e s m args below meth c hC hr hin ha
  rw [show lv_args 0 [va_rf (x0)] = [(0, va_rf (x0))] by simp [lv_args, xk_cat1, xk_cati, xk_catl, xk_catd]]
  exact t_X4_close_0 hC hr x0 w hf
def e_X4_close (x0 : Option Nat) (w : xWd) : Option (Nat × xWd) := (xk_gI w (x0) 0 7).bind (fun v1 => if (v1) = ((0 : Int32)) then some (1, (w.1, w.2.1 + 1, w.2.2)) else (xk_gI w (x0) 0 8).bind (fun v3 => (f_X4_roundedUp (v3) ((15 : Int32)) w).bind (fun q4 => (xk_gI q4.2 (x0) 0 7).bind (fun v5 => (xk_gI q4.2 (x0) 0 9).bind (fun v6 => (xk_pV q4.2 (x0) 0 9 (.int ((v6) + ((v5) * (((if ((4 : Int32)) < (q4.1) then ((4 : Int32)) else (q4.1)) * ((4 : Int32))) + (((q4.1) - (if ((4 : Int32)) < (q4.1) then ((4 : Int32)) else (q4.1))) * ((6 : Int32)))))))).bind (fun w7 => (xk_pV w7 (x0) 0 7 (.int ((0 : Int32)))).bind (fun w8 => (xk_pV w8 (x0) 0 8 (.int ((0 : Int32)))).bind (fun w9 => none))))))))
set_option maxHeartbeats 4000000 in
set_option maxRecDepth 100000 in
theorem te_X4_close_0 {p : Program} {l : Launch} {e : Env} {s : State} {m : MethodId} {args : Array Value} {below : List Frame} {meth : Method} {c : Code} {E : xEv} (hC : xk_C p s m args meth c E prog_1_method_18_code "Clickbook" 4) (hr : meth.sig.returnType = (some .int)) (hX : ∀ x ∈ c.exceptionTable.toList, False) (hl9 : l.stackTraces = false) {q : (Nat × xWd)} (x0 : Option Nat) (w : xWd) (hf : e_X4_close x0 w = some q) : xk_X p l e { frames := 6, cells := 1, slots := 6, locals := 92 } s m args below meth c (vx_MQ below xk_QN (xk_XC E q) args s 1 6 (xk_A E.2.2.1)) E 4 0 0 0 [(0, va_rf (x0))] [] w := by
  refine xk_aload_n hC dX4_close_0 0 rfl rfl ?_
  obtain ⟨v1, h1, hf⟩ := xk_bi hf
  refine xk_getI hC xi_0 xc_0 7 (by decide) xm_92 (Or.inl rfl) dX4_close_1 h1 ?_
  refine xk_if_ne (tgt := 17) hC dX4_close_4 (by decide) (fun c2 => ?_) (fun c2 => ?_)
  · replace hf := (if_neg c2).symm.trans hf
    refine xk_aload_n hC dX4_close_17 0 rfl rfl ?_
    obtain ⟨v3, h3, hf⟩ := xk_bi hf
    refine xk_getI hC xi_0 xc_0 8 (by decide) xm_93 (Or.inl rfl) dX4_close_18 h3 ?_
    refine xk_bipush (v := (15 : Int32)) hC dX4_close_21 (by decide) ?_
    obtain ⟨q4, h4, hf⟩ := xk_bi hf
    refine xk_backi (xk_callS hC 2 (c_X4_roundedUp h4) xm_748 xm_709 xm_1 xm_710 xd_X4_roundedUp rfl ⟨Nat.le_of_ble_eq_true rfl, Nat.le_of_ble_eq_true rfl⟩ rfl (Nat.le_of_ble_eq_true rfl) dX4_close_23 ⟨(Nat.le_of_ble_eq_true rfl), (Nat.le_of_ble_eq_true rfl)⟩) ?_
    refine xk_istore_n (i := 1) (lv' := [(1, .int (q4.1)), (0, va_rf (x0))]) hC dX4_close_26 rfl (by decide) (by simp [xk_cat1]) ?_
    refine xk_iload_n hC dX4_close_27 0 rfl rfl ?_
    refine xk_iconst (v := (4 : Int32)) hC dX4_close_28 (by decide) ?_
    refine xk_mmin hC xm_785 xm_441 xm_14 xm_442 (Nat.le_of_ble_eq_true rfl) (Nat.le_of_ble_eq_true rfl) (Nat.le_of_ble_eq_true rfl) (Nat.le_of_ble_eq_true rfl) dX4_close_29 ?_
    refine xk_istore_n (i := 2) (lv' := [(2, .int (if ((4 : Int32)) < (q4.1) then ((4 : Int32)) else (q4.1))), (1, .int (q4.1)), (0, va_rf (x0))]) hC dX4_close_32 rfl (by decide) rfl ?_
    refine xk_aload_n hC dX4_close_33 2 rfl rfl ?_
    obtain ⟨v5, h5, hf⟩ := xk_bi hf
    refine xk_getI hC xi_0 xc_0 7 (by decide) xm_92 (Or.inl rfl) dX4_close_34 h5 ?_
    refine xk_iload_n hC dX4_close_37 0 rfl rfl ?_
    refine xk_iconst (v := (4 : Int32)) hC dX4_close_38 (by decide) ?_
    refine xk_imul hC dX4_close_39 ?_
    refine xk_iload_n hC dX4_close_40 1 rfl rfl ?_
    refine xk_iload_n hC dX4_close_41 0 rfl rfl ?_
    refine xk_isub hC dX4_close_42 ?_
    refine xk_bipush (v := (6 : Int32)) hC dX4_close_43 (by decide) ?_
    refine xk_imul hC dX4_close_45 ?_
    refine xk_iadd hC dX4_close_46 ?_
    refine xk_imul hC dX4_close_47 ?_
    refine xk_istore_n (i := 3) (lv' := [(3, .int ((v5) * (((if ((4 : Int32)) < (q4.1) then ((4 : Int32)) else (q4.1)) * ((4 : Int32))) + (((q4.1) - (if ((4 : Int32)) < (q4.1) then ((4 : Int32)) else (q4.1))) * ((6 : Int32)))))), (2, .int (if ((4 : Int32)) < (q4.1) then ((4 : Int32)) else (q4.1))), (1, .int (q4.1)), (0, va_rf (x0))]) hC dX4_close_48 rfl (by decide) rfl ?_
    refine xk_aload_n hC dX4_close_49 3 rfl rfl ?_
    refine xk_dup hC dX4_close_50 (xk_cat1 _) ?_
    obtain ⟨v6, h6, hf⟩ := xk_bi hf
    refine xk_getI hC xi_0 xc_0 9 (by decide) xm_94 (Or.inl rfl) dX4_close_51 h6 ?_
    refine xk_iload_n hC dX4_close_54 0 rfl rfl ?_
    refine xk_iadd hC dX4_close_55 ?_
    obtain ⟨w7, h7, hf⟩ := xk_bi hf
    refine xk_put hC xi_0 xc_0 xo_0 xn_0 9 (by decide) xm_94 (Or.inl rfl) rfl rfl rfl dX4_close_56 h7 ?_
    refine xk_aload_n hC dX4_close_59 3 rfl rfl ?_
    refine xk_iconst (v := (0 : Int32)) hC dX4_close_60 (by decide) ?_
    obtain ⟨w8, h8, hf⟩ := xk_bi hf
    refine xk_put hC xi_0 xc_0 xo_0 xn_0 7 (by decide) xm_92 (Or.inl rfl) rfl rfl rfl dX4_close_61 h8 ?_
    refine xk_aload_n hC dX4_close_64 3 rfl rfl ?_
    refine xk_iconst (v := (0 : Int32)) hC dX4_close_65 (by decide) ?_
    obtain ⟨w9, h9, hf⟩ := xk_bi hf
    refine xk_put hC xi_0 xc_0 xo_0 xn_0 8 (by decide) xm_93 (Or.inl rfl) rfl rfl rfl dX4_close_66 h9 ?_
    refine xk_iload_n hC dX4_close_69 0 rfl rfl ?_
    cases hf
  · replace hf := (if_pos c2).symm.trans hf
    cases hf
    exact xk_throw (k := 1) (B := [Cond.declares ⟨"java/lang/RuntimeException", "<init>", "(Ljava/lang/String;)V"⟩, Cond.declares ⟨"java/lang/Exception", "<init>", "(Ljava/lang/String;)V"⟩, Cond.declares ⟨"java/lang/Throwable", "<init>", "(Ljava/lang/String;)V"⟩, Cond.castable "java/lang/IllegalStateException" "java/lang/IllegalStateException"]) (names := ["java/lang/RuntimeException", "java/lang/Exception"]) hC hX hl9 rfl (by decide +kernel) (by decide +kernel) rfl xm_548 xm_11 (xk_note40 hC) xw_1a xw_1b (vx_c (va_Nw.use rfl (xk_note2 hC)) (vx_c (va_Nw.use rfl (xk_note3 hC)) (vx_c (va_Nw.use rfl (xk_note4 hC)) (vx_c (va_Nw.use rfl (xk_note20 hC)) vx_n)))) xw_1c dX4_close_7 dX4_close_10 dX4_close_11 dX4_close_13 dX4_close_16 (Nat.le_of_ble_eq_true rfl) (Nat.le_of_ble_eq_true rfl) (Nat.le_of_ble_eq_true rfl) (Nat.le_of_ble_eq_true rfl) (Nat.le_of_ble_eq_true rfl) (Nat.le_of_ble_eq_true rfl)
theorem ce_X4_close {l : Launch} (hl9 : l.stackTraces = false) {E : xEv} {x0 : Option Nat} {w : xWd} {q : Nat × xWd} (hf : e_X4_close x0 w = some q) : xk_MX l xy_X4_close prog_1_method_18_code 4 (some .int) 6 92 1 6 E [va_rf (x0)] w q := by
  refine xk_enterX (by decide +kernel) (by simp [lg_sl, xk_cat1, xk_cati, xk_catl, xk_catd]) ?_
  intro p e s m args below meth c hC hr hX ha
  rw [show lv_args 0 [va_rf (x0)] = [(0, va_rf (x0))] by simp [lv_args, xk_cat1, xk_cati, xk_catl, xk_catd]]
  exact te_X4_close_0 hC hr hX hl9 x0 w hf
def e_X4_ofHit_15 (w : xWd) : Option (Nat × xWd) := some (2, (w.1, w.2.1 + 1, w.2.2))
set_option maxHeartbeats 4000000 in
set_option maxRecDepth 100000 in
theorem te_X4_ofHit_15 {p : Program} {l : Launch} {e : Env} {s : State} {m : MethodId} {args : Array Value} {below : List Frame} {meth : Method} {c : Code} {E : xEv} (hC : xk_C p s m args meth c E prog_1_method_20_code "Clickbook" 4) (hr : meth.sig.returnType = (some .int)) (hX : ∀ x ∈ c.exceptionTable.toList, False) (hl9 : l.stackTraces = false) {q : (Nat × xWd)} (w : xWd) (hf : e_X4_ofHit_15 w = some q) : xk_X p l e { frames := 6, cells := 1, slots := 6, locals := 92 } s m args below meth c (vx_MQ below xk_QN (xk_XC E q) args s 1 6 (xk_A E.2.2.1)) E 4 0 0 15 [] [] w := by
  cases hf
  exact xk_throw (k := 2) (B := [Cond.declares ⟨"java/lang/RuntimeException", "<init>", "(Ljava/lang/String;)V"⟩, Cond.declares ⟨"java/lang/Exception", "<init>", "(Ljava/lang/String;)V"⟩, Cond.declares ⟨"java/lang/Throwable", "<init>", "(Ljava/lang/String;)V"⟩, Cond.castable "java/lang/IndexOutOfBoundsException" "java/lang/IndexOutOfBoundsException"]) (names := ["java/lang/RuntimeException", "java/lang/Exception"]) hC hX hl9 rfl (by decide +kernel) (by decide +kernel) rfl xm_318 xm_24 (xk_note7 hC) xw_2a xw_2b (vx_c (va_Nw.use rfl (xk_note2 hC)) (vx_c (va_Nw.use rfl (xk_note3 hC)) (vx_c (va_Nw.use rfl (xk_note4 hC)) (vx_c (va_Nw.use rfl (xk_note6 hC)) vx_n)))) xw_2c dX4_ofHit_15 dX4_ofHit_18 dX4_ofHit_19 dX4_ofHit_21 dX4_ofHit_24 (Nat.le_of_ble_eq_true rfl) (Nat.le_of_ble_eq_true rfl) (Nat.le_of_ble_eq_true rfl) (Nat.le_of_ble_eq_true rfl) (Nat.le_of_ble_eq_true rfl) (Nat.le_of_ble_eq_true rfl)
def e_X4_ofHit (x0 : Option Nat) (x1 : Int32) (x2 : Int32) (w : xWd) : Option (Nat × xWd) := if (x1) < ((0 : Int32)) then e_X4_ofHit_15 w else (xk_gR w (x0) 0 0).bind (fun v2 => (xk_is w (v2) 4).bind (fun u4 => (f_Jx4a65c_size_8abf5 (v2)  w).bind (fun q3 => if (x1) < (q3.1) then (xk_gR q3.2 (x0) 0 0).bind (fun v6 => none) else e_X4_ofHit_15 (q3.2))))
set_option maxHeartbeats 4000000 in
set_option maxRecDepth 100000 in
theorem te_X4_ofHit_0 {p : Program} {l : Launch} {e : Env} {s : State} {m : MethodId} {args : Array Value} {below : List Frame} {meth : Method} {c : Code} {E : xEv} (hC : xk_C p s m args meth c E prog_1_method_20_code "Clickbook" 4) (hr : meth.sig.returnType = (some .int)) (hX : ∀ x ∈ c.exceptionTable.toList, False) (hl9 : l.stackTraces = false) {q : (Nat × xWd)} (x0 : Option Nat) (x1 : Int32) (x2 : Int32) (w : xWd) (hf : e_X4_ofHit x0 x1 x2 w = some q) : xk_X p l e { frames := 6, cells := 1, slots := 6, locals := 92 } s m args below meth c (vx_MQ below xk_QN (xk_XC E q) args s 1 6 (xk_A E.2.2.1)) E 4 0 0 0 [(0, va_rf (x0)), (1, .int (x1)), (2, .int (x2))] [] w := by
  refine xk_iload_n hC dX4_ofHit_0 1 rfl rfl ?_
  refine xk_if_lt (tgt := 15) hC dX4_ofHit_1 (by decide) (fun c1 => ?_) (fun c1 => ?_)
  · replace hf := (if_pos c1).symm.trans hf
    refine xk_locals [] rfl ?_
    exact te_X4_ofHit_15 hC hr hX hl9 w hf
  · replace hf := (if_neg c1).symm.trans hf
    refine xk_iload_n hC dX4_ofHit_4 1 rfl rfl ?_
    refine xk_aload_n hC dX4_ofHit_5 0 rfl rfl ?_
    obtain ⟨v2, h2, hf⟩ := xk_bi hf
    refine xk_getR hC xi_0 xc_0 0 (by decide) xm_85 (Or.inl rfl) dX4_ofHit_6 h2 ?_
    obtain ⟨u4, h4, hf⟩ := xk_bi hf
    obtain ⟨q3, h3, hf⟩ := xk_bi hf
    refine xk_backi (xk_callV hC 0 xc_4 (c_Jx4a65c_size_8abf5 h3) h4 xm_130 xm_131 xm_132 xm_4 xm_133 ⟨rfl, xd_Jx4a65c_size_8abf5⟩ rfl ⟨Nat.le_of_ble_eq_true rfl, Nat.le_of_ble_eq_true rfl⟩ rfl (Nat.le_of_ble_eq_true rfl) dX4_ofHit_9 ⟨(Nat.le_of_ble_eq_true rfl), (Nat.le_of_ble_eq_true rfl)⟩) ?_
    refine xk_icmp_lt (tgt := 25) hC dX4_ofHit_12 (by decide) (fun c5 => ?_) (fun c5 => ?_)
    · replace hf := (if_pos c5).symm.trans hf
      refine xk_aload_n hC dX4_ofHit_25 0 rfl rfl ?_
      obtain ⟨v6, h6, hf⟩ := xk_bi hf
      refine xk_getR hC xi_0 xc_0 0 (by decide) xm_85 (Or.inl rfl) dX4_ofHit_26 h6 ?_
      refine xk_iload_n hC dX4_ofHit_29 1 rfl rfl ?_
      cases hf
    · replace hf := (if_neg c5).symm.trans hf
      refine xk_locals [] rfl ?_
      exact te_X4_ofHit_15 hC hr hX hl9 (q3.2) hf
theorem xd_X4_ofHit : xy_X4_ofHit.cls ≠ "java/lang/invoke/MethodHandle" ∧ xy_X4_ofHit.cls ≠ "java/lang/invoke/VarHandle" ∧ (parseMethodDescriptor xy_X4_ofHit.desc).map (fun d => d.parameters.length) = some 2 := ⟨by decide +kernel, by decide +kernel, by decide +kernel⟩
theorem ce_X4_ofHit {l : Launch} (hl9 : l.stackTraces = false) {E : xEv} {x0 : Option Nat} {x1 : Int32} {x2 : Int32} {w : xWd} {q : Nat × xWd} (hf : e_X4_ofHit x0 x1 x2 w = some q) : xk_MX l xy_X4_ofHit prog_1_method_20_code 4 (some .int) 6 92 1 6 E [va_rf (x0), .int (x1), .int (x2)] w q := by
  refine xk_enterX (by decide +kernel) (by simp [lg_sl, xk_cat1, xk_cati, xk_catl, xk_catd]) ?_
  intro p e s m args below meth c hC hr hX ha
  rw [show lv_args 0 [va_rf (x0), .int (x1), .int (x2)] = [(0, va_rf (x0)), (1, .int (x1)), (2, .int (x2))] by simp [lv_args, xk_cat1, xk_cati, xk_catl, xk_catd]]
  exact te_X4_ofHit_0 hC hr hX hl9 x0 x1 x2 w hf
def e_X4_ofCue (x0 : Option Nat) (x1 : Int32) (x2 : Int32) (w : xWd) : Option (Nat × xWd) := (xk_is w (x0) 0).bind (fun u2 => e_X4_cueNumbered (x0) (x1) w)
set_option maxHeartbeats 4000000 in
set_option maxRecDepth 100000 in
theorem te_X4_ofCue_0 {p : Program} {l : Launch} {e : Env} {s : State} {m : MethodId} {args : Array Value} {below : List Frame} {meth : Method} {c : Code} {E : xEv} (hC : xk_C p s m args meth c E prog_1_method_21_code "Clickbook" 4) (hr : meth.sig.returnType = (some .int)) (hX : ∀ x ∈ c.exceptionTable.toList, False) (hl9 : l.stackTraces = false) {q : (Nat × xWd)} (x0 : Option Nat) (x1 : Int32) (x2 : Int32) (w : xWd) (hf : e_X4_ofCue x0 x1 x2 w = some q) : xk_X p l e { frames := 7, cells := 1, slots := 6, locals := 113 } s m args below meth c (vx_MQ below xk_QN (xk_XC E q) args s 1 6 (xk_A E.2.2.1)) E 4 0 0 0 [(0, va_rf (x0)), (1, .int (x1)), (2, .int (x2))] [] w := by
  refine xk_aload_n hC dX4_ofCue_0 0 rfl rfl ?_
  refine xk_iload_n hC dX4_ofCue_1 1 rfl rfl ?_
  obtain ⟨u2, h2, hf⟩ := xk_bi hf
  exact xk_outX hC hX (Nat.le_of_ble_eq_true rfl) (Nat.le_of_ble_eq_true rfl) (xk_callVX (av := [.int (x1)]) (rest := []) hC 1 xc_0 (ce_X4_cueNumbered hl9 hf) h2 xm_368 xm_370 xm_p19 xm_1 xm_371 ⟨rfl, xd_X4_cueNumbered⟩ rfl ⟨Nat.le_of_ble_eq_true rfl, Nat.le_of_ble_eq_true rfl⟩ rfl (Nat.le_of_ble_eq_true rfl) dX4_ofCue_2 ⟨(Nat.le_of_ble_eq_true rfl), (Nat.le_of_ble_eq_true rfl)⟩)
theorem xd_X4_ofCue : xy_X4_ofCue.cls ≠ "java/lang/invoke/MethodHandle" ∧ xy_X4_ofCue.cls ≠ "java/lang/invoke/VarHandle" ∧ (parseMethodDescriptor xy_X4_ofCue.desc).map (fun d => d.parameters.length) = some 2 := ⟨by decide +kernel, by decide +kernel, by decide +kernel⟩
theorem ce_X4_ofCue {l : Launch} (hl9 : l.stackTraces = false) {E : xEv} {x0 : Option Nat} {x1 : Int32} {x2 : Int32} {w : xWd} {q : Nat × xWd} (hf : e_X4_ofCue x0 x1 x2 w = some q) : xk_MX l xy_X4_ofCue prog_1_method_21_code 4 (some .int) 7 113 1 6 E [va_rf (x0), .int (x1), .int (x2)] w q := by
  refine xk_enterX (by decide +kernel) (by simp [lg_sl, xk_cat1, xk_cati, xk_catl, xk_catd]) ?_
  intro p e s m args below meth c hC hr hX ha
  rw [show lv_args 0 [va_rf (x0), .int (x1), .int (x2)] = [(0, va_rf (x0)), (1, .int (x1)), (2, .int (x2))] by simp [lv_args, xk_cat1, xk_cati, xk_catl, xk_catd]]
  exact te_X4_ofCue_0 hC hr hX hl9 x0 x1 x2 w hf
def e_X4_ofBar (x0 : Option Nat) (x1 : Int32) (x2 : Int32) (x3 : Int32) (w : xWd) : Option (Nat × xWd) := (xk_is w (x0) 0).bind (fun u2 => e_X4_cueNumbered (x0) (x1) w)
set_option maxHeartbeats 4000000 in
set_option maxRecDepth 100000 in
theorem te_X4_ofBar_0 {p : Program} {l : Launch} {e : Env} {s : State} {m : MethodId} {args : Array Value} {below : List Frame} {meth : Method} {c : Code} {E : xEv} (hC : xk_C p s m args meth c E prog_1_method_22_code "Clickbook" 5) (hr : meth.sig.returnType = (some .int)) (hX : ∀ x ∈ c.exceptionTable.toList, False) (hl9 : l.stackTraces = false) {q : (Nat × xWd)} (x0 : Option Nat) (x1 : Int32) (x2 : Int32) (x3 : Int32) (w : xWd) (hf : e_X4_ofBar x0 x1 x2 x3 w = some q) : xk_X p l e { frames := 7, cells := 1, slots := 6, locals := 113 } s m args below meth c (vx_MQ below xk_QN (xk_XC E q) args s 1 6 (xk_A E.2.2.1)) E 5 0 0 0 [(0, va_rf (x0)), (1, .int (x1)), (2, .int (x2)), (3, .int (x3))] [] w := by
  refine xk_aload_n hC dX4_ofBar_0 0 rfl rfl ?_
  refine xk_iload_n hC dX4_ofBar_1 1 rfl rfl ?_
  obtain ⟨u2, h2, hf⟩ := xk_bi hf
  exact xk_outX hC hX (Nat.le_of_ble_eq_true rfl) (Nat.le_of_ble_eq_true rfl) (xk_callVX (av := [.int (x1)]) (rest := []) hC 1 xc_0 (ce_X4_cueNumbered hl9 hf) h2 xm_368 xm_370 xm_p19 xm_1 xm_371 ⟨rfl, xd_X4_cueNumbered⟩ rfl ⟨Nat.le_of_ble_eq_true rfl, Nat.le_of_ble_eq_true rfl⟩ rfl (Nat.le_of_ble_eq_true rfl) dX4_ofBar_2 ⟨(Nat.le_of_ble_eq_true rfl), (Nat.le_of_ble_eq_true rfl)⟩)
theorem xd_X4_ofBar : xy_X4_ofBar.cls ≠ "java/lang/invoke/MethodHandle" ∧ xy_X4_ofBar.cls ≠ "java/lang/invoke/VarHandle" ∧ (parseMethodDescriptor xy_X4_ofBar.desc).map (fun d => d.parameters.length) = some 3 := ⟨by decide +kernel, by decide +kernel, by decide +kernel⟩
theorem ce_X4_ofBar {l : Launch} (hl9 : l.stackTraces = false) {E : xEv} {x0 : Option Nat} {x1 : Int32} {x2 : Int32} {x3 : Int32} {w : xWd} {q : Nat × xWd} (hf : e_X4_ofBar x0 x1 x2 x3 w = some q) : xk_MX l xy_X4_ofBar prog_1_method_22_code 5 (some .int) 7 113 1 6 E [va_rf (x0), .int (x1), .int (x2), .int (x3)] w q := by
  refine xk_enterX (by decide +kernel) (by simp [lg_sl, xk_cat1, xk_cati, xk_catl, xk_catd]) ?_
  intro p e s m args below meth c hC hr hX ha
  rw [show lv_args 0 [va_rf (x0), .int (x1), .int (x2), .int (x3)] = [(0, va_rf (x0)), (1, .int (x1)), (2, .int (x2)), (3, .int (x3))] by simp [lv_args, xk_cat1, xk_cati, xk_catl, xk_catd]]
  exact te_X4_ofBar_0 hC hr hX hl9 x0 x1 x2 x3 w hf
def e_X4_beat (x0 : Option Nat) (x1 : Int32) (x2 : Int32) (w : xWd) : Option (Nat × xWd) := (xk_is w (x0) 0).bind (fun u2 => e_X4_cueNumbered (x0) (x1) w)
set_option maxHeartbeats 4000000 in
set_option maxRecDepth 100000 in
theorem te_X4_beat_0 {p : Program} {l : Launch} {e : Env} {s : State} {m : MethodId} {args : Array Value} {below : List Frame} {meth : Method} {c : Code} {E : xEv} (hC : xk_C p s m args meth c E prog_1_method_23_code "Clickbook" 4) (hr : meth.sig.returnType = (some .int)) (hX : ∀ x ∈ c.exceptionTable.toList, False) (hl9 : l.stackTraces = false) {q : (Nat × xWd)} (x0 : Option Nat) (x1 : Int32) (x2 : Int32) (w : xWd) (hf : e_X4_beat x0 x1 x2 w = some q) : xk_X p l e { frames := 7, cells := 1, slots := 6, locals := 113 } s m args below meth c (vx_MQ below xk_QN (xk_XC E q) args s 1 6 (xk_A E.2.2.1)) E 4 0 0 0 [(0, va_rf (x0)), (1, .int (x1)), (2, .int (x2))] [] w := by
  refine xk_aload_n hC dX4_beat_0 0 rfl rfl ?_
  refine xk_iload_n hC dX4_beat_1 1 rfl rfl ?_
  obtain ⟨u2, h2, hf⟩ := xk_bi hf
  exact xk_outX hC hX (Nat.le_of_ble_eq_true rfl) (Nat.le_of_ble_eq_true rfl) (xk_callVX (av := [.int (x1)]) (rest := []) hC 1 xc_0 (ce_X4_cueNumbered hl9 hf) h2 xm_368 xm_370 xm_p19 xm_1 xm_371 ⟨rfl, xd_X4_cueNumbered⟩ rfl ⟨Nat.le_of_ble_eq_true rfl, Nat.le_of_ble_eq_true rfl⟩ rfl (Nat.le_of_ble_eq_true rfl) dX4_beat_2 ⟨(Nat.le_of_ble_eq_true rfl), (Nat.le_of_ble_eq_true rfl)⟩)
theorem xd_X4_beat : xy_X4_beat.cls ≠ "java/lang/invoke/MethodHandle" ∧ xy_X4_beat.cls ≠ "java/lang/invoke/VarHandle" ∧ (parseMethodDescriptor xy_X4_beat.desc).map (fun d => d.parameters.length) = some 2 := ⟨by decide +kernel, by decide +kernel, by decide +kernel⟩
theorem ce_X4_beat {l : Launch} (hl9 : l.stackTraces = false) {E : xEv} {x0 : Option Nat} {x1 : Int32} {x2 : Int32} {w : xWd} {q : Nat × xWd} (hf : e_X4_beat x0 x1 x2 w = some q) : xk_MX l xy_X4_beat prog_1_method_23_code 4 (some .int) 7 113 1 6 E [va_rf (x0), .int (x1), .int (x2)] w q := by
  refine xk_enterX (by decide +kernel) (by simp [lg_sl, xk_cat1, xk_cati, xk_catl, xk_catd]) ?_
  intro p e s m args below meth c hC hr hX ha
  rw [show lv_args 0 [va_rf (x0), .int (x1), .int (x2)] = [(0, va_rf (x0)), (1, .int (x1)), (2, .int (x2))] by simp [lv_args, xk_cat1, xk_cati, xk_catl, xk_catd]]
  exact te_X4_beat_0 hC hr hX hl9 x0 x1 x2 w hf
def e_X4_ofTake_15 (w : xWd) : Option (Nat × xWd) := some (2, (w.1, w.2.1 + 1, w.2.2))
set_option maxHeartbeats 4000000 in
set_option maxRecDepth 100000 in
theorem te_X4_ofTake_15 {p : Program} {l : Launch} {e : Env} {s : State} {m : MethodId} {args : Array Value} {below : List Frame} {meth : Method} {c : Code} {E : xEv} (hC : xk_C p s m args meth c E prog_1_method_24_code "Clickbook" 4) (hr : meth.sig.returnType = (some .int)) (hX : ∀ x ∈ c.exceptionTable.toList, False) (hl9 : l.stackTraces = false) {q : (Nat × xWd)} (w : xWd) (hf : e_X4_ofTake_15 w = some q) : xk_X p l e { frames := 6, cells := 1, slots := 6, locals := 92 } s m args below meth c (vx_MQ below xk_QN (xk_XC E q) args s 1 6 (xk_A E.2.2.1)) E 4 0 0 15 [] [] w := by
  cases hf
  exact xk_throwW (k := 2) (B := [Cond.declares ⟨"java/lang/RuntimeException", "<init>", "(Ljava/lang/String;)V"⟩, Cond.declares ⟨"java/lang/Exception", "<init>", "(Ljava/lang/String;)V"⟩, Cond.declares ⟨"java/lang/Throwable", "<init>", "(Ljava/lang/String;)V"⟩, Cond.castable "java/lang/IndexOutOfBoundsException" "java/lang/IndexOutOfBoundsException"]) (names := ["java/lang/RuntimeException", "java/lang/Exception"]) hC hX hl9 rfl (by decide +kernel) (by decide +kernel) rfl xm_318 xm_24 (xk_note14 hC) xw_2a xw_2b (vx_c (va_Nw.use rfl (xk_note2 hC)) (vx_c (va_Nw.use rfl (xk_note3 hC)) (vx_c (va_Nw.use rfl (xk_note4 hC)) (vx_c (va_Nw.use rfl (xk_note6 hC)) vx_n)))) xw_2c dX4_ofTake_15 dX4_ofTake_18 dX4_ofTake_19 dX4_ofTake_22 dX4_ofTake_25 (Nat.le_of_ble_eq_true rfl) (Nat.le_of_ble_eq_true rfl) (Nat.le_of_ble_eq_true rfl) (Nat.le_of_ble_eq_true rfl) (Nat.le_of_ble_eq_true rfl) (Nat.le_of_ble_eq_true rfl)
def e_X4_ofTake (x0 : Option Nat) (x1 : Int32) (x2 : Int32) (w : xWd) : Option (Nat × xWd) := if (x1) < ((0 : Int32)) then e_X4_ofTake_15 w else (xk_gR w (x0) 0 4).bind (fun v2 => (xk_is w (v2) 4).bind (fun u4 => (f_Jx4a65c_size_8abf5 (v2)  w).bind (fun q3 => if (x1) < (q3.1) then (xk_gR q3.2 (x0) 0 4).bind (fun v6 => none) else e_X4_ofTake_15 (q3.2))))
set_option maxHeartbeats 4000000 in
set_option maxRecDepth 100000 in
theorem te_X4_ofTake_0 {p : Program} {l : Launch} {e : Env} {s : State} {m : MethodId} {args : Array Value} {below : List Frame} {meth : Method} {c : Code} {E : xEv} (hC : xk_C p s m args meth c E prog_1_method_24_code "Clickbook" 4) (hr : meth.sig.returnType = (some .int)) (hX : ∀ x ∈ c.exceptionTable.toList, False) (hl9 : l.stackTraces = false) {q : (Nat × xWd)} (x0 : Option Nat) (x1 : Int32) (x2 : Int32) (w : xWd) (hf : e_X4_ofTake x0 x1 x2 w = some q) : xk_X p l e { frames := 6, cells := 1, slots := 6, locals := 92 } s m args below meth c (vx_MQ below xk_QN (xk_XC E q) args s 1 6 (xk_A E.2.2.1)) E 4 0 0 0 [(0, va_rf (x0)), (1, .int (x1)), (2, .int (x2))] [] w := by
  refine xk_iload_n hC dX4_ofTake_0 1 rfl rfl ?_
  refine xk_if_lt (tgt := 15) hC dX4_ofTake_1 (by decide) (fun c1 => ?_) (fun c1 => ?_)
  · replace hf := (if_pos c1).symm.trans hf
    refine xk_locals [] rfl ?_
    exact te_X4_ofTake_15 hC hr hX hl9 w hf
  · replace hf := (if_neg c1).symm.trans hf
    refine xk_iload_n hC dX4_ofTake_4 1 rfl rfl ?_
    refine xk_aload_n hC dX4_ofTake_5 0 rfl rfl ?_
    obtain ⟨v2, h2, hf⟩ := xk_bi hf
    refine xk_getR hC xi_0 xc_0 4 (by decide) xm_89 (Or.inl rfl) dX4_ofTake_6 h2 ?_
    obtain ⟨u4, h4, hf⟩ := xk_bi hf
    obtain ⟨q3, h3, hf⟩ := xk_bi hf
    refine xk_backi (xk_callV hC 0 xc_4 (c_Jx4a65c_size_8abf5 h3) h4 xm_130 xm_131 xm_132 xm_4 xm_133 ⟨rfl, xd_Jx4a65c_size_8abf5⟩ rfl ⟨Nat.le_of_ble_eq_true rfl, Nat.le_of_ble_eq_true rfl⟩ rfl (Nat.le_of_ble_eq_true rfl) dX4_ofTake_9 ⟨(Nat.le_of_ble_eq_true rfl), (Nat.le_of_ble_eq_true rfl)⟩) ?_
    refine xk_icmp_lt (tgt := 26) hC dX4_ofTake_12 (by decide) (fun c5 => ?_) (fun c5 => ?_)
    · replace hf := (if_pos c5).symm.trans hf
      refine xk_aload_n hC dX4_ofTake_26 0 rfl rfl ?_
      obtain ⟨v6, h6, hf⟩ := xk_bi hf
      refine xk_getR hC xi_0 xc_0 4 (by decide) xm_89 (Or.inl rfl) dX4_ofTake_27 h6 ?_
      refine xk_iload_n hC dX4_ofTake_30 1 rfl rfl ?_
      cases hf
    · replace hf := (if_neg c5).symm.trans hf
      refine xk_locals [] rfl ?_
      exact te_X4_ofTake_15 hC hr hX hl9 (q3.2) hf
theorem xd_X4_ofTake : xy_X4_ofTake.cls ≠ "java/lang/invoke/MethodHandle" ∧ xy_X4_ofTake.cls ≠ "java/lang/invoke/VarHandle" ∧ (parseMethodDescriptor xy_X4_ofTake.desc).map (fun d => d.parameters.length) = some 2 := ⟨by decide +kernel, by decide +kernel, by decide +kernel⟩
theorem ce_X4_ofTake {l : Launch} (hl9 : l.stackTraces = false) {E : xEv} {x0 : Option Nat} {x1 : Int32} {x2 : Int32} {w : xWd} {q : Nat × xWd} (hf : e_X4_ofTake x0 x1 x2 w = some q) : xk_MX l xy_X4_ofTake prog_1_method_24_code 4 (some .int) 6 92 1 6 E [va_rf (x0), .int (x1), .int (x2)] w q := by
  refine xk_enterX (by decide +kernel) (by simp [lg_sl, xk_cat1, xk_cati, xk_catl, xk_catd]) ?_
  intro p e s m args below meth c hC hr hX ha
  rw [show lv_args 0 [va_rf (x0), .int (x1), .int (x2)] = [(0, va_rf (x0)), (1, .int (x1)), (2, .int (x2))] by simp [lv_args, xk_cat1, xk_cati, xk_catl, xk_catd]]
  exact te_X4_ofTake_0 hC hr hX hl9 x0 x1 x2 w hf
def f_X4_sheet_9 (w : xWd) : Option (Int32 × xWd) := none
set_option maxHeartbeats 4000000 in
set_option maxRecDepth 100000 in
theorem t_X4_sheet_9 {p : Program} {l : Launch} {e : Env} {s : State} {m : MethodId} {args : Array Value} {below : List Frame} {meth : Method} {c : Code} {E : xEv} (hC : xk_C p s m args meth c E prog_1_method_25_code "Clickbook" 5) (hr : meth.sig.returnType = (some .int)) {q : (Int32 × xWd)} (w : xWd) (hf : f_X4_sheet_9 w = some q) : xk_X p l e { frames := 1, cells := 0, slots := 0, locals := 20 } s m args below meth c (MQ below (xk_Qi E q) args s 0 0 (xk_A E.2.2.1)) E 5 0 0 9 [] [] w := by
  cases hf
def f_X4_sheet (x0 : Option Nat) (x1 : Int32) (w : xWd) : Option (Int32 × xWd) := if (x1) < ((0 : Int32)) then f_X4_sheet_9 w else if (x1) < ((4 : Int32)) then (xk_gR w (x0) 0 3).bind (fun v3 => (xk_is w (v3) 4).bind (fun u5 => (f_Jx4a65c_size_8abf5 (v3)  w).bind (fun q4 => if (q4.1) ≤ ((0 : Int32)) then some ((0 : Int32), q4.2) else (xk_gR q4.2 (x0) 0 3).bind (fun v7 => none)))) else f_X4_sheet_9 w
set_option maxHeartbeats 4000000 in
set_option maxRecDepth 100000 in
theorem t_X4_sheet_0 {p : Program} {l : Launch} {e : Env} {s : State} {m : MethodId} {args : Array Value} {below : List Frame} {meth : Method} {c : Code} {E : xEv} (hC : xk_C p s m args meth c E prog_1_method_25_code "Clickbook" 5) (hr : meth.sig.returnType = (some .int)) {q : (Int32 × xWd)} (x0 : Option Nat) (x1 : Int32) (w : xWd) (hf : f_X4_sheet x0 x1 w = some q) : xk_X p l e { frames := 1, cells := 0, slots := 0, locals := 20 } s m args below meth c (MQ below (xk_Qi E q) args s 0 0 (xk_A E.2.2.1)) E 5 0 0 0 [(0, va_rf (x0)), (1, .int (x1))] [] w := by
  refine xk_iload_n hC dX4_sheet_0 1 rfl rfl ?_
  refine xk_if_lt (tgt := 9) hC dX4_sheet_1 (by decide) (fun c1 => ?_) (fun c1 => ?_)
  · replace hf := (if_pos c1).symm.trans hf
    refine xk_locals [] rfl ?_
    exact t_X4_sheet_9 hC hr w hf
  · replace hf := (if_neg c1).symm.trans hf
    refine xk_iload_n hC dX4_sheet_4 1 rfl rfl ?_
    refine xk_iconst (v := (4 : Int32)) hC dX4_sheet_5 (by decide) ?_
    refine xk_icmp_lt (tgt := 20) hC dX4_sheet_6 (by decide) (fun c2 => ?_) (fun c2 => ?_)
    · replace hf := (if_pos c2).symm.trans hf
      refine xk_iconst (v := (0 : Int32)) hC dX4_sheet_20 (by decide) ?_
      refine xk_istore_n (i := 2) (lv' := [(2, .int ((0 : Int32))), (0, va_rf (x0)), (1, .int (x1))]) hC dX4_sheet_21 rfl (by decide) rfl ?_
      refine xk_iconst (v := (0 : Int32)) hC dX4_sheet_22 (by decide) ?_
      refine xk_istore_n (i := 3) (lv' := [(3, .int ((0 : Int32))), (2, .int ((0 : Int32))), (0, va_rf (x0)), (1, .int (x1))]) hC dX4_sheet_23 rfl (by decide) rfl ?_
      refine xk_iload_n hC dX4_sheet_24 0 rfl rfl ?_
      refine xk_aload_n hC dX4_sheet_25 2 rfl rfl ?_
      obtain ⟨v3, h3, hf⟩ := xk_bi hf
      refine xk_getR hC xi_0 xc_0 3 (by decide) xm_88 (Or.inl rfl) dX4_sheet_26 h3 ?_
      obtain ⟨u5, h5, hf⟩ := xk_bi hf
      obtain ⟨q4, h4, hf⟩ := xk_bi hf
      refine xk_backi (xk_callV hC 0 xc_4 (c_Jx4a65c_size_8abf5 h4) h5 xm_130 xm_131 xm_132 xm_4 xm_133 ⟨rfl, xd_Jx4a65c_size_8abf5⟩ rfl ⟨Nat.le_of_ble_eq_true rfl, Nat.le_of_ble_eq_true rfl⟩ rfl (Nat.le_of_ble_eq_true rfl) dX4_sheet_29 ⟨(Nat.le_of_ble_eq_true rfl), (Nat.le_of_ble_eq_true rfl)⟩) ?_
      refine xk_icmp_ge (tgt := 72) hC dX4_sheet_32 (by decide) (fun c6 => ?_) (fun c6 => ?_)
      · replace hf := (if_pos c6).symm.trans hf
        refine xk_iload_n hC dX4_sheet_72 1 rfl rfl ?_
        cases hf
        refine xk_widen (k := 0) (n := 0) (Nat.le_of_ble_eq_true rfl) (Nat.le_of_ble_eq_true rfl) ?_
        exact xk_iret hC hr rfl dX4_sheet_73
      · replace hf := (if_neg c6).symm.trans hf
        refine xk_aload_n hC dX4_sheet_35 2 rfl rfl ?_
        obtain ⟨v7, h7, hf⟩ := xk_bi hf
        refine xk_getR hC xi_0 xc_0 3 (by decide) xm_88 (Or.inl rfl) dX4_sheet_36 h7 ?_
        refine xk_iload_n hC dX4_sheet_39 0 rfl rfl ?_
        cases hf
    · replace hf := (if_neg c2).symm.trans hf
      refine xk_locals [] rfl ?_
      exact t_X4_sheet_9 hC hr w hf
theorem xd_X4_sheet : xy_X4_sheet.cls ≠ "java/lang/invoke/MethodHandle" ∧ xy_X4_sheet.cls ≠ "java/lang/invoke/VarHandle" ∧ (parseMethodDescriptor xy_X4_sheet.desc).map (fun d => d.parameters.length) = some 1 := ⟨by decide +kernel, by decide +kernel, by decide +kernel⟩
theorem c_X4_sheet {l : Launch} {E : xEv} {x0 : Option Nat} {x1 : Int32} {w : xWd} {q : (Int32 × xWd)} (hf : f_X4_sheet x0 x1 w = some q) : xk_M l xy_X4_sheet prog_1_method_25_code 5 (some .int) 1 20 0 0 E [va_rf (x0), .int (x1)] w (xk_Qi E q) := by
  refine xk_enter (by decide +kernel) (by simp [lg_sl, xk_cat1, xk_cati, xk_catl, xk_catd]) ?_
  intro p e s m args below meth c hC hr hin ha
  rw [show lv_args 0 [va_rf (x0), .int (x1)] = [(0, va_rf (x0)), (1, .int (x1))] by simp [lv_args, xk_cat1, xk_cati, xk_catl, xk_catd]]
  exact t_X4_sheet_0 hC hr x0 x1 w hf
def e_X4_sheet_9 (w : xWd) : Option (Nat × xWd) := some (2, (w.1, w.2.1 + 1, w.2.2))
set_option maxHeartbeats 4000000 in
set_option maxRecDepth 100000 in
theorem te_X4_sheet_9 {p : Program} {l : Launch} {e : Env} {s : State} {m : MethodId} {args : Array Value} {below : List Frame} {meth : Method} {c : Code} {E : xEv} (hC : xk_C p s m args meth c E prog_1_method_25_code "Clickbook" 5) (hr : meth.sig.returnType = (some .int)) (hX : ∀ x ∈ c.exceptionTable.toList, False) (hl9 : l.stackTraces = false) {q : (Nat × xWd)} (w : xWd) (hf : e_X4_sheet_9 w = some q) : xk_X p l e { frames := 6, cells := 1, slots := 6, locals := 92 } s m args below meth c (vx_MQ below xk_QN (xk_XC E q) args s 1 6 (xk_A E.2.2.1)) E 5 0 0 9 [] [] w := by
  cases hf
  exact xk_throwW (k := 2) (B := [Cond.declares ⟨"java/lang/RuntimeException", "<init>", "(Ljava/lang/String;)V"⟩, Cond.declares ⟨"java/lang/Exception", "<init>", "(Ljava/lang/String;)V"⟩, Cond.declares ⟨"java/lang/Throwable", "<init>", "(Ljava/lang/String;)V"⟩, Cond.castable "java/lang/IndexOutOfBoundsException" "java/lang/IndexOutOfBoundsException"]) (names := ["java/lang/RuntimeException", "java/lang/Exception"]) hC hX hl9 rfl (by decide +kernel) (by decide +kernel) rfl xm_318 xm_24 (xk_note16 hC) xw_2a xw_2b (vx_c (va_Nw.use rfl (xk_note2 hC)) (vx_c (va_Nw.use rfl (xk_note3 hC)) (vx_c (va_Nw.use rfl (xk_note4 hC)) (vx_c (va_Nw.use rfl (xk_note6 hC)) vx_n)))) xw_2c dX4_sheet_9 dX4_sheet_12 dX4_sheet_13 dX4_sheet_16 dX4_sheet_19 (Nat.le_of_ble_eq_true rfl) (Nat.le_of_ble_eq_true rfl) (Nat.le_of_ble_eq_true rfl) (Nat.le_of_ble_eq_true rfl) (Nat.le_of_ble_eq_true rfl) (Nat.le_of_ble_eq_true rfl)
def e_X4_sheet (x0 : Option Nat) (x1 : Int32) (w : xWd) : Option (Nat × xWd) := if (x1) < ((0 : Int32)) then e_X4_sheet_9 w else if (x1) < ((4 : Int32)) then (xk_gR w (x0) 0 3).bind (fun v3 => (xk_is w (v3) 4).bind (fun u5 => (f_Jx4a65c_size_8abf5 (v3)  w).bind (fun q4 => if (q4.1) ≤ ((0 : Int32)) then none else (xk_gR q4.2 (x0) 0 3).bind (fun v7 => none)))) else e_X4_sheet_9 w
set_option maxHeartbeats 4000000 in
set_option maxRecDepth 100000 in
theorem te_X4_sheet_0 {p : Program} {l : Launch} {e : Env} {s : State} {m : MethodId} {args : Array Value} {below : List Frame} {meth : Method} {c : Code} {E : xEv} (hC : xk_C p s m args meth c E prog_1_method_25_code "Clickbook" 5) (hr : meth.sig.returnType = (some .int)) (hX : ∀ x ∈ c.exceptionTable.toList, False) (hl9 : l.stackTraces = false) {q : (Nat × xWd)} (x0 : Option Nat) (x1 : Int32) (w : xWd) (hf : e_X4_sheet x0 x1 w = some q) : xk_X p l e { frames := 6, cells := 1, slots := 6, locals := 92 } s m args below meth c (vx_MQ below xk_QN (xk_XC E q) args s 1 6 (xk_A E.2.2.1)) E 5 0 0 0 [(0, va_rf (x0)), (1, .int (x1))] [] w := by
  refine xk_iload_n hC dX4_sheet_0 1 rfl rfl ?_
  refine xk_if_lt (tgt := 9) hC dX4_sheet_1 (by decide) (fun c1 => ?_) (fun c1 => ?_)
  · replace hf := (if_pos c1).symm.trans hf
    refine xk_locals [] rfl ?_
    exact te_X4_sheet_9 hC hr hX hl9 w hf
  · replace hf := (if_neg c1).symm.trans hf
    refine xk_iload_n hC dX4_sheet_4 1 rfl rfl ?_
    refine xk_iconst (v := (4 : Int32)) hC dX4_sheet_5 (by decide) ?_
    refine xk_icmp_lt (tgt := 20) hC dX4_sheet_6 (by decide) (fun c2 => ?_) (fun c2 => ?_)
    · replace hf := (if_pos c2).symm.trans hf
      refine xk_iconst (v := (0 : Int32)) hC dX4_sheet_20 (by decide) ?_
      refine xk_istore_n (i := 2) (lv' := [(2, .int ((0 : Int32))), (0, va_rf (x0)), (1, .int (x1))]) hC dX4_sheet_21 rfl (by decide) rfl ?_
      refine xk_iconst (v := (0 : Int32)) hC dX4_sheet_22 (by decide) ?_
      refine xk_istore_n (i := 3) (lv' := [(3, .int ((0 : Int32))), (2, .int ((0 : Int32))), (0, va_rf (x0)), (1, .int (x1))]) hC dX4_sheet_23 rfl (by decide) rfl ?_
      refine xk_iload_n hC dX4_sheet_24 0 rfl rfl ?_
      refine xk_aload_n hC dX4_sheet_25 2 rfl rfl ?_
      obtain ⟨v3, h3, hf⟩ := xk_bi hf
      refine xk_getR hC xi_0 xc_0 3 (by decide) xm_88 (Or.inl rfl) dX4_sheet_26 h3 ?_
      obtain ⟨u5, h5, hf⟩ := xk_bi hf
      obtain ⟨q4, h4, hf⟩ := xk_bi hf
      refine xk_backi (xk_callV hC 0 xc_4 (c_Jx4a65c_size_8abf5 h4) h5 xm_130 xm_131 xm_132 xm_4 xm_133 ⟨rfl, xd_Jx4a65c_size_8abf5⟩ rfl ⟨Nat.le_of_ble_eq_true rfl, Nat.le_of_ble_eq_true rfl⟩ rfl (Nat.le_of_ble_eq_true rfl) dX4_sheet_29 ⟨(Nat.le_of_ble_eq_true rfl), (Nat.le_of_ble_eq_true rfl)⟩) ?_
      refine xk_icmp_ge (tgt := 72) hC dX4_sheet_32 (by decide) (fun c6 => ?_) (fun c6 => ?_)
      · replace hf := (if_pos c6).symm.trans hf
        refine xk_iload_n hC dX4_sheet_72 1 rfl rfl ?_
        cases hf
      · replace hf := (if_neg c6).symm.trans hf
        refine xk_aload_n hC dX4_sheet_35 2 rfl rfl ?_
        obtain ⟨v7, h7, hf⟩ := xk_bi hf
        refine xk_getR hC xi_0 xc_0 3 (by decide) xm_88 (Or.inl rfl) dX4_sheet_36 h7 ?_
        refine xk_iload_n hC dX4_sheet_39 0 rfl rfl ?_
        cases hf
    · replace hf := (if_neg c2).symm.trans hf
      refine xk_locals [] rfl ?_
      exact te_X4_sheet_9 hC hr hX hl9 w hf
theorem ce_X4_sheet {l : Launch} (hl9 : l.stackTraces = false) {E : xEv} {x0 : Option Nat} {x1 : Int32} {w : xWd} {q : Nat × xWd} (hf : e_X4_sheet x0 x1 w = some q) : xk_MX l xy_X4_sheet prog_1_method_25_code 5 (some .int) 6 92 1 6 E [va_rf (x0), .int (x1)] w q := by
  refine xk_enterX (by decide +kernel) (by simp [lg_sl, xk_cat1, xk_cati, xk_catl, xk_catd]) ?_
  intro p e s m args below meth c hC hr hX ha
  rw [show lv_args 0 [va_rf (x0), .int (x1)] = [(0, va_rf (x0)), (1, .int (x1))] by simp [lv_args, xk_cat1, xk_cati, xk_catl, xk_catd]]
  exact te_X4_sheet_0 hC hr hX hl9 x0 x1 w hf
def f_X4_countGone (x0 : Option Nat) (w : xWd) : Option (Int32 × xWd) := (xk_gR w (x0) 0 0).bind (fun v1 => (xk_is w (v1) 4).bind (fun u3 => (f_Jx4a65c_size_8abf5 (v1)  w).bind (fun q2 => if (q2.1) ≤ ((0 : Int32)) then some ((0 : Int32), q2.2) else (xk_gR q2.2 (x0) 0 0).bind (fun v5 => none))))
set_option maxHeartbeats 4000000 in
set_option maxRecDepth 100000 in
theorem t_X4_countGone_0 {p : Program} {l : Launch} {e : Env} {s : State} {m : MethodId} {args : Array Value} {below : List Frame} {meth : Method} {c : Code} {E : xEv} (hC : xk_C p s m args meth c E prog_1_method_34_code "Clickbook" 3) (hr : meth.sig.returnType = (some .int)) {q : (Int32 × xWd)} (x0 : Option Nat) (w : xWd) (hf : f_X4_countGone x0 w = some q) : xk_X p l e { frames := 1, cells := 0, slots := 0, locals := 20 } s m args below meth c (MQ below (xk_Qi E q) args s 0 0 (xk_A E.2.2.1)) E 3 0 0 0 [(0, va_rf (x0))] [] w := by
  refine xk_iconst (v := (0 : Int32)) hC dX4_countGone_0 (by decide) ?_
  refine xk_istore_n (i := 1) (lv' := [(1, .int ((0 : Int32))), (0, va_rf (x0))]) hC dX4_countGone_1 rfl (by decide) (by simp [xk_cat1]) ?_
  refine xk_iconst (v := (0 : Int32)) hC dX4_countGone_2 (by decide) ?_
  refine xk_istore_n (i := 2) (lv' := [(2, .int ((0 : Int32))), (1, .int ((0 : Int32))), (0, va_rf (x0))]) hC dX4_countGone_3 rfl (by decide) rfl ?_
  refine xk_iload_n hC dX4_countGone_4 0 rfl rfl ?_
  refine xk_aload_n hC dX4_countGone_5 2 rfl rfl ?_
  obtain ⟨v1, h1, hf⟩ := xk_bi hf
  refine xk_getR hC xi_0 xc_0 0 (by decide) xm_85 (Or.inl rfl) dX4_countGone_6 h1 ?_
  obtain ⟨u3, h3, hf⟩ := xk_bi hf
  obtain ⟨q2, h2, hf⟩ := xk_bi hf
  refine xk_backi (xk_callV hC 0 xc_4 (c_Jx4a65c_size_8abf5 h2) h3 xm_130 xm_131 xm_132 xm_4 xm_133 ⟨rfl, xd_Jx4a65c_size_8abf5⟩ rfl ⟨Nat.le_of_ble_eq_true rfl, Nat.le_of_ble_eq_true rfl⟩ rfl (Nat.le_of_ble_eq_true rfl) dX4_countGone_9 ⟨(Nat.le_of_ble_eq_true rfl), (Nat.le_of_ble_eq_true rfl)⟩) ?_
  refine xk_icmp_ge (tgt := 41) hC dX4_countGone_12 (by decide) (fun c4 => ?_) (fun c4 => ?_)
  · replace hf := (if_pos c4).symm.trans hf
    refine xk_iload_n hC dX4_countGone_41 1 rfl rfl ?_
    cases hf
    refine xk_widen (k := 0) (n := 0) (Nat.le_of_ble_eq_true rfl) (Nat.le_of_ble_eq_true rfl) ?_
    exact xk_iret hC hr rfl dX4_countGone_42
  · replace hf := (if_neg c4).symm.trans hf
    refine xk_aload_n hC dX4_countGone_15 2 rfl rfl ?_
    obtain ⟨v5, h5, hf⟩ := xk_bi hf
    refine xk_getR hC xi_0 xc_0 0 (by decide) xm_85 (Or.inl rfl) dX4_countGone_16 h5 ?_
    refine xk_iload_n hC dX4_countGone_19 0 rfl rfl ?_
    cases hf
theorem xd_X4_countGone : xy_X4_countGone.cls ≠ "java/lang/invoke/MethodHandle" ∧ xy_X4_countGone.cls ≠ "java/lang/invoke/VarHandle" ∧ (parseMethodDescriptor xy_X4_countGone.desc).map (fun d => d.parameters.length) = some 0 := ⟨by decide +kernel, by decide +kernel, by decide +kernel⟩
theorem c_X4_countGone {l : Launch} {E : xEv} {x0 : Option Nat} {w : xWd} {q : (Int32 × xWd)} (hf : f_X4_countGone x0 w = some q) : xk_M l xy_X4_countGone prog_1_method_34_code 3 (some .int) 1 20 0 0 E [va_rf (x0)] w (xk_Qi E q) := by
  refine xk_enter (by decide +kernel) (by simp [lg_sl, xk_cat1, xk_cati, xk_catl, xk_catd]) ?_
  intro p e s m args below meth c hC hr hin ha
  rw [show lv_args 0 [va_rf (x0)] = [(0, va_rf (x0))] by simp [lv_args, xk_cat1, xk_cati, xk_catl, xk_catd]]
  exact t_X4_countGone_0 hC hr x0 w hf
def f_X4_countMet (x0 : Option Nat) (w : xWd) : Option (Int32 × xWd) := (xk_gR w (x0) 0 0).bind (fun v1 => (xk_is w (v1) 4).bind (fun u3 => (f_Jx4a65c_size_8abf5 (v1)  w).bind (fun q2 => if (q2.1) ≤ ((0 : Int32)) then some ((0 : Int32), q2.2) else (xk_gR q2.2 (x0) 0 0).bind (fun v5 => none))))
set_option maxHeartbeats 4000000 in
set_option maxRecDepth 100000 in
theorem t_X4_countMet_0 {p : Program} {l : Launch} {e : Env} {s : State} {m : MethodId} {args : Array Value} {below : List Frame} {meth : Method} {c : Code} {E : xEv} (hC : xk_C p s m args meth c E prog_1_method_33_code "Clickbook" 3) (hr : meth.sig.returnType = (some .int)) {q : (Int32 × xWd)} (x0 : Option Nat) (w : xWd) (hf : f_X4_countMet x0 w = some q) : xk_X p l e { frames := 1, cells := 0, slots := 0, locals := 20 } s m args below meth c (MQ below (xk_Qi E q) args s 0 0 (xk_A E.2.2.1)) E 3 0 0 0 [(0, va_rf (x0))] [] w := by
  refine xk_iconst (v := (0 : Int32)) hC dX4_countMet_0 (by decide) ?_
  refine xk_istore_n (i := 1) (lv' := [(1, .int ((0 : Int32))), (0, va_rf (x0))]) hC dX4_countMet_1 rfl (by decide) (by simp [xk_cat1]) ?_
  refine xk_iconst (v := (0 : Int32)) hC dX4_countMet_2 (by decide) ?_
  refine xk_istore_n (i := 2) (lv' := [(2, .int ((0 : Int32))), (1, .int ((0 : Int32))), (0, va_rf (x0))]) hC dX4_countMet_3 rfl (by decide) rfl ?_
  refine xk_iload_n hC dX4_countMet_4 0 rfl rfl ?_
  refine xk_aload_n hC dX4_countMet_5 2 rfl rfl ?_
  obtain ⟨v1, h1, hf⟩ := xk_bi hf
  refine xk_getR hC xi_0 xc_0 0 (by decide) xm_85 (Or.inl rfl) dX4_countMet_6 h1 ?_
  obtain ⟨u3, h3, hf⟩ := xk_bi hf
  obtain ⟨q2, h2, hf⟩ := xk_bi hf
  refine xk_backi (xk_callV hC 0 xc_4 (c_Jx4a65c_size_8abf5 h2) h3 xm_130 xm_131 xm_132 xm_4 xm_133 ⟨rfl, xd_Jx4a65c_size_8abf5⟩ rfl ⟨Nat.le_of_ble_eq_true rfl, Nat.le_of_ble_eq_true rfl⟩ rfl (Nat.le_of_ble_eq_true rfl) dX4_countMet_9 ⟨(Nat.le_of_ble_eq_true rfl), (Nat.le_of_ble_eq_true rfl)⟩) ?_
  refine xk_icmp_ge (tgt := 42) hC dX4_countMet_12 (by decide) (fun c4 => ?_) (fun c4 => ?_)
  · replace hf := (if_pos c4).symm.trans hf
    refine xk_iload_n hC dX4_countMet_42 1 rfl rfl ?_
    cases hf
    refine xk_widen (k := 0) (n := 0) (Nat.le_of_ble_eq_true rfl) (Nat.le_of_ble_eq_true rfl) ?_
    exact xk_iret hC hr rfl dX4_countMet_43
  · replace hf := (if_neg c4).symm.trans hf
    refine xk_aload_n hC dX4_countMet_15 2 rfl rfl ?_
    refine xk_aload_n hC dX4_countMet_16 2 rfl rfl ?_
    obtain ⟨v5, h5, hf⟩ := xk_bi hf
    refine xk_getR hC xi_0 xc_0 0 (by decide) xm_85 (Or.inl rfl) dX4_countMet_17 h5 ?_
    refine xk_iload_n hC dX4_countMet_20 0 rfl rfl ?_
    cases hf
theorem xd_X4_countMet : xy_X4_countMet.cls ≠ "java/lang/invoke/MethodHandle" ∧ xy_X4_countMet.cls ≠ "java/lang/invoke/VarHandle" ∧ (parseMethodDescriptor xy_X4_countMet.desc).map (fun d => d.parameters.length) = some 0 := ⟨by decide +kernel, by decide +kernel, by decide +kernel⟩
theorem c_X4_countMet {l : Launch} {E : xEv} {x0 : Option Nat} {w : xWd} {q : (Int32 × xWd)} (hf : f_X4_countMet x0 w = some q) : xk_M l xy_X4_countMet prog_1_method_33_code 3 (some .int) 1 20 0 0 E [va_rf (x0)] w (xk_Qi E q) := by
  refine xk_enter (by decide +kernel) (by simp [lg_sl, xk_cat1, xk_cati, xk_catl, xk_catd]) ?_
  intro p e s m args below meth c hC hr hin ha
  rw [show lv_args 0 [va_rf (x0)] = [(0, va_rf (x0))] by simp [lv_args, xk_cat1, xk_cati, xk_catl, xk_catd]]
  exact t_X4_countMet_0 hC hr x0 w hf
def f_X4_countRunningOver (x0 : Option Nat) (w : xWd) : Option (Int32 × xWd) := (xk_gR w (x0) 0 3).bind (fun v1 => (xk_is w (v1) 4).bind (fun u3 => (f_Jx4a65c_size_8abf5 (v1)  w).bind (fun q2 => if (q2.1) ≤ ((0 : Int32)) then some ((0 : Int32), q2.2) else (xk_gR q2.2 (x0) 0 3).bind (fun v5 => none))))
set_option maxHeartbeats 4000000 in
set_option maxRecDepth 100000 in
theorem t_X4_countRunningOver_0 {p : Program} {l : Launch} {e : Env} {s : State} {m : MethodId} {args : Array Value} {below : List Frame} {meth : Method} {c : Code} {E : xEv} (hC : xk_C p s m args meth c E prog_1_method_36_code "Clickbook" 3) (hr : meth.sig.returnType = (some .int)) {q : (Int32 × xWd)} (x0 : Option Nat) (w : xWd) (hf : f_X4_countRunningOver x0 w = some q) : xk_X p l e { frames := 1, cells := 0, slots := 0, locals := 20 } s m args below meth c (MQ below (xk_Qi E q) args s 0 0 (xk_A E.2.2.1)) E 3 0 0 0 [(0, va_rf (x0))] [] w := by
  refine xk_iconst (v := (0 : Int32)) hC dX4_countRunningOver_0 (by decide) ?_
  refine xk_istore_n (i := 1) (lv' := [(1, .int ((0 : Int32))), (0, va_rf (x0))]) hC dX4_countRunningOver_1 rfl (by decide) (by simp [xk_cat1]) ?_
  refine xk_iconst (v := (0 : Int32)) hC dX4_countRunningOver_2 (by decide) ?_
  refine xk_istore_n (i := 2) (lv' := [(2, .int ((0 : Int32))), (1, .int ((0 : Int32))), (0, va_rf (x0))]) hC dX4_countRunningOver_3 rfl (by decide) rfl ?_
  refine xk_iload_n hC dX4_countRunningOver_4 0 rfl rfl ?_
  refine xk_aload_n hC dX4_countRunningOver_5 2 rfl rfl ?_
  obtain ⟨v1, h1, hf⟩ := xk_bi hf
  refine xk_getR hC xi_0 xc_0 3 (by decide) xm_88 (Or.inl rfl) dX4_countRunningOver_6 h1 ?_
  obtain ⟨u3, h3, hf⟩ := xk_bi hf
  obtain ⟨q2, h2, hf⟩ := xk_bi hf
  refine xk_backi (xk_callV hC 0 xc_4 (c_Jx4a65c_size_8abf5 h2) h3 xm_130 xm_131 xm_132 xm_4 xm_133 ⟨rfl, xd_Jx4a65c_size_8abf5⟩ rfl ⟨Nat.le_of_ble_eq_true rfl, Nat.le_of_ble_eq_true rfl⟩ rfl (Nat.le_of_ble_eq_true rfl) dX4_countRunningOver_9 ⟨(Nat.le_of_ble_eq_true rfl), (Nat.le_of_ble_eq_true rfl)⟩) ?_
  refine xk_icmp_ge (tgt := 42) hC dX4_countRunningOver_12 (by decide) (fun c4 => ?_) (fun c4 => ?_)
  · replace hf := (if_pos c4).symm.trans hf
    refine xk_iload_n hC dX4_countRunningOver_42 1 rfl rfl ?_
    cases hf
    refine xk_widen (k := 0) (n := 0) (Nat.le_of_ble_eq_true rfl) (Nat.le_of_ble_eq_true rfl) ?_
    exact xk_iret hC hr rfl dX4_countRunningOver_43
  · replace hf := (if_neg c4).symm.trans hf
    refine xk_aload_n hC dX4_countRunningOver_15 2 rfl rfl ?_
    refine xk_aload_n hC dX4_countRunningOver_16 2 rfl rfl ?_
    obtain ⟨v5, h5, hf⟩ := xk_bi hf
    refine xk_getR hC xi_0 xc_0 3 (by decide) xm_88 (Or.inl rfl) dX4_countRunningOver_17 h5 ?_
    refine xk_iload_n hC dX4_countRunningOver_20 0 rfl rfl ?_
    cases hf
theorem xd_X4_countRunningOver : xy_X4_countRunningOver.cls ≠ "java/lang/invoke/MethodHandle" ∧ xy_X4_countRunningOver.cls ≠ "java/lang/invoke/VarHandle" ∧ (parseMethodDescriptor xy_X4_countRunningOver.desc).map (fun d => d.parameters.length) = some 0 := ⟨by decide +kernel, by decide +kernel, by decide +kernel⟩
theorem c_X4_countRunningOver {l : Launch} {E : xEv} {x0 : Option Nat} {w : xWd} {q : (Int32 × xWd)} (hf : f_X4_countRunningOver x0 w = some q) : xk_M l xy_X4_countRunningOver prog_1_method_36_code 3 (some .int) 1 20 0 0 E [va_rf (x0)] w (xk_Qi E q) := by
  refine xk_enter (by decide +kernel) (by simp [lg_sl, xk_cat1, xk_cati, xk_catl, xk_catd]) ?_
  intro p e s m args below meth c hC hr hin ha
  rw [show lv_args 0 [va_rf (x0)] = [(0, va_rf (x0))] by simp [lv_args, xk_cat1, xk_cati, xk_catl, xk_catd]]
  exact t_X4_countRunningOver_0 hC hr x0 w hf
def f_X4_countSpoiling (x0 : Option Nat) (w : xWd) : Option (Int32 × xWd) := (xk_gR w (x0) 0 3).bind (fun v1 => (xk_is w (v1) 4).bind (fun u3 => (f_Jx4a65c_size_8abf5 (v1)  w).bind (fun q2 => if (q2.1) ≤ ((0 : Int32)) then some ((0 : Int32), q2.2) else (xk_gR q2.2 (x0) 0 3).bind (fun v5 => none))))
set_option maxHeartbeats 4000000 in
set_option maxRecDepth 100000 in
theorem t_X4_countSpoiling_0 {p : Program} {l : Launch} {e : Env} {s : State} {m : MethodId} {args : Array Value} {below : List Frame} {meth : Method} {c : Code} {E : xEv} (hC : xk_C p s m args meth c E prog_1_method_38_code "Clickbook" 3) (hr : meth.sig.returnType = (some .int)) {q : (Int32 × xWd)} (x0 : Option Nat) (w : xWd) (hf : f_X4_countSpoiling x0 w = some q) : xk_X p l e { frames := 1, cells := 0, slots := 0, locals := 20 } s m args below meth c (MQ below (xk_Qi E q) args s 0 0 (xk_A E.2.2.1)) E 3 0 0 0 [(0, va_rf (x0))] [] w := by
  refine xk_iconst (v := (0 : Int32)) hC dX4_countSpoiling_0 (by decide) ?_
  refine xk_istore_n (i := 1) (lv' := [(1, .int ((0 : Int32))), (0, va_rf (x0))]) hC dX4_countSpoiling_1 rfl (by decide) (by simp [xk_cat1]) ?_
  refine xk_iconst (v := (0 : Int32)) hC dX4_countSpoiling_2 (by decide) ?_
  refine xk_istore_n (i := 2) (lv' := [(2, .int ((0 : Int32))), (1, .int ((0 : Int32))), (0, va_rf (x0))]) hC dX4_countSpoiling_3 rfl (by decide) rfl ?_
  refine xk_iload_n hC dX4_countSpoiling_4 0 rfl rfl ?_
  refine xk_aload_n hC dX4_countSpoiling_5 2 rfl rfl ?_
  obtain ⟨v1, h1, hf⟩ := xk_bi hf
  refine xk_getR hC xi_0 xc_0 3 (by decide) xm_88 (Or.inl rfl) dX4_countSpoiling_6 h1 ?_
  obtain ⟨u3, h3, hf⟩ := xk_bi hf
  obtain ⟨q2, h2, hf⟩ := xk_bi hf
  refine xk_backi (xk_callV hC 0 xc_4 (c_Jx4a65c_size_8abf5 h2) h3 xm_130 xm_131 xm_132 xm_4 xm_133 ⟨rfl, xd_Jx4a65c_size_8abf5⟩ rfl ⟨Nat.le_of_ble_eq_true rfl, Nat.le_of_ble_eq_true rfl⟩ rfl (Nat.le_of_ble_eq_true rfl) dX4_countSpoiling_9 ⟨(Nat.le_of_ble_eq_true rfl), (Nat.le_of_ble_eq_true rfl)⟩) ?_
  refine xk_icmp_ge (tgt := 42) hC dX4_countSpoiling_12 (by decide) (fun c4 => ?_) (fun c4 => ?_)
  · replace hf := (if_pos c4).symm.trans hf
    refine xk_iload_n hC dX4_countSpoiling_42 1 rfl rfl ?_
    cases hf
    refine xk_widen (k := 0) (n := 0) (Nat.le_of_ble_eq_true rfl) (Nat.le_of_ble_eq_true rfl) ?_
    exact xk_iret hC hr rfl dX4_countSpoiling_43
  · replace hf := (if_neg c4).symm.trans hf
    refine xk_aload_n hC dX4_countSpoiling_15 2 rfl rfl ?_
    refine xk_aload_n hC dX4_countSpoiling_16 2 rfl rfl ?_
    obtain ⟨v5, h5, hf⟩ := xk_bi hf
    refine xk_getR hC xi_0 xc_0 3 (by decide) xm_88 (Or.inl rfl) dX4_countSpoiling_17 h5 ?_
    refine xk_iload_n hC dX4_countSpoiling_20 0 rfl rfl ?_
    cases hf
theorem xd_X4_countSpoiling : xy_X4_countSpoiling.cls ≠ "java/lang/invoke/MethodHandle" ∧ xy_X4_countSpoiling.cls ≠ "java/lang/invoke/VarHandle" ∧ (parseMethodDescriptor xy_X4_countSpoiling.desc).map (fun d => d.parameters.length) = some 0 := ⟨by decide +kernel, by decide +kernel, by decide +kernel⟩
theorem c_X4_countSpoiling {l : Launch} {E : xEv} {x0 : Option Nat} {w : xWd} {q : (Int32 × xWd)} (hf : f_X4_countSpoiling x0 w = some q) : xk_M l xy_X4_countSpoiling prog_1_method_38_code 3 (some .int) 1 20 0 0 E [va_rf (x0)] w (xk_Qi E q) := by
  refine xk_enter (by decide +kernel) (by simp [lg_sl, xk_cat1, xk_cati, xk_catl, xk_catd]) ?_
  intro p e s m args below meth c hC hr hin ha
  rw [show lv_args 0 [va_rf (x0)] = [(0, va_rf (x0))] by simp [lv_args, xk_cat1, xk_cati, xk_catl, xk_catd]]
  exact t_X4_countSpoiling_0 hC hr x0 w hf
def f_X4_countClashes_4 : Nat → Option Nat → Int32 → Int32 → xWd → Option (Int32 × xWd)
  | 0, _, _, _, _ => none
  | n + 1, x0, x1, x2, w => (xk_gR w (x0) 0 3).bind (fun v1 => (xk_is w (v1) 4).bind (fun u3 => (f_Jx4a65c_size_8abf5 (v1)  w).bind (fun q2 => if (q2.1) ≤ (x2) then some (x1, q2.2) else (xk_gR q2.2 (x0) 0 3).bind (fun v5 => (xk_is q2.2 (v5) 4).bind (fun u7 => (f_Jx4a65c_size_8abf5 (v5)  q2.2).bind (fun q6 => if (q6.1) ≤ ((x2) + ((1 : Int32))) then f_X4_countClashes_4 n x0 x1 (x2 + (1 : Int32)) (q6.2) else (xk_gR q6.2 (x0) 0 3).bind (fun v9 => none)))))))
set_option maxHeartbeats 4000000 in
set_option maxRecDepth 100000 in
theorem t_X4_countClashes_4 {p : Program} {l : Launch} {e : Env} {s : State} {m : MethodId} {args : Array Value} {below : List Frame} {meth : Method} {c : Code} {E : xEv} (hC : xk_C p s m args meth c E prog_1_method_39_code "Clickbook" 4) (hr : meth.sig.returnType = (some .int)) {q : (Int32 × xWd)} : ∀ (n : Nat) (x0 : Option Nat) (x1 : Int32) (x2 : Int32) (w : xWd), f_X4_countClashes_4 n x0 x1 x2 w = some q → xk_X p l e { frames := 1, cells := 0, slots := 0, locals := 20 } s m args below meth c (MQ below (xk_Qi E q) args s 0 0 (xk_A E.2.2.1)) E 4 0 0 4 [(0, va_rf (x0)), (1, .int (x1)), (2, .int (x2))] [] w := by
  intro n
  induction n with
  | zero => intro x0 x1 x2 w hf; have hf : none = some q := hf; cases hf
  | succ n ih =>
    intro x0 x1 x2 w hf
    refine xk_iload_n hC dX4_countClashes_4 2 rfl rfl ?_
    refine xk_aload_n hC dX4_countClashes_5 0 rfl rfl ?_
    obtain ⟨v1, h1, hf⟩ := xk_bi hf
    refine xk_getR hC xi_0 xc_0 3 (by decide) xm_88 (Or.inl rfl) dX4_countClashes_6 h1 ?_
    obtain ⟨u3, h3, hf⟩ := xk_bi hf
    obtain ⟨q2, h2, hf⟩ := xk_bi hf
    refine xk_backi (xk_callV hC 0 xc_4 (c_Jx4a65c_size_8abf5 h2) h3 xm_130 xm_131 xm_132 xm_4 xm_133 ⟨rfl, xd_Jx4a65c_size_8abf5⟩ rfl ⟨Nat.le_of_ble_eq_true rfl, Nat.le_of_ble_eq_true rfl⟩ rfl (Nat.le_of_ble_eq_true rfl) dX4_countClashes_9 ⟨(Nat.le_of_ble_eq_true rfl), (Nat.le_of_ble_eq_true rfl)⟩) ?_
    refine xk_icmp_ge (tgt := 73) hC dX4_countClashes_12 (by decide) (fun c4 => ?_) (fun c4 => ?_)
    · replace hf := (if_pos c4).symm.trans hf
      refine xk_iload_n hC dX4_countClashes_73 1 rfl rfl ?_
      cases hf
      refine xk_widen (k := 0) (n := 0) (Nat.le_of_ble_eq_true rfl) (Nat.le_of_ble_eq_true rfl) ?_
      exact xk_iret hC hr rfl dX4_countClashes_74
    · replace hf := (if_neg c4).symm.trans hf
      refine xk_iload_n hC dX4_countClashes_15 2 rfl rfl ?_
      refine xk_iconst (v := (1 : Int32)) hC dX4_countClashes_16 (by decide) ?_
      refine xk_iadd hC dX4_countClashes_17 ?_
      refine xk_istore_n (i := 3) (lv' := [(3, .int ((x2) + ((1 : Int32)))), (0, va_rf (x0)), (1, .int (x1)), (2, .int (x2))]) hC dX4_countClashes_18 rfl (by decide) rfl ?_
      refine xk_iload_n hC dX4_countClashes_19 0 rfl rfl ?_
      refine xk_aload_n hC dX4_countClashes_20 1 rfl rfl ?_
      obtain ⟨v5, h5, hf⟩ := xk_bi hf
      refine xk_getR hC xi_0 xc_0 3 (by decide) xm_88 (Or.inl rfl) dX4_countClashes_21 h5 ?_
      obtain ⟨u7, h7, hf⟩ := xk_bi hf
      obtain ⟨q6, h6, hf⟩ := xk_bi hf
      refine xk_backi (xk_callV hC 0 xc_4 (c_Jx4a65c_size_8abf5 h6) h7 xm_130 xm_131 xm_132 xm_4 xm_133 ⟨rfl, xd_Jx4a65c_size_8abf5⟩ rfl ⟨Nat.le_of_ble_eq_true rfl, Nat.le_of_ble_eq_true rfl⟩ rfl (Nat.le_of_ble_eq_true rfl) dX4_countClashes_24 ⟨(Nat.le_of_ble_eq_true rfl), (Nat.le_of_ble_eq_true rfl)⟩) ?_
      refine xk_icmp_ge (tgt := 67) hC dX4_countClashes_27 (by decide) (fun c8 => ?_) (fun c8 => ?_)
      · replace hf := (if_pos c8).symm.trans hf
        refine xk_iinc (v := x2 + (1 : Int32)) (lv' := [(2, .int (x2 + (1 : Int32))), (3, .int ((x2) + ((1 : Int32)))), (0, va_rf (x0)), (1, .int (x1))]) hC dX4_countClashes_67 3 rfl rfl (by decide) rfl ?_
        refine xk_goto (tgt := 4) hC dX4_countClashes_70 (by decide) ?_
        refine xk_locals [2, 3, 0] rfl ?_
        exact ih x0 x1 (x2 + (1 : Int32)) (q6.2) hf
      · replace hf := (if_neg c8).symm.trans hf
        refine xk_aload_n hC dX4_countClashes_30 1 rfl rfl ?_
        obtain ⟨v9, h9, hf⟩ := xk_bi hf
        refine xk_getR hC xi_0 xc_0 3 (by decide) xm_88 (Or.inl rfl) dX4_countClashes_31 h9 ?_
        refine xk_iload_n hC dX4_countClashes_34 3 rfl rfl ?_
        cases hf
def f_X4_countClashes (x0 : Option Nat) (w : xWd) : Option (Int32 × xWd) := f_X4_countClashes_4 24 x0 ((0 : Int32)) ((0 : Int32)) w
set_option maxHeartbeats 4000000 in
set_option maxRecDepth 100000 in
theorem t_X4_countClashes_0 {p : Program} {l : Launch} {e : Env} {s : State} {m : MethodId} {args : Array Value} {below : List Frame} {meth : Method} {c : Code} {E : xEv} (hC : xk_C p s m args meth c E prog_1_method_39_code "Clickbook" 4) (hr : meth.sig.returnType = (some .int)) {q : (Int32 × xWd)} (x0 : Option Nat) (w : xWd) (hf : f_X4_countClashes x0 w = some q) : xk_X p l e { frames := 1, cells := 0, slots := 0, locals := 20 } s m args below meth c (MQ below (xk_Qi E q) args s 0 0 (xk_A E.2.2.1)) E 4 0 0 0 [(0, va_rf (x0))] [] w := by
  refine xk_iconst (v := (0 : Int32)) hC dX4_countClashes_0 (by decide) ?_
  refine xk_istore_n (i := 1) (lv' := [(1, .int ((0 : Int32))), (0, va_rf (x0))]) hC dX4_countClashes_1 rfl (by decide) (by simp [xk_cat1]) ?_
  refine xk_iconst (v := (0 : Int32)) hC dX4_countClashes_2 (by decide) ?_
  refine xk_istore_n (i := 2) (lv' := [(2, .int ((0 : Int32))), (1, .int ((0 : Int32))), (0, va_rf (x0))]) hC dX4_countClashes_3 rfl (by decide) rfl ?_
  refine xk_locals [2, 1, 0] rfl ?_
  exact t_X4_countClashes_4 hC hr 24 x0 ((0 : Int32)) ((0 : Int32)) w hf
theorem xd_X4_countClashes : xy_X4_countClashes.cls ≠ "java/lang/invoke/MethodHandle" ∧ xy_X4_countClashes.cls ≠ "java/lang/invoke/VarHandle" ∧ (parseMethodDescriptor xy_X4_countClashes.desc).map (fun d => d.parameters.length) = some 0 := ⟨by decide +kernel, by decide +kernel, by decide +kernel⟩
theorem c_X4_countClashes {l : Launch} {E : xEv} {x0 : Option Nat} {w : xWd} {q : (Int32 × xWd)} (hf : f_X4_countClashes x0 w = some q) : xk_M l xy_X4_countClashes prog_1_method_39_code 4 (some .int) 1 20 0 0 E [va_rf (x0)] w (xk_Qi E q) := by
  refine xk_enter (by decide +kernel) (by simp [lg_sl, xk_cat1, xk_cati, xk_catl, xk_catd]) ?_
  intro p e s m args below meth c hC hr hin ha
  rw [show lv_args 0 [va_rf (x0)] = [(0, va_rf (x0))] by simp [lv_args, xk_cat1, xk_cati, xk_catl, xk_catd]]
  exact t_X4_countClashes_0 hC hr x0 w hf
def f_X4_countAllValid (x0 : Option Nat) (w : xWd) : Option (Int32 × xWd) := (xk_gR w (x0) 0 4).bind (fun v1 => (xk_is w (v1) 4).bind (fun u3 => (f_Jx4a65c_size_8abf5 (v1)  w).bind (fun q2 => if (q2.1) ≤ ((0 : Int32)) then some ((0 : Int32), q2.2) else (xk_gR q2.2 (x0) 0 4).bind (fun v5 => none))))
set_option maxHeartbeats 4000000 in
set_option maxRecDepth 100000 in
theorem t_X4_countAllValid_0 {p : Program} {l : Launch} {e : Env} {s : State} {m : MethodId} {args : Array Value} {below : List Frame} {meth : Method} {c : Code} {E : xEv} (hC : xk_C p s m args meth c E prog_1_method_42_code "Clickbook" 3) (hr : meth.sig.returnType = (some .int)) {q : (Int32 × xWd)} (x0 : Option Nat) (w : xWd) (hf : f_X4_countAllValid x0 w = some q) : xk_X p l e { frames := 1, cells := 0, slots := 0, locals := 20 } s m args below meth c (MQ below (xk_Qi E q) args s 0 0 (xk_A E.2.2.1)) E 3 0 0 0 [(0, va_rf (x0))] [] w := by
  refine xk_iconst (v := (0 : Int32)) hC dX4_countAllValid_0 (by decide) ?_
  refine xk_istore_n (i := 1) (lv' := [(1, .int ((0 : Int32))), (0, va_rf (x0))]) hC dX4_countAllValid_1 rfl (by decide) (by simp [xk_cat1]) ?_
  refine xk_iconst (v := (0 : Int32)) hC dX4_countAllValid_2 (by decide) ?_
  refine xk_istore_n (i := 2) (lv' := [(2, .int ((0 : Int32))), (1, .int ((0 : Int32))), (0, va_rf (x0))]) hC dX4_countAllValid_3 rfl (by decide) rfl ?_
  refine xk_iload_n hC dX4_countAllValid_4 0 rfl rfl ?_
  refine xk_aload_n hC dX4_countAllValid_5 2 rfl rfl ?_
  obtain ⟨v1, h1, hf⟩ := xk_bi hf
  refine xk_getR hC xi_0 xc_0 4 (by decide) xm_89 (Or.inl rfl) dX4_countAllValid_6 h1 ?_
  obtain ⟨u3, h3, hf⟩ := xk_bi hf
  obtain ⟨q2, h2, hf⟩ := xk_bi hf
  refine xk_backi (xk_callV hC 0 xc_4 (c_Jx4a65c_size_8abf5 h2) h3 xm_130 xm_131 xm_132 xm_4 xm_133 ⟨rfl, xd_Jx4a65c_size_8abf5⟩ rfl ⟨Nat.le_of_ble_eq_true rfl, Nat.le_of_ble_eq_true rfl⟩ rfl (Nat.le_of_ble_eq_true rfl) dX4_countAllValid_9 ⟨(Nat.le_of_ble_eq_true rfl), (Nat.le_of_ble_eq_true rfl)⟩) ?_
  refine xk_icmp_ge (tgt := 41) hC dX4_countAllValid_12 (by decide) (fun c4 => ?_) (fun c4 => ?_)
  · replace hf := (if_pos c4).symm.trans hf
    refine xk_iload_n hC dX4_countAllValid_41 1 rfl rfl ?_
    cases hf
    refine xk_widen (k := 0) (n := 0) (Nat.le_of_ble_eq_true rfl) (Nat.le_of_ble_eq_true rfl) ?_
    exact xk_iret hC hr rfl dX4_countAllValid_42
  · replace hf := (if_neg c4).symm.trans hf
    refine xk_aload_n hC dX4_countAllValid_15 2 rfl rfl ?_
    obtain ⟨v5, h5, hf⟩ := xk_bi hf
    refine xk_getR hC xi_0 xc_0 4 (by decide) xm_89 (Or.inl rfl) dX4_countAllValid_16 h5 ?_
    refine xk_iload_n hC dX4_countAllValid_19 0 rfl rfl ?_
    cases hf
theorem xd_X4_countAllValid : xy_X4_countAllValid.cls ≠ "java/lang/invoke/MethodHandle" ∧ xy_X4_countAllValid.cls ≠ "java/lang/invoke/VarHandle" ∧ (parseMethodDescriptor xy_X4_countAllValid.desc).map (fun d => d.parameters.length) = some 0 := ⟨by decide +kernel, by decide +kernel, by decide +kernel⟩
theorem c_X4_countAllValid {l : Launch} {E : xEv} {x0 : Option Nat} {w : xWd} {q : (Int32 × xWd)} (hf : f_X4_countAllValid x0 w = some q) : xk_M l xy_X4_countAllValid prog_1_method_42_code 3 (some .int) 1 20 0 0 E [va_rf (x0)] w (xk_Qi E q) := by
  refine xk_enter (by decide +kernel) (by simp [lg_sl, xk_cat1, xk_cati, xk_catl, xk_catd]) ?_
  intro p e s m args below meth c hC hr hin ha
  rw [show lv_args 0 [va_rf (x0)] = [(0, va_rf (x0))] by simp [lv_args, xk_cat1, xk_cati, xk_catl, xk_catd]]
  exact t_X4_countAllValid_0 hC hr x0 w hf
def f_X4_payToAll (x0 : Option Nat) (w : xWd) : Option (Int32 × xWd) := (xk_gR w (x0) 0 3).bind (fun v1 => (xk_is w (v1) 4).bind (fun u3 => (f_Jx4a65c_size_8abf5 (v1)  w).bind (fun q2 => if (q2.1) ≤ ((0 : Int32)) then some ((0 : Int32), q2.2) else (xk_gR q2.2 (x0) 0 3).bind (fun v5 => none))))
set_option maxHeartbeats 4000000 in
set_option maxRecDepth 100000 in
theorem t_X4_payToAll_0 {p : Program} {l : Launch} {e : Env} {s : State} {m : MethodId} {args : Array Value} {below : List Frame} {meth : Method} {c : Code} {E : xEv} (hC : xk_C p s m args meth c E prog_1_method_45_code "Clickbook" 3) (hr : meth.sig.returnType = (some .int)) {q : (Int32 × xWd)} (x0 : Option Nat) (w : xWd) (hf : f_X4_payToAll x0 w = some q) : xk_X p l e { frames := 1, cells := 0, slots := 0, locals := 20 } s m args below meth c (MQ below (xk_Qi E q) args s 0 0 (xk_A E.2.2.1)) E 3 0 0 0 [(0, va_rf (x0))] [] w := by
  refine xk_iconst (v := (0 : Int32)) hC dX4_payToAll_0 (by decide) ?_
  refine xk_istore_n (i := 1) (lv' := [(1, .int ((0 : Int32))), (0, va_rf (x0))]) hC dX4_payToAll_1 rfl (by decide) (by simp [xk_cat1]) ?_
  refine xk_iconst (v := (0 : Int32)) hC dX4_payToAll_2 (by decide) ?_
  refine xk_istore_n (i := 2) (lv' := [(2, .int ((0 : Int32))), (1, .int ((0 : Int32))), (0, va_rf (x0))]) hC dX4_payToAll_3 rfl (by decide) rfl ?_
  refine xk_iload_n hC dX4_payToAll_4 0 rfl rfl ?_
  refine xk_aload_n hC dX4_payToAll_5 2 rfl rfl ?_
  obtain ⟨v1, h1, hf⟩ := xk_bi hf
  refine xk_getR hC xi_0 xc_0 3 (by decide) xm_88 (Or.inl rfl) dX4_payToAll_6 h1 ?_
  obtain ⟨u3, h3, hf⟩ := xk_bi hf
  obtain ⟨q2, h2, hf⟩ := xk_bi hf
  refine xk_backi (xk_callV hC 0 xc_4 (c_Jx4a65c_size_8abf5 h2) h3 xm_130 xm_131 xm_132 xm_4 xm_133 ⟨rfl, xd_Jx4a65c_size_8abf5⟩ rfl ⟨Nat.le_of_ble_eq_true rfl, Nat.le_of_ble_eq_true rfl⟩ rfl (Nat.le_of_ble_eq_true rfl) dX4_payToAll_9 ⟨(Nat.le_of_ble_eq_true rfl), (Nat.le_of_ble_eq_true rfl)⟩) ?_
  refine xk_icmp_ge (tgt := 39) hC dX4_payToAll_12 (by decide) (fun c4 => ?_) (fun c4 => ?_)
  · replace hf := (if_pos c4).symm.trans hf
    refine xk_iload_n hC dX4_payToAll_39 1 rfl rfl ?_
    cases hf
    refine xk_widen (k := 0) (n := 0) (Nat.le_of_ble_eq_true rfl) (Nat.le_of_ble_eq_true rfl) ?_
    exact xk_iret hC hr rfl dX4_payToAll_40
  · replace hf := (if_neg c4).symm.trans hf
    refine xk_iload_n hC dX4_payToAll_15 1 rfl rfl ?_
    refine xk_aload_n hC dX4_payToAll_16 2 rfl rfl ?_
    refine xk_aload_n hC dX4_payToAll_17 2 rfl rfl ?_
    obtain ⟨v5, h5, hf⟩ := xk_bi hf
    refine xk_getR hC xi_0 xc_0 3 (by decide) xm_88 (Or.inl rfl) dX4_payToAll_18 h5 ?_
    refine xk_iload_n hC dX4_payToAll_21 0 rfl rfl ?_
    cases hf
theorem xd_X4_payToAll : xy_X4_payToAll.cls ≠ "java/lang/invoke/MethodHandle" ∧ xy_X4_payToAll.cls ≠ "java/lang/invoke/VarHandle" ∧ (parseMethodDescriptor xy_X4_payToAll.desc).map (fun d => d.parameters.length) = some 0 := ⟨by decide +kernel, by decide +kernel, by decide +kernel⟩
theorem c_X4_payToAll {l : Launch} {E : xEv} {x0 : Option Nat} {w : xWd} {q : (Int32 × xWd)} (hf : f_X4_payToAll x0 w = some q) : xk_M l xy_X4_payToAll prog_1_method_45_code 3 (some .int) 1 20 0 0 E [va_rf (x0)] w (xk_Qi E q) := by
  refine xk_enter (by decide +kernel) (by simp [lg_sl, xk_cat1, xk_cati, xk_catl, xk_catd]) ?_
  intro p e s m args below meth c hC hr hin ha
  rw [show lv_args 0 [va_rf (x0)] = [(0, va_rf (x0))] by simp [lv_args, xk_cat1, xk_cati, xk_catl, xk_catd]]
  exact t_X4_payToAll_0 hC hr x0 w hf
def f_X4_many (x0 : Option Nat) (x1 : Int32) (w : xWd) : Option (Int32 × xWd) := if (x1) = (0 : Int32) then (xk_gI w (x0) 0 5).bind (fun v2 => some (v2, w)) else (if (x1) = (1 : Int32) then (xk_gI w (x0) 0 6).bind (fun v4 => some (v4, w)) else (if (x1) = (2 : Int32) then (xk_gR w (x0) 0 0).bind (fun v6 => (xk_is w (v6) 4).bind (fun u8 => (f_Jx4a65c_size_8abf5 (v6)  w).bind (fun q7 => some (q7.1, q7.2)))) else (if (x1) = (3 : Int32) then (xk_is w (x0) 0).bind (fun u11 => (f_X4_countGone (x0)  w).bind (fun q10 => some (q10.1, q10.2))) else (if (x1) = (4 : Int32) then (xk_is w (x0) 0).bind (fun u14 => (f_X4_countMet (x0)  w).bind (fun q13 => some (q13.1, q13.2))) else (if (x1) = (5 : Int32) then (xk_gI w (x0) 0 2).bind (fun v16 => some (v16, w)) else (if (x1) = (6 : Int32) then (xk_gR w (x0) 0 3).bind (fun v18 => (xk_is w (v18) 4).bind (fun u20 => (f_Jx4a65c_size_8abf5 (v18)  w).bind (fun q19 => some (q19.1, q19.2)))) else (if (x1) = (7 : Int32) then (xk_is w (x0) 0).bind (fun u23 => (f_X4_countRunningOver (x0)  w).bind (fun q22 => some (q22.1, q22.2))) else (if (x1) = (8 : Int32) then (xk_is w (x0) 0).bind (fun u26 => (f_X4_countSpoiling (x0)  w).bind (fun q25 => some (q25.1, q25.2))) else (if (x1) = (9 : Int32) then (xk_is w (x0) 0).bind (fun u29 => (f_X4_countClashes (x0)  w).bind (fun q28 => some (q28.1, q28.2))) else (if (x1) = (10 : Int32) then (xk_gR w (x0) 0 4).bind (fun v31 => (xk_is w (v31) 4).bind (fun u33 => (f_Jx4a65c_size_8abf5 (v31)  w).bind (fun q32 => some (q32.1, q32.2)))) else (if (x1) = (11 : Int32) then (xk_is w (x0) 0).bind (fun u36 => (f_X4_countAllValid (x0)  w).bind (fun q35 => some (q35.1, q35.2))) else (if (x1) = (12 : Int32) then (xk_gI w (x0) 0 7).bind (fun v38 => some (v38, w)) else (if (x1) = (13 : Int32) then (xk_gI w (x0) 0 8).bind (fun v40 => some (v40, w)) else (if (x1) = (14 : Int32) then (xk_gI w (x0) 0 9).bind (fun v42 => some (v42, w)) else (if (x1) = (15 : Int32) then (xk_is w (x0) 0).bind (fun u45 => (f_X4_payToAll (x0)  w).bind (fun q44 => some (q44.1, q44.2))) else (none))))))))))))))))
set_option maxHeartbeats 4000000 in
set_option maxRecDepth 100000 in
theorem t_X4_many_0 {p : Program} {l : Launch} {e : Env} {s : State} {m : MethodId} {args : Array Value} {below : List Frame} {meth : Method} {c : Code} {E : xEv} (hC : xk_C p s m args meth c E prog_1_method_26_code "Clickbook" 2) (hr : meth.sig.returnType = (some .int)) {q : (Int32 × xWd)} (x0 : Option Nat) (x1 : Int32) (w : xWd) (hf : f_X4_many x0 x1 w = some q) : xk_X p l e { frames := 2, cells := 0, slots := 0, locals := 43 } s m args below meth c (MQ below (xk_Qi E q) args s 0 0 (xk_A E.2.2.1)) E 2 0 0 0 [(0, va_rf (x0)), (1, .int (x1))] [] w := by
  refine xk_iload_n hC dX4_many_0 1 rfl rfl ?_
  by_cases c1 : (x1) = (0 : Int32)
  · replace hf := (if_pos c1).symm.trans hf
    refine xk_tableIn (tgt := 80) hC dX4_many_1 (by rw [c1]; decide) (by rw [c1]; decide) (off := 79) (by rw [c1]; rfl) (by decide) ?_
    refine xk_aload_n hC dX4_many_80 0 rfl rfl ?_
    obtain ⟨v2, h2, hf⟩ := xk_bi hf
    refine xk_getI hC xi_0 xc_0 5 (by decide) xm_90 (Or.inl rfl) dX4_many_81 h2 ?_
    cases hf
    refine xk_widen (k := 0) (n := 0) (Nat.le_of_ble_eq_true rfl) (Nat.le_of_ble_eq_true rfl) ?_
    exact xk_iret hC hr rfl dX4_many_84
  · replace hf := (if_neg c1).symm.trans hf
    by_cases c3 : (x1) = (1 : Int32)
    · replace hf := (if_pos c3).symm.trans hf
      refine xk_tableIn (tgt := 85) hC dX4_many_1 (by rw [c3]; decide) (by rw [c3]; decide) (off := 84) (by rw [c3]; rfl) (by decide) ?_
      refine xk_aload_n hC dX4_many_85 0 rfl rfl ?_
      obtain ⟨v4, h4, hf⟩ := xk_bi hf
      refine xk_getI hC xi_0 xc_0 6 (by decide) xm_91 (Or.inl rfl) dX4_many_86 h4 ?_
      cases hf
      refine xk_widen (k := 0) (n := 0) (Nat.le_of_ble_eq_true rfl) (Nat.le_of_ble_eq_true rfl) ?_
      exact xk_iret hC hr rfl dX4_many_89
    · replace hf := (if_neg c3).symm.trans hf
      by_cases c5 : (x1) = (2 : Int32)
      · replace hf := (if_pos c5).symm.trans hf
        refine xk_tableIn (tgt := 90) hC dX4_many_1 (by rw [c5]; decide) (by rw [c5]; decide) (off := 89) (by rw [c5]; rfl) (by decide) ?_
        refine xk_aload_n hC dX4_many_90 0 rfl rfl ?_
        obtain ⟨v6, h6, hf⟩ := xk_bi hf
        refine xk_getR hC xi_0 xc_0 0 (by decide) xm_85 (Or.inl rfl) dX4_many_91 h6 ?_
        obtain ⟨u8, h8, hf⟩ := xk_bi hf
        obtain ⟨q7, h7, hf⟩ := xk_bi hf
        refine xk_backi (xk_callV hC 0 xc_4 (c_Jx4a65c_size_8abf5 h7) h8 xm_130 xm_131 xm_132 xm_4 xm_133 ⟨rfl, xd_Jx4a65c_size_8abf5⟩ rfl ⟨Nat.le_of_ble_eq_true rfl, Nat.le_of_ble_eq_true rfl⟩ rfl (Nat.le_of_ble_eq_true rfl) dX4_many_94 ⟨(Nat.le_of_ble_eq_true rfl), (Nat.le_of_ble_eq_true rfl)⟩) ?_
        cases hf
        refine xk_widen (k := 0) (n := 0) (Nat.le_of_ble_eq_true rfl) (Nat.le_of_ble_eq_true rfl) ?_
        exact xk_iret hC hr rfl dX4_many_97
      · replace hf := (if_neg c5).symm.trans hf
        by_cases c9 : (x1) = (3 : Int32)
        · replace hf := (if_pos c9).symm.trans hf
          refine xk_tableIn (tgt := 98) hC dX4_many_1 (by rw [c9]; decide) (by rw [c9]; decide) (off := 97) (by rw [c9]; rfl) (by decide) ?_
          refine xk_aload_n hC dX4_many_98 0 rfl rfl ?_
          obtain ⟨u11, h11, hf⟩ := xk_bi hf
          obtain ⟨q10, h10, hf⟩ := xk_bi hf
          refine xk_backi (xk_callV hC 0 xc_0 (c_X4_countGone h10) h11 xm_170 xm_172 xm_p0 xm_1 xm_173 ⟨rfl, xd_X4_countGone⟩ rfl ⟨Nat.le_of_ble_eq_true rfl, Nat.le_of_ble_eq_true rfl⟩ rfl (Nat.le_of_ble_eq_true rfl) dX4_many_99 ⟨(Nat.le_of_ble_eq_true rfl), (Nat.le_of_ble_eq_true rfl)⟩) ?_
          cases hf
          refine xk_widen (k := 0) (n := 0) (Nat.le_of_ble_eq_true rfl) (Nat.le_of_ble_eq_true rfl) ?_
          exact xk_iret hC hr rfl dX4_many_102
        · replace hf := (if_neg c9).symm.trans hf
          by_cases c12 : (x1) = (4 : Int32)
          · replace hf := (if_pos c12).symm.trans hf
            refine xk_tableIn (tgt := 103) hC dX4_many_1 (by rw [c12]; decide) (by rw [c12]; decide) (off := 102) (by rw [c12]; rfl) (by decide) ?_
            refine xk_aload_n hC dX4_many_103 0 rfl rfl ?_
            obtain ⟨u14, h14, hf⟩ := xk_bi hf
            obtain ⟨q13, h13, hf⟩ := xk_bi hf
            refine xk_backi (xk_callV hC 0 xc_0 (c_X4_countMet h13) h14 xm_175 xm_177 xm_p1 xm_1 xm_178 ⟨rfl, xd_X4_countMet⟩ rfl ⟨Nat.le_of_ble_eq_true rfl, Nat.le_of_ble_eq_true rfl⟩ rfl (Nat.le_of_ble_eq_true rfl) dX4_many_104 ⟨(Nat.le_of_ble_eq_true rfl), (Nat.le_of_ble_eq_true rfl)⟩) ?_
            cases hf
            refine xk_widen (k := 0) (n := 0) (Nat.le_of_ble_eq_true rfl) (Nat.le_of_ble_eq_true rfl) ?_
            exact xk_iret hC hr rfl dX4_many_107
          · replace hf := (if_neg c12).symm.trans hf
            by_cases c15 : (x1) = (5 : Int32)
            · replace hf := (if_pos c15).symm.trans hf
              refine xk_tableIn (tgt := 108) hC dX4_many_1 (by rw [c15]; decide) (by rw [c15]; decide) (off := 107) (by rw [c15]; rfl) (by decide) ?_
              refine xk_aload_n hC dX4_many_108 0 rfl rfl ?_
              obtain ⟨v16, h16, hf⟩ := xk_bi hf
              refine xk_getI hC xi_0 xc_0 2 (by decide) xm_87 (Or.inl rfl) dX4_many_109 h16 ?_
              cases hf
              refine xk_widen (k := 0) (n := 0) (Nat.le_of_ble_eq_true rfl) (Nat.le_of_ble_eq_true rfl) ?_
              exact xk_iret hC hr rfl dX4_many_112
            · replace hf := (if_neg c15).symm.trans hf
              by_cases c17 : (x1) = (6 : Int32)
              · replace hf := (if_pos c17).symm.trans hf
                refine xk_tableIn (tgt := 113) hC dX4_many_1 (by rw [c17]; decide) (by rw [c17]; decide) (off := 112) (by rw [c17]; rfl) (by decide) ?_
                refine xk_aload_n hC dX4_many_113 0 rfl rfl ?_
                obtain ⟨v18, h18, hf⟩ := xk_bi hf
                refine xk_getR hC xi_0 xc_0 3 (by decide) xm_88 (Or.inl rfl) dX4_many_114 h18 ?_
                obtain ⟨u20, h20, hf⟩ := xk_bi hf
                obtain ⟨q19, h19, hf⟩ := xk_bi hf
                refine xk_backi (xk_callV hC 0 xc_4 (c_Jx4a65c_size_8abf5 h19) h20 xm_130 xm_131 xm_132 xm_4 xm_133 ⟨rfl, xd_Jx4a65c_size_8abf5⟩ rfl ⟨Nat.le_of_ble_eq_true rfl, Nat.le_of_ble_eq_true rfl⟩ rfl (Nat.le_of_ble_eq_true rfl) dX4_many_117 ⟨(Nat.le_of_ble_eq_true rfl), (Nat.le_of_ble_eq_true rfl)⟩) ?_
                cases hf
                refine xk_widen (k := 0) (n := 0) (Nat.le_of_ble_eq_true rfl) (Nat.le_of_ble_eq_true rfl) ?_
                exact xk_iret hC hr rfl dX4_many_120
              · replace hf := (if_neg c17).symm.trans hf
                by_cases c21 : (x1) = (7 : Int32)
                · replace hf := (if_pos c21).symm.trans hf
                  refine xk_tableIn (tgt := 121) hC dX4_many_1 (by rw [c21]; decide) (by rw [c21]; decide) (off := 120) (by rw [c21]; rfl) (by decide) ?_
                  refine xk_aload_n hC dX4_many_121 0 rfl rfl ?_
                  obtain ⟨u23, h23, hf⟩ := xk_bi hf
                  obtain ⟨q22, h22, hf⟩ := xk_bi hf
                  refine xk_backi (xk_callV hC 0 xc_0 (c_X4_countRunningOver h22) h23 xm_195 xm_197 xm_p4 xm_1 xm_198 ⟨rfl, xd_X4_countRunningOver⟩ rfl ⟨Nat.le_of_ble_eq_true rfl, Nat.le_of_ble_eq_true rfl⟩ rfl (Nat.le_of_ble_eq_true rfl) dX4_many_122 ⟨(Nat.le_of_ble_eq_true rfl), (Nat.le_of_ble_eq_true rfl)⟩) ?_
                  cases hf
                  refine xk_widen (k := 0) (n := 0) (Nat.le_of_ble_eq_true rfl) (Nat.le_of_ble_eq_true rfl) ?_
                  exact xk_iret hC hr rfl dX4_many_125
                · replace hf := (if_neg c21).symm.trans hf
                  by_cases c24 : (x1) = (8 : Int32)
                  · replace hf := (if_pos c24).symm.trans hf
                    refine xk_tableIn (tgt := 126) hC dX4_many_1 (by rw [c24]; decide) (by rw [c24]; decide) (off := 125) (by rw [c24]; rfl) (by decide) ?_
                    refine xk_aload_n hC dX4_many_126 0 rfl rfl ?_
                    obtain ⟨u26, h26, hf⟩ := xk_bi hf
                    obtain ⟨q25, h25, hf⟩ := xk_bi hf
                    refine xk_backi (xk_callV hC 0 xc_0 (c_X4_countSpoiling h25) h26 xm_207 xm_209 xm_p6 xm_1 xm_210 ⟨rfl, xd_X4_countSpoiling⟩ rfl ⟨Nat.le_of_ble_eq_true rfl, Nat.le_of_ble_eq_true rfl⟩ rfl (Nat.le_of_ble_eq_true rfl) dX4_many_127 ⟨(Nat.le_of_ble_eq_true rfl), (Nat.le_of_ble_eq_true rfl)⟩) ?_
                    cases hf
                    refine xk_widen (k := 0) (n := 0) (Nat.le_of_ble_eq_true rfl) (Nat.le_of_ble_eq_true rfl) ?_
                    exact xk_iret hC hr rfl dX4_many_130
                  · replace hf := (if_neg c24).symm.trans hf
                    by_cases c27 : (x1) = (9 : Int32)
                    · replace hf := (if_pos c27).symm.trans hf
                      refine xk_tableIn (tgt := 131) hC dX4_many_1 (by rw [c27]; decide) (by rw [c27]; decide) (off := 130) (by rw [c27]; rfl) (by decide) ?_
                      refine xk_aload_n hC dX4_many_131 0 rfl rfl ?_
                      obtain ⟨u29, h29, hf⟩ := xk_bi hf
                      obtain ⟨q28, h28, hf⟩ := xk_bi hf
                      refine xk_backi (xk_callV hC 0 xc_0 (c_X4_countClashes h28) h29 xm_215 xm_217 xm_p8 xm_1 xm_218 ⟨rfl, xd_X4_countClashes⟩ rfl ⟨Nat.le_of_ble_eq_true rfl, Nat.le_of_ble_eq_true rfl⟩ rfl (Nat.le_of_ble_eq_true rfl) dX4_many_132 ⟨(Nat.le_of_ble_eq_true rfl), (Nat.le_of_ble_eq_true rfl)⟩) ?_
                      cases hf
                      refine xk_widen (k := 0) (n := 0) (Nat.le_of_ble_eq_true rfl) (Nat.le_of_ble_eq_true rfl) ?_
                      exact xk_iret hC hr rfl dX4_many_135
                    · replace hf := (if_neg c27).symm.trans hf
                      by_cases c30 : (x1) = (10 : Int32)
                      · replace hf := (if_pos c30).symm.trans hf
                        refine xk_tableIn (tgt := 136) hC dX4_many_1 (by rw [c30]; decide) (by rw [c30]; decide) (off := 135) (by rw [c30]; rfl) (by decide) ?_
                        refine xk_aload_n hC dX4_many_136 0 rfl rfl ?_
                        obtain ⟨v31, h31, hf⟩ := xk_bi hf
                        refine xk_getR hC xi_0 xc_0 4 (by decide) xm_89 (Or.inl rfl) dX4_many_137 h31 ?_
                        obtain ⟨u33, h33, hf⟩ := xk_bi hf
                        obtain ⟨q32, h32, hf⟩ := xk_bi hf
                        refine xk_backi (xk_callV hC 0 xc_4 (c_Jx4a65c_size_8abf5 h32) h33 xm_130 xm_131 xm_132 xm_4 xm_133 ⟨rfl, xd_Jx4a65c_size_8abf5⟩ rfl ⟨Nat.le_of_ble_eq_true rfl, Nat.le_of_ble_eq_true rfl⟩ rfl (Nat.le_of_ble_eq_true rfl) dX4_many_140 ⟨(Nat.le_of_ble_eq_true rfl), (Nat.le_of_ble_eq_true rfl)⟩) ?_
                        cases hf
                        refine xk_widen (k := 0) (n := 0) (Nat.le_of_ble_eq_true rfl) (Nat.le_of_ble_eq_true rfl) ?_
                        exact xk_iret hC hr rfl dX4_many_143
                      · replace hf := (if_neg c30).symm.trans hf
                        by_cases c34 : (x1) = (11 : Int32)
                        · replace hf := (if_pos c34).symm.trans hf
                          refine xk_tableIn (tgt := 144) hC dX4_many_1 (by rw [c34]; decide) (by rw [c34]; decide) (off := 143) (by rw [c34]; rfl) (by decide) ?_
                          refine xk_aload_n hC dX4_many_144 0 rfl rfl ?_
                          obtain ⟨u36, h36, hf⟩ := xk_bi hf
                          obtain ⟨q35, h35, hf⟩ := xk_bi hf
                          refine xk_backi (xk_callV hC 0 xc_0 (c_X4_countAllValid h35) h36 xm_222 xm_224 xm_p9 xm_1 xm_225 ⟨rfl, xd_X4_countAllValid⟩ rfl ⟨Nat.le_of_ble_eq_true rfl, Nat.le_of_ble_eq_true rfl⟩ rfl (Nat.le_of_ble_eq_true rfl) dX4_many_145 ⟨(Nat.le_of_ble_eq_true rfl), (Nat.le_of_ble_eq_true rfl)⟩) ?_
                          cases hf
                          refine xk_widen (k := 0) (n := 0) (Nat.le_of_ble_eq_true rfl) (Nat.le_of_ble_eq_true rfl) ?_
                          exact xk_iret hC hr rfl dX4_many_148
                        · replace hf := (if_neg c34).symm.trans hf
                          by_cases c37 : (x1) = (12 : Int32)
                          · replace hf := (if_pos c37).symm.trans hf
                            refine xk_tableIn (tgt := 149) hC dX4_many_1 (by rw [c37]; decide) (by rw [c37]; decide) (off := 148) (by rw [c37]; rfl) (by decide) ?_
                            refine xk_aload_n hC dX4_many_149 0 rfl rfl ?_
                            obtain ⟨v38, h38, hf⟩ := xk_bi hf
                            refine xk_getI hC xi_0 xc_0 7 (by decide) xm_92 (Or.inl rfl) dX4_many_150 h38 ?_
                            cases hf
                            refine xk_widen (k := 0) (n := 0) (Nat.le_of_ble_eq_true rfl) (Nat.le_of_ble_eq_true rfl) ?_
                            exact xk_iret hC hr rfl dX4_many_153
                          · replace hf := (if_neg c37).symm.trans hf
                            by_cases c39 : (x1) = (13 : Int32)
                            · replace hf := (if_pos c39).symm.trans hf
                              refine xk_tableIn (tgt := 154) hC dX4_many_1 (by rw [c39]; decide) (by rw [c39]; decide) (off := 153) (by rw [c39]; rfl) (by decide) ?_
                              refine xk_aload_n hC dX4_many_154 0 rfl rfl ?_
                              obtain ⟨v40, h40, hf⟩ := xk_bi hf
                              refine xk_getI hC xi_0 xc_0 8 (by decide) xm_93 (Or.inl rfl) dX4_many_155 h40 ?_
                              cases hf
                              refine xk_widen (k := 0) (n := 0) (Nat.le_of_ble_eq_true rfl) (Nat.le_of_ble_eq_true rfl) ?_
                              exact xk_iret hC hr rfl dX4_many_158
                            · replace hf := (if_neg c39).symm.trans hf
                              by_cases c41 : (x1) = (14 : Int32)
                              · replace hf := (if_pos c41).symm.trans hf
                                refine xk_tableIn (tgt := 159) hC dX4_many_1 (by rw [c41]; decide) (by rw [c41]; decide) (off := 158) (by rw [c41]; rfl) (by decide) ?_
                                refine xk_aload_n hC dX4_many_159 0 rfl rfl ?_
                                obtain ⟨v42, h42, hf⟩ := xk_bi hf
                                refine xk_getI hC xi_0 xc_0 9 (by decide) xm_94 (Or.inl rfl) dX4_many_160 h42 ?_
                                cases hf
                                refine xk_widen (k := 0) (n := 0) (Nat.le_of_ble_eq_true rfl) (Nat.le_of_ble_eq_true rfl) ?_
                                exact xk_iret hC hr rfl dX4_many_163
                              · replace hf := (if_neg c41).symm.trans hf
                                by_cases c43 : (x1) = (15 : Int32)
                                · replace hf := (if_pos c43).symm.trans hf
                                  refine xk_tableIn (tgt := 164) hC dX4_many_1 (by rw [c43]; decide) (by rw [c43]; decide) (off := 163) (by rw [c43]; rfl) (by decide) ?_
                                  refine xk_aload_n hC dX4_many_164 0 rfl rfl ?_
                                  obtain ⟨u45, h45, hf⟩ := xk_bi hf
                                  obtain ⟨q44, h44, hf⟩ := xk_bi hf
                                  refine xk_backi (xk_callV hC 0 xc_0 (c_X4_payToAll h44) h45 xm_226 xm_228 xm_p10 xm_1 xm_229 ⟨rfl, xd_X4_payToAll⟩ rfl ⟨Nat.le_of_ble_eq_true rfl, Nat.le_of_ble_eq_true rfl⟩ rfl (Nat.le_of_ble_eq_true rfl) dX4_many_165 ⟨(Nat.le_of_ble_eq_true rfl), (Nat.le_of_ble_eq_true rfl)⟩) ?_
                                  cases hf
                                  refine xk_widen (k := 0) (n := 0) (Nat.le_of_ble_eq_true rfl) (Nat.le_of_ble_eq_true rfl) ?_
                                  exact xk_iret hC hr rfl dX4_many_168
                                · replace hf := (if_neg c43).symm.trans hf
                                  refine xk_tableOut (tgt := 169) hC dX4_many_1 (xk_swo (x1) 0 15 (fun v h1 h2 hv => by
                                      have hh : v = 0 ∨ v = 1 ∨ v = 2 ∨ v = 3 ∨ v = 4 ∨ v = 5 ∨ v = 6 ∨ v = 7 ∨ v = 8 ∨ v = 9 ∨ v = 10 ∨ v = 11 ∨ v = 12 ∨ v = 13 ∨ v = 14 ∨ v = 15 := by omega
                                      rcases hh with rfl | rfl | rfl | rfl | rfl | rfl | rfl | rfl | rfl | rfl | rfl | rfl | rfl | rfl | rfl | rfl
                                      · exact c1 (Int32.toInt_inj.mp (hv.trans (by decide)))
                                      · exact c3 (Int32.toInt_inj.mp (hv.trans (by decide)))
                                      · exact c5 (Int32.toInt_inj.mp (hv.trans (by decide)))
                                      · exact c9 (Int32.toInt_inj.mp (hv.trans (by decide)))
                                      · exact c12 (Int32.toInt_inj.mp (hv.trans (by decide)))
                                      · exact c15 (Int32.toInt_inj.mp (hv.trans (by decide)))
                                      · exact c17 (Int32.toInt_inj.mp (hv.trans (by decide)))
                                      · exact c21 (Int32.toInt_inj.mp (hv.trans (by decide)))
                                      · exact c24 (Int32.toInt_inj.mp (hv.trans (by decide)))
                                      · exact c27 (Int32.toInt_inj.mp (hv.trans (by decide)))
                                      · exact c30 (Int32.toInt_inj.mp (hv.trans (by decide)))
                                      · exact c34 (Int32.toInt_inj.mp (hv.trans (by decide)))
                                      · exact c37 (Int32.toInt_inj.mp (hv.trans (by decide)))
                                      · exact c39 (Int32.toInt_inj.mp (hv.trans (by decide)))
                                      · exact c41 (Int32.toInt_inj.mp (hv.trans (by decide)))
                                      · exact c43 (Int32.toInt_inj.mp (hv.trans (by decide)))
                                      )) (by decide) ?_
                                  cases hf
theorem xd_X4_many : xy_X4_many.cls ≠ "java/lang/invoke/MethodHandle" ∧ xy_X4_many.cls ≠ "java/lang/invoke/VarHandle" ∧ (parseMethodDescriptor xy_X4_many.desc).map (fun d => d.parameters.length) = some 1 := ⟨by decide +kernel, by decide +kernel, by decide +kernel⟩
theorem c_X4_many {l : Launch} {E : xEv} {x0 : Option Nat} {x1 : Int32} {w : xWd} {q : (Int32 × xWd)} (hf : f_X4_many x0 x1 w = some q) : xk_M l xy_X4_many prog_1_method_26_code 2 (some .int) 2 43 0 0 E [va_rf (x0), .int (x1)] w (xk_Qi E q) := by
  refine xk_enter (by decide +kernel) (by simp [lg_sl, xk_cat1, xk_cati, xk_catl, xk_catd]) ?_
  intro p e s m args below meth c hC hr hin ha
  rw [show lv_args 0 [va_rf (x0), .int (x1)] = [(0, va_rf (x0)), (1, .int (x1))] by simp [lv_args, xk_cat1, xk_cati, xk_catl, xk_catd]]
  exact t_X4_many_0 hC hr x0 x1 w hf
def e_X4_many (x0 : Option Nat) (x1 : Int32) (w : xWd) : Option (Nat × xWd) := if (x1) = (0 : Int32) then (xk_gI w (x0) 0 5).bind (fun v2 => none) else (if (x1) = (1 : Int32) then (xk_gI w (x0) 0 6).bind (fun v4 => none) else (if (x1) = (2 : Int32) then (xk_gR w (x0) 0 0).bind (fun v6 => (xk_is w (v6) 4).bind (fun u8 => (f_Jx4a65c_size_8abf5 (v6)  w).bind (fun q7 => none))) else (if (x1) = (3 : Int32) then (xk_is w (x0) 0).bind (fun u11 => (f_X4_countGone (x0)  w).bind (fun q10 => none)) else (if (x1) = (4 : Int32) then (xk_is w (x0) 0).bind (fun u14 => (f_X4_countMet (x0)  w).bind (fun q13 => none)) else (if (x1) = (5 : Int32) then (xk_gI w (x0) 0 2).bind (fun v16 => none) else (if (x1) = (6 : Int32) then (xk_gR w (x0) 0 3).bind (fun v18 => (xk_is w (v18) 4).bind (fun u20 => (f_Jx4a65c_size_8abf5 (v18)  w).bind (fun q19 => none))) else (if (x1) = (7 : Int32) then (xk_is w (x0) 0).bind (fun u23 => (f_X4_countRunningOver (x0)  w).bind (fun q22 => none)) else (if (x1) = (8 : Int32) then (xk_is w (x0) 0).bind (fun u26 => (f_X4_countSpoiling (x0)  w).bind (fun q25 => none)) else (if (x1) = (9 : Int32) then (xk_is w (x0) 0).bind (fun u29 => (f_X4_countClashes (x0)  w).bind (fun q28 => none)) else (if (x1) = (10 : Int32) then (xk_gR w (x0) 0 4).bind (fun v31 => (xk_is w (v31) 4).bind (fun u33 => (f_Jx4a65c_size_8abf5 (v31)  w).bind (fun q32 => none))) else (if (x1) = (11 : Int32) then (xk_is w (x0) 0).bind (fun u36 => (f_X4_countAllValid (x0)  w).bind (fun q35 => none)) else (if (x1) = (12 : Int32) then (xk_gI w (x0) 0 7).bind (fun v38 => none) else (if (x1) = (13 : Int32) then (xk_gI w (x0) 0 8).bind (fun v40 => none) else (if (x1) = (14 : Int32) then (xk_gI w (x0) 0 9).bind (fun v42 => none) else (if (x1) = (15 : Int32) then (xk_is w (x0) 0).bind (fun u45 => (f_X4_payToAll (x0)  w).bind (fun q44 => none)) else (some (0, (w.1, w.2.1 + 1, w.2.2))))))))))))))))))
set_option maxHeartbeats 4000000 in
set_option maxRecDepth 100000 in
theorem te_X4_many_0 {p : Program} {l : Launch} {e : Env} {s : State} {m : MethodId} {args : Array Value} {below : List Frame} {meth : Method} {c : Code} {E : xEv} (hC : xk_C p s m args meth c E prog_1_method_26_code "Clickbook" 2) (hr : meth.sig.returnType = (some .int)) (hX : ∀ x ∈ c.exceptionTable.toList, False) (hl9 : l.stackTraces = false) {q : (Nat × xWd)} (x0 : Option Nat) (x1 : Int32) (w : xWd) (hf : e_X4_many x0 x1 w = some q) : xk_X p l e { frames := 6, cells := 1, slots := 6, locals := 92 } s m args below meth c (vx_MQ below xk_QN (xk_XC E q) args s 1 6 (xk_A E.2.2.1)) E 2 0 0 0 [(0, va_rf (x0)), (1, .int (x1))] [] w := by
  refine xk_iload_n hC dX4_many_0 1 rfl rfl ?_
  by_cases c1 : (x1) = (0 : Int32)
  · replace hf := (if_pos c1).symm.trans hf
    refine xk_tableIn (tgt := 80) hC dX4_many_1 (by rw [c1]; decide) (by rw [c1]; decide) (off := 79) (by rw [c1]; rfl) (by decide) ?_
    refine xk_aload_n hC dX4_many_80 0 rfl rfl ?_
    obtain ⟨v2, h2, hf⟩ := xk_bi hf
    refine xk_getI hC xi_0 xc_0 5 (by decide) xm_90 (Or.inl rfl) dX4_many_81 h2 ?_
    cases hf
  · replace hf := (if_neg c1).symm.trans hf
    by_cases c3 : (x1) = (1 : Int32)
    · replace hf := (if_pos c3).symm.trans hf
      refine xk_tableIn (tgt := 85) hC dX4_many_1 (by rw [c3]; decide) (by rw [c3]; decide) (off := 84) (by rw [c3]; rfl) (by decide) ?_
      refine xk_aload_n hC dX4_many_85 0 rfl rfl ?_
      obtain ⟨v4, h4, hf⟩ := xk_bi hf
      refine xk_getI hC xi_0 xc_0 6 (by decide) xm_91 (Or.inl rfl) dX4_many_86 h4 ?_
      cases hf
    · replace hf := (if_neg c3).symm.trans hf
      by_cases c5 : (x1) = (2 : Int32)
      · replace hf := (if_pos c5).symm.trans hf
        refine xk_tableIn (tgt := 90) hC dX4_many_1 (by rw [c5]; decide) (by rw [c5]; decide) (off := 89) (by rw [c5]; rfl) (by decide) ?_
        refine xk_aload_n hC dX4_many_90 0 rfl rfl ?_
        obtain ⟨v6, h6, hf⟩ := xk_bi hf
        refine xk_getR hC xi_0 xc_0 0 (by decide) xm_85 (Or.inl rfl) dX4_many_91 h6 ?_
        obtain ⟨u8, h8, hf⟩ := xk_bi hf
        obtain ⟨q7, h7, hf⟩ := xk_bi hf
        refine xk_backi (xk_callV hC 0 xc_4 (c_Jx4a65c_size_8abf5 h7) h8 xm_130 xm_131 xm_132 xm_4 xm_133 ⟨rfl, xd_Jx4a65c_size_8abf5⟩ rfl ⟨Nat.le_of_ble_eq_true rfl, Nat.le_of_ble_eq_true rfl⟩ rfl (Nat.le_of_ble_eq_true rfl) dX4_many_94 ⟨(Nat.le_of_ble_eq_true rfl), (Nat.le_of_ble_eq_true rfl)⟩) ?_
        cases hf
      · replace hf := (if_neg c5).symm.trans hf
        by_cases c9 : (x1) = (3 : Int32)
        · replace hf := (if_pos c9).symm.trans hf
          refine xk_tableIn (tgt := 98) hC dX4_many_1 (by rw [c9]; decide) (by rw [c9]; decide) (off := 97) (by rw [c9]; rfl) (by decide) ?_
          refine xk_aload_n hC dX4_many_98 0 rfl rfl ?_
          obtain ⟨u11, h11, hf⟩ := xk_bi hf
          obtain ⟨q10, h10, hf⟩ := xk_bi hf
          refine xk_backi (xk_callV hC 0 xc_0 (c_X4_countGone h10) h11 xm_170 xm_172 xm_p0 xm_1 xm_173 ⟨rfl, xd_X4_countGone⟩ rfl ⟨Nat.le_of_ble_eq_true rfl, Nat.le_of_ble_eq_true rfl⟩ rfl (Nat.le_of_ble_eq_true rfl) dX4_many_99 ⟨(Nat.le_of_ble_eq_true rfl), (Nat.le_of_ble_eq_true rfl)⟩) ?_
          cases hf
        · replace hf := (if_neg c9).symm.trans hf
          by_cases c12 : (x1) = (4 : Int32)
          · replace hf := (if_pos c12).symm.trans hf
            refine xk_tableIn (tgt := 103) hC dX4_many_1 (by rw [c12]; decide) (by rw [c12]; decide) (off := 102) (by rw [c12]; rfl) (by decide) ?_
            refine xk_aload_n hC dX4_many_103 0 rfl rfl ?_
            obtain ⟨u14, h14, hf⟩ := xk_bi hf
            obtain ⟨q13, h13, hf⟩ := xk_bi hf
            refine xk_backi (xk_callV hC 0 xc_0 (c_X4_countMet h13) h14 xm_175 xm_177 xm_p1 xm_1 xm_178 ⟨rfl, xd_X4_countMet⟩ rfl ⟨Nat.le_of_ble_eq_true rfl, Nat.le_of_ble_eq_true rfl⟩ rfl (Nat.le_of_ble_eq_true rfl) dX4_many_104 ⟨(Nat.le_of_ble_eq_true rfl), (Nat.le_of_ble_eq_true rfl)⟩) ?_
            cases hf
          · replace hf := (if_neg c12).symm.trans hf
            by_cases c15 : (x1) = (5 : Int32)
            · replace hf := (if_pos c15).symm.trans hf
              refine xk_tableIn (tgt := 108) hC dX4_many_1 (by rw [c15]; decide) (by rw [c15]; decide) (off := 107) (by rw [c15]; rfl) (by decide) ?_
              refine xk_aload_n hC dX4_many_108 0 rfl rfl ?_
              obtain ⟨v16, h16, hf⟩ := xk_bi hf
              refine xk_getI hC xi_0 xc_0 2 (by decide) xm_87 (Or.inl rfl) dX4_many_109 h16 ?_
              cases hf
            · replace hf := (if_neg c15).symm.trans hf
              by_cases c17 : (x1) = (6 : Int32)
              · replace hf := (if_pos c17).symm.trans hf
                refine xk_tableIn (tgt := 113) hC dX4_many_1 (by rw [c17]; decide) (by rw [c17]; decide) (off := 112) (by rw [c17]; rfl) (by decide) ?_
                refine xk_aload_n hC dX4_many_113 0 rfl rfl ?_
                obtain ⟨v18, h18, hf⟩ := xk_bi hf
                refine xk_getR hC xi_0 xc_0 3 (by decide) xm_88 (Or.inl rfl) dX4_many_114 h18 ?_
                obtain ⟨u20, h20, hf⟩ := xk_bi hf
                obtain ⟨q19, h19, hf⟩ := xk_bi hf
                refine xk_backi (xk_callV hC 0 xc_4 (c_Jx4a65c_size_8abf5 h19) h20 xm_130 xm_131 xm_132 xm_4 xm_133 ⟨rfl, xd_Jx4a65c_size_8abf5⟩ rfl ⟨Nat.le_of_ble_eq_true rfl, Nat.le_of_ble_eq_true rfl⟩ rfl (Nat.le_of_ble_eq_true rfl) dX4_many_117 ⟨(Nat.le_of_ble_eq_true rfl), (Nat.le_of_ble_eq_true rfl)⟩) ?_
                cases hf
              · replace hf := (if_neg c17).symm.trans hf
                by_cases c21 : (x1) = (7 : Int32)
                · replace hf := (if_pos c21).symm.trans hf
                  refine xk_tableIn (tgt := 121) hC dX4_many_1 (by rw [c21]; decide) (by rw [c21]; decide) (off := 120) (by rw [c21]; rfl) (by decide) ?_
                  refine xk_aload_n hC dX4_many_121 0 rfl rfl ?_
                  obtain ⟨u23, h23, hf⟩ := xk_bi hf
                  obtain ⟨q22, h22, hf⟩ := xk_bi hf
                  refine xk_backi (xk_callV hC 0 xc_0 (c_X4_countRunningOver h22) h23 xm_195 xm_197 xm_p4 xm_1 xm_198 ⟨rfl, xd_X4_countRunningOver⟩ rfl ⟨Nat.le_of_ble_eq_true rfl, Nat.le_of_ble_eq_true rfl⟩ rfl (Nat.le_of_ble_eq_true rfl) dX4_many_122 ⟨(Nat.le_of_ble_eq_true rfl), (Nat.le_of_ble_eq_true rfl)⟩) ?_
                  cases hf
                · replace hf := (if_neg c21).symm.trans hf
                  by_cases c24 : (x1) = (8 : Int32)
                  · replace hf := (if_pos c24).symm.trans hf
                    refine xk_tableIn (tgt := 126) hC dX4_many_1 (by rw [c24]; decide) (by rw [c24]; decide) (off := 125) (by rw [c24]; rfl) (by decide) ?_
                    refine xk_aload_n hC dX4_many_126 0 rfl rfl ?_
                    obtain ⟨u26, h26, hf⟩ := xk_bi hf
                    obtain ⟨q25, h25, hf⟩ := xk_bi hf
                    refine xk_backi (xk_callV hC 0 xc_0 (c_X4_countSpoiling h25) h26 xm_207 xm_209 xm_p6 xm_1 xm_210 ⟨rfl, xd_X4_countSpoiling⟩ rfl ⟨Nat.le_of_ble_eq_true rfl, Nat.le_of_ble_eq_true rfl⟩ rfl (Nat.le_of_ble_eq_true rfl) dX4_many_127 ⟨(Nat.le_of_ble_eq_true rfl), (Nat.le_of_ble_eq_true rfl)⟩) ?_
                    cases hf
                  · replace hf := (if_neg c24).symm.trans hf
                    by_cases c27 : (x1) = (9 : Int32)
                    · replace hf := (if_pos c27).symm.trans hf
                      refine xk_tableIn (tgt := 131) hC dX4_many_1 (by rw [c27]; decide) (by rw [c27]; decide) (off := 130) (by rw [c27]; rfl) (by decide) ?_
                      refine xk_aload_n hC dX4_many_131 0 rfl rfl ?_
                      obtain ⟨u29, h29, hf⟩ := xk_bi hf
                      obtain ⟨q28, h28, hf⟩ := xk_bi hf
                      refine xk_backi (xk_callV hC 0 xc_0 (c_X4_countClashes h28) h29 xm_215 xm_217 xm_p8 xm_1 xm_218 ⟨rfl, xd_X4_countClashes⟩ rfl ⟨Nat.le_of_ble_eq_true rfl, Nat.le_of_ble_eq_true rfl⟩ rfl (Nat.le_of_ble_eq_true rfl) dX4_many_132 ⟨(Nat.le_of_ble_eq_true rfl), (Nat.le_of_ble_eq_true rfl)⟩) ?_
                      cases hf
                    · replace hf := (if_neg c27).symm.trans hf
                      by_cases c30 : (x1) = (10 : Int32)
                      · replace hf := (if_pos c30).symm.trans hf
                        refine xk_tableIn (tgt := 136) hC dX4_many_1 (by rw [c30]; decide) (by rw [c30]; decide) (off := 135) (by rw [c30]; rfl) (by decide) ?_
                        refine xk_aload_n hC dX4_many_136 0 rfl rfl ?_
                        obtain ⟨v31, h31, hf⟩ := xk_bi hf
                        refine xk_getR hC xi_0 xc_0 4 (by decide) xm_89 (Or.inl rfl) dX4_many_137 h31 ?_
                        obtain ⟨u33, h33, hf⟩ := xk_bi hf
                        obtain ⟨q32, h32, hf⟩ := xk_bi hf
                        refine xk_backi (xk_callV hC 0 xc_4 (c_Jx4a65c_size_8abf5 h32) h33 xm_130 xm_131 xm_132 xm_4 xm_133 ⟨rfl, xd_Jx4a65c_size_8abf5⟩ rfl ⟨Nat.le_of_ble_eq_true rfl, Nat.le_of_ble_eq_true rfl⟩ rfl (Nat.le_of_ble_eq_true rfl) dX4_many_140 ⟨(Nat.le_of_ble_eq_true rfl), (Nat.le_of_ble_eq_true rfl)⟩) ?_
                        cases hf
                      · replace hf := (if_neg c30).symm.trans hf
                        by_cases c34 : (x1) = (11 : Int32)
                        · replace hf := (if_pos c34).symm.trans hf
                          refine xk_tableIn (tgt := 144) hC dX4_many_1 (by rw [c34]; decide) (by rw [c34]; decide) (off := 143) (by rw [c34]; rfl) (by decide) ?_
                          refine xk_aload_n hC dX4_many_144 0 rfl rfl ?_
                          obtain ⟨u36, h36, hf⟩ := xk_bi hf
                          obtain ⟨q35, h35, hf⟩ := xk_bi hf
                          refine xk_backi (xk_callV hC 0 xc_0 (c_X4_countAllValid h35) h36 xm_222 xm_224 xm_p9 xm_1 xm_225 ⟨rfl, xd_X4_countAllValid⟩ rfl ⟨Nat.le_of_ble_eq_true rfl, Nat.le_of_ble_eq_true rfl⟩ rfl (Nat.le_of_ble_eq_true rfl) dX4_many_145 ⟨(Nat.le_of_ble_eq_true rfl), (Nat.le_of_ble_eq_true rfl)⟩) ?_
                          cases hf
                        · replace hf := (if_neg c34).symm.trans hf
                          by_cases c37 : (x1) = (12 : Int32)
                          · replace hf := (if_pos c37).symm.trans hf
                            refine xk_tableIn (tgt := 149) hC dX4_many_1 (by rw [c37]; decide) (by rw [c37]; decide) (off := 148) (by rw [c37]; rfl) (by decide) ?_
                            refine xk_aload_n hC dX4_many_149 0 rfl rfl ?_
                            obtain ⟨v38, h38, hf⟩ := xk_bi hf
                            refine xk_getI hC xi_0 xc_0 7 (by decide) xm_92 (Or.inl rfl) dX4_many_150 h38 ?_
                            cases hf
                          · replace hf := (if_neg c37).symm.trans hf
                            by_cases c39 : (x1) = (13 : Int32)
                            · replace hf := (if_pos c39).symm.trans hf
                              refine xk_tableIn (tgt := 154) hC dX4_many_1 (by rw [c39]; decide) (by rw [c39]; decide) (off := 153) (by rw [c39]; rfl) (by decide) ?_
                              refine xk_aload_n hC dX4_many_154 0 rfl rfl ?_
                              obtain ⟨v40, h40, hf⟩ := xk_bi hf
                              refine xk_getI hC xi_0 xc_0 8 (by decide) xm_93 (Or.inl rfl) dX4_many_155 h40 ?_
                              cases hf
                            · replace hf := (if_neg c39).symm.trans hf
                              by_cases c41 : (x1) = (14 : Int32)
                              · replace hf := (if_pos c41).symm.trans hf
                                refine xk_tableIn (tgt := 159) hC dX4_many_1 (by rw [c41]; decide) (by rw [c41]; decide) (off := 158) (by rw [c41]; rfl) (by decide) ?_
                                refine xk_aload_n hC dX4_many_159 0 rfl rfl ?_
                                obtain ⟨v42, h42, hf⟩ := xk_bi hf
                                refine xk_getI hC xi_0 xc_0 9 (by decide) xm_94 (Or.inl rfl) dX4_many_160 h42 ?_
                                cases hf
                              · replace hf := (if_neg c41).symm.trans hf
                                by_cases c43 : (x1) = (15 : Int32)
                                · replace hf := (if_pos c43).symm.trans hf
                                  refine xk_tableIn (tgt := 164) hC dX4_many_1 (by rw [c43]; decide) (by rw [c43]; decide) (off := 163) (by rw [c43]; rfl) (by decide) ?_
                                  refine xk_aload_n hC dX4_many_164 0 rfl rfl ?_
                                  obtain ⟨u45, h45, hf⟩ := xk_bi hf
                                  obtain ⟨q44, h44, hf⟩ := xk_bi hf
                                  refine xk_backi (xk_callV hC 0 xc_0 (c_X4_payToAll h44) h45 xm_226 xm_228 xm_p10 xm_1 xm_229 ⟨rfl, xd_X4_payToAll⟩ rfl ⟨Nat.le_of_ble_eq_true rfl, Nat.le_of_ble_eq_true rfl⟩ rfl (Nat.le_of_ble_eq_true rfl) dX4_many_165 ⟨(Nat.le_of_ble_eq_true rfl), (Nat.le_of_ble_eq_true rfl)⟩) ?_
                                  cases hf
                                · replace hf := (if_neg c43).symm.trans hf
                                  refine xk_tableOut (tgt := 169) hC dX4_many_1 (xk_swo (x1) 0 15 (fun v h1 h2 hv => by
                                      have hh : v = 0 ∨ v = 1 ∨ v = 2 ∨ v = 3 ∨ v = 4 ∨ v = 5 ∨ v = 6 ∨ v = 7 ∨ v = 8 ∨ v = 9 ∨ v = 10 ∨ v = 11 ∨ v = 12 ∨ v = 13 ∨ v = 14 ∨ v = 15 := by omega
                                      rcases hh with rfl | rfl | rfl | rfl | rfl | rfl | rfl | rfl | rfl | rfl | rfl | rfl | rfl | rfl | rfl | rfl
                                      · exact c1 (Int32.toInt_inj.mp (hv.trans (by decide)))
                                      · exact c3 (Int32.toInt_inj.mp (hv.trans (by decide)))
                                      · exact c5 (Int32.toInt_inj.mp (hv.trans (by decide)))
                                      · exact c9 (Int32.toInt_inj.mp (hv.trans (by decide)))
                                      · exact c12 (Int32.toInt_inj.mp (hv.trans (by decide)))
                                      · exact c15 (Int32.toInt_inj.mp (hv.trans (by decide)))
                                      · exact c17 (Int32.toInt_inj.mp (hv.trans (by decide)))
                                      · exact c21 (Int32.toInt_inj.mp (hv.trans (by decide)))
                                      · exact c24 (Int32.toInt_inj.mp (hv.trans (by decide)))
                                      · exact c27 (Int32.toInt_inj.mp (hv.trans (by decide)))
                                      · exact c30 (Int32.toInt_inj.mp (hv.trans (by decide)))
                                      · exact c34 (Int32.toInt_inj.mp (hv.trans (by decide)))
                                      · exact c37 (Int32.toInt_inj.mp (hv.trans (by decide)))
                                      · exact c39 (Int32.toInt_inj.mp (hv.trans (by decide)))
                                      · exact c41 (Int32.toInt_inj.mp (hv.trans (by decide)))
                                      · exact c43 (Int32.toInt_inj.mp (hv.trans (by decide)))
                                      )) (by decide) ?_
                                  cases hf
                                  exact xk_throwW (k := 0) (B := [Cond.declares ⟨"java/lang/RuntimeException", "<init>", "(Ljava/lang/String;)V"⟩, Cond.declares ⟨"java/lang/Exception", "<init>", "(Ljava/lang/String;)V"⟩, Cond.declares ⟨"java/lang/Throwable", "<init>", "(Ljava/lang/String;)V"⟩, Cond.castable "java/lang/IllegalArgumentException" "java/lang/IllegalArgumentException"]) (names := ["java/lang/RuntimeException", "java/lang/Exception"]) hC hX hl9 rfl (by decide +kernel) (by decide +kernel) rfl xm_242 xm_10 (xk_note5 hC) xw_0a xw_0b (vx_c (va_Nw.use rfl (xk_note2 hC)) (vx_c (va_Nw.use rfl (xk_note3 hC)) (vx_c (va_Nw.use rfl (xk_note4 hC)) (vx_c (va_Nw.use rfl (xk_note1 hC)) vx_n)))) xw_0c dX4_many_169 dX4_many_172 dX4_many_173 dX4_many_176 dX4_many_179 (Nat.le_of_ble_eq_true rfl) (Nat.le_of_ble_eq_true rfl) (Nat.le_of_ble_eq_true rfl) (Nat.le_of_ble_eq_true rfl) (Nat.le_of_ble_eq_true rfl) (Nat.le_of_ble_eq_true rfl)
theorem ce_X4_many {l : Launch} (hl9 : l.stackTraces = false) {E : xEv} {x0 : Option Nat} {x1 : Int32} {w : xWd} {q : Nat × xWd} (hf : e_X4_many x0 x1 w = some q) : xk_MX l xy_X4_many prog_1_method_26_code 2 (some .int) 6 92 1 6 E [va_rf (x0), .int (x1)] w q := by
  refine xk_enterX (by decide +kernel) (by simp [lg_sl, xk_cat1, xk_cati, xk_catl, xk_catd]) ?_
  intro p e s m args below meth c hC hr hX ha
  rw [show lv_args 0 [va_rf (x0), .int (x1)] = [(0, va_rf (x0)), (1, .int (x1))] by simp [lv_args, xk_cat1, xk_cati, xk_catl, xk_catd]]
  exact te_X4_many_0 hC hr hX hl9 x0 x1 w hf
def f_X4_meanNote_76 (s0 : UInt64) (w : xWd) : Option (UInt64 × xWd) := some (s0, w)
set_option maxHeartbeats 4000000 in
set_option maxRecDepth 100000 in
theorem t_X4_meanNote_76 {p : Program} {l : Launch} {e : Env} {s : State} {m : MethodId} {args : Array Value} {below : List Frame} {meth : Method} {c : Code} {E : xEv} (hC : xk_C p s m args meth c E prog_1_method_27_code "Clickbook" 5) (hr : meth.sig.returnType = (some .double)) {q : (UInt64 × xWd)} (s0 : UInt64) (w : xWd) (hf : f_X4_meanNote_76 s0 w = some q) : xk_X p l e { frames := 1, cells := 0, slots := 0, locals := 20 } s m args below meth c (MQ below (xk_Qd E q) args s 0 0 (xk_A E.2.2.1)) E 5 0 0 76 [] [.double (s0)] w := by
  cases hf
  refine xk_widen (k := 0) (n := 0) (Nat.le_of_ble_eq_true rfl) (Nat.le_of_ble_eq_true rfl) ?_
  exact xk_dret hC hr dX4_meanNote_76
def f_X4_meanNote (x0 : Option Nat) (w : xWd) : Option (UInt64 × xWd) := (xk_gR w (x0) 0 4).bind (fun v1 => (xk_is w (v1) 4).bind (fun u3 => (f_Jx4a65c_size_8abf5 (v1)  w).bind (fun q2 => if (q2.1) ≤ ((0 : Int32)) then if ((0 : Int32)) = ((0 : Int32)) then f_X4_meanNote_76 (FP.dconst0) (q2.2) else (xk_nn (FP.ddiv (FP.i2d ((0 : Int32))) (FP.i2d ((0 : Int32))))).bind (fun u6 => f_X4_meanNote_76 (FP.ddiv (FP.i2d ((0 : Int32))) (FP.i2d ((0 : Int32)))) (q2.2)) else (xk_gR q2.2 (x0) 0 4).bind (fun v7 => none))))
set_option maxHeartbeats 4000000 in
set_option maxRecDepth 100000 in
theorem t_X4_meanNote_0 {p : Program} {l : Launch} {e : Env} {s : State} {m : MethodId} {args : Array Value} {below : List Frame} {meth : Method} {c : Code} {E : xEv} (hC : xk_C p s m args meth c E prog_1_method_27_code "Clickbook" 5) (hr : meth.sig.returnType = (some .double)) {q : (UInt64 × xWd)} (x0 : Option Nat) (w : xWd) (hf : f_X4_meanNote x0 w = some q) : xk_X p l e { frames := 1, cells := 0, slots := 0, locals := 20 } s m args below meth c (MQ below (xk_Qd E q) args s 0 0 (xk_A E.2.2.1)) E 5 0 0 0 [(0, va_rf (x0))] [] w := by
  refine xk_iconst (v := (0 : Int32)) hC dX4_meanNote_0 (by decide) ?_
  refine xk_istore_n (i := 1) (lv' := [(1, .int ((0 : Int32))), (0, va_rf (x0))]) hC dX4_meanNote_1 rfl (by decide) (by simp [xk_cat1]) ?_
  refine xk_iconst (v := (0 : Int32)) hC dX4_meanNote_2 (by decide) ?_
  refine xk_istore_n (i := 2) (lv' := [(2, .int ((0 : Int32))), (1, .int ((0 : Int32))), (0, va_rf (x0))]) hC dX4_meanNote_3 rfl (by decide) rfl ?_
  refine xk_iconst (v := (0 : Int32)) hC dX4_meanNote_4 (by decide) ?_
  refine xk_istore_n (i := 3) (lv' := [(3, .int ((0 : Int32))), (2, .int ((0 : Int32))), (1, .int ((0 : Int32))), (0, va_rf (x0))]) hC dX4_meanNote_5 rfl (by decide) rfl ?_
  refine xk_iload_n hC dX4_meanNote_6 0 rfl rfl ?_
  refine xk_aload_n hC dX4_meanNote_7 3 rfl rfl ?_
  obtain ⟨v1, h1, hf⟩ := xk_bi hf
  refine xk_getR hC xi_0 xc_0 4 (by decide) xm_89 (Or.inl rfl) dX4_meanNote_8 h1 ?_
  obtain ⟨u3, h3, hf⟩ := xk_bi hf
  obtain ⟨q2, h2, hf⟩ := xk_bi hf
  refine xk_backi (xk_callV hC 0 xc_4 (c_Jx4a65c_size_8abf5 h2) h3 xm_130 xm_131 xm_132 xm_4 xm_133 ⟨rfl, xd_Jx4a65c_size_8abf5⟩ rfl ⟨Nat.le_of_ble_eq_true rfl, Nat.le_of_ble_eq_true rfl⟩ rfl (Nat.le_of_ble_eq_true rfl) dX4_meanNote_11 ⟨(Nat.le_of_ble_eq_true rfl), (Nat.le_of_ble_eq_true rfl)⟩) ?_
  refine xk_icmp_ge (tgt := 63) hC dX4_meanNote_14 (by decide) (fun c4 => ?_) (fun c4 => ?_)
  · replace hf := (if_pos c4).symm.trans hf
    refine xk_iload_n hC dX4_meanNote_63 1 rfl rfl ?_
    refine xk_if_ne (tgt := 71) hC dX4_meanNote_64 (by decide) (fun c5 => ?_) (fun c5 => ?_)
    · replace hf := (if_neg c5).symm.trans hf
      refine xk_iload_n hC dX4_meanNote_71 2 rfl rfl ?_
      refine xk_i2d hC dX4_meanNote_72 ?_
      refine xk_iload_n hC dX4_meanNote_73 1 rfl rfl ?_
      refine xk_i2d hC dX4_meanNote_74 ?_
      obtain ⟨u6, h6, hf⟩ := xk_bi hf
      refine xk_ddiv hC dX4_meanNote_75 (xk_nn_e h6) ?_
      refine xk_locals [] rfl ?_
      exact t_X4_meanNote_76 hC hr (FP.ddiv (FP.i2d ((0 : Int32))) (FP.i2d ((0 : Int32)))) (q2.2) hf
    · replace hf := (if_pos c5).symm.trans hf
      refine xk_dconst0 hC dX4_meanNote_67 ?_
      refine xk_goto (tgt := 76) hC dX4_meanNote_68 (by decide) ?_
      refine xk_locals [] rfl ?_
      exact t_X4_meanNote_76 hC hr (FP.dconst0) (q2.2) hf
  · replace hf := (if_neg c4).symm.trans hf
    refine xk_aload_n hC dX4_meanNote_17 3 rfl rfl ?_
    obtain ⟨v7, h7, hf⟩ := xk_bi hf
    refine xk_getR hC xi_0 xc_0 4 (by decide) xm_89 (Or.inl rfl) dX4_meanNote_18 h7 ?_
    refine xk_iload_n hC dX4_meanNote_21 0 rfl rfl ?_
    cases hf
theorem xd_X4_meanNote : xy_X4_meanNote.cls ≠ "java/lang/invoke/MethodHandle" ∧ xy_X4_meanNote.cls ≠ "java/lang/invoke/VarHandle" ∧ (parseMethodDescriptor xy_X4_meanNote.desc).map (fun d => d.parameters.length) = some 0 := ⟨by decide +kernel, by decide +kernel, by decide +kernel⟩
theorem c_X4_meanNote {l : Launch} {E : xEv} {x0 : Option Nat} {w : xWd} {q : (UInt64 × xWd)} (hf : f_X4_meanNote x0 w = some q) : xk_M l xy_X4_meanNote prog_1_method_27_code 5 (some .double) 1 20 0 0 E [va_rf (x0)] w (xk_Qd E q) := by
  refine xk_enter (by decide +kernel) (by simp [lg_sl, xk_cat1, xk_cati, xk_catl, xk_catd]) ?_
  intro p e s m args below meth c hC hr hin ha
  rw [show lv_args 0 [va_rf (x0)] = [(0, va_rf (x0))] by simp [lv_args, xk_cat1, xk_cati, xk_catl, xk_catd]]
  exact t_X4_meanNote_0 hC hr x0 w hf
def e_X4_join (x0 : Option Nat) (x1 : Int32) (w : xWd) : Option (Nat × xWd) := (xk_gR w (x0) 0 10).bind (fun v1 => (xk_is w (x0) 0).bind (fun u3 => e_X4_cueNumbered (x0) (x1) w))
set_option maxHeartbeats 4000000 in
set_option maxRecDepth 100000 in
theorem te_X4_join_0 {p : Program} {l : Launch} {e : Env} {s : State} {m : MethodId} {args : Array Value} {below : List Frame} {meth : Method} {c : Code} {E : xEv} (hC : xk_C p s m args meth c E prog_1_method_46_code "Clickbook" 2) (hr : meth.sig.returnType = (some .int)) (hX : ∀ x ∈ c.exceptionTable.toList, False) (hl9 : l.stackTraces = false) {q : (Nat × xWd)} (x0 : Option Nat) (x1 : Int32) (w : xWd) (hf : e_X4_join x0 x1 w = some q) : xk_X p l e { frames := 7, cells := 1, slots := 6, locals := 113 } s m args below meth c (vx_MQ below xk_QN (xk_XC E q) args s 1 6 (xk_A E.2.2.1)) E 2 0 0 0 [(0, va_rf (x0)), (1, .int (x1))] [] w := by
  refine xk_aload_n hC dX4_join_0 0 rfl rfl ?_
  obtain ⟨v1, h1, hf⟩ := xk_bi hf
  refine xk_getR hC xi_0 xc_0 10 (by decide) xm_95 (Or.inl rfl) dX4_join_1 h1 ?_
  refine xk_aload_n hC dX4_join_4 0 rfl rfl ?_
  refine xk_iload_n hC dX4_join_5 1 rfl rfl ?_
  obtain ⟨u3, h3, hf⟩ := xk_bi hf
  exact xk_outX hC hX (Nat.le_of_ble_eq_true rfl) (Nat.le_of_ble_eq_true rfl) (xk_callVX (av := [.int (x1)]) (rest := [va_rf (v1)]) hC 1 xc_0 (ce_X4_cueNumbered hl9 hf) h3 xm_368 xm_370 xm_p19 xm_1 xm_371 ⟨rfl, xd_X4_cueNumbered⟩ rfl ⟨Nat.le_of_ble_eq_true rfl, Nat.le_of_ble_eq_true rfl⟩ rfl (by simp [xk_cat1, xk_cati, xk_catl, xk_catd]) dX4_join_6 ⟨(Nat.le_of_ble_eq_true rfl), (Nat.le_of_ble_eq_true rfl)⟩)
theorem xd_X4_join : xy_X4_join.cls ≠ "java/lang/invoke/MethodHandle" ∧ xy_X4_join.cls ≠ "java/lang/invoke/VarHandle" ∧ (parseMethodDescriptor xy_X4_join.desc).map (fun d => d.parameters.length) = some 1 := ⟨by decide +kernel, by decide +kernel, by decide +kernel⟩
theorem ce_X4_join {l : Launch} (hl9 : l.stackTraces = false) {E : xEv} {x0 : Option Nat} {x1 : Int32} {w : xWd} {q : Nat × xWd} (hf : e_X4_join x0 x1 w = some q) : xk_MX l xy_X4_join prog_1_method_46_code 2 (some .int) 7 113 1 6 E [va_rf (x0), .int (x1)] w q := by
  refine xk_enterX (by decide +kernel) (by simp [lg_sl, xk_cat1, xk_cati, xk_catl, xk_catd]) ?_
  intro p e s m args below meth c hC hr hX ha
  rw [show lv_args 0 [va_rf (x0), .int (x1)] = [(0, va_rf (x0)), (1, .int (x1))] by simp [lv_args, xk_cat1, xk_cati, xk_catl, xk_catd]]
  exact te_X4_join_0 hC hr hX hl9 x0 x1 w hf
def e_X4_joined (x0 : Option Nat) (x1 : Int32) (x2 : Int32) (w : xWd) : Option (Nat × xWd) := (xk_is w (x0) 0).bind (fun u2 => e_X4_cueNumbered (x0) (x1) w)
set_option maxHeartbeats 4000000 in
set_option maxRecDepth 100000 in
theorem te_X4_joined_0 {p : Program} {l : Launch} {e : Env} {s : State} {m : MethodId} {args : Array Value} {below : List Frame} {meth : Method} {c : Code} {E : xEv} (hC : xk_C p s m args meth c E prog_1_method_47_code "Clickbook" 4) (hr : meth.sig.returnType = (some .int)) (hX : ∀ x ∈ c.exceptionTable.toList, False) (hl9 : l.stackTraces = false) {q : (Nat × xWd)} (x0 : Option Nat) (x1 : Int32) (x2 : Int32) (w : xWd) (hf : e_X4_joined x0 x1 x2 w = some q) : xk_X p l e { frames := 7, cells := 1, slots := 6, locals := 113 } s m args below meth c (vx_MQ below xk_QN (xk_XC E q) args s 1 6 (xk_A E.2.2.1)) E 4 0 0 0 [(0, va_rf (x0)), (1, .int (x1)), (2, .int (x2))] [] w := by
  refine xk_aload_n hC dX4_joined_0 0 rfl rfl ?_
  refine xk_iload_n hC dX4_joined_1 1 rfl rfl ?_
  obtain ⟨u2, h2, hf⟩ := xk_bi hf
  exact xk_outX hC hX (Nat.le_of_ble_eq_true rfl) (Nat.le_of_ble_eq_true rfl) (xk_callVX (av := [.int (x1)]) (rest := []) hC 1 xc_0 (ce_X4_cueNumbered hl9 hf) h2 xm_368 xm_370 xm_p19 xm_1 xm_371 ⟨rfl, xd_X4_cueNumbered⟩ rfl ⟨Nat.le_of_ble_eq_true rfl, Nat.le_of_ble_eq_true rfl⟩ rfl (Nat.le_of_ble_eq_true rfl) dX4_joined_2 ⟨(Nat.le_of_ble_eq_true rfl), (Nat.le_of_ble_eq_true rfl)⟩)
theorem xd_X4_joined : xy_X4_joined.cls ≠ "java/lang/invoke/MethodHandle" ∧ xy_X4_joined.cls ≠ "java/lang/invoke/VarHandle" ∧ (parseMethodDescriptor xy_X4_joined.desc).map (fun d => d.parameters.length) = some 2 := ⟨by decide +kernel, by decide +kernel, by decide +kernel⟩
theorem ce_X4_joined {l : Launch} (hl9 : l.stackTraces = false) {E : xEv} {x0 : Option Nat} {x1 : Int32} {x2 : Int32} {w : xWd} {q : Nat × xWd} (hf : e_X4_joined x0 x1 x2 w = some q) : xk_MX l xy_X4_joined prog_1_method_47_code 4 (some .int) 7 113 1 6 E [va_rf (x0), .int (x1), .int (x2)] w q := by
  refine xk_enterX (by decide +kernel) (by simp [lg_sl, xk_cat1, xk_cati, xk_catl, xk_catd]) ?_
  intro p e s m args below meth c hC hr hX ha
  rw [show lv_args 0 [va_rf (x0), .int (x1), .int (x2)] = [(0, va_rf (x0)), (1, .int (x1)), (2, .int (x2))] by simp [lv_args, xk_cat1, xk_cati, xk_catl, xk_catd]]
  exact te_X4_joined_0 hC hr hX hl9 x0 x1 x2 w hf
def e_X4_bestStart (x0 : Option Nat) (x1 : Int32) (w : xWd) : Option (Nat × xWd) := (xk_is w (x0) 0).bind (fun u2 => e_X4_cueNumbered (x0) (x1) w)
set_option maxHeartbeats 4000000 in
set_option maxRecDepth 100000 in
theorem te_X4_bestStart_0 {p : Program} {l : Launch} {e : Env} {s : State} {m : MethodId} {args : Array Value} {below : List Frame} {meth : Method} {c : Code} {E : xEv} (hC : xk_C p s m args meth c E prog_1_method_48_code "Clickbook" 9) (hr : meth.sig.returnType = (some .int)) (hX : ∀ x ∈ c.exceptionTable.toList, False) (hl9 : l.stackTraces = false) {q : (Nat × xWd)} (x0 : Option Nat) (x1 : Int32) (w : xWd) (hf : e_X4_bestStart x0 x1 w = some q) : xk_X p l e { frames := 7, cells := 1, slots := 6, locals := 113 } s m args below meth c (vx_MQ below xk_QN (xk_XC E q) args s 1 6 (xk_A E.2.2.1)) E 9 0 0 0 [(0, va_rf (x0)), (1, .int (x1))] [] w := by
  refine xk_aload_n hC dX4_bestStart_0 0 rfl rfl ?_
  refine xk_iload_n hC dX4_bestStart_1 1 rfl rfl ?_
  obtain ⟨u2, h2, hf⟩ := xk_bi hf
  exact xk_outX hC hX (Nat.le_of_ble_eq_true rfl) (Nat.le_of_ble_eq_true rfl) (xk_callVX (av := [.int (x1)]) (rest := []) hC 1 xc_0 (ce_X4_cueNumbered hl9 hf) h2 xm_368 xm_370 xm_p19 xm_1 xm_371 ⟨rfl, xd_X4_cueNumbered⟩ rfl ⟨Nat.le_of_ble_eq_true rfl, Nat.le_of_ble_eq_true rfl⟩ rfl (Nat.le_of_ble_eq_true rfl) dX4_bestStart_2 ⟨(Nat.le_of_ble_eq_true rfl), (Nat.le_of_ble_eq_true rfl)⟩)
theorem xd_X4_bestStart : xy_X4_bestStart.cls ≠ "java/lang/invoke/MethodHandle" ∧ xy_X4_bestStart.cls ≠ "java/lang/invoke/VarHandle" ∧ (parseMethodDescriptor xy_X4_bestStart.desc).map (fun d => d.parameters.length) = some 1 := ⟨by decide +kernel, by decide +kernel, by decide +kernel⟩
theorem ce_X4_bestStart {l : Launch} (hl9 : l.stackTraces = false) {E : xEv} {x0 : Option Nat} {x1 : Int32} {w : xWd} {q : Nat × xWd} (hf : e_X4_bestStart x0 x1 w = some q) : xk_MX l xy_X4_bestStart prog_1_method_48_code 9 (some .int) 7 113 1 6 E [va_rf (x0), .int (x1)] w q := by
  refine xk_enterX (by decide +kernel) (by simp [lg_sl, xk_cat1, xk_cati, xk_catl, xk_catd]) ?_
  intro p e s m args below meth c hC hr hX ha
  rw [show lv_args 0 [va_rf (x0), .int (x1)] = [(0, va_rf (x0)), (1, .int (x1))] by simp [lv_args, xk_cat1, xk_cati, xk_catl, xk_catd]]
  exact te_X4_bestStart_0 hC hr hX hl9 x0 x1 w hf
def e_X4_bestClick (x0 : Option Nat) (x1 : Int32) (x2 : Int32) (w : xWd) : Option (Nat × xWd) := (xk_is w (x0) 0).bind (fun u2 => e_X4_cueNumbered (x0) (x1) w)
set_option maxHeartbeats 4000000 in
set_option maxRecDepth 100000 in
theorem te_X4_bestClick_0 {p : Program} {l : Launch} {e : Env} {s : State} {m : MethodId} {args : Array Value} {below : List Frame} {meth : Method} {c : Code} {E : xEv} (hC : xk_C p s m args meth c E prog_1_method_49_code "Clickbook" 11) (hr : meth.sig.returnType = (some .int)) (hX : ∀ x ∈ c.exceptionTable.toList, False) (hl9 : l.stackTraces = false) {q : (Nat × xWd)} (x0 : Option Nat) (x1 : Int32) (x2 : Int32) (w : xWd) (hf : e_X4_bestClick x0 x1 x2 w = some q) : xk_X p l e { frames := 7, cells := 1, slots := 6, locals := 113 } s m args below meth c (vx_MQ below xk_QN (xk_XC E q) args s 1 6 (xk_A E.2.2.1)) E 11 0 0 0 [(0, va_rf (x0)), (1, .int (x1)), (2, .int (x2))] [] w := by
  refine xk_aload_n hC dX4_bestClick_0 0 rfl rfl ?_
  refine xk_iload_n hC dX4_bestClick_1 1 rfl rfl ?_
  obtain ⟨u2, h2, hf⟩ := xk_bi hf
  exact xk_outX hC hX (Nat.le_of_ble_eq_true rfl) (Nat.le_of_ble_eq_true rfl) (xk_callVX (av := [.int (x1)]) (rest := []) hC 1 xc_0 (ce_X4_cueNumbered hl9 hf) h2 xm_368 xm_370 xm_p19 xm_1 xm_371 ⟨rfl, xd_X4_cueNumbered⟩ rfl ⟨Nat.le_of_ble_eq_true rfl, Nat.le_of_ble_eq_true rfl⟩ rfl (Nat.le_of_ble_eq_true rfl) dX4_bestClick_2 ⟨(Nat.le_of_ble_eq_true rfl), (Nat.le_of_ble_eq_true rfl)⟩)
theorem xd_X4_bestClick : xy_X4_bestClick.cls ≠ "java/lang/invoke/MethodHandle" ∧ xy_X4_bestClick.cls ≠ "java/lang/invoke/VarHandle" ∧ (parseMethodDescriptor xy_X4_bestClick.desc).map (fun d => d.parameters.length) = some 2 := ⟨by decide +kernel, by decide +kernel, by decide +kernel⟩
theorem ce_X4_bestClick {l : Launch} (hl9 : l.stackTraces = false) {E : xEv} {x0 : Option Nat} {x1 : Int32} {x2 : Int32} {w : xWd} {q : Nat × xWd} (hf : e_X4_bestClick x0 x1 x2 w = some q) : xk_MX l xy_X4_bestClick prog_1_method_49_code 11 (some .int) 7 113 1 6 E [va_rf (x0), .int (x1), .int (x2)] w q := by
  refine xk_enterX (by decide +kernel) (by simp [lg_sl, xk_cat1, xk_cati, xk_catl, xk_catd]) ?_
  intro p e s m args below meth c hC hr hX ha
  rw [show lv_args 0 [va_rf (x0), .int (x1), .int (x2)] = [(0, va_rf (x0)), (1, .int (x1)), (2, .int (x2))] by simp [lv_args, xk_cat1, xk_cati, xk_catl, xk_catd]]
  exact te_X4_bestClick_0 hC hr hX hl9 x0 x1 x2 w hf
def f_X4_wouldMeet (x0 : Option Nat) (x1 : Int32) (x2 : Int32) (w : xWd) : Option (Int32 × xWd) := (xk_is w (x0) 0).bind (fun u2 => (f_X4_refuseBadCut (x0) (x1) (x2) w).bind (fun q1 => (xk_gR q1 (x0) 0 0).bind (fun v3 => (xk_is q1 (v3) 4).bind (fun u5 => (f_Jx4a65c_size_8abf5 (v3)  q1).bind (fun q4 => if (q4.1) ≤ ((0 : Int32)) then some ((0 : Int32), q4.2) else (xk_gR q4.2 (x0) 0 0).bind (fun v7 => none))))))
set_option maxHeartbeats 4000000 in
set_option maxRecDepth 100000 in
theorem t_X4_wouldMeet_0 {p : Program} {l : Launch} {e : Env} {s : State} {m : MethodId} {args : Array Value} {below : List Frame} {meth : Method} {c : Code} {E : xEv} (hC : xk_C p s m args meth c E prog_1_method_50_code "Clickbook" 6) (hr : meth.sig.returnType = (some .int)) {q : (Int32 × xWd)} (x0 : Option Nat) (x1 : Int32) (x2 : Int32) (w : xWd) (hf : f_X4_wouldMeet x0 x1 x2 w = some q) : xk_X p l e { frames := 1, cells := 1, slots := 6, locals := 22 } s m args below meth c (MQ below (xk_Qi E q) args s 1 6 (xk_A E.2.2.1)) E 6 0 0 0 [(0, va_rf (x0)), (1, .int (x1)), (2, .int (x2))] [] w := by
  refine xk_aload_n hC dX4_wouldMeet_0 0 rfl rfl ?_
  refine xk_iload_n hC dX4_wouldMeet_1 1 rfl rfl ?_
  refine xk_iload_n hC dX4_wouldMeet_2 2 rfl rfl ?_
  obtain ⟨u2, h2, hf⟩ := xk_bi hf
  obtain ⟨q1, h1, hf⟩ := xk_bi hf
  refine xk_backv (xk_callV hC 2 xc_0 (c_X4_refuseBadCut h1) h2 xm_506 xm_508 xm_p27 xm_1 xm_509 ⟨rfl, xd_X4_refuseBadCut⟩ rfl ⟨Nat.le_of_ble_eq_true rfl, Nat.le_of_ble_eq_true rfl⟩ rfl (Nat.le_of_ble_eq_true rfl) dX4_wouldMeet_3 ⟨(Nat.le_of_ble_eq_true rfl), (Nat.le_of_ble_eq_true rfl)⟩) ?_
  refine xk_iconst (v := (0 : Int32)) hC dX4_wouldMeet_6 (by decide) ?_
  refine xk_istore_n (i := 3) (lv' := [(3, .int ((0 : Int32))), (0, va_rf (x0)), (1, .int (x1)), (2, .int (x2))]) hC dX4_wouldMeet_7 rfl (by decide) rfl ?_
  refine xk_iconst (v := (0 : Int32)) hC dX4_wouldMeet_8 (by decide) ?_
  refine xk_istore (i := 4) (lv' := [(4, .int ((0 : Int32))), (3, .int ((0 : Int32))), (0, va_rf (x0)), (1, .int (x1)), (2, .int (x2))]) hC dX4_wouldMeet_9 (by decide) rfl ?_
  refine xk_iload hC dX4_wouldMeet_11 0 rfl ?_
  refine xk_aload_n hC dX4_wouldMeet_13 2 rfl rfl ?_
  obtain ⟨v3, h3, hf⟩ := xk_bi hf
  refine xk_getR hC xi_0 xc_0 0 (by decide) xm_85 (Or.inl rfl) dX4_wouldMeet_14 h3 ?_
  obtain ⟨u5, h5, hf⟩ := xk_bi hf
  obtain ⟨q4, h4, hf⟩ := xk_bi hf
  refine xk_backi (xk_callV hC 0 xc_4 (c_Jx4a65c_size_8abf5 h4) h5 xm_130 xm_131 xm_132 xm_4 xm_133 ⟨rfl, xd_Jx4a65c_size_8abf5⟩ rfl ⟨Nat.le_of_ble_eq_true rfl, Nat.le_of_ble_eq_true rfl⟩ rfl (Nat.le_of_ble_eq_true rfl) dX4_wouldMeet_17 ⟨(Nat.le_of_ble_eq_true rfl), (Nat.le_of_ble_eq_true rfl)⟩) ?_
  refine xk_icmp_ge (tgt := 78) hC dX4_wouldMeet_20 (by decide) (fun c6 => ?_) (fun c6 => ?_)
  · replace hf := (if_pos c6).symm.trans hf
    refine xk_iload_n hC dX4_wouldMeet_78 1 rfl rfl ?_
    cases hf
    refine xk_widen (k := 1) (n := 6) (Nat.le_of_ble_eq_true rfl) (Nat.le_of_ble_eq_true rfl) ?_
    exact xk_iret hC hr rfl dX4_wouldMeet_79
  · replace hf := (if_neg c6).symm.trans hf
    refine xk_aload_n hC dX4_wouldMeet_23 2 rfl rfl ?_
    obtain ⟨v7, h7, hf⟩ := xk_bi hf
    refine xk_getR hC xi_0 xc_0 0 (by decide) xm_85 (Or.inl rfl) dX4_wouldMeet_24 h7 ?_
    refine xk_iload hC dX4_wouldMeet_27 0 rfl ?_
    cases hf
theorem xd_X4_wouldMeet : xy_X4_wouldMeet.cls ≠ "java/lang/invoke/MethodHandle" ∧ xy_X4_wouldMeet.cls ≠ "java/lang/invoke/VarHandle" ∧ (parseMethodDescriptor xy_X4_wouldMeet.desc).map (fun d => d.parameters.length) = some 2 := ⟨by decide +kernel, by decide +kernel, by decide +kernel⟩
theorem c_X4_wouldMeet {l : Launch} {E : xEv} {x0 : Option Nat} {x1 : Int32} {x2 : Int32} {w : xWd} {q : (Int32 × xWd)} (hf : f_X4_wouldMeet x0 x1 x2 w = some q) : xk_M l xy_X4_wouldMeet prog_1_method_50_code 6 (some .int) 1 22 1 6 E [va_rf (x0), .int (x1), .int (x2)] w (xk_Qi E q) := by
  refine xk_enter (by decide +kernel) (by simp [lg_sl, xk_cat1, xk_cati, xk_catl, xk_catd]) ?_
  intro p e s m args below meth c hC hr hin ha
  rw [show lv_args 0 [va_rf (x0), .int (x1), .int (x2)] = [(0, va_rf (x0)), (1, .int (x1)), (2, .int (x2))] by simp [lv_args, xk_cat1, xk_cati, xk_catl, xk_catd]]
  exact t_X4_wouldMeet_0 hC hr x0 x1 x2 w hf
def e_X4_wouldMeet (x0 : Option Nat) (x1 : Int32) (x2 : Int32) (w : xWd) : Option (Nat × xWd) := (xk_is w (x0) 0).bind (fun u2 => xk_or (f_X4_refuseBadCut (x0) (x1) (x2) w) (fun q1 => (xk_gR q1 (x0) 0 0).bind (fun v3 => (xk_is q1 (v3) 4).bind (fun u5 => (f_Jx4a65c_size_8abf5 (v3)  q1).bind (fun q4 => if (q4.1) ≤ ((0 : Int32)) then none else (xk_gR q4.2 (x0) 0 0).bind (fun v7 => none))))) (e_X4_refuseBadCut (x0) (x1) (x2) w))
set_option maxHeartbeats 4000000 in
set_option maxRecDepth 100000 in
theorem te_X4_wouldMeet_0 {p : Program} {l : Launch} {e : Env} {s : State} {m : MethodId} {args : Array Value} {below : List Frame} {meth : Method} {c : Code} {E : xEv} (hC : xk_C p s m args meth c E prog_1_method_50_code "Clickbook" 6) (hr : meth.sig.returnType = (some .int)) (hX : ∀ x ∈ c.exceptionTable.toList, False) (hl9 : l.stackTraces = false) {q : (Nat × xWd)} (x0 : Option Nat) (x1 : Int32) (x2 : Int32) (w : xWd) (hf : e_X4_wouldMeet x0 x1 x2 w = some q) : xk_X p l e { frames := 7, cells := 1, slots := 6, locals := 114 } s m args below meth c (vx_MQ below xk_QN (xk_XC E q) args s 1 6 (xk_A E.2.2.1)) E 6 0 0 0 [(0, va_rf (x0)), (1, .int (x1)), (2, .int (x2))] [] w := by
  refine xk_aload_n hC dX4_wouldMeet_0 0 rfl rfl ?_
  refine xk_iload_n hC dX4_wouldMeet_1 1 rfl rfl ?_
  refine xk_iload_n hC dX4_wouldMeet_2 2 rfl rfl ?_
  obtain ⟨u2, h2, hf⟩ := xk_bi hf
  rcases xk_or_e hf with ⟨-, hf⟩ | ⟨q1, h1, hf⟩
  · skip
    exact xk_outX hC hX (Nat.le_of_ble_eq_true rfl) (Nat.le_of_ble_eq_true rfl) (xk_callVX (av := [.int (x1), .int (x2)]) (rest := []) hC 2 xc_0 (ce_X4_refuseBadCut hl9 hf) h2 xm_506 xm_508 xm_p27 xm_1 xm_509 ⟨rfl, xd_X4_refuseBadCut⟩ rfl ⟨Nat.le_of_ble_eq_true rfl, Nat.le_of_ble_eq_true rfl⟩ rfl (Nat.le_of_ble_eq_true rfl) dX4_wouldMeet_3 ⟨(Nat.le_of_ble_eq_true rfl), (Nat.le_of_ble_eq_true rfl)⟩)
  refine xk_backv (xk_callV (av := [.int (x1), .int (x2)]) (rest := []) hC 2 xc_0 (c_X4_refuseBadCut h1) h2 xm_506 xm_508 xm_p27 xm_1 xm_509 ⟨rfl, xd_X4_refuseBadCut⟩ rfl ⟨Nat.le_of_ble_eq_true rfl, Nat.le_of_ble_eq_true rfl⟩ rfl (Nat.le_of_ble_eq_true rfl) dX4_wouldMeet_3 ⟨(Nat.le_of_ble_eq_true rfl), (Nat.le_of_ble_eq_true rfl)⟩) ?_
  refine xk_iconst (v := (0 : Int32)) hC dX4_wouldMeet_6 (by decide) ?_
  refine xk_istore_n (i := 3) (lv' := [(3, .int ((0 : Int32))), (0, va_rf (x0)), (1, .int (x1)), (2, .int (x2))]) hC dX4_wouldMeet_7 rfl (by decide) rfl ?_
  refine xk_iconst (v := (0 : Int32)) hC dX4_wouldMeet_8 (by decide) ?_
  refine xk_istore (i := 4) (lv' := [(4, .int ((0 : Int32))), (3, .int ((0 : Int32))), (0, va_rf (x0)), (1, .int (x1)), (2, .int (x2))]) hC dX4_wouldMeet_9 (by decide) rfl ?_
  refine xk_iload hC dX4_wouldMeet_11 0 rfl ?_
  refine xk_aload_n hC dX4_wouldMeet_13 2 rfl rfl ?_
  obtain ⟨v3, h3, hf⟩ := xk_bi hf
  refine xk_getR hC xi_0 xc_0 0 (by decide) xm_85 (Or.inl rfl) dX4_wouldMeet_14 h3 ?_
  obtain ⟨u5, h5, hf⟩ := xk_bi hf
  obtain ⟨q4, h4, hf⟩ := xk_bi hf
  refine xk_backi (xk_callV hC 0 xc_4 (c_Jx4a65c_size_8abf5 h4) h5 xm_130 xm_131 xm_132 xm_4 xm_133 ⟨rfl, xd_Jx4a65c_size_8abf5⟩ rfl ⟨Nat.le_of_ble_eq_true rfl, Nat.le_of_ble_eq_true rfl⟩ rfl (Nat.le_of_ble_eq_true rfl) dX4_wouldMeet_17 ⟨(Nat.le_of_ble_eq_true rfl), (Nat.le_of_ble_eq_true rfl)⟩) ?_
  refine xk_icmp_ge (tgt := 78) hC dX4_wouldMeet_20 (by decide) (fun c6 => ?_) (fun c6 => ?_)
  · replace hf := (if_pos c6).symm.trans hf
    refine xk_iload_n hC dX4_wouldMeet_78 1 rfl rfl ?_
    cases hf
  · replace hf := (if_neg c6).symm.trans hf
    refine xk_aload_n hC dX4_wouldMeet_23 2 rfl rfl ?_
    obtain ⟨v7, h7, hf⟩ := xk_bi hf
    refine xk_getR hC xi_0 xc_0 0 (by decide) xm_85 (Or.inl rfl) dX4_wouldMeet_24 h7 ?_
    refine xk_iload hC dX4_wouldMeet_27 0 rfl ?_
    cases hf
theorem ce_X4_wouldMeet {l : Launch} (hl9 : l.stackTraces = false) {E : xEv} {x0 : Option Nat} {x1 : Int32} {x2 : Int32} {w : xWd} {q : Nat × xWd} (hf : e_X4_wouldMeet x0 x1 x2 w = some q) : xk_MX l xy_X4_wouldMeet prog_1_method_50_code 6 (some .int) 7 114 1 6 E [va_rf (x0), .int (x1), .int (x2)] w q := by
  refine xk_enterX (by decide +kernel) (by simp [lg_sl, xk_cat1, xk_cati, xk_catl, xk_catd]) ?_
  intro p e s m args below meth c hC hr hX ha
  rw [show lv_args 0 [va_rf (x0), .int (x1), .int (x2)] = [(0, va_rf (x0)), (1, .int (x1)), (2, .int (x2))] by simp [lv_args, xk_cat1, xk_cati, xk_catl, xk_catd]]
  exact te_X4_wouldMeet_0 hC hr hX hl9 x0 x1 x2 w hf
def f_X4_mixed (x0 : Int64) (x2 : Int64) (w : xWd) : Option (Int64 × xWd) := some (((x0) * ((31 : Int64))) + (x2), w)
set_option maxHeartbeats 4000000 in
set_option maxRecDepth 100000 in
theorem t_X4_mixed_0 {p : Program} {l : Launch} {e : Env} {s : State} {m : MethodId} {args : Array Value} {below : List Frame} {meth : Method} {c : Code} {E : xEv} (hC : xk_C p s m args meth c E prog_1_method_53_code "Clickbook" 4) (hr : meth.sig.returnType = (some .long)) {q : (Int64 × xWd)} (x0 : Int64) (x2 : Int64) (w : xWd) (hf : f_X4_mixed x0 x2 w = some q) : xk_X p l e { frames := 0, cells := 0, slots := 0, locals := 0 } s m args below meth c (MQ below (xk_Ql E q) args s 0 0 (xk_A E.2.2.1)) E 4 0 0 0 [(0, .long (x0)), (2, .long (x2))] [] w := by
  refine xk_lload_n hC dX4_mixed_0 0 rfl rfl ?_
  refine xk_ldc2 (v := (31 : Int64)) hC dX4_mixed_1 xm_313 ?_
  refine xk_lmul hC dX4_mixed_4 ?_
  refine xk_lload_n hC dX4_mixed_5 1 rfl rfl ?_
  refine xk_ladd hC dX4_mixed_6 ?_
  cases hf
  refine xk_widen (k := 0) (n := 0) (Nat.le_of_ble_eq_true rfl) (Nat.le_of_ble_eq_true rfl) ?_
  exact xk_lret hC hr dX4_mixed_7
theorem xd_X4_mixed : xy_X4_mixed.cls ≠ "java/lang/invoke/MethodHandle" ∧ xy_X4_mixed.cls ≠ "java/lang/invoke/VarHandle" ∧ (parseMethodDescriptor xy_X4_mixed.desc).map (fun d => d.parameters.length) = some 2 := ⟨by decide +kernel, by decide +kernel, by decide +kernel⟩
theorem c_X4_mixed {l : Launch} {E : xEv} {x0 : Int64} {x2 : Int64} {w : xWd} {q : (Int64 × xWd)} (hf : f_X4_mixed x0 x2 w = some q) : xk_M l xy_X4_mixed prog_1_method_53_code 4 (some .long) 0 0 0 0 E [.long (x0), .long (x2)] w (xk_Ql E q) := by
  refine xk_enter (by decide +kernel) (by simp [lg_sl, xk_cat1, xk_cati, xk_catl, xk_catd]) ?_
  intro p e s m args below meth c hC hr hin ha
  rw [show lv_args 0 [.long (x0), .long (x2)] = [(0, .long (x0)), (2, .long (x2))] by simp [lv_args, xk_cat1, xk_cati, xk_catl, xk_catd]]
  exact t_X4_mixed_0 hC hr x0 x2 w hf
def f_X4_digest_152 : Nat → Option Nat → Int64 → Int32 → xWd → Option (Int64 × xWd)
  | 0, _, _, _, _ => none
  | n + 1, x0, x1, x3, w => if ((4 : Int32)) ≤ (x3) then (xk_gI w (x0) 0 5).bind (fun v2 => (xk_nz ((2 : Int32))).bind (fun u3 => (xk_is w (x0) 0).bind (fun u5 => (f_X4_wouldMeet (x0) ((v2) / ((2 : Int32))) ((24 : Int32)) w).bind (fun q4 => (f_X4_mixed (x1) ((q4.1).toInt64) q4.2).bind (fun q6 => (xk_gR q6.2 (x0) 0 3).bind (fun v7 => (xk_is q6.2 (v7) 4).bind (fun u9 => (f_Jx4a65c_isEmpty_aae02 (v7)  q6.2).bind (fun q8 => if (q8.1) = ((0 : Int32)) then none else some (q6.1, q8.2))))))))) else (xk_is w (x0) 0).bind (fun u12 => (f_X4_sheet (x0) (x3) w).bind (fun q11 => (f_X4_mixed (x1) ((q11.1).toInt64) q11.2).bind (fun q13 => f_X4_digest_152 n x0 (q13.1) (x3 + (1 : Int32)) (q13.2))))
set_option maxHeartbeats 4000000 in
set_option maxRecDepth 100000 in
theorem t_X4_digest_152 {p : Program} {l : Launch} {e : Env} {s : State} {m : MethodId} {args : Array Value} {below : List Frame} {meth : Method} {c : Code} {E : xEv} (hC : xk_C p s m args meth c E prog_1_method_51_code "Clickbook" 5) (hr : meth.sig.returnType = (some .long)) {q : (Int64 × xWd)} : ∀ (n : Nat) (x0 : Option Nat) (x1 : Int64) (x3 : Int32) (w : xWd) (kc ks : Nat), kc + n * 1 ≤ 23 → ks + n * 6 ≤ 138 → f_X4_digest_152 n x0 x1 x3 w = some q → xk_X p l e { frames := 3, cells := 25, slots := 150, locals := 64 } s m args below meth c (MQ below (xk_Ql E q) args s 25 150 (xk_A E.2.2.1)) E 5 kc ks 152 [(0, va_rf (x0)), (1, .long (x1)), (3, .int (x3))] [] w := by
  intro n
  induction n with
  | zero => intro x0 x1 x3 w kc ks hkc hks hf; have hf : none = some q := hf; cases hf
  | succ n ih =>
    intro x0 x1 x3 w kc ks hkc hks hf
    rw [Nat.succ_mul] at hkc hks
    refine xk_iload_n hC dX4_digest_152 2 rfl rfl ?_
    refine xk_iconst (v := (4 : Int32)) hC dX4_digest_153 (by decide) ?_
    refine xk_icmp_ge (tgt := 174) hC dX4_digest_154 (by decide) (fun c1 => ?_) (fun c1 => ?_)
    · replace hf := (if_pos c1).symm.trans hf
      refine xk_lload_n hC dX4_digest_174 1 rfl rfl ?_
      refine xk_aload_n hC dX4_digest_175 0 rfl rfl ?_
      refine xk_aload_n hC dX4_digest_176 0 rfl rfl ?_
      obtain ⟨v2, h2, hf⟩ := xk_bi hf
      refine xk_getI hC xi_0 xc_0 5 (by decide) xm_90 (Or.inl rfl) dX4_digest_177 h2 ?_
      refine xk_iconst (v := (2 : Int32)) hC dX4_digest_180 (by decide) ?_
      obtain ⟨u3, h3, hf⟩ := xk_bi hf
      refine xk_idiv hC dX4_digest_181 (xk_nz_e h3) ?_
      refine xk_bipush (v := (24 : Int32)) hC dX4_digest_182 (by decide) ?_
      obtain ⟨u5, h5, hf⟩ := xk_bi hf
      obtain ⟨q4, h4, hf⟩ := xk_bi hf
      refine xk_backi (xk_callV hC 2 xc_0 (c_X4_wouldMeet h4) h5 xm_502 xm_503 xm_504 xm_1 xm_505 ⟨rfl, xd_X4_wouldMeet⟩ rfl ⟨Nat.le_of_ble_eq_true rfl, Nat.le_of_ble_eq_true rfl⟩ rfl (Nat.le_of_ble_eq_true rfl) dX4_digest_184 ⟨(by show _ ≤ 25; omega), (by show _ ≤ 150; omega)⟩) ?_
      refine xk_i2l hC dX4_digest_187 ?_
      obtain ⟨q6, h6, hf⟩ := xk_bi hf
      refine xk_backl (xk_callS hC 2 (c_X4_mixed h6) xm_310 xm_311 xm_1 xm_312 xd_X4_mixed rfl ⟨Nat.le_of_ble_eq_true rfl, Nat.le_of_ble_eq_true rfl⟩ rfl (Nat.le_of_ble_eq_true rfl) dX4_digest_188 ⟨(by show _ ≤ 25; omega), (by show _ ≤ 150; omega)⟩) ?_
      refine xk_lstore_n (i := 1) (lv' := [(1, .long (q6.1)), (0, va_rf (x0)), (3, .int (x3))]) hC dX4_digest_191 rfl (by decide) (by simp [xk_cat1]) ?_
      refine xk_aload_n hC dX4_digest_192 1 rfl rfl ?_
      obtain ⟨v7, h7, hf⟩ := xk_bi hf
      refine xk_getR hC xi_0 xc_0 3 (by decide) xm_88 (Or.inl rfl) dX4_digest_193 h7 ?_
      obtain ⟨u9, h9, hf⟩ := xk_bi hf
      obtain ⟨q8, h8, hf⟩ := xk_bi hf
      refine xk_backi (xk_callV hC 0 xc_4 (c_Jx4a65c_isEmpty_aae02 h8) h9 xm_522 xm_523 xm_524 xm_4 xm_525 ⟨rfl, xd_Jx4a65c_isEmpty_aae02⟩ rfl ⟨Nat.le_of_ble_eq_true rfl, Nat.le_of_ble_eq_true rfl⟩ rfl (Nat.le_of_ble_eq_true rfl) dX4_digest_196 ⟨(by show _ ≤ 25; omega), (by show _ ≤ 150; omega)⟩) ?_
      refine xk_if_eq (tgt := 206) hC dX4_digest_199 (by decide) (fun c10 => ?_) (fun c10 => ?_)
      · replace hf := (if_pos c10).symm.trans hf
        refine xk_lload_n hC dX4_digest_206 0 rfl rfl ?_
        refine xk_aload_n hC dX4_digest_207 1 rfl rfl ?_
        refine xk_iconst (v := (0 : Int32)) hC dX4_digest_208 (by decide) ?_
        cases hf
      · replace hf := (if_neg c10).symm.trans hf
        refine xk_lload_n hC dX4_digest_202 0 rfl rfl ?_
        refine xk_goto (tgt := 216) hC dX4_digest_203 (by decide) ?_
        cases hf
        refine xk_widen (k := 25) (n := 150) (by omega) (by omega) ?_
        exact xk_lret hC hr dX4_digest_216
    · replace hf := (if_neg c1).symm.trans hf
      refine xk_lload_n hC dX4_digest_157 1 rfl rfl ?_
      refine xk_aload_n hC dX4_digest_158 0 rfl rfl ?_
      refine xk_iload_n hC dX4_digest_159 2 rfl rfl ?_
      obtain ⟨u12, h12, hf⟩ := xk_bi hf
      obtain ⟨q11, h11, hf⟩ := xk_bi hf
      refine xk_backi (xk_callV hC 1 xc_0 (c_X4_sheet h11) h12 xm_497 xm_498 xm_499 xm_1 xm_500 ⟨rfl, xd_X4_sheet⟩ rfl ⟨Nat.le_of_ble_eq_true rfl, Nat.le_of_ble_eq_true rfl⟩ rfl (Nat.le_of_ble_eq_true rfl) dX4_digest_160 ⟨(by show _ ≤ 25; omega), (by show _ ≤ 150; omega)⟩) ?_
      refine xk_i2l hC dX4_digest_163 ?_
      obtain ⟨q13, h13, hf⟩ := xk_bi hf
      refine xk_backl (xk_callS hC 2 (c_X4_mixed h13) xm_310 xm_311 xm_1 xm_312 xd_X4_mixed rfl ⟨Nat.le_of_ble_eq_true rfl, Nat.le_of_ble_eq_true rfl⟩ rfl (Nat.le_of_ble_eq_true rfl) dX4_digest_164 ⟨(by show _ ≤ 25; omega), (by show _ ≤ 150; omega)⟩) ?_
      refine xk_lstore_n (i := 1) (lv' := [(1, .long (q13.1)), (0, va_rf (x0)), (3, .int (x3))]) hC dX4_digest_167 rfl (by decide) (by simp [xk_cat1]) ?_
      refine xk_iinc (v := x3 + (1 : Int32)) (lv' := [(3, .int (x3 + (1 : Int32))), (1, .long (q13.1)), (0, va_rf (x0))]) hC dX4_digest_168 2 rfl rfl (by decide) rfl ?_
      refine xk_goto (tgt := 152) hC dX4_digest_171 (by decide) ?_
      refine xk_locals [2, 1, 0] rfl ?_
      exact ih x0 (q13.1) (x3 + (1 : Int32)) (q13.2) _ _ (by omega) (by omega) hf
def f_X4_digest_105 : Nat → Option Nat → Int64 → Int32 → xWd → Option (Int64 × xWd)
  | 0, _, _, _, _ => none
  | n + 1, x0, x1, x3, w => (xk_gR w (x0) 0 4).bind (fun v1 => (xk_is w (v1) 4).bind (fun u3 => (f_Jx4a65c_size_8abf5 (v1)  w).bind (fun q2 => if (q2.1) ≤ (x3) then f_X4_digest_152 5 x0 x1 ((0 : Int32)) (q2.2) else if ((4 : Int32)) < ((0 : Int32)) then f_X4_digest_105 n x0 x1 (x3 + (1 : Int32)) (q2.2) else none)))
set_option maxHeartbeats 4000000 in
set_option maxRecDepth 100000 in
theorem t_X4_digest_105 {p : Program} {l : Launch} {e : Env} {s : State} {m : MethodId} {args : Array Value} {below : List Frame} {meth : Method} {c : Code} {E : xEv} (hC : xk_C p s m args meth c E prog_1_method_51_code "Clickbook" 5) (hr : meth.sig.returnType = (some .long)) {q : (Int64 × xWd)} : ∀ (n : Nat) (x0 : Option Nat) (x1 : Int64) (x3 : Int32) (w : xWd), f_X4_digest_105 n x0 x1 x3 w = some q → xk_X p l e { frames := 3, cells := 25, slots := 150, locals := 64 } s m args below meth c (MQ below (xk_Ql E q) args s 25 150 (xk_A E.2.2.1)) E 5 18 108 105 [(0, va_rf (x0)), (1, .long (x1)), (3, .int (x3))] [] w := by
  intro n
  induction n with
  | zero => intro x0 x1 x3 w hf; have hf : none = some q := hf; cases hf
  | succ n ih =>
    intro x0 x1 x3 w hf
    refine xk_iload_n hC dX4_digest_105 2 rfl rfl ?_
    refine xk_aload_n hC dX4_digest_106 0 rfl rfl ?_
    obtain ⟨v1, h1, hf⟩ := xk_bi hf
    refine xk_getR hC xi_0 xc_0 4 (by decide) xm_89 (Or.inl rfl) dX4_digest_107 h1 ?_
    obtain ⟨u3, h3, hf⟩ := xk_bi hf
    obtain ⟨q2, h2, hf⟩ := xk_bi hf
    refine xk_backi (xk_callV hC 0 xc_4 (c_Jx4a65c_size_8abf5 h2) h3 xm_130 xm_131 xm_132 xm_4 xm_133 ⟨rfl, xd_Jx4a65c_size_8abf5⟩ rfl ⟨Nat.le_of_ble_eq_true rfl, Nat.le_of_ble_eq_true rfl⟩ rfl (Nat.le_of_ble_eq_true rfl) dX4_digest_110 ⟨(Nat.le_of_ble_eq_true rfl), (Nat.le_of_ble_eq_true rfl)⟩) ?_
    refine xk_icmp_ge (tgt := 150) hC dX4_digest_113 (by decide) (fun c4 => ?_) (fun c4 => ?_)
    · replace hf := (if_pos c4).symm.trans hf
      refine xk_iconst (v := (0 : Int32)) hC dX4_digest_150 (by decide) ?_
      refine xk_istore_n (i := 3) (lv' := [(3, .int ((0 : Int32))), (0, va_rf (x0)), (1, .long (x1))]) hC dX4_digest_151 rfl (by decide) rfl ?_
      refine xk_locals [1, 2, 0] rfl ?_
      exact t_X4_digest_152 hC hr 5 x0 x1 ((0 : Int32)) (q2.2) _ _ (Nat.le_of_ble_eq_true rfl) (Nat.le_of_ble_eq_true rfl) hf
    · replace hf := (if_neg c4).symm.trans hf
      refine xk_iconst (v := (0 : Int32)) hC dX4_digest_116 (by decide) ?_
      refine xk_istore (i := 4) (lv' := [(4, .int ((0 : Int32))), (0, va_rf (x0)), (1, .long (x1)), (3, .int (x3))]) hC dX4_digest_117 (by decide) rfl ?_
      refine xk_iload hC dX4_digest_119 0 rfl ?_
      refine xk_iconst (v := (4 : Int32)) hC dX4_digest_121 (by decide) ?_
      refine xk_icmp_gt (tgt := 144) hC dX4_digest_122 (by decide) (fun c5 => ?_) (fun c5 => ?_)
      · replace hf := (if_pos c5).symm.trans hf
        refine xk_iinc (v := x3 + (1 : Int32)) (lv' := [(3, .int (x3 + (1 : Int32))), (4, .int ((0 : Int32))), (0, va_rf (x0)), (1, .long (x1))]) hC dX4_digest_144 3 rfl rfl (by decide) rfl ?_
        refine xk_goto (tgt := 105) hC dX4_digest_147 (by decide) ?_
        refine xk_locals [2, 3, 0] rfl ?_
        exact ih x0 x1 (x3 + (1 : Int32)) (q2.2) hf
      · replace hf := (if_neg c5).symm.trans hf
        refine xk_lload_n hC dX4_digest_125 2 rfl rfl ?_
        refine xk_aload_n hC dX4_digest_126 1 rfl rfl ?_
        refine xk_iload_n hC dX4_digest_127 3 rfl rfl ?_
        refine xk_iload hC dX4_digest_128 0 rfl ?_
        cases hf
def f_X4_digest_31 : Nat → Option Nat → Int64 → Int32 → xWd → Option (Int64 × xWd)
  | 0, _, _, _, _ => none
  | n + 1, x0, x1, x3, w => (xk_gR w (x0) 0 0).bind (fun v1 => (xk_is w (v1) 4).bind (fun u3 => (f_Jx4a65c_size_8abf5 (v1)  w).bind (fun q2 => if (q2.1) ≤ (x3) then (xk_gR q2.2 (x0) 0 3).bind (fun v5 => (xk_is q2.2 (v5) 4).bind (fun u7 => (f_Jx4a65c_size_8abf5 (v5)  q2.2).bind (fun q6 => if (q6.1) ≤ ((0 : Int32)) then f_X4_digest_105 24 x0 x1 ((0 : Int32)) (q6.2) else none))) else if ((6 : Int32)) < ((0 : Int32)) then f_X4_digest_31 n x0 x1 (x3 + (1 : Int32)) (q2.2) else none)))
set_option maxHeartbeats 4000000 in
set_option maxRecDepth 100000 in
theorem t_X4_digest_31 {p : Program} {l : Launch} {e : Env} {s : State} {m : MethodId} {args : Array Value} {below : List Frame} {meth : Method} {c : Code} {E : xEv} (hC : xk_C p s m args meth c E prog_1_method_51_code "Clickbook" 5) (hr : meth.sig.returnType = (some .long)) {q : (Int64 × xWd)} : ∀ (n : Nat) (x0 : Option Nat) (x1 : Int64) (x3 : Int32) (w : xWd), f_X4_digest_31 n x0 x1 x3 w = some q → xk_X p l e { frames := 3, cells := 25, slots := 150, locals := 64 } s m args below meth c (MQ below (xk_Ql E q) args s 25 150 (xk_A E.2.2.1)) E 5 18 108 31 [(0, va_rf (x0)), (1, .long (x1)), (3, .int (x3))] [] w := by
  intro n
  induction n with
  | zero => intro x0 x1 x3 w hf; have hf : none = some q := hf; cases hf
  | succ n ih =>
    intro x0 x1 x3 w hf
    refine xk_iload_n hC dX4_digest_31 2 rfl rfl ?_
    refine xk_aload_n hC dX4_digest_32 0 rfl rfl ?_
    obtain ⟨v1, h1, hf⟩ := xk_bi hf
    refine xk_getR hC xi_0 xc_0 0 (by decide) xm_85 (Or.inl rfl) dX4_digest_33 h1 ?_
    obtain ⟨u3, h3, hf⟩ := xk_bi hf
    obtain ⟨q2, h2, hf⟩ := xk_bi hf
    refine xk_backi (xk_callV hC 0 xc_4 (c_Jx4a65c_size_8abf5 h2) h3 xm_130 xm_131 xm_132 xm_4 xm_133 ⟨rfl, xd_Jx4a65c_size_8abf5⟩ rfl ⟨Nat.le_of_ble_eq_true rfl, Nat.le_of_ble_eq_true rfl⟩ rfl (Nat.le_of_ble_eq_true rfl) dX4_digest_36 ⟨(Nat.le_of_ble_eq_true rfl), (Nat.le_of_ble_eq_true rfl)⟩) ?_
    refine xk_icmp_ge (tgt := 77) hC dX4_digest_39 (by decide) (fun c4 => ?_) (fun c4 => ?_)
    · replace hf := (if_pos c4).symm.trans hf
      refine xk_iconst (v := (0 : Int32)) hC dX4_digest_77 (by decide) ?_
      refine xk_istore_n (i := 3) (lv' := [(3, .int ((0 : Int32))), (0, va_rf (x0)), (1, .long (x1))]) hC dX4_digest_78 rfl (by decide) rfl ?_
      refine xk_iload_n hC dX4_digest_79 0 rfl rfl ?_
      refine xk_aload_n hC dX4_digest_80 1 rfl rfl ?_
      obtain ⟨v5, h5, hf⟩ := xk_bi hf
      refine xk_getR hC xi_0 xc_0 3 (by decide) xm_88 (Or.inl rfl) dX4_digest_81 h5 ?_
      obtain ⟨u7, h7, hf⟩ := xk_bi hf
      obtain ⟨q6, h6, hf⟩ := xk_bi hf
      refine xk_backi (xk_callV hC 0 xc_4 (c_Jx4a65c_size_8abf5 h6) h7 xm_130 xm_131 xm_132 xm_4 xm_133 ⟨rfl, xd_Jx4a65c_size_8abf5⟩ rfl ⟨Nat.le_of_ble_eq_true rfl, Nat.le_of_ble_eq_true rfl⟩ rfl (Nat.le_of_ble_eq_true rfl) dX4_digest_84 ⟨(Nat.le_of_ble_eq_true rfl), (Nat.le_of_ble_eq_true rfl)⟩) ?_
      refine xk_icmp_ge (tgt := 103) hC dX4_digest_87 (by decide) (fun c8 => ?_) (fun c8 => ?_)
      · replace hf := (if_pos c8).symm.trans hf
        refine xk_iconst (v := (0 : Int32)) hC dX4_digest_103 (by decide) ?_
        refine xk_istore_n (i := 3) (lv' := [(3, .int ((0 : Int32))), (0, va_rf (x0)), (1, .long (x1))]) hC dX4_digest_104 rfl (by decide) rfl ?_
        refine xk_locals [1, 2, 0] rfl ?_
        exact t_X4_digest_105 hC hr 24 x0 x1 ((0 : Int32)) (q6.2) hf
      · replace hf := (if_neg c8).symm.trans hf
        refine xk_aload_n hC dX4_digest_90 1 rfl rfl ?_
        refine xk_lload_n hC dX4_digest_91 2 rfl rfl ?_
        refine xk_iload_n hC dX4_digest_92 0 rfl rfl ?_
        cases hf
    · replace hf := (if_neg c4).symm.trans hf
      refine xk_iconst (v := (0 : Int32)) hC dX4_digest_42 (by decide) ?_
      refine xk_istore (i := 4) (lv' := [(4, .int ((0 : Int32))), (0, va_rf (x0)), (1, .long (x1)), (3, .int (x3))]) hC dX4_digest_43 (by decide) rfl ?_
      refine xk_iload hC dX4_digest_45 0 rfl ?_
      refine xk_bipush (v := (6 : Int32)) hC dX4_digest_47 (by decide) ?_
      refine xk_icmp_gt (tgt := 71) hC dX4_digest_49 (by decide) (fun c9 => ?_) (fun c9 => ?_)
      · replace hf := (if_pos c9).symm.trans hf
        refine xk_iinc (v := x3 + (1 : Int32)) (lv' := [(3, .int (x3 + (1 : Int32))), (4, .int ((0 : Int32))), (0, va_rf (x0)), (1, .long (x1))]) hC dX4_digest_71 3 rfl rfl (by decide) rfl ?_
        refine xk_goto (tgt := 31) hC dX4_digest_74 (by decide) ?_
        refine xk_locals [2, 3, 0] rfl ?_
        exact ih x0 x1 (x3 + (1 : Int32)) (q2.2) hf
      · replace hf := (if_neg c9).symm.trans hf
        refine xk_lload_n hC dX4_digest_52 2 rfl rfl ?_
        refine xk_aload_n hC dX4_digest_53 1 rfl rfl ?_
        refine xk_iload_n hC dX4_digest_54 3 rfl rfl ?_
        refine xk_iload hC dX4_digest_55 0 rfl ?_
        cases hf
def f_X4_digest_6 : Nat → Option Nat → Int64 → Int32 → xWd → Option (Int64 × xWd)
  | 0, _, _, _, _ => none
  | n + 1, x0, x1, x3, w => if ((15 : Int32)) < (x3) then f_X4_digest_31 24 x0 x1 ((0 : Int32)) w else (xk_is w (x0) 0).bind (fun u3 => (f_X4_many (x0) (x3) w).bind (fun q2 => (f_X4_mixed (x1) ((q2.1).toInt64) q2.2).bind (fun q4 => f_X4_digest_6 n x0 (q4.1) (x3 + (1 : Int32)) (q4.2))))
set_option maxHeartbeats 4000000 in
set_option maxRecDepth 100000 in
theorem t_X4_digest_6 {p : Program} {l : Launch} {e : Env} {s : State} {m : MethodId} {args : Array Value} {below : List Frame} {meth : Method} {c : Code} {E : xEv} (hC : xk_C p s m args meth c E prog_1_method_51_code "Clickbook" 5) (hr : meth.sig.returnType = (some .long)) {q : (Int64 × xWd)} : ∀ (n : Nat) (x0 : Option Nat) (x1 : Int64) (x3 : Int32) (w : xWd) (kc ks : Nat), kc + n * 1 ≤ 17 → ks + n * 6 ≤ 102 → f_X4_digest_6 n x0 x1 x3 w = some q → xk_X p l e { frames := 3, cells := 25, slots := 150, locals := 64 } s m args below meth c (MQ below (xk_Ql E q) args s 25 150 (xk_A E.2.2.1)) E 5 kc ks 6 [(0, va_rf (x0)), (1, .long (x1)), (3, .int (x3))] [] w := by
  intro n
  induction n with
  | zero => intro x0 x1 x3 w kc ks hkc hks hf; have hf : none = some q := hf; cases hf
  | succ n ih =>
    intro x0 x1 x3 w kc ks hkc hks hf
    rw [Nat.succ_mul] at hkc hks
    refine xk_iload_n hC dX4_digest_6 2 rfl rfl ?_
    refine xk_bipush (v := (15 : Int32)) hC dX4_digest_7 (by decide) ?_
    refine xk_icmp_gt (tgt := 29) hC dX4_digest_9 (by decide) (fun c1 => ?_) (fun c1 => ?_)
    · replace hf := (if_pos c1).symm.trans hf
      refine xk_iconst (v := (0 : Int32)) hC dX4_digest_29 (by decide) ?_
      refine xk_istore_n (i := 3) (lv' := [(3, .int ((0 : Int32))), (0, va_rf (x0)), (1, .long (x1))]) hC dX4_digest_30 rfl (by decide) rfl ?_
      refine xk_locals [1, 2, 0] rfl ?_
      refine xk_widen (k := 18) (n := 108) (by omega) (by omega) ?_
      exact t_X4_digest_31 hC hr 24 x0 x1 ((0 : Int32)) w hf
    · replace hf := (if_neg c1).symm.trans hf
      refine xk_lload_n hC dX4_digest_12 1 rfl rfl ?_
      refine xk_aload_n hC dX4_digest_13 0 rfl rfl ?_
      refine xk_iload_n hC dX4_digest_14 2 rfl rfl ?_
      obtain ⟨u3, h3, hf⟩ := xk_bi hf
      obtain ⟨q2, h2, hf⟩ := xk_bi hf
      refine xk_backi (xk_callV hC 1 xc_0 (c_X4_many h2) h3 xm_166 xm_167 xm_168 xm_1 xm_169 ⟨rfl, xd_X4_many⟩ rfl ⟨Nat.le_of_ble_eq_true rfl, Nat.le_of_ble_eq_true rfl⟩ rfl (Nat.le_of_ble_eq_true rfl) dX4_digest_15 ⟨(by show _ ≤ 25; omega), (by show _ ≤ 150; omega)⟩) ?_
      refine xk_i2l hC dX4_digest_18 ?_
      obtain ⟨q4, h4, hf⟩ := xk_bi hf
      refine xk_backl (xk_callS hC 2 (c_X4_mixed h4) xm_310 xm_311 xm_1 xm_312 xd_X4_mixed rfl ⟨Nat.le_of_ble_eq_true rfl, Nat.le_of_ble_eq_true rfl⟩ rfl (Nat.le_of_ble_eq_true rfl) dX4_digest_19 ⟨(by show _ ≤ 25; omega), (by show _ ≤ 150; omega)⟩) ?_
      refine xk_lstore_n (i := 1) (lv' := [(1, .long (q4.1)), (0, va_rf (x0)), (3, .int (x3))]) hC dX4_digest_22 rfl (by decide) (by simp [xk_cat1]) ?_
      refine xk_iinc (v := x3 + (1 : Int32)) (lv' := [(3, .int (x3 + (1 : Int32))), (1, .long (q4.1)), (0, va_rf (x0))]) hC dX4_digest_23 2 rfl rfl (by decide) rfl ?_
      refine xk_goto (tgt := 6) hC dX4_digest_26 (by decide) ?_
      refine xk_locals [2, 1, 0] rfl ?_
      exact ih x0 (q4.1) (x3 + (1 : Int32)) (q4.2) _ _ (by omega) (by omega) hf
def f_X4_digest (x0 : Option Nat) (w : xWd) : Option (Int64 × xWd) := f_X4_digest_6 17 x0 ((58231 : Int64)) ((0 : Int32)) w
set_option maxHeartbeats 4000000 in
set_option maxRecDepth 100000 in
theorem t_X4_digest_0 {p : Program} {l : Launch} {e : Env} {s : State} {m : MethodId} {args : Array Value} {below : List Frame} {meth : Method} {c : Code} {E : xEv} (hC : xk_C p s m args meth c E prog_1_method_51_code "Clickbook" 5) (hr : meth.sig.returnType = (some .long)) {q : (Int64 × xWd)} (x0 : Option Nat) (w : xWd) (hf : f_X4_digest x0 w = some q) : xk_X p l e { frames := 3, cells := 25, slots := 150, locals := 64 } s m args below meth c (MQ below (xk_Ql E q) args s 25 150 (xk_A E.2.2.1)) E 5 0 0 0 [(0, va_rf (x0))] [] w := by
  refine xk_ldc2 (v := (58231 : Int64)) hC dX4_digest_0 xm_165 ?_
  refine xk_lstore_n (i := 1) (lv' := [(1, .long ((58231 : Int64))), (0, va_rf (x0))]) hC dX4_digest_3 rfl (by decide) (by simp [xk_cat1]) ?_
  refine xk_iconst (v := (0 : Int32)) hC dX4_digest_4 (by decide) ?_
  refine xk_istore_n (i := 3) (lv' := [(3, .int ((0 : Int32))), (1, .long ((58231 : Int64))), (0, va_rf (x0))]) hC dX4_digest_5 rfl (by decide) rfl ?_
  refine xk_locals [2, 1, 0] rfl ?_
  exact t_X4_digest_6 hC hr 17 x0 ((58231 : Int64)) ((0 : Int32)) w _ _ (Nat.le_of_ble_eq_true rfl) (Nat.le_of_ble_eq_true rfl) hf
theorem xd_X4_digest : xy_X4_digest.cls ≠ "java/lang/invoke/MethodHandle" ∧ xy_X4_digest.cls ≠ "java/lang/invoke/VarHandle" ∧ (parseMethodDescriptor xy_X4_digest.desc).map (fun d => d.parameters.length) = some 0 := ⟨by decide +kernel, by decide +kernel, by decide +kernel⟩
theorem c_X4_digest {l : Launch} {E : xEv} {x0 : Option Nat} {w : xWd} {q : (Int64 × xWd)} (hf : f_X4_digest x0 w = some q) : xk_M l xy_X4_digest prog_1_method_51_code 5 (some .long) 3 64 25 150 E [va_rf (x0)] w (xk_Ql E q) := by
  refine xk_enter (by decide +kernel) (by simp [lg_sl, xk_cat1, xk_cati, xk_catl, xk_catd]) ?_
  intro p e s m args below meth c hC hr hin ha
  rw [show lv_args 0 [va_rf (x0)] = [(0, va_rf (x0))] by simp [lv_args, xk_cat1, xk_cati, xk_catl, xk_catd]]
  exact t_X4_digest_0 hC hr x0 w hf
