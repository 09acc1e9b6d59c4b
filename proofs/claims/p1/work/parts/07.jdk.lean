def f_Jxa1e45_init_da8c8 (x0 : Nat) (w : xWd) : Option xWd := some w
set_option maxHeartbeats 4000000 in
set_option maxRecDepth 100000 in
theorem t_Jxa1e45_init_da8c8_0 {p : Program} {l : Launch} {e : Env} {s : State} {m : MethodId} {args : Array Value} {below : List Frame} {meth : Method} {c : Code} {E : xEv} (hC : xk_C p s m args meth c E prog_29_method_1_code "java/util/AbstractCollection" 1) (hr : meth.sig.returnType = none) (hin : meth.name = "<init>") {q : xWd} (x0 : Nat) (w : xWd) (hf : f_Jxa1e45_init_da8c8 x0 w = some q) : xk_X p l e { frames := 1, cells := 0, slots := 0, locals := 20 } s m args below meth c (MQ below (xk_Qv E q) args s 0 0 (xk_A E.2.2.1)) E 1 0 0 0 [(0, va_rf (some x0))] [] w := by
  refine xk_aload_n hC dJxa1e45_init_da8c8_0 0 rfl rfl ?_
  refine xk_objI hC xm_48 xm_35 xm_36 dJxa1e45_init_da8c8_1 (Nat.le_of_ble_eq_true rfl) (Nat.le_of_ble_eq_true rfl) ?_
  cases hf
  refine xk_widen (k := 0) (n := 0) (Nat.le_of_ble_eq_true rfl) (Nat.le_of_ble_eq_true rfl) ?_
  exact xk_vret hC hr dJxa1e45_init_da8c8_4
theorem xd_Jxa1e45_init_da8c8 : xy_Jxa1e45_init_da8c8.cls ≠ "java/lang/invoke/MethodHandle" ∧ xy_Jxa1e45_init_da8c8.cls ≠ "java/lang/invoke/VarHandle" ∧ (parseMethodDescriptor xy_Jxa1e45_init_da8c8.desc).map (fun d => d.parameters.length) = some 0 := ⟨by decide +kernel, by decide +kernel, by decide +kernel⟩
theorem c_Jxa1e45_init_da8c8 {l : Launch} {E : xEv} {x0 : Nat} {w : xWd} {q : xWd} (hf : f_Jxa1e45_init_da8c8 x0 w = some q) : xk_M l xy_Jxa1e45_init_da8c8 prog_29_method_1_code 1 none 1 20 0 0 E [va_rf (some x0)] w (xk_Qv E q) := by
  refine xk_enter (by decide +kernel) (by simp [lg_sl, xk_cat1, xk_cati, xk_catl, xk_catd]) ?_
  intro p e s m args below meth c hC hr hin ha
  rw [show lv_args 0 [va_rf (some x0)] = [(0, va_rf (some x0))] by simp [lv_args, xk_cat1, xk_cati, xk_catl, xk_catd]]
  exact t_Jxa1e45_init_da8c8_0 hC hr (hin rfl) x0 w hf
def f_Jxc12de_init_da8c8 (x0 : Nat) (w : xWd) : Option xWd := (f_Jxa1e45_init_da8c8 (x0)  w).bind (fun q1 => (xk_pV q1 (some x0) 4 0 (.int ((0 : Int32)))).bind (fun w2 => some w2))
set_option maxHeartbeats 4000000 in
set_option maxRecDepth 100000 in
theorem t_Jxc12de_init_da8c8_0 {p : Program} {l : Launch} {e : Env} {s : State} {m : MethodId} {args : Array Value} {below : List Frame} {meth : Method} {c : Code} {E : xEv} (hC : xk_C p s m args meth c E prog_30_method_1_code "java/util/AbstractList" 1) (hr : meth.sig.returnType = none) (hin : meth.name = "<init>") {q : xWd} (x0 : Nat) (w : xWd) (hf : f_Jxc12de_init_da8c8 x0 w = some q) : xk_X p l e { frames := 2, cells := 0, slots := 0, locals := 40 } s m args below meth c (MQ below (xk_Qv E q) args s 0 0 (xk_A E.2.2.1)) E 1 0 0 0 [(0, va_rf (some x0))] [] w := by
  refine xk_aload_n hC dJxc12de_init_da8c8_0 0 rfl rfl ?_
  obtain ⟨q1, h1, hf⟩ := xk_bi hf
  refine xk_backv (xk_callI hC 0 (c_Jxa1e45_init_da8c8 h1) xm_45 xm_46 xm_2 xm_47 rfl xd_Jxa1e45_init_da8c8 rfl ⟨Nat.le_of_ble_eq_true rfl, Nat.le_of_ble_eq_true rfl⟩ rfl (Nat.le_of_ble_eq_true rfl) dJxc12de_init_da8c8_1 ⟨(Nat.le_of_ble_eq_true rfl), (Nat.le_of_ble_eq_true rfl)⟩) ?_
  refine xk_aload_n hC dJxc12de_init_da8c8_4 0 rfl rfl ?_
  refine xk_iconst (v := (0 : Int32)) hC dJxc12de_init_da8c8_5 (by decide) ?_
  obtain ⟨w2, h2, hf⟩ := xk_bi hf
  refine xk_put hC xi_4 xc_4 xo_4 xn_4 0 (by decide) xm_55 (Or.inl rfl) rfl rfl rfl dJxc12de_init_da8c8_6 h2 ?_
  cases hf
  refine xk_widen (k := 0) (n := 0) (Nat.le_of_ble_eq_true rfl) (Nat.le_of_ble_eq_true rfl) ?_
  exact xk_vret hC hr dJxc12de_init_da8c8_9
theorem xd_Jxc12de_init_da8c8 : xy_Jxc12de_init_da8c8.cls ≠ "java/lang/invoke/MethodHandle" ∧ xy_Jxc12de_init_da8c8.cls ≠ "java/lang/invoke/VarHandle" ∧ (parseMethodDescriptor xy_Jxc12de_init_da8c8.desc).map (fun d => d.parameters.length) = some 0 := ⟨by decide +kernel, by decide +kernel, by decide +kernel⟩
theorem c_Jxc12de_init_da8c8 {l : Launch} {E : xEv} {x0 : Nat} {w : xWd} {q : xWd} (hf : f_Jxc12de_init_da8c8 x0 w = some q) : xk_M l xy_Jxc12de_init_da8c8 prog_30_method_1_code 1 none 2 40 0 0 E [va_rf (some x0)] w (xk_Qv E q) := by
  refine xk_enter (by decide +kernel) (by simp [lg_sl, xk_cat1, xk_cati, xk_catl, xk_catd]) ?_
  intro p e s m args below meth c hC hr hin ha
  rw [show lv_args 0 [va_rf (some x0)] = [(0, va_rf (some x0))] by simp [lv_args, xk_cat1, xk_cati, xk_catl, xk_catd]]
  exact t_Jxc12de_init_da8c8_0 hC hr (hin rfl) x0 w hf
def f_Jx4a65c_init_da8c8 (x0 : Nat) (w : xWd) : Option xWd := (f_Jxc12de_init_da8c8 (x0)  w).bind (fun q1 => (xk_pV q1 (some x0) 4 1 (va_rf (some q1.2.2.1))).bind (fun w2 => some w2))
set_option maxHeartbeats 4000000 in
set_option maxRecDepth 100000 in
theorem t_Jx4a65c_init_da8c8_0 {p : Program} {l : Launch} {e : Env} {s : State} {m : MethodId} {args : Array Value} {below : List Frame} {meth : Method} {c : Code} {E : xEv} (hC : xk_C p s m args meth c E prog_31_method_2_code "java/util/ArrayList" 1) (hr : meth.sig.returnType = none) (hin : meth.name = "<init>") {q : xWd} (x0 : Nat) (w : xWd) (hf : f_Jx4a65c_init_da8c8 x0 w = some q) : xk_X p l e { frames := 3, cells := 0, slots := 0, locals := 60 } s m args below meth c (MQ below (xk_Qv E q) args s 0 0 (xk_A E.2.2.1)) E 1 0 0 0 [(0, va_rf (some x0))] [] w := by
  refine xk_aload_n hC dJx4a65c_init_da8c8_0 0 rfl rfl ?_
  obtain ⟨q1, h1, hf⟩ := xk_bi hf
  refine xk_backv (xk_callI hC 0 (c_Jxc12de_init_da8c8 h1) xm_42 xm_43 xm_3 xm_44 rfl xd_Jxc12de_init_da8c8 rfl ⟨Nat.le_of_ble_eq_true rfl, Nat.le_of_ble_eq_true rfl⟩ rfl (Nat.le_of_ble_eq_true rfl) dJx4a65c_init_da8c8_1 ⟨(Nat.le_of_ble_eq_true rfl), (Nat.le_of_ble_eq_true rfl)⟩) ?_
  refine xk_aload_n hC dJx4a65c_init_da8c8_4 0 rfl rfl ?_
  refine xk_gets hC xm_49 dJx4a65c_init_da8c8_5 ?_
  obtain ⟨w2, h2, hf⟩ := xk_bi hf
  refine xk_put hC xi_4 xc_4 xo_4 xn_4 1 (by decide) xm_51 (Or.inl rfl) rfl (xk_nra _ _) (xk_fra _ _) dJx4a65c_init_da8c8_8 h2 ?_
  cases hf
  refine xk_widen (k := 0) (n := 0) (Nat.le_of_ble_eq_true rfl) (Nat.le_of_ble_eq_true rfl) ?_
  exact xk_vret hC hr dJx4a65c_init_da8c8_11
theorem xd_Jx4a65c_init_da8c8 : xy_Jx4a65c_init_da8c8.cls ≠ "java/lang/invoke/MethodHandle" ∧ xy_Jx4a65c_init_da8c8.cls ≠ "java/lang/invoke/VarHandle" ∧ (parseMethodDescriptor xy_Jx4a65c_init_da8c8.desc).map (fun d => d.parameters.length) = some 0 := ⟨by decide +kernel, by decide +kernel, by decide +kernel⟩
theorem c_Jx4a65c_init_da8c8 {l : Launch} {E : xEv} {x0 : Nat} {w : xWd} {q : xWd} (hf : f_Jx4a65c_init_da8c8 x0 w = some q) : xk_M l xy_Jx4a65c_init_da8c8 prog_31_method_2_code 1 none 3 60 0 0 E [va_rf (some x0)] w (xk_Qv E q) := by
  refine xk_enter (by decide +kernel) (by simp [lg_sl, xk_cat1, xk_cati, xk_catl, xk_catd]) ?_
  intro p e s m args below meth c hC hr hin ha
  rw [show lv_args 0 [va_rf (some x0)] = [(0, va_rf (some x0))] by simp [lv_args, xk_cat1, xk_cati, xk_catl, xk_catd]]
  exact t_Jx4a65c_init_da8c8_0 hC hr (hin rfl) x0 w hf
def f_Jx4a65c_size_8abf5 (x0 : Option Nat) (w : xWd) : Option (Int32 × xWd) := (xk_gI w (x0) 4 2).bind (fun v1 => some (v1, w))
set_option maxHeartbeats 4000000 in
set_option maxRecDepth 100000 in
theorem t_Jx4a65c_size_8abf5_0 {p : Program} {l : Launch} {e : Env} {s : State} {m : MethodId} {args : Array Value} {below : List Frame} {meth : Method} {c : Code} {E : xEv} (hC : xk_C p s m args meth c E prog_31_method_8_code "java/util/ArrayList" 1) (hr : meth.sig.returnType = (some .int)) {q : (Int32 × xWd)} (x0 : Option Nat) (w : xWd) (hf : f_Jx4a65c_size_8abf5 x0 w = some q) : xk_X p l e { frames := 0, cells := 0, slots := 0, locals := 0 } s m args below meth c (MQ below (xk_Qi E q) args s 0 0 (xk_A E.2.2.1)) E 1 0 0 0 [(0, va_rf (x0))] [] w := by
  refine xk_aload_n hC dJx4a65c_size_8abf5_0 0 rfl rfl ?_
  obtain ⟨v1, h1, hf⟩ := xk_bi hf
  refine xk_getI hC xi_4 xc_4 2 (by decide) xm_54 (Or.inl rfl) dJx4a65c_size_8abf5_1 h1 ?_
  cases hf
  refine xk_widen (k := 0) (n := 0) (Nat.le_of_ble_eq_true rfl) (Nat.le_of_ble_eq_true rfl) ?_
  exact xk_iret hC hr rfl dJx4a65c_size_8abf5_4
theorem xd_Jx4a65c_size_8abf5 : xy_Jx4a65c_size_8abf5.cls ≠ "java/lang/invoke/MethodHandle" ∧ xy_Jx4a65c_size_8abf5.cls ≠ "java/lang/invoke/VarHandle" ∧ (parseMethodDescriptor xy_Jx4a65c_size_8abf5.desc).map (fun d => d.parameters.length) = some 0 := ⟨by decide +kernel, by decide +kernel, by decide +kernel⟩
theorem c_Jx4a65c_size_8abf5 {l : Launch} {E : xEv} {x0 : Option Nat} {w : xWd} {q : (Int32 × xWd)} (hf : f_Jx4a65c_size_8abf5 x0 w = some q) : xk_M l xy_Jx4a65c_size_8abf5 prog_31_method_8_code 1 (some .int) 0 0 0 0 E [va_rf (x0)] w (xk_Qi E q) := by
  refine xk_enter (by decide +kernel) (by simp [lg_sl, xk_cat1, xk_cati, xk_catl, xk_catd]) ?_
  intro p e s m args below meth c hC hr hin ha
  rw [show lv_args 0 [va_rf (x0)] = [(0, va_rf (x0))] by simp [lv_args, xk_cat1, xk_cati, xk_catl, xk_catd]]
  exact t_Jx4a65c_size_8abf5_0 hC hr x0 w hf
def f_Jx4a65c_grow_92f84_20 (x1 : Int32) (x2 : Int32) (w : xWd) : Option (Option Nat × xWd) := none
set_option maxHeartbeats 4000000 in
set_option maxRecDepth 100000 in
theorem t_Jx4a65c_grow_92f84_20 {p : Program} {l : Launch} {e : Env} {s : State} {m : MethodId} {args : Array Value} {below : List Frame} {meth : Method} {c : Code} {E : xEv} (hC : xk_C p s m args meth c E prog_31_method_6_code "java/util/ArrayList" 4) (hr : meth.sig.returnType = (some (.array (.object "java/lang/Object")))) {q : (Option Nat × xWd)} (x1 : Int32) (x2 : Int32) (w : xWd) (hf : f_Jx4a65c_grow_92f84_20 x1 x2 w = some q) : xk_X p l e { frames := 1, cells := 1, slots := 64, locals := 21 } s m args below meth c (MQ below (xk_Qq E q) args s 1 64 (xk_A E.2.2.1)) E 4 0 0 20 [(1, .int (x1)), (2, .int (x2))] [] w := by
  refine xk_iload_n hC dJx4a65c_grow_92f84_20 1 rfl rfl ?_
  refine xk_iload_n hC dJx4a65c_grow_92f84_21 0 rfl rfl ?_
  refine xk_iload_n hC dJx4a65c_grow_92f84_22 1 rfl rfl ?_
  refine xk_isub hC dJx4a65c_grow_92f84_23 ?_
  refine xk_iload_n hC dJx4a65c_grow_92f84_24 1 rfl rfl ?_
  refine xk_iconst (v := (1 : Int32)) hC dJx4a65c_grow_92f84_25 (by decide) ?_
  refine xk_ishr hC dJx4a65c_grow_92f84_26 ?_
  cases hf
def f_Jx4a65c_grow_92f84 (x0 : Option Nat) (x1 : Int32) (w : xWd) : Option (Option Nat × xWd) := (xk_gR w (x0) 4 1).bind (fun v1 => (xk_len w (v1)).bind (fun v2 => if ((0 : Int32)) < (v2) then f_Jx4a65c_grow_92f84_20 x1 v2 w else (xk_gR w (x0) 4 1).bind (fun v4 => if (v4) = (some w.2.2.1) then (xk_nA w 2 xk_dR (if ((10 : Int32)) < (x1) then (x1) else ((10 : Int32))) 64).bind (fun w6 => (xk_pV w6 (x0) 4 1 (va_rf (some w.2.1))).bind (fun w7 => some (some w.2.1, w7))) else f_Jx4a65c_grow_92f84_20 x1 v2 w)))
set_option maxHeartbeats 4000000 in
set_option maxRecDepth 100000 in
theorem t_Jx4a65c_grow_92f84_0 {p : Program} {l : Launch} {e : Env} {s : State} {m : MethodId} {args : Array Value} {below : List Frame} {meth : Method} {c : Code} {E : xEv} (hC : xk_C p s m args meth c E prog_31_method_6_code "java/util/ArrayList" 4) (hr : meth.sig.returnType = (some (.array (.object "java/lang/Object")))) {q : (Option Nat × xWd)} (x0 : Option Nat) (x1 : Int32) (w : xWd) (hf : f_Jx4a65c_grow_92f84 x0 x1 w = some q) : xk_X p l e { frames := 1, cells := 1, slots := 64, locals := 21 } s m args below meth c (MQ below (xk_Qq E q) args s 1 64 (xk_A E.2.2.1)) E 4 0 0 0 [(0, va_rf (x0)), (1, .int (x1))] [] w := by
  refine xk_aload_n hC dJx4a65c_grow_92f84_0 0 rfl rfl ?_
  obtain ⟨v1, h1, hf⟩ := xk_bi hf
  refine xk_getR hC xi_4 xc_4 1 (by decide) xm_51 (Or.inl rfl) dJx4a65c_grow_92f84_1 h1 ?_
  obtain ⟨v2, h2, hf⟩ := xk_bi hf
  refine xk_alen hC dJx4a65c_grow_92f84_4 h2 ?_
  refine xk_istore_n (i := 2) (lv' := [(2, .int (v2)), (0, va_rf (x0)), (1, .int (x1))]) hC dJx4a65c_grow_92f84_5 rfl (by decide) rfl ?_
  refine xk_iload_n hC dJx4a65c_grow_92f84_6 0 rfl rfl ?_
  refine xk_if_gt (tgt := 20) hC dJx4a65c_grow_92f84_7 (by decide) (fun c3 => ?_) (fun c3 => ?_)
  · replace hf := (if_pos c3).symm.trans hf
    refine xk_locals [2, 0] rfl ?_
    exact t_Jx4a65c_grow_92f84_20 hC hr x1 v2 w hf
  · replace hf := (if_neg c3).symm.trans hf
    refine xk_aload_n hC dJx4a65c_grow_92f84_10 1 rfl rfl ?_
    obtain ⟨v4, h4, hf⟩ := xk_bi hf
    refine xk_getR hC xi_4 xc_4 1 (by decide) xm_51 (Or.inl rfl) dJx4a65c_grow_92f84_11 h4 ?_
    refine xk_gets hC xm_49 dJx4a65c_grow_92f84_14 ?_
    refine xk_acmp_eq (tgt := 45) hC dJx4a65c_grow_92f84_17 (by decide) (fun c5 => ?_) (fun c5 => ?_)
    · replace hf := (if_pos c5).symm.trans hf
      refine xk_aload_n hC dJx4a65c_grow_92f84_45 1 rfl rfl ?_
      refine xk_bipush (v := (10 : Int32)) hC dJx4a65c_grow_92f84_46 (by decide) ?_
      refine xk_iload_n hC dJx4a65c_grow_92f84_48 2 rfl rfl ?_
      refine xk_mmax hC xm_446 xm_406 xm_14 xm_407 (Nat.le_of_ble_eq_true rfl) (by simp [xk_cat1, xk_cati, xk_catl, xk_catd]) (Nat.le_of_ble_eq_true rfl) (Nat.le_of_ble_eq_true rfl) dJx4a65c_grow_92f84_49 ?_
      obtain ⟨w6, h6, hf⟩ := xk_bi hf
      refine xk_anew (cap := 64) hC xm_447 (xk_over hC) rfl (Nat.le_of_ble_eq_true rfl) (Nat.le_of_ble_eq_true rfl) (Nat.le_of_ble_eq_true rfl) dJx4a65c_grow_92f84_52 h6 ?_
      refine xk_dup_x1 hC dJx4a65c_grow_92f84_55 (xk_cat1 _) (xk_cat1 _) ?_
      obtain ⟨w7, h7, hf⟩ := xk_bi hf
      refine xk_put hC xi_4 xc_4 xo_4 xn_4 1 (by decide) xm_51 (Or.inl rfl) rfl (xk_nra _ _) (xk_fra _ _) dJx4a65c_grow_92f84_56 h7 ?_
      cases hf
      refine xk_widen (k := 1) (n := 64) (Nat.le_of_ble_eq_true rfl) (Nat.le_of_ble_eq_true rfl) ?_
      exact xk_aret hC hr (Or.inr ⟨_, rfl⟩) dJx4a65c_grow_92f84_59
    · replace hf := (if_neg c5).symm.trans hf
      refine xk_locals [2, 0] rfl ?_
      exact t_Jx4a65c_grow_92f84_20 hC hr x1 v2 w hf
theorem xd_Jx4a65c_grow_92f84 : xy_Jx4a65c_grow_92f84.cls ≠ "java/lang/invoke/MethodHandle" ∧ xy_Jx4a65c_grow_92f84.cls ≠ "java/lang/invoke/VarHandle" ∧ (parseMethodDescriptor xy_Jx4a65c_grow_92f84.desc).map (fun d => d.parameters.length) = some 1 := ⟨by decide +kernel, by decide +kernel, by decide +kernel⟩
theorem c_Jx4a65c_grow_92f84 {l : Launch} {E : xEv} {x0 : Option Nat} {x1 : Int32} {w : xWd} {q : (Option Nat × xWd)} (hf : f_Jx4a65c_grow_92f84 x0 x1 w = some q) : xk_M l xy_Jx4a65c_grow_92f84 prog_31_method_6_code 4 (some (.array (.object "java/lang/Object"))) 1 21 1 64 E [va_rf (x0), .int (x1)] w (xk_Qq E q) := by
  refine xk_enter (by decide +kernel) (by simp [lg_sl, xk_cat1, xk_cati, xk_catl, xk_catd]) ?_
  intro p e s m args below meth c hC hr hin ha
  rw [show lv_args 0 [va_rf (x0), .int (x1)] = [(0, va_rf (x0)), (1, .int (x1))] by simp [lv_args, xk_cat1, xk_cati, xk_catl, xk_catd]]
  exact t_Jx4a65c_grow_92f84_0 hC hr x0 x1 w hf
def f_Jx4a65c_grow_d5877 (x0 : Option Nat) (w : xWd) : Option (Option Nat × xWd) := (xk_gI w (x0) 4 2).bind (fun v1 => (xk_is w (x0) 4).bind (fun u3 => (f_Jx4a65c_grow_92f84 (x0) ((v1) + ((1 : Int32))) w).bind (fun q2 => some (q2.1, q2.2))))
set_option maxHeartbeats 4000000 in
set_option maxRecDepth 100000 in
theorem t_Jx4a65c_grow_d5877_0 {p : Program} {l : Launch} {e : Env} {s : State} {m : MethodId} {args : Array Value} {below : List Frame} {meth : Method} {c : Code} {E : xEv} (hC : xk_C p s m args meth c E prog_31_method_7_code "java/util/ArrayList" 1) (hr : meth.sig.returnType = (some (.array (.object "java/lang/Object")))) {q : (Option Nat × xWd)} (x0 : Option Nat) (w : xWd) (hf : f_Jx4a65c_grow_d5877 x0 w = some q) : xk_X p l e { frames := 2, cells := 1, slots := 64, locals := 44 } s m args below meth c (MQ below (xk_Qq E q) args s 1 64 (xk_A E.2.2.1)) E 1 0 0 0 [(0, va_rf (x0))] [] w := by
  refine xk_aload_n hC dJx4a65c_grow_d5877_0 0 rfl rfl ?_
  refine xk_aload_n hC dJx4a65c_grow_d5877_1 0 rfl rfl ?_
  obtain ⟨v1, h1, hf⟩ := xk_bi hf
  refine xk_getI hC xi_4 xc_4 2 (by decide) xm_54 (Or.inl rfl) dJx4a65c_grow_d5877_2 h1 ?_
  refine xk_iconst (v := (1 : Int32)) hC dJx4a65c_grow_d5877_5 (by decide) ?_
  refine xk_iadd hC dJx4a65c_grow_d5877_6 ?_
  obtain ⟨u3, h3, hf⟩ := xk_bi hf
  obtain ⟨q2, h2, hf⟩ := xk_bi hf
  refine xk_backq (xk_callV hC 1 xc_4 (c_Jx4a65c_grow_92f84 h2) h3 xm_398 xm_400 xm_p22 xm_4 xm_401 ⟨rfl, xd_Jx4a65c_grow_92f84⟩ rfl ⟨Nat.le_of_ble_eq_true rfl, Nat.le_of_ble_eq_true rfl⟩ rfl (Nat.le_of_ble_eq_true rfl) dJx4a65c_grow_d5877_7 ⟨(Nat.le_of_ble_eq_true rfl), (Nat.le_of_ble_eq_true rfl)⟩) ?_
  cases hf
  refine xk_widen (k := 1) (n := 64) (Nat.le_of_ble_eq_true rfl) (Nat.le_of_ble_eq_true rfl) ?_
  exact xk_aret hC hr (Or.inr ⟨_, rfl⟩) dJx4a65c_grow_d5877_10
theorem xd_Jx4a65c_grow_d5877 : xy_Jx4a65c_grow_d5877.cls ≠ "java/lang/invoke/MethodHandle" ∧ xy_Jx4a65c_grow_d5877.cls ≠ "java/lang/invoke/VarHandle" ∧ (parseMethodDescriptor xy_Jx4a65c_grow_d5877.desc).map (fun d => d.parameters.length) = some 0 := ⟨by decide +kernel, by decide +kernel, by decide +kernel⟩
theorem c_Jx4a65c_grow_d5877 {l : Launch} {E : xEv} {x0 : Option Nat} {w : xWd} {q : (Option Nat × xWd)} (hf : f_Jx4a65c_grow_d5877 x0 w = some q) : xk_M l xy_Jx4a65c_grow_d5877 prog_31_method_7_code 1 (some (.array (.object "java/lang/Object"))) 2 44 1 64 E [va_rf (x0)] w (xk_Qq E q) := by
  refine xk_enter (by decide +kernel) (by simp [lg_sl, xk_cat1, xk_cati, xk_catl, xk_catd]) ?_
  intro p e s m args below meth c hC hr hin ha
  rw [show lv_args 0 [va_rf (x0)] = [(0, va_rf (x0))] by simp [lv_args, xk_cat1, xk_cati, xk_catl, xk_catd]]
  exact t_Jx4a65c_grow_d5877_0 hC hr x0 w hf
def f_Jx4a65c_add_72be8_11 (x0 : Option Nat) (x1 : Option Nat) (x2 : Option Nat) (x3 : Int32) (w : xWd) : Option xWd := (xk_any w (x1)).bind (fun u2 => (xk_sR 2 w (x2) (x3) (x1)).bind (fun w1 => (xk_pV w1 (x0) 4 2 (.int ((x3) + ((1 : Int32))))).bind (fun w3 => some w3)))
set_option maxHeartbeats 4000000 in
set_option maxRecDepth 100000 in
theorem t_Jx4a65c_add_72be8_11 {p : Program} {l : Launch} {e : Env} {s : State} {m : MethodId} {args : Array Value} {below : List Frame} {meth : Method} {c : Code} {E : xEv} (hC : xk_C p s m args meth c E prog_31_method_24_code "java/util/ArrayList" 4) (hr : meth.sig.returnType = none) {q : xWd} (x0 : Option Nat) (x1 : Option Nat) (x2 : Option Nat) (x3 : Int32) (w : xWd) (hf : f_Jx4a65c_add_72be8_11 x0 x1 x2 x3 w = some q) : xk_X p l e { frames := 3, cells := 1, slots := 64, locals := 64 } s m args below meth c (MQ below (xk_Qv E q) args s 1 64 (xk_A E.2.2.1)) E 4 1 64 11 [(0, va_rf (x0)), (1, va_rf (x1)), (2, va_rf (x2)), (3, .int (x3))] [] w := by
  refine xk_aload_n hC dJx4a65c_add_72be8_11 2 rfl rfl ?_
  refine xk_iload_n hC dJx4a65c_add_72be8_12 3 rfl rfl ?_
  refine xk_aload_n hC dJx4a65c_add_72be8_13 1 rfl rfl ?_
  obtain ⟨u2, h2, hf⟩ := xk_bi hf
  obtain ⟨w1, h1, hf⟩ := xk_bi hf
  refine xk_aast hC rfl (xk_cas hC) dJx4a65c_add_72be8_14 h1 (xk_note44 hC) (xk_any_e h2) ?_
  refine xk_aload_n hC dJx4a65c_add_72be8_15 0 rfl rfl ?_
  refine xk_iload_n hC dJx4a65c_add_72be8_16 3 rfl rfl ?_
  refine xk_iconst (v := (1 : Int32)) hC dJx4a65c_add_72be8_17 (by decide) ?_
  refine xk_iadd hC dJx4a65c_add_72be8_18 ?_
  obtain ⟨w3, h3, hf⟩ := xk_bi hf
  refine xk_put hC xi_4 xc_4 xo_4 xn_4 2 (by decide) xm_54 (Or.inl rfl) rfl rfl rfl dJx4a65c_add_72be8_19 h3 ?_
  cases hf
  refine xk_widen (k := 1) (n := 64) (Nat.le_of_ble_eq_true rfl) (Nat.le_of_ble_eq_true rfl) ?_
  exact xk_vret hC hr dJx4a65c_add_72be8_22
def f_Jx4a65c_add_72be8 (x0 : Option Nat) (x1 : Option Nat) (x2 : Option Nat) (x3 : Int32) (w : xWd) : Option xWd := (xk_len w (x2)).bind (fun v1 => if (x3) = (v1) then (xk_is w (x0) 4).bind (fun u4 => (f_Jx4a65c_grow_d5877 (x0)  w).bind (fun q3 => f_Jx4a65c_add_72be8_11 x0 x1 (q3.1) x3 (q3.2))) else f_Jx4a65c_add_72be8_11 x0 x1 x2 x3 w)
set_option maxHeartbeats 4000000 in
set_option maxRecDepth 100000 in
theorem t_Jx4a65c_add_72be8_0 {p : Program} {l : Launch} {e : Env} {s : State} {m : MethodId} {args : Array Value} {below : List Frame} {meth : Method} {c : Code} {E : xEv} (hC : xk_C p s m args meth c E prog_31_method_24_code "java/util/ArrayList" 4) (hr : meth.sig.returnType = none) {q : xWd} (x0 : Option Nat) (x1 : Option Nat) (x2 : Option Nat) (x3 : Int32) (w : xWd) (hf : f_Jx4a65c_add_72be8 x0 x1 x2 x3 w = some q) : xk_X p l e { frames := 3, cells := 1, slots := 64, locals := 64 } s m args below meth c (MQ below (xk_Qv E q) args s 1 64 (xk_A E.2.2.1)) E 4 0 0 0 [(0, va_rf (x0)), (1, va_rf (x1)), (2, va_rf (x2)), (3, .int (x3))] [] w := by
  refine xk_iload_n hC dJx4a65c_add_72be8_0 3 rfl rfl ?_
  refine xk_aload_n hC dJx4a65c_add_72be8_1 2 rfl rfl ?_
  obtain ⟨v1, h1, hf⟩ := xk_bi hf
  refine xk_alen hC dJx4a65c_add_72be8_2 h1 ?_
  refine xk_icmp_ne (tgt := 11) hC dJx4a65c_add_72be8_3 (by decide) (fun c2 => ?_) (fun c2 => ?_)
  · replace hf := (if_neg c2).symm.trans hf
    refine xk_widen (k := 1) (n := 64) (Nat.le_of_ble_eq_true rfl) (Nat.le_of_ble_eq_true rfl) ?_
    exact t_Jx4a65c_add_72be8_11 hC hr x0 x1 x2 x3 w hf
  · replace hf := (if_pos c2).symm.trans hf
    refine xk_aload_n hC dJx4a65c_add_72be8_6 0 rfl rfl ?_
    obtain ⟨u4, h4, hf⟩ := xk_bi hf
    obtain ⟨q3, h3, hf⟩ := xk_bi hf
    refine xk_backq (xk_callV hC 0 xc_4 (c_Jx4a65c_grow_d5877 h3) h4 xm_394 xm_396 xm_p21 xm_4 xm_397 ⟨rfl, xd_Jx4a65c_grow_d5877⟩ rfl ⟨Nat.le_of_ble_eq_true rfl, Nat.le_of_ble_eq_true rfl⟩ rfl (Nat.le_of_ble_eq_true rfl) dJx4a65c_add_72be8_7 ⟨(Nat.le_of_ble_eq_true rfl), (Nat.le_of_ble_eq_true rfl)⟩) ?_
    refine xk_astore_n (i := 2) (lv' := [(2, va_rf (q3.1)), (0, va_rf (x0)), (1, va_rf (x1)), (3, .int (x3))]) hC dJx4a65c_add_72be8_10 rfl (by decide) (by simp [xk_cat1]) ?_
    refine xk_locals [1, 2, 0, 3] rfl ?_
    exact t_Jx4a65c_add_72be8_11 hC hr x0 x1 (q3.1) x3 (q3.2) hf
theorem xd_Jx4a65c_add_72be8 : xy_Jx4a65c_add_72be8.cls ≠ "java/lang/invoke/MethodHandle" ∧ xy_Jx4a65c_add_72be8.cls ≠ "java/lang/invoke/VarHandle" ∧ (parseMethodDescriptor xy_Jx4a65c_add_72be8.desc).map (fun d => d.parameters.length) = some 3 := ⟨by decide +kernel, by decide +kernel, by decide +kernel⟩
theorem c_Jx4a65c_add_72be8 {l : Launch} {E : xEv} {x0 : Option Nat} {x1 : Option Nat} {x2 : Option Nat} {x3 : Int32} {w : xWd} {q : xWd} (hf : f_Jx4a65c_add_72be8 x0 x1 x2 x3 w = some q) : xk_M l xy_Jx4a65c_add_72be8 prog_31_method_24_code 4 none 3 64 1 64 E [va_rf (x0), va_rf (x1), va_rf (x2), .int (x3)] w (xk_Qv E q) := by
  refine xk_enter (by decide +kernel) (by simp [lg_sl, xk_cat1, xk_cati, xk_catl, xk_catd]) ?_
  intro p e s m args below meth c hC hr hin ha
  rw [show lv_args 0 [va_rf (x0), va_rf (x1), va_rf (x2), .int (x3)] = [(0, va_rf (x0)), (1, va_rf (x1)), (2, va_rf (x2)), (3, .int (x3))] by simp [lv_args, xk_cat1, xk_cati, xk_catl, xk_catd]]
  exact t_Jx4a65c_add_72be8_0 hC hr x0 x1 x2 x3 w hf
def f_Jx4a65c_add_9ea2d (x0 : Option Nat) (x1 : Option Nat) (w : xWd) : Option (Int32 × xWd) := (xk_gI w (x0) 4 0).bind (fun v1 => (xk_pV w (x0) 4 0 (.int ((v1) + ((1 : Int32))))).bind (fun w2 => (xk_gR w2 (x0) 4 1).bind (fun v3 => (xk_gI w2 (x0) 4 2).bind (fun v4 => (xk_is w2 (x0) 4).bind (fun u6 => (f_Jx4a65c_add_72be8 (x0) (x1) (v3) (v4) w2).bind (fun q5 => some ((1 : Int32), q5)))))))
set_option maxHeartbeats 4000000 in
set_option maxRecDepth 100000 in
theorem t_Jx4a65c_add_9ea2d_0 {p : Program} {l : Launch} {e : Env} {s : State} {m : MethodId} {args : Array Value} {below : List Frame} {meth : Method} {c : Code} {E : xEv} (hC : xk_C p s m args meth c E prog_31_method_25_code "java/util/ArrayList" 2) (hr : meth.sig.returnType = (some .boolean)) {q : (Int32 × xWd)} (x0 : Option Nat) (x1 : Option Nat) (w : xWd) (hf : f_Jx4a65c_add_9ea2d x0 x1 w = some q) : xk_X p l e { frames := 4, cells := 1, slots := 64, locals := 87 } s m args below meth c (MQ below (xk_Qi E q) args s 1 64 (xk_A E.2.2.1)) E 2 0 0 0 [(0, va_rf (x0)), (1, va_rf (x1))] [] w := by
  refine xk_aload_n hC dJx4a65c_add_9ea2d_0 0 rfl rfl ?_
  refine xk_dup hC dJx4a65c_add_9ea2d_1 (xk_cat1 _) ?_
  obtain ⟨v1, h1, hf⟩ := xk_bi hf
  refine xk_getI hC xi_4 xc_4 0 (by decide) xm_58 (Or.inr xm_57) dJx4a65c_add_9ea2d_2 h1 ?_
  refine xk_iconst (v := (1 : Int32)) hC dJx4a65c_add_9ea2d_5 (by decide) ?_
  refine xk_iadd hC dJx4a65c_add_9ea2d_6 ?_
  obtain ⟨w2, h2, hf⟩ := xk_bi hf
  refine xk_put hC xi_4 xc_4 xo_4 xn_4 0 (by decide) xm_58 (Or.inr xm_57) rfl rfl rfl dJx4a65c_add_9ea2d_7 h2 ?_
  refine xk_aload_n hC dJx4a65c_add_9ea2d_10 0 rfl rfl ?_
  refine xk_aload_n hC dJx4a65c_add_9ea2d_11 1 rfl rfl ?_
  refine xk_aload_n hC dJx4a65c_add_9ea2d_12 0 rfl rfl ?_
  obtain ⟨v3, h3, hf⟩ := xk_bi hf
  refine xk_getR hC xi_4 xc_4 1 (by decide) xm_51 (Or.inl rfl) dJx4a65c_add_9ea2d_13 h3 ?_
  refine xk_aload_n hC dJx4a65c_add_9ea2d_16 0 rfl rfl ?_
  obtain ⟨v4, h4, hf⟩ := xk_bi hf
  refine xk_getI hC xi_4 xc_4 2 (by decide) xm_54 (Or.inl rfl) dJx4a65c_add_9ea2d_17 h4 ?_
  obtain ⟨u6, h6, hf⟩ := xk_bi hf
  obtain ⟨q5, h5, hf⟩ := xk_bi hf
  refine xk_backv (xk_callV hC 3 xc_4 (c_Jx4a65c_add_72be8 h5) h6 xm_390 xm_392 xm_p20 xm_4 xm_393 ⟨rfl, xd_Jx4a65c_add_72be8⟩ rfl ⟨Nat.le_of_ble_eq_true rfl, Nat.le_of_ble_eq_true rfl⟩ rfl (Nat.le_of_ble_eq_true rfl) dJx4a65c_add_9ea2d_20 ⟨(Nat.le_of_ble_eq_true rfl), (Nat.le_of_ble_eq_true rfl)⟩) ?_
  refine xk_iconst (v := (1 : Int32)) hC dJx4a65c_add_9ea2d_23 (by decide) ?_
  cases hf
  refine xk_widen (k := 1) (n := 64) (Nat.le_of_ble_eq_true rfl) (Nat.le_of_ble_eq_true rfl) ?_
  exact xk_iret hC hr rfl dJx4a65c_add_9ea2d_24
theorem xd_Jx4a65c_add_9ea2d : xy_Jx4a65c_add_9ea2d.cls ≠ "java/lang/invoke/MethodHandle" ∧ xy_Jx4a65c_add_9ea2d.cls ≠ "java/lang/invoke/VarHandle" ∧ (parseMethodDescriptor xy_Jx4a65c_add_9ea2d.desc).map (fun d => d.parameters.length) = some 1 := ⟨by decide +kernel, by decide +kernel, by decide +kernel⟩
theorem c_Jx4a65c_add_9ea2d {l : Launch} {E : xEv} {x0 : Option Nat} {x1 : Option Nat} {w : xWd} {q : (Int32 × xWd)} (hf : f_Jx4a65c_add_9ea2d x0 x1 w = some q) : xk_M l xy_Jx4a65c_add_9ea2d prog_31_method_25_code 2 (some .boolean) 4 87 1 64 E [va_rf (x0), va_rf (x1)] w (xk_Qi E q) := by
  refine xk_enter (by decide +kernel) (by simp [lg_sl, xk_cat1, xk_cati, xk_catl, xk_catd]) ?_
  intro p e s m args below meth c hC hr hin ha
  rw [show lv_args 0 [va_rf (x0), va_rf (x1)] = [(0, va_rf (x0)), (1, va_rf (x1))] by simp [lv_args, xk_cat1, xk_cati, xk_catl, xk_catd]]
  exact t_Jx4a65c_add_9ea2d_0 hC hr x0 x1 w hf
def f_Jxd2413_init_da8c8 (x0 : Nat) (w : xWd) : Option xWd := some w
set_option maxHeartbeats 4000000 in
set_option maxRecDepth 100000 in
theorem t_Jxd2413_init_da8c8_0 {p : Program} {l : Launch} {e : Env} {s : State} {m : MethodId} {args : Array Value} {below : List Frame} {meth : Method} {c : Code} {E : xEv} (hC : xk_C p s m args meth c E prog_22_method_1_code "java/lang/Number" 1) (hr : meth.sig.returnType = none) (hin : meth.name = "<init>") {q : xWd} (x0 : Nat) (w : xWd) (hf : f_Jxd2413_init_da8c8 x0 w = some q) : xk_X p l e { frames := 1, cells := 0, slots := 0, locals := 20 } s m args below meth c (MQ below (xk_Qv E q) args s 0 0 (xk_A E.2.2.1)) E 1 0 0 0 [(0, va_rf (some x0))] [] w := by
  refine xk_aload_n hC dJxd2413_init_da8c8_0 0 rfl rfl ?_
  refine xk_objI hC xm_949 xm_35 xm_36 dJxd2413_init_da8c8_1 (Nat.le_of_ble_eq_true rfl) (Nat.le_of_ble_eq_true rfl) ?_
  cases hf
  refine xk_widen (k := 0) (n := 0) (Nat.le_of_ble_eq_true rfl) (Nat.le_of_ble_eq_true rfl) ?_
  exact xk_vret hC hr dJxd2413_init_da8c8_4
theorem xd_Jxd2413_init_da8c8 : xy_Jxd2413_init_da8c8.cls ≠ "java/lang/invoke/MethodHandle" ∧ xy_Jxd2413_init_da8c8.cls ≠ "java/lang/invoke/VarHandle" ∧ (parseMethodDescriptor xy_Jxd2413_init_da8c8.desc).map (fun d => d.parameters.length) = some 0 := ⟨by decide +kernel, by decide +kernel, by decide +kernel⟩
theorem c_Jxd2413_init_da8c8 {l : Launch} {E : xEv} {x0 : Nat} {w : xWd} {q : xWd} (hf : f_Jxd2413_init_da8c8 x0 w = some q) : xk_M l xy_Jxd2413_init_da8c8 prog_22_method_1_code 1 none 1 20 0 0 E [va_rf (some x0)] w (xk_Qv E q) := by
  refine xk_enter (by decide +kernel) (by simp [lg_sl, xk_cat1, xk_cati, xk_catl, xk_catd]) ?_
  intro p e s m args below meth c hC hr hin ha
  rw [show lv_args 0 [va_rf (some x0)] = [(0, va_rf (some x0))] by simp [lv_args, xk_cat1, xk_cati, xk_catl, xk_catd]]
  exact t_Jxd2413_init_da8c8_0 hC hr (hin rfl) x0 w hf
def f_J6_init_d00df (x0 : Nat) (x1 : Int32) (w : xWd) : Option xWd := (f_Jxd2413_init_da8c8 (x0)  w).bind (fun q1 => (xk_pV q1 (some x0) 9 0 (.int (x1))).bind (fun w2 => some w2))
set_option maxHeartbeats 4000000 in
set_option maxRecDepth 100000 in
theorem t_J6_init_d00df_0 {p : Program} {l : Launch} {e : Env} {s : State} {m : MethodId} {args : Array Value} {below : List Frame} {meth : Method} {c : Code} {E : xEv} (hC : xk_C p s m args meth c E prog_18_method_23_code "java/lang/Integer" 2) (hr : meth.sig.returnType = none) (hin : meth.name = "<init>") {q : xWd} (x0 : Nat) (x1 : Int32) (w : xWd) (hf : f_J6_init_d00df x0 x1 w = some q) : xk_X p l e { frames := 2, cells := 0, slots := 0, locals := 40 } s m args below meth c (MQ below (xk_Qv E q) args s 0 0 (xk_A E.2.2.1)) E 2 0 0 0 [(0, va_rf (some x0)), (1, .int (x1))] [] w := by
  refine xk_aload_n hC dJ6_init_d00df_0 0 rfl rfl ?_
  obtain ⟨q1, h1, hf⟩ := xk_bi hf
  refine xk_backv (xk_callI hC 0 (c_Jxd2413_init_da8c8 h1) xm_946 xm_947 xm_18 xm_948 rfl xd_Jxd2413_init_da8c8 rfl ⟨Nat.le_of_ble_eq_true rfl, Nat.le_of_ble_eq_true rfl⟩ rfl (Nat.le_of_ble_eq_true rfl) dJ6_init_d00df_1 ⟨(Nat.le_of_ble_eq_true rfl), (Nat.le_of_ble_eq_true rfl)⟩) ?_
  refine xk_aload_n hC dJ6_init_d00df_4 0 rfl rfl ?_
  refine xk_iload_n hC dJ6_init_d00df_5 1 rfl rfl ?_
  obtain ⟨w2, h2, hf⟩ := xk_bi hf
  refine xk_putF hC xi_9 xc_9 xo_9 xn_9 0 (by decide) xm_950 (Or.inl rfl) rfl hin rfl rfl rfl dJ6_init_d00df_6 h2 ?_
  cases hf
  refine xk_widen (k := 0) (n := 0) (Nat.le_of_ble_eq_true rfl) (Nat.le_of_ble_eq_true rfl) ?_
  exact xk_vret hC hr dJ6_init_d00df_9
theorem xd_J6_init_d00df : xy_J6_init_d00df.cls ≠ "java/lang/invoke/MethodHandle" ∧ xy_J6_init_d00df.cls ≠ "java/lang/invoke/VarHandle" ∧ (parseMethodDescriptor xy_J6_init_d00df.desc).map (fun d => d.parameters.length) = some 1 := ⟨by decide +kernel, by decide +kernel, by decide +kernel⟩
theorem c_J6_init_d00df {l : Launch} {E : xEv} {x0 : Nat} {x1 : Int32} {w : xWd} {q : xWd} (hf : f_J6_init_d00df x0 x1 w = some q) : xk_M l xy_J6_init_d00df prog_18_method_23_code 2 none 2 40 0 0 E [va_rf (some x0), .int (x1)] w (xk_Qv E q) := by
  refine xk_enter (by decide +kernel) (by simp [lg_sl, xk_cat1, xk_cati, xk_catl, xk_catd]) ?_
  intro p e s m args below meth c hC hr hin ha
  rw [show lv_args 0 [va_rf (some x0), .int (x1)] = [(0, va_rf (some x0)), (1, .int (x1))] by simp [lv_args, xk_cat1, xk_cati, xk_catl, xk_catd]]
  exact t_J6_init_d00df_0 hC hr (hin rfl) x0 x1 w hf
def f_J6_valueOf_2dffe_23 (x0 : Int32) (w : xWd) : Option (Option Nat × xWd) := (some (xk_nw w 9 xf_9)).bind (fun w1 => (f_J6_init_d00df (w.2.1) (x0) w1).bind (fun q2 => some (some w.2.1, q2)))
set_option maxHeartbeats 4000000 in
set_option maxRecDepth 100000 in
theorem t_J6_valueOf_2dffe_23 {p : Program} {l : Launch} {e : Env} {s : State} {m : MethodId} {args : Array Value} {below : List Frame} {meth : Method} {c : Code} {E : xEv} (hC : xk_C p s m args meth c E prog_18_method_22_code "java/lang/Integer" 1) (hr : meth.sig.returnType = (some (.object "java/lang/Integer"))) {q : (Option Nat × xWd)} (x0 : Int32) (w : xWd) (hf : f_J6_valueOf_2dffe_23 x0 w = some q) : xk_X p l e { frames := 3, cells := 1, slots := 1, locals := 61 } s m args below meth c (MQ below (xk_Qq E q) args s 1 1 (xk_A E.2.2.1)) E 1 0 0 23 [(0, .int (x0))] [] w := by
  obtain ⟨w1, h1, hf⟩ := xk_bi hf
  refine xk_newH hC xi_9 xc_9 xo_9 xm_941 xm_942 xm_19 xfo_9 (Nat.le_of_ble_eq_true rfl) (Nat.le_of_ble_eq_true rfl) dJ6_valueOf_2dffe_23 h1 ?_
  refine xk_dup hC dJ6_valueOf_2dffe_26 (xk_cat1 _) ?_
  refine xk_iload_n hC dJ6_valueOf_2dffe_27 0 rfl rfl ?_
  obtain ⟨q2, h2, hf⟩ := xk_bi hf
  refine xk_backv (xk_callI hC 1 (c_J6_init_d00df h2) xm_943 xm_944 xm_19 xm_945 rfl xd_J6_init_d00df rfl ⟨Nat.le_of_ble_eq_true rfl, Nat.le_of_ble_eq_true rfl⟩ rfl (Nat.le_of_ble_eq_true rfl) dJ6_valueOf_2dffe_28 ⟨(Nat.le_of_ble_eq_true rfl), (Nat.le_of_ble_eq_true rfl)⟩) ?_
  cases hf
  refine xk_widen (k := 1) (n := 1) (Nat.le_of_ble_eq_true rfl) (Nat.le_of_ble_eq_true rfl) ?_
  exact xk_aret hC hr (Or.inl ⟨_, rfl⟩) dJ6_valueOf_2dffe_31
def f_J6_valueOf_2dffe (x0 : Int32) (w : xWd) : Option (Option Nat × xWd) := if (x0) < ((-128 : Int32)) then f_J6_valueOf_2dffe_23 x0 w else if ((127 : Int32)) < (x0) then f_J6_valueOf_2dffe_23 x0 w else some (some (w.2.2.2 ((x0) + (128 : Int32)).toNatClampNeg), w)
set_option maxHeartbeats 4000000 in
set_option maxRecDepth 100000 in
theorem t_J6_valueOf_2dffe_0 {p : Program} {l : Launch} {e : Env} {s : State} {m : MethodId} {args : Array Value} {below : List Frame} {meth : Method} {c : Code} {E : xEv} (hC : xk_C p s m args meth c E prog_18_method_22_code "java/lang/Integer" 1) (hr : meth.sig.returnType = (some (.object "java/lang/Integer"))) {q : (Option Nat × xWd)} (x0 : Int32) (w : xWd) (hf : f_J6_valueOf_2dffe x0 w = some q) : xk_X p l e { frames := 3, cells := 1, slots := 1, locals := 61 } s m args below meth c (MQ below (xk_Qq E q) args s 1 1 (xk_A E.2.2.1)) E 1 0 0 0 [(0, .int (x0))] [] w := by
  refine xk_iload_n hC dJ6_valueOf_2dffe_0 0 rfl rfl ?_
  refine xk_bipush (v := (-128 : Int32)) hC dJ6_valueOf_2dffe_1 (by decide) ?_
  refine xk_icmp_lt (tgt := 23) hC dJ6_valueOf_2dffe_3 (by decide) (fun c1 => ?_) (fun c1 => ?_)
  · replace hf := (if_pos c1).symm.trans hf
    exact t_J6_valueOf_2dffe_23 hC hr x0 w hf
  · replace hf := (if_neg c1).symm.trans hf
    refine xk_iload_n hC dJ6_valueOf_2dffe_6 0 rfl rfl ?_
    refine xk_gethigh hC xm_937 dJ6_valueOf_2dffe_7 ?_
    refine xk_icmp_gt (tgt := 23) hC dJ6_valueOf_2dffe_10 (by decide) (fun c2 => ?_) (fun c2 => ?_)
    · replace hf := (if_pos c2).symm.trans hf
      exact t_J6_valueOf_2dffe_23 hC hr x0 w hf
    · replace hf := (if_neg c2).symm.trans hf
      refine xk_cached hC xm_939 0 rfl (by assumption) (by assumption) dJ6_valueOf_2dffe_13 dJ6_valueOf_2dffe_16 dJ6_valueOf_2dffe_17 dJ6_valueOf_2dffe_20 dJ6_valueOf_2dffe_21 ?_
      cases hf
      refine xk_widen (k := 1) (n := 1) (Nat.le_of_ble_eq_true rfl) (Nat.le_of_ble_eq_true rfl) ?_
      exact xk_aret hC hr (Or.inl ⟨_, rfl⟩) dJ6_valueOf_2dffe_22
theorem xd_J6_valueOf_2dffe : xy_J6_valueOf_2dffe.cls ≠ "java/lang/invoke/MethodHandle" ∧ xy_J6_valueOf_2dffe.cls ≠ "java/lang/invoke/VarHandle" ∧ (parseMethodDescriptor xy_J6_valueOf_2dffe.desc).map (fun d => d.parameters.length) = some 1 := ⟨by decide +kernel, by decide +kernel, by decide +kernel⟩
theorem c_J6_valueOf_2dffe {l : Launch} {E : xEv} {x0 : Int32} {w : xWd} {q : (Option Nat × xWd)} (hf : f_J6_valueOf_2dffe x0 w = some q) : xk_M l xy_J6_valueOf_2dffe prog_18_method_22_code 1 (some (.object "java/lang/Integer")) 3 61 1 1 E [.int (x0)] w (xk_Qq E q) := by
  refine xk_enter (by decide +kernel) (by simp [lg_sl, xk_cat1, xk_cati, xk_catl, xk_catd]) ?_
  intro p e s m args below meth c hC hr hin ha
  rw [show lv_args 0 [.int (x0)] = [(0, .int (x0))] by simp [lv_args, xk_cat1, xk_cati, xk_catl, xk_catd]]
  exact t_J6_valueOf_2dffe_0 hC hr x0 w hf
def f_Jx35411_init_45d68 (x0 : Nat) (x1 : Option Nat) (w : xWd) : Option xWd := (xk_pV w (some x0) 8 3 (va_rf (x1))).bind (fun w1 => (xk_pV w1 (some x0) 8 1 (.int ((-1 : Int32)))).bind (fun w2 => (xk_gR w2 (some x0) 8 3).bind (fun v3 => (xk_gI w2 (v3) 4 0).bind (fun v4 => (xk_pV w2 (some x0) 8 2 (.int (v4))).bind (fun w5 => some w5)))))
set_option maxHeartbeats 4000000 in
set_option maxRecDepth 100000 in
theorem t_Jx35411_init_45d68_0 {p : Program} {l : Launch} {e : Env} {s : State} {m : MethodId} {args : Array Value} {below : List Frame} {meth : Method} {c : Code} {E : xEv} (hC : xk_C p s m args meth c E prog_32_method_1_code "java/util/ArrayList$Itr" 2) (hr : meth.sig.returnType = none) (hin : meth.name = "<init>") {q : xWd} (x0 : Nat) (x1 : Option Nat) (w : xWd) (hf : f_Jx35411_init_45d68 x0 x1 w = some q) : xk_X p l e { frames := 1, cells := 0, slots := 0, locals := 20 } s m args below meth c (MQ below (xk_Qv E q) args s 0 0 (xk_A E.2.2.1)) E 2 0 0 0 [(0, va_rf (some x0)), (1, va_rf (x1))] [] w := by
  refine xk_aload_n hC dJx35411_init_45d68_0 0 rfl rfl ?_
  refine xk_aload_n hC dJx35411_init_45d68_1 1 rfl rfl ?_
  obtain ⟨w1, h1, hf⟩ := xk_bi hf
  refine xk_putF hC xi_8 xc_8 xo_8 xn_8 3 (by decide) xm_975 (Or.inl rfl) rfl hin rfl (xk_nr _ _) (xk_fr _ _) dJx35411_init_45d68_2 h1 ?_
  refine xk_aload_n hC dJx35411_init_45d68_5 0 rfl rfl ?_
  refine xk_objI hC xm_971 xm_35 xm_36 dJx35411_init_45d68_6 (Nat.le_of_ble_eq_true rfl) (Nat.le_of_ble_eq_true rfl) ?_
  refine xk_aload_n hC dJx35411_init_45d68_9 0 rfl rfl ?_
  refine xk_iconst (v := (-1 : Int32)) hC dJx35411_init_45d68_10 (by decide) ?_
  obtain ⟨w2, h2, hf⟩ := xk_bi hf
  refine xk_put hC xi_8 xc_8 xo_8 xn_8 1 (by decide) xm_973 (Or.inl rfl) rfl rfl rfl dJx35411_init_45d68_11 h2 ?_
  refine xk_aload_n hC dJx35411_init_45d68_14 0 rfl rfl ?_
  refine xk_aload_n hC dJx35411_init_45d68_15 0 rfl rfl ?_
  obtain ⟨v3, h3, hf⟩ := xk_bi hf
  refine xk_getR hC xi_8 xc_8 3 (by decide) xm_975 (Or.inl rfl) dJx35411_init_45d68_16 h3 ?_
  obtain ⟨v4, h4, hf⟩ := xk_bi hf
  refine xk_getI hC xi_4 xc_4 0 (by decide) xm_56 (Or.inr xm_57) dJx35411_init_45d68_19 h4 ?_
  obtain ⟨w5, h5, hf⟩ := xk_bi hf
  refine xk_put hC xi_8 xc_8 xo_8 xn_8 2 (by decide) xm_974 (Or.inl rfl) rfl rfl rfl dJx35411_init_45d68_22 h5 ?_
  cases hf
  refine xk_widen (k := 0) (n := 0) (Nat.le_of_ble_eq_true rfl) (Nat.le_of_ble_eq_true rfl) ?_
  exact xk_vret hC hr dJx35411_init_45d68_25
theorem xd_Jx35411_init_45d68 : xy_Jx35411_init_45d68.cls ≠ "java/lang/invoke/MethodHandle" ∧ xy_Jx35411_init_45d68.cls ≠ "java/lang/invoke/VarHandle" ∧ (parseMethodDescriptor xy_Jx35411_init_45d68.desc).map (fun d => d.parameters.length) = some 1 := ⟨by decide +kernel, by decide +kernel, by decide +kernel⟩
theorem c_Jx35411_init_45d68 {l : Launch} {E : xEv} {x0 : Nat} {x1 : Option Nat} {w : xWd} {q : xWd} (hf : f_Jx35411_init_45d68 x0 x1 w = some q) : xk_M l xy_Jx35411_init_45d68 prog_32_method_1_code 2 none 1 20 0 0 E [va_rf (some x0), va_rf (x1)] w (xk_Qv E q) := by
  refine xk_enter (by decide +kernel) (by simp [lg_sl, xk_cat1, xk_cati, xk_catl, xk_catd]) ?_
  intro p e s m args below meth c hC hr hin ha
  rw [show lv_args 0 [va_rf (some x0), va_rf (x1)] = [(0, va_rf (some x0)), (1, va_rf (x1))] by simp [lv_args, xk_cat1, xk_cati, xk_catl, xk_catd]]
  exact t_Jx35411_init_45d68_0 hC hr (hin rfl) x0 x1 w hf
def f_Jx4a65c_iterator_32c93 (x0 : Option Nat) (w : xWd) : Option (Option Nat × xWd) := (some (xk_nw w 8 xf_8)).bind (fun w1 => (f_Jx35411_init_45d68 (w.2.1) (x0) w1).bind (fun q2 => some (some w.2.1, q2)))
set_option maxHeartbeats 4000000 in
set_option maxRecDepth 100000 in
theorem t_Jx4a65c_iterator_32c93_0 {p : Program} {l : Launch} {e : Env} {s : State} {m : MethodId} {args : Array Value} {below : List Frame} {meth : Method} {c : Code} {E : xEv} (hC : xk_C p s m args meth c E prog_31_method_55_code "java/util/ArrayList" 1) (hr : meth.sig.returnType = (some (.object "java/util/Iterator"))) {q : (Option Nat × xWd)} (x0 : Option Nat) (w : xWd) (hf : f_Jx4a65c_iterator_32c93 x0 w = some q) : xk_X p l e { frames := 2, cells := 1, slots := 4, locals := 41 } s m args below meth c (MQ below (xk_Qq E q) args s 1 4 (xk_A E.2.2.1)) E 1 0 0 0 [(0, va_rf (x0))] [] w := by
  obtain ⟨w1, h1, hf⟩ := xk_bi hf
  refine xk_newH hC xi_8 xc_8 xo_8 xm_966 xm_967 xm_23 xfo_8 (Nat.le_of_ble_eq_true rfl) (Nat.le_of_ble_eq_true rfl) dJx4a65c_iterator_32c93_0 h1 ?_
  refine xk_dup hC dJx4a65c_iterator_32c93_3 (xk_cat1 _) ?_
  refine xk_aload_n hC dJx4a65c_iterator_32c93_4 0 rfl rfl ?_
  obtain ⟨q2, h2, hf⟩ := xk_bi hf
  refine xk_backv (xk_callI hC 1 (c_Jx35411_init_45d68 h2) xm_968 xm_969 xm_23 xm_970 rfl xd_Jx35411_init_45d68 rfl ⟨Nat.le_of_ble_eq_true rfl, Nat.le_of_ble_eq_true rfl⟩ rfl (Nat.le_of_ble_eq_true rfl) dJx4a65c_iterator_32c93_5 ⟨(Nat.le_of_ble_eq_true rfl), (Nat.le_of_ble_eq_true rfl)⟩) ?_
  cases hf
  refine xk_widen (k := 1) (n := 4) (Nat.le_of_ble_eq_true rfl) (Nat.le_of_ble_eq_true rfl) ?_
  exact xk_aret hC hr (Or.inl ⟨_, rfl⟩) dJx4a65c_iterator_32c93_8
theorem xd_Jx4a65c_iterator_32c93 : xy_Jx4a65c_iterator_32c93.cls ≠ "java/lang/invoke/MethodHandle" ∧ xy_Jx4a65c_iterator_32c93.cls ≠ "java/lang/invoke/VarHandle" ∧ (parseMethodDescriptor xy_Jx4a65c_iterator_32c93.desc).map (fun d => d.parameters.length) = some 0 := ⟨by decide +kernel, by decide +kernel, by decide +kernel⟩
theorem c_Jx4a65c_iterator_32c93 {l : Launch} {E : xEv} {x0 : Option Nat} {w : xWd} {q : (Option Nat × xWd)} (hf : f_Jx4a65c_iterator_32c93 x0 w = some q) : xk_M l xy_Jx4a65c_iterator_32c93 prog_31_method_55_code 1 (some (.object "java/util/Iterator")) 2 41 1 4 E [va_rf (x0)] w (xk_Qq E q) := by
  refine xk_enter (by decide +kernel) (by simp [lg_sl, xk_cat1, xk_cati, xk_catl, xk_catd]) ?_
  intro p e s m args below meth c hC hr hin ha
  rw [show lv_args 0 [va_rf (x0)] = [(0, va_rf (x0))] by simp [lv_args, xk_cat1, xk_cati, xk_catl, xk_catd]]
  exact t_Jx4a65c_iterator_32c93_0 hC hr x0 w hf
def f_Jx35411_hasNext_aae02_19 (s0 : Int32) (w : xWd) : Option (Int32 × xWd) := (xk_zb (s0)).bind (fun u1 => some (s0, w))
set_option maxHeartbeats 4000000 in
set_option maxRecDepth 100000 in
theorem t_Jx35411_hasNext_aae02_19 {p : Program} {l : Launch} {e : Env} {s : State} {m : MethodId} {args : Array Value} {below : List Frame} {meth : Method} {c : Code} {E : xEv} (hC : xk_C p s m args meth c E prog_32_method_2_code "java/util/ArrayList$Itr" 1) (hr : meth.sig.returnType = (some .boolean)) {q : (Int32 × xWd)} (s0 : Int32) (w : xWd) (hf : f_Jx35411_hasNext_aae02_19 s0 w = some q) : xk_X p l e { frames := 0, cells := 0, slots := 0, locals := 0 } s m args below meth c (MQ below (xk_Qi E q) args s 0 0 (xk_A E.2.2.1)) E 1 0 0 19 [] [.int (s0)] w := by
  obtain ⟨u1, h1, hf⟩ := xk_bi hf
  cases hf
  refine xk_widen (k := 0) (n := 0) (Nat.le_of_ble_eq_true rfl) (Nat.le_of_ble_eq_true rfl) ?_
  exact xk_iret hC hr (xk_zb_e h1) dJx35411_hasNext_aae02_19
def f_Jx35411_hasNext_aae02 (x0 : Option Nat) (w : xWd) : Option (Int32 × xWd) := (xk_gI w (x0) 8 0).bind (fun v1 => (xk_gR w (x0) 8 3).bind (fun v2 => (xk_gI w (v2) 4 2).bind (fun v3 => if (v1) = (v3) then f_Jx35411_hasNext_aae02_19 ((0 : Int32)) w else f_Jx35411_hasNext_aae02_19 ((1 : Int32)) w)))
set_option maxHeartbeats 4000000 in
set_option maxRecDepth 100000 in
theorem t_Jx35411_hasNext_aae02_0 {p : Program} {l : Launch} {e : Env} {s : State} {m : MethodId} {args : Array Value} {below : List Frame} {meth : Method} {c : Code} {E : xEv} (hC : xk_C p s m args meth c E prog_32_method_2_code "java/util/ArrayList$Itr" 1) (hr : meth.sig.returnType = (some .boolean)) {q : (Int32 × xWd)} (x0 : Option Nat) (w : xWd) (hf : f_Jx35411_hasNext_aae02 x0 w = some q) : xk_X p l e { frames := 0, cells := 0, slots := 0, locals := 0 } s m args below meth c (MQ below (xk_Qi E q) args s 0 0 (xk_A E.2.2.1)) E 1 0 0 0 [(0, va_rf (x0))] [] w := by
  refine xk_aload_n hC dJx35411_hasNext_aae02_0 0 rfl rfl ?_
  obtain ⟨v1, h1, hf⟩ := xk_bi hf
  refine xk_getI hC xi_8 xc_8 0 (by decide) xm_972 (Or.inl rfl) dJx35411_hasNext_aae02_1 h1 ?_
  refine xk_aload_n hC dJx35411_hasNext_aae02_4 0 rfl rfl ?_
  obtain ⟨v2, h2, hf⟩ := xk_bi hf
  refine xk_getR hC xi_8 xc_8 3 (by decide) xm_975 (Or.inl rfl) dJx35411_hasNext_aae02_5 h2 ?_
  obtain ⟨v3, h3, hf⟩ := xk_bi hf
  refine xk_getIN hC xi_4 xc_4 2 (by decide) (xk_note0 hC) (Or.inl rfl) dJx35411_hasNext_aae02_8 h3 ?_
  refine xk_icmp_eq (tgt := 18) hC dJx35411_hasNext_aae02_11 (by decide) (fun c4 => ?_) (fun c4 => ?_)
  · replace hf := (if_pos c4).symm.trans hf
    refine xk_iconst (v := (0 : Int32)) hC dJx35411_hasNext_aae02_18 (by decide) ?_
    refine xk_locals [] rfl ?_
    exact t_Jx35411_hasNext_aae02_19 hC hr ((0 : Int32)) w hf
  · replace hf := (if_neg c4).symm.trans hf
    refine xk_iconst (v := (1 : Int32)) hC dJx35411_hasNext_aae02_14 (by decide) ?_
    refine xk_goto (tgt := 19) hC dJx35411_hasNext_aae02_15 (by decide) ?_
    refine xk_locals [] rfl ?_
    exact t_Jx35411_hasNext_aae02_19 hC hr ((1 : Int32)) w hf
theorem xd_Jx35411_hasNext_aae02 : xy_Jx35411_hasNext_aae02.cls ≠ "java/lang/invoke/MethodHandle" ∧ xy_Jx35411_hasNext_aae02.cls ≠ "java/lang/invoke/VarHandle" ∧ (parseMethodDescriptor xy_Jx35411_hasNext_aae02.desc).map (fun d => d.parameters.length) = some 0 := ⟨by decide +kernel, by decide +kernel, by decide +kernel⟩
theorem c_Jx35411_hasNext_aae02 {l : Launch} {E : xEv} {x0 : Option Nat} {w : xWd} {q : (Int32 × xWd)} (hf : f_Jx35411_hasNext_aae02 x0 w = some q) : xk_M l xy_Jx35411_hasNext_aae02 prog_32_method_2_code 1 (some .boolean) 0 0 0 0 E [va_rf (x0)] w (xk_Qi E q) := by
  refine xk_enter (by decide +kernel) (by simp [lg_sl, xk_cat1, xk_cati, xk_catl, xk_catd]) ?_
  intro p e s m args below meth c hC hr hin ha
  rw [show lv_args 0 [va_rf (x0)] = [(0, va_rf (x0))] by simp [lv_args, xk_cat1, xk_cati, xk_catl, xk_catd]]
  exact t_Jx35411_hasNext_aae02_0 hC hr x0 w hf
def f_Jx4a65c_isEmpty_aae02_12 (s0 : Int32) (w : xWd) : Option (Int32 × xWd) := (xk_zb (s0)).bind (fun u1 => some (s0, w))
set_option maxHeartbeats 4000000 in
set_option maxRecDepth 100000 in
theorem t_Jx4a65c_isEmpty_aae02_12 {p : Program} {l : Launch} {e : Env} {s : State} {m : MethodId} {args : Array Value} {below : List Frame} {meth : Method} {c : Code} {E : xEv} (hC : xk_C p s m args meth c E prog_31_method_9_code "java/util/ArrayList" 1) (hr : meth.sig.returnType = (some .boolean)) {q : (Int32 × xWd)} (s0 : Int32) (w : xWd) (hf : f_Jx4a65c_isEmpty_aae02_12 s0 w = some q) : xk_X p l e { frames := 0, cells := 0, slots := 0, locals := 0 } s m args below meth c (MQ below (xk_Qi E q) args s 0 0 (xk_A E.2.2.1)) E 1 0 0 12 [] [.int (s0)] w := by
  obtain ⟨u1, h1, hf⟩ := xk_bi hf
  cases hf
  refine xk_widen (k := 0) (n := 0) (Nat.le_of_ble_eq_true rfl) (Nat.le_of_ble_eq_true rfl) ?_
  exact xk_iret hC hr (xk_zb_e h1) dJx4a65c_isEmpty_aae02_12
def f_Jx4a65c_isEmpty_aae02 (x0 : Option Nat) (w : xWd) : Option (Int32 × xWd) := (xk_gI w (x0) 4 2).bind (fun v1 => if (v1) = ((0 : Int32)) then f_Jx4a65c_isEmpty_aae02_12 ((1 : Int32)) w else f_Jx4a65c_isEmpty_aae02_12 ((0 : Int32)) w)
set_option maxHeartbeats 4000000 in
set_option maxRecDepth 100000 in
theorem t_Jx4a65c_isEmpty_aae02_0 {p : Program} {l : Launch} {e : Env} {s : State} {m : MethodId} {args : Array Value} {below : List Frame} {meth : Method} {c : Code} {E : xEv} (hC : xk_C p s m args meth c E prog_31_method_9_code "java/util/ArrayList" 1) (hr : meth.sig.returnType = (some .boolean)) {q : (Int32 × xWd)} (x0 : Option Nat) (w : xWd) (hf : f_Jx4a65c_isEmpty_aae02 x0 w = some q) : xk_X p l e { frames := 0, cells := 0, slots := 0, locals := 0 } s m args below meth c (MQ below (xk_Qi E q) args s 0 0 (xk_A E.2.2.1)) E 1 0 0 0 [(0, va_rf (x0))] [] w := by
  refine xk_aload_n hC dJx4a65c_isEmpty_aae02_0 0 rfl rfl ?_
  obtain ⟨v1, h1, hf⟩ := xk_bi hf
  refine xk_getI hC xi_4 xc_4 2 (by decide) xm_54 (Or.inl rfl) dJx4a65c_isEmpty_aae02_1 h1 ?_
  refine xk_if_ne (tgt := 11) hC dJx4a65c_isEmpty_aae02_4 (by decide) (fun c2 => ?_) (fun c2 => ?_)
  · replace hf := (if_neg c2).symm.trans hf
    refine xk_iconst (v := (0 : Int32)) hC dJx4a65c_isEmpty_aae02_11 (by decide) ?_
    refine xk_locals [] rfl ?_
    exact t_Jx4a65c_isEmpty_aae02_12 hC hr ((0 : Int32)) w hf
  · replace hf := (if_pos c2).symm.trans hf
    refine xk_iconst (v := (1 : Int32)) hC dJx4a65c_isEmpty_aae02_7 (by decide) ?_
    refine xk_goto (tgt := 12) hC dJx4a65c_isEmpty_aae02_8 (by decide) ?_
    refine xk_locals [] rfl ?_
    exact t_Jx4a65c_isEmpty_aae02_12 hC hr ((1 : Int32)) w hf
theorem xd_Jx4a65c_isEmpty_aae02 : xy_Jx4a65c_isEmpty_aae02.cls ≠ "java/lang/invoke/MethodHandle" ∧ xy_Jx4a65c_isEmpty_aae02.cls ≠ "java/lang/invoke/VarHandle" ∧ (parseMethodDescriptor xy_Jx4a65c_isEmpty_aae02.desc).map (fun d => d.parameters.length) = some 0 := ⟨by decide +kernel, by decide +kernel, by decide +kernel⟩
theorem c_Jx4a65c_isEmpty_aae02 {l : Launch} {E : xEv} {x0 : Option Nat} {w : xWd} {q : (Int32 × xWd)} (hf : f_Jx4a65c_isEmpty_aae02 x0 w = some q) : xk_M l xy_Jx4a65c_isEmpty_aae02 prog_31_method_9_code 1 (some .boolean) 0 0 0 0 E [va_rf (x0)] w (xk_Qi E q) := by
  refine xk_enter (by decide +kernel) (by simp [lg_sl, xk_cat1, xk_cati, xk_catl, xk_catd]) ?_
  intro p e s m args below meth c hC hr hin ha
  rw [show lv_args 0 [va_rf (x0)] = [(0, va_rf (x0))] by simp [lv_args, xk_cat1, xk_cati, xk_catl, xk_catd]]
  exact t_Jx4a65c_isEmpty_aae02_0 hC hr x0 w hf
