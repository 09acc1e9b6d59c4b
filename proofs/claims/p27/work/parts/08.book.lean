def f_X4_init (x0 : Nat) (w : xWd) : Option xWd := (some (xk_nw w 5 xf_5)).bind (fun w1 => (f_Jx4a65c_init_da8c8 (w.2.1)  w1).bind (fun q2 => (xk_pV q2 (some x0) 0 0 (va_rf (some w.2.1))).bind (fun w3 => (xk_nA w3 0 xk_d0 ((4 : Int32)) 64).bind (fun w4 => (xk_pV w4 (some x0) 0 1 (va_rf (some w3.2.1))).bind (fun w5 => (some (xk_nw w5 5 xf_5)).bind (fun w6 => (f_Jx4a65c_init_da8c8 (w5.2.1)  w6).bind (fun q7 => (xk_pV q7 (some x0) 0 3 (va_rf (some w5.2.1))).bind (fun w8 => (some (xk_nw w8 5 xf_5)).bind (fun w9 => (f_Jx4a65c_init_da8c8 (w8.2.1)  w9).bind (fun q10 => (xk_pV q10 (some x0) 0 4 (va_rf (some w8.2.1))).bind (fun w11 => (xk_pV w11 (some x0) 0 5 (.int ((2400 : Int32)))).bind (fun w12 => (some (xk_nw w12 3 xf_3)).bind (fun w13 => (f_X2_init (w12.2.1)  w13).bind (fun q14 => (xk_pV q14 (some x0) 0 10 (va_rf (some w12.2.1))).bind (fun w15 => (xk_nA w15 0 xk_d0 ((63 : Int32)) 64).bind (fun w16 => (xk_pV w16 (some x0) 0 11 (va_rf (some w15.2.1))).bind (fun w17 => (xk_nA w17 1 xk_d0 ((12 : Int32)) 64).bind (fun w18 => (xk_pV w18 (some x0) 0 12 (va_rf (some w17.2.1))).bind (fun w19 => some w19)))))))))))))))))))
set_option maxHeartbeats 4000000 in
set_option maxRecDepth 100000 in
theorem t_X4_init_0 {p : Program} {l : Launch} {e : Env} {s : State} {m : MethodId} {args : Array Value} {below : List Frame} {meth : Method} {c : Code} {E : xEv} (hC : xk_C p s m args meth c E prog_1_method_1_code "Clickbook" 1) (hr : meth.sig.returnType = none) (hin : meth.name = "<init>") {q : xWd} (x0 : Nat) (w : xWd) (hf : f_X4_init x0 w = some q) : xk_X p l e { frames := 5, cells := 9, slots := 567, locals := 100 } s m args below meth c (MQ below (xk_Qv E q) args s 9 567 (xk_A E.2.2.1)) E 1 0 0 0 [(0, va_rf (some x0))] [] w := by
  refine xk_aload_n hC dX4_init_0 0 rfl rfl ?_
  refine xk_objI hC xm_26 xm_27 xm_28 dX4_init_1 (Nat.le_of_ble_eq_true rfl) (Nat.le_of_ble_eq_true rfl) ?_
  refine xk_aload_n hC dX4_init_4 0 rfl rfl ?_
  obtain ⟨w1, h1, hf⟩ := xk_bi hf
  refine xk_newH hC xi_5 xc_5 xo_5 xm_29 xm_30 xm_4 xfo_5 (Nat.le_of_ble_eq_true rfl) (Nat.le_of_ble_eq_true rfl) dX4_init_5 h1 ?_
  refine xk_dup hC dX4_init_8 (xk_cat1 _) ?_
  obtain ⟨q2, h2, hf⟩ := xk_bi hf
  refine xk_backv (xk_callI hC 0 (c_Jx4a65c_init_da8c8 h2) xm_31 xm_32 xm_4 xm_33 rfl xd_Jx4a65c_init_da8c8 rfl ⟨Nat.le_of_ble_eq_true rfl, Nat.le_of_ble_eq_true rfl⟩ rfl (Nat.le_of_ble_eq_true rfl) dX4_init_9 ⟨(Nat.le_of_ble_eq_true rfl), (Nat.le_of_ble_eq_true rfl)⟩) ?_
  obtain ⟨w3, h3, hf⟩ := xk_bi hf
  refine xk_putF hC xi_0 xc_0 xo_0 xn_0 0 (by decide) xm_74 (Or.inl rfl) rfl hin rfl (xk_nr _ _) (xk_fr _ _) dX4_init_12 h3 ?_
  refine xk_aload_n hC dX4_init_15 0 rfl rfl ?_
  refine xk_iconst (v := (4 : Int32)) hC dX4_init_16 (by decide) ?_
  obtain ⟨w4, h4, hf⟩ := xk_bi hf
  refine xk_newarr (cap := 64) (atype := .int) (ty := .int) (kd := 0) hC rfl xm_73 (by decide) rfl (fun _ _ => rfl) (Nat.le_of_ble_eq_true rfl) (Nat.le_of_ble_eq_true rfl) (Nat.le_of_ble_eq_true rfl) dX4_init_17 h4 ?_
  obtain ⟨w5, h5, hf⟩ := xk_bi hf
  refine xk_putF hC xi_0 xc_0 xo_0 xn_0 1 (by decide) xm_75 (Or.inl rfl) rfl hin rfl (xk_nra _ _) (xk_fra _ _) dX4_init_19 h5 ?_
  refine xk_aload_n hC dX4_init_22 0 rfl rfl ?_
  obtain ⟨w6, h6, hf⟩ := xk_bi hf
  refine xk_newH hC xi_5 xc_5 xo_5 xm_29 xm_30 xm_4 xfo_5 (Nat.le_of_ble_eq_true rfl) (Nat.le_of_ble_eq_true rfl) dX4_init_23 h6 ?_
  refine xk_dup hC dX4_init_26 (xk_cat1 _) ?_
  obtain ⟨q7, h7, hf⟩ := xk_bi hf
  refine xk_backv (xk_callI hC 0 (c_Jx4a65c_init_da8c8 h7) xm_31 xm_32 xm_4 xm_33 rfl xd_Jx4a65c_init_da8c8 rfl ⟨Nat.le_of_ble_eq_true rfl, Nat.le_of_ble_eq_true rfl⟩ rfl (Nat.le_of_ble_eq_true rfl) dX4_init_27 ⟨(Nat.le_of_ble_eq_true rfl), (Nat.le_of_ble_eq_true rfl)⟩) ?_
  obtain ⟨w8, h8, hf⟩ := xk_bi hf
  refine xk_putF hC xi_0 xc_0 xo_0 xn_0 3 (by decide) xm_77 (Or.inl rfl) rfl hin rfl (xk_nr _ _) (xk_fr _ _) dX4_init_30 h8 ?_
  refine xk_aload_n hC dX4_init_33 0 rfl rfl ?_
  obtain ⟨w9, h9, hf⟩ := xk_bi hf
  refine xk_newH hC xi_5 xc_5 xo_5 xm_29 xm_30 xm_4 xfo_5 (Nat.le_of_ble_eq_true rfl) (Nat.le_of_ble_eq_true rfl) dX4_init_34 h9 ?_
  refine xk_dup hC dX4_init_37 (xk_cat1 _) ?_
  obtain ⟨q10, h10, hf⟩ := xk_bi hf
  refine xk_backv (xk_callI hC 0 (c_Jx4a65c_init_da8c8 h10) xm_31 xm_32 xm_4 xm_33 rfl xd_Jx4a65c_init_da8c8 rfl ⟨Nat.le_of_ble_eq_true rfl, Nat.le_of_ble_eq_true rfl⟩ rfl (Nat.le_of_ble_eq_true rfl) dX4_init_38 ⟨(Nat.le_of_ble_eq_true rfl), (Nat.le_of_ble_eq_true rfl)⟩) ?_
  obtain ⟨w11, h11, hf⟩ := xk_bi hf
  refine xk_putF hC xi_0 xc_0 xo_0 xn_0 4 (by decide) xm_78 (Or.inl rfl) rfl hin rfl (xk_nr _ _) (xk_fr _ _) dX4_init_41 h11 ?_
  refine xk_aload_n hC dX4_init_44 0 rfl rfl ?_
  refine xk_sipush (v := (2400 : Int32)) hC dX4_init_45 (by decide) ?_
  obtain ⟨w12, h12, hf⟩ := xk_bi hf
  refine xk_put hC xi_0 xc_0 xo_0 xn_0 5 (by decide) xm_79 (Or.inl rfl) rfl rfl rfl dX4_init_48 h12 ?_
  refine xk_aload_n hC dX4_init_51 0 rfl rfl ?_
  obtain ⟨w13, h13, hf⟩ := xk_bi hf
  refine xk_newH hC xi_3 xc_3 xo_3 xm_55 xm_56 xm_5 xfo_3 (Nat.le_of_ble_eq_true rfl) (Nat.le_of_ble_eq_true rfl) dX4_init_52 h13 ?_
  refine xk_dup hC dX4_init_55 (xk_cat1 _) ?_
  obtain ⟨q14, h14, hf⟩ := xk_bi hf
  refine xk_backv (xk_callI hC 0 (c_X2_init h14) xm_57 xm_58 xm_5 xm_59 rfl xd_X2_init rfl ⟨Nat.le_of_ble_eq_true rfl, Nat.le_of_ble_eq_true rfl⟩ rfl (Nat.le_of_ble_eq_true rfl) dX4_init_56 ⟨(Nat.le_of_ble_eq_true rfl), (Nat.le_of_ble_eq_true rfl)⟩) ?_
  obtain ⟨w15, h15, hf⟩ := xk_bi hf
  refine xk_putF hC xi_0 xc_0 xo_0 xn_0 10 (by decide) xm_84 (Or.inl rfl) rfl hin rfl (xk_nr _ _) (xk_fr _ _) dX4_init_59 h15 ?_
  refine xk_aload_n hC dX4_init_62 0 rfl rfl ?_
  refine xk_bipush (v := (63 : Int32)) hC dX4_init_63 (by decide) ?_
  obtain ⟨w16, h16, hf⟩ := xk_bi hf
  refine xk_newarr (cap := 64) (atype := .int) (ty := .int) (kd := 0) hC rfl xm_73 (by decide) rfl (fun _ _ => rfl) (Nat.le_of_ble_eq_true rfl) (Nat.le_of_ble_eq_true rfl) (Nat.le_of_ble_eq_true rfl) dX4_init_65 h16 ?_
  obtain ⟨w17, h17, hf⟩ := xk_bi hf
  refine xk_putF hC xi_0 xc_0 xo_0 xn_0 11 (by decide) xm_85 (Or.inl rfl) rfl hin rfl (xk_nra _ _) (xk_fra _ _) dX4_init_67 h17 ?_
  refine xk_aload_n hC dX4_init_70 0 rfl rfl ?_
  refine xk_bipush (v := (12 : Int32)) hC dX4_init_71 (by decide) ?_
  obtain ⟨w18, h18, hf⟩ := xk_bi hf
  refine xk_newarr (cap := 64) (atype := .boolean) (ty := .boolean) (kd := 1) hC rfl xm_114 (by decide) rfl (fun _ _ => rfl) (Nat.le_of_ble_eq_true rfl) (Nat.le_of_ble_eq_true rfl) (Nat.le_of_ble_eq_true rfl) dX4_init_73 h18 ?_
  obtain ⟨w19, h19, hf⟩ := xk_bi hf
  refine xk_putF hC xi_0 xc_0 xo_0 xn_0 12 (by decide) xm_86 (Or.inl rfl) rfl hin rfl (xk_nra _ _) (xk_fra _ _) dX4_init_75 h19 ?_
  cases hf
  refine xk_widen (k := 9) (n := 567) (Nat.le_of_ble_eq_true rfl) (Nat.le_of_ble_eq_true rfl) ?_
  exact xk_vret hC hr dX4_init_78
theorem xd_X4_init : xy_X4_init.cls ≠ "java/lang/invoke/MethodHandle" ∧ xy_X4_init.cls ≠ "java/lang/invoke/VarHandle" ∧ (parseMethodDescriptor xy_X4_init.desc).map (fun d => d.parameters.length) = some 0 := ⟨by decide +kernel, by decide +kernel, by decide +kernel⟩
theorem c_X4_init {l : Launch} {E : xEv} {x0 : Nat} {w : xWd} {q : xWd} (hf : f_X4_init x0 w = some q) : xk_M l xy_X4_init prog_1_method_1_code 1 none 5 100 9 567 E [va_rf (some x0)] w (xk_Qv E q) := by
  refine xk_enter (by decide +kernel) (by simp [lg_sl, xk_cat1, xk_cati, xk_catl, xk_catd]) ?_
  intro p e s m args below meth c hC hr hin ha
  rw [show lv_args 0 [va_rf (some x0)] = [(0, va_rf (some x0))] by simp [lv_args, xk_cat1, xk_cati, xk_catl, xk_catd]]
  exact t_X4_init_0 hC hr (hin rfl) x0 w hf
def f_X4_hit_22 (w : xWd) : Option (Int32 × xWd) := none
set_option maxHeartbeats 4000000 in
set_option maxRecDepth 100000 in
theorem t_X4_hit_22 {p : Program} {l : Launch} {e : Env} {s : State} {m : MethodId} {args : Array Value} {below : List Frame} {meth : Method} {c : Code} {E : xEv} (hC : xk_C p s m args meth c E prog_1_method_2_code "Clickbook" 3) (hr : meth.sig.returnType = (some .int)) {q : (Int32 × xWd)} (w : xWd) (hf : f_X4_hit_22 w = some q) : xk_X p l e { frames := 7, cells := 2, slots := 67, locals := 170 } s m args below meth c (MQ below (xk_Qi E q) args s 2 67 (xk_A E.2.2.1)) E 3 0 0 22 [] [] w := by
  cases hf
def f_X4_hit (x0 : Option Nat) (x1 : Int32) (x2 : Int32) (w : xWd) : Option (Int32 × xWd) := if (x1) < ((0 : Int32)) then f_X4_hit_22 w else (xk_gI w (x0) 0 5).bind (fun v2 => if (v2) ≤ (x1) then f_X4_hit_22 w else if (x2) < ((0 : Int32)) then f_X4_hit_22 w else if (x2) ≤ ((9 : Int32)) then (xk_gR w (x0) 0 0).bind (fun v6 => (xk_is w (v6) 5).bind (fun u8 => (f_Jx4a65c_size_8abf5 (v6)  w).bind (fun q7 => if (q7.1) < ((12 : Int32)) then (xk_gR q7.2 (x0) 0 0).bind (fun v10 => (some (xk_nw q7.2 2 xf_2)).bind (fun w11 => (f_X1_init (q7.2.2.1) (x1) (x2) w11).bind (fun q12 => (xk_is q12 (v10) 5).bind (fun u14 => (f_Jx4a65c_add_9ea2d (v10) (some q7.2.2.1) q12).bind (fun q13 => (xk_gR q13.2 (x0) 0 0).bind (fun v15 => (xk_is q13.2 (v15) 5).bind (fun u17 => (f_Jx4a65c_size_8abf5 (v15)  q13.2).bind (fun q16 => some ((q16.1) - ((1 : Int32)), q16.2))))))))) else none))) else f_X4_hit_22 w)
set_option maxHeartbeats 4000000 in
set_option maxRecDepth 100000 in
theorem t_X4_hit_0 {p : Program} {l : Launch} {e : Env} {s : State} {m : MethodId} {args : Array Value} {below : List Frame} {meth : Method} {c : Code} {E : xEv} (hC : xk_C p s m args meth c E prog_1_method_2_code "Clickbook" 3) (hr : meth.sig.returnType = (some .int)) {q : (Int32 × xWd)} (x0 : Option Nat) (x1 : Int32) (x2 : Int32) (w : xWd) (hf : f_X4_hit x0 x1 x2 w = some q) : xk_X p l e { frames := 7, cells := 2, slots := 67, locals := 170 } s m args below meth c (MQ below (xk_Qi E q) args s 2 67 (xk_A E.2.2.1)) E 3 0 0 0 [(0, va_rf (x0)), (1, .int (x1)), (2, .int (x2))] [] w := by
  refine xk_iload_n hC dX4_hit_0 1 rfl rfl ?_
  refine xk_if_lt (tgt := 22) hC dX4_hit_1 (by decide) (fun c1 => ?_) (fun c1 => ?_)
  · replace hf := (if_pos c1).symm.trans hf
    refine xk_locals [] rfl ?_
    exact t_X4_hit_22 hC hr w hf
  · replace hf := (if_neg c1).symm.trans hf
    refine xk_iload_n hC dX4_hit_4 1 rfl rfl ?_
    refine xk_aload_n hC dX4_hit_5 0 rfl rfl ?_
    obtain ⟨v2, h2, hf⟩ := xk_bi hf
    refine xk_getI hC xi_0 xc_0 5 (by decide) xm_79 (Or.inl rfl) dX4_hit_6 h2 ?_
    refine xk_icmp_ge (tgt := 22) hC dX4_hit_9 (by decide) (fun c3 => ?_) (fun c3 => ?_)
    · replace hf := (if_pos c3).symm.trans hf
      refine xk_locals [] rfl ?_
      exact t_X4_hit_22 hC hr w hf
    · replace hf := (if_neg c3).symm.trans hf
      refine xk_iload_n hC dX4_hit_12 2 rfl rfl ?_
      refine xk_if_lt (tgt := 22) hC dX4_hit_13 (by decide) (fun c4 => ?_) (fun c4 => ?_)
      · replace hf := (if_pos c4).symm.trans hf
        refine xk_locals [] rfl ?_
        exact t_X4_hit_22 hC hr w hf
      · replace hf := (if_neg c4).symm.trans hf
        refine xk_iload_n hC dX4_hit_16 2 rfl rfl ?_
        refine xk_bipush (v := (9 : Int32)) hC dX4_hit_17 (by decide) ?_
        refine xk_icmp_le (tgt := 32) hC dX4_hit_19 (by decide) (fun c5 => ?_) (fun c5 => ?_)
        · replace hf := (if_pos c5).symm.trans hf
          refine xk_aload_n hC dX4_hit_32 0 rfl rfl ?_
          obtain ⟨v6, h6, hf⟩ := xk_bi hf
          refine xk_getR hC xi_0 xc_0 0 (by decide) xm_74 (Or.inl rfl) dX4_hit_33 h6 ?_
          obtain ⟨u8, h8, hf⟩ := xk_bi hf
          obtain ⟨q7, h7, hf⟩ := xk_bi hf
          refine xk_backi (xk_callV hC 0 xc_5 (c_Jx4a65c_size_8abf5 h7) h8 xm_187 xm_188 xm_189 xm_4 xm_190 ⟨rfl, xd_Jx4a65c_size_8abf5⟩ rfl ⟨Nat.le_of_ble_eq_true rfl, Nat.le_of_ble_eq_true rfl⟩ rfl (Nat.le_of_ble_eq_true rfl) dX4_hit_36 ⟨(Nat.le_of_ble_eq_true rfl), (Nat.le_of_ble_eq_true rfl)⟩) ?_
          refine xk_bipush (v := (12 : Int32)) hC dX4_hit_39 (by decide) ?_
          refine xk_icmp_lt (tgt := 54) hC dX4_hit_41 (by decide) (fun c9 => ?_) (fun c9 => ?_)
          · replace hf := (if_pos c9).symm.trans hf
            refine xk_aload_n hC dX4_hit_54 0 rfl rfl ?_
            obtain ⟨v10, h10, hf⟩ := xk_bi hf
            refine xk_getR hC xi_0 xc_0 0 (by decide) xm_74 (Or.inl rfl) dX4_hit_55 h10 ?_
            obtain ⟨w11, h11, hf⟩ := xk_bi hf
            refine xk_newH hC xi_2 xc_2 xo_2 xm_207 xm_208 xm_11 xfo_2 (Nat.le_of_ble_eq_true rfl) (Nat.le_of_ble_eq_true rfl) dX4_hit_58 h11 ?_
            refine xk_dup hC dX4_hit_61 (xk_cat1 _) ?_
            refine xk_iload_n hC dX4_hit_62 1 rfl rfl ?_
            refine xk_iload_n hC dX4_hit_63 2 rfl rfl ?_
            obtain ⟨q12, h12, hf⟩ := xk_bi hf
            refine xk_backv (xk_callI hC 2 (c_X1_init h12) xm_209 xm_210 xm_11 xm_211 rfl xd_X1_init rfl ⟨Nat.le_of_ble_eq_true rfl, Nat.le_of_ble_eq_true rfl⟩ rfl (by simp [xk_cat1, xk_cati, xk_catl, xk_catd]) dX4_hit_64 ⟨(Nat.le_of_ble_eq_true rfl), (Nat.le_of_ble_eq_true rfl)⟩) ?_
            obtain ⟨u14, h14, hf⟩ := xk_bi hf
            obtain ⟨q13, h13, hf⟩ := xk_bi hf
            refine xk_backi (xk_callV hC 1 xc_5 (c_Jx4a65c_add_9ea2d h13) h14 xm_226 xm_227 xm_228 xm_4 xm_229 ⟨rfl, xd_Jx4a65c_add_9ea2d⟩ rfl ⟨Nat.le_of_ble_eq_true rfl, Nat.le_of_ble_eq_true rfl⟩ rfl (Nat.le_of_ble_eq_true rfl) dX4_hit_67 ⟨(Nat.le_of_ble_eq_true rfl), (Nat.le_of_ble_eq_true rfl)⟩) ?_
            refine xk_pop hC dX4_hit_70 rfl ?_
            refine xk_aload_n hC dX4_hit_71 0 rfl rfl ?_
            obtain ⟨v15, h15, hf⟩ := xk_bi hf
            refine xk_getR hC xi_0 xc_0 0 (by decide) xm_74 (Or.inl rfl) dX4_hit_72 h15 ?_
            obtain ⟨u17, h17, hf⟩ := xk_bi hf
            obtain ⟨q16, h16, hf⟩ := xk_bi hf
            refine xk_backi (xk_callV hC 0 xc_5 (c_Jx4a65c_size_8abf5 h16) h17 xm_187 xm_188 xm_189 xm_4 xm_190 ⟨rfl, xd_Jx4a65c_size_8abf5⟩ rfl ⟨Nat.le_of_ble_eq_true rfl, Nat.le_of_ble_eq_true rfl⟩ rfl (Nat.le_of_ble_eq_true rfl) dX4_hit_75 ⟨(Nat.le_of_ble_eq_true rfl), (Nat.le_of_ble_eq_true rfl)⟩) ?_
            refine xk_iconst (v := (1 : Int32)) hC dX4_hit_78 (by decide) ?_
            refine xk_isub hC dX4_hit_79 ?_
            cases hf
            refine xk_widen (k := 2) (n := 67) (Nat.le_of_ble_eq_true rfl) (Nat.le_of_ble_eq_true rfl) ?_
            exact xk_iret hC hr rfl dX4_hit_80
          · replace hf := (if_neg c9).symm.trans hf
            cases hf
        · replace hf := (if_neg c5).symm.trans hf
          refine xk_locals [] rfl ?_
          exact t_X4_hit_22 hC hr w hf
theorem xd_X4_hit : xy_X4_hit.cls ≠ "java/lang/invoke/MethodHandle" ∧ xy_X4_hit.cls ≠ "java/lang/invoke/VarHandle" ∧ (parseMethodDescriptor xy_X4_hit.desc).map (fun d => d.parameters.length) = some 2 := ⟨by decide +kernel, by decide +kernel, by decide +kernel⟩
theorem c_X4_hit {l : Launch} {E : xEv} {x0 : Option Nat} {x1 : Int32} {x2 : Int32} {w : xWd} {q : (Int32 × xWd)} (hf : f_X4_hit x0 x1 x2 w = some q) : xk_M l xy_X4_hit prog_1_method_2_code 3 (some .int) 7 170 2 67 E [va_rf (x0), .int (x1), .int (x2)] w (xk_Qi E q) := by
  refine xk_enter (by decide +kernel) (by simp [lg_sl, xk_cat1, xk_cati, xk_catl, xk_catd]) ?_
  intro p e s m args below meth c hC hr hin ha
  rw [show lv_args 0 [va_rf (x0), .int (x1), .int (x2)] = [(0, va_rf (x0)), (1, .int (x1)), (2, .int (x2))] by simp [lv_args, xk_cat1, xk_cati, xk_catl, xk_catd]]
  exact t_X4_hit_0 hC hr x0 x1 x2 w hf
def f_X4_theme_12 (w : xWd) : Option (Int32 × xWd) := none
set_option maxHeartbeats 4000000 in
set_option maxRecDepth 100000 in
theorem t_X4_theme_12 {p : Program} {l : Launch} {e : Env} {s : State} {m : MethodId} {args : Array Value} {below : List Frame} {meth : Method} {c : Code} {E : xEv} (hC : xk_C p s m args meth c E prog_1_method_3_code "Clickbook" 2) (hr : meth.sig.returnType = (some .int)) {q : (Int32 × xWd)} (w : xWd) (hf : f_X4_theme_12 w = some q) : xk_X p l e { frames := 0, cells := 0, slots := 0, locals := 0 } s m args below meth c (MQ below (xk_Qi E q) args s 0 0 (xk_A E.2.2.1)) E 2 0 0 12 [] [] w := by
  cases hf
def f_X4_theme (x0 : Option Nat) (x1 : Int32) (w : xWd) : Option (Int32 × xWd) := if (x1) < ((0 : Int32)) then f_X4_theme_12 w else (xk_gI w (x0) 0 5).bind (fun v2 => if (x1) ≤ (v2) then (xk_gI w (x0) 0 2).bind (fun v4 => if (v4) < ((4 : Int32)) then (xk_gR w (x0) 0 1).bind (fun v6 => (xk_gI w (x0) 0 2).bind (fun v7 => (xk_sI 0 w (v6) (v7) (x1)).bind (fun w8 => (xk_gI w8 (x0) 0 2).bind (fun v9 => (xk_pV w8 (x0) 0 2 (.int ((v9) + ((1 : Int32))))).bind (fun w10 => (xk_gI w10 (x0) 0 2).bind (fun v11 => some ((v11) - ((1 : Int32)), w10))))))) else none) else f_X4_theme_12 w)
set_option maxHeartbeats 4000000 in
set_option maxRecDepth 100000 in
theorem t_X4_theme_0 {p : Program} {l : Launch} {e : Env} {s : State} {m : MethodId} {args : Array Value} {below : List Frame} {meth : Method} {c : Code} {E : xEv} (hC : xk_C p s m args meth c E prog_1_method_3_code "Clickbook" 2) (hr : meth.sig.returnType = (some .int)) {q : (Int32 × xWd)} (x0 : Option Nat) (x1 : Int32) (w : xWd) (hf : f_X4_theme x0 x1 w = some q) : xk_X p l e { frames := 0, cells := 0, slots := 0, locals := 0 } s m args below meth c (MQ below (xk_Qi E q) args s 0 0 (xk_A E.2.2.1)) E 2 0 0 0 [(0, va_rf (x0)), (1, .int (x1))] [] w := by
  refine xk_iload_n hC dX4_theme_0 1 rfl rfl ?_
  refine xk_if_lt (tgt := 12) hC dX4_theme_1 (by decide) (fun c1 => ?_) (fun c1 => ?_)
  · replace hf := (if_pos c1).symm.trans hf
    refine xk_locals [] rfl ?_
    exact t_X4_theme_12 hC hr w hf
  · replace hf := (if_neg c1).symm.trans hf
    refine xk_iload_n hC dX4_theme_4 1 rfl rfl ?_
    refine xk_aload_n hC dX4_theme_5 0 rfl rfl ?_
    obtain ⟨v2, h2, hf⟩ := xk_bi hf
    refine xk_getI hC xi_0 xc_0 5 (by decide) xm_79 (Or.inl rfl) dX4_theme_6 h2 ?_
    refine xk_icmp_le (tgt := 22) hC dX4_theme_9 (by decide) (fun c3 => ?_) (fun c3 => ?_)
    · replace hf := (if_pos c3).symm.trans hf
      refine xk_aload_n hC dX4_theme_22 0 rfl rfl ?_
      obtain ⟨v4, h4, hf⟩ := xk_bi hf
      refine xk_getI hC xi_0 xc_0 2 (by decide) xm_76 (Or.inl rfl) dX4_theme_23 h4 ?_
      refine xk_iconst (v := (4 : Int32)) hC dX4_theme_26 (by decide) ?_
      refine xk_icmp_lt (tgt := 40) hC dX4_theme_27 (by decide) (fun c5 => ?_) (fun c5 => ?_)
      · replace hf := (if_pos c5).symm.trans hf
        refine xk_aload_n hC dX4_theme_40 0 rfl rfl ?_
        obtain ⟨v6, h6, hf⟩ := xk_bi hf
        refine xk_getR hC xi_0 xc_0 1 (by decide) xm_75 (Or.inl rfl) dX4_theme_41 h6 ?_
        refine xk_aload_n hC dX4_theme_44 0 rfl rfl ?_
        obtain ⟨v7, h7, hf⟩ := xk_bi hf
        refine xk_getI hC xi_0 xc_0 2 (by decide) xm_76 (Or.inl rfl) dX4_theme_45 h7 ?_
        refine xk_iload_n hC dX4_theme_48 1 rfl rfl ?_
        obtain ⟨w8, h8, hf⟩ := xk_bi hf
        refine xk_iast hC rfl dX4_theme_49 h8 ?_
        refine xk_aload_n hC dX4_theme_50 0 rfl rfl ?_
        refine xk_dup hC dX4_theme_51 (xk_cat1 _) ?_
        obtain ⟨v9, h9, hf⟩ := xk_bi hf
        refine xk_getI hC xi_0 xc_0 2 (by decide) xm_76 (Or.inl rfl) dX4_theme_52 h9 ?_
        refine xk_iconst (v := (1 : Int32)) hC dX4_theme_55 (by decide) ?_
        refine xk_iadd hC dX4_theme_56 ?_
        obtain ⟨w10, h10, hf⟩ := xk_bi hf
        refine xk_put hC xi_0 xc_0 xo_0 xn_0 2 (by decide) xm_76 (Or.inl rfl) rfl rfl rfl dX4_theme_57 h10 ?_
        refine xk_aload_n hC dX4_theme_60 0 rfl rfl ?_
        obtain ⟨v11, h11, hf⟩ := xk_bi hf
        refine xk_getI hC xi_0 xc_0 2 (by decide) xm_76 (Or.inl rfl) dX4_theme_61 h11 ?_
        refine xk_iconst (v := (1 : Int32)) hC dX4_theme_64 (by decide) ?_
        refine xk_isub hC dX4_theme_65 ?_
        cases hf
        refine xk_widen (k := 0) (n := 0) (Nat.le_of_ble_eq_true rfl) (Nat.le_of_ble_eq_true rfl) ?_
        exact xk_iret hC hr rfl dX4_theme_66
      · replace hf := (if_neg c5).symm.trans hf
        cases hf
    · replace hf := (if_neg c3).symm.trans hf
      refine xk_locals [] rfl ?_
      exact t_X4_theme_12 hC hr w hf
theorem xd_X4_theme : xy_X4_theme.cls ≠ "java/lang/invoke/MethodHandle" ∧ xy_X4_theme.cls ≠ "java/lang/invoke/VarHandle" ∧ (parseMethodDescriptor xy_X4_theme.desc).map (fun d => d.parameters.length) = some 1 := ⟨by decide +kernel, by decide +kernel, by decide +kernel⟩
theorem c_X4_theme {l : Launch} {E : xEv} {x0 : Option Nat} {x1 : Int32} {w : xWd} {q : (Int32 × xWd)} (hf : f_X4_theme x0 x1 w = some q) : xk_M l xy_X4_theme prog_1_method_3_code 2 (some .int) 0 0 0 0 E [va_rf (x0), .int (x1)] w (xk_Qi E q) := by
  refine xk_enter (by decide +kernel) (by simp [lg_sl, xk_cat1, xk_cati, xk_catl, xk_catd]) ?_
  intro p e s m args below meth c hC hr hin ha
  rw [show lv_args 0 [va_rf (x0), .int (x1)] = [(0, va_rf (x0)), (1, .int (x1))] by simp [lv_args, xk_cat1, xk_cati, xk_catl, xk_catd]]
  exact t_X4_theme_0 hC hr x0 x1 w hf
def f_X4_refuseBadCut_30 (w : xWd) : Option xWd := none
set_option maxHeartbeats 4000000 in
set_option maxRecDepth 100000 in
theorem t_X4_refuseBadCut_30 {p : Program} {l : Launch} {e : Env} {s : State} {m : MethodId} {args : Array Value} {below : List Frame} {meth : Method} {c : Code} {E : xEv} (hC : xk_C p s m args meth c E prog_1_method_6_code "Clickbook" 3) (hr : meth.sig.returnType = none) {q : xWd} (w : xWd) (hf : f_X4_refuseBadCut_30 w = some q) : xk_X p l e { frames := 0, cells := 0, slots := 0, locals := 0 } s m args below meth c (MQ below (xk_Qv E q) args s 0 0 (xk_A E.2.2.1)) E 3 0 0 30 [] [] w := by
  cases hf
def f_X4_refuseBadCut_65 (w : xWd) : Option xWd := none
set_option maxHeartbeats 4000000 in
set_option maxRecDepth 100000 in
theorem t_X4_refuseBadCut_65 {p : Program} {l : Launch} {e : Env} {s : State} {m : MethodId} {args : Array Value} {below : List Frame} {meth : Method} {c : Code} {E : xEv} (hC : xk_C p s m args meth c E prog_1_method_6_code "Clickbook" 3) (hr : meth.sig.returnType = none) {q : xWd} (w : xWd) (hf : f_X4_refuseBadCut_65 w = some q) : xk_X p l e { frames := 0, cells := 0, slots := 0, locals := 0 } s m args below meth c (MQ below (xk_Qv E q) args s 0 0 (xk_A E.2.2.1)) E 3 0 0 65 [] [] w := by
  cases hf
def f_X4_refuseBadCut_75 (w : xWd) : Option xWd := some w
set_option maxHeartbeats 4000000 in
set_option maxRecDepth 100000 in
theorem t_X4_refuseBadCut_75 {p : Program} {l : Launch} {e : Env} {s : State} {m : MethodId} {args : Array Value} {below : List Frame} {meth : Method} {c : Code} {E : xEv} (hC : xk_C p s m args meth c E prog_1_method_6_code "Clickbook" 3) (hr : meth.sig.returnType = none) {q : xWd} (w : xWd) (hf : f_X4_refuseBadCut_75 w = some q) : xk_X p l e { frames := 0, cells := 0, slots := 0, locals := 0 } s m args below meth c (MQ below (xk_Qv E q) args s 0 0 (xk_A E.2.2.1)) E 3 0 0 75 [] [] w := by
  cases hf
  refine xk_widen (k := 0) (n := 0) (Nat.le_of_ble_eq_true rfl) (Nat.le_of_ble_eq_true rfl) ?_
  exact xk_vret hC hr dX4_refuseBadCut_75
def f_X4_refuseBadCut (x0 : Option Nat) (x1 : Int32) (x2 : Int32) (w : xWd) : Option xWd := if (x1) < ((0 : Int32)) then f_X4_refuseBadCut_30 w else (xk_gI w (x0) 0 5).bind (fun v2 => if (v2) < (x1) then f_X4_refuseBadCut_30 w else if (x2) = ((0 : Int32)) then f_X4_refuseBadCut_30 w else if (x2) < ((-999 : Int32)) then f_X4_refuseBadCut_30 w else if (x2) ≤ ((999 : Int32)) then if ((0 : Int32)) ≤ (x2) then f_X4_refuseBadCut_75 w else (xk_gI w (x0) 0 5).bind (fun v8 => if (v8) < ((x1) - (x2)) then f_X4_refuseBadCut_65 w else (xk_gI w (x0) 0 5).bind (fun v10 => if ((24 : Int32)) ≤ ((v10) + (x2)) then f_X4_refuseBadCut_75 w else f_X4_refuseBadCut_65 w)) else f_X4_refuseBadCut_30 w)
set_option maxHeartbeats 4000000 in
set_option maxRecDepth 100000 in
theorem t_X4_refuseBadCut_0 {p : Program} {l : Launch} {e : Env} {s : State} {m : MethodId} {args : Array Value} {below : List Frame} {meth : Method} {c : Code} {E : xEv} (hC : xk_C p s m args meth c E prog_1_method_6_code "Clickbook" 3) (hr : meth.sig.returnType = none) {q : xWd} (x0 : Option Nat) (x1 : Int32) (x2 : Int32) (w : xWd) (hf : f_X4_refuseBadCut x0 x1 x2 w = some q) : xk_X p l e { frames := 0, cells := 0, slots := 0, locals := 0 } s m args below meth c (MQ below (xk_Qv E q) args s 0 0 (xk_A E.2.2.1)) E 3 0 0 0 [(0, va_rf (x0)), (1, .int (x1)), (2, .int (x2))] [] w := by
  refine xk_iload_n hC dX4_refuseBadCut_0 1 rfl rfl ?_
  refine xk_if_lt (tgt := 30) hC dX4_refuseBadCut_1 (by decide) (fun c1 => ?_) (fun c1 => ?_)
  · replace hf := (if_pos c1).symm.trans hf
    refine xk_locals [] rfl ?_
    exact t_X4_refuseBadCut_30 hC hr w hf
  · replace hf := (if_neg c1).symm.trans hf
    refine xk_iload_n hC dX4_refuseBadCut_4 1 rfl rfl ?_
    refine xk_aload_n hC dX4_refuseBadCut_5 0 rfl rfl ?_
    obtain ⟨v2, h2, hf⟩ := xk_bi hf
    refine xk_getI hC xi_0 xc_0 5 (by decide) xm_79 (Or.inl rfl) dX4_refuseBadCut_6 h2 ?_
    refine xk_icmp_gt (tgt := 30) hC dX4_refuseBadCut_9 (by decide) (fun c3 => ?_) (fun c3 => ?_)
    · replace hf := (if_pos c3).symm.trans hf
      refine xk_locals [] rfl ?_
      exact t_X4_refuseBadCut_30 hC hr w hf
    · replace hf := (if_neg c3).symm.trans hf
      refine xk_iload_n hC dX4_refuseBadCut_12 2 rfl rfl ?_
      refine xk_if_eq (tgt := 30) hC dX4_refuseBadCut_13 (by decide) (fun c4 => ?_) (fun c4 => ?_)
      · replace hf := (if_pos c4).symm.trans hf
        refine xk_locals [] rfl ?_
        exact t_X4_refuseBadCut_30 hC hr w hf
      · replace hf := (if_neg c4).symm.trans hf
        refine xk_iload_n hC dX4_refuseBadCut_16 2 rfl rfl ?_
        refine xk_sipush (v := (-999 : Int32)) hC dX4_refuseBadCut_17 (by decide) ?_
        refine xk_icmp_lt (tgt := 30) hC dX4_refuseBadCut_20 (by decide) (fun c5 => ?_) (fun c5 => ?_)
        · replace hf := (if_pos c5).symm.trans hf
          refine xk_locals [] rfl ?_
          exact t_X4_refuseBadCut_30 hC hr w hf
        · replace hf := (if_neg c5).symm.trans hf
          refine xk_iload_n hC dX4_refuseBadCut_23 2 rfl rfl ?_
          refine xk_sipush (v := (999 : Int32)) hC dX4_refuseBadCut_24 (by decide) ?_
          refine xk_icmp_le (tgt := 40) hC dX4_refuseBadCut_27 (by decide) (fun c6 => ?_) (fun c6 => ?_)
          · replace hf := (if_pos c6).symm.trans hf
            refine xk_iload_n hC dX4_refuseBadCut_40 2 rfl rfl ?_
            refine xk_if_ge (tgt := 75) hC dX4_refuseBadCut_41 (by decide) (fun c7 => ?_) (fun c7 => ?_)
            · replace hf := (if_pos c7).symm.trans hf
              refine xk_locals [] rfl ?_
              exact t_X4_refuseBadCut_75 hC hr w hf
            · replace hf := (if_neg c7).symm.trans hf
              refine xk_iload_n hC dX4_refuseBadCut_44 1 rfl rfl ?_
              refine xk_iload_n hC dX4_refuseBadCut_45 2 rfl rfl ?_
              refine xk_isub hC dX4_refuseBadCut_46 ?_
              refine xk_aload_n hC dX4_refuseBadCut_47 0 rfl rfl ?_
              obtain ⟨v8, h8, hf⟩ := xk_bi hf
              refine xk_getI hC xi_0 xc_0 5 (by decide) xm_79 (Or.inl rfl) dX4_refuseBadCut_48 h8 ?_
              refine xk_icmp_gt (tgt := 65) hC dX4_refuseBadCut_51 (by decide) (fun c9 => ?_) (fun c9 => ?_)
              · replace hf := (if_pos c9).symm.trans hf
                refine xk_locals [] rfl ?_
                exact t_X4_refuseBadCut_65 hC hr w hf
              · replace hf := (if_neg c9).symm.trans hf
                refine xk_aload_n hC dX4_refuseBadCut_54 0 rfl rfl ?_
                obtain ⟨v10, h10, hf⟩ := xk_bi hf
                refine xk_getI hC xi_0 xc_0 5 (by decide) xm_79 (Or.inl rfl) dX4_refuseBadCut_55 h10 ?_
                refine xk_iload_n hC dX4_refuseBadCut_58 2 rfl rfl ?_
                refine xk_iadd hC dX4_refuseBadCut_59 ?_
                refine xk_bipush (v := (24 : Int32)) hC dX4_refuseBadCut_60 (by decide) ?_
                refine xk_icmp_ge (tgt := 75) hC dX4_refuseBadCut_62 (by decide) (fun c11 => ?_) (fun c11 => ?_)
                · replace hf := (if_pos c11).symm.trans hf
                  refine xk_locals [] rfl ?_
                  exact t_X4_refuseBadCut_75 hC hr w hf
                · replace hf := (if_neg c11).symm.trans hf
                  refine xk_locals [] rfl ?_
                  exact t_X4_refuseBadCut_65 hC hr w hf
          · replace hf := (if_neg c6).symm.trans hf
            refine xk_locals [] rfl ?_
            exact t_X4_refuseBadCut_30 hC hr w hf
theorem xd_X4_refuseBadCut : xy_X4_refuseBadCut.cls ≠ "java/lang/invoke/MethodHandle" ∧ xy_X4_refuseBadCut.cls ≠ "java/lang/invoke/VarHandle" ∧ (parseMethodDescriptor xy_X4_refuseBadCut.desc).map (fun d => d.parameters.length) = some 2 := ⟨by decide +kernel, by decide +kernel, by decide +kernel⟩
theorem c_X4_refuseBadCut {l : Launch} {E : xEv} {x0 : Option Nat} {x1 : Int32} {x2 : Int32} {w : xWd} {q : xWd} (hf : f_X4_refuseBadCut x0 x1 x2 w = some q) : xk_M l xy_X4_refuseBadCut prog_1_method_6_code 3 none 0 0 0 0 E [va_rf (x0), .int (x1), .int (x2)] w (xk_Qv E q) := by
  refine xk_enter (by decide +kernel) (by simp [lg_sl, xk_cat1, xk_cati, xk_catl, xk_catd]) ?_
  intro p e s m args below meth c hC hr hin ha
  rw [show lv_args 0 [va_rf (x0), .int (x1), .int (x2)] = [(0, va_rf (x0)), (1, .int (x1)), (2, .int (x2))] by simp [lv_args, xk_cat1, xk_cati, xk_catl, xk_catd]]
  exact t_X4_refuseBadCut_0 hC hr x0 x1 x2 w hf
def f_X4_cutCues_55 (k5 : Option Nat → Int32 → Int32 → Int32 → Int32 → xWd → Option (Int32 × xWd)) (x0 : Option Nat) (x1 : Int32) (x2 : Int32) (x3 : Int32) (x4 : Int32) (x5 : Option Nat) (w : xWd) : Option (Int32 × xWd) := (xk_gI w (x5) 1 1).bind (fun v1 => (f_X4_movedFrame (v1) (x1) (x2) w).bind (fun q2 => (xk_pV q2.2 (x5) 1 1 (.int (q2.1))).bind (fun w3 => k5 x0 x1 x2 x3 (x4 + (1 : Int32)) w3)))
set_option maxHeartbeats 4000000 in
set_option maxRecDepth 100000 in
theorem t_X4_cutCues_55 {p : Program} {l : Launch} {e : Env} {s : State} {m : MethodId} {args : Array Value} {below : List Frame} {meth : Method} {c : Code} {E : xEv} (hC : xk_C p s m args meth c E prog_1_method_5_code "Clickbook" 6) (hr : meth.sig.returnType = (some .int)) {q : (Int32 × xWd)} {k5 : Option Nat → Int32 → Int32 → Int32 → Int32 → xWd → Option (Int32 × xWd)} (hk5 : ∀ (x0 : Option Nat) (x1 : Int32) (x2 : Int32) (x3 : Int32) (x4 : Int32) (w : xWd), k5 x0 x1 x2 x3 x4 w = some q → xk_X p l e { frames := 3, cells := 0, slots := 0, locals := 64 } s m args below meth c (MQ below (xk_Qi E q) args s 0 0 (xk_A E.2.2.1)) E 6 0 0 5 [(0, va_rf (x0)), (1, .int (x1)), (2, .int (x2)), (3, .int (x3)), (4, .int (x4))] [] w) (x0 : Option Nat) (x1 : Int32) (x2 : Int32) (x3 : Int32) (x4 : Int32) (x5 : Option Nat) (w : xWd) (hf : f_X4_cutCues_55 k5 x0 x1 x2 x3 x4 x5 w = some q) : xk_X p l e { frames := 3, cells := 0, slots := 0, locals := 64 } s m args below meth c (MQ below (xk_Qi E q) args s 0 0 (xk_A E.2.2.1)) E 6 0 0 55 [(0, va_rf (x0)), (1, .int (x1)), (2, .int (x2)), (3, .int (x3)), (4, .int (x4)), (5, va_rf (x5))] [] w := by
  refine xk_aload hC dX4_cutCues_55 5 rfl ?_
  refine xk_aload hC dX4_cutCues_57 5 rfl ?_
  obtain ⟨v1, h1, hf⟩ := xk_bi hf
  refine xk_getI hC xi_1 xc_1 1 (by decide) xm_320 (Or.inl rfl) dX4_cutCues_59 h1 ?_
  refine xk_iload_n hC dX4_cutCues_62 1 rfl rfl ?_
  refine xk_iload_n hC dX4_cutCues_63 2 rfl rfl ?_
  obtain ⟨q2, h2, hf⟩ := xk_bi hf
  refine xk_backi (xk_callS hC 3 (c_X4_movedFrame h2) xm_662 xm_663 xm_1 xm_664 xd_X4_movedFrame rfl ⟨Nat.le_of_ble_eq_true rfl, Nat.le_of_ble_eq_true rfl⟩ rfl (by simp [xk_cat1, xk_cati, xk_catl, xk_catd]) dX4_cutCues_64 ⟨(Nat.le_of_ble_eq_true rfl), (Nat.le_of_ble_eq_true rfl)⟩) ?_
  obtain ⟨w3, h3, hf⟩ := xk_bi hf
  refine xk_put hC xi_1 xc_1 xo_1 xn_1 1 (by decide) xm_320 (Or.inl rfl) rfl rfl rfl dX4_cutCues_67 h3 ?_
  refine xk_iinc (v := x4 + (1 : Int32)) (lv' := [(4, .int (x4 + (1 : Int32))), (0, va_rf (x0)), (1, .int (x1)), (2, .int (x2)), (3, .int (x3)), (5, va_rf (x5))]) hC dX4_cutCues_70 4 rfl rfl (by decide) rfl ?_
  refine xk_goto (tgt := 5) hC dX4_cutCues_73 (by decide) ?_
  refine xk_locals [1, 2, 3, 4, 0] rfl ?_
  exact hk5 x0 x1 x2 x3 (x4 + (1 : Int32)) w3 hf
def f_X4_cutCues_5 : Nat → Option Nat → Int32 → Int32 → Int32 → Int32 → xWd → Option (Int32 × xWd)
  | 0, _, _, _, _, _, _ => none
  | n + 1, x0, x1, x2, x3, x4, w => (xk_gR w (x0) 0 3).bind (fun v1 => (xk_is w (v1) 5).bind (fun u3 => (f_Jx4a65c_size_8abf5 (v1)  w).bind (fun q2 => if (q2.1) ≤ (x4) then some (x3, q2.2) else (xk_gR q2.2 (x0) 0 3).bind (fun v5 => (xk_is q2.2 (v5) 5).bind (fun u7 => (f_Jx4a65c_get_915e3 (v5) (x4) q2.2).bind (fun q6 => (xk_cc q6.2 (q6.1) 1).bind (fun u8 => (xk_is q6.2 (q6.1) 1).bind (fun u10 => (f_X0_isTouched (q6.1) (x1) (x2) q6.2).bind (fun q9 => if (q9.1) = ((0 : Int32)) then f_X4_cutCues_55 (f_X4_cutCues_5 n) x0 x1 x2 x3 x4 (q6.1) (q9.2) else (xk_gI q9.2 (q6.1) 1 6).bind (fun v12 => (xk_pV q9.2 (q6.1) 1 6 (.int ((v12) + ((1 : Int32))))).bind (fun w13 => f_X4_cutCues_55 (f_X4_cutCues_5 n) x0 x1 x2 (x3 + (1 : Int32)) x4 (q6.1) w13)))))))))))
set_option maxHeartbeats 4000000 in
set_option maxRecDepth 100000 in
theorem t_X4_cutCues_5 {p : Program} {l : Launch} {e : Env} {s : State} {m : MethodId} {args : Array Value} {below : List Frame} {meth : Method} {c : Code} {E : xEv} (hC : xk_C p s m args meth c E prog_1_method_5_code "Clickbook" 6) (hr : meth.sig.returnType = (some .int)) {q : (Int32 × xWd)} : ∀ (n : Nat) (x0 : Option Nat) (x1 : Int32) (x2 : Int32) (x3 : Int32) (x4 : Int32) (w : xWd), f_X4_cutCues_5 n x0 x1 x2 x3 x4 w = some q → xk_X p l e { frames := 3, cells := 0, slots := 0, locals := 64 } s m args below meth c (MQ below (xk_Qi E q) args s 0 0 (xk_A E.2.2.1)) E 6 0 0 5 [(0, va_rf (x0)), (1, .int (x1)), (2, .int (x2)), (3, .int (x3)), (4, .int (x4))] [] w := by
  intro n
  induction n with
  | zero => intro x0 x1 x2 x3 x4 w hf; have hf : none = some q := hf; cases hf
  | succ n ih =>
    intro x0 x1 x2 x3 x4 w hf
    refine xk_iload hC dX4_cutCues_5 4 rfl ?_
    refine xk_aload_n hC dX4_cutCues_7 0 rfl rfl ?_
    obtain ⟨v1, h1, hf⟩ := xk_bi hf
    refine xk_getR hC xi_0 xc_0 3 (by decide) xm_77 (Or.inl rfl) dX4_cutCues_8 h1 ?_
    obtain ⟨u3, h3, hf⟩ := xk_bi hf
    obtain ⟨q2, h2, hf⟩ := xk_bi hf
    refine xk_backi (xk_callV hC 0 xc_5 (c_Jx4a65c_size_8abf5 h2) h3 xm_187 xm_188 xm_189 xm_4 xm_190 ⟨rfl, xd_Jx4a65c_size_8abf5⟩ rfl ⟨Nat.le_of_ble_eq_true rfl, Nat.le_of_ble_eq_true rfl⟩ rfl (Nat.le_of_ble_eq_true rfl) dX4_cutCues_11 ⟨(Nat.le_of_ble_eq_true rfl), (Nat.le_of_ble_eq_true rfl)⟩) ?_
    refine xk_icmp_ge (tgt := 76) hC dX4_cutCues_14 (by decide) (fun c4 => ?_) (fun c4 => ?_)
    · replace hf := (if_pos c4).symm.trans hf
      refine xk_iload_n hC dX4_cutCues_76 3 rfl rfl ?_
      cases hf
      refine xk_widen (k := 0) (n := 0) (Nat.le_of_ble_eq_true rfl) (Nat.le_of_ble_eq_true rfl) ?_
      exact xk_iret hC hr rfl dX4_cutCues_77
    · replace hf := (if_neg c4).symm.trans hf
      refine xk_aload_n hC dX4_cutCues_17 0 rfl rfl ?_
      obtain ⟨v5, h5, hf⟩ := xk_bi hf
      refine xk_getR hC xi_0 xc_0 3 (by decide) xm_77 (Or.inl rfl) dX4_cutCues_18 h5 ?_
      refine xk_iload hC dX4_cutCues_21 4 rfl ?_
      obtain ⟨u7, h7, hf⟩ := xk_bi hf
      obtain ⟨q6, h6, hf⟩ := xk_bi hf
      refine xk_backq (xk_callV hC 1 xc_5 (c_Jx4a65c_get_915e3 h6) h7 xm_381 xm_382 xm_383 xm_4 xm_384 ⟨rfl, xd_Jx4a65c_get_915e3⟩ rfl ⟨Nat.le_of_ble_eq_true rfl, Nat.le_of_ble_eq_true rfl⟩ rfl (Nat.le_of_ble_eq_true rfl) dX4_cutCues_23 ⟨(Nat.le_of_ble_eq_true rfl), (Nat.le_of_ble_eq_true rfl)⟩) ?_
      obtain ⟨u8, h8, hf⟩ := xk_bi hf
      refine xk_cast hC xc_1 xm_311 dX4_cutCues_26 h8 ?_
      refine xk_astore (i := 5) (lv' := [(5, va_rf (q6.1)), (0, va_rf (x0)), (1, .int (x1)), (2, .int (x2)), (3, .int (x3)), (4, .int (x4))]) hC dX4_cutCues_29 (by decide) rfl ?_
      refine xk_aload hC dX4_cutCues_31 0 rfl ?_
      refine xk_iload_n hC dX4_cutCues_33 2 rfl rfl ?_
      refine xk_iload_n hC dX4_cutCues_34 3 rfl rfl ?_
      obtain ⟨u10, h10, hf⟩ := xk_bi hf
      obtain ⟨q9, h9, hf⟩ := xk_bi hf
      refine xk_backi (xk_callV hC 2 xc_1 (c_X0_isTouched h9) h10 xm_755 xm_756 xm_757 xm_17 xm_758 ⟨rfl, xd_X0_isTouched⟩ rfl ⟨Nat.le_of_ble_eq_true rfl, Nat.le_of_ble_eq_true rfl⟩ rfl (Nat.le_of_ble_eq_true rfl) dX4_cutCues_35 ⟨(Nat.le_of_ble_eq_true rfl), (Nat.le_of_ble_eq_true rfl)⟩) ?_
      refine xk_if_eq (tgt := 55) hC dX4_cutCues_38 (by decide) (fun c11 => ?_) (fun c11 => ?_)
      · replace hf := (if_pos c11).symm.trans hf
        refine xk_locals [1, 2, 3, 4, 5, 0] rfl ?_
        exact t_X4_cutCues_55 hC hr (fun x0 x1 x2 x3 x4 w hf => ih x0 x1 x2 x3 x4 w hf) x0 x1 x2 x3 x4 (q6.1) (q9.2) hf
      · replace hf := (if_neg c11).symm.trans hf
        refine xk_aload hC dX4_cutCues_41 0 rfl ?_
        refine xk_dup hC dX4_cutCues_43 (xk_cat1 _) ?_
        obtain ⟨v12, h12, hf⟩ := xk_bi hf
        refine xk_getI hC xi_1 xc_1 6 (by decide) xm_331 (Or.inl rfl) dX4_cutCues_44 h12 ?_
        refine xk_iconst (v := (1 : Int32)) hC dX4_cutCues_47 (by decide) ?_
        refine xk_iadd hC dX4_cutCues_48 ?_
        obtain ⟨w13, h13, hf⟩ := xk_bi hf
        refine xk_put hC xi_1 xc_1 xo_1 xn_1 6 (by decide) xm_331 (Or.inl rfl) rfl rfl rfl dX4_cutCues_49 h13 ?_
        refine xk_iinc (v := x3 + (1 : Int32)) (lv' := [(3, .int (x3 + (1 : Int32))), (5, va_rf (q6.1)), (0, va_rf (x0)), (1, .int (x1)), (2, .int (x2)), (4, .int (x4))]) hC dX4_cutCues_52 4 rfl rfl (by decide) rfl ?_
        refine xk_locals [2, 3, 4, 0, 5, 1] rfl ?_
        exact t_X4_cutCues_55 hC hr (fun x0 x1 x2 x3 x4 w hf => ih x0 x1 x2 x3 x4 w hf) x0 x1 x2 (x3 + (1 : Int32)) x4 (q6.1) w13 hf
def f_X4_cutCues (x0 : Option Nat) (x1 : Int32) (x2 : Int32) (w : xWd) : Option (Int32 × xWd) := f_X4_cutCues_5 4096 x0 x1 x2 ((0 : Int32)) ((0 : Int32)) w
set_option maxHeartbeats 4000000 in
set_option maxRecDepth 100000 in
theorem t_X4_cutCues_0 {p : Program} {l : Launch} {e : Env} {s : State} {m : MethodId} {args : Array Value} {below : List Frame} {meth : Method} {c : Code} {E : xEv} (hC : xk_C p s m args meth c E prog_1_method_5_code "Clickbook" 6) (hr : meth.sig.returnType = (some .int)) {q : (Int32 × xWd)} (x0 : Option Nat) (x1 : Int32) (x2 : Int32) (w : xWd) (hf : f_X4_cutCues x0 x1 x2 w = some q) : xk_X p l e { frames := 3, cells := 0, slots := 0, locals := 64 } s m args below meth c (MQ below (xk_Qi E q) args s 0 0 (xk_A E.2.2.1)) E 6 0 0 0 [(0, va_rf (x0)), (1, .int (x1)), (2, .int (x2))] [] w := by
  refine xk_iconst (v := (0 : Int32)) hC dX4_cutCues_0 (by decide) ?_
  refine xk_istore_n (i := 3) (lv' := [(3, .int ((0 : Int32))), (0, va_rf (x0)), (1, .int (x1)), (2, .int (x2))]) hC dX4_cutCues_1 rfl (by decide) rfl ?_
  refine xk_iconst (v := (0 : Int32)) hC dX4_cutCues_2 (by decide) ?_
  refine xk_istore (i := 4) (lv' := [(4, .int ((0 : Int32))), (3, .int ((0 : Int32))), (0, va_rf (x0)), (1, .int (x1)), (2, .int (x2))]) hC dX4_cutCues_3 (by decide) rfl ?_
  refine xk_locals [2, 3, 4, 1, 0] rfl ?_
  exact t_X4_cutCues_5 hC hr 4096 x0 x1 x2 ((0 : Int32)) ((0 : Int32)) w hf
theorem xd_X4_cutCues : xy_X4_cutCues.cls ≠ "java/lang/invoke/MethodHandle" ∧ xy_X4_cutCues.cls ≠ "java/lang/invoke/VarHandle" ∧ (parseMethodDescriptor xy_X4_cutCues.desc).map (fun d => d.parameters.length) = some 2 := ⟨by decide +kernel, by decide +kernel, by decide +kernel⟩
theorem c_X4_cutCues {l : Launch} {E : xEv} {x0 : Option Nat} {x1 : Int32} {x2 : Int32} {w : xWd} {q : (Int32 × xWd)} (hf : f_X4_cutCues x0 x1 x2 w = some q) : xk_M l xy_X4_cutCues prog_1_method_5_code 6 (some .int) 3 64 0 0 E [va_rf (x0), .int (x1), .int (x2)] w (xk_Qi E q) := by
  refine xk_enter (by decide +kernel) (by simp [lg_sl, xk_cat1, xk_cati, xk_catl, xk_catd]) ?_
  intro p e s m args below meth c hC hr hin ha
  rw [show lv_args 0 [va_rf (x0), .int (x1), .int (x2)] = [(0, va_rf (x0)), (1, .int (x1)), (2, .int (x2))] by simp [lv_args, xk_cat1, xk_cati, xk_catl, xk_catd]]
  exact t_X4_cutCues_0 hC hr x0 x1 x2 w hf
def f_X4_change_73 : Nat → Option Nat → Int32 → Int32 → Int32 → Int32 → xWd → Option (Int32 × xWd)
  | 0, _, _, _, _, _, _ => none
  | n + 1, x0, x1, x2, x3, x4, w => (xk_gI w (x0) 0 2).bind (fun v1 => if (v1) ≤ (x4) then (xk_gI w (x0) 0 5).bind (fun v3 => (xk_pV w (x0) 0 5 (.int ((v3) + (x2)))).bind (fun w4 => (xk_gI w4 (x0) 0 6).bind (fun v5 => (xk_pV w4 (x0) 0 6 (.int ((v5) + ((1 : Int32))))).bind (fun w6 => some (x3, w6))))) else (xk_gR w (x0) 0 1).bind (fun v7 => (xk_gR w (x0) 0 1).bind (fun v8 => (xk_lI 0 w (v8) (x4)).bind (fun v9 => (f_X4_movedFrame (v9) (x1) (x2) w).bind (fun q10 => (xk_sI 0 q10.2 (v7) (x4) (q10.1)).bind (fun w11 => f_X4_change_73 n x0 x1 x2 x3 (x4 + (1 : Int32)) w11))))))
set_option maxHeartbeats 4000000 in
set_option maxRecDepth 100000 in
theorem t_X4_change_73 {p : Program} {l : Launch} {e : Env} {s : State} {m : MethodId} {args : Array Value} {below : List Frame} {meth : Method} {c : Code} {E : xEv} (hC : xk_C p s m args meth c E prog_1_method_4_code "Clickbook" 5) (hr : meth.sig.returnType = (some .int)) {q : (Int32 × xWd)} : ∀ (n : Nat) (x0 : Option Nat) (x1 : Int32) (x2 : Int32) (x3 : Int32) (x4 : Int32) (w : xWd), f_X4_change_73 n x0 x1 x2 x3 x4 w = some q → xk_X p l e { frames := 4, cells := 0, slots := 0, locals := 89 } s m args below meth c (MQ below (xk_Qi E q) args s 0 0 (xk_A E.2.2.1)) E 5 0 0 73 [(0, va_rf (x0)), (1, .int (x1)), (2, .int (x2)), (3, .int (x3)), (4, .int (x4))] [] w := by
  intro n
  induction n with
  | zero => intro x0 x1 x2 x3 x4 w hf; have hf : none = some q := hf; cases hf
  | succ n ih =>
    intro x0 x1 x2 x3 x4 w hf
    refine xk_iload hC dX4_change_73 4 rfl ?_
    refine xk_aload_n hC dX4_change_75 0 rfl rfl ?_
    obtain ⟨v1, h1, hf⟩ := xk_bi hf
    refine xk_getI hC xi_0 xc_0 2 (by decide) xm_76 (Or.inl rfl) dX4_change_76 h1 ?_
    refine xk_icmp_ge (tgt := 107) hC dX4_change_79 (by decide) (fun c2 => ?_) (fun c2 => ?_)
    · replace hf := (if_pos c2).symm.trans hf
      refine xk_aload_n hC dX4_change_107 0 rfl rfl ?_
      refine xk_dup hC dX4_change_108 (xk_cat1 _) ?_
      obtain ⟨v3, h3, hf⟩ := xk_bi hf
      refine xk_getI hC xi_0 xc_0 5 (by decide) xm_79 (Or.inl rfl) dX4_change_109 h3 ?_
      refine xk_iload_n hC dX4_change_112 2 rfl rfl ?_
      refine xk_iadd hC dX4_change_113 ?_
      obtain ⟨w4, h4, hf⟩ := xk_bi hf
      refine xk_put hC xi_0 xc_0 xo_0 xn_0 5 (by decide) xm_79 (Or.inl rfl) rfl rfl rfl dX4_change_114 h4 ?_
      refine xk_aload_n hC dX4_change_117 0 rfl rfl ?_
      refine xk_dup hC dX4_change_118 (xk_cat1 _) ?_
      obtain ⟨v5, h5, hf⟩ := xk_bi hf
      refine xk_getI hC xi_0 xc_0 6 (by decide) xm_80 (Or.inl rfl) dX4_change_119 h5 ?_
      refine xk_iconst (v := (1 : Int32)) hC dX4_change_122 (by decide) ?_
      refine xk_iadd hC dX4_change_123 ?_
      obtain ⟨w6, h6, hf⟩ := xk_bi hf
      refine xk_put hC xi_0 xc_0 xo_0 xn_0 6 (by decide) xm_80 (Or.inl rfl) rfl rfl rfl dX4_change_124 h6 ?_
      refine xk_iload_n hC dX4_change_127 3 rfl rfl ?_
      cases hf
      refine xk_widen (k := 0) (n := 0) (Nat.le_of_ble_eq_true rfl) (Nat.le_of_ble_eq_true rfl) ?_
      exact xk_iret hC hr rfl dX4_change_128
    · replace hf := (if_neg c2).symm.trans hf
      refine xk_aload_n hC dX4_change_82 0 rfl rfl ?_
      obtain ⟨v7, h7, hf⟩ := xk_bi hf
      refine xk_getR hC xi_0 xc_0 1 (by decide) xm_75 (Or.inl rfl) dX4_change_83 h7 ?_
      refine xk_iload hC dX4_change_86 4 rfl ?_
      refine xk_aload_n hC dX4_change_88 0 rfl rfl ?_
      obtain ⟨v8, h8, hf⟩ := xk_bi hf
      refine xk_getR hC xi_0 xc_0 1 (by decide) xm_75 (Or.inl rfl) dX4_change_89 h8 ?_
      refine xk_iload hC dX4_change_92 4 rfl ?_
      obtain ⟨v9, h9, hf⟩ := xk_bi hf
      refine xk_iald hC rfl dX4_change_94 h9 ?_
      refine xk_iload_n hC dX4_change_95 1 rfl rfl ?_
      refine xk_iload_n hC dX4_change_96 2 rfl rfl ?_
      obtain ⟨q10, h10, hf⟩ := xk_bi hf
      refine xk_backi (xk_callS hC 3 (c_X4_movedFrame h10) xm_662 xm_663 xm_1 xm_664 xd_X4_movedFrame rfl ⟨Nat.le_of_ble_eq_true rfl, Nat.le_of_ble_eq_true rfl⟩ rfl (by simp [xk_cat1, xk_cati, xk_catl, xk_catd]) dX4_change_97 ⟨(Nat.le_of_ble_eq_true rfl), (Nat.le_of_ble_eq_true rfl)⟩) ?_
      obtain ⟨w11, h11, hf⟩ := xk_bi hf
      refine xk_iast hC rfl dX4_change_100 h11 ?_
      refine xk_iinc (v := x4 + (1 : Int32)) (lv' := [(4, .int (x4 + (1 : Int32))), (0, va_rf (x0)), (1, .int (x1)), (2, .int (x2)), (3, .int (x3))]) hC dX4_change_101 4 rfl rfl (by decide) rfl ?_
      refine xk_goto (tgt := 73) hC dX4_change_104 (by decide) ?_
      refine xk_locals [1, 2, 3, 4, 0] rfl ?_
      exact ih x0 x1 x2 x3 (x4 + (1 : Int32)) w11 hf
def f_X4_change_35 : Nat → Option Nat → Int32 → Int32 → Int32 → Int32 → xWd → Option (Int32 × xWd)
  | 0, _, _, _, _, _, _ => none
  | n + 1, x0, x1, x2, x3, x4, w => (xk_gR w (x0) 0 0).bind (fun v1 => (xk_is w (v1) 5).bind (fun u3 => (f_Jx4a65c_size_8abf5 (v1)  w).bind (fun q2 => if (q2.1) ≤ (x4) then f_X4_change_73 4096 x0 x1 x2 x3 ((0 : Int32)) (q2.2) else (xk_gR q2.2 (x0) 0 0).bind (fun v5 => (xk_is q2.2 (v5) 5).bind (fun u7 => (f_Jx4a65c_get_915e3 (v5) (x4) q2.2).bind (fun q6 => (xk_cc q6.2 (q6.1) 2).bind (fun u8 => (xk_is q6.2 (q6.1) 2).bind (fun u10 => (f_X1_cut (q6.1) (x1) (x2) q6.2).bind (fun q9 => f_X4_change_35 n x0 x1 x2 x3 (x4 + (1 : Int32)) q9)))))))))
set_option maxHeartbeats 4000000 in
set_option maxRecDepth 100000 in
theorem t_X4_change_35 {p : Program} {l : Launch} {e : Env} {s : State} {m : MethodId} {args : Array Value} {below : List Frame} {meth : Method} {c : Code} {E : xEv} (hC : xk_C p s m args meth c E prog_1_method_4_code "Clickbook" 5) (hr : meth.sig.returnType = (some .int)) {q : (Int32 × xWd)} : ∀ (n : Nat) (x0 : Option Nat) (x1 : Int32) (x2 : Int32) (x3 : Int32) (x4 : Int32) (w : xWd), f_X4_change_35 n x0 x1 x2 x3 x4 w = some q → xk_X p l e { frames := 4, cells := 0, slots := 0, locals := 89 } s m args below meth c (MQ below (xk_Qi E q) args s 0 0 (xk_A E.2.2.1)) E 5 0 0 35 [(0, va_rf (x0)), (1, .int (x1)), (2, .int (x2)), (3, .int (x3)), (4, .int (x4))] [] w := by
  intro n
  induction n with
  | zero => intro x0 x1 x2 x3 x4 w hf; have hf : none = some q := hf; cases hf
  | succ n ih =>
    intro x0 x1 x2 x3 x4 w hf
    refine xk_iload hC dX4_change_35 4 rfl ?_
    refine xk_aload_n hC dX4_change_37 0 rfl rfl ?_
    obtain ⟨v1, h1, hf⟩ := xk_bi hf
    refine xk_getR hC xi_0 xc_0 0 (by decide) xm_74 (Or.inl rfl) dX4_change_38 h1 ?_
    obtain ⟨u3, h3, hf⟩ := xk_bi hf
    obtain ⟨q2, h2, hf⟩ := xk_bi hf
    refine xk_backi (xk_callV hC 0 xc_5 (c_Jx4a65c_size_8abf5 h2) h3 xm_187 xm_188 xm_189 xm_4 xm_190 ⟨rfl, xd_Jx4a65c_size_8abf5⟩ rfl ⟨Nat.le_of_ble_eq_true rfl, Nat.le_of_ble_eq_true rfl⟩ rfl (Nat.le_of_ble_eq_true rfl) dX4_change_41 ⟨(Nat.le_of_ble_eq_true rfl), (Nat.le_of_ble_eq_true rfl)⟩) ?_
    refine xk_icmp_ge (tgt := 70) hC dX4_change_44 (by decide) (fun c4 => ?_) (fun c4 => ?_)
    · replace hf := (if_pos c4).symm.trans hf
      refine xk_iconst (v := (0 : Int32)) hC dX4_change_70 (by decide) ?_
      refine xk_istore (i := 4) (lv' := [(4, .int ((0 : Int32))), (0, va_rf (x0)), (1, .int (x1)), (2, .int (x2)), (3, .int (x3))]) hC dX4_change_71 (by decide) rfl ?_
      refine xk_locals [1, 2, 3, 4, 0] rfl ?_
      exact t_X4_change_73 hC hr 4096 x0 x1 x2 x3 ((0 : Int32)) (q2.2) hf
    · replace hf := (if_neg c4).symm.trans hf
      refine xk_aload_n hC dX4_change_47 0 rfl rfl ?_
      obtain ⟨v5, h5, hf⟩ := xk_bi hf
      refine xk_getR hC xi_0 xc_0 0 (by decide) xm_74 (Or.inl rfl) dX4_change_48 h5 ?_
      refine xk_iload hC dX4_change_51 4 rfl ?_
      obtain ⟨u7, h7, hf⟩ := xk_bi hf
      obtain ⟨q6, h6, hf⟩ := xk_bi hf
      refine xk_backq (xk_callV hC 1 xc_5 (c_Jx4a65c_get_915e3 h6) h7 xm_381 xm_382 xm_383 xm_4 xm_384 ⟨rfl, xd_Jx4a65c_get_915e3⟩ rfl ⟨Nat.le_of_ble_eq_true rfl, Nat.le_of_ble_eq_true rfl⟩ rfl (Nat.le_of_ble_eq_true rfl) dX4_change_53 ⟨(Nat.le_of_ble_eq_true rfl), (Nat.le_of_ble_eq_true rfl)⟩) ?_
      obtain ⟨u8, h8, hf⟩ := xk_bi hf
      refine xk_cast hC xc_2 xm_207 dX4_change_56 h8 ?_
      refine xk_iload_n hC dX4_change_59 1 rfl rfl ?_
      refine xk_iload_n hC dX4_change_60 2 rfl rfl ?_
      obtain ⟨u10, h10, hf⟩ := xk_bi hf
      obtain ⟨q9, h9, hf⟩ := xk_bi hf
      refine xk_backv (xk_callV hC 2 xc_2 (c_X1_cut h9) h10 xm_760 xm_761 xm_762 xm_11 xm_763 ⟨rfl, xd_X1_cut⟩ rfl ⟨Nat.le_of_ble_eq_true rfl, Nat.le_of_ble_eq_true rfl⟩ rfl (Nat.le_of_ble_eq_true rfl) dX4_change_61 ⟨(Nat.le_of_ble_eq_true rfl), (Nat.le_of_ble_eq_true rfl)⟩) ?_
      refine xk_iinc (v := x4 + (1 : Int32)) (lv' := [(4, .int (x4 + (1 : Int32))), (0, va_rf (x0)), (1, .int (x1)), (2, .int (x2)), (3, .int (x3))]) hC dX4_change_64 4 rfl rfl (by decide) rfl ?_
      refine xk_goto (tgt := 35) hC dX4_change_67 (by decide) ?_
      refine xk_locals [1, 2, 3, 4, 0] rfl ?_
      exact ih x0 x1 x2 x3 (x4 + (1 : Int32)) q9 hf
def f_X4_change (x0 : Option Nat) (x1 : Int32) (x2 : Int32) (w : xWd) : Option (Int32 × xWd) := (xk_is w (x0) 0).bind (fun u2 => (f_X4_refuseBadCut (x0) (x1) (x2) w).bind (fun q1 => (xk_gI q1 (x0) 0 6).bind (fun v3 => if (v3) < ((20 : Int32)) then (xk_is q1 (x0) 0).bind (fun u6 => (f_X4_cutCues (x0) (x1) (x2) q1).bind (fun q5 => f_X4_change_35 4096 x0 x1 x2 (q5.1) ((0 : Int32)) (q5.2))) else none)))
set_option maxHeartbeats 4000000 in
set_option maxRecDepth 100000 in
theorem t_X4_change_0 {p : Program} {l : Launch} {e : Env} {s : State} {m : MethodId} {args : Array Value} {below : List Frame} {meth : Method} {c : Code} {E : xEv} (hC : xk_C p s m args meth c E prog_1_method_4_code "Clickbook" 5) (hr : meth.sig.returnType = (some .int)) {q : (Int32 × xWd)} (x0 : Option Nat) (x1 : Int32) (x2 : Int32) (w : xWd) (hf : f_X4_change x0 x1 x2 w = some q) : xk_X p l e { frames := 4, cells := 0, slots := 0, locals := 89 } s m args below meth c (MQ below (xk_Qi E q) args s 0 0 (xk_A E.2.2.1)) E 5 0 0 0 [(0, va_rf (x0)), (1, .int (x1)), (2, .int (x2))] [] w := by
  refine xk_aload_n hC dX4_change_0 0 rfl rfl ?_
  refine xk_iload_n hC dX4_change_1 1 rfl rfl ?_
  refine xk_iload_n hC dX4_change_2 2 rfl rfl ?_
  obtain ⟨u2, h2, hf⟩ := xk_bi hf
  obtain ⟨q1, h1, hf⟩ := xk_bi hf
  refine xk_backv (xk_callV hC 2 xc_0 (c_X4_refuseBadCut h1) h2 xm_649 xm_651 xm_p26 xm_1 xm_652 ⟨rfl, xd_X4_refuseBadCut⟩ rfl ⟨Nat.le_of_ble_eq_true rfl, Nat.le_of_ble_eq_true rfl⟩ rfl (Nat.le_of_ble_eq_true rfl) dX4_change_3 ⟨(Nat.le_of_ble_eq_true rfl), (Nat.le_of_ble_eq_true rfl)⟩) ?_
  refine xk_aload_n hC dX4_change_6 0 rfl rfl ?_
  obtain ⟨v3, h3, hf⟩ := xk_bi hf
  refine xk_getI hC xi_0 xc_0 6 (by decide) xm_80 (Or.inl rfl) dX4_change_7 h3 ?_
  refine xk_bipush (v := (20 : Int32)) hC dX4_change_10 (by decide) ?_
  refine xk_icmp_lt (tgt := 25) hC dX4_change_12 (by decide) (fun c4 => ?_) (fun c4 => ?_)
  · replace hf := (if_pos c4).symm.trans hf
    refine xk_aload_n hC dX4_change_25 0 rfl rfl ?_
    refine xk_iload_n hC dX4_change_26 1 rfl rfl ?_
    refine xk_iload_n hC dX4_change_27 2 rfl rfl ?_
    obtain ⟨u6, h6, hf⟩ := xk_bi hf
    obtain ⟨q5, h5, hf⟩ := xk_bi hf
    refine xk_backi (xk_callV hC 2 xc_0 (c_X4_cutCues h5) h6 xm_751 xm_753 xm_p32 xm_1 xm_754 ⟨rfl, xd_X4_cutCues⟩ rfl ⟨Nat.le_of_ble_eq_true rfl, Nat.le_of_ble_eq_true rfl⟩ rfl (Nat.le_of_ble_eq_true rfl) dX4_change_28 ⟨(Nat.le_of_ble_eq_true rfl), (Nat.le_of_ble_eq_true rfl)⟩) ?_
    refine xk_istore_n (i := 3) (lv' := [(3, .int (q5.1)), (0, va_rf (x0)), (1, .int (x1)), (2, .int (x2))]) hC dX4_change_31 rfl (by decide) rfl ?_
    refine xk_iconst (v := (0 : Int32)) hC dX4_change_32 (by decide) ?_
    refine xk_istore (i := 4) (lv' := [(4, .int ((0 : Int32))), (3, .int (q5.1)), (0, va_rf (x0)), (1, .int (x1)), (2, .int (x2))]) hC dX4_change_33 (by decide) rfl ?_
    refine xk_locals [2, 3, 4, 1, 0] rfl ?_
    exact t_X4_change_35 hC hr 4096 x0 x1 x2 (q5.1) ((0 : Int32)) (q5.2) hf
  · replace hf := (if_neg c4).symm.trans hf
    cases hf
theorem xd_X4_change : xy_X4_change.cls ≠ "java/lang/invoke/MethodHandle" ∧ xy_X4_change.cls ≠ "java/lang/invoke/VarHandle" ∧ (parseMethodDescriptor xy_X4_change.desc).map (fun d => d.parameters.length) = some 2 := ⟨by decide +kernel, by decide +kernel, by decide +kernel⟩
theorem c_X4_change {l : Launch} {E : xEv} {x0 : Option Nat} {x1 : Int32} {x2 : Int32} {w : xWd} {q : (Int32 × xWd)} (hf : f_X4_change x0 x1 x2 w = some q) : xk_M l xy_X4_change prog_1_method_4_code 5 (some .int) 4 89 0 0 E [va_rf (x0), .int (x1), .int (x2)] w (xk_Qi E q) := by
  refine xk_enter (by decide +kernel) (by simp [lg_sl, xk_cat1, xk_cati, xk_catl, xk_catd]) ?_
  intro p e s m args below meth c hC hr hin ha
  rw [show lv_args 0 [va_rf (x0), .int (x1), .int (x2)] = [(0, va_rf (x0)), (1, .int (x1)), (2, .int (x2))] by simp [lv_args, xk_cat1, xk_cati, xk_catl, xk_catd]]
  exact t_X4_change_0 hC hr x0 x1 x2 w hf
def f_X4_cue_13 (w : xWd) : Option (Int32 × xWd) := none
set_option maxHeartbeats 4000000 in
set_option maxRecDepth 100000 in
theorem t_X4_cue_13 {p : Program} {l : Launch} {e : Env} {s : State} {m : MethodId} {args : Array Value} {below : List Frame} {meth : Method} {c : Code} {E : xEv} (hC : xk_C p s m args meth c E prog_1_method_9_code "Clickbook" 7) (hr : meth.sig.returnType = (some .int)) {q : (Int32 × xWd)} (w : xWd) (hf : f_X4_cue_13 w = some q) : xk_X p l e { frames := 7, cells := 5, slots := 269, locals := 170 } s m args below meth c (MQ below (xk_Qi E q) args s 5 269 (xk_A E.2.2.1)) E 7 0 0 13 [] [] w := by
  cases hf
def f_X4_cue_46 (w : xWd) : Option (Int32 × xWd) := none
set_option maxHeartbeats 4000000 in
set_option maxRecDepth 100000 in
theorem t_X4_cue_46 {p : Program} {l : Launch} {e : Env} {s : State} {m : MethodId} {args : Array Value} {below : List Frame} {meth : Method} {c : Code} {E : xEv} (hC : xk_C p s m args meth c E prog_1_method_9_code "Clickbook" 7) (hr : meth.sig.returnType = (some .int)) {q : (Int32 × xWd)} (w : xWd) (hf : f_X4_cue_46 w = some q) : xk_X p l e { frames := 7, cells := 5, slots := 269, locals := 170 } s m args below meth c (MQ below (xk_Qi E q) args s 5 269 (xk_A E.2.2.1)) E 7 0 0 46 [] [] w := by
  cases hf
def f_X4_cue_78 (w : xWd) : Option (Int32 × xWd) := none
set_option maxHeartbeats 4000000 in
set_option maxRecDepth 100000 in
theorem t_X4_cue_78 {p : Program} {l : Launch} {e : Env} {s : State} {m : MethodId} {args : Array Value} {below : List Frame} {meth : Method} {c : Code} {E : xEv} (hC : xk_C p s m args meth c E prog_1_method_9_code "Clickbook" 7) (hr : meth.sig.returnType = (some .int)) {q : (Int32 × xWd)} (w : xWd) (hf : f_X4_cue_78 w = some q) : xk_X p l e { frames := 7, cells := 5, slots := 269, locals := 170 } s m args below meth c (MQ below (xk_Qi E q) args s 5 269 (xk_A E.2.2.1)) E 7 0 0 78 [] [] w := by
  cases hf
def f_X4_cue (x0 : Option Nat) (x1 : Int32) (x2 : Int32) (x3 : Int32) (x4 : Int32) (x5 : Int32) (w : xWd) : Option (Int32 × xWd) := if (x2) < ((-1 : Int32)) then f_X4_cue_13 w else (xk_gI w (x0) 0 2).bind (fun v2 => if (x2) < (v2) then if (x1) < ((0 : Int32)) then f_X4_cue_46 w else (xk_gI w (x0) 0 5).bind (fun v5 => if (v5) < (x1) then f_X4_cue_46 w else if (x3) < ((1 : Int32)) then f_X4_cue_46 w else if (x3) ≤ ((40 : Int32)) then if (x4) < ((0 : Int32)) then f_X4_cue_78 w else if ((4 : Int32)) ≤ (x4) then f_X4_cue_78 w else if (x5) < ((0 : Int32)) then f_X4_cue_78 w else if (x5) ≤ ((2 : Int32)) then (xk_gR w (x0) 0 3).bind (fun v13 => (xk_is w (v13) 5).bind (fun u15 => (f_Jx4a65c_size_8abf5 (v13)  w).bind (fun q14 => if (q14.1) < ((8 : Int32)) then (some (xk_nw q14.2 1 xf_1)).bind (fun w17 => (xk_gR w17 (x0) 0 3).bind (fun v18 => (xk_is w17 (v18) 5).bind (fun u20 => (f_Jx4a65c_size_8abf5 (v18)  w17).bind (fun q19 => (f_X0_init (q14.2.2.1) (q19.1) (x1) (x2) (x3) (x4) (x5) q19.2).bind (fun q21 => (xk_gR q21 (x0) 0 3).bind (fun v22 => (xk_is q21 (v22) 5).bind (fun u24 => (f_Jx4a65c_add_9ea2d (v22) (some q14.2.2.1) q21).bind (fun q23 => (xk_gI q23.2 (some q14.2.2.1) 1 0).bind (fun v25 => some (v25, q23.2)))))))))) else none))) else f_X4_cue_78 w else f_X4_cue_46 w) else f_X4_cue_13 w)
set_option maxHeartbeats 4000000 in
set_option maxRecDepth 100000 in
theorem t_X4_cue_0 {p : Program} {l : Launch} {e : Env} {s : State} {m : MethodId} {args : Array Value} {below : List Frame} {meth : Method} {c : Code} {E : xEv} (hC : xk_C p s m args meth c E prog_1_method_9_code "Clickbook" 7) (hr : meth.sig.returnType = (some .int)) {q : (Int32 × xWd)} (x0 : Option Nat) (x1 : Int32) (x2 : Int32) (x3 : Int32) (x4 : Int32) (x5 : Int32) (w : xWd) (hf : f_X4_cue x0 x1 x2 x3 x4 x5 w = some q) : xk_X p l e { frames := 7, cells := 5, slots := 269, locals := 170 } s m args below meth c (MQ below (xk_Qi E q) args s 5 269 (xk_A E.2.2.1)) E 7 0 0 0 [(0, va_rf (x0)), (1, .int (x1)), (2, .int (x2)), (3, .int (x3)), (4, .int (x4)), (5, .int (x5))] [] w := by
  refine xk_iload_n hC dX4_cue_0 2 rfl rfl ?_
  refine xk_iconst (v := (-1 : Int32)) hC dX4_cue_1 (by decide) ?_
  refine xk_icmp_lt (tgt := 13) hC dX4_cue_2 (by decide) (fun c1 => ?_) (fun c1 => ?_)
  · replace hf := (if_pos c1).symm.trans hf
    refine xk_locals [] rfl ?_
    exact t_X4_cue_13 hC hr w hf
  · replace hf := (if_neg c1).symm.trans hf
    refine xk_iload_n hC dX4_cue_5 2 rfl rfl ?_
    refine xk_aload_n hC dX4_cue_6 0 rfl rfl ?_
    obtain ⟨v2, h2, hf⟩ := xk_bi hf
    refine xk_getI hC xi_0 xc_0 2 (by decide) xm_76 (Or.inl rfl) dX4_cue_7 h2 ?_
    refine xk_icmp_lt (tgt := 23) hC dX4_cue_10 (by decide) (fun c3 => ?_) (fun c3 => ?_)
    · replace hf := (if_pos c3).symm.trans hf
      refine xk_iload_n hC dX4_cue_23 1 rfl rfl ?_
      refine xk_if_lt (tgt := 46) hC dX4_cue_24 (by decide) (fun c4 => ?_) (fun c4 => ?_)
      · replace hf := (if_pos c4).symm.trans hf
        refine xk_locals [] rfl ?_
        exact t_X4_cue_46 hC hr w hf
      · replace hf := (if_neg c4).symm.trans hf
        refine xk_iload_n hC dX4_cue_27 1 rfl rfl ?_
        refine xk_aload_n hC dX4_cue_28 0 rfl rfl ?_
        obtain ⟨v5, h5, hf⟩ := xk_bi hf
        refine xk_getI hC xi_0 xc_0 5 (by decide) xm_79 (Or.inl rfl) dX4_cue_29 h5 ?_
        refine xk_icmp_gt (tgt := 46) hC dX4_cue_32 (by decide) (fun c6 => ?_) (fun c6 => ?_)
        · replace hf := (if_pos c6).symm.trans hf
          refine xk_locals [] rfl ?_
          exact t_X4_cue_46 hC hr w hf
        · replace hf := (if_neg c6).symm.trans hf
          refine xk_iload_n hC dX4_cue_35 3 rfl rfl ?_
          refine xk_iconst (v := (1 : Int32)) hC dX4_cue_36 (by decide) ?_
          refine xk_icmp_lt (tgt := 46) hC dX4_cue_37 (by decide) (fun c7 => ?_) (fun c7 => ?_)
          · replace hf := (if_pos c7).symm.trans hf
            refine xk_locals [] rfl ?_
            exact t_X4_cue_46 hC hr w hf
          · replace hf := (if_neg c7).symm.trans hf
            refine xk_iload_n hC dX4_cue_40 3 rfl rfl ?_
            refine xk_bipush (v := (40 : Int32)) hC dX4_cue_41 (by decide) ?_
            refine xk_icmp_le (tgt := 56) hC dX4_cue_43 (by decide) (fun c8 => ?_) (fun c8 => ?_)
            · replace hf := (if_pos c8).symm.trans hf
              refine xk_iload hC dX4_cue_56 4 rfl ?_
              refine xk_if_lt (tgt := 78) hC dX4_cue_58 (by decide) (fun c9 => ?_) (fun c9 => ?_)
              · replace hf := (if_pos c9).symm.trans hf
                refine xk_locals [] rfl ?_
                exact t_X4_cue_78 hC hr w hf
              · replace hf := (if_neg c9).symm.trans hf
                refine xk_iload hC dX4_cue_61 4 rfl ?_
                refine xk_iconst (v := (4 : Int32)) hC dX4_cue_63 (by decide) ?_
                refine xk_icmp_ge (tgt := 78) hC dX4_cue_64 (by decide) (fun c10 => ?_) (fun c10 => ?_)
                · replace hf := (if_pos c10).symm.trans hf
                  refine xk_locals [] rfl ?_
                  exact t_X4_cue_78 hC hr w hf
                · replace hf := (if_neg c10).symm.trans hf
                  refine xk_iload hC dX4_cue_67 5 rfl ?_
                  refine xk_if_lt (tgt := 78) hC dX4_cue_69 (by decide) (fun c11 => ?_) (fun c11 => ?_)
                  · replace hf := (if_pos c11).symm.trans hf
                    refine xk_locals [] rfl ?_
                    exact t_X4_cue_78 hC hr w hf
                  · replace hf := (if_neg c11).symm.trans hf
                    refine xk_iload hC dX4_cue_72 5 rfl ?_
                    refine xk_iconst (v := (2 : Int32)) hC dX4_cue_74 (by decide) ?_
                    refine xk_icmp_le (tgt := 88) hC dX4_cue_75 (by decide) (fun c12 => ?_) (fun c12 => ?_)
                    · replace hf := (if_pos c12).symm.trans hf
                      refine xk_aload_n hC dX4_cue_88 0 rfl rfl ?_
                      obtain ⟨v13, h13, hf⟩ := xk_bi hf
                      refine xk_getR hC xi_0 xc_0 3 (by decide) xm_77 (Or.inl rfl) dX4_cue_89 h13 ?_
                      obtain ⟨u15, h15, hf⟩ := xk_bi hf
                      obtain ⟨q14, h14, hf⟩ := xk_bi hf
                      refine xk_backi (xk_callV hC 0 xc_5 (c_Jx4a65c_size_8abf5 h14) h15 xm_187 xm_188 xm_189 xm_4 xm_190 ⟨rfl, xd_Jx4a65c_size_8abf5⟩ rfl ⟨Nat.le_of_ble_eq_true rfl, Nat.le_of_ble_eq_true rfl⟩ rfl (Nat.le_of_ble_eq_true rfl) dX4_cue_92 ⟨(Nat.le_of_ble_eq_true rfl), (Nat.le_of_ble_eq_true rfl)⟩) ?_
                      refine xk_bipush (v := (8 : Int32)) hC dX4_cue_95 (by decide) ?_
                      refine xk_icmp_lt (tgt := 110) hC dX4_cue_97 (by decide) (fun c16 => ?_) (fun c16 => ?_)
                      · replace hf := (if_pos c16).symm.trans hf
                        obtain ⟨w17, h17, hf⟩ := xk_bi hf
                        refine xk_newH hC xi_1 xc_1 xo_1 xm_311 xm_312 xm_17 xfo_1 (Nat.le_of_ble_eq_true rfl) (Nat.le_of_ble_eq_true rfl) dX4_cue_110 h17 ?_
                        refine xk_dup hC dX4_cue_113 (xk_cat1 _) ?_
                        refine xk_aload_n hC dX4_cue_114 0 rfl rfl ?_
                        obtain ⟨v18, h18, hf⟩ := xk_bi hf
                        refine xk_getR hC xi_0 xc_0 3 (by decide) xm_77 (Or.inl rfl) dX4_cue_115 h18 ?_
                        obtain ⟨u20, h20, hf⟩ := xk_bi hf
                        obtain ⟨q19, h19, hf⟩ := xk_bi hf
                        refine xk_backi (xk_callV hC 0 xc_5 (c_Jx4a65c_size_8abf5 h19) h20 xm_187 xm_188 xm_189 xm_4 xm_190 ⟨rfl, xd_Jx4a65c_size_8abf5⟩ rfl ⟨Nat.le_of_ble_eq_true rfl, Nat.le_of_ble_eq_true rfl⟩ rfl (Nat.le_of_ble_eq_true rfl) dX4_cue_118 ⟨(Nat.le_of_ble_eq_true rfl), (Nat.le_of_ble_eq_true rfl)⟩) ?_
                        refine xk_iload_n hC dX4_cue_121 1 rfl rfl ?_
                        refine xk_iload_n hC dX4_cue_122 2 rfl rfl ?_
                        refine xk_iload_n hC dX4_cue_123 3 rfl rfl ?_
                        refine xk_iload hC dX4_cue_124 4 rfl ?_
                        refine xk_iload hC dX4_cue_126 5 rfl ?_
                        obtain ⟨q21, h21, hf⟩ := xk_bi hf
                        refine xk_backv (xk_callI hC 6 (c_X0_init h21) xm_313 xm_314 xm_17 xm_315 rfl xd_X0_init rfl ⟨Nat.le_of_ble_eq_true rfl, Nat.le_of_ble_eq_true rfl⟩ rfl (Nat.le_of_ble_eq_true rfl) dX4_cue_128 ⟨(Nat.le_of_ble_eq_true rfl), (Nat.le_of_ble_eq_true rfl)⟩) ?_
                        refine xk_astore (i := 6) (lv' := [(6, va_rf (some q14.2.2.1)), (0, va_rf (x0)), (1, .int (x1)), (2, .int (x2)), (3, .int (x3)), (4, .int (x4)), (5, .int (x5))]) hC dX4_cue_131 (by decide) rfl ?_
                        refine xk_aload_n hC dX4_cue_133 1 rfl rfl ?_
                        obtain ⟨v22, h22, hf⟩ := xk_bi hf
                        refine xk_getR hC xi_0 xc_0 3 (by decide) xm_77 (Or.inl rfl) dX4_cue_134 h22 ?_
                        refine xk_aload hC dX4_cue_137 0 rfl ?_
                        obtain ⟨u24, h24, hf⟩ := xk_bi hf
                        obtain ⟨q23, h23, hf⟩ := xk_bi hf
                        refine xk_backi (xk_callV hC 1 xc_5 (c_Jx4a65c_add_9ea2d h23) h24 xm_226 xm_227 xm_228 xm_4 xm_229 ⟨rfl, xd_Jx4a65c_add_9ea2d⟩ rfl ⟨Nat.le_of_ble_eq_true rfl, Nat.le_of_ble_eq_true rfl⟩ rfl (Nat.le_of_ble_eq_true rfl) dX4_cue_139 ⟨(Nat.le_of_ble_eq_true rfl), (Nat.le_of_ble_eq_true rfl)⟩) ?_
                        refine xk_pop hC dX4_cue_142 rfl ?_
                        refine xk_aload hC dX4_cue_143 0 rfl ?_
                        obtain ⟨v25, h25, hf⟩ := xk_bi hf
                        refine xk_getI hC xi_1 xc_1 0 (by decide) xm_318 (Or.inl rfl) dX4_cue_145 h25 ?_
                        cases hf
                        refine xk_widen (k := 5) (n := 269) (Nat.le_of_ble_eq_true rfl) (Nat.le_of_ble_eq_true rfl) ?_
                        exact xk_iret hC hr rfl dX4_cue_148
                      · replace hf := (if_neg c16).symm.trans hf
                        cases hf
                    · replace hf := (if_neg c12).symm.trans hf
                      refine xk_locals [] rfl ?_
                      exact t_X4_cue_78 hC hr w hf
            · replace hf := (if_neg c8).symm.trans hf
              refine xk_locals [] rfl ?_
              exact t_X4_cue_46 hC hr w hf
    · replace hf := (if_neg c3).symm.trans hf
      refine xk_locals [] rfl ?_
      exact t_X4_cue_13 hC hr w hf
theorem xd_X4_cue : xy_X4_cue.cls ≠ "java/lang/invoke/MethodHandle" ∧ xy_X4_cue.cls ≠ "java/lang/invoke/VarHandle" ∧ (parseMethodDescriptor xy_X4_cue.desc).map (fun d => d.parameters.length) = some 5 := ⟨by decide +kernel, by decide +kernel, by decide +kernel⟩
theorem c_X4_cue {l : Launch} {E : xEv} {x0 : Option Nat} {x1 : Int32} {x2 : Int32} {x3 : Int32} {x4 : Int32} {x5 : Int32} {w : xWd} {q : (Int32 × xWd)} (hf : f_X4_cue x0 x1 x2 x3 x4 x5 w = some q) : xk_M l xy_X4_cue prog_1_method_9_code 7 (some .int) 7 170 5 269 E [va_rf (x0), .int (x1), .int (x2), .int (x3), .int (x4), .int (x5)] w (xk_Qi E q) := by
  refine xk_enter (by decide +kernel) (by simp [lg_sl, xk_cat1, xk_cati, xk_catl, xk_catd]) ?_
  intro p e s m args below meth c hC hr hin ha
  rw [show lv_args 0 [va_rf (x0), .int (x1), .int (x2), .int (x3), .int (x4), .int (x5)] = [(0, va_rf (x0)), (1, .int (x1)), (2, .int (x2)), (3, .int (x3)), (4, .int (x4)), (5, .int (x5))] by simp [lv_args, xk_cat1, xk_cati, xk_catl, xk_catd]]
  exact t_X4_cue_0 hC hr x0 x1 x2 x3 x4 x5 w hf
def f_X4_cueNumbered_15 (w : xWd) : Option (Option Nat × xWd) := none
set_option maxHeartbeats 4000000 in
set_option maxRecDepth 100000 in
theorem t_X4_cueNumbered_15 {p : Program} {l : Launch} {e : Env} {s : State} {m : MethodId} {args : Array Value} {below : List Frame} {meth : Method} {c : Code} {E : xEv} (hC : xk_C p s m args meth c E prog_1_method_13_code "Clickbook" 2) (hr : meth.sig.returnType = (some (.object "Clickbook$Cue"))) {q : (Option Nat × xWd)} (w : xWd) (hf : f_X4_cueNumbered_15 w = some q) : xk_X p l e { frames := 3, cells := 0, slots := 0, locals := 64 } s m args below meth c (MQ below (xk_Qq E q) args s 0 0 (xk_A E.2.2.1)) E 2 0 0 15 [] [] w := by
  cases hf
def f_X4_cueNumbered (x0 : Option Nat) (x1 : Int32) (w : xWd) : Option (Option Nat × xWd) := if (x1) < ((0 : Int32)) then f_X4_cueNumbered_15 w else (xk_gR w (x0) 0 3).bind (fun v2 => (xk_is w (v2) 5).bind (fun u4 => (f_Jx4a65c_size_8abf5 (v2)  w).bind (fun q3 => if (x1) < (q3.1) then (xk_gR q3.2 (x0) 0 3).bind (fun v6 => (xk_is q3.2 (v6) 5).bind (fun u8 => (f_Jx4a65c_get_915e3 (v6) (x1) q3.2).bind (fun q7 => (xk_cc q7.2 (q7.1) 1).bind (fun u9 => some (q7.1, q7.2))))) else f_X4_cueNumbered_15 (q3.2))))
set_option maxHeartbeats 4000000 in
set_option maxRecDepth 100000 in
theorem t_X4_cueNumbered_0 {p : Program} {l : Launch} {e : Env} {s : State} {m : MethodId} {args : Array Value} {below : List Frame} {meth : Method} {c : Code} {E : xEv} (hC : xk_C p s m args meth c E prog_1_method_13_code "Clickbook" 2) (hr : meth.sig.returnType = (some (.object "Clickbook$Cue"))) {q : (Option Nat × xWd)} (x0 : Option Nat) (x1 : Int32) (w : xWd) (hf : f_X4_cueNumbered x0 x1 w = some q) : xk_X p l e { frames := 3, cells := 0, slots := 0, locals := 64 } s m args below meth c (MQ below (xk_Qq E q) args s 0 0 (xk_A E.2.2.1)) E 2 0 0 0 [(0, va_rf (x0)), (1, .int (x1))] [] w := by
  refine xk_iload_n hC dX4_cueNumbered_0 1 rfl rfl ?_
  refine xk_if_lt (tgt := 15) hC dX4_cueNumbered_1 (by decide) (fun c1 => ?_) (fun c1 => ?_)
  · replace hf := (if_pos c1).symm.trans hf
    refine xk_locals [] rfl ?_
    exact t_X4_cueNumbered_15 hC hr w hf
  · replace hf := (if_neg c1).symm.trans hf
    refine xk_iload_n hC dX4_cueNumbered_4 1 rfl rfl ?_
    refine xk_aload_n hC dX4_cueNumbered_5 0 rfl rfl ?_
    obtain ⟨v2, h2, hf⟩ := xk_bi hf
    refine xk_getR hC xi_0 xc_0 3 (by decide) xm_77 (Or.inl rfl) dX4_cueNumbered_6 h2 ?_
    obtain ⟨u4, h4, hf⟩ := xk_bi hf
    obtain ⟨q3, h3, hf⟩ := xk_bi hf
    refine xk_backi (xk_callV hC 0 xc_5 (c_Jx4a65c_size_8abf5 h3) h4 xm_187 xm_188 xm_189 xm_4 xm_190 ⟨rfl, xd_Jx4a65c_size_8abf5⟩ rfl ⟨Nat.le_of_ble_eq_true rfl, Nat.le_of_ble_eq_true rfl⟩ rfl (Nat.le_of_ble_eq_true rfl) dX4_cueNumbered_9 ⟨(Nat.le_of_ble_eq_true rfl), (Nat.le_of_ble_eq_true rfl)⟩) ?_
    refine xk_icmp_lt (tgt := 25) hC dX4_cueNumbered_12 (by decide) (fun c5 => ?_) (fun c5 => ?_)
    · replace hf := (if_pos c5).symm.trans hf
      refine xk_aload_n hC dX4_cueNumbered_25 0 rfl rfl ?_
      obtain ⟨v6, h6, hf⟩ := xk_bi hf
      refine xk_getR hC xi_0 xc_0 3 (by decide) xm_77 (Or.inl rfl) dX4_cueNumbered_26 h6 ?_
      refine xk_iload_n hC dX4_cueNumbered_29 1 rfl rfl ?_
      obtain ⟨u8, h8, hf⟩ := xk_bi hf
      obtain ⟨q7, h7, hf⟩ := xk_bi hf
      refine xk_backq (xk_callV hC 1 xc_5 (c_Jx4a65c_get_915e3 h7) h8 xm_381 xm_382 xm_383 xm_4 xm_384 ⟨rfl, xd_Jx4a65c_get_915e3⟩ rfl ⟨Nat.le_of_ble_eq_true rfl, Nat.le_of_ble_eq_true rfl⟩ rfl (Nat.le_of_ble_eq_true rfl) dX4_cueNumbered_30 ⟨(Nat.le_of_ble_eq_true rfl), (Nat.le_of_ble_eq_true rfl)⟩) ?_
      obtain ⟨u9, h9, hf⟩ := xk_bi hf
      refine xk_cast hC xc_1 xm_311 dX4_cueNumbered_33 h9 ?_
      cases hf
      refine xk_widen (k := 0) (n := 0) (Nat.le_of_ble_eq_true rfl) (Nat.le_of_ble_eq_true rfl) ?_
      exact xk_aret hC hr (Or.inl ⟨_, rfl⟩) dX4_cueNumbered_36
    · replace hf := (if_neg c5).symm.trans hf
      refine xk_locals [] rfl ?_
      exact t_X4_cueNumbered_15 hC hr (q3.2) hf
theorem xd_X4_cueNumbered : xy_X4_cueNumbered.cls ≠ "java/lang/invoke/MethodHandle" ∧ xy_X4_cueNumbered.cls ≠ "java/lang/invoke/VarHandle" ∧ (parseMethodDescriptor xy_X4_cueNumbered.desc).map (fun d => d.parameters.length) = some 1 := ⟨by decide +kernel, by decide +kernel, by decide +kernel⟩
theorem c_X4_cueNumbered {l : Launch} {E : xEv} {x0 : Option Nat} {x1 : Int32} {w : xWd} {q : (Option Nat × xWd)} (hf : f_X4_cueNumbered x0 x1 w = some q) : xk_M l xy_X4_cueNumbered prog_1_method_13_code 2 (some (.object "Clickbook$Cue")) 3 64 0 0 E [va_rf (x0), .int (x1)] w (xk_Qq E q) := by
  refine xk_enter (by decide +kernel) (by simp [lg_sl, xk_cat1, xk_cati, xk_catl, xk_catd]) ?_
  intro p e s m args below meth c hC hr hin ha
  rw [show lv_args 0 [va_rf (x0), .int (x1)] = [(0, va_rf (x0)), (1, .int (x1))] by simp [lv_args, xk_cat1, xk_cati, xk_catl, xk_catd]]
  exact t_X4_cueNumbered_0 hC hr x0 x1 w hf
def f_X4_refuseBadBar_24 (w : xWd) : Option xWd := none
set_option maxHeartbeats 4000000 in
set_option maxRecDepth 100000 in
theorem t_X4_refuseBadBar_24 {p : Program} {l : Launch} {e : Env} {s : State} {m : MethodId} {args : Array Value} {below : List Frame} {meth : Method} {c : Code} {E : xEv} (hC : xk_C p s m args meth c E prog_1_method_15_code "Clickbook" 2) (hr : meth.sig.returnType = none) {q : xWd} (w : xWd) (hf : f_X4_refuseBadBar_24 w = some q) : xk_X p l e { frames := 0, cells := 0, slots := 0, locals := 0 } s m args below meth c (MQ below (xk_Qv E q) args s 0 0 (xk_A E.2.2.1)) E 2 0 0 24 [] [] w := by
  cases hf
def f_X4_refuseBadBar (x0 : Int32) (x1 : Int32) (w : xWd) : Option xWd := if (x0) < ((2 : Int32)) then f_X4_refuseBadBar_24 w else if ((7 : Int32)) < (x0) then f_X4_refuseBadBar_24 w else if (x1) < ((24 : Int32)) then f_X4_refuseBadBar_24 w else if (x1) ≤ ((160 : Int32)) then some w else f_X4_refuseBadBar_24 w
set_option maxHeartbeats 4000000 in
set_option maxRecDepth 100000 in
theorem t_X4_refuseBadBar_0 {p : Program} {l : Launch} {e : Env} {s : State} {m : MethodId} {args : Array Value} {below : List Frame} {meth : Method} {c : Code} {E : xEv} (hC : xk_C p s m args meth c E prog_1_method_15_code "Clickbook" 2) (hr : meth.sig.returnType = none) {q : xWd} (x0 : Int32) (x1 : Int32) (w : xWd) (hf : f_X4_refuseBadBar x0 x1 w = some q) : xk_X p l e { frames := 0, cells := 0, slots := 0, locals := 0 } s m args below meth c (MQ below (xk_Qv E q) args s 0 0 (xk_A E.2.2.1)) E 2 0 0 0 [(0, .int (x0)), (1, .int (x1))] [] w := by
  refine xk_iload_n hC dX4_refuseBadBar_0 0 rfl rfl ?_
  refine xk_iconst (v := (2 : Int32)) hC dX4_refuseBadBar_1 (by decide) ?_
  refine xk_icmp_lt (tgt := 24) hC dX4_refuseBadBar_2 (by decide) (fun c1 => ?_) (fun c1 => ?_)
  · replace hf := (if_pos c1).symm.trans hf
    refine xk_locals [] rfl ?_
    exact t_X4_refuseBadBar_24 hC hr w hf
  · replace hf := (if_neg c1).symm.trans hf
    refine xk_iload_n hC dX4_refuseBadBar_5 0 rfl rfl ?_
    refine xk_bipush (v := (7 : Int32)) hC dX4_refuseBadBar_6 (by decide) ?_
    refine xk_icmp_gt (tgt := 24) hC dX4_refuseBadBar_8 (by decide) (fun c2 => ?_) (fun c2 => ?_)
    · replace hf := (if_pos c2).symm.trans hf
      refine xk_locals [] rfl ?_
      exact t_X4_refuseBadBar_24 hC hr w hf
    · replace hf := (if_neg c2).symm.trans hf
      refine xk_iload_n hC dX4_refuseBadBar_11 1 rfl rfl ?_
      refine xk_bipush (v := (24 : Int32)) hC dX4_refuseBadBar_12 (by decide) ?_
      refine xk_icmp_lt (tgt := 24) hC dX4_refuseBadBar_14 (by decide) (fun c3 => ?_) (fun c3 => ?_)
      · replace hf := (if_pos c3).symm.trans hf
        refine xk_locals [] rfl ?_
        exact t_X4_refuseBadBar_24 hC hr w hf
      · replace hf := (if_neg c3).symm.trans hf
        refine xk_iload_n hC dX4_refuseBadBar_17 1 rfl rfl ?_
        refine xk_sipush (v := (160 : Int32)) hC dX4_refuseBadBar_18 (by decide) ?_
        refine xk_icmp_le (tgt := 34) hC dX4_refuseBadBar_21 (by decide) (fun c4 => ?_) (fun c4 => ?_)
        · replace hf := (if_pos c4).symm.trans hf
          cases hf
          refine xk_widen (k := 0) (n := 0) (Nat.le_of_ble_eq_true rfl) (Nat.le_of_ble_eq_true rfl) ?_
          exact xk_vret hC hr dX4_refuseBadBar_34
        · replace hf := (if_neg c4).symm.trans hf
          refine xk_locals [] rfl ?_
          exact t_X4_refuseBadBar_24 hC hr w hf
theorem xd_X4_refuseBadBar : xy_X4_refuseBadBar.cls ≠ "java/lang/invoke/MethodHandle" ∧ xy_X4_refuseBadBar.cls ≠ "java/lang/invoke/VarHandle" ∧ (parseMethodDescriptor xy_X4_refuseBadBar.desc).map (fun d => d.parameters.length) = some 2 := ⟨by decide +kernel, by decide +kernel, by decide +kernel⟩
theorem c_X4_refuseBadBar {l : Launch} {E : xEv} {x0 : Int32} {x1 : Int32} {w : xWd} {q : xWd} (hf : f_X4_refuseBadBar x0 x1 w = some q) : xk_M l xy_X4_refuseBadBar prog_1_method_15_code 2 none 0 0 0 0 E [.int (x0), .int (x1)] w (xk_Qv E q) := by
  refine xk_enter (by decide +kernel) (by simp [lg_sl, xk_cat1, xk_cati, xk_catl, xk_catd]) ?_
  intro p e s m args below meth c hC hr hin ha
  rw [show lv_args 0 [.int (x0), .int (x1)] = [(0, .int (x0)), (1, .int (x1))] by simp [lv_args, xk_cat1, xk_cati, xk_catl, xk_catd]]
  exact t_X4_refuseBadBar_0 hC hr x0 x1 w hf
def f_X4_bar (x0 : Option Nat) (x1 : Int32) (x2 : Int32) (x3 : Int32) (w : xWd) : Option (Int32 × xWd) := (xk_is w (x0) 0).bind (fun u2 => (f_X4_cueNumbered (x0) (x1) w).bind (fun q1 => (f_X4_refuseBadBar (x2) (x3) q1.2).bind (fun q3 => (xk_gI q3 (q1.1) 1 7).bind (fun v4 => if (v4) < ((9 : Int32)) then (xk_gI q3 (q1.1) 1 7).bind (fun v6 => (xk_pV q3 (q1.1) 1 7 (.int ((v6) + ((1 : Int32))))).bind (fun w7 => (xk_gI w7 (q1.1) 1 7).bind (fun v8 => (xk_is w7 (q1.1) 1).bind (fun u10 => (f_X0_setBar (q1.1) ((v8) - ((1 : Int32))) (x2) (x3) w7).bind (fun q9 => (xk_gI q9 (q1.1) 1 7).bind (fun v11 => some ((v11) - ((1 : Int32)), q9))))))) else none))))
set_option maxHeartbeats 4000000 in
set_option maxRecDepth 100000 in
theorem t_X4_bar_0 {p : Program} {l : Launch} {e : Env} {s : State} {m : MethodId} {args : Array Value} {below : List Frame} {meth : Method} {c : Code} {E : xEv} (hC : xk_C p s m args meth c E prog_1_method_10_code "Clickbook" 5) (hr : meth.sig.returnType = (some .int)) {q : (Int32 × xWd)} (x0 : Option Nat) (x1 : Int32) (x2 : Int32) (x3 : Int32) (w : xWd) (hf : f_X4_bar x0 x1 x2 x3 w = some q) : xk_X p l e { frames := 4, cells := 0, slots := 0, locals := 85 } s m args below meth c (MQ below (xk_Qi E q) args s 0 0 (xk_A E.2.2.1)) E 5 0 0 0 [(0, va_rf (x0)), (1, .int (x1)), (2, .int (x2)), (3, .int (x3))] [] w := by
  refine xk_aload_n hC dX4_bar_0 0 rfl rfl ?_
  refine xk_iload_n hC dX4_bar_1 1 rfl rfl ?_
  obtain ⟨u2, h2, hf⟩ := xk_bi hf
  obtain ⟨q1, h1, hf⟩ := xk_bi hf
  refine xk_backq (xk_callV hC 1 xc_0 (c_X4_cueNumbered h1) h2 xm_376 xm_378 xm_p4 xm_1 xm_379 ⟨rfl, xd_X4_cueNumbered⟩ rfl ⟨Nat.le_of_ble_eq_true rfl, Nat.le_of_ble_eq_true rfl⟩ rfl (Nat.le_of_ble_eq_true rfl) dX4_bar_2 ⟨(Nat.le_of_ble_eq_true rfl), (Nat.le_of_ble_eq_true rfl)⟩) ?_
  refine xk_astore (i := 4) (lv' := [(4, va_rf (q1.1)), (0, va_rf (x0)), (1, .int (x1)), (2, .int (x2)), (3, .int (x3))]) hC dX4_bar_5 (by decide) rfl ?_
  refine xk_iload_n hC dX4_bar_7 3 rfl rfl ?_
  refine xk_iload_n hC dX4_bar_8 4 rfl rfl ?_
  obtain ⟨q3, h3, hf⟩ := xk_bi hf
  refine xk_backv (xk_callS hC 2 (c_X4_refuseBadBar h3) xm_395 xm_396 xm_1 xm_397 xd_X4_refuseBadBar rfl ⟨Nat.le_of_ble_eq_true rfl, Nat.le_of_ble_eq_true rfl⟩ rfl (Nat.le_of_ble_eq_true rfl) dX4_bar_9 ⟨(Nat.le_of_ble_eq_true rfl), (Nat.le_of_ble_eq_true rfl)⟩) ?_
  refine xk_aload hC dX4_bar_12 0 rfl ?_
  obtain ⟨v4, h4, hf⟩ := xk_bi hf
  refine xk_getI hC xi_1 xc_1 7 (by decide) xm_334 (Or.inl rfl) dX4_bar_14 h4 ?_
  refine xk_bipush (v := (9 : Int32)) hC dX4_bar_17 (by decide) ?_
  refine xk_icmp_lt (tgt := 32) hC dX4_bar_19 (by decide) (fun c5 => ?_) (fun c5 => ?_)
  · replace hf := (if_pos c5).symm.trans hf
    refine xk_aload hC dX4_bar_32 0 rfl ?_
    refine xk_dup hC dX4_bar_34 (xk_cat1 _) ?_
    obtain ⟨v6, h6, hf⟩ := xk_bi hf
    refine xk_getI hC xi_1 xc_1 7 (by decide) xm_334 (Or.inl rfl) dX4_bar_35 h6 ?_
    refine xk_iconst (v := (1 : Int32)) hC dX4_bar_38 (by decide) ?_
    refine xk_iadd hC dX4_bar_39 ?_
    obtain ⟨w7, h7, hf⟩ := xk_bi hf
    refine xk_put hC xi_1 xc_1 xo_1 xn_1 7 (by decide) xm_334 (Or.inl rfl) rfl rfl rfl dX4_bar_40 h7 ?_
    refine xk_aload hC dX4_bar_43 0 rfl ?_
    refine xk_aload hC dX4_bar_45 0 rfl ?_
    obtain ⟨v8, h8, hf⟩ := xk_bi hf
    refine xk_getI hC xi_1 xc_1 7 (by decide) xm_334 (Or.inl rfl) dX4_bar_47 h8 ?_
    refine xk_iconst (v := (1 : Int32)) hC dX4_bar_50 (by decide) ?_
    refine xk_isub hC dX4_bar_51 ?_
    refine xk_iload_n hC dX4_bar_52 3 rfl rfl ?_
    refine xk_iload_n hC dX4_bar_53 4 rfl rfl ?_
    obtain ⟨u10, h10, hf⟩ := xk_bi hf
    obtain ⟨q9, h9, hf⟩ := xk_bi hf
    refine xk_backv (xk_callV hC 3 xc_1 (c_X0_setBar h9) h10 xm_400 xm_401 xm_402 xm_17 xm_403 ⟨rfl, xd_X0_setBar⟩ rfl ⟨Nat.le_of_ble_eq_true rfl, Nat.le_of_ble_eq_true rfl⟩ rfl (Nat.le_of_ble_eq_true rfl) dX4_bar_54 ⟨(Nat.le_of_ble_eq_true rfl), (Nat.le_of_ble_eq_true rfl)⟩) ?_
    refine xk_aload hC dX4_bar_57 0 rfl ?_
    obtain ⟨v11, h11, hf⟩ := xk_bi hf
    refine xk_getI hC xi_1 xc_1 7 (by decide) xm_334 (Or.inl rfl) dX4_bar_59 h11 ?_
    refine xk_iconst (v := (1 : Int32)) hC dX4_bar_62 (by decide) ?_
    refine xk_isub hC dX4_bar_63 ?_
    cases hf
    refine xk_widen (k := 0) (n := 0) (Nat.le_of_ble_eq_true rfl) (Nat.le_of_ble_eq_true rfl) ?_
    exact xk_iret hC hr rfl dX4_bar_64
  · replace hf := (if_neg c5).symm.trans hf
    cases hf
theorem xd_X4_bar : xy_X4_bar.cls ≠ "java/lang/invoke/MethodHandle" ∧ xy_X4_bar.cls ≠ "java/lang/invoke/VarHandle" ∧ (parseMethodDescriptor xy_X4_bar.desc).map (fun d => d.parameters.length) = some 3 := ⟨by decide +kernel, by decide +kernel, by decide +kernel⟩
theorem c_X4_bar {l : Launch} {E : xEv} {x0 : Option Nat} {x1 : Int32} {x2 : Int32} {x3 : Int32} {w : xWd} {q : (Int32 × xWd)} (hf : f_X4_bar x0 x1 x2 x3 w = some q) : xk_M l xy_X4_bar prog_1_method_10_code 5 (some .int) 4 85 0 0 E [va_rf (x0), .int (x1), .int (x2), .int (x3)] w (xk_Qi E q) := by
  refine xk_enter (by decide +kernel) (by simp [lg_sl, xk_cat1, xk_cati, xk_catl, xk_catd]) ?_
  intro p e s m args below meth c hC hr hin ha
  rw [show lv_args 0 [va_rf (x0), .int (x1), .int (x2), .int (x3)] = [(0, va_rf (x0)), (1, .int (x1)), (2, .int (x2)), (3, .int (x3))] by simp [lv_args, xk_cat1, xk_cati, xk_catl, xk_catd]]
  exact t_X4_bar_0 hC hr x0 x1 x2 x3 w hf
def f_X4_refuseNoBar_12 (w : xWd) : Option xWd := none
set_option maxHeartbeats 4000000 in
set_option maxRecDepth 100000 in
theorem t_X4_refuseNoBar_12 {p : Program} {l : Launch} {e : Env} {s : State} {m : MethodId} {args : Array Value} {below : List Frame} {meth : Method} {c : Code} {E : xEv} (hC : xk_C p s m args meth c E prog_1_method_14_code "Clickbook" 2) (hr : meth.sig.returnType = none) {q : xWd} (w : xWd) (hf : f_X4_refuseNoBar_12 w = some q) : xk_X p l e { frames := 0, cells := 0, slots := 0, locals := 0 } s m args below meth c (MQ below (xk_Qv E q) args s 0 0 (xk_A E.2.2.1)) E 2 0 0 12 [] [] w := by
  cases hf
def f_X4_refuseNoBar (x0 : Option Nat) (x1 : Int32) (w : xWd) : Option xWd := if (x1) < ((0 : Int32)) then f_X4_refuseNoBar_12 w else (xk_gI w (x0) 1 7).bind (fun v2 => if (x1) < (v2) then some w else f_X4_refuseNoBar_12 w)
set_option maxHeartbeats 4000000 in
set_option maxRecDepth 100000 in
theorem t_X4_refuseNoBar_0 {p : Program} {l : Launch} {e : Env} {s : State} {m : MethodId} {args : Array Value} {below : List Frame} {meth : Method} {c : Code} {E : xEv} (hC : xk_C p s m args meth c E prog_1_method_14_code "Clickbook" 2) (hr : meth.sig.returnType = none) {q : xWd} (x0 : Option Nat) (x1 : Int32) (w : xWd) (hf : f_X4_refuseNoBar x0 x1 w = some q) : xk_X p l e { frames := 0, cells := 0, slots := 0, locals := 0 } s m args below meth c (MQ below (xk_Qv E q) args s 0 0 (xk_A E.2.2.1)) E 2 0 0 0 [(0, va_rf (x0)), (1, .int (x1))] [] w := by
  refine xk_iload_n hC dX4_refuseNoBar_0 1 rfl rfl ?_
  refine xk_if_lt (tgt := 12) hC dX4_refuseNoBar_1 (by decide) (fun c1 => ?_) (fun c1 => ?_)
  · replace hf := (if_pos c1).symm.trans hf
    refine xk_locals [] rfl ?_
    exact t_X4_refuseNoBar_12 hC hr w hf
  · replace hf := (if_neg c1).symm.trans hf
    refine xk_iload_n hC dX4_refuseNoBar_4 1 rfl rfl ?_
    refine xk_aload_n hC dX4_refuseNoBar_5 0 rfl rfl ?_
    obtain ⟨v2, h2, hf⟩ := xk_bi hf
    refine xk_getI hC xi_1 xc_1 7 (by decide) xm_334 (Or.inl rfl) dX4_refuseNoBar_6 h2 ?_
    refine xk_icmp_lt (tgt := 22) hC dX4_refuseNoBar_9 (by decide) (fun c3 => ?_) (fun c3 => ?_)
    · replace hf := (if_pos c3).symm.trans hf
      cases hf
      refine xk_widen (k := 0) (n := 0) (Nat.le_of_ble_eq_true rfl) (Nat.le_of_ble_eq_true rfl) ?_
      exact xk_vret hC hr dX4_refuseNoBar_22
    · replace hf := (if_neg c3).symm.trans hf
      refine xk_locals [] rfl ?_
      exact t_X4_refuseNoBar_12 hC hr w hf
theorem xd_X4_refuseNoBar : xy_X4_refuseNoBar.cls ≠ "java/lang/invoke/MethodHandle" ∧ xy_X4_refuseNoBar.cls ≠ "java/lang/invoke/VarHandle" ∧ (parseMethodDescriptor xy_X4_refuseNoBar.desc).map (fun d => d.parameters.length) = some 2 := ⟨by decide +kernel, by decide +kernel, by decide +kernel⟩
theorem c_X4_refuseNoBar {l : Launch} {E : xEv} {x0 : Option Nat} {x1 : Int32} {w : xWd} {q : xWd} (hf : f_X4_refuseNoBar x0 x1 w = some q) : xk_M l xy_X4_refuseNoBar prog_1_method_14_code 2 none 0 0 0 0 E [va_rf (x0), .int (x1)] w (xk_Qv E q) := by
  refine xk_enter (by decide +kernel) (by simp [lg_sl, xk_cat1, xk_cati, xk_catl, xk_catd]) ?_
  intro p e s m args below meth c hC hr hin ha
  rw [show lv_args 0 [va_rf (x0), .int (x1)] = [(0, va_rf (x0)), (1, .int (x1))] by simp [lv_args, xk_cat1, xk_cati, xk_catl, xk_catd]]
  exact t_X4_refuseNoBar_0 hC hr x0 x1 w hf
def f_X4_retime (x0 : Option Nat) (x1 : Int32) (x2 : Int32) (x3 : Int32) (x4 : Int32) (w : xWd) : Option (Int32 × xWd) := (xk_is w (x0) 0).bind (fun u2 => (f_X4_cueNumbered (x0) (x1) w).bind (fun q1 => (f_X4_refuseNoBar (q1.1) (x2) q1.2).bind (fun q3 => (f_X4_refuseBadBar (x3) (x4) q3).bind (fun q4 => (xk_is q4 (q1.1) 1).bind (fun u6 => (f_X0_setBar (q1.1) (x2) (x3) (x4) q4).bind (fun q5 => (xk_is q5 (q1.1) 1).bind (fun u8 => (f_X0_end (q1.1)  q5).bind (fun q7 => some (q7.1, q7.2)))))))))
set_option maxHeartbeats 4000000 in
set_option maxRecDepth 100000 in
theorem t_X4_retime_0 {p : Program} {l : Launch} {e : Env} {s : State} {m : MethodId} {args : Array Value} {below : List Frame} {meth : Method} {c : Code} {E : xEv} (hC : xk_C p s m args meth c E prog_1_method_11_code "Clickbook" 6) (hr : meth.sig.returnType = (some .int)) {q : (Int32 × xWd)} (x0 : Option Nat) (x1 : Int32) (x2 : Int32) (x3 : Int32) (x4 : Int32) (w : xWd) (hf : f_X4_retime x0 x1 x2 x3 x4 w = some q) : xk_X p l e { frames := 4, cells := 0, slots := 0, locals := 85 } s m args below meth c (MQ below (xk_Qi E q) args s 0 0 (xk_A E.2.2.1)) E 6 0 0 0 [(0, va_rf (x0)), (1, .int (x1)), (2, .int (x2)), (3, .int (x3)), (4, .int (x4))] [] w := by
  refine xk_aload_n hC dX4_retime_0 0 rfl rfl ?_
  refine xk_iload_n hC dX4_retime_1 1 rfl rfl ?_
  obtain ⟨u2, h2, hf⟩ := xk_bi hf
  obtain ⟨q1, h1, hf⟩ := xk_bi hf
  refine xk_backq (xk_callV hC 1 xc_0 (c_X4_cueNumbered h1) h2 xm_376 xm_378 xm_p4 xm_1 xm_379 ⟨rfl, xd_X4_cueNumbered⟩ rfl ⟨Nat.le_of_ble_eq_true rfl, Nat.le_of_ble_eq_true rfl⟩ rfl (Nat.le_of_ble_eq_true rfl) dX4_retime_2 ⟨(Nat.le_of_ble_eq_true rfl), (Nat.le_of_ble_eq_true rfl)⟩) ?_
  refine xk_astore (i := 5) (lv' := [(5, va_rf (q1.1)), (0, va_rf (x0)), (1, .int (x1)), (2, .int (x2)), (3, .int (x3)), (4, .int (x4))]) hC dX4_retime_5 (by decide) rfl ?_
  refine xk_aload hC dX4_retime_7 0 rfl ?_
  refine xk_iload_n hC dX4_retime_9 3 rfl rfl ?_
  obtain ⟨q3, h3, hf⟩ := xk_bi hf
  refine xk_backv (xk_callS hC 2 (c_X4_refuseNoBar h3) xm_419 xm_420 xm_1 xm_421 xd_X4_refuseNoBar rfl ⟨Nat.le_of_ble_eq_true rfl, Nat.le_of_ble_eq_true rfl⟩ rfl (Nat.le_of_ble_eq_true rfl) dX4_retime_10 ⟨(Nat.le_of_ble_eq_true rfl), (Nat.le_of_ble_eq_true rfl)⟩) ?_
  refine xk_iload_n hC dX4_retime_13 4 rfl rfl ?_
  refine xk_iload hC dX4_retime_14 5 rfl ?_
  obtain ⟨q4, h4, hf⟩ := xk_bi hf
  refine xk_backv (xk_callS hC 2 (c_X4_refuseBadBar h4) xm_395 xm_396 xm_1 xm_397 xd_X4_refuseBadBar rfl ⟨Nat.le_of_ble_eq_true rfl, Nat.le_of_ble_eq_true rfl⟩ rfl (Nat.le_of_ble_eq_true rfl) dX4_retime_16 ⟨(Nat.le_of_ble_eq_true rfl), (Nat.le_of_ble_eq_true rfl)⟩) ?_
  refine xk_aload hC dX4_retime_19 0 rfl ?_
  refine xk_iload_n hC dX4_retime_21 3 rfl rfl ?_
  refine xk_iload_n hC dX4_retime_22 4 rfl rfl ?_
  refine xk_iload hC dX4_retime_23 5 rfl ?_
  obtain ⟨u6, h6, hf⟩ := xk_bi hf
  obtain ⟨q5, h5, hf⟩ := xk_bi hf
  refine xk_backv (xk_callV hC 3 xc_1 (c_X0_setBar h5) h6 xm_400 xm_401 xm_402 xm_17 xm_403 ⟨rfl, xd_X0_setBar⟩ rfl ⟨Nat.le_of_ble_eq_true rfl, Nat.le_of_ble_eq_true rfl⟩ rfl (Nat.le_of_ble_eq_true rfl) dX4_retime_25 ⟨(Nat.le_of_ble_eq_true rfl), (Nat.le_of_ble_eq_true rfl)⟩) ?_
  refine xk_aload hC dX4_retime_28 0 rfl ?_
  obtain ⟨u8, h8, hf⟩ := xk_bi hf
  obtain ⟨q7, h7, hf⟩ := xk_bi hf
  refine xk_backi (xk_callV hC 0 xc_1 (c_X0_end h7) h8 xm_423 xm_424 xm_425 xm_17 xm_426 ⟨rfl, xd_X0_end⟩ rfl ⟨Nat.le_of_ble_eq_true rfl, Nat.le_of_ble_eq_true rfl⟩ rfl (Nat.le_of_ble_eq_true rfl) dX4_retime_30 ⟨(Nat.le_of_ble_eq_true rfl), (Nat.le_of_ble_eq_true rfl)⟩) ?_
  cases hf
  refine xk_widen (k := 0) (n := 0) (Nat.le_of_ble_eq_true rfl) (Nat.le_of_ble_eq_true rfl) ?_
  exact xk_iret hC hr rfl dX4_retime_33
theorem xd_X4_retime : xy_X4_retime.cls ≠ "java/lang/invoke/MethodHandle" ∧ xy_X4_retime.cls ≠ "java/lang/invoke/VarHandle" ∧ (parseMethodDescriptor xy_X4_retime.desc).map (fun d => d.parameters.length) = some 4 := ⟨by decide +kernel, by decide +kernel, by decide +kernel⟩
theorem c_X4_retime {l : Launch} {E : xEv} {x0 : Option Nat} {x1 : Int32} {x2 : Int32} {x3 : Int32} {x4 : Int32} {w : xWd} {q : (Int32 × xWd)} (hf : f_X4_retime x0 x1 x2 x3 x4 w = some q) : xk_M l xy_X4_retime prog_1_method_11_code 6 (some .int) 4 85 0 0 E [va_rf (x0), .int (x1), .int (x2), .int (x3), .int (x4)] w (xk_Qi E q) := by
  refine xk_enter (by decide +kernel) (by simp [lg_sl, xk_cat1, xk_cati, xk_catl, xk_catd]) ?_
  intro p e s m args below meth c hC hr hin ha
  rw [show lv_args 0 [va_rf (x0), .int (x1), .int (x2), .int (x3), .int (x4)] = [(0, va_rf (x0)), (1, .int (x1)), (2, .int (x2)), (3, .int (x3)), (4, .int (x4))] by simp [lv_args, xk_cat1, xk_cati, xk_catl, xk_catd]]
  exact t_X4_retime_0 hC hr x0 x1 x2 x3 x4 w hf
def f_X4_isMetBut_66 (k2 : Option Nat → Option Nat → Int32 → Int32 → xWd → Option (Int32 × xWd)) (x0 : Option Nat) (x1 : Option Nat) (x2 : Int32) (x3 : Int32) (w : xWd) : Option (Int32 × xWd) := k2 x0 x1 x2 (x3 + (1 : Int32)) w
set_option maxHeartbeats 4000000 in
set_option maxRecDepth 100000 in
theorem t_X4_isMetBut_66 {p : Program} {l : Launch} {e : Env} {s : State} {m : MethodId} {args : Array Value} {below : List Frame} {meth : Method} {c : Code} {E : xEv} (hC : xk_C p s m args meth c E prog_1_method_32_code "Clickbook" 5) (hr : meth.sig.returnType = (some .boolean)) {q : (Int32 × xWd)} {k2 : Option Nat → Option Nat → Int32 → Int32 → xWd → Option (Int32 × xWd)} (hk2 : ∀ (x0 : Option Nat) (x1 : Option Nat) (x2 : Int32) (x3 : Int32) (w : xWd), k2 x0 x1 x2 x3 w = some q → xk_X p l e { frames := 3, cells := 0, slots := 0, locals := 64 } s m args below meth c (MQ below (xk_Qi E q) args s 0 0 (xk_A E.2.2.1)) E 5 0 0 2 [(0, va_rf (x0)), (1, va_rf (x1)), (2, .int (x2)), (3, .int (x3))] [] w) (x0 : Option Nat) (x1 : Option Nat) (x2 : Int32) (x3 : Int32) (w : xWd) (hf : f_X4_isMetBut_66 k2 x0 x1 x2 x3 w = some q) : xk_X p l e { frames := 3, cells := 0, slots := 0, locals := 64 } s m args below meth c (MQ below (xk_Qi E q) args s 0 0 (xk_A E.2.2.1)) E 5 0 0 66 [(0, va_rf (x0)), (1, va_rf (x1)), (2, .int (x2)), (3, .int (x3))] [] w := by
  refine xk_iinc (v := x3 + (1 : Int32)) (lv' := [(3, .int (x3 + (1 : Int32))), (0, va_rf (x0)), (1, va_rf (x1)), (2, .int (x2))]) hC dX4_isMetBut_66 3 rfl rfl (by decide) rfl ?_
  refine xk_goto (tgt := 2) hC dX4_isMetBut_69 (by decide) ?_
  refine xk_locals [1, 2, 3, 0] rfl ?_
  exact hk2 x0 x1 x2 (x3 + (1 : Int32)) w hf
def f_X4_isMetBut_72 (w : xWd) : Option (Int32 × xWd) := some ((0 : Int32), w)
set_option maxHeartbeats 4000000 in
set_option maxRecDepth 100000 in
theorem t_X4_isMetBut_72 {p : Program} {l : Launch} {e : Env} {s : State} {m : MethodId} {args : Array Value} {below : List Frame} {meth : Method} {c : Code} {E : xEv} (hC : xk_C p s m args meth c E prog_1_method_32_code "Clickbook" 5) (hr : meth.sig.returnType = (some .boolean)) {q : (Int32 × xWd)} (w : xWd) (hf : f_X4_isMetBut_72 w = some q) : xk_X p l e { frames := 3, cells := 0, slots := 0, locals := 64 } s m args below meth c (MQ below (xk_Qi E q) args s 0 0 (xk_A E.2.2.1)) E 5 0 0 72 [] [] w := by
  refine xk_iconst (v := (0 : Int32)) hC dX4_isMetBut_72 (by decide) ?_
  cases hf
  refine xk_widen (k := 0) (n := 0) (Nat.le_of_ble_eq_true rfl) (Nat.le_of_ble_eq_true rfl) ?_
  exact xk_iret hC hr rfl dX4_isMetBut_73
def f_X4_isMetBut_2 : Nat → Option Nat → Option Nat → Int32 → Int32 → xWd → Option (Int32 × xWd)
  | 0, _, _, _, _, _ => none
  | n + 1, x0, x1, x2, x3, w => (xk_gR w (x0) 0 3).bind (fun v1 => (xk_is w (v1) 5).bind (fun u3 => (f_Jx4a65c_size_8abf5 (v1)  w).bind (fun q2 => if (q2.1) ≤ (x3) then f_X4_isMetBut_72 (q2.2) else (xk_gI q2.2 (x1) 2 2).bind (fun v5 => if (v5) = ((0 : Int32)) then (xk_gR q2.2 (x0) 0 3).bind (fun v7 => (xk_is q2.2 (v7) 5).bind (fun u9 => (f_Jx4a65c_get_915e3 (v7) (x3) q2.2).bind (fun q8 => (xk_cc q8.2 (q8.1) 1).bind (fun u10 => if (x3) = (x2) then f_X4_isMetBut_66 (f_X4_isMetBut_2 n) x0 x1 x2 x3 (q8.2) else (xk_gI q8.2 (x1) 2 0).bind (fun v12 => (xk_gI q8.2 (x1) 2 1).bind (fun v13 => (xk_gI q8.2 (q8.1) 1 1).bind (fun v14 => (xk_gR q8.2 (q8.1) 1 12).bind (fun v15 => (xk_is q8.2 (q8.1) 1).bind (fun u17 => (f_X0_reaches (q8.1) (v12) (v13) (v14) (v15) q8.2).bind (fun q16 => if (q16.1) = ((0 : Int32)) then f_X4_isMetBut_66 (f_X4_isMetBut_2 n) x0 x1 x2 x3 (q16.2) else some ((1 : Int32), q16.2))))))))))) else f_X4_isMetBut_72 (q2.2)))))
set_option maxHeartbeats 4000000 in
set_option maxRecDepth 100000 in
theorem t_X4_isMetBut_2 {p : Program} {l : Launch} {e : Env} {s : State} {m : MethodId} {args : Array Value} {below : List Frame} {meth : Method} {c : Code} {E : xEv} (hC : xk_C p s m args meth c E prog_1_method_32_code "Clickbook" 5) (hr : meth.sig.returnType = (some .boolean)) {q : (Int32 × xWd)} : ∀ (n : Nat) (x0 : Option Nat) (x1 : Option Nat) (x2 : Int32) (x3 : Int32) (w : xWd), f_X4_isMetBut_2 n x0 x1 x2 x3 w = some q → xk_X p l e { frames := 3, cells := 0, slots := 0, locals := 64 } s m args below meth c (MQ below (xk_Qi E q) args s 0 0 (xk_A E.2.2.1)) E 5 0 0 2 [(0, va_rf (x0)), (1, va_rf (x1)), (2, .int (x2)), (3, .int (x3))] [] w := by
  intro n
  induction n with
  | zero => intro x0 x1 x2 x3 w hf; have hf : none = some q := hf; cases hf
  | succ n ih =>
    intro x0 x1 x2 x3 w hf
    refine xk_iload_n hC dX4_isMetBut_2 3 rfl rfl ?_
    refine xk_aload_n hC dX4_isMetBut_3 0 rfl rfl ?_
    obtain ⟨v1, h1, hf⟩ := xk_bi hf
    refine xk_getR hC xi_0 xc_0 3 (by decide) xm_77 (Or.inl rfl) dX4_isMetBut_4 h1 ?_
    obtain ⟨u3, h3, hf⟩ := xk_bi hf
    obtain ⟨q2, h2, hf⟩ := xk_bi hf
    refine xk_backi (xk_callV hC 0 xc_5 (c_Jx4a65c_size_8abf5 h2) h3 xm_187 xm_188 xm_189 xm_4 xm_190 ⟨rfl, xd_Jx4a65c_size_8abf5⟩ rfl ⟨Nat.le_of_ble_eq_true rfl, Nat.le_of_ble_eq_true rfl⟩ rfl (Nat.le_of_ble_eq_true rfl) dX4_isMetBut_7 ⟨(Nat.le_of_ble_eq_true rfl), (Nat.le_of_ble_eq_true rfl)⟩) ?_
    refine xk_icmp_ge (tgt := 72) hC dX4_isMetBut_10 (by decide) (fun c4 => ?_) (fun c4 => ?_)
    · replace hf := (if_pos c4).symm.trans hf
      refine xk_locals [] rfl ?_
      exact t_X4_isMetBut_72 hC hr (q2.2) hf
    · replace hf := (if_neg c4).symm.trans hf
      refine xk_aload_n hC dX4_isMetBut_13 1 rfl rfl ?_
      obtain ⟨v5, h5, hf⟩ := xk_bi hf
      refine xk_getI hC xi_2 xc_2 2 (by decide) xm_218 (Or.inl rfl) dX4_isMetBut_14 h5 ?_
      refine xk_if_ne (tgt := 72) hC dX4_isMetBut_17 (by decide) (fun c6 => ?_) (fun c6 => ?_)
      · replace hf := (if_neg c6).symm.trans hf
        refine xk_locals [] rfl ?_
        exact t_X4_isMetBut_72 hC hr (q2.2) hf
      · replace hf := (if_pos c6).symm.trans hf
        refine xk_aload_n hC dX4_isMetBut_20 0 rfl rfl ?_
        obtain ⟨v7, h7, hf⟩ := xk_bi hf
        refine xk_getR hC xi_0 xc_0 3 (by decide) xm_77 (Or.inl rfl) dX4_isMetBut_21 h7 ?_
        refine xk_iload_n hC dX4_isMetBut_24 3 rfl rfl ?_
        obtain ⟨u9, h9, hf⟩ := xk_bi hf
        obtain ⟨q8, h8, hf⟩ := xk_bi hf
        refine xk_backq (xk_callV hC 1 xc_5 (c_Jx4a65c_get_915e3 h8) h9 xm_381 xm_382 xm_383 xm_4 xm_384 ⟨rfl, xd_Jx4a65c_get_915e3⟩ rfl ⟨Nat.le_of_ble_eq_true rfl, Nat.le_of_ble_eq_true rfl⟩ rfl (Nat.le_of_ble_eq_true rfl) dX4_isMetBut_25 ⟨(Nat.le_of_ble_eq_true rfl), (Nat.le_of_ble_eq_true rfl)⟩) ?_
        obtain ⟨u10, h10, hf⟩ := xk_bi hf
        refine xk_cast hC xc_1 xm_311 dX4_isMetBut_28 h10 ?_
        refine xk_astore (i := 4) (lv' := [(4, va_rf (q8.1)), (0, va_rf (x0)), (1, va_rf (x1)), (2, .int (x2)), (3, .int (x3))]) hC dX4_isMetBut_31 (by decide) rfl ?_
        refine xk_iload_n hC dX4_isMetBut_33 4 rfl rfl ?_
        refine xk_iload_n hC dX4_isMetBut_34 3 rfl rfl ?_
        refine xk_icmp_eq (tgt := 66) hC dX4_isMetBut_35 (by decide) (fun c11 => ?_) (fun c11 => ?_)
        · replace hf := (if_pos c11).symm.trans hf
          refine xk_locals [1, 2, 3, 4] rfl ?_
          exact t_X4_isMetBut_66 hC hr (fun x0 x1 x2 x3 w hf => ih x0 x1 x2 x3 w hf) x0 x1 x2 x3 (q8.2) hf
        · replace hf := (if_neg c11).symm.trans hf
          refine xk_aload hC dX4_isMetBut_38 0 rfl ?_
          refine xk_aload_n hC dX4_isMetBut_40 2 rfl rfl ?_
          obtain ⟨v12, h12, hf⟩ := xk_bi hf
          refine xk_getI hC xi_2 xc_2 0 (by decide) xm_214 (Or.inl rfl) dX4_isMetBut_41 h12 ?_
          refine xk_aload_n hC dX4_isMetBut_44 2 rfl rfl ?_
          obtain ⟨v13, h13, hf⟩ := xk_bi hf
          refine xk_getI hC xi_2 xc_2 1 (by decide) xm_216 (Or.inl rfl) dX4_isMetBut_45 h13 ?_
          refine xk_aload hC dX4_isMetBut_48 0 rfl ?_
          obtain ⟨v14, h14, hf⟩ := xk_bi hf
          refine xk_getI hC xi_1 xc_1 1 (by decide) xm_320 (Or.inl rfl) dX4_isMetBut_50 h14 ?_
          refine xk_aload hC dX4_isMetBut_53 0 rfl ?_
          obtain ⟨v15, h15, hf⟩ := xk_bi hf
          refine xk_getR hC xi_1 xc_1 12 (by decide) xm_344 (Or.inl rfl) dX4_isMetBut_55 h15 ?_
          obtain ⟨u17, h17, hf⟩ := xk_bi hf
          obtain ⟨q16, h16, hf⟩ := xk_bi hf
          refine xk_backi (xk_callV hC 4 xc_1 (c_X0_reaches h16) h17 xm_444 xm_445 xm_446 xm_17 xm_447 ⟨rfl, xd_X0_reaches⟩ rfl ⟨Nat.le_of_ble_eq_true rfl, Nat.le_of_ble_eq_true rfl⟩ rfl (Nat.le_of_ble_eq_true rfl) dX4_isMetBut_58 ⟨(Nat.le_of_ble_eq_true rfl), (Nat.le_of_ble_eq_true rfl)⟩) ?_
          refine xk_if_eq (tgt := 66) hC dX4_isMetBut_61 (by decide) (fun c18 => ?_) (fun c18 => ?_)
          · replace hf := (if_pos c18).symm.trans hf
            refine xk_locals [1, 2, 3, 4] rfl ?_
            exact t_X4_isMetBut_66 hC hr (fun x0 x1 x2 x3 w hf => ih x0 x1 x2 x3 w hf) x0 x1 x2 x3 (q16.2) hf
          · replace hf := (if_neg c18).symm.trans hf
            refine xk_iconst (v := (1 : Int32)) hC dX4_isMetBut_64 (by decide) ?_
            cases hf
            refine xk_widen (k := 0) (n := 0) (Nat.le_of_ble_eq_true rfl) (Nat.le_of_ble_eq_true rfl) ?_
            exact xk_iret hC hr rfl dX4_isMetBut_65
def f_X4_isMetBut (x0 : Option Nat) (x1 : Option Nat) (x2 : Int32) (w : xWd) : Option (Int32 × xWd) := f_X4_isMetBut_2 4096 x0 x1 x2 ((0 : Int32)) w
set_option maxHeartbeats 4000000 in
set_option maxRecDepth 100000 in
theorem t_X4_isMetBut_0 {p : Program} {l : Launch} {e : Env} {s : State} {m : MethodId} {args : Array Value} {below : List Frame} {meth : Method} {c : Code} {E : xEv} (hC : xk_C p s m args meth c E prog_1_method_32_code "Clickbook" 5) (hr : meth.sig.returnType = (some .boolean)) {q : (Int32 × xWd)} (x0 : Option Nat) (x1 : Option Nat) (x2 : Int32) (w : xWd) (hf : f_X4_isMetBut x0 x1 x2 w = some q) : xk_X p l e { frames := 3, cells := 0, slots := 0, locals := 64 } s m args below meth c (MQ below (xk_Qi E q) args s 0 0 (xk_A E.2.2.1)) E 5 0 0 0 [(0, va_rf (x0)), (1, va_rf (x1)), (2, .int (x2))] [] w := by
  refine xk_iconst (v := (0 : Int32)) hC dX4_isMetBut_0 (by decide) ?_
  refine xk_istore_n (i := 3) (lv' := [(3, .int ((0 : Int32))), (0, va_rf (x0)), (1, va_rf (x1)), (2, .int (x2))]) hC dX4_isMetBut_1 rfl (by decide) rfl ?_
  refine xk_locals [1, 2, 3, 0] rfl ?_
  exact t_X4_isMetBut_2 hC hr 4096 x0 x1 x2 ((0 : Int32)) w hf
theorem xd_X4_isMetBut : xy_X4_isMetBut.cls ≠ "java/lang/invoke/MethodHandle" ∧ xy_X4_isMetBut.cls ≠ "java/lang/invoke/VarHandle" ∧ (parseMethodDescriptor xy_X4_isMetBut.desc).map (fun d => d.parameters.length) = some 2 := ⟨by decide +kernel, by decide +kernel, by decide +kernel⟩
theorem c_X4_isMetBut {l : Launch} {E : xEv} {x0 : Option Nat} {x1 : Option Nat} {x2 : Int32} {w : xWd} {q : (Int32 × xWd)} (hf : f_X4_isMetBut x0 x1 x2 w = some q) : xk_M l xy_X4_isMetBut prog_1_method_32_code 5 (some .boolean) 3 64 0 0 E [va_rf (x0), va_rf (x1), .int (x2)] w (xk_Qi E q) := by
  refine xk_enter (by decide +kernel) (by simp [lg_sl, xk_cat1, xk_cati, xk_catl, xk_catd]) ?_
  intro p e s m args below meth c hC hr hin ha
  rw [show lv_args 0 [va_rf (x0), va_rf (x1), .int (x2)] = [(0, va_rf (x0)), (1, va_rf (x1)), (2, .int (x2))] by simp [lv_args, xk_cat1, xk_cati, xk_catl, xk_catd]]
  exact t_X4_isMetBut_0 hC hr x0 x1 x2 w hf
def f_X4_isMet (x0 : Option Nat) (x1 : Option Nat) (w : xWd) : Option (Int32 × xWd) := (xk_is w (x0) 0).bind (fun u2 => (f_X4_isMetBut (x0) (x1) ((-1 : Int32)) w).bind (fun q1 => (xk_zb (q1.1)).bind (fun u3 => some (q1.1, q1.2))))
set_option maxHeartbeats 4000000 in
set_option maxRecDepth 100000 in
theorem t_X4_isMet_0 {p : Program} {l : Launch} {e : Env} {s : State} {m : MethodId} {args : Array Value} {below : List Frame} {meth : Method} {c : Code} {E : xEv} (hC : xk_C p s m args meth c E prog_1_method_31_code "Clickbook" 2) (hr : meth.sig.returnType = (some .boolean)) {q : (Int32 × xWd)} (x0 : Option Nat) (x1 : Option Nat) (w : xWd) (hf : f_X4_isMet x0 x1 w = some q) : xk_X p l e { frames := 4, cells := 0, slots := 0, locals := 88 } s m args below meth c (MQ below (xk_Qi E q) args s 0 0 (xk_A E.2.2.1)) E 2 0 0 0 [(0, va_rf (x0)), (1, va_rf (x1))] [] w := by
  refine xk_aload_n hC dX4_isMet_0 0 rfl rfl ?_
  refine xk_aload_n hC dX4_isMet_1 1 rfl rfl ?_
  refine xk_iconst (v := (-1 : Int32)) hC dX4_isMet_2 (by decide) ?_
  obtain ⟨u2, h2, hf⟩ := xk_bi hf
  obtain ⟨q1, h1, hf⟩ := xk_bi hf
  refine xk_backi (xk_callV hC 2 xc_0 (c_X4_isMetBut h1) h2 xm_440 xm_442 xm_p7 xm_1 xm_443 ⟨rfl, xd_X4_isMetBut⟩ rfl ⟨Nat.le_of_ble_eq_true rfl, Nat.le_of_ble_eq_true rfl⟩ rfl (Nat.le_of_ble_eq_true rfl) dX4_isMet_3 ⟨(Nat.le_of_ble_eq_true rfl), (Nat.le_of_ble_eq_true rfl)⟩) ?_
  obtain ⟨u3, h3, hf⟩ := xk_bi hf
  cases hf
  refine xk_widen (k := 0) (n := 0) (Nat.le_of_ble_eq_true rfl) (Nat.le_of_ble_eq_true rfl) ?_
  exact xk_iret hC hr (xk_zb_e h3) dX4_isMet_6
theorem xd_X4_isMet : xy_X4_isMet.cls ≠ "java/lang/invoke/MethodHandle" ∧ xy_X4_isMet.cls ≠ "java/lang/invoke/VarHandle" ∧ (parseMethodDescriptor xy_X4_isMet.desc).map (fun d => d.parameters.length) = some 1 := ⟨by decide +kernel, by decide +kernel, by decide +kernel⟩
theorem c_X4_isMet {l : Launch} {E : xEv} {x0 : Option Nat} {x1 : Option Nat} {w : xWd} {q : (Int32 × xWd)} (hf : f_X4_isMet x0 x1 w = some q) : xk_M l xy_X4_isMet prog_1_method_31_code 2 (some .boolean) 4 88 0 0 E [va_rf (x0), va_rf (x1)] w (xk_Qi E q) := by
  refine xk_enter (by decide +kernel) (by simp [lg_sl, xk_cat1, xk_cati, xk_catl, xk_catd]) ?_
  intro p e s m args below meth c hC hr hin ha
  rw [show lv_args 0 [va_rf (x0), va_rf (x1)] = [(0, va_rf (x0)), (1, va_rf (x1))] by simp [lv_args, xk_cat1, xk_cati, xk_catl, xk_catd]]
  exact t_X4_isMet_0 hC hr x0 x1 w hf
def f_X4_countMet_36 (k4 : Option Nat → Int32 → Int32 → xWd → Option (Int32 × xWd)) (x0 : Option Nat) (x1 : Int32) (x2 : Int32) (w : xWd) : Option (Int32 × xWd) := k4 x0 x1 (x2 + (1 : Int32)) w
set_option maxHeartbeats 4000000 in
set_option maxRecDepth 100000 in
theorem t_X4_countMet_36 {p : Program} {l : Launch} {e : Env} {s : State} {m : MethodId} {args : Array Value} {below : List Frame} {meth : Method} {c : Code} {E : xEv} (hC : xk_C p s m args meth c E prog_1_method_33_code "Clickbook" 3) (hr : meth.sig.returnType = (some .int)) {q : (Int32 × xWd)} {k4 : Option Nat → Int32 → Int32 → xWd → Option (Int32 × xWd)} (hk4 : ∀ (x0 : Option Nat) (x1 : Int32) (x2 : Int32) (w : xWd), k4 x0 x1 x2 w = some q → xk_X p l e { frames := 5, cells := 0, slots := 0, locals := 109 } s m args below meth c (MQ below (xk_Qi E q) args s 0 0 (xk_A E.2.2.1)) E 3 0 0 4 [(0, va_rf (x0)), (1, .int (x1)), (2, .int (x2))] [] w) (x0 : Option Nat) (x1 : Int32) (x2 : Int32) (w : xWd) (hf : f_X4_countMet_36 k4 x0 x1 x2 w = some q) : xk_X p l e { frames := 5, cells := 0, slots := 0, locals := 109 } s m args below meth c (MQ below (xk_Qi E q) args s 0 0 (xk_A E.2.2.1)) E 3 0 0 36 [(0, va_rf (x0)), (1, .int (x1)), (2, .int (x2))] [] w := by
  refine xk_iinc (v := x2 + (1 : Int32)) (lv' := [(2, .int (x2 + (1 : Int32))), (0, va_rf (x0)), (1, .int (x1))]) hC dX4_countMet_36 2 rfl rfl (by decide) rfl ?_
  refine xk_goto (tgt := 4) hC dX4_countMet_39 (by decide) ?_
  refine xk_locals [1, 2, 0] rfl ?_
  exact hk4 x0 x1 (x2 + (1 : Int32)) w hf
def f_X4_countMet_4 : Nat → Option Nat → Int32 → Int32 → xWd → Option (Int32 × xWd)
  | 0, _, _, _, _ => none
  | n + 1, x0, x1, x2, w => (xk_gR w (x0) 0 0).bind (fun v1 => (xk_is w (v1) 5).bind (fun u3 => (f_Jx4a65c_size_8abf5 (v1)  w).bind (fun q2 => if (q2.1) ≤ (x2) then some (x1, q2.2) else (xk_gR q2.2 (x0) 0 0).bind (fun v5 => (xk_is q2.2 (v5) 5).bind (fun u7 => (f_Jx4a65c_get_915e3 (v5) (x2) q2.2).bind (fun q6 => (xk_cc q6.2 (q6.1) 2).bind (fun u8 => (xk_is q6.2 (x0) 0).bind (fun u10 => (f_X4_isMet (x0) (q6.1) q6.2).bind (fun q9 => if (q9.1) = ((0 : Int32)) then f_X4_countMet_36 (f_X4_countMet_4 n) x0 x1 x2 (q9.2) else f_X4_countMet_36 (f_X4_countMet_4 n) x0 (x1 + (1 : Int32)) x2 (q9.2))))))))))
set_option maxHeartbeats 4000000 in
set_option maxRecDepth 100000 in
theorem t_X4_countMet_4 {p : Program} {l : Launch} {e : Env} {s : State} {m : MethodId} {args : Array Value} {below : List Frame} {meth : Method} {c : Code} {E : xEv} (hC : xk_C p s m args meth c E prog_1_method_33_code "Clickbook" 3) (hr : meth.sig.returnType = (some .int)) {q : (Int32 × xWd)} : ∀ (n : Nat) (x0 : Option Nat) (x1 : Int32) (x2 : Int32) (w : xWd), f_X4_countMet_4 n x0 x1 x2 w = some q → xk_X p l e { frames := 5, cells := 0, slots := 0, locals := 109 } s m args below meth c (MQ below (xk_Qi E q) args s 0 0 (xk_A E.2.2.1)) E 3 0 0 4 [(0, va_rf (x0)), (1, .int (x1)), (2, .int (x2))] [] w := by
  intro n
  induction n with
  | zero => intro x0 x1 x2 w hf; have hf : none = some q := hf; cases hf
  | succ n ih =>
    intro x0 x1 x2 w hf
    refine xk_iload_n hC dX4_countMet_4 2 rfl rfl ?_
    refine xk_aload_n hC dX4_countMet_5 0 rfl rfl ?_
    obtain ⟨v1, h1, hf⟩ := xk_bi hf
    refine xk_getR hC xi_0 xc_0 0 (by decide) xm_74 (Or.inl rfl) dX4_countMet_6 h1 ?_
    obtain ⟨u3, h3, hf⟩ := xk_bi hf
    obtain ⟨q2, h2, hf⟩ := xk_bi hf
    refine xk_backi (xk_callV hC 0 xc_5 (c_Jx4a65c_size_8abf5 h2) h3 xm_187 xm_188 xm_189 xm_4 xm_190 ⟨rfl, xd_Jx4a65c_size_8abf5⟩ rfl ⟨Nat.le_of_ble_eq_true rfl, Nat.le_of_ble_eq_true rfl⟩ rfl (Nat.le_of_ble_eq_true rfl) dX4_countMet_9 ⟨(Nat.le_of_ble_eq_true rfl), (Nat.le_of_ble_eq_true rfl)⟩) ?_
    refine xk_icmp_ge (tgt := 42) hC dX4_countMet_12 (by decide) (fun c4 => ?_) (fun c4 => ?_)
    · replace hf := (if_pos c4).symm.trans hf
      refine xk_iload_n hC dX4_countMet_42 1 rfl rfl ?_
      cases hf
      refine xk_widen (k := 0) (n := 0) (Nat.le_of_ble_eq_true rfl) (Nat.le_of_ble_eq_true rfl) ?_
      exact xk_iret hC hr rfl dX4_countMet_43
    · replace hf := (if_neg c4).symm.trans hf
      refine xk_aload_n hC dX4_countMet_15 0 rfl rfl ?_
      refine xk_aload_n hC dX4_countMet_16 0 rfl rfl ?_
      obtain ⟨v5, h5, hf⟩ := xk_bi hf
      refine xk_getR hC xi_0 xc_0 0 (by decide) xm_74 (Or.inl rfl) dX4_countMet_17 h5 ?_
      refine xk_iload_n hC dX4_countMet_20 2 rfl rfl ?_
      obtain ⟨u7, h7, hf⟩ := xk_bi hf
      obtain ⟨q6, h6, hf⟩ := xk_bi hf
      refine xk_backq (xk_callV hC 1 xc_5 (c_Jx4a65c_get_915e3 h6) h7 xm_381 xm_382 xm_383 xm_4 xm_384 ⟨rfl, xd_Jx4a65c_get_915e3⟩ rfl ⟨Nat.le_of_ble_eq_true rfl, Nat.le_of_ble_eq_true rfl⟩ rfl (by simp [xk_cat1, xk_cati, xk_catl, xk_catd]) dX4_countMet_21 ⟨(Nat.le_of_ble_eq_true rfl), (Nat.le_of_ble_eq_true rfl)⟩) ?_
      obtain ⟨u8, h8, hf⟩ := xk_bi hf
      refine xk_cast hC xc_2 xm_207 dX4_countMet_24 h8 ?_
      obtain ⟨u10, h10, hf⟩ := xk_bi hf
      obtain ⟨q9, h9, hf⟩ := xk_bi hf
      refine xk_backi (xk_callV hC 1 xc_0 (c_X4_isMet h9) h10 xm_436 xm_438 xm_p6 xm_1 xm_439 ⟨rfl, xd_X4_isMet⟩ rfl ⟨Nat.le_of_ble_eq_true rfl, Nat.le_of_ble_eq_true rfl⟩ rfl (Nat.le_of_ble_eq_true rfl) dX4_countMet_27 ⟨(Nat.le_of_ble_eq_true rfl), (Nat.le_of_ble_eq_true rfl)⟩) ?_
      refine xk_if_eq (tgt := 36) hC dX4_countMet_30 (by decide) (fun c11 => ?_) (fun c11 => ?_)
      · replace hf := (if_pos c11).symm.trans hf
        exact t_X4_countMet_36 hC hr (fun x0 x1 x2 w hf => ih x0 x1 x2 w hf) x0 x1 x2 (q9.2) hf
      · replace hf := (if_neg c11).symm.trans hf
        refine xk_iinc (v := x1 + (1 : Int32)) (lv' := [(1, .int (x1 + (1 : Int32))), (0, va_rf (x0)), (2, .int (x2))]) hC dX4_countMet_33 1 rfl rfl (by decide) (by simp [xk_cat1]) ?_
        refine xk_locals [1, 0, 2] rfl ?_
        exact t_X4_countMet_36 hC hr (fun x0 x1 x2 w hf => ih x0 x1 x2 w hf) x0 (x1 + (1 : Int32)) x2 (q9.2) hf
def f_X4_countMet (x0 : Option Nat) (w : xWd) : Option (Int32 × xWd) := f_X4_countMet_4 4096 x0 ((0 : Int32)) ((0 : Int32)) w
set_option maxHeartbeats 4000000 in
set_option maxRecDepth 100000 in
theorem t_X4_countMet_0 {p : Program} {l : Launch} {e : Env} {s : State} {m : MethodId} {args : Array Value} {below : List Frame} {meth : Method} {c : Code} {E : xEv} (hC : xk_C p s m args meth c E prog_1_method_33_code "Clickbook" 3) (hr : meth.sig.returnType = (some .int)) {q : (Int32 × xWd)} (x0 : Option Nat) (w : xWd) (hf : f_X4_countMet x0 w = some q) : xk_X p l e { frames := 5, cells := 0, slots := 0, locals := 109 } s m args below meth c (MQ below (xk_Qi E q) args s 0 0 (xk_A E.2.2.1)) E 3 0 0 0 [(0, va_rf (x0))] [] w := by
  refine xk_iconst (v := (0 : Int32)) hC dX4_countMet_0 (by decide) ?_
  refine xk_istore_n (i := 1) (lv' := [(1, .int ((0 : Int32))), (0, va_rf (x0))]) hC dX4_countMet_1 rfl (by decide) (by simp [xk_cat1]) ?_
  refine xk_iconst (v := (0 : Int32)) hC dX4_countMet_2 (by decide) ?_
  refine xk_istore_n (i := 2) (lv' := [(2, .int ((0 : Int32))), (1, .int ((0 : Int32))), (0, va_rf (x0))]) hC dX4_countMet_3 rfl (by decide) rfl ?_
  refine xk_locals [2, 1, 0] rfl ?_
  exact t_X4_countMet_4 hC hr 4096 x0 ((0 : Int32)) ((0 : Int32)) w hf
theorem xd_X4_countMet : xy_X4_countMet.cls ≠ "java/lang/invoke/MethodHandle" ∧ xy_X4_countMet.cls ≠ "java/lang/invoke/VarHandle" ∧ (parseMethodDescriptor xy_X4_countMet.desc).map (fun d => d.parameters.length) = some 0 := ⟨by decide +kernel, by decide +kernel, by decide +kernel⟩
theorem c_X4_countMet {l : Launch} {E : xEv} {x0 : Option Nat} {w : xWd} {q : (Int32 × xWd)} (hf : f_X4_countMet x0 w = some q) : xk_M l xy_X4_countMet prog_1_method_33_code 3 (some .int) 5 109 0 0 E [va_rf (x0)] w (xk_Qi E q) := by
  refine xk_enter (by decide +kernel) (by simp [lg_sl, xk_cat1, xk_cati, xk_catl, xk_catd]) ?_
  intro p e s m args below meth c hC hr hin ha
  rw [show lv_args 0 [va_rf (x0)] = [(0, va_rf (x0))] by simp [lv_args, xk_cat1, xk_cati, xk_catl, xk_catd]]
  exact t_X4_countMet_0 hC hr x0 w hf
def f_X4_shift_18 (w : xWd) : Option (Int32 × xWd) := none
set_option maxHeartbeats 4000000 in
set_option maxRecDepth 100000 in
theorem t_X4_shift_18 {p : Program} {l : Launch} {e : Env} {s : State} {m : MethodId} {args : Array Value} {below : List Frame} {meth : Method} {c : Code} {E : xEv} (hC : xk_C p s m args meth c E prog_1_method_12_code "Clickbook" 4) (hr : meth.sig.returnType = (some .int)) {q : (Int32 × xWd)} (w : xWd) (hf : f_X4_shift_18 w = some q) : xk_X p l e { frames := 6, cells := 0, slots := 0, locals := 131 } s m args below meth c (MQ below (xk_Qi E q) args s 0 0 (xk_A E.2.2.1)) E 4 0 0 18 [] [] w := by
  cases hf
def f_X4_shift (x0 : Option Nat) (x1 : Int32) (x2 : Int32) (w : xWd) : Option (Int32 × xWd) := (xk_is w (x0) 0).bind (fun u2 => (f_X4_cueNumbered (x0) (x1) w).bind (fun q1 => if (x2) < ((0 : Int32)) then f_X4_shift_18 (q1.2) else (xk_gI q1.2 (x0) 0 5).bind (fun v4 => if (x2) ≤ (v4) then (xk_pV q1.2 (q1.1) 1 1 (.int (x2))).bind (fun w6 => (xk_is w6 (x0) 0).bind (fun u8 => (f_X4_countMet (x0)  w6).bind (fun q7 => some (q7.1, q7.2)))) else f_X4_shift_18 (q1.2))))
set_option maxHeartbeats 4000000 in
set_option maxRecDepth 100000 in
theorem t_X4_shift_0 {p : Program} {l : Launch} {e : Env} {s : State} {m : MethodId} {args : Array Value} {below : List Frame} {meth : Method} {c : Code} {E : xEv} (hC : xk_C p s m args meth c E prog_1_method_12_code "Clickbook" 4) (hr : meth.sig.returnType = (some .int)) {q : (Int32 × xWd)} (x0 : Option Nat) (x1 : Int32) (x2 : Int32) (w : xWd) (hf : f_X4_shift x0 x1 x2 w = some q) : xk_X p l e { frames := 6, cells := 0, slots := 0, locals := 131 } s m args below meth c (MQ below (xk_Qi E q) args s 0 0 (xk_A E.2.2.1)) E 4 0 0 0 [(0, va_rf (x0)), (1, .int (x1)), (2, .int (x2))] [] w := by
  refine xk_aload_n hC dX4_shift_0 0 rfl rfl ?_
  refine xk_iload_n hC dX4_shift_1 1 rfl rfl ?_
  obtain ⟨u2, h2, hf⟩ := xk_bi hf
  obtain ⟨q1, h1, hf⟩ := xk_bi hf
  refine xk_backq (xk_callV hC 1 xc_0 (c_X4_cueNumbered h1) h2 xm_376 xm_378 xm_p4 xm_1 xm_379 ⟨rfl, xd_X4_cueNumbered⟩ rfl ⟨Nat.le_of_ble_eq_true rfl, Nat.le_of_ble_eq_true rfl⟩ rfl (Nat.le_of_ble_eq_true rfl) dX4_shift_2 ⟨(Nat.le_of_ble_eq_true rfl), (Nat.le_of_ble_eq_true rfl)⟩) ?_
  refine xk_astore_n (i := 3) (lv' := [(3, va_rf (q1.1)), (0, va_rf (x0)), (1, .int (x1)), (2, .int (x2))]) hC dX4_shift_5 rfl (by decide) rfl ?_
  refine xk_iload_n hC dX4_shift_6 3 rfl rfl ?_
  refine xk_if_lt (tgt := 18) hC dX4_shift_7 (by decide) (fun c3 => ?_) (fun c3 => ?_)
  · replace hf := (if_pos c3).symm.trans hf
    refine xk_locals [] rfl ?_
    exact t_X4_shift_18 hC hr (q1.2) hf
  · replace hf := (if_neg c3).symm.trans hf
    refine xk_iload_n hC dX4_shift_10 3 rfl rfl ?_
    refine xk_aload_n hC dX4_shift_11 1 rfl rfl ?_
    obtain ⟨v4, h4, hf⟩ := xk_bi hf
    refine xk_getI hC xi_0 xc_0 5 (by decide) xm_79 (Or.inl rfl) dX4_shift_12 h4 ?_
    refine xk_icmp_le (tgt := 28) hC dX4_shift_15 (by decide) (fun c5 => ?_) (fun c5 => ?_)
    · replace hf := (if_pos c5).symm.trans hf
      refine xk_aload_n hC dX4_shift_28 0 rfl rfl ?_
      refine xk_iload_n hC dX4_shift_29 3 rfl rfl ?_
      obtain ⟨w6, h6, hf⟩ := xk_bi hf
      refine xk_put hC xi_1 xc_1 xo_1 xn_1 1 (by decide) xm_320 (Or.inl rfl) rfl rfl rfl dX4_shift_30 h6 ?_
      refine xk_aload_n hC dX4_shift_33 1 rfl rfl ?_
      obtain ⟨u8, h8, hf⟩ := xk_bi hf
      obtain ⟨q7, h7, hf⟩ := xk_bi hf
      refine xk_backi (xk_callV hC 0 xc_0 (c_X4_countMet h7) h8 xm_432 xm_434 xm_p5 xm_1 xm_435 ⟨rfl, xd_X4_countMet⟩ rfl ⟨Nat.le_of_ble_eq_true rfl, Nat.le_of_ble_eq_true rfl⟩ rfl (Nat.le_of_ble_eq_true rfl) dX4_shift_34 ⟨(Nat.le_of_ble_eq_true rfl), (Nat.le_of_ble_eq_true rfl)⟩) ?_
      cases hf
      refine xk_widen (k := 0) (n := 0) (Nat.le_of_ble_eq_true rfl) (Nat.le_of_ble_eq_true rfl) ?_
      exact xk_iret hC hr rfl dX4_shift_37
    · replace hf := (if_neg c5).symm.trans hf
      refine xk_locals [] rfl ?_
      exact t_X4_shift_18 hC hr (q1.2) hf
theorem xd_X4_shift : xy_X4_shift.cls ≠ "java/lang/invoke/MethodHandle" ∧ xy_X4_shift.cls ≠ "java/lang/invoke/VarHandle" ∧ (parseMethodDescriptor xy_X4_shift.desc).map (fun d => d.parameters.length) = some 2 := ⟨by decide +kernel, by decide +kernel, by decide +kernel⟩
theorem c_X4_shift {l : Launch} {E : xEv} {x0 : Option Nat} {x1 : Int32} {x2 : Int32} {w : xWd} {q : (Int32 × xWd)} (hf : f_X4_shift x0 x1 x2 w = some q) : xk_M l xy_X4_shift prog_1_method_12_code 4 (some .int) 6 131 0 0 E [va_rf (x0), .int (x1), .int (x2)] w (xk_Qi E q) := by
  refine xk_enter (by decide +kernel) (by simp [lg_sl, xk_cat1, xk_cati, xk_catl, xk_catd]) ?_
  intro p e s m args below meth c hC hr hin ha
  rw [show lv_args 0 [va_rf (x0), .int (x1), .int (x2)] = [(0, va_rf (x0)), (1, .int (x1)), (2, .int (x2))] by simp [lv_args, xk_cat1, xk_cati, xk_catl, xk_catd]]
  exact t_X4_shift_0 hC hr x0 x1 x2 w hf
def f_X4_open_11 (w : xWd) : Option (Int32 × xWd) := none
set_option maxHeartbeats 4000000 in
set_option maxRecDepth 100000 in
theorem t_X4_open_11 {p : Program} {l : Launch} {e : Env} {s : State} {m : MethodId} {args : Array Value} {below : List Frame} {meth : Method} {c : Code} {E : xEv} (hC : xk_C p s m args meth c E prog_1_method_16_code "Clickbook" 2) (hr : meth.sig.returnType = (some .int)) {q : (Int32 × xWd)} (w : xWd) (hf : f_X4_open_11 w = some q) : xk_X p l e { frames := 1, cells := 0, slots := 0, locals := 20 } s m args below meth c (MQ below (xk_Qi E q) args s 0 0 (xk_A E.2.2.1)) E 2 0 0 11 [] [] w := by
  cases hf
def f_X4_open (x0 : Option Nat) (x1 : Int32) (w : xWd) : Option (Int32 × xWd) := if (x1) < ((1 : Int32)) then f_X4_open_11 w else if (x1) ≤ ((60 : Int32)) then (xk_gI w (x0) 0 7).bind (fun v3 => if (v3) ≤ ((0 : Int32)) then (xk_pV w (x0) 0 7 (.int (x1))).bind (fun w5 => (xk_gR w5 (x0) 0 4).bind (fun v6 => (xk_is w5 (v6) 5).bind (fun u8 => (f_Jx4a65c_size_8abf5 (v6)  w5).bind (fun q7 => some (q7.1, q7.2))))) else none) else f_X4_open_11 w
set_option maxHeartbeats 4000000 in
set_option maxRecDepth 100000 in
theorem t_X4_open_0 {p : Program} {l : Launch} {e : Env} {s : State} {m : MethodId} {args : Array Value} {below : List Frame} {meth : Method} {c : Code} {E : xEv} (hC : xk_C p s m args meth c E prog_1_method_16_code "Clickbook" 2) (hr : meth.sig.returnType = (some .int)) {q : (Int32 × xWd)} (x0 : Option Nat) (x1 : Int32) (w : xWd) (hf : f_X4_open x0 x1 w = some q) : xk_X p l e { frames := 1, cells := 0, slots := 0, locals := 20 } s m args below meth c (MQ below (xk_Qi E q) args s 0 0 (xk_A E.2.2.1)) E 2 0 0 0 [(0, va_rf (x0)), (1, .int (x1))] [] w := by
  refine xk_iload_n hC dX4_open_0 1 rfl rfl ?_
  refine xk_iconst (v := (1 : Int32)) hC dX4_open_1 (by decide) ?_
  refine xk_icmp_lt (tgt := 11) hC dX4_open_2 (by decide) (fun c1 => ?_) (fun c1 => ?_)
  · replace hf := (if_pos c1).symm.trans hf
    refine xk_locals [] rfl ?_
    exact t_X4_open_11 hC hr w hf
  · replace hf := (if_neg c1).symm.trans hf
    refine xk_iload_n hC dX4_open_5 1 rfl rfl ?_
    refine xk_bipush (v := (60 : Int32)) hC dX4_open_6 (by decide) ?_
    refine xk_icmp_le (tgt := 21) hC dX4_open_8 (by decide) (fun c2 => ?_) (fun c2 => ?_)
    · replace hf := (if_pos c2).symm.trans hf
      refine xk_aload_n hC dX4_open_21 0 rfl rfl ?_
      obtain ⟨v3, h3, hf⟩ := xk_bi hf
      refine xk_getI hC xi_0 xc_0 7 (by decide) xm_81 (Or.inl rfl) dX4_open_22 h3 ?_
      refine xk_if_le (tgt := 38) hC dX4_open_25 (by decide) (fun c4 => ?_) (fun c4 => ?_)
      · replace hf := (if_pos c4).symm.trans hf
        refine xk_aload_n hC dX4_open_38 0 rfl rfl ?_
        refine xk_iload_n hC dX4_open_39 1 rfl rfl ?_
        obtain ⟨w5, h5, hf⟩ := xk_bi hf
        refine xk_put hC xi_0 xc_0 xo_0 xn_0 7 (by decide) xm_81 (Or.inl rfl) rfl rfl rfl dX4_open_40 h5 ?_
        refine xk_aload_n hC dX4_open_43 0 rfl rfl ?_
        obtain ⟨v6, h6, hf⟩ := xk_bi hf
        refine xk_getR hC xi_0 xc_0 4 (by decide) xm_78 (Or.inl rfl) dX4_open_44 h6 ?_
        obtain ⟨u8, h8, hf⟩ := xk_bi hf
        obtain ⟨q7, h7, hf⟩ := xk_bi hf
        refine xk_backi (xk_callV hC 0 xc_5 (c_Jx4a65c_size_8abf5 h7) h8 xm_187 xm_188 xm_189 xm_4 xm_190 ⟨rfl, xd_Jx4a65c_size_8abf5⟩ rfl ⟨Nat.le_of_ble_eq_true rfl, Nat.le_of_ble_eq_true rfl⟩ rfl (Nat.le_of_ble_eq_true rfl) dX4_open_47 ⟨(Nat.le_of_ble_eq_true rfl), (Nat.le_of_ble_eq_true rfl)⟩) ?_
        cases hf
        refine xk_widen (k := 0) (n := 0) (Nat.le_of_ble_eq_true rfl) (Nat.le_of_ble_eq_true rfl) ?_
        exact xk_iret hC hr rfl dX4_open_50
      · replace hf := (if_neg c4).symm.trans hf
        cases hf
    · replace hf := (if_neg c2).symm.trans hf
      refine xk_locals [] rfl ?_
      exact t_X4_open_11 hC hr w hf
theorem xd_X4_open : xy_X4_open.cls ≠ "java/lang/invoke/MethodHandle" ∧ xy_X4_open.cls ≠ "java/lang/invoke/VarHandle" ∧ (parseMethodDescriptor xy_X4_open.desc).map (fun d => d.parameters.length) = some 1 := ⟨by decide +kernel, by decide +kernel, by decide +kernel⟩
theorem c_X4_open {l : Launch} {E : xEv} {x0 : Option Nat} {x1 : Int32} {w : xWd} {q : (Int32 × xWd)} (hf : f_X4_open x0 x1 w = some q) : xk_M l xy_X4_open prog_1_method_16_code 2 (some .int) 1 20 0 0 E [va_rf (x0), .int (x1)] w (xk_Qi E q) := by
  refine xk_enter (by decide +kernel) (by simp [lg_sl, xk_cat1, xk_cati, xk_catl, xk_catd]) ?_
  intro p e s m args below meth c hC hr hin ha
  rw [show lv_args 0 [va_rf (x0), .int (x1)] = [(0, va_rf (x0)), (1, .int (x1))] by simp [lv_args, xk_cat1, xk_cati, xk_catl, xk_catd]]
  exact t_X4_open_0 hC hr x0 x1 w hf
def f_X4_take_31 (w : xWd) : Option (Int32 × xWd) := none
set_option maxHeartbeats 4000000 in
set_option maxRecDepth 100000 in
theorem t_X4_take_31 {p : Program} {l : Launch} {e : Env} {s : State} {m : MethodId} {args : Array Value} {below : List Frame} {meth : Method} {c : Code} {E : xEv} (hC : xk_C p s m args meth c E prog_1_method_17_code "Clickbook" 6) (hr : meth.sig.returnType = (some .int)) {q : (Int32 × xWd)} (w : xWd) (hf : f_X4_take_31 w = some q) : xk_X p l e { frames := 7, cells := 2, slots := 69, locals := 170 } s m args below meth c (MQ below (xk_Qi E q) args s 2 69 (xk_A E.2.2.1)) E 6 0 0 31 [] [] w := by
  cases hf
def f_X4_take_68 (w : xWd) : Option (Int32 × xWd) := none
set_option maxHeartbeats 4000000 in
set_option maxRecDepth 100000 in
theorem t_X4_take_68 {p : Program} {l : Launch} {e : Env} {s : State} {m : MethodId} {args : Array Value} {below : List Frame} {meth : Method} {c : Code} {E : xEv} (hC : xk_C p s m args meth c E prog_1_method_17_code "Clickbook" 6) (hr : meth.sig.returnType = (some .int)) {q : (Int32 × xWd)} (w : xWd) (hf : f_X4_take_68 w = some q) : xk_X p l e { frames := 7, cells := 2, slots := 69, locals := 170 } s m args below meth c (MQ below (xk_Qi E q) args s 2 69 (xk_A E.2.2.1)) E 6 0 0 68 [] [] w := by
  cases hf
def f_X4_take_117 (w : xWd) : Option (Int32 × xWd) := none
set_option maxHeartbeats 4000000 in
set_option maxRecDepth 100000 in
theorem t_X4_take_117 {p : Program} {l : Launch} {e : Env} {s : State} {m : MethodId} {args : Array Value} {below : List Frame} {meth : Method} {c : Code} {E : xEv} (hC : xk_C p s m args meth c E prog_1_method_17_code "Clickbook" 6) (hr : meth.sig.returnType = (some .int)) {q : (Int32 × xWd)} (w : xWd) (hf : f_X4_take_117 w = some q) : xk_X p l e { frames := 7, cells := 2, slots := 69, locals := 170 } s m args below meth c (MQ below (xk_Qi E q) args s 2 69 (xk_A E.2.2.1)) E 6 0 0 117 [] [] w := by
  cases hf
def f_X4_take (x0 : Option Nat) (x1 : Int32) (x2 : Int32) (x3 : Int32) (w : xWd) : Option (Int32 × xWd) := (xk_is w (x0) 0).bind (fun u2 => (f_X4_cueNumbered (x0) (x1) w).bind (fun q1 => if (x2) < ((0 : Int32)) then f_X4_take_31 (q1.2) else (xk_is q1.2 (q1.1) 1).bind (fun u5 => (f_X0_mostNotes (q1.1)  q1.2).bind (fun q4 => if (q4.1) < (x2) then f_X4_take_31 (q4.2) else if (x3) < ((-2 : Int32)) then f_X4_take_31 (q4.2) else if (x3) ≤ ((2 : Int32)) then (xk_gI q4.2 (x0) 0 7).bind (fun v9 => if (v9) = ((0 : Int32)) then f_X4_take_68 (q4.2) else (xk_gI q4.2 (q1.1) 1 7).bind (fun v11 => if (v11) = ((0 : Int32)) then f_X4_take_68 (q4.2) else (xk_gI q4.2 (q1.1) 1 3).bind (fun v13 => (xk_gI q4.2 (x0) 0 7).bind (fun v14 => if (v13) ≤ (v14) then (xk_gI q4.2 (q1.1) 1 11).bind (fun v16 => (f_X4_roundedUp (v16) ((1440 : Int32)) q4.2).bind (fun q17 => (xk_gI q17.2 (x0) 0 8).bind (fun v18 => if ((120 : Int32)) < ((v18) + (((3 : Int32)) + (q17.1))) then f_X4_take_117 (q17.2) else (xk_gR q17.2 (x0) 0 4).bind (fun v20 => (xk_is q17.2 (v20) 5).bind (fun u22 => (f_Jx4a65c_size_8abf5 (v20)  q17.2).bind (fun q21 => if (q21.1) < ((40 : Int32)) then (xk_gI q21.2 (x0) 0 8).bind (fun v24 => (xk_pV q21.2 (x0) 0 8 (.int ((v24) + (((3 : Int32)) + (q17.1))))).bind (fun w25 => (xk_gR w25 (x0) 0 4).bind (fun v26 => (some (xk_nw w25 4 xf_4)).bind (fun w27 => (xk_gR w27 (x0) 0 4).bind (fun v28 => (xk_is w27 (v28) 5).bind (fun u30 => (f_Jx4a65c_size_8abf5 (v28)  w27).bind (fun q29 => (f_X3_init (w25.2.1) (q29.1) (q1.1) (x2) (x3) q29.2).bind (fun q31 => (xk_is q31 (v26) 5).bind (fun u33 => (f_Jx4a65c_add_9ea2d (v26) (some w25.2.1) q31).bind (fun q32 => (xk_gR q32.2 (x0) 0 4).bind (fun v34 => (xk_is q32.2 (v34) 5).bind (fun u36 => (f_Jx4a65c_size_8abf5 (v34)  q32.2).bind (fun q35 => some ((q35.1) - ((1 : Int32)), q35.2)))))))))))))) else f_X4_take_117 (q21.2))))))) else f_X4_take_68 (q4.2))))) else f_X4_take_31 (q4.2)))))
set_option maxHeartbeats 4000000 in
set_option maxRecDepth 100000 in
theorem t_X4_take_0 {p : Program} {l : Launch} {e : Env} {s : State} {m : MethodId} {args : Array Value} {below : List Frame} {meth : Method} {c : Code} {E : xEv} (hC : xk_C p s m args meth c E prog_1_method_17_code "Clickbook" 6) (hr : meth.sig.returnType = (some .int)) {q : (Int32 × xWd)} (x0 : Option Nat) (x1 : Int32) (x2 : Int32) (x3 : Int32) (w : xWd) (hf : f_X4_take x0 x1 x2 x3 w = some q) : xk_X p l e { frames := 7, cells := 2, slots := 69, locals := 170 } s m args below meth c (MQ below (xk_Qi E q) args s 2 69 (xk_A E.2.2.1)) E 6 0 0 0 [(0, va_rf (x0)), (1, .int (x1)), (2, .int (x2)), (3, .int (x3))] [] w := by
  refine xk_aload_n hC dX4_take_0 0 rfl rfl ?_
  refine xk_iload_n hC dX4_take_1 1 rfl rfl ?_
  obtain ⟨u2, h2, hf⟩ := xk_bi hf
  obtain ⟨q1, h1, hf⟩ := xk_bi hf
  refine xk_backq (xk_callV hC 1 xc_0 (c_X4_cueNumbered h1) h2 xm_376 xm_378 xm_p4 xm_1 xm_379 ⟨rfl, xd_X4_cueNumbered⟩ rfl ⟨Nat.le_of_ble_eq_true rfl, Nat.le_of_ble_eq_true rfl⟩ rfl (Nat.le_of_ble_eq_true rfl) dX4_take_2 ⟨(Nat.le_of_ble_eq_true rfl), (Nat.le_of_ble_eq_true rfl)⟩) ?_
  refine xk_astore (i := 4) (lv' := [(4, va_rf (q1.1)), (0, va_rf (x0)), (1, .int (x1)), (2, .int (x2)), (3, .int (x3))]) hC dX4_take_5 (by decide) rfl ?_
  refine xk_iload_n hC dX4_take_7 3 rfl rfl ?_
  refine xk_if_lt (tgt := 31) hC dX4_take_8 (by decide) (fun c3 => ?_) (fun c3 => ?_)
  · replace hf := (if_pos c3).symm.trans hf
    refine xk_locals [] rfl ?_
    exact t_X4_take_31 hC hr (q1.2) hf
  · replace hf := (if_neg c3).symm.trans hf
    refine xk_iload_n hC dX4_take_11 3 rfl rfl ?_
    refine xk_aload hC dX4_take_12 0 rfl ?_
    obtain ⟨u5, h5, hf⟩ := xk_bi hf
    obtain ⟨q4, h4, hf⟩ := xk_bi hf
    refine xk_backi (xk_callV hC 0 xc_1 (c_X0_mostNotes h4) h5 xm_461 xm_462 xm_463 xm_17 xm_464 ⟨rfl, xd_X0_mostNotes⟩ rfl ⟨Nat.le_of_ble_eq_true rfl, Nat.le_of_ble_eq_true rfl⟩ rfl (Nat.le_of_ble_eq_true rfl) dX4_take_14 ⟨(Nat.le_of_ble_eq_true rfl), (Nat.le_of_ble_eq_true rfl)⟩) ?_
    refine xk_icmp_gt (tgt := 31) hC dX4_take_17 (by decide) (fun c6 => ?_) (fun c6 => ?_)
    · replace hf := (if_pos c6).symm.trans hf
      refine xk_locals [] rfl ?_
      exact t_X4_take_31 hC hr (q4.2) hf
    · replace hf := (if_neg c6).symm.trans hf
      refine xk_iload_n hC dX4_take_20 4 rfl rfl ?_
      refine xk_bipush (v := (-2 : Int32)) hC dX4_take_21 (by decide) ?_
      refine xk_icmp_lt (tgt := 31) hC dX4_take_23 (by decide) (fun c7 => ?_) (fun c7 => ?_)
      · replace hf := (if_pos c7).symm.trans hf
        refine xk_locals [] rfl ?_
        exact t_X4_take_31 hC hr (q4.2) hf
      · replace hf := (if_neg c7).symm.trans hf
        refine xk_iload_n hC dX4_take_26 4 rfl rfl ?_
        refine xk_iconst (v := (2 : Int32)) hC dX4_take_27 (by decide) ?_
        refine xk_icmp_le (tgt := 41) hC dX4_take_28 (by decide) (fun c8 => ?_) (fun c8 => ?_)
        · replace hf := (if_pos c8).symm.trans hf
          refine xk_aload_n hC dX4_take_41 1 rfl rfl ?_
          obtain ⟨v9, h9, hf⟩ := xk_bi hf
          refine xk_getI hC xi_0 xc_0 7 (by decide) xm_81 (Or.inl rfl) dX4_take_42 h9 ?_
          refine xk_if_eq (tgt := 68) hC dX4_take_45 (by decide) (fun c10 => ?_) (fun c10 => ?_)
          · replace hf := (if_pos c10).symm.trans hf
            refine xk_locals [] rfl ?_
            exact t_X4_take_68 hC hr (q4.2) hf
          · replace hf := (if_neg c10).symm.trans hf
            refine xk_aload hC dX4_take_48 0 rfl ?_
            obtain ⟨v11, h11, hf⟩ := xk_bi hf
            refine xk_getI hC xi_1 xc_1 7 (by decide) xm_334 (Or.inl rfl) dX4_take_50 h11 ?_
            refine xk_if_eq (tgt := 68) hC dX4_take_53 (by decide) (fun c12 => ?_) (fun c12 => ?_)
            · replace hf := (if_pos c12).symm.trans hf
              refine xk_locals [] rfl ?_
              exact t_X4_take_68 hC hr (q4.2) hf
            · replace hf := (if_neg c12).symm.trans hf
              refine xk_aload hC dX4_take_56 0 rfl ?_
              obtain ⟨v13, h13, hf⟩ := xk_bi hf
              refine xk_getI hC xi_1 xc_1 3 (by decide) xm_324 (Or.inl rfl) dX4_take_58 h13 ?_
              refine xk_aload_n hC dX4_take_61 1 rfl rfl ?_
              obtain ⟨v14, h14, hf⟩ := xk_bi hf
              refine xk_getI hC xi_0 xc_0 7 (by decide) xm_81 (Or.inl rfl) dX4_take_62 h14 ?_
              refine xk_icmp_le (tgt := 78) hC dX4_take_65 (by decide) (fun c15 => ?_) (fun c15 => ?_)
              · replace hf := (if_pos c15).symm.trans hf
                refine xk_iconst (v := (3 : Int32)) hC dX4_take_78 (by decide) ?_
                refine xk_aload hC dX4_take_79 0 rfl ?_
                obtain ⟨v16, h16, hf⟩ := xk_bi hf
                refine xk_getI hC xi_1 xc_1 11 (by decide) xm_342 (Or.inl rfl) dX4_take_81 h16 ?_
                refine xk_sipush (v := (1440 : Int32)) hC dX4_take_84 (by decide) ?_
                obtain ⟨q17, h17, hf⟩ := xk_bi hf
                refine xk_backi (xk_callS hC 2 (c_X4_roundedUp h17) xm_467 xm_413 xm_1 xm_414 xd_X4_roundedUp rfl ⟨Nat.le_of_ble_eq_true rfl, Nat.le_of_ble_eq_true rfl⟩ rfl (Nat.le_of_ble_eq_true rfl) dX4_take_87 ⟨(Nat.le_of_ble_eq_true rfl), (Nat.le_of_ble_eq_true rfl)⟩) ?_
                refine xk_iadd hC dX4_take_90 ?_
                refine xk_istore (i := 5) (lv' := [(5, .int (((3 : Int32)) + (q17.1))), (4, va_rf (q1.1)), (0, va_rf (x0)), (1, .int (x1)), (2, .int (x2)), (3, .int (x3))]) hC dX4_take_91 (by decide) (by simp [xk_cat1]) ?_
                refine xk_aload_n hC dX4_take_93 2 rfl rfl ?_
                obtain ⟨v18, h18, hf⟩ := xk_bi hf
                refine xk_getI hC xi_0 xc_0 8 (by decide) xm_82 (Or.inl rfl) dX4_take_94 h18 ?_
                refine xk_iload hC dX4_take_97 0 rfl ?_
                refine xk_iadd hC dX4_take_99 ?_
                refine xk_bipush (v := (120 : Int32)) hC dX4_take_100 (by decide) ?_
                refine xk_icmp_gt (tgt := 117) hC dX4_take_102 (by decide) (fun c19 => ?_) (fun c19 => ?_)
                · replace hf := (if_pos c19).symm.trans hf
                  refine xk_locals [] rfl ?_
                  exact t_X4_take_117 hC hr (q17.2) hf
                · replace hf := (if_neg c19).symm.trans hf
                  refine xk_aload_n hC dX4_take_105 2 rfl rfl ?_
                  obtain ⟨v20, h20, hf⟩ := xk_bi hf
                  refine xk_getR hC xi_0 xc_0 4 (by decide) xm_78 (Or.inl rfl) dX4_take_106 h20 ?_
                  obtain ⟨u22, h22, hf⟩ := xk_bi hf
                  obtain ⟨q21, h21, hf⟩ := xk_bi hf
                  refine xk_backi (xk_callV hC 0 xc_5 (c_Jx4a65c_size_8abf5 h21) h22 xm_187 xm_188 xm_189 xm_4 xm_190 ⟨rfl, xd_Jx4a65c_size_8abf5⟩ rfl ⟨Nat.le_of_ble_eq_true rfl, Nat.le_of_ble_eq_true rfl⟩ rfl (Nat.le_of_ble_eq_true rfl) dX4_take_109 ⟨(Nat.le_of_ble_eq_true rfl), (Nat.le_of_ble_eq_true rfl)⟩) ?_
                  refine xk_bipush (v := (40 : Int32)) hC dX4_take_112 (by decide) ?_
                  refine xk_icmp_lt (tgt := 127) hC dX4_take_114 (by decide) (fun c23 => ?_) (fun c23 => ?_)
                  · replace hf := (if_pos c23).symm.trans hf
                    refine xk_aload_n hC dX4_take_127 2 rfl rfl ?_
                    refine xk_dup hC dX4_take_128 (xk_cat1 _) ?_
                    obtain ⟨v24, h24, hf⟩ := xk_bi hf
                    refine xk_getI hC xi_0 xc_0 8 (by decide) xm_82 (Or.inl rfl) dX4_take_129 h24 ?_
                    refine xk_iload hC dX4_take_132 0 rfl ?_
                    refine xk_iadd hC dX4_take_134 ?_
                    obtain ⟨w25, h25, hf⟩ := xk_bi hf
                    refine xk_put hC xi_0 xc_0 xo_0 xn_0 8 (by decide) xm_82 (Or.inl rfl) rfl rfl rfl dX4_take_135 h25 ?_
                    refine xk_aload_n hC dX4_take_138 2 rfl rfl ?_
                    obtain ⟨v26, h26, hf⟩ := xk_bi hf
                    refine xk_getR hC xi_0 xc_0 4 (by decide) xm_78 (Or.inl rfl) dX4_take_139 h26 ?_
                    obtain ⟨w27, h27, hf⟩ := xk_bi hf
                    refine xk_newH hC xi_4 xc_4 xo_4 xm_469 xm_470 xm_20 xfo_4 (Nat.le_of_ble_eq_true rfl) (Nat.le_of_ble_eq_true rfl) dX4_take_142 h27 ?_
                    refine xk_dup hC dX4_take_145 (xk_cat1 _) ?_
                    refine xk_aload_n hC dX4_take_146 2 rfl rfl ?_
                    obtain ⟨v28, h28, hf⟩ := xk_bi hf
                    refine xk_getR hC xi_0 xc_0 4 (by decide) xm_78 (Or.inl rfl) dX4_take_147 h28 ?_
                    obtain ⟨u30, h30, hf⟩ := xk_bi hf
                    obtain ⟨q29, h29, hf⟩ := xk_bi hf
                    refine xk_backi (xk_callV hC 0 xc_5 (c_Jx4a65c_size_8abf5 h29) h30 xm_187 xm_188 xm_189 xm_4 xm_190 ⟨rfl, xd_Jx4a65c_size_8abf5⟩ rfl ⟨Nat.le_of_ble_eq_true rfl, Nat.le_of_ble_eq_true rfl⟩ rfl (by simp [xk_cat1, xk_cati, xk_catl, xk_catd]) dX4_take_150 ⟨(Nat.le_of_ble_eq_true rfl), (Nat.le_of_ble_eq_true rfl)⟩) ?_
                    refine xk_aload hC dX4_take_153 1 rfl ?_
                    refine xk_iload_n hC dX4_take_155 4 rfl rfl ?_
                    refine xk_iload_n hC dX4_take_156 5 rfl rfl ?_
                    obtain ⟨q31, h31, hf⟩ := xk_bi hf
                    refine xk_backv (xk_callI hC 4 (c_X3_init h31) xm_471 xm_472 xm_20 xm_473 rfl xd_X3_init rfl ⟨Nat.le_of_ble_eq_true rfl, Nat.le_of_ble_eq_true rfl⟩ rfl (by simp [xk_cat1, xk_cati, xk_catl, xk_catd]) dX4_take_157 ⟨(Nat.le_of_ble_eq_true rfl), (Nat.le_of_ble_eq_true rfl)⟩) ?_
                    obtain ⟨u33, h33, hf⟩ := xk_bi hf
                    obtain ⟨q32, h32, hf⟩ := xk_bi hf
                    refine xk_backi (xk_callV hC 1 xc_5 (c_Jx4a65c_add_9ea2d h32) h33 xm_226 xm_227 xm_228 xm_4 xm_229 ⟨rfl, xd_Jx4a65c_add_9ea2d⟩ rfl ⟨Nat.le_of_ble_eq_true rfl, Nat.le_of_ble_eq_true rfl⟩ rfl (Nat.le_of_ble_eq_true rfl) dX4_take_160 ⟨(Nat.le_of_ble_eq_true rfl), (Nat.le_of_ble_eq_true rfl)⟩) ?_
                    refine xk_pop hC dX4_take_163 rfl ?_
                    refine xk_aload_n hC dX4_take_164 2 rfl rfl ?_
                    obtain ⟨v34, h34, hf⟩ := xk_bi hf
                    refine xk_getR hC xi_0 xc_0 4 (by decide) xm_78 (Or.inl rfl) dX4_take_165 h34 ?_
                    obtain ⟨u36, h36, hf⟩ := xk_bi hf
                    obtain ⟨q35, h35, hf⟩ := xk_bi hf
                    refine xk_backi (xk_callV hC 0 xc_5 (c_Jx4a65c_size_8abf5 h35) h36 xm_187 xm_188 xm_189 xm_4 xm_190 ⟨rfl, xd_Jx4a65c_size_8abf5⟩ rfl ⟨Nat.le_of_ble_eq_true rfl, Nat.le_of_ble_eq_true rfl⟩ rfl (Nat.le_of_ble_eq_true rfl) dX4_take_168 ⟨(Nat.le_of_ble_eq_true rfl), (Nat.le_of_ble_eq_true rfl)⟩) ?_
                    refine xk_iconst (v := (1 : Int32)) hC dX4_take_171 (by decide) ?_
                    refine xk_isub hC dX4_take_172 ?_
                    cases hf
                    refine xk_widen (k := 2) (n := 69) (Nat.le_of_ble_eq_true rfl) (Nat.le_of_ble_eq_true rfl) ?_
                    exact xk_iret hC hr rfl dX4_take_173
                  · replace hf := (if_neg c23).symm.trans hf
                    refine xk_locals [] rfl ?_
                    exact t_X4_take_117 hC hr (q21.2) hf
              · replace hf := (if_neg c15).symm.trans hf
                refine xk_locals [] rfl ?_
                exact t_X4_take_68 hC hr (q4.2) hf
        · replace hf := (if_neg c8).symm.trans hf
          refine xk_locals [] rfl ?_
          exact t_X4_take_31 hC hr (q4.2) hf
theorem xd_X4_take : xy_X4_take.cls ≠ "java/lang/invoke/MethodHandle" ∧ xy_X4_take.cls ≠ "java/lang/invoke/VarHandle" ∧ (parseMethodDescriptor xy_X4_take.desc).map (fun d => d.parameters.length) = some 3 := ⟨by decide +kernel, by decide +kernel, by decide +kernel⟩
theorem c_X4_take {l : Launch} {E : xEv} {x0 : Option Nat} {x1 : Int32} {x2 : Int32} {x3 : Int32} {w : xWd} {q : (Int32 × xWd)} (hf : f_X4_take x0 x1 x2 x3 w = some q) : xk_M l xy_X4_take prog_1_method_17_code 6 (some .int) 7 170 2 69 E [va_rf (x0), .int (x1), .int (x2), .int (x3)] w (xk_Qi E q) := by
  refine xk_enter (by decide +kernel) (by simp [lg_sl, xk_cat1, xk_cati, xk_catl, xk_catd]) ?_
  intro p e s m args below meth c hC hr hin ha
  rw [show lv_args 0 [va_rf (x0), .int (x1), .int (x2), .int (x3)] = [(0, va_rf (x0)), (1, .int (x1)), (2, .int (x2)), (3, .int (x3))] by simp [lv_args, xk_cat1, xk_cati, xk_catl, xk_catd]]
  exact t_X4_take_0 hC hr x0 x1 x2 x3 w hf
def f_X4_close (x0 : Option Nat) (w : xWd) : Option (Int32 × xWd) := (xk_gI w (x0) 0 7).bind (fun v1 => if (v1) = ((0 : Int32)) then none else (xk_gI w (x0) 0 8).bind (fun v3 => (f_X4_roundedUp (v3) ((15 : Int32)) w).bind (fun q4 => (xk_gI q4.2 (x0) 0 7).bind (fun v5 => (xk_gI q4.2 (x0) 0 9).bind (fun v6 => (xk_pV q4.2 (x0) 0 9 (.int ((v6) + ((v5) * (((if ((4 : Int32)) < (q4.1) then ((4 : Int32)) else (q4.1)) * ((4 : Int32))) + (((q4.1) - (if ((4 : Int32)) < (q4.1) then ((4 : Int32)) else (q4.1))) * ((6 : Int32)))))))).bind (fun w7 => (xk_pV w7 (x0) 0 7 (.int ((0 : Int32)))).bind (fun w8 => (xk_pV w8 (x0) 0 8 (.int ((0 : Int32)))).bind (fun w9 => some ((v5) * (((if ((4 : Int32)) < (q4.1) then ((4 : Int32)) else (q4.1)) * ((4 : Int32))) + (((q4.1) - (if ((4 : Int32)) < (q4.1) then ((4 : Int32)) else (q4.1))) * ((6 : Int32)))), w9)))))))))
set_option maxHeartbeats 4000000 in
set_option maxRecDepth 100000 in
theorem t_X4_close_0 {p : Program} {l : Launch} {e : Env} {s : State} {m : MethodId} {args : Array Value} {below : List Frame} {meth : Method} {c : Code} {E : xEv} (hC : xk_C p s m args meth c E prog_1_method_18_code "Clickbook" 4) (hr : meth.sig.returnType = (some .int)) {q : (Int32 × xWd)} (x0 : Option Nat) (w : xWd) (hf : f_X4_close x0 w = some q) : xk_X p l e { frames := 1, cells := 0, slots := 0, locals := 21 } s m args below meth c (MQ below (xk_Qi E q) args s 0 0 (xk_A E.2.2.1)) E 4 0 0 0 [(0, va_rf (x0))] [] w := by
  refine xk_aload_n hC dX4_close_0 0 rfl rfl ?_
  obtain ⟨v1, h1, hf⟩ := xk_bi hf
  refine xk_getI hC xi_0 xc_0 7 (by decide) xm_81 (Or.inl rfl) dX4_close_1 h1 ?_
  refine xk_if_ne (tgt := 17) hC dX4_close_4 (by decide) (fun c2 => ?_) (fun c2 => ?_)
  · replace hf := (if_neg c2).symm.trans hf
    refine xk_aload_n hC dX4_close_17 0 rfl rfl ?_
    obtain ⟨v3, h3, hf⟩ := xk_bi hf
    refine xk_getI hC xi_0 xc_0 8 (by decide) xm_82 (Or.inl rfl) dX4_close_18 h3 ?_
    refine xk_bipush (v := (15 : Int32)) hC dX4_close_21 (by decide) ?_
    obtain ⟨q4, h4, hf⟩ := xk_bi hf
    refine xk_backi (xk_callS hC 2 (c_X4_roundedUp h4) xm_467 xm_413 xm_1 xm_414 xd_X4_roundedUp rfl ⟨Nat.le_of_ble_eq_true rfl, Nat.le_of_ble_eq_true rfl⟩ rfl (Nat.le_of_ble_eq_true rfl) dX4_close_23 ⟨(Nat.le_of_ble_eq_true rfl), (Nat.le_of_ble_eq_true rfl)⟩) ?_
    refine xk_istore_n (i := 1) (lv' := [(1, .int (q4.1)), (0, va_rf (x0))]) hC dX4_close_26 rfl (by decide) (by simp [xk_cat1]) ?_
    refine xk_iload_n hC dX4_close_27 0 rfl rfl ?_
    refine xk_iconst (v := (4 : Int32)) hC dX4_close_28 (by decide) ?_
    refine xk_mmin hC xm_502 xm_275 xm_13 xm_276 (Nat.le_of_ble_eq_true rfl) (Nat.le_of_ble_eq_true rfl) (Nat.le_of_ble_eq_true rfl) (Nat.le_of_ble_eq_true rfl) dX4_close_29 ?_
    refine xk_istore_n (i := 2) (lv' := [(2, .int (if ((4 : Int32)) < (q4.1) then ((4 : Int32)) else (q4.1))), (1, .int (q4.1)), (0, va_rf (x0))]) hC dX4_close_32 rfl (by decide) rfl ?_
    refine xk_aload_n hC dX4_close_33 2 rfl rfl ?_
    obtain ⟨v5, h5, hf⟩ := xk_bi hf
    refine xk_getI hC xi_0 xc_0 7 (by decide) xm_81 (Or.inl rfl) dX4_close_34 h5 ?_
    refine xk_iload_n hC dX4_close_37 0 rfl rfl ?_
    refine xk_iconst (v := (4 : Int32)) hC dX4_close_38 (by decide) ?_
    refine xk_imul hC dX4_close_39 ?_
    refine xk_iload_n hC dX4_close_40 1 rfl rfl ?_
    refine xk_iload_n hC dX4_close_41 0 rfl rfl ?_
    refine xk_isub hC dX4_close_42 ?_
    refine xk_bipush (v := (6 : Int32)) hC dX4_close_43 (by decide) ?_
    refine xk_imul hC dX4_close_45 ?_
    refine xk_iadd hC dX4_close_46 ?_
    refine xk_imul hC dX4_close_47 ?_
    refine xk_istore_n (i := 3) (lv' := [(3, .int ((v5) * (((if ((4 : Int32)) < (q4.1) then ((4 : Int32)) else (q4.1)) * ((4 : Int32))) + (((q4.1) - (if ((4 : Int32)) < (q4.1) then ((4 : Int32)) else (q4.1))) * ((6 : Int32)))))), (2, .int (if ((4 : Int32)) < (q4.1) then ((4 : Int32)) else (q4.1))), (1, .int (q4.1)), (0, va_rf (x0))]) hC dX4_close_48 rfl (by decide) rfl ?_
    refine xk_aload_n hC dX4_close_49 3 rfl rfl ?_
    refine xk_dup hC dX4_close_50 (xk_cat1 _) ?_
    obtain ⟨v6, h6, hf⟩ := xk_bi hf
    refine xk_getI hC xi_0 xc_0 9 (by decide) xm_83 (Or.inl rfl) dX4_close_51 h6 ?_
    refine xk_iload_n hC dX4_close_54 0 rfl rfl ?_
    refine xk_iadd hC dX4_close_55 ?_
    obtain ⟨w7, h7, hf⟩ := xk_bi hf
    refine xk_put hC xi_0 xc_0 xo_0 xn_0 9 (by decide) xm_83 (Or.inl rfl) rfl rfl rfl dX4_close_56 h7 ?_
    refine xk_aload_n hC dX4_close_59 3 rfl rfl ?_
    refine xk_iconst (v := (0 : Int32)) hC dX4_close_60 (by decide) ?_
    obtain ⟨w8, h8, hf⟩ := xk_bi hf
    refine xk_put hC xi_0 xc_0 xo_0 xn_0 7 (by decide) xm_81 (Or.inl rfl) rfl rfl rfl dX4_close_61 h8 ?_
    refine xk_aload_n hC dX4_close_64 3 rfl rfl ?_
    refine xk_iconst (v := (0 : Int32)) hC dX4_close_65 (by decide) ?_
    obtain ⟨w9, h9, hf⟩ := xk_bi hf
    refine xk_put hC xi_0 xc_0 xo_0 xn_0 8 (by decide) xm_82 (Or.inl rfl) rfl rfl rfl dX4_close_66 h9 ?_
    refine xk_iload_n hC dX4_close_69 0 rfl rfl ?_
    cases hf
    refine xk_widen (k := 0) (n := 0) (Nat.le_of_ble_eq_true rfl) (Nat.le_of_ble_eq_true rfl) ?_
    exact xk_iret hC hr rfl dX4_close_70
  · replace hf := (if_pos c2).symm.trans hf
    cases hf
theorem xd_X4_close : xy_X4_close.cls ≠ "java/lang/invoke/MethodHandle" ∧ xy_X4_close.cls ≠ "java/lang/invoke/VarHandle" ∧ (parseMethodDescriptor xy_X4_close.desc).map (fun d => d.parameters.length) = some 0 := ⟨by decide +kernel, by decide +kernel, by decide +kernel⟩
theorem c_X4_close {l : Launch} {E : xEv} {x0 : Option Nat} {w : xWd} {q : (Int32 × xWd)} (hf : f_X4_close x0 w = some q) : xk_M l xy_X4_close prog_1_method_18_code 4 (some .int) 1 21 0 0 E [va_rf (x0)] w (xk_Qi E q) := by
  refine xk_enter (by decide +kernel) (by simp [lg_sl, xk_cat1, xk_cati, xk_catl, xk_catd]) ?_
  intro p e s m args below meth c hC hr hin ha
  rw [show lv_args 0 [va_rf (x0)] = [(0, va_rf (x0))] by simp [lv_args, xk_cat1, xk_cati, xk_catl, xk_catd]]
  exact t_X4_close_0 hC hr x0 w hf
def f_X4_nearestCue_70 (k7 : Option Nat → Option Nat → Int32 → Int32 → Int32 → xWd → Option (Int32 × xWd)) (x0 : Option Nat) (x1 : Option Nat) (x2 : Int32) (x3 : Int32) (x4 : Int32) (w : xWd) : Option (Int32 × xWd) := k7 x0 x1 x2 x3 (x4 + (1 : Int32)) w
set_option maxHeartbeats 4000000 in
set_option maxRecDepth 100000 in
theorem t_X4_nearestCue_70 {p : Program} {l : Launch} {e : Env} {s : State} {m : MethodId} {args : Array Value} {below : List Frame} {meth : Method} {c : Code} {E : xEv} (hC : xk_C p s m args meth c E prog_1_method_28_code "Clickbook" 6) (hr : meth.sig.returnType = (some .int)) {q : (Int32 × xWd)} {k7 : Option Nat → Option Nat → Int32 → Int32 → Int32 → xWd → Option (Int32 × xWd)} (hk7 : ∀ (x0 : Option Nat) (x1 : Option Nat) (x2 : Int32) (x3 : Int32) (x4 : Int32) (w : xWd), k7 x0 x1 x2 x3 x4 w = some q → xk_X p l e { frames := 3, cells := 0, slots := 0, locals := 68 } s m args below meth c (MQ below (xk_Qi E q) args s 0 0 (xk_A E.2.2.1)) E 6 0 0 7 [(0, va_rf (x0)), (1, va_rf (x1)), (2, .int (x2)), (3, .int (x3)), (4, .int (x4))] [] w) (x0 : Option Nat) (x1 : Option Nat) (x2 : Int32) (x3 : Int32) (x4 : Int32) (w : xWd) (hf : f_X4_nearestCue_70 k7 x0 x1 x2 x3 x4 w = some q) : xk_X p l e { frames := 3, cells := 0, slots := 0, locals := 68 } s m args below meth c (MQ below (xk_Qi E q) args s 0 0 (xk_A E.2.2.1)) E 6 0 0 70 [(0, va_rf (x0)), (1, va_rf (x1)), (2, .int (x2)), (3, .int (x3)), (4, .int (x4))] [] w := by
  refine xk_iinc (v := x4 + (1 : Int32)) (lv' := [(4, .int (x4 + (1 : Int32))), (0, va_rf (x0)), (1, va_rf (x1)), (2, .int (x2)), (3, .int (x3))]) hC dX4_nearestCue_70 4 rfl rfl (by decide) rfl ?_
  refine xk_goto (tgt := 7) hC dX4_nearestCue_73 (by decide) ?_
  refine xk_locals [1, 2, 3, 4, 0] rfl ?_
  exact hk7 x0 x1 x2 x3 (x4 + (1 : Int32)) w hf
def f_X4_nearestCue_64 (k7 : Option Nat → Option Nat → Int32 → Int32 → Int32 → xWd → Option (Int32 × xWd)) (x0 : Option Nat) (x1 : Option Nat) (x4 : Int32) (x5 : Int32) (w : xWd) : Option (Int32 × xWd) := f_X4_nearestCue_70 k7 x0 x1 x4 x5 x4 w
set_option maxHeartbeats 4000000 in
set_option maxRecDepth 100000 in
theorem t_X4_nearestCue_64 {p : Program} {l : Launch} {e : Env} {s : State} {m : MethodId} {args : Array Value} {below : List Frame} {meth : Method} {c : Code} {E : xEv} (hC : xk_C p s m args meth c E prog_1_method_28_code "Clickbook" 6) (hr : meth.sig.returnType = (some .int)) {q : (Int32 × xWd)} {k7 : Option Nat → Option Nat → Int32 → Int32 → Int32 → xWd → Option (Int32 × xWd)} (hk7 : ∀ (x0 : Option Nat) (x1 : Option Nat) (x2 : Int32) (x3 : Int32) (x4 : Int32) (w : xWd), k7 x0 x1 x2 x3 x4 w = some q → xk_X p l e { frames := 3, cells := 0, slots := 0, locals := 68 } s m args below meth c (MQ below (xk_Qi E q) args s 0 0 (xk_A E.2.2.1)) E 6 0 0 7 [(0, va_rf (x0)), (1, va_rf (x1)), (2, .int (x2)), (3, .int (x3)), (4, .int (x4))] [] w) (x0 : Option Nat) (x1 : Option Nat) (x4 : Int32) (x5 : Int32) (w : xWd) (hf : f_X4_nearestCue_64 k7 x0 x1 x4 x5 w = some q) : xk_X p l e { frames := 3, cells := 0, slots := 0, locals := 68 } s m args below meth c (MQ below (xk_Qi E q) args s 0 0 (xk_A E.2.2.1)) E 6 0 0 64 [(0, va_rf (x0)), (1, va_rf (x1)), (4, .int (x4)), (5, .int (x5))] [] w := by
  refine xk_iload hC dX4_nearestCue_64 2 rfl ?_
  refine xk_istore_n (i := 2) (lv' := [(2, .int (x4)), (0, va_rf (x0)), (1, va_rf (x1)), (4, .int (x4)), (5, .int (x5))]) hC dX4_nearestCue_66 rfl (by decide) (by simp [xk_cat1]) ?_
  refine xk_iload hC dX4_nearestCue_67 4 rfl ?_
  refine xk_istore_n (i := 3) (lv' := [(3, .int (x5)), (2, .int (x4)), (0, va_rf (x0)), (1, va_rf (x1)), (4, .int (x4)), (5, .int (x5))]) hC dX4_nearestCue_69 rfl (by decide) rfl ?_
  refine xk_locals [2, 3, 1, 0, 4] rfl ?_
  exact t_X4_nearestCue_70 hC hr hk7 x0 x1 x4 x5 x4 w hf
def f_X4_nearestCue_76 (x2 : Int32) (w : xWd) : Option (Int32 × xWd) := some (x2, w)
set_option maxHeartbeats 4000000 in
set_option maxRecDepth 100000 in
theorem t_X4_nearestCue_76 {p : Program} {l : Launch} {e : Env} {s : State} {m : MethodId} {args : Array Value} {below : List Frame} {meth : Method} {c : Code} {E : xEv} (hC : xk_C p s m args meth c E prog_1_method_28_code "Clickbook" 6) (hr : meth.sig.returnType = (some .int)) {q : (Int32 × xWd)} (x2 : Int32) (w : xWd) (hf : f_X4_nearestCue_76 x2 w = some q) : xk_X p l e { frames := 3, cells := 0, slots := 0, locals := 68 } s m args below meth c (MQ below (xk_Qi E q) args s 0 0 (xk_A E.2.2.1)) E 6 0 0 76 [(2, .int (x2))] [] w := by
  refine xk_iload_n hC dX4_nearestCue_76 0 rfl rfl ?_
  cases hf
  refine xk_widen (k := 0) (n := 0) (Nat.le_of_ble_eq_true rfl) (Nat.le_of_ble_eq_true rfl) ?_
  exact xk_iret hC hr rfl dX4_nearestCue_77
def f_X4_nearestCue_7 : Nat → Option Nat → Option Nat → Int32 → Int32 → Int32 → xWd → Option (Int32 × xWd)
  | 0, _, _, _, _, _, _ => none
  | n + 1, x0, x1, x2, x3, x4, w => (xk_gR w (x0) 0 3).bind (fun v1 => (xk_is w (v1) 5).bind (fun u3 => (f_Jx4a65c_size_8abf5 (v1)  w).bind (fun q2 => if (q2.1) ≤ (x4) then f_X4_nearestCue_76 x2 (q2.2) else (xk_gI q2.2 (x1) 2 2).bind (fun v5 => if (v5) = ((0 : Int32)) then (xk_gR q2.2 (x0) 0 3).bind (fun v7 => (xk_is q2.2 (v7) 5).bind (fun u9 => (f_Jx4a65c_get_915e3 (v7) (x4) q2.2).bind (fun q8 => (xk_cc q8.2 (q8.1) 1).bind (fun u10 => (xk_gI q8.2 (x1) 2 0).bind (fun v11 => (xk_is q8.2 (q8.1) 1).bind (fun u13 => (f_X0_missOf (q8.1) (v11) q8.2).bind (fun q12 => if (q12.1) = ((-1 : Int32)) then f_X4_nearestCue_70 (f_X4_nearestCue_7 n) x0 x1 x2 x3 x4 (q12.2) else if (x3) = ((-1 : Int32)) then f_X4_nearestCue_64 (f_X4_nearestCue_7 n) x0 x1 x4 (q12.1) (q12.2) else if (x3) ≤ (q12.1) then f_X4_nearestCue_70 (f_X4_nearestCue_7 n) x0 x1 x2 x3 x4 (q12.2) else f_X4_nearestCue_64 (f_X4_nearestCue_7 n) x0 x1 x4 (q12.1) (q12.2)))))))) else f_X4_nearestCue_76 x2 (q2.2)))))
set_option maxHeartbeats 4000000 in
set_option maxRecDepth 100000 in
theorem t_X4_nearestCue_7 {p : Program} {l : Launch} {e : Env} {s : State} {m : MethodId} {args : Array Value} {below : List Frame} {meth : Method} {c : Code} {E : xEv} (hC : xk_C p s m args meth c E prog_1_method_28_code "Clickbook" 6) (hr : meth.sig.returnType = (some .int)) {q : (Int32 × xWd)} : ∀ (n : Nat) (x0 : Option Nat) (x1 : Option Nat) (x2 : Int32) (x3 : Int32) (x4 : Int32) (w : xWd), f_X4_nearestCue_7 n x0 x1 x2 x3 x4 w = some q → xk_X p l e { frames := 3, cells := 0, slots := 0, locals := 68 } s m args below meth c (MQ below (xk_Qi E q) args s 0 0 (xk_A E.2.2.1)) E 6 0 0 7 [(0, va_rf (x0)), (1, va_rf (x1)), (2, .int (x2)), (3, .int (x3)), (4, .int (x4))] [] w := by
  intro n
  induction n with
  | zero => intro x0 x1 x2 x3 x4 w hf; have hf : none = some q := hf; cases hf
  | succ n ih =>
    intro x0 x1 x2 x3 x4 w hf
    refine xk_iload hC dX4_nearestCue_7 4 rfl ?_
    refine xk_aload_n hC dX4_nearestCue_9 0 rfl rfl ?_
    obtain ⟨v1, h1, hf⟩ := xk_bi hf
    refine xk_getR hC xi_0 xc_0 3 (by decide) xm_77 (Or.inl rfl) dX4_nearestCue_10 h1 ?_
    obtain ⟨u3, h3, hf⟩ := xk_bi hf
    obtain ⟨q2, h2, hf⟩ := xk_bi hf
    refine xk_backi (xk_callV hC 0 xc_5 (c_Jx4a65c_size_8abf5 h2) h3 xm_187 xm_188 xm_189 xm_4 xm_190 ⟨rfl, xd_Jx4a65c_size_8abf5⟩ rfl ⟨Nat.le_of_ble_eq_true rfl, Nat.le_of_ble_eq_true rfl⟩ rfl (Nat.le_of_ble_eq_true rfl) dX4_nearestCue_13 ⟨(Nat.le_of_ble_eq_true rfl), (Nat.le_of_ble_eq_true rfl)⟩) ?_
    refine xk_icmp_ge (tgt := 76) hC dX4_nearestCue_16 (by decide) (fun c4 => ?_) (fun c4 => ?_)
    · replace hf := (if_pos c4).symm.trans hf
      refine xk_locals [2] rfl ?_
      exact t_X4_nearestCue_76 hC hr x2 (q2.2) hf
    · replace hf := (if_neg c4).symm.trans hf
      refine xk_aload_n hC dX4_nearestCue_19 1 rfl rfl ?_
      obtain ⟨v5, h5, hf⟩ := xk_bi hf
      refine xk_getI hC xi_2 xc_2 2 (by decide) xm_218 (Or.inl rfl) dX4_nearestCue_20 h5 ?_
      refine xk_if_ne (tgt := 76) hC dX4_nearestCue_23 (by decide) (fun c6 => ?_) (fun c6 => ?_)
      · replace hf := (if_neg c6).symm.trans hf
        refine xk_locals [2] rfl ?_
        exact t_X4_nearestCue_76 hC hr x2 (q2.2) hf
      · replace hf := (if_pos c6).symm.trans hf
        refine xk_aload_n hC dX4_nearestCue_26 0 rfl rfl ?_
        obtain ⟨v7, h7, hf⟩ := xk_bi hf
        refine xk_getR hC xi_0 xc_0 3 (by decide) xm_77 (Or.inl rfl) dX4_nearestCue_27 h7 ?_
        refine xk_iload hC dX4_nearestCue_30 4 rfl ?_
        obtain ⟨u9, h9, hf⟩ := xk_bi hf
        obtain ⟨q8, h8, hf⟩ := xk_bi hf
        refine xk_backq (xk_callV hC 1 xc_5 (c_Jx4a65c_get_915e3 h8) h9 xm_381 xm_382 xm_383 xm_4 xm_384 ⟨rfl, xd_Jx4a65c_get_915e3⟩ rfl ⟨Nat.le_of_ble_eq_true rfl, Nat.le_of_ble_eq_true rfl⟩ rfl (Nat.le_of_ble_eq_true rfl) dX4_nearestCue_32 ⟨(Nat.le_of_ble_eq_true rfl), (Nat.le_of_ble_eq_true rfl)⟩) ?_
        obtain ⟨u10, h10, hf⟩ := xk_bi hf
        refine xk_cast hC xc_1 xm_311 dX4_nearestCue_35 h10 ?_
        refine xk_aload_n hC dX4_nearestCue_38 1 rfl rfl ?_
        obtain ⟨v11, h11, hf⟩ := xk_bi hf
        refine xk_getI hC xi_2 xc_2 0 (by decide) xm_214 (Or.inl rfl) dX4_nearestCue_39 h11 ?_
        obtain ⟨u13, h13, hf⟩ := xk_bi hf
        obtain ⟨q12, h12, hf⟩ := xk_bi hf
        refine xk_backi (xk_callV hC 1 xc_1 (c_X0_missOf h12) h13 xm_688 xm_689 xm_690 xm_17 xm_691 ⟨rfl, xd_X0_missOf⟩ rfl ⟨Nat.le_of_ble_eq_true rfl, Nat.le_of_ble_eq_true rfl⟩ rfl (Nat.le_of_ble_eq_true rfl) dX4_nearestCue_42 ⟨(Nat.le_of_ble_eq_true rfl), (Nat.le_of_ble_eq_true rfl)⟩) ?_
        refine xk_istore (i := 5) (lv' := [(5, .int (q12.1)), (0, va_rf (x0)), (1, va_rf (x1)), (2, .int (x2)), (3, .int (x3)), (4, .int (x4))]) hC dX4_nearestCue_45 (by decide) rfl ?_
        refine xk_iload hC dX4_nearestCue_47 0 rfl ?_
        refine xk_iconst (v := (-1 : Int32)) hC dX4_nearestCue_49 (by decide) ?_
        refine xk_icmp_eq (tgt := 70) hC dX4_nearestCue_50 (by decide) (fun c14 => ?_) (fun c14 => ?_)
        · replace hf := (if_pos c14).symm.trans hf
          refine xk_locals [1, 2, 3, 4, 5] rfl ?_
          exact t_X4_nearestCue_70 hC hr (fun x0 x1 x2 x3 x4 w hf => ih x0 x1 x2 x3 x4 w hf) x0 x1 x2 x3 x4 (q12.2) hf
        · replace hf := (if_neg c14).symm.trans hf
          refine xk_iload_n hC dX4_nearestCue_53 4 rfl rfl ?_
          refine xk_iconst (v := (-1 : Int32)) hC dX4_nearestCue_54 (by decide) ?_
          refine xk_icmp_eq (tgt := 64) hC dX4_nearestCue_55 (by decide) (fun c15 => ?_) (fun c15 => ?_)
          · replace hf := (if_pos c15).symm.trans hf
            refine xk_locals [1, 2, 5, 0] rfl ?_
            exact t_X4_nearestCue_64 hC hr (fun x0 x1 x2 x3 x4 w hf => ih x0 x1 x2 x3 x4 w hf) x0 x1 x4 (q12.1) (q12.2) hf
          · replace hf := (if_neg c15).symm.trans hf
            refine xk_iload hC dX4_nearestCue_58 0 rfl ?_
            refine xk_iload_n hC dX4_nearestCue_60 4 rfl rfl ?_
            refine xk_icmp_ge (tgt := 70) hC dX4_nearestCue_61 (by decide) (fun c16 => ?_) (fun c16 => ?_)
            · replace hf := (if_pos c16).symm.trans hf
              refine xk_locals [1, 2, 3, 4, 5] rfl ?_
              exact t_X4_nearestCue_70 hC hr (fun x0 x1 x2 x3 x4 w hf => ih x0 x1 x2 x3 x4 w hf) x0 x1 x2 x3 x4 (q12.2) hf
            · replace hf := (if_neg c16).symm.trans hf
              refine xk_locals [1, 2, 5, 0] rfl ?_
              exact t_X4_nearestCue_64 hC hr (fun x0 x1 x2 x3 x4 w hf => ih x0 x1 x2 x3 x4 w hf) x0 x1 x4 (q12.1) (q12.2) hf
def f_X4_nearestCue (x0 : Option Nat) (x1 : Option Nat) (w : xWd) : Option (Int32 × xWd) := f_X4_nearestCue_7 4096 x0 x1 ((-1 : Int32)) ((-1 : Int32)) ((0 : Int32)) w
set_option maxHeartbeats 4000000 in
set_option maxRecDepth 100000 in
theorem t_X4_nearestCue_0 {p : Program} {l : Launch} {e : Env} {s : State} {m : MethodId} {args : Array Value} {below : List Frame} {meth : Method} {c : Code} {E : xEv} (hC : xk_C p s m args meth c E prog_1_method_28_code "Clickbook" 6) (hr : meth.sig.returnType = (some .int)) {q : (Int32 × xWd)} (x0 : Option Nat) (x1 : Option Nat) (w : xWd) (hf : f_X4_nearestCue x0 x1 w = some q) : xk_X p l e { frames := 3, cells := 0, slots := 0, locals := 68 } s m args below meth c (MQ below (xk_Qi E q) args s 0 0 (xk_A E.2.2.1)) E 6 0 0 0 [(0, va_rf (x0)), (1, va_rf (x1))] [] w := by
  refine xk_iconst (v := (-1 : Int32)) hC dX4_nearestCue_0 (by decide) ?_
  refine xk_istore_n (i := 2) (lv' := [(2, .int ((-1 : Int32))), (0, va_rf (x0)), (1, va_rf (x1))]) hC dX4_nearestCue_1 rfl (by decide) (by simp [xk_cat1]) ?_
  refine xk_iconst (v := (-1 : Int32)) hC dX4_nearestCue_2 (by decide) ?_
  refine xk_istore_n (i := 3) (lv' := [(3, .int ((-1 : Int32))), (2, .int ((-1 : Int32))), (0, va_rf (x0)), (1, va_rf (x1))]) hC dX4_nearestCue_3 rfl (by decide) rfl ?_
  refine xk_iconst (v := (0 : Int32)) hC dX4_nearestCue_4 (by decide) ?_
  refine xk_istore (i := 4) (lv' := [(4, .int ((0 : Int32))), (3, .int ((-1 : Int32))), (2, .int ((-1 : Int32))), (0, va_rf (x0)), (1, va_rf (x1))]) hC dX4_nearestCue_5 (by decide) rfl ?_
  refine xk_locals [3, 4, 2, 1, 0] rfl ?_
  exact t_X4_nearestCue_7 hC hr 4096 x0 x1 ((-1 : Int32)) ((-1 : Int32)) ((0 : Int32)) w hf
theorem xd_X4_nearestCue : xy_X4_nearestCue.cls ≠ "java/lang/invoke/MethodHandle" ∧ xy_X4_nearestCue.cls ≠ "java/lang/invoke/VarHandle" ∧ (parseMethodDescriptor xy_X4_nearestCue.desc).map (fun d => d.parameters.length) = some 1 := ⟨by decide +kernel, by decide +kernel, by decide +kernel⟩
theorem c_X4_nearestCue {l : Launch} {E : xEv} {x0 : Option Nat} {x1 : Option Nat} {w : xWd} {q : (Int32 × xWd)} (hf : f_X4_nearestCue x0 x1 w = some q) : xk_M l xy_X4_nearestCue prog_1_method_28_code 6 (some .int) 3 68 0 0 E [va_rf (x0), va_rf (x1)] w (xk_Qi E q) := by
  refine xk_enter (by decide +kernel) (by simp [lg_sl, xk_cat1, xk_cati, xk_catl, xk_catd]) ?_
  intro p e s m args below meth c hC hr hin ha
  rw [show lv_args 0 [va_rf (x0), va_rf (x1)] = [(0, va_rf (x0)), (1, va_rf (x1))] by simp [lv_args, xk_cat1, xk_cati, xk_catl, xk_catd]]
  exact t_X4_nearestCue_0 hC hr x0 x1 w hf
def f_X4_missOf_33 (s0 : Int32) (w : xWd) : Option (Int32 × xWd) := some (s0, w)
set_option maxHeartbeats 4000000 in
set_option maxRecDepth 100000 in
theorem t_X4_missOf_33 {p : Program} {l : Launch} {e : Env} {s : State} {m : MethodId} {args : Array Value} {below : List Frame} {meth : Method} {c : Code} {E : xEv} (hC : xk_C p s m args meth c E prog_1_method_29_code "Clickbook" 3) (hr : meth.sig.returnType = (some .int)) {q : (Int32 × xWd)} (s0 : Int32) (w : xWd) (hf : f_X4_missOf_33 s0 w = some q) : xk_X p l e { frames := 4, cells := 0, slots := 0, locals := 93 } s m args below meth c (MQ below (xk_Qi E q) args s 0 0 (xk_A E.2.2.1)) E 3 0 0 33 [] [.int (s0)] w := by
  cases hf
  refine xk_widen (k := 0) (n := 0) (Nat.le_of_ble_eq_true rfl) (Nat.le_of_ble_eq_true rfl) ?_
  exact xk_iret hC hr rfl dX4_missOf_33
def f_X4_missOf (x0 : Option Nat) (x1 : Option Nat) (w : xWd) : Option (Int32 × xWd) := (xk_is w (x0) 0).bind (fun u2 => (f_X4_nearestCue (x0) (x1) w).bind (fun q1 => if (q1.1) = ((-1 : Int32)) then f_X4_missOf_33 ((-1 : Int32)) (q1.2) else (xk_gR q1.2 (x0) 0 3).bind (fun v4 => (xk_is q1.2 (v4) 5).bind (fun u6 => (f_Jx4a65c_get_915e3 (v4) (q1.1) q1.2).bind (fun q5 => (xk_cc q5.2 (q5.1) 1).bind (fun u7 => (xk_gI q5.2 (x1) 2 0).bind (fun v8 => (xk_is q5.2 (q5.1) 1).bind (fun u10 => (f_X0_missOf (q5.1) (v8) q5.2).bind (fun q9 => f_X4_missOf_33 (q9.1) (q9.2))))))))))
set_option maxHeartbeats 4000000 in
set_option maxRecDepth 100000 in
theorem t_X4_missOf_0 {p : Program} {l : Launch} {e : Env} {s : State} {m : MethodId} {args : Array Value} {below : List Frame} {meth : Method} {c : Code} {E : xEv} (hC : xk_C p s m args meth c E prog_1_method_29_code "Clickbook" 3) (hr : meth.sig.returnType = (some .int)) {q : (Int32 × xWd)} (x0 : Option Nat) (x1 : Option Nat) (w : xWd) (hf : f_X4_missOf x0 x1 w = some q) : xk_X p l e { frames := 4, cells := 0, slots := 0, locals := 93 } s m args below meth c (MQ below (xk_Qi E q) args s 0 0 (xk_A E.2.2.1)) E 3 0 0 0 [(0, va_rf (x0)), (1, va_rf (x1))] [] w := by
  refine xk_aload_n hC dX4_missOf_0 0 rfl rfl ?_
  refine xk_aload_n hC dX4_missOf_1 1 rfl rfl ?_
  obtain ⟨u2, h2, hf⟩ := xk_bi hf
  obtain ⟨q1, h1, hf⟩ := xk_bi hf
  refine xk_backi (xk_callV hC 1 xc_0 (c_X4_nearestCue h1) h2 xm_684 xm_686 xm_p29 xm_1 xm_687 ⟨rfl, xd_X4_nearestCue⟩ rfl ⟨Nat.le_of_ble_eq_true rfl, Nat.le_of_ble_eq_true rfl⟩ rfl (Nat.le_of_ble_eq_true rfl) dX4_missOf_2 ⟨(Nat.le_of_ble_eq_true rfl), (Nat.le_of_ble_eq_true rfl)⟩) ?_
  refine xk_istore_n (i := 2) (lv' := [(2, .int (q1.1)), (0, va_rf (x0)), (1, va_rf (x1))]) hC dX4_missOf_5 rfl (by decide) (by simp [xk_cat1]) ?_
  refine xk_iload_n hC dX4_missOf_6 0 rfl rfl ?_
  refine xk_iconst (v := (-1 : Int32)) hC dX4_missOf_7 (by decide) ?_
  refine xk_icmp_ne (tgt := 15) hC dX4_missOf_8 (by decide) (fun c3 => ?_) (fun c3 => ?_)
  · replace hf := (if_neg c3).symm.trans hf
    refine xk_aload_n hC dX4_missOf_15 1 rfl rfl ?_
    obtain ⟨v4, h4, hf⟩ := xk_bi hf
    refine xk_getR hC xi_0 xc_0 3 (by decide) xm_77 (Or.inl rfl) dX4_missOf_16 h4 ?_
    refine xk_iload_n hC dX4_missOf_19 0 rfl rfl ?_
    obtain ⟨u6, h6, hf⟩ := xk_bi hf
    obtain ⟨q5, h5, hf⟩ := xk_bi hf
    refine xk_backq (xk_callV hC 1 xc_5 (c_Jx4a65c_get_915e3 h5) h6 xm_381 xm_382 xm_383 xm_4 xm_384 ⟨rfl, xd_Jx4a65c_get_915e3⟩ rfl ⟨Nat.le_of_ble_eq_true rfl, Nat.le_of_ble_eq_true rfl⟩ rfl (Nat.le_of_ble_eq_true rfl) dX4_missOf_20 ⟨(Nat.le_of_ble_eq_true rfl), (Nat.le_of_ble_eq_true rfl)⟩) ?_
    obtain ⟨u7, h7, hf⟩ := xk_bi hf
    refine xk_cast hC xc_1 xm_311 dX4_missOf_23 h7 ?_
    refine xk_aload_n hC dX4_missOf_26 2 rfl rfl ?_
    obtain ⟨v8, h8, hf⟩ := xk_bi hf
    refine xk_getI hC xi_2 xc_2 0 (by decide) xm_214 (Or.inl rfl) dX4_missOf_27 h8 ?_
    obtain ⟨u10, h10, hf⟩ := xk_bi hf
    obtain ⟨q9, h9, hf⟩ := xk_bi hf
    refine xk_backi (xk_callV hC 1 xc_1 (c_X0_missOf h9) h10 xm_688 xm_689 xm_690 xm_17 xm_691 ⟨rfl, xd_X0_missOf⟩ rfl ⟨Nat.le_of_ble_eq_true rfl, Nat.le_of_ble_eq_true rfl⟩ rfl (Nat.le_of_ble_eq_true rfl) dX4_missOf_30 ⟨(Nat.le_of_ble_eq_true rfl), (Nat.le_of_ble_eq_true rfl)⟩) ?_
    refine xk_locals [] rfl ?_
    exact t_X4_missOf_33 hC hr (q9.1) (q9.2) hf
  · replace hf := (if_pos c3).symm.trans hf
    refine xk_iconst (v := (-1 : Int32)) hC dX4_missOf_11 (by decide) ?_
    refine xk_goto (tgt := 33) hC dX4_missOf_12 (by decide) ?_
    refine xk_locals [] rfl ?_
    exact t_X4_missOf_33 hC hr ((-1 : Int32)) (q1.2) hf
theorem xd_X4_missOf : xy_X4_missOf.cls ≠ "java/lang/invoke/MethodHandle" ∧ xy_X4_missOf.cls ≠ "java/lang/invoke/VarHandle" ∧ (parseMethodDescriptor xy_X4_missOf.desc).map (fun d => d.parameters.length) = some 1 := ⟨by decide +kernel, by decide +kernel, by decide +kernel⟩
theorem c_X4_missOf {l : Launch} {E : xEv} {x0 : Option Nat} {x1 : Option Nat} {w : xWd} {q : (Int32 × xWd)} (hf : f_X4_missOf x0 x1 w = some q) : xk_M l xy_X4_missOf prog_1_method_29_code 3 (some .int) 4 93 0 0 E [va_rf (x0), va_rf (x1)] w (xk_Qi E q) := by
  refine xk_enter (by decide +kernel) (by simp [lg_sl, xk_cat1, xk_cati, xk_catl, xk_catd]) ?_
  intro p e s m args below meth c hC hr hin ha
  rw [show lv_args 0 [va_rf (x0), va_rf (x1)] = [(0, va_rf (x0)), (1, va_rf (x1))] by simp [lv_args, xk_cat1, xk_cati, xk_catl, xk_catd]]
  exact t_X4_missOf_0 hC hr x0 x1 w hf
def f_X4_nearestBeat_33 (s0 : Int32) (w : xWd) : Option (Int32 × xWd) := some (s0, w)
set_option maxHeartbeats 4000000 in
set_option maxRecDepth 100000 in
theorem t_X4_nearestBeat_33 {p : Program} {l : Launch} {e : Env} {s : State} {m : MethodId} {args : Array Value} {below : List Frame} {meth : Method} {c : Code} {E : xEv} (hC : xk_C p s m args meth c E prog_1_method_30_code "Clickbook" 3) (hr : meth.sig.returnType = (some .int)) {q : (Int32 × xWd)} (s0 : Int32) (w : xWd) (hf : f_X4_nearestBeat_33 s0 w = some q) : xk_X p l e { frames := 4, cells := 0, slots := 0, locals := 93 } s m args below meth c (MQ below (xk_Qi E q) args s 0 0 (xk_A E.2.2.1)) E 3 0 0 33 [] [.int (s0)] w := by
  cases hf
  refine xk_widen (k := 0) (n := 0) (Nat.le_of_ble_eq_true rfl) (Nat.le_of_ble_eq_true rfl) ?_
  exact xk_iret hC hr rfl dX4_nearestBeat_33
def f_X4_nearestBeat (x0 : Option Nat) (x1 : Option Nat) (w : xWd) : Option (Int32 × xWd) := (xk_is w (x0) 0).bind (fun u2 => (f_X4_nearestCue (x0) (x1) w).bind (fun q1 => if (q1.1) = ((-1 : Int32)) then f_X4_nearestBeat_33 ((-1 : Int32)) (q1.2) else (xk_gR q1.2 (x0) 0 3).bind (fun v4 => (xk_is q1.2 (v4) 5).bind (fun u6 => (f_Jx4a65c_get_915e3 (v4) (q1.1) q1.2).bind (fun q5 => (xk_cc q5.2 (q5.1) 1).bind (fun u7 => (xk_gI q5.2 (x1) 2 0).bind (fun v8 => (xk_is q5.2 (q5.1) 1).bind (fun u10 => (f_X0_nearestBeat (q5.1) (v8) q5.2).bind (fun q9 => f_X4_nearestBeat_33 (q9.1) (q9.2))))))))))
set_option maxHeartbeats 4000000 in
set_option maxRecDepth 100000 in
theorem t_X4_nearestBeat_0 {p : Program} {l : Launch} {e : Env} {s : State} {m : MethodId} {args : Array Value} {below : List Frame} {meth : Method} {c : Code} {E : xEv} (hC : xk_C p s m args meth c E prog_1_method_30_code "Clickbook" 3) (hr : meth.sig.returnType = (some .int)) {q : (Int32 × xWd)} (x0 : Option Nat) (x1 : Option Nat) (w : xWd) (hf : f_X4_nearestBeat x0 x1 w = some q) : xk_X p l e { frames := 4, cells := 0, slots := 0, locals := 93 } s m args below meth c (MQ below (xk_Qi E q) args s 0 0 (xk_A E.2.2.1)) E 3 0 0 0 [(0, va_rf (x0)), (1, va_rf (x1))] [] w := by
  refine xk_aload_n hC dX4_nearestBeat_0 0 rfl rfl ?_
  refine xk_aload_n hC dX4_nearestBeat_1 1 rfl rfl ?_
  obtain ⟨u2, h2, hf⟩ := xk_bi hf
  obtain ⟨q1, h1, hf⟩ := xk_bi hf
  refine xk_backi (xk_callV hC 1 xc_0 (c_X4_nearestCue h1) h2 xm_684 xm_686 xm_p29 xm_1 xm_687 ⟨rfl, xd_X4_nearestCue⟩ rfl ⟨Nat.le_of_ble_eq_true rfl, Nat.le_of_ble_eq_true rfl⟩ rfl (Nat.le_of_ble_eq_true rfl) dX4_nearestBeat_2 ⟨(Nat.le_of_ble_eq_true rfl), (Nat.le_of_ble_eq_true rfl)⟩) ?_
  refine xk_istore_n (i := 2) (lv' := [(2, .int (q1.1)), (0, va_rf (x0)), (1, va_rf (x1))]) hC dX4_nearestBeat_5 rfl (by decide) (by simp [xk_cat1]) ?_
  refine xk_iload_n hC dX4_nearestBeat_6 0 rfl rfl ?_
  refine xk_iconst (v := (-1 : Int32)) hC dX4_nearestBeat_7 (by decide) ?_
  refine xk_icmp_ne (tgt := 15) hC dX4_nearestBeat_8 (by decide) (fun c3 => ?_) (fun c3 => ?_)
  · replace hf := (if_neg c3).symm.trans hf
    refine xk_aload_n hC dX4_nearestBeat_15 1 rfl rfl ?_
    obtain ⟨v4, h4, hf⟩ := xk_bi hf
    refine xk_getR hC xi_0 xc_0 3 (by decide) xm_77 (Or.inl rfl) dX4_nearestBeat_16 h4 ?_
    refine xk_iload_n hC dX4_nearestBeat_19 0 rfl rfl ?_
    obtain ⟨u6, h6, hf⟩ := xk_bi hf
    obtain ⟨q5, h5, hf⟩ := xk_bi hf
    refine xk_backq (xk_callV hC 1 xc_5 (c_Jx4a65c_get_915e3 h5) h6 xm_381 xm_382 xm_383 xm_4 xm_384 ⟨rfl, xd_Jx4a65c_get_915e3⟩ rfl ⟨Nat.le_of_ble_eq_true rfl, Nat.le_of_ble_eq_true rfl⟩ rfl (Nat.le_of_ble_eq_true rfl) dX4_nearestBeat_20 ⟨(Nat.le_of_ble_eq_true rfl), (Nat.le_of_ble_eq_true rfl)⟩) ?_
    obtain ⟨u7, h7, hf⟩ := xk_bi hf
    refine xk_cast hC xc_1 xm_311 dX4_nearestBeat_23 h7 ?_
    refine xk_aload_n hC dX4_nearestBeat_26 2 rfl rfl ?_
    obtain ⟨v8, h8, hf⟩ := xk_bi hf
    refine xk_getI hC xi_2 xc_2 0 (by decide) xm_214 (Or.inl rfl) dX4_nearestBeat_27 h8 ?_
    obtain ⟨u10, h10, hf⟩ := xk_bi hf
    obtain ⟨q9, h9, hf⟩ := xk_bi hf
    refine xk_backi (xk_callV hC 1 xc_1 (c_X0_nearestBeat h9) h10 xm_704 xm_693 xm_694 xm_17 xm_695 ⟨rfl, xd_X0_nearestBeat⟩ rfl ⟨Nat.le_of_ble_eq_true rfl, Nat.le_of_ble_eq_true rfl⟩ rfl (Nat.le_of_ble_eq_true rfl) dX4_nearestBeat_30 ⟨(Nat.le_of_ble_eq_true rfl), (Nat.le_of_ble_eq_true rfl)⟩) ?_
    refine xk_locals [] rfl ?_
    exact t_X4_nearestBeat_33 hC hr (q9.1) (q9.2) hf
  · replace hf := (if_pos c3).symm.trans hf
    refine xk_iconst (v := (-1 : Int32)) hC dX4_nearestBeat_11 (by decide) ?_
    refine xk_goto (tgt := 33) hC dX4_nearestBeat_12 (by decide) ?_
    refine xk_locals [] rfl ?_
    exact t_X4_nearestBeat_33 hC hr ((-1 : Int32)) (q1.2) hf
theorem xd_X4_nearestBeat : xy_X4_nearestBeat.cls ≠ "java/lang/invoke/MethodHandle" ∧ xy_X4_nearestBeat.cls ≠ "java/lang/invoke/VarHandle" ∧ (parseMethodDescriptor xy_X4_nearestBeat.desc).map (fun d => d.parameters.length) = some 1 := ⟨by decide +kernel, by decide +kernel, by decide +kernel⟩
theorem c_X4_nearestBeat {l : Launch} {E : xEv} {x0 : Option Nat} {x1 : Option Nat} {w : xWd} {q : (Int32 × xWd)} (hf : f_X4_nearestBeat x0 x1 w = some q) : xk_M l xy_X4_nearestBeat prog_1_method_30_code 3 (some .int) 4 93 0 0 E [va_rf (x0), va_rf (x1)] w (xk_Qi E q) := by
  refine xk_enter (by decide +kernel) (by simp [lg_sl, xk_cat1, xk_cati, xk_catl, xk_catd]) ?_
  intro p e s m args below meth c hC hr hin ha
  rw [show lv_args 0 [va_rf (x0), va_rf (x1)] = [(0, va_rf (x0)), (1, va_rf (x1))] by simp [lv_args, xk_cat1, xk_cati, xk_catl, xk_catd]]
  exact t_X4_nearestBeat_0 hC hr x0 x1 w hf
def f_X4_ofHit_15 (w : xWd) : Option (Int32 × xWd) := none
set_option maxHeartbeats 4000000 in
set_option maxRecDepth 100000 in
theorem t_X4_ofHit_15 {p : Program} {l : Launch} {e : Env} {s : State} {m : MethodId} {args : Array Value} {below : List Frame} {meth : Method} {c : Code} {E : xEv} (hC : xk_C p s m args meth c E prog_1_method_20_code "Clickbook" 4) (hr : meth.sig.returnType = (some .int)) {q : (Int32 × xWd)} (w : xWd) (hf : f_X4_ofHit_15 w = some q) : xk_X p l e { frames := 5, cells := 0, slots := 0, locals := 115 } s m args below meth c (MQ below (xk_Qi E q) args s 0 0 (xk_A E.2.2.1)) E 4 0 0 15 [] [] w := by
  cases hf
def f_X4_ofHit_102 (s0 : Int32) (w : xWd) : Option (Int32 × xWd) := some (s0, w)
set_option maxHeartbeats 4000000 in
set_option maxRecDepth 100000 in
theorem t_X4_ofHit_102 {p : Program} {l : Launch} {e : Env} {s : State} {m : MethodId} {args : Array Value} {below : List Frame} {meth : Method} {c : Code} {E : xEv} (hC : xk_C p s m args meth c E prog_1_method_20_code "Clickbook" 4) (hr : meth.sig.returnType = (some .int)) {q : (Int32 × xWd)} (s0 : Int32) (w : xWd) (hf : f_X4_ofHit_102 s0 w = some q) : xk_X p l e { frames := 5, cells := 0, slots := 0, locals := 115 } s m args below meth c (MQ below (xk_Qi E q) args s 0 0 (xk_A E.2.2.1)) E 4 0 0 102 [] [.int (s0)] w := by
  cases hf
  refine xk_widen (k := 0) (n := 0) (Nat.le_of_ble_eq_true rfl) (Nat.le_of_ble_eq_true rfl) ?_
  exact xk_iret hC hr rfl dX4_ofHit_102
def f_X4_ofHit_122 (s0 : Int32) (w : xWd) : Option (Int32 × xWd) := some (s0, w)
set_option maxHeartbeats 4000000 in
set_option maxRecDepth 100000 in
theorem t_X4_ofHit_122 {p : Program} {l : Launch} {e : Env} {s : State} {m : MethodId} {args : Array Value} {below : List Frame} {meth : Method} {c : Code} {E : xEv} (hC : xk_C p s m args meth c E prog_1_method_20_code "Clickbook" 4) (hr : meth.sig.returnType = (some .int)) {q : (Int32 × xWd)} (s0 : Int32) (w : xWd) (hf : f_X4_ofHit_122 s0 w = some q) : xk_X p l e { frames := 5, cells := 0, slots := 0, locals := 115 } s m args below meth c (MQ below (xk_Qi E q) args s 0 0 (xk_A E.2.2.1)) E 4 0 0 122 [] [.int (s0)] w := by
  cases hf
  refine xk_widen (k := 0) (n := 0) (Nat.le_of_ble_eq_true rfl) (Nat.le_of_ble_eq_true rfl) ?_
  exact xk_iret hC hr rfl dX4_ofHit_122
def f_X4_ofHit (x0 : Option Nat) (x1 : Int32) (x2 : Int32) (w : xWd) : Option (Int32 × xWd) := if (x1) < ((0 : Int32)) then f_X4_ofHit_15 w else (xk_gR w (x0) 0 0).bind (fun v2 => (xk_is w (v2) 5).bind (fun u4 => (f_Jx4a65c_size_8abf5 (v2)  w).bind (fun q3 => if (x1) < (q3.1) then (xk_gR q3.2 (x0) 0 0).bind (fun v6 => (xk_is q3.2 (v6) 5).bind (fun u8 => (f_Jx4a65c_get_915e3 (v6) (x1) q3.2).bind (fun q7 => (xk_cc q7.2 (q7.1) 2).bind (fun u9 => if (x2) = (0 : Int32) then (xk_gI q7.2 (q7.1) 2 0).bind (fun v11 => some (v11, q7.2)) else (if (x2) = (1 : Int32) then (xk_gI q7.2 (q7.1) 2 1).bind (fun v13 => some (v13, q7.2)) else (if (x2) = (2 : Int32) then (xk_gI q7.2 (q7.1) 2 2).bind (fun v15 => if (v15) = ((0 : Int32)) then f_X4_ofHit_102 ((0 : Int32)) (q7.2) else f_X4_ofHit_102 ((1 : Int32)) (q7.2)) else (if (x2) = (3 : Int32) then (xk_is q7.2 (x0) 0).bind (fun u19 => (f_X4_missOf (x0) (q7.1) q7.2).bind (fun q18 => some (q18.1, q18.2))) else (if (x2) = (4 : Int32) then (xk_is q7.2 (x0) 0).bind (fun u22 => (f_X4_isMet (x0) (q7.1) q7.2).bind (fun q21 => if (q21.1) = ((0 : Int32)) then f_X4_ofHit_122 ((0 : Int32)) (q21.2) else f_X4_ofHit_122 ((1 : Int32)) (q21.2))) else (if (x2) = (5 : Int32) then (xk_is q7.2 (x0) 0).bind (fun u26 => (f_X4_nearestCue (x0) (q7.1) q7.2).bind (fun q25 => some (q25.1, q25.2))) else (if (x2) = (6 : Int32) then (xk_is q7.2 (x0) 0).bind (fun u29 => (f_X4_nearestBeat (x0) (q7.1) q7.2).bind (fun q28 => some (q28.1, q28.2))) else (none))))))))))) else f_X4_ofHit_15 (q3.2))))
set_option maxHeartbeats 4000000 in
set_option maxRecDepth 100000 in
theorem t_X4_ofHit_0 {p : Program} {l : Launch} {e : Env} {s : State} {m : MethodId} {args : Array Value} {below : List Frame} {meth : Method} {c : Code} {E : xEv} (hC : xk_C p s m args meth c E prog_1_method_20_code "Clickbook" 4) (hr : meth.sig.returnType = (some .int)) {q : (Int32 × xWd)} (x0 : Option Nat) (x1 : Int32) (x2 : Int32) (w : xWd) (hf : f_X4_ofHit x0 x1 x2 w = some q) : xk_X p l e { frames := 5, cells := 0, slots := 0, locals := 115 } s m args below meth c (MQ below (xk_Qi E q) args s 0 0 (xk_A E.2.2.1)) E 4 0 0 0 [(0, va_rf (x0)), (1, .int (x1)), (2, .int (x2))] [] w := by
  refine xk_iload_n hC dX4_ofHit_0 1 rfl rfl ?_
  refine xk_if_lt (tgt := 15) hC dX4_ofHit_1 (by decide) (fun c1 => ?_) (fun c1 => ?_)
  · replace hf := (if_pos c1).symm.trans hf
    refine xk_locals [] rfl ?_
    exact t_X4_ofHit_15 hC hr w hf
  · replace hf := (if_neg c1).symm.trans hf
    refine xk_iload_n hC dX4_ofHit_4 1 rfl rfl ?_
    refine xk_aload_n hC dX4_ofHit_5 0 rfl rfl ?_
    obtain ⟨v2, h2, hf⟩ := xk_bi hf
    refine xk_getR hC xi_0 xc_0 0 (by decide) xm_74 (Or.inl rfl) dX4_ofHit_6 h2 ?_
    obtain ⟨u4, h4, hf⟩ := xk_bi hf
    obtain ⟨q3, h3, hf⟩ := xk_bi hf
    refine xk_backi (xk_callV hC 0 xc_5 (c_Jx4a65c_size_8abf5 h3) h4 xm_187 xm_188 xm_189 xm_4 xm_190 ⟨rfl, xd_Jx4a65c_size_8abf5⟩ rfl ⟨Nat.le_of_ble_eq_true rfl, Nat.le_of_ble_eq_true rfl⟩ rfl (Nat.le_of_ble_eq_true rfl) dX4_ofHit_9 ⟨(Nat.le_of_ble_eq_true rfl), (Nat.le_of_ble_eq_true rfl)⟩) ?_
    refine xk_icmp_lt (tgt := 25) hC dX4_ofHit_12 (by decide) (fun c5 => ?_) (fun c5 => ?_)
    · replace hf := (if_pos c5).symm.trans hf
      refine xk_aload_n hC dX4_ofHit_25 0 rfl rfl ?_
      obtain ⟨v6, h6, hf⟩ := xk_bi hf
      refine xk_getR hC xi_0 xc_0 0 (by decide) xm_74 (Or.inl rfl) dX4_ofHit_26 h6 ?_
      refine xk_iload_n hC dX4_ofHit_29 1 rfl rfl ?_
      obtain ⟨u8, h8, hf⟩ := xk_bi hf
      obtain ⟨q7, h7, hf⟩ := xk_bi hf
      refine xk_backq (xk_callV hC 1 xc_5 (c_Jx4a65c_get_915e3 h7) h8 xm_381 xm_382 xm_383 xm_4 xm_384 ⟨rfl, xd_Jx4a65c_get_915e3⟩ rfl ⟨Nat.le_of_ble_eq_true rfl, Nat.le_of_ble_eq_true rfl⟩ rfl (Nat.le_of_ble_eq_true rfl) dX4_ofHit_30 ⟨(Nat.le_of_ble_eq_true rfl), (Nat.le_of_ble_eq_true rfl)⟩) ?_
      obtain ⟨u9, h9, hf⟩ := xk_bi hf
      refine xk_cast hC xc_2 xm_207 dX4_ofHit_33 h9 ?_
      refine xk_astore_n (i := 3) (lv' := [(3, va_rf (q7.1)), (0, va_rf (x0)), (1, .int (x1)), (2, .int (x2))]) hC dX4_ofHit_36 rfl (by decide) rfl ?_
      refine xk_iload_n hC dX4_ofHit_37 3 rfl rfl ?_
      by_cases c10 : (x2) = (0 : Int32)
      · replace hf := (if_pos c10).symm.trans hf
        refine xk_tableIn (tgt := 80) hC dX4_ofHit_38 (by rw [c10]; decide) (by rw [c10]; decide) (off := 42) (by rw [c10]; rfl) (by decide) ?_
        refine xk_aload_n hC dX4_ofHit_80 0 rfl rfl ?_
        obtain ⟨v11, h11, hf⟩ := xk_bi hf
        refine xk_getI hC xi_2 xc_2 0 (by decide) xm_214 (Or.inl rfl) dX4_ofHit_81 h11 ?_
        cases hf
        refine xk_widen (k := 0) (n := 0) (Nat.le_of_ble_eq_true rfl) (Nat.le_of_ble_eq_true rfl) ?_
        exact xk_iret hC hr rfl dX4_ofHit_84
      · replace hf := (if_neg c10).symm.trans hf
        by_cases c12 : (x2) = (1 : Int32)
        · replace hf := (if_pos c12).symm.trans hf
          refine xk_tableIn (tgt := 85) hC dX4_ofHit_38 (by rw [c12]; decide) (by rw [c12]; decide) (off := 47) (by rw [c12]; rfl) (by decide) ?_
          refine xk_aload_n hC dX4_ofHit_85 0 rfl rfl ?_
          obtain ⟨v13, h13, hf⟩ := xk_bi hf
          refine xk_getI hC xi_2 xc_2 1 (by decide) xm_216 (Or.inl rfl) dX4_ofHit_86 h13 ?_
          cases hf
          refine xk_widen (k := 0) (n := 0) (Nat.le_of_ble_eq_true rfl) (Nat.le_of_ble_eq_true rfl) ?_
          exact xk_iret hC hr rfl dX4_ofHit_89
        · replace hf := (if_neg c12).symm.trans hf
          by_cases c14 : (x2) = (2 : Int32)
          · replace hf := (if_pos c14).symm.trans hf
            refine xk_tableIn (tgt := 90) hC dX4_ofHit_38 (by rw [c14]; decide) (by rw [c14]; decide) (off := 52) (by rw [c14]; rfl) (by decide) ?_
            refine xk_aload_n hC dX4_ofHit_90 0 rfl rfl ?_
            obtain ⟨v15, h15, hf⟩ := xk_bi hf
            refine xk_getI hC xi_2 xc_2 2 (by decide) xm_218 (Or.inl rfl) dX4_ofHit_91 h15 ?_
            refine xk_if_eq (tgt := 101) hC dX4_ofHit_94 (by decide) (fun c16 => ?_) (fun c16 => ?_)
            · replace hf := (if_pos c16).symm.trans hf
              refine xk_iconst (v := (0 : Int32)) hC dX4_ofHit_101 (by decide) ?_
              refine xk_locals [] rfl ?_
              exact t_X4_ofHit_102 hC hr ((0 : Int32)) (q7.2) hf
            · replace hf := (if_neg c16).symm.trans hf
              refine xk_iconst (v := (1 : Int32)) hC dX4_ofHit_97 (by decide) ?_
              refine xk_goto (tgt := 102) hC dX4_ofHit_98 (by decide) ?_
              refine xk_locals [] rfl ?_
              exact t_X4_ofHit_102 hC hr ((1 : Int32)) (q7.2) hf
          · replace hf := (if_neg c14).symm.trans hf
            by_cases c17 : (x2) = (3 : Int32)
            · replace hf := (if_pos c17).symm.trans hf
              refine xk_tableIn (tgt := 103) hC dX4_ofHit_38 (by rw [c17]; decide) (by rw [c17]; decide) (off := 65) (by rw [c17]; rfl) (by decide) ?_
              refine xk_aload_n hC dX4_ofHit_103 1 rfl rfl ?_
              refine xk_aload_n hC dX4_ofHit_104 0 rfl rfl ?_
              obtain ⟨u19, h19, hf⟩ := xk_bi hf
              obtain ⟨q18, h18, hf⟩ := xk_bi hf
              refine xk_backi (xk_callV hC 1 xc_0 (c_X4_missOf h18) h19 xm_680 xm_682 xm_p28 xm_1 xm_683 ⟨rfl, xd_X4_missOf⟩ rfl ⟨Nat.le_of_ble_eq_true rfl, Nat.le_of_ble_eq_true rfl⟩ rfl (Nat.le_of_ble_eq_true rfl) dX4_ofHit_105 ⟨(Nat.le_of_ble_eq_true rfl), (Nat.le_of_ble_eq_true rfl)⟩) ?_
              cases hf
              refine xk_widen (k := 0) (n := 0) (Nat.le_of_ble_eq_true rfl) (Nat.le_of_ble_eq_true rfl) ?_
              exact xk_iret hC hr rfl dX4_ofHit_108
            · replace hf := (if_neg c17).symm.trans hf
              by_cases c20 : (x2) = (4 : Int32)
              · replace hf := (if_pos c20).symm.trans hf
                refine xk_tableIn (tgt := 109) hC dX4_ofHit_38 (by rw [c20]; decide) (by rw [c20]; decide) (off := 71) (by rw [c20]; rfl) (by decide) ?_
                refine xk_aload_n hC dX4_ofHit_109 1 rfl rfl ?_
                refine xk_aload_n hC dX4_ofHit_110 0 rfl rfl ?_
                obtain ⟨u22, h22, hf⟩ := xk_bi hf
                obtain ⟨q21, h21, hf⟩ := xk_bi hf
                refine xk_backi (xk_callV hC 1 xc_0 (c_X4_isMet h21) h22 xm_436 xm_438 xm_p6 xm_1 xm_439 ⟨rfl, xd_X4_isMet⟩ rfl ⟨Nat.le_of_ble_eq_true rfl, Nat.le_of_ble_eq_true rfl⟩ rfl (Nat.le_of_ble_eq_true rfl) dX4_ofHit_111 ⟨(Nat.le_of_ble_eq_true rfl), (Nat.le_of_ble_eq_true rfl)⟩) ?_
                refine xk_if_eq (tgt := 121) hC dX4_ofHit_114 (by decide) (fun c23 => ?_) (fun c23 => ?_)
                · replace hf := (if_pos c23).symm.trans hf
                  refine xk_iconst (v := (0 : Int32)) hC dX4_ofHit_121 (by decide) ?_
                  refine xk_locals [] rfl ?_
                  exact t_X4_ofHit_122 hC hr ((0 : Int32)) (q21.2) hf
                · replace hf := (if_neg c23).symm.trans hf
                  refine xk_iconst (v := (1 : Int32)) hC dX4_ofHit_117 (by decide) ?_
                  refine xk_goto (tgt := 122) hC dX4_ofHit_118 (by decide) ?_
                  refine xk_locals [] rfl ?_
                  exact t_X4_ofHit_122 hC hr ((1 : Int32)) (q21.2) hf
              · replace hf := (if_neg c20).symm.trans hf
                by_cases c24 : (x2) = (5 : Int32)
                · replace hf := (if_pos c24).symm.trans hf
                  refine xk_tableIn (tgt := 123) hC dX4_ofHit_38 (by rw [c24]; decide) (by rw [c24]; decide) (off := 85) (by rw [c24]; rfl) (by decide) ?_
                  refine xk_aload_n hC dX4_ofHit_123 1 rfl rfl ?_
                  refine xk_aload_n hC dX4_ofHit_124 0 rfl rfl ?_
                  obtain ⟨u26, h26, hf⟩ := xk_bi hf
                  obtain ⟨q25, h25, hf⟩ := xk_bi hf
                  refine xk_backi (xk_callV hC 1 xc_0 (c_X4_nearestCue h25) h26 xm_684 xm_686 xm_p29 xm_1 xm_687 ⟨rfl, xd_X4_nearestCue⟩ rfl ⟨Nat.le_of_ble_eq_true rfl, Nat.le_of_ble_eq_true rfl⟩ rfl (Nat.le_of_ble_eq_true rfl) dX4_ofHit_125 ⟨(Nat.le_of_ble_eq_true rfl), (Nat.le_of_ble_eq_true rfl)⟩) ?_
                  cases hf
                  refine xk_widen (k := 0) (n := 0) (Nat.le_of_ble_eq_true rfl) (Nat.le_of_ble_eq_true rfl) ?_
                  exact xk_iret hC hr rfl dX4_ofHit_128
                · replace hf := (if_neg c24).symm.trans hf
                  by_cases c27 : (x2) = (6 : Int32)
                  · replace hf := (if_pos c27).symm.trans hf
                    refine xk_tableIn (tgt := 129) hC dX4_ofHit_38 (by rw [c27]; decide) (by rw [c27]; decide) (off := 91) (by rw [c27]; rfl) (by decide) ?_
                    refine xk_aload_n hC dX4_ofHit_129 1 rfl rfl ?_
                    refine xk_aload_n hC dX4_ofHit_130 0 rfl rfl ?_
                    obtain ⟨u29, h29, hf⟩ := xk_bi hf
                    obtain ⟨q28, h28, hf⟩ := xk_bi hf
                    refine xk_backi (xk_callV hC 1 xc_0 (c_X4_nearestBeat h28) h29 xm_700 xm_702 xm_p30 xm_1 xm_703 ⟨rfl, xd_X4_nearestBeat⟩ rfl ⟨Nat.le_of_ble_eq_true rfl, Nat.le_of_ble_eq_true rfl⟩ rfl (Nat.le_of_ble_eq_true rfl) dX4_ofHit_131 ⟨(Nat.le_of_ble_eq_true rfl), (Nat.le_of_ble_eq_true rfl)⟩) ?_
                    cases hf
                    refine xk_widen (k := 0) (n := 0) (Nat.le_of_ble_eq_true rfl) (Nat.le_of_ble_eq_true rfl) ?_
                    exact xk_iret hC hr rfl dX4_ofHit_134
                  · replace hf := (if_neg c27).symm.trans hf
                    refine xk_tableOut (tgt := 135) hC dX4_ofHit_38 (xk_swo (x2) 0 6 (fun v h1 h2 hv => by
                        have hh : v = 0 ∨ v = 1 ∨ v = 2 ∨ v = 3 ∨ v = 4 ∨ v = 5 ∨ v = 6 := by omega
                        rcases hh with rfl | rfl | rfl | rfl | rfl | rfl | rfl
                        · exact c10 (Int32.toInt_inj.mp (hv.trans (by decide)))
                        · exact c12 (Int32.toInt_inj.mp (hv.trans (by decide)))
                        · exact c14 (Int32.toInt_inj.mp (hv.trans (by decide)))
                        · exact c17 (Int32.toInt_inj.mp (hv.trans (by decide)))
                        · exact c20 (Int32.toInt_inj.mp (hv.trans (by decide)))
                        · exact c24 (Int32.toInt_inj.mp (hv.trans (by decide)))
                        · exact c27 (Int32.toInt_inj.mp (hv.trans (by decide)))
                        )) (by decide) ?_
                    cases hf
    · replace hf := (if_neg c5).symm.trans hf
      refine xk_locals [] rfl ?_
      exact t_X4_ofHit_15 hC hr (q3.2) hf
theorem xd_X4_ofHit : xy_X4_ofHit.cls ≠ "java/lang/invoke/MethodHandle" ∧ xy_X4_ofHit.cls ≠ "java/lang/invoke/VarHandle" ∧ (parseMethodDescriptor xy_X4_ofHit.desc).map (fun d => d.parameters.length) = some 2 := ⟨by decide +kernel, by decide +kernel, by decide +kernel⟩
theorem c_X4_ofHit {l : Launch} {E : xEv} {x0 : Option Nat} {x1 : Int32} {x2 : Int32} {w : xWd} {q : (Int32 × xWd)} (hf : f_X4_ofHit x0 x1 x2 w = some q) : xk_M l xy_X4_ofHit prog_1_method_20_code 4 (some .int) 5 115 0 0 E [va_rf (x0), .int (x1), .int (x2)] w (xk_Qi E q) := by
  refine xk_enter (by decide +kernel) (by simp [lg_sl, xk_cat1, xk_cati, xk_catl, xk_catd]) ?_
  intro p e s m args below meth c hC hr hin ha
  rw [show lv_args 0 [va_rf (x0), .int (x1), .int (x2)] = [(0, va_rf (x0)), (1, .int (x1)), (2, .int (x2))] by simp [lv_args, xk_cat1, xk_cati, xk_catl, xk_catd]]
  exact t_X4_ofHit_0 hC hr x0 x1 x2 w hf
def f_X4_runsOver_16 (s0 : Int32) (w : xWd) : Option (Int32 × xWd) := (xk_zb (s0)).bind (fun u1 => some (s0, w))
set_option maxHeartbeats 4000000 in
set_option maxRecDepth 100000 in
theorem t_X4_runsOver_16 {p : Program} {l : Launch} {e : Env} {s : State} {m : MethodId} {args : Array Value} {below : List Frame} {meth : Method} {c : Code} {E : xEv} (hC : xk_C p s m args meth c E prog_1_method_35_code "Clickbook" 2) (hr : meth.sig.returnType = (some .boolean)) {q : (Int32 × xWd)} (s0 : Int32) (w : xWd) (hf : f_X4_runsOver_16 s0 w = some q) : xk_X p l e { frames := 1, cells := 0, slots := 0, locals := 20 } s m args below meth c (MQ below (xk_Qi E q) args s 0 0 (xk_A E.2.2.1)) E 2 0 0 16 [] [.int (s0)] w := by
  obtain ⟨u1, h1, hf⟩ := xk_bi hf
  cases hf
  refine xk_widen (k := 0) (n := 0) (Nat.le_of_ble_eq_true rfl) (Nat.le_of_ble_eq_true rfl) ?_
  exact xk_iret hC hr (xk_zb_e h1) dX4_runsOver_16
def f_X4_runsOver (x0 : Option Nat) (x1 : Option Nat) (w : xWd) : Option (Int32 × xWd) := (xk_is w (x1) 1).bind (fun u2 => (f_X0_end (x1)  w).bind (fun q1 => (xk_gI q1.2 (x0) 0 5).bind (fun v3 => if (q1.1) ≤ (v3) then f_X4_runsOver_16 ((0 : Int32)) (q1.2) else f_X4_runsOver_16 ((1 : Int32)) (q1.2))))
set_option maxHeartbeats 4000000 in
set_option maxRecDepth 100000 in
theorem t_X4_runsOver_0 {p : Program} {l : Launch} {e : Env} {s : State} {m : MethodId} {args : Array Value} {below : List Frame} {meth : Method} {c : Code} {E : xEv} (hC : xk_C p s m args meth c E prog_1_method_35_code "Clickbook" 2) (hr : meth.sig.returnType = (some .boolean)) {q : (Int32 × xWd)} (x0 : Option Nat) (x1 : Option Nat) (w : xWd) (hf : f_X4_runsOver x0 x1 w = some q) : xk_X p l e { frames := 1, cells := 0, slots := 0, locals := 20 } s m args below meth c (MQ below (xk_Qi E q) args s 0 0 (xk_A E.2.2.1)) E 2 0 0 0 [(0, va_rf (x0)), (1, va_rf (x1))] [] w := by
  refine xk_aload_n hC dX4_runsOver_0 1 rfl rfl ?_
  obtain ⟨u2, h2, hf⟩ := xk_bi hf
  obtain ⟨q1, h1, hf⟩ := xk_bi hf
  refine xk_backi (xk_callV hC 0 xc_1 (c_X0_end h1) h2 xm_423 xm_424 xm_425 xm_17 xm_426 ⟨rfl, xd_X0_end⟩ rfl ⟨Nat.le_of_ble_eq_true rfl, Nat.le_of_ble_eq_true rfl⟩ rfl (Nat.le_of_ble_eq_true rfl) dX4_runsOver_1 ⟨(Nat.le_of_ble_eq_true rfl), (Nat.le_of_ble_eq_true rfl)⟩) ?_
  refine xk_aload_n hC dX4_runsOver_4 0 rfl rfl ?_
  obtain ⟨v3, h3, hf⟩ := xk_bi hf
  refine xk_getI hC xi_0 xc_0 5 (by decide) xm_79 (Or.inl rfl) dX4_runsOver_5 h3 ?_
  refine xk_icmp_le (tgt := 15) hC dX4_runsOver_8 (by decide) (fun c4 => ?_) (fun c4 => ?_)
  · replace hf := (if_pos c4).symm.trans hf
    refine xk_iconst (v := (0 : Int32)) hC dX4_runsOver_15 (by decide) ?_
    refine xk_locals [] rfl ?_
    exact t_X4_runsOver_16 hC hr ((0 : Int32)) (q1.2) hf
  · replace hf := (if_neg c4).symm.trans hf
    refine xk_iconst (v := (1 : Int32)) hC dX4_runsOver_11 (by decide) ?_
    refine xk_goto (tgt := 16) hC dX4_runsOver_12 (by decide) ?_
    refine xk_locals [] rfl ?_
    exact t_X4_runsOver_16 hC hr ((1 : Int32)) (q1.2) hf
theorem xd_X4_runsOver : xy_X4_runsOver.cls ≠ "java/lang/invoke/MethodHandle" ∧ xy_X4_runsOver.cls ≠ "java/lang/invoke/VarHandle" ∧ (parseMethodDescriptor xy_X4_runsOver.desc).map (fun d => d.parameters.length) = some 1 := ⟨by decide +kernel, by decide +kernel, by decide +kernel⟩
theorem c_X4_runsOver {l : Launch} {E : xEv} {x0 : Option Nat} {x1 : Option Nat} {w : xWd} {q : (Int32 × xWd)} (hf : f_X4_runsOver x0 x1 w = some q) : xk_M l xy_X4_runsOver prog_1_method_35_code 2 (some .boolean) 1 20 0 0 E [va_rf (x0), va_rf (x1)] w (xk_Qi E q) := by
  refine xk_enter (by decide +kernel) (by simp [lg_sl, xk_cat1, xk_cati, xk_catl, xk_catd]) ?_
  intro p e s m args below meth c hC hr hin ha
  rw [show lv_args 0 [va_rf (x0), va_rf (x1)] = [(0, va_rf (x0)), (1, va_rf (x1))] by simp [lv_args, xk_cat1, xk_cati, xk_catl, xk_catd]]
  exact t_X4_runsOver_0 hC hr x0 x1 w hf
def f_X4_spoils_39 (s0 : Int32) (w : xWd) : Option (Int32 × xWd) := (xk_zb (s0)).bind (fun u1 => some (s0, w))
set_option maxHeartbeats 4000000 in
set_option maxRecDepth 100000 in
theorem t_X4_spoils_39 {p : Program} {l : Launch} {e : Env} {s : State} {m : MethodId} {args : Array Value} {below : List Frame} {meth : Method} {c : Code} {E : xEv} (hC : xk_C p s m args meth c E prog_1_method_37_code "Clickbook" 2) (hr : meth.sig.returnType = (some .boolean)) {q : (Int32 × xWd)} (s0 : Int32) (w : xWd) (hf : f_X4_spoils_39 s0 w = some q) : xk_X p l e { frames := 0, cells := 0, slots := 0, locals := 0 } s m args below meth c (MQ below (xk_Qi E q) args s 0 0 (xk_A E.2.2.1)) E 2 0 0 39 [] [.int (s0)] w := by
  obtain ⟨u1, h1, hf⟩ := xk_bi hf
  cases hf
  refine xk_widen (k := 0) (n := 0) (Nat.le_of_ble_eq_true rfl) (Nat.le_of_ble_eq_true rfl) ?_
  exact xk_iret hC hr (xk_zb_e h1) dX4_spoils_39
def f_X4_spoils_38 (w : xWd) : Option (Int32 × xWd) := f_X4_spoils_39 ((0 : Int32)) w
set_option maxHeartbeats 4000000 in
set_option maxRecDepth 100000 in
theorem t_X4_spoils_38 {p : Program} {l : Launch} {e : Env} {s : State} {m : MethodId} {args : Array Value} {below : List Frame} {meth : Method} {c : Code} {E : xEv} (hC : xk_C p s m args meth c E prog_1_method_37_code "Clickbook" 2) (hr : meth.sig.returnType = (some .boolean)) {q : (Int32 × xWd)} (w : xWd) (hf : f_X4_spoils_38 w = some q) : xk_X p l e { frames := 0, cells := 0, slots := 0, locals := 0 } s m args below meth c (MQ below (xk_Qi E q) args s 0 0 (xk_A E.2.2.1)) E 2 0 0 38 [] [] w := by
  refine xk_iconst (v := (0 : Int32)) hC dX4_spoils_38 (by decide) ?_
  exact t_X4_spoils_39 hC hr ((0 : Int32)) w hf
def f_X4_spoils (x0 : Option Nat) (x1 : Option Nat) (w : xWd) : Option (Int32 × xWd) := (xk_gI w (x1) 1 2).bind (fun v1 => if (v1) < ((0 : Int32)) then f_X4_spoils_38 w else (xk_gI w (x1) 1 2).bind (fun v3 => (xk_gI w (x0) 0 2).bind (fun v4 => if (v4) ≤ (v3) then f_X4_spoils_38 w else (xk_gI w (x1) 1 1).bind (fun v6 => (xk_gR w (x0) 0 1).bind (fun v7 => (xk_gI w (x1) 1 2).bind (fun v8 => (xk_lI 0 w (v7) (v8)).bind (fun v9 => if (v9) ≤ (v6) then f_X4_spoils_38 w else f_X4_spoils_39 ((1 : Int32)) w)))))))
set_option maxHeartbeats 4000000 in
set_option maxRecDepth 100000 in
theorem t_X4_spoils_0 {p : Program} {l : Launch} {e : Env} {s : State} {m : MethodId} {args : Array Value} {below : List Frame} {meth : Method} {c : Code} {E : xEv} (hC : xk_C p s m args meth c E prog_1_method_37_code "Clickbook" 2) (hr : meth.sig.returnType = (some .boolean)) {q : (Int32 × xWd)} (x0 : Option Nat) (x1 : Option Nat) (w : xWd) (hf : f_X4_spoils x0 x1 w = some q) : xk_X p l e { frames := 0, cells := 0, slots := 0, locals := 0 } s m args below meth c (MQ below (xk_Qi E q) args s 0 0 (xk_A E.2.2.1)) E 2 0 0 0 [(0, va_rf (x0)), (1, va_rf (x1))] [] w := by
  refine xk_aload_n hC dX4_spoils_0 1 rfl rfl ?_
  obtain ⟨v1, h1, hf⟩ := xk_bi hf
  refine xk_getI hC xi_1 xc_1 2 (by decide) xm_322 (Or.inl rfl) dX4_spoils_1 h1 ?_
  refine xk_if_lt (tgt := 38) hC dX4_spoils_4 (by decide) (fun c2 => ?_) (fun c2 => ?_)
  · replace hf := (if_pos c2).symm.trans hf
    refine xk_locals [] rfl ?_
    exact t_X4_spoils_38 hC hr w hf
  · replace hf := (if_neg c2).symm.trans hf
    refine xk_aload_n hC dX4_spoils_7 1 rfl rfl ?_
    obtain ⟨v3, h3, hf⟩ := xk_bi hf
    refine xk_getI hC xi_1 xc_1 2 (by decide) xm_322 (Or.inl rfl) dX4_spoils_8 h3 ?_
    refine xk_aload_n hC dX4_spoils_11 0 rfl rfl ?_
    obtain ⟨v4, h4, hf⟩ := xk_bi hf
    refine xk_getI hC xi_0 xc_0 2 (by decide) xm_76 (Or.inl rfl) dX4_spoils_12 h4 ?_
    refine xk_icmp_ge (tgt := 38) hC dX4_spoils_15 (by decide) (fun c5 => ?_) (fun c5 => ?_)
    · replace hf := (if_pos c5).symm.trans hf
      refine xk_locals [] rfl ?_
      exact t_X4_spoils_38 hC hr w hf
    · replace hf := (if_neg c5).symm.trans hf
      refine xk_aload_n hC dX4_spoils_18 1 rfl rfl ?_
      obtain ⟨v6, h6, hf⟩ := xk_bi hf
      refine xk_getI hC xi_1 xc_1 1 (by decide) xm_320 (Or.inl rfl) dX4_spoils_19 h6 ?_
      refine xk_aload_n hC dX4_spoils_22 0 rfl rfl ?_
      obtain ⟨v7, h7, hf⟩ := xk_bi hf
      refine xk_getR hC xi_0 xc_0 1 (by decide) xm_75 (Or.inl rfl) dX4_spoils_23 h7 ?_
      refine xk_aload_n hC dX4_spoils_26 1 rfl rfl ?_
      obtain ⟨v8, h8, hf⟩ := xk_bi hf
      refine xk_getI hC xi_1 xc_1 2 (by decide) xm_322 (Or.inl rfl) dX4_spoils_27 h8 ?_
      obtain ⟨v9, h9, hf⟩ := xk_bi hf
      refine xk_iald hC rfl dX4_spoils_30 h9 ?_
      refine xk_icmp_ge (tgt := 38) hC dX4_spoils_31 (by decide) (fun c10 => ?_) (fun c10 => ?_)
      · replace hf := (if_pos c10).symm.trans hf
        refine xk_locals [] rfl ?_
        exact t_X4_spoils_38 hC hr w hf
      · replace hf := (if_neg c10).symm.trans hf
        refine xk_iconst (v := (1 : Int32)) hC dX4_spoils_34 (by decide) ?_
        refine xk_goto (tgt := 39) hC dX4_spoils_35 (by decide) ?_
        refine xk_locals [] rfl ?_
        exact t_X4_spoils_39 hC hr ((1 : Int32)) w hf
theorem xd_X4_spoils : xy_X4_spoils.cls ≠ "java/lang/invoke/MethodHandle" ∧ xy_X4_spoils.cls ≠ "java/lang/invoke/VarHandle" ∧ (parseMethodDescriptor xy_X4_spoils.desc).map (fun d => d.parameters.length) = some 1 := ⟨by decide +kernel, by decide +kernel, by decide +kernel⟩
theorem c_X4_spoils {l : Launch} {E : xEv} {x0 : Option Nat} {x1 : Option Nat} {w : xWd} {q : (Int32 × xWd)} (hf : f_X4_spoils x0 x1 w = some q) : xk_M l xy_X4_spoils prog_1_method_37_code 2 (some .boolean) 0 0 0 0 E [va_rf (x0), va_rf (x1)] w (xk_Qi E q) := by
  refine xk_enter (by decide +kernel) (by simp [lg_sl, xk_cat1, xk_cati, xk_catl, xk_catd]) ?_
  intro p e s m args below meth c hC hr hin ha
  rw [show lv_args 0 [va_rf (x0), va_rf (x1)] = [(0, va_rf (x0)), (1, va_rf (x1))] by simp [lv_args, xk_cat1, xk_cati, xk_catl, xk_catd]]
  exact t_X4_spoils_0 hC hr x0 x1 w hf
def f_X4_countValid_48 (k4 : Option Nat → Option Nat → Int32 → Int32 → xWd → Option (Int32 × xWd)) (x0 : Option Nat) (x1 : Option Nat) (x2 : Int32) (x3 : Int32) (w : xWd) : Option (Int32 × xWd) := k4 x0 x1 x2 (x3 + (1 : Int32)) w
set_option maxHeartbeats 4000000 in
set_option maxRecDepth 100000 in
theorem t_X4_countValid_48 {p : Program} {l : Launch} {e : Env} {s : State} {m : MethodId} {args : Array Value} {below : List Frame} {meth : Method} {c : Code} {E : xEv} (hC : xk_C p s m args meth c E prog_1_method_41_code "Clickbook" 5) (hr : meth.sig.returnType = (some .int)) {q : (Int32 × xWd)} {k4 : Option Nat → Option Nat → Int32 → Int32 → xWd → Option (Int32 × xWd)} (hk4 : ∀ (x0 : Option Nat) (x1 : Option Nat) (x2 : Int32) (x3 : Int32) (w : xWd), k4 x0 x1 x2 x3 w = some q → xk_X p l e { frames := 3, cells := 0, slots := 0, locals := 64 } s m args below meth c (MQ below (xk_Qi E q) args s 0 0 (xk_A E.2.2.1)) E 5 0 0 4 [(0, va_rf (x0)), (1, va_rf (x1)), (2, .int (x2)), (3, .int (x3))] [] w) (x0 : Option Nat) (x1 : Option Nat) (x2 : Int32) (x3 : Int32) (w : xWd) (hf : f_X4_countValid_48 k4 x0 x1 x2 x3 w = some q) : xk_X p l e { frames := 3, cells := 0, slots := 0, locals := 64 } s m args below meth c (MQ below (xk_Qi E q) args s 0 0 (xk_A E.2.2.1)) E 5 0 0 48 [(0, va_rf (x0)), (1, va_rf (x1)), (2, .int (x2)), (3, .int (x3))] [] w := by
  refine xk_iinc (v := x3 + (1 : Int32)) (lv' := [(3, .int (x3 + (1 : Int32))), (0, va_rf (x0)), (1, va_rf (x1)), (2, .int (x2))]) hC dX4_countValid_48 3 rfl rfl (by decide) rfl ?_
  refine xk_goto (tgt := 4) hC dX4_countValid_51 (by decide) ?_
  refine xk_locals [1, 2, 3, 0] rfl ?_
  exact hk4 x0 x1 x2 (x3 + (1 : Int32)) w hf
def f_X4_countValid_4 : Nat → Option Nat → Option Nat → Int32 → Int32 → xWd → Option (Int32 × xWd)
  | 0, _, _, _, _, _ => none
  | n + 1, x0, x1, x2, x3, w => (xk_gR w (x0) 0 4).bind (fun v1 => (xk_is w (v1) 5).bind (fun u3 => (f_Jx4a65c_size_8abf5 (v1)  w).bind (fun q2 => if (q2.1) ≤ (x3) then some (x2, q2.2) else (xk_gR q2.2 (x0) 0 4).bind (fun v5 => (xk_is q2.2 (v5) 5).bind (fun u7 => (f_Jx4a65c_get_915e3 (v5) (x3) q2.2).bind (fun q6 => (xk_cc q6.2 (q6.1) 4).bind (fun u8 => (xk_gR q6.2 (q6.1) 4 1).bind (fun v9 => if (v9) = (x1) then (xk_is q6.2 (q6.1) 4).bind (fun u12 => (f_X3_isValid (q6.1)  q6.2).bind (fun q11 => if (q11.1) = ((0 : Int32)) then f_X4_countValid_48 (f_X4_countValid_4 n) x0 x1 x2 x3 (q11.2) else f_X4_countValid_48 (f_X4_countValid_4 n) x0 x1 (x2 + (1 : Int32)) x3 (q11.2))) else f_X4_countValid_48 (f_X4_countValid_4 n) x0 x1 x2 x3 (q6.2)))))))))
set_option maxHeartbeats 4000000 in
set_option maxRecDepth 100000 in
theorem t_X4_countValid_4 {p : Program} {l : Launch} {e : Env} {s : State} {m : MethodId} {args : Array Value} {below : List Frame} {meth : Method} {c : Code} {E : xEv} (hC : xk_C p s m args meth c E prog_1_method_41_code "Clickbook" 5) (hr : meth.sig.returnType = (some .int)) {q : (Int32 × xWd)} : ∀ (n : Nat) (x0 : Option Nat) (x1 : Option Nat) (x2 : Int32) (x3 : Int32) (w : xWd), f_X4_countValid_4 n x0 x1 x2 x3 w = some q → xk_X p l e { frames := 3, cells := 0, slots := 0, locals := 64 } s m args below meth c (MQ below (xk_Qi E q) args s 0 0 (xk_A E.2.2.1)) E 5 0 0 4 [(0, va_rf (x0)), (1, va_rf (x1)), (2, .int (x2)), (3, .int (x3))] [] w := by
  intro n
  induction n with
  | zero => intro x0 x1 x2 x3 w hf; have hf : none = some q := hf; cases hf
  | succ n ih =>
    intro x0 x1 x2 x3 w hf
    refine xk_iload_n hC dX4_countValid_4 3 rfl rfl ?_
    refine xk_aload_n hC dX4_countValid_5 0 rfl rfl ?_
    obtain ⟨v1, h1, hf⟩ := xk_bi hf
    refine xk_getR hC xi_0 xc_0 4 (by decide) xm_78 (Or.inl rfl) dX4_countValid_6 h1 ?_
    obtain ⟨u3, h3, hf⟩ := xk_bi hf
    obtain ⟨q2, h2, hf⟩ := xk_bi hf
    refine xk_backi (xk_callV hC 0 xc_5 (c_Jx4a65c_size_8abf5 h2) h3 xm_187 xm_188 xm_189 xm_4 xm_190 ⟨rfl, xd_Jx4a65c_size_8abf5⟩ rfl ⟨Nat.le_of_ble_eq_true rfl, Nat.le_of_ble_eq_true rfl⟩ rfl (Nat.le_of_ble_eq_true rfl) dX4_countValid_9 ⟨(Nat.le_of_ble_eq_true rfl), (Nat.le_of_ble_eq_true rfl)⟩) ?_
    refine xk_icmp_ge (tgt := 54) hC dX4_countValid_12 (by decide) (fun c4 => ?_) (fun c4 => ?_)
    · replace hf := (if_pos c4).symm.trans hf
      refine xk_iload_n hC dX4_countValid_54 2 rfl rfl ?_
      cases hf
      refine xk_widen (k := 0) (n := 0) (Nat.le_of_ble_eq_true rfl) (Nat.le_of_ble_eq_true rfl) ?_
      exact xk_iret hC hr rfl dX4_countValid_55
    · replace hf := (if_neg c4).symm.trans hf
      refine xk_aload_n hC dX4_countValid_15 0 rfl rfl ?_
      obtain ⟨v5, h5, hf⟩ := xk_bi hf
      refine xk_getR hC xi_0 xc_0 4 (by decide) xm_78 (Or.inl rfl) dX4_countValid_16 h5 ?_
      refine xk_iload_n hC dX4_countValid_19 3 rfl rfl ?_
      obtain ⟨u7, h7, hf⟩ := xk_bi hf
      obtain ⟨q6, h6, hf⟩ := xk_bi hf
      refine xk_backq (xk_callV hC 1 xc_5 (c_Jx4a65c_get_915e3 h6) h7 xm_381 xm_382 xm_383 xm_4 xm_384 ⟨rfl, xd_Jx4a65c_get_915e3⟩ rfl ⟨Nat.le_of_ble_eq_true rfl, Nat.le_of_ble_eq_true rfl⟩ rfl (Nat.le_of_ble_eq_true rfl) dX4_countValid_20 ⟨(Nat.le_of_ble_eq_true rfl), (Nat.le_of_ble_eq_true rfl)⟩) ?_
      obtain ⟨u8, h8, hf⟩ := xk_bi hf
      refine xk_cast hC xc_4 xm_469 dX4_countValid_23 h8 ?_
      refine xk_astore (i := 4) (lv' := [(4, va_rf (q6.1)), (0, va_rf (x0)), (1, va_rf (x1)), (2, .int (x2)), (3, .int (x3))]) hC dX4_countValid_26 (by decide) rfl ?_
      refine xk_aload hC dX4_countValid_28 0 rfl ?_
      obtain ⟨v9, h9, hf⟩ := xk_bi hf
      refine xk_getR hC xi_4 xc_4 1 (by decide) xm_479 (Or.inl rfl) dX4_countValid_30 h9 ?_
      refine xk_aload_n hC dX4_countValid_33 2 rfl rfl ?_
      refine xk_acmp_ne (tgt := 48) hC dX4_countValid_34 (by decide) (fun c10 => ?_) (fun c10 => ?_)
      · replace hf := (if_neg c10).symm.trans hf
        refine xk_locals [1, 2, 3, 4] rfl ?_
        exact t_X4_countValid_48 hC hr (fun x0 x1 x2 x3 w hf => ih x0 x1 x2 x3 w hf) x0 x1 x2 x3 (q6.2) hf
      · replace hf := (if_pos c10).symm.trans hf
        refine xk_aload hC dX4_countValid_37 0 rfl ?_
        obtain ⟨u12, h12, hf⟩ := xk_bi hf
        obtain ⟨q11, h11, hf⟩ := xk_bi hf
        refine xk_backi (xk_callV hC 0 xc_4 (c_X3_isValid h11) h12 xm_519 xm_520 xm_521 xm_20 xm_522 ⟨rfl, xd_X3_isValid⟩ rfl ⟨Nat.le_of_ble_eq_true rfl, Nat.le_of_ble_eq_true rfl⟩ rfl (Nat.le_of_ble_eq_true rfl) dX4_countValid_39 ⟨(Nat.le_of_ble_eq_true rfl), (Nat.le_of_ble_eq_true rfl)⟩) ?_
        refine xk_if_eq (tgt := 48) hC dX4_countValid_42 (by decide) (fun c13 => ?_) (fun c13 => ?_)
        · replace hf := (if_pos c13).symm.trans hf
          refine xk_locals [1, 2, 3, 4] rfl ?_
          exact t_X4_countValid_48 hC hr (fun x0 x1 x2 x3 w hf => ih x0 x1 x2 x3 w hf) x0 x1 x2 x3 (q11.2) hf
        · replace hf := (if_neg c13).symm.trans hf
          refine xk_iinc (v := x2 + (1 : Int32)) (lv' := [(2, .int (x2 + (1 : Int32))), (4, va_rf (q6.1)), (0, va_rf (x0)), (1, va_rf (x1)), (3, .int (x3))]) hC dX4_countValid_45 3 rfl rfl (by decide) (by simp [xk_cat1]) ?_
          refine xk_locals [2, 3, 0, 4] rfl ?_
          exact t_X4_countValid_48 hC hr (fun x0 x1 x2 x3 w hf => ih x0 x1 x2 x3 w hf) x0 x1 (x2 + (1 : Int32)) x3 (q11.2) hf
def f_X4_countValid (x0 : Option Nat) (x1 : Option Nat) (w : xWd) : Option (Int32 × xWd) := f_X4_countValid_4 4096 x0 x1 ((0 : Int32)) ((0 : Int32)) w
set_option maxHeartbeats 4000000 in
set_option maxRecDepth 100000 in
theorem t_X4_countValid_0 {p : Program} {l : Launch} {e : Env} {s : State} {m : MethodId} {args : Array Value} {below : List Frame} {meth : Method} {c : Code} {E : xEv} (hC : xk_C p s m args meth c E prog_1_method_41_code "Clickbook" 5) (hr : meth.sig.returnType = (some .int)) {q : (Int32 × xWd)} (x0 : Option Nat) (x1 : Option Nat) (w : xWd) (hf : f_X4_countValid x0 x1 w = some q) : xk_X p l e { frames := 3, cells := 0, slots := 0, locals := 64 } s m args below meth c (MQ below (xk_Qi E q) args s 0 0 (xk_A E.2.2.1)) E 5 0 0 0 [(0, va_rf (x0)), (1, va_rf (x1))] [] w := by
  refine xk_iconst (v := (0 : Int32)) hC dX4_countValid_0 (by decide) ?_
  refine xk_istore_n (i := 2) (lv' := [(2, .int ((0 : Int32))), (0, va_rf (x0)), (1, va_rf (x1))]) hC dX4_countValid_1 rfl (by decide) (by simp [xk_cat1]) ?_
  refine xk_iconst (v := (0 : Int32)) hC dX4_countValid_2 (by decide) ?_
  refine xk_istore_n (i := 3) (lv' := [(3, .int ((0 : Int32))), (2, .int ((0 : Int32))), (0, va_rf (x0)), (1, va_rf (x1))]) hC dX4_countValid_3 rfl (by decide) rfl ?_
  refine xk_locals [2, 3, 1, 0] rfl ?_
  exact t_X4_countValid_4 hC hr 4096 x0 x1 ((0 : Int32)) ((0 : Int32)) w hf
theorem xd_X4_countValid : xy_X4_countValid.cls ≠ "java/lang/invoke/MethodHandle" ∧ xy_X4_countValid.cls ≠ "java/lang/invoke/VarHandle" ∧ (parseMethodDescriptor xy_X4_countValid.desc).map (fun d => d.parameters.length) = some 1 := ⟨by decide +kernel, by decide +kernel, by decide +kernel⟩
theorem c_X4_countValid {l : Launch} {E : xEv} {x0 : Option Nat} {x1 : Option Nat} {w : xWd} {q : (Int32 × xWd)} (hf : f_X4_countValid x0 x1 w = some q) : xk_M l xy_X4_countValid prog_1_method_41_code 5 (some .int) 3 64 0 0 E [va_rf (x0), va_rf (x1)] w (xk_Qi E q) := by
  refine xk_enter (by decide +kernel) (by simp [lg_sl, xk_cat1, xk_cati, xk_catl, xk_catd]) ?_
  intro p e s m args below meth c hC hr hin ha
  rw [show lv_args 0 [va_rf (x0), va_rf (x1)] = [(0, va_rf (x0)), (1, va_rf (x1))] by simp [lv_args, xk_cat1, xk_cati, xk_catl, xk_catd]]
  exact t_X4_countValid_0 hC hr x0 x1 w hf
def f_X4_secondsOf_37 (s0 : Int32) (w : xWd) : Option (Int32 × xWd) := some (s0, w)
set_option maxHeartbeats 4000000 in
set_option maxRecDepth 100000 in
theorem t_X4_secondsOf_37 {p : Program} {l : Launch} {e : Env} {s : State} {m : MethodId} {args : Array Value} {below : List Frame} {meth : Method} {c : Code} {E : xEv} (hC : xk_C p s m args meth c E prog_1_method_43_code "Clickbook" 3) (hr : meth.sig.returnType = (some .int)) {q : (Int32 × xWd)} (s0 : Int32) (w : xWd) (hf : f_X4_secondsOf_37 s0 w = some q) : xk_X p l e { frames := 4, cells := 0, slots := 0, locals := 88 } s m args below meth c (MQ below (xk_Qi E q) args s 0 0 (xk_A E.2.2.1)) E 3 0 0 37 [] [.int (s0)] w := by
  cases hf
  refine xk_widen (k := 0) (n := 0) (Nat.le_of_ble_eq_true rfl) (Nat.le_of_ble_eq_true rfl) ?_
  exact xk_iret hC hr rfl dX4_secondsOf_37
def f_X4_secondsOf_21 (x1 : Option Nat) (s0 : Int32) (w : xWd) : Option (Int32 × xWd) := if (s0) = ((0 : Int32)) then f_X4_secondsOf_37 ((0 : Int32)) w else (xk_gI w (x1) 1 11).bind (fun v2 => (xk_nz ((24 : Int32))).bind (fun u3 => f_X4_secondsOf_37 ((v2) / ((24 : Int32))) w))
set_option maxHeartbeats 4000000 in
set_option maxRecDepth 100000 in
theorem t_X4_secondsOf_21 {p : Program} {l : Launch} {e : Env} {s : State} {m : MethodId} {args : Array Value} {below : List Frame} {meth : Method} {c : Code} {E : xEv} (hC : xk_C p s m args meth c E prog_1_method_43_code "Clickbook" 3) (hr : meth.sig.returnType = (some .int)) {q : (Int32 × xWd)} (x1 : Option Nat) (s0 : Int32) (w : xWd) (hf : f_X4_secondsOf_21 x1 s0 w = some q) : xk_X p l e { frames := 4, cells := 0, slots := 0, locals := 88 } s m args below meth c (MQ below (xk_Qi E q) args s 0 0 (xk_A E.2.2.1)) E 3 0 0 21 [(1, va_rf (x1))] [.int (s0)] w := by
  refine xk_istore_n (i := 2) (lv' := [(2, .int (s0)), (1, va_rf (x1))]) hC dX4_secondsOf_21 rfl (by decide) (by simp [xk_cat1]) ?_
  refine xk_iload_n hC dX4_secondsOf_22 0 rfl rfl ?_
  refine xk_if_eq (tgt := 36) hC dX4_secondsOf_23 (by decide) (fun c1 => ?_) (fun c1 => ?_)
  · replace hf := (if_pos c1).symm.trans hf
    refine xk_iconst (v := (0 : Int32)) hC dX4_secondsOf_36 (by decide) ?_
    refine xk_locals [] rfl ?_
    exact t_X4_secondsOf_37 hC hr ((0 : Int32)) w hf
  · replace hf := (if_neg c1).symm.trans hf
    refine xk_aload_n hC dX4_secondsOf_26 1 rfl rfl ?_
    obtain ⟨v2, h2, hf⟩ := xk_bi hf
    refine xk_getI hC xi_1 xc_1 11 (by decide) xm_342 (Or.inl rfl) dX4_secondsOf_27 h2 ?_
    refine xk_bipush (v := (24 : Int32)) hC dX4_secondsOf_30 (by decide) ?_
    obtain ⟨u3, h3, hf⟩ := xk_bi hf
    refine xk_idiv hC dX4_secondsOf_32 (xk_nz_e h3) ?_
    refine xk_goto (tgt := 37) hC dX4_secondsOf_33 (by decide) ?_
    refine xk_locals [] rfl ?_
    exact t_X4_secondsOf_37 hC hr ((v2) / ((24 : Int32))) w hf
def f_X4_secondsOf_20 (x1 : Option Nat) (w : xWd) : Option (Int32 × xWd) := f_X4_secondsOf_21 x1 ((0 : Int32)) w
set_option maxHeartbeats 4000000 in
set_option maxRecDepth 100000 in
theorem t_X4_secondsOf_20 {p : Program} {l : Launch} {e : Env} {s : State} {m : MethodId} {args : Array Value} {below : List Frame} {meth : Method} {c : Code} {E : xEv} (hC : xk_C p s m args meth c E prog_1_method_43_code "Clickbook" 3) (hr : meth.sig.returnType = (some .int)) {q : (Int32 × xWd)} (x1 : Option Nat) (w : xWd) (hf : f_X4_secondsOf_20 x1 w = some q) : xk_X p l e { frames := 4, cells := 0, slots := 0, locals := 88 } s m args below meth c (MQ below (xk_Qi E q) args s 0 0 (xk_A E.2.2.1)) E 3 0 0 20 [(1, va_rf (x1))] [] w := by
  refine xk_iconst (v := (0 : Int32)) hC dX4_secondsOf_20 (by decide) ?_
  exact t_X4_secondsOf_21 hC hr x1 ((0 : Int32)) w hf
def f_X4_secondsOf (x0 : Option Nat) (x1 : Option Nat) (w : xWd) : Option (Int32 × xWd) := (xk_is w (x0) 0).bind (fun u2 => (f_X4_runsOver (x0) (x1) w).bind (fun q1 => if (q1.1) = ((0 : Int32)) then (xk_is q1.2 (x0) 0).bind (fun u5 => (f_X4_countValid (x0) (x1) q1.2).bind (fun q4 => if (q4.1) ≤ ((0 : Int32)) then f_X4_secondsOf_20 x1 (q4.2) else f_X4_secondsOf_21 x1 ((1 : Int32)) (q4.2))) else f_X4_secondsOf_20 x1 (q1.2)))
set_option maxHeartbeats 4000000 in
set_option maxRecDepth 100000 in
theorem t_X4_secondsOf_0 {p : Program} {l : Launch} {e : Env} {s : State} {m : MethodId} {args : Array Value} {below : List Frame} {meth : Method} {c : Code} {E : xEv} (hC : xk_C p s m args meth c E prog_1_method_43_code "Clickbook" 3) (hr : meth.sig.returnType = (some .int)) {q : (Int32 × xWd)} (x0 : Option Nat) (x1 : Option Nat) (w : xWd) (hf : f_X4_secondsOf x0 x1 w = some q) : xk_X p l e { frames := 4, cells := 0, slots := 0, locals := 88 } s m args below meth c (MQ below (xk_Qi E q) args s 0 0 (xk_A E.2.2.1)) E 3 0 0 0 [(0, va_rf (x0)), (1, va_rf (x1))] [] w := by
  refine xk_aload_n hC dX4_secondsOf_0 0 rfl rfl ?_
  refine xk_aload_n hC dX4_secondsOf_1 1 rfl rfl ?_
  obtain ⟨u2, h2, hf⟩ := xk_bi hf
  obtain ⟨q1, h1, hf⟩ := xk_bi hf
  refine xk_backi (xk_callV hC 1 xc_0 (c_X4_runsOver h1) h2 xm_507 xm_509 xm_p8 xm_1 xm_510 ⟨rfl, xd_X4_runsOver⟩ rfl ⟨Nat.le_of_ble_eq_true rfl, Nat.le_of_ble_eq_true rfl⟩ rfl (Nat.le_of_ble_eq_true rfl) dX4_secondsOf_2 ⟨(Nat.le_of_ble_eq_true rfl), (Nat.le_of_ble_eq_true rfl)⟩) ?_
  refine xk_if_ne (tgt := 20) hC dX4_secondsOf_5 (by decide) (fun c3 => ?_) (fun c3 => ?_)
  · replace hf := (if_neg c3).symm.trans hf
    refine xk_locals [1] rfl ?_
    exact t_X4_secondsOf_20 hC hr x1 (q1.2) hf
  · replace hf := (if_pos c3).symm.trans hf
    refine xk_aload_n hC dX4_secondsOf_8 0 rfl rfl ?_
    refine xk_aload_n hC dX4_secondsOf_9 1 rfl rfl ?_
    obtain ⟨u5, h5, hf⟩ := xk_bi hf
    obtain ⟨q4, h4, hf⟩ := xk_bi hf
    refine xk_backi (xk_callV hC 1 xc_0 (c_X4_countValid h4) h5 xm_515 xm_517 xm_p10 xm_1 xm_518 ⟨rfl, xd_X4_countValid⟩ rfl ⟨Nat.le_of_ble_eq_true rfl, Nat.le_of_ble_eq_true rfl⟩ rfl (Nat.le_of_ble_eq_true rfl) dX4_secondsOf_10 ⟨(Nat.le_of_ble_eq_true rfl), (Nat.le_of_ble_eq_true rfl)⟩) ?_
    refine xk_if_le (tgt := 20) hC dX4_secondsOf_13 (by decide) (fun c6 => ?_) (fun c6 => ?_)
    · replace hf := (if_pos c6).symm.trans hf
      refine xk_locals [1] rfl ?_
      exact t_X4_secondsOf_20 hC hr x1 (q4.2) hf
    · replace hf := (if_neg c6).symm.trans hf
      refine xk_iconst (v := (1 : Int32)) hC dX4_secondsOf_16 (by decide) ?_
      refine xk_goto (tgt := 21) hC dX4_secondsOf_17 (by decide) ?_
      refine xk_locals [1] rfl ?_
      exact t_X4_secondsOf_21 hC hr x1 ((1 : Int32)) (q4.2) hf
theorem xd_X4_secondsOf : xy_X4_secondsOf.cls ≠ "java/lang/invoke/MethodHandle" ∧ xy_X4_secondsOf.cls ≠ "java/lang/invoke/VarHandle" ∧ (parseMethodDescriptor xy_X4_secondsOf.desc).map (fun d => d.parameters.length) = some 1 := ⟨by decide +kernel, by decide +kernel, by decide +kernel⟩
theorem c_X4_secondsOf {l : Launch} {E : xEv} {x0 : Option Nat} {x1 : Option Nat} {w : xWd} {q : (Int32 × xWd)} (hf : f_X4_secondsOf x0 x1 w = some q) : xk_M l xy_X4_secondsOf prog_1_method_43_code 3 (some .int) 4 88 0 0 E [va_rf (x0), va_rf (x1)] w (xk_Qi E q) := by
  refine xk_enter (by decide +kernel) (by simp [lg_sl, xk_cat1, xk_cati, xk_catl, xk_catd]) ?_
  intro p e s m args below meth c hC hr hin ha
  rw [show lv_args 0 [va_rf (x0), va_rf (x1)] = [(0, va_rf (x0)), (1, va_rf (x1))] by simp [lv_args, xk_cat1, xk_cati, xk_catl, xk_catd]]
  exact t_X4_secondsOf_0 hC hr x0 x1 w hf
def f_X4_ofCue_130 (s0 : Int32) (w : xWd) : Option (Int32 × xWd) := some (s0, w)
set_option maxHeartbeats 4000000 in
set_option maxRecDepth 100000 in
theorem t_X4_ofCue_130 {p : Program} {l : Launch} {e : Env} {s : State} {m : MethodId} {args : Array Value} {below : List Frame} {meth : Method} {c : Code} {E : xEv} (hC : xk_C p s m args meth c E prog_1_method_21_code "Clickbook" 4) (hr : meth.sig.returnType = (some .int)) {q : (Int32 × xWd)} (s0 : Int32) (w : xWd) (hf : f_X4_ofCue_130 s0 w = some q) : xk_X p l e { frames := 5, cells := 0, slots := 0, locals := 110 } s m args below meth c (MQ below (xk_Qi E q) args s 0 0 (xk_A E.2.2.1)) E 4 0 0 130 [] [.int (s0)] w := by
  cases hf
  refine xk_widen (k := 0) (n := 0) (Nat.le_of_ble_eq_true rfl) (Nat.le_of_ble_eq_true rfl) ?_
  exact xk_iret hC hr rfl dX4_ofCue_130
def f_X4_ofCue_144 (s0 : Int32) (w : xWd) : Option (Int32 × xWd) := some (s0, w)
set_option maxHeartbeats 4000000 in
set_option maxRecDepth 100000 in
theorem t_X4_ofCue_144 {p : Program} {l : Launch} {e : Env} {s : State} {m : MethodId} {args : Array Value} {below : List Frame} {meth : Method} {c : Code} {E : xEv} (hC : xk_C p s m args meth c E prog_1_method_21_code "Clickbook" 4) (hr : meth.sig.returnType = (some .int)) {q : (Int32 × xWd)} (s0 : Int32) (w : xWd) (hf : f_X4_ofCue_144 s0 w = some q) : xk_X p l e { frames := 5, cells := 0, slots := 0, locals := 110 } s m args below meth c (MQ below (xk_Qi E q) args s 0 0 (xk_A E.2.2.1)) E 4 0 0 144 [] [.int (s0)] w := by
  cases hf
  refine xk_widen (k := 0) (n := 0) (Nat.le_of_ble_eq_true rfl) (Nat.le_of_ble_eq_true rfl) ?_
  exact xk_iret hC hr rfl dX4_ofCue_144
def f_X4_ofCue (x0 : Option Nat) (x1 : Int32) (x2 : Int32) (w : xWd) : Option (Int32 × xWd) := (xk_is w (x0) 0).bind (fun u2 => (f_X4_cueNumbered (x0) (x1) w).bind (fun q1 => if (x2) = (0 : Int32) then (xk_gI q1.2 (q1.1) 1 1).bind (fun v4 => some (v4, q1.2)) else (if (x2) = (1 : Int32) then (xk_gI q1.2 (q1.1) 1 2).bind (fun v6 => some (v6, q1.2)) else (if (x2) = (2 : Int32) then (xk_gI q1.2 (q1.1) 1 3).bind (fun v8 => some (v8, q1.2)) else (if (x2) = (3 : Int32) then (xk_gI q1.2 (q1.1) 1 4).bind (fun v10 => some (v10, q1.2)) else (if (x2) = (4 : Int32) then (xk_gI q1.2 (q1.1) 1 5).bind (fun v12 => some (v12, q1.2)) else (if (x2) = (5 : Int32) then (xk_gI q1.2 (q1.1) 1 6).bind (fun v14 => some (v14, q1.2)) else (if (x2) = (6 : Int32) then (xk_gI q1.2 (q1.1) 1 7).bind (fun v16 => some (v16, q1.2)) else (if (x2) = (7 : Int32) then (xk_gI q1.2 (q1.1) 1 10).bind (fun v18 => some (v18, q1.2)) else (if (x2) = (8 : Int32) then (xk_is q1.2 (q1.1) 1).bind (fun u21 => (f_X0_end (q1.1)  q1.2).bind (fun q20 => some (q20.1, q20.2))) else (if (x2) = (9 : Int32) then (xk_is q1.2 (x0) 0).bind (fun u24 => (f_X4_runsOver (x0) (q1.1) q1.2).bind (fun q23 => if (q23.1) = ((0 : Int32)) then f_X4_ofCue_130 ((0 : Int32)) (q23.2) else f_X4_ofCue_130 ((1 : Int32)) (q23.2))) else (if (x2) = (10 : Int32) then (xk_is q1.2 (x0) 0).bind (fun u28 => (f_X4_spoils (x0) (q1.1) q1.2).bind (fun q27 => if (q27.1) = ((0 : Int32)) then f_X4_ofCue_144 ((0 : Int32)) (q27.2) else f_X4_ofCue_144 ((1 : Int32)) (q27.2))) else (if (x2) = (11 : Int32) then (xk_is q1.2 (x0) 0).bind (fun u32 => (f_X4_countValid (x0) (q1.1) q1.2).bind (fun q31 => some (q31.1, q31.2))) else (if (x2) = (12 : Int32) then (xk_is q1.2 (x0) 0).bind (fun u35 => (f_X4_secondsOf (x0) (q1.1) q1.2).bind (fun q34 => some (q34.1, q34.2))) else (none)))))))))))))))
set_option maxHeartbeats 4000000 in
set_option maxRecDepth 100000 in
theorem t_X4_ofCue_0 {p : Program} {l : Launch} {e : Env} {s : State} {m : MethodId} {args : Array Value} {below : List Frame} {meth : Method} {c : Code} {E : xEv} (hC : xk_C p s m args meth c E prog_1_method_21_code "Clickbook" 4) (hr : meth.sig.returnType = (some .int)) {q : (Int32 × xWd)} (x0 : Option Nat) (x1 : Int32) (x2 : Int32) (w : xWd) (hf : f_X4_ofCue x0 x1 x2 w = some q) : xk_X p l e { frames := 5, cells := 0, slots := 0, locals := 110 } s m args below meth c (MQ below (xk_Qi E q) args s 0 0 (xk_A E.2.2.1)) E 4 0 0 0 [(0, va_rf (x0)), (1, .int (x1)), (2, .int (x2))] [] w := by
  refine xk_aload_n hC dX4_ofCue_0 0 rfl rfl ?_
  refine xk_iload_n hC dX4_ofCue_1 1 rfl rfl ?_
  obtain ⟨u2, h2, hf⟩ := xk_bi hf
  obtain ⟨q1, h1, hf⟩ := xk_bi hf
  refine xk_backq (xk_callV hC 1 xc_0 (c_X4_cueNumbered h1) h2 xm_376 xm_378 xm_p4 xm_1 xm_379 ⟨rfl, xd_X4_cueNumbered⟩ rfl ⟨Nat.le_of_ble_eq_true rfl, Nat.le_of_ble_eq_true rfl⟩ rfl (Nat.le_of_ble_eq_true rfl) dX4_ofCue_2 ⟨(Nat.le_of_ble_eq_true rfl), (Nat.le_of_ble_eq_true rfl)⟩) ?_
  refine xk_astore_n (i := 3) (lv' := [(3, va_rf (q1.1)), (0, va_rf (x0)), (1, .int (x1)), (2, .int (x2))]) hC dX4_ofCue_5 rfl (by decide) rfl ?_
  refine xk_iload_n hC dX4_ofCue_6 3 rfl rfl ?_
  by_cases c3 : (x2) = (0 : Int32)
  · replace hf := (if_pos c3).symm.trans hf
    refine xk_tableIn (tgt := 72) hC dX4_ofCue_7 (by rw [c3]; decide) (by rw [c3]; decide) (off := 65) (by rw [c3]; rfl) (by decide) ?_
    refine xk_aload_n hC dX4_ofCue_72 0 rfl rfl ?_
    obtain ⟨v4, h4, hf⟩ := xk_bi hf
    refine xk_getI hC xi_1 xc_1 1 (by decide) xm_320 (Or.inl rfl) dX4_ofCue_73 h4 ?_
    cases hf
    refine xk_widen (k := 0) (n := 0) (Nat.le_of_ble_eq_true rfl) (Nat.le_of_ble_eq_true rfl) ?_
    exact xk_iret hC hr rfl dX4_ofCue_76
  · replace hf := (if_neg c3).symm.trans hf
    by_cases c5 : (x2) = (1 : Int32)
    · replace hf := (if_pos c5).symm.trans hf
      refine xk_tableIn (tgt := 77) hC dX4_ofCue_7 (by rw [c5]; decide) (by rw [c5]; decide) (off := 70) (by rw [c5]; rfl) (by decide) ?_
      refine xk_aload_n hC dX4_ofCue_77 0 rfl rfl ?_
      obtain ⟨v6, h6, hf⟩ := xk_bi hf
      refine xk_getI hC xi_1 xc_1 2 (by decide) xm_322 (Or.inl rfl) dX4_ofCue_78 h6 ?_
      cases hf
      refine xk_widen (k := 0) (n := 0) (Nat.le_of_ble_eq_true rfl) (Nat.le_of_ble_eq_true rfl) ?_
      exact xk_iret hC hr rfl dX4_ofCue_81
    · replace hf := (if_neg c5).symm.trans hf
      by_cases c7 : (x2) = (2 : Int32)
      · replace hf := (if_pos c7).symm.trans hf
        refine xk_tableIn (tgt := 82) hC dX4_ofCue_7 (by rw [c7]; decide) (by rw [c7]; decide) (off := 75) (by rw [c7]; rfl) (by decide) ?_
        refine xk_aload_n hC dX4_ofCue_82 0 rfl rfl ?_
        obtain ⟨v8, h8, hf⟩ := xk_bi hf
        refine xk_getI hC xi_1 xc_1 3 (by decide) xm_324 (Or.inl rfl) dX4_ofCue_83 h8 ?_
        cases hf
        refine xk_widen (k := 0) (n := 0) (Nat.le_of_ble_eq_true rfl) (Nat.le_of_ble_eq_true rfl) ?_
        exact xk_iret hC hr rfl dX4_ofCue_86
      · replace hf := (if_neg c7).symm.trans hf
        by_cases c9 : (x2) = (3 : Int32)
        · replace hf := (if_pos c9).symm.trans hf
          refine xk_tableIn (tgt := 87) hC dX4_ofCue_7 (by rw [c9]; decide) (by rw [c9]; decide) (off := 80) (by rw [c9]; rfl) (by decide) ?_
          refine xk_aload_n hC dX4_ofCue_87 0 rfl rfl ?_
          obtain ⟨v10, h10, hf⟩ := xk_bi hf
          refine xk_getI hC xi_1 xc_1 4 (by decide) xm_326 (Or.inl rfl) dX4_ofCue_88 h10 ?_
          cases hf
          refine xk_widen (k := 0) (n := 0) (Nat.le_of_ble_eq_true rfl) (Nat.le_of_ble_eq_true rfl) ?_
          exact xk_iret hC hr rfl dX4_ofCue_91
        · replace hf := (if_neg c9).symm.trans hf
          by_cases c11 : (x2) = (4 : Int32)
          · replace hf := (if_pos c11).symm.trans hf
            refine xk_tableIn (tgt := 92) hC dX4_ofCue_7 (by rw [c11]; decide) (by rw [c11]; decide) (off := 85) (by rw [c11]; rfl) (by decide) ?_
            refine xk_aload_n hC dX4_ofCue_92 0 rfl rfl ?_
            obtain ⟨v12, h12, hf⟩ := xk_bi hf
            refine xk_getI hC xi_1 xc_1 5 (by decide) xm_328 (Or.inl rfl) dX4_ofCue_93 h12 ?_
            cases hf
            refine xk_widen (k := 0) (n := 0) (Nat.le_of_ble_eq_true rfl) (Nat.le_of_ble_eq_true rfl) ?_
            exact xk_iret hC hr rfl dX4_ofCue_96
          · replace hf := (if_neg c11).symm.trans hf
            by_cases c13 : (x2) = (5 : Int32)
            · replace hf := (if_pos c13).symm.trans hf
              refine xk_tableIn (tgt := 97) hC dX4_ofCue_7 (by rw [c13]; decide) (by rw [c13]; decide) (off := 90) (by rw [c13]; rfl) (by decide) ?_
              refine xk_aload_n hC dX4_ofCue_97 0 rfl rfl ?_
              obtain ⟨v14, h14, hf⟩ := xk_bi hf
              refine xk_getI hC xi_1 xc_1 6 (by decide) xm_331 (Or.inl rfl) dX4_ofCue_98 h14 ?_
              cases hf
              refine xk_widen (k := 0) (n := 0) (Nat.le_of_ble_eq_true rfl) (Nat.le_of_ble_eq_true rfl) ?_
              exact xk_iret hC hr rfl dX4_ofCue_101
            · replace hf := (if_neg c13).symm.trans hf
              by_cases c15 : (x2) = (6 : Int32)
              · replace hf := (if_pos c15).symm.trans hf
                refine xk_tableIn (tgt := 102) hC dX4_ofCue_7 (by rw [c15]; decide) (by rw [c15]; decide) (off := 95) (by rw [c15]; rfl) (by decide) ?_
                refine xk_aload_n hC dX4_ofCue_102 0 rfl rfl ?_
                obtain ⟨v16, h16, hf⟩ := xk_bi hf
                refine xk_getI hC xi_1 xc_1 7 (by decide) xm_334 (Or.inl rfl) dX4_ofCue_103 h16 ?_
                cases hf
                refine xk_widen (k := 0) (n := 0) (Nat.le_of_ble_eq_true rfl) (Nat.le_of_ble_eq_true rfl) ?_
                exact xk_iret hC hr rfl dX4_ofCue_106
              · replace hf := (if_neg c15).symm.trans hf
                by_cases c17 : (x2) = (7 : Int32)
                · replace hf := (if_pos c17).symm.trans hf
                  refine xk_tableIn (tgt := 107) hC dX4_ofCue_7 (by rw [c17]; decide) (by rw [c17]; decide) (off := 100) (by rw [c17]; rfl) (by decide) ?_
                  refine xk_aload_n hC dX4_ofCue_107 0 rfl rfl ?_
                  obtain ⟨v18, h18, hf⟩ := xk_bi hf
                  refine xk_getI hC xi_1 xc_1 10 (by decide) xm_340 (Or.inl rfl) dX4_ofCue_108 h18 ?_
                  cases hf
                  refine xk_widen (k := 0) (n := 0) (Nat.le_of_ble_eq_true rfl) (Nat.le_of_ble_eq_true rfl) ?_
                  exact xk_iret hC hr rfl dX4_ofCue_111
                · replace hf := (if_neg c17).symm.trans hf
                  by_cases c19 : (x2) = (8 : Int32)
                  · replace hf := (if_pos c19).symm.trans hf
                    refine xk_tableIn (tgt := 112) hC dX4_ofCue_7 (by rw [c19]; decide) (by rw [c19]; decide) (off := 105) (by rw [c19]; rfl) (by decide) ?_
                    refine xk_aload_n hC dX4_ofCue_112 0 rfl rfl ?_
                    obtain ⟨u21, h21, hf⟩ := xk_bi hf
                    obtain ⟨q20, h20, hf⟩ := xk_bi hf
                    refine xk_backi (xk_callV hC 0 xc_1 (c_X0_end h20) h21 xm_423 xm_424 xm_425 xm_17 xm_426 ⟨rfl, xd_X0_end⟩ rfl ⟨Nat.le_of_ble_eq_true rfl, Nat.le_of_ble_eq_true rfl⟩ rfl (Nat.le_of_ble_eq_true rfl) dX4_ofCue_113 ⟨(Nat.le_of_ble_eq_true rfl), (Nat.le_of_ble_eq_true rfl)⟩) ?_
                    cases hf
                    refine xk_widen (k := 0) (n := 0) (Nat.le_of_ble_eq_true rfl) (Nat.le_of_ble_eq_true rfl) ?_
                    exact xk_iret hC hr rfl dX4_ofCue_116
                  · replace hf := (if_neg c19).symm.trans hf
                    by_cases c22 : (x2) = (9 : Int32)
                    · replace hf := (if_pos c22).symm.trans hf
                      refine xk_tableIn (tgt := 117) hC dX4_ofCue_7 (by rw [c22]; decide) (by rw [c22]; decide) (off := 110) (by rw [c22]; rfl) (by decide) ?_
                      refine xk_aload_n hC dX4_ofCue_117 1 rfl rfl ?_
                      refine xk_aload_n hC dX4_ofCue_118 0 rfl rfl ?_
                      obtain ⟨u24, h24, hf⟩ := xk_bi hf
                      obtain ⟨q23, h23, hf⟩ := xk_bi hf
                      refine xk_backi (xk_callV hC 1 xc_0 (c_X4_runsOver h23) h24 xm_507 xm_509 xm_p8 xm_1 xm_510 ⟨rfl, xd_X4_runsOver⟩ rfl ⟨Nat.le_of_ble_eq_true rfl, Nat.le_of_ble_eq_true rfl⟩ rfl (Nat.le_of_ble_eq_true rfl) dX4_ofCue_119 ⟨(Nat.le_of_ble_eq_true rfl), (Nat.le_of_ble_eq_true rfl)⟩) ?_
                      refine xk_if_eq (tgt := 129) hC dX4_ofCue_122 (by decide) (fun c25 => ?_) (fun c25 => ?_)
                      · replace hf := (if_pos c25).symm.trans hf
                        refine xk_iconst (v := (0 : Int32)) hC dX4_ofCue_129 (by decide) ?_
                        refine xk_locals [] rfl ?_
                        exact t_X4_ofCue_130 hC hr ((0 : Int32)) (q23.2) hf
                      · replace hf := (if_neg c25).symm.trans hf
                        refine xk_iconst (v := (1 : Int32)) hC dX4_ofCue_125 (by decide) ?_
                        refine xk_goto (tgt := 130) hC dX4_ofCue_126 (by decide) ?_
                        refine xk_locals [] rfl ?_
                        exact t_X4_ofCue_130 hC hr ((1 : Int32)) (q23.2) hf
                    · replace hf := (if_neg c22).symm.trans hf
                      by_cases c26 : (x2) = (10 : Int32)
                      · replace hf := (if_pos c26).symm.trans hf
                        refine xk_tableIn (tgt := 131) hC dX4_ofCue_7 (by rw [c26]; decide) (by rw [c26]; decide) (off := 124) (by rw [c26]; rfl) (by decide) ?_
                        refine xk_aload_n hC dX4_ofCue_131 1 rfl rfl ?_
                        refine xk_aload_n hC dX4_ofCue_132 0 rfl rfl ?_
                        obtain ⟨u28, h28, hf⟩ := xk_bi hf
                        obtain ⟨q27, h27, hf⟩ := xk_bi hf
                        refine xk_backi (xk_callV hC 1 xc_0 (c_X4_spoils h27) h28 xm_511 xm_513 xm_p9 xm_1 xm_514 ⟨rfl, xd_X4_spoils⟩ rfl ⟨Nat.le_of_ble_eq_true rfl, Nat.le_of_ble_eq_true rfl⟩ rfl (Nat.le_of_ble_eq_true rfl) dX4_ofCue_133 ⟨(Nat.le_of_ble_eq_true rfl), (Nat.le_of_ble_eq_true rfl)⟩) ?_
                        refine xk_if_eq (tgt := 143) hC dX4_ofCue_136 (by decide) (fun c29 => ?_) (fun c29 => ?_)
                        · replace hf := (if_pos c29).symm.trans hf
                          refine xk_iconst (v := (0 : Int32)) hC dX4_ofCue_143 (by decide) ?_
                          refine xk_locals [] rfl ?_
                          exact t_X4_ofCue_144 hC hr ((0 : Int32)) (q27.2) hf
                        · replace hf := (if_neg c29).symm.trans hf
                          refine xk_iconst (v := (1 : Int32)) hC dX4_ofCue_139 (by decide) ?_
                          refine xk_goto (tgt := 144) hC dX4_ofCue_140 (by decide) ?_
                          refine xk_locals [] rfl ?_
                          exact t_X4_ofCue_144 hC hr ((1 : Int32)) (q27.2) hf
                      · replace hf := (if_neg c26).symm.trans hf
                        by_cases c30 : (x2) = (11 : Int32)
                        · replace hf := (if_pos c30).symm.trans hf
                          refine xk_tableIn (tgt := 145) hC dX4_ofCue_7 (by rw [c30]; decide) (by rw [c30]; decide) (off := 138) (by rw [c30]; rfl) (by decide) ?_
                          refine xk_aload_n hC dX4_ofCue_145 1 rfl rfl ?_
                          refine xk_aload_n hC dX4_ofCue_146 0 rfl rfl ?_
                          obtain ⟨u32, h32, hf⟩ := xk_bi hf
                          obtain ⟨q31, h31, hf⟩ := xk_bi hf
                          refine xk_backi (xk_callV hC 1 xc_0 (c_X4_countValid h31) h32 xm_515 xm_517 xm_p10 xm_1 xm_518 ⟨rfl, xd_X4_countValid⟩ rfl ⟨Nat.le_of_ble_eq_true rfl, Nat.le_of_ble_eq_true rfl⟩ rfl (Nat.le_of_ble_eq_true rfl) dX4_ofCue_147 ⟨(Nat.le_of_ble_eq_true rfl), (Nat.le_of_ble_eq_true rfl)⟩) ?_
                          cases hf
                          refine xk_widen (k := 0) (n := 0) (Nat.le_of_ble_eq_true rfl) (Nat.le_of_ble_eq_true rfl) ?_
                          exact xk_iret hC hr rfl dX4_ofCue_150
                        · replace hf := (if_neg c30).symm.trans hf
                          by_cases c33 : (x2) = (12 : Int32)
                          · replace hf := (if_pos c33).symm.trans hf
                            refine xk_tableIn (tgt := 151) hC dX4_ofCue_7 (by rw [c33]; decide) (by rw [c33]; decide) (off := 144) (by rw [c33]; rfl) (by decide) ?_
                            refine xk_aload_n hC dX4_ofCue_151 1 rfl rfl ?_
                            refine xk_aload_n hC dX4_ofCue_152 0 rfl rfl ?_
                            obtain ⟨u35, h35, hf⟩ := xk_bi hf
                            obtain ⟨q34, h34, hf⟩ := xk_bi hf
                            refine xk_backi (xk_callV hC 1 xc_0 (c_X4_secondsOf h34) h35 xm_523 xm_525 xm_p11 xm_1 xm_526 ⟨rfl, xd_X4_secondsOf⟩ rfl ⟨Nat.le_of_ble_eq_true rfl, Nat.le_of_ble_eq_true rfl⟩ rfl (Nat.le_of_ble_eq_true rfl) dX4_ofCue_153 ⟨(Nat.le_of_ble_eq_true rfl), (Nat.le_of_ble_eq_true rfl)⟩) ?_
                            cases hf
                            refine xk_widen (k := 0) (n := 0) (Nat.le_of_ble_eq_true rfl) (Nat.le_of_ble_eq_true rfl) ?_
                            exact xk_iret hC hr rfl dX4_ofCue_156
                          · replace hf := (if_neg c33).symm.trans hf
                            refine xk_tableOut (tgt := 157) hC dX4_ofCue_7 (xk_swo (x2) 0 12 (fun v h1 h2 hv => by
                                have hh : v = 0 ∨ v = 1 ∨ v = 2 ∨ v = 3 ∨ v = 4 ∨ v = 5 ∨ v = 6 ∨ v = 7 ∨ v = 8 ∨ v = 9 ∨ v = 10 ∨ v = 11 ∨ v = 12 := by omega
                                rcases hh with rfl | rfl | rfl | rfl | rfl | rfl | rfl | rfl | rfl | rfl | rfl | rfl | rfl
                                · exact c3 (Int32.toInt_inj.mp (hv.trans (by decide)))
                                · exact c5 (Int32.toInt_inj.mp (hv.trans (by decide)))
                                · exact c7 (Int32.toInt_inj.mp (hv.trans (by decide)))
                                · exact c9 (Int32.toInt_inj.mp (hv.trans (by decide)))
                                · exact c11 (Int32.toInt_inj.mp (hv.trans (by decide)))
                                · exact c13 (Int32.toInt_inj.mp (hv.trans (by decide)))
                                · exact c15 (Int32.toInt_inj.mp (hv.trans (by decide)))
                                · exact c17 (Int32.toInt_inj.mp (hv.trans (by decide)))
                                · exact c19 (Int32.toInt_inj.mp (hv.trans (by decide)))
                                · exact c22 (Int32.toInt_inj.mp (hv.trans (by decide)))
                                · exact c26 (Int32.toInt_inj.mp (hv.trans (by decide)))
                                · exact c30 (Int32.toInt_inj.mp (hv.trans (by decide)))
                                · exact c33 (Int32.toInt_inj.mp (hv.trans (by decide)))
                                )) (by decide) ?_
                            cases hf
theorem xd_X4_ofCue : xy_X4_ofCue.cls ≠ "java/lang/invoke/MethodHandle" ∧ xy_X4_ofCue.cls ≠ "java/lang/invoke/VarHandle" ∧ (parseMethodDescriptor xy_X4_ofCue.desc).map (fun d => d.parameters.length) = some 2 := ⟨by decide +kernel, by decide +kernel, by decide +kernel⟩
theorem c_X4_ofCue {l : Launch} {E : xEv} {x0 : Option Nat} {x1 : Int32} {x2 : Int32} {w : xWd} {q : (Int32 × xWd)} (hf : f_X4_ofCue x0 x1 x2 w = some q) : xk_M l xy_X4_ofCue prog_1_method_21_code 4 (some .int) 5 110 0 0 E [va_rf (x0), .int (x1), .int (x2)] w (xk_Qi E q) := by
  refine xk_enter (by decide +kernel) (by simp [lg_sl, xk_cat1, xk_cati, xk_catl, xk_catd]) ?_
  intro p e s m args below meth c hC hr hin ha
  rw [show lv_args 0 [va_rf (x0), .int (x1), .int (x2)] = [(0, va_rf (x0)), (1, .int (x1)), (2, .int (x2))] by simp [lv_args, xk_cat1, xk_cati, xk_catl, xk_catd]]
  exact t_X4_ofCue_0 hC hr x0 x1 x2 w hf
def f_X4_ofBar (x0 : Option Nat) (x1 : Int32) (x2 : Int32) (x3 : Int32) (w : xWd) : Option (Int32 × xWd) := (xk_is w (x0) 0).bind (fun u2 => (f_X4_cueNumbered (x0) (x1) w).bind (fun q1 => (f_X4_refuseNoBar (q1.1) (x2) q1.2).bind (fun q3 => if (x3) = (0 : Int32) then (xk_gR q3 (q1.1) 1 8).bind (fun v5 => (xk_lI 0 q3 (v5) (x2)).bind (fun v6 => some (v6, q3))) else (if (x3) = (1 : Int32) then (xk_gR q3 (q1.1) 1 9).bind (fun v8 => (xk_lI 0 q3 (v8) (x2)).bind (fun v9 => some (v9, q3))) else (if (x3) = (2 : Int32) then (xk_is q3 (q1.1) 1).bind (fun u12 => (f_X0_firstBeat (q1.1) (x2) q3).bind (fun q11 => some (q11.1, q11.2))) else (if (x3) = (3 : Int32) then (xk_is q3 (q1.1) 1).bind (fun u15 => (f_X0_firstBeat (q1.1) (x2) q3).bind (fun q14 => (xk_is q14.2 (q1.1) 1).bind (fun u17 => (f_X0_beatFrame (q1.1) (q14.1) q14.2).bind (fun q16 => some (q16.1, q16.2))))) else (none)))))))
set_option maxHeartbeats 4000000 in
set_option maxRecDepth 100000 in
theorem t_X4_ofBar_0 {p : Program} {l : Launch} {e : Env} {s : State} {m : MethodId} {args : Array Value} {below : List Frame} {meth : Method} {c : Code} {E : xEv} (hC : xk_C p s m args meth c E prog_1_method_22_code "Clickbook" 5) (hr : meth.sig.returnType = (some .int)) {q : (Int32 × xWd)} (x0 : Option Nat) (x1 : Int32) (x2 : Int32) (x3 : Int32) (w : xWd) (hf : f_X4_ofBar x0 x1 x2 x3 w = some q) : xk_X p l e { frames := 4, cells := 0, slots := 0, locals := 85 } s m args below meth c (MQ below (xk_Qi E q) args s 0 0 (xk_A E.2.2.1)) E 5 0 0 0 [(0, va_rf (x0)), (1, .int (x1)), (2, .int (x2)), (3, .int (x3))] [] w := by
  refine xk_aload_n hC dX4_ofBar_0 0 rfl rfl ?_
  refine xk_iload_n hC dX4_ofBar_1 1 rfl rfl ?_
  obtain ⟨u2, h2, hf⟩ := xk_bi hf
  obtain ⟨q1, h1, hf⟩ := xk_bi hf
  refine xk_backq (xk_callV hC 1 xc_0 (c_X4_cueNumbered h1) h2 xm_376 xm_378 xm_p4 xm_1 xm_379 ⟨rfl, xd_X4_cueNumbered⟩ rfl ⟨Nat.le_of_ble_eq_true rfl, Nat.le_of_ble_eq_true rfl⟩ rfl (Nat.le_of_ble_eq_true rfl) dX4_ofBar_2 ⟨(Nat.le_of_ble_eq_true rfl), (Nat.le_of_ble_eq_true rfl)⟩) ?_
  refine xk_astore (i := 4) (lv' := [(4, va_rf (q1.1)), (0, va_rf (x0)), (1, .int (x1)), (2, .int (x2)), (3, .int (x3))]) hC dX4_ofBar_5 (by decide) rfl ?_
  refine xk_aload hC dX4_ofBar_7 0 rfl ?_
  refine xk_iload_n hC dX4_ofBar_9 3 rfl rfl ?_
  obtain ⟨q3, h3, hf⟩ := xk_bi hf
  refine xk_backv (xk_callS hC 2 (c_X4_refuseNoBar h3) xm_419 xm_420 xm_1 xm_421 xd_X4_refuseNoBar rfl ⟨Nat.le_of_ble_eq_true rfl, Nat.le_of_ble_eq_true rfl⟩ rfl (Nat.le_of_ble_eq_true rfl) dX4_ofBar_10 ⟨(Nat.le_of_ble_eq_true rfl), (Nat.le_of_ble_eq_true rfl)⟩) ?_
  refine xk_iload_n hC dX4_ofBar_13 4 rfl rfl ?_
  by_cases c4 : (x3) = (0 : Int32)
  · replace hf := (if_pos c4).symm.trans hf
    refine xk_tableIn (tgt := 44) hC dX4_ofBar_14 (by rw [c4]; decide) (by rw [c4]; decide) (off := 30) (by rw [c4]; rfl) (by decide) ?_
    refine xk_aload hC dX4_ofBar_44 0 rfl ?_
    obtain ⟨v5, h5, hf⟩ := xk_bi hf
    refine xk_getR hC xi_1 xc_1 8 (by decide) xm_336 (Or.inl rfl) dX4_ofBar_46 h5 ?_
    refine xk_iload_n hC dX4_ofBar_49 3 rfl rfl ?_
    obtain ⟨v6, h6, hf⟩ := xk_bi hf
    refine xk_iald hC rfl dX4_ofBar_50 h6 ?_
    cases hf
    refine xk_widen (k := 0) (n := 0) (Nat.le_of_ble_eq_true rfl) (Nat.le_of_ble_eq_true rfl) ?_
    exact xk_iret hC hr rfl dX4_ofBar_51
  · replace hf := (if_neg c4).symm.trans hf
    by_cases c7 : (x3) = (1 : Int32)
    · replace hf := (if_pos c7).symm.trans hf
      refine xk_tableIn (tgt := 52) hC dX4_ofBar_14 (by rw [c7]; decide) (by rw [c7]; decide) (off := 38) (by rw [c7]; rfl) (by decide) ?_
      refine xk_aload hC dX4_ofBar_52 0 rfl ?_
      obtain ⟨v8, h8, hf⟩ := xk_bi hf
      refine xk_getR hC xi_1 xc_1 9 (by decide) xm_338 (Or.inl rfl) dX4_ofBar_54 h8 ?_
      refine xk_iload_n hC dX4_ofBar_57 3 rfl rfl ?_
      obtain ⟨v9, h9, hf⟩ := xk_bi hf
      refine xk_iald hC rfl dX4_ofBar_58 h9 ?_
      cases hf
      refine xk_widen (k := 0) (n := 0) (Nat.le_of_ble_eq_true rfl) (Nat.le_of_ble_eq_true rfl) ?_
      exact xk_iret hC hr rfl dX4_ofBar_59
    · replace hf := (if_neg c7).symm.trans hf
      by_cases c10 : (x3) = (2 : Int32)
      · replace hf := (if_pos c10).symm.trans hf
        refine xk_tableIn (tgt := 60) hC dX4_ofBar_14 (by rw [c10]; decide) (by rw [c10]; decide) (off := 46) (by rw [c10]; rfl) (by decide) ?_
        refine xk_aload hC dX4_ofBar_60 0 rfl ?_
        refine xk_iload_n hC dX4_ofBar_62 3 rfl rfl ?_
        obtain ⟨u12, h12, hf⟩ := xk_bi hf
        obtain ⟨q11, h11, hf⟩ := xk_bi hf
        refine xk_backi (xk_callV hC 1 xc_1 (c_X0_firstBeat h11) h12 xm_715 xm_405 xm_406 xm_17 xm_407 ⟨rfl, xd_X0_firstBeat⟩ rfl ⟨Nat.le_of_ble_eq_true rfl, Nat.le_of_ble_eq_true rfl⟩ rfl (Nat.le_of_ble_eq_true rfl) dX4_ofBar_63 ⟨(Nat.le_of_ble_eq_true rfl), (Nat.le_of_ble_eq_true rfl)⟩) ?_
        cases hf
        refine xk_widen (k := 0) (n := 0) (Nat.le_of_ble_eq_true rfl) (Nat.le_of_ble_eq_true rfl) ?_
        exact xk_iret hC hr rfl dX4_ofBar_66
      · replace hf := (if_neg c10).symm.trans hf
        by_cases c13 : (x3) = (3 : Int32)
        · replace hf := (if_pos c13).symm.trans hf
          refine xk_tableIn (tgt := 67) hC dX4_ofBar_14 (by rw [c13]; decide) (by rw [c13]; decide) (off := 53) (by rw [c13]; rfl) (by decide) ?_
          refine xk_aload hC dX4_ofBar_67 0 rfl ?_
          refine xk_aload hC dX4_ofBar_69 0 rfl ?_
          refine xk_iload_n hC dX4_ofBar_71 3 rfl rfl ?_
          obtain ⟨u15, h15, hf⟩ := xk_bi hf
          obtain ⟨q14, h14, hf⟩ := xk_bi hf
          refine xk_backi (xk_callV hC 1 xc_1 (c_X0_firstBeat h14) h15 xm_715 xm_405 xm_406 xm_17 xm_407 ⟨rfl, xd_X0_firstBeat⟩ rfl ⟨Nat.le_of_ble_eq_true rfl, Nat.le_of_ble_eq_true rfl⟩ rfl (by simp [xk_cat1, xk_cati, xk_catl, xk_catd]) dX4_ofBar_72 ⟨(Nat.le_of_ble_eq_true rfl), (Nat.le_of_ble_eq_true rfl)⟩) ?_
          obtain ⟨u17, h17, hf⟩ := xk_bi hf
          obtain ⟨q16, h16, hf⟩ := xk_bi hf
          refine xk_backi (xk_callV hC 1 xc_1 (c_X0_beatFrame h16) h17 xm_716 xm_697 xm_698 xm_17 xm_699 ⟨rfl, xd_X0_beatFrame⟩ rfl ⟨Nat.le_of_ble_eq_true rfl, Nat.le_of_ble_eq_true rfl⟩ rfl (Nat.le_of_ble_eq_true rfl) dX4_ofBar_75 ⟨(Nat.le_of_ble_eq_true rfl), (Nat.le_of_ble_eq_true rfl)⟩) ?_
          cases hf
          refine xk_widen (k := 0) (n := 0) (Nat.le_of_ble_eq_true rfl) (Nat.le_of_ble_eq_true rfl) ?_
          exact xk_iret hC hr rfl dX4_ofBar_78
        · replace hf := (if_neg c13).symm.trans hf
          refine xk_tableOut (tgt := 79) hC dX4_ofBar_14 (xk_swo (x3) 0 3 (fun v h1 h2 hv => by
              have hh : v = 0 ∨ v = 1 ∨ v = 2 ∨ v = 3 := by omega
              rcases hh with rfl | rfl | rfl | rfl
              · exact c4 (Int32.toInt_inj.mp (hv.trans (by decide)))
              · exact c7 (Int32.toInt_inj.mp (hv.trans (by decide)))
              · exact c10 (Int32.toInt_inj.mp (hv.trans (by decide)))
              · exact c13 (Int32.toInt_inj.mp (hv.trans (by decide)))
              )) (by decide) ?_
          cases hf
theorem xd_X4_ofBar : xy_X4_ofBar.cls ≠ "java/lang/invoke/MethodHandle" ∧ xy_X4_ofBar.cls ≠ "java/lang/invoke/VarHandle" ∧ (parseMethodDescriptor xy_X4_ofBar.desc).map (fun d => d.parameters.length) = some 3 := ⟨by decide +kernel, by decide +kernel, by decide +kernel⟩
theorem c_X4_ofBar {l : Launch} {E : xEv} {x0 : Option Nat} {x1 : Int32} {x2 : Int32} {x3 : Int32} {w : xWd} {q : (Int32 × xWd)} (hf : f_X4_ofBar x0 x1 x2 x3 w = some q) : xk_M l xy_X4_ofBar prog_1_method_22_code 5 (some .int) 4 85 0 0 E [va_rf (x0), .int (x1), .int (x2), .int (x3)] w (xk_Qi E q) := by
  refine xk_enter (by decide +kernel) (by simp [lg_sl, xk_cat1, xk_cati, xk_catl, xk_catd]) ?_
  intro p e s m args below meth c hC hr hin ha
  rw [show lv_args 0 [va_rf (x0), .int (x1), .int (x2), .int (x3)] = [(0, va_rf (x0)), (1, .int (x1)), (2, .int (x2)), (3, .int (x3))] by simp [lv_args, xk_cat1, xk_cati, xk_catl, xk_catd]]
  exact t_X4_ofBar_0 hC hr x0 x1 x2 x3 w hf
def f_X4_beat_18 (w : xWd) : Option (Int32 × xWd) := none
set_option maxHeartbeats 4000000 in
set_option maxRecDepth 100000 in
theorem t_X4_beat_18 {p : Program} {l : Launch} {e : Env} {s : State} {m : MethodId} {args : Array Value} {below : List Frame} {meth : Method} {c : Code} {E : xEv} (hC : xk_C p s m args meth c E prog_1_method_23_code "Clickbook" 4) (hr : meth.sig.returnType = (some .int)) {q : (Int32 × xWd)} (w : xWd) (hf : f_X4_beat_18 w = some q) : xk_X p l e { frames := 4, cells := 0, slots := 0, locals := 85 } s m args below meth c (MQ below (xk_Qi E q) args s 0 0 (xk_A E.2.2.1)) E 4 0 0 18 [] [] w := by
  cases hf
def f_X4_beat (x0 : Option Nat) (x1 : Int32) (x2 : Int32) (w : xWd) : Option (Int32 × xWd) := (xk_is w (x0) 0).bind (fun u2 => (f_X4_cueNumbered (x0) (x1) w).bind (fun q1 => if (x2) < ((0 : Int32)) then f_X4_beat_18 (q1.2) else (xk_gI q1.2 (q1.1) 1 10).bind (fun v4 => if (x2) < (v4) then (xk_is q1.2 (q1.1) 1).bind (fun u7 => (f_X0_beatFrame (q1.1) (x2) q1.2).bind (fun q6 => some (q6.1, q6.2))) else f_X4_beat_18 (q1.2))))
set_option maxHeartbeats 4000000 in
set_option maxRecDepth 100000 in
theorem t_X4_beat_0 {p : Program} {l : Launch} {e : Env} {s : State} {m : MethodId} {args : Array Value} {below : List Frame} {meth : Method} {c : Code} {E : xEv} (hC : xk_C p s m args meth c E prog_1_method_23_code "Clickbook" 4) (hr : meth.sig.returnType = (some .int)) {q : (Int32 × xWd)} (x0 : Option Nat) (x1 : Int32) (x2 : Int32) (w : xWd) (hf : f_X4_beat x0 x1 x2 w = some q) : xk_X p l e { frames := 4, cells := 0, slots := 0, locals := 85 } s m args below meth c (MQ below (xk_Qi E q) args s 0 0 (xk_A E.2.2.1)) E 4 0 0 0 [(0, va_rf (x0)), (1, .int (x1)), (2, .int (x2))] [] w := by
  refine xk_aload_n hC dX4_beat_0 0 rfl rfl ?_
  refine xk_iload_n hC dX4_beat_1 1 rfl rfl ?_
  obtain ⟨u2, h2, hf⟩ := xk_bi hf
  obtain ⟨q1, h1, hf⟩ := xk_bi hf
  refine xk_backq (xk_callV hC 1 xc_0 (c_X4_cueNumbered h1) h2 xm_376 xm_378 xm_p4 xm_1 xm_379 ⟨rfl, xd_X4_cueNumbered⟩ rfl ⟨Nat.le_of_ble_eq_true rfl, Nat.le_of_ble_eq_true rfl⟩ rfl (Nat.le_of_ble_eq_true rfl) dX4_beat_2 ⟨(Nat.le_of_ble_eq_true rfl), (Nat.le_of_ble_eq_true rfl)⟩) ?_
  refine xk_astore_n (i := 3) (lv' := [(3, va_rf (q1.1)), (0, va_rf (x0)), (1, .int (x1)), (2, .int (x2))]) hC dX4_beat_5 rfl (by decide) rfl ?_
  refine xk_iload_n hC dX4_beat_6 3 rfl rfl ?_
  refine xk_if_lt (tgt := 18) hC dX4_beat_7 (by decide) (fun c3 => ?_) (fun c3 => ?_)
  · replace hf := (if_pos c3).symm.trans hf
    refine xk_locals [] rfl ?_
    exact t_X4_beat_18 hC hr (q1.2) hf
  · replace hf := (if_neg c3).symm.trans hf
    refine xk_iload_n hC dX4_beat_10 3 rfl rfl ?_
    refine xk_aload_n hC dX4_beat_11 0 rfl rfl ?_
    obtain ⟨v4, h4, hf⟩ := xk_bi hf
    refine xk_getI hC xi_1 xc_1 10 (by decide) xm_340 (Or.inl rfl) dX4_beat_12 h4 ?_
    refine xk_icmp_lt (tgt := 29) hC dX4_beat_15 (by decide) (fun c5 => ?_) (fun c5 => ?_)
    · replace hf := (if_pos c5).symm.trans hf
      refine xk_aload_n hC dX4_beat_29 0 rfl rfl ?_
      refine xk_iload_n hC dX4_beat_30 3 rfl rfl ?_
      obtain ⟨u7, h7, hf⟩ := xk_bi hf
      obtain ⟨q6, h6, hf⟩ := xk_bi hf
      refine xk_backi (xk_callV hC 1 xc_1 (c_X0_beatFrame h6) h7 xm_716 xm_697 xm_698 xm_17 xm_699 ⟨rfl, xd_X0_beatFrame⟩ rfl ⟨Nat.le_of_ble_eq_true rfl, Nat.le_of_ble_eq_true rfl⟩ rfl (Nat.le_of_ble_eq_true rfl) dX4_beat_31 ⟨(Nat.le_of_ble_eq_true rfl), (Nat.le_of_ble_eq_true rfl)⟩) ?_
      cases hf
      refine xk_widen (k := 0) (n := 0) (Nat.le_of_ble_eq_true rfl) (Nat.le_of_ble_eq_true rfl) ?_
      exact xk_iret hC hr rfl dX4_beat_34
    · replace hf := (if_neg c5).symm.trans hf
      refine xk_locals [] rfl ?_
      exact t_X4_beat_18 hC hr (q1.2) hf
theorem xd_X4_beat : xy_X4_beat.cls ≠ "java/lang/invoke/MethodHandle" ∧ xy_X4_beat.cls ≠ "java/lang/invoke/VarHandle" ∧ (parseMethodDescriptor xy_X4_beat.desc).map (fun d => d.parameters.length) = some 2 := ⟨by decide +kernel, by decide +kernel, by decide +kernel⟩
theorem c_X4_beat {l : Launch} {E : xEv} {x0 : Option Nat} {x1 : Int32} {x2 : Int32} {w : xWd} {q : (Int32 × xWd)} (hf : f_X4_beat x0 x1 x2 w = some q) : xk_M l xy_X4_beat prog_1_method_23_code 4 (some .int) 4 85 0 0 E [va_rf (x0), .int (x1), .int (x2)] w (xk_Qi E q) := by
  refine xk_enter (by decide +kernel) (by simp [lg_sl, xk_cat1, xk_cati, xk_catl, xk_catd]) ?_
  intro p e s m args below meth c hC hr hin ha
  rw [show lv_args 0 [va_rf (x0), .int (x1), .int (x2)] = [(0, va_rf (x0)), (1, .int (x1)), (2, .int (x2))] by simp [lv_args, xk_cat1, xk_cati, xk_catl, xk_catd]]
  exact t_X4_beat_0 hC hr x0 x1 x2 w hf
def f_X4_ofTake_15 (w : xWd) : Option (Int32 × xWd) := none
set_option maxHeartbeats 4000000 in
set_option maxRecDepth 100000 in
theorem t_X4_ofTake_15 {p : Program} {l : Launch} {e : Env} {s : State} {m : MethodId} {args : Array Value} {below : List Frame} {meth : Method} {c : Code} {E : xEv} (hC : xk_C p s m args meth c E prog_1_method_24_code "Clickbook" 4) (hr : meth.sig.returnType = (some .int)) {q : (Int32 × xWd)} (w : xWd) (hf : f_X4_ofTake_15 w = some q) : xk_X p l e { frames := 3, cells := 0, slots := 0, locals := 64 } s m args below meth c (MQ below (xk_Qi E q) args s 0 0 (xk_A E.2.2.1)) E 4 0 0 15 [] [] w := by
  cases hf
def f_X4_ofTake_102 (s0 : Int32) (w : xWd) : Option (Int32 × xWd) := some (s0, w)
set_option maxHeartbeats 4000000 in
set_option maxRecDepth 100000 in
theorem t_X4_ofTake_102 {p : Program} {l : Launch} {e : Env} {s : State} {m : MethodId} {args : Array Value} {below : List Frame} {meth : Method} {c : Code} {E : xEv} (hC : xk_C p s m args meth c E prog_1_method_24_code "Clickbook" 4) (hr : meth.sig.returnType = (some .int)) {q : (Int32 × xWd)} (s0 : Int32) (w : xWd) (hf : f_X4_ofTake_102 s0 w = some q) : xk_X p l e { frames := 3, cells := 0, slots := 0, locals := 64 } s m args below meth c (MQ below (xk_Qi E q) args s 0 0 (xk_A E.2.2.1)) E 4 0 0 102 [] [.int (s0)] w := by
  cases hf
  refine xk_widen (k := 0) (n := 0) (Nat.le_of_ble_eq_true rfl) (Nat.le_of_ble_eq_true rfl) ?_
  exact xk_iret hC hr rfl dX4_ofTake_102
def f_X4_ofTake (x0 : Option Nat) (x1 : Int32) (x2 : Int32) (w : xWd) : Option (Int32 × xWd) := if (x1) < ((0 : Int32)) then f_X4_ofTake_15 w else (xk_gR w (x0) 0 4).bind (fun v2 => (xk_is w (v2) 5).bind (fun u4 => (f_Jx4a65c_size_8abf5 (v2)  w).bind (fun q3 => if (x1) < (q3.1) then (xk_gR q3.2 (x0) 0 4).bind (fun v6 => (xk_is q3.2 (v6) 5).bind (fun u8 => (f_Jx4a65c_get_915e3 (v6) (x1) q3.2).bind (fun q7 => (xk_cc q7.2 (q7.1) 4).bind (fun u9 => if (x2) = (0 : Int32) then (xk_gR q7.2 (q7.1) 4 1).bind (fun v11 => (xk_gI q7.2 (v11) 1 0).bind (fun v12 => some (v12, q7.2))) else (if (x2) = (1 : Int32) then (xk_gI q7.2 (q7.1) 4 2).bind (fun v14 => some (v14, q7.2)) else (if (x2) = (2 : Int32) then (xk_gI q7.2 (q7.1) 4 4).bind (fun v16 => some (v16, q7.2)) else (if (x2) = (3 : Int32) then (xk_is q7.2 (q7.1) 4).bind (fun u19 => (f_X3_isValid (q7.1)  q7.2).bind (fun q18 => if (q18.1) = ((0 : Int32)) then f_X4_ofTake_102 ((0 : Int32)) (q18.2) else f_X4_ofTake_102 ((1 : Int32)) (q18.2))) else (if (x2) = (4 : Int32) then (xk_is q7.2 (q7.1) 4).bind (fun u23 => (f_X3_sumOfNotes (q7.1)  q7.2).bind (fun q22 => some (q22.1, q22.2))) else (none))))))))) else f_X4_ofTake_15 (q3.2))))
set_option maxHeartbeats 4000000 in
set_option maxRecDepth 100000 in
theorem t_X4_ofTake_0 {p : Program} {l : Launch} {e : Env} {s : State} {m : MethodId} {args : Array Value} {below : List Frame} {meth : Method} {c : Code} {E : xEv} (hC : xk_C p s m args meth c E prog_1_method_24_code "Clickbook" 4) (hr : meth.sig.returnType = (some .int)) {q : (Int32 × xWd)} (x0 : Option Nat) (x1 : Int32) (x2 : Int32) (w : xWd) (hf : f_X4_ofTake x0 x1 x2 w = some q) : xk_X p l e { frames := 3, cells := 0, slots := 0, locals := 64 } s m args below meth c (MQ below (xk_Qi E q) args s 0 0 (xk_A E.2.2.1)) E 4 0 0 0 [(0, va_rf (x0)), (1, .int (x1)), (2, .int (x2))] [] w := by
  refine xk_iload_n hC dX4_ofTake_0 1 rfl rfl ?_
  refine xk_if_lt (tgt := 15) hC dX4_ofTake_1 (by decide) (fun c1 => ?_) (fun c1 => ?_)
  · replace hf := (if_pos c1).symm.trans hf
    refine xk_locals [] rfl ?_
    exact t_X4_ofTake_15 hC hr w hf
  · replace hf := (if_neg c1).symm.trans hf
    refine xk_iload_n hC dX4_ofTake_4 1 rfl rfl ?_
    refine xk_aload_n hC dX4_ofTake_5 0 rfl rfl ?_
    obtain ⟨v2, h2, hf⟩ := xk_bi hf
    refine xk_getR hC xi_0 xc_0 4 (by decide) xm_78 (Or.inl rfl) dX4_ofTake_6 h2 ?_
    obtain ⟨u4, h4, hf⟩ := xk_bi hf
    obtain ⟨q3, h3, hf⟩ := xk_bi hf
    refine xk_backi (xk_callV hC 0 xc_5 (c_Jx4a65c_size_8abf5 h3) h4 xm_187 xm_188 xm_189 xm_4 xm_190 ⟨rfl, xd_Jx4a65c_size_8abf5⟩ rfl ⟨Nat.le_of_ble_eq_true rfl, Nat.le_of_ble_eq_true rfl⟩ rfl (Nat.le_of_ble_eq_true rfl) dX4_ofTake_9 ⟨(Nat.le_of_ble_eq_true rfl), (Nat.le_of_ble_eq_true rfl)⟩) ?_
    refine xk_icmp_lt (tgt := 26) hC dX4_ofTake_12 (by decide) (fun c5 => ?_) (fun c5 => ?_)
    · replace hf := (if_pos c5).symm.trans hf
      refine xk_aload_n hC dX4_ofTake_26 0 rfl rfl ?_
      obtain ⟨v6, h6, hf⟩ := xk_bi hf
      refine xk_getR hC xi_0 xc_0 4 (by decide) xm_78 (Or.inl rfl) dX4_ofTake_27 h6 ?_
      refine xk_iload_n hC dX4_ofTake_30 1 rfl rfl ?_
      obtain ⟨u8, h8, hf⟩ := xk_bi hf
      obtain ⟨q7, h7, hf⟩ := xk_bi hf
      refine xk_backq (xk_callV hC 1 xc_5 (c_Jx4a65c_get_915e3 h7) h8 xm_381 xm_382 xm_383 xm_4 xm_384 ⟨rfl, xd_Jx4a65c_get_915e3⟩ rfl ⟨Nat.le_of_ble_eq_true rfl, Nat.le_of_ble_eq_true rfl⟩ rfl (Nat.le_of_ble_eq_true rfl) dX4_ofTake_31 ⟨(Nat.le_of_ble_eq_true rfl), (Nat.le_of_ble_eq_true rfl)⟩) ?_
      obtain ⟨u9, h9, hf⟩ := xk_bi hf
      refine xk_cast hC xc_4 xm_469 dX4_ofTake_34 h9 ?_
      refine xk_astore_n (i := 3) (lv' := [(3, va_rf (q7.1)), (0, va_rf (x0)), (1, .int (x1)), (2, .int (x2))]) hC dX4_ofTake_37 rfl (by decide) rfl ?_
      refine xk_iload_n hC dX4_ofTake_38 3 rfl rfl ?_
      by_cases c10 : (x2) = (0 : Int32)
      · replace hf := (if_pos c10).symm.trans hf
        refine xk_tableIn (tgt := 72) hC dX4_ofTake_39 (by rw [c10]; decide) (by rw [c10]; decide) (off := 33) (by rw [c10]; rfl) (by decide) ?_
        refine xk_aload_n hC dX4_ofTake_72 0 rfl rfl ?_
        obtain ⟨v11, h11, hf⟩ := xk_bi hf
        refine xk_getR hC xi_4 xc_4 1 (by decide) xm_479 (Or.inl rfl) dX4_ofTake_73 h11 ?_
        obtain ⟨v12, h12, hf⟩ := xk_bi hf
        refine xk_getI hC xi_1 xc_1 0 (by decide) xm_318 (Or.inl rfl) dX4_ofTake_76 h12 ?_
        cases hf
        refine xk_widen (k := 0) (n := 0) (Nat.le_of_ble_eq_true rfl) (Nat.le_of_ble_eq_true rfl) ?_
        exact xk_iret hC hr rfl dX4_ofTake_79
      · replace hf := (if_neg c10).symm.trans hf
        by_cases c13 : (x2) = (1 : Int32)
        · replace hf := (if_pos c13).symm.trans hf
          refine xk_tableIn (tgt := 80) hC dX4_ofTake_39 (by rw [c13]; decide) (by rw [c13]; decide) (off := 41) (by rw [c13]; rfl) (by decide) ?_
          refine xk_aload_n hC dX4_ofTake_80 0 rfl rfl ?_
          obtain ⟨v14, h14, hf⟩ := xk_bi hf
          refine xk_getI hC xi_4 xc_4 2 (by decide) xm_481 (Or.inl rfl) dX4_ofTake_81 h14 ?_
          cases hf
          refine xk_widen (k := 0) (n := 0) (Nat.le_of_ble_eq_true rfl) (Nat.le_of_ble_eq_true rfl) ?_
          exact xk_iret hC hr rfl dX4_ofTake_84
        · replace hf := (if_neg c13).symm.trans hf
          by_cases c15 : (x2) = (2 : Int32)
          · replace hf := (if_pos c15).symm.trans hf
            refine xk_tableIn (tgt := 85) hC dX4_ofTake_39 (by rw [c15]; decide) (by rw [c15]; decide) (off := 46) (by rw [c15]; rfl) (by decide) ?_
            refine xk_aload_n hC dX4_ofTake_85 0 rfl rfl ?_
            obtain ⟨v16, h16, hf⟩ := xk_bi hf
            refine xk_getI hC xi_4 xc_4 4 (by decide) xm_485 (Or.inl rfl) dX4_ofTake_86 h16 ?_
            cases hf
            refine xk_widen (k := 0) (n := 0) (Nat.le_of_ble_eq_true rfl) (Nat.le_of_ble_eq_true rfl) ?_
            exact xk_iret hC hr rfl dX4_ofTake_89
          · replace hf := (if_neg c15).symm.trans hf
            by_cases c17 : (x2) = (3 : Int32)
            · replace hf := (if_pos c17).symm.trans hf
              refine xk_tableIn (tgt := 90) hC dX4_ofTake_39 (by rw [c17]; decide) (by rw [c17]; decide) (off := 51) (by rw [c17]; rfl) (by decide) ?_
              refine xk_aload_n hC dX4_ofTake_90 0 rfl rfl ?_
              obtain ⟨u19, h19, hf⟩ := xk_bi hf
              obtain ⟨q18, h18, hf⟩ := xk_bi hf
              refine xk_backi (xk_callV hC 0 xc_4 (c_X3_isValid h18) h19 xm_519 xm_520 xm_521 xm_20 xm_522 ⟨rfl, xd_X3_isValid⟩ rfl ⟨Nat.le_of_ble_eq_true rfl, Nat.le_of_ble_eq_true rfl⟩ rfl (Nat.le_of_ble_eq_true rfl) dX4_ofTake_91 ⟨(Nat.le_of_ble_eq_true rfl), (Nat.le_of_ble_eq_true rfl)⟩) ?_
              refine xk_if_eq (tgt := 101) hC dX4_ofTake_94 (by decide) (fun c20 => ?_) (fun c20 => ?_)
              · replace hf := (if_pos c20).symm.trans hf
                refine xk_iconst (v := (0 : Int32)) hC dX4_ofTake_101 (by decide) ?_
                refine xk_locals [] rfl ?_
                exact t_X4_ofTake_102 hC hr ((0 : Int32)) (q18.2) hf
              · replace hf := (if_neg c20).symm.trans hf
                refine xk_iconst (v := (1 : Int32)) hC dX4_ofTake_97 (by decide) ?_
                refine xk_goto (tgt := 102) hC dX4_ofTake_98 (by decide) ?_
                refine xk_locals [] rfl ?_
                exact t_X4_ofTake_102 hC hr ((1 : Int32)) (q18.2) hf
            · replace hf := (if_neg c17).symm.trans hf
              by_cases c21 : (x2) = (4 : Int32)
              · replace hf := (if_pos c21).symm.trans hf
                refine xk_tableIn (tgt := 103) hC dX4_ofTake_39 (by rw [c21]; decide) (by rw [c21]; decide) (off := 64) (by rw [c21]; rfl) (by decide) ?_
                refine xk_aload_n hC dX4_ofTake_103 0 rfl rfl ?_
                obtain ⟨u23, h23, hf⟩ := xk_bi hf
                obtain ⟨q22, h22, hf⟩ := xk_bi hf
                refine xk_backi (xk_callV hC 0 xc_4 (c_X3_sumOfNotes h22) h23 xm_533 xm_534 xm_535 xm_20 xm_536 ⟨rfl, xd_X3_sumOfNotes⟩ rfl ⟨Nat.le_of_ble_eq_true rfl, Nat.le_of_ble_eq_true rfl⟩ rfl (Nat.le_of_ble_eq_true rfl) dX4_ofTake_104 ⟨(Nat.le_of_ble_eq_true rfl), (Nat.le_of_ble_eq_true rfl)⟩) ?_
                cases hf
                refine xk_widen (k := 0) (n := 0) (Nat.le_of_ble_eq_true rfl) (Nat.le_of_ble_eq_true rfl) ?_
                exact xk_iret hC hr rfl dX4_ofTake_107
              · replace hf := (if_neg c21).symm.trans hf
                refine xk_tableOut (tgt := 108) hC dX4_ofTake_39 (xk_swo (x2) 0 4 (fun v h1 h2 hv => by
                    have hh : v = 0 ∨ v = 1 ∨ v = 2 ∨ v = 3 ∨ v = 4 := by omega
                    rcases hh with rfl | rfl | rfl | rfl | rfl
                    · exact c10 (Int32.toInt_inj.mp (hv.trans (by decide)))
                    · exact c13 (Int32.toInt_inj.mp (hv.trans (by decide)))
                    · exact c15 (Int32.toInt_inj.mp (hv.trans (by decide)))
                    · exact c17 (Int32.toInt_inj.mp (hv.trans (by decide)))
                    · exact c21 (Int32.toInt_inj.mp (hv.trans (by decide)))
                    )) (by decide) ?_
                cases hf
    · replace hf := (if_neg c5).symm.trans hf
      refine xk_locals [] rfl ?_
      exact t_X4_ofTake_15 hC hr (q3.2) hf
theorem xd_X4_ofTake : xy_X4_ofTake.cls ≠ "java/lang/invoke/MethodHandle" ∧ xy_X4_ofTake.cls ≠ "java/lang/invoke/VarHandle" ∧ (parseMethodDescriptor xy_X4_ofTake.desc).map (fun d => d.parameters.length) = some 2 := ⟨by decide +kernel, by decide +kernel, by decide +kernel⟩
theorem c_X4_ofTake {l : Launch} {E : xEv} {x0 : Option Nat} {x1 : Int32} {x2 : Int32} {w : xWd} {q : (Int32 × xWd)} (hf : f_X4_ofTake x0 x1 x2 w = some q) : xk_M l xy_X4_ofTake prog_1_method_24_code 4 (some .int) 3 64 0 0 E [va_rf (x0), .int (x1), .int (x2)] w (xk_Qi E q) := by
  refine xk_enter (by decide +kernel) (by simp [lg_sl, xk_cat1, xk_cati, xk_catl, xk_catd]) ?_
  intro p e s m args below meth c hC hr hin ha
  rw [show lv_args 0 [va_rf (x0), .int (x1), .int (x2)] = [(0, va_rf (x0)), (1, .int (x1)), (2, .int (x2))] by simp [lv_args, xk_cat1, xk_cati, xk_catl, xk_catd]]
  exact t_X4_ofTake_0 hC hr x0 x1 x2 w hf
def f_X4_payOf_24 (x0 : Option Nat) (x1 : Option Nat) (s0 : Int32) (w : xWd) : Option (Int32 × xWd) := (xk_is w (x0) 0).bind (fun u2 => (f_X4_secondsOf (x0) (x1) w).bind (fun q1 => some ((q1.1) * (s0), q1.2)))
set_option maxHeartbeats 4000000 in
set_option maxRecDepth 100000 in
theorem t_X4_payOf_24 {p : Program} {l : Launch} {e : Env} {s : State} {m : MethodId} {args : Array Value} {below : List Frame} {meth : Method} {c : Code} {E : xEv} (hC : xk_C p s m args meth c E prog_1_method_44_code "Clickbook" 3) (hr : meth.sig.returnType = (some .int)) {q : (Int32 × xWd)} (x0 : Option Nat) (x1 : Option Nat) (s0 : Int32) (w : xWd) (hf : f_X4_payOf_24 x0 x1 s0 w = some q) : xk_X p l e { frames := 5, cells := 0, slots := 0, locals := 110 } s m args below meth c (MQ below (xk_Qi E q) args s 0 0 (xk_A E.2.2.1)) E 3 0 0 24 [(0, va_rf (x0)), (1, va_rf (x1))] [.int (s0)] w := by
  refine xk_istore_n (i := 2) (lv' := [(2, .int (s0)), (0, va_rf (x0)), (1, va_rf (x1))]) hC dX4_payOf_24 rfl (by decide) (by simp [xk_cat1]) ?_
  refine xk_aload_n hC dX4_payOf_25 1 rfl rfl ?_
  refine xk_aload_n hC dX4_payOf_26 2 rfl rfl ?_
  obtain ⟨u2, h2, hf⟩ := xk_bi hf
  obtain ⟨q1, h1, hf⟩ := xk_bi hf
  refine xk_backi (xk_callV hC 1 xc_0 (c_X4_secondsOf h1) h2 xm_523 xm_525 xm_p11 xm_1 xm_526 ⟨rfl, xd_X4_secondsOf⟩ rfl ⟨Nat.le_of_ble_eq_true rfl, Nat.le_of_ble_eq_true rfl⟩ rfl (Nat.le_of_ble_eq_true rfl) dX4_payOf_27 ⟨(Nat.le_of_ble_eq_true rfl), (Nat.le_of_ble_eq_true rfl)⟩) ?_
  refine xk_iload_n hC dX4_payOf_30 0 rfl rfl ?_
  refine xk_imul hC dX4_payOf_31 ?_
  cases hf
  refine xk_widen (k := 0) (n := 0) (Nat.le_of_ble_eq_true rfl) (Nat.le_of_ble_eq_true rfl) ?_
  exact xk_iret hC hr rfl dX4_payOf_32
def f_X4_payOf (x0 : Option Nat) (x1 : Option Nat) (w : xWd) : Option (Int32 × xWd) := (xk_gI w (x1) 1 5).bind (fun v1 => if (v1) = ((0 : Int32)) then f_X4_payOf_24 x0 x1 ((1 : Int32)) w else (xk_gI w (x1) 1 5).bind (fun v3 => if (v3) = ((1 : Int32)) then f_X4_payOf_24 x0 x1 ((3 : Int32)) w else f_X4_payOf_24 x0 x1 ((5 : Int32)) w))
set_option maxHeartbeats 4000000 in
set_option maxRecDepth 100000 in
theorem t_X4_payOf_0 {p : Program} {l : Launch} {e : Env} {s : State} {m : MethodId} {args : Array Value} {below : List Frame} {meth : Method} {c : Code} {E : xEv} (hC : xk_C p s m args meth c E prog_1_method_44_code "Clickbook" 3) (hr : meth.sig.returnType = (some .int)) {q : (Int32 × xWd)} (x0 : Option Nat) (x1 : Option Nat) (w : xWd) (hf : f_X4_payOf x0 x1 w = some q) : xk_X p l e { frames := 5, cells := 0, slots := 0, locals := 110 } s m args below meth c (MQ below (xk_Qi E q) args s 0 0 (xk_A E.2.2.1)) E 3 0 0 0 [(0, va_rf (x0)), (1, va_rf (x1))] [] w := by
  refine xk_aload_n hC dX4_payOf_0 1 rfl rfl ?_
  obtain ⟨v1, h1, hf⟩ := xk_bi hf
  refine xk_getI hC xi_1 xc_1 5 (by decide) xm_328 (Or.inl rfl) dX4_payOf_1 h1 ?_
  refine xk_if_ne (tgt := 11) hC dX4_payOf_4 (by decide) (fun c2 => ?_) (fun c2 => ?_)
  · replace hf := (if_neg c2).symm.trans hf
    refine xk_aload_n hC dX4_payOf_11 1 rfl rfl ?_
    obtain ⟨v3, h3, hf⟩ := xk_bi hf
    refine xk_getI hC xi_1 xc_1 5 (by decide) xm_328 (Or.inl rfl) dX4_payOf_12 h3 ?_
    refine xk_iconst (v := (1 : Int32)) hC dX4_payOf_15 (by decide) ?_
    refine xk_icmp_ne (tgt := 23) hC dX4_payOf_16 (by decide) (fun c4 => ?_) (fun c4 => ?_)
    · replace hf := (if_neg c4).symm.trans hf
      refine xk_iconst (v := (5 : Int32)) hC dX4_payOf_23 (by decide) ?_
      exact t_X4_payOf_24 hC hr x0 x1 ((5 : Int32)) w hf
    · replace hf := (if_pos c4).symm.trans hf
      refine xk_iconst (v := (3 : Int32)) hC dX4_payOf_19 (by decide) ?_
      refine xk_goto (tgt := 24) hC dX4_payOf_20 (by decide) ?_
      exact t_X4_payOf_24 hC hr x0 x1 ((3 : Int32)) w hf
  · replace hf := (if_pos c2).symm.trans hf
    refine xk_iconst (v := (1 : Int32)) hC dX4_payOf_7 (by decide) ?_
    refine xk_goto (tgt := 24) hC dX4_payOf_8 (by decide) ?_
    exact t_X4_payOf_24 hC hr x0 x1 ((1 : Int32)) w hf
theorem xd_X4_payOf : xy_X4_payOf.cls ≠ "java/lang/invoke/MethodHandle" ∧ xy_X4_payOf.cls ≠ "java/lang/invoke/VarHandle" ∧ (parseMethodDescriptor xy_X4_payOf.desc).map (fun d => d.parameters.length) = some 1 := ⟨by decide +kernel, by decide +kernel, by decide +kernel⟩
theorem c_X4_payOf {l : Launch} {E : xEv} {x0 : Option Nat} {x1 : Option Nat} {w : xWd} {q : (Int32 × xWd)} (hf : f_X4_payOf x0 x1 w = some q) : xk_M l xy_X4_payOf prog_1_method_44_code 3 (some .int) 5 110 0 0 E [va_rf (x0), va_rf (x1)] w (xk_Qi E q) := by
  refine xk_enter (by decide +kernel) (by simp [lg_sl, xk_cat1, xk_cati, xk_catl, xk_catd]) ?_
  intro p e s m args below meth c hC hr hin ha
  rw [show lv_args 0 [va_rf (x0), va_rf (x1)] = [(0, va_rf (x0)), (1, va_rf (x1))] by simp [lv_args, xk_cat1, xk_cati, xk_catl, xk_catd]]
  exact t_X4_payOf_0 hC hr x0 x1 w hf
def f_X4_sheet_9 (w : xWd) : Option (Int32 × xWd) := none
set_option maxHeartbeats 4000000 in
set_option maxRecDepth 100000 in
theorem t_X4_sheet_9 {p : Program} {l : Launch} {e : Env} {s : State} {m : MethodId} {args : Array Value} {below : List Frame} {meth : Method} {c : Code} {E : xEv} (hC : xk_C p s m args meth c E prog_1_method_25_code "Clickbook" 5) (hr : meth.sig.returnType = (some .int)) {q : (Int32 × xWd)} (w : xWd) (hf : f_X4_sheet_9 w = some q) : xk_X p l e { frames := 6, cells := 0, slots := 0, locals := 132 } s m args below meth c (MQ below (xk_Qi E q) args s 0 0 (xk_A E.2.2.1)) E 5 0 0 9 [] [] w := by
  cases hf
def f_X4_sheet_66 (k24 : Option Nat → Int32 → Int32 → Int32 → xWd → Option (Int32 × xWd)) (x0 : Option Nat) (x1 : Int32) (x2 : Int32) (x3 : Int32) (w : xWd) : Option (Int32 × xWd) := k24 x0 x1 x2 (x3 + (1 : Int32)) w
set_option maxHeartbeats 4000000 in
set_option maxRecDepth 100000 in
theorem t_X4_sheet_66 {p : Program} {l : Launch} {e : Env} {s : State} {m : MethodId} {args : Array Value} {below : List Frame} {meth : Method} {c : Code} {E : xEv} (hC : xk_C p s m args meth c E prog_1_method_25_code "Clickbook" 5) (hr : meth.sig.returnType = (some .int)) {q : (Int32 × xWd)} {k24 : Option Nat → Int32 → Int32 → Int32 → xWd → Option (Int32 × xWd)} (hk24 : ∀ (x0 : Option Nat) (x1 : Int32) (x2 : Int32) (x3 : Int32) (w : xWd), k24 x0 x1 x2 x3 w = some q → xk_X p l e { frames := 6, cells := 0, slots := 0, locals := 132 } s m args below meth c (MQ below (xk_Qi E q) args s 0 0 (xk_A E.2.2.1)) E 5 0 0 24 [(0, va_rf (x0)), (1, .int (x1)), (2, .int (x2)), (3, .int (x3))] [] w) (x0 : Option Nat) (x1 : Int32) (x2 : Int32) (x3 : Int32) (w : xWd) (hf : f_X4_sheet_66 k24 x0 x1 x2 x3 w = some q) : xk_X p l e { frames := 6, cells := 0, slots := 0, locals := 132 } s m args below meth c (MQ below (xk_Qi E q) args s 0 0 (xk_A E.2.2.1)) E 5 0 0 66 [(0, va_rf (x0)), (1, .int (x1)), (2, .int (x2)), (3, .int (x3))] [] w := by
  refine xk_iinc (v := x3 + (1 : Int32)) (lv' := [(3, .int (x3 + (1 : Int32))), (0, va_rf (x0)), (1, .int (x1)), (2, .int (x2))]) hC dX4_sheet_66 3 rfl rfl (by decide) rfl ?_
  refine xk_goto (tgt := 24) hC dX4_sheet_69 (by decide) ?_
  refine xk_locals [1, 2, 3, 0] rfl ?_
  exact hk24 x0 x1 x2 (x3 + (1 : Int32)) w hf
def f_X4_sheet_24 : Nat → Option Nat → Int32 → Int32 → Int32 → xWd → Option (Int32 × xWd)
  | 0, _, _, _, _, _ => none
  | n + 1, x0, x1, x2, x3, w => (xk_gR w (x0) 0 3).bind (fun v1 => (xk_is w (v1) 5).bind (fun u3 => (f_Jx4a65c_size_8abf5 (v1)  w).bind (fun q2 => if (q2.1) ≤ (x3) then some (x2, q2.2) else (xk_gR q2.2 (x0) 0 3).bind (fun v5 => (xk_is q2.2 (v5) 5).bind (fun u7 => (f_Jx4a65c_get_915e3 (v5) (x3) q2.2).bind (fun q6 => (xk_cc q6.2 (q6.1) 1).bind (fun u8 => (xk_gI q6.2 (q6.1) 1 4).bind (fun v9 => if (v9) = (x1) then (xk_is q6.2 (x0) 0).bind (fun u12 => (f_X4_payOf (x0) (q6.1) q6.2).bind (fun q11 => f_X4_sheet_66 (f_X4_sheet_24 n) x0 x1 ((x2) + (q11.1)) x3 (q11.2))) else f_X4_sheet_66 (f_X4_sheet_24 n) x0 x1 x2 x3 (q6.2)))))))))
set_option maxHeartbeats 4000000 in
set_option maxRecDepth 100000 in
theorem t_X4_sheet_24 {p : Program} {l : Launch} {e : Env} {s : State} {m : MethodId} {args : Array Value} {below : List Frame} {meth : Method} {c : Code} {E : xEv} (hC : xk_C p s m args meth c E prog_1_method_25_code "Clickbook" 5) (hr : meth.sig.returnType = (some .int)) {q : (Int32 × xWd)} : ∀ (n : Nat) (x0 : Option Nat) (x1 : Int32) (x2 : Int32) (x3 : Int32) (w : xWd), f_X4_sheet_24 n x0 x1 x2 x3 w = some q → xk_X p l e { frames := 6, cells := 0, slots := 0, locals := 132 } s m args below meth c (MQ below (xk_Qi E q) args s 0 0 (xk_A E.2.2.1)) E 5 0 0 24 [(0, va_rf (x0)), (1, .int (x1)), (2, .int (x2)), (3, .int (x3))] [] w := by
  intro n
  induction n with
  | zero => intro x0 x1 x2 x3 w hf; have hf : none = some q := hf; cases hf
  | succ n ih =>
    intro x0 x1 x2 x3 w hf
    refine xk_iload_n hC dX4_sheet_24 3 rfl rfl ?_
    refine xk_aload_n hC dX4_sheet_25 0 rfl rfl ?_
    obtain ⟨v1, h1, hf⟩ := xk_bi hf
    refine xk_getR hC xi_0 xc_0 3 (by decide) xm_77 (Or.inl rfl) dX4_sheet_26 h1 ?_
    obtain ⟨u3, h3, hf⟩ := xk_bi hf
    obtain ⟨q2, h2, hf⟩ := xk_bi hf
    refine xk_backi (xk_callV hC 0 xc_5 (c_Jx4a65c_size_8abf5 h2) h3 xm_187 xm_188 xm_189 xm_4 xm_190 ⟨rfl, xd_Jx4a65c_size_8abf5⟩ rfl ⟨Nat.le_of_ble_eq_true rfl, Nat.le_of_ble_eq_true rfl⟩ rfl (Nat.le_of_ble_eq_true rfl) dX4_sheet_29 ⟨(Nat.le_of_ble_eq_true rfl), (Nat.le_of_ble_eq_true rfl)⟩) ?_
    refine xk_icmp_ge (tgt := 72) hC dX4_sheet_32 (by decide) (fun c4 => ?_) (fun c4 => ?_)
    · replace hf := (if_pos c4).symm.trans hf
      refine xk_iload_n hC dX4_sheet_72 2 rfl rfl ?_
      cases hf
      refine xk_widen (k := 0) (n := 0) (Nat.le_of_ble_eq_true rfl) (Nat.le_of_ble_eq_true rfl) ?_
      exact xk_iret hC hr rfl dX4_sheet_73
    · replace hf := (if_neg c4).symm.trans hf
      refine xk_aload_n hC dX4_sheet_35 0 rfl rfl ?_
      obtain ⟨v5, h5, hf⟩ := xk_bi hf
      refine xk_getR hC xi_0 xc_0 3 (by decide) xm_77 (Or.inl rfl) dX4_sheet_36 h5 ?_
      refine xk_iload_n hC dX4_sheet_39 3 rfl rfl ?_
      obtain ⟨u7, h7, hf⟩ := xk_bi hf
      obtain ⟨q6, h6, hf⟩ := xk_bi hf
      refine xk_backq (xk_callV hC 1 xc_5 (c_Jx4a65c_get_915e3 h6) h7 xm_381 xm_382 xm_383 xm_4 xm_384 ⟨rfl, xd_Jx4a65c_get_915e3⟩ rfl ⟨Nat.le_of_ble_eq_true rfl, Nat.le_of_ble_eq_true rfl⟩ rfl (Nat.le_of_ble_eq_true rfl) dX4_sheet_40 ⟨(Nat.le_of_ble_eq_true rfl), (Nat.le_of_ble_eq_true rfl)⟩) ?_
      obtain ⟨u8, h8, hf⟩ := xk_bi hf
      refine xk_cast hC xc_1 xm_311 dX4_sheet_43 h8 ?_
      refine xk_astore (i := 4) (lv' := [(4, va_rf (q6.1)), (0, va_rf (x0)), (1, .int (x1)), (2, .int (x2)), (3, .int (x3))]) hC dX4_sheet_46 (by decide) rfl ?_
      refine xk_aload hC dX4_sheet_48 0 rfl ?_
      obtain ⟨v9, h9, hf⟩ := xk_bi hf
      refine xk_getI hC xi_1 xc_1 4 (by decide) xm_326 (Or.inl rfl) dX4_sheet_50 h9 ?_
      refine xk_iload_n hC dX4_sheet_53 2 rfl rfl ?_
      refine xk_icmp_ne (tgt := 66) hC dX4_sheet_54 (by decide) (fun c10 => ?_) (fun c10 => ?_)
      · replace hf := (if_neg c10).symm.trans hf
        refine xk_locals [1, 2, 3, 4] rfl ?_
        exact t_X4_sheet_66 hC hr (fun x0 x1 x2 x3 w hf => ih x0 x1 x2 x3 w hf) x0 x1 x2 x3 (q6.2) hf
      · replace hf := (if_pos c10).symm.trans hf
        refine xk_iload_n hC dX4_sheet_57 3 rfl rfl ?_
        refine xk_aload_n hC dX4_sheet_58 1 rfl rfl ?_
        refine xk_aload hC dX4_sheet_59 0 rfl ?_
        obtain ⟨u12, h12, hf⟩ := xk_bi hf
        obtain ⟨q11, h11, hf⟩ := xk_bi hf
        refine xk_backi (xk_callV hC 1 xc_0 (c_X4_payOf h11) h12 xm_573 xm_575 xm_p18 xm_1 xm_576 ⟨rfl, xd_X4_payOf⟩ rfl ⟨Nat.le_of_ble_eq_true rfl, Nat.le_of_ble_eq_true rfl⟩ rfl (Nat.le_of_ble_eq_true rfl) dX4_sheet_61 ⟨(Nat.le_of_ble_eq_true rfl), (Nat.le_of_ble_eq_true rfl)⟩) ?_
        refine xk_iadd hC dX4_sheet_64 ?_
        refine xk_istore_n (i := 2) (lv' := [(2, .int ((x2) + (q11.1))), (4, va_rf (q6.1)), (0, va_rf (x0)), (1, .int (x1)), (3, .int (x3))]) hC dX4_sheet_65 rfl (by decide) rfl ?_
        refine xk_locals [2, 3, 0, 4] rfl ?_
        exact t_X4_sheet_66 hC hr (fun x0 x1 x2 x3 w hf => ih x0 x1 x2 x3 w hf) x0 x1 ((x2) + (q11.1)) x3 (q11.2) hf
def f_X4_sheet (x0 : Option Nat) (x1 : Int32) (w : xWd) : Option (Int32 × xWd) := if (x1) < ((0 : Int32)) then f_X4_sheet_9 w else if (x1) < ((4 : Int32)) then f_X4_sheet_24 4096 x0 x1 ((0 : Int32)) ((0 : Int32)) w else f_X4_sheet_9 w
set_option maxHeartbeats 4000000 in
set_option maxRecDepth 100000 in
theorem t_X4_sheet_0 {p : Program} {l : Launch} {e : Env} {s : State} {m : MethodId} {args : Array Value} {below : List Frame} {meth : Method} {c : Code} {E : xEv} (hC : xk_C p s m args meth c E prog_1_method_25_code "Clickbook" 5) (hr : meth.sig.returnType = (some .int)) {q : (Int32 × xWd)} (x0 : Option Nat) (x1 : Int32) (w : xWd) (hf : f_X4_sheet x0 x1 w = some q) : xk_X p l e { frames := 6, cells := 0, slots := 0, locals := 132 } s m args below meth c (MQ below (xk_Qi E q) args s 0 0 (xk_A E.2.2.1)) E 5 0 0 0 [(0, va_rf (x0)), (1, .int (x1))] [] w := by
  refine xk_iload_n hC dX4_sheet_0 1 rfl rfl ?_
  refine xk_if_lt (tgt := 9) hC dX4_sheet_1 (by decide) (fun c1 => ?_) (fun c1 => ?_)
  · replace hf := (if_pos c1).symm.trans hf
    refine xk_locals [] rfl ?_
    exact t_X4_sheet_9 hC hr w hf
  · replace hf := (if_neg c1).symm.trans hf
    refine xk_iload_n hC dX4_sheet_4 1 rfl rfl ?_
    refine xk_iconst (v := (4 : Int32)) hC dX4_sheet_5 (by decide) ?_
    refine xk_icmp_lt (tgt := 20) hC dX4_sheet_6 (by decide) (fun c2 => ?_) (fun c2 => ?_)
    · replace hf := (if_pos c2).symm.trans hf
      refine xk_iconst (v := (0 : Int32)) hC dX4_sheet_20 (by decide) ?_
      refine xk_istore_n (i := 2) (lv' := [(2, .int ((0 : Int32))), (0, va_rf (x0)), (1, .int (x1))]) hC dX4_sheet_21 rfl (by decide) rfl ?_
      refine xk_iconst (v := (0 : Int32)) hC dX4_sheet_22 (by decide) ?_
      refine xk_istore_n (i := 3) (lv' := [(3, .int ((0 : Int32))), (2, .int ((0 : Int32))), (0, va_rf (x0)), (1, .int (x1))]) hC dX4_sheet_23 rfl (by decide) rfl ?_
      refine xk_locals [2, 3, 1, 0] rfl ?_
      exact t_X4_sheet_24 hC hr 4096 x0 x1 ((0 : Int32)) ((0 : Int32)) w hf
    · replace hf := (if_neg c2).symm.trans hf
      refine xk_locals [] rfl ?_
      exact t_X4_sheet_9 hC hr w hf
theorem xd_X4_sheet : xy_X4_sheet.cls ≠ "java/lang/invoke/MethodHandle" ∧ xy_X4_sheet.cls ≠ "java/lang/invoke/VarHandle" ∧ (parseMethodDescriptor xy_X4_sheet.desc).map (fun d => d.parameters.length) = some 1 := ⟨by decide +kernel, by decide +kernel, by decide +kernel⟩
theorem c_X4_sheet {l : Launch} {E : xEv} {x0 : Option Nat} {x1 : Int32} {w : xWd} {q : (Int32 × xWd)} (hf : f_X4_sheet x0 x1 w = some q) : xk_M l xy_X4_sheet prog_1_method_25_code 5 (some .int) 6 132 0 0 E [va_rf (x0), .int (x1)] w (xk_Qi E q) := by
  refine xk_enter (by decide +kernel) (by simp [lg_sl, xk_cat1, xk_cati, xk_catl, xk_catd]) ?_
  intro p e s m args below meth c hC hr hin ha
  rw [show lv_args 0 [va_rf (x0), .int (x1)] = [(0, va_rf (x0)), (1, .int (x1))] by simp [lv_args, xk_cat1, xk_cati, xk_catl, xk_catd]]
  exact t_X4_sheet_0 hC hr x0 x1 w hf
def f_X4_countGone_35 (k4 : Option Nat → Int32 → Int32 → xWd → Option (Int32 × xWd)) (x0 : Option Nat) (x1 : Int32) (x2 : Int32) (w : xWd) : Option (Int32 × xWd) := k4 x0 x1 (x2 + (1 : Int32)) w
set_option maxHeartbeats 4000000 in
set_option maxRecDepth 100000 in
theorem t_X4_countGone_35 {p : Program} {l : Launch} {e : Env} {s : State} {m : MethodId} {args : Array Value} {below : List Frame} {meth : Method} {c : Code} {E : xEv} (hC : xk_C p s m args meth c E prog_1_method_34_code "Clickbook" 3) (hr : meth.sig.returnType = (some .int)) {q : (Int32 × xWd)} {k4 : Option Nat → Int32 → Int32 → xWd → Option (Int32 × xWd)} (hk4 : ∀ (x0 : Option Nat) (x1 : Int32) (x2 : Int32) (w : xWd), k4 x0 x1 x2 w = some q → xk_X p l e { frames := 3, cells := 0, slots := 0, locals := 64 } s m args below meth c (MQ below (xk_Qi E q) args s 0 0 (xk_A E.2.2.1)) E 3 0 0 4 [(0, va_rf (x0)), (1, .int (x1)), (2, .int (x2))] [] w) (x0 : Option Nat) (x1 : Int32) (x2 : Int32) (w : xWd) (hf : f_X4_countGone_35 k4 x0 x1 x2 w = some q) : xk_X p l e { frames := 3, cells := 0, slots := 0, locals := 64 } s m args below meth c (MQ below (xk_Qi E q) args s 0 0 (xk_A E.2.2.1)) E 3 0 0 35 [(0, va_rf (x0)), (1, .int (x1)), (2, .int (x2))] [] w := by
  refine xk_iinc (v := x2 + (1 : Int32)) (lv' := [(2, .int (x2 + (1 : Int32))), (0, va_rf (x0)), (1, .int (x1))]) hC dX4_countGone_35 2 rfl rfl (by decide) rfl ?_
  refine xk_goto (tgt := 4) hC dX4_countGone_38 (by decide) ?_
  refine xk_locals [1, 2, 0] rfl ?_
  exact hk4 x0 x1 (x2 + (1 : Int32)) w hf
def f_X4_countGone_4 : Nat → Option Nat → Int32 → Int32 → xWd → Option (Int32 × xWd)
  | 0, _, _, _, _ => none
  | n + 1, x0, x1, x2, w => (xk_gR w (x0) 0 0).bind (fun v1 => (xk_is w (v1) 5).bind (fun u3 => (f_Jx4a65c_size_8abf5 (v1)  w).bind (fun q2 => if (q2.1) ≤ (x2) then some (x1, q2.2) else (xk_gR q2.2 (x0) 0 0).bind (fun v5 => (xk_is q2.2 (v5) 5).bind (fun u7 => (f_Jx4a65c_get_915e3 (v5) (x2) q2.2).bind (fun q6 => (xk_cc q6.2 (q6.1) 2).bind (fun u8 => (xk_gI q6.2 (q6.1) 2 2).bind (fun v9 => if (v9) = ((0 : Int32)) then f_X4_countGone_35 (f_X4_countGone_4 n) x0 x1 x2 (q6.2) else f_X4_countGone_35 (f_X4_countGone_4 n) x0 (x1 + (1 : Int32)) x2 (q6.2)))))))))
set_option maxHeartbeats 4000000 in
set_option maxRecDepth 100000 in
theorem t_X4_countGone_4 {p : Program} {l : Launch} {e : Env} {s : State} {m : MethodId} {args : Array Value} {below : List Frame} {meth : Method} {c : Code} {E : xEv} (hC : xk_C p s m args meth c E prog_1_method_34_code "Clickbook" 3) (hr : meth.sig.returnType = (some .int)) {q : (Int32 × xWd)} : ∀ (n : Nat) (x0 : Option Nat) (x1 : Int32) (x2 : Int32) (w : xWd), f_X4_countGone_4 n x0 x1 x2 w = some q → xk_X p l e { frames := 3, cells := 0, slots := 0, locals := 64 } s m args below meth c (MQ below (xk_Qi E q) args s 0 0 (xk_A E.2.2.1)) E 3 0 0 4 [(0, va_rf (x0)), (1, .int (x1)), (2, .int (x2))] [] w := by
  intro n
  induction n with
  | zero => intro x0 x1 x2 w hf; have hf : none = some q := hf; cases hf
  | succ n ih =>
    intro x0 x1 x2 w hf
    refine xk_iload_n hC dX4_countGone_4 2 rfl rfl ?_
    refine xk_aload_n hC dX4_countGone_5 0 rfl rfl ?_
    obtain ⟨v1, h1, hf⟩ := xk_bi hf
    refine xk_getR hC xi_0 xc_0 0 (by decide) xm_74 (Or.inl rfl) dX4_countGone_6 h1 ?_
    obtain ⟨u3, h3, hf⟩ := xk_bi hf
    obtain ⟨q2, h2, hf⟩ := xk_bi hf
    refine xk_backi (xk_callV hC 0 xc_5 (c_Jx4a65c_size_8abf5 h2) h3 xm_187 xm_188 xm_189 xm_4 xm_190 ⟨rfl, xd_Jx4a65c_size_8abf5⟩ rfl ⟨Nat.le_of_ble_eq_true rfl, Nat.le_of_ble_eq_true rfl⟩ rfl (Nat.le_of_ble_eq_true rfl) dX4_countGone_9 ⟨(Nat.le_of_ble_eq_true rfl), (Nat.le_of_ble_eq_true rfl)⟩) ?_
    refine xk_icmp_ge (tgt := 41) hC dX4_countGone_12 (by decide) (fun c4 => ?_) (fun c4 => ?_)
    · replace hf := (if_pos c4).symm.trans hf
      refine xk_iload_n hC dX4_countGone_41 1 rfl rfl ?_
      cases hf
      refine xk_widen (k := 0) (n := 0) (Nat.le_of_ble_eq_true rfl) (Nat.le_of_ble_eq_true rfl) ?_
      exact xk_iret hC hr rfl dX4_countGone_42
    · replace hf := (if_neg c4).symm.trans hf
      refine xk_aload_n hC dX4_countGone_15 0 rfl rfl ?_
      obtain ⟨v5, h5, hf⟩ := xk_bi hf
      refine xk_getR hC xi_0 xc_0 0 (by decide) xm_74 (Or.inl rfl) dX4_countGone_16 h5 ?_
      refine xk_iload_n hC dX4_countGone_19 2 rfl rfl ?_
      obtain ⟨u7, h7, hf⟩ := xk_bi hf
      obtain ⟨q6, h6, hf⟩ := xk_bi hf
      refine xk_backq (xk_callV hC 1 xc_5 (c_Jx4a65c_get_915e3 h6) h7 xm_381 xm_382 xm_383 xm_4 xm_384 ⟨rfl, xd_Jx4a65c_get_915e3⟩ rfl ⟨Nat.le_of_ble_eq_true rfl, Nat.le_of_ble_eq_true rfl⟩ rfl (Nat.le_of_ble_eq_true rfl) dX4_countGone_20 ⟨(Nat.le_of_ble_eq_true rfl), (Nat.le_of_ble_eq_true rfl)⟩) ?_
      obtain ⟨u8, h8, hf⟩ := xk_bi hf
      refine xk_cast hC xc_2 xm_207 dX4_countGone_23 h8 ?_
      obtain ⟨v9, h9, hf⟩ := xk_bi hf
      refine xk_getI hC xi_2 xc_2 2 (by decide) xm_218 (Or.inl rfl) dX4_countGone_26 h9 ?_
      refine xk_if_eq (tgt := 35) hC dX4_countGone_29 (by decide) (fun c10 => ?_) (fun c10 => ?_)
      · replace hf := (if_pos c10).symm.trans hf
        exact t_X4_countGone_35 hC hr (fun x0 x1 x2 w hf => ih x0 x1 x2 w hf) x0 x1 x2 (q6.2) hf
      · replace hf := (if_neg c10).symm.trans hf
        refine xk_iinc (v := x1 + (1 : Int32)) (lv' := [(1, .int (x1 + (1 : Int32))), (0, va_rf (x0)), (2, .int (x2))]) hC dX4_countGone_32 1 rfl rfl (by decide) (by simp [xk_cat1]) ?_
        refine xk_locals [1, 0, 2] rfl ?_
        exact t_X4_countGone_35 hC hr (fun x0 x1 x2 w hf => ih x0 x1 x2 w hf) x0 (x1 + (1 : Int32)) x2 (q6.2) hf
def f_X4_countGone (x0 : Option Nat) (w : xWd) : Option (Int32 × xWd) := f_X4_countGone_4 4096 x0 ((0 : Int32)) ((0 : Int32)) w
set_option maxHeartbeats 4000000 in
set_option maxRecDepth 100000 in
theorem t_X4_countGone_0 {p : Program} {l : Launch} {e : Env} {s : State} {m : MethodId} {args : Array Value} {below : List Frame} {meth : Method} {c : Code} {E : xEv} (hC : xk_C p s m args meth c E prog_1_method_34_code "Clickbook" 3) (hr : meth.sig.returnType = (some .int)) {q : (Int32 × xWd)} (x0 : Option Nat) (w : xWd) (hf : f_X4_countGone x0 w = some q) : xk_X p l e { frames := 3, cells := 0, slots := 0, locals := 64 } s m args below meth c (MQ below (xk_Qi E q) args s 0 0 (xk_A E.2.2.1)) E 3 0 0 0 [(0, va_rf (x0))] [] w := by
  refine xk_iconst (v := (0 : Int32)) hC dX4_countGone_0 (by decide) ?_
  refine xk_istore_n (i := 1) (lv' := [(1, .int ((0 : Int32))), (0, va_rf (x0))]) hC dX4_countGone_1 rfl (by decide) (by simp [xk_cat1]) ?_
  refine xk_iconst (v := (0 : Int32)) hC dX4_countGone_2 (by decide) ?_
  refine xk_istore_n (i := 2) (lv' := [(2, .int ((0 : Int32))), (1, .int ((0 : Int32))), (0, va_rf (x0))]) hC dX4_countGone_3 rfl (by decide) rfl ?_
  refine xk_locals [2, 1, 0] rfl ?_
  exact t_X4_countGone_4 hC hr 4096 x0 ((0 : Int32)) ((0 : Int32)) w hf
theorem xd_X4_countGone : xy_X4_countGone.cls ≠ "java/lang/invoke/MethodHandle" ∧ xy_X4_countGone.cls ≠ "java/lang/invoke/VarHandle" ∧ (parseMethodDescriptor xy_X4_countGone.desc).map (fun d => d.parameters.length) = some 0 := ⟨by decide +kernel, by decide +kernel, by decide +kernel⟩
theorem c_X4_countGone {l : Launch} {E : xEv} {x0 : Option Nat} {w : xWd} {q : (Int32 × xWd)} (hf : f_X4_countGone x0 w = some q) : xk_M l xy_X4_countGone prog_1_method_34_code 3 (some .int) 3 64 0 0 E [va_rf (x0)] w (xk_Qi E q) := by
  refine xk_enter (by decide +kernel) (by simp [lg_sl, xk_cat1, xk_cati, xk_catl, xk_catd]) ?_
  intro p e s m args below meth c hC hr hin ha
  rw [show lv_args 0 [va_rf (x0)] = [(0, va_rf (x0))] by simp [lv_args, xk_cat1, xk_cati, xk_catl, xk_catd]]
  exact t_X4_countGone_0 hC hr x0 w hf
def f_X4_countRunningOver_36 (k4 : Option Nat → Int32 → Int32 → xWd → Option (Int32 × xWd)) (x0 : Option Nat) (x1 : Int32) (x2 : Int32) (w : xWd) : Option (Int32 × xWd) := k4 x0 x1 (x2 + (1 : Int32)) w
set_option maxHeartbeats 4000000 in
set_option maxRecDepth 100000 in
theorem t_X4_countRunningOver_36 {p : Program} {l : Launch} {e : Env} {s : State} {m : MethodId} {args : Array Value} {below : List Frame} {meth : Method} {c : Code} {E : xEv} (hC : xk_C p s m args meth c E prog_1_method_36_code "Clickbook" 3) (hr : meth.sig.returnType = (some .int)) {q : (Int32 × xWd)} {k4 : Option Nat → Int32 → Int32 → xWd → Option (Int32 × xWd)} (hk4 : ∀ (x0 : Option Nat) (x1 : Int32) (x2 : Int32) (w : xWd), k4 x0 x1 x2 w = some q → xk_X p l e { frames := 3, cells := 0, slots := 0, locals := 64 } s m args below meth c (MQ below (xk_Qi E q) args s 0 0 (xk_A E.2.2.1)) E 3 0 0 4 [(0, va_rf (x0)), (1, .int (x1)), (2, .int (x2))] [] w) (x0 : Option Nat) (x1 : Int32) (x2 : Int32) (w : xWd) (hf : f_X4_countRunningOver_36 k4 x0 x1 x2 w = some q) : xk_X p l e { frames := 3, cells := 0, slots := 0, locals := 64 } s m args below meth c (MQ below (xk_Qi E q) args s 0 0 (xk_A E.2.2.1)) E 3 0 0 36 [(0, va_rf (x0)), (1, .int (x1)), (2, .int (x2))] [] w := by
  refine xk_iinc (v := x2 + (1 : Int32)) (lv' := [(2, .int (x2 + (1 : Int32))), (0, va_rf (x0)), (1, .int (x1))]) hC dX4_countRunningOver_36 2 rfl rfl (by decide) rfl ?_
  refine xk_goto (tgt := 4) hC dX4_countRunningOver_39 (by decide) ?_
  refine xk_locals [1, 2, 0] rfl ?_
  exact hk4 x0 x1 (x2 + (1 : Int32)) w hf
def f_X4_countRunningOver_4 : Nat → Option Nat → Int32 → Int32 → xWd → Option (Int32 × xWd)
  | 0, _, _, _, _ => none
  | n + 1, x0, x1, x2, w => (xk_gR w (x0) 0 3).bind (fun v1 => (xk_is w (v1) 5).bind (fun u3 => (f_Jx4a65c_size_8abf5 (v1)  w).bind (fun q2 => if (q2.1) ≤ (x2) then some (x1, q2.2) else (xk_gR q2.2 (x0) 0 3).bind (fun v5 => (xk_is q2.2 (v5) 5).bind (fun u7 => (f_Jx4a65c_get_915e3 (v5) (x2) q2.2).bind (fun q6 => (xk_cc q6.2 (q6.1) 1).bind (fun u8 => (xk_is q6.2 (x0) 0).bind (fun u10 => (f_X4_runsOver (x0) (q6.1) q6.2).bind (fun q9 => if (q9.1) = ((0 : Int32)) then f_X4_countRunningOver_36 (f_X4_countRunningOver_4 n) x0 x1 x2 (q9.2) else f_X4_countRunningOver_36 (f_X4_countRunningOver_4 n) x0 (x1 + (1 : Int32)) x2 (q9.2))))))))))
set_option maxHeartbeats 4000000 in
set_option maxRecDepth 100000 in
theorem t_X4_countRunningOver_4 {p : Program} {l : Launch} {e : Env} {s : State} {m : MethodId} {args : Array Value} {below : List Frame} {meth : Method} {c : Code} {E : xEv} (hC : xk_C p s m args meth c E prog_1_method_36_code "Clickbook" 3) (hr : meth.sig.returnType = (some .int)) {q : (Int32 × xWd)} : ∀ (n : Nat) (x0 : Option Nat) (x1 : Int32) (x2 : Int32) (w : xWd), f_X4_countRunningOver_4 n x0 x1 x2 w = some q → xk_X p l e { frames := 3, cells := 0, slots := 0, locals := 64 } s m args below meth c (MQ below (xk_Qi E q) args s 0 0 (xk_A E.2.2.1)) E 3 0 0 4 [(0, va_rf (x0)), (1, .int (x1)), (2, .int (x2))] [] w := by
  intro n
  induction n with
  | zero => intro x0 x1 x2 w hf; have hf : none = some q := hf; cases hf
  | succ n ih =>
    intro x0 x1 x2 w hf
    refine xk_iload_n hC dX4_countRunningOver_4 2 rfl rfl ?_
    refine xk_aload_n hC dX4_countRunningOver_5 0 rfl rfl ?_
    obtain ⟨v1, h1, hf⟩ := xk_bi hf
    refine xk_getR hC xi_0 xc_0 3 (by decide) xm_77 (Or.inl rfl) dX4_countRunningOver_6 h1 ?_
    obtain ⟨u3, h3, hf⟩ := xk_bi hf
    obtain ⟨q2, h2, hf⟩ := xk_bi hf
    refine xk_backi (xk_callV hC 0 xc_5 (c_Jx4a65c_size_8abf5 h2) h3 xm_187 xm_188 xm_189 xm_4 xm_190 ⟨rfl, xd_Jx4a65c_size_8abf5⟩ rfl ⟨Nat.le_of_ble_eq_true rfl, Nat.le_of_ble_eq_true rfl⟩ rfl (Nat.le_of_ble_eq_true rfl) dX4_countRunningOver_9 ⟨(Nat.le_of_ble_eq_true rfl), (Nat.le_of_ble_eq_true rfl)⟩) ?_
    refine xk_icmp_ge (tgt := 42) hC dX4_countRunningOver_12 (by decide) (fun c4 => ?_) (fun c4 => ?_)
    · replace hf := (if_pos c4).symm.trans hf
      refine xk_iload_n hC dX4_countRunningOver_42 1 rfl rfl ?_
      cases hf
      refine xk_widen (k := 0) (n := 0) (Nat.le_of_ble_eq_true rfl) (Nat.le_of_ble_eq_true rfl) ?_
      exact xk_iret hC hr rfl dX4_countRunningOver_43
    · replace hf := (if_neg c4).symm.trans hf
      refine xk_aload_n hC dX4_countRunningOver_15 0 rfl rfl ?_
      refine xk_aload_n hC dX4_countRunningOver_16 0 rfl rfl ?_
      obtain ⟨v5, h5, hf⟩ := xk_bi hf
      refine xk_getR hC xi_0 xc_0 3 (by decide) xm_77 (Or.inl rfl) dX4_countRunningOver_17 h5 ?_
      refine xk_iload_n hC dX4_countRunningOver_20 2 rfl rfl ?_
      obtain ⟨u7, h7, hf⟩ := xk_bi hf
      obtain ⟨q6, h6, hf⟩ := xk_bi hf
      refine xk_backq (xk_callV hC 1 xc_5 (c_Jx4a65c_get_915e3 h6) h7 xm_381 xm_382 xm_383 xm_4 xm_384 ⟨rfl, xd_Jx4a65c_get_915e3⟩ rfl ⟨Nat.le_of_ble_eq_true rfl, Nat.le_of_ble_eq_true rfl⟩ rfl (by simp [xk_cat1, xk_cati, xk_catl, xk_catd]) dX4_countRunningOver_21 ⟨(Nat.le_of_ble_eq_true rfl), (Nat.le_of_ble_eq_true rfl)⟩) ?_
      obtain ⟨u8, h8, hf⟩ := xk_bi hf
      refine xk_cast hC xc_1 xm_311 dX4_countRunningOver_24 h8 ?_
      obtain ⟨u10, h10, hf⟩ := xk_bi hf
      obtain ⟨q9, h9, hf⟩ := xk_bi hf
      refine xk_backi (xk_callV hC 1 xc_0 (c_X4_runsOver h9) h10 xm_507 xm_509 xm_p8 xm_1 xm_510 ⟨rfl, xd_X4_runsOver⟩ rfl ⟨Nat.le_of_ble_eq_true rfl, Nat.le_of_ble_eq_true rfl⟩ rfl (Nat.le_of_ble_eq_true rfl) dX4_countRunningOver_27 ⟨(Nat.le_of_ble_eq_true rfl), (Nat.le_of_ble_eq_true rfl)⟩) ?_
      refine xk_if_eq (tgt := 36) hC dX4_countRunningOver_30 (by decide) (fun c11 => ?_) (fun c11 => ?_)
      · replace hf := (if_pos c11).symm.trans hf
        exact t_X4_countRunningOver_36 hC hr (fun x0 x1 x2 w hf => ih x0 x1 x2 w hf) x0 x1 x2 (q9.2) hf
      · replace hf := (if_neg c11).symm.trans hf
        refine xk_iinc (v := x1 + (1 : Int32)) (lv' := [(1, .int (x1 + (1 : Int32))), (0, va_rf (x0)), (2, .int (x2))]) hC dX4_countRunningOver_33 1 rfl rfl (by decide) (by simp [xk_cat1]) ?_
        refine xk_locals [1, 0, 2] rfl ?_
        exact t_X4_countRunningOver_36 hC hr (fun x0 x1 x2 w hf => ih x0 x1 x2 w hf) x0 (x1 + (1 : Int32)) x2 (q9.2) hf
def f_X4_countRunningOver (x0 : Option Nat) (w : xWd) : Option (Int32 × xWd) := f_X4_countRunningOver_4 4096 x0 ((0 : Int32)) ((0 : Int32)) w
set_option maxHeartbeats 4000000 in
set_option maxRecDepth 100000 in
theorem t_X4_countRunningOver_0 {p : Program} {l : Launch} {e : Env} {s : State} {m : MethodId} {args : Array Value} {below : List Frame} {meth : Method} {c : Code} {E : xEv} (hC : xk_C p s m args meth c E prog_1_method_36_code "Clickbook" 3) (hr : meth.sig.returnType = (some .int)) {q : (Int32 × xWd)} (x0 : Option Nat) (w : xWd) (hf : f_X4_countRunningOver x0 w = some q) : xk_X p l e { frames := 3, cells := 0, slots := 0, locals := 64 } s m args below meth c (MQ below (xk_Qi E q) args s 0 0 (xk_A E.2.2.1)) E 3 0 0 0 [(0, va_rf (x0))] [] w := by
  refine xk_iconst (v := (0 : Int32)) hC dX4_countRunningOver_0 (by decide) ?_
  refine xk_istore_n (i := 1) (lv' := [(1, .int ((0 : Int32))), (0, va_rf (x0))]) hC dX4_countRunningOver_1 rfl (by decide) (by simp [xk_cat1]) ?_
  refine xk_iconst (v := (0 : Int32)) hC dX4_countRunningOver_2 (by decide) ?_
  refine xk_istore_n (i := 2) (lv' := [(2, .int ((0 : Int32))), (1, .int ((0 : Int32))), (0, va_rf (x0))]) hC dX4_countRunningOver_3 rfl (by decide) rfl ?_
  refine xk_locals [2, 1, 0] rfl ?_
  exact t_X4_countRunningOver_4 hC hr 4096 x0 ((0 : Int32)) ((0 : Int32)) w hf
theorem xd_X4_countRunningOver : xy_X4_countRunningOver.cls ≠ "java/lang/invoke/MethodHandle" ∧ xy_X4_countRunningOver.cls ≠ "java/lang/invoke/VarHandle" ∧ (parseMethodDescriptor xy_X4_countRunningOver.desc).map (fun d => d.parameters.length) = some 0 := ⟨by decide +kernel, by decide +kernel, by decide +kernel⟩
theorem c_X4_countRunningOver {l : Launch} {E : xEv} {x0 : Option Nat} {w : xWd} {q : (Int32 × xWd)} (hf : f_X4_countRunningOver x0 w = some q) : xk_M l xy_X4_countRunningOver prog_1_method_36_code 3 (some .int) 3 64 0 0 E [va_rf (x0)] w (xk_Qi E q) := by
  refine xk_enter (by decide +kernel) (by simp [lg_sl, xk_cat1, xk_cati, xk_catl, xk_catd]) ?_
  intro p e s m args below meth c hC hr hin ha
  rw [show lv_args 0 [va_rf (x0)] = [(0, va_rf (x0))] by simp [lv_args, xk_cat1, xk_cati, xk_catl, xk_catd]]
  exact t_X4_countRunningOver_0 hC hr x0 w hf
def f_X4_countSpoiling_36 (k4 : Option Nat → Int32 → Int32 → xWd → Option (Int32 × xWd)) (x0 : Option Nat) (x1 : Int32) (x2 : Int32) (w : xWd) : Option (Int32 × xWd) := k4 x0 x1 (x2 + (1 : Int32)) w
set_option maxHeartbeats 4000000 in
set_option maxRecDepth 100000 in
theorem t_X4_countSpoiling_36 {p : Program} {l : Launch} {e : Env} {s : State} {m : MethodId} {args : Array Value} {below : List Frame} {meth : Method} {c : Code} {E : xEv} (hC : xk_C p s m args meth c E prog_1_method_38_code "Clickbook" 3) (hr : meth.sig.returnType = (some .int)) {q : (Int32 × xWd)} {k4 : Option Nat → Int32 → Int32 → xWd → Option (Int32 × xWd)} (hk4 : ∀ (x0 : Option Nat) (x1 : Int32) (x2 : Int32) (w : xWd), k4 x0 x1 x2 w = some q → xk_X p l e { frames := 3, cells := 0, slots := 0, locals := 64 } s m args below meth c (MQ below (xk_Qi E q) args s 0 0 (xk_A E.2.2.1)) E 3 0 0 4 [(0, va_rf (x0)), (1, .int (x1)), (2, .int (x2))] [] w) (x0 : Option Nat) (x1 : Int32) (x2 : Int32) (w : xWd) (hf : f_X4_countSpoiling_36 k4 x0 x1 x2 w = some q) : xk_X p l e { frames := 3, cells := 0, slots := 0, locals := 64 } s m args below meth c (MQ below (xk_Qi E q) args s 0 0 (xk_A E.2.2.1)) E 3 0 0 36 [(0, va_rf (x0)), (1, .int (x1)), (2, .int (x2))] [] w := by
  refine xk_iinc (v := x2 + (1 : Int32)) (lv' := [(2, .int (x2 + (1 : Int32))), (0, va_rf (x0)), (1, .int (x1))]) hC dX4_countSpoiling_36 2 rfl rfl (by decide) rfl ?_
  refine xk_goto (tgt := 4) hC dX4_countSpoiling_39 (by decide) ?_
  refine xk_locals [1, 2, 0] rfl ?_
  exact hk4 x0 x1 (x2 + (1 : Int32)) w hf
def f_X4_countSpoiling_4 : Nat → Option Nat → Int32 → Int32 → xWd → Option (Int32 × xWd)
  | 0, _, _, _, _ => none
  | n + 1, x0, x1, x2, w => (xk_gR w (x0) 0 3).bind (fun v1 => (xk_is w (v1) 5).bind (fun u3 => (f_Jx4a65c_size_8abf5 (v1)  w).bind (fun q2 => if (q2.1) ≤ (x2) then some (x1, q2.2) else (xk_gR q2.2 (x0) 0 3).bind (fun v5 => (xk_is q2.2 (v5) 5).bind (fun u7 => (f_Jx4a65c_get_915e3 (v5) (x2) q2.2).bind (fun q6 => (xk_cc q6.2 (q6.1) 1).bind (fun u8 => (xk_is q6.2 (x0) 0).bind (fun u10 => (f_X4_spoils (x0) (q6.1) q6.2).bind (fun q9 => if (q9.1) = ((0 : Int32)) then f_X4_countSpoiling_36 (f_X4_countSpoiling_4 n) x0 x1 x2 (q9.2) else f_X4_countSpoiling_36 (f_X4_countSpoiling_4 n) x0 (x1 + (1 : Int32)) x2 (q9.2))))))))))
set_option maxHeartbeats 4000000 in
set_option maxRecDepth 100000 in
theorem t_X4_countSpoiling_4 {p : Program} {l : Launch} {e : Env} {s : State} {m : MethodId} {args : Array Value} {below : List Frame} {meth : Method} {c : Code} {E : xEv} (hC : xk_C p s m args meth c E prog_1_method_38_code "Clickbook" 3) (hr : meth.sig.returnType = (some .int)) {q : (Int32 × xWd)} : ∀ (n : Nat) (x0 : Option Nat) (x1 : Int32) (x2 : Int32) (w : xWd), f_X4_countSpoiling_4 n x0 x1 x2 w = some q → xk_X p l e { frames := 3, cells := 0, slots := 0, locals := 64 } s m args below meth c (MQ below (xk_Qi E q) args s 0 0 (xk_A E.2.2.1)) E 3 0 0 4 [(0, va_rf (x0)), (1, .int (x1)), (2, .int (x2))] [] w := by
  intro n
  induction n with
  | zero => intro x0 x1 x2 w hf; have hf : none = some q := hf; cases hf
  | succ n ih =>
    intro x0 x1 x2 w hf
    refine xk_iload_n hC dX4_countSpoiling_4 2 rfl rfl ?_
    refine xk_aload_n hC dX4_countSpoiling_5 0 rfl rfl ?_
    obtain ⟨v1, h1, hf⟩ := xk_bi hf
    refine xk_getR hC xi_0 xc_0 3 (by decide) xm_77 (Or.inl rfl) dX4_countSpoiling_6 h1 ?_
    obtain ⟨u3, h3, hf⟩ := xk_bi hf
    obtain ⟨q2, h2, hf⟩ := xk_bi hf
    refine xk_backi (xk_callV hC 0 xc_5 (c_Jx4a65c_size_8abf5 h2) h3 xm_187 xm_188 xm_189 xm_4 xm_190 ⟨rfl, xd_Jx4a65c_size_8abf5⟩ rfl ⟨Nat.le_of_ble_eq_true rfl, Nat.le_of_ble_eq_true rfl⟩ rfl (Nat.le_of_ble_eq_true rfl) dX4_countSpoiling_9 ⟨(Nat.le_of_ble_eq_true rfl), (Nat.le_of_ble_eq_true rfl)⟩) ?_
    refine xk_icmp_ge (tgt := 42) hC dX4_countSpoiling_12 (by decide) (fun c4 => ?_) (fun c4 => ?_)
    · replace hf := (if_pos c4).symm.trans hf
      refine xk_iload_n hC dX4_countSpoiling_42 1 rfl rfl ?_
      cases hf
      refine xk_widen (k := 0) (n := 0) (Nat.le_of_ble_eq_true rfl) (Nat.le_of_ble_eq_true rfl) ?_
      exact xk_iret hC hr rfl dX4_countSpoiling_43
    · replace hf := (if_neg c4).symm.trans hf
      refine xk_aload_n hC dX4_countSpoiling_15 0 rfl rfl ?_
      refine xk_aload_n hC dX4_countSpoiling_16 0 rfl rfl ?_
      obtain ⟨v5, h5, hf⟩ := xk_bi hf
      refine xk_getR hC xi_0 xc_0 3 (by decide) xm_77 (Or.inl rfl) dX4_countSpoiling_17 h5 ?_
      refine xk_iload_n hC dX4_countSpoiling_20 2 rfl rfl ?_
      obtain ⟨u7, h7, hf⟩ := xk_bi hf
      obtain ⟨q6, h6, hf⟩ := xk_bi hf
      refine xk_backq (xk_callV hC 1 xc_5 (c_Jx4a65c_get_915e3 h6) h7 xm_381 xm_382 xm_383 xm_4 xm_384 ⟨rfl, xd_Jx4a65c_get_915e3⟩ rfl ⟨Nat.le_of_ble_eq_true rfl, Nat.le_of_ble_eq_true rfl⟩ rfl (by simp [xk_cat1, xk_cati, xk_catl, xk_catd]) dX4_countSpoiling_21 ⟨(Nat.le_of_ble_eq_true rfl), (Nat.le_of_ble_eq_true rfl)⟩) ?_
      obtain ⟨u8, h8, hf⟩ := xk_bi hf
      refine xk_cast hC xc_1 xm_311 dX4_countSpoiling_24 h8 ?_
      obtain ⟨u10, h10, hf⟩ := xk_bi hf
      obtain ⟨q9, h9, hf⟩ := xk_bi hf
      refine xk_backi (xk_callV hC 1 xc_0 (c_X4_spoils h9) h10 xm_511 xm_513 xm_p9 xm_1 xm_514 ⟨rfl, xd_X4_spoils⟩ rfl ⟨Nat.le_of_ble_eq_true rfl, Nat.le_of_ble_eq_true rfl⟩ rfl (Nat.le_of_ble_eq_true rfl) dX4_countSpoiling_27 ⟨(Nat.le_of_ble_eq_true rfl), (Nat.le_of_ble_eq_true rfl)⟩) ?_
      refine xk_if_eq (tgt := 36) hC dX4_countSpoiling_30 (by decide) (fun c11 => ?_) (fun c11 => ?_)
      · replace hf := (if_pos c11).symm.trans hf
        exact t_X4_countSpoiling_36 hC hr (fun x0 x1 x2 w hf => ih x0 x1 x2 w hf) x0 x1 x2 (q9.2) hf
      · replace hf := (if_neg c11).symm.trans hf
        refine xk_iinc (v := x1 + (1 : Int32)) (lv' := [(1, .int (x1 + (1 : Int32))), (0, va_rf (x0)), (2, .int (x2))]) hC dX4_countSpoiling_33 1 rfl rfl (by decide) (by simp [xk_cat1]) ?_
        refine xk_locals [1, 0, 2] rfl ?_
        exact t_X4_countSpoiling_36 hC hr (fun x0 x1 x2 w hf => ih x0 x1 x2 w hf) x0 (x1 + (1 : Int32)) x2 (q9.2) hf
def f_X4_countSpoiling (x0 : Option Nat) (w : xWd) : Option (Int32 × xWd) := f_X4_countSpoiling_4 4096 x0 ((0 : Int32)) ((0 : Int32)) w
set_option maxHeartbeats 4000000 in
set_option maxRecDepth 100000 in
theorem t_X4_countSpoiling_0 {p : Program} {l : Launch} {e : Env} {s : State} {m : MethodId} {args : Array Value} {below : List Frame} {meth : Method} {c : Code} {E : xEv} (hC : xk_C p s m args meth c E prog_1_method_38_code "Clickbook" 3) (hr : meth.sig.returnType = (some .int)) {q : (Int32 × xWd)} (x0 : Option Nat) (w : xWd) (hf : f_X4_countSpoiling x0 w = some q) : xk_X p l e { frames := 3, cells := 0, slots := 0, locals := 64 } s m args below meth c (MQ below (xk_Qi E q) args s 0 0 (xk_A E.2.2.1)) E 3 0 0 0 [(0, va_rf (x0))] [] w := by
  refine xk_iconst (v := (0 : Int32)) hC dX4_countSpoiling_0 (by decide) ?_
  refine xk_istore_n (i := 1) (lv' := [(1, .int ((0 : Int32))), (0, va_rf (x0))]) hC dX4_countSpoiling_1 rfl (by decide) (by simp [xk_cat1]) ?_
  refine xk_iconst (v := (0 : Int32)) hC dX4_countSpoiling_2 (by decide) ?_
  refine xk_istore_n (i := 2) (lv' := [(2, .int ((0 : Int32))), (1, .int ((0 : Int32))), (0, va_rf (x0))]) hC dX4_countSpoiling_3 rfl (by decide) rfl ?_
  refine xk_locals [2, 1, 0] rfl ?_
  exact t_X4_countSpoiling_4 hC hr 4096 x0 ((0 : Int32)) ((0 : Int32)) w hf
theorem xd_X4_countSpoiling : xy_X4_countSpoiling.cls ≠ "java/lang/invoke/MethodHandle" ∧ xy_X4_countSpoiling.cls ≠ "java/lang/invoke/VarHandle" ∧ (parseMethodDescriptor xy_X4_countSpoiling.desc).map (fun d => d.parameters.length) = some 0 := ⟨by decide +kernel, by decide +kernel, by decide +kernel⟩
theorem c_X4_countSpoiling {l : Launch} {E : xEv} {x0 : Option Nat} {w : xWd} {q : (Int32 × xWd)} (hf : f_X4_countSpoiling x0 w = some q) : xk_M l xy_X4_countSpoiling prog_1_method_38_code 3 (some .int) 3 64 0 0 E [va_rf (x0)] w (xk_Qi E q) := by
  refine xk_enter (by decide +kernel) (by simp [lg_sl, xk_cat1, xk_cati, xk_catl, xk_catd]) ?_
  intro p e s m args below meth c hC hr hin ha
  rw [show lv_args 0 [va_rf (x0)] = [(0, va_rf (x0))] by simp [lv_args, xk_cat1, xk_cati, xk_catl, xk_catd]]
  exact t_X4_countSpoiling_0 hC hr x0 w hf
def f_X4_clash_41 (s0 : Int32) (w : xWd) : Option (Int32 × xWd) := (xk_zb (s0)).bind (fun u1 => some (s0, w))
set_option maxHeartbeats 4000000 in
set_option maxRecDepth 100000 in
theorem t_X4_clash_41 {p : Program} {l : Launch} {e : Env} {s : State} {m : MethodId} {args : Array Value} {below : List Frame} {meth : Method} {c : Code} {E : xEv} (hC : xk_C p s m args meth c E prog_1_method_40_code "Clickbook" 2) (hr : meth.sig.returnType = (some .boolean)) {q : (Int32 × xWd)} (s0 : Int32) (w : xWd) (hf : f_X4_clash_41 s0 w = some q) : xk_X p l e { frames := 1, cells := 0, slots := 0, locals := 20 } s m args below meth c (MQ below (xk_Qi E q) args s 0 0 (xk_A E.2.2.1)) E 2 0 0 41 [] [.int (s0)] w := by
  obtain ⟨u1, h1, hf⟩ := xk_bi hf
  cases hf
  refine xk_widen (k := 0) (n := 0) (Nat.le_of_ble_eq_true rfl) (Nat.le_of_ble_eq_true rfl) ?_
  exact xk_iret hC hr (xk_zb_e h1) dX4_clash_41
def f_X4_clash_40 (w : xWd) : Option (Int32 × xWd) := f_X4_clash_41 ((0 : Int32)) w
set_option maxHeartbeats 4000000 in
set_option maxRecDepth 100000 in
theorem t_X4_clash_40 {p : Program} {l : Launch} {e : Env} {s : State} {m : MethodId} {args : Array Value} {below : List Frame} {meth : Method} {c : Code} {E : xEv} (hC : xk_C p s m args meth c E prog_1_method_40_code "Clickbook" 2) (hr : meth.sig.returnType = (some .boolean)) {q : (Int32 × xWd)} (w : xWd) (hf : f_X4_clash_40 w = some q) : xk_X p l e { frames := 1, cells := 0, slots := 0, locals := 20 } s m args below meth c (MQ below (xk_Qi E q) args s 0 0 (xk_A E.2.2.1)) E 2 0 0 40 [] [] w := by
  refine xk_iconst (v := (0 : Int32)) hC dX4_clash_40 (by decide) ?_
  exact t_X4_clash_41 hC hr ((0 : Int32)) w hf
def f_X4_clash (x0 : Option Nat) (x1 : Option Nat) (w : xWd) : Option (Int32 × xWd) := (xk_gI w (x0) 1 7).bind (fun v1 => if (v1) ≤ ((0 : Int32)) then f_X4_clash_40 w else (xk_gI w (x1) 1 7).bind (fun v3 => if (v3) ≤ ((0 : Int32)) then f_X4_clash_40 w else (xk_gI w (x0) 1 1).bind (fun v5 => (xk_is w (x1) 1).bind (fun u7 => (f_X0_end (x1)  w).bind (fun q6 => if (q6.1) ≤ (v5) then f_X4_clash_40 (q6.2) else (xk_gI q6.2 (x1) 1 1).bind (fun v9 => (xk_is q6.2 (x0) 1).bind (fun u11 => (f_X0_end (x0)  q6.2).bind (fun q10 => if (q10.1) ≤ (v9) then f_X4_clash_40 (q10.2) else f_X4_clash_41 ((1 : Int32)) (q10.2)))))))))
set_option maxHeartbeats 4000000 in
set_option maxRecDepth 100000 in
theorem t_X4_clash_0 {p : Program} {l : Launch} {e : Env} {s : State} {m : MethodId} {args : Array Value} {below : List Frame} {meth : Method} {c : Code} {E : xEv} (hC : xk_C p s m args meth c E prog_1_method_40_code "Clickbook" 2) (hr : meth.sig.returnType = (some .boolean)) {q : (Int32 × xWd)} (x0 : Option Nat) (x1 : Option Nat) (w : xWd) (hf : f_X4_clash x0 x1 w = some q) : xk_X p l e { frames := 1, cells := 0, slots := 0, locals := 20 } s m args below meth c (MQ below (xk_Qi E q) args s 0 0 (xk_A E.2.2.1)) E 2 0 0 0 [(0, va_rf (x0)), (1, va_rf (x1))] [] w := by
  refine xk_aload_n hC dX4_clash_0 0 rfl rfl ?_
  obtain ⟨v1, h1, hf⟩ := xk_bi hf
  refine xk_getI hC xi_1 xc_1 7 (by decide) xm_334 (Or.inl rfl) dX4_clash_1 h1 ?_
  refine xk_if_le (tgt := 40) hC dX4_clash_4 (by decide) (fun c2 => ?_) (fun c2 => ?_)
  · replace hf := (if_pos c2).symm.trans hf
    refine xk_locals [] rfl ?_
    exact t_X4_clash_40 hC hr w hf
  · replace hf := (if_neg c2).symm.trans hf
    refine xk_aload_n hC dX4_clash_7 1 rfl rfl ?_
    obtain ⟨v3, h3, hf⟩ := xk_bi hf
    refine xk_getI hC xi_1 xc_1 7 (by decide) xm_334 (Or.inl rfl) dX4_clash_8 h3 ?_
    refine xk_if_le (tgt := 40) hC dX4_clash_11 (by decide) (fun c4 => ?_) (fun c4 => ?_)
    · replace hf := (if_pos c4).symm.trans hf
      refine xk_locals [] rfl ?_
      exact t_X4_clash_40 hC hr w hf
    · replace hf := (if_neg c4).symm.trans hf
      refine xk_aload_n hC dX4_clash_14 0 rfl rfl ?_
      obtain ⟨v5, h5, hf⟩ := xk_bi hf
      refine xk_getI hC xi_1 xc_1 1 (by decide) xm_320 (Or.inl rfl) dX4_clash_15 h5 ?_
      refine xk_aload_n hC dX4_clash_18 1 rfl rfl ?_
      obtain ⟨u7, h7, hf⟩ := xk_bi hf
      obtain ⟨q6, h6, hf⟩ := xk_bi hf
      refine xk_backi (xk_callV hC 0 xc_1 (c_X0_end h6) h7 xm_423 xm_424 xm_425 xm_17 xm_426 ⟨rfl, xd_X0_end⟩ rfl ⟨Nat.le_of_ble_eq_true rfl, Nat.le_of_ble_eq_true rfl⟩ rfl (Nat.le_of_ble_eq_true rfl) dX4_clash_19 ⟨(Nat.le_of_ble_eq_true rfl), (Nat.le_of_ble_eq_true rfl)⟩) ?_
      refine xk_icmp_ge (tgt := 40) hC dX4_clash_22 (by decide) (fun c8 => ?_) (fun c8 => ?_)
      · replace hf := (if_pos c8).symm.trans hf
        refine xk_locals [] rfl ?_
        exact t_X4_clash_40 hC hr (q6.2) hf
      · replace hf := (if_neg c8).symm.trans hf
        refine xk_aload_n hC dX4_clash_25 1 rfl rfl ?_
        obtain ⟨v9, h9, hf⟩ := xk_bi hf
        refine xk_getI hC xi_1 xc_1 1 (by decide) xm_320 (Or.inl rfl) dX4_clash_26 h9 ?_
        refine xk_aload_n hC dX4_clash_29 0 rfl rfl ?_
        obtain ⟨u11, h11, hf⟩ := xk_bi hf
        obtain ⟨q10, h10, hf⟩ := xk_bi hf
        refine xk_backi (xk_callV hC 0 xc_1 (c_X0_end h10) h11 xm_423 xm_424 xm_425 xm_17 xm_426 ⟨rfl, xd_X0_end⟩ rfl ⟨Nat.le_of_ble_eq_true rfl, Nat.le_of_ble_eq_true rfl⟩ rfl (Nat.le_of_ble_eq_true rfl) dX4_clash_30 ⟨(Nat.le_of_ble_eq_true rfl), (Nat.le_of_ble_eq_true rfl)⟩) ?_
        refine xk_icmp_ge (tgt := 40) hC dX4_clash_33 (by decide) (fun c12 => ?_) (fun c12 => ?_)
        · replace hf := (if_pos c12).symm.trans hf
          refine xk_locals [] rfl ?_
          exact t_X4_clash_40 hC hr (q10.2) hf
        · replace hf := (if_neg c12).symm.trans hf
          refine xk_iconst (v := (1 : Int32)) hC dX4_clash_36 (by decide) ?_
          refine xk_goto (tgt := 41) hC dX4_clash_37 (by decide) ?_
          refine xk_locals [] rfl ?_
          exact t_X4_clash_41 hC hr ((1 : Int32)) (q10.2) hf
theorem xd_X4_clash : xy_X4_clash.cls ≠ "java/lang/invoke/MethodHandle" ∧ xy_X4_clash.cls ≠ "java/lang/invoke/VarHandle" ∧ (parseMethodDescriptor xy_X4_clash.desc).map (fun d => d.parameters.length) = some 2 := ⟨by decide +kernel, by decide +kernel, by decide +kernel⟩
theorem c_X4_clash {l : Launch} {E : xEv} {x0 : Option Nat} {x1 : Option Nat} {w : xWd} {q : (Int32 × xWd)} (hf : f_X4_clash x0 x1 w = some q) : xk_M l xy_X4_clash prog_1_method_40_code 2 (some .boolean) 1 20 0 0 E [va_rf (x0), va_rf (x1)] w (xk_Qi E q) := by
  refine xk_enter (by decide +kernel) (by simp [lg_sl, xk_cat1, xk_cati, xk_catl, xk_catd]) ?_
  intro p e s m args below meth c hC hr hin ha
  rw [show lv_args 0 [va_rf (x0), va_rf (x1)] = [(0, va_rf (x0)), (1, va_rf (x1))] by simp [lv_args, xk_cat1, xk_cati, xk_catl, xk_catd]]
  exact t_X4_clash_0 hC hr x0 x1 w hf
def f_X4_countClashes_61 (k4 : Option Nat → Int32 → Int32 → xWd → Option (Int32 × xWd)) (k19 : Option Nat → Int32 → Int32 → Int32 → xWd → Option (Int32 × xWd)) (x0 : Option Nat) (x1 : Int32) (x2 : Int32) (x3 : Int32) (w : xWd) : Option (Int32 × xWd) := k19 x0 x1 x2 (x3 + (1 : Int32)) w
set_option maxHeartbeats 4000000 in
set_option maxRecDepth 100000 in
theorem t_X4_countClashes_61 {p : Program} {l : Launch} {e : Env} {s : State} {m : MethodId} {args : Array Value} {below : List Frame} {meth : Method} {c : Code} {E : xEv} (hC : xk_C p s m args meth c E prog_1_method_39_code "Clickbook" 4) (hr : meth.sig.returnType = (some .int)) {q : (Int32 × xWd)} {k4 : Option Nat → Int32 → Int32 → xWd → Option (Int32 × xWd)} (hk4 : ∀ (x0 : Option Nat) (x1 : Int32) (x2 : Int32) (w : xWd), k4 x0 x1 x2 w = some q → xk_X p l e { frames := 3, cells := 0, slots := 0, locals := 64 } s m args below meth c (MQ below (xk_Qi E q) args s 0 0 (xk_A E.2.2.1)) E 4 0 0 4 [(0, va_rf (x0)), (1, .int (x1)), (2, .int (x2))] [] w) {k19 : Option Nat → Int32 → Int32 → Int32 → xWd → Option (Int32 × xWd)} (hk19 : ∀ (x0 : Option Nat) (x1 : Int32) (x2 : Int32) (x3 : Int32) (w : xWd), k19 x0 x1 x2 x3 w = some q → xk_X p l e { frames := 3, cells := 0, slots := 0, locals := 64 } s m args below meth c (MQ below (xk_Qi E q) args s 0 0 (xk_A E.2.2.1)) E 4 0 0 19 [(0, va_rf (x0)), (1, .int (x1)), (2, .int (x2)), (3, .int (x3))] [] w) (x0 : Option Nat) (x1 : Int32) (x2 : Int32) (x3 : Int32) (w : xWd) (hf : f_X4_countClashes_61 k4 k19 x0 x1 x2 x3 w = some q) : xk_X p l e { frames := 3, cells := 0, slots := 0, locals := 64 } s m args below meth c (MQ below (xk_Qi E q) args s 0 0 (xk_A E.2.2.1)) E 4 0 0 61 [(0, va_rf (x0)), (1, .int (x1)), (2, .int (x2)), (3, .int (x3))] [] w := by
  refine xk_iinc (v := x3 + (1 : Int32)) (lv' := [(3, .int (x3 + (1 : Int32))), (0, va_rf (x0)), (1, .int (x1)), (2, .int (x2))]) hC dX4_countClashes_61 3 rfl rfl (by decide) rfl ?_
  refine xk_goto (tgt := 19) hC dX4_countClashes_64 (by decide) ?_
  refine xk_locals [1, 2, 3, 0] rfl ?_
  exact hk19 x0 x1 x2 (x3 + (1 : Int32)) w hf
def f_X4_countClashes_19 (k4 : Option Nat → Int32 → Int32 → xWd → Option (Int32 × xWd)) : Nat → Option Nat → Int32 → Int32 → Int32 → xWd → Option (Int32 × xWd)
  | 0, _, _, _, _, _ => none
  | n + 1, x0, x1, x2, x3, w => (xk_gR w (x0) 0 3).bind (fun v1 => (xk_is w (v1) 5).bind (fun u3 => (f_Jx4a65c_size_8abf5 (v1)  w).bind (fun q2 => if (q2.1) ≤ (x3) then k4 x0 x1 (x2 + (1 : Int32)) (q2.2) else (xk_gR q2.2 (x0) 0 3).bind (fun v5 => (xk_is q2.2 (v5) 5).bind (fun u7 => (f_Jx4a65c_get_915e3 (v5) (x2) q2.2).bind (fun q6 => (xk_cc q6.2 (q6.1) 1).bind (fun u8 => (xk_gR q6.2 (x0) 0 3).bind (fun v9 => (xk_is q6.2 (v9) 5).bind (fun u11 => (f_Jx4a65c_get_915e3 (v9) (x3) q6.2).bind (fun q10 => (xk_cc q10.2 (q10.1) 1).bind (fun u12 => (f_X4_clash (q6.1) (q10.1) q10.2).bind (fun q13 => if (q13.1) = ((0 : Int32)) then f_X4_countClashes_61 k4 (f_X4_countClashes_19 k4 n) x0 x1 x2 x3 (q13.2) else f_X4_countClashes_61 k4 (f_X4_countClashes_19 k4 n) x0 (x1 + (1 : Int32)) x2 x3 (q13.2)))))))))))))
set_option maxHeartbeats 4000000 in
set_option maxRecDepth 100000 in
theorem t_X4_countClashes_19 {p : Program} {l : Launch} {e : Env} {s : State} {m : MethodId} {args : Array Value} {below : List Frame} {meth : Method} {c : Code} {E : xEv} (hC : xk_C p s m args meth c E prog_1_method_39_code "Clickbook" 4) (hr : meth.sig.returnType = (some .int)) {q : (Int32 × xWd)} {k4 : Option Nat → Int32 → Int32 → xWd → Option (Int32 × xWd)} (hk4 : ∀ (x0 : Option Nat) (x1 : Int32) (x2 : Int32) (w : xWd), k4 x0 x1 x2 w = some q → xk_X p l e { frames := 3, cells := 0, slots := 0, locals := 64 } s m args below meth c (MQ below (xk_Qi E q) args s 0 0 (xk_A E.2.2.1)) E 4 0 0 4 [(0, va_rf (x0)), (1, .int (x1)), (2, .int (x2))] [] w) : ∀ (n : Nat) (x0 : Option Nat) (x1 : Int32) (x2 : Int32) (x3 : Int32) (w : xWd), f_X4_countClashes_19 k4 n x0 x1 x2 x3 w = some q → xk_X p l e { frames := 3, cells := 0, slots := 0, locals := 64 } s m args below meth c (MQ below (xk_Qi E q) args s 0 0 (xk_A E.2.2.1)) E 4 0 0 19 [(0, va_rf (x0)), (1, .int (x1)), (2, .int (x2)), (3, .int (x3))] [] w := by
  intro n
  induction n with
  | zero => intro x0 x1 x2 x3 w hf; have hf : none = some q := hf; cases hf
  | succ n ih =>
    intro x0 x1 x2 x3 w hf
    refine xk_iload_n hC dX4_countClashes_19 3 rfl rfl ?_
    refine xk_aload_n hC dX4_countClashes_20 0 rfl rfl ?_
    obtain ⟨v1, h1, hf⟩ := xk_bi hf
    refine xk_getR hC xi_0 xc_0 3 (by decide) xm_77 (Or.inl rfl) dX4_countClashes_21 h1 ?_
    obtain ⟨u3, h3, hf⟩ := xk_bi hf
    obtain ⟨q2, h2, hf⟩ := xk_bi hf
    refine xk_backi (xk_callV hC 0 xc_5 (c_Jx4a65c_size_8abf5 h2) h3 xm_187 xm_188 xm_189 xm_4 xm_190 ⟨rfl, xd_Jx4a65c_size_8abf5⟩ rfl ⟨Nat.le_of_ble_eq_true rfl, Nat.le_of_ble_eq_true rfl⟩ rfl (Nat.le_of_ble_eq_true rfl) dX4_countClashes_24 ⟨(Nat.le_of_ble_eq_true rfl), (Nat.le_of_ble_eq_true rfl)⟩) ?_
    refine xk_icmp_ge (tgt := 67) hC dX4_countClashes_27 (by decide) (fun c4 => ?_) (fun c4 => ?_)
    · replace hf := (if_pos c4).symm.trans hf
      refine xk_iinc (v := x2 + (1 : Int32)) (lv' := [(2, .int (x2 + (1 : Int32))), (0, va_rf (x0)), (1, .int (x1)), (3, .int (x3))]) hC dX4_countClashes_67 2 rfl rfl (by decide) rfl ?_
      refine xk_goto (tgt := 4) hC dX4_countClashes_70 (by decide) ?_
      refine xk_locals [1, 2, 0] rfl ?_
      exact hk4 x0 x1 (x2 + (1 : Int32)) (q2.2) hf
    · replace hf := (if_neg c4).symm.trans hf
      refine xk_aload_n hC dX4_countClashes_30 0 rfl rfl ?_
      obtain ⟨v5, h5, hf⟩ := xk_bi hf
      refine xk_getR hC xi_0 xc_0 3 (by decide) xm_77 (Or.inl rfl) dX4_countClashes_31 h5 ?_
      refine xk_iload_n hC dX4_countClashes_34 2 rfl rfl ?_
      obtain ⟨u7, h7, hf⟩ := xk_bi hf
      obtain ⟨q6, h6, hf⟩ := xk_bi hf
      refine xk_backq (xk_callV hC 1 xc_5 (c_Jx4a65c_get_915e3 h6) h7 xm_381 xm_382 xm_383 xm_4 xm_384 ⟨rfl, xd_Jx4a65c_get_915e3⟩ rfl ⟨Nat.le_of_ble_eq_true rfl, Nat.le_of_ble_eq_true rfl⟩ rfl (Nat.le_of_ble_eq_true rfl) dX4_countClashes_35 ⟨(Nat.le_of_ble_eq_true rfl), (Nat.le_of_ble_eq_true rfl)⟩) ?_
      obtain ⟨u8, h8, hf⟩ := xk_bi hf
      refine xk_cast hC xc_1 xm_311 dX4_countClashes_38 h8 ?_
      refine xk_aload_n hC dX4_countClashes_41 0 rfl rfl ?_
      obtain ⟨v9, h9, hf⟩ := xk_bi hf
      refine xk_getR hC xi_0 xc_0 3 (by decide) xm_77 (Or.inl rfl) dX4_countClashes_42 h9 ?_
      refine xk_iload_n hC dX4_countClashes_45 3 rfl rfl ?_
      obtain ⟨u11, h11, hf⟩ := xk_bi hf
      obtain ⟨q10, h10, hf⟩ := xk_bi hf
      refine xk_backq (xk_callV hC 1 xc_5 (c_Jx4a65c_get_915e3 h10) h11 xm_381 xm_382 xm_383 xm_4 xm_384 ⟨rfl, xd_Jx4a65c_get_915e3⟩ rfl ⟨Nat.le_of_ble_eq_true rfl, Nat.le_of_ble_eq_true rfl⟩ rfl (by simp [xk_cat1, xk_cati, xk_catl, xk_catd]) dX4_countClashes_46 ⟨(Nat.le_of_ble_eq_true rfl), (Nat.le_of_ble_eq_true rfl)⟩) ?_
      obtain ⟨u12, h12, hf⟩ := xk_bi hf
      refine xk_cast hC xc_1 xm_311 dX4_countClashes_49 h12 ?_
      obtain ⟨q13, h13, hf⟩ := xk_bi hf
      refine xk_backi (xk_callS hC 2 (c_X4_clash h13) xm_562 xm_563 xm_1 xm_564 xd_X4_clash rfl ⟨Nat.le_of_ble_eq_true rfl, Nat.le_of_ble_eq_true rfl⟩ rfl (Nat.le_of_ble_eq_true rfl) dX4_countClashes_52 ⟨(Nat.le_of_ble_eq_true rfl), (Nat.le_of_ble_eq_true rfl)⟩) ?_
      refine xk_if_eq (tgt := 61) hC dX4_countClashes_55 (by decide) (fun c14 => ?_) (fun c14 => ?_)
      · replace hf := (if_pos c14).symm.trans hf
        exact t_X4_countClashes_61 hC hr hk4 (fun x0 x1 x2 x3 w hf => ih x0 x1 x2 x3 w hf) x0 x1 x2 x3 (q13.2) hf
      · replace hf := (if_neg c14).symm.trans hf
        refine xk_iinc (v := x1 + (1 : Int32)) (lv' := [(1, .int (x1 + (1 : Int32))), (0, va_rf (x0)), (2, .int (x2)), (3, .int (x3))]) hC dX4_countClashes_58 1 rfl rfl (by decide) (by simp [xk_cat1]) ?_
        refine xk_locals [1, 0, 2, 3] rfl ?_
        exact t_X4_countClashes_61 hC hr hk4 (fun x0 x1 x2 x3 w hf => ih x0 x1 x2 x3 w hf) x0 (x1 + (1 : Int32)) x2 x3 (q13.2) hf
def f_X4_countClashes_4 : Nat → Option Nat → Int32 → Int32 → xWd → Option (Int32 × xWd)
  | 0, _, _, _, _ => none
  | n + 1, x0, x1, x2, w => (xk_gR w (x0) 0 3).bind (fun v1 => (xk_is w (v1) 5).bind (fun u3 => (f_Jx4a65c_size_8abf5 (v1)  w).bind (fun q2 => if (q2.1) ≤ (x2) then some (x1, q2.2) else f_X4_countClashes_19 (f_X4_countClashes_4 n) 4096 x0 x1 x2 ((x2) + ((1 : Int32))) (q2.2))))
set_option maxHeartbeats 4000000 in
set_option maxRecDepth 100000 in
theorem t_X4_countClashes_4 {p : Program} {l : Launch} {e : Env} {s : State} {m : MethodId} {args : Array Value} {below : List Frame} {meth : Method} {c : Code} {E : xEv} (hC : xk_C p s m args meth c E prog_1_method_39_code "Clickbook" 4) (hr : meth.sig.returnType = (some .int)) {q : (Int32 × xWd)} : ∀ (n : Nat) (x0 : Option Nat) (x1 : Int32) (x2 : Int32) (w : xWd), f_X4_countClashes_4 n x0 x1 x2 w = some q → xk_X p l e { frames := 3, cells := 0, slots := 0, locals := 64 } s m args below meth c (MQ below (xk_Qi E q) args s 0 0 (xk_A E.2.2.1)) E 4 0 0 4 [(0, va_rf (x0)), (1, .int (x1)), (2, .int (x2))] [] w := by
  intro n
  induction n with
  | zero => intro x0 x1 x2 w hf; have hf : none = some q := hf; cases hf
  | succ n ih =>
    intro x0 x1 x2 w hf
    refine xk_iload_n hC dX4_countClashes_4 2 rfl rfl ?_
    refine xk_aload_n hC dX4_countClashes_5 0 rfl rfl ?_
    obtain ⟨v1, h1, hf⟩ := xk_bi hf
    refine xk_getR hC xi_0 xc_0 3 (by decide) xm_77 (Or.inl rfl) dX4_countClashes_6 h1 ?_
    obtain ⟨u3, h3, hf⟩ := xk_bi hf
    obtain ⟨q2, h2, hf⟩ := xk_bi hf
    refine xk_backi (xk_callV hC 0 xc_5 (c_Jx4a65c_size_8abf5 h2) h3 xm_187 xm_188 xm_189 xm_4 xm_190 ⟨rfl, xd_Jx4a65c_size_8abf5⟩ rfl ⟨Nat.le_of_ble_eq_true rfl, Nat.le_of_ble_eq_true rfl⟩ rfl (Nat.le_of_ble_eq_true rfl) dX4_countClashes_9 ⟨(Nat.le_of_ble_eq_true rfl), (Nat.le_of_ble_eq_true rfl)⟩) ?_
    refine xk_icmp_ge (tgt := 73) hC dX4_countClashes_12 (by decide) (fun c4 => ?_) (fun c4 => ?_)
    · replace hf := (if_pos c4).symm.trans hf
      refine xk_iload_n hC dX4_countClashes_73 1 rfl rfl ?_
      cases hf
      refine xk_widen (k := 0) (n := 0) (Nat.le_of_ble_eq_true rfl) (Nat.le_of_ble_eq_true rfl) ?_
      exact xk_iret hC hr rfl dX4_countClashes_74
    · replace hf := (if_neg c4).symm.trans hf
      refine xk_iload_n hC dX4_countClashes_15 2 rfl rfl ?_
      refine xk_iconst (v := (1 : Int32)) hC dX4_countClashes_16 (by decide) ?_
      refine xk_iadd hC dX4_countClashes_17 ?_
      refine xk_istore_n (i := 3) (lv' := [(3, .int ((x2) + ((1 : Int32)))), (0, va_rf (x0)), (1, .int (x1)), (2, .int (x2))]) hC dX4_countClashes_18 rfl (by decide) rfl ?_
      refine xk_locals [1, 2, 3, 0] rfl ?_
      exact t_X4_countClashes_19 hC hr (fun x0 x1 x2 w hf => ih x0 x1 x2 w hf) 4096 x0 x1 x2 ((x2) + ((1 : Int32))) (q2.2) hf
def f_X4_countClashes (x0 : Option Nat) (w : xWd) : Option (Int32 × xWd) := f_X4_countClashes_4 4096 x0 ((0 : Int32)) ((0 : Int32)) w
set_option maxHeartbeats 4000000 in
set_option maxRecDepth 100000 in
theorem t_X4_countClashes_0 {p : Program} {l : Launch} {e : Env} {s : State} {m : MethodId} {args : Array Value} {below : List Frame} {meth : Method} {c : Code} {E : xEv} (hC : xk_C p s m args meth c E prog_1_method_39_code "Clickbook" 4) (hr : meth.sig.returnType = (some .int)) {q : (Int32 × xWd)} (x0 : Option Nat) (w : xWd) (hf : f_X4_countClashes x0 w = some q) : xk_X p l e { frames := 3, cells := 0, slots := 0, locals := 64 } s m args below meth c (MQ below (xk_Qi E q) args s 0 0 (xk_A E.2.2.1)) E 4 0 0 0 [(0, va_rf (x0))] [] w := by
  refine xk_iconst (v := (0 : Int32)) hC dX4_countClashes_0 (by decide) ?_
  refine xk_istore_n (i := 1) (lv' := [(1, .int ((0 : Int32))), (0, va_rf (x0))]) hC dX4_countClashes_1 rfl (by decide) (by simp [xk_cat1]) ?_
  refine xk_iconst (v := (0 : Int32)) hC dX4_countClashes_2 (by decide) ?_
  refine xk_istore_n (i := 2) (lv' := [(2, .int ((0 : Int32))), (1, .int ((0 : Int32))), (0, va_rf (x0))]) hC dX4_countClashes_3 rfl (by decide) rfl ?_
  refine xk_locals [2, 1, 0] rfl ?_
  exact t_X4_countClashes_4 hC hr 4096 x0 ((0 : Int32)) ((0 : Int32)) w hf
theorem xd_X4_countClashes : xy_X4_countClashes.cls ≠ "java/lang/invoke/MethodHandle" ∧ xy_X4_countClashes.cls ≠ "java/lang/invoke/VarHandle" ∧ (parseMethodDescriptor xy_X4_countClashes.desc).map (fun d => d.parameters.length) = some 0 := ⟨by decide +kernel, by decide +kernel, by decide +kernel⟩
theorem c_X4_countClashes {l : Launch} {E : xEv} {x0 : Option Nat} {w : xWd} {q : (Int32 × xWd)} (hf : f_X4_countClashes x0 w = some q) : xk_M l xy_X4_countClashes prog_1_method_39_code 4 (some .int) 3 64 0 0 E [va_rf (x0)] w (xk_Qi E q) := by
  refine xk_enter (by decide +kernel) (by simp [lg_sl, xk_cat1, xk_cati, xk_catl, xk_catd]) ?_
  intro p e s m args below meth c hC hr hin ha
  rw [show lv_args 0 [va_rf (x0)] = [(0, va_rf (x0))] by simp [lv_args, xk_cat1, xk_cati, xk_catl, xk_catd]]
  exact t_X4_countClashes_0 hC hr x0 w hf
def f_X4_countAllValid_35 (k4 : Option Nat → Int32 → Int32 → xWd → Option (Int32 × xWd)) (x0 : Option Nat) (x1 : Int32) (x2 : Int32) (w : xWd) : Option (Int32 × xWd) := k4 x0 x1 (x2 + (1 : Int32)) w
set_option maxHeartbeats 4000000 in
set_option maxRecDepth 100000 in
theorem t_X4_countAllValid_35 {p : Program} {l : Launch} {e : Env} {s : State} {m : MethodId} {args : Array Value} {below : List Frame} {meth : Method} {c : Code} {E : xEv} (hC : xk_C p s m args meth c E prog_1_method_42_code "Clickbook" 3) (hr : meth.sig.returnType = (some .int)) {q : (Int32 × xWd)} {k4 : Option Nat → Int32 → Int32 → xWd → Option (Int32 × xWd)} (hk4 : ∀ (x0 : Option Nat) (x1 : Int32) (x2 : Int32) (w : xWd), k4 x0 x1 x2 w = some q → xk_X p l e { frames := 3, cells := 0, slots := 0, locals := 64 } s m args below meth c (MQ below (xk_Qi E q) args s 0 0 (xk_A E.2.2.1)) E 3 0 0 4 [(0, va_rf (x0)), (1, .int (x1)), (2, .int (x2))] [] w) (x0 : Option Nat) (x1 : Int32) (x2 : Int32) (w : xWd) (hf : f_X4_countAllValid_35 k4 x0 x1 x2 w = some q) : xk_X p l e { frames := 3, cells := 0, slots := 0, locals := 64 } s m args below meth c (MQ below (xk_Qi E q) args s 0 0 (xk_A E.2.2.1)) E 3 0 0 35 [(0, va_rf (x0)), (1, .int (x1)), (2, .int (x2))] [] w := by
  refine xk_iinc (v := x2 + (1 : Int32)) (lv' := [(2, .int (x2 + (1 : Int32))), (0, va_rf (x0)), (1, .int (x1))]) hC dX4_countAllValid_35 2 rfl rfl (by decide) rfl ?_
  refine xk_goto (tgt := 4) hC dX4_countAllValid_38 (by decide) ?_
  refine xk_locals [1, 2, 0] rfl ?_
  exact hk4 x0 x1 (x2 + (1 : Int32)) w hf
def f_X4_countAllValid_4 : Nat → Option Nat → Int32 → Int32 → xWd → Option (Int32 × xWd)
  | 0, _, _, _, _ => none
  | n + 1, x0, x1, x2, w => (xk_gR w (x0) 0 4).bind (fun v1 => (xk_is w (v1) 5).bind (fun u3 => (f_Jx4a65c_size_8abf5 (v1)  w).bind (fun q2 => if (q2.1) ≤ (x2) then some (x1, q2.2) else (xk_gR q2.2 (x0) 0 4).bind (fun v5 => (xk_is q2.2 (v5) 5).bind (fun u7 => (f_Jx4a65c_get_915e3 (v5) (x2) q2.2).bind (fun q6 => (xk_cc q6.2 (q6.1) 4).bind (fun u8 => (xk_is q6.2 (q6.1) 4).bind (fun u10 => (f_X3_isValid (q6.1)  q6.2).bind (fun q9 => if (q9.1) = ((0 : Int32)) then f_X4_countAllValid_35 (f_X4_countAllValid_4 n) x0 x1 x2 (q9.2) else f_X4_countAllValid_35 (f_X4_countAllValid_4 n) x0 (x1 + (1 : Int32)) x2 (q9.2))))))))))
set_option maxHeartbeats 4000000 in
set_option maxRecDepth 100000 in
theorem t_X4_countAllValid_4 {p : Program} {l : Launch} {e : Env} {s : State} {m : MethodId} {args : Array Value} {below : List Frame} {meth : Method} {c : Code} {E : xEv} (hC : xk_C p s m args meth c E prog_1_method_42_code "Clickbook" 3) (hr : meth.sig.returnType = (some .int)) {q : (Int32 × xWd)} : ∀ (n : Nat) (x0 : Option Nat) (x1 : Int32) (x2 : Int32) (w : xWd), f_X4_countAllValid_4 n x0 x1 x2 w = some q → xk_X p l e { frames := 3, cells := 0, slots := 0, locals := 64 } s m args below meth c (MQ below (xk_Qi E q) args s 0 0 (xk_A E.2.2.1)) E 3 0 0 4 [(0, va_rf (x0)), (1, .int (x1)), (2, .int (x2))] [] w := by
  intro n
  induction n with
  | zero => intro x0 x1 x2 w hf; have hf : none = some q := hf; cases hf
  | succ n ih =>
    intro x0 x1 x2 w hf
    refine xk_iload_n hC dX4_countAllValid_4 2 rfl rfl ?_
    refine xk_aload_n hC dX4_countAllValid_5 0 rfl rfl ?_
    obtain ⟨v1, h1, hf⟩ := xk_bi hf
    refine xk_getR hC xi_0 xc_0 4 (by decide) xm_78 (Or.inl rfl) dX4_countAllValid_6 h1 ?_
    obtain ⟨u3, h3, hf⟩ := xk_bi hf
    obtain ⟨q2, h2, hf⟩ := xk_bi hf
    refine xk_backi (xk_callV hC 0 xc_5 (c_Jx4a65c_size_8abf5 h2) h3 xm_187 xm_188 xm_189 xm_4 xm_190 ⟨rfl, xd_Jx4a65c_size_8abf5⟩ rfl ⟨Nat.le_of_ble_eq_true rfl, Nat.le_of_ble_eq_true rfl⟩ rfl (Nat.le_of_ble_eq_true rfl) dX4_countAllValid_9 ⟨(Nat.le_of_ble_eq_true rfl), (Nat.le_of_ble_eq_true rfl)⟩) ?_
    refine xk_icmp_ge (tgt := 41) hC dX4_countAllValid_12 (by decide) (fun c4 => ?_) (fun c4 => ?_)
    · replace hf := (if_pos c4).symm.trans hf
      refine xk_iload_n hC dX4_countAllValid_41 1 rfl rfl ?_
      cases hf
      refine xk_widen (k := 0) (n := 0) (Nat.le_of_ble_eq_true rfl) (Nat.le_of_ble_eq_true rfl) ?_
      exact xk_iret hC hr rfl dX4_countAllValid_42
    · replace hf := (if_neg c4).symm.trans hf
      refine xk_aload_n hC dX4_countAllValid_15 0 rfl rfl ?_
      obtain ⟨v5, h5, hf⟩ := xk_bi hf
      refine xk_getR hC xi_0 xc_0 4 (by decide) xm_78 (Or.inl rfl) dX4_countAllValid_16 h5 ?_
      refine xk_iload_n hC dX4_countAllValid_19 2 rfl rfl ?_
      obtain ⟨u7, h7, hf⟩ := xk_bi hf
      obtain ⟨q6, h6, hf⟩ := xk_bi hf
      refine xk_backq (xk_callV hC 1 xc_5 (c_Jx4a65c_get_915e3 h6) h7 xm_381 xm_382 xm_383 xm_4 xm_384 ⟨rfl, xd_Jx4a65c_get_915e3⟩ rfl ⟨Nat.le_of_ble_eq_true rfl, Nat.le_of_ble_eq_true rfl⟩ rfl (Nat.le_of_ble_eq_true rfl) dX4_countAllValid_20 ⟨(Nat.le_of_ble_eq_true rfl), (Nat.le_of_ble_eq_true rfl)⟩) ?_
      obtain ⟨u8, h8, hf⟩ := xk_bi hf
      refine xk_cast hC xc_4 xm_469 dX4_countAllValid_23 h8 ?_
      obtain ⟨u10, h10, hf⟩ := xk_bi hf
      obtain ⟨q9, h9, hf⟩ := xk_bi hf
      refine xk_backi (xk_callV hC 0 xc_4 (c_X3_isValid h9) h10 xm_519 xm_520 xm_521 xm_20 xm_522 ⟨rfl, xd_X3_isValid⟩ rfl ⟨Nat.le_of_ble_eq_true rfl, Nat.le_of_ble_eq_true rfl⟩ rfl (Nat.le_of_ble_eq_true rfl) dX4_countAllValid_26 ⟨(Nat.le_of_ble_eq_true rfl), (Nat.le_of_ble_eq_true rfl)⟩) ?_
      refine xk_if_eq (tgt := 35) hC dX4_countAllValid_29 (by decide) (fun c11 => ?_) (fun c11 => ?_)
      · replace hf := (if_pos c11).symm.trans hf
        exact t_X4_countAllValid_35 hC hr (fun x0 x1 x2 w hf => ih x0 x1 x2 w hf) x0 x1 x2 (q9.2) hf
      · replace hf := (if_neg c11).symm.trans hf
        refine xk_iinc (v := x1 + (1 : Int32)) (lv' := [(1, .int (x1 + (1 : Int32))), (0, va_rf (x0)), (2, .int (x2))]) hC dX4_countAllValid_32 1 rfl rfl (by decide) (by simp [xk_cat1]) ?_
        refine xk_locals [1, 0, 2] rfl ?_
        exact t_X4_countAllValid_35 hC hr (fun x0 x1 x2 w hf => ih x0 x1 x2 w hf) x0 (x1 + (1 : Int32)) x2 (q9.2) hf
def f_X4_countAllValid (x0 : Option Nat) (w : xWd) : Option (Int32 × xWd) := f_X4_countAllValid_4 4096 x0 ((0 : Int32)) ((0 : Int32)) w
set_option maxHeartbeats 4000000 in
set_option maxRecDepth 100000 in
theorem t_X4_countAllValid_0 {p : Program} {l : Launch} {e : Env} {s : State} {m : MethodId} {args : Array Value} {below : List Frame} {meth : Method} {c : Code} {E : xEv} (hC : xk_C p s m args meth c E prog_1_method_42_code "Clickbook" 3) (hr : meth.sig.returnType = (some .int)) {q : (Int32 × xWd)} (x0 : Option Nat) (w : xWd) (hf : f_X4_countAllValid x0 w = some q) : xk_X p l e { frames := 3, cells := 0, slots := 0, locals := 64 } s m args below meth c (MQ below (xk_Qi E q) args s 0 0 (xk_A E.2.2.1)) E 3 0 0 0 [(0, va_rf (x0))] [] w := by
  refine xk_iconst (v := (0 : Int32)) hC dX4_countAllValid_0 (by decide) ?_
  refine xk_istore_n (i := 1) (lv' := [(1, .int ((0 : Int32))), (0, va_rf (x0))]) hC dX4_countAllValid_1 rfl (by decide) (by simp [xk_cat1]) ?_
  refine xk_iconst (v := (0 : Int32)) hC dX4_countAllValid_2 (by decide) ?_
  refine xk_istore_n (i := 2) (lv' := [(2, .int ((0 : Int32))), (1, .int ((0 : Int32))), (0, va_rf (x0))]) hC dX4_countAllValid_3 rfl (by decide) rfl ?_
  refine xk_locals [2, 1, 0] rfl ?_
  exact t_X4_countAllValid_4 hC hr 4096 x0 ((0 : Int32)) ((0 : Int32)) w hf
theorem xd_X4_countAllValid : xy_X4_countAllValid.cls ≠ "java/lang/invoke/MethodHandle" ∧ xy_X4_countAllValid.cls ≠ "java/lang/invoke/VarHandle" ∧ (parseMethodDescriptor xy_X4_countAllValid.desc).map (fun d => d.parameters.length) = some 0 := ⟨by decide +kernel, by decide +kernel, by decide +kernel⟩
theorem c_X4_countAllValid {l : Launch} {E : xEv} {x0 : Option Nat} {w : xWd} {q : (Int32 × xWd)} (hf : f_X4_countAllValid x0 w = some q) : xk_M l xy_X4_countAllValid prog_1_method_42_code 3 (some .int) 3 64 0 0 E [va_rf (x0)] w (xk_Qi E q) := by
  refine xk_enter (by decide +kernel) (by simp [lg_sl, xk_cat1, xk_cati, xk_catl, xk_catd]) ?_
  intro p e s m args below meth c hC hr hin ha
  rw [show lv_args 0 [va_rf (x0)] = [(0, va_rf (x0))] by simp [lv_args, xk_cat1, xk_cati, xk_catl, xk_catd]]
  exact t_X4_countAllValid_0 hC hr x0 w hf
def f_X4_payToAll_4 : Nat → Option Nat → Int32 → Int32 → xWd → Option (Int32 × xWd)
  | 0, _, _, _, _ => none
  | n + 1, x0, x1, x2, w => (xk_gR w (x0) 0 3).bind (fun v1 => (xk_is w (v1) 5).bind (fun u3 => (f_Jx4a65c_size_8abf5 (v1)  w).bind (fun q2 => if (q2.1) ≤ (x2) then some (x1, q2.2) else (xk_gR q2.2 (x0) 0 3).bind (fun v5 => (xk_is q2.2 (v5) 5).bind (fun u7 => (f_Jx4a65c_get_915e3 (v5) (x2) q2.2).bind (fun q6 => (xk_cc q6.2 (q6.1) 1).bind (fun u8 => (xk_is q6.2 (x0) 0).bind (fun u10 => (f_X4_payOf (x0) (q6.1) q6.2).bind (fun q9 => f_X4_payToAll_4 n x0 ((x1) + (q9.1)) (x2 + (1 : Int32)) (q9.2))))))))))
set_option maxHeartbeats 4000000 in
set_option maxRecDepth 100000 in
theorem t_X4_payToAll_4 {p : Program} {l : Launch} {e : Env} {s : State} {m : MethodId} {args : Array Value} {below : List Frame} {meth : Method} {c : Code} {E : xEv} (hC : xk_C p s m args meth c E prog_1_method_45_code "Clickbook" 3) (hr : meth.sig.returnType = (some .int)) {q : (Int32 × xWd)} : ∀ (n : Nat) (x0 : Option Nat) (x1 : Int32) (x2 : Int32) (w : xWd), f_X4_payToAll_4 n x0 x1 x2 w = some q → xk_X p l e { frames := 6, cells := 0, slots := 0, locals := 132 } s m args below meth c (MQ below (xk_Qi E q) args s 0 0 (xk_A E.2.2.1)) E 3 0 0 4 [(0, va_rf (x0)), (1, .int (x1)), (2, .int (x2))] [] w := by
  intro n
  induction n with
  | zero => intro x0 x1 x2 w hf; have hf : none = some q := hf; cases hf
  | succ n ih =>
    intro x0 x1 x2 w hf
    refine xk_iload_n hC dX4_payToAll_4 2 rfl rfl ?_
    refine xk_aload_n hC dX4_payToAll_5 0 rfl rfl ?_
    obtain ⟨v1, h1, hf⟩ := xk_bi hf
    refine xk_getR hC xi_0 xc_0 3 (by decide) xm_77 (Or.inl rfl) dX4_payToAll_6 h1 ?_
    obtain ⟨u3, h3, hf⟩ := xk_bi hf
    obtain ⟨q2, h2, hf⟩ := xk_bi hf
    refine xk_backi (xk_callV hC 0 xc_5 (c_Jx4a65c_size_8abf5 h2) h3 xm_187 xm_188 xm_189 xm_4 xm_190 ⟨rfl, xd_Jx4a65c_size_8abf5⟩ rfl ⟨Nat.le_of_ble_eq_true rfl, Nat.le_of_ble_eq_true rfl⟩ rfl (Nat.le_of_ble_eq_true rfl) dX4_payToAll_9 ⟨(Nat.le_of_ble_eq_true rfl), (Nat.le_of_ble_eq_true rfl)⟩) ?_
    refine xk_icmp_ge (tgt := 39) hC dX4_payToAll_12 (by decide) (fun c4 => ?_) (fun c4 => ?_)
    · replace hf := (if_pos c4).symm.trans hf
      refine xk_iload_n hC dX4_payToAll_39 1 rfl rfl ?_
      cases hf
      refine xk_widen (k := 0) (n := 0) (Nat.le_of_ble_eq_true rfl) (Nat.le_of_ble_eq_true rfl) ?_
      exact xk_iret hC hr rfl dX4_payToAll_40
    · replace hf := (if_neg c4).symm.trans hf
      refine xk_iload_n hC dX4_payToAll_15 1 rfl rfl ?_
      refine xk_aload_n hC dX4_payToAll_16 0 rfl rfl ?_
      refine xk_aload_n hC dX4_payToAll_17 0 rfl rfl ?_
      obtain ⟨v5, h5, hf⟩ := xk_bi hf
      refine xk_getR hC xi_0 xc_0 3 (by decide) xm_77 (Or.inl rfl) dX4_payToAll_18 h5 ?_
      refine xk_iload_n hC dX4_payToAll_21 2 rfl rfl ?_
      obtain ⟨u7, h7, hf⟩ := xk_bi hf
      obtain ⟨q6, h6, hf⟩ := xk_bi hf
      refine xk_backq (xk_callV hC 1 xc_5 (c_Jx4a65c_get_915e3 h6) h7 xm_381 xm_382 xm_383 xm_4 xm_384 ⟨rfl, xd_Jx4a65c_get_915e3⟩ rfl ⟨Nat.le_of_ble_eq_true rfl, Nat.le_of_ble_eq_true rfl⟩ rfl (by simp [xk_cat1, xk_cati, xk_catl, xk_catd]) dX4_payToAll_22 ⟨(Nat.le_of_ble_eq_true rfl), (Nat.le_of_ble_eq_true rfl)⟩) ?_
      obtain ⟨u8, h8, hf⟩ := xk_bi hf
      refine xk_cast hC xc_1 xm_311 dX4_payToAll_25 h8 ?_
      obtain ⟨u10, h10, hf⟩ := xk_bi hf
      obtain ⟨q9, h9, hf⟩ := xk_bi hf
      refine xk_backi (xk_callV hC 1 xc_0 (c_X4_payOf h9) h10 xm_573 xm_575 xm_p18 xm_1 xm_576 ⟨rfl, xd_X4_payOf⟩ rfl ⟨Nat.le_of_ble_eq_true rfl, Nat.le_of_ble_eq_true rfl⟩ rfl (Nat.le_of_ble_eq_true rfl) dX4_payToAll_28 ⟨(Nat.le_of_ble_eq_true rfl), (Nat.le_of_ble_eq_true rfl)⟩) ?_
      refine xk_iadd hC dX4_payToAll_31 ?_
      refine xk_istore_n (i := 1) (lv' := [(1, .int ((x1) + (q9.1))), (0, va_rf (x0)), (2, .int (x2))]) hC dX4_payToAll_32 rfl (by decide) (by simp [xk_cat1]) ?_
      refine xk_iinc (v := x2 + (1 : Int32)) (lv' := [(2, .int (x2 + (1 : Int32))), (1, .int ((x1) + (q9.1))), (0, va_rf (x0))]) hC dX4_payToAll_33 2 rfl rfl (by decide) rfl ?_
      refine xk_goto (tgt := 4) hC dX4_payToAll_36 (by decide) ?_
      refine xk_locals [2, 1, 0] rfl ?_
      exact ih x0 ((x1) + (q9.1)) (x2 + (1 : Int32)) (q9.2) hf
def f_X4_payToAll (x0 : Option Nat) (w : xWd) : Option (Int32 × xWd) := f_X4_payToAll_4 4096 x0 ((0 : Int32)) ((0 : Int32)) w
set_option maxHeartbeats 4000000 in
set_option maxRecDepth 100000 in
theorem t_X4_payToAll_0 {p : Program} {l : Launch} {e : Env} {s : State} {m : MethodId} {args : Array Value} {below : List Frame} {meth : Method} {c : Code} {E : xEv} (hC : xk_C p s m args meth c E prog_1_method_45_code "Clickbook" 3) (hr : meth.sig.returnType = (some .int)) {q : (Int32 × xWd)} (x0 : Option Nat) (w : xWd) (hf : f_X4_payToAll x0 w = some q) : xk_X p l e { frames := 6, cells := 0, slots := 0, locals := 132 } s m args below meth c (MQ below (xk_Qi E q) args s 0 0 (xk_A E.2.2.1)) E 3 0 0 0 [(0, va_rf (x0))] [] w := by
  refine xk_iconst (v := (0 : Int32)) hC dX4_payToAll_0 (by decide) ?_
  refine xk_istore_n (i := 1) (lv' := [(1, .int ((0 : Int32))), (0, va_rf (x0))]) hC dX4_payToAll_1 rfl (by decide) (by simp [xk_cat1]) ?_
  refine xk_iconst (v := (0 : Int32)) hC dX4_payToAll_2 (by decide) ?_
  refine xk_istore_n (i := 2) (lv' := [(2, .int ((0 : Int32))), (1, .int ((0 : Int32))), (0, va_rf (x0))]) hC dX4_payToAll_3 rfl (by decide) rfl ?_
  refine xk_locals [2, 1, 0] rfl ?_
  exact t_X4_payToAll_4 hC hr 4096 x0 ((0 : Int32)) ((0 : Int32)) w hf
theorem xd_X4_payToAll : xy_X4_payToAll.cls ≠ "java/lang/invoke/MethodHandle" ∧ xy_X4_payToAll.cls ≠ "java/lang/invoke/VarHandle" ∧ (parseMethodDescriptor xy_X4_payToAll.desc).map (fun d => d.parameters.length) = some 0 := ⟨by decide +kernel, by decide +kernel, by decide +kernel⟩
theorem c_X4_payToAll {l : Launch} {E : xEv} {x0 : Option Nat} {w : xWd} {q : (Int32 × xWd)} (hf : f_X4_payToAll x0 w = some q) : xk_M l xy_X4_payToAll prog_1_method_45_code 3 (some .int) 6 132 0 0 E [va_rf (x0)] w (xk_Qi E q) := by
  refine xk_enter (by decide +kernel) (by simp [lg_sl, xk_cat1, xk_cati, xk_catl, xk_catd]) ?_
  intro p e s m args below meth c hC hr hin ha
  rw [show lv_args 0 [va_rf (x0)] = [(0, va_rf (x0))] by simp [lv_args, xk_cat1, xk_cati, xk_catl, xk_catd]]
  exact t_X4_payToAll_0 hC hr x0 w hf
def f_X4_many (x0 : Option Nat) (x1 : Int32) (w : xWd) : Option (Int32 × xWd) := if (x1) = (0 : Int32) then (xk_gI w (x0) 0 5).bind (fun v2 => some (v2, w)) else (if (x1) = (1 : Int32) then (xk_gI w (x0) 0 6).bind (fun v4 => some (v4, w)) else (if (x1) = (2 : Int32) then (xk_gR w (x0) 0 0).bind (fun v6 => (xk_is w (v6) 5).bind (fun u8 => (f_Jx4a65c_size_8abf5 (v6)  w).bind (fun q7 => some (q7.1, q7.2)))) else (if (x1) = (3 : Int32) then (xk_is w (x0) 0).bind (fun u11 => (f_X4_countGone (x0)  w).bind (fun q10 => some (q10.1, q10.2))) else (if (x1) = (4 : Int32) then (xk_is w (x0) 0).bind (fun u14 => (f_X4_countMet (x0)  w).bind (fun q13 => some (q13.1, q13.2))) else (if (x1) = (5 : Int32) then (xk_gI w (x0) 0 2).bind (fun v16 => some (v16, w)) else (if (x1) = (6 : Int32) then (xk_gR w (x0) 0 3).bind (fun v18 => (xk_is w (v18) 5).bind (fun u20 => (f_Jx4a65c_size_8abf5 (v18)  w).bind (fun q19 => some (q19.1, q19.2)))) else (if (x1) = (7 : Int32) then (xk_is w (x0) 0).bind (fun u23 => (f_X4_countRunningOver (x0)  w).bind (fun q22 => some (q22.1, q22.2))) else (if (x1) = (8 : Int32) then (xk_is w (x0) 0).bind (fun u26 => (f_X4_countSpoiling (x0)  w).bind (fun q25 => some (q25.1, q25.2))) else (if (x1) = (9 : Int32) then (xk_is w (x0) 0).bind (fun u29 => (f_X4_countClashes (x0)  w).bind (fun q28 => some (q28.1, q28.2))) else (if (x1) = (10 : Int32) then (xk_gR w (x0) 0 4).bind (fun v31 => (xk_is w (v31) 5).bind (fun u33 => (f_Jx4a65c_size_8abf5 (v31)  w).bind (fun q32 => some (q32.1, q32.2)))) else (if (x1) = (11 : Int32) then (xk_is w (x0) 0).bind (fun u36 => (f_X4_countAllValid (x0)  w).bind (fun q35 => some (q35.1, q35.2))) else (if (x1) = (12 : Int32) then (xk_gI w (x0) 0 7).bind (fun v38 => some (v38, w)) else (if (x1) = (13 : Int32) then (xk_gI w (x0) 0 8).bind (fun v40 => some (v40, w)) else (if (x1) = (14 : Int32) then (xk_gI w (x0) 0 9).bind (fun v42 => some (v42, w)) else (if (x1) = (15 : Int32) then (xk_is w (x0) 0).bind (fun u45 => (f_X4_payToAll (x0)  w).bind (fun q44 => some (q44.1, q44.2))) else (none))))))))))))))))
set_option maxHeartbeats 4000000 in
set_option maxRecDepth 100000 in
theorem t_X4_many_0 {p : Program} {l : Launch} {e : Env} {s : State} {m : MethodId} {args : Array Value} {below : List Frame} {meth : Method} {c : Code} {E : xEv} (hC : xk_C p s m args meth c E prog_1_method_26_code "Clickbook" 2) (hr : meth.sig.returnType = (some .int)) {q : (Int32 × xWd)} (x0 : Option Nat) (x1 : Int32) (w : xWd) (hf : f_X4_many x0 x1 w = some q) : xk_X p l e { frames := 7, cells := 0, slots := 0, locals := 154 } s m args below meth c (MQ below (xk_Qi E q) args s 0 0 (xk_A E.2.2.1)) E 2 0 0 0 [(0, va_rf (x0)), (1, .int (x1))] [] w := by
  refine xk_iload_n hC dX4_many_0 1 rfl rfl ?_
  by_cases c1 : (x1) = (0 : Int32)
  · replace hf := (if_pos c1).symm.trans hf
    refine xk_tableIn (tgt := 80) hC dX4_many_1 (by rw [c1]; decide) (by rw [c1]; decide) (off := 79) (by rw [c1]; rfl) (by decide) ?_
    refine xk_aload_n hC dX4_many_80 0 rfl rfl ?_
    obtain ⟨v2, h2, hf⟩ := xk_bi hf
    refine xk_getI hC xi_0 xc_0 5 (by decide) xm_79 (Or.inl rfl) dX4_many_81 h2 ?_
    cases hf
    refine xk_widen (k := 0) (n := 0) (Nat.le_of_ble_eq_true rfl) (Nat.le_of_ble_eq_true rfl) ?_
    exact xk_iret hC hr rfl dX4_many_84
  · replace hf := (if_neg c1).symm.trans hf
    by_cases c3 : (x1) = (1 : Int32)
    · replace hf := (if_pos c3).symm.trans hf
      refine xk_tableIn (tgt := 85) hC dX4_many_1 (by rw [c3]; decide) (by rw [c3]; decide) (off := 84) (by rw [c3]; rfl) (by decide) ?_
      refine xk_aload_n hC dX4_many_85 0 rfl rfl ?_
      obtain ⟨v4, h4, hf⟩ := xk_bi hf
      refine xk_getI hC xi_0 xc_0 6 (by decide) xm_80 (Or.inl rfl) dX4_many_86 h4 ?_
      cases hf
      refine xk_widen (k := 0) (n := 0) (Nat.le_of_ble_eq_true rfl) (Nat.le_of_ble_eq_true rfl) ?_
      exact xk_iret hC hr rfl dX4_many_89
    · replace hf := (if_neg c3).symm.trans hf
      by_cases c5 : (x1) = (2 : Int32)
      · replace hf := (if_pos c5).symm.trans hf
        refine xk_tableIn (tgt := 90) hC dX4_many_1 (by rw [c5]; decide) (by rw [c5]; decide) (off := 89) (by rw [c5]; rfl) (by decide) ?_
        refine xk_aload_n hC dX4_many_90 0 rfl rfl ?_
        obtain ⟨v6, h6, hf⟩ := xk_bi hf
        refine xk_getR hC xi_0 xc_0 0 (by decide) xm_74 (Or.inl rfl) dX4_many_91 h6 ?_
        obtain ⟨u8, h8, hf⟩ := xk_bi hf
        obtain ⟨q7, h7, hf⟩ := xk_bi hf
        refine xk_backi (xk_callV hC 0 xc_5 (c_Jx4a65c_size_8abf5 h7) h8 xm_187 xm_188 xm_189 xm_4 xm_190 ⟨rfl, xd_Jx4a65c_size_8abf5⟩ rfl ⟨Nat.le_of_ble_eq_true rfl, Nat.le_of_ble_eq_true rfl⟩ rfl (Nat.le_of_ble_eq_true rfl) dX4_many_94 ⟨(Nat.le_of_ble_eq_true rfl), (Nat.le_of_ble_eq_true rfl)⟩) ?_
        cases hf
        refine xk_widen (k := 0) (n := 0) (Nat.le_of_ble_eq_true rfl) (Nat.le_of_ble_eq_true rfl) ?_
        exact xk_iret hC hr rfl dX4_many_97
      · replace hf := (if_neg c5).symm.trans hf
        by_cases c9 : (x1) = (3 : Int32)
        · replace hf := (if_pos c9).symm.trans hf
          refine xk_tableIn (tgt := 98) hC dX4_many_1 (by rw [c9]; decide) (by rw [c9]; decide) (off := 97) (by rw [c9]; rfl) (by decide) ?_
          refine xk_aload_n hC dX4_many_98 0 rfl rfl ?_
          obtain ⟨u11, h11, hf⟩ := xk_bi hf
          obtain ⟨q10, h10, hf⟩ := xk_bi hf
          refine xk_backi (xk_callV hC 0 xc_0 (c_X4_countGone h10) h11 xm_546 xm_548 xm_p12 xm_1 xm_549 ⟨rfl, xd_X4_countGone⟩ rfl ⟨Nat.le_of_ble_eq_true rfl, Nat.le_of_ble_eq_true rfl⟩ rfl (Nat.le_of_ble_eq_true rfl) dX4_many_99 ⟨(Nat.le_of_ble_eq_true rfl), (Nat.le_of_ble_eq_true rfl)⟩) ?_
          cases hf
          refine xk_widen (k := 0) (n := 0) (Nat.le_of_ble_eq_true rfl) (Nat.le_of_ble_eq_true rfl) ?_
          exact xk_iret hC hr rfl dX4_many_102
        · replace hf := (if_neg c9).symm.trans hf
          by_cases c12 : (x1) = (4 : Int32)
          · replace hf := (if_pos c12).symm.trans hf
            refine xk_tableIn (tgt := 103) hC dX4_many_1 (by rw [c12]; decide) (by rw [c12]; decide) (off := 102) (by rw [c12]; rfl) (by decide) ?_
            refine xk_aload_n hC dX4_many_103 0 rfl rfl ?_
            obtain ⟨u14, h14, hf⟩ := xk_bi hf
            obtain ⟨q13, h13, hf⟩ := xk_bi hf
            refine xk_backi (xk_callV hC 0 xc_0 (c_X4_countMet h13) h14 xm_432 xm_434 xm_p5 xm_1 xm_435 ⟨rfl, xd_X4_countMet⟩ rfl ⟨Nat.le_of_ble_eq_true rfl, Nat.le_of_ble_eq_true rfl⟩ rfl (Nat.le_of_ble_eq_true rfl) dX4_many_104 ⟨(Nat.le_of_ble_eq_true rfl), (Nat.le_of_ble_eq_true rfl)⟩) ?_
            cases hf
            refine xk_widen (k := 0) (n := 0) (Nat.le_of_ble_eq_true rfl) (Nat.le_of_ble_eq_true rfl) ?_
            exact xk_iret hC hr rfl dX4_many_107
          · replace hf := (if_neg c12).symm.trans hf
            by_cases c15 : (x1) = (5 : Int32)
            · replace hf := (if_pos c15).symm.trans hf
              refine xk_tableIn (tgt := 108) hC dX4_many_1 (by rw [c15]; decide) (by rw [c15]; decide) (off := 107) (by rw [c15]; rfl) (by decide) ?_
              refine xk_aload_n hC dX4_many_108 0 rfl rfl ?_
              obtain ⟨v16, h16, hf⟩ := xk_bi hf
              refine xk_getI hC xi_0 xc_0 2 (by decide) xm_76 (Or.inl rfl) dX4_many_109 h16 ?_
              cases hf
              refine xk_widen (k := 0) (n := 0) (Nat.le_of_ble_eq_true rfl) (Nat.le_of_ble_eq_true rfl) ?_
              exact xk_iret hC hr rfl dX4_many_112
            · replace hf := (if_neg c15).symm.trans hf
              by_cases c17 : (x1) = (6 : Int32)
              · replace hf := (if_pos c17).symm.trans hf
                refine xk_tableIn (tgt := 113) hC dX4_many_1 (by rw [c17]; decide) (by rw [c17]; decide) (off := 112) (by rw [c17]; rfl) (by decide) ?_
                refine xk_aload_n hC dX4_many_113 0 rfl rfl ?_
                obtain ⟨v18, h18, hf⟩ := xk_bi hf
                refine xk_getR hC xi_0 xc_0 3 (by decide) xm_77 (Or.inl rfl) dX4_many_114 h18 ?_
                obtain ⟨u20, h20, hf⟩ := xk_bi hf
                obtain ⟨q19, h19, hf⟩ := xk_bi hf
                refine xk_backi (xk_callV hC 0 xc_5 (c_Jx4a65c_size_8abf5 h19) h20 xm_187 xm_188 xm_189 xm_4 xm_190 ⟨rfl, xd_Jx4a65c_size_8abf5⟩ rfl ⟨Nat.le_of_ble_eq_true rfl, Nat.le_of_ble_eq_true rfl⟩ rfl (Nat.le_of_ble_eq_true rfl) dX4_many_117 ⟨(Nat.le_of_ble_eq_true rfl), (Nat.le_of_ble_eq_true rfl)⟩) ?_
                cases hf
                refine xk_widen (k := 0) (n := 0) (Nat.le_of_ble_eq_true rfl) (Nat.le_of_ble_eq_true rfl) ?_
                exact xk_iret hC hr rfl dX4_many_120
              · replace hf := (if_neg c17).symm.trans hf
                by_cases c21 : (x1) = (7 : Int32)
                · replace hf := (if_pos c21).symm.trans hf
                  refine xk_tableIn (tgt := 121) hC dX4_many_1 (by rw [c21]; decide) (by rw [c21]; decide) (off := 120) (by rw [c21]; rfl) (by decide) ?_
                  refine xk_aload_n hC dX4_many_121 0 rfl rfl ?_
                  obtain ⟨u23, h23, hf⟩ := xk_bi hf
                  obtain ⟨q22, h22, hf⟩ := xk_bi hf
                  refine xk_backi (xk_callV hC 0 xc_0 (c_X4_countRunningOver h22) h23 xm_550 xm_552 xm_p13 xm_1 xm_553 ⟨rfl, xd_X4_countRunningOver⟩ rfl ⟨Nat.le_of_ble_eq_true rfl, Nat.le_of_ble_eq_true rfl⟩ rfl (Nat.le_of_ble_eq_true rfl) dX4_many_122 ⟨(Nat.le_of_ble_eq_true rfl), (Nat.le_of_ble_eq_true rfl)⟩) ?_
                  cases hf
                  refine xk_widen (k := 0) (n := 0) (Nat.le_of_ble_eq_true rfl) (Nat.le_of_ble_eq_true rfl) ?_
                  exact xk_iret hC hr rfl dX4_many_125
                · replace hf := (if_neg c21).symm.trans hf
                  by_cases c24 : (x1) = (8 : Int32)
                  · replace hf := (if_pos c24).symm.trans hf
                    refine xk_tableIn (tgt := 126) hC dX4_many_1 (by rw [c24]; decide) (by rw [c24]; decide) (off := 125) (by rw [c24]; rfl) (by decide) ?_
                    refine xk_aload_n hC dX4_many_126 0 rfl rfl ?_
                    obtain ⟨u26, h26, hf⟩ := xk_bi hf
                    obtain ⟨q25, h25, hf⟩ := xk_bi hf
                    refine xk_backi (xk_callV hC 0 xc_0 (c_X4_countSpoiling h25) h26 xm_554 xm_556 xm_p14 xm_1 xm_557 ⟨rfl, xd_X4_countSpoiling⟩ rfl ⟨Nat.le_of_ble_eq_true rfl, Nat.le_of_ble_eq_true rfl⟩ rfl (Nat.le_of_ble_eq_true rfl) dX4_many_127 ⟨(Nat.le_of_ble_eq_true rfl), (Nat.le_of_ble_eq_true rfl)⟩) ?_
                    cases hf
                    refine xk_widen (k := 0) (n := 0) (Nat.le_of_ble_eq_true rfl) (Nat.le_of_ble_eq_true rfl) ?_
                    exact xk_iret hC hr rfl dX4_many_130
                  · replace hf := (if_neg c24).symm.trans hf
                    by_cases c27 : (x1) = (9 : Int32)
                    · replace hf := (if_pos c27).symm.trans hf
                      refine xk_tableIn (tgt := 131) hC dX4_many_1 (by rw [c27]; decide) (by rw [c27]; decide) (off := 130) (by rw [c27]; rfl) (by decide) ?_
                      refine xk_aload_n hC dX4_many_131 0 rfl rfl ?_
                      obtain ⟨u29, h29, hf⟩ := xk_bi hf
                      obtain ⟨q28, h28, hf⟩ := xk_bi hf
                      refine xk_backi (xk_callV hC 0 xc_0 (c_X4_countClashes h28) h29 xm_558 xm_560 xm_p15 xm_1 xm_561 ⟨rfl, xd_X4_countClashes⟩ rfl ⟨Nat.le_of_ble_eq_true rfl, Nat.le_of_ble_eq_true rfl⟩ rfl (Nat.le_of_ble_eq_true rfl) dX4_many_132 ⟨(Nat.le_of_ble_eq_true rfl), (Nat.le_of_ble_eq_true rfl)⟩) ?_
                      cases hf
                      refine xk_widen (k := 0) (n := 0) (Nat.le_of_ble_eq_true rfl) (Nat.le_of_ble_eq_true rfl) ?_
                      exact xk_iret hC hr rfl dX4_many_135
                    · replace hf := (if_neg c27).symm.trans hf
                      by_cases c30 : (x1) = (10 : Int32)
                      · replace hf := (if_pos c30).symm.trans hf
                        refine xk_tableIn (tgt := 136) hC dX4_many_1 (by rw [c30]; decide) (by rw [c30]; decide) (off := 135) (by rw [c30]; rfl) (by decide) ?_
                        refine xk_aload_n hC dX4_many_136 0 rfl rfl ?_
                        obtain ⟨v31, h31, hf⟩ := xk_bi hf
                        refine xk_getR hC xi_0 xc_0 4 (by decide) xm_78 (Or.inl rfl) dX4_many_137 h31 ?_
                        obtain ⟨u33, h33, hf⟩ := xk_bi hf
                        obtain ⟨q32, h32, hf⟩ := xk_bi hf
                        refine xk_backi (xk_callV hC 0 xc_5 (c_Jx4a65c_size_8abf5 h32) h33 xm_187 xm_188 xm_189 xm_4 xm_190 ⟨rfl, xd_Jx4a65c_size_8abf5⟩ rfl ⟨Nat.le_of_ble_eq_true rfl, Nat.le_of_ble_eq_true rfl⟩ rfl (Nat.le_of_ble_eq_true rfl) dX4_many_140 ⟨(Nat.le_of_ble_eq_true rfl), (Nat.le_of_ble_eq_true rfl)⟩) ?_
                        cases hf
                        refine xk_widen (k := 0) (n := 0) (Nat.le_of_ble_eq_true rfl) (Nat.le_of_ble_eq_true rfl) ?_
                        exact xk_iret hC hr rfl dX4_many_143
                      · replace hf := (if_neg c30).symm.trans hf
                        by_cases c34 : (x1) = (11 : Int32)
                        · replace hf := (if_pos c34).symm.trans hf
                          refine xk_tableIn (tgt := 144) hC dX4_many_1 (by rw [c34]; decide) (by rw [c34]; decide) (off := 143) (by rw [c34]; rfl) (by decide) ?_
                          refine xk_aload_n hC dX4_many_144 0 rfl rfl ?_
                          obtain ⟨u36, h36, hf⟩ := xk_bi hf
                          obtain ⟨q35, h35, hf⟩ := xk_bi hf
                          refine xk_backi (xk_callV hC 0 xc_0 (c_X4_countAllValid h35) h36 xm_565 xm_567 xm_p16 xm_1 xm_568 ⟨rfl, xd_X4_countAllValid⟩ rfl ⟨Nat.le_of_ble_eq_true rfl, Nat.le_of_ble_eq_true rfl⟩ rfl (Nat.le_of_ble_eq_true rfl) dX4_many_145 ⟨(Nat.le_of_ble_eq_true rfl), (Nat.le_of_ble_eq_true rfl)⟩) ?_
                          cases hf
                          refine xk_widen (k := 0) (n := 0) (Nat.le_of_ble_eq_true rfl) (Nat.le_of_ble_eq_true rfl) ?_
                          exact xk_iret hC hr rfl dX4_many_148
                        · replace hf := (if_neg c34).symm.trans hf
                          by_cases c37 : (x1) = (12 : Int32)
                          · replace hf := (if_pos c37).symm.trans hf
                            refine xk_tableIn (tgt := 149) hC dX4_many_1 (by rw [c37]; decide) (by rw [c37]; decide) (off := 148) (by rw [c37]; rfl) (by decide) ?_
                            refine xk_aload_n hC dX4_many_149 0 rfl rfl ?_
                            obtain ⟨v38, h38, hf⟩ := xk_bi hf
                            refine xk_getI hC xi_0 xc_0 7 (by decide) xm_81 (Or.inl rfl) dX4_many_150 h38 ?_
                            cases hf
                            refine xk_widen (k := 0) (n := 0) (Nat.le_of_ble_eq_true rfl) (Nat.le_of_ble_eq_true rfl) ?_
                            exact xk_iret hC hr rfl dX4_many_153
                          · replace hf := (if_neg c37).symm.trans hf
                            by_cases c39 : (x1) = (13 : Int32)
                            · replace hf := (if_pos c39).symm.trans hf
                              refine xk_tableIn (tgt := 154) hC dX4_many_1 (by rw [c39]; decide) (by rw [c39]; decide) (off := 153) (by rw [c39]; rfl) (by decide) ?_
                              refine xk_aload_n hC dX4_many_154 0 rfl rfl ?_
                              obtain ⟨v40, h40, hf⟩ := xk_bi hf
                              refine xk_getI hC xi_0 xc_0 8 (by decide) xm_82 (Or.inl rfl) dX4_many_155 h40 ?_
                              cases hf
                              refine xk_widen (k := 0) (n := 0) (Nat.le_of_ble_eq_true rfl) (Nat.le_of_ble_eq_true rfl) ?_
                              exact xk_iret hC hr rfl dX4_many_158
                            · replace hf := (if_neg c39).symm.trans hf
                              by_cases c41 : (x1) = (14 : Int32)
                              · replace hf := (if_pos c41).symm.trans hf
                                refine xk_tableIn (tgt := 159) hC dX4_many_1 (by rw [c41]; decide) (by rw [c41]; decide) (off := 158) (by rw [c41]; rfl) (by decide) ?_
                                refine xk_aload_n hC dX4_many_159 0 rfl rfl ?_
                                obtain ⟨v42, h42, hf⟩ := xk_bi hf
                                refine xk_getI hC xi_0 xc_0 9 (by decide) xm_83 (Or.inl rfl) dX4_many_160 h42 ?_
                                cases hf
                                refine xk_widen (k := 0) (n := 0) (Nat.le_of_ble_eq_true rfl) (Nat.le_of_ble_eq_true rfl) ?_
                                exact xk_iret hC hr rfl dX4_many_163
                              · replace hf := (if_neg c41).symm.trans hf
                                by_cases c43 : (x1) = (15 : Int32)
                                · replace hf := (if_pos c43).symm.trans hf
                                  refine xk_tableIn (tgt := 164) hC dX4_many_1 (by rw [c43]; decide) (by rw [c43]; decide) (off := 163) (by rw [c43]; rfl) (by decide) ?_
                                  refine xk_aload_n hC dX4_many_164 0 rfl rfl ?_
                                  obtain ⟨u45, h45, hf⟩ := xk_bi hf
                                  obtain ⟨q44, h44, hf⟩ := xk_bi hf
                                  refine xk_backi (xk_callV hC 0 xc_0 (c_X4_payToAll h44) h45 xm_569 xm_571 xm_p17 xm_1 xm_572 ⟨rfl, xd_X4_payToAll⟩ rfl ⟨Nat.le_of_ble_eq_true rfl, Nat.le_of_ble_eq_true rfl⟩ rfl (Nat.le_of_ble_eq_true rfl) dX4_many_165 ⟨(Nat.le_of_ble_eq_true rfl), (Nat.le_of_ble_eq_true rfl)⟩) ?_
                                  cases hf
                                  refine xk_widen (k := 0) (n := 0) (Nat.le_of_ble_eq_true rfl) (Nat.le_of_ble_eq_true rfl) ?_
                                  exact xk_iret hC hr rfl dX4_many_168
                                · replace hf := (if_neg c43).symm.trans hf
                                  refine xk_tableOut (tgt := 169) hC dX4_many_1 (xk_swo (x1) 0 15 (fun v h1 h2 hv => by
                                      have hh : v = 0 ∨ v = 1 ∨ v = 2 ∨ v = 3 ∨ v = 4 ∨ v = 5 ∨ v = 6 ∨ v = 7 ∨ v = 8 ∨ v = 9 ∨ v = 10 ∨ v = 11 ∨ v = 12 ∨ v = 13 ∨ v = 14 ∨ v = 15 := by omega
                                      rcases hh with rfl | rfl | rfl | rfl | rfl | rfl | rfl | rfl | rfl | rfl | rfl | rfl | rfl | rfl | rfl | rfl
                                      · exact c1 (Int32.toInt_inj.mp (hv.trans (by decide)))
                                      · exact c3 (Int32.toInt_inj.mp (hv.trans (by decide)))
                                      · exact c5 (Int32.toInt_inj.mp (hv.trans (by decide)))
                                      · exact c9 (Int32.toInt_inj.mp (hv.trans (by decide)))
                                      · exact c12 (Int32.toInt_inj.mp (hv.trans (by decide)))
                                      · exact c15 (Int32.toInt_inj.mp (hv.trans (by decide)))
                                      · exact c17 (Int32.toInt_inj.mp (hv.trans (by decide)))
                                      · exact c21 (Int32.toInt_inj.mp (hv.trans (by decide)))
                                      · exact c24 (Int32.toInt_inj.mp (hv.trans (by decide)))
                                      · exact c27 (Int32.toInt_inj.mp (hv.trans (by decide)))
                                      · exact c30 (Int32.toInt_inj.mp (hv.trans (by decide)))
                                      · exact c34 (Int32.toInt_inj.mp (hv.trans (by decide)))
                                      · exact c37 (Int32.toInt_inj.mp (hv.trans (by decide)))
                                      · exact c39 (Int32.toInt_inj.mp (hv.trans (by decide)))
                                      · exact c41 (Int32.toInt_inj.mp (hv.trans (by decide)))
                                      · exact c43 (Int32.toInt_inj.mp (hv.trans (by decide)))
                                      )) (by decide) ?_
                                  cases hf
theorem xd_X4_many : xy_X4_many.cls ≠ "java/lang/invoke/MethodHandle" ∧ xy_X4_many.cls ≠ "java/lang/invoke/VarHandle" ∧ (parseMethodDescriptor xy_X4_many.desc).map (fun d => d.parameters.length) = some 1 := ⟨by decide +kernel, by decide +kernel, by decide +kernel⟩
theorem c_X4_many {l : Launch} {E : xEv} {x0 : Option Nat} {x1 : Int32} {w : xWd} {q : (Int32 × xWd)} (hf : f_X4_many x0 x1 w = some q) : xk_M l xy_X4_many prog_1_method_26_code 2 (some .int) 7 154 0 0 E [va_rf (x0), .int (x1)] w (xk_Qi E q) := by
  refine xk_enter (by decide +kernel) (by simp [lg_sl, xk_cat1, xk_cati, xk_catl, xk_catd]) ?_
  intro p e s m args below meth c hC hr hin ha
  rw [show lv_args 0 [va_rf (x0), .int (x1)] = [(0, va_rf (x0)), (1, .int (x1))] by simp [lv_args, xk_cat1, xk_cati, xk_catl, xk_catd]]
  exact t_X4_many_0 hC hr x0 x1 w hf
def f_X4_meanNote_57 (k6 : Option Nat → Int32 → Int32 → Int32 → xWd → Option (UInt64 × xWd)) (x0 : Option Nat) (x1 : Int32) (x2 : Int32) (x3 : Int32) (w : xWd) : Option (UInt64 × xWd) := k6 x0 x1 x2 (x3 + (1 : Int32)) w
set_option maxHeartbeats 4000000 in
set_option maxRecDepth 100000 in
theorem t_X4_meanNote_57 {p : Program} {l : Launch} {e : Env} {s : State} {m : MethodId} {args : Array Value} {below : List Frame} {meth : Method} {c : Code} {E : xEv} (hC : xk_C p s m args meth c E prog_1_method_27_code "Clickbook" 5) (hr : meth.sig.returnType = (some .double)) {q : (UInt64 × xWd)} {k6 : Option Nat → Int32 → Int32 → Int32 → xWd → Option (UInt64 × xWd)} (hk6 : ∀ (x0 : Option Nat) (x1 : Int32) (x2 : Int32) (x3 : Int32) (w : xWd), k6 x0 x1 x2 x3 w = some q → xk_X p l e { frames := 3, cells := 0, slots := 0, locals := 64 } s m args below meth c (MQ below (xk_Qd E q) args s 0 0 (xk_A E.2.2.1)) E 5 0 0 6 [(0, va_rf (x0)), (1, .int (x1)), (2, .int (x2)), (3, .int (x3))] [] w) (x0 : Option Nat) (x1 : Int32) (x2 : Int32) (x3 : Int32) (w : xWd) (hf : f_X4_meanNote_57 k6 x0 x1 x2 x3 w = some q) : xk_X p l e { frames := 3, cells := 0, slots := 0, locals := 64 } s m args below meth c (MQ below (xk_Qd E q) args s 0 0 (xk_A E.2.2.1)) E 5 0 0 57 [(0, va_rf (x0)), (1, .int (x1)), (2, .int (x2)), (3, .int (x3))] [] w := by
  refine xk_iinc (v := x3 + (1 : Int32)) (lv' := [(3, .int (x3 + (1 : Int32))), (0, va_rf (x0)), (1, .int (x1)), (2, .int (x2))]) hC dX4_meanNote_57 3 rfl rfl (by decide) rfl ?_
  refine xk_goto (tgt := 6) hC dX4_meanNote_60 (by decide) ?_
  refine xk_locals [1, 2, 3, 0] rfl ?_
  exact hk6 x0 x1 x2 (x3 + (1 : Int32)) w hf
def f_X4_meanNote_76 (s0 : UInt64) (w : xWd) : Option (UInt64 × xWd) := some (s0, w)
set_option maxHeartbeats 4000000 in
set_option maxRecDepth 100000 in
theorem t_X4_meanNote_76 {p : Program} {l : Launch} {e : Env} {s : State} {m : MethodId} {args : Array Value} {below : List Frame} {meth : Method} {c : Code} {E : xEv} (hC : xk_C p s m args meth c E prog_1_method_27_code "Clickbook" 5) (hr : meth.sig.returnType = (some .double)) {q : (UInt64 × xWd)} (s0 : UInt64) (w : xWd) (hf : f_X4_meanNote_76 s0 w = some q) : xk_X p l e { frames := 3, cells := 0, slots := 0, locals := 64 } s m args below meth c (MQ below (xk_Qd E q) args s 0 0 (xk_A E.2.2.1)) E 5 0 0 76 [] [.double (s0)] w := by
  cases hf
  refine xk_widen (k := 0) (n := 0) (Nat.le_of_ble_eq_true rfl) (Nat.le_of_ble_eq_true rfl) ?_
  exact xk_dret hC hr dX4_meanNote_76
def f_X4_meanNote_6 : Nat → Option Nat → Int32 → Int32 → Int32 → xWd → Option (UInt64 × xWd)
  | 0, _, _, _, _, _ => none
  | n + 1, x0, x1, x2, x3, w => (xk_gR w (x0) 0 4).bind (fun v1 => (xk_is w (v1) 5).bind (fun u3 => (f_Jx4a65c_size_8abf5 (v1)  w).bind (fun q2 => if (q2.1) ≤ (x3) then if (x2) = ((0 : Int32)) then f_X4_meanNote_76 (FP.dconst0) (q2.2) else (xk_nn (FP.ddiv (FP.i2d (x1)) (FP.i2d (x2)))).bind (fun u6 => f_X4_meanNote_76 (FP.ddiv (FP.i2d (x1)) (FP.i2d (x2))) (q2.2)) else (xk_gR q2.2 (x0) 0 4).bind (fun v7 => (xk_is q2.2 (v7) 5).bind (fun u9 => (f_Jx4a65c_get_915e3 (v7) (x3) q2.2).bind (fun q8 => (xk_cc q8.2 (q8.1) 4).bind (fun u10 => (xk_is q8.2 (q8.1) 4).bind (fun u12 => (f_X3_isValid (q8.1)  q8.2).bind (fun q11 => if (q11.1) = ((0 : Int32)) then f_X4_meanNote_57 (f_X4_meanNote_6 n) x0 x1 x2 x3 (q11.2) else (xk_is q11.2 (q8.1) 4).bind (fun u15 => (f_X3_sumOfNotes (q8.1)  q11.2).bind (fun q14 => (xk_gR q14.2 (q8.1) 4 1).bind (fun v16 => (xk_gI q14.2 (v16) 1 7).bind (fun v17 => f_X4_meanNote_57 (f_X4_meanNote_6 n) x0 ((x1) + (q14.1)) ((x2) + (v17)) x3 (q14.2))))))))))))))
set_option maxHeartbeats 4000000 in
set_option maxRecDepth 100000 in
theorem t_X4_meanNote_6 {p : Program} {l : Launch} {e : Env} {s : State} {m : MethodId} {args : Array Value} {below : List Frame} {meth : Method} {c : Code} {E : xEv} (hC : xk_C p s m args meth c E prog_1_method_27_code "Clickbook" 5) (hr : meth.sig.returnType = (some .double)) {q : (UInt64 × xWd)} : ∀ (n : Nat) (x0 : Option Nat) (x1 : Int32) (x2 : Int32) (x3 : Int32) (w : xWd), f_X4_meanNote_6 n x0 x1 x2 x3 w = some q → xk_X p l e { frames := 3, cells := 0, slots := 0, locals := 64 } s m args below meth c (MQ below (xk_Qd E q) args s 0 0 (xk_A E.2.2.1)) E 5 0 0 6 [(0, va_rf (x0)), (1, .int (x1)), (2, .int (x2)), (3, .int (x3))] [] w := by
  intro n
  induction n with
  | zero => intro x0 x1 x2 x3 w hf; have hf : none = some q := hf; cases hf
  | succ n ih =>
    intro x0 x1 x2 x3 w hf
    refine xk_iload_n hC dX4_meanNote_6 3 rfl rfl ?_
    refine xk_aload_n hC dX4_meanNote_7 0 rfl rfl ?_
    obtain ⟨v1, h1, hf⟩ := xk_bi hf
    refine xk_getR hC xi_0 xc_0 4 (by decide) xm_78 (Or.inl rfl) dX4_meanNote_8 h1 ?_
    obtain ⟨u3, h3, hf⟩ := xk_bi hf
    obtain ⟨q2, h2, hf⟩ := xk_bi hf
    refine xk_backi (xk_callV hC 0 xc_5 (c_Jx4a65c_size_8abf5 h2) h3 xm_187 xm_188 xm_189 xm_4 xm_190 ⟨rfl, xd_Jx4a65c_size_8abf5⟩ rfl ⟨Nat.le_of_ble_eq_true rfl, Nat.le_of_ble_eq_true rfl⟩ rfl (Nat.le_of_ble_eq_true rfl) dX4_meanNote_11 ⟨(Nat.le_of_ble_eq_true rfl), (Nat.le_of_ble_eq_true rfl)⟩) ?_
    refine xk_icmp_ge (tgt := 63) hC dX4_meanNote_14 (by decide) (fun c4 => ?_) (fun c4 => ?_)
    · replace hf := (if_pos c4).symm.trans hf
      refine xk_iload_n hC dX4_meanNote_63 2 rfl rfl ?_
      refine xk_if_ne (tgt := 71) hC dX4_meanNote_64 (by decide) (fun c5 => ?_) (fun c5 => ?_)
      · replace hf := (if_neg c5).symm.trans hf
        refine xk_iload_n hC dX4_meanNote_71 1 rfl rfl ?_
        refine xk_i2d hC dX4_meanNote_72 ?_
        refine xk_iload_n hC dX4_meanNote_73 2 rfl rfl ?_
        refine xk_i2d hC dX4_meanNote_74 ?_
        obtain ⟨u6, h6, hf⟩ := xk_bi hf
        refine xk_ddiv hC dX4_meanNote_75 (xk_nn_e h6) ?_
        refine xk_locals [] rfl ?_
        exact t_X4_meanNote_76 hC hr (FP.ddiv (FP.i2d (x1)) (FP.i2d (x2))) (q2.2) hf
      · replace hf := (if_pos c5).symm.trans hf
        refine xk_dconst0 hC dX4_meanNote_67 ?_
        refine xk_goto (tgt := 76) hC dX4_meanNote_68 (by decide) ?_
        refine xk_locals [] rfl ?_
        exact t_X4_meanNote_76 hC hr (FP.dconst0) (q2.2) hf
    · replace hf := (if_neg c4).symm.trans hf
      refine xk_aload_n hC dX4_meanNote_17 0 rfl rfl ?_
      obtain ⟨v7, h7, hf⟩ := xk_bi hf
      refine xk_getR hC xi_0 xc_0 4 (by decide) xm_78 (Or.inl rfl) dX4_meanNote_18 h7 ?_
      refine xk_iload_n hC dX4_meanNote_21 3 rfl rfl ?_
      obtain ⟨u9, h9, hf⟩ := xk_bi hf
      obtain ⟨q8, h8, hf⟩ := xk_bi hf
      refine xk_backq (xk_callV hC 1 xc_5 (c_Jx4a65c_get_915e3 h8) h9 xm_381 xm_382 xm_383 xm_4 xm_384 ⟨rfl, xd_Jx4a65c_get_915e3⟩ rfl ⟨Nat.le_of_ble_eq_true rfl, Nat.le_of_ble_eq_true rfl⟩ rfl (Nat.le_of_ble_eq_true rfl) dX4_meanNote_22 ⟨(Nat.le_of_ble_eq_true rfl), (Nat.le_of_ble_eq_true rfl)⟩) ?_
      obtain ⟨u10, h10, hf⟩ := xk_bi hf
      refine xk_cast hC xc_4 xm_469 dX4_meanNote_25 h10 ?_
      refine xk_astore (i := 4) (lv' := [(4, va_rf (q8.1)), (0, va_rf (x0)), (1, .int (x1)), (2, .int (x2)), (3, .int (x3))]) hC dX4_meanNote_28 (by decide) rfl ?_
      refine xk_aload hC dX4_meanNote_30 0 rfl ?_
      obtain ⟨u12, h12, hf⟩ := xk_bi hf
      obtain ⟨q11, h11, hf⟩ := xk_bi hf
      refine xk_backi (xk_callV hC 0 xc_4 (c_X3_isValid h11) h12 xm_519 xm_520 xm_521 xm_20 xm_522 ⟨rfl, xd_X3_isValid⟩ rfl ⟨Nat.le_of_ble_eq_true rfl, Nat.le_of_ble_eq_true rfl⟩ rfl (Nat.le_of_ble_eq_true rfl) dX4_meanNote_32 ⟨(Nat.le_of_ble_eq_true rfl), (Nat.le_of_ble_eq_true rfl)⟩) ?_
      refine xk_if_eq (tgt := 57) hC dX4_meanNote_35 (by decide) (fun c13 => ?_) (fun c13 => ?_)
      · replace hf := (if_pos c13).symm.trans hf
        refine xk_locals [1, 2, 3, 4] rfl ?_
        exact t_X4_meanNote_57 hC hr (fun x0 x1 x2 x3 w hf => ih x0 x1 x2 x3 w hf) x0 x1 x2 x3 (q11.2) hf
      · replace hf := (if_neg c13).symm.trans hf
        refine xk_iload_n hC dX4_meanNote_38 2 rfl rfl ?_
        refine xk_aload hC dX4_meanNote_39 0 rfl ?_
        obtain ⟨u15, h15, hf⟩ := xk_bi hf
        obtain ⟨q14, h14, hf⟩ := xk_bi hf
        refine xk_backi (xk_callV hC 0 xc_4 (c_X3_sumOfNotes h14) h15 xm_533 xm_534 xm_535 xm_20 xm_536 ⟨rfl, xd_X3_sumOfNotes⟩ rfl ⟨Nat.le_of_ble_eq_true rfl, Nat.le_of_ble_eq_true rfl⟩ rfl (Nat.le_of_ble_eq_true rfl) dX4_meanNote_41 ⟨(Nat.le_of_ble_eq_true rfl), (Nat.le_of_ble_eq_true rfl)⟩) ?_
        refine xk_iadd hC dX4_meanNote_44 ?_
        refine xk_istore_n (i := 1) (lv' := [(1, .int ((x1) + (q14.1))), (4, va_rf (q8.1)), (0, va_rf (x0)), (2, .int (x2)), (3, .int (x3))]) hC dX4_meanNote_45 rfl (by decide) (by simp [xk_cat1]) ?_
        refine xk_iload_n hC dX4_meanNote_46 3 rfl rfl ?_
        refine xk_aload hC dX4_meanNote_47 1 rfl ?_
        obtain ⟨v16, h16, hf⟩ := xk_bi hf
        refine xk_getR hC xi_4 xc_4 1 (by decide) xm_479 (Or.inl rfl) dX4_meanNote_49 h16 ?_
        obtain ⟨v17, h17, hf⟩ := xk_bi hf
        refine xk_getI hC xi_1 xc_1 7 (by decide) xm_334 (Or.inl rfl) dX4_meanNote_52 h17 ?_
        refine xk_iadd hC dX4_meanNote_55 ?_
        refine xk_istore_n (i := 2) (lv' := [(2, .int ((x2) + (v17))), (1, .int ((x1) + (q14.1))), (4, va_rf (q8.1)), (0, va_rf (x0)), (3, .int (x3))]) hC dX4_meanNote_56 rfl (by decide) rfl ?_
        refine xk_locals [3, 1, 0, 4] rfl ?_
        exact t_X4_meanNote_57 hC hr (fun x0 x1 x2 x3 w hf => ih x0 x1 x2 x3 w hf) x0 ((x1) + (q14.1)) ((x2) + (v17)) x3 (q14.2) hf
def f_X4_meanNote (x0 : Option Nat) (w : xWd) : Option (UInt64 × xWd) := f_X4_meanNote_6 4096 x0 ((0 : Int32)) ((0 : Int32)) ((0 : Int32)) w
set_option maxHeartbeats 4000000 in
set_option maxRecDepth 100000 in
theorem t_X4_meanNote_0 {p : Program} {l : Launch} {e : Env} {s : State} {m : MethodId} {args : Array Value} {below : List Frame} {meth : Method} {c : Code} {E : xEv} (hC : xk_C p s m args meth c E prog_1_method_27_code "Clickbook" 5) (hr : meth.sig.returnType = (some .double)) {q : (UInt64 × xWd)} (x0 : Option Nat) (w : xWd) (hf : f_X4_meanNote x0 w = some q) : xk_X p l e { frames := 3, cells := 0, slots := 0, locals := 64 } s m args below meth c (MQ below (xk_Qd E q) args s 0 0 (xk_A E.2.2.1)) E 5 0 0 0 [(0, va_rf (x0))] [] w := by
  refine xk_iconst (v := (0 : Int32)) hC dX4_meanNote_0 (by decide) ?_
  refine xk_istore_n (i := 1) (lv' := [(1, .int ((0 : Int32))), (0, va_rf (x0))]) hC dX4_meanNote_1 rfl (by decide) (by simp [xk_cat1]) ?_
  refine xk_iconst (v := (0 : Int32)) hC dX4_meanNote_2 (by decide) ?_
  refine xk_istore_n (i := 2) (lv' := [(2, .int ((0 : Int32))), (1, .int ((0 : Int32))), (0, va_rf (x0))]) hC dX4_meanNote_3 rfl (by decide) rfl ?_
  refine xk_iconst (v := (0 : Int32)) hC dX4_meanNote_4 (by decide) ?_
  refine xk_istore_n (i := 3) (lv' := [(3, .int ((0 : Int32))), (2, .int ((0 : Int32))), (1, .int ((0 : Int32))), (0, va_rf (x0))]) hC dX4_meanNote_5 rfl (by decide) rfl ?_
  refine xk_locals [3, 2, 1, 0] rfl ?_
  exact t_X4_meanNote_6 hC hr 4096 x0 ((0 : Int32)) ((0 : Int32)) ((0 : Int32)) w hf
theorem xd_X4_meanNote : xy_X4_meanNote.cls ≠ "java/lang/invoke/MethodHandle" ∧ xy_X4_meanNote.cls ≠ "java/lang/invoke/VarHandle" ∧ (parseMethodDescriptor xy_X4_meanNote.desc).map (fun d => d.parameters.length) = some 0 := ⟨by decide +kernel, by decide +kernel, by decide +kernel⟩
theorem c_X4_meanNote {l : Launch} {E : xEv} {x0 : Option Nat} {w : xWd} {q : (UInt64 × xWd)} (hf : f_X4_meanNote x0 w = some q) : xk_M l xy_X4_meanNote prog_1_method_27_code 5 (some .double) 3 64 0 0 E [va_rf (x0)] w (xk_Qd E q) := by
  refine xk_enter (by decide +kernel) (by simp [lg_sl, xk_cat1, xk_cati, xk_catl, xk_catd]) ?_
  intro p e s m args below meth c hC hr hin ha
  rw [show lv_args 0 [va_rf (x0)] = [(0, va_rf (x0))] by simp [lv_args, xk_cat1, xk_cati, xk_catl, xk_catd]]
  exact t_X4_meanNote_0 hC hr x0 w hf
def f_X4_join (x0 : Option Nat) (x1 : Int32) (w : xWd) : Option (Int32 × xWd) := (xk_gR w (x0) 0 10).bind (fun v1 => (xk_is w (x0) 0).bind (fun u3 => (f_X4_cueNumbered (x0) (x1) w).bind (fun q2 => (xk_gR q2.2 (x0) 0 4).bind (fun v4 => (xk_is q2.2 (v1) 3).bind (fun u6 => (f_X2_fill (v1) (q2.1) (v4) q2.2).bind (fun q5 => (xk_gR q5 (x0) 0 10).bind (fun v7 => (xk_is q5 (v7) 3).bind (fun u9 => (f_X2_bestWorth (v7)  q5).bind (fun q8 => some (q8.1, q8.2))))))))))
set_option maxHeartbeats 4000000 in
set_option maxRecDepth 100000 in
theorem t_X4_join_0 {p : Program} {l : Launch} {e : Env} {s : State} {m : MethodId} {args : Array Value} {below : List Frame} {meth : Method} {c : Code} {E : xEv} (hC : xk_C p s m args meth c E prog_1_method_46_code "Clickbook" 2) (hr : meth.sig.returnType = (some .int)) {q : (Int32 × xWd)} (x0 : Option Nat) (x1 : Int32) (w : xWd) (hf : f_X4_join x0 x1 w = some q) : xk_X p l e { frames := 8, cells := 42, slots := 2688, locals := 194 } s m args below meth c (MQ below (xk_Qi E q) args s 42 2688 (xk_A E.2.2.1)) E 2 0 0 0 [(0, va_rf (x0)), (1, .int (x1))] [] w := by
  refine xk_aload_n hC dX4_join_0 0 rfl rfl ?_
  obtain ⟨v1, h1, hf⟩ := xk_bi hf
  refine xk_getR hC xi_0 xc_0 10 (by decide) xm_84 (Or.inl rfl) dX4_join_1 h1 ?_
  refine xk_aload_n hC dX4_join_4 0 rfl rfl ?_
  refine xk_iload_n hC dX4_join_5 1 rfl rfl ?_
  obtain ⟨u3, h3, hf⟩ := xk_bi hf
  obtain ⟨q2, h2, hf⟩ := xk_bi hf
  refine xk_backq (xk_callV hC 1 xc_0 (c_X4_cueNumbered h2) h3 xm_376 xm_378 xm_p4 xm_1 xm_379 ⟨rfl, xd_X4_cueNumbered⟩ rfl ⟨Nat.le_of_ble_eq_true rfl, Nat.le_of_ble_eq_true rfl⟩ rfl (by simp [xk_cat1, xk_cati, xk_catl, xk_catd]) dX4_join_6 ⟨(Nat.le_of_ble_eq_true rfl), (Nat.le_of_ble_eq_true rfl)⟩) ?_
  refine xk_aload_n hC dX4_join_9 0 rfl rfl ?_
  obtain ⟨v4, h4, hf⟩ := xk_bi hf
  refine xk_getR hC xi_0 xc_0 4 (by decide) xm_78 (Or.inl rfl) dX4_join_10 h4 ?_
  obtain ⟨u6, h6, hf⟩ := xk_bi hf
  obtain ⟨q5, h5, hf⟩ := xk_bi hf
  refine xk_backv (xk_callV hC 2 xc_3 (c_X2_fill h5) h6 xm_586 xm_587 xm_588 xm_5 xm_589 ⟨rfl, xd_X2_fill⟩ rfl ⟨Nat.le_of_ble_eq_true rfl, Nat.le_of_ble_eq_true rfl⟩ rfl (Nat.le_of_ble_eq_true rfl) dX4_join_13 ⟨(Nat.le_of_ble_eq_true rfl), (Nat.le_of_ble_eq_true rfl)⟩) ?_
  refine xk_aload_n hC dX4_join_16 0 rfl rfl ?_
  obtain ⟨v7, h7, hf⟩ := xk_bi hf
  refine xk_getR hC xi_0 xc_0 10 (by decide) xm_84 (Or.inl rfl) dX4_join_17 h7 ?_
  obtain ⟨u9, h9, hf⟩ := xk_bi hf
  obtain ⟨q8, h8, hf⟩ := xk_bi hf
  refine xk_backi (xk_callV hC 0 xc_3 (c_X2_bestWorth h8) h9 xm_620 xm_621 xm_622 xm_5 xm_623 ⟨rfl, xd_X2_bestWorth⟩ rfl ⟨Nat.le_of_ble_eq_true rfl, Nat.le_of_ble_eq_true rfl⟩ rfl (Nat.le_of_ble_eq_true rfl) dX4_join_20 ⟨(Nat.le_of_ble_eq_true rfl), (Nat.le_of_ble_eq_true rfl)⟩) ?_
  cases hf
  refine xk_widen (k := 42) (n := 2688) (Nat.le_of_ble_eq_true rfl) (Nat.le_of_ble_eq_true rfl) ?_
  exact xk_iret hC hr rfl dX4_join_23
theorem xd_X4_join : xy_X4_join.cls ≠ "java/lang/invoke/MethodHandle" ∧ xy_X4_join.cls ≠ "java/lang/invoke/VarHandle" ∧ (parseMethodDescriptor xy_X4_join.desc).map (fun d => d.parameters.length) = some 1 := ⟨by decide +kernel, by decide +kernel, by decide +kernel⟩
theorem c_X4_join {l : Launch} {E : xEv} {x0 : Option Nat} {x1 : Int32} {w : xWd} {q : (Int32 × xWd)} (hf : f_X4_join x0 x1 w = some q) : xk_M l xy_X4_join prog_1_method_46_code 2 (some .int) 8 194 42 2688 E [va_rf (x0), .int (x1)] w (xk_Qi E q) := by
  refine xk_enter (by decide +kernel) (by simp [lg_sl, xk_cat1, xk_cati, xk_catl, xk_catd]) ?_
  intro p e s m args below meth c hC hr hin ha
  rw [show lv_args 0 [va_rf (x0), .int (x1)] = [(0, va_rf (x0)), (1, .int (x1))] by simp [lv_args, xk_cat1, xk_cati, xk_catl, xk_catd]]
  exact t_X4_join_0 hC hr x0 x1 w hf
def f_X4_markMetByOthers_50 (w : xWd) : Option xWd := some w
set_option maxHeartbeats 4000000 in
set_option maxRecDepth 100000 in
theorem t_X4_markMetByOthers_50 {p : Program} {l : Launch} {e : Env} {s : State} {m : MethodId} {args : Array Value} {below : List Frame} {meth : Method} {c : Code} {E : xEv} (hC : xk_C p s m args meth c E prog_1_method_54_code "Clickbook" 3) (hr : meth.sig.returnType = none) {q : xWd} (w : xWd) (hf : f_X4_markMetByOthers_50 w = some q) : xk_X p l e { frames := 4, cells := 0, slots := 0, locals := 88 } s m args below meth c (MQ below (xk_Qv E q) args s 0 0 (xk_A E.2.2.1)) E 3 0 0 50 [] [] w := by
  cases hf
  refine xk_widen (k := 0) (n := 0) (Nat.le_of_ble_eq_true rfl) (Nat.le_of_ble_eq_true rfl) ?_
  exact xk_vret hC hr dX4_markMetByOthers_50
def f_X4_markMetByOthers_2 : Nat → Option Nat → Int32 → Int32 → xWd → Option xWd
  | 0, _, _, _, _ => none
  | n + 1, x0, x1, x2, w => (xk_gR w (x0) 0 0).bind (fun v1 => (xk_is w (v1) 5).bind (fun u3 => (f_Jx4a65c_size_8abf5 (v1)  w).bind (fun q2 => if (q2.1) ≤ (x2) then f_X4_markMetByOthers_50 (q2.2) else (xk_gR q2.2 (x0) 0 12).bind (fun v5 => (xk_len q2.2 (v5)).bind (fun v6 => if (v6) ≤ (x2) then f_X4_markMetByOthers_50 (q2.2) else (xk_gR q2.2 (x0) 0 12).bind (fun v8 => (xk_gR q2.2 (x0) 0 0).bind (fun v9 => (xk_is q2.2 (v9) 5).bind (fun u11 => (f_Jx4a65c_get_915e3 (v9) (x2) q2.2).bind (fun q10 => (xk_cc q10.2 (q10.1) 2).bind (fun u12 => (xk_is q10.2 (x0) 0).bind (fun u14 => (f_X4_isMetBut (x0) (q10.1) (x1) q10.2).bind (fun q13 => (xk_sI 1 q13.2 (v8) (x2) (vp_nar .boolean (q13.1))).bind (fun w15 => f_X4_markMetByOthers_2 n x0 x1 (x2 + (1 : Int32)) w15)))))))))))))
set_option maxHeartbeats 4000000 in
set_option maxRecDepth 100000 in
theorem t_X4_markMetByOthers_2 {p : Program} {l : Launch} {e : Env} {s : State} {m : MethodId} {args : Array Value} {below : List Frame} {meth : Method} {c : Code} {E : xEv} (hC : xk_C p s m args meth c E prog_1_method_54_code "Clickbook" 3) (hr : meth.sig.returnType = none) {q : xWd} : ∀ (n : Nat) (x0 : Option Nat) (x1 : Int32) (x2 : Int32) (w : xWd), f_X4_markMetByOthers_2 n x0 x1 x2 w = some q → xk_X p l e { frames := 4, cells := 0, slots := 0, locals := 88 } s m args below meth c (MQ below (xk_Qv E q) args s 0 0 (xk_A E.2.2.1)) E 3 0 0 2 [(0, va_rf (x0)), (1, .int (x1)), (2, .int (x2))] [] w := by
  intro n
  induction n with
  | zero => intro x0 x1 x2 w hf; have hf : none = some q := hf; cases hf
  | succ n ih =>
    intro x0 x1 x2 w hf
    refine xk_iload_n hC dX4_markMetByOthers_2 2 rfl rfl ?_
    refine xk_aload_n hC dX4_markMetByOthers_3 0 rfl rfl ?_
    obtain ⟨v1, h1, hf⟩ := xk_bi hf
    refine xk_getR hC xi_0 xc_0 0 (by decide) xm_74 (Or.inl rfl) dX4_markMetByOthers_4 h1 ?_
    obtain ⟨u3, h3, hf⟩ := xk_bi hf
    obtain ⟨q2, h2, hf⟩ := xk_bi hf
    refine xk_backi (xk_callV hC 0 xc_5 (c_Jx4a65c_size_8abf5 h2) h3 xm_187 xm_188 xm_189 xm_4 xm_190 ⟨rfl, xd_Jx4a65c_size_8abf5⟩ rfl ⟨Nat.le_of_ble_eq_true rfl, Nat.le_of_ble_eq_true rfl⟩ rfl (Nat.le_of_ble_eq_true rfl) dX4_markMetByOthers_7 ⟨(Nat.le_of_ble_eq_true rfl), (Nat.le_of_ble_eq_true rfl)⟩) ?_
    refine xk_icmp_ge (tgt := 50) hC dX4_markMetByOthers_10 (by decide) (fun c4 => ?_) (fun c4 => ?_)
    · replace hf := (if_pos c4).symm.trans hf
      refine xk_locals [] rfl ?_
      exact t_X4_markMetByOthers_50 hC hr (q2.2) hf
    · replace hf := (if_neg c4).symm.trans hf
      refine xk_iload_n hC dX4_markMetByOthers_13 2 rfl rfl ?_
      refine xk_aload_n hC dX4_markMetByOthers_14 0 rfl rfl ?_
      obtain ⟨v5, h5, hf⟩ := xk_bi hf
      refine xk_getR hC xi_0 xc_0 12 (by decide) xm_86 (Or.inl rfl) dX4_markMetByOthers_15 h5 ?_
      obtain ⟨v6, h6, hf⟩ := xk_bi hf
      refine xk_alen hC dX4_markMetByOthers_18 h6 ?_
      refine xk_icmp_ge (tgt := 50) hC dX4_markMetByOthers_19 (by decide) (fun c7 => ?_) (fun c7 => ?_)
      · replace hf := (if_pos c7).symm.trans hf
        refine xk_locals [] rfl ?_
        exact t_X4_markMetByOthers_50 hC hr (q2.2) hf
      · replace hf := (if_neg c7).symm.trans hf
        refine xk_aload_n hC dX4_markMetByOthers_22 0 rfl rfl ?_
        obtain ⟨v8, h8, hf⟩ := xk_bi hf
        refine xk_getR hC xi_0 xc_0 12 (by decide) xm_86 (Or.inl rfl) dX4_markMetByOthers_23 h8 ?_
        refine xk_iload_n hC dX4_markMetByOthers_26 2 rfl rfl ?_
        refine xk_aload_n hC dX4_markMetByOthers_27 0 rfl rfl ?_
        refine xk_aload_n hC dX4_markMetByOthers_28 0 rfl rfl ?_
        obtain ⟨v9, h9, hf⟩ := xk_bi hf
        refine xk_getR hC xi_0 xc_0 0 (by decide) xm_74 (Or.inl rfl) dX4_markMetByOthers_29 h9 ?_
        refine xk_iload_n hC dX4_markMetByOthers_32 2 rfl rfl ?_
        obtain ⟨u11, h11, hf⟩ := xk_bi hf
        obtain ⟨q10, h10, hf⟩ := xk_bi hf
        refine xk_backq (xk_callV hC 1 xc_5 (c_Jx4a65c_get_915e3 h10) h11 xm_381 xm_382 xm_383 xm_4 xm_384 ⟨rfl, xd_Jx4a65c_get_915e3⟩ rfl ⟨Nat.le_of_ble_eq_true rfl, Nat.le_of_ble_eq_true rfl⟩ rfl (by simp [xk_cat1, xk_cati, xk_catl, xk_catd]) dX4_markMetByOthers_33 ⟨(Nat.le_of_ble_eq_true rfl), (Nat.le_of_ble_eq_true rfl)⟩) ?_
        obtain ⟨u12, h12, hf⟩ := xk_bi hf
        refine xk_cast hC xc_2 xm_207 dX4_markMetByOthers_36 h12 ?_
        refine xk_iload_n hC dX4_markMetByOthers_39 1 rfl rfl ?_
        obtain ⟨u14, h14, hf⟩ := xk_bi hf
        obtain ⟨q13, h13, hf⟩ := xk_bi hf
        refine xk_backi (xk_callV hC 2 xc_0 (c_X4_isMetBut h13) h14 xm_440 xm_442 xm_p7 xm_1 xm_443 ⟨rfl, xd_X4_isMetBut⟩ rfl ⟨Nat.le_of_ble_eq_true rfl, Nat.le_of_ble_eq_true rfl⟩ rfl (by simp [xk_cat1, xk_cati, xk_catl, xk_catd]) dX4_markMetByOthers_40 ⟨(Nat.le_of_ble_eq_true rfl), (Nat.le_of_ble_eq_true rfl)⟩) ?_
        obtain ⟨w15, h15, hf⟩ := xk_bi hf
        refine xk_zast hC rfl dX4_markMetByOthers_43 h15 ?_
        refine xk_iinc (v := x2 + (1 : Int32)) (lv' := [(2, .int (x2 + (1 : Int32))), (0, va_rf (x0)), (1, .int (x1))]) hC dX4_markMetByOthers_44 2 rfl rfl (by decide) rfl ?_
        refine xk_goto (tgt := 2) hC dX4_markMetByOthers_47 (by decide) ?_
        refine xk_locals [1, 2, 0] rfl ?_
        exact ih x0 x1 (x2 + (1 : Int32)) w15 hf
def f_X4_markMetByOthers (x0 : Option Nat) (x1 : Int32) (w : xWd) : Option xWd := f_X4_markMetByOthers_2 4096 x0 x1 ((0 : Int32)) w
set_option maxHeartbeats 4000000 in
set_option maxRecDepth 100000 in
theorem t_X4_markMetByOthers_0 {p : Program} {l : Launch} {e : Env} {s : State} {m : MethodId} {args : Array Value} {below : List Frame} {meth : Method} {c : Code} {E : xEv} (hC : xk_C p s m args meth c E prog_1_method_54_code "Clickbook" 3) (hr : meth.sig.returnType = none) {q : xWd} (x0 : Option Nat) (x1 : Int32) (w : xWd) (hf : f_X4_markMetByOthers x0 x1 w = some q) : xk_X p l e { frames := 4, cells := 0, slots := 0, locals := 88 } s m args below meth c (MQ below (xk_Qv E q) args s 0 0 (xk_A E.2.2.1)) E 3 0 0 0 [(0, va_rf (x0)), (1, .int (x1))] [] w := by
  refine xk_iconst (v := (0 : Int32)) hC dX4_markMetByOthers_0 (by decide) ?_
  refine xk_istore_n (i := 2) (lv' := [(2, .int ((0 : Int32))), (0, va_rf (x0)), (1, .int (x1))]) hC dX4_markMetByOthers_1 rfl (by decide) rfl ?_
  refine xk_locals [1, 2, 0] rfl ?_
  exact t_X4_markMetByOthers_2 hC hr 4096 x0 x1 ((0 : Int32)) w hf
theorem xd_X4_markMetByOthers : xy_X4_markMetByOthers.cls ≠ "java/lang/invoke/MethodHandle" ∧ xy_X4_markMetByOthers.cls ≠ "java/lang/invoke/VarHandle" ∧ (parseMethodDescriptor xy_X4_markMetByOthers.desc).map (fun d => d.parameters.length) = some 1 := ⟨by decide +kernel, by decide +kernel, by decide +kernel⟩
theorem c_X4_markMetByOthers {l : Launch} {E : xEv} {x0 : Option Nat} {x1 : Int32} {w : xWd} {q : xWd} (hf : f_X4_markMetByOthers x0 x1 w = some q) : xk_M l xy_X4_markMetByOthers prog_1_method_54_code 3 none 4 88 0 0 E [va_rf (x0), .int (x1)] w (xk_Qv E q) := by
  refine xk_enter (by decide +kernel) (by simp [lg_sl, xk_cat1, xk_cati, xk_catl, xk_catd]) ?_
  intro p e s m args below meth c hC hr hin ha
  rw [show lv_args 0 [va_rf (x0), .int (x1)] = [(0, va_rf (x0)), (1, .int (x1))] by simp [lv_args, xk_cat1, xk_cati, xk_catl, xk_catd]]
  exact t_X4_markMetByOthers_0 hC hr x0 x1 w hf
def f_X4_countMetWith_82 (k6 : Option Nat → Option Nat → Int32 → Option Nat → Int32 → Int32 → xWd → Option (Int32 × xWd)) (x0 : Option Nat) (x1 : Option Nat) (x2 : Int32) (x3 : Option Nat) (x4 : Int32) (x5 : Int32) (w : xWd) : Option (Int32 × xWd) := k6 x0 x1 x2 x3 x4 (x5 + (1 : Int32)) w
set_option maxHeartbeats 4000000 in
set_option maxRecDepth 100000 in
theorem t_X4_countMetWith_82 {p : Program} {l : Launch} {e : Env} {s : State} {m : MethodId} {args : Array Value} {below : List Frame} {meth : Method} {c : Code} {E : xEv} (hC : xk_C p s m args meth c E prog_1_method_55_code "Clickbook" 7) (hr : meth.sig.returnType = (some .int)) {q : (Int32 × xWd)} {k6 : Option Nat → Option Nat → Int32 → Option Nat → Int32 → Int32 → xWd → Option (Int32 × xWd)} (hk6 : ∀ (x0 : Option Nat) (x1 : Option Nat) (x2 : Int32) (x3 : Option Nat) (x4 : Int32) (x5 : Int32) (w : xWd), k6 x0 x1 x2 x3 x4 x5 w = some q → xk_X p l e { frames := 3, cells := 0, slots := 0, locals := 64 } s m args below meth c (MQ below (xk_Qi E q) args s 0 0 (xk_A E.2.2.1)) E 7 0 0 6 [(0, va_rf (x0)), (1, va_rf (x1)), (2, .int (x2)), (3, va_rf (x3)), (4, .int (x4)), (5, .int (x5))] [] w) (x0 : Option Nat) (x1 : Option Nat) (x2 : Int32) (x3 : Option Nat) (x4 : Int32) (x5 : Int32) (w : xWd) (hf : f_X4_countMetWith_82 k6 x0 x1 x2 x3 x4 x5 w = some q) : xk_X p l e { frames := 3, cells := 0, slots := 0, locals := 64 } s m args below meth c (MQ below (xk_Qi E q) args s 0 0 (xk_A E.2.2.1)) E 7 0 0 82 [(0, va_rf (x0)), (1, va_rf (x1)), (2, .int (x2)), (3, va_rf (x3)), (4, .int (x4)), (5, .int (x5))] [] w := by
  refine xk_iinc (v := x5 + (1 : Int32)) (lv' := [(5, .int (x5 + (1 : Int32))), (0, va_rf (x0)), (1, va_rf (x1)), (2, .int (x2)), (3, va_rf (x3)), (4, .int (x4))]) hC dX4_countMetWith_82 5 rfl rfl (by decide) rfl ?_
  refine xk_goto (tgt := 6) hC dX4_countMetWith_85 (by decide) ?_
  refine xk_locals [1, 2, 3, 4, 5, 0] rfl ?_
  exact hk6 x0 x1 x2 x3 x4 (x5 + (1 : Int32)) w hf
def f_X4_countMetWith_79 (k6 : Option Nat → Option Nat → Int32 → Option Nat → Int32 → Int32 → xWd → Option (Int32 × xWd)) (x0 : Option Nat) (x1 : Option Nat) (x2 : Int32) (x3 : Option Nat) (x4 : Int32) (x5 : Int32) (w : xWd) : Option (Int32 × xWd) := f_X4_countMetWith_82 k6 x0 x1 x2 x3 (x4 + (1 : Int32)) x5 w
set_option maxHeartbeats 4000000 in
set_option maxRecDepth 100000 in
theorem t_X4_countMetWith_79 {p : Program} {l : Launch} {e : Env} {s : State} {m : MethodId} {args : Array Value} {below : List Frame} {meth : Method} {c : Code} {E : xEv} (hC : xk_C p s m args meth c E prog_1_method_55_code "Clickbook" 7) (hr : meth.sig.returnType = (some .int)) {q : (Int32 × xWd)} {k6 : Option Nat → Option Nat → Int32 → Option Nat → Int32 → Int32 → xWd → Option (Int32 × xWd)} (hk6 : ∀ (x0 : Option Nat) (x1 : Option Nat) (x2 : Int32) (x3 : Option Nat) (x4 : Int32) (x5 : Int32) (w : xWd), k6 x0 x1 x2 x3 x4 x5 w = some q → xk_X p l e { frames := 3, cells := 0, slots := 0, locals := 64 } s m args below meth c (MQ below (xk_Qi E q) args s 0 0 (xk_A E.2.2.1)) E 7 0 0 6 [(0, va_rf (x0)), (1, va_rf (x1)), (2, .int (x2)), (3, va_rf (x3)), (4, .int (x4)), (5, .int (x5))] [] w) (x0 : Option Nat) (x1 : Option Nat) (x2 : Int32) (x3 : Option Nat) (x4 : Int32) (x5 : Int32) (w : xWd) (hf : f_X4_countMetWith_79 k6 x0 x1 x2 x3 x4 x5 w = some q) : xk_X p l e { frames := 3, cells := 0, slots := 0, locals := 64 } s m args below meth c (MQ below (xk_Qi E q) args s 0 0 (xk_A E.2.2.1)) E 7 0 0 79 [(0, va_rf (x0)), (1, va_rf (x1)), (2, .int (x2)), (3, va_rf (x3)), (4, .int (x4)), (5, .int (x5))] [] w := by
  refine xk_iinc (v := x4 + (1 : Int32)) (lv' := [(4, .int (x4 + (1 : Int32))), (0, va_rf (x0)), (1, va_rf (x1)), (2, .int (x2)), (3, va_rf (x3)), (5, .int (x5))]) hC dX4_countMetWith_79 4 rfl rfl (by decide) (by simp [xk_cat1]) ?_
  refine xk_locals [1, 2, 3, 4, 0, 5] rfl ?_
  exact t_X4_countMetWith_82 hC hr hk6 x0 x1 x2 x3 (x4 + (1 : Int32)) x5 w hf
def f_X4_countMetWith_88 (x4 : Int32) (w : xWd) : Option (Int32 × xWd) := some (x4, w)
set_option maxHeartbeats 4000000 in
set_option maxRecDepth 100000 in
theorem t_X4_countMetWith_88 {p : Program} {l : Launch} {e : Env} {s : State} {m : MethodId} {args : Array Value} {below : List Frame} {meth : Method} {c : Code} {E : xEv} (hC : xk_C p s m args meth c E prog_1_method_55_code "Clickbook" 7) (hr : meth.sig.returnType = (some .int)) {q : (Int32 × xWd)} (x4 : Int32) (w : xWd) (hf : f_X4_countMetWith_88 x4 w = some q) : xk_X p l e { frames := 3, cells := 0, slots := 0, locals := 64 } s m args below meth c (MQ below (xk_Qi E q) args s 0 0 (xk_A E.2.2.1)) E 7 0 0 88 [(4, .int (x4))] [] w := by
  refine xk_iload hC dX4_countMetWith_88 0 rfl ?_
  cases hf
  refine xk_widen (k := 0) (n := 0) (Nat.le_of_ble_eq_true rfl) (Nat.le_of_ble_eq_true rfl) ?_
  exact xk_iret hC hr rfl dX4_countMetWith_90
def f_X4_countMetWith_6 : Nat → Option Nat → Option Nat → Int32 → Option Nat → Int32 → Int32 → xWd → Option (Int32 × xWd)
  | 0, _, _, _, _, _, _, _ => none
  | n + 1, x0, x1, x2, x3, x4, x5, w => (xk_gR w (x0) 0 0).bind (fun v1 => (xk_is w (v1) 5).bind (fun u3 => (f_Jx4a65c_size_8abf5 (v1)  w).bind (fun q2 => if (q2.1) ≤ (x5) then f_X4_countMetWith_88 x4 (q2.2) else (xk_gR q2.2 (x0) 0 12).bind (fun v5 => (xk_len q2.2 (v5)).bind (fun v6 => if (v6) ≤ (x5) then f_X4_countMetWith_88 x4 (q2.2) else (xk_gR q2.2 (x0) 0 0).bind (fun v8 => (xk_is q2.2 (v8) 5).bind (fun u10 => (f_Jx4a65c_get_915e3 (v8) (x5) q2.2).bind (fun q9 => (xk_cc q9.2 (q9.1) 2).bind (fun u11 => (xk_gR q9.2 (x0) 0 12).bind (fun v12 => (xk_lI 1 q9.2 (v12) (x5)).bind (fun v13 => if (v13) = ((0 : Int32)) then (xk_gI q9.2 (q9.1) 2 2).bind (fun v15 => if (v15) = ((0 : Int32)) then (xk_gI q9.2 (q9.1) 2 0).bind (fun v17 => (xk_gI q9.2 (q9.1) 2 1).bind (fun v18 => (xk_is q9.2 (x1) 1).bind (fun u20 => (f_X0_reaches (x1) (v17) (v18) (x2) (x3) q9.2).bind (fun q19 => if (q19.1) = ((0 : Int32)) then f_X4_countMetWith_82 (f_X4_countMetWith_6 n) x0 x1 x2 x3 x4 x5 (q19.2) else f_X4_countMetWith_79 (f_X4_countMetWith_6 n) x0 x1 x2 x3 x4 x5 (q19.2))))) else f_X4_countMetWith_82 (f_X4_countMetWith_6 n) x0 x1 x2 x3 x4 x5 (q9.2)) else f_X4_countMetWith_79 (f_X4_countMetWith_6 n) x0 x1 x2 x3 x4 x5 (q9.2))))))))))))
set_option maxHeartbeats 4000000 in
set_option maxRecDepth 100000 in
theorem t_X4_countMetWith_6 {p : Program} {l : Launch} {e : Env} {s : State} {m : MethodId} {args : Array Value} {below : List Frame} {meth : Method} {c : Code} {E : xEv} (hC : xk_C p s m args meth c E prog_1_method_55_code "Clickbook" 7) (hr : meth.sig.returnType = (some .int)) {q : (Int32 × xWd)} : ∀ (n : Nat) (x0 : Option Nat) (x1 : Option Nat) (x2 : Int32) (x3 : Option Nat) (x4 : Int32) (x5 : Int32) (w : xWd), f_X4_countMetWith_6 n x0 x1 x2 x3 x4 x5 w = some q → xk_X p l e { frames := 3, cells := 0, slots := 0, locals := 64 } s m args below meth c (MQ below (xk_Qi E q) args s 0 0 (xk_A E.2.2.1)) E 7 0 0 6 [(0, va_rf (x0)), (1, va_rf (x1)), (2, .int (x2)), (3, va_rf (x3)), (4, .int (x4)), (5, .int (x5))] [] w := by
  intro n
  induction n with
  | zero => intro x0 x1 x2 x3 x4 x5 w hf; have hf : none = some q := hf; cases hf
  | succ n ih =>
    intro x0 x1 x2 x3 x4 x5 w hf
    refine xk_iload hC dX4_countMetWith_6 5 rfl ?_
    refine xk_aload_n hC dX4_countMetWith_8 0 rfl rfl ?_
    obtain ⟨v1, h1, hf⟩ := xk_bi hf
    refine xk_getR hC xi_0 xc_0 0 (by decide) xm_74 (Or.inl rfl) dX4_countMetWith_9 h1 ?_
    obtain ⟨u3, h3, hf⟩ := xk_bi hf
    obtain ⟨q2, h2, hf⟩ := xk_bi hf
    refine xk_backi (xk_callV hC 0 xc_5 (c_Jx4a65c_size_8abf5 h2) h3 xm_187 xm_188 xm_189 xm_4 xm_190 ⟨rfl, xd_Jx4a65c_size_8abf5⟩ rfl ⟨Nat.le_of_ble_eq_true rfl, Nat.le_of_ble_eq_true rfl⟩ rfl (Nat.le_of_ble_eq_true rfl) dX4_countMetWith_12 ⟨(Nat.le_of_ble_eq_true rfl), (Nat.le_of_ble_eq_true rfl)⟩) ?_
    refine xk_icmp_ge (tgt := 88) hC dX4_countMetWith_15 (by decide) (fun c4 => ?_) (fun c4 => ?_)
    · replace hf := (if_pos c4).symm.trans hf
      refine xk_locals [4] rfl ?_
      exact t_X4_countMetWith_88 hC hr x4 (q2.2) hf
    · replace hf := (if_neg c4).symm.trans hf
      refine xk_iload hC dX4_countMetWith_18 5 rfl ?_
      refine xk_aload_n hC dX4_countMetWith_20 0 rfl rfl ?_
      obtain ⟨v5, h5, hf⟩ := xk_bi hf
      refine xk_getR hC xi_0 xc_0 12 (by decide) xm_86 (Or.inl rfl) dX4_countMetWith_21 h5 ?_
      obtain ⟨v6, h6, hf⟩ := xk_bi hf
      refine xk_alen hC dX4_countMetWith_24 h6 ?_
      refine xk_icmp_ge (tgt := 88) hC dX4_countMetWith_25 (by decide) (fun c7 => ?_) (fun c7 => ?_)
      · replace hf := (if_pos c7).symm.trans hf
        refine xk_locals [4] rfl ?_
        exact t_X4_countMetWith_88 hC hr x4 (q2.2) hf
      · replace hf := (if_neg c7).symm.trans hf
        refine xk_aload_n hC dX4_countMetWith_28 0 rfl rfl ?_
        obtain ⟨v8, h8, hf⟩ := xk_bi hf
        refine xk_getR hC xi_0 xc_0 0 (by decide) xm_74 (Or.inl rfl) dX4_countMetWith_29 h8 ?_
        refine xk_iload hC dX4_countMetWith_32 5 rfl ?_
        obtain ⟨u10, h10, hf⟩ := xk_bi hf
        obtain ⟨q9, h9, hf⟩ := xk_bi hf
        refine xk_backq (xk_callV hC 1 xc_5 (c_Jx4a65c_get_915e3 h9) h10 xm_381 xm_382 xm_383 xm_4 xm_384 ⟨rfl, xd_Jx4a65c_get_915e3⟩ rfl ⟨Nat.le_of_ble_eq_true rfl, Nat.le_of_ble_eq_true rfl⟩ rfl (Nat.le_of_ble_eq_true rfl) dX4_countMetWith_34 ⟨(Nat.le_of_ble_eq_true rfl), (Nat.le_of_ble_eq_true rfl)⟩) ?_
        obtain ⟨u11, h11, hf⟩ := xk_bi hf
        refine xk_cast hC xc_2 xm_207 dX4_countMetWith_37 h11 ?_
        refine xk_astore (i := 6) (lv' := [(6, va_rf (q9.1)), (0, va_rf (x0)), (1, va_rf (x1)), (2, .int (x2)), (3, va_rf (x3)), (4, .int (x4)), (5, .int (x5))]) hC dX4_countMetWith_40 (by decide) rfl ?_
        refine xk_aload_n hC dX4_countMetWith_42 1 rfl rfl ?_
        obtain ⟨v12, h12, hf⟩ := xk_bi hf
        refine xk_getR hC xi_0 xc_0 12 (by decide) xm_86 (Or.inl rfl) dX4_countMetWith_43 h12 ?_
        refine xk_iload hC dX4_countMetWith_46 6 rfl ?_
        obtain ⟨v13, h13, hf⟩ := xk_bi hf
        refine xk_zald hC rfl dX4_countMetWith_48 h13 ?_
        refine xk_if_ne (tgt := 79) hC dX4_countMetWith_49 (by decide) (fun c14 => ?_) (fun c14 => ?_)
        · replace hf := (if_neg c14).symm.trans hf
          refine xk_locals [1, 2, 3, 4, 5, 6] rfl ?_
          exact t_X4_countMetWith_79 hC hr (fun x0 x1 x2 x3 x4 x5 w hf => ih x0 x1 x2 x3 x4 x5 w hf) x0 x1 x2 x3 x4 x5 (q9.2) hf
        · replace hf := (if_pos c14).symm.trans hf
          refine xk_aload hC dX4_countMetWith_52 0 rfl ?_
          obtain ⟨v15, h15, hf⟩ := xk_bi hf
          refine xk_getI hC xi_2 xc_2 2 (by decide) xm_218 (Or.inl rfl) dX4_countMetWith_54 h15 ?_
          refine xk_if_ne (tgt := 82) hC dX4_countMetWith_57 (by decide) (fun c16 => ?_) (fun c16 => ?_)
          · replace hf := (if_neg c16).symm.trans hf
            refine xk_locals [1, 2, 3, 4, 5, 6] rfl ?_
            exact t_X4_countMetWith_82 hC hr (fun x0 x1 x2 x3 x4 x5 w hf => ih x0 x1 x2 x3 x4 x5 w hf) x0 x1 x2 x3 x4 x5 (q9.2) hf
          · replace hf := (if_pos c16).symm.trans hf
            refine xk_aload_n hC dX4_countMetWith_60 2 rfl rfl ?_
            refine xk_aload hC dX4_countMetWith_61 0 rfl ?_
            obtain ⟨v17, h17, hf⟩ := xk_bi hf
            refine xk_getI hC xi_2 xc_2 0 (by decide) xm_214 (Or.inl rfl) dX4_countMetWith_63 h17 ?_
            refine xk_aload hC dX4_countMetWith_66 0 rfl ?_
            obtain ⟨v18, h18, hf⟩ := xk_bi hf
            refine xk_getI hC xi_2 xc_2 1 (by decide) xm_216 (Or.inl rfl) dX4_countMetWith_68 h18 ?_
            refine xk_iload_n hC dX4_countMetWith_71 3 rfl rfl ?_
            refine xk_aload_n hC dX4_countMetWith_72 4 rfl rfl ?_
            obtain ⟨u20, h20, hf⟩ := xk_bi hf
            obtain ⟨q19, h19, hf⟩ := xk_bi hf
            refine xk_backi (xk_callV hC 4 xc_1 (c_X0_reaches h19) h20 xm_444 xm_445 xm_446 xm_17 xm_447 ⟨rfl, xd_X0_reaches⟩ rfl ⟨Nat.le_of_ble_eq_true rfl, Nat.le_of_ble_eq_true rfl⟩ rfl (Nat.le_of_ble_eq_true rfl) dX4_countMetWith_73 ⟨(Nat.le_of_ble_eq_true rfl), (Nat.le_of_ble_eq_true rfl)⟩) ?_
            refine xk_if_eq (tgt := 82) hC dX4_countMetWith_76 (by decide) (fun c21 => ?_) (fun c21 => ?_)
            · replace hf := (if_pos c21).symm.trans hf
              refine xk_locals [1, 2, 3, 4, 5, 6] rfl ?_
              exact t_X4_countMetWith_82 hC hr (fun x0 x1 x2 x3 x4 x5 w hf => ih x0 x1 x2 x3 x4 x5 w hf) x0 x1 x2 x3 x4 x5 (q19.2) hf
            · replace hf := (if_neg c21).symm.trans hf
              refine xk_locals [1, 2, 3, 4, 5, 6] rfl ?_
              exact t_X4_countMetWith_79 hC hr (fun x0 x1 x2 x3 x4 x5 w hf => ih x0 x1 x2 x3 x4 x5 w hf) x0 x1 x2 x3 x4 x5 (q19.2) hf
def f_X4_countMetWith (x0 : Option Nat) (x1 : Option Nat) (x2 : Int32) (x3 : Option Nat) (w : xWd) : Option (Int32 × xWd) := f_X4_countMetWith_6 4096 x0 x1 x2 x3 ((0 : Int32)) ((0 : Int32)) w
set_option maxHeartbeats 4000000 in
set_option maxRecDepth 100000 in
theorem t_X4_countMetWith_0 {p : Program} {l : Launch} {e : Env} {s : State} {m : MethodId} {args : Array Value} {below : List Frame} {meth : Method} {c : Code} {E : xEv} (hC : xk_C p s m args meth c E prog_1_method_55_code "Clickbook" 7) (hr : meth.sig.returnType = (some .int)) {q : (Int32 × xWd)} (x0 : Option Nat) (x1 : Option Nat) (x2 : Int32) (x3 : Option Nat) (w : xWd) (hf : f_X4_countMetWith x0 x1 x2 x3 w = some q) : xk_X p l e { frames := 3, cells := 0, slots := 0, locals := 64 } s m args below meth c (MQ below (xk_Qi E q) args s 0 0 (xk_A E.2.2.1)) E 7 0 0 0 [(0, va_rf (x0)), (1, va_rf (x1)), (2, .int (x2)), (3, va_rf (x3))] [] w := by
  refine xk_iconst (v := (0 : Int32)) hC dX4_countMetWith_0 (by decide) ?_
  refine xk_istore (i := 4) (lv' := [(4, .int ((0 : Int32))), (0, va_rf (x0)), (1, va_rf (x1)), (2, .int (x2)), (3, va_rf (x3))]) hC dX4_countMetWith_1 (by decide) (by simp [xk_cat1]) ?_
  refine xk_iconst (v := (0 : Int32)) hC dX4_countMetWith_3 (by decide) ?_
  refine xk_istore (i := 5) (lv' := [(5, .int ((0 : Int32))), (4, .int ((0 : Int32))), (0, va_rf (x0)), (1, va_rf (x1)), (2, .int (x2)), (3, va_rf (x3))]) hC dX4_countMetWith_4 (by decide) rfl ?_
  refine xk_locals [2, 3, 4, 5, 1, 0] rfl ?_
  exact t_X4_countMetWith_6 hC hr 4096 x0 x1 x2 x3 ((0 : Int32)) ((0 : Int32)) w hf
theorem xd_X4_countMetWith : xy_X4_countMetWith.cls ≠ "java/lang/invoke/MethodHandle" ∧ xy_X4_countMetWith.cls ≠ "java/lang/invoke/VarHandle" ∧ (parseMethodDescriptor xy_X4_countMetWith.desc).map (fun d => d.parameters.length) = some 3 := ⟨by decide +kernel, by decide +kernel, by decide +kernel⟩
theorem c_X4_countMetWith {l : Launch} {E : xEv} {x0 : Option Nat} {x1 : Option Nat} {x2 : Int32} {x3 : Option Nat} {w : xWd} {q : (Int32 × xWd)} (hf : f_X4_countMetWith x0 x1 x2 x3 w = some q) : xk_M l xy_X4_countMetWith prog_1_method_55_code 7 (some .int) 3 64 0 0 E [va_rf (x0), va_rf (x1), .int (x2), va_rf (x3)] w (xk_Qi E q) := by
  refine xk_enter (by decide +kernel) (by simp [lg_sl, xk_cat1, xk_cati, xk_catl, xk_catd]) ?_
  intro p e s m args below meth c hC hr hin ha
  rw [show lv_args 0 [va_rf (x0), va_rf (x1), .int (x2), va_rf (x3)] = [(0, va_rf (x0)), (1, va_rf (x1)), (2, .int (x2)), (3, va_rf (x3))] by simp [lv_args, xk_cat1, xk_cati, xk_catl, xk_catd]]
  exact t_X4_countMetWith_0 hC hr x0 x1 x2 x3 w hf
def f_X4_bestStart_104 (k31 : Option Nat → Option Nat → Int32 → Int32 → Int32 → xWd → Option (Int32 × xWd)) (k41 : Option Nat → Option Nat → Int32 → Int32 → Int32 → Int32 → xWd → Option (Int32 × xWd)) (x0 : Option Nat) (x2 : Option Nat) (x3 : Int32) (x4 : Int32) (x5 : Int32) (x6 : Int32) (w : xWd) : Option (Int32 × xWd) := k41 x0 x2 x3 x4 x5 (x6 + (2 : Int32)) w
set_option maxHeartbeats 4000000 in
set_option maxRecDepth 100000 in
theorem t_X4_bestStart_104 {p : Program} {l : Launch} {e : Env} {s : State} {m : MethodId} {args : Array Value} {below : List Frame} {meth : Method} {c : Code} {E : xEv} (hC : xk_C p s m args meth c E prog_1_method_48_code "Clickbook" 9) (hr : meth.sig.returnType = (some .int)) {q : (Int32 × xWd)} {k31 : Option Nat → Option Nat → Int32 → Int32 → Int32 → xWd → Option (Int32 × xWd)} (hk31 : ∀ (x0 : Option Nat) (x2 : Option Nat) (x3 : Int32) (x4 : Int32) (x5 : Int32) (w : xWd), k31 x0 x2 x3 x4 x5 w = some q → xk_X p l e { frames := 5, cells := 0, slots := 0, locals := 110 } s m args below meth c (MQ below (xk_Qi E q) args s 0 0 (xk_A E.2.2.1)) E 9 0 0 31 [(0, va_rf (x0)), (2, va_rf (x2)), (3, .int (x3)), (4, .int (x4)), (5, .int (x5))] [] w) {k41 : Option Nat → Option Nat → Int32 → Int32 → Int32 → Int32 → xWd → Option (Int32 × xWd)} (hk41 : ∀ (x0 : Option Nat) (x2 : Option Nat) (x3 : Int32) (x4 : Int32) (x5 : Int32) (x6 : Int32) (w : xWd), k41 x0 x2 x3 x4 x5 x6 w = some q → xk_X p l e { frames := 5, cells := 0, slots := 0, locals := 110 } s m args below meth c (MQ below (xk_Qi E q) args s 0 0 (xk_A E.2.2.1)) E 9 0 0 41 [(0, va_rf (x0)), (2, va_rf (x2)), (3, .int (x3)), (4, .int (x4)), (5, .int (x5)), (6, .int (x6))] [] w) (x0 : Option Nat) (x2 : Option Nat) (x3 : Int32) (x4 : Int32) (x5 : Int32) (x6 : Int32) (w : xWd) (hf : f_X4_bestStart_104 k31 k41 x0 x2 x3 x4 x5 x6 w = some q) : xk_X p l e { frames := 5, cells := 0, slots := 0, locals := 110 } s m args below meth c (MQ below (xk_Qi E q) args s 0 0 (xk_A E.2.2.1)) E 9 0 0 104 [(0, va_rf (x0)), (2, va_rf (x2)), (3, .int (x3)), (4, .int (x4)), (5, .int (x5)), (6, .int (x6))] [] w := by
  refine xk_iinc (v := x6 + (2 : Int32)) (lv' := [(6, .int (x6 + (2 : Int32))), (0, va_rf (x0)), (2, va_rf (x2)), (3, .int (x3)), (4, .int (x4)), (5, .int (x5))]) hC dX4_bestStart_104 5 rfl rfl (by decide) rfl ?_
  refine xk_goto (tgt := 41) hC dX4_bestStart_107 (by decide) ?_
  refine xk_locals [1, 2, 3, 4, 5, 0] rfl ?_
  exact hk41 x0 x2 x3 x4 x5 (x6 + (2 : Int32)) w hf
def f_X4_bestStart_88 (k31 : Option Nat → Option Nat → Int32 → Int32 → Int32 → xWd → Option (Int32 × xWd)) (k41 : Option Nat → Option Nat → Int32 → Int32 → Int32 → Int32 → xWd → Option (Int32 × xWd)) (x0 : Option Nat) (x2 : Option Nat) (x3 : Int32) (x4 : Int32) (x5 : Int32) (x6 : Int32) (x7 : Int32) (s0 : Int32) (w : xWd) : Option (Int32 × xWd) := if (s0) ≤ (x4) then f_X4_bestStart_104 k31 k41 x0 x2 x3 x4 x5 x6 w else f_X4_bestStart_104 k31 k41 x0 x2 x7 s0 x5 x6 w
set_option maxHeartbeats 4000000 in
set_option maxRecDepth 100000 in
theorem t_X4_bestStart_88 {p : Program} {l : Launch} {e : Env} {s : State} {m : MethodId} {args : Array Value} {below : List Frame} {meth : Method} {c : Code} {E : xEv} (hC : xk_C p s m args meth c E prog_1_method_48_code "Clickbook" 9) (hr : meth.sig.returnType = (some .int)) {q : (Int32 × xWd)} {k31 : Option Nat → Option Nat → Int32 → Int32 → Int32 → xWd → Option (Int32 × xWd)} (hk31 : ∀ (x0 : Option Nat) (x2 : Option Nat) (x3 : Int32) (x4 : Int32) (x5 : Int32) (w : xWd), k31 x0 x2 x3 x4 x5 w = some q → xk_X p l e { frames := 5, cells := 0, slots := 0, locals := 110 } s m args below meth c (MQ below (xk_Qi E q) args s 0 0 (xk_A E.2.2.1)) E 9 0 0 31 [(0, va_rf (x0)), (2, va_rf (x2)), (3, .int (x3)), (4, .int (x4)), (5, .int (x5))] [] w) {k41 : Option Nat → Option Nat → Int32 → Int32 → Int32 → Int32 → xWd → Option (Int32 × xWd)} (hk41 : ∀ (x0 : Option Nat) (x2 : Option Nat) (x3 : Int32) (x4 : Int32) (x5 : Int32) (x6 : Int32) (w : xWd), k41 x0 x2 x3 x4 x5 x6 w = some q → xk_X p l e { frames := 5, cells := 0, slots := 0, locals := 110 } s m args below meth c (MQ below (xk_Qi E q) args s 0 0 (xk_A E.2.2.1)) E 9 0 0 41 [(0, va_rf (x0)), (2, va_rf (x2)), (3, .int (x3)), (4, .int (x4)), (5, .int (x5)), (6, .int (x6))] [] w) (x0 : Option Nat) (x2 : Option Nat) (x3 : Int32) (x4 : Int32) (x5 : Int32) (x6 : Int32) (x7 : Int32) (s0 : Int32) (w : xWd) (hf : f_X4_bestStart_88 k31 k41 x0 x2 x3 x4 x5 x6 x7 s0 w = some q) : xk_X p l e { frames := 5, cells := 0, slots := 0, locals := 110 } s m args below meth c (MQ below (xk_Qi E q) args s 0 0 (xk_A E.2.2.1)) E 9 0 0 88 [(0, va_rf (x0)), (2, va_rf (x2)), (3, .int (x3)), (4, .int (x4)), (5, .int (x5)), (6, .int (x6)), (7, .int (x7))] [.int (s0)] w := by
  refine xk_istore (i := 8) (lv' := [(8, .int (s0)), (0, va_rf (x0)), (2, va_rf (x2)), (3, .int (x3)), (4, .int (x4)), (5, .int (x5)), (6, .int (x6)), (7, .int (x7))]) hC dX4_bestStart_88 (by decide) rfl ?_
  refine xk_iload hC dX4_bestStart_90 0 rfl ?_
  refine xk_iload hC dX4_bestStart_92 4 rfl ?_
  refine xk_icmp_le (tgt := 104) hC dX4_bestStart_94 (by decide) (fun c1 => ?_) (fun c1 => ?_)
  · replace hf := (if_pos c1).symm.trans hf
    refine xk_locals [1, 2, 3, 4, 5, 6] rfl ?_
    exact t_X4_bestStart_104 hC hr hk31 hk41 x0 x2 x3 x4 x5 x6 w hf
  · replace hf := (if_neg c1).symm.trans hf
    refine xk_iload hC dX4_bestStart_97 7 rfl ?_
    refine xk_istore_n (i := 3) (lv' := [(3, .int (x7)), (8, .int (s0)), (0, va_rf (x0)), (2, va_rf (x2)), (4, .int (x4)), (5, .int (x5)), (6, .int (x6)), (7, .int (x7))]) hC dX4_bestStart_99 rfl (by decide) (by simp [xk_cat1]) ?_
    refine xk_iload hC dX4_bestStart_100 1 rfl ?_
    refine xk_istore (i := 4) (lv' := [(4, .int (s0)), (3, .int (x7)), (8, .int (s0)), (0, va_rf (x0)), (2, va_rf (x2)), (5, .int (x5)), (6, .int (x6)), (7, .int (x7))]) hC dX4_bestStart_102 (by decide) rfl ?_
    refine xk_locals [3, 4, 1, 0, 5, 6] rfl ?_
    exact t_X4_bestStart_104 hC hr hk31 hk41 x0 x2 x7 s0 x5 x6 w hf
def f_X4_bestStart_73 (k31 : Option Nat → Option Nat → Int32 → Int32 → Int32 → xWd → Option (Int32 × xWd)) (k41 : Option Nat → Option Nat → Int32 → Int32 → Int32 → Int32 → xWd → Option (Int32 × xWd)) (x0 : Option Nat) (x2 : Option Nat) (x3 : Int32) (x4 : Int32) (x5 : Int32) (x6 : Int32) (x7 : Int32) (w : xWd) : Option (Int32 × xWd) := f_X4_bestStart_88 k31 k41 x0 x2 x3 x4 x5 x6 x7 ((0 : Int32)) w
set_option maxHeartbeats 4000000 in
set_option maxRecDepth 100000 in
theorem t_X4_bestStart_73 {p : Program} {l : Launch} {e : Env} {s : State} {m : MethodId} {args : Array Value} {below : List Frame} {meth : Method} {c : Code} {E : xEv} (hC : xk_C p s m args meth c E prog_1_method_48_code "Clickbook" 9) (hr : meth.sig.returnType = (some .int)) {q : (Int32 × xWd)} {k31 : Option Nat → Option Nat → Int32 → Int32 → Int32 → xWd → Option (Int32 × xWd)} (hk31 : ∀ (x0 : Option Nat) (x2 : Option Nat) (x3 : Int32) (x4 : Int32) (x5 : Int32) (w : xWd), k31 x0 x2 x3 x4 x5 w = some q → xk_X p l e { frames := 5, cells := 0, slots := 0, locals := 110 } s m args below meth c (MQ below (xk_Qi E q) args s 0 0 (xk_A E.2.2.1)) E 9 0 0 31 [(0, va_rf (x0)), (2, va_rf (x2)), (3, .int (x3)), (4, .int (x4)), (5, .int (x5))] [] w) {k41 : Option Nat → Option Nat → Int32 → Int32 → Int32 → Int32 → xWd → Option (Int32 × xWd)} (hk41 : ∀ (x0 : Option Nat) (x2 : Option Nat) (x3 : Int32) (x4 : Int32) (x5 : Int32) (x6 : Int32) (w : xWd), k41 x0 x2 x3 x4 x5 x6 w = some q → xk_X p l e { frames := 5, cells := 0, slots := 0, locals := 110 } s m args below meth c (MQ below (xk_Qi E q) args s 0 0 (xk_A E.2.2.1)) E 9 0 0 41 [(0, va_rf (x0)), (2, va_rf (x2)), (3, .int (x3)), (4, .int (x4)), (5, .int (x5)), (6, .int (x6))] [] w) (x0 : Option Nat) (x2 : Option Nat) (x3 : Int32) (x4 : Int32) (x5 : Int32) (x6 : Int32) (x7 : Int32) (w : xWd) (hf : f_X4_bestStart_73 k31 k41 x0 x2 x3 x4 x5 x6 x7 w = some q) : xk_X p l e { frames := 5, cells := 0, slots := 0, locals := 110 } s m args below meth c (MQ below (xk_Qi E q) args s 0 0 (xk_A E.2.2.1)) E 9 0 0 73 [(0, va_rf (x0)), (2, va_rf (x2)), (3, .int (x3)), (4, .int (x4)), (5, .int (x5)), (6, .int (x6)), (7, .int (x7))] [] w := by
  refine xk_iconst (v := (0 : Int32)) hC dX4_bestStart_73 (by decide) ?_
  refine xk_goto (tgt := 88) hC dX4_bestStart_74 (by decide) ?_
  exact t_X4_bestStart_88 hC hr hk31 hk41 x0 x2 x3 x4 x5 x6 x7 ((0 : Int32)) w hf
def f_X4_bestStart_41 (k31 : Option Nat → Option Nat → Int32 → Int32 → Int32 → xWd → Option (Int32 × xWd)) : Nat → Option Nat → Option Nat → Int32 → Int32 → Int32 → Int32 → xWd → Option (Int32 × xWd)
  | 0, _, _, _, _, _, _, _ => none
  | n + 1, x0, x2, x3, x4, x5, x6, w => if ((1 : Int32)) < (x6) then k31 x0 x2 x3 x4 (x5 + (1 : Int32)) w else (xk_gI w (x2) 1 1).bind (fun v2 => if ((v2) + ((x6) * (x5))) < ((0 : Int32)) then f_X4_bestStart_73 k31 (f_X4_bestStart_41 k31 n) x0 x2 x3 x4 x5 x6 ((v2) + ((x6) * (x5))) w else (xk_gI w (x0) 0 5).bind (fun v4 => if ((v2) + ((x6) * (x5))) ≤ (v4) then (xk_gR w (x2) 1 12).bind (fun v6 => (xk_is w (x0) 0).bind (fun u8 => (f_X4_countMetWith (x0) (x2) ((v2) + ((x6) * (x5))) (v6) w).bind (fun q7 => f_X4_bestStart_88 k31 (f_X4_bestStart_41 k31 n) x0 x2 x3 x4 x5 x6 ((v2) + ((x6) * (x5))) (q7.1) (q7.2)))) else f_X4_bestStart_73 k31 (f_X4_bestStart_41 k31 n) x0 x2 x3 x4 x5 x6 ((v2) + ((x6) * (x5))) w))
set_option maxHeartbeats 4000000 in
set_option maxRecDepth 100000 in
theorem t_X4_bestStart_41 {p : Program} {l : Launch} {e : Env} {s : State} {m : MethodId} {args : Array Value} {below : List Frame} {meth : Method} {c : Code} {E : xEv} (hC : xk_C p s m args meth c E prog_1_method_48_code "Clickbook" 9) (hr : meth.sig.returnType = (some .int)) {q : (Int32 × xWd)} {k31 : Option Nat → Option Nat → Int32 → Int32 → Int32 → xWd → Option (Int32 × xWd)} (hk31 : ∀ (x0 : Option Nat) (x2 : Option Nat) (x3 : Int32) (x4 : Int32) (x5 : Int32) (w : xWd), k31 x0 x2 x3 x4 x5 w = some q → xk_X p l e { frames := 5, cells := 0, slots := 0, locals := 110 } s m args below meth c (MQ below (xk_Qi E q) args s 0 0 (xk_A E.2.2.1)) E 9 0 0 31 [(0, va_rf (x0)), (2, va_rf (x2)), (3, .int (x3)), (4, .int (x4)), (5, .int (x5))] [] w) : ∀ (n : Nat) (x0 : Option Nat) (x2 : Option Nat) (x3 : Int32) (x4 : Int32) (x5 : Int32) (x6 : Int32) (w : xWd), f_X4_bestStart_41 k31 n x0 x2 x3 x4 x5 x6 w = some q → xk_X p l e { frames := 5, cells := 0, slots := 0, locals := 110 } s m args below meth c (MQ below (xk_Qi E q) args s 0 0 (xk_A E.2.2.1)) E 9 0 0 41 [(0, va_rf (x0)), (2, va_rf (x2)), (3, .int (x3)), (4, .int (x4)), (5, .int (x5)), (6, .int (x6))] [] w := by
  intro n
  induction n with
  | zero => intro x0 x2 x3 x4 x5 x6 w hf; have hf : none = some q := hf; cases hf
  | succ n ih =>
    intro x0 x2 x3 x4 x5 x6 w hf
    refine xk_iload hC dX4_bestStart_41 5 rfl ?_
    refine xk_iconst (v := (1 : Int32)) hC dX4_bestStart_43 (by decide) ?_
    refine xk_icmp_gt (tgt := 110) hC dX4_bestStart_44 (by decide) (fun c1 => ?_) (fun c1 => ?_)
    · replace hf := (if_pos c1).symm.trans hf
      refine xk_iinc (v := x5 + (1 : Int32)) (lv' := [(5, .int (x5 + (1 : Int32))), (0, va_rf (x0)), (2, va_rf (x2)), (3, .int (x3)), (4, .int (x4)), (6, .int (x6))]) hC dX4_bestStart_110 4 rfl rfl (by decide) rfl ?_
      refine xk_goto (tgt := 31) hC dX4_bestStart_113 (by decide) ?_
      refine xk_locals [1, 2, 3, 4, 0] rfl ?_
      exact hk31 x0 x2 x3 x4 (x5 + (1 : Int32)) w hf
    · replace hf := (if_neg c1).symm.trans hf
      refine xk_aload_n hC dX4_bestStart_47 1 rfl rfl ?_
      obtain ⟨v2, h2, hf⟩ := xk_bi hf
      refine xk_getI hC xi_1 xc_1 1 (by decide) xm_320 (Or.inl rfl) dX4_bestStart_48 h2 ?_
      refine xk_iload hC dX4_bestStart_51 5 rfl ?_
      refine xk_iload hC dX4_bestStart_53 4 rfl ?_
      refine xk_imul hC dX4_bestStart_55 ?_
      refine xk_iadd hC dX4_bestStart_56 ?_
      refine xk_istore (i := 7) (lv' := [(7, .int ((v2) + ((x6) * (x5)))), (0, va_rf (x0)), (2, va_rf (x2)), (3, .int (x3)), (4, .int (x4)), (5, .int (x5)), (6, .int (x6))]) hC dX4_bestStart_57 (by decide) rfl ?_
      refine xk_iload hC dX4_bestStart_59 0 rfl ?_
      refine xk_if_lt (tgt := 73) hC dX4_bestStart_61 (by decide) (fun c3 => ?_) (fun c3 => ?_)
      · replace hf := (if_pos c3).symm.trans hf
        refine xk_locals [1, 2, 3, 4, 5, 6, 0] rfl ?_
        exact t_X4_bestStart_73 hC hr hk31 (fun x0 x2 x3 x4 x5 x6 w hf => ih x0 x2 x3 x4 x5 x6 w hf) x0 x2 x3 x4 x5 x6 ((v2) + ((x6) * (x5))) w hf
      · replace hf := (if_neg c3).symm.trans hf
        refine xk_iload hC dX4_bestStart_64 0 rfl ?_
        refine xk_aload_n hC dX4_bestStart_66 1 rfl rfl ?_
        obtain ⟨v4, h4, hf⟩ := xk_bi hf
        refine xk_getI hC xi_0 xc_0 5 (by decide) xm_79 (Or.inl rfl) dX4_bestStart_67 h4 ?_
        refine xk_icmp_le (tgt := 77) hC dX4_bestStart_70 (by decide) (fun c5 => ?_) (fun c5 => ?_)
        · replace hf := (if_pos c5).symm.trans hf
          refine xk_aload_n hC dX4_bestStart_77 1 rfl rfl ?_
          refine xk_aload_n hC dX4_bestStart_78 2 rfl rfl ?_
          refine xk_iload hC dX4_bestStart_79 0 rfl ?_
          refine xk_aload_n hC dX4_bestStart_81 2 rfl rfl ?_
          obtain ⟨v6, h6, hf⟩ := xk_bi hf
          refine xk_getR hC xi_1 xc_1 12 (by decide) xm_344 (Or.inl rfl) dX4_bestStart_82 h6 ?_
          obtain ⟨u8, h8, hf⟩ := xk_bi hf
          obtain ⟨q7, h7, hf⟩ := xk_bi hf
          refine xk_backi (xk_callV hC 3 xc_0 (c_X4_countMetWith h7) h8 xm_632 xm_634 xm_p24 xm_1 xm_635 ⟨rfl, xd_X4_countMetWith⟩ rfl ⟨Nat.le_of_ble_eq_true rfl, Nat.le_of_ble_eq_true rfl⟩ rfl (Nat.le_of_ble_eq_true rfl) dX4_bestStart_85 ⟨(Nat.le_of_ble_eq_true rfl), (Nat.le_of_ble_eq_true rfl)⟩) ?_
          refine xk_locals [1, 2, 3, 4, 5, 6, 0] rfl ?_
          exact t_X4_bestStart_88 hC hr hk31 (fun x0 x2 x3 x4 x5 x6 w hf => ih x0 x2 x3 x4 x5 x6 w hf) x0 x2 x3 x4 x5 x6 ((v2) + ((x6) * (x5))) (q7.1) (q7.2) hf
        · replace hf := (if_neg c5).symm.trans hf
          refine xk_locals [1, 2, 3, 4, 5, 6, 0] rfl ?_
          exact t_X4_bestStart_73 hC hr hk31 (fun x0 x2 x3 x4 x5 x6 w hf => ih x0 x2 x3 x4 x5 x6 w hf) x0 x2 x3 x4 x5 x6 ((v2) + ((x6) * (x5))) w hf
def f_X4_bestStart_31 : Nat → Option Nat → Option Nat → Int32 → Int32 → Int32 → xWd → Option (Int32 × xWd)
  | 0, _, _, _, _, _, _ => none
  | n + 1, x0, x2, x3, x4, x5, w => if ((24 : Int32)) < (x5) then some (x3, w) else f_X4_bestStart_41 (f_X4_bestStart_31 n) 4096 x0 x2 x3 x4 x5 ((-1 : Int32)) w
set_option maxHeartbeats 4000000 in
set_option maxRecDepth 100000 in
theorem t_X4_bestStart_31 {p : Program} {l : Launch} {e : Env} {s : State} {m : MethodId} {args : Array Value} {below : List Frame} {meth : Method} {c : Code} {E : xEv} (hC : xk_C p s m args meth c E prog_1_method_48_code "Clickbook" 9) (hr : meth.sig.returnType = (some .int)) {q : (Int32 × xWd)} : ∀ (n : Nat) (x0 : Option Nat) (x2 : Option Nat) (x3 : Int32) (x4 : Int32) (x5 : Int32) (w : xWd), f_X4_bestStart_31 n x0 x2 x3 x4 x5 w = some q → xk_X p l e { frames := 5, cells := 0, slots := 0, locals := 110 } s m args below meth c (MQ below (xk_Qi E q) args s 0 0 (xk_A E.2.2.1)) E 9 0 0 31 [(0, va_rf (x0)), (2, va_rf (x2)), (3, .int (x3)), (4, .int (x4)), (5, .int (x5))] [] w := by
  intro n
  induction n with
  | zero => intro x0 x2 x3 x4 x5 w hf; have hf : none = some q := hf; cases hf
  | succ n ih =>
    intro x0 x2 x3 x4 x5 w hf
    refine xk_iload hC dX4_bestStart_31 4 rfl ?_
    refine xk_bipush (v := (24 : Int32)) hC dX4_bestStart_33 (by decide) ?_
    refine xk_icmp_gt (tgt := 116) hC dX4_bestStart_35 (by decide) (fun c1 => ?_) (fun c1 => ?_)
    · replace hf := (if_pos c1).symm.trans hf
      refine xk_iload_n hC dX4_bestStart_116 2 rfl rfl ?_
      cases hf
      refine xk_widen (k := 0) (n := 0) (Nat.le_of_ble_eq_true rfl) (Nat.le_of_ble_eq_true rfl) ?_
      exact xk_iret hC hr rfl dX4_bestStart_117
    · replace hf := (if_neg c1).symm.trans hf
      refine xk_iconst (v := (-1 : Int32)) hC dX4_bestStart_38 (by decide) ?_
      refine xk_istore (i := 6) (lv' := [(6, .int ((-1 : Int32))), (0, va_rf (x0)), (2, va_rf (x2)), (3, .int (x3)), (4, .int (x4)), (5, .int (x5))]) hC dX4_bestStart_39 (by decide) rfl ?_
      refine xk_locals [1, 2, 3, 4, 5, 0] rfl ?_
      exact t_X4_bestStart_41 hC hr (fun x0 x2 x3 x4 x5 w hf => ih x0 x2 x3 x4 x5 w hf) 4096 x0 x2 x3 x4 x5 ((-1 : Int32)) w hf
def f_X4_bestStart (x0 : Option Nat) (x1 : Int32) (w : xWd) : Option (Int32 × xWd) := (xk_is w (x0) 0).bind (fun u2 => (f_X4_cueNumbered (x0) (x1) w).bind (fun q1 => (xk_is q1.2 (x0) 0).bind (fun u4 => (f_X4_markMetByOthers (x0) (x1) q1.2).bind (fun q3 => (xk_gI q3 (q1.1) 1 1).bind (fun v5 => (xk_gR q3 (q1.1) 1 12).bind (fun v6 => (xk_is q3 (x0) 0).bind (fun u8 => (f_X4_countMetWith (x0) (q1.1) (v5) (v6) q3).bind (fun q7 => f_X4_bestStart_31 4096 x0 (q1.1) v5 (q7.1) ((1 : Int32)) (q7.2)))))))))
set_option maxHeartbeats 4000000 in
set_option maxRecDepth 100000 in
theorem t_X4_bestStart_0 {p : Program} {l : Launch} {e : Env} {s : State} {m : MethodId} {args : Array Value} {below : List Frame} {meth : Method} {c : Code} {E : xEv} (hC : xk_C p s m args meth c E prog_1_method_48_code "Clickbook" 9) (hr : meth.sig.returnType = (some .int)) {q : (Int32 × xWd)} (x0 : Option Nat) (x1 : Int32) (w : xWd) (hf : f_X4_bestStart x0 x1 w = some q) : xk_X p l e { frames := 5, cells := 0, slots := 0, locals := 110 } s m args below meth c (MQ below (xk_Qi E q) args s 0 0 (xk_A E.2.2.1)) E 9 0 0 0 [(0, va_rf (x0)), (1, .int (x1))] [] w := by
  refine xk_aload_n hC dX4_bestStart_0 0 rfl rfl ?_
  refine xk_iload_n hC dX4_bestStart_1 1 rfl rfl ?_
  obtain ⟨u2, h2, hf⟩ := xk_bi hf
  obtain ⟨q1, h1, hf⟩ := xk_bi hf
  refine xk_backq (xk_callV hC 1 xc_0 (c_X4_cueNumbered h1) h2 xm_376 xm_378 xm_p4 xm_1 xm_379 ⟨rfl, xd_X4_cueNumbered⟩ rfl ⟨Nat.le_of_ble_eq_true rfl, Nat.le_of_ble_eq_true rfl⟩ rfl (Nat.le_of_ble_eq_true rfl) dX4_bestStart_2 ⟨(Nat.le_of_ble_eq_true rfl), (Nat.le_of_ble_eq_true rfl)⟩) ?_
  refine xk_astore_n (i := 2) (lv' := [(2, va_rf (q1.1)), (0, va_rf (x0)), (1, .int (x1))]) hC dX4_bestStart_5 rfl (by decide) rfl ?_
  refine xk_aload_n hC dX4_bestStart_6 1 rfl rfl ?_
  refine xk_iload_n hC dX4_bestStart_7 2 rfl rfl ?_
  obtain ⟨u4, h4, hf⟩ := xk_bi hf
  obtain ⟨q3, h3, hf⟩ := xk_bi hf
  refine xk_backv (xk_callV hC 1 xc_0 (c_X4_markMetByOthers h3) h4 xm_628 xm_630 xm_p23 xm_1 xm_631 ⟨rfl, xd_X4_markMetByOthers⟩ rfl ⟨Nat.le_of_ble_eq_true rfl, Nat.le_of_ble_eq_true rfl⟩ rfl (Nat.le_of_ble_eq_true rfl) dX4_bestStart_8 ⟨(Nat.le_of_ble_eq_true rfl), (Nat.le_of_ble_eq_true rfl)⟩) ?_
  refine xk_aload_n hC dX4_bestStart_11 0 rfl rfl ?_
  obtain ⟨v5, h5, hf⟩ := xk_bi hf
  refine xk_getI hC xi_1 xc_1 1 (by decide) xm_320 (Or.inl rfl) dX4_bestStart_12 h5 ?_
  refine xk_istore_n (i := 3) (lv' := [(3, .int (v5)), (2, va_rf (q1.1)), (0, va_rf (x0)), (1, .int (x1))]) hC dX4_bestStart_15 rfl (by decide) (by simp [xk_cat1]) ?_
  refine xk_aload_n hC dX4_bestStart_16 2 rfl rfl ?_
  refine xk_aload_n hC dX4_bestStart_17 1 rfl rfl ?_
  refine xk_iload_n hC dX4_bestStart_18 0 rfl rfl ?_
  refine xk_aload_n hC dX4_bestStart_19 1 rfl rfl ?_
  obtain ⟨v6, h6, hf⟩ := xk_bi hf
  refine xk_getR hC xi_1 xc_1 12 (by decide) xm_344 (Or.inl rfl) dX4_bestStart_20 h6 ?_
  obtain ⟨u8, h8, hf⟩ := xk_bi hf
  obtain ⟨q7, h7, hf⟩ := xk_bi hf
  refine xk_backi (xk_callV hC 3 xc_0 (c_X4_countMetWith h7) h8 xm_632 xm_634 xm_p24 xm_1 xm_635 ⟨rfl, xd_X4_countMetWith⟩ rfl ⟨Nat.le_of_ble_eq_true rfl, Nat.le_of_ble_eq_true rfl⟩ rfl (Nat.le_of_ble_eq_true rfl) dX4_bestStart_23 ⟨(Nat.le_of_ble_eq_true rfl), (Nat.le_of_ble_eq_true rfl)⟩) ?_
  refine xk_istore (i := 4) (lv' := [(4, .int (q7.1)), (3, .int (v5)), (2, va_rf (q1.1)), (0, va_rf (x0)), (1, .int (x1))]) hC dX4_bestStart_26 (by decide) rfl ?_
  refine xk_iconst (v := (1 : Int32)) hC dX4_bestStart_28 (by decide) ?_
  refine xk_istore (i := 5) (lv' := [(5, .int ((1 : Int32))), (4, .int (q7.1)), (3, .int (v5)), (2, va_rf (q1.1)), (0, va_rf (x0)), (1, .int (x1))]) hC dX4_bestStart_29 (by decide) rfl ?_
  refine xk_locals [4, 3, 2, 1, 0] rfl ?_
  exact t_X4_bestStart_31 hC hr 4096 x0 (q1.1) v5 (q7.1) ((1 : Int32)) (q7.2) hf
theorem xd_X4_bestStart : xy_X4_bestStart.cls ≠ "java/lang/invoke/MethodHandle" ∧ xy_X4_bestStart.cls ≠ "java/lang/invoke/VarHandle" ∧ (parseMethodDescriptor xy_X4_bestStart.desc).map (fun d => d.parameters.length) = some 1 := ⟨by decide +kernel, by decide +kernel, by decide +kernel⟩
theorem c_X4_bestStart {l : Launch} {E : xEv} {x0 : Option Nat} {x1 : Int32} {w : xWd} {q : (Int32 × xWd)} (hf : f_X4_bestStart x0 x1 w = some q) : xk_M l xy_X4_bestStart prog_1_method_48_code 9 (some .int) 5 110 0 0 E [va_rf (x0), .int (x1)] w (xk_Qi E q) := by
  refine xk_enter (by decide +kernel) (by simp [lg_sl, xk_cat1, xk_cati, xk_catl, xk_catd]) ?_
  intro p e s m args below meth c hC hr hin ha
  rw [show lv_args 0 [va_rf (x0), .int (x1)] = [(0, va_rf (x0)), (1, .int (x1))] by simp [lv_args, xk_cat1, xk_cati, xk_catl, xk_catd]]
  exact t_X4_bestStart_0 hC hr x0 x1 w hf
def f_X4_countMetWithClick (x0 : Option Nat) (x1 : Option Nat) (x2 : Int32) (x3 : Int32) (w : xWd) : Option (Int32 × xWd) := (xk_gR w (x0) 0 11).bind (fun v1 => (xk_is w (x1) 1).bind (fun u3 => (f_X0_layOut (x1) (v1) (x2) (x3) w).bind (fun q2 => (xk_gI q2.2 (x1) 1 1).bind (fun v4 => (xk_gR q2.2 (x0) 0 11).bind (fun v5 => (xk_is q2.2 (x0) 0).bind (fun u7 => (f_X4_countMetWith (x0) (x1) (v4) (v5) q2.2).bind (fun q6 => some (q6.1, q6.2))))))))
set_option maxHeartbeats 4000000 in
set_option maxRecDepth 100000 in
theorem t_X4_countMetWithClick_0 {p : Program} {l : Launch} {e : Env} {s : State} {m : MethodId} {args : Array Value} {below : List Frame} {meth : Method} {c : Code} {E : xEv} (hC : xk_C p s m args meth c E prog_1_method_56_code "Clickbook" 4) (hr : meth.sig.returnType = (some .int)) {q : (Int32 × xWd)} (x0 : Option Nat) (x1 : Option Nat) (x2 : Int32) (x3 : Int32) (w : xWd) (hf : f_X4_countMetWithClick x0 x1 x2 x3 w = some q) : xk_X p l e { frames := 4, cells := 0, slots := 0, locals := 90 } s m args below meth c (MQ below (xk_Qi E q) args s 0 0 (xk_A E.2.2.1)) E 4 0 0 0 [(0, va_rf (x0)), (1, va_rf (x1)), (2, .int (x2)), (3, .int (x3))] [] w := by
  refine xk_aload_n hC dX4_countMetWithClick_0 1 rfl rfl ?_
  refine xk_aload_n hC dX4_countMetWithClick_1 0 rfl rfl ?_
  obtain ⟨v1, h1, hf⟩ := xk_bi hf
  refine xk_getR hC xi_0 xc_0 11 (by decide) xm_85 (Or.inl rfl) dX4_countMetWithClick_2 h1 ?_
  refine xk_iload_n hC dX4_countMetWithClick_5 2 rfl rfl ?_
  refine xk_iload_n hC dX4_countMetWithClick_6 3 rfl rfl ?_
  obtain ⟨u3, h3, hf⟩ := xk_bi hf
  obtain ⟨q2, h2, hf⟩ := xk_bi hf
  refine xk_backi (xk_callV hC 3 xc_1 (c_X0_layOut h2) h3 xm_644 xm_409 xm_410 xm_17 xm_411 ⟨rfl, xd_X0_layOut⟩ rfl ⟨Nat.le_of_ble_eq_true rfl, Nat.le_of_ble_eq_true rfl⟩ rfl (Nat.le_of_ble_eq_true rfl) dX4_countMetWithClick_7 ⟨(Nat.le_of_ble_eq_true rfl), (Nat.le_of_ble_eq_true rfl)⟩) ?_
  refine xk_pop hC dX4_countMetWithClick_10 rfl ?_
  refine xk_aload_n hC dX4_countMetWithClick_11 0 rfl rfl ?_
  refine xk_aload_n hC dX4_countMetWithClick_12 1 rfl rfl ?_
  refine xk_aload_n hC dX4_countMetWithClick_13 1 rfl rfl ?_
  obtain ⟨v4, h4, hf⟩ := xk_bi hf
  refine xk_getI hC xi_1 xc_1 1 (by decide) xm_320 (Or.inl rfl) dX4_countMetWithClick_14 h4 ?_
  refine xk_aload_n hC dX4_countMetWithClick_17 0 rfl rfl ?_
  obtain ⟨v5, h5, hf⟩ := xk_bi hf
  refine xk_getR hC xi_0 xc_0 11 (by decide) xm_85 (Or.inl rfl) dX4_countMetWithClick_18 h5 ?_
  obtain ⟨u7, h7, hf⟩ := xk_bi hf
  obtain ⟨q6, h6, hf⟩ := xk_bi hf
  refine xk_backi (xk_callV hC 3 xc_0 (c_X4_countMetWith h6) h7 xm_632 xm_634 xm_p24 xm_1 xm_635 ⟨rfl, xd_X4_countMetWith⟩ rfl ⟨Nat.le_of_ble_eq_true rfl, Nat.le_of_ble_eq_true rfl⟩ rfl (Nat.le_of_ble_eq_true rfl) dX4_countMetWithClick_21 ⟨(Nat.le_of_ble_eq_true rfl), (Nat.le_of_ble_eq_true rfl)⟩) ?_
  cases hf
  refine xk_widen (k := 0) (n := 0) (Nat.le_of_ble_eq_true rfl) (Nat.le_of_ble_eq_true rfl) ?_
  exact xk_iret hC hr rfl dX4_countMetWithClick_24
theorem xd_X4_countMetWithClick : xy_X4_countMetWithClick.cls ≠ "java/lang/invoke/MethodHandle" ∧ xy_X4_countMetWithClick.cls ≠ "java/lang/invoke/VarHandle" ∧ (parseMethodDescriptor xy_X4_countMetWithClick.desc).map (fun d => d.parameters.length) = some 3 := ⟨by decide +kernel, by decide +kernel, by decide +kernel⟩
theorem c_X4_countMetWithClick {l : Launch} {E : xEv} {x0 : Option Nat} {x1 : Option Nat} {x2 : Int32} {x3 : Int32} {w : xWd} {q : (Int32 × xWd)} (hf : f_X4_countMetWithClick x0 x1 x2 x3 w = some q) : xk_M l xy_X4_countMetWithClick prog_1_method_56_code 4 (some .int) 4 90 0 0 E [va_rf (x0), va_rf (x1), .int (x2), .int (x3)] w (xk_Qi E q) := by
  refine xk_enter (by decide +kernel) (by simp [lg_sl, xk_cat1, xk_cati, xk_catl, xk_catd]) ?_
  intro p e s m args below meth c hC hr hin ha
  rw [show lv_args 0 [va_rf (x0), va_rf (x1), .int (x2), .int (x3)] = [(0, va_rf (x0)), (1, va_rf (x1)), (2, .int (x2)), (3, .int (x3))] by simp [lv_args, xk_cat1, xk_cati, xk_catl, xk_catd]]
  exact t_X4_countMetWithClick_0 hC hr x0 x1 x2 x3 w hf
def f_X4_bestClick_117 (k46 : Option Nat → Int32 → Option Nat → Int32 → Int32 → Int32 → Int32 → xWd → Option (Int32 × xWd)) (k57 : Option Nat → Int32 → Option Nat → Int32 → Int32 → Int32 → Int32 → Int32 → xWd → Option (Int32 × xWd)) (x0 : Option Nat) (x2 : Int32) (x3 : Option Nat) (x4 : Int32) (x5 : Int32) (x6 : Int32) (x7 : Int32) (x8 : Int32) (w : xWd) : Option (Int32 × xWd) := k57 x0 x2 x3 x4 x5 x6 x7 (x8 + (2 : Int32)) w
set_option maxHeartbeats 4000000 in
set_option maxRecDepth 100000 in
theorem t_X4_bestClick_117 {p : Program} {l : Launch} {e : Env} {s : State} {m : MethodId} {args : Array Value} {below : List Frame} {meth : Method} {c : Code} {E : xEv} (hC : xk_C p s m args meth c E prog_1_method_49_code "Clickbook" 11) (hr : meth.sig.returnType = (some .int)) {q : (Int32 × xWd)} {k46 : Option Nat → Int32 → Option Nat → Int32 → Int32 → Int32 → Int32 → xWd → Option (Int32 × xWd)} (hk46 : ∀ (x0 : Option Nat) (x2 : Int32) (x3 : Option Nat) (x4 : Int32) (x5 : Int32) (x6 : Int32) (x7 : Int32) (w : xWd), k46 x0 x2 x3 x4 x5 x6 x7 w = some q → xk_X p l e { frames := 5, cells := 0, slots := 0, locals := 113 } s m args below meth c (MQ below (xk_Qi E q) args s 0 0 (xk_A E.2.2.1)) E 11 0 0 46 [(0, va_rf (x0)), (2, .int (x2)), (3, va_rf (x3)), (4, .int (x4)), (5, .int (x5)), (6, .int (x6)), (7, .int (x7))] [] w) {k57 : Option Nat → Int32 → Option Nat → Int32 → Int32 → Int32 → Int32 → Int32 → xWd → Option (Int32 × xWd)} (hk57 : ∀ (x0 : Option Nat) (x2 : Int32) (x3 : Option Nat) (x4 : Int32) (x5 : Int32) (x6 : Int32) (x7 : Int32) (x8 : Int32) (w : xWd), k57 x0 x2 x3 x4 x5 x6 x7 x8 w = some q → xk_X p l e { frames := 5, cells := 0, slots := 0, locals := 113 } s m args below meth c (MQ below (xk_Qi E q) args s 0 0 (xk_A E.2.2.1)) E 11 0 0 57 [(0, va_rf (x0)), (2, .int (x2)), (3, va_rf (x3)), (4, .int (x4)), (5, .int (x5)), (6, .int (x6)), (7, .int (x7)), (8, .int (x8))] [] w) (x0 : Option Nat) (x2 : Int32) (x3 : Option Nat) (x4 : Int32) (x5 : Int32) (x6 : Int32) (x7 : Int32) (x8 : Int32) (w : xWd) (hf : f_X4_bestClick_117 k46 k57 x0 x2 x3 x4 x5 x6 x7 x8 w = some q) : xk_X p l e { frames := 5, cells := 0, slots := 0, locals := 113 } s m args below meth c (MQ below (xk_Qi E q) args s 0 0 (xk_A E.2.2.1)) E 11 0 0 117 [(0, va_rf (x0)), (2, .int (x2)), (3, va_rf (x3)), (4, .int (x4)), (5, .int (x5)), (6, .int (x6)), (7, .int (x7)), (8, .int (x8))] [] w := by
  refine xk_iinc (v := x8 + (2 : Int32)) (lv' := [(8, .int (x8 + (2 : Int32))), (0, va_rf (x0)), (2, .int (x2)), (3, va_rf (x3)), (4, .int (x4)), (5, .int (x5)), (6, .int (x6)), (7, .int (x7))]) hC dX4_bestClick_117 7 rfl rfl (by decide) rfl ?_
  refine xk_goto (tgt := 57) hC dX4_bestClick_120 (by decide) ?_
  refine xk_locals [1, 2, 3, 4, 5, 6, 7, 0] rfl ?_
  exact hk57 x0 x2 x3 x4 x5 x6 x7 (x8 + (2 : Int32)) w hf
def f_X4_bestClick_100 (k46 : Option Nat → Int32 → Option Nat → Int32 → Int32 → Int32 → Int32 → xWd → Option (Int32 × xWd)) (k57 : Option Nat → Int32 → Option Nat → Int32 → Int32 → Int32 → Int32 → Int32 → xWd → Option (Int32 × xWd)) (x0 : Option Nat) (x2 : Int32) (x3 : Option Nat) (x4 : Int32) (x5 : Int32) (x6 : Int32) (x7 : Int32) (x8 : Int32) (x9 : Int32) (s0 : Int32) (w : xWd) : Option (Int32 × xWd) := if (s0) ≤ (x6) then f_X4_bestClick_117 k46 k57 x0 x2 x3 x4 x5 x6 x7 x8 w else f_X4_bestClick_117 k46 k57 x0 x2 x3 x4 x9 s0 x7 x8 w
set_option maxHeartbeats 4000000 in
set_option maxRecDepth 100000 in
theorem t_X4_bestClick_100 {p : Program} {l : Launch} {e : Env} {s : State} {m : MethodId} {args : Array Value} {below : List Frame} {meth : Method} {c : Code} {E : xEv} (hC : xk_C p s m args meth c E prog_1_method_49_code "Clickbook" 11) (hr : meth.sig.returnType = (some .int)) {q : (Int32 × xWd)} {k46 : Option Nat → Int32 → Option Nat → Int32 → Int32 → Int32 → Int32 → xWd → Option (Int32 × xWd)} (hk46 : ∀ (x0 : Option Nat) (x2 : Int32) (x3 : Option Nat) (x4 : Int32) (x5 : Int32) (x6 : Int32) (x7 : Int32) (w : xWd), k46 x0 x2 x3 x4 x5 x6 x7 w = some q → xk_X p l e { frames := 5, cells := 0, slots := 0, locals := 113 } s m args below meth c (MQ below (xk_Qi E q) args s 0 0 (xk_A E.2.2.1)) E 11 0 0 46 [(0, va_rf (x0)), (2, .int (x2)), (3, va_rf (x3)), (4, .int (x4)), (5, .int (x5)), (6, .int (x6)), (7, .int (x7))] [] w) {k57 : Option Nat → Int32 → Option Nat → Int32 → Int32 → Int32 → Int32 → Int32 → xWd → Option (Int32 × xWd)} (hk57 : ∀ (x0 : Option Nat) (x2 : Int32) (x3 : Option Nat) (x4 : Int32) (x5 : Int32) (x6 : Int32) (x7 : Int32) (x8 : Int32) (w : xWd), k57 x0 x2 x3 x4 x5 x6 x7 x8 w = some q → xk_X p l e { frames := 5, cells := 0, slots := 0, locals := 113 } s m args below meth c (MQ below (xk_Qi E q) args s 0 0 (xk_A E.2.2.1)) E 11 0 0 57 [(0, va_rf (x0)), (2, .int (x2)), (3, va_rf (x3)), (4, .int (x4)), (5, .int (x5)), (6, .int (x6)), (7, .int (x7)), (8, .int (x8))] [] w) (x0 : Option Nat) (x2 : Int32) (x3 : Option Nat) (x4 : Int32) (x5 : Int32) (x6 : Int32) (x7 : Int32) (x8 : Int32) (x9 : Int32) (s0 : Int32) (w : xWd) (hf : f_X4_bestClick_100 k46 k57 x0 x2 x3 x4 x5 x6 x7 x8 x9 s0 w = some q) : xk_X p l e { frames := 5, cells := 0, slots := 0, locals := 113 } s m args below meth c (MQ below (xk_Qi E q) args s 0 0 (xk_A E.2.2.1)) E 11 0 0 100 [(0, va_rf (x0)), (2, .int (x2)), (3, va_rf (x3)), (4, .int (x4)), (5, .int (x5)), (6, .int (x6)), (7, .int (x7)), (8, .int (x8)), (9, .int (x9))] [.int (s0)] w := by
  refine xk_istore (i := 10) (lv' := [(10, .int (s0)), (0, va_rf (x0)), (2, .int (x2)), (3, va_rf (x3)), (4, .int (x4)), (5, .int (x5)), (6, .int (x6)), (7, .int (x7)), (8, .int (x8)), (9, .int (x9))]) hC dX4_bestClick_100 (by decide) rfl ?_
  refine xk_iload hC dX4_bestClick_102 0 rfl ?_
  refine xk_iload hC dX4_bestClick_104 6 rfl ?_
  refine xk_icmp_le (tgt := 117) hC dX4_bestClick_106 (by decide) (fun c1 => ?_) (fun c1 => ?_)
  · replace hf := (if_pos c1).symm.trans hf
    refine xk_locals [1, 2, 3, 4, 5, 6, 7, 8] rfl ?_
    exact t_X4_bestClick_117 hC hr hk46 hk57 x0 x2 x3 x4 x5 x6 x7 x8 w hf
  · replace hf := (if_neg c1).symm.trans hf
    refine xk_iload hC dX4_bestClick_109 9 rfl ?_
    refine xk_istore (i := 5) (lv' := [(5, .int (x9)), (10, .int (s0)), (0, va_rf (x0)), (2, .int (x2)), (3, va_rf (x3)), (4, .int (x4)), (6, .int (x6)), (7, .int (x7)), (8, .int (x8)), (9, .int (x9))]) hC dX4_bestClick_111 (by decide) rfl ?_
    refine xk_iload hC dX4_bestClick_113 1 rfl ?_
    refine xk_istore (i := 6) (lv' := [(6, .int (s0)), (5, .int (x9)), (10, .int (s0)), (0, va_rf (x0)), (2, .int (x2)), (3, va_rf (x3)), (4, .int (x4)), (7, .int (x7)), (8, .int (x8)), (9, .int (x9))]) hC dX4_bestClick_115 (by decide) rfl ?_
    refine xk_locals [3, 4, 5, 6, 1, 0, 7, 8] rfl ?_
    exact t_X4_bestClick_117 hC hr hk46 hk57 x0 x2 x3 x4 x9 s0 x7 x8 w hf
def f_X4_bestClick_88 (k46 : Option Nat → Int32 → Option Nat → Int32 → Int32 → Int32 → Int32 → xWd → Option (Int32 × xWd)) (k57 : Option Nat → Int32 → Option Nat → Int32 → Int32 → Int32 → Int32 → Int32 → xWd → Option (Int32 × xWd)) (x0 : Option Nat) (x2 : Int32) (x3 : Option Nat) (x4 : Int32) (x5 : Int32) (x6 : Int32) (x7 : Int32) (x8 : Int32) (x9 : Int32) (w : xWd) : Option (Int32 × xWd) := f_X4_bestClick_100 k46 k57 x0 x2 x3 x4 x5 x6 x7 x8 x9 ((0 : Int32)) w
set_option maxHeartbeats 4000000 in
set_option maxRecDepth 100000 in
theorem t_X4_bestClick_88 {p : Program} {l : Launch} {e : Env} {s : State} {m : MethodId} {args : Array Value} {below : List Frame} {meth : Method} {c : Code} {E : xEv} (hC : xk_C p s m args meth c E prog_1_method_49_code "Clickbook" 11) (hr : meth.sig.returnType = (some .int)) {q : (Int32 × xWd)} {k46 : Option Nat → Int32 → Option Nat → Int32 → Int32 → Int32 → Int32 → xWd → Option (Int32 × xWd)} (hk46 : ∀ (x0 : Option Nat) (x2 : Int32) (x3 : Option Nat) (x4 : Int32) (x5 : Int32) (x6 : Int32) (x7 : Int32) (w : xWd), k46 x0 x2 x3 x4 x5 x6 x7 w = some q → xk_X p l e { frames := 5, cells := 0, slots := 0, locals := 113 } s m args below meth c (MQ below (xk_Qi E q) args s 0 0 (xk_A E.2.2.1)) E 11 0 0 46 [(0, va_rf (x0)), (2, .int (x2)), (3, va_rf (x3)), (4, .int (x4)), (5, .int (x5)), (6, .int (x6)), (7, .int (x7))] [] w) {k57 : Option Nat → Int32 → Option Nat → Int32 → Int32 → Int32 → Int32 → Int32 → xWd → Option (Int32 × xWd)} (hk57 : ∀ (x0 : Option Nat) (x2 : Int32) (x3 : Option Nat) (x4 : Int32) (x5 : Int32) (x6 : Int32) (x7 : Int32) (x8 : Int32) (w : xWd), k57 x0 x2 x3 x4 x5 x6 x7 x8 w = some q → xk_X p l e { frames := 5, cells := 0, slots := 0, locals := 113 } s m args below meth c (MQ below (xk_Qi E q) args s 0 0 (xk_A E.2.2.1)) E 11 0 0 57 [(0, va_rf (x0)), (2, .int (x2)), (3, va_rf (x3)), (4, .int (x4)), (5, .int (x5)), (6, .int (x6)), (7, .int (x7)), (8, .int (x8))] [] w) (x0 : Option Nat) (x2 : Int32) (x3 : Option Nat) (x4 : Int32) (x5 : Int32) (x6 : Int32) (x7 : Int32) (x8 : Int32) (x9 : Int32) (w : xWd) (hf : f_X4_bestClick_88 k46 k57 x0 x2 x3 x4 x5 x6 x7 x8 x9 w = some q) : xk_X p l e { frames := 5, cells := 0, slots := 0, locals := 113 } s m args below meth c (MQ below (xk_Qi E q) args s 0 0 (xk_A E.2.2.1)) E 11 0 0 88 [(0, va_rf (x0)), (2, .int (x2)), (3, va_rf (x3)), (4, .int (x4)), (5, .int (x5)), (6, .int (x6)), (7, .int (x7)), (8, .int (x8)), (9, .int (x9))] [] w := by
  refine xk_iconst (v := (0 : Int32)) hC dX4_bestClick_88 (by decide) ?_
  refine xk_goto (tgt := 100) hC dX4_bestClick_89 (by decide) ?_
  exact t_X4_bestClick_100 hC hr hk46 hk57 x0 x2 x3 x4 x5 x6 x7 x8 x9 ((0 : Int32)) w hf
def f_X4_bestClick_57 (k46 : Option Nat → Int32 → Option Nat → Int32 → Int32 → Int32 → Int32 → xWd → Option (Int32 × xWd)) : Nat → Option Nat → Int32 → Option Nat → Int32 → Int32 → Int32 → Int32 → Int32 → xWd → Option (Int32 × xWd)
  | 0, _, _, _, _, _, _, _, _, _ => none
  | n + 1, x0, x2, x3, x4, x5, x6, x7, x8, w => if ((1 : Int32)) < (x8) then k46 x0 x2 x3 x4 x5 x6 (x7 + (1 : Int32)) w else if ((x4) + ((x8) * (x7))) < ((24 : Int32)) then f_X4_bestClick_88 k46 (f_X4_bestClick_57 k46 n) x0 x2 x3 x4 x5 x6 x7 x8 ((x4) + ((x8) * (x7))) w else if ((x4) + ((x8) * (x7))) ≤ ((160 : Int32)) then (xk_is w (x0) 0).bind (fun u5 => (f_X4_countMetWithClick (x0) (x3) (x2) ((x4) + ((x8) * (x7))) w).bind (fun q4 => f_X4_bestClick_100 k46 (f_X4_bestClick_57 k46 n) x0 x2 x3 x4 x5 x6 x7 x8 ((x4) + ((x8) * (x7))) (q4.1) (q4.2))) else f_X4_bestClick_88 k46 (f_X4_bestClick_57 k46 n) x0 x2 x3 x4 x5 x6 x7 x8 ((x4) + ((x8) * (x7))) w
set_option maxHeartbeats 4000000 in
set_option maxRecDepth 100000 in
theorem t_X4_bestClick_57 {p : Program} {l : Launch} {e : Env} {s : State} {m : MethodId} {args : Array Value} {below : List Frame} {meth : Method} {c : Code} {E : xEv} (hC : xk_C p s m args meth c E prog_1_method_49_code "Clickbook" 11) (hr : meth.sig.returnType = (some .int)) {q : (Int32 × xWd)} {k46 : Option Nat → Int32 → Option Nat → Int32 → Int32 → Int32 → Int32 → xWd → Option (Int32 × xWd)} (hk46 : ∀ (x0 : Option Nat) (x2 : Int32) (x3 : Option Nat) (x4 : Int32) (x5 : Int32) (x6 : Int32) (x7 : Int32) (w : xWd), k46 x0 x2 x3 x4 x5 x6 x7 w = some q → xk_X p l e { frames := 5, cells := 0, slots := 0, locals := 113 } s m args below meth c (MQ below (xk_Qi E q) args s 0 0 (xk_A E.2.2.1)) E 11 0 0 46 [(0, va_rf (x0)), (2, .int (x2)), (3, va_rf (x3)), (4, .int (x4)), (5, .int (x5)), (6, .int (x6)), (7, .int (x7))] [] w) : ∀ (n : Nat) (x0 : Option Nat) (x2 : Int32) (x3 : Option Nat) (x4 : Int32) (x5 : Int32) (x6 : Int32) (x7 : Int32) (x8 : Int32) (w : xWd), f_X4_bestClick_57 k46 n x0 x2 x3 x4 x5 x6 x7 x8 w = some q → xk_X p l e { frames := 5, cells := 0, slots := 0, locals := 113 } s m args below meth c (MQ below (xk_Qi E q) args s 0 0 (xk_A E.2.2.1)) E 11 0 0 57 [(0, va_rf (x0)), (2, .int (x2)), (3, va_rf (x3)), (4, .int (x4)), (5, .int (x5)), (6, .int (x6)), (7, .int (x7)), (8, .int (x8))] [] w := by
  intro n
  induction n with
  | zero => intro x0 x2 x3 x4 x5 x6 x7 x8 w hf; have hf : none = some q := hf; cases hf
  | succ n ih =>
    intro x0 x2 x3 x4 x5 x6 x7 x8 w hf
    refine xk_iload hC dX4_bestClick_57 7 rfl ?_
    refine xk_iconst (v := (1 : Int32)) hC dX4_bestClick_59 (by decide) ?_
    refine xk_icmp_gt (tgt := 123) hC dX4_bestClick_60 (by decide) (fun c1 => ?_) (fun c1 => ?_)
    · replace hf := (if_pos c1).symm.trans hf
      refine xk_iinc (v := x7 + (1 : Int32)) (lv' := [(7, .int (x7 + (1 : Int32))), (0, va_rf (x0)), (2, .int (x2)), (3, va_rf (x3)), (4, .int (x4)), (5, .int (x5)), (6, .int (x6)), (8, .int (x8))]) hC dX4_bestClick_123 6 rfl rfl (by decide) rfl ?_
      refine xk_goto (tgt := 46) hC dX4_bestClick_126 (by decide) ?_
      refine xk_locals [1, 2, 3, 4, 5, 6, 0] rfl ?_
      exact hk46 x0 x2 x3 x4 x5 x6 (x7 + (1 : Int32)) w hf
    · replace hf := (if_neg c1).symm.trans hf
      refine xk_iload hC dX4_bestClick_63 3 rfl ?_
      refine xk_iload hC dX4_bestClick_65 7 rfl ?_
      refine xk_iload hC dX4_bestClick_67 6 rfl ?_
      refine xk_imul hC dX4_bestClick_69 ?_
      refine xk_iadd hC dX4_bestClick_70 ?_
      refine xk_istore (i := 9) (lv' := [(9, .int ((x4) + ((x8) * (x7)))), (0, va_rf (x0)), (2, .int (x2)), (3, va_rf (x3)), (4, .int (x4)), (5, .int (x5)), (6, .int (x6)), (7, .int (x7)), (8, .int (x8))]) hC dX4_bestClick_71 (by decide) rfl ?_
      refine xk_iload hC dX4_bestClick_73 0 rfl ?_
      refine xk_bipush (v := (24 : Int32)) hC dX4_bestClick_75 (by decide) ?_
      refine xk_icmp_lt (tgt := 88) hC dX4_bestClick_77 (by decide) (fun c2 => ?_) (fun c2 => ?_)
      · replace hf := (if_pos c2).symm.trans hf
        refine xk_locals [1, 2, 3, 4, 5, 6, 7, 8, 0] rfl ?_
        exact t_X4_bestClick_88 hC hr hk46 (fun x0 x2 x3 x4 x5 x6 x7 x8 w hf => ih x0 x2 x3 x4 x5 x6 x7 x8 w hf) x0 x2 x3 x4 x5 x6 x7 x8 ((x4) + ((x8) * (x7))) w hf
      · replace hf := (if_neg c2).symm.trans hf
        refine xk_iload hC dX4_bestClick_80 0 rfl ?_
        refine xk_sipush (v := (160 : Int32)) hC dX4_bestClick_82 (by decide) ?_
        refine xk_icmp_le (tgt := 92) hC dX4_bestClick_85 (by decide) (fun c3 => ?_) (fun c3 => ?_)
        · replace hf := (if_pos c3).symm.trans hf
          refine xk_aload_n hC dX4_bestClick_92 1 rfl rfl ?_
          refine xk_aload_n hC dX4_bestClick_93 3 rfl rfl ?_
          refine xk_iload_n hC dX4_bestClick_94 2 rfl rfl ?_
          refine xk_iload hC dX4_bestClick_95 0 rfl ?_
          obtain ⟨u5, h5, hf⟩ := xk_bi hf
          obtain ⟨q4, h4, hf⟩ := xk_bi hf
          refine xk_backi (xk_callV hC 3 xc_0 (c_X4_countMetWithClick h4) h5 xm_640 xm_642 xm_p25 xm_1 xm_643 ⟨rfl, xd_X4_countMetWithClick⟩ rfl ⟨Nat.le_of_ble_eq_true rfl, Nat.le_of_ble_eq_true rfl⟩ rfl (Nat.le_of_ble_eq_true rfl) dX4_bestClick_97 ⟨(Nat.le_of_ble_eq_true rfl), (Nat.le_of_ble_eq_true rfl)⟩) ?_
          refine xk_locals [1, 2, 3, 4, 5, 6, 7, 8, 0] rfl ?_
          exact t_X4_bestClick_100 hC hr hk46 (fun x0 x2 x3 x4 x5 x6 x7 x8 w hf => ih x0 x2 x3 x4 x5 x6 x7 x8 w hf) x0 x2 x3 x4 x5 x6 x7 x8 ((x4) + ((x8) * (x7))) (q4.1) (q4.2) hf
        · replace hf := (if_neg c3).symm.trans hf
          refine xk_locals [1, 2, 3, 4, 5, 6, 7, 8, 0] rfl ?_
          exact t_X4_bestClick_88 hC hr hk46 (fun x0 x2 x3 x4 x5 x6 x7 x8 w hf => ih x0 x2 x3 x4 x5 x6 x7 x8 w hf) x0 x2 x3 x4 x5 x6 x7 x8 ((x4) + ((x8) * (x7))) w hf
def f_X4_bestClick_46 : Nat → Option Nat → Int32 → Option Nat → Int32 → Int32 → Int32 → Int32 → xWd → Option (Int32 × xWd)
  | 0, _, _, _, _, _, _, _, _ => none
  | n + 1, x0, x2, x3, x4, x5, x6, x7, w => if ((136 : Int32)) < (x7) then some (x5, w) else f_X4_bestClick_57 (f_X4_bestClick_46 n) 4096 x0 x2 x3 x4 x5 x6 x7 ((-1 : Int32)) w
set_option maxHeartbeats 4000000 in
set_option maxRecDepth 100000 in
theorem t_X4_bestClick_46 {p : Program} {l : Launch} {e : Env} {s : State} {m : MethodId} {args : Array Value} {below : List Frame} {meth : Method} {c : Code} {E : xEv} (hC : xk_C p s m args meth c E prog_1_method_49_code "Clickbook" 11) (hr : meth.sig.returnType = (some .int)) {q : (Int32 × xWd)} : ∀ (n : Nat) (x0 : Option Nat) (x2 : Int32) (x3 : Option Nat) (x4 : Int32) (x5 : Int32) (x6 : Int32) (x7 : Int32) (w : xWd), f_X4_bestClick_46 n x0 x2 x3 x4 x5 x6 x7 w = some q → xk_X p l e { frames := 5, cells := 0, slots := 0, locals := 113 } s m args below meth c (MQ below (xk_Qi E q) args s 0 0 (xk_A E.2.2.1)) E 11 0 0 46 [(0, va_rf (x0)), (2, .int (x2)), (3, va_rf (x3)), (4, .int (x4)), (5, .int (x5)), (6, .int (x6)), (7, .int (x7))] [] w := by
  intro n
  induction n with
  | zero => intro x0 x2 x3 x4 x5 x6 x7 w hf; have hf : none = some q := hf; cases hf
  | succ n ih =>
    intro x0 x2 x3 x4 x5 x6 x7 w hf
    refine xk_iload hC dX4_bestClick_46 6 rfl ?_
    refine xk_sipush (v := (136 : Int32)) hC dX4_bestClick_48 (by decide) ?_
    refine xk_icmp_gt (tgt := 129) hC dX4_bestClick_51 (by decide) (fun c1 => ?_) (fun c1 => ?_)
    · replace hf := (if_pos c1).symm.trans hf
      refine xk_iload hC dX4_bestClick_129 4 rfl ?_
      cases hf
      refine xk_widen (k := 0) (n := 0) (Nat.le_of_ble_eq_true rfl) (Nat.le_of_ble_eq_true rfl) ?_
      exact xk_iret hC hr rfl dX4_bestClick_131
    · replace hf := (if_neg c1).symm.trans hf
      refine xk_iconst (v := (-1 : Int32)) hC dX4_bestClick_54 (by decide) ?_
      refine xk_istore (i := 8) (lv' := [(8, .int ((-1 : Int32))), (0, va_rf (x0)), (2, .int (x2)), (3, va_rf (x3)), (4, .int (x4)), (5, .int (x5)), (6, .int (x6)), (7, .int (x7))]) hC dX4_bestClick_55 (by decide) rfl ?_
      refine xk_locals [1, 2, 3, 4, 5, 6, 7, 0] rfl ?_
      exact t_X4_bestClick_57 hC hr (fun x0 x2 x3 x4 x5 x6 x7 w hf => ih x0 x2 x3 x4 x5 x6 x7 w hf) 4096 x0 x2 x3 x4 x5 x6 x7 ((-1 : Int32)) w hf
def f_X4_bestClick (x0 : Option Nat) (x1 : Int32) (x2 : Int32) (w : xWd) : Option (Int32 × xWd) := (xk_is w (x0) 0).bind (fun u2 => (f_X4_cueNumbered (x0) (x1) w).bind (fun q1 => (f_X4_refuseNoBar (q1.1) (x2) q1.2).bind (fun q3 => (xk_is q3 (x0) 0).bind (fun u5 => (f_X4_markMetByOthers (x0) (x1) q3).bind (fun q4 => (xk_gR q4 (q1.1) 1 9).bind (fun v6 => (xk_lI 0 q4 (v6) (x2)).bind (fun v7 => (xk_gI q4 (q1.1) 1 1).bind (fun v8 => (xk_gR q4 (q1.1) 1 12).bind (fun v9 => (xk_is q4 (x0) 0).bind (fun u11 => (f_X4_countMetWith (x0) (q1.1) (v8) (v9) q4).bind (fun q10 => f_X4_bestClick_46 4096 x0 x2 (q1.1) v7 v7 (q10.1) ((1 : Int32)) (q10.2))))))))))))
set_option maxHeartbeats 4000000 in
set_option maxRecDepth 100000 in
theorem t_X4_bestClick_0 {p : Program} {l : Launch} {e : Env} {s : State} {m : MethodId} {args : Array Value} {below : List Frame} {meth : Method} {c : Code} {E : xEv} (hC : xk_C p s m args meth c E prog_1_method_49_code "Clickbook" 11) (hr : meth.sig.returnType = (some .int)) {q : (Int32 × xWd)} (x0 : Option Nat) (x1 : Int32) (x2 : Int32) (w : xWd) (hf : f_X4_bestClick x0 x1 x2 w = some q) : xk_X p l e { frames := 5, cells := 0, slots := 0, locals := 113 } s m args below meth c (MQ below (xk_Qi E q) args s 0 0 (xk_A E.2.2.1)) E 11 0 0 0 [(0, va_rf (x0)), (1, .int (x1)), (2, .int (x2))] [] w := by
  refine xk_aload_n hC dX4_bestClick_0 0 rfl rfl ?_
  refine xk_iload_n hC dX4_bestClick_1 1 rfl rfl ?_
  obtain ⟨u2, h2, hf⟩ := xk_bi hf
  obtain ⟨q1, h1, hf⟩ := xk_bi hf
  refine xk_backq (xk_callV hC 1 xc_0 (c_X4_cueNumbered h1) h2 xm_376 xm_378 xm_p4 xm_1 xm_379 ⟨rfl, xd_X4_cueNumbered⟩ rfl ⟨Nat.le_of_ble_eq_true rfl, Nat.le_of_ble_eq_true rfl⟩ rfl (Nat.le_of_ble_eq_true rfl) dX4_bestClick_2 ⟨(Nat.le_of_ble_eq_true rfl), (Nat.le_of_ble_eq_true rfl)⟩) ?_
  refine xk_astore_n (i := 3) (lv' := [(3, va_rf (q1.1)), (0, va_rf (x0)), (1, .int (x1)), (2, .int (x2))]) hC dX4_bestClick_5 rfl (by decide) rfl ?_
  refine xk_aload_n hC dX4_bestClick_6 0 rfl rfl ?_
  refine xk_iload_n hC dX4_bestClick_7 3 rfl rfl ?_
  obtain ⟨q3, h3, hf⟩ := xk_bi hf
  refine xk_backv (xk_callS hC 2 (c_X4_refuseNoBar h3) xm_419 xm_420 xm_1 xm_421 xd_X4_refuseNoBar rfl ⟨Nat.le_of_ble_eq_true rfl, Nat.le_of_ble_eq_true rfl⟩ rfl (Nat.le_of_ble_eq_true rfl) dX4_bestClick_8 ⟨(Nat.le_of_ble_eq_true rfl), (Nat.le_of_ble_eq_true rfl)⟩) ?_
  refine xk_aload_n hC dX4_bestClick_11 1 rfl rfl ?_
  refine xk_iload_n hC dX4_bestClick_12 2 rfl rfl ?_
  obtain ⟨u5, h5, hf⟩ := xk_bi hf
  obtain ⟨q4, h4, hf⟩ := xk_bi hf
  refine xk_backv (xk_callV hC 1 xc_0 (c_X4_markMetByOthers h4) h5 xm_628 xm_630 xm_p23 xm_1 xm_631 ⟨rfl, xd_X4_markMetByOthers⟩ rfl ⟨Nat.le_of_ble_eq_true rfl, Nat.le_of_ble_eq_true rfl⟩ rfl (Nat.le_of_ble_eq_true rfl) dX4_bestClick_13 ⟨(Nat.le_of_ble_eq_true rfl), (Nat.le_of_ble_eq_true rfl)⟩) ?_
  refine xk_aload_n hC dX4_bestClick_16 0 rfl rfl ?_
  obtain ⟨v6, h6, hf⟩ := xk_bi hf
  refine xk_getR hC xi_1 xc_1 9 (by decide) xm_338 (Or.inl rfl) dX4_bestClick_17 h6 ?_
  refine xk_iload_n hC dX4_bestClick_20 3 rfl rfl ?_
  obtain ⟨v7, h7, hf⟩ := xk_bi hf
  refine xk_iald hC rfl dX4_bestClick_21 h7 ?_
  refine xk_istore (i := 4) (lv' := [(4, .int (v7)), (3, va_rf (q1.1)), (0, va_rf (x0)), (1, .int (x1)), (2, .int (x2))]) hC dX4_bestClick_22 (by decide) (by simp [xk_cat1]) ?_
  refine xk_iload hC dX4_bestClick_24 0 rfl ?_
  refine xk_istore (i := 5) (lv' := [(5, .int (v7)), (4, .int (v7)), (3, va_rf (q1.1)), (0, va_rf (x0)), (1, .int (x1)), (2, .int (x2))]) hC dX4_bestClick_26 (by decide) rfl ?_
  refine xk_aload_n hC dX4_bestClick_28 3 rfl rfl ?_
  refine xk_aload_n hC dX4_bestClick_29 2 rfl rfl ?_
  refine xk_aload_n hC dX4_bestClick_30 2 rfl rfl ?_
  obtain ⟨v8, h8, hf⟩ := xk_bi hf
  refine xk_getI hC xi_1 xc_1 1 (by decide) xm_320 (Or.inl rfl) dX4_bestClick_31 h8 ?_
  refine xk_aload_n hC dX4_bestClick_34 2 rfl rfl ?_
  obtain ⟨v9, h9, hf⟩ := xk_bi hf
  refine xk_getR hC xi_1 xc_1 12 (by decide) xm_344 (Or.inl rfl) dX4_bestClick_35 h9 ?_
  obtain ⟨u11, h11, hf⟩ := xk_bi hf
  obtain ⟨q10, h10, hf⟩ := xk_bi hf
  refine xk_backi (xk_callV hC 3 xc_0 (c_X4_countMetWith h10) h11 xm_632 xm_634 xm_p24 xm_1 xm_635 ⟨rfl, xd_X4_countMetWith⟩ rfl ⟨Nat.le_of_ble_eq_true rfl, Nat.le_of_ble_eq_true rfl⟩ rfl (Nat.le_of_ble_eq_true rfl) dX4_bestClick_38 ⟨(Nat.le_of_ble_eq_true rfl), (Nat.le_of_ble_eq_true rfl)⟩) ?_
  refine xk_istore (i := 6) (lv' := [(6, .int (q10.1)), (5, .int (v7)), (4, .int (v7)), (3, va_rf (q1.1)), (0, va_rf (x0)), (1, .int (x1)), (2, .int (x2))]) hC dX4_bestClick_41 (by decide) rfl ?_
  refine xk_iconst (v := (1 : Int32)) hC dX4_bestClick_43 (by decide) ?_
  refine xk_istore (i := 7) (lv' := [(7, .int ((1 : Int32))), (6, .int (q10.1)), (5, .int (v7)), (4, .int (v7)), (3, va_rf (q1.1)), (0, va_rf (x0)), (1, .int (x1)), (2, .int (x2))]) hC dX4_bestClick_44 (by decide) rfl ?_
  refine xk_locals [5, 7, 4, 3, 2, 1, 0] rfl ?_
  exact t_X4_bestClick_46 hC hr 4096 x0 x2 (q1.1) v7 v7 (q10.1) ((1 : Int32)) (q10.2) hf
theorem xd_X4_bestClick : xy_X4_bestClick.cls ≠ "java/lang/invoke/MethodHandle" ∧ xy_X4_bestClick.cls ≠ "java/lang/invoke/VarHandle" ∧ (parseMethodDescriptor xy_X4_bestClick.desc).map (fun d => d.parameters.length) = some 2 := ⟨by decide +kernel, by decide +kernel, by decide +kernel⟩
theorem c_X4_bestClick {l : Launch} {E : xEv} {x0 : Option Nat} {x1 : Int32} {x2 : Int32} {w : xWd} {q : (Int32 × xWd)} (hf : f_X4_bestClick x0 x1 x2 w = some q) : xk_M l xy_X4_bestClick prog_1_method_49_code 11 (some .int) 5 113 0 0 E [va_rf (x0), .int (x1), .int (x2)] w (xk_Qi E q) := by
  refine xk_enter (by decide +kernel) (by simp [lg_sl, xk_cat1, xk_cati, xk_catl, xk_catd]) ?_
  intro p e s m args below meth c hC hr hin ha
  rw [show lv_args 0 [va_rf (x0), .int (x1), .int (x2)] = [(0, va_rf (x0)), (1, .int (x1)), (2, .int (x2))] by simp [lv_args, xk_cat1, xk_cati, xk_catl, xk_catd]]
  exact t_X4_bestClick_0 hC hr x0 x1 x2 w hf
def f_X4_wouldBeMet_14 : Nat → Option Nat → Option Nat → Int32 → Int32 → Int32 → Int32 → xWd → Option (Int32 × xWd)
  | 0, _, _, _, _, _, _, _ => none
  | n + 1, x0, x1, x2, x3, x4, x5, w => (xk_gR w (x0) 0 3).bind (fun v1 => (xk_is w (v1) 5).bind (fun u3 => (f_Jx4a65c_size_8abf5 (v1)  w).bind (fun q2 => if (q2.1) ≤ (x5) then some ((0 : Int32), q2.2) else (xk_gR q2.2 (x0) 0 3).bind (fun v5 => (xk_is q2.2 (v5) 5).bind (fun u7 => (f_Jx4a65c_get_915e3 (v5) (x5) q2.2).bind (fun q6 => (xk_cc q6.2 (q6.1) 1).bind (fun u8 => (xk_gI q6.2 (x1) 2 1).bind (fun v9 => (xk_gI q6.2 (q6.1) 1 1).bind (fun v10 => (f_X4_movedFrame (v10) (x2) (x3) q6.2).bind (fun q11 => (xk_gR q11.2 (q6.1) 1 12).bind (fun v12 => (xk_is q11.2 (q6.1) 1).bind (fun u14 => (f_X0_reaches (q6.1) (x4) (v9) (q11.1) (v12) q11.2).bind (fun q13 => if (q13.1) = ((0 : Int32)) then f_X4_wouldBeMet_14 n x0 x1 x2 x3 x4 (x5 + (1 : Int32)) (q13.2) else some ((1 : Int32), q13.2))))))))))))))
set_option maxHeartbeats 4000000 in
set_option maxRecDepth 100000 in
theorem t_X4_wouldBeMet_14 {p : Program} {l : Launch} {e : Env} {s : State} {m : MethodId} {args : Array Value} {below : List Frame} {meth : Method} {c : Code} {E : xEv} (hC : xk_C p s m args meth c E prog_1_method_57_code "Clickbook" 7) (hr : meth.sig.returnType = (some .boolean)) {q : (Int32 × xWd)} : ∀ (n : Nat) (x0 : Option Nat) (x1 : Option Nat) (x2 : Int32) (x3 : Int32) (x4 : Int32) (x5 : Int32) (w : xWd), f_X4_wouldBeMet_14 n x0 x1 x2 x3 x4 x5 w = some q → xk_X p l e { frames := 3, cells := 0, slots := 0, locals := 64 } s m args below meth c (MQ below (xk_Qi E q) args s 0 0 (xk_A E.2.2.1)) E 7 0 0 14 [(0, va_rf (x0)), (1, va_rf (x1)), (2, .int (x2)), (3, .int (x3)), (4, .int (x4)), (5, .int (x5))] [] w := by
  intro n
  induction n with
  | zero => intro x0 x1 x2 x3 x4 x5 w hf; have hf : none = some q := hf; cases hf
  | succ n ih =>
    intro x0 x1 x2 x3 x4 x5 w hf
    refine xk_iload hC dX4_wouldBeMet_14 5 rfl ?_
    refine xk_aload_n hC dX4_wouldBeMet_16 0 rfl rfl ?_
    obtain ⟨v1, h1, hf⟩ := xk_bi hf
    refine xk_getR hC xi_0 xc_0 3 (by decide) xm_77 (Or.inl rfl) dX4_wouldBeMet_17 h1 ?_
    obtain ⟨u3, h3, hf⟩ := xk_bi hf
    obtain ⟨q2, h2, hf⟩ := xk_bi hf
    refine xk_backi (xk_callV hC 0 xc_5 (c_Jx4a65c_size_8abf5 h2) h3 xm_187 xm_188 xm_189 xm_4 xm_190 ⟨rfl, xd_Jx4a65c_size_8abf5⟩ rfl ⟨Nat.le_of_ble_eq_true rfl, Nat.le_of_ble_eq_true rfl⟩ rfl (Nat.le_of_ble_eq_true rfl) dX4_wouldBeMet_20 ⟨(Nat.le_of_ble_eq_true rfl), (Nat.le_of_ble_eq_true rfl)⟩) ?_
    refine xk_icmp_ge (tgt := 77) hC dX4_wouldBeMet_23 (by decide) (fun c4 => ?_) (fun c4 => ?_)
    · replace hf := (if_pos c4).symm.trans hf
      refine xk_iconst (v := (0 : Int32)) hC dX4_wouldBeMet_77 (by decide) ?_
      cases hf
      refine xk_widen (k := 0) (n := 0) (Nat.le_of_ble_eq_true rfl) (Nat.le_of_ble_eq_true rfl) ?_
      exact xk_iret hC hr rfl dX4_wouldBeMet_78
    · replace hf := (if_neg c4).symm.trans hf
      refine xk_aload_n hC dX4_wouldBeMet_26 0 rfl rfl ?_
      obtain ⟨v5, h5, hf⟩ := xk_bi hf
      refine xk_getR hC xi_0 xc_0 3 (by decide) xm_77 (Or.inl rfl) dX4_wouldBeMet_27 h5 ?_
      refine xk_iload hC dX4_wouldBeMet_30 5 rfl ?_
      obtain ⟨u7, h7, hf⟩ := xk_bi hf
      obtain ⟨q6, h6, hf⟩ := xk_bi hf
      refine xk_backq (xk_callV hC 1 xc_5 (c_Jx4a65c_get_915e3 h6) h7 xm_381 xm_382 xm_383 xm_4 xm_384 ⟨rfl, xd_Jx4a65c_get_915e3⟩ rfl ⟨Nat.le_of_ble_eq_true rfl, Nat.le_of_ble_eq_true rfl⟩ rfl (Nat.le_of_ble_eq_true rfl) dX4_wouldBeMet_32 ⟨(Nat.le_of_ble_eq_true rfl), (Nat.le_of_ble_eq_true rfl)⟩) ?_
      obtain ⟨u8, h8, hf⟩ := xk_bi hf
      refine xk_cast hC xc_1 xm_311 dX4_wouldBeMet_35 h8 ?_
      refine xk_astore (i := 6) (lv' := [(6, va_rf (q6.1)), (0, va_rf (x0)), (1, va_rf (x1)), (2, .int (x2)), (3, .int (x3)), (4, .int (x4)), (5, .int (x5))]) hC dX4_wouldBeMet_38 (by decide) rfl ?_
      refine xk_aload hC dX4_wouldBeMet_40 0 rfl ?_
      refine xk_iload hC dX4_wouldBeMet_42 5 rfl ?_
      refine xk_aload_n hC dX4_wouldBeMet_44 2 rfl rfl ?_
      obtain ⟨v9, h9, hf⟩ := xk_bi hf
      refine xk_getI hC xi_2 xc_2 1 (by decide) xm_216 (Or.inl rfl) dX4_wouldBeMet_45 h9 ?_
      refine xk_aload hC dX4_wouldBeMet_48 0 rfl ?_
      obtain ⟨v10, h10, hf⟩ := xk_bi hf
      refine xk_getI hC xi_1 xc_1 1 (by decide) xm_320 (Or.inl rfl) dX4_wouldBeMet_50 h10 ?_
      refine xk_iload_n hC dX4_wouldBeMet_53 3 rfl rfl ?_
      refine xk_iload_n hC dX4_wouldBeMet_54 4 rfl rfl ?_
      obtain ⟨q11, h11, hf⟩ := xk_bi hf
      refine xk_backi (xk_callS hC 3 (c_X4_movedFrame h11) xm_662 xm_663 xm_1 xm_664 xd_X4_movedFrame rfl ⟨Nat.le_of_ble_eq_true rfl, Nat.le_of_ble_eq_true rfl⟩ rfl (by simp [xk_cat1, xk_cati, xk_catl, xk_catd]) dX4_wouldBeMet_55 ⟨(Nat.le_of_ble_eq_true rfl), (Nat.le_of_ble_eq_true rfl)⟩) ?_
      refine xk_aload hC dX4_wouldBeMet_58 0 rfl ?_
      obtain ⟨v12, h12, hf⟩ := xk_bi hf
      refine xk_getR hC xi_1 xc_1 12 (by decide) xm_344 (Or.inl rfl) dX4_wouldBeMet_60 h12 ?_
      obtain ⟨u14, h14, hf⟩ := xk_bi hf
      obtain ⟨q13, h13, hf⟩ := xk_bi hf
      refine xk_backi (xk_callV hC 4 xc_1 (c_X0_reaches h13) h14 xm_444 xm_445 xm_446 xm_17 xm_447 ⟨rfl, xd_X0_reaches⟩ rfl ⟨Nat.le_of_ble_eq_true rfl, Nat.le_of_ble_eq_true rfl⟩ rfl (Nat.le_of_ble_eq_true rfl) dX4_wouldBeMet_63 ⟨(Nat.le_of_ble_eq_true rfl), (Nat.le_of_ble_eq_true rfl)⟩) ?_
      refine xk_if_eq (tgt := 71) hC dX4_wouldBeMet_66 (by decide) (fun c15 => ?_) (fun c15 => ?_)
      · replace hf := (if_pos c15).symm.trans hf
        refine xk_iinc (v := x5 + (1 : Int32)) (lv' := [(5, .int (x5 + (1 : Int32))), (6, va_rf (q6.1)), (0, va_rf (x0)), (1, va_rf (x1)), (2, .int (x2)), (3, .int (x3)), (4, .int (x4))]) hC dX4_wouldBeMet_71 6 rfl rfl (by decide) rfl ?_
        refine xk_goto (tgt := 14) hC dX4_wouldBeMet_74 (by decide) ?_
        refine xk_locals [2, 3, 4, 5, 6, 0] rfl ?_
        exact ih x0 x1 x2 x3 x4 (x5 + (1 : Int32)) (q13.2) hf
      · replace hf := (if_neg c15).symm.trans hf
        refine xk_iconst (v := (1 : Int32)) hC dX4_wouldBeMet_69 (by decide) ?_
        cases hf
        refine xk_widen (k := 0) (n := 0) (Nat.le_of_ble_eq_true rfl) (Nat.le_of_ble_eq_true rfl) ?_
        exact xk_iret hC hr rfl dX4_wouldBeMet_70
def f_X4_wouldBeMet (x0 : Option Nat) (x1 : Option Nat) (x2 : Int32) (x3 : Int32) (w : xWd) : Option (Int32 × xWd) := (xk_gI w (x1) 2 0).bind (fun v1 => (f_X4_movedFrame (v1) (x2) (x3) w).bind (fun q2 => f_X4_wouldBeMet_14 4096 x0 x1 x2 x3 (q2.1) ((0 : Int32)) (q2.2)))
set_option maxHeartbeats 4000000 in
set_option maxRecDepth 100000 in
theorem t_X4_wouldBeMet_0 {p : Program} {l : Launch} {e : Env} {s : State} {m : MethodId} {args : Array Value} {below : List Frame} {meth : Method} {c : Code} {E : xEv} (hC : xk_C p s m args meth c E prog_1_method_57_code "Clickbook" 7) (hr : meth.sig.returnType = (some .boolean)) {q : (Int32 × xWd)} (x0 : Option Nat) (x1 : Option Nat) (x2 : Int32) (x3 : Int32) (w : xWd) (hf : f_X4_wouldBeMet x0 x1 x2 x3 w = some q) : xk_X p l e { frames := 3, cells := 0, slots := 0, locals := 64 } s m args below meth c (MQ below (xk_Qi E q) args s 0 0 (xk_A E.2.2.1)) E 7 0 0 0 [(0, va_rf (x0)), (1, va_rf (x1)), (2, .int (x2)), (3, .int (x3))] [] w := by
  refine xk_aload_n hC dX4_wouldBeMet_0 1 rfl rfl ?_
  obtain ⟨v1, h1, hf⟩ := xk_bi hf
  refine xk_getI hC xi_2 xc_2 0 (by decide) xm_214 (Or.inl rfl) dX4_wouldBeMet_1 h1 ?_
  refine xk_iload_n hC dX4_wouldBeMet_4 2 rfl rfl ?_
  refine xk_iload_n hC dX4_wouldBeMet_5 3 rfl rfl ?_
  obtain ⟨q2, h2, hf⟩ := xk_bi hf
  refine xk_backi (xk_callS hC 3 (c_X4_movedFrame h2) xm_662 xm_663 xm_1 xm_664 xd_X4_movedFrame rfl ⟨Nat.le_of_ble_eq_true rfl, Nat.le_of_ble_eq_true rfl⟩ rfl (Nat.le_of_ble_eq_true rfl) dX4_wouldBeMet_6 ⟨(Nat.le_of_ble_eq_true rfl), (Nat.le_of_ble_eq_true rfl)⟩) ?_
  refine xk_istore (i := 4) (lv' := [(4, .int (q2.1)), (0, va_rf (x0)), (1, va_rf (x1)), (2, .int (x2)), (3, .int (x3))]) hC dX4_wouldBeMet_9 (by decide) rfl ?_
  refine xk_iconst (v := (0 : Int32)) hC dX4_wouldBeMet_11 (by decide) ?_
  refine xk_istore (i := 5) (lv' := [(5, .int ((0 : Int32))), (4, .int (q2.1)), (0, va_rf (x0)), (1, va_rf (x1)), (2, .int (x2)), (3, .int (x3))]) hC dX4_wouldBeMet_12 (by decide) rfl ?_
  refine xk_locals [2, 3, 4, 5, 1, 0] rfl ?_
  exact t_X4_wouldBeMet_14 hC hr 4096 x0 x1 x2 x3 (q2.1) ((0 : Int32)) (q2.2) hf
theorem xd_X4_wouldBeMet : xy_X4_wouldBeMet.cls ≠ "java/lang/invoke/MethodHandle" ∧ xy_X4_wouldBeMet.cls ≠ "java/lang/invoke/VarHandle" ∧ (parseMethodDescriptor xy_X4_wouldBeMet.desc).map (fun d => d.parameters.length) = some 3 := ⟨by decide +kernel, by decide +kernel, by decide +kernel⟩
theorem c_X4_wouldBeMet {l : Launch} {E : xEv} {x0 : Option Nat} {x1 : Option Nat} {x2 : Int32} {x3 : Int32} {w : xWd} {q : (Int32 × xWd)} (hf : f_X4_wouldBeMet x0 x1 x2 x3 w = some q) : xk_M l xy_X4_wouldBeMet prog_1_method_57_code 7 (some .boolean) 3 64 0 0 E [va_rf (x0), va_rf (x1), .int (x2), .int (x3)] w (xk_Qi E q) := by
  refine xk_enter (by decide +kernel) (by simp [lg_sl, xk_cat1, xk_cati, xk_catl, xk_catd]) ?_
  intro p e s m args below meth c hC hr hin ha
  rw [show lv_args 0 [va_rf (x0), va_rf (x1), .int (x2), .int (x3)] = [(0, va_rf (x0)), (1, va_rf (x1)), (2, .int (x2)), (3, .int (x3))] by simp [lv_args, xk_cat1, xk_cati, xk_catl, xk_catd]]
  exact t_X4_wouldBeMet_0 hC hr x0 x1 x2 x3 w hf
def f_X4_wouldMeet_72 (k11 : Option Nat → Int32 → Int32 → Int32 → Int32 → xWd → Option (Int32 × xWd)) (x0 : Option Nat) (x1 : Int32) (x2 : Int32) (x3 : Int32) (x4 : Int32) (w : xWd) : Option (Int32 × xWd) := k11 x0 x1 x2 x3 (x4 + (1 : Int32)) w
set_option maxHeartbeats 4000000 in
set_option maxRecDepth 100000 in
theorem t_X4_wouldMeet_72 {p : Program} {l : Launch} {e : Env} {s : State} {m : MethodId} {args : Array Value} {below : List Frame} {meth : Method} {c : Code} {E : xEv} (hC : xk_C p s m args meth c E prog_1_method_50_code "Clickbook" 6) (hr : meth.sig.returnType = (some .int)) {q : (Int32 × xWd)} {k11 : Option Nat → Int32 → Int32 → Int32 → Int32 → xWd → Option (Int32 × xWd)} (hk11 : ∀ (x0 : Option Nat) (x1 : Int32) (x2 : Int32) (x3 : Int32) (x4 : Int32) (w : xWd), k11 x0 x1 x2 x3 x4 w = some q → xk_X p l e { frames := 4, cells := 0, slots := 0, locals := 90 } s m args below meth c (MQ below (xk_Qi E q) args s 0 0 (xk_A E.2.2.1)) E 6 0 0 11 [(0, va_rf (x0)), (1, .int (x1)), (2, .int (x2)), (3, .int (x3)), (4, .int (x4))] [] w) (x0 : Option Nat) (x1 : Int32) (x2 : Int32) (x3 : Int32) (x4 : Int32) (w : xWd) (hf : f_X4_wouldMeet_72 k11 x0 x1 x2 x3 x4 w = some q) : xk_X p l e { frames := 4, cells := 0, slots := 0, locals := 90 } s m args below meth c (MQ below (xk_Qi E q) args s 0 0 (xk_A E.2.2.1)) E 6 0 0 72 [(0, va_rf (x0)), (1, .int (x1)), (2, .int (x2)), (3, .int (x3)), (4, .int (x4))] [] w := by
  refine xk_iinc (v := x4 + (1 : Int32)) (lv' := [(4, .int (x4 + (1 : Int32))), (0, va_rf (x0)), (1, .int (x1)), (2, .int (x2)), (3, .int (x3))]) hC dX4_wouldMeet_72 4 rfl rfl (by decide) rfl ?_
  refine xk_goto (tgt := 11) hC dX4_wouldMeet_75 (by decide) ?_
  refine xk_locals [1, 2, 3, 4, 0] rfl ?_
  exact hk11 x0 x1 x2 x3 (x4 + (1 : Int32)) w hf
def f_X4_wouldMeet_11 : Nat → Option Nat → Int32 → Int32 → Int32 → Int32 → xWd → Option (Int32 × xWd)
  | 0, _, _, _, _, _, _ => none
  | n + 1, x0, x1, x2, x3, x4, w => (xk_gR w (x0) 0 0).bind (fun v1 => (xk_is w (v1) 5).bind (fun u3 => (f_Jx4a65c_size_8abf5 (v1)  w).bind (fun q2 => if (q2.1) ≤ (x4) then some (x3, q2.2) else (xk_gR q2.2 (x0) 0 0).bind (fun v5 => (xk_is q2.2 (v5) 5).bind (fun u7 => (f_Jx4a65c_get_915e3 (v5) (x4) q2.2).bind (fun q6 => (xk_cc q6.2 (q6.1) 2).bind (fun u8 => (xk_gI q6.2 (q6.1) 2 2).bind (fun v9 => if (v9) = ((0 : Int32)) then (xk_gI q6.2 (q6.1) 2 0).bind (fun v11 => (f_X4_isTakenOut (v11) (x1) (x2) q6.2).bind (fun q12 => if (q12.1) = ((0 : Int32)) then (xk_is q12.2 (x0) 0).bind (fun u15 => (f_X4_wouldBeMet (x0) (q6.1) (x1) (x2) q12.2).bind (fun q14 => if (q14.1) = ((0 : Int32)) then f_X4_wouldMeet_72 (f_X4_wouldMeet_11 n) x0 x1 x2 x3 x4 (q14.2) else f_X4_wouldMeet_72 (f_X4_wouldMeet_11 n) x0 x1 x2 (x3 + (1 : Int32)) x4 (q14.2))) else f_X4_wouldMeet_72 (f_X4_wouldMeet_11 n) x0 x1 x2 x3 x4 (q12.2))) else f_X4_wouldMeet_72 (f_X4_wouldMeet_11 n) x0 x1 x2 x3 x4 (q6.2)))))))))
set_option maxHeartbeats 4000000 in
set_option maxRecDepth 100000 in
theorem t_X4_wouldMeet_11 {p : Program} {l : Launch} {e : Env} {s : State} {m : MethodId} {args : Array Value} {below : List Frame} {meth : Method} {c : Code} {E : xEv} (hC : xk_C p s m args meth c E prog_1_method_50_code "Clickbook" 6) (hr : meth.sig.returnType = (some .int)) {q : (Int32 × xWd)} : ∀ (n : Nat) (x0 : Option Nat) (x1 : Int32) (x2 : Int32) (x3 : Int32) (x4 : Int32) (w : xWd), f_X4_wouldMeet_11 n x0 x1 x2 x3 x4 w = some q → xk_X p l e { frames := 4, cells := 0, slots := 0, locals := 90 } s m args below meth c (MQ below (xk_Qi E q) args s 0 0 (xk_A E.2.2.1)) E 6 0 0 11 [(0, va_rf (x0)), (1, .int (x1)), (2, .int (x2)), (3, .int (x3)), (4, .int (x4))] [] w := by
  intro n
  induction n with
  | zero => intro x0 x1 x2 x3 x4 w hf; have hf : none = some q := hf; cases hf
  | succ n ih =>
    intro x0 x1 x2 x3 x4 w hf
    refine xk_iload hC dX4_wouldMeet_11 4 rfl ?_
    refine xk_aload_n hC dX4_wouldMeet_13 0 rfl rfl ?_
    obtain ⟨v1, h1, hf⟩ := xk_bi hf
    refine xk_getR hC xi_0 xc_0 0 (by decide) xm_74 (Or.inl rfl) dX4_wouldMeet_14 h1 ?_
    obtain ⟨u3, h3, hf⟩ := xk_bi hf
    obtain ⟨q2, h2, hf⟩ := xk_bi hf
    refine xk_backi (xk_callV hC 0 xc_5 (c_Jx4a65c_size_8abf5 h2) h3 xm_187 xm_188 xm_189 xm_4 xm_190 ⟨rfl, xd_Jx4a65c_size_8abf5⟩ rfl ⟨Nat.le_of_ble_eq_true rfl, Nat.le_of_ble_eq_true rfl⟩ rfl (Nat.le_of_ble_eq_true rfl) dX4_wouldMeet_17 ⟨(Nat.le_of_ble_eq_true rfl), (Nat.le_of_ble_eq_true rfl)⟩) ?_
    refine xk_icmp_ge (tgt := 78) hC dX4_wouldMeet_20 (by decide) (fun c4 => ?_) (fun c4 => ?_)
    · replace hf := (if_pos c4).symm.trans hf
      refine xk_iload_n hC dX4_wouldMeet_78 3 rfl rfl ?_
      cases hf
      refine xk_widen (k := 0) (n := 0) (Nat.le_of_ble_eq_true rfl) (Nat.le_of_ble_eq_true rfl) ?_
      exact xk_iret hC hr rfl dX4_wouldMeet_79
    · replace hf := (if_neg c4).symm.trans hf
      refine xk_aload_n hC dX4_wouldMeet_23 0 rfl rfl ?_
      obtain ⟨v5, h5, hf⟩ := xk_bi hf
      refine xk_getR hC xi_0 xc_0 0 (by decide) xm_74 (Or.inl rfl) dX4_wouldMeet_24 h5 ?_
      refine xk_iload hC dX4_wouldMeet_27 4 rfl ?_
      obtain ⟨u7, h7, hf⟩ := xk_bi hf
      obtain ⟨q6, h6, hf⟩ := xk_bi hf
      refine xk_backq (xk_callV hC 1 xc_5 (c_Jx4a65c_get_915e3 h6) h7 xm_381 xm_382 xm_383 xm_4 xm_384 ⟨rfl, xd_Jx4a65c_get_915e3⟩ rfl ⟨Nat.le_of_ble_eq_true rfl, Nat.le_of_ble_eq_true rfl⟩ rfl (Nat.le_of_ble_eq_true rfl) dX4_wouldMeet_29 ⟨(Nat.le_of_ble_eq_true rfl), (Nat.le_of_ble_eq_true rfl)⟩) ?_
      obtain ⟨u8, h8, hf⟩ := xk_bi hf
      refine xk_cast hC xc_2 xm_207 dX4_wouldMeet_32 h8 ?_
      refine xk_astore (i := 5) (lv' := [(5, va_rf (q6.1)), (0, va_rf (x0)), (1, .int (x1)), (2, .int (x2)), (3, .int (x3)), (4, .int (x4))]) hC dX4_wouldMeet_35 (by decide) rfl ?_
      refine xk_aload hC dX4_wouldMeet_37 0 rfl ?_
      obtain ⟨v9, h9, hf⟩ := xk_bi hf
      refine xk_getI hC xi_2 xc_2 2 (by decide) xm_218 (Or.inl rfl) dX4_wouldMeet_39 h9 ?_
      refine xk_if_ne (tgt := 72) hC dX4_wouldMeet_42 (by decide) (fun c10 => ?_) (fun c10 => ?_)
      · replace hf := (if_neg c10).symm.trans hf
        refine xk_locals [1, 2, 3, 4, 5] rfl ?_
        exact t_X4_wouldMeet_72 hC hr (fun x0 x1 x2 x3 x4 w hf => ih x0 x1 x2 x3 x4 w hf) x0 x1 x2 x3 x4 (q6.2) hf
      · replace hf := (if_pos c10).symm.trans hf
        refine xk_aload hC dX4_wouldMeet_45 0 rfl ?_
        obtain ⟨v11, h11, hf⟩ := xk_bi hf
        refine xk_getI hC xi_2 xc_2 0 (by decide) xm_214 (Or.inl rfl) dX4_wouldMeet_47 h11 ?_
        refine xk_iload_n hC dX4_wouldMeet_50 2 rfl rfl ?_
        refine xk_iload_n hC dX4_wouldMeet_51 3 rfl rfl ?_
        obtain ⟨q12, h12, hf⟩ := xk_bi hf
        refine xk_backi (xk_callS hC 3 (c_X4_isTakenOut h12) xm_655 xm_656 xm_1 xm_657 xd_X4_isTakenOut rfl ⟨Nat.le_of_ble_eq_true rfl, Nat.le_of_ble_eq_true rfl⟩ rfl (Nat.le_of_ble_eq_true rfl) dX4_wouldMeet_52 ⟨(Nat.le_of_ble_eq_true rfl), (Nat.le_of_ble_eq_true rfl)⟩) ?_
        refine xk_if_ne (tgt := 72) hC dX4_wouldMeet_55 (by decide) (fun c13 => ?_) (fun c13 => ?_)
        · replace hf := (if_neg c13).symm.trans hf
          refine xk_locals [1, 2, 3, 4, 5] rfl ?_
          exact t_X4_wouldMeet_72 hC hr (fun x0 x1 x2 x3 x4 w hf => ih x0 x1 x2 x3 x4 w hf) x0 x1 x2 x3 x4 (q12.2) hf
        · replace hf := (if_pos c13).symm.trans hf
          refine xk_aload_n hC dX4_wouldMeet_58 1 rfl rfl ?_
          refine xk_aload hC dX4_wouldMeet_59 0 rfl ?_
          refine xk_iload_n hC dX4_wouldMeet_61 2 rfl rfl ?_
          refine xk_iload_n hC dX4_wouldMeet_62 3 rfl rfl ?_
          obtain ⟨u15, h15, hf⟩ := xk_bi hf
          obtain ⟨q14, h14, hf⟩ := xk_bi hf
          refine xk_backi (xk_callV hC 3 xc_0 (c_X4_wouldBeMet h14) h15 xm_658 xm_660 xm_p27 xm_1 xm_661 ⟨rfl, xd_X4_wouldBeMet⟩ rfl ⟨Nat.le_of_ble_eq_true rfl, Nat.le_of_ble_eq_true rfl⟩ rfl (Nat.le_of_ble_eq_true rfl) dX4_wouldMeet_63 ⟨(Nat.le_of_ble_eq_true rfl), (Nat.le_of_ble_eq_true rfl)⟩) ?_
          refine xk_if_eq (tgt := 72) hC dX4_wouldMeet_66 (by decide) (fun c16 => ?_) (fun c16 => ?_)
          · replace hf := (if_pos c16).symm.trans hf
            refine xk_locals [1, 2, 3, 4, 5] rfl ?_
            exact t_X4_wouldMeet_72 hC hr (fun x0 x1 x2 x3 x4 w hf => ih x0 x1 x2 x3 x4 w hf) x0 x1 x2 x3 x4 (q14.2) hf
          · replace hf := (if_neg c16).symm.trans hf
            refine xk_iinc (v := x3 + (1 : Int32)) (lv' := [(3, .int (x3 + (1 : Int32))), (5, va_rf (q6.1)), (0, va_rf (x0)), (1, .int (x1)), (2, .int (x2)), (4, .int (x4))]) hC dX4_wouldMeet_69 4 rfl rfl (by decide) rfl ?_
            refine xk_locals [2, 3, 4, 0, 5] rfl ?_
            exact t_X4_wouldMeet_72 hC hr (fun x0 x1 x2 x3 x4 w hf => ih x0 x1 x2 x3 x4 w hf) x0 x1 x2 (x3 + (1 : Int32)) x4 (q14.2) hf
def f_X4_wouldMeet (x0 : Option Nat) (x1 : Int32) (x2 : Int32) (w : xWd) : Option (Int32 × xWd) := (xk_is w (x0) 0).bind (fun u2 => (f_X4_refuseBadCut (x0) (x1) (x2) w).bind (fun q1 => f_X4_wouldMeet_11 4096 x0 x1 x2 ((0 : Int32)) ((0 : Int32)) q1))
set_option maxHeartbeats 4000000 in
set_option maxRecDepth 100000 in
theorem t_X4_wouldMeet_0 {p : Program} {l : Launch} {e : Env} {s : State} {m : MethodId} {args : Array Value} {below : List Frame} {meth : Method} {c : Code} {E : xEv} (hC : xk_C p s m args meth c E prog_1_method_50_code "Clickbook" 6) (hr : meth.sig.returnType = (some .int)) {q : (Int32 × xWd)} (x0 : Option Nat) (x1 : Int32) (x2 : Int32) (w : xWd) (hf : f_X4_wouldMeet x0 x1 x2 w = some q) : xk_X p l e { frames := 4, cells := 0, slots := 0, locals := 90 } s m args below meth c (MQ below (xk_Qi E q) args s 0 0 (xk_A E.2.2.1)) E 6 0 0 0 [(0, va_rf (x0)), (1, .int (x1)), (2, .int (x2))] [] w := by
  refine xk_aload_n hC dX4_wouldMeet_0 0 rfl rfl ?_
  refine xk_iload_n hC dX4_wouldMeet_1 1 rfl rfl ?_
  refine xk_iload_n hC dX4_wouldMeet_2 2 rfl rfl ?_
  obtain ⟨u2, h2, hf⟩ := xk_bi hf
  obtain ⟨q1, h1, hf⟩ := xk_bi hf
  refine xk_backv (xk_callV hC 2 xc_0 (c_X4_refuseBadCut h1) h2 xm_649 xm_651 xm_p26 xm_1 xm_652 ⟨rfl, xd_X4_refuseBadCut⟩ rfl ⟨Nat.le_of_ble_eq_true rfl, Nat.le_of_ble_eq_true rfl⟩ rfl (Nat.le_of_ble_eq_true rfl) dX4_wouldMeet_3 ⟨(Nat.le_of_ble_eq_true rfl), (Nat.le_of_ble_eq_true rfl)⟩) ?_
  refine xk_iconst (v := (0 : Int32)) hC dX4_wouldMeet_6 (by decide) ?_
  refine xk_istore_n (i := 3) (lv' := [(3, .int ((0 : Int32))), (0, va_rf (x0)), (1, .int (x1)), (2, .int (x2))]) hC dX4_wouldMeet_7 rfl (by decide) rfl ?_
  refine xk_iconst (v := (0 : Int32)) hC dX4_wouldMeet_8 (by decide) ?_
  refine xk_istore (i := 4) (lv' := [(4, .int ((0 : Int32))), (3, .int ((0 : Int32))), (0, va_rf (x0)), (1, .int (x1)), (2, .int (x2))]) hC dX4_wouldMeet_9 (by decide) rfl ?_
  refine xk_locals [2, 3, 4, 1, 0] rfl ?_
  exact t_X4_wouldMeet_11 hC hr 4096 x0 x1 x2 ((0 : Int32)) ((0 : Int32)) q1 hf
theorem xd_X4_wouldMeet : xy_X4_wouldMeet.cls ≠ "java/lang/invoke/MethodHandle" ∧ xy_X4_wouldMeet.cls ≠ "java/lang/invoke/VarHandle" ∧ (parseMethodDescriptor xy_X4_wouldMeet.desc).map (fun d => d.parameters.length) = some 2 := ⟨by decide +kernel, by decide +kernel, by decide +kernel⟩
theorem c_X4_wouldMeet {l : Launch} {E : xEv} {x0 : Option Nat} {x1 : Int32} {x2 : Int32} {w : xWd} {q : (Int32 × xWd)} (hf : f_X4_wouldMeet x0 x1 x2 w = some q) : xk_M l xy_X4_wouldMeet prog_1_method_50_code 6 (some .int) 4 90 0 0 E [va_rf (x0), .int (x1), .int (x2)] w (xk_Qi E q) := by
  refine xk_enter (by decide +kernel) (by simp [lg_sl, xk_cat1, xk_cati, xk_catl, xk_catd]) ?_
  intro p e s m args below meth c hC hr hin ha
  rw [show lv_args 0 [va_rf (x0), .int (x1), .int (x2)] = [(0, va_rf (x0)), (1, .int (x1)), (2, .int (x2))] by simp [lv_args, xk_cat1, xk_cati, xk_catl, xk_catd]]
  exact t_X4_wouldMeet_0 hC hr x0 x1 x2 w hf
def f_X4_mixed (x0 : Int64) (x2 : Int64) (w : xWd) : Option (Int64 × xWd) := some (((x0) * ((31 : Int64))) + (x2), w)
set_option maxHeartbeats 4000000 in
set_option maxRecDepth 100000 in
theorem t_X4_mixed_0 {p : Program} {l : Launch} {e : Env} {s : State} {m : MethodId} {args : Array Value} {below : List Frame} {meth : Method} {c : Code} {E : xEv} (hC : xk_C p s m args meth c E prog_1_method_53_code "Clickbook" 4) (hr : meth.sig.returnType = (some .long)) {q : (Int64 × xWd)} (x0 : Int64) (x2 : Int64) (w : xWd) (hf : f_X4_mixed x0 x2 w = some q) : xk_X p l e { frames := 0, cells := 0, slots := 0, locals := 0 } s m args below meth c (MQ below (xk_Ql E q) args s 0 0 (xk_A E.2.2.1)) E 4 0 0 0 [(0, .long (x0)), (2, .long (x2))] [] w := by
  refine xk_lload_n hC dX4_mixed_0 0 rfl rfl ?_
  refine xk_ldc2 (v := (31 : Int64)) hC dX4_mixed_1 xm_674 ?_
  refine xk_lmul hC dX4_mixed_4 ?_
  refine xk_lload_n hC dX4_mixed_5 1 rfl rfl ?_
  refine xk_ladd hC dX4_mixed_6 ?_
  cases hf
  refine xk_widen (k := 0) (n := 0) (Nat.le_of_ble_eq_true rfl) (Nat.le_of_ble_eq_true rfl) ?_
  exact xk_lret hC hr dX4_mixed_7
theorem xd_X4_mixed : xy_X4_mixed.cls ≠ "java/lang/invoke/MethodHandle" ∧ xy_X4_mixed.cls ≠ "java/lang/invoke/VarHandle" ∧ (parseMethodDescriptor xy_X4_mixed.desc).map (fun d => d.parameters.length) = some 2 := ⟨by decide +kernel, by decide +kernel, by decide +kernel⟩
theorem c_X4_mixed {l : Launch} {E : xEv} {x0 : Int64} {x2 : Int64} {w : xWd} {q : (Int64 × xWd)} (hf : f_X4_mixed x0 x2 w = some q) : xk_M l xy_X4_mixed prog_1_method_53_code 4 (some .long) 0 0 0 0 E [.long (x0), .long (x2)] w (xk_Ql E q) := by
  refine xk_enter (by decide +kernel) (by simp [lg_sl, xk_cat1, xk_cati, xk_catl, xk_catd]) ?_
  intro p e s m args below meth c hC hr hin ha
  rw [show lv_args 0 [.long (x0), .long (x2)] = [(0, .long (x0)), (2, .long (x2))] by simp [lv_args, xk_cat1, xk_cati, xk_catl, xk_catd]]
  exact t_X4_mixed_0 hC hr x0 x2 w hf
def f_X4_mixedCue_70 (k57 : Option Nat → Int32 → Int64 → Option Nat → Int32 → xWd → Option (Int64 × xWd)) : Nat → Option Nat → Int32 → Int64 → Option Nat → Int32 → Int32 → xWd → Option (Int64 × xWd)
  | 0, _, _, _, _, _, _, _ => none
  | n + 1, x0, x3, x4, x6, x7, x8, w => if ((3 : Int32)) < (x8) then (xk_gR w (x0) 0 10).bind (fun v2 => (xk_is w (v2) 3).bind (fun u4 => (f_X2_takeOf (v2) (x7) w).bind (fun q3 => (f_X4_mixed (x4) ((q3.1).toInt64) q3.2).bind (fun q5 => k57 x0 x3 (q5.1) x6 (x7 + (1 : Int32)) (q5.2))))) else (xk_is w (x0) 0).bind (fun u7 => (f_X4_ofBar (x0) (x3) (x7) (x8) w).bind (fun q6 => (f_X4_mixed (x4) ((q6.1).toInt64) q6.2).bind (fun q8 => f_X4_mixedCue_70 k57 n x0 x3 (q8.1) x6 x7 (x8 + (1 : Int32)) (q8.2))))
set_option maxHeartbeats 4000000 in
set_option maxRecDepth 100000 in
theorem t_X4_mixedCue_70 {p : Program} {l : Launch} {e : Env} {s : State} {m : MethodId} {args : Array Value} {below : List Frame} {meth : Method} {c : Code} {E : xEv} (hC : xk_C p s m args meth c E prog_1_method_52_code "Clickbook" 9) (hr : meth.sig.returnType = (some .long)) {q : (Int64 × xWd)} {k57 : Option Nat → Int32 → Int64 → Option Nat → Int32 → xWd → Option (Int64 × xWd)} (hk57 : ∀ (x0 : Option Nat) (x3 : Int32) (x4 : Int64) (x6 : Option Nat) (x7 : Int32) (w : xWd), k57 x0 x3 x4 x6 x7 w = some q → xk_X p l e { frames := 8, cells := 42, slots := 2688, locals := 194 } s m args below meth c (MQ below (xk_Ql E q) args s 42 2688 (xk_A E.2.2.1)) E 9 42 2688 57 [(0, va_rf (x0)), (3, .int (x3)), (4, .long (x4)), (6, va_rf (x6)), (7, .int (x7))] [] w) : ∀ (n : Nat) (x0 : Option Nat) (x3 : Int32) (x4 : Int64) (x6 : Option Nat) (x7 : Int32) (x8 : Int32) (w : xWd), f_X4_mixedCue_70 k57 n x0 x3 x4 x6 x7 x8 w = some q → xk_X p l e { frames := 8, cells := 42, slots := 2688, locals := 194 } s m args below meth c (MQ below (xk_Ql E q) args s 42 2688 (xk_A E.2.2.1)) E 9 42 2688 70 [(0, va_rf (x0)), (3, .int (x3)), (4, .long (x4)), (6, va_rf (x6)), (7, .int (x7)), (8, .int (x8))] [] w := by
  intro n
  induction n with
  | zero => intro x0 x3 x4 x6 x7 x8 w hf; have hf : none = some q := hf; cases hf
  | succ n ih =>
    intro x0 x3 x4 x6 x7 x8 w hf
    refine xk_iload hC dX4_mixedCue_70 5 rfl ?_
    refine xk_iconst (v := (3 : Int32)) hC dX4_mixedCue_72 (by decide) ?_
    refine xk_icmp_gt (tgt := 99) hC dX4_mixedCue_73 (by decide) (fun c1 => ?_) (fun c1 => ?_)
    · replace hf := (if_pos c1).symm.trans hf
      refine xk_lload hC dX4_mixedCue_99 2 rfl ?_
      refine xk_aload_n hC dX4_mixedCue_101 0 rfl rfl ?_
      obtain ⟨v2, h2, hf⟩ := xk_bi hf
      refine xk_getR hC xi_0 xc_0 10 (by decide) xm_84 (Or.inl rfl) dX4_mixedCue_102 h2 ?_
      refine xk_iload hC dX4_mixedCue_105 4 rfl ?_
      obtain ⟨u4, h4, hf⟩ := xk_bi hf
      obtain ⟨q3, h3, hf⟩ := xk_bi hf
      refine xk_backi (xk_callV hC 1 xc_3 (c_X2_takeOf h3) h4 xm_718 xm_719 xm_720 xm_5 xm_721 ⟨rfl, xd_X2_takeOf⟩ rfl ⟨Nat.le_of_ble_eq_true rfl, Nat.le_of_ble_eq_true rfl⟩ rfl (Nat.le_of_ble_eq_true rfl) dX4_mixedCue_107 ⟨(Nat.le_of_ble_eq_true rfl), (Nat.le_of_ble_eq_true rfl)⟩) ?_
      refine xk_i2l hC dX4_mixedCue_110 ?_
      obtain ⟨q5, h5, hf⟩ := xk_bi hf
      refine xk_backl (xk_callS hC 2 (c_X4_mixed h5) xm_671 xm_672 xm_1 xm_673 xd_X4_mixed rfl ⟨Nat.le_of_ble_eq_true rfl, Nat.le_of_ble_eq_true rfl⟩ rfl (Nat.le_of_ble_eq_true rfl) dX4_mixedCue_111 ⟨(Nat.le_of_ble_eq_true rfl), (Nat.le_of_ble_eq_true rfl)⟩) ?_
      refine xk_lstore (i := 4) (lv' := [(4, .long (q5.1)), (0, va_rf (x0)), (3, .int (x3)), (6, va_rf (x6)), (7, .int (x7)), (8, .int (x8))]) hC dX4_mixedCue_114 (by decide) rfl ?_
      refine xk_iinc (v := x7 + (1 : Int32)) (lv' := [(7, .int (x7 + (1 : Int32))), (4, .long (q5.1)), (0, va_rf (x0)), (3, .int (x3)), (6, va_rf (x6)), (8, .int (x8))]) hC dX4_mixedCue_116 4 rfl rfl (by decide) (by simp [xk_cat1]) ?_
      refine xk_goto (tgt := 57) hC dX4_mixedCue_119 (by decide) ?_
      refine xk_locals [2, 3, 1, 4, 0] rfl ?_
      exact hk57 x0 x3 (q5.1) x6 (x7 + (1 : Int32)) (q5.2) hf
    · replace hf := (if_neg c1).symm.trans hf
      refine xk_lload hC dX4_mixedCue_76 2 rfl ?_
      refine xk_aload_n hC dX4_mixedCue_78 0 rfl rfl ?_
      refine xk_iload_n hC dX4_mixedCue_79 1 rfl rfl ?_
      refine xk_iload hC dX4_mixedCue_80 4 rfl ?_
      refine xk_iload hC dX4_mixedCue_82 5 rfl ?_
      obtain ⟨u7, h7, hf⟩ := xk_bi hf
      obtain ⟨q6, h6, hf⟩ := xk_bi hf
      refine xk_backi (xk_callV hC 3 xc_0 (c_X4_ofBar h6) h7 xm_711 xm_712 xm_713 xm_1 xm_714 ⟨rfl, xd_X4_ofBar⟩ rfl ⟨Nat.le_of_ble_eq_true rfl, Nat.le_of_ble_eq_true rfl⟩ rfl (Nat.le_of_ble_eq_true rfl) dX4_mixedCue_84 ⟨(Nat.le_of_ble_eq_true rfl), (Nat.le_of_ble_eq_true rfl)⟩) ?_
      refine xk_i2l hC dX4_mixedCue_87 ?_
      obtain ⟨q8, h8, hf⟩ := xk_bi hf
      refine xk_backl (xk_callS hC 2 (c_X4_mixed h8) xm_671 xm_672 xm_1 xm_673 xd_X4_mixed rfl ⟨Nat.le_of_ble_eq_true rfl, Nat.le_of_ble_eq_true rfl⟩ rfl (Nat.le_of_ble_eq_true rfl) dX4_mixedCue_88 ⟨(Nat.le_of_ble_eq_true rfl), (Nat.le_of_ble_eq_true rfl)⟩) ?_
      refine xk_lstore (i := 4) (lv' := [(4, .long (q8.1)), (0, va_rf (x0)), (3, .int (x3)), (6, va_rf (x6)), (7, .int (x7)), (8, .int (x8))]) hC dX4_mixedCue_91 (by decide) rfl ?_
      refine xk_iinc (v := x8 + (1 : Int32)) (lv' := [(8, .int (x8 + (1 : Int32))), (4, .long (q8.1)), (0, va_rf (x0)), (3, .int (x3)), (6, va_rf (x6)), (7, .int (x7))]) hC dX4_mixedCue_93 5 rfl rfl (by decide) rfl ?_
      refine xk_goto (tgt := 70) hC dX4_mixedCue_96 (by decide) ?_
      refine xk_locals [2, 3, 1, 4, 5, 0] rfl ?_
      exact ih x0 x3 (q8.1) x6 x7 (x8 + (1 : Int32)) (q8.2) hf
def f_X4_mixedCue_57 : Nat → Option Nat → Int32 → Int64 → Option Nat → Int32 → xWd → Option (Int64 × xWd)
  | 0, _, _, _, _, _, _ => none
  | n + 1, x0, x3, x4, x6, x7, w => (xk_gI w (x6) 1 7).bind (fun v1 => if (v1) ≤ (x7) then (xk_gR w (x0) 0 10).bind (fun v3 => (xk_is w (v3) 3).bind (fun u5 => (f_X2_bestWorth (v3)  w).bind (fun q4 => (f_X4_mixed (x4) ((q4.1).toInt64) q4.2).bind (fun q6 => some (q6.1, q6.2))))) else f_X4_mixedCue_70 (f_X4_mixedCue_57 n) 4096 x0 x3 x4 x6 x7 ((0 : Int32)) w)
set_option maxHeartbeats 4000000 in
set_option maxRecDepth 100000 in
theorem t_X4_mixedCue_57 {p : Program} {l : Launch} {e : Env} {s : State} {m : MethodId} {args : Array Value} {below : List Frame} {meth : Method} {c : Code} {E : xEv} (hC : xk_C p s m args meth c E prog_1_method_52_code "Clickbook" 9) (hr : meth.sig.returnType = (some .long)) {q : (Int64 × xWd)} : ∀ (n : Nat) (x0 : Option Nat) (x3 : Int32) (x4 : Int64) (x6 : Option Nat) (x7 : Int32) (w : xWd), f_X4_mixedCue_57 n x0 x3 x4 x6 x7 w = some q → xk_X p l e { frames := 8, cells := 42, slots := 2688, locals := 194 } s m args below meth c (MQ below (xk_Ql E q) args s 42 2688 (xk_A E.2.2.1)) E 9 42 2688 57 [(0, va_rf (x0)), (3, .int (x3)), (4, .long (x4)), (6, va_rf (x6)), (7, .int (x7))] [] w := by
  intro n
  induction n with
  | zero => intro x0 x3 x4 x6 x7 w hf; have hf : none = some q := hf; cases hf
  | succ n ih =>
    intro x0 x3 x4 x6 x7 w hf
    refine xk_iload hC dX4_mixedCue_57 4 rfl ?_
    refine xk_aload hC dX4_mixedCue_59 3 rfl ?_
    obtain ⟨v1, h1, hf⟩ := xk_bi hf
    refine xk_getI hC xi_1 xc_1 7 (by decide) xm_334 (Or.inl rfl) dX4_mixedCue_61 h1 ?_
    refine xk_icmp_ge (tgt := 122) hC dX4_mixedCue_64 (by decide) (fun c2 => ?_) (fun c2 => ?_)
    · replace hf := (if_pos c2).symm.trans hf
      refine xk_lload hC dX4_mixedCue_122 2 rfl ?_
      refine xk_aload_n hC dX4_mixedCue_124 0 rfl rfl ?_
      obtain ⟨v3, h3, hf⟩ := xk_bi hf
      refine xk_getR hC xi_0 xc_0 10 (by decide) xm_84 (Or.inl rfl) dX4_mixedCue_125 h3 ?_
      obtain ⟨u5, h5, hf⟩ := xk_bi hf
      obtain ⟨q4, h4, hf⟩ := xk_bi hf
      refine xk_backi (xk_callV hC 0 xc_3 (c_X2_bestWorth h4) h5 xm_620 xm_621 xm_622 xm_5 xm_623 ⟨rfl, xd_X2_bestWorth⟩ rfl ⟨Nat.le_of_ble_eq_true rfl, Nat.le_of_ble_eq_true rfl⟩ rfl (Nat.le_of_ble_eq_true rfl) dX4_mixedCue_128 ⟨(Nat.le_of_ble_eq_true rfl), (Nat.le_of_ble_eq_true rfl)⟩) ?_
      refine xk_i2l hC dX4_mixedCue_131 ?_
      obtain ⟨q6, h6, hf⟩ := xk_bi hf
      refine xk_backl (xk_callS hC 2 (c_X4_mixed h6) xm_671 xm_672 xm_1 xm_673 xd_X4_mixed rfl ⟨Nat.le_of_ble_eq_true rfl, Nat.le_of_ble_eq_true rfl⟩ rfl (Nat.le_of_ble_eq_true rfl) dX4_mixedCue_132 ⟨(Nat.le_of_ble_eq_true rfl), (Nat.le_of_ble_eq_true rfl)⟩) ?_
      cases hf
      refine xk_widen (k := 42) (n := 2688) (Nat.le_of_ble_eq_true rfl) (Nat.le_of_ble_eq_true rfl) ?_
      exact xk_lret hC hr dX4_mixedCue_135
    · replace hf := (if_neg c2).symm.trans hf
      refine xk_iconst (v := (0 : Int32)) hC dX4_mixedCue_67 (by decide) ?_
      refine xk_istore (i := 8) (lv' := [(8, .int ((0 : Int32))), (0, va_rf (x0)), (3, .int (x3)), (4, .long (x4)), (6, va_rf (x6)), (7, .int (x7))]) hC dX4_mixedCue_68 (by decide) rfl ?_
      refine xk_locals [1, 2, 3, 4, 5, 0] rfl ?_
      exact t_X4_mixedCue_70 hC hr (fun x0 x3 x4 x6 x7 w hf => ih x0 x3 x4 x6 x7 w hf) 4096 x0 x3 x4 x6 x7 ((0 : Int32)) w hf
def f_X4_mixedCue_6 : Nat → Option Nat → Int32 → Int64 → Int32 → xWd → Option (Int64 × xWd)
  | 0, _, _, _, _, _ => none
  | n + 1, x0, x3, x4, x6, w => if ((12 : Int32)) < (x6) then (xk_is w (x0) 0).bind (fun u3 => (f_X4_cueNumbered (x0) (x3) w).bind (fun q2 => (xk_gR q2.2 (x0) 0 10).bind (fun v4 => (xk_gR q2.2 (x0) 0 4).bind (fun v5 => (xk_is q2.2 (v4) 3).bind (fun u7 => (f_X2_fill (v4) (q2.1) (v5) q2.2).bind (fun q6 => f_X4_mixedCue_57 4096 x0 x3 x4 (q2.1) ((0 : Int32)) q6)))))) else (xk_is w (x0) 0).bind (fun u9 => (f_X4_ofCue (x0) (x3) (x6) w).bind (fun q8 => (f_X4_mixed (x4) ((q8.1).toInt64) q8.2).bind (fun q10 => f_X4_mixedCue_6 n x0 x3 (q10.1) (x6 + (1 : Int32)) (q10.2))))
set_option maxHeartbeats 4000000 in
set_option maxRecDepth 100000 in
theorem t_X4_mixedCue_6 {p : Program} {l : Launch} {e : Env} {s : State} {m : MethodId} {args : Array Value} {below : List Frame} {meth : Method} {c : Code} {E : xEv} (hC : xk_C p s m args meth c E prog_1_method_52_code "Clickbook" 9) (hr : meth.sig.returnType = (some .long)) {q : (Int64 × xWd)} : ∀ (n : Nat) (x0 : Option Nat) (x3 : Int32) (x4 : Int64) (x6 : Int32) (w : xWd), f_X4_mixedCue_6 n x0 x3 x4 x6 w = some q → xk_X p l e { frames := 8, cells := 42, slots := 2688, locals := 194 } s m args below meth c (MQ below (xk_Ql E q) args s 42 2688 (xk_A E.2.2.1)) E 9 0 0 6 [(0, va_rf (x0)), (3, .int (x3)), (4, .long (x4)), (6, .int (x6))] [] w := by
  intro n
  induction n with
  | zero => intro x0 x3 x4 x6 w hf; have hf : none = some q := hf; cases hf
  | succ n ih =>
    intro x0 x3 x4 x6 w hf
    refine xk_iload hC dX4_mixedCue_6 3 rfl ?_
    refine xk_bipush (v := (12 : Int32)) hC dX4_mixedCue_8 (by decide) ?_
    refine xk_icmp_gt (tgt := 34) hC dX4_mixedCue_10 (by decide) (fun c1 => ?_) (fun c1 => ?_)
    · replace hf := (if_pos c1).symm.trans hf
      refine xk_aload_n hC dX4_mixedCue_34 0 rfl rfl ?_
      refine xk_iload_n hC dX4_mixedCue_35 1 rfl rfl ?_
      obtain ⟨u3, h3, hf⟩ := xk_bi hf
      obtain ⟨q2, h2, hf⟩ := xk_bi hf
      refine xk_backq (xk_callV hC 1 xc_0 (c_X4_cueNumbered h2) h3 xm_376 xm_378 xm_p4 xm_1 xm_379 ⟨rfl, xd_X4_cueNumbered⟩ rfl ⟨Nat.le_of_ble_eq_true rfl, Nat.le_of_ble_eq_true rfl⟩ rfl (Nat.le_of_ble_eq_true rfl) dX4_mixedCue_36 ⟨(Nat.le_of_ble_eq_true rfl), (Nat.le_of_ble_eq_true rfl)⟩) ?_
      refine xk_astore (i := 6) (lv' := [(6, va_rf (q2.1)), (0, va_rf (x0)), (3, .int (x3)), (4, .long (x4))]) hC dX4_mixedCue_39 (by decide) rfl ?_
      refine xk_aload_n hC dX4_mixedCue_41 1 rfl rfl ?_
      obtain ⟨v4, h4, hf⟩ := xk_bi hf
      refine xk_getR hC xi_0 xc_0 10 (by decide) xm_84 (Or.inl rfl) dX4_mixedCue_42 h4 ?_
      refine xk_aload hC dX4_mixedCue_45 0 rfl ?_
      refine xk_aload_n hC dX4_mixedCue_47 1 rfl rfl ?_
      obtain ⟨v5, h5, hf⟩ := xk_bi hf
      refine xk_getR hC xi_0 xc_0 4 (by decide) xm_78 (Or.inl rfl) dX4_mixedCue_48 h5 ?_
      obtain ⟨u7, h7, hf⟩ := xk_bi hf
      obtain ⟨q6, h6, hf⟩ := xk_bi hf
      refine xk_backv (xk_callV hC 2 xc_3 (c_X2_fill h6) h7 xm_586 xm_587 xm_588 xm_5 xm_589 ⟨rfl, xd_X2_fill⟩ rfl ⟨Nat.le_of_ble_eq_true rfl, Nat.le_of_ble_eq_true rfl⟩ rfl (Nat.le_of_ble_eq_true rfl) dX4_mixedCue_51 ⟨(Nat.le_of_ble_eq_true rfl), (Nat.le_of_ble_eq_true rfl)⟩) ?_
      refine xk_iconst (v := (0 : Int32)) hC dX4_mixedCue_54 (by decide) ?_
      refine xk_istore (i := 7) (lv' := [(7, .int ((0 : Int32))), (6, va_rf (q2.1)), (0, va_rf (x0)), (3, .int (x3)), (4, .long (x4))]) hC dX4_mixedCue_55 (by decide) (by simp [xk_cat1]) ?_
      refine xk_locals [2, 3, 4, 1, 0] rfl ?_
      exact t_X4_mixedCue_57 hC hr 4096 x0 x3 x4 (q2.1) ((0 : Int32)) q6 hf
    · replace hf := (if_neg c1).symm.trans hf
      refine xk_lload hC dX4_mixedCue_13 2 rfl ?_
      refine xk_aload_n hC dX4_mixedCue_15 0 rfl rfl ?_
      refine xk_iload_n hC dX4_mixedCue_16 1 rfl rfl ?_
      refine xk_iload hC dX4_mixedCue_17 3 rfl ?_
      obtain ⟨u9, h9, hf⟩ := xk_bi hf
      obtain ⟨q8, h8, hf⟩ := xk_bi hf
      refine xk_backi (xk_callV hC 2 xc_0 (c_X4_ofCue h8) h9 xm_710 xm_504 xm_505 xm_1 xm_506 ⟨rfl, xd_X4_ofCue⟩ rfl ⟨Nat.le_of_ble_eq_true rfl, Nat.le_of_ble_eq_true rfl⟩ rfl (Nat.le_of_ble_eq_true rfl) dX4_mixedCue_19 ⟨(Nat.le_of_ble_eq_true rfl), (Nat.le_of_ble_eq_true rfl)⟩) ?_
      refine xk_i2l hC dX4_mixedCue_22 ?_
      obtain ⟨q10, h10, hf⟩ := xk_bi hf
      refine xk_backl (xk_callS hC 2 (c_X4_mixed h10) xm_671 xm_672 xm_1 xm_673 xd_X4_mixed rfl ⟨Nat.le_of_ble_eq_true rfl, Nat.le_of_ble_eq_true rfl⟩ rfl (Nat.le_of_ble_eq_true rfl) dX4_mixedCue_23 ⟨(Nat.le_of_ble_eq_true rfl), (Nat.le_of_ble_eq_true rfl)⟩) ?_
      refine xk_lstore (i := 4) (lv' := [(4, .long (q10.1)), (0, va_rf (x0)), (3, .int (x3)), (6, .int (x6))]) hC dX4_mixedCue_26 (by decide) rfl ?_
      refine xk_iinc (v := x6 + (1 : Int32)) (lv' := [(6, .int (x6 + (1 : Int32))), (4, .long (q10.1)), (0, va_rf (x0)), (3, .int (x3))]) hC dX4_mixedCue_28 3 rfl rfl (by decide) rfl ?_
      refine xk_goto (tgt := 6) hC dX4_mixedCue_31 (by decide) ?_
      refine xk_locals [2, 3, 1, 0] rfl ?_
      exact ih x0 x3 (q10.1) (x6 + (1 : Int32)) (q10.2) hf
def f_X4_mixedCue (x0 : Option Nat) (x1 : Int64) (x3 : Int32) (w : xWd) : Option (Int64 × xWd) := f_X4_mixedCue_6 4096 x0 x3 x1 ((0 : Int32)) w
set_option maxHeartbeats 4000000 in
set_option maxRecDepth 100000 in
theorem t_X4_mixedCue_0 {p : Program} {l : Launch} {e : Env} {s : State} {m : MethodId} {args : Array Value} {below : List Frame} {meth : Method} {c : Code} {E : xEv} (hC : xk_C p s m args meth c E prog_1_method_52_code "Clickbook" 9) (hr : meth.sig.returnType = (some .long)) {q : (Int64 × xWd)} (x0 : Option Nat) (x1 : Int64) (x3 : Int32) (w : xWd) (hf : f_X4_mixedCue x0 x1 x3 w = some q) : xk_X p l e { frames := 8, cells := 42, slots := 2688, locals := 194 } s m args below meth c (MQ below (xk_Ql E q) args s 42 2688 (xk_A E.2.2.1)) E 9 0 0 0 [(0, va_rf (x0)), (1, .long (x1)), (3, .int (x3))] [] w := by
  refine xk_lload_n hC dX4_mixedCue_0 1 rfl rfl ?_
  refine xk_lstore (i := 4) (lv' := [(4, .long (x1)), (0, va_rf (x0)), (1, .long (x1)), (3, .int (x3))]) hC dX4_mixedCue_1 (by decide) rfl ?_
  refine xk_iconst (v := (0 : Int32)) hC dX4_mixedCue_3 (by decide) ?_
  refine xk_istore (i := 6) (lv' := [(6, .int ((0 : Int32))), (4, .long (x1)), (0, va_rf (x0)), (1, .long (x1)), (3, .int (x3))]) hC dX4_mixedCue_4 (by decide) rfl ?_
  refine xk_locals [2, 4, 1, 0] rfl ?_
  exact t_X4_mixedCue_6 hC hr 4096 x0 x3 x1 ((0 : Int32)) w hf
theorem xd_X4_mixedCue : xy_X4_mixedCue.cls ≠ "java/lang/invoke/MethodHandle" ∧ xy_X4_mixedCue.cls ≠ "java/lang/invoke/VarHandle" ∧ (parseMethodDescriptor xy_X4_mixedCue.desc).map (fun d => d.parameters.length) = some 2 := ⟨by decide +kernel, by decide +kernel, by decide +kernel⟩
theorem c_X4_mixedCue {l : Launch} {E : xEv} {x0 : Option Nat} {x1 : Int64} {x3 : Int32} {w : xWd} {q : (Int64 × xWd)} (hf : f_X4_mixedCue x0 x1 x3 w = some q) : xk_M l xy_X4_mixedCue prog_1_method_52_code 9 (some .long) 8 194 42 2688 E [va_rf (x0), .long (x1), .int (x3)] w (xk_Ql E q) := by
  refine xk_enter (by decide +kernel) (by simp [lg_sl, xk_cat1, xk_cati, xk_catl, xk_catd]) ?_
  intro p e s m args below meth c hC hr hin ha
  rw [show lv_args 0 [va_rf (x0), .long (x1), .int (x3)] = [(0, va_rf (x0)), (1, .long (x1)), (3, .int (x3))] by simp [lv_args, xk_cat1, xk_cati, xk_catl, xk_catd]]
  exact t_X4_mixedCue_0 hC hr x0 x1 x3 w hf
def f_X4_digest_45 (k31 : Option Nat → Int64 → Int32 → xWd → Option (Int64 × xWd)) : Nat → Option Nat → Int64 → Int32 → Int32 → xWd → Option (Int64 × xWd)
  | 0, _, _, _, _, _ => none
  | n + 1, x0, x1, x3, x4, w => if ((6 : Int32)) < (x4) then k31 x0 x1 (x3 + (1 : Int32)) w else (xk_is w (x0) 0).bind (fun u3 => (f_X4_ofHit (x0) (x3) (x4) w).bind (fun q2 => (f_X4_mixed (x1) ((q2.1).toInt64) q2.2).bind (fun q4 => f_X4_digest_45 k31 n x0 (q4.1) x3 (x4 + (1 : Int32)) (q4.2))))
set_option maxHeartbeats 4000000 in
set_option maxRecDepth 100000 in
theorem t_X4_digest_45 {p : Program} {l : Launch} {e : Env} {s : State} {m : MethodId} {args : Array Value} {below : List Frame} {meth : Method} {c : Code} {E : xEv} (hC : xk_C p s m args meth c E prog_1_method_51_code "Clickbook" 5) (hr : meth.sig.returnType = (some .long)) {q : (Int64 × xWd)} {k31 : Option Nat → Int64 → Int32 → xWd → Option (Int64 × xWd)} (hk31 : ∀ (x0 : Option Nat) (x1 : Int64) (x3 : Int32) (w : xWd), k31 x0 x1 x3 w = some q → xk_X p l e { frames := 9, cells := 420, slots := 26880, locals := 222 } s m args below meth c (MQ below (xk_Ql E q) args s 420 26880 (xk_A E.2.2.1)) E 5 0 0 31 [(0, va_rf (x0)), (1, .long (x1)), (3, .int (x3))] [] w) : ∀ (n : Nat) (x0 : Option Nat) (x1 : Int64) (x3 : Int32) (x4 : Int32) (w : xWd), f_X4_digest_45 k31 n x0 x1 x3 x4 w = some q → xk_X p l e { frames := 9, cells := 420, slots := 26880, locals := 222 } s m args below meth c (MQ below (xk_Ql E q) args s 420 26880 (xk_A E.2.2.1)) E 5 0 0 45 [(0, va_rf (x0)), (1, .long (x1)), (3, .int (x3)), (4, .int (x4))] [] w := by
  intro n
  induction n with
  | zero => intro x0 x1 x3 x4 w hf; have hf : none = some q := hf; cases hf
  | succ n ih =>
    intro x0 x1 x3 x4 w hf
    refine xk_iload hC dX4_digest_45 3 rfl ?_
    refine xk_bipush (v := (6 : Int32)) hC dX4_digest_47 (by decide) ?_
    refine xk_icmp_gt (tgt := 71) hC dX4_digest_49 (by decide) (fun c1 => ?_) (fun c1 => ?_)
    · replace hf := (if_pos c1).symm.trans hf
      refine xk_iinc (v := x3 + (1 : Int32)) (lv' := [(3, .int (x3 + (1 : Int32))), (0, va_rf (x0)), (1, .long (x1)), (4, .int (x4))]) hC dX4_digest_71 2 rfl rfl (by decide) rfl ?_
      refine xk_goto (tgt := 31) hC dX4_digest_74 (by decide) ?_
      refine xk_locals [1, 2, 0] rfl ?_
      exact hk31 x0 x1 (x3 + (1 : Int32)) w hf
    · replace hf := (if_neg c1).symm.trans hf
      refine xk_lload_n hC dX4_digest_52 1 rfl rfl ?_
      refine xk_aload_n hC dX4_digest_53 0 rfl rfl ?_
      refine xk_iload_n hC dX4_digest_54 2 rfl rfl ?_
      refine xk_iload hC dX4_digest_55 3 rfl ?_
      obtain ⟨u3, h3, hf⟩ := xk_bi hf
      obtain ⟨q2, h2, hf⟩ := xk_bi hf
      refine xk_backi (xk_callV hC 2 xc_0 (c_X4_ofHit h2) h3 xm_675 xm_676 xm_677 xm_1 xm_678 ⟨rfl, xd_X4_ofHit⟩ rfl ⟨Nat.le_of_ble_eq_true rfl, Nat.le_of_ble_eq_true rfl⟩ rfl (Nat.le_of_ble_eq_true rfl) dX4_digest_57 ⟨(Nat.le_of_ble_eq_true rfl), (Nat.le_of_ble_eq_true rfl)⟩) ?_
      refine xk_i2l hC dX4_digest_60 ?_
      obtain ⟨q4, h4, hf⟩ := xk_bi hf
      refine xk_backl (xk_callS hC 2 (c_X4_mixed h4) xm_671 xm_672 xm_1 xm_673 xd_X4_mixed rfl ⟨Nat.le_of_ble_eq_true rfl, Nat.le_of_ble_eq_true rfl⟩ rfl (Nat.le_of_ble_eq_true rfl) dX4_digest_61 ⟨(Nat.le_of_ble_eq_true rfl), (Nat.le_of_ble_eq_true rfl)⟩) ?_
      refine xk_lstore_n (i := 1) (lv' := [(1, .long (q4.1)), (0, va_rf (x0)), (3, .int (x3)), (4, .int (x4))]) hC dX4_digest_64 rfl (by decide) (by simp [xk_cat1]) ?_
      refine xk_iinc (v := x4 + (1 : Int32)) (lv' := [(4, .int (x4 + (1 : Int32))), (1, .long (q4.1)), (0, va_rf (x0)), (3, .int (x3))]) hC dX4_digest_65 3 rfl rfl (by decide) rfl ?_
      refine xk_goto (tgt := 45) hC dX4_digest_68 (by decide) ?_
      refine xk_locals [2, 1, 3, 0] rfl ?_
      exact ih x0 (q4.1) x3 (x4 + (1 : Int32)) (q4.2) hf
def f_X4_digest_119 (k105 : Option Nat → Int64 → Int32 → xWd → Option (Int64 × xWd)) : Nat → Option Nat → Int64 → Int32 → Int32 → xWd → Option (Int64 × xWd)
  | 0, _, _, _, _, _ => none
  | n + 1, x0, x1, x3, x4, w => if ((4 : Int32)) < (x4) then k105 x0 x1 (x3 + (1 : Int32)) w else (xk_is w (x0) 0).bind (fun u3 => (f_X4_ofTake (x0) (x3) (x4) w).bind (fun q2 => (f_X4_mixed (x1) ((q2.1).toInt64) q2.2).bind (fun q4 => f_X4_digest_119 k105 n x0 (q4.1) x3 (x4 + (1 : Int32)) (q4.2))))
set_option maxHeartbeats 4000000 in
set_option maxRecDepth 100000 in
theorem t_X4_digest_119 {p : Program} {l : Launch} {e : Env} {s : State} {m : MethodId} {args : Array Value} {below : List Frame} {meth : Method} {c : Code} {E : xEv} (hC : xk_C p s m args meth c E prog_1_method_51_code "Clickbook" 5) (hr : meth.sig.returnType = (some .long)) {q : (Int64 × xWd)} {k105 : Option Nat → Int64 → Int32 → xWd → Option (Int64 × xWd)} (hk105 : ∀ (x0 : Option Nat) (x1 : Int64) (x3 : Int32) (w : xWd), k105 x0 x1 x3 w = some q → xk_X p l e { frames := 9, cells := 420, slots := 26880, locals := 222 } s m args below meth c (MQ below (xk_Ql E q) args s 420 26880 (xk_A E.2.2.1)) E 5 420 26880 105 [(0, va_rf (x0)), (1, .long (x1)), (3, .int (x3))] [] w) : ∀ (n : Nat) (x0 : Option Nat) (x1 : Int64) (x3 : Int32) (x4 : Int32) (w : xWd), f_X4_digest_119 k105 n x0 x1 x3 x4 w = some q → xk_X p l e { frames := 9, cells := 420, slots := 26880, locals := 222 } s m args below meth c (MQ below (xk_Ql E q) args s 420 26880 (xk_A E.2.2.1)) E 5 420 26880 119 [(0, va_rf (x0)), (1, .long (x1)), (3, .int (x3)), (4, .int (x4))] [] w := by
  intro n
  induction n with
  | zero => intro x0 x1 x3 x4 w hf; have hf : none = some q := hf; cases hf
  | succ n ih =>
    intro x0 x1 x3 x4 w hf
    refine xk_iload hC dX4_digest_119 3 rfl ?_
    refine xk_iconst (v := (4 : Int32)) hC dX4_digest_121 (by decide) ?_
    refine xk_icmp_gt (tgt := 144) hC dX4_digest_122 (by decide) (fun c1 => ?_) (fun c1 => ?_)
    · replace hf := (if_pos c1).symm.trans hf
      refine xk_iinc (v := x3 + (1 : Int32)) (lv' := [(3, .int (x3 + (1 : Int32))), (0, va_rf (x0)), (1, .long (x1)), (4, .int (x4))]) hC dX4_digest_144 2 rfl rfl (by decide) rfl ?_
      refine xk_goto (tgt := 105) hC dX4_digest_147 (by decide) ?_
      refine xk_locals [1, 2, 0] rfl ?_
      exact hk105 x0 x1 (x3 + (1 : Int32)) w hf
    · replace hf := (if_neg c1).symm.trans hf
      refine xk_lload_n hC dX4_digest_125 1 rfl rfl ?_
      refine xk_aload_n hC dX4_digest_126 0 rfl rfl ?_
      refine xk_iload_n hC dX4_digest_127 2 rfl rfl ?_
      refine xk_iload hC dX4_digest_128 3 rfl ?_
      obtain ⟨u3, h3, hf⟩ := xk_bi hf
      obtain ⟨q2, h2, hf⟩ := xk_bi hf
      refine xk_backi (xk_callV hC 2 xc_0 (c_X4_ofTake h2) h3 xm_722 xm_529 xm_530 xm_1 xm_531 ⟨rfl, xd_X4_ofTake⟩ rfl ⟨Nat.le_of_ble_eq_true rfl, Nat.le_of_ble_eq_true rfl⟩ rfl (Nat.le_of_ble_eq_true rfl) dX4_digest_130 ⟨(Nat.le_of_ble_eq_true rfl), (Nat.le_of_ble_eq_true rfl)⟩) ?_
      refine xk_i2l hC dX4_digest_133 ?_
      obtain ⟨q4, h4, hf⟩ := xk_bi hf
      refine xk_backl (xk_callS hC 2 (c_X4_mixed h4) xm_671 xm_672 xm_1 xm_673 xd_X4_mixed rfl ⟨Nat.le_of_ble_eq_true rfl, Nat.le_of_ble_eq_true rfl⟩ rfl (Nat.le_of_ble_eq_true rfl) dX4_digest_134 ⟨(Nat.le_of_ble_eq_true rfl), (Nat.le_of_ble_eq_true rfl)⟩) ?_
      refine xk_lstore_n (i := 1) (lv' := [(1, .long (q4.1)), (0, va_rf (x0)), (3, .int (x3)), (4, .int (x4))]) hC dX4_digest_137 rfl (by decide) (by simp [xk_cat1]) ?_
      refine xk_iinc (v := x4 + (1 : Int32)) (lv' := [(4, .int (x4 + (1 : Int32))), (1, .long (q4.1)), (0, va_rf (x0)), (3, .int (x3))]) hC dX4_digest_138 3 rfl rfl (by decide) rfl ?_
      refine xk_goto (tgt := 119) hC dX4_digest_141 (by decide) ?_
      refine xk_locals [2, 1, 3, 0] rfl ?_
      exact ih x0 (q4.1) x3 (x4 + (1 : Int32)) (q4.2) hf
def f_X4_digest_216 (s0 : Int64) (w : xWd) : Option (Int64 × xWd) := some (s0, w)
set_option maxHeartbeats 4000000 in
set_option maxRecDepth 100000 in
theorem t_X4_digest_216 {p : Program} {l : Launch} {e : Env} {s : State} {m : MethodId} {args : Array Value} {below : List Frame} {meth : Method} {c : Code} {E : xEv} (hC : xk_C p s m args meth c E prog_1_method_51_code "Clickbook" 5) (hr : meth.sig.returnType = (some .long)) {q : (Int64 × xWd)} (s0 : Int64) (w : xWd) (hf : f_X4_digest_216 s0 w = some q) : xk_X p l e { frames := 9, cells := 420, slots := 26880, locals := 222 } s m args below meth c (MQ below (xk_Ql E q) args s 420 26880 (xk_A E.2.2.1)) E 5 420 26880 216 [] [.long (s0)] w := by
  cases hf
  refine xk_widen (k := 420) (n := 26880) (Nat.le_of_ble_eq_true rfl) (Nat.le_of_ble_eq_true rfl) ?_
  exact xk_lret hC hr dX4_digest_216
def f_X4_digest_152 : Nat → Option Nat → Int64 → Int32 → xWd → Option (Int64 × xWd)
  | 0, _, _, _, _ => none
  | n + 1, x0, x1, x3, w => if ((4 : Int32)) ≤ (x3) then (xk_gI w (x0) 0 5).bind (fun v2 => (xk_nz ((2 : Int32))).bind (fun u3 => (xk_is w (x0) 0).bind (fun u5 => (f_X4_wouldMeet (x0) ((v2) / ((2 : Int32))) ((24 : Int32)) w).bind (fun q4 => (f_X4_mixed (x1) ((q4.1).toInt64) q4.2).bind (fun q6 => (xk_gR q6.2 (x0) 0 3).bind (fun v7 => (xk_is q6.2 (v7) 5).bind (fun u9 => (f_Jx4a65c_isEmpty_aae02 (v7)  q6.2).bind (fun q8 => if (q8.1) = ((0 : Int32)) then (xk_is q8.2 (x0) 0).bind (fun u12 => (f_X4_bestStart (x0) ((0 : Int32)) q8.2).bind (fun q11 => (f_X4_mixed (q6.1) ((q11.1).toInt64) q11.2).bind (fun q13 => f_X4_digest_216 (q13.1) (q13.2)))) else f_X4_digest_216 (q6.1) (q8.2))))))))) else (xk_is w (x0) 0).bind (fun u15 => (f_X4_sheet (x0) (x3) w).bind (fun q14 => (f_X4_mixed (x1) ((q14.1).toInt64) q14.2).bind (fun q16 => f_X4_digest_152 n x0 (q16.1) (x3 + (1 : Int32)) (q16.2))))
set_option maxHeartbeats 4000000 in
set_option maxRecDepth 100000 in
theorem t_X4_digest_152 {p : Program} {l : Launch} {e : Env} {s : State} {m : MethodId} {args : Array Value} {below : List Frame} {meth : Method} {c : Code} {E : xEv} (hC : xk_C p s m args meth c E prog_1_method_51_code "Clickbook" 5) (hr : meth.sig.returnType = (some .long)) {q : (Int64 × xWd)} : ∀ (n : Nat) (x0 : Option Nat) (x1 : Int64) (x3 : Int32) (w : xWd), f_X4_digest_152 n x0 x1 x3 w = some q → xk_X p l e { frames := 9, cells := 420, slots := 26880, locals := 222 } s m args below meth c (MQ below (xk_Ql E q) args s 420 26880 (xk_A E.2.2.1)) E 5 420 26880 152 [(0, va_rf (x0)), (1, .long (x1)), (3, .int (x3))] [] w := by
  intro n
  induction n with
  | zero => intro x0 x1 x3 w hf; have hf : none = some q := hf; cases hf
  | succ n ih =>
    intro x0 x1 x3 w hf
    refine xk_iload_n hC dX4_digest_152 2 rfl rfl ?_
    refine xk_iconst (v := (4 : Int32)) hC dX4_digest_153 (by decide) ?_
    refine xk_icmp_ge (tgt := 174) hC dX4_digest_154 (by decide) (fun c1 => ?_) (fun c1 => ?_)
    · replace hf := (if_pos c1).symm.trans hf
      refine xk_lload_n hC dX4_digest_174 1 rfl rfl ?_
      refine xk_aload_n hC dX4_digest_175 0 rfl rfl ?_
      refine xk_aload_n hC dX4_digest_176 0 rfl rfl ?_
      obtain ⟨v2, h2, hf⟩ := xk_bi hf
      refine xk_getI hC xi_0 xc_0 5 (by decide) xm_79 (Or.inl rfl) dX4_digest_177 h2 ?_
      refine xk_iconst (v := (2 : Int32)) hC dX4_digest_180 (by decide) ?_
      obtain ⟨u3, h3, hf⟩ := xk_bi hf
      refine xk_idiv hC dX4_digest_181 (xk_nz_e h3) ?_
      refine xk_bipush (v := (24 : Int32)) hC dX4_digest_182 (by decide) ?_
      obtain ⟨u5, h5, hf⟩ := xk_bi hf
      obtain ⟨q4, h4, hf⟩ := xk_bi hf
      refine xk_backi (xk_callV hC 2 xc_0 (c_X4_wouldMeet h4) h5 xm_728 xm_646 xm_647 xm_1 xm_648 ⟨rfl, xd_X4_wouldMeet⟩ rfl ⟨Nat.le_of_ble_eq_true rfl, Nat.le_of_ble_eq_true rfl⟩ rfl (Nat.le_of_ble_eq_true rfl) dX4_digest_184 ⟨(Nat.le_of_ble_eq_true rfl), (Nat.le_of_ble_eq_true rfl)⟩) ?_
      refine xk_i2l hC dX4_digest_187 ?_
      obtain ⟨q6, h6, hf⟩ := xk_bi hf
      refine xk_backl (xk_callS hC 2 (c_X4_mixed h6) xm_671 xm_672 xm_1 xm_673 xd_X4_mixed rfl ⟨Nat.le_of_ble_eq_true rfl, Nat.le_of_ble_eq_true rfl⟩ rfl (Nat.le_of_ble_eq_true rfl) dX4_digest_188 ⟨(Nat.le_of_ble_eq_true rfl), (Nat.le_of_ble_eq_true rfl)⟩) ?_
      refine xk_lstore_n (i := 1) (lv' := [(1, .long (q6.1)), (0, va_rf (x0)), (3, .int (x3))]) hC dX4_digest_191 rfl (by decide) (by simp [xk_cat1]) ?_
      refine xk_aload_n hC dX4_digest_192 1 rfl rfl ?_
      obtain ⟨v7, h7, hf⟩ := xk_bi hf
      refine xk_getR hC xi_0 xc_0 3 (by decide) xm_77 (Or.inl rfl) dX4_digest_193 h7 ?_
      obtain ⟨u9, h9, hf⟩ := xk_bi hf
      obtain ⟨q8, h8, hf⟩ := xk_bi hf
      refine xk_backi (xk_callV hC 0 xc_5 (c_Jx4a65c_isEmpty_aae02 h8) h9 xm_729 xm_730 xm_731 xm_4 xm_732 ⟨rfl, xd_Jx4a65c_isEmpty_aae02⟩ rfl ⟨Nat.le_of_ble_eq_true rfl, Nat.le_of_ble_eq_true rfl⟩ rfl (Nat.le_of_ble_eq_true rfl) dX4_digest_196 ⟨(Nat.le_of_ble_eq_true rfl), (Nat.le_of_ble_eq_true rfl)⟩) ?_
      refine xk_if_eq (tgt := 206) hC dX4_digest_199 (by decide) (fun c10 => ?_) (fun c10 => ?_)
      · replace hf := (if_pos c10).symm.trans hf
        refine xk_lload_n hC dX4_digest_206 0 rfl rfl ?_
        refine xk_aload_n hC dX4_digest_207 1 rfl rfl ?_
        refine xk_iconst (v := (0 : Int32)) hC dX4_digest_208 (by decide) ?_
        obtain ⟨u12, h12, hf⟩ := xk_bi hf
        obtain ⟨q11, h11, hf⟩ := xk_bi hf
        refine xk_backi (xk_callV hC 1 xc_0 (c_X4_bestStart h11) h12 xm_733 xm_625 xm_626 xm_1 xm_627 ⟨rfl, xd_X4_bestStart⟩ rfl ⟨Nat.le_of_ble_eq_true rfl, Nat.le_of_ble_eq_true rfl⟩ rfl (Nat.le_of_ble_eq_true rfl) dX4_digest_209 ⟨(Nat.le_of_ble_eq_true rfl), (Nat.le_of_ble_eq_true rfl)⟩) ?_
        refine xk_i2l hC dX4_digest_212 ?_
        obtain ⟨q13, h13, hf⟩ := xk_bi hf
        refine xk_backl (xk_callS hC 2 (c_X4_mixed h13) xm_671 xm_672 xm_1 xm_673 xd_X4_mixed rfl ⟨Nat.le_of_ble_eq_true rfl, Nat.le_of_ble_eq_true rfl⟩ rfl (Nat.le_of_ble_eq_true rfl) dX4_digest_213 ⟨(Nat.le_of_ble_eq_true rfl), (Nat.le_of_ble_eq_true rfl)⟩) ?_
        refine xk_locals [] rfl ?_
        exact t_X4_digest_216 hC hr (q13.1) (q13.2) hf
      · replace hf := (if_neg c10).symm.trans hf
        refine xk_lload_n hC dX4_digest_202 0 rfl rfl ?_
        refine xk_goto (tgt := 216) hC dX4_digest_203 (by decide) ?_
        refine xk_locals [] rfl ?_
        exact t_X4_digest_216 hC hr (q6.1) (q8.2) hf
    · replace hf := (if_neg c1).symm.trans hf
      refine xk_lload_n hC dX4_digest_157 1 rfl rfl ?_
      refine xk_aload_n hC dX4_digest_158 0 rfl rfl ?_
      refine xk_iload_n hC dX4_digest_159 2 rfl rfl ?_
      obtain ⟨u15, h15, hf⟩ := xk_bi hf
      obtain ⟨q14, h14, hf⟩ := xk_bi hf
      refine xk_backi (xk_callV hC 1 xc_0 (c_X4_sheet h14) h15 xm_723 xm_724 xm_725 xm_1 xm_726 ⟨rfl, xd_X4_sheet⟩ rfl ⟨Nat.le_of_ble_eq_true rfl, Nat.le_of_ble_eq_true rfl⟩ rfl (Nat.le_of_ble_eq_true rfl) dX4_digest_160 ⟨(Nat.le_of_ble_eq_true rfl), (Nat.le_of_ble_eq_true rfl)⟩) ?_
      refine xk_i2l hC dX4_digest_163 ?_
      obtain ⟨q16, h16, hf⟩ := xk_bi hf
      refine xk_backl (xk_callS hC 2 (c_X4_mixed h16) xm_671 xm_672 xm_1 xm_673 xd_X4_mixed rfl ⟨Nat.le_of_ble_eq_true rfl, Nat.le_of_ble_eq_true rfl⟩ rfl (Nat.le_of_ble_eq_true rfl) dX4_digest_164 ⟨(Nat.le_of_ble_eq_true rfl), (Nat.le_of_ble_eq_true rfl)⟩) ?_
      refine xk_lstore_n (i := 1) (lv' := [(1, .long (q16.1)), (0, va_rf (x0)), (3, .int (x3))]) hC dX4_digest_167 rfl (by decide) (by simp [xk_cat1]) ?_
      refine xk_iinc (v := x3 + (1 : Int32)) (lv' := [(3, .int (x3 + (1 : Int32))), (1, .long (q16.1)), (0, va_rf (x0))]) hC dX4_digest_168 2 rfl rfl (by decide) rfl ?_
      refine xk_goto (tgt := 152) hC dX4_digest_171 (by decide) ?_
      refine xk_locals [2, 1, 0] rfl ?_
      exact ih x0 (q16.1) (x3 + (1 : Int32)) (q16.2) hf
def f_X4_digest_105 : Nat → Option Nat → Int64 → Int32 → xWd → Option (Int64 × xWd)
  | 0, _, _, _, _ => none
  | n + 1, x0, x1, x3, w => (xk_gR w (x0) 0 4).bind (fun v1 => (xk_is w (v1) 5).bind (fun u3 => (f_Jx4a65c_size_8abf5 (v1)  w).bind (fun q2 => if (q2.1) ≤ (x3) then f_X4_digest_152 5 x0 x1 ((0 : Int32)) (q2.2) else f_X4_digest_119 (f_X4_digest_105 n) 6 x0 x1 x3 ((0 : Int32)) (q2.2))))
set_option maxHeartbeats 4000000 in
set_option maxRecDepth 100000 in
theorem t_X4_digest_105 {p : Program} {l : Launch} {e : Env} {s : State} {m : MethodId} {args : Array Value} {below : List Frame} {meth : Method} {c : Code} {E : xEv} (hC : xk_C p s m args meth c E prog_1_method_51_code "Clickbook" 5) (hr : meth.sig.returnType = (some .long)) {q : (Int64 × xWd)} : ∀ (n : Nat) (x0 : Option Nat) (x1 : Int64) (x3 : Int32) (w : xWd), f_X4_digest_105 n x0 x1 x3 w = some q → xk_X p l e { frames := 9, cells := 420, slots := 26880, locals := 222 } s m args below meth c (MQ below (xk_Ql E q) args s 420 26880 (xk_A E.2.2.1)) E 5 420 26880 105 [(0, va_rf (x0)), (1, .long (x1)), (3, .int (x3))] [] w := by
  intro n
  induction n with
  | zero => intro x0 x1 x3 w hf; have hf : none = some q := hf; cases hf
  | succ n ih =>
    intro x0 x1 x3 w hf
    refine xk_iload_n hC dX4_digest_105 2 rfl rfl ?_
    refine xk_aload_n hC dX4_digest_106 0 rfl rfl ?_
    obtain ⟨v1, h1, hf⟩ := xk_bi hf
    refine xk_getR hC xi_0 xc_0 4 (by decide) xm_78 (Or.inl rfl) dX4_digest_107 h1 ?_
    obtain ⟨u3, h3, hf⟩ := xk_bi hf
    obtain ⟨q2, h2, hf⟩ := xk_bi hf
    refine xk_backi (xk_callV hC 0 xc_5 (c_Jx4a65c_size_8abf5 h2) h3 xm_187 xm_188 xm_189 xm_4 xm_190 ⟨rfl, xd_Jx4a65c_size_8abf5⟩ rfl ⟨Nat.le_of_ble_eq_true rfl, Nat.le_of_ble_eq_true rfl⟩ rfl (Nat.le_of_ble_eq_true rfl) dX4_digest_110 ⟨(Nat.le_of_ble_eq_true rfl), (Nat.le_of_ble_eq_true rfl)⟩) ?_
    refine xk_icmp_ge (tgt := 150) hC dX4_digest_113 (by decide) (fun c4 => ?_) (fun c4 => ?_)
    · replace hf := (if_pos c4).symm.trans hf
      refine xk_iconst (v := (0 : Int32)) hC dX4_digest_150 (by decide) ?_
      refine xk_istore_n (i := 3) (lv' := [(3, .int ((0 : Int32))), (0, va_rf (x0)), (1, .long (x1))]) hC dX4_digest_151 rfl (by decide) rfl ?_
      refine xk_locals [1, 2, 0] rfl ?_
      exact t_X4_digest_152 hC hr 5 x0 x1 ((0 : Int32)) (q2.2) hf
    · replace hf := (if_neg c4).symm.trans hf
      refine xk_iconst (v := (0 : Int32)) hC dX4_digest_116 (by decide) ?_
      refine xk_istore (i := 4) (lv' := [(4, .int ((0 : Int32))), (0, va_rf (x0)), (1, .long (x1)), (3, .int (x3))]) hC dX4_digest_117 (by decide) rfl ?_
      refine xk_locals [1, 2, 3, 0] rfl ?_
      exact t_X4_digest_119 hC hr (fun x0 x1 x3 w hf => ih x0 x1 x3 w hf) 6 x0 x1 x3 ((0 : Int32)) (q2.2) hf
def f_X4_digest_79 : Nat → Option Nat → Int64 → Int32 → xWd → Option (Int64 × xWd)
  | 0, _, _, _, _ => none
  | n + 1, x0, x1, x3, w => (xk_gR w (x0) 0 3).bind (fun v1 => (xk_is w (v1) 5).bind (fun u3 => (f_Jx4a65c_size_8abf5 (v1)  w).bind (fun q2 => if (q2.1) ≤ (x3) then f_X4_digest_105 41 x0 x1 ((0 : Int32)) (q2.2) else (xk_is q2.2 (x0) 0).bind (fun u6 => (f_X4_mixedCue (x0) (x1) (x3) q2.2).bind (fun q5 => f_X4_digest_79 n x0 (q5.1) (x3 + (1 : Int32)) (q5.2))))))
set_option maxHeartbeats 4000000 in
set_option maxRecDepth 100000 in
theorem t_X4_digest_79 {p : Program} {l : Launch} {e : Env} {s : State} {m : MethodId} {args : Array Value} {below : List Frame} {meth : Method} {c : Code} {E : xEv} (hC : xk_C p s m args meth c E prog_1_method_51_code "Clickbook" 5) (hr : meth.sig.returnType = (some .long)) {q : (Int64 × xWd)} : ∀ (n : Nat) (x0 : Option Nat) (x1 : Int64) (x3 : Int32) (w : xWd) (kc ks : Nat), kc + n * 42 ≤ 378 → ks + n * 2688 ≤ 24192 → f_X4_digest_79 n x0 x1 x3 w = some q → xk_X p l e { frames := 9, cells := 420, slots := 26880, locals := 222 } s m args below meth c (MQ below (xk_Ql E q) args s 420 26880 (xk_A E.2.2.1)) E 5 kc ks 79 [(0, va_rf (x0)), (1, .long (x1)), (3, .int (x3))] [] w := by
  intro n
  induction n with
  | zero => intro x0 x1 x3 w kc ks hkc hks hf; have hf : none = some q := hf; cases hf
  | succ n ih =>
    intro x0 x1 x3 w kc ks hkc hks hf
    rw [Nat.succ_mul] at hkc hks
    refine xk_iload_n hC dX4_digest_79 2 rfl rfl ?_
    refine xk_aload_n hC dX4_digest_80 0 rfl rfl ?_
    obtain ⟨v1, h1, hf⟩ := xk_bi hf
    refine xk_getR hC xi_0 xc_0 3 (by decide) xm_77 (Or.inl rfl) dX4_digest_81 h1 ?_
    obtain ⟨u3, h3, hf⟩ := xk_bi hf
    obtain ⟨q2, h2, hf⟩ := xk_bi hf
    refine xk_backi (xk_callV hC 0 xc_5 (c_Jx4a65c_size_8abf5 h2) h3 xm_187 xm_188 xm_189 xm_4 xm_190 ⟨rfl, xd_Jx4a65c_size_8abf5⟩ rfl ⟨Nat.le_of_ble_eq_true rfl, Nat.le_of_ble_eq_true rfl⟩ rfl (Nat.le_of_ble_eq_true rfl) dX4_digest_84 ⟨(by show _ ≤ 420; omega), (by show _ ≤ 26880; omega)⟩) ?_
    refine xk_icmp_ge (tgt := 103) hC dX4_digest_87 (by decide) (fun c4 => ?_) (fun c4 => ?_)
    · replace hf := (if_pos c4).symm.trans hf
      refine xk_iconst (v := (0 : Int32)) hC dX4_digest_103 (by decide) ?_
      refine xk_istore_n (i := 3) (lv' := [(3, .int ((0 : Int32))), (0, va_rf (x0)), (1, .long (x1))]) hC dX4_digest_104 rfl (by decide) rfl ?_
      refine xk_locals [1, 2, 0] rfl ?_
      refine xk_widen (k := 420) (n := 26880) (by omega) (by omega) ?_
      exact t_X4_digest_105 hC hr 41 x0 x1 ((0 : Int32)) (q2.2) hf
    · replace hf := (if_neg c4).symm.trans hf
      refine xk_aload_n hC dX4_digest_90 0 rfl rfl ?_
      refine xk_lload_n hC dX4_digest_91 1 rfl rfl ?_
      refine xk_iload_n hC dX4_digest_92 2 rfl rfl ?_
      obtain ⟨u6, h6, hf⟩ := xk_bi hf
      obtain ⟨q5, h5, hf⟩ := xk_bi hf
      refine xk_backl (xk_callV hC 2 xc_0 (c_X4_mixedCue h5) h6 xm_706 xm_708 xm_p31 xm_1 xm_709 ⟨rfl, xd_X4_mixedCue⟩ rfl ⟨Nat.le_of_ble_eq_true rfl, Nat.le_of_ble_eq_true rfl⟩ rfl (Nat.le_of_ble_eq_true rfl) dX4_digest_93 ⟨(by show _ ≤ 420; omega), (by show _ ≤ 26880; omega)⟩) ?_
      refine xk_lstore_n (i := 1) (lv' := [(1, .long (q5.1)), (0, va_rf (x0)), (3, .int (x3))]) hC dX4_digest_96 rfl (by decide) (by simp [xk_cat1]) ?_
      refine xk_iinc (v := x3 + (1 : Int32)) (lv' := [(3, .int (x3 + (1 : Int32))), (1, .long (q5.1)), (0, va_rf (x0))]) hC dX4_digest_97 2 rfl rfl (by decide) rfl ?_
      refine xk_goto (tgt := 79) hC dX4_digest_100 (by decide) ?_
      refine xk_locals [2, 1, 0] rfl ?_
      exact ih x0 (q5.1) (x3 + (1 : Int32)) (q5.2) _ _ (by omega) (by omega) hf
def f_X4_digest_31 : Nat → Option Nat → Int64 → Int32 → xWd → Option (Int64 × xWd)
  | 0, _, _, _, _ => none
  | n + 1, x0, x1, x3, w => (xk_gR w (x0) 0 0).bind (fun v1 => (xk_is w (v1) 5).bind (fun u3 => (f_Jx4a65c_size_8abf5 (v1)  w).bind (fun q2 => if (q2.1) ≤ (x3) then f_X4_digest_79 9 x0 x1 ((0 : Int32)) (q2.2) else f_X4_digest_45 (f_X4_digest_31 n) 8 x0 x1 x3 ((0 : Int32)) (q2.2))))
set_option maxHeartbeats 4000000 in
set_option maxRecDepth 100000 in
theorem t_X4_digest_31 {p : Program} {l : Launch} {e : Env} {s : State} {m : MethodId} {args : Array Value} {below : List Frame} {meth : Method} {c : Code} {E : xEv} (hC : xk_C p s m args meth c E prog_1_method_51_code "Clickbook" 5) (hr : meth.sig.returnType = (some .long)) {q : (Int64 × xWd)} : ∀ (n : Nat) (x0 : Option Nat) (x1 : Int64) (x3 : Int32) (w : xWd), f_X4_digest_31 n x0 x1 x3 w = some q → xk_X p l e { frames := 9, cells := 420, slots := 26880, locals := 222 } s m args below meth c (MQ below (xk_Ql E q) args s 420 26880 (xk_A E.2.2.1)) E 5 0 0 31 [(0, va_rf (x0)), (1, .long (x1)), (3, .int (x3))] [] w := by
  intro n
  induction n with
  | zero => intro x0 x1 x3 w hf; have hf : none = some q := hf; cases hf
  | succ n ih =>
    intro x0 x1 x3 w hf
    refine xk_iload_n hC dX4_digest_31 2 rfl rfl ?_
    refine xk_aload_n hC dX4_digest_32 0 rfl rfl ?_
    obtain ⟨v1, h1, hf⟩ := xk_bi hf
    refine xk_getR hC xi_0 xc_0 0 (by decide) xm_74 (Or.inl rfl) dX4_digest_33 h1 ?_
    obtain ⟨u3, h3, hf⟩ := xk_bi hf
    obtain ⟨q2, h2, hf⟩ := xk_bi hf
    refine xk_backi (xk_callV hC 0 xc_5 (c_Jx4a65c_size_8abf5 h2) h3 xm_187 xm_188 xm_189 xm_4 xm_190 ⟨rfl, xd_Jx4a65c_size_8abf5⟩ rfl ⟨Nat.le_of_ble_eq_true rfl, Nat.le_of_ble_eq_true rfl⟩ rfl (Nat.le_of_ble_eq_true rfl) dX4_digest_36 ⟨(Nat.le_of_ble_eq_true rfl), (Nat.le_of_ble_eq_true rfl)⟩) ?_
    refine xk_icmp_ge (tgt := 77) hC dX4_digest_39 (by decide) (fun c4 => ?_) (fun c4 => ?_)
    · replace hf := (if_pos c4).symm.trans hf
      refine xk_iconst (v := (0 : Int32)) hC dX4_digest_77 (by decide) ?_
      refine xk_istore_n (i := 3) (lv' := [(3, .int ((0 : Int32))), (0, va_rf (x0)), (1, .long (x1))]) hC dX4_digest_78 rfl (by decide) rfl ?_
      refine xk_locals [1, 2, 0] rfl ?_
      exact t_X4_digest_79 hC hr 9 x0 x1 ((0 : Int32)) (q2.2) _ _ (Nat.le_of_ble_eq_true rfl) (Nat.le_of_ble_eq_true rfl) hf
    · replace hf := (if_neg c4).symm.trans hf
      refine xk_iconst (v := (0 : Int32)) hC dX4_digest_42 (by decide) ?_
      refine xk_istore (i := 4) (lv' := [(4, .int ((0 : Int32))), (0, va_rf (x0)), (1, .long (x1)), (3, .int (x3))]) hC dX4_digest_43 (by decide) rfl ?_
      refine xk_locals [1, 2, 3, 0] rfl ?_
      exact t_X4_digest_45 hC hr (fun x0 x1 x3 w hf => ih x0 x1 x3 w hf) 8 x0 x1 x3 ((0 : Int32)) (q2.2) hf
def f_X4_digest_6 : Nat → Option Nat → Int64 → Int32 → xWd → Option (Int64 × xWd)
  | 0, _, _, _, _ => none
  | n + 1, x0, x1, x3, w => if ((15 : Int32)) < (x3) then f_X4_digest_31 13 x0 x1 ((0 : Int32)) w else (xk_is w (x0) 0).bind (fun u3 => (f_X4_many (x0) (x3) w).bind (fun q2 => (f_X4_mixed (x1) ((q2.1).toInt64) q2.2).bind (fun q4 => f_X4_digest_6 n x0 (q4.1) (x3 + (1 : Int32)) (q4.2))))
set_option maxHeartbeats 4000000 in
set_option maxRecDepth 100000 in
theorem t_X4_digest_6 {p : Program} {l : Launch} {e : Env} {s : State} {m : MethodId} {args : Array Value} {below : List Frame} {meth : Method} {c : Code} {E : xEv} (hC : xk_C p s m args meth c E prog_1_method_51_code "Clickbook" 5) (hr : meth.sig.returnType = (some .long)) {q : (Int64 × xWd)} : ∀ (n : Nat) (x0 : Option Nat) (x1 : Int64) (x3 : Int32) (w : xWd), f_X4_digest_6 n x0 x1 x3 w = some q → xk_X p l e { frames := 9, cells := 420, slots := 26880, locals := 222 } s m args below meth c (MQ below (xk_Ql E q) args s 420 26880 (xk_A E.2.2.1)) E 5 0 0 6 [(0, va_rf (x0)), (1, .long (x1)), (3, .int (x3))] [] w := by
  intro n
  induction n with
  | zero => intro x0 x1 x3 w hf; have hf : none = some q := hf; cases hf
  | succ n ih =>
    intro x0 x1 x3 w hf
    refine xk_iload_n hC dX4_digest_6 2 rfl rfl ?_
    refine xk_bipush (v := (15 : Int32)) hC dX4_digest_7 (by decide) ?_
    refine xk_icmp_gt (tgt := 29) hC dX4_digest_9 (by decide) (fun c1 => ?_) (fun c1 => ?_)
    · replace hf := (if_pos c1).symm.trans hf
      refine xk_iconst (v := (0 : Int32)) hC dX4_digest_29 (by decide) ?_
      refine xk_istore_n (i := 3) (lv' := [(3, .int ((0 : Int32))), (0, va_rf (x0)), (1, .long (x1))]) hC dX4_digest_30 rfl (by decide) rfl ?_
      refine xk_locals [1, 2, 0] rfl ?_
      exact t_X4_digest_31 hC hr 13 x0 x1 ((0 : Int32)) w hf
    · replace hf := (if_neg c1).symm.trans hf
      refine xk_lload_n hC dX4_digest_12 1 rfl rfl ?_
      refine xk_aload_n hC dX4_digest_13 0 rfl rfl ?_
      refine xk_iload_n hC dX4_digest_14 2 rfl rfl ?_
      obtain ⟨u3, h3, hf⟩ := xk_bi hf
      obtain ⟨q2, h2, hf⟩ := xk_bi hf
      refine xk_backi (xk_callV hC 1 xc_0 (c_X4_many h2) h3 xm_670 xm_543 xm_544 xm_1 xm_545 ⟨rfl, xd_X4_many⟩ rfl ⟨Nat.le_of_ble_eq_true rfl, Nat.le_of_ble_eq_true rfl⟩ rfl (Nat.le_of_ble_eq_true rfl) dX4_digest_15 ⟨(Nat.le_of_ble_eq_true rfl), (Nat.le_of_ble_eq_true rfl)⟩) ?_
      refine xk_i2l hC dX4_digest_18 ?_
      obtain ⟨q4, h4, hf⟩ := xk_bi hf
      refine xk_backl (xk_callS hC 2 (c_X4_mixed h4) xm_671 xm_672 xm_1 xm_673 xd_X4_mixed rfl ⟨Nat.le_of_ble_eq_true rfl, Nat.le_of_ble_eq_true rfl⟩ rfl (Nat.le_of_ble_eq_true rfl) dX4_digest_19 ⟨(Nat.le_of_ble_eq_true rfl), (Nat.le_of_ble_eq_true rfl)⟩) ?_
      refine xk_lstore_n (i := 1) (lv' := [(1, .long (q4.1)), (0, va_rf (x0)), (3, .int (x3))]) hC dX4_digest_22 rfl (by decide) (by simp [xk_cat1]) ?_
      refine xk_iinc (v := x3 + (1 : Int32)) (lv' := [(3, .int (x3 + (1 : Int32))), (1, .long (q4.1)), (0, va_rf (x0))]) hC dX4_digest_23 2 rfl rfl (by decide) rfl ?_
      refine xk_goto (tgt := 6) hC dX4_digest_26 (by decide) ?_
      refine xk_locals [2, 1, 0] rfl ?_
      exact ih x0 (q4.1) (x3 + (1 : Int32)) (q4.2) hf
def f_X4_digest (x0 : Option Nat) (w : xWd) : Option (Int64 × xWd) := f_X4_digest_6 17 x0 ((58231 : Int64)) ((0 : Int32)) w
set_option maxHeartbeats 4000000 in
set_option maxRecDepth 100000 in
theorem t_X4_digest_0 {p : Program} {l : Launch} {e : Env} {s : State} {m : MethodId} {args : Array Value} {below : List Frame} {meth : Method} {c : Code} {E : xEv} (hC : xk_C p s m args meth c E prog_1_method_51_code "Clickbook" 5) (hr : meth.sig.returnType = (some .long)) {q : (Int64 × xWd)} (x0 : Option Nat) (w : xWd) (hf : f_X4_digest x0 w = some q) : xk_X p l e { frames := 9, cells := 420, slots := 26880, locals := 222 } s m args below meth c (MQ below (xk_Ql E q) args s 420 26880 (xk_A E.2.2.1)) E 5 0 0 0 [(0, va_rf (x0))] [] w := by
  refine xk_ldc2 (v := (58231 : Int64)) hC dX4_digest_0 xm_669 ?_
  refine xk_lstore_n (i := 1) (lv' := [(1, .long ((58231 : Int64))), (0, va_rf (x0))]) hC dX4_digest_3 rfl (by decide) (by simp [xk_cat1]) ?_
  refine xk_iconst (v := (0 : Int32)) hC dX4_digest_4 (by decide) ?_
  refine xk_istore_n (i := 3) (lv' := [(3, .int ((0 : Int32))), (1, .long ((58231 : Int64))), (0, va_rf (x0))]) hC dX4_digest_5 rfl (by decide) rfl ?_
  refine xk_locals [2, 1, 0] rfl ?_
  exact t_X4_digest_6 hC hr 17 x0 ((58231 : Int64)) ((0 : Int32)) w hf
theorem xd_X4_digest : xy_X4_digest.cls ≠ "java/lang/invoke/MethodHandle" ∧ xy_X4_digest.cls ≠ "java/lang/invoke/VarHandle" ∧ (parseMethodDescriptor xy_X4_digest.desc).map (fun d => d.parameters.length) = some 0 := ⟨by decide +kernel, by decide +kernel, by decide +kernel⟩
theorem c_X4_digest {l : Launch} {E : xEv} {x0 : Option Nat} {w : xWd} {q : (Int64 × xWd)} (hf : f_X4_digest x0 w = some q) : xk_M l xy_X4_digest prog_1_method_51_code 5 (some .long) 9 222 420 26880 E [va_rf (x0)] w (xk_Ql E q) := by
  refine xk_enter (by decide +kernel) (by simp [lg_sl, xk_cat1, xk_cati, xk_catl, xk_catd]) ?_
  intro p e s m args below meth c hC hr hin ha
  rw [show lv_args 0 [va_rf (x0)] = [(0, va_rf (x0))] by simp [lv_args, xk_cat1, xk_cati, xk_catl, xk_catd]]
  exact t_X4_digest_0 hC hr x0 w hf
