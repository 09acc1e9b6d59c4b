def f_L_hit (x0 : Option Nat) (x1 : Int32) (x2 : Int32) (x3 : Option Nat) (w : xWd) : Option (Int32 × xWd) := (xk_is w (x0) 0).bind (fun u2 => xk_or (f_X4_hit (x0) (x1) (x2) w) (fun q1 => (xk_sL q1.2 (x3) ((0 : Int32)) ((q1.1).toInt64)).bind (fun w6 => some ((0 : Int32), w6))) ((e_X4_hit (x0) (x1) (x2) w).bind (fun y3 => if y3.1 = 0 then some ((1 : Int32), y3.2) else (if y3.1 = 1 then some ((2 : Int32), y3.2) else (none)))))
set_option maxHeartbeats 4000000 in
set_option maxRecDepth 100000 in
theorem t_L_hit_0 {p : Program} {l : Launch} {e : Env} {s : State} {m : MethodId} {args : Array Value} {below : List Frame} {meth : Method} {c : Code} {E : xEv} (hC : xk_C p s m args meth c E method_3_code "ClickbookLaw" 5) (hr : meth.sig.returnType = (some .int)) (hX : c.exceptionTable.toList = tableOf [(0, 10, 13, 13), (0, 10, 17, 15)]) (hl9 : l.stackTraces = false) {q : (Int32 × xWd)} (x0 : Option Nat) (x1 : Int32) (x2 : Int32) (x3 : Option Nat) (w : xWd) (hf : f_L_hit x0 x1 x2 x3 w = some q) : xk_X p l e { frames := 7, cells := 2, slots := 67, locals := 130 } s m args below meth c (MQ below (xk_Qi E q) args s 2 67 (xk_A E.2.2.1)) E 5 0 0 0 [(0, va_rf (x0)), (1, .int (x1)), (2, .int (x2)), (3, va_rf (x3))] [] w := by
  refine xk_aload_n hC dL_hit_0 3 rfl rfl ?_
  refine xk_iconst (v := (0 : Int32)) hC dL_hit_1 (by decide) ?_
  refine xk_aload_n hC dL_hit_2 0 rfl rfl ?_
  refine xk_iload_n hC dL_hit_3 1 rfl rfl ?_
  refine xk_iload_n hC dL_hit_4 2 rfl rfl ?_
  obtain ⟨u2, h2, hf⟩ := xk_bi hf
  rcases xk_or_e hf with ⟨-, hf⟩ | ⟨q1, h1, hf⟩
  · skip
    obtain ⟨y3, hy3, hf⟩ := xk_bi hf
    by_cases c4 : y3.1 = 0
    · replace hf := (if_pos c4).symm.trans hf
      refine xk_catchX (x0 := ⟨0, 10, 13, 13⟩) hC (tableOf []) (tableOf [(0, 10, 17, 15)]) (hX.trans rfl) c4 xk_pass0 (by decide) (by decide) xm_541 (xk_note1 hC) (xk_callVX (av := [.int (x1), .int (x2)]) (rest := [.int ((0 : Int32)), va_rf (x3)]) hC 2 xc_0 (ce_X4_hit hl9 hy3) h2 xm_543 xm_544 xm_545 xm_1 xm_546 ⟨rfl, xd_X4_hit⟩ rfl ⟨Nat.le_of_ble_eq_true rfl, Nat.le_of_ble_eq_true rfl⟩ rfl (by simp [xk_cat1, xk_cati, xk_catl, xk_catd]) dL_hit_5 ⟨(Nat.le_of_ble_eq_true rfl), (Nat.le_of_ble_eq_true rfl)⟩) (fun a4 => ?_)
      refine xk_astore (i := 4) (lv' := [(4, va_rf (some a4)), (0, va_rf (x0)), (1, .int (x1)), (2, .int (x2)), (3, va_rf (x3))]) hC dL_hit_13 (by decide) (by simp [xk_cat1]) ?_
      refine xk_iconst (v := (1 : Int32)) hC dL_hit_15 (by decide) ?_
      cases hf
      refine xk_widen (k := 2) (n := 67) (Nat.le_of_ble_eq_true rfl) (Nat.le_of_ble_eq_true rfl) ?_
      exact xk_iret hC hr rfl dL_hit_16
    · replace hf := (if_neg c4).symm.trans hf
      by_cases c5 : y3.1 = 1
      · replace hf := (if_pos c5).symm.trans hf
        refine xk_catchX (x0 := ⟨0, 10, 17, 15⟩) hC (tableOf [(0, 10, 13, 13)]) (tableOf []) (hX.trans rfl) c5 (xk_passc (Or.inr ⟨by decide, "java/lang/IllegalArgumentException", hC.2.2.2.2.1 _ xm_541, xk_note57 hC⟩) xk_pass0) (by decide) (by decide) xm_542 (xk_note20 hC) (xk_callVX (av := [.int (x1), .int (x2)]) (rest := [.int ((0 : Int32)), va_rf (x3)]) hC 2 xc_0 (ce_X4_hit hl9 hy3) h2 xm_543 xm_544 xm_545 xm_1 xm_546 ⟨rfl, xd_X4_hit⟩ rfl ⟨Nat.le_of_ble_eq_true rfl, Nat.le_of_ble_eq_true rfl⟩ rfl (by simp [xk_cat1, xk_cati, xk_catl, xk_catd]) dL_hit_5 ⟨(Nat.le_of_ble_eq_true rfl), (Nat.le_of_ble_eq_true rfl)⟩) (fun a5 => ?_)
        refine xk_astore (i := 4) (lv' := [(4, va_rf (some a5)), (0, va_rf (x0)), (1, .int (x1)), (2, .int (x2)), (3, va_rf (x3))]) hC dL_hit_17 (by decide) (by simp [xk_cat1]) ?_
        refine xk_iconst (v := (2 : Int32)) hC dL_hit_19 (by decide) ?_
        cases hf
        refine xk_widen (k := 2) (n := 67) (Nat.le_of_ble_eq_true rfl) (Nat.le_of_ble_eq_true rfl) ?_
        exact xk_iret hC hr rfl dL_hit_20
      · replace hf := (if_neg c5).symm.trans hf
        cases hf
  refine xk_backi (xk_callV (av := [.int (x1), .int (x2)]) (rest := [.int ((0 : Int32)), va_rf (x3)]) hC 2 xc_0 (c_X4_hit h1) h2 xm_543 xm_544 xm_545 xm_1 xm_546 ⟨rfl, xd_X4_hit⟩ rfl ⟨Nat.le_of_ble_eq_true rfl, Nat.le_of_ble_eq_true rfl⟩ rfl (by simp [xk_cat1, xk_cati, xk_catl, xk_catd]) dL_hit_5 ⟨(Nat.le_of_ble_eq_true rfl), (Nat.le_of_ble_eq_true rfl)⟩) ?_
  refine xk_i2l hC dL_hit_8 ?_
  obtain ⟨w6, h6, hf⟩ := xk_bi hf
  refine xk_last hC rfl dL_hit_9 h6 ?_
  refine xk_goto (tgt := 21) hC dL_hit_10 (by decide) ?_
  refine xk_iconst (v := (0 : Int32)) hC dL_hit_21 (by decide) ?_
  cases hf
  refine xk_widen (k := 2) (n := 67) (Nat.le_of_ble_eq_true rfl) (Nat.le_of_ble_eq_true rfl) ?_
  exact xk_iret hC hr rfl dL_hit_22
theorem xd_L_hit : xy_L_hit.cls ≠ "java/lang/invoke/MethodHandle" ∧ xy_L_hit.cls ≠ "java/lang/invoke/VarHandle" ∧ (parseMethodDescriptor xy_L_hit.desc).map (fun d => d.parameters.length) = some 4 := ⟨by decide +kernel, by decide +kernel, by decide +kernel⟩
theorem c_L_hit {l : Launch} (hl9 : l.stackTraces = false) {E : xEv} {x0 : Option Nat} {x1 : Int32} {x2 : Int32} {x3 : Option Nat} {w : xWd} {q : (Int32 × xWd)} (hf : f_L_hit x0 x1 x2 x3 w = some q) : xk_MH l xy_L_hit method_3_code 5 (some .int) [(0, 10, 13, 13), (0, 10, 17, 15)] 7 130 2 67 E [va_rf (x0), .int (x1), .int (x2), va_rf (x3)] w (xk_Qi E q) := by
  refine xk_enterH (by decide +kernel) (by simp [lg_sl, xk_cat1, xk_cati, xk_catl, xk_catd]) ?_
  intro p e s m args below meth c hC hr hX ha
  rw [show lv_args 0 [va_rf (x0), .int (x1), .int (x2), va_rf (x3)] = [(0, va_rf (x0)), (1, .int (x1)), (2, .int (x2)), (3, va_rf (x3))] by simp [lv_args, xk_cat1, xk_cati, xk_catl, xk_catd]]
  exact t_L_hit_0 hC hr hX hl9 x0 x1 x2 x3 w hf
def f_L_theme (x0 : Option Nat) (x1 : Int32) (x2 : Option Nat) (w : xWd) : Option (Int32 × xWd) := (xk_is w (x0) 0).bind (fun u2 => xk_or (f_X4_theme (x0) (x1) w) (fun q1 => (xk_sL q1.2 (x2) ((0 : Int32)) ((q1.1).toInt64)).bind (fun w6 => some ((0 : Int32), w6))) ((e_X4_theme (x0) (x1) w).bind (fun y3 => if y3.1 = 0 then some ((1 : Int32), y3.2) else (if y3.1 = 1 then some ((2 : Int32), y3.2) else (none)))))
set_option maxHeartbeats 4000000 in
set_option maxRecDepth 100000 in
theorem t_L_theme_0 {p : Program} {l : Launch} {e : Env} {s : State} {m : MethodId} {args : Array Value} {below : List Frame} {meth : Method} {c : Code} {E : xEv} (hC : xk_C p s m args meth c E method_4_code "ClickbookLaw" 4) (hr : meth.sig.returnType = (some .int)) (hX : c.exceptionTable.toList = tableOf [(0, 9, 12, 13), (0, 9, 15, 15)]) (hl9 : l.stackTraces = false) {q : (Int32 × xWd)} (x0 : Option Nat) (x1 : Int32) (x2 : Option Nat) (w : xWd) (hf : f_L_theme x0 x1 x2 w = some q) : xk_X p l e { frames := 7, cells := 1, slots := 6, locals := 113 } s m args below meth c (MQ below (xk_Qi E q) args s 1 6 (xk_A E.2.2.1)) E 4 0 0 0 [(0, va_rf (x0)), (1, .int (x1)), (2, va_rf (x2))] [] w := by
  refine xk_aload_n hC dL_theme_0 2 rfl rfl ?_
  refine xk_iconst (v := (0 : Int32)) hC dL_theme_1 (by decide) ?_
  refine xk_aload_n hC dL_theme_2 0 rfl rfl ?_
  refine xk_iload_n hC dL_theme_3 1 rfl rfl ?_
  obtain ⟨u2, h2, hf⟩ := xk_bi hf
  rcases xk_or_e hf with ⟨-, hf⟩ | ⟨q1, h1, hf⟩
  · skip
    obtain ⟨y3, hy3, hf⟩ := xk_bi hf
    by_cases c4 : y3.1 = 0
    · replace hf := (if_pos c4).symm.trans hf
      refine xk_catchX (x0 := ⟨0, 9, 12, 13⟩) hC (tableOf []) (tableOf [(0, 9, 15, 15)]) (hX.trans rfl) c4 xk_pass0 (by decide) (by decide) xm_541 (xk_note1 hC) (xk_callVX (av := [.int (x1)]) (rest := [.int ((0 : Int32)), va_rf (x2)]) hC 1 xc_0 (ce_X4_theme hl9 hy3) h2 xm_586 xm_587 xm_588 xm_1 xm_589 ⟨rfl, xd_X4_theme⟩ rfl ⟨Nat.le_of_ble_eq_true rfl, Nat.le_of_ble_eq_true rfl⟩ rfl (by simp [xk_cat1, xk_cati, xk_catl, xk_catd]) dL_theme_4 ⟨(Nat.le_of_ble_eq_true rfl), (Nat.le_of_ble_eq_true rfl)⟩) (fun a4 => ?_)
      refine xk_astore_n (i := 3) (lv' := [(3, va_rf (some a4)), (0, va_rf (x0)), (1, .int (x1)), (2, va_rf (x2))]) hC dL_theme_12 rfl (by decide) (by simp [xk_cat1]) ?_
      refine xk_iconst (v := (1 : Int32)) hC dL_theme_13 (by decide) ?_
      cases hf
      refine xk_widen (k := 1) (n := 6) (Nat.le_of_ble_eq_true rfl) (Nat.le_of_ble_eq_true rfl) ?_
      exact xk_iret hC hr rfl dL_theme_14
    · replace hf := (if_neg c4).symm.trans hf
      by_cases c5 : y3.1 = 1
      · replace hf := (if_pos c5).symm.trans hf
        refine xk_catchX (x0 := ⟨0, 9, 15, 15⟩) hC (tableOf [(0, 9, 12, 13)]) (tableOf []) (hX.trans rfl) c5 (xk_passc (Or.inr ⟨by decide, "java/lang/IllegalArgumentException", hC.2.2.2.2.1 _ xm_541, xk_note57 hC⟩) xk_pass0) (by decide) (by decide) xm_542 (xk_note20 hC) (xk_callVX (av := [.int (x1)]) (rest := [.int ((0 : Int32)), va_rf (x2)]) hC 1 xc_0 (ce_X4_theme hl9 hy3) h2 xm_586 xm_587 xm_588 xm_1 xm_589 ⟨rfl, xd_X4_theme⟩ rfl ⟨Nat.le_of_ble_eq_true rfl, Nat.le_of_ble_eq_true rfl⟩ rfl (by simp [xk_cat1, xk_cati, xk_catl, xk_catd]) dL_theme_4 ⟨(Nat.le_of_ble_eq_true rfl), (Nat.le_of_ble_eq_true rfl)⟩) (fun a5 => ?_)
        refine xk_astore_n (i := 3) (lv' := [(3, va_rf (some a5)), (0, va_rf (x0)), (1, .int (x1)), (2, va_rf (x2))]) hC dL_theme_15 rfl (by decide) (by simp [xk_cat1]) ?_
        refine xk_iconst (v := (2 : Int32)) hC dL_theme_16 (by decide) ?_
        cases hf
        refine xk_widen (k := 1) (n := 6) (Nat.le_of_ble_eq_true rfl) (Nat.le_of_ble_eq_true rfl) ?_
        exact xk_iret hC hr rfl dL_theme_17
      · replace hf := (if_neg c5).symm.trans hf
        cases hf
  refine xk_backi (xk_callV (av := [.int (x1)]) (rest := [.int ((0 : Int32)), va_rf (x2)]) hC 1 xc_0 (c_X4_theme h1) h2 xm_586 xm_587 xm_588 xm_1 xm_589 ⟨rfl, xd_X4_theme⟩ rfl ⟨Nat.le_of_ble_eq_true rfl, Nat.le_of_ble_eq_true rfl⟩ rfl (by simp [xk_cat1, xk_cati, xk_catl, xk_catd]) dL_theme_4 ⟨(Nat.le_of_ble_eq_true rfl), (Nat.le_of_ble_eq_true rfl)⟩) ?_
  refine xk_i2l hC dL_theme_7 ?_
  obtain ⟨w6, h6, hf⟩ := xk_bi hf
  refine xk_last hC rfl dL_theme_8 h6 ?_
  refine xk_goto (tgt := 18) hC dL_theme_9 (by decide) ?_
  refine xk_iconst (v := (0 : Int32)) hC dL_theme_18 (by decide) ?_
  cases hf
  refine xk_widen (k := 1) (n := 6) (Nat.le_of_ble_eq_true rfl) (Nat.le_of_ble_eq_true rfl) ?_
  exact xk_iret hC hr rfl dL_theme_19
theorem xd_L_theme : xy_L_theme.cls ≠ "java/lang/invoke/MethodHandle" ∧ xy_L_theme.cls ≠ "java/lang/invoke/VarHandle" ∧ (parseMethodDescriptor xy_L_theme.desc).map (fun d => d.parameters.length) = some 3 := ⟨by decide +kernel, by decide +kernel, by decide +kernel⟩
theorem c_L_theme {l : Launch} (hl9 : l.stackTraces = false) {E : xEv} {x0 : Option Nat} {x1 : Int32} {x2 : Option Nat} {w : xWd} {q : (Int32 × xWd)} (hf : f_L_theme x0 x1 x2 w = some q) : xk_MH l xy_L_theme method_4_code 4 (some .int) [(0, 9, 12, 13), (0, 9, 15, 15)] 7 113 1 6 E [va_rf (x0), .int (x1), va_rf (x2)] w (xk_Qi E q) := by
  refine xk_enterH (by decide +kernel) (by simp [lg_sl, xk_cat1, xk_cati, xk_catl, xk_catd]) ?_
  intro p e s m args below meth c hC hr hX ha
  rw [show lv_args 0 [va_rf (x0), .int (x1), va_rf (x2)] = [(0, va_rf (x0)), (1, .int (x1)), (2, va_rf (x2))] by simp [lv_args, xk_cat1, xk_cati, xk_catl, xk_catd]]
  exact t_L_theme_0 hC hr hX hl9 x0 x1 x2 w hf
def f_L_change (x0 : Option Nat) (x1 : Int32) (x2 : Int32) (x3 : Option Nat) (w : xWd) : Option (Int32 × xWd) := (xk_is w (x0) 0).bind (fun u2 => xk_or (f_X4_change (x0) (x1) (x2) w) (fun q1 => (xk_sL q1.2 (x3) ((0 : Int32)) ((q1.1).toInt64)).bind (fun w6 => some ((0 : Int32), w6))) ((e_X4_change (x0) (x1) (x2) w).bind (fun y3 => if y3.1 = 0 then some ((1 : Int32), y3.2) else (if y3.1 = 1 then some ((2 : Int32), y3.2) else (none)))))
set_option maxHeartbeats 4000000 in
set_option maxRecDepth 100000 in
theorem t_L_change_0 {p : Program} {l : Launch} {e : Env} {s : State} {m : MethodId} {args : Array Value} {below : List Frame} {meth : Method} {c : Code} {E : xEv} (hC : xk_C p s m args meth c E method_5_code "ClickbookLaw" 5) (hr : meth.sig.returnType = (some .int)) (hX : c.exceptionTable.toList = tableOf [(0, 10, 13, 13), (0, 10, 17, 15)]) (hl9 : l.stackTraces = false) {q : (Int32 × xWd)} (x0 : Option Nat) (x1 : Int32) (x2 : Int32) (x3 : Option Nat) (w : xWd) (hf : f_L_change x0 x1 x2 x3 w = some q) : xk_X p l e { frames := 8, cells := 2, slots := 12, locals := 138 } s m args below meth c (MQ below (xk_Qi E q) args s 2 12 (xk_A E.2.2.1)) E 5 0 0 0 [(0, va_rf (x0)), (1, .int (x1)), (2, .int (x2)), (3, va_rf (x3))] [] w := by
  refine xk_aload_n hC dL_change_0 3 rfl rfl ?_
  refine xk_iconst (v := (0 : Int32)) hC dL_change_1 (by decide) ?_
  refine xk_aload_n hC dL_change_2 0 rfl rfl ?_
  refine xk_iload_n hC dL_change_3 1 rfl rfl ?_
  refine xk_iload_n hC dL_change_4 2 rfl rfl ?_
  obtain ⟨u2, h2, hf⟩ := xk_bi hf
  rcases xk_or_e hf with ⟨-, hf⟩ | ⟨q1, h1, hf⟩
  · skip
    obtain ⟨y3, hy3, hf⟩ := xk_bi hf
    by_cases c4 : y3.1 = 0
    · replace hf := (if_pos c4).symm.trans hf
      refine xk_catchX (x0 := ⟨0, 10, 13, 13⟩) hC (tableOf []) (tableOf [(0, 10, 17, 15)]) (hX.trans rfl) c4 xk_pass0 (by decide) (by decide) xm_541 (xk_note1 hC) (xk_callVX (av := [.int (x1), .int (x2)]) (rest := [.int ((0 : Int32)), va_rf (x3)]) hC 2 xc_0 (ce_X4_change hl9 hy3) h2 xm_595 xm_596 xm_597 xm_1 xm_598 ⟨rfl, xd_X4_change⟩ rfl ⟨Nat.le_of_ble_eq_true rfl, Nat.le_of_ble_eq_true rfl⟩ rfl (by simp [xk_cat1, xk_cati, xk_catl, xk_catd]) dL_change_5 ⟨(Nat.le_of_ble_eq_true rfl), (Nat.le_of_ble_eq_true rfl)⟩) (fun a4 => ?_)
      refine xk_astore (i := 4) (lv' := [(4, va_rf (some a4)), (0, va_rf (x0)), (1, .int (x1)), (2, .int (x2)), (3, va_rf (x3))]) hC dL_change_13 (by decide) (by simp [xk_cat1]) ?_
      refine xk_iconst (v := (1 : Int32)) hC dL_change_15 (by decide) ?_
      cases hf
      refine xk_widen (k := 2) (n := 12) (Nat.le_of_ble_eq_true rfl) (Nat.le_of_ble_eq_true rfl) ?_
      exact xk_iret hC hr rfl dL_change_16
    · replace hf := (if_neg c4).symm.trans hf
      by_cases c5 : y3.1 = 1
      · replace hf := (if_pos c5).symm.trans hf
        refine xk_catchX (x0 := ⟨0, 10, 17, 15⟩) hC (tableOf [(0, 10, 13, 13)]) (tableOf []) (hX.trans rfl) c5 (xk_passc (Or.inr ⟨by decide, "java/lang/IllegalArgumentException", hC.2.2.2.2.1 _ xm_541, xk_note57 hC⟩) xk_pass0) (by decide) (by decide) xm_542 (xk_note20 hC) (xk_callVX (av := [.int (x1), .int (x2)]) (rest := [.int ((0 : Int32)), va_rf (x3)]) hC 2 xc_0 (ce_X4_change hl9 hy3) h2 xm_595 xm_596 xm_597 xm_1 xm_598 ⟨rfl, xd_X4_change⟩ rfl ⟨Nat.le_of_ble_eq_true rfl, Nat.le_of_ble_eq_true rfl⟩ rfl (by simp [xk_cat1, xk_cati, xk_catl, xk_catd]) dL_change_5 ⟨(Nat.le_of_ble_eq_true rfl), (Nat.le_of_ble_eq_true rfl)⟩) (fun a5 => ?_)
        refine xk_astore (i := 4) (lv' := [(4, va_rf (some a5)), (0, va_rf (x0)), (1, .int (x1)), (2, .int (x2)), (3, va_rf (x3))]) hC dL_change_17 (by decide) (by simp [xk_cat1]) ?_
        refine xk_iconst (v := (2 : Int32)) hC dL_change_19 (by decide) ?_
        cases hf
        refine xk_widen (k := 2) (n := 12) (Nat.le_of_ble_eq_true rfl) (Nat.le_of_ble_eq_true rfl) ?_
        exact xk_iret hC hr rfl dL_change_20
      · replace hf := (if_neg c5).symm.trans hf
        cases hf
  refine xk_backi (xk_callV (av := [.int (x1), .int (x2)]) (rest := [.int ((0 : Int32)), va_rf (x3)]) hC 2 xc_0 (c_X4_change h1) h2 xm_595 xm_596 xm_597 xm_1 xm_598 ⟨rfl, xd_X4_change⟩ rfl ⟨Nat.le_of_ble_eq_true rfl, Nat.le_of_ble_eq_true rfl⟩ rfl (by simp [xk_cat1, xk_cati, xk_catl, xk_catd]) dL_change_5 ⟨(Nat.le_of_ble_eq_true rfl), (Nat.le_of_ble_eq_true rfl)⟩) ?_
  refine xk_i2l hC dL_change_8 ?_
  obtain ⟨w6, h6, hf⟩ := xk_bi hf
  refine xk_last hC rfl dL_change_9 h6 ?_
  refine xk_goto (tgt := 21) hC dL_change_10 (by decide) ?_
  refine xk_iconst (v := (0 : Int32)) hC dL_change_21 (by decide) ?_
  cases hf
  refine xk_widen (k := 2) (n := 12) (Nat.le_of_ble_eq_true rfl) (Nat.le_of_ble_eq_true rfl) ?_
  exact xk_iret hC hr rfl dL_change_22
theorem xd_L_change : xy_L_change.cls ≠ "java/lang/invoke/MethodHandle" ∧ xy_L_change.cls ≠ "java/lang/invoke/VarHandle" ∧ (parseMethodDescriptor xy_L_change.desc).map (fun d => d.parameters.length) = some 4 := ⟨by decide +kernel, by decide +kernel, by decide +kernel⟩
theorem c_L_change {l : Launch} (hl9 : l.stackTraces = false) {E : xEv} {x0 : Option Nat} {x1 : Int32} {x2 : Int32} {x3 : Option Nat} {w : xWd} {q : (Int32 × xWd)} (hf : f_L_change x0 x1 x2 x3 w = some q) : xk_MH l xy_L_change method_5_code 5 (some .int) [(0, 10, 13, 13), (0, 10, 17, 15)] 8 138 2 12 E [va_rf (x0), .int (x1), .int (x2), va_rf (x3)] w (xk_Qi E q) := by
  refine xk_enterH (by decide +kernel) (by simp [lg_sl, xk_cat1, xk_cati, xk_catl, xk_catd]) ?_
  intro p e s m args below meth c hC hr hX ha
  rw [show lv_args 0 [va_rf (x0), .int (x1), .int (x2), va_rf (x3)] = [(0, va_rf (x0)), (1, .int (x1)), (2, .int (x2)), (3, va_rf (x3))] by simp [lv_args, xk_cat1, xk_cati, xk_catl, xk_catd]]
  exact t_L_change_0 hC hr hX hl9 x0 x1 x2 x3 w hf
def f_L_cue (x0 : Option Nat) (x1 : Int32) (x2 : Int32) (x3 : Int32) (x4 : Int32) (x5 : Int32) (x6 : Option Nat) (w : xWd) : Option (Int32 × xWd) := (xk_is w (x0) 0).bind (fun u2 => xk_or (f_X4_cue (x0) (x1) (x2) (x3) (x4) (x5) w) (fun q1 => (xk_sL q1.2 (x6) ((0 : Int32)) ((q1.1).toInt64)).bind (fun w7 => some ((0 : Int32), w7))) ((e_X4_cue (x0) (x1) (x2) (x3) (x4) (x5) w).bind (fun y3 => if y3.1 = 0 then some ((2 : Int32), y3.2) else (if y3.1 = 1 then some ((3 : Int32), y3.2) else (if y3.1 = 2 then some ((1 : Int32), y3.2) else (none))))))
set_option maxHeartbeats 4000000 in
set_option maxRecDepth 100000 in
theorem t_L_cue_0 {p : Program} {l : Launch} {e : Env} {s : State} {m : MethodId} {args : Array Value} {below : List Frame} {meth : Method} {c : Code} {E : xEv} (hC : xk_C p s m args meth c E method_6_code "ClickbookLaw" 8) (hr : meth.sig.returnType = (some .int)) (hX : c.exceptionTable.toList = tableOf [(0, 16, 19, 28), (0, 16, 23, 13), (0, 16, 27, 15)]) (hl9 : l.stackTraces = false) {q : (Int32 × xWd)} (x0 : Option Nat) (x1 : Int32) (x2 : Int32) (x3 : Int32) (x4 : Int32) (x5 : Int32) (x6 : Option Nat) (w : xWd) (hf : f_L_cue x0 x1 x2 x3 x4 x5 x6 w = some q) : xk_X p l e { frames := 7, cells := 5, slots := 269, locals := 134 } s m args below meth c (MQ below (xk_Qi E q) args s 5 269 (xk_A E.2.2.1)) E 8 0 0 0 [(0, va_rf (x0)), (1, .int (x1)), (2, .int (x2)), (3, .int (x3)), (4, .int (x4)), (5, .int (x5)), (6, va_rf (x6))] [] w := by
  refine xk_aload hC dL_cue_0 6 rfl ?_
  refine xk_iconst (v := (0 : Int32)) hC dL_cue_2 (by decide) ?_
  refine xk_aload_n hC dL_cue_3 0 rfl rfl ?_
  refine xk_iload_n hC dL_cue_4 1 rfl rfl ?_
  refine xk_iload_n hC dL_cue_5 2 rfl rfl ?_
  refine xk_iload_n hC dL_cue_6 3 rfl rfl ?_
  refine xk_iload hC dL_cue_7 4 rfl ?_
  refine xk_iload hC dL_cue_9 5 rfl ?_
  obtain ⟨u2, h2, hf⟩ := xk_bi hf
  rcases xk_or_e hf with ⟨-, hf⟩ | ⟨q1, h1, hf⟩
  · skip
    obtain ⟨y3, hy3, hf⟩ := xk_bi hf
    by_cases c4 : y3.1 = 0
    · replace hf := (if_pos c4).symm.trans hf
      refine xk_catchX (x0 := ⟨0, 16, 23, 13⟩) hC (tableOf [(0, 16, 19, 28)]) (tableOf [(0, 16, 27, 15)]) (hX.trans rfl) c4 (xk_passc (Or.inr ⟨by decide, "java/lang/IndexOutOfBoundsException", hC.2.2.2.2.1 _ xm_618, xk_note56 hC⟩) xk_pass0) (by decide) (by decide) xm_541 (xk_note1 hC) (xk_callVX (av := [.int (x1), .int (x2), .int (x3), .int (x4), .int (x5)]) (rest := [.int ((0 : Int32)), va_rf (x6)]) hC 5 xc_0 (ce_X4_cue hl9 hy3) h2 xm_619 xm_620 xm_621 xm_1 xm_622 ⟨rfl, xd_X4_cue⟩ rfl ⟨Nat.le_of_ble_eq_true rfl, Nat.le_of_ble_eq_true rfl⟩ rfl (by simp [xk_cat1, xk_cati, xk_catl, xk_catd]) dL_cue_11 ⟨(Nat.le_of_ble_eq_true rfl), (Nat.le_of_ble_eq_true rfl)⟩) (fun a4 => ?_)
      refine xk_astore (i := 7) (lv' := [(7, va_rf (some a4)), (0, va_rf (x0)), (1, .int (x1)), (2, .int (x2)), (3, .int (x3)), (4, .int (x4)), (5, .int (x5)), (6, va_rf (x6))]) hC dL_cue_23 (by decide) (by simp [xk_cat1]) ?_
      refine xk_iconst (v := (2 : Int32)) hC dL_cue_25 (by decide) ?_
      cases hf
      refine xk_widen (k := 5) (n := 269) (Nat.le_of_ble_eq_true rfl) (Nat.le_of_ble_eq_true rfl) ?_
      exact xk_iret hC hr rfl dL_cue_26
    · replace hf := (if_neg c4).symm.trans hf
      by_cases c5 : y3.1 = 1
      · replace hf := (if_pos c5).symm.trans hf
        refine xk_catchX (x0 := ⟨0, 16, 27, 15⟩) hC (tableOf [(0, 16, 19, 28), (0, 16, 23, 13)]) (tableOf []) (hX.trans rfl) c5 (xk_passc (Or.inr ⟨by decide, "java/lang/IndexOutOfBoundsException", hC.2.2.2.2.1 _ xm_618, xk_note58 hC⟩) (xk_passc (Or.inr ⟨by decide, "java/lang/IllegalArgumentException", hC.2.2.2.2.1 _ xm_541, xk_note57 hC⟩) xk_pass0)) (by decide) (by decide) xm_542 (xk_note20 hC) (xk_callVX (av := [.int (x1), .int (x2), .int (x3), .int (x4), .int (x5)]) (rest := [.int ((0 : Int32)), va_rf (x6)]) hC 5 xc_0 (ce_X4_cue hl9 hy3) h2 xm_619 xm_620 xm_621 xm_1 xm_622 ⟨rfl, xd_X4_cue⟩ rfl ⟨Nat.le_of_ble_eq_true rfl, Nat.le_of_ble_eq_true rfl⟩ rfl (by simp [xk_cat1, xk_cati, xk_catl, xk_catd]) dL_cue_11 ⟨(Nat.le_of_ble_eq_true rfl), (Nat.le_of_ble_eq_true rfl)⟩) (fun a5 => ?_)
        refine xk_astore (i := 7) (lv' := [(7, va_rf (some a5)), (0, va_rf (x0)), (1, .int (x1)), (2, .int (x2)), (3, .int (x3)), (4, .int (x4)), (5, .int (x5)), (6, va_rf (x6))]) hC dL_cue_27 (by decide) (by simp [xk_cat1]) ?_
        refine xk_iconst (v := (3 : Int32)) hC dL_cue_29 (by decide) ?_
        cases hf
        refine xk_widen (k := 5) (n := 269) (Nat.le_of_ble_eq_true rfl) (Nat.le_of_ble_eq_true rfl) ?_
        exact xk_iret hC hr rfl dL_cue_30
      · replace hf := (if_neg c5).symm.trans hf
        by_cases c6 : y3.1 = 2
        · replace hf := (if_pos c6).symm.trans hf
          refine xk_catchX (x0 := ⟨0, 16, 19, 28⟩) hC (tableOf []) (tableOf [(0, 16, 23, 13), (0, 16, 27, 15)]) (hX.trans rfl) c6 xk_pass0 (by decide) (by decide) xm_618 (xk_note6 hC) (xk_callVX (av := [.int (x1), .int (x2), .int (x3), .int (x4), .int (x5)]) (rest := [.int ((0 : Int32)), va_rf (x6)]) hC 5 xc_0 (ce_X4_cue hl9 hy3) h2 xm_619 xm_620 xm_621 xm_1 xm_622 ⟨rfl, xd_X4_cue⟩ rfl ⟨Nat.le_of_ble_eq_true rfl, Nat.le_of_ble_eq_true rfl⟩ rfl (by simp [xk_cat1, xk_cati, xk_catl, xk_catd]) dL_cue_11 ⟨(Nat.le_of_ble_eq_true rfl), (Nat.le_of_ble_eq_true rfl)⟩) (fun a6 => ?_)
          refine xk_astore (i := 7) (lv' := [(7, va_rf (some a6)), (0, va_rf (x0)), (1, .int (x1)), (2, .int (x2)), (3, .int (x3)), (4, .int (x4)), (5, .int (x5)), (6, va_rf (x6))]) hC dL_cue_19 (by decide) (by simp [xk_cat1]) ?_
          refine xk_iconst (v := (1 : Int32)) hC dL_cue_21 (by decide) ?_
          cases hf
          refine xk_widen (k := 5) (n := 269) (Nat.le_of_ble_eq_true rfl) (Nat.le_of_ble_eq_true rfl) ?_
          exact xk_iret hC hr rfl dL_cue_22
        · replace hf := (if_neg c6).symm.trans hf
          cases hf
  refine xk_backi (xk_callV (av := [.int (x1), .int (x2), .int (x3), .int (x4), .int (x5)]) (rest := [.int ((0 : Int32)), va_rf (x6)]) hC 5 xc_0 (c_X4_cue h1) h2 xm_619 xm_620 xm_621 xm_1 xm_622 ⟨rfl, xd_X4_cue⟩ rfl ⟨Nat.le_of_ble_eq_true rfl, Nat.le_of_ble_eq_true rfl⟩ rfl (by simp [xk_cat1, xk_cati, xk_catl, xk_catd]) dL_cue_11 ⟨(Nat.le_of_ble_eq_true rfl), (Nat.le_of_ble_eq_true rfl)⟩) ?_
  refine xk_i2l hC dL_cue_14 ?_
  obtain ⟨w7, h7, hf⟩ := xk_bi hf
  refine xk_last hC rfl dL_cue_15 h7 ?_
  refine xk_goto (tgt := 31) hC dL_cue_16 (by decide) ?_
  refine xk_iconst (v := (0 : Int32)) hC dL_cue_31 (by decide) ?_
  cases hf
  refine xk_widen (k := 5) (n := 269) (Nat.le_of_ble_eq_true rfl) (Nat.le_of_ble_eq_true rfl) ?_
  exact xk_iret hC hr rfl dL_cue_32
theorem xd_L_cue : xy_L_cue.cls ≠ "java/lang/invoke/MethodHandle" ∧ xy_L_cue.cls ≠ "java/lang/invoke/VarHandle" ∧ (parseMethodDescriptor xy_L_cue.desc).map (fun d => d.parameters.length) = some 7 := ⟨by decide +kernel, by decide +kernel, by decide +kernel⟩
theorem c_L_cue {l : Launch} (hl9 : l.stackTraces = false) {E : xEv} {x0 : Option Nat} {x1 : Int32} {x2 : Int32} {x3 : Int32} {x4 : Int32} {x5 : Int32} {x6 : Option Nat} {w : xWd} {q : (Int32 × xWd)} (hf : f_L_cue x0 x1 x2 x3 x4 x5 x6 w = some q) : xk_MH l xy_L_cue method_6_code 8 (some .int) [(0, 16, 19, 28), (0, 16, 23, 13), (0, 16, 27, 15)] 7 134 5 269 E [va_rf (x0), .int (x1), .int (x2), .int (x3), .int (x4), .int (x5), va_rf (x6)] w (xk_Qi E q) := by
  refine xk_enterH (by decide +kernel) (by simp [lg_sl, xk_cat1, xk_cati, xk_catl, xk_catd]) ?_
  intro p e s m args below meth c hC hr hX ha
  rw [show lv_args 0 [va_rf (x0), .int (x1), .int (x2), .int (x3), .int (x4), .int (x5), va_rf (x6)] = [(0, va_rf (x0)), (1, .int (x1)), (2, .int (x2)), (3, .int (x3)), (4, .int (x4)), (5, .int (x5)), (6, va_rf (x6))] by simp [lv_args, xk_cat1, xk_cati, xk_catl, xk_catd]]
  exact t_L_cue_0 hC hr hX hl9 x0 x1 x2 x3 x4 x5 x6 w hf
def f_L_bar (x0 : Option Nat) (x1 : Int32) (x2 : Int32) (x3 : Int32) (x4 : Option Nat) (w : xWd) : Option (Int32 × xWd) := (xk_is w (x0) 0).bind (fun u2 => (e_X4_bar (x0) (x1) (x2) (x3) w).bind (fun y3 => if y3.1 = 0 then some ((2 : Int32), y3.2) else (if y3.1 = 1 then some ((3 : Int32), y3.2) else (if y3.1 = 2 then some ((1 : Int32), y3.2) else (none)))))
set_option maxHeartbeats 4000000 in
set_option maxRecDepth 100000 in
theorem t_L_bar_0 {p : Program} {l : Launch} {e : Env} {s : State} {m : MethodId} {args : Array Value} {below : List Frame} {meth : Method} {c : Code} {E : xEv} (hC : xk_C p s m args meth c E method_7_code "ClickbookLaw" 6) (hr : meth.sig.returnType = (some .int)) (hX : c.exceptionTable.toList = tableOf [(0, 12, 15, 28), (0, 12, 19, 13), (0, 12, 23, 15)]) (hl9 : l.stackTraces = false) {q : (Int32 × xWd)} (x0 : Option Nat) (x1 : Int32) (x2 : Int32) (x3 : Int32) (x4 : Option Nat) (w : xWd) (hf : f_L_bar x0 x1 x2 x3 x4 w = some q) : xk_X p l e { frames := 8, cells := 1, slots := 6, locals := 137 } s m args below meth c (MQ below (xk_Qi E q) args s 1 6 (xk_A E.2.2.1)) E 6 0 0 0 [(0, va_rf (x0)), (1, .int (x1)), (2, .int (x2)), (3, .int (x3)), (4, va_rf (x4))] [] w := by
  refine xk_aload hC dL_bar_0 4 rfl ?_
  refine xk_iconst (v := (0 : Int32)) hC dL_bar_2 (by decide) ?_
  refine xk_aload_n hC dL_bar_3 0 rfl rfl ?_
  refine xk_iload_n hC dL_bar_4 1 rfl rfl ?_
  refine xk_iload_n hC dL_bar_5 2 rfl rfl ?_
  refine xk_iload_n hC dL_bar_6 3 rfl rfl ?_
  obtain ⟨u2, h2, hf⟩ := xk_bi hf
  obtain ⟨y3, hy3, hf⟩ := xk_bi hf
  by_cases c4 : y3.1 = 0
  · replace hf := (if_pos c4).symm.trans hf
    refine xk_catchX (x0 := ⟨0, 12, 19, 13⟩) hC (tableOf [(0, 12, 15, 28)]) (tableOf [(0, 12, 23, 15)]) (hX.trans rfl) c4 (xk_passc (Or.inr ⟨by decide, "java/lang/IndexOutOfBoundsException", hC.2.2.2.2.1 _ xm_618, xk_note56 hC⟩) xk_pass0) (by decide) (by decide) xm_541 (xk_note1 hC) (xk_callVX (av := [.int (x1), .int (x2), .int (x3)]) (rest := [.int ((0 : Int32)), va_rf (x4)]) hC 3 xc_0 (ce_X4_bar hl9 hy3) h2 xm_690 xm_691 xm_692 xm_1 xm_693 ⟨rfl, xd_X4_bar⟩ rfl ⟨Nat.le_of_ble_eq_true rfl, Nat.le_of_ble_eq_true rfl⟩ rfl (by simp [xk_cat1, xk_cati, xk_catl, xk_catd]) dL_bar_7 ⟨(Nat.le_of_ble_eq_true rfl), (Nat.le_of_ble_eq_true rfl)⟩) (fun a4 => ?_)
    refine xk_astore (i := 5) (lv' := [(5, va_rf (some a4)), (0, va_rf (x0)), (1, .int (x1)), (2, .int (x2)), (3, .int (x3)), (4, va_rf (x4))]) hC dL_bar_19 (by decide) (by simp [xk_cat1]) ?_
    refine xk_iconst (v := (2 : Int32)) hC dL_bar_21 (by decide) ?_
    cases hf
    refine xk_widen (k := 1) (n := 6) (Nat.le_of_ble_eq_true rfl) (Nat.le_of_ble_eq_true rfl) ?_
    exact xk_iret hC hr rfl dL_bar_22
  · replace hf := (if_neg c4).symm.trans hf
    by_cases c5 : y3.1 = 1
    · replace hf := (if_pos c5).symm.trans hf
      refine xk_catchX (x0 := ⟨0, 12, 23, 15⟩) hC (tableOf [(0, 12, 15, 28), (0, 12, 19, 13)]) (tableOf []) (hX.trans rfl) c5 (xk_passc (Or.inr ⟨by decide, "java/lang/IndexOutOfBoundsException", hC.2.2.2.2.1 _ xm_618, xk_note58 hC⟩) (xk_passc (Or.inr ⟨by decide, "java/lang/IllegalArgumentException", hC.2.2.2.2.1 _ xm_541, xk_note57 hC⟩) xk_pass0)) (by decide) (by decide) xm_542 (xk_note20 hC) (xk_callVX (av := [.int (x1), .int (x2), .int (x3)]) (rest := [.int ((0 : Int32)), va_rf (x4)]) hC 3 xc_0 (ce_X4_bar hl9 hy3) h2 xm_690 xm_691 xm_692 xm_1 xm_693 ⟨rfl, xd_X4_bar⟩ rfl ⟨Nat.le_of_ble_eq_true rfl, Nat.le_of_ble_eq_true rfl⟩ rfl (by simp [xk_cat1, xk_cati, xk_catl, xk_catd]) dL_bar_7 ⟨(Nat.le_of_ble_eq_true rfl), (Nat.le_of_ble_eq_true rfl)⟩) (fun a5 => ?_)
      refine xk_astore (i := 5) (lv' := [(5, va_rf (some a5)), (0, va_rf (x0)), (1, .int (x1)), (2, .int (x2)), (3, .int (x3)), (4, va_rf (x4))]) hC dL_bar_23 (by decide) (by simp [xk_cat1]) ?_
      refine xk_iconst (v := (3 : Int32)) hC dL_bar_25 (by decide) ?_
      cases hf
      refine xk_widen (k := 1) (n := 6) (Nat.le_of_ble_eq_true rfl) (Nat.le_of_ble_eq_true rfl) ?_
      exact xk_iret hC hr rfl dL_bar_26
    · replace hf := (if_neg c5).symm.trans hf
      by_cases c6 : y3.1 = 2
      · replace hf := (if_pos c6).symm.trans hf
        refine xk_catchX (x0 := ⟨0, 12, 15, 28⟩) hC (tableOf []) (tableOf [(0, 12, 19, 13), (0, 12, 23, 15)]) (hX.trans rfl) c6 xk_pass0 (by decide) (by decide) xm_618 (xk_note6 hC) (xk_callVX (av := [.int (x1), .int (x2), .int (x3)]) (rest := [.int ((0 : Int32)), va_rf (x4)]) hC 3 xc_0 (ce_X4_bar hl9 hy3) h2 xm_690 xm_691 xm_692 xm_1 xm_693 ⟨rfl, xd_X4_bar⟩ rfl ⟨Nat.le_of_ble_eq_true rfl, Nat.le_of_ble_eq_true rfl⟩ rfl (by simp [xk_cat1, xk_cati, xk_catl, xk_catd]) dL_bar_7 ⟨(Nat.le_of_ble_eq_true rfl), (Nat.le_of_ble_eq_true rfl)⟩) (fun a6 => ?_)
        refine xk_astore (i := 5) (lv' := [(5, va_rf (some a6)), (0, va_rf (x0)), (1, .int (x1)), (2, .int (x2)), (3, .int (x3)), (4, va_rf (x4))]) hC dL_bar_15 (by decide) (by simp [xk_cat1]) ?_
        refine xk_iconst (v := (1 : Int32)) hC dL_bar_17 (by decide) ?_
        cases hf
        refine xk_widen (k := 1) (n := 6) (Nat.le_of_ble_eq_true rfl) (Nat.le_of_ble_eq_true rfl) ?_
        exact xk_iret hC hr rfl dL_bar_18
      · replace hf := (if_neg c6).symm.trans hf
        cases hf
theorem xd_L_bar : xy_L_bar.cls ≠ "java/lang/invoke/MethodHandle" ∧ xy_L_bar.cls ≠ "java/lang/invoke/VarHandle" ∧ (parseMethodDescriptor xy_L_bar.desc).map (fun d => d.parameters.length) = some 5 := ⟨by decide +kernel, by decide +kernel, by decide +kernel⟩
theorem c_L_bar {l : Launch} (hl9 : l.stackTraces = false) {E : xEv} {x0 : Option Nat} {x1 : Int32} {x2 : Int32} {x3 : Int32} {x4 : Option Nat} {w : xWd} {q : (Int32 × xWd)} (hf : f_L_bar x0 x1 x2 x3 x4 w = some q) : xk_MH l xy_L_bar method_7_code 6 (some .int) [(0, 12, 15, 28), (0, 12, 19, 13), (0, 12, 23, 15)] 8 137 1 6 E [va_rf (x0), .int (x1), .int (x2), .int (x3), va_rf (x4)] w (xk_Qi E q) := by
  refine xk_enterH (by decide +kernel) (by simp [lg_sl, xk_cat1, xk_cati, xk_catl, xk_catd]) ?_
  intro p e s m args below meth c hC hr hX ha
  rw [show lv_args 0 [va_rf (x0), .int (x1), .int (x2), .int (x3), va_rf (x4)] = [(0, va_rf (x0)), (1, .int (x1)), (2, .int (x2)), (3, .int (x3)), (4, va_rf (x4))] by simp [lv_args, xk_cat1, xk_cati, xk_catl, xk_catd]]
  exact t_L_bar_0 hC hr hX hl9 x0 x1 x2 x3 x4 w hf
def f_L_retime (x0 : Option Nat) (x1 : Int32) (x2 : Int32) (x3 : Int32) (x4 : Int32) (x5 : Option Nat) (w : xWd) : Option (Int32 × xWd) := (xk_is w (x0) 0).bind (fun u2 => (e_X4_retime (x0) (x1) (x2) (x3) (x4) w).bind (fun y3 => if y3.1 = 0 then some ((2 : Int32), y3.2) else (if y3.1 = 2 then some ((1 : Int32), y3.2) else (none))))
set_option maxHeartbeats 4000000 in
set_option maxRecDepth 100000 in
theorem t_L_retime_0 {p : Program} {l : Launch} {e : Env} {s : State} {m : MethodId} {args : Array Value} {below : List Frame} {meth : Method} {c : Code} {E : xEv} (hC : xk_C p s m args meth c E method_8_code "ClickbookLaw" 7) (hr : meth.sig.returnType = (some .int)) (hX : c.exceptionTable.toList = tableOf [(0, 14, 17, 28), (0, 14, 21, 13)]) (hl9 : l.stackTraces = false) {q : (Int32 × xWd)} (x0 : Option Nat) (x1 : Int32) (x2 : Int32) (x3 : Int32) (x4 : Int32) (x5 : Option Nat) (w : xWd) (hf : f_L_retime x0 x1 x2 x3 x4 x5 w = some q) : xk_X p l e { frames := 8, cells := 1, slots := 6, locals := 138 } s m args below meth c (MQ below (xk_Qi E q) args s 1 6 (xk_A E.2.2.1)) E 7 0 0 0 [(0, va_rf (x0)), (1, .int (x1)), (2, .int (x2)), (3, .int (x3)), (4, .int (x4)), (5, va_rf (x5))] [] w := by
  refine xk_aload hC dL_retime_0 5 rfl ?_
  refine xk_iconst (v := (0 : Int32)) hC dL_retime_2 (by decide) ?_
  refine xk_aload_n hC dL_retime_3 0 rfl rfl ?_
  refine xk_iload_n hC dL_retime_4 1 rfl rfl ?_
  refine xk_iload_n hC dL_retime_5 2 rfl rfl ?_
  refine xk_iload_n hC dL_retime_6 3 rfl rfl ?_
  refine xk_iload hC dL_retime_7 4 rfl ?_
  obtain ⟨u2, h2, hf⟩ := xk_bi hf
  obtain ⟨y3, hy3, hf⟩ := xk_bi hf
  by_cases c4 : y3.1 = 0
  · replace hf := (if_pos c4).symm.trans hf
    refine xk_catchX (x0 := ⟨0, 14, 21, 13⟩) hC (tableOf [(0, 14, 17, 28)]) (tableOf []) (hX.trans rfl) c4 (xk_passc (Or.inr ⟨by decide, "java/lang/IndexOutOfBoundsException", hC.2.2.2.2.1 _ xm_618, xk_note56 hC⟩) xk_pass0) (by decide) (by decide) xm_541 (xk_note1 hC) (xk_callVX (av := [.int (x1), .int (x2), .int (x3), .int (x4)]) (rest := [.int ((0 : Int32)), va_rf (x5)]) hC 4 xc_0 (ce_X4_retime hl9 hy3) h2 xm_714 xm_715 xm_716 xm_1 xm_717 ⟨rfl, xd_X4_retime⟩ rfl ⟨Nat.le_of_ble_eq_true rfl, Nat.le_of_ble_eq_true rfl⟩ rfl (by simp [xk_cat1, xk_cati, xk_catl, xk_catd]) dL_retime_9 ⟨(Nat.le_of_ble_eq_true rfl), (Nat.le_of_ble_eq_true rfl)⟩) (fun a4 => ?_)
    refine xk_astore (i := 6) (lv' := [(6, va_rf (some a4)), (0, va_rf (x0)), (1, .int (x1)), (2, .int (x2)), (3, .int (x3)), (4, .int (x4)), (5, va_rf (x5))]) hC dL_retime_21 (by decide) (by simp [xk_cat1]) ?_
    refine xk_iconst (v := (2 : Int32)) hC dL_retime_23 (by decide) ?_
    cases hf
    refine xk_widen (k := 1) (n := 6) (Nat.le_of_ble_eq_true rfl) (Nat.le_of_ble_eq_true rfl) ?_
    exact xk_iret hC hr rfl dL_retime_24
  · replace hf := (if_neg c4).symm.trans hf
    by_cases c5 : y3.1 = 2
    · replace hf := (if_pos c5).symm.trans hf
      refine xk_catchX (x0 := ⟨0, 14, 17, 28⟩) hC (tableOf []) (tableOf [(0, 14, 21, 13)]) (hX.trans rfl) c5 xk_pass0 (by decide) (by decide) xm_618 (xk_note6 hC) (xk_callVX (av := [.int (x1), .int (x2), .int (x3), .int (x4)]) (rest := [.int ((0 : Int32)), va_rf (x5)]) hC 4 xc_0 (ce_X4_retime hl9 hy3) h2 xm_714 xm_715 xm_716 xm_1 xm_717 ⟨rfl, xd_X4_retime⟩ rfl ⟨Nat.le_of_ble_eq_true rfl, Nat.le_of_ble_eq_true rfl⟩ rfl (by simp [xk_cat1, xk_cati, xk_catl, xk_catd]) dL_retime_9 ⟨(Nat.le_of_ble_eq_true rfl), (Nat.le_of_ble_eq_true rfl)⟩) (fun a5 => ?_)
      refine xk_astore (i := 6) (lv' := [(6, va_rf (some a5)), (0, va_rf (x0)), (1, .int (x1)), (2, .int (x2)), (3, .int (x3)), (4, .int (x4)), (5, va_rf (x5))]) hC dL_retime_17 (by decide) (by simp [xk_cat1]) ?_
      refine xk_iconst (v := (1 : Int32)) hC dL_retime_19 (by decide) ?_
      cases hf
      refine xk_widen (k := 1) (n := 6) (Nat.le_of_ble_eq_true rfl) (Nat.le_of_ble_eq_true rfl) ?_
      exact xk_iret hC hr rfl dL_retime_20
    · replace hf := (if_neg c5).symm.trans hf
      cases hf
theorem xd_L_retime : xy_L_retime.cls ≠ "java/lang/invoke/MethodHandle" ∧ xy_L_retime.cls ≠ "java/lang/invoke/VarHandle" ∧ (parseMethodDescriptor xy_L_retime.desc).map (fun d => d.parameters.length) = some 6 := ⟨by decide +kernel, by decide +kernel, by decide +kernel⟩
theorem c_L_retime {l : Launch} (hl9 : l.stackTraces = false) {E : xEv} {x0 : Option Nat} {x1 : Int32} {x2 : Int32} {x3 : Int32} {x4 : Int32} {x5 : Option Nat} {w : xWd} {q : (Int32 × xWd)} (hf : f_L_retime x0 x1 x2 x3 x4 x5 w = some q) : xk_MH l xy_L_retime method_8_code 7 (some .int) [(0, 14, 17, 28), (0, 14, 21, 13)] 8 138 1 6 E [va_rf (x0), .int (x1), .int (x2), .int (x3), .int (x4), va_rf (x5)] w (xk_Qi E q) := by
  refine xk_enterH (by decide +kernel) (by simp [lg_sl, xk_cat1, xk_cati, xk_catl, xk_catd]) ?_
  intro p e s m args below meth c hC hr hX ha
  rw [show lv_args 0 [va_rf (x0), .int (x1), .int (x2), .int (x3), .int (x4), va_rf (x5)] = [(0, va_rf (x0)), (1, .int (x1)), (2, .int (x2)), (3, .int (x3)), (4, .int (x4)), (5, va_rf (x5))] by simp [lv_args, xk_cat1, xk_cati, xk_catl, xk_catd]]
  exact t_L_retime_0 hC hr hX hl9 x0 x1 x2 x3 x4 x5 w hf
def f_L_shift (x0 : Option Nat) (x1 : Int32) (x2 : Int32) (x3 : Option Nat) (w : xWd) : Option (Int32 × xWd) := (xk_is w (x0) 0).bind (fun u2 => (e_X4_shift (x0) (x1) (x2) w).bind (fun y3 => if y3.1 = 0 then some ((2 : Int32), y3.2) else (if y3.1 = 2 then some ((1 : Int32), y3.2) else (none))))
set_option maxHeartbeats 4000000 in
set_option maxRecDepth 100000 in
theorem t_L_shift_0 {p : Program} {l : Launch} {e : Env} {s : State} {m : MethodId} {args : Array Value} {below : List Frame} {meth : Method} {c : Code} {E : xEv} (hC : xk_C p s m args meth c E method_9_code "ClickbookLaw" 5) (hr : meth.sig.returnType = (some .int)) (hX : c.exceptionTable.toList = tableOf [(0, 10, 13, 28), (0, 10, 17, 13)]) (hl9 : l.stackTraces = false) {q : (Int32 × xWd)} (x0 : Option Nat) (x1 : Int32) (x2 : Int32) (x3 : Option Nat) (w : xWd) (hf : f_L_shift x0 x1 x2 x3 w = some q) : xk_X p l e { frames := 8, cells := 1, slots := 6, locals := 136 } s m args below meth c (MQ below (xk_Qi E q) args s 1 6 (xk_A E.2.2.1)) E 5 0 0 0 [(0, va_rf (x0)), (1, .int (x1)), (2, .int (x2)), (3, va_rf (x3))] [] w := by
  refine xk_aload_n hC dL_shift_0 3 rfl rfl ?_
  refine xk_iconst (v := (0 : Int32)) hC dL_shift_1 (by decide) ?_
  refine xk_aload_n hC dL_shift_2 0 rfl rfl ?_
  refine xk_iload_n hC dL_shift_3 1 rfl rfl ?_
  refine xk_iload_n hC dL_shift_4 2 rfl rfl ?_
  obtain ⟨u2, h2, hf⟩ := xk_bi hf
  obtain ⟨y3, hy3, hf⟩ := xk_bi hf
  by_cases c4 : y3.1 = 0
  · replace hf := (if_pos c4).symm.trans hf
    refine xk_catchX (x0 := ⟨0, 10, 17, 13⟩) hC (tableOf [(0, 10, 13, 28)]) (tableOf []) (hX.trans rfl) c4 (xk_passc (Or.inr ⟨by decide, "java/lang/IndexOutOfBoundsException", hC.2.2.2.2.1 _ xm_618, xk_note56 hC⟩) xk_pass0) (by decide) (by decide) xm_541 (xk_note1 hC) (xk_callVX (av := [.int (x1), .int (x2)]) (rest := [.int ((0 : Int32)), va_rf (x3)]) hC 2 xc_0 (ce_X4_shift hl9 hy3) h2 xm_721 xm_722 xm_723 xm_1 xm_724 ⟨rfl, xd_X4_shift⟩ rfl ⟨Nat.le_of_ble_eq_true rfl, Nat.le_of_ble_eq_true rfl⟩ rfl (by simp [xk_cat1, xk_cati, xk_catl, xk_catd]) dL_shift_5 ⟨(Nat.le_of_ble_eq_true rfl), (Nat.le_of_ble_eq_true rfl)⟩) (fun a4 => ?_)
    refine xk_astore (i := 4) (lv' := [(4, va_rf (some a4)), (0, va_rf (x0)), (1, .int (x1)), (2, .int (x2)), (3, va_rf (x3))]) hC dL_shift_17 (by decide) (by simp [xk_cat1]) ?_
    refine xk_iconst (v := (2 : Int32)) hC dL_shift_19 (by decide) ?_
    cases hf
    refine xk_widen (k := 1) (n := 6) (Nat.le_of_ble_eq_true rfl) (Nat.le_of_ble_eq_true rfl) ?_
    exact xk_iret hC hr rfl dL_shift_20
  · replace hf := (if_neg c4).symm.trans hf
    by_cases c5 : y3.1 = 2
    · replace hf := (if_pos c5).symm.trans hf
      refine xk_catchX (x0 := ⟨0, 10, 13, 28⟩) hC (tableOf []) (tableOf [(0, 10, 17, 13)]) (hX.trans rfl) c5 xk_pass0 (by decide) (by decide) xm_618 (xk_note6 hC) (xk_callVX (av := [.int (x1), .int (x2)]) (rest := [.int ((0 : Int32)), va_rf (x3)]) hC 2 xc_0 (ce_X4_shift hl9 hy3) h2 xm_721 xm_722 xm_723 xm_1 xm_724 ⟨rfl, xd_X4_shift⟩ rfl ⟨Nat.le_of_ble_eq_true rfl, Nat.le_of_ble_eq_true rfl⟩ rfl (by simp [xk_cat1, xk_cati, xk_catl, xk_catd]) dL_shift_5 ⟨(Nat.le_of_ble_eq_true rfl), (Nat.le_of_ble_eq_true rfl)⟩) (fun a5 => ?_)
      refine xk_astore (i := 4) (lv' := [(4, va_rf (some a5)), (0, va_rf (x0)), (1, .int (x1)), (2, .int (x2)), (3, va_rf (x3))]) hC dL_shift_13 (by decide) (by simp [xk_cat1]) ?_
      refine xk_iconst (v := (1 : Int32)) hC dL_shift_15 (by decide) ?_
      cases hf
      refine xk_widen (k := 1) (n := 6) (Nat.le_of_ble_eq_true rfl) (Nat.le_of_ble_eq_true rfl) ?_
      exact xk_iret hC hr rfl dL_shift_16
    · replace hf := (if_neg c5).symm.trans hf
      cases hf
theorem xd_L_shift : xy_L_shift.cls ≠ "java/lang/invoke/MethodHandle" ∧ xy_L_shift.cls ≠ "java/lang/invoke/VarHandle" ∧ (parseMethodDescriptor xy_L_shift.desc).map (fun d => d.parameters.length) = some 4 := ⟨by decide +kernel, by decide +kernel, by decide +kernel⟩
theorem c_L_shift {l : Launch} (hl9 : l.stackTraces = false) {E : xEv} {x0 : Option Nat} {x1 : Int32} {x2 : Int32} {x3 : Option Nat} {w : xWd} {q : (Int32 × xWd)} (hf : f_L_shift x0 x1 x2 x3 w = some q) : xk_MH l xy_L_shift method_9_code 5 (some .int) [(0, 10, 13, 28), (0, 10, 17, 13)] 8 136 1 6 E [va_rf (x0), .int (x1), .int (x2), va_rf (x3)] w (xk_Qi E q) := by
  refine xk_enterH (by decide +kernel) (by simp [lg_sl, xk_cat1, xk_cati, xk_catl, xk_catd]) ?_
  intro p e s m args below meth c hC hr hX ha
  rw [show lv_args 0 [va_rf (x0), .int (x1), .int (x2), va_rf (x3)] = [(0, va_rf (x0)), (1, .int (x1)), (2, .int (x2)), (3, va_rf (x3))] by simp [lv_args, xk_cat1, xk_cati, xk_catl, xk_catd]]
  exact t_L_shift_0 hC hr hX hl9 x0 x1 x2 x3 w hf
def f_L_open (x0 : Option Nat) (x1 : Int32) (x2 : Option Nat) (w : xWd) : Option (Int32 × xWd) := (xk_is w (x0) 0).bind (fun u2 => xk_or (f_X4_open (x0) (x1) w) (fun q1 => (xk_sL q1.2 (x2) ((0 : Int32)) ((q1.1).toInt64)).bind (fun w6 => some ((0 : Int32), w6))) ((e_X4_open (x0) (x1) w).bind (fun y3 => if y3.1 = 0 then some ((1 : Int32), y3.2) else (if y3.1 = 1 then some ((2 : Int32), y3.2) else (none)))))
set_option maxHeartbeats 4000000 in
set_option maxRecDepth 100000 in
theorem t_L_open_0 {p : Program} {l : Launch} {e : Env} {s : State} {m : MethodId} {args : Array Value} {below : List Frame} {meth : Method} {c : Code} {E : xEv} (hC : xk_C p s m args meth c E method_10_code "ClickbookLaw" 4) (hr : meth.sig.returnType = (some .int)) (hX : c.exceptionTable.toList = tableOf [(0, 9, 12, 13), (0, 9, 15, 15)]) (hl9 : l.stackTraces = false) {q : (Int32 × xWd)} (x0 : Option Nat) (x1 : Int32) (x2 : Option Nat) (w : xWd) (hf : f_L_open x0 x1 x2 w = some q) : xk_X p l e { frames := 7, cells := 1, slots := 6, locals := 113 } s m args below meth c (MQ below (xk_Qi E q) args s 1 6 (xk_A E.2.2.1)) E 4 0 0 0 [(0, va_rf (x0)), (1, .int (x1)), (2, va_rf (x2))] [] w := by
  refine xk_aload_n hC dL_open_0 2 rfl rfl ?_
  refine xk_iconst (v := (0 : Int32)) hC dL_open_1 (by decide) ?_
  refine xk_aload_n hC dL_open_2 0 rfl rfl ?_
  refine xk_iload_n hC dL_open_3 1 rfl rfl ?_
  obtain ⟨u2, h2, hf⟩ := xk_bi hf
  rcases xk_or_e hf with ⟨-, hf⟩ | ⟨q1, h1, hf⟩
  · skip
    obtain ⟨y3, hy3, hf⟩ := xk_bi hf
    by_cases c4 : y3.1 = 0
    · replace hf := (if_pos c4).symm.trans hf
      refine xk_catchX (x0 := ⟨0, 9, 12, 13⟩) hC (tableOf []) (tableOf [(0, 9, 15, 15)]) (hX.trans rfl) c4 xk_pass0 (by decide) (by decide) xm_541 (xk_note1 hC) (xk_callVX (av := [.int (x1)]) (rest := [.int ((0 : Int32)), va_rf (x2)]) hC 1 xc_0 (ce_X4_open hl9 hy3) h2 xm_729 xm_730 xm_731 xm_1 xm_732 ⟨rfl, xd_X4_open⟩ rfl ⟨Nat.le_of_ble_eq_true rfl, Nat.le_of_ble_eq_true rfl⟩ rfl (by simp [xk_cat1, xk_cati, xk_catl, xk_catd]) dL_open_4 ⟨(Nat.le_of_ble_eq_true rfl), (Nat.le_of_ble_eq_true rfl)⟩) (fun a4 => ?_)
      refine xk_astore_n (i := 3) (lv' := [(3, va_rf (some a4)), (0, va_rf (x0)), (1, .int (x1)), (2, va_rf (x2))]) hC dL_open_12 rfl (by decide) (by simp [xk_cat1]) ?_
      refine xk_iconst (v := (1 : Int32)) hC dL_open_13 (by decide) ?_
      cases hf
      refine xk_widen (k := 1) (n := 6) (Nat.le_of_ble_eq_true rfl) (Nat.le_of_ble_eq_true rfl) ?_
      exact xk_iret hC hr rfl dL_open_14
    · replace hf := (if_neg c4).symm.trans hf
      by_cases c5 : y3.1 = 1
      · replace hf := (if_pos c5).symm.trans hf
        refine xk_catchX (x0 := ⟨0, 9, 15, 15⟩) hC (tableOf [(0, 9, 12, 13)]) (tableOf []) (hX.trans rfl) c5 (xk_passc (Or.inr ⟨by decide, "java/lang/IllegalArgumentException", hC.2.2.2.2.1 _ xm_541, xk_note57 hC⟩) xk_pass0) (by decide) (by decide) xm_542 (xk_note20 hC) (xk_callVX (av := [.int (x1)]) (rest := [.int ((0 : Int32)), va_rf (x2)]) hC 1 xc_0 (ce_X4_open hl9 hy3) h2 xm_729 xm_730 xm_731 xm_1 xm_732 ⟨rfl, xd_X4_open⟩ rfl ⟨Nat.le_of_ble_eq_true rfl, Nat.le_of_ble_eq_true rfl⟩ rfl (by simp [xk_cat1, xk_cati, xk_catl, xk_catd]) dL_open_4 ⟨(Nat.le_of_ble_eq_true rfl), (Nat.le_of_ble_eq_true rfl)⟩) (fun a5 => ?_)
        refine xk_astore_n (i := 3) (lv' := [(3, va_rf (some a5)), (0, va_rf (x0)), (1, .int (x1)), (2, va_rf (x2))]) hC dL_open_15 rfl (by decide) (by simp [xk_cat1]) ?_
        refine xk_iconst (v := (2 : Int32)) hC dL_open_16 (by decide) ?_
        cases hf
        refine xk_widen (k := 1) (n := 6) (Nat.le_of_ble_eq_true rfl) (Nat.le_of_ble_eq_true rfl) ?_
        exact xk_iret hC hr rfl dL_open_17
      · replace hf := (if_neg c5).symm.trans hf
        cases hf
  refine xk_backi (xk_callV (av := [.int (x1)]) (rest := [.int ((0 : Int32)), va_rf (x2)]) hC 1 xc_0 (c_X4_open h1) h2 xm_729 xm_730 xm_731 xm_1 xm_732 ⟨rfl, xd_X4_open⟩ rfl ⟨Nat.le_of_ble_eq_true rfl, Nat.le_of_ble_eq_true rfl⟩ rfl (by simp [xk_cat1, xk_cati, xk_catl, xk_catd]) dL_open_4 ⟨(Nat.le_of_ble_eq_true rfl), (Nat.le_of_ble_eq_true rfl)⟩) ?_
  refine xk_i2l hC dL_open_7 ?_
  obtain ⟨w6, h6, hf⟩ := xk_bi hf
  refine xk_last hC rfl dL_open_8 h6 ?_
  refine xk_goto (tgt := 18) hC dL_open_9 (by decide) ?_
  refine xk_iconst (v := (0 : Int32)) hC dL_open_18 (by decide) ?_
  cases hf
  refine xk_widen (k := 1) (n := 6) (Nat.le_of_ble_eq_true rfl) (Nat.le_of_ble_eq_true rfl) ?_
  exact xk_iret hC hr rfl dL_open_19
theorem xd_L_open : xy_L_open.cls ≠ "java/lang/invoke/MethodHandle" ∧ xy_L_open.cls ≠ "java/lang/invoke/VarHandle" ∧ (parseMethodDescriptor xy_L_open.desc).map (fun d => d.parameters.length) = some 3 := ⟨by decide +kernel, by decide +kernel, by decide +kernel⟩
theorem c_L_open {l : Launch} (hl9 : l.stackTraces = false) {E : xEv} {x0 : Option Nat} {x1 : Int32} {x2 : Option Nat} {w : xWd} {q : (Int32 × xWd)} (hf : f_L_open x0 x1 x2 w = some q) : xk_MH l xy_L_open method_10_code 4 (some .int) [(0, 9, 12, 13), (0, 9, 15, 15)] 7 113 1 6 E [va_rf (x0), .int (x1), va_rf (x2)] w (xk_Qi E q) := by
  refine xk_enterH (by decide +kernel) (by simp [lg_sl, xk_cat1, xk_cati, xk_catl, xk_catd]) ?_
  intro p e s m args below meth c hC hr hX ha
  rw [show lv_args 0 [va_rf (x0), .int (x1), va_rf (x2)] = [(0, va_rf (x0)), (1, .int (x1)), (2, va_rf (x2))] by simp [lv_args, xk_cat1, xk_cati, xk_catl, xk_catd]]
  exact t_L_open_0 hC hr hX hl9 x0 x1 x2 w hf
def f_L_take (x0 : Option Nat) (x1 : Int32) (x2 : Int32) (x3 : Int32) (x4 : Option Nat) (w : xWd) : Option (Int32 × xWd) := (xk_is w (x0) 0).bind (fun u2 => (e_X4_take (x0) (x1) (x2) (x3) w).bind (fun y3 => if y3.1 = 0 then some ((2 : Int32), y3.2) else (if y3.1 = 1 then some ((3 : Int32), y3.2) else (if y3.1 = 2 then some ((1 : Int32), y3.2) else (none)))))
set_option maxHeartbeats 4000000 in
set_option maxRecDepth 100000 in
theorem t_L_take_0 {p : Program} {l : Launch} {e : Env} {s : State} {m : MethodId} {args : Array Value} {below : List Frame} {meth : Method} {c : Code} {E : xEv} (hC : xk_C p s m args meth c E method_11_code "ClickbookLaw" 6) (hr : meth.sig.returnType = (some .int)) (hX : c.exceptionTable.toList = tableOf [(0, 12, 15, 28), (0, 12, 19, 13), (0, 12, 23, 15)]) (hl9 : l.stackTraces = false) {q : (Int32 × xWd)} (x0 : Option Nat) (x1 : Int32) (x2 : Int32) (x3 : Int32) (x4 : Option Nat) (w : xWd) (hf : f_L_take x0 x1 x2 x3 x4 w = some q) : xk_X p l e { frames := 8, cells := 1, slots := 6, locals := 138 } s m args below meth c (MQ below (xk_Qi E q) args s 1 6 (xk_A E.2.2.1)) E 6 0 0 0 [(0, va_rf (x0)), (1, .int (x1)), (2, .int (x2)), (3, .int (x3)), (4, va_rf (x4))] [] w := by
  refine xk_aload hC dL_take_0 4 rfl ?_
  refine xk_iconst (v := (0 : Int32)) hC dL_take_2 (by decide) ?_
  refine xk_aload_n hC dL_take_3 0 rfl rfl ?_
  refine xk_iload_n hC dL_take_4 1 rfl rfl ?_
  refine xk_iload_n hC dL_take_5 2 rfl rfl ?_
  refine xk_iload_n hC dL_take_6 3 rfl rfl ?_
  obtain ⟨u2, h2, hf⟩ := xk_bi hf
  obtain ⟨y3, hy3, hf⟩ := xk_bi hf
  by_cases c4 : y3.1 = 0
  · replace hf := (if_pos c4).symm.trans hf
    refine xk_catchX (x0 := ⟨0, 12, 19, 13⟩) hC (tableOf [(0, 12, 15, 28)]) (tableOf [(0, 12, 23, 15)]) (hX.trans rfl) c4 (xk_passc (Or.inr ⟨by decide, "java/lang/IndexOutOfBoundsException", hC.2.2.2.2.1 _ xm_618, xk_note56 hC⟩) xk_pass0) (by decide) (by decide) xm_541 (xk_note1 hC) (xk_callVX (av := [.int (x1), .int (x2), .int (x3)]) (rest := [.int ((0 : Int32)), va_rf (x4)]) hC 3 xc_0 (ce_X4_take hl9 hy3) h2 xm_738 xm_739 xm_740 xm_1 xm_741 ⟨rfl, xd_X4_take⟩ rfl ⟨Nat.le_of_ble_eq_true rfl, Nat.le_of_ble_eq_true rfl⟩ rfl (by simp [xk_cat1, xk_cati, xk_catl, xk_catd]) dL_take_7 ⟨(Nat.le_of_ble_eq_true rfl), (Nat.le_of_ble_eq_true rfl)⟩) (fun a4 => ?_)
    refine xk_astore (i := 5) (lv' := [(5, va_rf (some a4)), (0, va_rf (x0)), (1, .int (x1)), (2, .int (x2)), (3, .int (x3)), (4, va_rf (x4))]) hC dL_take_19 (by decide) (by simp [xk_cat1]) ?_
    refine xk_iconst (v := (2 : Int32)) hC dL_take_21 (by decide) ?_
    cases hf
    refine xk_widen (k := 1) (n := 6) (Nat.le_of_ble_eq_true rfl) (Nat.le_of_ble_eq_true rfl) ?_
    exact xk_iret hC hr rfl dL_take_22
  · replace hf := (if_neg c4).symm.trans hf
    by_cases c5 : y3.1 = 1
    · replace hf := (if_pos c5).symm.trans hf
      refine xk_catchX (x0 := ⟨0, 12, 23, 15⟩) hC (tableOf [(0, 12, 15, 28), (0, 12, 19, 13)]) (tableOf []) (hX.trans rfl) c5 (xk_passc (Or.inr ⟨by decide, "java/lang/IndexOutOfBoundsException", hC.2.2.2.2.1 _ xm_618, xk_note58 hC⟩) (xk_passc (Or.inr ⟨by decide, "java/lang/IllegalArgumentException", hC.2.2.2.2.1 _ xm_541, xk_note57 hC⟩) xk_pass0)) (by decide) (by decide) xm_542 (xk_note20 hC) (xk_callVX (av := [.int (x1), .int (x2), .int (x3)]) (rest := [.int ((0 : Int32)), va_rf (x4)]) hC 3 xc_0 (ce_X4_take hl9 hy3) h2 xm_738 xm_739 xm_740 xm_1 xm_741 ⟨rfl, xd_X4_take⟩ rfl ⟨Nat.le_of_ble_eq_true rfl, Nat.le_of_ble_eq_true rfl⟩ rfl (by simp [xk_cat1, xk_cati, xk_catl, xk_catd]) dL_take_7 ⟨(Nat.le_of_ble_eq_true rfl), (Nat.le_of_ble_eq_true rfl)⟩) (fun a5 => ?_)
      refine xk_astore (i := 5) (lv' := [(5, va_rf (some a5)), (0, va_rf (x0)), (1, .int (x1)), (2, .int (x2)), (3, .int (x3)), (4, va_rf (x4))]) hC dL_take_23 (by decide) (by simp [xk_cat1]) ?_
      refine xk_iconst (v := (3 : Int32)) hC dL_take_25 (by decide) ?_
      cases hf
      refine xk_widen (k := 1) (n := 6) (Nat.le_of_ble_eq_true rfl) (Nat.le_of_ble_eq_true rfl) ?_
      exact xk_iret hC hr rfl dL_take_26
    · replace hf := (if_neg c5).symm.trans hf
      by_cases c6 : y3.1 = 2
      · replace hf := (if_pos c6).symm.trans hf
        refine xk_catchX (x0 := ⟨0, 12, 15, 28⟩) hC (tableOf []) (tableOf [(0, 12, 19, 13), (0, 12, 23, 15)]) (hX.trans rfl) c6 xk_pass0 (by decide) (by decide) xm_618 (xk_note6 hC) (xk_callVX (av := [.int (x1), .int (x2), .int (x3)]) (rest := [.int ((0 : Int32)), va_rf (x4)]) hC 3 xc_0 (ce_X4_take hl9 hy3) h2 xm_738 xm_739 xm_740 xm_1 xm_741 ⟨rfl, xd_X4_take⟩ rfl ⟨Nat.le_of_ble_eq_true rfl, Nat.le_of_ble_eq_true rfl⟩ rfl (by simp [xk_cat1, xk_cati, xk_catl, xk_catd]) dL_take_7 ⟨(Nat.le_of_ble_eq_true rfl), (Nat.le_of_ble_eq_true rfl)⟩) (fun a6 => ?_)
        refine xk_astore (i := 5) (lv' := [(5, va_rf (some a6)), (0, va_rf (x0)), (1, .int (x1)), (2, .int (x2)), (3, .int (x3)), (4, va_rf (x4))]) hC dL_take_15 (by decide) (by simp [xk_cat1]) ?_
        refine xk_iconst (v := (1 : Int32)) hC dL_take_17 (by decide) ?_
        cases hf
        refine xk_widen (k := 1) (n := 6) (Nat.le_of_ble_eq_true rfl) (Nat.le_of_ble_eq_true rfl) ?_
        exact xk_iret hC hr rfl dL_take_18
      · replace hf := (if_neg c6).symm.trans hf
        cases hf
theorem xd_L_take : xy_L_take.cls ≠ "java/lang/invoke/MethodHandle" ∧ xy_L_take.cls ≠ "java/lang/invoke/VarHandle" ∧ (parseMethodDescriptor xy_L_take.desc).map (fun d => d.parameters.length) = some 5 := ⟨by decide +kernel, by decide +kernel, by decide +kernel⟩
theorem c_L_take {l : Launch} (hl9 : l.stackTraces = false) {E : xEv} {x0 : Option Nat} {x1 : Int32} {x2 : Int32} {x3 : Int32} {x4 : Option Nat} {w : xWd} {q : (Int32 × xWd)} (hf : f_L_take x0 x1 x2 x3 x4 w = some q) : xk_MH l xy_L_take method_11_code 6 (some .int) [(0, 12, 15, 28), (0, 12, 19, 13), (0, 12, 23, 15)] 8 138 1 6 E [va_rf (x0), .int (x1), .int (x2), .int (x3), va_rf (x4)] w (xk_Qi E q) := by
  refine xk_enterH (by decide +kernel) (by simp [lg_sl, xk_cat1, xk_cati, xk_catl, xk_catd]) ?_
  intro p e s m args below meth c hC hr hX ha
  rw [show lv_args 0 [va_rf (x0), .int (x1), .int (x2), .int (x3), va_rf (x4)] = [(0, va_rf (x0)), (1, .int (x1)), (2, .int (x2)), (3, .int (x3)), (4, va_rf (x4))] by simp [lv_args, xk_cat1, xk_cati, xk_catl, xk_catd]]
  exact t_L_take_0 hC hr hX hl9 x0 x1 x2 x3 x4 w hf
def f_L_close (x0 : Option Nat) (x1 : Option Nat) (w : xWd) : Option (Int32 × xWd) := (xk_is w (x0) 0).bind (fun u2 => xk_or (f_X4_close (x0)  w) (fun q1 => (xk_sL q1.2 (x1) ((0 : Int32)) ((q1.1).toInt64)).bind (fun w5 => some ((0 : Int32), w5))) ((e_X4_close (x0)  w).bind (fun y3 => if y3.1 = 1 then some ((1 : Int32), y3.2) else (none))))
set_option maxHeartbeats 4000000 in
set_option maxRecDepth 100000 in
theorem t_L_close_0 {p : Program} {l : Launch} {e : Env} {s : State} {m : MethodId} {args : Array Value} {below : List Frame} {meth : Method} {c : Code} {E : xEv} (hC : xk_C p s m args meth c E method_12_code "ClickbookLaw" 3) (hr : meth.sig.returnType = (some .int)) (hX : c.exceptionTable.toList = tableOf [(0, 8, 11, 15)]) (hl9 : l.stackTraces = false) {q : (Int32 × xWd)} (x0 : Option Nat) (x1 : Option Nat) (w : xWd) (hf : f_L_close x0 x1 w = some q) : xk_X p l e { frames := 7, cells := 1, slots := 6, locals := 115 } s m args below meth c (MQ below (xk_Qi E q) args s 1 6 (xk_A E.2.2.1)) E 3 0 0 0 [(0, va_rf (x0)), (1, va_rf (x1))] [] w := by
  refine xk_aload_n hC dL_close_0 1 rfl rfl ?_
  refine xk_iconst (v := (0 : Int32)) hC dL_close_1 (by decide) ?_
  refine xk_aload_n hC dL_close_2 0 rfl rfl ?_
  obtain ⟨u2, h2, hf⟩ := xk_bi hf
  rcases xk_or_e hf with ⟨-, hf⟩ | ⟨q1, h1, hf⟩
  · skip
    obtain ⟨y3, hy3, hf⟩ := xk_bi hf
    by_cases c4 : y3.1 = 1
    · replace hf := (if_pos c4).symm.trans hf
      refine xk_catchX (x0 := ⟨0, 8, 11, 15⟩) hC (tableOf []) (tableOf []) (hX.trans rfl) c4 xk_pass0 (by decide) (by decide) xm_542 (xk_note20 hC) (xk_callVX (av := []) (rest := [.int ((0 : Int32)), va_rf (x1)]) hC 0 xc_0 (ce_X4_close hl9 hy3) h2 xm_780 xm_781 xm_782 xm_1 xm_783 ⟨rfl, xd_X4_close⟩ rfl ⟨Nat.le_of_ble_eq_true rfl, Nat.le_of_ble_eq_true rfl⟩ rfl (by simp [xk_cat1, xk_cati, xk_catl, xk_catd]) dL_close_3 ⟨(Nat.le_of_ble_eq_true rfl), (Nat.le_of_ble_eq_true rfl)⟩) (fun a4 => ?_)
      refine xk_astore_n (i := 2) (lv' := [(2, va_rf (some a4)), (0, va_rf (x0)), (1, va_rf (x1))]) hC dL_close_11 rfl (by decide) (by simp [xk_cat1]) ?_
      refine xk_iconst (v := (1 : Int32)) hC dL_close_12 (by decide) ?_
      cases hf
      refine xk_widen (k := 1) (n := 6) (Nat.le_of_ble_eq_true rfl) (Nat.le_of_ble_eq_true rfl) ?_
      exact xk_iret hC hr rfl dL_close_13
    · replace hf := (if_neg c4).symm.trans hf
      cases hf
  refine xk_backi (xk_callV (av := []) (rest := [.int ((0 : Int32)), va_rf (x1)]) hC 0 xc_0 (c_X4_close h1) h2 xm_780 xm_781 xm_782 xm_1 xm_783 ⟨rfl, xd_X4_close⟩ rfl ⟨Nat.le_of_ble_eq_true rfl, Nat.le_of_ble_eq_true rfl⟩ rfl (by simp [xk_cat1, xk_cati, xk_catl, xk_catd]) dL_close_3 ⟨(Nat.le_of_ble_eq_true rfl), (Nat.le_of_ble_eq_true rfl)⟩) ?_
  refine xk_i2l hC dL_close_6 ?_
  obtain ⟨w5, h5, hf⟩ := xk_bi hf
  refine xk_last hC rfl dL_close_7 h5 ?_
  refine xk_goto (tgt := 14) hC dL_close_8 (by decide) ?_
  refine xk_iconst (v := (0 : Int32)) hC dL_close_14 (by decide) ?_
  cases hf
  refine xk_widen (k := 1) (n := 6) (Nat.le_of_ble_eq_true rfl) (Nat.le_of_ble_eq_true rfl) ?_
  exact xk_iret hC hr rfl dL_close_15
theorem xd_L_close : xy_L_close.cls ≠ "java/lang/invoke/MethodHandle" ∧ xy_L_close.cls ≠ "java/lang/invoke/VarHandle" ∧ (parseMethodDescriptor xy_L_close.desc).map (fun d => d.parameters.length) = some 2 := ⟨by decide +kernel, by decide +kernel, by decide +kernel⟩
theorem c_L_close {l : Launch} (hl9 : l.stackTraces = false) {E : xEv} {x0 : Option Nat} {x1 : Option Nat} {w : xWd} {q : (Int32 × xWd)} (hf : f_L_close x0 x1 w = some q) : xk_MH l xy_L_close method_12_code 3 (some .int) [(0, 8, 11, 15)] 7 115 1 6 E [va_rf (x0), va_rf (x1)] w (xk_Qi E q) := by
  refine xk_enterH (by decide +kernel) (by simp [lg_sl, xk_cat1, xk_cati, xk_catl, xk_catd]) ?_
  intro p e s m args below meth c hC hr hX ha
  rw [show lv_args 0 [va_rf (x0), va_rf (x1)] = [(0, va_rf (x0)), (1, va_rf (x1))] by simp [lv_args, xk_cat1, xk_cati, xk_catl, xk_catd]]
  exact t_L_close_0 hC hr hX hl9 x0 x1 w hf
def f_L_ofHit (x0 : Option Nat) (x1 : Int32) (x2 : Int32) (x3 : Option Nat) (w : xWd) : Option (Int32 × xWd) := (xk_is w (x0) 0).bind (fun u2 => (e_X4_ofHit (x0) (x1) (x2) w).bind (fun y3 => if y3.1 = 0 then some ((2 : Int32), y3.2) else (if y3.1 = 2 then some ((1 : Int32), y3.2) else (none))))
set_option maxHeartbeats 4000000 in
set_option maxRecDepth 100000 in
theorem t_L_ofHit_0 {p : Program} {l : Launch} {e : Env} {s : State} {m : MethodId} {args : Array Value} {below : List Frame} {meth : Method} {c : Code} {E : xEv} (hC : xk_C p s m args meth c E method_13_code "ClickbookLaw" 5) (hr : meth.sig.returnType = (some .int)) (hX : c.exceptionTable.toList = tableOf [(0, 10, 13, 28), (0, 10, 17, 13)]) (hl9 : l.stackTraces = false) {q : (Int32 × xWd)} (x0 : Option Nat) (x1 : Int32) (x2 : Int32) (x3 : Option Nat) (w : xWd) (hf : f_L_ofHit x0 x1 x2 x3 w = some q) : xk_X p l e { frames := 7, cells := 1, slots := 6, locals := 115 } s m args below meth c (MQ below (xk_Qi E q) args s 1 6 (xk_A E.2.2.1)) E 5 0 0 0 [(0, va_rf (x0)), (1, .int (x1)), (2, .int (x2)), (3, va_rf (x3))] [] w := by
  refine xk_aload_n hC dL_ofHit_0 3 rfl rfl ?_
  refine xk_iconst (v := (0 : Int32)) hC dL_ofHit_1 (by decide) ?_
  refine xk_aload_n hC dL_ofHit_2 0 rfl rfl ?_
  refine xk_iload_n hC dL_ofHit_3 1 rfl rfl ?_
  refine xk_iload_n hC dL_ofHit_4 2 rfl rfl ?_
  obtain ⟨u2, h2, hf⟩ := xk_bi hf
  obtain ⟨y3, hy3, hf⟩ := xk_bi hf
  by_cases c4 : y3.1 = 0
  · replace hf := (if_pos c4).symm.trans hf
    refine xk_catchX (x0 := ⟨0, 10, 17, 13⟩) hC (tableOf [(0, 10, 13, 28)]) (tableOf []) (hX.trans rfl) c4 (xk_passc (Or.inr ⟨by decide, "java/lang/IndexOutOfBoundsException", hC.2.2.2.2.1 _ xm_618, xk_note56 hC⟩) xk_pass0) (by decide) (by decide) xm_541 (xk_note1 hC) (xk_callVX (av := [.int (x1), .int (x2)]) (rest := [.int ((0 : Int32)), va_rf (x3)]) hC 2 xc_0 (ce_X4_ofHit hl9 hy3) h2 xm_789 xm_315 xm_316 xm_1 xm_317 ⟨rfl, xd_X4_ofHit⟩ rfl ⟨Nat.le_of_ble_eq_true rfl, Nat.le_of_ble_eq_true rfl⟩ rfl (by simp [xk_cat1, xk_cati, xk_catl, xk_catd]) dL_ofHit_5 ⟨(Nat.le_of_ble_eq_true rfl), (Nat.le_of_ble_eq_true rfl)⟩) (fun a4 => ?_)
    refine xk_astore (i := 4) (lv' := [(4, va_rf (some a4)), (0, va_rf (x0)), (1, .int (x1)), (2, .int (x2)), (3, va_rf (x3))]) hC dL_ofHit_17 (by decide) (by simp [xk_cat1]) ?_
    refine xk_iconst (v := (2 : Int32)) hC dL_ofHit_19 (by decide) ?_
    cases hf
    refine xk_widen (k := 1) (n := 6) (Nat.le_of_ble_eq_true rfl) (Nat.le_of_ble_eq_true rfl) ?_
    exact xk_iret hC hr rfl dL_ofHit_20
  · replace hf := (if_neg c4).symm.trans hf
    by_cases c5 : y3.1 = 2
    · replace hf := (if_pos c5).symm.trans hf
      refine xk_catchX (x0 := ⟨0, 10, 13, 28⟩) hC (tableOf []) (tableOf [(0, 10, 17, 13)]) (hX.trans rfl) c5 xk_pass0 (by decide) (by decide) xm_618 (xk_note6 hC) (xk_callVX (av := [.int (x1), .int (x2)]) (rest := [.int ((0 : Int32)), va_rf (x3)]) hC 2 xc_0 (ce_X4_ofHit hl9 hy3) h2 xm_789 xm_315 xm_316 xm_1 xm_317 ⟨rfl, xd_X4_ofHit⟩ rfl ⟨Nat.le_of_ble_eq_true rfl, Nat.le_of_ble_eq_true rfl⟩ rfl (by simp [xk_cat1, xk_cati, xk_catl, xk_catd]) dL_ofHit_5 ⟨(Nat.le_of_ble_eq_true rfl), (Nat.le_of_ble_eq_true rfl)⟩) (fun a5 => ?_)
      refine xk_astore (i := 4) (lv' := [(4, va_rf (some a5)), (0, va_rf (x0)), (1, .int (x1)), (2, .int (x2)), (3, va_rf (x3))]) hC dL_ofHit_13 (by decide) (by simp [xk_cat1]) ?_
      refine xk_iconst (v := (1 : Int32)) hC dL_ofHit_15 (by decide) ?_
      cases hf
      refine xk_widen (k := 1) (n := 6) (Nat.le_of_ble_eq_true rfl) (Nat.le_of_ble_eq_true rfl) ?_
      exact xk_iret hC hr rfl dL_ofHit_16
    · replace hf := (if_neg c5).symm.trans hf
      cases hf
theorem xd_L_ofHit : xy_L_ofHit.cls ≠ "java/lang/invoke/MethodHandle" ∧ xy_L_ofHit.cls ≠ "java/lang/invoke/VarHandle" ∧ (parseMethodDescriptor xy_L_ofHit.desc).map (fun d => d.parameters.length) = some 4 := ⟨by decide +kernel, by decide +kernel, by decide +kernel⟩
theorem c_L_ofHit {l : Launch} (hl9 : l.stackTraces = false) {E : xEv} {x0 : Option Nat} {x1 : Int32} {x2 : Int32} {x3 : Option Nat} {w : xWd} {q : (Int32 × xWd)} (hf : f_L_ofHit x0 x1 x2 x3 w = some q) : xk_MH l xy_L_ofHit method_13_code 5 (some .int) [(0, 10, 13, 28), (0, 10, 17, 13)] 7 115 1 6 E [va_rf (x0), .int (x1), .int (x2), va_rf (x3)] w (xk_Qi E q) := by
  refine xk_enterH (by decide +kernel) (by simp [lg_sl, xk_cat1, xk_cati, xk_catl, xk_catd]) ?_
  intro p e s m args below meth c hC hr hX ha
  rw [show lv_args 0 [va_rf (x0), .int (x1), .int (x2), va_rf (x3)] = [(0, va_rf (x0)), (1, .int (x1)), (2, .int (x2)), (3, va_rf (x3))] by simp [lv_args, xk_cat1, xk_cati, xk_catl, xk_catd]]
  exact t_L_ofHit_0 hC hr hX hl9 x0 x1 x2 x3 w hf
def f_L_ofCue (x0 : Option Nat) (x1 : Int32) (x2 : Int32) (x3 : Option Nat) (w : xWd) : Option (Int32 × xWd) := (xk_is w (x0) 0).bind (fun u2 => (e_X4_ofCue (x0) (x1) (x2) w).bind (fun y3 => if y3.1 = 0 then some ((2 : Int32), y3.2) else (if y3.1 = 2 then some ((1 : Int32), y3.2) else (none))))
set_option maxHeartbeats 4000000 in
set_option maxRecDepth 100000 in
theorem t_L_ofCue_0 {p : Program} {l : Launch} {e : Env} {s : State} {m : MethodId} {args : Array Value} {below : List Frame} {meth : Method} {c : Code} {E : xEv} (hC : xk_C p s m args meth c E method_14_code "ClickbookLaw" 5) (hr : meth.sig.returnType = (some .int)) (hX : c.exceptionTable.toList = tableOf [(0, 10, 13, 28), (0, 10, 17, 13)]) (hl9 : l.stackTraces = false) {q : (Int32 × xWd)} (x0 : Option Nat) (x1 : Int32) (x2 : Int32) (x3 : Option Nat) (w : xWd) (hf : f_L_ofCue x0 x1 x2 x3 w = some q) : xk_X p l e { frames := 8, cells := 1, slots := 6, locals := 136 } s m args below meth c (MQ below (xk_Qi E q) args s 1 6 (xk_A E.2.2.1)) E 5 0 0 0 [(0, va_rf (x0)), (1, .int (x1)), (2, .int (x2)), (3, va_rf (x3))] [] w := by
  refine xk_aload_n hC dL_ofCue_0 3 rfl rfl ?_
  refine xk_iconst (v := (0 : Int32)) hC dL_ofCue_1 (by decide) ?_
  refine xk_aload_n hC dL_ofCue_2 0 rfl rfl ?_
  refine xk_iload_n hC dL_ofCue_3 1 rfl rfl ?_
  refine xk_iload_n hC dL_ofCue_4 2 rfl rfl ?_
  obtain ⟨u2, h2, hf⟩ := xk_bi hf
  obtain ⟨y3, hy3, hf⟩ := xk_bi hf
  by_cases c4 : y3.1 = 0
  · replace hf := (if_pos c4).symm.trans hf
    refine xk_catchX (x0 := ⟨0, 10, 17, 13⟩) hC (tableOf [(0, 10, 13, 28)]) (tableOf []) (hX.trans rfl) c4 (xk_passc (Or.inr ⟨by decide, "java/lang/IndexOutOfBoundsException", hC.2.2.2.2.1 _ xm_618, xk_note56 hC⟩) xk_pass0) (by decide) (by decide) xm_541 (xk_note1 hC) (xk_callVX (av := [.int (x1), .int (x2)]) (rest := [.int ((0 : Int32)), va_rf (x3)]) hC 2 xc_0 (ce_X4_ofCue hl9 hy3) h2 xm_793 xm_365 xm_366 xm_1 xm_367 ⟨rfl, xd_X4_ofCue⟩ rfl ⟨Nat.le_of_ble_eq_true rfl, Nat.le_of_ble_eq_true rfl⟩ rfl (by simp [xk_cat1, xk_cati, xk_catl, xk_catd]) dL_ofCue_5 ⟨(Nat.le_of_ble_eq_true rfl), (Nat.le_of_ble_eq_true rfl)⟩) (fun a4 => ?_)
    refine xk_astore (i := 4) (lv' := [(4, va_rf (some a4)), (0, va_rf (x0)), (1, .int (x1)), (2, .int (x2)), (3, va_rf (x3))]) hC dL_ofCue_17 (by decide) (by simp [xk_cat1]) ?_
    refine xk_iconst (v := (2 : Int32)) hC dL_ofCue_19 (by decide) ?_
    cases hf
    refine xk_widen (k := 1) (n := 6) (Nat.le_of_ble_eq_true rfl) (Nat.le_of_ble_eq_true rfl) ?_
    exact xk_iret hC hr rfl dL_ofCue_20
  · replace hf := (if_neg c4).symm.trans hf
    by_cases c5 : y3.1 = 2
    · replace hf := (if_pos c5).symm.trans hf
      refine xk_catchX (x0 := ⟨0, 10, 13, 28⟩) hC (tableOf []) (tableOf [(0, 10, 17, 13)]) (hX.trans rfl) c5 xk_pass0 (by decide) (by decide) xm_618 (xk_note6 hC) (xk_callVX (av := [.int (x1), .int (x2)]) (rest := [.int ((0 : Int32)), va_rf (x3)]) hC 2 xc_0 (ce_X4_ofCue hl9 hy3) h2 xm_793 xm_365 xm_366 xm_1 xm_367 ⟨rfl, xd_X4_ofCue⟩ rfl ⟨Nat.le_of_ble_eq_true rfl, Nat.le_of_ble_eq_true rfl⟩ rfl (by simp [xk_cat1, xk_cati, xk_catl, xk_catd]) dL_ofCue_5 ⟨(Nat.le_of_ble_eq_true rfl), (Nat.le_of_ble_eq_true rfl)⟩) (fun a5 => ?_)
      refine xk_astore (i := 4) (lv' := [(4, va_rf (some a5)), (0, va_rf (x0)), (1, .int (x1)), (2, .int (x2)), (3, va_rf (x3))]) hC dL_ofCue_13 (by decide) (by simp [xk_cat1]) ?_
      refine xk_iconst (v := (1 : Int32)) hC dL_ofCue_15 (by decide) ?_
      cases hf
      refine xk_widen (k := 1) (n := 6) (Nat.le_of_ble_eq_true rfl) (Nat.le_of_ble_eq_true rfl) ?_
      exact xk_iret hC hr rfl dL_ofCue_16
    · replace hf := (if_neg c5).symm.trans hf
      cases hf
theorem xd_L_ofCue : xy_L_ofCue.cls ≠ "java/lang/invoke/MethodHandle" ∧ xy_L_ofCue.cls ≠ "java/lang/invoke/VarHandle" ∧ (parseMethodDescriptor xy_L_ofCue.desc).map (fun d => d.parameters.length) = some 4 := ⟨by decide +kernel, by decide +kernel, by decide +kernel⟩
theorem c_L_ofCue {l : Launch} (hl9 : l.stackTraces = false) {E : xEv} {x0 : Option Nat} {x1 : Int32} {x2 : Int32} {x3 : Option Nat} {w : xWd} {q : (Int32 × xWd)} (hf : f_L_ofCue x0 x1 x2 x3 w = some q) : xk_MH l xy_L_ofCue method_14_code 5 (some .int) [(0, 10, 13, 28), (0, 10, 17, 13)] 8 136 1 6 E [va_rf (x0), .int (x1), .int (x2), va_rf (x3)] w (xk_Qi E q) := by
  refine xk_enterH (by decide +kernel) (by simp [lg_sl, xk_cat1, xk_cati, xk_catl, xk_catd]) ?_
  intro p e s m args below meth c hC hr hX ha
  rw [show lv_args 0 [va_rf (x0), .int (x1), .int (x2), va_rf (x3)] = [(0, va_rf (x0)), (1, .int (x1)), (2, .int (x2)), (3, va_rf (x3))] by simp [lv_args, xk_cat1, xk_cati, xk_catl, xk_catd]]
  exact t_L_ofCue_0 hC hr hX hl9 x0 x1 x2 x3 w hf
def f_L_ofBar (x0 : Option Nat) (x1 : Int32) (x2 : Int32) (x3 : Int32) (x4 : Option Nat) (w : xWd) : Option (Int32 × xWd) := (xk_is w (x0) 0).bind (fun u2 => (e_X4_ofBar (x0) (x1) (x2) (x3) w).bind (fun y3 => if y3.1 = 0 then some ((2 : Int32), y3.2) else (if y3.1 = 2 then some ((1 : Int32), y3.2) else (none))))
set_option maxHeartbeats 4000000 in
set_option maxRecDepth 100000 in
theorem t_L_ofBar_0 {p : Program} {l : Launch} {e : Env} {s : State} {m : MethodId} {args : Array Value} {below : List Frame} {meth : Method} {c : Code} {E : xEv} (hC : xk_C p s m args meth c E method_15_code "ClickbookLaw" 6) (hr : meth.sig.returnType = (some .int)) (hX : c.exceptionTable.toList = tableOf [(0, 12, 15, 28), (0, 12, 19, 13)]) (hl9 : l.stackTraces = false) {q : (Int32 × xWd)} (x0 : Option Nat) (x1 : Int32) (x2 : Int32) (x3 : Int32) (x4 : Option Nat) (w : xWd) (hf : f_L_ofBar x0 x1 x2 x3 x4 w = some q) : xk_X p l e { frames := 8, cells := 1, slots := 6, locals := 137 } s m args below meth c (MQ below (xk_Qi E q) args s 1 6 (xk_A E.2.2.1)) E 6 0 0 0 [(0, va_rf (x0)), (1, .int (x1)), (2, .int (x2)), (3, .int (x3)), (4, va_rf (x4))] [] w := by
  refine xk_aload hC dL_ofBar_0 4 rfl ?_
  refine xk_iconst (v := (0 : Int32)) hC dL_ofBar_2 (by decide) ?_
  refine xk_aload_n hC dL_ofBar_3 0 rfl rfl ?_
  refine xk_iload_n hC dL_ofBar_4 1 rfl rfl ?_
  refine xk_iload_n hC dL_ofBar_5 2 rfl rfl ?_
  refine xk_iload_n hC dL_ofBar_6 3 rfl rfl ?_
  obtain ⟨u2, h2, hf⟩ := xk_bi hf
  obtain ⟨y3, hy3, hf⟩ := xk_bi hf
  by_cases c4 : y3.1 = 0
  · replace hf := (if_pos c4).symm.trans hf
    refine xk_catchX (x0 := ⟨0, 12, 19, 13⟩) hC (tableOf [(0, 12, 15, 28)]) (tableOf []) (hX.trans rfl) c4 (xk_passc (Or.inr ⟨by decide, "java/lang/IndexOutOfBoundsException", hC.2.2.2.2.1 _ xm_618, xk_note56 hC⟩) xk_pass0) (by decide) (by decide) xm_541 (xk_note1 hC) (xk_callVX (av := [.int (x1), .int (x2), .int (x3)]) (rest := [.int ((0 : Int32)), va_rf (x4)]) hC 3 xc_0 (ce_X4_ofBar hl9 hy3) h2 xm_797 xm_470 xm_471 xm_1 xm_472 ⟨rfl, xd_X4_ofBar⟩ rfl ⟨Nat.le_of_ble_eq_true rfl, Nat.le_of_ble_eq_true rfl⟩ rfl (by simp [xk_cat1, xk_cati, xk_catl, xk_catd]) dL_ofBar_7 ⟨(Nat.le_of_ble_eq_true rfl), (Nat.le_of_ble_eq_true rfl)⟩) (fun a4 => ?_)
    refine xk_astore (i := 5) (lv' := [(5, va_rf (some a4)), (0, va_rf (x0)), (1, .int (x1)), (2, .int (x2)), (3, .int (x3)), (4, va_rf (x4))]) hC dL_ofBar_19 (by decide) (by simp [xk_cat1]) ?_
    refine xk_iconst (v := (2 : Int32)) hC dL_ofBar_21 (by decide) ?_
    cases hf
    refine xk_widen (k := 1) (n := 6) (Nat.le_of_ble_eq_true rfl) (Nat.le_of_ble_eq_true rfl) ?_
    exact xk_iret hC hr rfl dL_ofBar_22
  · replace hf := (if_neg c4).symm.trans hf
    by_cases c5 : y3.1 = 2
    · replace hf := (if_pos c5).symm.trans hf
      refine xk_catchX (x0 := ⟨0, 12, 15, 28⟩) hC (tableOf []) (tableOf [(0, 12, 19, 13)]) (hX.trans rfl) c5 xk_pass0 (by decide) (by decide) xm_618 (xk_note6 hC) (xk_callVX (av := [.int (x1), .int (x2), .int (x3)]) (rest := [.int ((0 : Int32)), va_rf (x4)]) hC 3 xc_0 (ce_X4_ofBar hl9 hy3) h2 xm_797 xm_470 xm_471 xm_1 xm_472 ⟨rfl, xd_X4_ofBar⟩ rfl ⟨Nat.le_of_ble_eq_true rfl, Nat.le_of_ble_eq_true rfl⟩ rfl (by simp [xk_cat1, xk_cati, xk_catl, xk_catd]) dL_ofBar_7 ⟨(Nat.le_of_ble_eq_true rfl), (Nat.le_of_ble_eq_true rfl)⟩) (fun a5 => ?_)
      refine xk_astore (i := 5) (lv' := [(5, va_rf (some a5)), (0, va_rf (x0)), (1, .int (x1)), (2, .int (x2)), (3, .int (x3)), (4, va_rf (x4))]) hC dL_ofBar_15 (by decide) (by simp [xk_cat1]) ?_
      refine xk_iconst (v := (1 : Int32)) hC dL_ofBar_17 (by decide) ?_
      cases hf
      refine xk_widen (k := 1) (n := 6) (Nat.le_of_ble_eq_true rfl) (Nat.le_of_ble_eq_true rfl) ?_
      exact xk_iret hC hr rfl dL_ofBar_18
    · replace hf := (if_neg c5).symm.trans hf
      cases hf
theorem xd_L_ofBar : xy_L_ofBar.cls ≠ "java/lang/invoke/MethodHandle" ∧ xy_L_ofBar.cls ≠ "java/lang/invoke/VarHandle" ∧ (parseMethodDescriptor xy_L_ofBar.desc).map (fun d => d.parameters.length) = some 5 := ⟨by decide +kernel, by decide +kernel, by decide +kernel⟩
theorem c_L_ofBar {l : Launch} (hl9 : l.stackTraces = false) {E : xEv} {x0 : Option Nat} {x1 : Int32} {x2 : Int32} {x3 : Int32} {x4 : Option Nat} {w : xWd} {q : (Int32 × xWd)} (hf : f_L_ofBar x0 x1 x2 x3 x4 w = some q) : xk_MH l xy_L_ofBar method_15_code 6 (some .int) [(0, 12, 15, 28), (0, 12, 19, 13)] 8 137 1 6 E [va_rf (x0), .int (x1), .int (x2), .int (x3), va_rf (x4)] w (xk_Qi E q) := by
  refine xk_enterH (by decide +kernel) (by simp [lg_sl, xk_cat1, xk_cati, xk_catl, xk_catd]) ?_
  intro p e s m args below meth c hC hr hX ha
  rw [show lv_args 0 [va_rf (x0), .int (x1), .int (x2), .int (x3), va_rf (x4)] = [(0, va_rf (x0)), (1, .int (x1)), (2, .int (x2)), (3, .int (x3)), (4, va_rf (x4))] by simp [lv_args, xk_cat1, xk_cati, xk_catl, xk_catd]]
  exact t_L_ofBar_0 hC hr hX hl9 x0 x1 x2 x3 x4 w hf
def f_L_beat (x0 : Option Nat) (x1 : Int32) (x2 : Int32) (x3 : Option Nat) (w : xWd) : Option (Int32 × xWd) := (xk_is w (x0) 0).bind (fun u2 => (e_X4_beat (x0) (x1) (x2) w).bind (fun y3 => if y3.1 = 2 then some ((1 : Int32), y3.2) else (none)))
set_option maxHeartbeats 4000000 in
set_option maxRecDepth 100000 in
theorem t_L_beat_0 {p : Program} {l : Launch} {e : Env} {s : State} {m : MethodId} {args : Array Value} {below : List Frame} {meth : Method} {c : Code} {E : xEv} (hC : xk_C p s m args meth c E method_16_code "ClickbookLaw" 5) (hr : meth.sig.returnType = (some .int)) (hX : c.exceptionTable.toList = tableOf [(0, 10, 13, 28)]) (hl9 : l.stackTraces = false) {q : (Int32 × xWd)} (x0 : Option Nat) (x1 : Int32) (x2 : Int32) (x3 : Option Nat) (w : xWd) (hf : f_L_beat x0 x1 x2 x3 w = some q) : xk_X p l e { frames := 8, cells := 1, slots := 6, locals := 136 } s m args below meth c (MQ below (xk_Qi E q) args s 1 6 (xk_A E.2.2.1)) E 5 0 0 0 [(0, va_rf (x0)), (1, .int (x1)), (2, .int (x2)), (3, va_rf (x3))] [] w := by
  refine xk_aload_n hC dL_beat_0 3 rfl rfl ?_
  refine xk_iconst (v := (0 : Int32)) hC dL_beat_1 (by decide) ?_
  refine xk_aload_n hC dL_beat_2 0 rfl rfl ?_
  refine xk_iload_n hC dL_beat_3 1 rfl rfl ?_
  refine xk_iload_n hC dL_beat_4 2 rfl rfl ?_
  obtain ⟨u2, h2, hf⟩ := xk_bi hf
  obtain ⟨y3, hy3, hf⟩ := xk_bi hf
  by_cases c4 : y3.1 = 2
  · replace hf := (if_pos c4).symm.trans hf
    refine xk_catchX (x0 := ⟨0, 10, 13, 28⟩) hC (tableOf []) (tableOf []) (hX.trans rfl) c4 xk_pass0 (by decide) (by decide) xm_618 (xk_note6 hC) (xk_callVX (av := [.int (x1), .int (x2)]) (rest := [.int ((0 : Int32)), va_rf (x3)]) hC 2 xc_0 (ce_X4_beat hl9 hy3) h2 xm_801 xm_802 xm_803 xm_1 xm_804 ⟨rfl, xd_X4_beat⟩ rfl ⟨Nat.le_of_ble_eq_true rfl, Nat.le_of_ble_eq_true rfl⟩ rfl (by simp [xk_cat1, xk_cati, xk_catl, xk_catd]) dL_beat_5 ⟨(Nat.le_of_ble_eq_true rfl), (Nat.le_of_ble_eq_true rfl)⟩) (fun a4 => ?_)
    refine xk_astore (i := 4) (lv' := [(4, va_rf (some a4)), (0, va_rf (x0)), (1, .int (x1)), (2, .int (x2)), (3, va_rf (x3))]) hC dL_beat_13 (by decide) (by simp [xk_cat1]) ?_
    refine xk_iconst (v := (1 : Int32)) hC dL_beat_15 (by decide) ?_
    cases hf
    refine xk_widen (k := 1) (n := 6) (Nat.le_of_ble_eq_true rfl) (Nat.le_of_ble_eq_true rfl) ?_
    exact xk_iret hC hr rfl dL_beat_16
  · replace hf := (if_neg c4).symm.trans hf
    cases hf
theorem xd_L_beat : xy_L_beat.cls ≠ "java/lang/invoke/MethodHandle" ∧ xy_L_beat.cls ≠ "java/lang/invoke/VarHandle" ∧ (parseMethodDescriptor xy_L_beat.desc).map (fun d => d.parameters.length) = some 4 := ⟨by decide +kernel, by decide +kernel, by decide +kernel⟩
theorem c_L_beat {l : Launch} (hl9 : l.stackTraces = false) {E : xEv} {x0 : Option Nat} {x1 : Int32} {x2 : Int32} {x3 : Option Nat} {w : xWd} {q : (Int32 × xWd)} (hf : f_L_beat x0 x1 x2 x3 w = some q) : xk_MH l xy_L_beat method_16_code 5 (some .int) [(0, 10, 13, 28)] 8 136 1 6 E [va_rf (x0), .int (x1), .int (x2), va_rf (x3)] w (xk_Qi E q) := by
  refine xk_enterH (by decide +kernel) (by simp [lg_sl, xk_cat1, xk_cati, xk_catl, xk_catd]) ?_
  intro p e s m args below meth c hC hr hX ha
  rw [show lv_args 0 [va_rf (x0), .int (x1), .int (x2), va_rf (x3)] = [(0, va_rf (x0)), (1, .int (x1)), (2, .int (x2)), (3, va_rf (x3))] by simp [lv_args, xk_cat1, xk_cati, xk_catl, xk_catd]]
  exact t_L_beat_0 hC hr hX hl9 x0 x1 x2 x3 w hf
def f_L_ofTake (x0 : Option Nat) (x1 : Int32) (x2 : Int32) (x3 : Option Nat) (w : xWd) : Option (Int32 × xWd) := (xk_is w (x0) 0).bind (fun u2 => (e_X4_ofTake (x0) (x1) (x2) w).bind (fun y3 => if y3.1 = 0 then some ((2 : Int32), y3.2) else (if y3.1 = 2 then some ((1 : Int32), y3.2) else (none))))
set_option maxHeartbeats 4000000 in
set_option maxRecDepth 100000 in
theorem t_L_ofTake_0 {p : Program} {l : Launch} {e : Env} {s : State} {m : MethodId} {args : Array Value} {below : List Frame} {meth : Method} {c : Code} {E : xEv} (hC : xk_C p s m args meth c E method_17_code "ClickbookLaw" 5) (hr : meth.sig.returnType = (some .int)) (hX : c.exceptionTable.toList = tableOf [(0, 10, 13, 28), (0, 10, 17, 13)]) (hl9 : l.stackTraces = false) {q : (Int32 × xWd)} (x0 : Option Nat) (x1 : Int32) (x2 : Int32) (x3 : Option Nat) (w : xWd) (hf : f_L_ofTake x0 x1 x2 x3 w = some q) : xk_X p l e { frames := 7, cells := 1, slots := 6, locals := 115 } s m args below meth c (MQ below (xk_Qi E q) args s 1 6 (xk_A E.2.2.1)) E 5 0 0 0 [(0, va_rf (x0)), (1, .int (x1)), (2, .int (x2)), (3, va_rf (x3))] [] w := by
  refine xk_aload_n hC dL_ofTake_0 3 rfl rfl ?_
  refine xk_iconst (v := (0 : Int32)) hC dL_ofTake_1 (by decide) ?_
  refine xk_aload_n hC dL_ofTake_2 0 rfl rfl ?_
  refine xk_iload_n hC dL_ofTake_3 1 rfl rfl ?_
  refine xk_iload_n hC dL_ofTake_4 2 rfl rfl ?_
  obtain ⟨u2, h2, hf⟩ := xk_bi hf
  obtain ⟨y3, hy3, hf⟩ := xk_bi hf
  by_cases c4 : y3.1 = 0
  · replace hf := (if_pos c4).symm.trans hf
    refine xk_catchX (x0 := ⟨0, 10, 17, 13⟩) hC (tableOf [(0, 10, 13, 28)]) (tableOf []) (hX.trans rfl) c4 (xk_passc (Or.inr ⟨by decide, "java/lang/IndexOutOfBoundsException", hC.2.2.2.2.1 _ xm_618, xk_note56 hC⟩) xk_pass0) (by decide) (by decide) xm_541 (xk_note1 hC) (xk_callVX (av := [.int (x1), .int (x2)]) (rest := [.int ((0 : Int32)), va_rf (x3)]) hC 2 xc_0 (ce_X4_ofTake hl9 hy3) h2 xm_809 xm_492 xm_493 xm_1 xm_494 ⟨rfl, xd_X4_ofTake⟩ rfl ⟨Nat.le_of_ble_eq_true rfl, Nat.le_of_ble_eq_true rfl⟩ rfl (by simp [xk_cat1, xk_cati, xk_catl, xk_catd]) dL_ofTake_5 ⟨(Nat.le_of_ble_eq_true rfl), (Nat.le_of_ble_eq_true rfl)⟩) (fun a4 => ?_)
    refine xk_astore (i := 4) (lv' := [(4, va_rf (some a4)), (0, va_rf (x0)), (1, .int (x1)), (2, .int (x2)), (3, va_rf (x3))]) hC dL_ofTake_17 (by decide) (by simp [xk_cat1]) ?_
    refine xk_iconst (v := (2 : Int32)) hC dL_ofTake_19 (by decide) ?_
    cases hf
    refine xk_widen (k := 1) (n := 6) (Nat.le_of_ble_eq_true rfl) (Nat.le_of_ble_eq_true rfl) ?_
    exact xk_iret hC hr rfl dL_ofTake_20
  · replace hf := (if_neg c4).symm.trans hf
    by_cases c5 : y3.1 = 2
    · replace hf := (if_pos c5).symm.trans hf
      refine xk_catchX (x0 := ⟨0, 10, 13, 28⟩) hC (tableOf []) (tableOf [(0, 10, 17, 13)]) (hX.trans rfl) c5 xk_pass0 (by decide) (by decide) xm_618 (xk_note6 hC) (xk_callVX (av := [.int (x1), .int (x2)]) (rest := [.int ((0 : Int32)), va_rf (x3)]) hC 2 xc_0 (ce_X4_ofTake hl9 hy3) h2 xm_809 xm_492 xm_493 xm_1 xm_494 ⟨rfl, xd_X4_ofTake⟩ rfl ⟨Nat.le_of_ble_eq_true rfl, Nat.le_of_ble_eq_true rfl⟩ rfl (by simp [xk_cat1, xk_cati, xk_catl, xk_catd]) dL_ofTake_5 ⟨(Nat.le_of_ble_eq_true rfl), (Nat.le_of_ble_eq_true rfl)⟩) (fun a5 => ?_)
      refine xk_astore (i := 4) (lv' := [(4, va_rf (some a5)), (0, va_rf (x0)), (1, .int (x1)), (2, .int (x2)), (3, va_rf (x3))]) hC dL_ofTake_13 (by decide) (by simp [xk_cat1]) ?_
      refine xk_iconst (v := (1 : Int32)) hC dL_ofTake_15 (by decide) ?_
      cases hf
      refine xk_widen (k := 1) (n := 6) (Nat.le_of_ble_eq_true rfl) (Nat.le_of_ble_eq_true rfl) ?_
      exact xk_iret hC hr rfl dL_ofTake_16
    · replace hf := (if_neg c5).symm.trans hf
      cases hf
theorem xd_L_ofTake : xy_L_ofTake.cls ≠ "java/lang/invoke/MethodHandle" ∧ xy_L_ofTake.cls ≠ "java/lang/invoke/VarHandle" ∧ (parseMethodDescriptor xy_L_ofTake.desc).map (fun d => d.parameters.length) = some 4 := ⟨by decide +kernel, by decide +kernel, by decide +kernel⟩
theorem c_L_ofTake {l : Launch} (hl9 : l.stackTraces = false) {E : xEv} {x0 : Option Nat} {x1 : Int32} {x2 : Int32} {x3 : Option Nat} {w : xWd} {q : (Int32 × xWd)} (hf : f_L_ofTake x0 x1 x2 x3 w = some q) : xk_MH l xy_L_ofTake method_17_code 5 (some .int) [(0, 10, 13, 28), (0, 10, 17, 13)] 7 115 1 6 E [va_rf (x0), .int (x1), .int (x2), va_rf (x3)] w (xk_Qi E q) := by
  refine xk_enterH (by decide +kernel) (by simp [lg_sl, xk_cat1, xk_cati, xk_catl, xk_catd]) ?_
  intro p e s m args below meth c hC hr hX ha
  rw [show lv_args 0 [va_rf (x0), .int (x1), .int (x2), va_rf (x3)] = [(0, va_rf (x0)), (1, .int (x1)), (2, .int (x2)), (3, va_rf (x3))] by simp [lv_args, xk_cat1, xk_cati, xk_catl, xk_catd]]
  exact t_L_ofTake_0 hC hr hX hl9 x0 x1 x2 x3 w hf
def f_L_sheet (x0 : Option Nat) (x1 : Int32) (x2 : Option Nat) (w : xWd) : Option (Int32 × xWd) := (xk_is w (x0) 0).bind (fun u2 => xk_or (f_X4_sheet (x0) (x1) w) (fun q1 => (xk_sL q1.2 (x2) ((0 : Int32)) ((q1.1).toInt64)).bind (fun w5 => some ((0 : Int32), w5))) ((e_X4_sheet (x0) (x1) w).bind (fun y3 => if y3.1 = 2 then some ((1 : Int32), y3.2) else (none))))
set_option maxHeartbeats 4000000 in
set_option maxRecDepth 100000 in
theorem t_L_sheet_0 {p : Program} {l : Launch} {e : Env} {s : State} {m : MethodId} {args : Array Value} {below : List Frame} {meth : Method} {c : Code} {E : xEv} (hC : xk_C p s m args meth c E method_18_code "ClickbookLaw" 4) (hr : meth.sig.returnType = (some .int)) (hX : c.exceptionTable.toList = tableOf [(0, 9, 12, 28)]) (hl9 : l.stackTraces = false) {q : (Int32 × xWd)} (x0 : Option Nat) (x1 : Int32) (x2 : Option Nat) (w : xWd) (hf : f_L_sheet x0 x1 x2 w = some q) : xk_X p l e { frames := 7, cells := 1, slots := 6, locals := 116 } s m args below meth c (MQ below (xk_Qi E q) args s 1 6 (xk_A E.2.2.1)) E 4 0 0 0 [(0, va_rf (x0)), (1, .int (x1)), (2, va_rf (x2))] [] w := by
  refine xk_aload_n hC dL_sheet_0 2 rfl rfl ?_
  refine xk_iconst (v := (0 : Int32)) hC dL_sheet_1 (by decide) ?_
  refine xk_aload_n hC dL_sheet_2 0 rfl rfl ?_
  refine xk_iload_n hC dL_sheet_3 1 rfl rfl ?_
  obtain ⟨u2, h2, hf⟩ := xk_bi hf
  rcases xk_or_e hf with ⟨-, hf⟩ | ⟨q1, h1, hf⟩
  · skip
    obtain ⟨y3, hy3, hf⟩ := xk_bi hf
    by_cases c4 : y3.1 = 2
    · replace hf := (if_pos c4).symm.trans hf
      refine xk_catchX (x0 := ⟨0, 9, 12, 28⟩) hC (tableOf []) (tableOf []) (hX.trans rfl) c4 xk_pass0 (by decide) (by decide) xm_618 (xk_note6 hC) (xk_callVX (av := [.int (x1)]) (rest := [.int ((0 : Int32)), va_rf (x2)]) hC 1 xc_0 (ce_X4_sheet hl9 hy3) h2 xm_813 xm_498 xm_499 xm_1 xm_500 ⟨rfl, xd_X4_sheet⟩ rfl ⟨Nat.le_of_ble_eq_true rfl, Nat.le_of_ble_eq_true rfl⟩ rfl (by simp [xk_cat1, xk_cati, xk_catl, xk_catd]) dL_sheet_4 ⟨(Nat.le_of_ble_eq_true rfl), (Nat.le_of_ble_eq_true rfl)⟩) (fun a4 => ?_)
      refine xk_astore_n (i := 3) (lv' := [(3, va_rf (some a4)), (0, va_rf (x0)), (1, .int (x1)), (2, va_rf (x2))]) hC dL_sheet_12 rfl (by decide) (by simp [xk_cat1]) ?_
      refine xk_iconst (v := (1 : Int32)) hC dL_sheet_13 (by decide) ?_
      cases hf
      refine xk_widen (k := 1) (n := 6) (Nat.le_of_ble_eq_true rfl) (Nat.le_of_ble_eq_true rfl) ?_
      exact xk_iret hC hr rfl dL_sheet_14
    · replace hf := (if_neg c4).symm.trans hf
      cases hf
  refine xk_backi (xk_callV (av := [.int (x1)]) (rest := [.int ((0 : Int32)), va_rf (x2)]) hC 1 xc_0 (c_X4_sheet h1) h2 xm_813 xm_498 xm_499 xm_1 xm_500 ⟨rfl, xd_X4_sheet⟩ rfl ⟨Nat.le_of_ble_eq_true rfl, Nat.le_of_ble_eq_true rfl⟩ rfl (by simp [xk_cat1, xk_cati, xk_catl, xk_catd]) dL_sheet_4 ⟨(Nat.le_of_ble_eq_true rfl), (Nat.le_of_ble_eq_true rfl)⟩) ?_
  refine xk_i2l hC dL_sheet_7 ?_
  obtain ⟨w5, h5, hf⟩ := xk_bi hf
  refine xk_last hC rfl dL_sheet_8 h5 ?_
  refine xk_goto (tgt := 15) hC dL_sheet_9 (by decide) ?_
  refine xk_iconst (v := (0 : Int32)) hC dL_sheet_15 (by decide) ?_
  cases hf
  refine xk_widen (k := 1) (n := 6) (Nat.le_of_ble_eq_true rfl) (Nat.le_of_ble_eq_true rfl) ?_
  exact xk_iret hC hr rfl dL_sheet_16
theorem xd_L_sheet : xy_L_sheet.cls ≠ "java/lang/invoke/MethodHandle" ∧ xy_L_sheet.cls ≠ "java/lang/invoke/VarHandle" ∧ (parseMethodDescriptor xy_L_sheet.desc).map (fun d => d.parameters.length) = some 3 := ⟨by decide +kernel, by decide +kernel, by decide +kernel⟩
theorem c_L_sheet {l : Launch} (hl9 : l.stackTraces = false) {E : xEv} {x0 : Option Nat} {x1 : Int32} {x2 : Option Nat} {w : xWd} {q : (Int32 × xWd)} (hf : f_L_sheet x0 x1 x2 w = some q) : xk_MH l xy_L_sheet method_18_code 4 (some .int) [(0, 9, 12, 28)] 7 116 1 6 E [va_rf (x0), .int (x1), va_rf (x2)] w (xk_Qi E q) := by
  refine xk_enterH (by decide +kernel) (by simp [lg_sl, xk_cat1, xk_cati, xk_catl, xk_catd]) ?_
  intro p e s m args below meth c hC hr hX ha
  rw [show lv_args 0 [va_rf (x0), .int (x1), va_rf (x2)] = [(0, va_rf (x0)), (1, .int (x1)), (2, va_rf (x2))] by simp [lv_args, xk_cat1, xk_cati, xk_catl, xk_catd]]
  exact t_L_sheet_0 hC hr hX hl9 x0 x1 x2 w hf
def f_L_many (x0 : Option Nat) (x1 : Int32) (x2 : Option Nat) (w : xWd) : Option (Int32 × xWd) := (xk_is w (x0) 0).bind (fun u2 => xk_or (f_X4_many (x0) (x1) w) (fun q1 => (xk_sL q1.2 (x2) ((0 : Int32)) ((q1.1).toInt64)).bind (fun w5 => some ((0 : Int32), w5))) ((e_X4_many (x0) (x1) w).bind (fun y3 => if y3.1 = 0 then some ((1 : Int32), y3.2) else (none))))
set_option maxHeartbeats 4000000 in
set_option maxRecDepth 100000 in
theorem t_L_many_0 {p : Program} {l : Launch} {e : Env} {s : State} {m : MethodId} {args : Array Value} {below : List Frame} {meth : Method} {c : Code} {E : xEv} (hC : xk_C p s m args meth c E method_19_code "ClickbookLaw" 4) (hr : meth.sig.returnType = (some .int)) (hX : c.exceptionTable.toList = tableOf [(0, 9, 12, 13)]) (hl9 : l.stackTraces = false) {q : (Int32 × xWd)} (x0 : Option Nat) (x1 : Int32) (x2 : Option Nat) (w : xWd) (hf : f_L_many x0 x1 x2 w = some q) : xk_X p l e { frames := 7, cells := 1, slots := 6, locals := 113 } s m args below meth c (MQ below (xk_Qi E q) args s 1 6 (xk_A E.2.2.1)) E 4 0 0 0 [(0, va_rf (x0)), (1, .int (x1)), (2, va_rf (x2))] [] w := by
  refine xk_aload_n hC dL_many_0 2 rfl rfl ?_
  refine xk_iconst (v := (0 : Int32)) hC dL_many_1 (by decide) ?_
  refine xk_aload_n hC dL_many_2 0 rfl rfl ?_
  refine xk_iload_n hC dL_many_3 1 rfl rfl ?_
  obtain ⟨u2, h2, hf⟩ := xk_bi hf
  rcases xk_or_e hf with ⟨-, hf⟩ | ⟨q1, h1, hf⟩
  · skip
    obtain ⟨y3, hy3, hf⟩ := xk_bi hf
    by_cases c4 : y3.1 = 0
    · replace hf := (if_pos c4).symm.trans hf
      refine xk_catchX (x0 := ⟨0, 9, 12, 13⟩) hC (tableOf []) (tableOf []) (hX.trans rfl) c4 xk_pass0 (by decide) (by decide) xm_541 (xk_note1 hC) (xk_callVX (av := [.int (x1)]) (rest := [.int ((0 : Int32)), va_rf (x2)]) hC 1 xc_0 (ce_X4_many hl9 hy3) h2 xm_817 xm_167 xm_168 xm_1 xm_169 ⟨rfl, xd_X4_many⟩ rfl ⟨Nat.le_of_ble_eq_true rfl, Nat.le_of_ble_eq_true rfl⟩ rfl (by simp [xk_cat1, xk_cati, xk_catl, xk_catd]) dL_many_4 ⟨(Nat.le_of_ble_eq_true rfl), (Nat.le_of_ble_eq_true rfl)⟩) (fun a4 => ?_)
      refine xk_astore_n (i := 3) (lv' := [(3, va_rf (some a4)), (0, va_rf (x0)), (1, .int (x1)), (2, va_rf (x2))]) hC dL_many_12 rfl (by decide) (by simp [xk_cat1]) ?_
      refine xk_iconst (v := (1 : Int32)) hC dL_many_13 (by decide) ?_
      cases hf
      refine xk_widen (k := 1) (n := 6) (Nat.le_of_ble_eq_true rfl) (Nat.le_of_ble_eq_true rfl) ?_
      exact xk_iret hC hr rfl dL_many_14
    · replace hf := (if_neg c4).symm.trans hf
      cases hf
  refine xk_backi (xk_callV (av := [.int (x1)]) (rest := [.int ((0 : Int32)), va_rf (x2)]) hC 1 xc_0 (c_X4_many h1) h2 xm_817 xm_167 xm_168 xm_1 xm_169 ⟨rfl, xd_X4_many⟩ rfl ⟨Nat.le_of_ble_eq_true rfl, Nat.le_of_ble_eq_true rfl⟩ rfl (by simp [xk_cat1, xk_cati, xk_catl, xk_catd]) dL_many_4 ⟨(Nat.le_of_ble_eq_true rfl), (Nat.le_of_ble_eq_true rfl)⟩) ?_
  refine xk_i2l hC dL_many_7 ?_
  obtain ⟨w5, h5, hf⟩ := xk_bi hf
  refine xk_last hC rfl dL_many_8 h5 ?_
  refine xk_goto (tgt := 15) hC dL_many_9 (by decide) ?_
  refine xk_iconst (v := (0 : Int32)) hC dL_many_15 (by decide) ?_
  cases hf
  refine xk_widen (k := 1) (n := 6) (Nat.le_of_ble_eq_true rfl) (Nat.le_of_ble_eq_true rfl) ?_
  exact xk_iret hC hr rfl dL_many_16
theorem xd_L_many : xy_L_many.cls ≠ "java/lang/invoke/MethodHandle" ∧ xy_L_many.cls ≠ "java/lang/invoke/VarHandle" ∧ (parseMethodDescriptor xy_L_many.desc).map (fun d => d.parameters.length) = some 3 := ⟨by decide +kernel, by decide +kernel, by decide +kernel⟩
theorem c_L_many {l : Launch} (hl9 : l.stackTraces = false) {E : xEv} {x0 : Option Nat} {x1 : Int32} {x2 : Option Nat} {w : xWd} {q : (Int32 × xWd)} (hf : f_L_many x0 x1 x2 w = some q) : xk_MH l xy_L_many method_19_code 4 (some .int) [(0, 9, 12, 13)] 7 113 1 6 E [va_rf (x0), .int (x1), va_rf (x2)] w (xk_Qi E q) := by
  refine xk_enterH (by decide +kernel) (by simp [lg_sl, xk_cat1, xk_cati, xk_catl, xk_catd]) ?_
  intro p e s m args below meth c hC hr hX ha
  rw [show lv_args 0 [va_rf (x0), .int (x1), va_rf (x2)] = [(0, va_rf (x0)), (1, .int (x1)), (2, va_rf (x2))] by simp [lv_args, xk_cat1, xk_cati, xk_catl, xk_catd]]
  exact t_L_many_0 hC hr hX hl9 x0 x1 x2 w hf
def f_L_join (x0 : Option Nat) (x1 : Int32) (x2 : Option Nat) (w : xWd) : Option (Int32 × xWd) := (xk_is w (x0) 0).bind (fun u2 => (e_X4_join (x0) (x1) w).bind (fun y3 => if y3.1 = 2 then some ((1 : Int32), y3.2) else (none)))
set_option maxHeartbeats 4000000 in
set_option maxRecDepth 100000 in
theorem t_L_join_0 {p : Program} {l : Launch} {e : Env} {s : State} {m : MethodId} {args : Array Value} {below : List Frame} {meth : Method} {c : Code} {E : xEv} (hC : xk_C p s m args meth c E method_20_code "ClickbookLaw" 4) (hr : meth.sig.returnType = (some .int)) (hX : c.exceptionTable.toList = tableOf [(0, 9, 12, 28)]) (hl9 : l.stackTraces = false) {q : (Int32 × xWd)} (x0 : Option Nat) (x1 : Int32) (x2 : Option Nat) (w : xWd) (hf : f_L_join x0 x1 x2 w = some q) : xk_X p l e { frames := 8, cells := 1, slots := 6, locals := 134 } s m args below meth c (MQ below (xk_Qi E q) args s 1 6 (xk_A E.2.2.1)) E 4 0 0 0 [(0, va_rf (x0)), (1, .int (x1)), (2, va_rf (x2))] [] w := by
  refine xk_aload_n hC dL_join_0 2 rfl rfl ?_
  refine xk_iconst (v := (0 : Int32)) hC dL_join_1 (by decide) ?_
  refine xk_aload_n hC dL_join_2 0 rfl rfl ?_
  refine xk_iload_n hC dL_join_3 1 rfl rfl ?_
  obtain ⟨u2, h2, hf⟩ := xk_bi hf
  obtain ⟨y3, hy3, hf⟩ := xk_bi hf
  by_cases c4 : y3.1 = 2
  · replace hf := (if_pos c4).symm.trans hf
    refine xk_catchX (x0 := ⟨0, 9, 12, 28⟩) hC (tableOf []) (tableOf []) (hX.trans rfl) c4 xk_pass0 (by decide) (by decide) xm_618 (xk_note6 hC) (xk_callVX (av := [.int (x1)]) (rest := [.int ((0 : Int32)), va_rf (x2)]) hC 1 xc_0 (ce_X4_join hl9 hy3) h2 xm_821 xm_822 xm_823 xm_1 xm_824 ⟨rfl, xd_X4_join⟩ rfl ⟨Nat.le_of_ble_eq_true rfl, Nat.le_of_ble_eq_true rfl⟩ rfl (by simp [xk_cat1, xk_cati, xk_catl, xk_catd]) dL_join_4 ⟨(Nat.le_of_ble_eq_true rfl), (Nat.le_of_ble_eq_true rfl)⟩) (fun a4 => ?_)
    refine xk_astore_n (i := 3) (lv' := [(3, va_rf (some a4)), (0, va_rf (x0)), (1, .int (x1)), (2, va_rf (x2))]) hC dL_join_12 rfl (by decide) (by simp [xk_cat1]) ?_
    refine xk_iconst (v := (1 : Int32)) hC dL_join_13 (by decide) ?_
    cases hf
    refine xk_widen (k := 1) (n := 6) (Nat.le_of_ble_eq_true rfl) (Nat.le_of_ble_eq_true rfl) ?_
    exact xk_iret hC hr rfl dL_join_14
  · replace hf := (if_neg c4).symm.trans hf
    cases hf
theorem xd_L_join : xy_L_join.cls ≠ "java/lang/invoke/MethodHandle" ∧ xy_L_join.cls ≠ "java/lang/invoke/VarHandle" ∧ (parseMethodDescriptor xy_L_join.desc).map (fun d => d.parameters.length) = some 3 := ⟨by decide +kernel, by decide +kernel, by decide +kernel⟩
theorem c_L_join {l : Launch} (hl9 : l.stackTraces = false) {E : xEv} {x0 : Option Nat} {x1 : Int32} {x2 : Option Nat} {w : xWd} {q : (Int32 × xWd)} (hf : f_L_join x0 x1 x2 w = some q) : xk_MH l xy_L_join method_20_code 4 (some .int) [(0, 9, 12, 28)] 8 134 1 6 E [va_rf (x0), .int (x1), va_rf (x2)] w (xk_Qi E q) := by
  refine xk_enterH (by decide +kernel) (by simp [lg_sl, xk_cat1, xk_cati, xk_catl, xk_catd]) ?_
  intro p e s m args below meth c hC hr hX ha
  rw [show lv_args 0 [va_rf (x0), .int (x1), va_rf (x2)] = [(0, va_rf (x0)), (1, .int (x1)), (2, va_rf (x2))] by simp [lv_args, xk_cat1, xk_cati, xk_catl, xk_catd]]
  exact t_L_join_0 hC hr hX hl9 x0 x1 x2 w hf
def f_L_joined (x0 : Option Nat) (x1 : Int32) (x2 : Int32) (x3 : Option Nat) (w : xWd) : Option (Int32 × xWd) := (xk_is w (x0) 0).bind (fun u2 => (e_X4_joined (x0) (x1) (x2) w).bind (fun y3 => if y3.1 = 2 then some ((1 : Int32), y3.2) else (none)))
set_option maxHeartbeats 4000000 in
set_option maxRecDepth 100000 in
theorem t_L_joined_0 {p : Program} {l : Launch} {e : Env} {s : State} {m : MethodId} {args : Array Value} {below : List Frame} {meth : Method} {c : Code} {E : xEv} (hC : xk_C p s m args meth c E method_21_code "ClickbookLaw" 5) (hr : meth.sig.returnType = (some .int)) (hX : c.exceptionTable.toList = tableOf [(0, 10, 13, 28)]) (hl9 : l.stackTraces = false) {q : (Int32 × xWd)} (x0 : Option Nat) (x1 : Int32) (x2 : Int32) (x3 : Option Nat) (w : xWd) (hf : f_L_joined x0 x1 x2 x3 w = some q) : xk_X p l e { frames := 8, cells := 1, slots := 6, locals := 136 } s m args below meth c (MQ below (xk_Qi E q) args s 1 6 (xk_A E.2.2.1)) E 5 0 0 0 [(0, va_rf (x0)), (1, .int (x1)), (2, .int (x2)), (3, va_rf (x3))] [] w := by
  refine xk_aload_n hC dL_joined_0 3 rfl rfl ?_
  refine xk_iconst (v := (0 : Int32)) hC dL_joined_1 (by decide) ?_
  refine xk_aload_n hC dL_joined_2 0 rfl rfl ?_
  refine xk_iload_n hC dL_joined_3 1 rfl rfl ?_
  refine xk_iload_n hC dL_joined_4 2 rfl rfl ?_
  obtain ⟨u2, h2, hf⟩ := xk_bi hf
  obtain ⟨y3, hy3, hf⟩ := xk_bi hf
  by_cases c4 : y3.1 = 2
  · replace hf := (if_pos c4).symm.trans hf
    refine xk_catchX (x0 := ⟨0, 10, 13, 28⟩) hC (tableOf []) (tableOf []) (hX.trans rfl) c4 xk_pass0 (by decide) (by decide) xm_618 (xk_note6 hC) (xk_callVX (av := [.int (x1), .int (x2)]) (rest := [.int ((0 : Int32)), va_rf (x3)]) hC 2 xc_0 (ce_X4_joined hl9 hy3) h2 xm_828 xm_829 xm_830 xm_1 xm_831 ⟨rfl, xd_X4_joined⟩ rfl ⟨Nat.le_of_ble_eq_true rfl, Nat.le_of_ble_eq_true rfl⟩ rfl (by simp [xk_cat1, xk_cati, xk_catl, xk_catd]) dL_joined_5 ⟨(Nat.le_of_ble_eq_true rfl), (Nat.le_of_ble_eq_true rfl)⟩) (fun a4 => ?_)
    refine xk_astore (i := 4) (lv' := [(4, va_rf (some a4)), (0, va_rf (x0)), (1, .int (x1)), (2, .int (x2)), (3, va_rf (x3))]) hC dL_joined_13 (by decide) (by simp [xk_cat1]) ?_
    refine xk_iconst (v := (1 : Int32)) hC dL_joined_15 (by decide) ?_
    cases hf
    refine xk_widen (k := 1) (n := 6) (Nat.le_of_ble_eq_true rfl) (Nat.le_of_ble_eq_true rfl) ?_
    exact xk_iret hC hr rfl dL_joined_16
  · replace hf := (if_neg c4).symm.trans hf
    cases hf
theorem xd_L_joined : xy_L_joined.cls ≠ "java/lang/invoke/MethodHandle" ∧ xy_L_joined.cls ≠ "java/lang/invoke/VarHandle" ∧ (parseMethodDescriptor xy_L_joined.desc).map (fun d => d.parameters.length) = some 4 := ⟨by decide +kernel, by decide +kernel, by decide +kernel⟩
theorem c_L_joined {l : Launch} (hl9 : l.stackTraces = false) {E : xEv} {x0 : Option Nat} {x1 : Int32} {x2 : Int32} {x3 : Option Nat} {w : xWd} {q : (Int32 × xWd)} (hf : f_L_joined x0 x1 x2 x3 w = some q) : xk_MH l xy_L_joined method_21_code 5 (some .int) [(0, 10, 13, 28)] 8 136 1 6 E [va_rf (x0), .int (x1), .int (x2), va_rf (x3)] w (xk_Qi E q) := by
  refine xk_enterH (by decide +kernel) (by simp [lg_sl, xk_cat1, xk_cati, xk_catl, xk_catd]) ?_
  intro p e s m args below meth c hC hr hX ha
  rw [show lv_args 0 [va_rf (x0), .int (x1), .int (x2), va_rf (x3)] = [(0, va_rf (x0)), (1, .int (x1)), (2, .int (x2)), (3, va_rf (x3))] by simp [lv_args, xk_cat1, xk_cati, xk_catl, xk_catd]]
  exact t_L_joined_0 hC hr hX hl9 x0 x1 x2 x3 w hf
def f_L_bestStart (x0 : Option Nat) (x1 : Int32) (x2 : Option Nat) (w : xWd) : Option (Int32 × xWd) := (xk_is w (x0) 0).bind (fun u2 => (e_X4_bestStart (x0) (x1) w).bind (fun y3 => if y3.1 = 2 then some ((1 : Int32), y3.2) else (none)))
set_option maxHeartbeats 4000000 in
set_option maxRecDepth 100000 in
theorem t_L_bestStart_0 {p : Program} {l : Launch} {e : Env} {s : State} {m : MethodId} {args : Array Value} {below : List Frame} {meth : Method} {c : Code} {E : xEv} (hC : xk_C p s m args meth c E method_22_code "ClickbookLaw" 4) (hr : meth.sig.returnType = (some .int)) (hX : c.exceptionTable.toList = tableOf [(0, 9, 12, 28)]) (hl9 : l.stackTraces = false) {q : (Int32 × xWd)} (x0 : Option Nat) (x1 : Int32) (x2 : Option Nat) (w : xWd) (hf : f_L_bestStart x0 x1 x2 w = some q) : xk_X p l e { frames := 8, cells := 1, slots := 6, locals := 141 } s m args below meth c (MQ below (xk_Qi E q) args s 1 6 (xk_A E.2.2.1)) E 4 0 0 0 [(0, va_rf (x0)), (1, .int (x1)), (2, va_rf (x2))] [] w := by
  refine xk_aload_n hC dL_bestStart_0 2 rfl rfl ?_
  refine xk_iconst (v := (0 : Int32)) hC dL_bestStart_1 (by decide) ?_
  refine xk_aload_n hC dL_bestStart_2 0 rfl rfl ?_
  refine xk_iload_n hC dL_bestStart_3 1 rfl rfl ?_
  obtain ⟨u2, h2, hf⟩ := xk_bi hf
  obtain ⟨y3, hy3, hf⟩ := xk_bi hf
  by_cases c4 : y3.1 = 2
  · replace hf := (if_pos c4).symm.trans hf
    refine xk_catchX (x0 := ⟨0, 9, 12, 28⟩) hC (tableOf []) (tableOf []) (hX.trans rfl) c4 xk_pass0 (by decide) (by decide) xm_618 (xk_note6 hC) (xk_callVX (av := [.int (x1)]) (rest := [.int ((0 : Int32)), va_rf (x2)]) hC 1 xc_0 (ce_X4_bestStart hl9 hy3) h2 xm_835 xm_527 xm_528 xm_1 xm_529 ⟨rfl, xd_X4_bestStart⟩ rfl ⟨Nat.le_of_ble_eq_true rfl, Nat.le_of_ble_eq_true rfl⟩ rfl (by simp [xk_cat1, xk_cati, xk_catl, xk_catd]) dL_bestStart_4 ⟨(Nat.le_of_ble_eq_true rfl), (Nat.le_of_ble_eq_true rfl)⟩) (fun a4 => ?_)
    refine xk_astore_n (i := 3) (lv' := [(3, va_rf (some a4)), (0, va_rf (x0)), (1, .int (x1)), (2, va_rf (x2))]) hC dL_bestStart_12 rfl (by decide) (by simp [xk_cat1]) ?_
    refine xk_iconst (v := (1 : Int32)) hC dL_bestStart_13 (by decide) ?_
    cases hf
    refine xk_widen (k := 1) (n := 6) (Nat.le_of_ble_eq_true rfl) (Nat.le_of_ble_eq_true rfl) ?_
    exact xk_iret hC hr rfl dL_bestStart_14
  · replace hf := (if_neg c4).symm.trans hf
    cases hf
theorem xd_L_bestStart : xy_L_bestStart.cls ≠ "java/lang/invoke/MethodHandle" ∧ xy_L_bestStart.cls ≠ "java/lang/invoke/VarHandle" ∧ (parseMethodDescriptor xy_L_bestStart.desc).map (fun d => d.parameters.length) = some 3 := ⟨by decide +kernel, by decide +kernel, by decide +kernel⟩
theorem c_L_bestStart {l : Launch} (hl9 : l.stackTraces = false) {E : xEv} {x0 : Option Nat} {x1 : Int32} {x2 : Option Nat} {w : xWd} {q : (Int32 × xWd)} (hf : f_L_bestStart x0 x1 x2 w = some q) : xk_MH l xy_L_bestStart method_22_code 4 (some .int) [(0, 9, 12, 28)] 8 141 1 6 E [va_rf (x0), .int (x1), va_rf (x2)] w (xk_Qi E q) := by
  refine xk_enterH (by decide +kernel) (by simp [lg_sl, xk_cat1, xk_cati, xk_catl, xk_catd]) ?_
  intro p e s m args below meth c hC hr hX ha
  rw [show lv_args 0 [va_rf (x0), .int (x1), va_rf (x2)] = [(0, va_rf (x0)), (1, .int (x1)), (2, va_rf (x2))] by simp [lv_args, xk_cat1, xk_cati, xk_catl, xk_catd]]
  exact t_L_bestStart_0 hC hr hX hl9 x0 x1 x2 w hf
def f_L_bestClick (x0 : Option Nat) (x1 : Int32) (x2 : Int32) (x3 : Option Nat) (w : xWd) : Option (Int32 × xWd) := (xk_is w (x0) 0).bind (fun u2 => (e_X4_bestClick (x0) (x1) (x2) w).bind (fun y3 => if y3.1 = 2 then some ((1 : Int32), y3.2) else (none)))
set_option maxHeartbeats 4000000 in
set_option maxRecDepth 100000 in
theorem t_L_bestClick_0 {p : Program} {l : Launch} {e : Env} {s : State} {m : MethodId} {args : Array Value} {below : List Frame} {meth : Method} {c : Code} {E : xEv} (hC : xk_C p s m args meth c E method_23_code "ClickbookLaw" 5) (hr : meth.sig.returnType = (some .int)) (hX : c.exceptionTable.toList = tableOf [(0, 10, 13, 28)]) (hl9 : l.stackTraces = false) {q : (Int32 × xWd)} (x0 : Option Nat) (x1 : Int32) (x2 : Int32) (x3 : Option Nat) (w : xWd) (hf : f_L_bestClick x0 x1 x2 x3 w = some q) : xk_X p l e { frames := 8, cells := 1, slots := 6, locals := 143 } s m args below meth c (MQ below (xk_Qi E q) args s 1 6 (xk_A E.2.2.1)) E 5 0 0 0 [(0, va_rf (x0)), (1, .int (x1)), (2, .int (x2)), (3, va_rf (x3))] [] w := by
  refine xk_aload_n hC dL_bestClick_0 3 rfl rfl ?_
  refine xk_iconst (v := (0 : Int32)) hC dL_bestClick_1 (by decide) ?_
  refine xk_aload_n hC dL_bestClick_2 0 rfl rfl ?_
  refine xk_iload_n hC dL_bestClick_3 1 rfl rfl ?_
  refine xk_iload_n hC dL_bestClick_4 2 rfl rfl ?_
  obtain ⟨u2, h2, hf⟩ := xk_bi hf
  obtain ⟨y3, hy3, hf⟩ := xk_bi hf
  by_cases c4 : y3.1 = 2
  · replace hf := (if_pos c4).symm.trans hf
    refine xk_catchX (x0 := ⟨0, 10, 13, 28⟩) hC (tableOf []) (tableOf []) (hX.trans rfl) c4 xk_pass0 (by decide) (by decide) xm_618 (xk_note6 hC) (xk_callVX (av := [.int (x1), .int (x2)]) (rest := [.int ((0 : Int32)), va_rf (x3)]) hC 2 xc_0 (ce_X4_bestClick hl9 hy3) h2 xm_839 xm_840 xm_841 xm_1 xm_842 ⟨rfl, xd_X4_bestClick⟩ rfl ⟨Nat.le_of_ble_eq_true rfl, Nat.le_of_ble_eq_true rfl⟩ rfl (by simp [xk_cat1, xk_cati, xk_catl, xk_catd]) dL_bestClick_5 ⟨(Nat.le_of_ble_eq_true rfl), (Nat.le_of_ble_eq_true rfl)⟩) (fun a4 => ?_)
    refine xk_astore (i := 4) (lv' := [(4, va_rf (some a4)), (0, va_rf (x0)), (1, .int (x1)), (2, .int (x2)), (3, va_rf (x3))]) hC dL_bestClick_13 (by decide) (by simp [xk_cat1]) ?_
    refine xk_iconst (v := (1 : Int32)) hC dL_bestClick_15 (by decide) ?_
    cases hf
    refine xk_widen (k := 1) (n := 6) (Nat.le_of_ble_eq_true rfl) (Nat.le_of_ble_eq_true rfl) ?_
    exact xk_iret hC hr rfl dL_bestClick_16
  · replace hf := (if_neg c4).symm.trans hf
    cases hf
theorem xd_L_bestClick : xy_L_bestClick.cls ≠ "java/lang/invoke/MethodHandle" ∧ xy_L_bestClick.cls ≠ "java/lang/invoke/VarHandle" ∧ (parseMethodDescriptor xy_L_bestClick.desc).map (fun d => d.parameters.length) = some 4 := ⟨by decide +kernel, by decide +kernel, by decide +kernel⟩
theorem c_L_bestClick {l : Launch} (hl9 : l.stackTraces = false) {E : xEv} {x0 : Option Nat} {x1 : Int32} {x2 : Int32} {x3 : Option Nat} {w : xWd} {q : (Int32 × xWd)} (hf : f_L_bestClick x0 x1 x2 x3 w = some q) : xk_MH l xy_L_bestClick method_23_code 5 (some .int) [(0, 10, 13, 28)] 8 143 1 6 E [va_rf (x0), .int (x1), .int (x2), va_rf (x3)] w (xk_Qi E q) := by
  refine xk_enterH (by decide +kernel) (by simp [lg_sl, xk_cat1, xk_cati, xk_catl, xk_catd]) ?_
  intro p e s m args below meth c hC hr hX ha
  rw [show lv_args 0 [va_rf (x0), .int (x1), .int (x2), va_rf (x3)] = [(0, va_rf (x0)), (1, .int (x1)), (2, .int (x2)), (3, va_rf (x3))] by simp [lv_args, xk_cat1, xk_cati, xk_catl, xk_catd]]
  exact t_L_bestClick_0 hC hr hX hl9 x0 x1 x2 x3 w hf
def f_L_wouldMeet (x0 : Option Nat) (x1 : Int32) (x2 : Int32) (x3 : Option Nat) (w : xWd) : Option (Int32 × xWd) := (xk_is w (x0) 0).bind (fun u2 => xk_or (f_X4_wouldMeet (x0) (x1) (x2) w) (fun q1 => (xk_sL q1.2 (x3) ((0 : Int32)) ((q1.1).toInt64)).bind (fun w5 => some ((0 : Int32), w5))) ((e_X4_wouldMeet (x0) (x1) (x2) w).bind (fun y3 => if y3.1 = 0 then some ((1 : Int32), y3.2) else (none))))
set_option maxHeartbeats 4000000 in
set_option maxRecDepth 100000 in
theorem t_L_wouldMeet_0 {p : Program} {l : Launch} {e : Env} {s : State} {m : MethodId} {args : Array Value} {below : List Frame} {meth : Method} {c : Code} {E : xEv} (hC : xk_C p s m args meth c E method_24_code "ClickbookLaw" 5) (hr : meth.sig.returnType = (some .int)) (hX : c.exceptionTable.toList = tableOf [(0, 10, 13, 13)]) (hl9 : l.stackTraces = false) {q : (Int32 × xWd)} (x0 : Option Nat) (x1 : Int32) (x2 : Int32) (x3 : Option Nat) (w : xWd) (hf : f_L_wouldMeet x0 x1 x2 x3 w = some q) : xk_X p l e { frames := 8, cells := 1, slots := 6, locals := 139 } s m args below meth c (MQ below (xk_Qi E q) args s 1 6 (xk_A E.2.2.1)) E 5 0 0 0 [(0, va_rf (x0)), (1, .int (x1)), (2, .int (x2)), (3, va_rf (x3))] [] w := by
  refine xk_aload_n hC dL_wouldMeet_0 3 rfl rfl ?_
  refine xk_iconst (v := (0 : Int32)) hC dL_wouldMeet_1 (by decide) ?_
  refine xk_aload_n hC dL_wouldMeet_2 0 rfl rfl ?_
  refine xk_iload_n hC dL_wouldMeet_3 1 rfl rfl ?_
  refine xk_iload_n hC dL_wouldMeet_4 2 rfl rfl ?_
  obtain ⟨u2, h2, hf⟩ := xk_bi hf
  rcases xk_or_e hf with ⟨-, hf⟩ | ⟨q1, h1, hf⟩
  · skip
    obtain ⟨y3, hy3, hf⟩ := xk_bi hf
    by_cases c4 : y3.1 = 0
    · replace hf := (if_pos c4).symm.trans hf
      refine xk_catchX (x0 := ⟨0, 10, 13, 13⟩) hC (tableOf []) (tableOf []) (hX.trans rfl) c4 xk_pass0 (by decide) (by decide) xm_541 (xk_note1 hC) (xk_callVX (av := [.int (x1), .int (x2)]) (rest := [.int ((0 : Int32)), va_rf (x3)]) hC 2 xc_0 (ce_X4_wouldMeet hl9 hy3) h2 xm_851 xm_503 xm_504 xm_1 xm_505 ⟨rfl, xd_X4_wouldMeet⟩ rfl ⟨Nat.le_of_ble_eq_true rfl, Nat.le_of_ble_eq_true rfl⟩ rfl (by simp [xk_cat1, xk_cati, xk_catl, xk_catd]) dL_wouldMeet_5 ⟨(Nat.le_of_ble_eq_true rfl), (Nat.le_of_ble_eq_true rfl)⟩) (fun a4 => ?_)
      refine xk_astore (i := 4) (lv' := [(4, va_rf (some a4)), (0, va_rf (x0)), (1, .int (x1)), (2, .int (x2)), (3, va_rf (x3))]) hC dL_wouldMeet_13 (by decide) (by simp [xk_cat1]) ?_
      refine xk_iconst (v := (1 : Int32)) hC dL_wouldMeet_15 (by decide) ?_
      cases hf
      refine xk_widen (k := 1) (n := 6) (Nat.le_of_ble_eq_true rfl) (Nat.le_of_ble_eq_true rfl) ?_
      exact xk_iret hC hr rfl dL_wouldMeet_16
    · replace hf := (if_neg c4).symm.trans hf
      cases hf
  refine xk_backi (xk_callV (av := [.int (x1), .int (x2)]) (rest := [.int ((0 : Int32)), va_rf (x3)]) hC 2 xc_0 (c_X4_wouldMeet h1) h2 xm_851 xm_503 xm_504 xm_1 xm_505 ⟨rfl, xd_X4_wouldMeet⟩ rfl ⟨Nat.le_of_ble_eq_true rfl, Nat.le_of_ble_eq_true rfl⟩ rfl (by simp [xk_cat1, xk_cati, xk_catl, xk_catd]) dL_wouldMeet_5 ⟨(Nat.le_of_ble_eq_true rfl), (Nat.le_of_ble_eq_true rfl)⟩) ?_
  refine xk_i2l hC dL_wouldMeet_8 ?_
  obtain ⟨w5, h5, hf⟩ := xk_bi hf
  refine xk_last hC rfl dL_wouldMeet_9 h5 ?_
  refine xk_goto (tgt := 17) hC dL_wouldMeet_10 (by decide) ?_
  refine xk_iconst (v := (0 : Int32)) hC dL_wouldMeet_17 (by decide) ?_
  cases hf
  refine xk_widen (k := 1) (n := 6) (Nat.le_of_ble_eq_true rfl) (Nat.le_of_ble_eq_true rfl) ?_
  exact xk_iret hC hr rfl dL_wouldMeet_18
theorem xd_L_wouldMeet : xy_L_wouldMeet.cls ≠ "java/lang/invoke/MethodHandle" ∧ xy_L_wouldMeet.cls ≠ "java/lang/invoke/VarHandle" ∧ (parseMethodDescriptor xy_L_wouldMeet.desc).map (fun d => d.parameters.length) = some 4 := ⟨by decide +kernel, by decide +kernel, by decide +kernel⟩
theorem c_L_wouldMeet {l : Launch} (hl9 : l.stackTraces = false) {E : xEv} {x0 : Option Nat} {x1 : Int32} {x2 : Int32} {x3 : Option Nat} {w : xWd} {q : (Int32 × xWd)} (hf : f_L_wouldMeet x0 x1 x2 x3 w = some q) : xk_MH l xy_L_wouldMeet method_24_code 5 (some .int) [(0, 10, 13, 13)] 8 139 1 6 E [va_rf (x0), .int (x1), .int (x2), va_rf (x3)] w (xk_Qi E q) := by
  refine xk_enterH (by decide +kernel) (by simp [lg_sl, xk_cat1, xk_cati, xk_catl, xk_catd]) ?_
  intro p e s m args below meth c hC hr hX ha
  rw [show lv_args 0 [va_rf (x0), .int (x1), .int (x2), va_rf (x3)] = [(0, va_rf (x0)), (1, .int (x1)), (2, .int (x2)), (3, va_rf (x3))] by simp [lv_args, xk_cat1, xk_cati, xk_catl, xk_catd]]
  exact t_L_wouldMeet_0 hC hr hX hl9 x0 x1 x2 x3 w hf
def f_L_law_1703 (k23 : Option Nat → Option Nat → Option Nat → Option Nat → Int32 → xWd → Option (Int32 × xWd)) (x0 : Option Nat) (x1 : Option Nat) (x2 : Option Nat) (x3 : Option Nat) (x4 : Int32) (w : xWd) : Option (Int32 × xWd) := k23 x0 x1 x2 x3 (x4 + (6 : Int32)) w
set_option maxHeartbeats 4000000 in
set_option maxRecDepth 100000 in
theorem t_L_law_1703 {p : Program} {l : Launch} {e : Env} {s : State} {m : MethodId} {b : Nat} {below : List Frame} {meth : Method} {c : Code} {E : xEv} (hC : xk_C p (s.setDrawn s.drawn) m #[Value.ref b] meth c E code "ClickbookLaw" 9) (hr : meth.sig.returnType = ret) (hz : E.2.2.1 = s.heap.size) {q : (Int32 × xWd)} (hq : q.1 = 1) (hl9 : l.stackTraces = false) {KC KS kc ks : Nat} (h1 : kc + 0 ≤ KC) (h2 : ks + 0 ≤ KS) (h3 : kc + 0 ≤ 316) (h4 : ks + 0 ≤ 12276) {k23 : Option Nat → Option Nat → Option Nat → Option Nat → Int32 → xWd → Option (Int32 × xWd)} (hk23 : ∀ (x0 : Option Nat) (x1 : Option Nat) (x2 : Option Nat) (x3 : Option Nat) (x4 : Int32) (w : xWd), k23 x0 x1 x2 x3 x4 w = some q → xk_X p l e room_1 (s.setDrawn s.drawn) m #[Value.ref b] below meth c (lw_Z below #[Value.ref b] s) E 9 KC KS 23 [(0, va_rf (x0)), (1, va_rf (x1)), (2, va_rf (x2)), (3, va_rf (x3)), (4, .int (x4))] [] w) (x0 : Option Nat) (x1 : Option Nat) (x2 : Option Nat) (x3 : Option Nat) (x4 : Int32) (w : xWd) (hf : f_L_law_1703 k23 x0 x1 x2 x3 x4 w = some q) : xk_X p l e room_1 (s.setDrawn s.drawn) m #[Value.ref b] below meth c (lw_Z below #[Value.ref b] s) E 9 kc ks 1703 [(0, va_rf (x0)), (1, va_rf (x1)), (2, va_rf (x2)), (3, va_rf (x3)), (4, .int (x4))] [] w := by
  refine xk_iinc (v := x4 + (6 : Int32)) (lv' := [(4, .int (x4 + (6 : Int32))), (0, va_rf (x0)), (1, va_rf (x1)), (2, va_rf (x2)), (3, va_rf (x3))]) hC dL_law_1703 4 rfl rfl (by decide) (by simp [xk_cat1]) ?_
  refine xk_goto (tgt := 23) hC dL_law_1706 (by decide) ?_
  refine xk_locals [1, 2, 3, 4, 0] rfl ?_
  refine xk_widen (k := KC) (n := KS) (by omega) (by omega) ?_
  exact hk23 x0 x1 x2 x3 (x4 + (6 : Int32)) w hf
def f_L_law_217 (k23 : Option Nat → Option Nat → Option Nat → Option Nat → Int32 → xWd → Option (Int32 × xWd)) (x0 : Option Nat) (x1 : Option Nat) (x2 : Option Nat) (x3 : Option Nat) (x4 : Int32) (w : xWd) : Option (Int32 × xWd) := f_L_law_1703 k23 x0 x1 x2 x3 x4 w
set_option maxHeartbeats 4000000 in
set_option maxRecDepth 100000 in
theorem t_L_law_217 {p : Program} {l : Launch} {e : Env} {s : State} {m : MethodId} {b : Nat} {below : List Frame} {meth : Method} {c : Code} {E : xEv} (hC : xk_C p (s.setDrawn s.drawn) m #[Value.ref b] meth c E code "ClickbookLaw" 9) (hr : meth.sig.returnType = ret) (hz : E.2.2.1 = s.heap.size) {q : (Int32 × xWd)} (hq : q.1 = 1) (hl9 : l.stackTraces = false) {KC KS kc ks : Nat} (h1 : kc + 0 ≤ KC) (h2 : ks + 0 ≤ KS) (h3 : kc + 0 ≤ 316) (h4 : ks + 0 ≤ 12276) {k23 : Option Nat → Option Nat → Option Nat → Option Nat → Int32 → xWd → Option (Int32 × xWd)} (hk23 : ∀ (x0 : Option Nat) (x1 : Option Nat) (x2 : Option Nat) (x3 : Option Nat) (x4 : Int32) (w : xWd), k23 x0 x1 x2 x3 x4 w = some q → xk_X p l e room_1 (s.setDrawn s.drawn) m #[Value.ref b] below meth c (lw_Z below #[Value.ref b] s) E 9 KC KS 23 [(0, va_rf (x0)), (1, va_rf (x1)), (2, va_rf (x2)), (3, va_rf (x3)), (4, .int (x4))] [] w) (x0 : Option Nat) (x1 : Option Nat) (x2 : Option Nat) (x3 : Option Nat) (x4 : Int32) (w : xWd) (hf : f_L_law_217 k23 x0 x1 x2 x3 x4 w = some q) : xk_X p l e room_1 (s.setDrawn s.drawn) m #[Value.ref b] below meth c (lw_Z below #[Value.ref b] s) E 9 kc ks 217 [(0, va_rf (x0)), (1, va_rf (x1)), (2, va_rf (x2)), (3, va_rf (x3)), (4, .int (x4))] [] w := by
  refine xk_goto (tgt := 1703) hC dL_law_217 (by decide) ?_
  exact t_L_law_1703 hC hr hz hq hl9 (by omega) (by omega) (by omega) (by omega) hk23 x0 x1 x2 x3 x4 w hf
def f_L_law_273 (k23 : Option Nat → Option Nat → Option Nat → Option Nat → Int32 → xWd → Option (Int32 × xWd)) (x0 : Option Nat) (x1 : Option Nat) (x2 : Option Nat) (x3 : Option Nat) (x4 : Int32) (w : xWd) : Option (Int32 × xWd) := f_L_law_1703 k23 x0 x1 x2 x3 x4 w
set_option maxHeartbeats 4000000 in
set_option maxRecDepth 100000 in
theorem t_L_law_273 {p : Program} {l : Launch} {e : Env} {s : State} {m : MethodId} {b : Nat} {below : List Frame} {meth : Method} {c : Code} {E : xEv} (hC : xk_C p (s.setDrawn s.drawn) m #[Value.ref b] meth c E code "ClickbookLaw" 9) (hr : meth.sig.returnType = ret) (hz : E.2.2.1 = s.heap.size) {q : (Int32 × xWd)} (hq : q.1 = 1) (hl9 : l.stackTraces = false) {KC KS kc ks : Nat} (h1 : kc + 0 ≤ KC) (h2 : ks + 0 ≤ KS) (h3 : kc + 0 ≤ 316) (h4 : ks + 0 ≤ 12276) {k23 : Option Nat → Option Nat → Option Nat → Option Nat → Int32 → xWd → Option (Int32 × xWd)} (hk23 : ∀ (x0 : Option Nat) (x1 : Option Nat) (x2 : Option Nat) (x3 : Option Nat) (x4 : Int32) (w : xWd), k23 x0 x1 x2 x3 x4 w = some q → xk_X p l e room_1 (s.setDrawn s.drawn) m #[Value.ref b] below meth c (lw_Z below #[Value.ref b] s) E 9 KC KS 23 [(0, va_rf (x0)), (1, va_rf (x1)), (2, va_rf (x2)), (3, va_rf (x3)), (4, .int (x4))] [] w) (x0 : Option Nat) (x1 : Option Nat) (x2 : Option Nat) (x3 : Option Nat) (x4 : Int32) (w : xWd) (hf : f_L_law_273 k23 x0 x1 x2 x3 x4 w = some q) : xk_X p l e room_1 (s.setDrawn s.drawn) m #[Value.ref b] below meth c (lw_Z below #[Value.ref b] s) E 9 kc ks 273 [(0, va_rf (x0)), (1, va_rf (x1)), (2, va_rf (x2)), (3, va_rf (x3)), (4, .int (x4))] [] w := by
  refine xk_goto (tgt := 1703) hC dL_law_273 (by decide) ?_
  exact t_L_law_1703 hC hr hz hq hl9 (by omega) (by omega) (by omega) (by omega) hk23 x0 x1 x2 x3 x4 w hf
def f_L_law_341 (k23 : Option Nat → Option Nat → Option Nat → Option Nat → Int32 → xWd → Option (Int32 × xWd)) (x0 : Option Nat) (x1 : Option Nat) (x2 : Option Nat) (x3 : Option Nat) (x4 : Int32) (w : xWd) : Option (Int32 × xWd) := f_L_law_1703 k23 x0 x1 x2 x3 x4 w
set_option maxHeartbeats 4000000 in
set_option maxRecDepth 100000 in
theorem t_L_law_341 {p : Program} {l : Launch} {e : Env} {s : State} {m : MethodId} {b : Nat} {below : List Frame} {meth : Method} {c : Code} {E : xEv} (hC : xk_C p (s.setDrawn s.drawn) m #[Value.ref b] meth c E code "ClickbookLaw" 9) (hr : meth.sig.returnType = ret) (hz : E.2.2.1 = s.heap.size) {q : (Int32 × xWd)} (hq : q.1 = 1) (hl9 : l.stackTraces = false) {KC KS kc ks : Nat} (h1 : kc + 0 ≤ KC) (h2 : ks + 0 ≤ KS) (h3 : kc + 0 ≤ 316) (h4 : ks + 0 ≤ 12276) {k23 : Option Nat → Option Nat → Option Nat → Option Nat → Int32 → xWd → Option (Int32 × xWd)} (hk23 : ∀ (x0 : Option Nat) (x1 : Option Nat) (x2 : Option Nat) (x3 : Option Nat) (x4 : Int32) (w : xWd), k23 x0 x1 x2 x3 x4 w = some q → xk_X p l e room_1 (s.setDrawn s.drawn) m #[Value.ref b] below meth c (lw_Z below #[Value.ref b] s) E 9 KC KS 23 [(0, va_rf (x0)), (1, va_rf (x1)), (2, va_rf (x2)), (3, va_rf (x3)), (4, .int (x4))] [] w) (x0 : Option Nat) (x1 : Option Nat) (x2 : Option Nat) (x3 : Option Nat) (x4 : Int32) (w : xWd) (hf : f_L_law_341 k23 x0 x1 x2 x3 x4 w = some q) : xk_X p l e room_1 (s.setDrawn s.drawn) m #[Value.ref b] below meth c (lw_Z below #[Value.ref b] s) E 9 kc ks 341 [(0, va_rf (x0)), (1, va_rf (x1)), (2, va_rf (x2)), (3, va_rf (x3)), (4, .int (x4))] [] w := by
  refine xk_goto (tgt := 1703) hC dL_law_341 (by decide) ?_
  exact t_L_law_1703 hC hr hz hq hl9 (by omega) (by omega) (by omega) (by omega) hk23 x0 x1 x2 x3 x4 w hf
def f_L_law_445 (k23 : Option Nat → Option Nat → Option Nat → Option Nat → Int32 → xWd → Option (Int32 × xWd)) (x0 : Option Nat) (x1 : Option Nat) (x2 : Option Nat) (x3 : Option Nat) (x4 : Int32) (w : xWd) : Option (Int32 × xWd) := f_L_law_1703 k23 x0 x1 x2 x3 x4 w
set_option maxHeartbeats 4000000 in
set_option maxRecDepth 100000 in
theorem t_L_law_445 {p : Program} {l : Launch} {e : Env} {s : State} {m : MethodId} {b : Nat} {below : List Frame} {meth : Method} {c : Code} {E : xEv} (hC : xk_C p (s.setDrawn s.drawn) m #[Value.ref b] meth c E code "ClickbookLaw" 9) (hr : meth.sig.returnType = ret) (hz : E.2.2.1 = s.heap.size) {q : (Int32 × xWd)} (hq : q.1 = 1) (hl9 : l.stackTraces = false) {KC KS kc ks : Nat} (h1 : kc + 0 ≤ KC) (h2 : ks + 0 ≤ KS) (h3 : kc + 0 ≤ 316) (h4 : ks + 0 ≤ 12276) {k23 : Option Nat → Option Nat → Option Nat → Option Nat → Int32 → xWd → Option (Int32 × xWd)} (hk23 : ∀ (x0 : Option Nat) (x1 : Option Nat) (x2 : Option Nat) (x3 : Option Nat) (x4 : Int32) (w : xWd), k23 x0 x1 x2 x3 x4 w = some q → xk_X p l e room_1 (s.setDrawn s.drawn) m #[Value.ref b] below meth c (lw_Z below #[Value.ref b] s) E 9 KC KS 23 [(0, va_rf (x0)), (1, va_rf (x1)), (2, va_rf (x2)), (3, va_rf (x3)), (4, .int (x4))] [] w) (x0 : Option Nat) (x1 : Option Nat) (x2 : Option Nat) (x3 : Option Nat) (x4 : Int32) (w : xWd) (hf : f_L_law_445 k23 x0 x1 x2 x3 x4 w = some q) : xk_X p l e room_1 (s.setDrawn s.drawn) m #[Value.ref b] below meth c (lw_Z below #[Value.ref b] s) E 9 kc ks 445 [(0, va_rf (x0)), (1, va_rf (x1)), (2, va_rf (x2)), (3, va_rf (x3)), (4, .int (x4))] [] w := by
  refine xk_goto (tgt := 1703) hC dL_law_445 (by decide) ?_
  exact t_L_law_1703 hC hr hz hq hl9 (by omega) (by omega) (by omega) (by omega) hk23 x0 x1 x2 x3 x4 w hf
def f_L_law_525 (k23 : Option Nat → Option Nat → Option Nat → Option Nat → Int32 → xWd → Option (Int32 × xWd)) (x0 : Option Nat) (x1 : Option Nat) (x2 : Option Nat) (x3 : Option Nat) (x4 : Int32) (w : xWd) : Option (Int32 × xWd) := f_L_law_1703 k23 x0 x1 x2 x3 x4 w
set_option maxHeartbeats 4000000 in
set_option maxRecDepth 100000 in
theorem t_L_law_525 {p : Program} {l : Launch} {e : Env} {s : State} {m : MethodId} {b : Nat} {below : List Frame} {meth : Method} {c : Code} {E : xEv} (hC : xk_C p (s.setDrawn s.drawn) m #[Value.ref b] meth c E code "ClickbookLaw" 9) (hr : meth.sig.returnType = ret) (hz : E.2.2.1 = s.heap.size) {q : (Int32 × xWd)} (hq : q.1 = 1) (hl9 : l.stackTraces = false) {KC KS kc ks : Nat} (h1 : kc + 0 ≤ KC) (h2 : ks + 0 ≤ KS) (h3 : kc + 0 ≤ 316) (h4 : ks + 0 ≤ 12276) {k23 : Option Nat → Option Nat → Option Nat → Option Nat → Int32 → xWd → Option (Int32 × xWd)} (hk23 : ∀ (x0 : Option Nat) (x1 : Option Nat) (x2 : Option Nat) (x3 : Option Nat) (x4 : Int32) (w : xWd), k23 x0 x1 x2 x3 x4 w = some q → xk_X p l e room_1 (s.setDrawn s.drawn) m #[Value.ref b] below meth c (lw_Z below #[Value.ref b] s) E 9 KC KS 23 [(0, va_rf (x0)), (1, va_rf (x1)), (2, va_rf (x2)), (3, va_rf (x3)), (4, .int (x4))] [] w) (x0 : Option Nat) (x1 : Option Nat) (x2 : Option Nat) (x3 : Option Nat) (x4 : Int32) (w : xWd) (hf : f_L_law_525 k23 x0 x1 x2 x3 x4 w = some q) : xk_X p l e room_1 (s.setDrawn s.drawn) m #[Value.ref b] below meth c (lw_Z below #[Value.ref b] s) E 9 kc ks 525 [(0, va_rf (x0)), (1, va_rf (x1)), (2, va_rf (x2)), (3, va_rf (x3)), (4, .int (x4))] [] w := by
  refine xk_goto (tgt := 1703) hC dL_law_525 (by decide) ?_
  exact t_L_law_1703 hC hr hz hq hl9 (by omega) (by omega) (by omega) (by omega) hk23 x0 x1 x2 x3 x4 w hf
def f_L_law_617 (k23 : Option Nat → Option Nat → Option Nat → Option Nat → Int32 → xWd → Option (Int32 × xWd)) (x0 : Option Nat) (x1 : Option Nat) (x2 : Option Nat) (x3 : Option Nat) (x4 : Int32) (w : xWd) : Option (Int32 × xWd) := f_L_law_1703 k23 x0 x1 x2 x3 x4 w
set_option maxHeartbeats 4000000 in
set_option maxRecDepth 100000 in
theorem t_L_law_617 {p : Program} {l : Launch} {e : Env} {s : State} {m : MethodId} {b : Nat} {below : List Frame} {meth : Method} {c : Code} {E : xEv} (hC : xk_C p (s.setDrawn s.drawn) m #[Value.ref b] meth c E code "ClickbookLaw" 9) (hr : meth.sig.returnType = ret) (hz : E.2.2.1 = s.heap.size) {q : (Int32 × xWd)} (hq : q.1 = 1) (hl9 : l.stackTraces = false) {KC KS kc ks : Nat} (h1 : kc + 0 ≤ KC) (h2 : ks + 0 ≤ KS) (h3 : kc + 0 ≤ 316) (h4 : ks + 0 ≤ 12276) {k23 : Option Nat → Option Nat → Option Nat → Option Nat → Int32 → xWd → Option (Int32 × xWd)} (hk23 : ∀ (x0 : Option Nat) (x1 : Option Nat) (x2 : Option Nat) (x3 : Option Nat) (x4 : Int32) (w : xWd), k23 x0 x1 x2 x3 x4 w = some q → xk_X p l e room_1 (s.setDrawn s.drawn) m #[Value.ref b] below meth c (lw_Z below #[Value.ref b] s) E 9 KC KS 23 [(0, va_rf (x0)), (1, va_rf (x1)), (2, va_rf (x2)), (3, va_rf (x3)), (4, .int (x4))] [] w) (x0 : Option Nat) (x1 : Option Nat) (x2 : Option Nat) (x3 : Option Nat) (x4 : Int32) (w : xWd) (hf : f_L_law_617 k23 x0 x1 x2 x3 x4 w = some q) : xk_X p l e room_1 (s.setDrawn s.drawn) m #[Value.ref b] below meth c (lw_Z below #[Value.ref b] s) E 9 kc ks 617 [(0, va_rf (x0)), (1, va_rf (x1)), (2, va_rf (x2)), (3, va_rf (x3)), (4, .int (x4))] [] w := by
  refine xk_goto (tgt := 1703) hC dL_law_617 (by decide) ?_
  exact t_L_law_1703 hC hr hz hq hl9 (by omega) (by omega) (by omega) (by omega) hk23 x0 x1 x2 x3 x4 w hf
def f_L_law_685 (k23 : Option Nat → Option Nat → Option Nat → Option Nat → Int32 → xWd → Option (Int32 × xWd)) (x0 : Option Nat) (x1 : Option Nat) (x2 : Option Nat) (x3 : Option Nat) (x4 : Int32) (w : xWd) : Option (Int32 × xWd) := f_L_law_1703 k23 x0 x1 x2 x3 x4 w
set_option maxHeartbeats 4000000 in
set_option maxRecDepth 100000 in
theorem t_L_law_685 {p : Program} {l : Launch} {e : Env} {s : State} {m : MethodId} {b : Nat} {below : List Frame} {meth : Method} {c : Code} {E : xEv} (hC : xk_C p (s.setDrawn s.drawn) m #[Value.ref b] meth c E code "ClickbookLaw" 9) (hr : meth.sig.returnType = ret) (hz : E.2.2.1 = s.heap.size) {q : (Int32 × xWd)} (hq : q.1 = 1) (hl9 : l.stackTraces = false) {KC KS kc ks : Nat} (h1 : kc + 0 ≤ KC) (h2 : ks + 0 ≤ KS) (h3 : kc + 0 ≤ 316) (h4 : ks + 0 ≤ 12276) {k23 : Option Nat → Option Nat → Option Nat → Option Nat → Int32 → xWd → Option (Int32 × xWd)} (hk23 : ∀ (x0 : Option Nat) (x1 : Option Nat) (x2 : Option Nat) (x3 : Option Nat) (x4 : Int32) (w : xWd), k23 x0 x1 x2 x3 x4 w = some q → xk_X p l e room_1 (s.setDrawn s.drawn) m #[Value.ref b] below meth c (lw_Z below #[Value.ref b] s) E 9 KC KS 23 [(0, va_rf (x0)), (1, va_rf (x1)), (2, va_rf (x2)), (3, va_rf (x3)), (4, .int (x4))] [] w) (x0 : Option Nat) (x1 : Option Nat) (x2 : Option Nat) (x3 : Option Nat) (x4 : Int32) (w : xWd) (hf : f_L_law_685 k23 x0 x1 x2 x3 x4 w = some q) : xk_X p l e room_1 (s.setDrawn s.drawn) m #[Value.ref b] below meth c (lw_Z below #[Value.ref b] s) E 9 kc ks 685 [(0, va_rf (x0)), (1, va_rf (x1)), (2, va_rf (x2)), (3, va_rf (x3)), (4, .int (x4))] [] w := by
  refine xk_goto (tgt := 1703) hC dL_law_685 (by decide) ?_
  exact t_L_law_1703 hC hr hz hq hl9 (by omega) (by omega) (by omega) (by omega) hk23 x0 x1 x2 x3 x4 w hf
def f_L_law_741 (k23 : Option Nat → Option Nat → Option Nat → Option Nat → Int32 → xWd → Option (Int32 × xWd)) (x0 : Option Nat) (x1 : Option Nat) (x2 : Option Nat) (x3 : Option Nat) (x4 : Int32) (w : xWd) : Option (Int32 × xWd) := f_L_law_1703 k23 x0 x1 x2 x3 x4 w
set_option maxHeartbeats 4000000 in
set_option maxRecDepth 100000 in
theorem t_L_law_741 {p : Program} {l : Launch} {e : Env} {s : State} {m : MethodId} {b : Nat} {below : List Frame} {meth : Method} {c : Code} {E : xEv} (hC : xk_C p (s.setDrawn s.drawn) m #[Value.ref b] meth c E code "ClickbookLaw" 9) (hr : meth.sig.returnType = ret) (hz : E.2.2.1 = s.heap.size) {q : (Int32 × xWd)} (hq : q.1 = 1) (hl9 : l.stackTraces = false) {KC KS kc ks : Nat} (h1 : kc + 0 ≤ KC) (h2 : ks + 0 ≤ KS) (h3 : kc + 0 ≤ 316) (h4 : ks + 0 ≤ 12276) {k23 : Option Nat → Option Nat → Option Nat → Option Nat → Int32 → xWd → Option (Int32 × xWd)} (hk23 : ∀ (x0 : Option Nat) (x1 : Option Nat) (x2 : Option Nat) (x3 : Option Nat) (x4 : Int32) (w : xWd), k23 x0 x1 x2 x3 x4 w = some q → xk_X p l e room_1 (s.setDrawn s.drawn) m #[Value.ref b] below meth c (lw_Z below #[Value.ref b] s) E 9 KC KS 23 [(0, va_rf (x0)), (1, va_rf (x1)), (2, va_rf (x2)), (3, va_rf (x3)), (4, .int (x4))] [] w) (x0 : Option Nat) (x1 : Option Nat) (x2 : Option Nat) (x3 : Option Nat) (x4 : Int32) (w : xWd) (hf : f_L_law_741 k23 x0 x1 x2 x3 x4 w = some q) : xk_X p l e room_1 (s.setDrawn s.drawn) m #[Value.ref b] below meth c (lw_Z below #[Value.ref b] s) E 9 kc ks 741 [(0, va_rf (x0)), (1, va_rf (x1)), (2, va_rf (x2)), (3, va_rf (x3)), (4, .int (x4))] [] w := by
  refine xk_goto (tgt := 1703) hC dL_law_741 (by decide) ?_
  exact t_L_law_1703 hC hr hz hq hl9 (by omega) (by omega) (by omega) (by omega) hk23 x0 x1 x2 x3 x4 w hf
def f_L_law_821 (k23 : Option Nat → Option Nat → Option Nat → Option Nat → Int32 → xWd → Option (Int32 × xWd)) (x0 : Option Nat) (x1 : Option Nat) (x2 : Option Nat) (x3 : Option Nat) (x4 : Int32) (w : xWd) : Option (Int32 × xWd) := f_L_law_1703 k23 x0 x1 x2 x3 x4 w
set_option maxHeartbeats 4000000 in
set_option maxRecDepth 100000 in
theorem t_L_law_821 {p : Program} {l : Launch} {e : Env} {s : State} {m : MethodId} {b : Nat} {below : List Frame} {meth : Method} {c : Code} {E : xEv} (hC : xk_C p (s.setDrawn s.drawn) m #[Value.ref b] meth c E code "ClickbookLaw" 9) (hr : meth.sig.returnType = ret) (hz : E.2.2.1 = s.heap.size) {q : (Int32 × xWd)} (hq : q.1 = 1) (hl9 : l.stackTraces = false) {KC KS kc ks : Nat} (h1 : kc + 0 ≤ KC) (h2 : ks + 0 ≤ KS) (h3 : kc + 0 ≤ 316) (h4 : ks + 0 ≤ 12276) {k23 : Option Nat → Option Nat → Option Nat → Option Nat → Int32 → xWd → Option (Int32 × xWd)} (hk23 : ∀ (x0 : Option Nat) (x1 : Option Nat) (x2 : Option Nat) (x3 : Option Nat) (x4 : Int32) (w : xWd), k23 x0 x1 x2 x3 x4 w = some q → xk_X p l e room_1 (s.setDrawn s.drawn) m #[Value.ref b] below meth c (lw_Z below #[Value.ref b] s) E 9 KC KS 23 [(0, va_rf (x0)), (1, va_rf (x1)), (2, va_rf (x2)), (3, va_rf (x3)), (4, .int (x4))] [] w) (x0 : Option Nat) (x1 : Option Nat) (x2 : Option Nat) (x3 : Option Nat) (x4 : Int32) (w : xWd) (hf : f_L_law_821 k23 x0 x1 x2 x3 x4 w = some q) : xk_X p l e room_1 (s.setDrawn s.drawn) m #[Value.ref b] below meth c (lw_Z below #[Value.ref b] s) E 9 kc ks 821 [(0, va_rf (x0)), (1, va_rf (x1)), (2, va_rf (x2)), (3, va_rf (x3)), (4, .int (x4))] [] w := by
  refine xk_goto (tgt := 1703) hC dL_law_821 (by decide) ?_
  exact t_L_law_1703 hC hr hz hq hl9 (by omega) (by omega) (by omega) (by omega) hk23 x0 x1 x2 x3 x4 w hf
def f_L_law_865 (k23 : Option Nat → Option Nat → Option Nat → Option Nat → Int32 → xWd → Option (Int32 × xWd)) (x0 : Option Nat) (x1 : Option Nat) (x2 : Option Nat) (x3 : Option Nat) (x4 : Int32) (w : xWd) : Option (Int32 × xWd) := f_L_law_1703 k23 x0 x1 x2 x3 x4 w
set_option maxHeartbeats 4000000 in
set_option maxRecDepth 100000 in
theorem t_L_law_865 {p : Program} {l : Launch} {e : Env} {s : State} {m : MethodId} {b : Nat} {below : List Frame} {meth : Method} {c : Code} {E : xEv} (hC : xk_C p (s.setDrawn s.drawn) m #[Value.ref b] meth c E code "ClickbookLaw" 9) (hr : meth.sig.returnType = ret) (hz : E.2.2.1 = s.heap.size) {q : (Int32 × xWd)} (hq : q.1 = 1) (hl9 : l.stackTraces = false) {KC KS kc ks : Nat} (h1 : kc + 0 ≤ KC) (h2 : ks + 0 ≤ KS) (h3 : kc + 0 ≤ 316) (h4 : ks + 0 ≤ 12276) {k23 : Option Nat → Option Nat → Option Nat → Option Nat → Int32 → xWd → Option (Int32 × xWd)} (hk23 : ∀ (x0 : Option Nat) (x1 : Option Nat) (x2 : Option Nat) (x3 : Option Nat) (x4 : Int32) (w : xWd), k23 x0 x1 x2 x3 x4 w = some q → xk_X p l e room_1 (s.setDrawn s.drawn) m #[Value.ref b] below meth c (lw_Z below #[Value.ref b] s) E 9 KC KS 23 [(0, va_rf (x0)), (1, va_rf (x1)), (2, va_rf (x2)), (3, va_rf (x3)), (4, .int (x4))] [] w) (x0 : Option Nat) (x1 : Option Nat) (x2 : Option Nat) (x3 : Option Nat) (x4 : Int32) (w : xWd) (hf : f_L_law_865 k23 x0 x1 x2 x3 x4 w = some q) : xk_X p l e room_1 (s.setDrawn s.drawn) m #[Value.ref b] below meth c (lw_Z below #[Value.ref b] s) E 9 kc ks 865 [(0, va_rf (x0)), (1, va_rf (x1)), (2, va_rf (x2)), (3, va_rf (x3)), (4, .int (x4))] [] w := by
  refine xk_goto (tgt := 1703) hC dL_law_865 (by decide) ?_
  exact t_L_law_1703 hC hr hz hq hl9 (by omega) (by omega) (by omega) (by omega) hk23 x0 x1 x2 x3 x4 w hf
def f_L_law_933 (k23 : Option Nat → Option Nat → Option Nat → Option Nat → Int32 → xWd → Option (Int32 × xWd)) (x0 : Option Nat) (x1 : Option Nat) (x2 : Option Nat) (x3 : Option Nat) (x4 : Int32) (w : xWd) : Option (Int32 × xWd) := f_L_law_1703 k23 x0 x1 x2 x3 x4 w
set_option maxHeartbeats 4000000 in
set_option maxRecDepth 100000 in
theorem t_L_law_933 {p : Program} {l : Launch} {e : Env} {s : State} {m : MethodId} {b : Nat} {below : List Frame} {meth : Method} {c : Code} {E : xEv} (hC : xk_C p (s.setDrawn s.drawn) m #[Value.ref b] meth c E code "ClickbookLaw" 9) (hr : meth.sig.returnType = ret) (hz : E.2.2.1 = s.heap.size) {q : (Int32 × xWd)} (hq : q.1 = 1) (hl9 : l.stackTraces = false) {KC KS kc ks : Nat} (h1 : kc + 0 ≤ KC) (h2 : ks + 0 ≤ KS) (h3 : kc + 0 ≤ 316) (h4 : ks + 0 ≤ 12276) {k23 : Option Nat → Option Nat → Option Nat → Option Nat → Int32 → xWd → Option (Int32 × xWd)} (hk23 : ∀ (x0 : Option Nat) (x1 : Option Nat) (x2 : Option Nat) (x3 : Option Nat) (x4 : Int32) (w : xWd), k23 x0 x1 x2 x3 x4 w = some q → xk_X p l e room_1 (s.setDrawn s.drawn) m #[Value.ref b] below meth c (lw_Z below #[Value.ref b] s) E 9 KC KS 23 [(0, va_rf (x0)), (1, va_rf (x1)), (2, va_rf (x2)), (3, va_rf (x3)), (4, .int (x4))] [] w) (x0 : Option Nat) (x1 : Option Nat) (x2 : Option Nat) (x3 : Option Nat) (x4 : Int32) (w : xWd) (hf : f_L_law_933 k23 x0 x1 x2 x3 x4 w = some q) : xk_X p l e room_1 (s.setDrawn s.drawn) m #[Value.ref b] below meth c (lw_Z below #[Value.ref b] s) E 9 kc ks 933 [(0, va_rf (x0)), (1, va_rf (x1)), (2, va_rf (x2)), (3, va_rf (x3)), (4, .int (x4))] [] w := by
  refine xk_goto (tgt := 1703) hC dL_law_933 (by decide) ?_
  exact t_L_law_1703 hC hr hz hq hl9 (by omega) (by omega) (by omega) (by omega) hk23 x0 x1 x2 x3 x4 w hf
def f_L_law_1001 (k23 : Option Nat → Option Nat → Option Nat → Option Nat → Int32 → xWd → Option (Int32 × xWd)) (x0 : Option Nat) (x1 : Option Nat) (x2 : Option Nat) (x3 : Option Nat) (x4 : Int32) (w : xWd) : Option (Int32 × xWd) := f_L_law_1703 k23 x0 x1 x2 x3 x4 w
set_option maxHeartbeats 4000000 in
set_option maxRecDepth 100000 in
theorem t_L_law_1001 {p : Program} {l : Launch} {e : Env} {s : State} {m : MethodId} {b : Nat} {below : List Frame} {meth : Method} {c : Code} {E : xEv} (hC : xk_C p (s.setDrawn s.drawn) m #[Value.ref b] meth c E code "ClickbookLaw" 9) (hr : meth.sig.returnType = ret) (hz : E.2.2.1 = s.heap.size) {q : (Int32 × xWd)} (hq : q.1 = 1) (hl9 : l.stackTraces = false) {KC KS kc ks : Nat} (h1 : kc + 0 ≤ KC) (h2 : ks + 0 ≤ KS) (h3 : kc + 0 ≤ 316) (h4 : ks + 0 ≤ 12276) {k23 : Option Nat → Option Nat → Option Nat → Option Nat → Int32 → xWd → Option (Int32 × xWd)} (hk23 : ∀ (x0 : Option Nat) (x1 : Option Nat) (x2 : Option Nat) (x3 : Option Nat) (x4 : Int32) (w : xWd), k23 x0 x1 x2 x3 x4 w = some q → xk_X p l e room_1 (s.setDrawn s.drawn) m #[Value.ref b] below meth c (lw_Z below #[Value.ref b] s) E 9 KC KS 23 [(0, va_rf (x0)), (1, va_rf (x1)), (2, va_rf (x2)), (3, va_rf (x3)), (4, .int (x4))] [] w) (x0 : Option Nat) (x1 : Option Nat) (x2 : Option Nat) (x3 : Option Nat) (x4 : Int32) (w : xWd) (hf : f_L_law_1001 k23 x0 x1 x2 x3 x4 w = some q) : xk_X p l e room_1 (s.setDrawn s.drawn) m #[Value.ref b] below meth c (lw_Z below #[Value.ref b] s) E 9 kc ks 1001 [(0, va_rf (x0)), (1, va_rf (x1)), (2, va_rf (x2)), (3, va_rf (x3)), (4, .int (x4))] [] w := by
  refine xk_goto (tgt := 1703) hC dL_law_1001 (by decide) ?_
  exact t_L_law_1703 hC hr hz hq hl9 (by omega) (by omega) (by omega) (by omega) hk23 x0 x1 x2 x3 x4 w hf
def f_L_law_1081 (k23 : Option Nat → Option Nat → Option Nat → Option Nat → Int32 → xWd → Option (Int32 × xWd)) (x0 : Option Nat) (x1 : Option Nat) (x2 : Option Nat) (x3 : Option Nat) (x4 : Int32) (w : xWd) : Option (Int32 × xWd) := f_L_law_1703 k23 x0 x1 x2 x3 x4 w
set_option maxHeartbeats 4000000 in
set_option maxRecDepth 100000 in
theorem t_L_law_1081 {p : Program} {l : Launch} {e : Env} {s : State} {m : MethodId} {b : Nat} {below : List Frame} {meth : Method} {c : Code} {E : xEv} (hC : xk_C p (s.setDrawn s.drawn) m #[Value.ref b] meth c E code "ClickbookLaw" 9) (hr : meth.sig.returnType = ret) (hz : E.2.2.1 = s.heap.size) {q : (Int32 × xWd)} (hq : q.1 = 1) (hl9 : l.stackTraces = false) {KC KS kc ks : Nat} (h1 : kc + 0 ≤ KC) (h2 : ks + 0 ≤ KS) (h3 : kc + 0 ≤ 316) (h4 : ks + 0 ≤ 12276) {k23 : Option Nat → Option Nat → Option Nat → Option Nat → Int32 → xWd → Option (Int32 × xWd)} (hk23 : ∀ (x0 : Option Nat) (x1 : Option Nat) (x2 : Option Nat) (x3 : Option Nat) (x4 : Int32) (w : xWd), k23 x0 x1 x2 x3 x4 w = some q → xk_X p l e room_1 (s.setDrawn s.drawn) m #[Value.ref b] below meth c (lw_Z below #[Value.ref b] s) E 9 KC KS 23 [(0, va_rf (x0)), (1, va_rf (x1)), (2, va_rf (x2)), (3, va_rf (x3)), (4, .int (x4))] [] w) (x0 : Option Nat) (x1 : Option Nat) (x2 : Option Nat) (x3 : Option Nat) (x4 : Int32) (w : xWd) (hf : f_L_law_1081 k23 x0 x1 x2 x3 x4 w = some q) : xk_X p l e room_1 (s.setDrawn s.drawn) m #[Value.ref b] below meth c (lw_Z below #[Value.ref b] s) E 9 kc ks 1081 [(0, va_rf (x0)), (1, va_rf (x1)), (2, va_rf (x2)), (3, va_rf (x3)), (4, .int (x4))] [] w := by
  refine xk_goto (tgt := 1703) hC dL_law_1081 (by decide) ?_
  exact t_L_law_1703 hC hr hz hq hl9 (by omega) (by omega) (by omega) (by omega) hk23 x0 x1 x2 x3 x4 w hf
def f_L_law_1149 (k23 : Option Nat → Option Nat → Option Nat → Option Nat → Int32 → xWd → Option (Int32 × xWd)) (x0 : Option Nat) (x1 : Option Nat) (x2 : Option Nat) (x3 : Option Nat) (x4 : Int32) (w : xWd) : Option (Int32 × xWd) := f_L_law_1703 k23 x0 x1 x2 x3 x4 w
set_option maxHeartbeats 4000000 in
set_option maxRecDepth 100000 in
theorem t_L_law_1149 {p : Program} {l : Launch} {e : Env} {s : State} {m : MethodId} {b : Nat} {below : List Frame} {meth : Method} {c : Code} {E : xEv} (hC : xk_C p (s.setDrawn s.drawn) m #[Value.ref b] meth c E code "ClickbookLaw" 9) (hr : meth.sig.returnType = ret) (hz : E.2.2.1 = s.heap.size) {q : (Int32 × xWd)} (hq : q.1 = 1) (hl9 : l.stackTraces = false) {KC KS kc ks : Nat} (h1 : kc + 0 ≤ KC) (h2 : ks + 0 ≤ KS) (h3 : kc + 0 ≤ 316) (h4 : ks + 0 ≤ 12276) {k23 : Option Nat → Option Nat → Option Nat → Option Nat → Int32 → xWd → Option (Int32 × xWd)} (hk23 : ∀ (x0 : Option Nat) (x1 : Option Nat) (x2 : Option Nat) (x3 : Option Nat) (x4 : Int32) (w : xWd), k23 x0 x1 x2 x3 x4 w = some q → xk_X p l e room_1 (s.setDrawn s.drawn) m #[Value.ref b] below meth c (lw_Z below #[Value.ref b] s) E 9 KC KS 23 [(0, va_rf (x0)), (1, va_rf (x1)), (2, va_rf (x2)), (3, va_rf (x3)), (4, .int (x4))] [] w) (x0 : Option Nat) (x1 : Option Nat) (x2 : Option Nat) (x3 : Option Nat) (x4 : Int32) (w : xWd) (hf : f_L_law_1149 k23 x0 x1 x2 x3 x4 w = some q) : xk_X p l e room_1 (s.setDrawn s.drawn) m #[Value.ref b] below meth c (lw_Z below #[Value.ref b] s) E 9 kc ks 1149 [(0, va_rf (x0)), (1, va_rf (x1)), (2, va_rf (x2)), (3, va_rf (x3)), (4, .int (x4))] [] w := by
  refine xk_goto (tgt := 1703) hC dL_law_1149 (by decide) ?_
  exact t_L_law_1703 hC hr hz hq hl9 (by omega) (by omega) (by omega) (by omega) hk23 x0 x1 x2 x3 x4 w hf
def f_L_law_1217 (k23 : Option Nat → Option Nat → Option Nat → Option Nat → Int32 → xWd → Option (Int32 × xWd)) (x0 : Option Nat) (x1 : Option Nat) (x2 : Option Nat) (x3 : Option Nat) (x4 : Int32) (w : xWd) : Option (Int32 × xWd) := f_L_law_1703 k23 x0 x1 x2 x3 x4 w
set_option maxHeartbeats 4000000 in
set_option maxRecDepth 100000 in
theorem t_L_law_1217 {p : Program} {l : Launch} {e : Env} {s : State} {m : MethodId} {b : Nat} {below : List Frame} {meth : Method} {c : Code} {E : xEv} (hC : xk_C p (s.setDrawn s.drawn) m #[Value.ref b] meth c E code "ClickbookLaw" 9) (hr : meth.sig.returnType = ret) (hz : E.2.2.1 = s.heap.size) {q : (Int32 × xWd)} (hq : q.1 = 1) (hl9 : l.stackTraces = false) {KC KS kc ks : Nat} (h1 : kc + 0 ≤ KC) (h2 : ks + 0 ≤ KS) (h3 : kc + 0 ≤ 316) (h4 : ks + 0 ≤ 12276) {k23 : Option Nat → Option Nat → Option Nat → Option Nat → Int32 → xWd → Option (Int32 × xWd)} (hk23 : ∀ (x0 : Option Nat) (x1 : Option Nat) (x2 : Option Nat) (x3 : Option Nat) (x4 : Int32) (w : xWd), k23 x0 x1 x2 x3 x4 w = some q → xk_X p l e room_1 (s.setDrawn s.drawn) m #[Value.ref b] below meth c (lw_Z below #[Value.ref b] s) E 9 KC KS 23 [(0, va_rf (x0)), (1, va_rf (x1)), (2, va_rf (x2)), (3, va_rf (x3)), (4, .int (x4))] [] w) (x0 : Option Nat) (x1 : Option Nat) (x2 : Option Nat) (x3 : Option Nat) (x4 : Int32) (w : xWd) (hf : f_L_law_1217 k23 x0 x1 x2 x3 x4 w = some q) : xk_X p l e room_1 (s.setDrawn s.drawn) m #[Value.ref b] below meth c (lw_Z below #[Value.ref b] s) E 9 kc ks 1217 [(0, va_rf (x0)), (1, va_rf (x1)), (2, va_rf (x2)), (3, va_rf (x3)), (4, .int (x4))] [] w := by
  refine xk_goto (tgt := 1703) hC dL_law_1217 (by decide) ?_
  exact t_L_law_1703 hC hr hz hq hl9 (by omega) (by omega) (by omega) (by omega) hk23 x0 x1 x2 x3 x4 w hf
def f_L_law_1273 (k23 : Option Nat → Option Nat → Option Nat → Option Nat → Int32 → xWd → Option (Int32 × xWd)) (x0 : Option Nat) (x1 : Option Nat) (x2 : Option Nat) (x3 : Option Nat) (x4 : Int32) (w : xWd) : Option (Int32 × xWd) := f_L_law_1703 k23 x0 x1 x2 x3 x4 w
set_option maxHeartbeats 4000000 in
set_option maxRecDepth 100000 in
theorem t_L_law_1273 {p : Program} {l : Launch} {e : Env} {s : State} {m : MethodId} {b : Nat} {below : List Frame} {meth : Method} {c : Code} {E : xEv} (hC : xk_C p (s.setDrawn s.drawn) m #[Value.ref b] meth c E code "ClickbookLaw" 9) (hr : meth.sig.returnType = ret) (hz : E.2.2.1 = s.heap.size) {q : (Int32 × xWd)} (hq : q.1 = 1) (hl9 : l.stackTraces = false) {KC KS kc ks : Nat} (h1 : kc + 0 ≤ KC) (h2 : ks + 0 ≤ KS) (h3 : kc + 0 ≤ 316) (h4 : ks + 0 ≤ 12276) {k23 : Option Nat → Option Nat → Option Nat → Option Nat → Int32 → xWd → Option (Int32 × xWd)} (hk23 : ∀ (x0 : Option Nat) (x1 : Option Nat) (x2 : Option Nat) (x3 : Option Nat) (x4 : Int32) (w : xWd), k23 x0 x1 x2 x3 x4 w = some q → xk_X p l e room_1 (s.setDrawn s.drawn) m #[Value.ref b] below meth c (lw_Z below #[Value.ref b] s) E 9 KC KS 23 [(0, va_rf (x0)), (1, va_rf (x1)), (2, va_rf (x2)), (3, va_rf (x3)), (4, .int (x4))] [] w) (x0 : Option Nat) (x1 : Option Nat) (x2 : Option Nat) (x3 : Option Nat) (x4 : Int32) (w : xWd) (hf : f_L_law_1273 k23 x0 x1 x2 x3 x4 w = some q) : xk_X p l e room_1 (s.setDrawn s.drawn) m #[Value.ref b] below meth c (lw_Z below #[Value.ref b] s) E 9 kc ks 1273 [(0, va_rf (x0)), (1, va_rf (x1)), (2, va_rf (x2)), (3, va_rf (x3)), (4, .int (x4))] [] w := by
  refine xk_goto (tgt := 1703) hC dL_law_1273 (by decide) ?_
  exact t_L_law_1703 hC hr hz hq hl9 (by omega) (by omega) (by omega) (by omega) hk23 x0 x1 x2 x3 x4 w hf
def f_L_law_1329 (k23 : Option Nat → Option Nat → Option Nat → Option Nat → Int32 → xWd → Option (Int32 × xWd)) (x0 : Option Nat) (x1 : Option Nat) (x2 : Option Nat) (x3 : Option Nat) (x4 : Int32) (w : xWd) : Option (Int32 × xWd) := f_L_law_1703 k23 x0 x1 x2 x3 x4 w
set_option maxHeartbeats 4000000 in
set_option maxRecDepth 100000 in
theorem t_L_law_1329 {p : Program} {l : Launch} {e : Env} {s : State} {m : MethodId} {b : Nat} {below : List Frame} {meth : Method} {c : Code} {E : xEv} (hC : xk_C p (s.setDrawn s.drawn) m #[Value.ref b] meth c E code "ClickbookLaw" 9) (hr : meth.sig.returnType = ret) (hz : E.2.2.1 = s.heap.size) {q : (Int32 × xWd)} (hq : q.1 = 1) (hl9 : l.stackTraces = false) {KC KS kc ks : Nat} (h1 : kc + 0 ≤ KC) (h2 : ks + 0 ≤ KS) (h3 : kc + 0 ≤ 316) (h4 : ks + 0 ≤ 12276) {k23 : Option Nat → Option Nat → Option Nat → Option Nat → Int32 → xWd → Option (Int32 × xWd)} (hk23 : ∀ (x0 : Option Nat) (x1 : Option Nat) (x2 : Option Nat) (x3 : Option Nat) (x4 : Int32) (w : xWd), k23 x0 x1 x2 x3 x4 w = some q → xk_X p l e room_1 (s.setDrawn s.drawn) m #[Value.ref b] below meth c (lw_Z below #[Value.ref b] s) E 9 KC KS 23 [(0, va_rf (x0)), (1, va_rf (x1)), (2, va_rf (x2)), (3, va_rf (x3)), (4, .int (x4))] [] w) (x0 : Option Nat) (x1 : Option Nat) (x2 : Option Nat) (x3 : Option Nat) (x4 : Int32) (w : xWd) (hf : f_L_law_1329 k23 x0 x1 x2 x3 x4 w = some q) : xk_X p l e room_1 (s.setDrawn s.drawn) m #[Value.ref b] below meth c (lw_Z below #[Value.ref b] s) E 9 kc ks 1329 [(0, va_rf (x0)), (1, va_rf (x1)), (2, va_rf (x2)), (3, va_rf (x3)), (4, .int (x4))] [] w := by
  refine xk_goto (tgt := 1703) hC dL_law_1329 (by decide) ?_
  exact t_L_law_1703 hC hr hz hq hl9 (by omega) (by omega) (by omega) (by omega) hk23 x0 x1 x2 x3 x4 w hf
def f_L_law_1368 (w : xWd) : Option (Int32 × xWd) := some ((0 : Int32), w)
set_option maxHeartbeats 4000000 in
set_option maxRecDepth 100000 in
theorem t_L_law_1368 {p : Program} {l : Launch} {e : Env} {s : State} {m : MethodId} {b : Nat} {below : List Frame} {meth : Method} {c : Code} {E : xEv} (hC : xk_C p (s.setDrawn s.drawn) m #[Value.ref b] meth c E code "ClickbookLaw" 9) (hr : meth.sig.returnType = ret) (hz : E.2.2.1 = s.heap.size) {q : (Int32 × xWd)} (hq : q.1 = 1) (hl9 : l.stackTraces = false) (w : xWd) (hf : f_L_law_1368 w = some q) : xk_X p l e room_1 (s.setDrawn s.drawn) m #[Value.ref b] below meth c (lw_Z below #[Value.ref b] s) E 9 316 12276 1368 [] [] w := by
  refine xk_iconst (v := (0 : Int32)) hC dL_law_1368 (by decide) ?_
  cases hf
  exact xk_lawret hC hr hz hq (Nat.le_of_ble_eq_true rfl) (Nat.le_of_ble_eq_true rfl) dL_law_1369
def f_L_law_1370 (k23 : Option Nat → Option Nat → Option Nat → Option Nat → Int32 → xWd → Option (Int32 × xWd)) (x0 : Option Nat) (x1 : Option Nat) (x2 : Option Nat) (x3 : Option Nat) (x4 : Int32) (w : xWd) : Option (Int32 × xWd) := f_L_law_1703 k23 x0 x1 x2 x3 x4 w
set_option maxHeartbeats 4000000 in
set_option maxRecDepth 100000 in
theorem t_L_law_1370 {p : Program} {l : Launch} {e : Env} {s : State} {m : MethodId} {b : Nat} {below : List Frame} {meth : Method} {c : Code} {E : xEv} (hC : xk_C p (s.setDrawn s.drawn) m #[Value.ref b] meth c E code "ClickbookLaw" 9) (hr : meth.sig.returnType = ret) (hz : E.2.2.1 = s.heap.size) {q : (Int32 × xWd)} (hq : q.1 = 1) (hl9 : l.stackTraces = false) {KC KS kc ks : Nat} (h1 : kc + 0 ≤ KC) (h2 : ks + 0 ≤ KS) (h3 : kc + 0 ≤ 316) (h4 : ks + 0 ≤ 12276) {k23 : Option Nat → Option Nat → Option Nat → Option Nat → Int32 → xWd → Option (Int32 × xWd)} (hk23 : ∀ (x0 : Option Nat) (x1 : Option Nat) (x2 : Option Nat) (x3 : Option Nat) (x4 : Int32) (w : xWd), k23 x0 x1 x2 x3 x4 w = some q → xk_X p l e room_1 (s.setDrawn s.drawn) m #[Value.ref b] below meth c (lw_Z below #[Value.ref b] s) E 9 KC KS 23 [(0, va_rf (x0)), (1, va_rf (x1)), (2, va_rf (x2)), (3, va_rf (x3)), (4, .int (x4))] [] w) (x0 : Option Nat) (x1 : Option Nat) (x2 : Option Nat) (x3 : Option Nat) (x4 : Int32) (w : xWd) (hf : f_L_law_1370 k23 x0 x1 x2 x3 x4 w = some q) : xk_X p l e room_1 (s.setDrawn s.drawn) m #[Value.ref b] below meth c (lw_Z below #[Value.ref b] s) E 9 kc ks 1370 [(0, va_rf (x0)), (1, va_rf (x1)), (2, va_rf (x2)), (3, va_rf (x3)), (4, .int (x4))] [] w := by
  refine xk_goto (tgt := 1703) hC dL_law_1370 (by decide) ?_
  exact t_L_law_1703 hC hr hz hq hl9 (by omega) (by omega) (by omega) (by omega) hk23 x0 x1 x2 x3 x4 w hf
def f_L_law_1426 (k23 : Option Nat → Option Nat → Option Nat → Option Nat → Int32 → xWd → Option (Int32 × xWd)) (x0 : Option Nat) (x1 : Option Nat) (x2 : Option Nat) (x3 : Option Nat) (x4 : Int32) (w : xWd) : Option (Int32 × xWd) := f_L_law_1703 k23 x0 x1 x2 x3 x4 w
set_option maxHeartbeats 4000000 in
set_option maxRecDepth 100000 in
theorem t_L_law_1426 {p : Program} {l : Launch} {e : Env} {s : State} {m : MethodId} {b : Nat} {below : List Frame} {meth : Method} {c : Code} {E : xEv} (hC : xk_C p (s.setDrawn s.drawn) m #[Value.ref b] meth c E code "ClickbookLaw" 9) (hr : meth.sig.returnType = ret) (hz : E.2.2.1 = s.heap.size) {q : (Int32 × xWd)} (hq : q.1 = 1) (hl9 : l.stackTraces = false) {KC KS kc ks : Nat} (h1 : kc + 0 ≤ KC) (h2 : ks + 0 ≤ KS) (h3 : kc + 0 ≤ 316) (h4 : ks + 0 ≤ 12276) {k23 : Option Nat → Option Nat → Option Nat → Option Nat → Int32 → xWd → Option (Int32 × xWd)} (hk23 : ∀ (x0 : Option Nat) (x1 : Option Nat) (x2 : Option Nat) (x3 : Option Nat) (x4 : Int32) (w : xWd), k23 x0 x1 x2 x3 x4 w = some q → xk_X p l e room_1 (s.setDrawn s.drawn) m #[Value.ref b] below meth c (lw_Z below #[Value.ref b] s) E 9 KC KS 23 [(0, va_rf (x0)), (1, va_rf (x1)), (2, va_rf (x2)), (3, va_rf (x3)), (4, .int (x4))] [] w) (x0 : Option Nat) (x1 : Option Nat) (x2 : Option Nat) (x3 : Option Nat) (x4 : Int32) (w : xWd) (hf : f_L_law_1426 k23 x0 x1 x2 x3 x4 w = some q) : xk_X p l e room_1 (s.setDrawn s.drawn) m #[Value.ref b] below meth c (lw_Z below #[Value.ref b] s) E 9 kc ks 1426 [(0, va_rf (x0)), (1, va_rf (x1)), (2, va_rf (x2)), (3, va_rf (x3)), (4, .int (x4))] [] w := by
  refine xk_goto (tgt := 1703) hC dL_law_1426 (by decide) ?_
  exact t_L_law_1703 hC hr hz hq hl9 (by omega) (by omega) (by omega) (by omega) hk23 x0 x1 x2 x3 x4 w hf
def f_L_law_1494 (k23 : Option Nat → Option Nat → Option Nat → Option Nat → Int32 → xWd → Option (Int32 × xWd)) (x0 : Option Nat) (x1 : Option Nat) (x2 : Option Nat) (x3 : Option Nat) (x4 : Int32) (w : xWd) : Option (Int32 × xWd) := f_L_law_1703 k23 x0 x1 x2 x3 x4 w
set_option maxHeartbeats 4000000 in
set_option maxRecDepth 100000 in
theorem t_L_law_1494 {p : Program} {l : Launch} {e : Env} {s : State} {m : MethodId} {b : Nat} {below : List Frame} {meth : Method} {c : Code} {E : xEv} (hC : xk_C p (s.setDrawn s.drawn) m #[Value.ref b] meth c E code "ClickbookLaw" 9) (hr : meth.sig.returnType = ret) (hz : E.2.2.1 = s.heap.size) {q : (Int32 × xWd)} (hq : q.1 = 1) (hl9 : l.stackTraces = false) {KC KS kc ks : Nat} (h1 : kc + 0 ≤ KC) (h2 : ks + 0 ≤ KS) (h3 : kc + 0 ≤ 316) (h4 : ks + 0 ≤ 12276) {k23 : Option Nat → Option Nat → Option Nat → Option Nat → Int32 → xWd → Option (Int32 × xWd)} (hk23 : ∀ (x0 : Option Nat) (x1 : Option Nat) (x2 : Option Nat) (x3 : Option Nat) (x4 : Int32) (w : xWd), k23 x0 x1 x2 x3 x4 w = some q → xk_X p l e room_1 (s.setDrawn s.drawn) m #[Value.ref b] below meth c (lw_Z below #[Value.ref b] s) E 9 KC KS 23 [(0, va_rf (x0)), (1, va_rf (x1)), (2, va_rf (x2)), (3, va_rf (x3)), (4, .int (x4))] [] w) (x0 : Option Nat) (x1 : Option Nat) (x2 : Option Nat) (x3 : Option Nat) (x4 : Int32) (w : xWd) (hf : f_L_law_1494 k23 x0 x1 x2 x3 x4 w = some q) : xk_X p l e room_1 (s.setDrawn s.drawn) m #[Value.ref b] below meth c (lw_Z below #[Value.ref b] s) E 9 kc ks 1494 [(0, va_rf (x0)), (1, va_rf (x1)), (2, va_rf (x2)), (3, va_rf (x3)), (4, .int (x4))] [] w := by
  refine xk_goto (tgt := 1703) hC dL_law_1494 (by decide) ?_
  exact t_L_law_1703 hC hr hz hq hl9 (by omega) (by omega) (by omega) (by omega) hk23 x0 x1 x2 x3 x4 w hf
def f_L_law_1550 (k23 : Option Nat → Option Nat → Option Nat → Option Nat → Int32 → xWd → Option (Int32 × xWd)) (x0 : Option Nat) (x1 : Option Nat) (x2 : Option Nat) (x3 : Option Nat) (x4 : Int32) (w : xWd) : Option (Int32 × xWd) := f_L_law_1703 k23 x0 x1 x2 x3 x4 w
set_option maxHeartbeats 4000000 in
set_option maxRecDepth 100000 in
theorem t_L_law_1550 {p : Program} {l : Launch} {e : Env} {s : State} {m : MethodId} {b : Nat} {below : List Frame} {meth : Method} {c : Code} {E : xEv} (hC : xk_C p (s.setDrawn s.drawn) m #[Value.ref b] meth c E code "ClickbookLaw" 9) (hr : meth.sig.returnType = ret) (hz : E.2.2.1 = s.heap.size) {q : (Int32 × xWd)} (hq : q.1 = 1) (hl9 : l.stackTraces = false) {KC KS kc ks : Nat} (h1 : kc + 0 ≤ KC) (h2 : ks + 0 ≤ KS) (h3 : kc + 0 ≤ 316) (h4 : ks + 0 ≤ 12276) {k23 : Option Nat → Option Nat → Option Nat → Option Nat → Int32 → xWd → Option (Int32 × xWd)} (hk23 : ∀ (x0 : Option Nat) (x1 : Option Nat) (x2 : Option Nat) (x3 : Option Nat) (x4 : Int32) (w : xWd), k23 x0 x1 x2 x3 x4 w = some q → xk_X p l e room_1 (s.setDrawn s.drawn) m #[Value.ref b] below meth c (lw_Z below #[Value.ref b] s) E 9 KC KS 23 [(0, va_rf (x0)), (1, va_rf (x1)), (2, va_rf (x2)), (3, va_rf (x3)), (4, .int (x4))] [] w) (x0 : Option Nat) (x1 : Option Nat) (x2 : Option Nat) (x3 : Option Nat) (x4 : Int32) (w : xWd) (hf : f_L_law_1550 k23 x0 x1 x2 x3 x4 w = some q) : xk_X p l e room_1 (s.setDrawn s.drawn) m #[Value.ref b] below meth c (lw_Z below #[Value.ref b] s) E 9 kc ks 1550 [(0, va_rf (x0)), (1, va_rf (x1)), (2, va_rf (x2)), (3, va_rf (x3)), (4, .int (x4))] [] w := by
  refine xk_goto (tgt := 1703) hC dL_law_1550 (by decide) ?_
  exact t_L_law_1703 hC hr hz hq hl9 (by omega) (by omega) (by omega) (by omega) hk23 x0 x1 x2 x3 x4 w hf
def f_L_law_1618 (k23 : Option Nat → Option Nat → Option Nat → Option Nat → Int32 → xWd → Option (Int32 × xWd)) (x0 : Option Nat) (x1 : Option Nat) (x2 : Option Nat) (x3 : Option Nat) (x4 : Int32) (w : xWd) : Option (Int32 × xWd) := f_L_law_1703 k23 x0 x1 x2 x3 x4 w
set_option maxHeartbeats 4000000 in
set_option maxRecDepth 100000 in
theorem t_L_law_1618 {p : Program} {l : Launch} {e : Env} {s : State} {m : MethodId} {b : Nat} {below : List Frame} {meth : Method} {c : Code} {E : xEv} (hC : xk_C p (s.setDrawn s.drawn) m #[Value.ref b] meth c E code "ClickbookLaw" 9) (hr : meth.sig.returnType = ret) (hz : E.2.2.1 = s.heap.size) {q : (Int32 × xWd)} (hq : q.1 = 1) (hl9 : l.stackTraces = false) {KC KS kc ks : Nat} (h1 : kc + 0 ≤ KC) (h2 : ks + 0 ≤ KS) (h3 : kc + 0 ≤ 316) (h4 : ks + 0 ≤ 12276) {k23 : Option Nat → Option Nat → Option Nat → Option Nat → Int32 → xWd → Option (Int32 × xWd)} (hk23 : ∀ (x0 : Option Nat) (x1 : Option Nat) (x2 : Option Nat) (x3 : Option Nat) (x4 : Int32) (w : xWd), k23 x0 x1 x2 x3 x4 w = some q → xk_X p l e room_1 (s.setDrawn s.drawn) m #[Value.ref b] below meth c (lw_Z below #[Value.ref b] s) E 9 KC KS 23 [(0, va_rf (x0)), (1, va_rf (x1)), (2, va_rf (x2)), (3, va_rf (x3)), (4, .int (x4))] [] w) (x0 : Option Nat) (x1 : Option Nat) (x2 : Option Nat) (x3 : Option Nat) (x4 : Int32) (w : xWd) (hf : f_L_law_1618 k23 x0 x1 x2 x3 x4 w = some q) : xk_X p l e room_1 (s.setDrawn s.drawn) m #[Value.ref b] below meth c (lw_Z below #[Value.ref b] s) E 9 kc ks 1618 [(0, va_rf (x0)), (1, va_rf (x1)), (2, va_rf (x2)), (3, va_rf (x3)), (4, .int (x4))] [] w := by
  refine xk_goto (tgt := 1703) hC dL_law_1618 (by decide) ?_
  exact t_L_law_1703 hC hr hz hq hl9 (by omega) (by omega) (by omega) (by omega) hk23 x0 x1 x2 x3 x4 w hf
def f_L_law_1686 (k23 : Option Nat → Option Nat → Option Nat → Option Nat → Int32 → xWd → Option (Int32 × xWd)) (x0 : Option Nat) (x1 : Option Nat) (x2 : Option Nat) (x3 : Option Nat) (x4 : Int32) (w : xWd) : Option (Int32 × xWd) := f_L_law_1703 k23 x0 x1 x2 x3 x4 w
set_option maxHeartbeats 4000000 in
set_option maxRecDepth 100000 in
theorem t_L_law_1686 {p : Program} {l : Launch} {e : Env} {s : State} {m : MethodId} {b : Nat} {below : List Frame} {meth : Method} {c : Code} {E : xEv} (hC : xk_C p (s.setDrawn s.drawn) m #[Value.ref b] meth c E code "ClickbookLaw" 9) (hr : meth.sig.returnType = ret) (hz : E.2.2.1 = s.heap.size) {q : (Int32 × xWd)} (hq : q.1 = 1) (hl9 : l.stackTraces = false) {KC KS kc ks : Nat} (h1 : kc + 0 ≤ KC) (h2 : ks + 0 ≤ KS) (h3 : kc + 0 ≤ 316) (h4 : ks + 0 ≤ 12276) {k23 : Option Nat → Option Nat → Option Nat → Option Nat → Int32 → xWd → Option (Int32 × xWd)} (hk23 : ∀ (x0 : Option Nat) (x1 : Option Nat) (x2 : Option Nat) (x3 : Option Nat) (x4 : Int32) (w : xWd), k23 x0 x1 x2 x3 x4 w = some q → xk_X p l e room_1 (s.setDrawn s.drawn) m #[Value.ref b] below meth c (lw_Z below #[Value.ref b] s) E 9 KC KS 23 [(0, va_rf (x0)), (1, va_rf (x1)), (2, va_rf (x2)), (3, va_rf (x3)), (4, .int (x4))] [] w) (x0 : Option Nat) (x1 : Option Nat) (x2 : Option Nat) (x3 : Option Nat) (x4 : Int32) (w : xWd) (hf : f_L_law_1686 k23 x0 x1 x2 x3 x4 w = some q) : xk_X p l e room_1 (s.setDrawn s.drawn) m #[Value.ref b] below meth c (lw_Z below #[Value.ref b] s) E 9 kc ks 1686 [(0, va_rf (x0)), (1, va_rf (x1)), (2, va_rf (x2)), (3, va_rf (x3)), (4, .int (x4))] [] w := by
  refine xk_goto (tgt := 1703) hC dL_law_1686 (by decide) ?_
  exact t_L_law_1703 hC hr hz hq hl9 (by omega) (by omega) (by omega) (by omega) hk23 x0 x1 x2 x3 x4 w hf
def f_L_law_23 : Nat → Option Nat → Option Nat → Option Nat → Option Nat → Int32 → xWd → Option (Int32 × xWd)
  | 0, _, _, _, _, _, _ => none
  | n + 1, x0, x1, x2, x3, x4, w => (xk_len w (x0)).bind (fun v1 => if ((v1) - ((6 : Int32))) < (x4) then some ((1 : Int32), w) else (xk_lI 0 w (x0) (x4)).bind (fun v3 => if ((v3) &&& ((31 : Int32))) = (0 : Int32) then (xk_lI 0 w (x0) ((x4) + ((1 : Int32)))).bind (fun v5 => (xk_lI 0 w (x0) ((x4) + ((2 : Int32)))).bind (fun v6 => (f_L_hit (x1) (v5) (v6) (x3) w).bind (fun q7 => (xk_lI 0 q7.2 (x0) ((x4) + ((1 : Int32)))).bind (fun v8 => (xk_lI 0 q7.2 (x0) ((x4) + ((2 : Int32)))).bind (fun v9 => (xk_is q7.2 (x2) 5).bind (fun u11 => (f_X8_hit (x2) (v8) (v9) q7.2).bind (fun q10 => (xk_is q10.2 (x2) 5).bind (fun u13 => (f_X8_thrown (x2)  q10.2).bind (fun q12 => if (q12.1) = (q7.1) then if (q7.1) = ((0 : Int32)) then (xk_lL q12.2 (x3) ((0 : Int32))).bind (fun v16 => if (lg_cmp (v16) ((q10.1).toInt64)) = ((0 : Int32)) then f_L_law_217 (f_L_law_23 n) x0 x1 x2 x3 x4 (q12.2) else some ((0 : Int32), q12.2)) else f_L_law_217 (f_L_law_23 n) x0 x1 x2 x3 x4 (q12.2) else some ((0 : Int32), q12.2)))))))))) else (if ((v3) &&& ((31 : Int32))) = (1 : Int32) then (xk_lI 0 w (x0) ((x4) + ((1 : Int32)))).bind (fun v19 => (f_L_theme (x1) (v19) (x3) w).bind (fun q20 => (xk_lI 0 q20.2 (x0) ((x4) + ((1 : Int32)))).bind (fun v21 => (xk_is q20.2 (x2) 5).bind (fun u23 => (f_X8_theme (x2) (v21) q20.2).bind (fun q22 => (xk_is q22.2 (x2) 5).bind (fun u25 => (f_X8_thrown (x2)  q22.2).bind (fun q24 => if (q24.1) = (q20.1) then if (q20.1) = ((0 : Int32)) then (xk_lL q24.2 (x3) ((0 : Int32))).bind (fun v28 => if (lg_cmp (v28) ((q22.1).toInt64)) = ((0 : Int32)) then f_L_law_273 (f_L_law_23 n) x0 x1 x2 x3 x4 (q24.2) else some ((0 : Int32), q24.2)) else f_L_law_273 (f_L_law_23 n) x0 x1 x2 x3 x4 (q24.2) else some ((0 : Int32), q24.2)))))))) else (if ((v3) &&& ((31 : Int32))) = (2 : Int32) then (xk_lI 0 w (x0) ((x4) + ((1 : Int32)))).bind (fun v31 => (xk_lI 0 w (x0) ((x4) + ((2 : Int32)))).bind (fun v32 => (f_L_change (x1) (v31) (v32) (x3) w).bind (fun q33 => (xk_lI 0 q33.2 (x0) ((x4) + ((1 : Int32)))).bind (fun v34 => (xk_lI 0 q33.2 (x0) ((x4) + ((2 : Int32)))).bind (fun v35 => (xk_is q33.2 (x2) 5).bind (fun u37 => (f_X8_change (x2) (v34) (v35) q33.2).bind (fun q36 => (xk_is q36.2 (x2) 5).bind (fun u39 => (f_X8_thrown (x2)  q36.2).bind (fun q38 => if (q38.1) = (q33.1) then if (q33.1) = ((0 : Int32)) then (xk_lL q38.2 (x3) ((0 : Int32))).bind (fun v42 => if (lg_cmp (v42) ((q36.1).toInt64)) = ((0 : Int32)) then f_L_law_341 (f_L_law_23 n) x0 x1 x2 x3 x4 (q38.2) else some ((0 : Int32), q38.2)) else f_L_law_341 (f_L_law_23 n) x0 x1 x2 x3 x4 (q38.2) else some ((0 : Int32), q38.2)))))))))) else (if ((v3) &&& ((31 : Int32))) = (3 : Int32) then (xk_lI 0 w (x0) ((x4) + ((1 : Int32)))).bind (fun v45 => (xk_lI 0 w (x0) ((x4) + ((2 : Int32)))).bind (fun v46 => (xk_lI 0 w (x0) ((x4) + ((3 : Int32)))).bind (fun v47 => (xk_lI 0 w (x0) ((x4) + ((4 : Int32)))).bind (fun v48 => (xk_lI 0 w (x0) ((x4) + ((5 : Int32)))).bind (fun v49 => (f_L_cue (x1) (v45) (v46) (v47) (v48) (v49) (x3) w).bind (fun q50 => (xk_lI 0 q50.2 (x0) ((x4) + ((1 : Int32)))).bind (fun v51 => (xk_lI 0 q50.2 (x0) ((x4) + ((2 : Int32)))).bind (fun v52 => (xk_lI 0 q50.2 (x0) ((x4) + ((3 : Int32)))).bind (fun v53 => (xk_lI 0 q50.2 (x0) ((x4) + ((4 : Int32)))).bind (fun v54 => (xk_lI 0 q50.2 (x0) ((x4) + ((5 : Int32)))).bind (fun v55 => (xk_is q50.2 (x2) 5).bind (fun u57 => (f_X8_cue (x2) (v51) (v52) (v53) (v54) (v55) q50.2).bind (fun q56 => (xk_is q56.2 (x2) 5).bind (fun u59 => (f_X8_thrown (x2)  q56.2).bind (fun q58 => if (q58.1) = (q50.1) then if (q50.1) = ((0 : Int32)) then (xk_lL q58.2 (x3) ((0 : Int32))).bind (fun v62 => if (lg_cmp (v62) ((q56.1).toInt64)) = ((0 : Int32)) then f_L_law_445 (f_L_law_23 n) x0 x1 x2 x3 x4 (q58.2) else some ((0 : Int32), q58.2)) else f_L_law_445 (f_L_law_23 n) x0 x1 x2 x3 x4 (q58.2) else some ((0 : Int32), q58.2)))))))))))))))) else (if ((v3) &&& ((31 : Int32))) = (4 : Int32) then (xk_lI 0 w (x0) ((x4) + ((1 : Int32)))).bind (fun v65 => (xk_lI 0 w (x0) ((x4) + ((2 : Int32)))).bind (fun v66 => (xk_lI 0 w (x0) ((x4) + ((3 : Int32)))).bind (fun v67 => (f_L_bar (x1) (v65) (v66) (v67) (x3) w).bind (fun q68 => (xk_lI 0 q68.2 (x0) ((x4) + ((1 : Int32)))).bind (fun v69 => (xk_lI 0 q68.2 (x0) ((x4) + ((2 : Int32)))).bind (fun v70 => (xk_lI 0 q68.2 (x0) ((x4) + ((3 : Int32)))).bind (fun v71 => (xk_is q68.2 (x2) 5).bind (fun u73 => (f_X8_bar (x2) (v69) (v70) (v71) q68.2).bind (fun q72 => (xk_is q72.2 (x2) 5).bind (fun u75 => (f_X8_thrown (x2)  q72.2).bind (fun q74 => if (q74.1) = (q68.1) then if (q68.1) = ((0 : Int32)) then (xk_lL q74.2 (x3) ((0 : Int32))).bind (fun v78 => if (lg_cmp (v78) ((q72.1).toInt64)) = ((0 : Int32)) then f_L_law_525 (f_L_law_23 n) x0 x1 x2 x3 x4 (q74.2) else some ((0 : Int32), q74.2)) else f_L_law_525 (f_L_law_23 n) x0 x1 x2 x3 x4 (q74.2) else some ((0 : Int32), q74.2)))))))))))) else (if ((v3) &&& ((31 : Int32))) = (5 : Int32) then (xk_lI 0 w (x0) ((x4) + ((1 : Int32)))).bind (fun v81 => (xk_lI 0 w (x0) ((x4) + ((2 : Int32)))).bind (fun v82 => (xk_lI 0 w (x0) ((x4) + ((3 : Int32)))).bind (fun v83 => (xk_lI 0 w (x0) ((x4) + ((4 : Int32)))).bind (fun v84 => (f_L_retime (x1) (v81) (v82) (v83) (v84) (x3) w).bind (fun q85 => (xk_lI 0 q85.2 (x0) ((x4) + ((1 : Int32)))).bind (fun v86 => (xk_lI 0 q85.2 (x0) ((x4) + ((2 : Int32)))).bind (fun v87 => (xk_lI 0 q85.2 (x0) ((x4) + ((3 : Int32)))).bind (fun v88 => (xk_lI 0 q85.2 (x0) ((x4) + ((4 : Int32)))).bind (fun v89 => (xk_is q85.2 (x2) 5).bind (fun u91 => (f_X8_retime (x2) (v86) (v87) (v88) (v89) q85.2).bind (fun q90 => (xk_is q90.2 (x2) 5).bind (fun u93 => (f_X8_thrown (x2)  q90.2).bind (fun q92 => if (q92.1) = (q85.1) then if (q85.1) = ((0 : Int32)) then (xk_lL q92.2 (x3) ((0 : Int32))).bind (fun v96 => if (lg_cmp (v96) ((q90.1).toInt64)) = ((0 : Int32)) then f_L_law_617 (f_L_law_23 n) x0 x1 x2 x3 x4 (q92.2) else some ((0 : Int32), q92.2)) else f_L_law_617 (f_L_law_23 n) x0 x1 x2 x3 x4 (q92.2) else some ((0 : Int32), q92.2)))))))))))))) else (if ((v3) &&& ((31 : Int32))) = (6 : Int32) then (xk_lI 0 w (x0) ((x4) + ((1 : Int32)))).bind (fun v99 => (xk_lI 0 w (x0) ((x4) + ((2 : Int32)))).bind (fun v100 => (f_L_shift (x1) (v99) (v100) (x3) w).bind (fun q101 => (xk_lI 0 q101.2 (x0) ((x4) + ((1 : Int32)))).bind (fun v102 => (xk_lI 0 q101.2 (x0) ((x4) + ((2 : Int32)))).bind (fun v103 => (xk_is q101.2 (x2) 5).bind (fun u105 => (f_X8_shift (x2) (v102) (v103) q101.2).bind (fun q104 => (xk_is q104.2 (x2) 5).bind (fun u107 => (f_X8_thrown (x2)  q104.2).bind (fun q106 => if (q106.1) = (q101.1) then if (q101.1) = ((0 : Int32)) then (xk_lL q106.2 (x3) ((0 : Int32))).bind (fun v110 => if (lg_cmp (v110) ((q104.1).toInt64)) = ((0 : Int32)) then f_L_law_685 (f_L_law_23 n) x0 x1 x2 x3 x4 (q106.2) else some ((0 : Int32), q106.2)) else f_L_law_685 (f_L_law_23 n) x0 x1 x2 x3 x4 (q106.2) else some ((0 : Int32), q106.2)))))))))) else (if ((v3) &&& ((31 : Int32))) = (7 : Int32) then (xk_lI 0 w (x0) ((x4) + ((1 : Int32)))).bind (fun v113 => (f_L_open (x1) (v113) (x3) w).bind (fun q114 => (xk_lI 0 q114.2 (x0) ((x4) + ((1 : Int32)))).bind (fun v115 => (xk_is q114.2 (x2) 5).bind (fun u117 => (f_X8_open (x2) (v115) q114.2).bind (fun q116 => (xk_is q116.2 (x2) 5).bind (fun u119 => (f_X8_thrown (x2)  q116.2).bind (fun q118 => if (q118.1) = (q114.1) then if (q114.1) = ((0 : Int32)) then (xk_lL q118.2 (x3) ((0 : Int32))).bind (fun v122 => if (lg_cmp (v122) ((q116.1).toInt64)) = ((0 : Int32)) then f_L_law_741 (f_L_law_23 n) x0 x1 x2 x3 x4 (q118.2) else some ((0 : Int32), q118.2)) else f_L_law_741 (f_L_law_23 n) x0 x1 x2 x3 x4 (q118.2) else some ((0 : Int32), q118.2)))))))) else (if ((v3) &&& ((31 : Int32))) = (8 : Int32) then (xk_lI 0 w (x0) ((x4) + ((1 : Int32)))).bind (fun v125 => (xk_lI 0 w (x0) ((x4) + ((2 : Int32)))).bind (fun v126 => (xk_lI 0 w (x0) ((x4) + ((3 : Int32)))).bind (fun v127 => (f_L_take (x1) (v125) (v126) (v127) (x3) w).bind (fun q128 => (xk_lI 0 q128.2 (x0) ((x4) + ((1 : Int32)))).bind (fun v129 => (xk_lI 0 q128.2 (x0) ((x4) + ((2 : Int32)))).bind (fun v130 => (xk_lI 0 q128.2 (x0) ((x4) + ((3 : Int32)))).bind (fun v131 => (xk_is q128.2 (x2) 5).bind (fun u133 => (f_X8_take (x2) (v129) (v130) (v131) q128.2).bind (fun q132 => (xk_is q132.2 (x2) 5).bind (fun u135 => (f_X8_thrown (x2)  q132.2).bind (fun q134 => if (q134.1) = (q128.1) then if (q128.1) = ((0 : Int32)) then (xk_lL q134.2 (x3) ((0 : Int32))).bind (fun v138 => if (lg_cmp (v138) ((q132.1).toInt64)) = ((0 : Int32)) then f_L_law_821 (f_L_law_23 n) x0 x1 x2 x3 x4 (q134.2) else some ((0 : Int32), q134.2)) else f_L_law_821 (f_L_law_23 n) x0 x1 x2 x3 x4 (q134.2) else some ((0 : Int32), q134.2)))))))))))) else (if ((v3) &&& ((31 : Int32))) = (9 : Int32) then (f_L_close (x1) (x3) w).bind (fun q141 => (xk_is q141.2 (x2) 5).bind (fun u143 => (f_X8_close (x2)  q141.2).bind (fun q142 => (xk_is q142.2 (x2) 5).bind (fun u145 => (f_X8_thrown (x2)  q142.2).bind (fun q144 => if (q144.1) = (q141.1) then if (q141.1) = ((0 : Int32)) then (xk_lL q144.2 (x3) ((0 : Int32))).bind (fun v148 => if (lg_cmp (v148) ((q142.1).toInt64)) = ((0 : Int32)) then f_L_law_865 (f_L_law_23 n) x0 x1 x2 x3 x4 (q144.2) else some ((0 : Int32), q144.2)) else f_L_law_865 (f_L_law_23 n) x0 x1 x2 x3 x4 (q144.2) else some ((0 : Int32), q144.2)))))) else (if ((v3) &&& ((31 : Int32))) = (10 : Int32) then (xk_lI 0 w (x0) ((x4) + ((1 : Int32)))).bind (fun v151 => (xk_lI 0 w (x0) ((x4) + ((2 : Int32)))).bind (fun v152 => (f_L_ofHit (x1) (v151) (v152) (x3) w).bind (fun q153 => (xk_lI 0 q153.2 (x0) ((x4) + ((1 : Int32)))).bind (fun v154 => (xk_lI 0 q153.2 (x0) ((x4) + ((2 : Int32)))).bind (fun v155 => (xk_is q153.2 (x2) 5).bind (fun u157 => (f_X8_ofHit (x2) (v154) (v155) q153.2).bind (fun q156 => (xk_is q156.2 (x2) 5).bind (fun u159 => (f_X8_thrown (x2)  q156.2).bind (fun q158 => if (q158.1) = (q153.1) then if (q153.1) = ((0 : Int32)) then (xk_lL q158.2 (x3) ((0 : Int32))).bind (fun v162 => if (lg_cmp (v162) ((q156.1).toInt64)) = ((0 : Int32)) then f_L_law_933 (f_L_law_23 n) x0 x1 x2 x3 x4 (q158.2) else some ((0 : Int32), q158.2)) else f_L_law_933 (f_L_law_23 n) x0 x1 x2 x3 x4 (q158.2) else some ((0 : Int32), q158.2)))))))))) else (if ((v3) &&& ((31 : Int32))) = (11 : Int32) then (xk_lI 0 w (x0) ((x4) + ((1 : Int32)))).bind (fun v165 => (xk_lI 0 w (x0) ((x4) + ((2 : Int32)))).bind (fun v166 => (f_L_ofCue (x1) (v165) (v166) (x3) w).bind (fun q167 => (xk_lI 0 q167.2 (x0) ((x4) + ((1 : Int32)))).bind (fun v168 => (xk_lI 0 q167.2 (x0) ((x4) + ((2 : Int32)))).bind (fun v169 => (xk_is q167.2 (x2) 5).bind (fun u171 => (f_X8_ofCue (x2) (v168) (v169) q167.2).bind (fun q170 => (xk_is q170.2 (x2) 5).bind (fun u173 => (f_X8_thrown (x2)  q170.2).bind (fun q172 => if (q172.1) = (q167.1) then if (q167.1) = ((0 : Int32)) then (xk_lL q172.2 (x3) ((0 : Int32))).bind (fun v176 => if (lg_cmp (v176) ((q170.1).toInt64)) = ((0 : Int32)) then f_L_law_1001 (f_L_law_23 n) x0 x1 x2 x3 x4 (q172.2) else some ((0 : Int32), q172.2)) else f_L_law_1001 (f_L_law_23 n) x0 x1 x2 x3 x4 (q172.2) else some ((0 : Int32), q172.2)))))))))) else (if ((v3) &&& ((31 : Int32))) = (12 : Int32) then (xk_lI 0 w (x0) ((x4) + ((1 : Int32)))).bind (fun v179 => (xk_lI 0 w (x0) ((x4) + ((2 : Int32)))).bind (fun v180 => (xk_lI 0 w (x0) ((x4) + ((3 : Int32)))).bind (fun v181 => (f_L_ofBar (x1) (v179) (v180) (v181) (x3) w).bind (fun q182 => (xk_lI 0 q182.2 (x0) ((x4) + ((1 : Int32)))).bind (fun v183 => (xk_lI 0 q182.2 (x0) ((x4) + ((2 : Int32)))).bind (fun v184 => (xk_lI 0 q182.2 (x0) ((x4) + ((3 : Int32)))).bind (fun v185 => (xk_is q182.2 (x2) 5).bind (fun u187 => (f_X8_ofBar (x2) (v183) (v184) (v185) q182.2).bind (fun q186 => (xk_is q186.2 (x2) 5).bind (fun u189 => (f_X8_thrown (x2)  q186.2).bind (fun q188 => if (q188.1) = (q182.1) then if (q182.1) = ((0 : Int32)) then (xk_lL q188.2 (x3) ((0 : Int32))).bind (fun v192 => if (lg_cmp (v192) ((q186.1).toInt64)) = ((0 : Int32)) then f_L_law_1081 (f_L_law_23 n) x0 x1 x2 x3 x4 (q188.2) else some ((0 : Int32), q188.2)) else f_L_law_1081 (f_L_law_23 n) x0 x1 x2 x3 x4 (q188.2) else some ((0 : Int32), q188.2)))))))))))) else (if ((v3) &&& ((31 : Int32))) = (13 : Int32) then (xk_lI 0 w (x0) ((x4) + ((1 : Int32)))).bind (fun v195 => (xk_lI 0 w (x0) ((x4) + ((2 : Int32)))).bind (fun v196 => (f_L_beat (x1) (v195) (v196) (x3) w).bind (fun q197 => (xk_lI 0 q197.2 (x0) ((x4) + ((1 : Int32)))).bind (fun v198 => (xk_lI 0 q197.2 (x0) ((x4) + ((2 : Int32)))).bind (fun v199 => (xk_is q197.2 (x2) 5).bind (fun u201 => (f_X8_beat (x2) (v198) (v199) q197.2).bind (fun q200 => (xk_is q200.2 (x2) 5).bind (fun u203 => (f_X8_thrown (x2)  q200.2).bind (fun q202 => if (q202.1) = (q197.1) then if (q197.1) = ((0 : Int32)) then (xk_lL q202.2 (x3) ((0 : Int32))).bind (fun v206 => if (lg_cmp (v206) ((q200.1).toInt64)) = ((0 : Int32)) then f_L_law_1149 (f_L_law_23 n) x0 x1 x2 x3 x4 (q202.2) else some ((0 : Int32), q202.2)) else f_L_law_1149 (f_L_law_23 n) x0 x1 x2 x3 x4 (q202.2) else some ((0 : Int32), q202.2)))))))))) else (if ((v3) &&& ((31 : Int32))) = (14 : Int32) then (xk_lI 0 w (x0) ((x4) + ((1 : Int32)))).bind (fun v209 => (xk_lI 0 w (x0) ((x4) + ((2 : Int32)))).bind (fun v210 => (f_L_ofTake (x1) (v209) (v210) (x3) w).bind (fun q211 => (xk_lI 0 q211.2 (x0) ((x4) + ((1 : Int32)))).bind (fun v212 => (xk_lI 0 q211.2 (x0) ((x4) + ((2 : Int32)))).bind (fun v213 => (xk_is q211.2 (x2) 5).bind (fun u215 => (f_X8_ofTake (x2) (v212) (v213) q211.2).bind (fun q214 => (xk_is q214.2 (x2) 5).bind (fun u217 => (f_X8_thrown (x2)  q214.2).bind (fun q216 => if (q216.1) = (q211.1) then if (q211.1) = ((0 : Int32)) then (xk_lL q216.2 (x3) ((0 : Int32))).bind (fun v220 => if (lg_cmp (v220) ((q214.1).toInt64)) = ((0 : Int32)) then f_L_law_1217 (f_L_law_23 n) x0 x1 x2 x3 x4 (q216.2) else some ((0 : Int32), q216.2)) else f_L_law_1217 (f_L_law_23 n) x0 x1 x2 x3 x4 (q216.2) else some ((0 : Int32), q216.2)))))))))) else (if ((v3) &&& ((31 : Int32))) = (15 : Int32) then (xk_lI 0 w (x0) ((x4) + ((1 : Int32)))).bind (fun v223 => (f_L_sheet (x1) (v223) (x3) w).bind (fun q224 => (xk_lI 0 q224.2 (x0) ((x4) + ((1 : Int32)))).bind (fun v225 => (xk_is q224.2 (x2) 5).bind (fun u227 => (f_X8_sheet (x2) (v225) q224.2).bind (fun q226 => (xk_is q226.2 (x2) 5).bind (fun u229 => (f_X8_thrown (x2)  q226.2).bind (fun q228 => if (q228.1) = (q224.1) then if (q224.1) = ((0 : Int32)) then (xk_lL q228.2 (x3) ((0 : Int32))).bind (fun v232 => if (lg_cmp (v232) ((q226.1).toInt64)) = ((0 : Int32)) then f_L_law_1273 (f_L_law_23 n) x0 x1 x2 x3 x4 (q228.2) else some ((0 : Int32), q228.2)) else f_L_law_1273 (f_L_law_23 n) x0 x1 x2 x3 x4 (q228.2) else some ((0 : Int32), q228.2)))))))) else (if ((v3) &&& ((31 : Int32))) = (16 : Int32) then (xk_lI 0 w (x0) ((x4) + ((1 : Int32)))).bind (fun v235 => (f_L_many (x1) (v235) (x3) w).bind (fun q236 => (xk_lI 0 q236.2 (x0) ((x4) + ((1 : Int32)))).bind (fun v237 => (xk_is q236.2 (x2) 5).bind (fun u239 => (f_X8_many (x2) (v237) q236.2).bind (fun q238 => (xk_is q238.2 (x2) 5).bind (fun u241 => (f_X8_thrown (x2)  q238.2).bind (fun q240 => if (q240.1) = (q236.1) then if (q236.1) = ((0 : Int32)) then (xk_lL q240.2 (x3) ((0 : Int32))).bind (fun v244 => if (lg_cmp (v244) ((q238.1).toInt64)) = ((0 : Int32)) then f_L_law_1329 (f_L_law_23 n) x0 x1 x2 x3 x4 (q240.2) else some ((0 : Int32), q240.2)) else f_L_law_1329 (f_L_law_23 n) x0 x1 x2 x3 x4 (q240.2) else some ((0 : Int32), q240.2)))))))) else (if ((v3) &&& ((31 : Int32))) = (17 : Int32) then (xk_is w (x1) 0).bind (fun u248 => (f_X4_meanNote (x1)  w).bind (fun q247 => (xk_is q247.2 (x2) 5).bind (fun u250 => (f_X8_meanNote (x2)  q247.2).bind (fun q249 => if (Op.cmpValue (FP.dcmp (q247.1) (q249.1)) .l) = ((0 : Int32)) then f_L_law_1370 (f_L_law_23 n) x0 x1 x2 x3 x4 (q249.2) else if (Op.cmpValue (FP.dcmp (q247.1) (q247.1)) .l) = ((0 : Int32)) then f_L_law_1368 (q249.2) else if (Op.cmpValue (FP.dcmp (q249.1) (q249.1)) .l) = ((0 : Int32)) then f_L_law_1368 (q249.2) else f_L_law_1370 (f_L_law_23 n) x0 x1 x2 x3 x4 (q249.2))))) else (if ((v3) &&& ((31 : Int32))) = (18 : Int32) then (xk_lI 0 w (x0) ((x4) + ((1 : Int32)))).bind (fun v255 => (f_L_join (x1) (v255) (x3) w).bind (fun q256 => (xk_lI 0 q256.2 (x0) ((x4) + ((1 : Int32)))).bind (fun v257 => (xk_is q256.2 (x2) 5).bind (fun u259 => (f_X8_join (x2) (v257) q256.2).bind (fun q258 => (xk_is q258.2 (x2) 5).bind (fun u261 => (f_X8_thrown (x2)  q258.2).bind (fun q260 => if (q260.1) = (q256.1) then if (q256.1) = ((0 : Int32)) then (xk_lL q260.2 (x3) ((0 : Int32))).bind (fun v264 => if (lg_cmp (v264) ((q258.1).toInt64)) = ((0 : Int32)) then f_L_law_1426 (f_L_law_23 n) x0 x1 x2 x3 x4 (q260.2) else some ((0 : Int32), q260.2)) else f_L_law_1426 (f_L_law_23 n) x0 x1 x2 x3 x4 (q260.2) else some ((0 : Int32), q260.2)))))))) else (if ((v3) &&& ((31 : Int32))) = (19 : Int32) then (xk_lI 0 w (x0) ((x4) + ((1 : Int32)))).bind (fun v267 => (xk_lI 0 w (x0) ((x4) + ((2 : Int32)))).bind (fun v268 => (f_L_joined (x1) (v267) (v268) (x3) w).bind (fun q269 => (xk_lI 0 q269.2 (x0) ((x4) + ((1 : Int32)))).bind (fun v270 => (xk_lI 0 q269.2 (x0) ((x4) + ((2 : Int32)))).bind (fun v271 => (xk_is q269.2 (x2) 5).bind (fun u273 => (f_X8_joined_ (x2) (v270) (v271) q269.2).bind (fun q272 => (xk_is q272.2 (x2) 5).bind (fun u275 => (f_X8_thrown (x2)  q272.2).bind (fun q274 => if (q274.1) = (q269.1) then if (q269.1) = ((0 : Int32)) then (xk_lL q274.2 (x3) ((0 : Int32))).bind (fun v278 => if (lg_cmp (v278) ((q272.1).toInt64)) = ((0 : Int32)) then f_L_law_1494 (f_L_law_23 n) x0 x1 x2 x3 x4 (q274.2) else some ((0 : Int32), q274.2)) else f_L_law_1494 (f_L_law_23 n) x0 x1 x2 x3 x4 (q274.2) else some ((0 : Int32), q274.2)))))))))) else (if ((v3) &&& ((31 : Int32))) = (20 : Int32) then (xk_lI 0 w (x0) ((x4) + ((1 : Int32)))).bind (fun v281 => (f_L_bestStart (x1) (v281) (x3) w).bind (fun q282 => (xk_lI 0 q282.2 (x0) ((x4) + ((1 : Int32)))).bind (fun v283 => (xk_is q282.2 (x2) 5).bind (fun u285 => (f_X8_bestStart (x2) (v283) q282.2).bind (fun q284 => (xk_is q284.2 (x2) 5).bind (fun u287 => (f_X8_thrown (x2)  q284.2).bind (fun q286 => if (q286.1) = (q282.1) then if (q282.1) = ((0 : Int32)) then (xk_lL q286.2 (x3) ((0 : Int32))).bind (fun v290 => if (lg_cmp (v290) ((q284.1).toInt64)) = ((0 : Int32)) then f_L_law_1550 (f_L_law_23 n) x0 x1 x2 x3 x4 (q286.2) else some ((0 : Int32), q286.2)) else f_L_law_1550 (f_L_law_23 n) x0 x1 x2 x3 x4 (q286.2) else some ((0 : Int32), q286.2)))))))) else (if ((v3) &&& ((31 : Int32))) = (21 : Int32) then (xk_lI 0 w (x0) ((x4) + ((1 : Int32)))).bind (fun v293 => (xk_lI 0 w (x0) ((x4) + ((2 : Int32)))).bind (fun v294 => (f_L_bestClick (x1) (v293) (v294) (x3) w).bind (fun q295 => (xk_lI 0 q295.2 (x0) ((x4) + ((1 : Int32)))).bind (fun v296 => (xk_lI 0 q295.2 (x0) ((x4) + ((2 : Int32)))).bind (fun v297 => (xk_is q295.2 (x2) 5).bind (fun u299 => (f_X8_bestClick (x2) (v296) (v297) q295.2).bind (fun q298 => (xk_is q298.2 (x2) 5).bind (fun u301 => (f_X8_thrown (x2)  q298.2).bind (fun q300 => if (q300.1) = (q295.1) then if (q295.1) = ((0 : Int32)) then (xk_lL q300.2 (x3) ((0 : Int32))).bind (fun v304 => if (lg_cmp (v304) ((q298.1).toInt64)) = ((0 : Int32)) then f_L_law_1618 (f_L_law_23 n) x0 x1 x2 x3 x4 (q300.2) else some ((0 : Int32), q300.2)) else f_L_law_1618 (f_L_law_23 n) x0 x1 x2 x3 x4 (q300.2) else some ((0 : Int32), q300.2)))))))))) else (if ((v3) &&& ((31 : Int32))) = (22 : Int32) then (xk_lI 0 w (x0) ((x4) + ((1 : Int32)))).bind (fun v307 => (xk_lI 0 w (x0) ((x4) + ((2 : Int32)))).bind (fun v308 => (f_L_wouldMeet (x1) (v307) (v308) (x3) w).bind (fun q309 => (xk_lI 0 q309.2 (x0) ((x4) + ((1 : Int32)))).bind (fun v310 => (xk_lI 0 q309.2 (x0) ((x4) + ((2 : Int32)))).bind (fun v311 => (xk_is q309.2 (x2) 5).bind (fun u313 => (f_X8_wouldMeet (x2) (v310) (v311) q309.2).bind (fun q312 => (xk_is q312.2 (x2) 5).bind (fun u315 => (f_X8_thrown (x2)  q312.2).bind (fun q314 => if (q314.1) = (q309.1) then if (q309.1) = ((0 : Int32)) then (xk_lL q314.2 (x3) ((0 : Int32))).bind (fun v318 => if (lg_cmp (v318) ((q312.1).toInt64)) = ((0 : Int32)) then f_L_law_1686 (f_L_law_23 n) x0 x1 x2 x3 x4 (q314.2) else some ((0 : Int32), q314.2)) else f_L_law_1686 (f_L_law_23 n) x0 x1 x2 x3 x4 (q314.2) else some ((0 : Int32), q314.2)))))))))) else (if ((v3) &&& ((31 : Int32))) = (23 : Int32) then (xk_is w (x1) 0).bind (fun u322 => (f_X4_digest (x1)  w).bind (fun q321 => (xk_is q321.2 (x2) 5).bind (fun u324 => (f_X8_digest (x2)  q321.2).bind (fun q323 => if (lg_cmp (q321.1) (q323.1)) = ((0 : Int32)) then f_L_law_1703 (f_L_law_23 n) x0 x1 x2 x3 x4 (q323.2) else some ((0 : Int32), q323.2))))) else (f_L_law_1703 (f_L_law_23 n) x0 x1 x2 x3 x4 w))))))))))))))))))))))))))
set_option maxHeartbeats 4000000 in
set_option maxRecDepth 100000 in
theorem t_L_law_23 {p : Program} {l : Launch} {e : Env} {s : State} {m : MethodId} {b : Nat} {below : List Frame} {meth : Method} {c : Code} {E : xEv} (hC : xk_C p (s.setDrawn s.drawn) m #[Value.ref b] meth c E code "ClickbookLaw" 9) (hr : meth.sig.returnType = ret) (hz : E.2.2.1 = s.heap.size) {q : (Int32 × xWd)} (hq : q.1 = 1) (hl9 : l.stackTraces = false) : ∀ (n : Nat) (x0 : Option Nat) (x1 : Option Nat) (x2 : Option Nat) (x3 : Option Nat) (x4 : Int32) (w : xWd) (kc ks : Nat), kc + n * 100 ≤ 216 → ks + n * 3870 ≤ 8406 → f_L_law_23 n x0 x1 x2 x3 x4 w = some q → xk_X p l e room_1 (s.setDrawn s.drawn) m #[Value.ref b] below meth c (lw_Z below #[Value.ref b] s) E 9 kc ks 23 [(0, va_rf (x0)), (1, va_rf (x1)), (2, va_rf (x2)), (3, va_rf (x3)), (4, .int (x4))] [] w := by
  intro n
  induction n with
  | zero => intro x0 x1 x2 x3 x4 w kc ks hkc hks hf; have hf : none = some q := hf; cases hf
  | succ n ih =>
    intro x0 x1 x2 x3 x4 w kc ks hkc hks hf
    rw [Nat.succ_mul] at hkc hks
    refine xk_iload hC dL_law_23 4 rfl ?_
    refine xk_aload_n hC dL_law_25 0 rfl rfl ?_
    obtain ⟨v1, h1, hf⟩ := xk_bi hf
    refine xk_alen hC dL_law_26 h1 ?_
    refine xk_bipush (v := (6 : Int32)) hC dL_law_27 (by decide) ?_
    refine xk_isub hC dL_law_29 ?_
    refine xk_icmp_gt (tgt := 1709) hC dL_law_30 (by decide) (fun c2 => ?_) (fun c2 => ?_)
    · replace hf := (if_pos c2).symm.trans hf
      refine xk_iconst (v := (1 : Int32)) hC dL_law_1709 (by decide) ?_
      cases hf
      exact xk_lawret hC hr hz hq (by omega) (by omega) dL_law_1710
    · replace hf := (if_neg c2).symm.trans hf
      refine xk_aload_n hC dL_law_33 0 rfl rfl ?_
      refine xk_iload hC dL_law_34 4 rfl ?_
      obtain ⟨v3, h3, hf⟩ := xk_bi hf
      refine xk_iald hC rfl dL_law_36 h3 ?_
      refine xk_bipush (v := (31 : Int32)) hC dL_law_37 (by decide) ?_
      refine xk_iand hC dL_law_39 ?_
      by_cases c4 : ((v3) &&& ((31 : Int32))) = (0 : Int32)
      · replace hf := (if_pos c4).symm.trans hf
        refine xk_tableIn (tgt := 152) hC dL_law_40 (by rw [c4]; decide) (by rw [c4]; decide) (off := 112) (by rw [c4]; rfl) (by decide) ?_
        refine xk_aload_n hC dL_law_152 1 rfl rfl ?_
        refine xk_aload_n hC dL_law_153 0 rfl rfl ?_
        refine xk_iload hC dL_law_154 4 rfl ?_
        refine xk_iconst (v := (1 : Int32)) hC dL_law_156 (by decide) ?_
        refine xk_iadd hC dL_law_157 ?_
        obtain ⟨v5, h5, hf⟩ := xk_bi hf
        refine xk_iald hC rfl dL_law_158 h5 ?_
        refine xk_aload_n hC dL_law_159 0 rfl rfl ?_
        refine xk_iload hC dL_law_160 4 rfl ?_
        refine xk_iconst (v := (2 : Int32)) hC dL_law_162 (by decide) ?_
        refine xk_iadd hC dL_law_163 ?_
        obtain ⟨v6, h6, hf⟩ := xk_bi hf
        refine xk_iald hC rfl dL_law_164 h6 ?_
        refine xk_aload_n hC dL_law_165 3 rfl rfl ?_
        obtain ⟨q7, h7, hf⟩ := xk_bi hf
        refine xk_backi (xk_callSH hC 4 (c_L_hit hl9 h7) xm_538 xm_539 xm_0 xm_540 xd_L_hit rfl ⟨Nat.le_of_ble_eq_true rfl, Nat.le_of_ble_eq_true rfl⟩ rfl (Nat.le_of_ble_eq_true rfl) dL_law_166 ⟨(by show _ ≤ 600002; omega), (by show _ ≤ 7302232; omega)⟩) ?_
        refine xk_istore (i := 5) (lv' := [(5, .int (q7.1)), (0, va_rf (x0)), (1, va_rf (x1)), (2, va_rf (x2)), (3, va_rf (x3)), (4, .int (x4))]) hC dL_law_169 (by decide) rfl ?_
        refine xk_aload_n hC dL_law_171 3 rfl rfl ?_
        refine xk_aload_n hC dL_law_172 1 rfl rfl ?_
        refine xk_iload hC dL_law_173 5 rfl ?_
        refine xk_iconst (v := (1 : Int32)) hC dL_law_175 (by decide) ?_
        refine xk_iadd hC dL_law_176 ?_
        obtain ⟨v8, h8, hf⟩ := xk_bi hf
        refine xk_iald hC rfl dL_law_177 h8 ?_
        refine xk_aload_n hC dL_law_178 1 rfl rfl ?_
        refine xk_iload hC dL_law_179 5 rfl ?_
        refine xk_iconst (v := (2 : Int32)) hC dL_law_181 (by decide) ?_
        refine xk_iadd hC dL_law_182 ?_
        obtain ⟨v9, h9, hf⟩ := xk_bi hf
        refine xk_iald hC rfl dL_law_183 h9 ?_
        obtain ⟨u11, h11, hf⟩ := xk_bi hf
        obtain ⟨q10, h10, hf⟩ := xk_bi hf
        refine xk_backi (xk_callV hC 2 xc_5 (c_X8_hit h10) h11 xm_895 xm_896 xm_897 xm_6 xm_898 ⟨rfl, xd_X8_hit⟩ rfl ⟨Nat.le_of_ble_eq_true rfl, Nat.le_of_ble_eq_true rfl⟩ rfl (Nat.le_of_ble_eq_true rfl) dL_law_184 ⟨(by show _ ≤ 600002; omega), (by show _ ≤ 7302232; omega)⟩) ?_
        refine xk_istore (i := 6) (lv' := [(6, .int (q10.1)), (5, .int (q7.1)), (0, va_rf (x0)), (1, va_rf (x1)), (2, va_rf (x2)), (3, va_rf (x3)), (4, .int (x4))]) hC dL_law_187 (by decide) rfl ?_
        refine xk_aload_n hC dL_law_189 4 rfl rfl ?_
        obtain ⟨u13, h13, hf⟩ := xk_bi hf
        obtain ⟨q12, h12, hf⟩ := xk_bi hf
        refine xk_backi (xk_callV hC 0 xc_5 (c_X8_thrown h12) h13 xm_891 xm_892 xm_893 xm_6 xm_894 ⟨rfl, xd_X8_thrown⟩ rfl ⟨Nat.le_of_ble_eq_true rfl, Nat.le_of_ble_eq_true rfl⟩ rfl (Nat.le_of_ble_eq_true rfl) dL_law_190 ⟨(by show _ ≤ 600002; omega), (by show _ ≤ 7302232; omega)⟩) ?_
        refine xk_iload hC dL_law_193 1 rfl ?_
        refine xk_icmp_eq (tgt := 200) hC dL_law_195 (by decide) (fun c14 => ?_) (fun c14 => ?_)
        · replace hf := (if_pos c14).symm.trans hf
          refine xk_iload hC dL_law_200 1 rfl ?_
          refine xk_if_ne (tgt := 217) hC dL_law_202 (by decide) (fun c15 => ?_) (fun c15 => ?_)
          · replace hf := (if_neg c15).symm.trans hf
            refine xk_locals [2, 3, 4, 5, 6] rfl ?_
            exact t_L_law_217 hC hr hz hq hl9 (by omega) (by omega) (by omega) (by omega) (fun x0 x1 x2 x3 x4 w hf => ih x0 x1 x2 x3 x4 w (kc + 100) (ks + 3870) (by omega) (by omega) hf) x0 x1 x2 x3 x4 (q12.2) hf
          · replace hf := (if_pos c15).symm.trans hf
            refine xk_aload_n hC dL_law_205 5 rfl rfl ?_
            refine xk_iconst (v := (0 : Int32)) hC dL_law_206 (by decide) ?_
            obtain ⟨v16, h16, hf⟩ := xk_bi hf
            refine xk_lald hC rfl dL_law_207 h16 ?_
            refine xk_iload hC dL_law_208 0 rfl ?_
            refine xk_i2l hC dL_law_210 ?_
            refine xk_lcmp hC dL_law_211 ?_
            refine xk_if_eq (tgt := 217) hC dL_law_212 (by decide) (fun c17 => ?_) (fun c17 => ?_)
            · replace hf := (if_pos c17).symm.trans hf
              refine xk_locals [2, 3, 4, 5, 6] rfl ?_
              exact t_L_law_217 hC hr hz hq hl9 (by omega) (by omega) (by omega) (by omega) (fun x0 x1 x2 x3 x4 w hf => ih x0 x1 x2 x3 x4 w (kc + 100) (ks + 3870) (by omega) (by omega) hf) x0 x1 x2 x3 x4 (q12.2) hf
            · replace hf := (if_neg c17).symm.trans hf
              refine xk_iconst (v := (0 : Int32)) hC dL_law_215 (by decide) ?_
              cases hf
              exact xk_lawret hC hr hz hq (by omega) (by omega) dL_law_216
        · replace hf := (if_neg c14).symm.trans hf
          refine xk_iconst (v := (0 : Int32)) hC dL_law_198 (by decide) ?_
          cases hf
          exact xk_lawret hC hr hz hq (by omega) (by omega) dL_law_199
      · replace hf := (if_neg c4).symm.trans hf
        by_cases c18 : ((v3) &&& ((31 : Int32))) = (1 : Int32)
        · replace hf := (if_pos c18).symm.trans hf
          refine xk_tableIn (tgt := 220) hC dL_law_40 (by rw [c18]; decide) (by rw [c18]; decide) (off := 180) (by rw [c18]; rfl) (by decide) ?_
          refine xk_aload_n hC dL_law_220 1 rfl rfl ?_
          refine xk_aload_n hC dL_law_221 0 rfl rfl ?_
          refine xk_iload hC dL_law_222 4 rfl ?_
          refine xk_iconst (v := (1 : Int32)) hC dL_law_224 (by decide) ?_
          refine xk_iadd hC dL_law_225 ?_
          obtain ⟨v19, h19, hf⟩ := xk_bi hf
          refine xk_iald hC rfl dL_law_226 h19 ?_
          refine xk_aload_n hC dL_law_227 3 rfl rfl ?_
          obtain ⟨q20, h20, hf⟩ := xk_bi hf
          refine xk_backi (xk_callSH hC 3 (c_L_theme hl9 h20) xm_583 xm_584 xm_0 xm_585 xd_L_theme rfl ⟨Nat.le_of_ble_eq_true rfl, Nat.le_of_ble_eq_true rfl⟩ rfl (Nat.le_of_ble_eq_true rfl) dL_law_228 ⟨(by show _ ≤ 600002; omega), (by show _ ≤ 7302232; omega)⟩) ?_
          refine xk_istore (i := 5) (lv' := [(5, .int (q20.1)), (0, va_rf (x0)), (1, va_rf (x1)), (2, va_rf (x2)), (3, va_rf (x3)), (4, .int (x4))]) hC dL_law_231 (by decide) rfl ?_
          refine xk_aload_n hC dL_law_233 3 rfl rfl ?_
          refine xk_aload_n hC dL_law_234 1 rfl rfl ?_
          refine xk_iload hC dL_law_235 5 rfl ?_
          refine xk_iconst (v := (1 : Int32)) hC dL_law_237 (by decide) ?_
          refine xk_iadd hC dL_law_238 ?_
          obtain ⟨v21, h21, hf⟩ := xk_bi hf
          refine xk_iald hC rfl dL_law_239 h21 ?_
          obtain ⟨u23, h23, hf⟩ := xk_bi hf
          obtain ⟨q22, h22, hf⟩ := xk_bi hf
          refine xk_backi (xk_callV hC 1 xc_5 (c_X8_theme h22) h23 xm_930 xm_931 xm_932 xm_6 xm_933 ⟨rfl, xd_X8_theme⟩ rfl ⟨Nat.le_of_ble_eq_true rfl, Nat.le_of_ble_eq_true rfl⟩ rfl (Nat.le_of_ble_eq_true rfl) dL_law_240 ⟨(by show _ ≤ 600002; omega), (by show _ ≤ 7302232; omega)⟩) ?_
          refine xk_istore (i := 6) (lv' := [(6, .int (q22.1)), (5, .int (q20.1)), (0, va_rf (x0)), (1, va_rf (x1)), (2, va_rf (x2)), (3, va_rf (x3)), (4, .int (x4))]) hC dL_law_243 (by decide) rfl ?_
          refine xk_aload_n hC dL_law_245 4 rfl rfl ?_
          obtain ⟨u25, h25, hf⟩ := xk_bi hf
          obtain ⟨q24, h24, hf⟩ := xk_bi hf
          refine xk_backi (xk_callV hC 0 xc_5 (c_X8_thrown h24) h25 xm_891 xm_892 xm_893 xm_6 xm_894 ⟨rfl, xd_X8_thrown⟩ rfl ⟨Nat.le_of_ble_eq_true rfl, Nat.le_of_ble_eq_true rfl⟩ rfl (Nat.le_of_ble_eq_true rfl) dL_law_246 ⟨(by show _ ≤ 600002; omega), (by show _ ≤ 7302232; omega)⟩) ?_
          refine xk_iload hC dL_law_249 1 rfl ?_
          refine xk_icmp_eq (tgt := 256) hC dL_law_251 (by decide) (fun c26 => ?_) (fun c26 => ?_)
          · replace hf := (if_pos c26).symm.trans hf
            refine xk_iload hC dL_law_256 1 rfl ?_
            refine xk_if_ne (tgt := 273) hC dL_law_258 (by decide) (fun c27 => ?_) (fun c27 => ?_)
            · replace hf := (if_neg c27).symm.trans hf
              refine xk_locals [2, 3, 4, 5, 6] rfl ?_
              exact t_L_law_273 hC hr hz hq hl9 (by omega) (by omega) (by omega) (by omega) (fun x0 x1 x2 x3 x4 w hf => ih x0 x1 x2 x3 x4 w (kc + 100) (ks + 3870) (by omega) (by omega) hf) x0 x1 x2 x3 x4 (q24.2) hf
            · replace hf := (if_pos c27).symm.trans hf
              refine xk_aload_n hC dL_law_261 5 rfl rfl ?_
              refine xk_iconst (v := (0 : Int32)) hC dL_law_262 (by decide) ?_
              obtain ⟨v28, h28, hf⟩ := xk_bi hf
              refine xk_lald hC rfl dL_law_263 h28 ?_
              refine xk_iload hC dL_law_264 0 rfl ?_
              refine xk_i2l hC dL_law_266 ?_
              refine xk_lcmp hC dL_law_267 ?_
              refine xk_if_eq (tgt := 273) hC dL_law_268 (by decide) (fun c29 => ?_) (fun c29 => ?_)
              · replace hf := (if_pos c29).symm.trans hf
                refine xk_locals [2, 3, 4, 5, 6] rfl ?_
                exact t_L_law_273 hC hr hz hq hl9 (by omega) (by omega) (by omega) (by omega) (fun x0 x1 x2 x3 x4 w hf => ih x0 x1 x2 x3 x4 w (kc + 100) (ks + 3870) (by omega) (by omega) hf) x0 x1 x2 x3 x4 (q24.2) hf
              · replace hf := (if_neg c29).symm.trans hf
                refine xk_iconst (v := (0 : Int32)) hC dL_law_271 (by decide) ?_
                cases hf
                exact xk_lawret hC hr hz hq (by omega) (by omega) dL_law_272
          · replace hf := (if_neg c26).symm.trans hf
            refine xk_iconst (v := (0 : Int32)) hC dL_law_254 (by decide) ?_
            cases hf
            exact xk_lawret hC hr hz hq (by omega) (by omega) dL_law_255
        · replace hf := (if_neg c18).symm.trans hf
          by_cases c30 : ((v3) &&& ((31 : Int32))) = (2 : Int32)
          · replace hf := (if_pos c30).symm.trans hf
            refine xk_tableIn (tgt := 276) hC dL_law_40 (by rw [c30]; decide) (by rw [c30]; decide) (off := 236) (by rw [c30]; rfl) (by decide) ?_
            refine xk_aload_n hC dL_law_276 1 rfl rfl ?_
            refine xk_aload_n hC dL_law_277 0 rfl rfl ?_
            refine xk_iload hC dL_law_278 4 rfl ?_
            refine xk_iconst (v := (1 : Int32)) hC dL_law_280 (by decide) ?_
            refine xk_iadd hC dL_law_281 ?_
            obtain ⟨v31, h31, hf⟩ := xk_bi hf
            refine xk_iald hC rfl dL_law_282 h31 ?_
            refine xk_aload_n hC dL_law_283 0 rfl rfl ?_
            refine xk_iload hC dL_law_284 4 rfl ?_
            refine xk_iconst (v := (2 : Int32)) hC dL_law_286 (by decide) ?_
            refine xk_iadd hC dL_law_287 ?_
            obtain ⟨v32, h32, hf⟩ := xk_bi hf
            refine xk_iald hC rfl dL_law_288 h32 ?_
            refine xk_aload_n hC dL_law_289 3 rfl rfl ?_
            obtain ⟨q33, h33, hf⟩ := xk_bi hf
            refine xk_backi (xk_callSH hC 4 (c_L_change hl9 h33) xm_592 xm_593 xm_0 xm_594 xd_L_change rfl ⟨Nat.le_of_ble_eq_true rfl, Nat.le_of_ble_eq_true rfl⟩ rfl (Nat.le_of_ble_eq_true rfl) dL_law_290 ⟨(by show _ ≤ 600002; omega), (by show _ ≤ 7302232; omega)⟩) ?_
            refine xk_istore (i := 5) (lv' := [(5, .int (q33.1)), (0, va_rf (x0)), (1, va_rf (x1)), (2, va_rf (x2)), (3, va_rf (x3)), (4, .int (x4))]) hC dL_law_293 (by decide) rfl ?_
            refine xk_aload_n hC dL_law_295 3 rfl rfl ?_
            refine xk_aload_n hC dL_law_296 1 rfl rfl ?_
            refine xk_iload hC dL_law_297 5 rfl ?_
            refine xk_iconst (v := (1 : Int32)) hC dL_law_299 (by decide) ?_
            refine xk_iadd hC dL_law_300 ?_
            obtain ⟨v34, h34, hf⟩ := xk_bi hf
            refine xk_iald hC rfl dL_law_301 h34 ?_
            refine xk_aload_n hC dL_law_302 1 rfl rfl ?_
            refine xk_iload hC dL_law_303 5 rfl ?_
            refine xk_iconst (v := (2 : Int32)) hC dL_law_305 (by decide) ?_
            refine xk_iadd hC dL_law_306 ?_
            obtain ⟨v35, h35, hf⟩ := xk_bi hf
            refine xk_iald hC rfl dL_law_307 h35 ?_
            obtain ⟨u37, h37, hf⟩ := xk_bi hf
            obtain ⟨q36, h36, hf⟩ := xk_bi hf
            refine xk_backi (xk_callV hC 2 xc_5 (c_X8_change h36) h37 xm_954 xm_955 xm_956 xm_6 xm_957 ⟨rfl, xd_X8_change⟩ rfl ⟨Nat.le_of_ble_eq_true rfl, Nat.le_of_ble_eq_true rfl⟩ rfl (Nat.le_of_ble_eq_true rfl) dL_law_308 ⟨(by show _ ≤ 600002; omega), (by show _ ≤ 7302232; omega)⟩) ?_
            refine xk_istore (i := 6) (lv' := [(6, .int (q36.1)), (5, .int (q33.1)), (0, va_rf (x0)), (1, va_rf (x1)), (2, va_rf (x2)), (3, va_rf (x3)), (4, .int (x4))]) hC dL_law_311 (by decide) rfl ?_
            refine xk_aload_n hC dL_law_313 4 rfl rfl ?_
            obtain ⟨u39, h39, hf⟩ := xk_bi hf
            obtain ⟨q38, h38, hf⟩ := xk_bi hf
            refine xk_backi (xk_callV hC 0 xc_5 (c_X8_thrown h38) h39 xm_891 xm_892 xm_893 xm_6 xm_894 ⟨rfl, xd_X8_thrown⟩ rfl ⟨Nat.le_of_ble_eq_true rfl, Nat.le_of_ble_eq_true rfl⟩ rfl (Nat.le_of_ble_eq_true rfl) dL_law_314 ⟨(by show _ ≤ 600002; omega), (by show _ ≤ 7302232; omega)⟩) ?_
            refine xk_iload hC dL_law_317 1 rfl ?_
            refine xk_icmp_eq (tgt := 324) hC dL_law_319 (by decide) (fun c40 => ?_) (fun c40 => ?_)
            · replace hf := (if_pos c40).symm.trans hf
              refine xk_iload hC dL_law_324 1 rfl ?_
              refine xk_if_ne (tgt := 341) hC dL_law_326 (by decide) (fun c41 => ?_) (fun c41 => ?_)
              · replace hf := (if_neg c41).symm.trans hf
                refine xk_locals [2, 3, 4, 5, 6] rfl ?_
                exact t_L_law_341 hC hr hz hq hl9 (by omega) (by omega) (by omega) (by omega) (fun x0 x1 x2 x3 x4 w hf => ih x0 x1 x2 x3 x4 w (kc + 100) (ks + 3870) (by omega) (by omega) hf) x0 x1 x2 x3 x4 (q38.2) hf
              · replace hf := (if_pos c41).symm.trans hf
                refine xk_aload_n hC dL_law_329 5 rfl rfl ?_
                refine xk_iconst (v := (0 : Int32)) hC dL_law_330 (by decide) ?_
                obtain ⟨v42, h42, hf⟩ := xk_bi hf
                refine xk_lald hC rfl dL_law_331 h42 ?_
                refine xk_iload hC dL_law_332 0 rfl ?_
                refine xk_i2l hC dL_law_334 ?_
                refine xk_lcmp hC dL_law_335 ?_
                refine xk_if_eq (tgt := 341) hC dL_law_336 (by decide) (fun c43 => ?_) (fun c43 => ?_)
                · replace hf := (if_pos c43).symm.trans hf
                  refine xk_locals [2, 3, 4, 5, 6] rfl ?_
                  exact t_L_law_341 hC hr hz hq hl9 (by omega) (by omega) (by omega) (by omega) (fun x0 x1 x2 x3 x4 w hf => ih x0 x1 x2 x3 x4 w (kc + 100) (ks + 3870) (by omega) (by omega) hf) x0 x1 x2 x3 x4 (q38.2) hf
                · replace hf := (if_neg c43).symm.trans hf
                  refine xk_iconst (v := (0 : Int32)) hC dL_law_339 (by decide) ?_
                  cases hf
                  exact xk_lawret hC hr hz hq (by omega) (by omega) dL_law_340
            · replace hf := (if_neg c40).symm.trans hf
              refine xk_iconst (v := (0 : Int32)) hC dL_law_322 (by decide) ?_
              cases hf
              exact xk_lawret hC hr hz hq (by omega) (by omega) dL_law_323
          · replace hf := (if_neg c30).symm.trans hf
            by_cases c44 : ((v3) &&& ((31 : Int32))) = (3 : Int32)
            · replace hf := (if_pos c44).symm.trans hf
              refine xk_tableIn (tgt := 344) hC dL_law_40 (by rw [c44]; decide) (by rw [c44]; decide) (off := 304) (by rw [c44]; rfl) (by decide) ?_
              refine xk_aload_n hC dL_law_344 1 rfl rfl ?_
              refine xk_aload_n hC dL_law_345 0 rfl rfl ?_
              refine xk_iload hC dL_law_346 4 rfl ?_
              refine xk_iconst (v := (1 : Int32)) hC dL_law_348 (by decide) ?_
              refine xk_iadd hC dL_law_349 ?_
              obtain ⟨v45, h45, hf⟩ := xk_bi hf
              refine xk_iald hC rfl dL_law_350 h45 ?_
              refine xk_aload_n hC dL_law_351 0 rfl rfl ?_
              refine xk_iload hC dL_law_352 4 rfl ?_
              refine xk_iconst (v := (2 : Int32)) hC dL_law_354 (by decide) ?_
              refine xk_iadd hC dL_law_355 ?_
              obtain ⟨v46, h46, hf⟩ := xk_bi hf
              refine xk_iald hC rfl dL_law_356 h46 ?_
              refine xk_aload_n hC dL_law_357 0 rfl rfl ?_
              refine xk_iload hC dL_law_358 4 rfl ?_
              refine xk_iconst (v := (3 : Int32)) hC dL_law_360 (by decide) ?_
              refine xk_iadd hC dL_law_361 ?_
              obtain ⟨v47, h47, hf⟩ := xk_bi hf
              refine xk_iald hC rfl dL_law_362 h47 ?_
              refine xk_aload_n hC dL_law_363 0 rfl rfl ?_
              refine xk_iload hC dL_law_364 4 rfl ?_
              refine xk_iconst (v := (4 : Int32)) hC dL_law_366 (by decide) ?_
              refine xk_iadd hC dL_law_367 ?_
              obtain ⟨v48, h48, hf⟩ := xk_bi hf
              refine xk_iald hC rfl dL_law_368 h48 ?_
              refine xk_aload_n hC dL_law_369 0 rfl rfl ?_
              refine xk_iload hC dL_law_370 4 rfl ?_
              refine xk_iconst (v := (5 : Int32)) hC dL_law_372 (by decide) ?_
              refine xk_iadd hC dL_law_373 ?_
              obtain ⟨v49, h49, hf⟩ := xk_bi hf
              refine xk_iald hC rfl dL_law_374 h49 ?_
              refine xk_aload_n hC dL_law_375 3 rfl rfl ?_
              obtain ⟨q50, h50, hf⟩ := xk_bi hf
              refine xk_backi (xk_callSH hC 7 (c_L_cue hl9 h50) xm_615 xm_616 xm_0 xm_617 xd_L_cue rfl ⟨Nat.le_of_ble_eq_true rfl, Nat.le_of_ble_eq_true rfl⟩ rfl (Nat.le_of_ble_eq_true rfl) dL_law_376 ⟨(by show _ ≤ 600002; omega), (by show _ ≤ 7302232; omega)⟩) ?_
              refine xk_istore (i := 5) (lv' := [(5, .int (q50.1)), (0, va_rf (x0)), (1, va_rf (x1)), (2, va_rf (x2)), (3, va_rf (x3)), (4, .int (x4))]) hC dL_law_379 (by decide) rfl ?_
              refine xk_aload_n hC dL_law_381 3 rfl rfl ?_
              refine xk_aload_n hC dL_law_382 1 rfl rfl ?_
              refine xk_iload hC dL_law_383 5 rfl ?_
              refine xk_iconst (v := (1 : Int32)) hC dL_law_385 (by decide) ?_
              refine xk_iadd hC dL_law_386 ?_
              obtain ⟨v51, h51, hf⟩ := xk_bi hf
              refine xk_iald hC rfl dL_law_387 h51 ?_
              refine xk_aload_n hC dL_law_388 1 rfl rfl ?_
              refine xk_iload hC dL_law_389 5 rfl ?_
              refine xk_iconst (v := (2 : Int32)) hC dL_law_391 (by decide) ?_
              refine xk_iadd hC dL_law_392 ?_
              obtain ⟨v52, h52, hf⟩ := xk_bi hf
              refine xk_iald hC rfl dL_law_393 h52 ?_
              refine xk_aload_n hC dL_law_394 1 rfl rfl ?_
              refine xk_iload hC dL_law_395 5 rfl ?_
              refine xk_iconst (v := (3 : Int32)) hC dL_law_397 (by decide) ?_
              refine xk_iadd hC dL_law_398 ?_
              obtain ⟨v53, h53, hf⟩ := xk_bi hf
              refine xk_iald hC rfl dL_law_399 h53 ?_
              refine xk_aload_n hC dL_law_400 1 rfl rfl ?_
              refine xk_iload hC dL_law_401 5 rfl ?_
              refine xk_iconst (v := (4 : Int32)) hC dL_law_403 (by decide) ?_
              refine xk_iadd hC dL_law_404 ?_
              obtain ⟨v54, h54, hf⟩ := xk_bi hf
              refine xk_iald hC rfl dL_law_405 h54 ?_
              refine xk_aload_n hC dL_law_406 1 rfl rfl ?_
              refine xk_iload hC dL_law_407 5 rfl ?_
              refine xk_iconst (v := (5 : Int32)) hC dL_law_409 (by decide) ?_
              refine xk_iadd hC dL_law_410 ?_
              obtain ⟨v55, h55, hf⟩ := xk_bi hf
              refine xk_iald hC rfl dL_law_411 h55 ?_
              obtain ⟨u57, h57, hf⟩ := xk_bi hf
              obtain ⟨q56, h56, hf⟩ := xk_bi hf
              refine xk_backi (xk_callV hC 5 xc_5 (c_X8_cue h56) h57 xm_1041 xm_1042 xm_1043 xm_6 xm_1044 ⟨rfl, xd_X8_cue⟩ rfl ⟨Nat.le_of_ble_eq_true rfl, Nat.le_of_ble_eq_true rfl⟩ rfl (Nat.le_of_ble_eq_true rfl) dL_law_412 ⟨(by show _ ≤ 600002; omega), (by show _ ≤ 7302232; omega)⟩) ?_
              refine xk_istore (i := 6) (lv' := [(6, .int (q56.1)), (5, .int (q50.1)), (0, va_rf (x0)), (1, va_rf (x1)), (2, va_rf (x2)), (3, va_rf (x3)), (4, .int (x4))]) hC dL_law_415 (by decide) rfl ?_
              refine xk_aload_n hC dL_law_417 4 rfl rfl ?_
              obtain ⟨u59, h59, hf⟩ := xk_bi hf
              obtain ⟨q58, h58, hf⟩ := xk_bi hf
              refine xk_backi (xk_callV hC 0 xc_5 (c_X8_thrown h58) h59 xm_891 xm_892 xm_893 xm_6 xm_894 ⟨rfl, xd_X8_thrown⟩ rfl ⟨Nat.le_of_ble_eq_true rfl, Nat.le_of_ble_eq_true rfl⟩ rfl (Nat.le_of_ble_eq_true rfl) dL_law_418 ⟨(by show _ ≤ 600002; omega), (by show _ ≤ 7302232; omega)⟩) ?_
              refine xk_iload hC dL_law_421 1 rfl ?_
              refine xk_icmp_eq (tgt := 428) hC dL_law_423 (by decide) (fun c60 => ?_) (fun c60 => ?_)
              · replace hf := (if_pos c60).symm.trans hf
                refine xk_iload hC dL_law_428 1 rfl ?_
                refine xk_if_ne (tgt := 445) hC dL_law_430 (by decide) (fun c61 => ?_) (fun c61 => ?_)
                · replace hf := (if_neg c61).symm.trans hf
                  refine xk_locals [2, 3, 4, 5, 6] rfl ?_
                  exact t_L_law_445 hC hr hz hq hl9 (by omega) (by omega) (by omega) (by omega) (fun x0 x1 x2 x3 x4 w hf => ih x0 x1 x2 x3 x4 w (kc + 100) (ks + 3870) (by omega) (by omega) hf) x0 x1 x2 x3 x4 (q58.2) hf
                · replace hf := (if_pos c61).symm.trans hf
                  refine xk_aload_n hC dL_law_433 5 rfl rfl ?_
                  refine xk_iconst (v := (0 : Int32)) hC dL_law_434 (by decide) ?_
                  obtain ⟨v62, h62, hf⟩ := xk_bi hf
                  refine xk_lald hC rfl dL_law_435 h62 ?_
                  refine xk_iload hC dL_law_436 0 rfl ?_
                  refine xk_i2l hC dL_law_438 ?_
                  refine xk_lcmp hC dL_law_439 ?_
                  refine xk_if_eq (tgt := 445) hC dL_law_440 (by decide) (fun c63 => ?_) (fun c63 => ?_)
                  · replace hf := (if_pos c63).symm.trans hf
                    refine xk_locals [2, 3, 4, 5, 6] rfl ?_
                    exact t_L_law_445 hC hr hz hq hl9 (by omega) (by omega) (by omega) (by omega) (fun x0 x1 x2 x3 x4 w hf => ih x0 x1 x2 x3 x4 w (kc + 100) (ks + 3870) (by omega) (by omega) hf) x0 x1 x2 x3 x4 (q58.2) hf
                  · replace hf := (if_neg c63).symm.trans hf
                    refine xk_iconst (v := (0 : Int32)) hC dL_law_443 (by decide) ?_
                    cases hf
                    exact xk_lawret hC hr hz hq (by omega) (by omega) dL_law_444
              · replace hf := (if_neg c60).symm.trans hf
                refine xk_iconst (v := (0 : Int32)) hC dL_law_426 (by decide) ?_
                cases hf
                exact xk_lawret hC hr hz hq (by omega) (by omega) dL_law_427
            · replace hf := (if_neg c44).symm.trans hf
              by_cases c64 : ((v3) &&& ((31 : Int32))) = (4 : Int32)
              · replace hf := (if_pos c64).symm.trans hf
                refine xk_tableIn (tgt := 448) hC dL_law_40 (by rw [c64]; decide) (by rw [c64]; decide) (off := 408) (by rw [c64]; rfl) (by decide) ?_
                refine xk_aload_n hC dL_law_448 1 rfl rfl ?_
                refine xk_aload_n hC dL_law_449 0 rfl rfl ?_
                refine xk_iload hC dL_law_450 4 rfl ?_
                refine xk_iconst (v := (1 : Int32)) hC dL_law_452 (by decide) ?_
                refine xk_iadd hC dL_law_453 ?_
                obtain ⟨v65, h65, hf⟩ := xk_bi hf
                refine xk_iald hC rfl dL_law_454 h65 ?_
                refine xk_aload_n hC dL_law_455 0 rfl rfl ?_
                refine xk_iload hC dL_law_456 4 rfl ?_
                refine xk_iconst (v := (2 : Int32)) hC dL_law_458 (by decide) ?_
                refine xk_iadd hC dL_law_459 ?_
                obtain ⟨v66, h66, hf⟩ := xk_bi hf
                refine xk_iald hC rfl dL_law_460 h66 ?_
                refine xk_aload_n hC dL_law_461 0 rfl rfl ?_
                refine xk_iload hC dL_law_462 4 rfl ?_
                refine xk_iconst (v := (3 : Int32)) hC dL_law_464 (by decide) ?_
                refine xk_iadd hC dL_law_465 ?_
                obtain ⟨v67, h67, hf⟩ := xk_bi hf
                refine xk_iald hC rfl dL_law_466 h67 ?_
                refine xk_aload_n hC dL_law_467 3 rfl rfl ?_
                obtain ⟨q68, h68, hf⟩ := xk_bi hf
                refine xk_backi (xk_callSH hC 5 (c_L_bar hl9 h68) xm_687 xm_688 xm_0 xm_689 xd_L_bar rfl ⟨Nat.le_of_ble_eq_true rfl, Nat.le_of_ble_eq_true rfl⟩ rfl (Nat.le_of_ble_eq_true rfl) dL_law_468 ⟨(by show _ ≤ 600002; omega), (by show _ ≤ 7302232; omega)⟩) ?_
                refine xk_istore (i := 5) (lv' := [(5, .int (q68.1)), (0, va_rf (x0)), (1, va_rf (x1)), (2, va_rf (x2)), (3, va_rf (x3)), (4, .int (x4))]) hC dL_law_471 (by decide) rfl ?_
                refine xk_aload_n hC dL_law_473 3 rfl rfl ?_
                refine xk_aload_n hC dL_law_474 1 rfl rfl ?_
                refine xk_iload hC dL_law_475 5 rfl ?_
                refine xk_iconst (v := (1 : Int32)) hC dL_law_477 (by decide) ?_
                refine xk_iadd hC dL_law_478 ?_
                obtain ⟨v69, h69, hf⟩ := xk_bi hf
                refine xk_iald hC rfl dL_law_479 h69 ?_
                refine xk_aload_n hC dL_law_480 1 rfl rfl ?_
                refine xk_iload hC dL_law_481 5 rfl ?_
                refine xk_iconst (v := (2 : Int32)) hC dL_law_483 (by decide) ?_
                refine xk_iadd hC dL_law_484 ?_
                obtain ⟨v70, h70, hf⟩ := xk_bi hf
                refine xk_iald hC rfl dL_law_485 h70 ?_
                refine xk_aload_n hC dL_law_486 1 rfl rfl ?_
                refine xk_iload hC dL_law_487 5 rfl ?_
                refine xk_iconst (v := (3 : Int32)) hC dL_law_489 (by decide) ?_
                refine xk_iadd hC dL_law_490 ?_
                obtain ⟨v71, h71, hf⟩ := xk_bi hf
                refine xk_iald hC rfl dL_law_491 h71 ?_
                obtain ⟨u73, h73, hf⟩ := xk_bi hf
                obtain ⟨q72, h72, hf⟩ := xk_bi hf
                refine xk_backi (xk_callV hC 3 xc_5 (c_X8_bar h72) h73 xm_1086 xm_1087 xm_1088 xm_6 xm_1089 ⟨rfl, xd_X8_bar⟩ rfl ⟨Nat.le_of_ble_eq_true rfl, Nat.le_of_ble_eq_true rfl⟩ rfl (Nat.le_of_ble_eq_true rfl) dL_law_492 ⟨(by show _ ≤ 600002; omega), (by show _ ≤ 7302232; omega)⟩) ?_
                refine xk_istore (i := 6) (lv' := [(6, .int (q72.1)), (5, .int (q68.1)), (0, va_rf (x0)), (1, va_rf (x1)), (2, va_rf (x2)), (3, va_rf (x3)), (4, .int (x4))]) hC dL_law_495 (by decide) rfl ?_
                refine xk_aload_n hC dL_law_497 4 rfl rfl ?_
                obtain ⟨u75, h75, hf⟩ := xk_bi hf
                obtain ⟨q74, h74, hf⟩ := xk_bi hf
                refine xk_backi (xk_callV hC 0 xc_5 (c_X8_thrown h74) h75 xm_891 xm_892 xm_893 xm_6 xm_894 ⟨rfl, xd_X8_thrown⟩ rfl ⟨Nat.le_of_ble_eq_true rfl, Nat.le_of_ble_eq_true rfl⟩ rfl (Nat.le_of_ble_eq_true rfl) dL_law_498 ⟨(by show _ ≤ 600002; omega), (by show _ ≤ 7302232; omega)⟩) ?_
                refine xk_iload hC dL_law_501 1 rfl ?_
                refine xk_icmp_eq (tgt := 508) hC dL_law_503 (by decide) (fun c76 => ?_) (fun c76 => ?_)
                · replace hf := (if_pos c76).symm.trans hf
                  refine xk_iload hC dL_law_508 1 rfl ?_
                  refine xk_if_ne (tgt := 525) hC dL_law_510 (by decide) (fun c77 => ?_) (fun c77 => ?_)
                  · replace hf := (if_neg c77).symm.trans hf
                    refine xk_locals [2, 3, 4, 5, 6] rfl ?_
                    exact t_L_law_525 hC hr hz hq hl9 (by omega) (by omega) (by omega) (by omega) (fun x0 x1 x2 x3 x4 w hf => ih x0 x1 x2 x3 x4 w (kc + 100) (ks + 3870) (by omega) (by omega) hf) x0 x1 x2 x3 x4 (q74.2) hf
                  · replace hf := (if_pos c77).symm.trans hf
                    refine xk_aload_n hC dL_law_513 5 rfl rfl ?_
                    refine xk_iconst (v := (0 : Int32)) hC dL_law_514 (by decide) ?_
                    obtain ⟨v78, h78, hf⟩ := xk_bi hf
                    refine xk_lald hC rfl dL_law_515 h78 ?_
                    refine xk_iload hC dL_law_516 0 rfl ?_
                    refine xk_i2l hC dL_law_518 ?_
                    refine xk_lcmp hC dL_law_519 ?_
                    refine xk_if_eq (tgt := 525) hC dL_law_520 (by decide) (fun c79 => ?_) (fun c79 => ?_)
                    · replace hf := (if_pos c79).symm.trans hf
                      refine xk_locals [2, 3, 4, 5, 6] rfl ?_
                      exact t_L_law_525 hC hr hz hq hl9 (by omega) (by omega) (by omega) (by omega) (fun x0 x1 x2 x3 x4 w hf => ih x0 x1 x2 x3 x4 w (kc + 100) (ks + 3870) (by omega) (by omega) hf) x0 x1 x2 x3 x4 (q74.2) hf
                    · replace hf := (if_neg c79).symm.trans hf
                      refine xk_iconst (v := (0 : Int32)) hC dL_law_523 (by decide) ?_
                      cases hf
                      exact xk_lawret hC hr hz hq (by omega) (by omega) dL_law_524
                · replace hf := (if_neg c76).symm.trans hf
                  refine xk_iconst (v := (0 : Int32)) hC dL_law_506 (by decide) ?_
                  cases hf
                  exact xk_lawret hC hr hz hq (by omega) (by omega) dL_law_507
              · replace hf := (if_neg c64).symm.trans hf
                by_cases c80 : ((v3) &&& ((31 : Int32))) = (5 : Int32)
                · replace hf := (if_pos c80).symm.trans hf
                  refine xk_tableIn (tgt := 528) hC dL_law_40 (by rw [c80]; decide) (by rw [c80]; decide) (off := 488) (by rw [c80]; rfl) (by decide) ?_
                  refine xk_aload_n hC dL_law_528 1 rfl rfl ?_
                  refine xk_aload_n hC dL_law_529 0 rfl rfl ?_
                  refine xk_iload hC dL_law_530 4 rfl ?_
                  refine xk_iconst (v := (1 : Int32)) hC dL_law_532 (by decide) ?_
                  refine xk_iadd hC dL_law_533 ?_
                  obtain ⟨v81, h81, hf⟩ := xk_bi hf
                  refine xk_iald hC rfl dL_law_534 h81 ?_
                  refine xk_aload_n hC dL_law_535 0 rfl rfl ?_
                  refine xk_iload hC dL_law_536 4 rfl ?_
                  refine xk_iconst (v := (2 : Int32)) hC dL_law_538 (by decide) ?_
                  refine xk_iadd hC dL_law_539 ?_
                  obtain ⟨v82, h82, hf⟩ := xk_bi hf
                  refine xk_iald hC rfl dL_law_540 h82 ?_
                  refine xk_aload_n hC dL_law_541 0 rfl rfl ?_
                  refine xk_iload hC dL_law_542 4 rfl ?_
                  refine xk_iconst (v := (3 : Int32)) hC dL_law_544 (by decide) ?_
                  refine xk_iadd hC dL_law_545 ?_
                  obtain ⟨v83, h83, hf⟩ := xk_bi hf
                  refine xk_iald hC rfl dL_law_546 h83 ?_
                  refine xk_aload_n hC dL_law_547 0 rfl rfl ?_
                  refine xk_iload hC dL_law_548 4 rfl ?_
                  refine xk_iconst (v := (4 : Int32)) hC dL_law_550 (by decide) ?_
                  refine xk_iadd hC dL_law_551 ?_
                  obtain ⟨v84, h84, hf⟩ := xk_bi hf
                  refine xk_iald hC rfl dL_law_552 h84 ?_
                  refine xk_aload_n hC dL_law_553 3 rfl rfl ?_
                  obtain ⟨q85, h85, hf⟩ := xk_bi hf
                  refine xk_backi (xk_callSH hC 6 (c_L_retime hl9 h85) xm_711 xm_712 xm_0 xm_713 xd_L_retime rfl ⟨Nat.le_of_ble_eq_true rfl, Nat.le_of_ble_eq_true rfl⟩ rfl (Nat.le_of_ble_eq_true rfl) dL_law_554 ⟨(by show _ ≤ 600002; omega), (by show _ ≤ 7302232; omega)⟩) ?_
                  refine xk_istore (i := 5) (lv' := [(5, .int (q85.1)), (0, va_rf (x0)), (1, va_rf (x1)), (2, va_rf (x2)), (3, va_rf (x3)), (4, .int (x4))]) hC dL_law_557 (by decide) rfl ?_
                  refine xk_aload_n hC dL_law_559 3 rfl rfl ?_
                  refine xk_aload_n hC dL_law_560 1 rfl rfl ?_
                  refine xk_iload hC dL_law_561 5 rfl ?_
                  refine xk_iconst (v := (1 : Int32)) hC dL_law_563 (by decide) ?_
                  refine xk_iadd hC dL_law_564 ?_
                  obtain ⟨v86, h86, hf⟩ := xk_bi hf
                  refine xk_iald hC rfl dL_law_565 h86 ?_
                  refine xk_aload_n hC dL_law_566 1 rfl rfl ?_
                  refine xk_iload hC dL_law_567 5 rfl ?_
                  refine xk_iconst (v := (2 : Int32)) hC dL_law_569 (by decide) ?_
                  refine xk_iadd hC dL_law_570 ?_
                  obtain ⟨v87, h87, hf⟩ := xk_bi hf
                  refine xk_iald hC rfl dL_law_571 h87 ?_
                  refine xk_aload_n hC dL_law_572 1 rfl rfl ?_
                  refine xk_iload hC dL_law_573 5 rfl ?_
                  refine xk_iconst (v := (3 : Int32)) hC dL_law_575 (by decide) ?_
                  refine xk_iadd hC dL_law_576 ?_
                  obtain ⟨v88, h88, hf⟩ := xk_bi hf
                  refine xk_iald hC rfl dL_law_577 h88 ?_
                  refine xk_aload_n hC dL_law_578 1 rfl rfl ?_
                  refine xk_iload hC dL_law_579 5 rfl ?_
                  refine xk_iconst (v := (4 : Int32)) hC dL_law_581 (by decide) ?_
                  refine xk_iadd hC dL_law_582 ?_
                  obtain ⟨v89, h89, hf⟩ := xk_bi hf
                  refine xk_iald hC rfl dL_law_583 h89 ?_
                  obtain ⟨u91, h91, hf⟩ := xk_bi hf
                  obtain ⟨q90, h90, hf⟩ := xk_bi hf
                  refine xk_backi (xk_callV hC 4 xc_5 (c_X8_retime h90) h91 xm_1097 xm_1098 xm_1099 xm_6 xm_1100 ⟨rfl, xd_X8_retime⟩ rfl ⟨Nat.le_of_ble_eq_true rfl, Nat.le_of_ble_eq_true rfl⟩ rfl (Nat.le_of_ble_eq_true rfl) dL_law_584 ⟨(by show _ ≤ 600002; omega), (by show _ ≤ 7302232; omega)⟩) ?_
                  refine xk_istore (i := 6) (lv' := [(6, .int (q90.1)), (5, .int (q85.1)), (0, va_rf (x0)), (1, va_rf (x1)), (2, va_rf (x2)), (3, va_rf (x3)), (4, .int (x4))]) hC dL_law_587 (by decide) rfl ?_
                  refine xk_aload_n hC dL_law_589 4 rfl rfl ?_
                  obtain ⟨u93, h93, hf⟩ := xk_bi hf
                  obtain ⟨q92, h92, hf⟩ := xk_bi hf
                  refine xk_backi (xk_callV hC 0 xc_5 (c_X8_thrown h92) h93 xm_891 xm_892 xm_893 xm_6 xm_894 ⟨rfl, xd_X8_thrown⟩ rfl ⟨Nat.le_of_ble_eq_true rfl, Nat.le_of_ble_eq_true rfl⟩ rfl (Nat.le_of_ble_eq_true rfl) dL_law_590 ⟨(by show _ ≤ 600002; omega), (by show _ ≤ 7302232; omega)⟩) ?_
                  refine xk_iload hC dL_law_593 1 rfl ?_
                  refine xk_icmp_eq (tgt := 600) hC dL_law_595 (by decide) (fun c94 => ?_) (fun c94 => ?_)
                  · replace hf := (if_pos c94).symm.trans hf
                    refine xk_iload hC dL_law_600 1 rfl ?_
                    refine xk_if_ne (tgt := 617) hC dL_law_602 (by decide) (fun c95 => ?_) (fun c95 => ?_)
                    · replace hf := (if_neg c95).symm.trans hf
                      refine xk_locals [2, 3, 4, 5, 6] rfl ?_
                      exact t_L_law_617 hC hr hz hq hl9 (by omega) (by omega) (by omega) (by omega) (fun x0 x1 x2 x3 x4 w hf => ih x0 x1 x2 x3 x4 w (kc + 100) (ks + 3870) (by omega) (by omega) hf) x0 x1 x2 x3 x4 (q92.2) hf
                    · replace hf := (if_pos c95).symm.trans hf
                      refine xk_aload_n hC dL_law_605 5 rfl rfl ?_
                      refine xk_iconst (v := (0 : Int32)) hC dL_law_606 (by decide) ?_
                      obtain ⟨v96, h96, hf⟩ := xk_bi hf
                      refine xk_lald hC rfl dL_law_607 h96 ?_
                      refine xk_iload hC dL_law_608 0 rfl ?_
                      refine xk_i2l hC dL_law_610 ?_
                      refine xk_lcmp hC dL_law_611 ?_
                      refine xk_if_eq (tgt := 617) hC dL_law_612 (by decide) (fun c97 => ?_) (fun c97 => ?_)
                      · replace hf := (if_pos c97).symm.trans hf
                        refine xk_locals [2, 3, 4, 5, 6] rfl ?_
                        exact t_L_law_617 hC hr hz hq hl9 (by omega) (by omega) (by omega) (by omega) (fun x0 x1 x2 x3 x4 w hf => ih x0 x1 x2 x3 x4 w (kc + 100) (ks + 3870) (by omega) (by omega) hf) x0 x1 x2 x3 x4 (q92.2) hf
                      · replace hf := (if_neg c97).symm.trans hf
                        refine xk_iconst (v := (0 : Int32)) hC dL_law_615 (by decide) ?_
                        cases hf
                        exact xk_lawret hC hr hz hq (by omega) (by omega) dL_law_616
                  · replace hf := (if_neg c94).symm.trans hf
                    refine xk_iconst (v := (0 : Int32)) hC dL_law_598 (by decide) ?_
                    cases hf
                    exact xk_lawret hC hr hz hq (by omega) (by omega) dL_law_599
                · replace hf := (if_neg c80).symm.trans hf
                  by_cases c98 : ((v3) &&& ((31 : Int32))) = (6 : Int32)
                  · replace hf := (if_pos c98).symm.trans hf
                    refine xk_tableIn (tgt := 620) hC dL_law_40 (by rw [c98]; decide) (by rw [c98]; decide) (off := 580) (by rw [c98]; rfl) (by decide) ?_
                    refine xk_aload_n hC dL_law_620 1 rfl rfl ?_
                    refine xk_aload_n hC dL_law_621 0 rfl rfl ?_
                    refine xk_iload hC dL_law_622 4 rfl ?_
                    refine xk_iconst (v := (1 : Int32)) hC dL_law_624 (by decide) ?_
                    refine xk_iadd hC dL_law_625 ?_
                    obtain ⟨v99, h99, hf⟩ := xk_bi hf
                    refine xk_iald hC rfl dL_law_626 h99 ?_
                    refine xk_aload_n hC dL_law_627 0 rfl rfl ?_
                    refine xk_iload hC dL_law_628 4 rfl ?_
                    refine xk_iconst (v := (2 : Int32)) hC dL_law_630 (by decide) ?_
                    refine xk_iadd hC dL_law_631 ?_
                    obtain ⟨v100, h100, hf⟩ := xk_bi hf
                    refine xk_iald hC rfl dL_law_632 h100 ?_
                    refine xk_aload_n hC dL_law_633 3 rfl rfl ?_
                    obtain ⟨q101, h101, hf⟩ := xk_bi hf
                    refine xk_backi (xk_callSH hC 4 (c_L_shift hl9 h101) xm_718 xm_719 xm_0 xm_720 xd_L_shift rfl ⟨Nat.le_of_ble_eq_true rfl, Nat.le_of_ble_eq_true rfl⟩ rfl (Nat.le_of_ble_eq_true rfl) dL_law_634 ⟨(by show _ ≤ 600002; omega), (by show _ ≤ 7302232; omega)⟩) ?_
                    refine xk_istore (i := 5) (lv' := [(5, .int (q101.1)), (0, va_rf (x0)), (1, va_rf (x1)), (2, va_rf (x2)), (3, va_rf (x3)), (4, .int (x4))]) hC dL_law_637 (by decide) rfl ?_
                    refine xk_aload_n hC dL_law_639 3 rfl rfl ?_
                    refine xk_aload_n hC dL_law_640 1 rfl rfl ?_
                    refine xk_iload hC dL_law_641 5 rfl ?_
                    refine xk_iconst (v := (1 : Int32)) hC dL_law_643 (by decide) ?_
                    refine xk_iadd hC dL_law_644 ?_
                    obtain ⟨v102, h102, hf⟩ := xk_bi hf
                    refine xk_iald hC rfl dL_law_645 h102 ?_
                    refine xk_aload_n hC dL_law_646 1 rfl rfl ?_
                    refine xk_iload hC dL_law_647 5 rfl ?_
                    refine xk_iconst (v := (2 : Int32)) hC dL_law_649 (by decide) ?_
                    refine xk_iadd hC dL_law_650 ?_
                    obtain ⟨v103, h103, hf⟩ := xk_bi hf
                    refine xk_iald hC rfl dL_law_651 h103 ?_
                    obtain ⟨u105, h105, hf⟩ := xk_bi hf
                    obtain ⟨q104, h104, hf⟩ := xk_bi hf
                    refine xk_backi (xk_callV hC 2 xc_5 (c_X8_shift h104) h105 xm_1106 xm_1107 xm_1108 xm_6 xm_1109 ⟨rfl, xd_X8_shift⟩ rfl ⟨Nat.le_of_ble_eq_true rfl, Nat.le_of_ble_eq_true rfl⟩ rfl (Nat.le_of_ble_eq_true rfl) dL_law_652 ⟨(by show _ ≤ 600002; omega), (by show _ ≤ 7302232; omega)⟩) ?_
                    refine xk_istore (i := 6) (lv' := [(6, .int (q104.1)), (5, .int (q101.1)), (0, va_rf (x0)), (1, va_rf (x1)), (2, va_rf (x2)), (3, va_rf (x3)), (4, .int (x4))]) hC dL_law_655 (by decide) rfl ?_
                    refine xk_aload_n hC dL_law_657 4 rfl rfl ?_
                    obtain ⟨u107, h107, hf⟩ := xk_bi hf
                    obtain ⟨q106, h106, hf⟩ := xk_bi hf
                    refine xk_backi (xk_callV hC 0 xc_5 (c_X8_thrown h106) h107 xm_891 xm_892 xm_893 xm_6 xm_894 ⟨rfl, xd_X8_thrown⟩ rfl ⟨Nat.le_of_ble_eq_true rfl, Nat.le_of_ble_eq_true rfl⟩ rfl (Nat.le_of_ble_eq_true rfl) dL_law_658 ⟨(by show _ ≤ 600002; omega), (by show _ ≤ 7302232; omega)⟩) ?_
                    refine xk_iload hC dL_law_661 1 rfl ?_
                    refine xk_icmp_eq (tgt := 668) hC dL_law_663 (by decide) (fun c108 => ?_) (fun c108 => ?_)
                    · replace hf := (if_pos c108).symm.trans hf
                      refine xk_iload hC dL_law_668 1 rfl ?_
                      refine xk_if_ne (tgt := 685) hC dL_law_670 (by decide) (fun c109 => ?_) (fun c109 => ?_)
                      · replace hf := (if_neg c109).symm.trans hf
                        refine xk_locals [2, 3, 4, 5, 6] rfl ?_
                        exact t_L_law_685 hC hr hz hq hl9 (by omega) (by omega) (by omega) (by omega) (fun x0 x1 x2 x3 x4 w hf => ih x0 x1 x2 x3 x4 w (kc + 100) (ks + 3870) (by omega) (by omega) hf) x0 x1 x2 x3 x4 (q106.2) hf
                      · replace hf := (if_pos c109).symm.trans hf
                        refine xk_aload_n hC dL_law_673 5 rfl rfl ?_
                        refine xk_iconst (v := (0 : Int32)) hC dL_law_674 (by decide) ?_
                        obtain ⟨v110, h110, hf⟩ := xk_bi hf
                        refine xk_lald hC rfl dL_law_675 h110 ?_
                        refine xk_iload hC dL_law_676 0 rfl ?_
                        refine xk_i2l hC dL_law_678 ?_
                        refine xk_lcmp hC dL_law_679 ?_
                        refine xk_if_eq (tgt := 685) hC dL_law_680 (by decide) (fun c111 => ?_) (fun c111 => ?_)
                        · replace hf := (if_pos c111).symm.trans hf
                          refine xk_locals [2, 3, 4, 5, 6] rfl ?_
                          exact t_L_law_685 hC hr hz hq hl9 (by omega) (by omega) (by omega) (by omega) (fun x0 x1 x2 x3 x4 w hf => ih x0 x1 x2 x3 x4 w (kc + 100) (ks + 3870) (by omega) (by omega) hf) x0 x1 x2 x3 x4 (q106.2) hf
                        · replace hf := (if_neg c111).symm.trans hf
                          refine xk_iconst (v := (0 : Int32)) hC dL_law_683 (by decide) ?_
                          cases hf
                          exact xk_lawret hC hr hz hq (by omega) (by omega) dL_law_684
                    · replace hf := (if_neg c108).symm.trans hf
                      refine xk_iconst (v := (0 : Int32)) hC dL_law_666 (by decide) ?_
                      cases hf
                      exact xk_lawret hC hr hz hq (by omega) (by omega) dL_law_667
                  · replace hf := (if_neg c98).symm.trans hf
                    by_cases c112 : ((v3) &&& ((31 : Int32))) = (7 : Int32)
                    · replace hf := (if_pos c112).symm.trans hf
                      refine xk_tableIn (tgt := 688) hC dL_law_40 (by rw [c112]; decide) (by rw [c112]; decide) (off := 648) (by rw [c112]; rfl) (by decide) ?_
                      refine xk_aload_n hC dL_law_688 1 rfl rfl ?_
                      refine xk_aload_n hC dL_law_689 0 rfl rfl ?_
                      refine xk_iload hC dL_law_690 4 rfl ?_
                      refine xk_iconst (v := (1 : Int32)) hC dL_law_692 (by decide) ?_
                      refine xk_iadd hC dL_law_693 ?_
                      obtain ⟨v113, h113, hf⟩ := xk_bi hf
                      refine xk_iald hC rfl dL_law_694 h113 ?_
                      refine xk_aload_n hC dL_law_695 3 rfl rfl ?_
                      obtain ⟨q114, h114, hf⟩ := xk_bi hf
                      refine xk_backi (xk_callSH hC 3 (c_L_open hl9 h114) xm_726 xm_727 xm_0 xm_728 xd_L_open rfl ⟨Nat.le_of_ble_eq_true rfl, Nat.le_of_ble_eq_true rfl⟩ rfl (Nat.le_of_ble_eq_true rfl) dL_law_696 ⟨(by show _ ≤ 600002; omega), (by show _ ≤ 7302232; omega)⟩) ?_
                      refine xk_istore (i := 5) (lv' := [(5, .int (q114.1)), (0, va_rf (x0)), (1, va_rf (x1)), (2, va_rf (x2)), (3, va_rf (x3)), (4, .int (x4))]) hC dL_law_699 (by decide) rfl ?_
                      refine xk_aload_n hC dL_law_701 3 rfl rfl ?_
                      refine xk_aload_n hC dL_law_702 1 rfl rfl ?_
                      refine xk_iload hC dL_law_703 5 rfl ?_
                      refine xk_iconst (v := (1 : Int32)) hC dL_law_705 (by decide) ?_
                      refine xk_iadd hC dL_law_706 ?_
                      obtain ⟨v115, h115, hf⟩ := xk_bi hf
                      refine xk_iald hC rfl dL_law_707 h115 ?_
                      obtain ⟨u117, h117, hf⟩ := xk_bi hf
                      obtain ⟨q116, h116, hf⟩ := xk_bi hf
                      refine xk_backi (xk_callV hC 1 xc_5 (c_X8_open h116) h117 xm_1147 xm_1148 xm_1149 xm_6 xm_1150 ⟨rfl, xd_X8_open⟩ rfl ⟨Nat.le_of_ble_eq_true rfl, Nat.le_of_ble_eq_true rfl⟩ rfl (Nat.le_of_ble_eq_true rfl) dL_law_708 ⟨(by show _ ≤ 600002; omega), (by show _ ≤ 7302232; omega)⟩) ?_
                      refine xk_istore (i := 6) (lv' := [(6, .int (q116.1)), (5, .int (q114.1)), (0, va_rf (x0)), (1, va_rf (x1)), (2, va_rf (x2)), (3, va_rf (x3)), (4, .int (x4))]) hC dL_law_711 (by decide) rfl ?_
                      refine xk_aload_n hC dL_law_713 4 rfl rfl ?_
                      obtain ⟨u119, h119, hf⟩ := xk_bi hf
                      obtain ⟨q118, h118, hf⟩ := xk_bi hf
                      refine xk_backi (xk_callV hC 0 xc_5 (c_X8_thrown h118) h119 xm_891 xm_892 xm_893 xm_6 xm_894 ⟨rfl, xd_X8_thrown⟩ rfl ⟨Nat.le_of_ble_eq_true rfl, Nat.le_of_ble_eq_true rfl⟩ rfl (Nat.le_of_ble_eq_true rfl) dL_law_714 ⟨(by show _ ≤ 600002; omega), (by show _ ≤ 7302232; omega)⟩) ?_
                      refine xk_iload hC dL_law_717 1 rfl ?_
                      refine xk_icmp_eq (tgt := 724) hC dL_law_719 (by decide) (fun c120 => ?_) (fun c120 => ?_)
                      · replace hf := (if_pos c120).symm.trans hf
                        refine xk_iload hC dL_law_724 1 rfl ?_
                        refine xk_if_ne (tgt := 741) hC dL_law_726 (by decide) (fun c121 => ?_) (fun c121 => ?_)
                        · replace hf := (if_neg c121).symm.trans hf
                          refine xk_locals [2, 3, 4, 5, 6] rfl ?_
                          exact t_L_law_741 hC hr hz hq hl9 (by omega) (by omega) (by omega) (by omega) (fun x0 x1 x2 x3 x4 w hf => ih x0 x1 x2 x3 x4 w (kc + 100) (ks + 3870) (by omega) (by omega) hf) x0 x1 x2 x3 x4 (q118.2) hf
                        · replace hf := (if_pos c121).symm.trans hf
                          refine xk_aload_n hC dL_law_729 5 rfl rfl ?_
                          refine xk_iconst (v := (0 : Int32)) hC dL_law_730 (by decide) ?_
                          obtain ⟨v122, h122, hf⟩ := xk_bi hf
                          refine xk_lald hC rfl dL_law_731 h122 ?_
                          refine xk_iload hC dL_law_732 0 rfl ?_
                          refine xk_i2l hC dL_law_734 ?_
                          refine xk_lcmp hC dL_law_735 ?_
                          refine xk_if_eq (tgt := 741) hC dL_law_736 (by decide) (fun c123 => ?_) (fun c123 => ?_)
                          · replace hf := (if_pos c123).symm.trans hf
                            refine xk_locals [2, 3, 4, 5, 6] rfl ?_
                            exact t_L_law_741 hC hr hz hq hl9 (by omega) (by omega) (by omega) (by omega) (fun x0 x1 x2 x3 x4 w hf => ih x0 x1 x2 x3 x4 w (kc + 100) (ks + 3870) (by omega) (by omega) hf) x0 x1 x2 x3 x4 (q118.2) hf
                          · replace hf := (if_neg c123).symm.trans hf
                            refine xk_iconst (v := (0 : Int32)) hC dL_law_739 (by decide) ?_
                            cases hf
                            exact xk_lawret hC hr hz hq (by omega) (by omega) dL_law_740
                      · replace hf := (if_neg c120).symm.trans hf
                        refine xk_iconst (v := (0 : Int32)) hC dL_law_722 (by decide) ?_
                        cases hf
                        exact xk_lawret hC hr hz hq (by omega) (by omega) dL_law_723
                    · replace hf := (if_neg c112).symm.trans hf
                      by_cases c124 : ((v3) &&& ((31 : Int32))) = (8 : Int32)
                      · replace hf := (if_pos c124).symm.trans hf
                        refine xk_tableIn (tgt := 744) hC dL_law_40 (by rw [c124]; decide) (by rw [c124]; decide) (off := 704) (by rw [c124]; rfl) (by decide) ?_
                        refine xk_aload_n hC dL_law_744 1 rfl rfl ?_
                        refine xk_aload_n hC dL_law_745 0 rfl rfl ?_
                        refine xk_iload hC dL_law_746 4 rfl ?_
                        refine xk_iconst (v := (1 : Int32)) hC dL_law_748 (by decide) ?_
                        refine xk_iadd hC dL_law_749 ?_
                        obtain ⟨v125, h125, hf⟩ := xk_bi hf
                        refine xk_iald hC rfl dL_law_750 h125 ?_
                        refine xk_aload_n hC dL_law_751 0 rfl rfl ?_
                        refine xk_iload hC dL_law_752 4 rfl ?_
                        refine xk_iconst (v := (2 : Int32)) hC dL_law_754 (by decide) ?_
                        refine xk_iadd hC dL_law_755 ?_
                        obtain ⟨v126, h126, hf⟩ := xk_bi hf
                        refine xk_iald hC rfl dL_law_756 h126 ?_
                        refine xk_aload_n hC dL_law_757 0 rfl rfl ?_
                        refine xk_iload hC dL_law_758 4 rfl ?_
                        refine xk_iconst (v := (3 : Int32)) hC dL_law_760 (by decide) ?_
                        refine xk_iadd hC dL_law_761 ?_
                        obtain ⟨v127, h127, hf⟩ := xk_bi hf
                        refine xk_iald hC rfl dL_law_762 h127 ?_
                        refine xk_aload_n hC dL_law_763 3 rfl rfl ?_
                        obtain ⟨q128, h128, hf⟩ := xk_bi hf
                        refine xk_backi (xk_callSH hC 5 (c_L_take hl9 h128) xm_735 xm_736 xm_0 xm_737 xd_L_take rfl ⟨Nat.le_of_ble_eq_true rfl, Nat.le_of_ble_eq_true rfl⟩ rfl (Nat.le_of_ble_eq_true rfl) dL_law_764 ⟨(by show _ ≤ 600002; omega), (by show _ ≤ 7302232; omega)⟩) ?_
                        refine xk_istore (i := 5) (lv' := [(5, .int (q128.1)), (0, va_rf (x0)), (1, va_rf (x1)), (2, va_rf (x2)), (3, va_rf (x3)), (4, .int (x4))]) hC dL_law_767 (by decide) rfl ?_
                        refine xk_aload_n hC dL_law_769 3 rfl rfl ?_
                        refine xk_aload_n hC dL_law_770 1 rfl rfl ?_
                        refine xk_iload hC dL_law_771 5 rfl ?_
                        refine xk_iconst (v := (1 : Int32)) hC dL_law_773 (by decide) ?_
                        refine xk_iadd hC dL_law_774 ?_
                        obtain ⟨v129, h129, hf⟩ := xk_bi hf
                        refine xk_iald hC rfl dL_law_775 h129 ?_
                        refine xk_aload_n hC dL_law_776 1 rfl rfl ?_
                        refine xk_iload hC dL_law_777 5 rfl ?_
                        refine xk_iconst (v := (2 : Int32)) hC dL_law_779 (by decide) ?_
                        refine xk_iadd hC dL_law_780 ?_
                        obtain ⟨v130, h130, hf⟩ := xk_bi hf
                        refine xk_iald hC rfl dL_law_781 h130 ?_
                        refine xk_aload_n hC dL_law_782 1 rfl rfl ?_
                        refine xk_iload hC dL_law_783 5 rfl ?_
                        refine xk_iconst (v := (3 : Int32)) hC dL_law_785 (by decide) ?_
                        refine xk_iadd hC dL_law_786 ?_
                        obtain ⟨v131, h131, hf⟩ := xk_bi hf
                        refine xk_iald hC rfl dL_law_787 h131 ?_
                        obtain ⟨u133, h133, hf⟩ := xk_bi hf
                        obtain ⟨q132, h132, hf⟩ := xk_bi hf
                        refine xk_backi (xk_callV hC 3 xc_5 (c_X8_take h132) h133 xm_1151 xm_1152 xm_1153 xm_6 xm_1154 ⟨rfl, xd_X8_take⟩ rfl ⟨Nat.le_of_ble_eq_true rfl, Nat.le_of_ble_eq_true rfl⟩ rfl (Nat.le_of_ble_eq_true rfl) dL_law_788 ⟨(by show _ ≤ 600002; omega), (by show _ ≤ 7302232; omega)⟩) ?_
                        refine xk_istore (i := 6) (lv' := [(6, .int (q132.1)), (5, .int (q128.1)), (0, va_rf (x0)), (1, va_rf (x1)), (2, va_rf (x2)), (3, va_rf (x3)), (4, .int (x4))]) hC dL_law_791 (by decide) rfl ?_
                        refine xk_aload_n hC dL_law_793 4 rfl rfl ?_
                        obtain ⟨u135, h135, hf⟩ := xk_bi hf
                        obtain ⟨q134, h134, hf⟩ := xk_bi hf
                        refine xk_backi (xk_callV hC 0 xc_5 (c_X8_thrown h134) h135 xm_891 xm_892 xm_893 xm_6 xm_894 ⟨rfl, xd_X8_thrown⟩ rfl ⟨Nat.le_of_ble_eq_true rfl, Nat.le_of_ble_eq_true rfl⟩ rfl (Nat.le_of_ble_eq_true rfl) dL_law_794 ⟨(by show _ ≤ 600002; omega), (by show _ ≤ 7302232; omega)⟩) ?_
                        refine xk_iload hC dL_law_797 1 rfl ?_
                        refine xk_icmp_eq (tgt := 804) hC dL_law_799 (by decide) (fun c136 => ?_) (fun c136 => ?_)
                        · replace hf := (if_pos c136).symm.trans hf
                          refine xk_iload hC dL_law_804 1 rfl ?_
                          refine xk_if_ne (tgt := 821) hC dL_law_806 (by decide) (fun c137 => ?_) (fun c137 => ?_)
                          · replace hf := (if_neg c137).symm.trans hf
                            refine xk_locals [2, 3, 4, 5, 6] rfl ?_
                            exact t_L_law_821 hC hr hz hq hl9 (by omega) (by omega) (by omega) (by omega) (fun x0 x1 x2 x3 x4 w hf => ih x0 x1 x2 x3 x4 w (kc + 100) (ks + 3870) (by omega) (by omega) hf) x0 x1 x2 x3 x4 (q134.2) hf
                          · replace hf := (if_pos c137).symm.trans hf
                            refine xk_aload_n hC dL_law_809 5 rfl rfl ?_
                            refine xk_iconst (v := (0 : Int32)) hC dL_law_810 (by decide) ?_
                            obtain ⟨v138, h138, hf⟩ := xk_bi hf
                            refine xk_lald hC rfl dL_law_811 h138 ?_
                            refine xk_iload hC dL_law_812 0 rfl ?_
                            refine xk_i2l hC dL_law_814 ?_
                            refine xk_lcmp hC dL_law_815 ?_
                            refine xk_if_eq (tgt := 821) hC dL_law_816 (by decide) (fun c139 => ?_) (fun c139 => ?_)
                            · replace hf := (if_pos c139).symm.trans hf
                              refine xk_locals [2, 3, 4, 5, 6] rfl ?_
                              exact t_L_law_821 hC hr hz hq hl9 (by omega) (by omega) (by omega) (by omega) (fun x0 x1 x2 x3 x4 w hf => ih x0 x1 x2 x3 x4 w (kc + 100) (ks + 3870) (by omega) (by omega) hf) x0 x1 x2 x3 x4 (q134.2) hf
                            · replace hf := (if_neg c139).symm.trans hf
                              refine xk_iconst (v := (0 : Int32)) hC dL_law_819 (by decide) ?_
                              cases hf
                              exact xk_lawret hC hr hz hq (by omega) (by omega) dL_law_820
                        · replace hf := (if_neg c136).symm.trans hf
                          refine xk_iconst (v := (0 : Int32)) hC dL_law_802 (by decide) ?_
                          cases hf
                          exact xk_lawret hC hr hz hq (by omega) (by omega) dL_law_803
                      · replace hf := (if_neg c124).symm.trans hf
                        by_cases c140 : ((v3) &&& ((31 : Int32))) = (9 : Int32)
                        · replace hf := (if_pos c140).symm.trans hf
                          refine xk_tableIn (tgt := 824) hC dL_law_40 (by rw [c140]; decide) (by rw [c140]; decide) (off := 784) (by rw [c140]; rfl) (by decide) ?_
                          refine xk_aload_n hC dL_law_824 1 rfl rfl ?_
                          refine xk_aload_n hC dL_law_825 3 rfl rfl ?_
                          obtain ⟨q141, h141, hf⟩ := xk_bi hf
                          refine xk_backi (xk_callSH hC 2 (c_L_close hl9 h141) xm_777 xm_778 xm_0 xm_779 xd_L_close rfl ⟨Nat.le_of_ble_eq_true rfl, Nat.le_of_ble_eq_true rfl⟩ rfl (Nat.le_of_ble_eq_true rfl) dL_law_826 ⟨(by show _ ≤ 600002; omega), (by show _ ≤ 7302232; omega)⟩) ?_
                          refine xk_istore (i := 5) (lv' := [(5, .int (q141.1)), (0, va_rf (x0)), (1, va_rf (x1)), (2, va_rf (x2)), (3, va_rf (x3)), (4, .int (x4))]) hC dL_law_829 (by decide) rfl ?_
                          refine xk_aload_n hC dL_law_831 3 rfl rfl ?_
                          obtain ⟨u143, h143, hf⟩ := xk_bi hf
                          obtain ⟨q142, h142, hf⟩ := xk_bi hf
                          refine xk_backi (xk_callV hC 0 xc_5 (c_X8_close h142) h143 xm_1187 xm_1188 xm_1189 xm_6 xm_1190 ⟨rfl, xd_X8_close⟩ rfl ⟨Nat.le_of_ble_eq_true rfl, Nat.le_of_ble_eq_true rfl⟩ rfl (Nat.le_of_ble_eq_true rfl) dL_law_832 ⟨(by show _ ≤ 600002; omega), (by show _ ≤ 7302232; omega)⟩) ?_
                          refine xk_istore (i := 6) (lv' := [(6, .int (q142.1)), (5, .int (q141.1)), (0, va_rf (x0)), (1, va_rf (x1)), (2, va_rf (x2)), (3, va_rf (x3)), (4, .int (x4))]) hC dL_law_835 (by decide) rfl ?_
                          refine xk_aload_n hC dL_law_837 4 rfl rfl ?_
                          obtain ⟨u145, h145, hf⟩ := xk_bi hf
                          obtain ⟨q144, h144, hf⟩ := xk_bi hf
                          refine xk_backi (xk_callV hC 0 xc_5 (c_X8_thrown h144) h145 xm_891 xm_892 xm_893 xm_6 xm_894 ⟨rfl, xd_X8_thrown⟩ rfl ⟨Nat.le_of_ble_eq_true rfl, Nat.le_of_ble_eq_true rfl⟩ rfl (Nat.le_of_ble_eq_true rfl) dL_law_838 ⟨(by show _ ≤ 600002; omega), (by show _ ≤ 7302232; omega)⟩) ?_
                          refine xk_iload hC dL_law_841 1 rfl ?_
                          refine xk_icmp_eq (tgt := 848) hC dL_law_843 (by decide) (fun c146 => ?_) (fun c146 => ?_)
                          · replace hf := (if_pos c146).symm.trans hf
                            refine xk_iload hC dL_law_848 1 rfl ?_
                            refine xk_if_ne (tgt := 865) hC dL_law_850 (by decide) (fun c147 => ?_) (fun c147 => ?_)
                            · replace hf := (if_neg c147).symm.trans hf
                              refine xk_locals [2, 3, 4, 5, 6] rfl ?_
                              exact t_L_law_865 hC hr hz hq hl9 (by omega) (by omega) (by omega) (by omega) (fun x0 x1 x2 x3 x4 w hf => ih x0 x1 x2 x3 x4 w (kc + 100) (ks + 3870) (by omega) (by omega) hf) x0 x1 x2 x3 x4 (q144.2) hf
                            · replace hf := (if_pos c147).symm.trans hf
                              refine xk_aload_n hC dL_law_853 5 rfl rfl ?_
                              refine xk_iconst (v := (0 : Int32)) hC dL_law_854 (by decide) ?_
                              obtain ⟨v148, h148, hf⟩ := xk_bi hf
                              refine xk_lald hC rfl dL_law_855 h148 ?_
                              refine xk_iload hC dL_law_856 0 rfl ?_
                              refine xk_i2l hC dL_law_858 ?_
                              refine xk_lcmp hC dL_law_859 ?_
                              refine xk_if_eq (tgt := 865) hC dL_law_860 (by decide) (fun c149 => ?_) (fun c149 => ?_)
                              · replace hf := (if_pos c149).symm.trans hf
                                refine xk_locals [2, 3, 4, 5, 6] rfl ?_
                                exact t_L_law_865 hC hr hz hq hl9 (by omega) (by omega) (by omega) (by omega) (fun x0 x1 x2 x3 x4 w hf => ih x0 x1 x2 x3 x4 w (kc + 100) (ks + 3870) (by omega) (by omega) hf) x0 x1 x2 x3 x4 (q144.2) hf
                              · replace hf := (if_neg c149).symm.trans hf
                                refine xk_iconst (v := (0 : Int32)) hC dL_law_863 (by decide) ?_
                                cases hf
                                exact xk_lawret hC hr hz hq (by omega) (by omega) dL_law_864
                          · replace hf := (if_neg c146).symm.trans hf
                            refine xk_iconst (v := (0 : Int32)) hC dL_law_846 (by decide) ?_
                            cases hf
                            exact xk_lawret hC hr hz hq (by omega) (by omega) dL_law_847
                        · replace hf := (if_neg c140).symm.trans hf
                          by_cases c150 : ((v3) &&& ((31 : Int32))) = (10 : Int32)
                          · replace hf := (if_pos c150).symm.trans hf
                            refine xk_tableIn (tgt := 868) hC dL_law_40 (by rw [c150]; decide) (by rw [c150]; decide) (off := 828) (by rw [c150]; rfl) (by decide) ?_
                            refine xk_aload_n hC dL_law_868 1 rfl rfl ?_
                            refine xk_aload_n hC dL_law_869 0 rfl rfl ?_
                            refine xk_iload hC dL_law_870 4 rfl ?_
                            refine xk_iconst (v := (1 : Int32)) hC dL_law_872 (by decide) ?_
                            refine xk_iadd hC dL_law_873 ?_
                            obtain ⟨v151, h151, hf⟩ := xk_bi hf
                            refine xk_iald hC rfl dL_law_874 h151 ?_
                            refine xk_aload_n hC dL_law_875 0 rfl rfl ?_
                            refine xk_iload hC dL_law_876 4 rfl ?_
                            refine xk_iconst (v := (2 : Int32)) hC dL_law_878 (by decide) ?_
                            refine xk_iadd hC dL_law_879 ?_
                            obtain ⟨v152, h152, hf⟩ := xk_bi hf
                            refine xk_iald hC rfl dL_law_880 h152 ?_
                            refine xk_aload_n hC dL_law_881 3 rfl rfl ?_
                            obtain ⟨q153, h153, hf⟩ := xk_bi hf
                            refine xk_backi (xk_callSH hC 4 (c_L_ofHit hl9 h153) xm_786 xm_787 xm_0 xm_788 xd_L_ofHit rfl ⟨Nat.le_of_ble_eq_true rfl, Nat.le_of_ble_eq_true rfl⟩ rfl (Nat.le_of_ble_eq_true rfl) dL_law_882 ⟨(by show _ ≤ 600002; omega), (by show _ ≤ 7302232; omega)⟩) ?_
                            refine xk_istore (i := 5) (lv' := [(5, .int (q153.1)), (0, va_rf (x0)), (1, va_rf (x1)), (2, va_rf (x2)), (3, va_rf (x3)), (4, .int (x4))]) hC dL_law_885 (by decide) rfl ?_
                            refine xk_aload_n hC dL_law_887 3 rfl rfl ?_
                            refine xk_aload_n hC dL_law_888 1 rfl rfl ?_
                            refine xk_iload hC dL_law_889 5 rfl ?_
                            refine xk_iconst (v := (1 : Int32)) hC dL_law_891 (by decide) ?_
                            refine xk_iadd hC dL_law_892 ?_
                            obtain ⟨v154, h154, hf⟩ := xk_bi hf
                            refine xk_iald hC rfl dL_law_893 h154 ?_
                            refine xk_aload_n hC dL_law_894 1 rfl rfl ?_
                            refine xk_iload hC dL_law_895 5 rfl ?_
                            refine xk_iconst (v := (2 : Int32)) hC dL_law_897 (by decide) ?_
                            refine xk_iadd hC dL_law_898 ?_
                            obtain ⟨v155, h155, hf⟩ := xk_bi hf
                            refine xk_iald hC rfl dL_law_899 h155 ?_
                            obtain ⟨u157, h157, hf⟩ := xk_bi hf
                            obtain ⟨q156, h156, hf⟩ := xk_bi hf
                            refine xk_backi (xk_callV hC 2 xc_5 (c_X8_ofHit h156) h157 xm_1192 xm_1193 xm_1194 xm_6 xm_1195 ⟨rfl, xd_X8_ofHit⟩ rfl ⟨Nat.le_of_ble_eq_true rfl, Nat.le_of_ble_eq_true rfl⟩ rfl (Nat.le_of_ble_eq_true rfl) dL_law_900 ⟨(by show _ ≤ 600002; omega), (by show _ ≤ 7302232; omega)⟩) ?_
                            refine xk_istore (i := 6) (lv' := [(6, .int (q156.1)), (5, .int (q153.1)), (0, va_rf (x0)), (1, va_rf (x1)), (2, va_rf (x2)), (3, va_rf (x3)), (4, .int (x4))]) hC dL_law_903 (by decide) rfl ?_
                            refine xk_aload_n hC dL_law_905 4 rfl rfl ?_
                            obtain ⟨u159, h159, hf⟩ := xk_bi hf
                            obtain ⟨q158, h158, hf⟩ := xk_bi hf
                            refine xk_backi (xk_callV hC 0 xc_5 (c_X8_thrown h158) h159 xm_891 xm_892 xm_893 xm_6 xm_894 ⟨rfl, xd_X8_thrown⟩ rfl ⟨Nat.le_of_ble_eq_true rfl, Nat.le_of_ble_eq_true rfl⟩ rfl (Nat.le_of_ble_eq_true rfl) dL_law_906 ⟨(by show _ ≤ 600002; omega), (by show _ ≤ 7302232; omega)⟩) ?_
                            refine xk_iload hC dL_law_909 1 rfl ?_
                            refine xk_icmp_eq (tgt := 916) hC dL_law_911 (by decide) (fun c160 => ?_) (fun c160 => ?_)
                            · replace hf := (if_pos c160).symm.trans hf
                              refine xk_iload hC dL_law_916 1 rfl ?_
                              refine xk_if_ne (tgt := 933) hC dL_law_918 (by decide) (fun c161 => ?_) (fun c161 => ?_)
                              · replace hf := (if_neg c161).symm.trans hf
                                refine xk_locals [2, 3, 4, 5, 6] rfl ?_
                                exact t_L_law_933 hC hr hz hq hl9 (by omega) (by omega) (by omega) (by omega) (fun x0 x1 x2 x3 x4 w hf => ih x0 x1 x2 x3 x4 w (kc + 100) (ks + 3870) (by omega) (by omega) hf) x0 x1 x2 x3 x4 (q158.2) hf
                              · replace hf := (if_pos c161).symm.trans hf
                                refine xk_aload_n hC dL_law_921 5 rfl rfl ?_
                                refine xk_iconst (v := (0 : Int32)) hC dL_law_922 (by decide) ?_
                                obtain ⟨v162, h162, hf⟩ := xk_bi hf
                                refine xk_lald hC rfl dL_law_923 h162 ?_
                                refine xk_iload hC dL_law_924 0 rfl ?_
                                refine xk_i2l hC dL_law_926 ?_
                                refine xk_lcmp hC dL_law_927 ?_
                                refine xk_if_eq (tgt := 933) hC dL_law_928 (by decide) (fun c163 => ?_) (fun c163 => ?_)
                                · replace hf := (if_pos c163).symm.trans hf
                                  refine xk_locals [2, 3, 4, 5, 6] rfl ?_
                                  exact t_L_law_933 hC hr hz hq hl9 (by omega) (by omega) (by omega) (by omega) (fun x0 x1 x2 x3 x4 w hf => ih x0 x1 x2 x3 x4 w (kc + 100) (ks + 3870) (by omega) (by omega) hf) x0 x1 x2 x3 x4 (q158.2) hf
                                · replace hf := (if_neg c163).symm.trans hf
                                  refine xk_iconst (v := (0 : Int32)) hC dL_law_931 (by decide) ?_
                                  cases hf
                                  exact xk_lawret hC hr hz hq (by omega) (by omega) dL_law_932
                            · replace hf := (if_neg c160).symm.trans hf
                              refine xk_iconst (v := (0 : Int32)) hC dL_law_914 (by decide) ?_
                              cases hf
                              exact xk_lawret hC hr hz hq (by omega) (by omega) dL_law_915
                          · replace hf := (if_neg c150).symm.trans hf
                            by_cases c164 : ((v3) &&& ((31 : Int32))) = (11 : Int32)
                            · replace hf := (if_pos c164).symm.trans hf
                              refine xk_tableIn (tgt := 936) hC dL_law_40 (by rw [c164]; decide) (by rw [c164]; decide) (off := 896) (by rw [c164]; rfl) (by decide) ?_
                              refine xk_aload_n hC dL_law_936 1 rfl rfl ?_
                              refine xk_aload_n hC dL_law_937 0 rfl rfl ?_
                              refine xk_iload hC dL_law_938 4 rfl ?_
                              refine xk_iconst (v := (1 : Int32)) hC dL_law_940 (by decide) ?_
                              refine xk_iadd hC dL_law_941 ?_
                              obtain ⟨v165, h165, hf⟩ := xk_bi hf
                              refine xk_iald hC rfl dL_law_942 h165 ?_
                              refine xk_aload_n hC dL_law_943 0 rfl rfl ?_
                              refine xk_iload hC dL_law_944 4 rfl ?_
                              refine xk_iconst (v := (2 : Int32)) hC dL_law_946 (by decide) ?_
                              refine xk_iadd hC dL_law_947 ?_
                              obtain ⟨v166, h166, hf⟩ := xk_bi hf
                              refine xk_iald hC rfl dL_law_948 h166 ?_
                              refine xk_aload_n hC dL_law_949 3 rfl rfl ?_
                              obtain ⟨q167, h167, hf⟩ := xk_bi hf
                              refine xk_backi (xk_callSH hC 4 (c_L_ofCue hl9 h167) xm_790 xm_791 xm_0 xm_792 xd_L_ofCue rfl ⟨Nat.le_of_ble_eq_true rfl, Nat.le_of_ble_eq_true rfl⟩ rfl (Nat.le_of_ble_eq_true rfl) dL_law_950 ⟨(by show _ ≤ 600002; omega), (by show _ ≤ 7302232; omega)⟩) ?_
                              refine xk_istore (i := 5) (lv' := [(5, .int (q167.1)), (0, va_rf (x0)), (1, va_rf (x1)), (2, va_rf (x2)), (3, va_rf (x3)), (4, .int (x4))]) hC dL_law_953 (by decide) rfl ?_
                              refine xk_aload_n hC dL_law_955 3 rfl rfl ?_
                              refine xk_aload_n hC dL_law_956 1 rfl rfl ?_
                              refine xk_iload hC dL_law_957 5 rfl ?_
                              refine xk_iconst (v := (1 : Int32)) hC dL_law_959 (by decide) ?_
                              refine xk_iadd hC dL_law_960 ?_
                              obtain ⟨v168, h168, hf⟩ := xk_bi hf
                              refine xk_iald hC rfl dL_law_961 h168 ?_
                              refine xk_aload_n hC dL_law_962 1 rfl rfl ?_
                              refine xk_iload hC dL_law_963 5 rfl ?_
                              refine xk_iconst (v := (2 : Int32)) hC dL_law_965 (by decide) ?_
                              refine xk_iadd hC dL_law_966 ?_
                              obtain ⟨v169, h169, hf⟩ := xk_bi hf
                              refine xk_iald hC rfl dL_law_967 h169 ?_
                              obtain ⟨u171, h171, hf⟩ := xk_bi hf
                              obtain ⟨q170, h170, hf⟩ := xk_bi hf
                              refine xk_backi (xk_callV hC 2 xc_5 (c_X8_ofCue h170) h171 xm_1200 xm_1201 xm_1202 xm_6 xm_1203 ⟨rfl, xd_X8_ofCue⟩ rfl ⟨Nat.le_of_ble_eq_true rfl, Nat.le_of_ble_eq_true rfl⟩ rfl (Nat.le_of_ble_eq_true rfl) dL_law_968 ⟨(by show _ ≤ 600002; omega), (by show _ ≤ 7302232; omega)⟩) ?_
                              refine xk_istore (i := 6) (lv' := [(6, .int (q170.1)), (5, .int (q167.1)), (0, va_rf (x0)), (1, va_rf (x1)), (2, va_rf (x2)), (3, va_rf (x3)), (4, .int (x4))]) hC dL_law_971 (by decide) rfl ?_
                              refine xk_aload_n hC dL_law_973 4 rfl rfl ?_
                              obtain ⟨u173, h173, hf⟩ := xk_bi hf
                              obtain ⟨q172, h172, hf⟩ := xk_bi hf
                              refine xk_backi (xk_callV hC 0 xc_5 (c_X8_thrown h172) h173 xm_891 xm_892 xm_893 xm_6 xm_894 ⟨rfl, xd_X8_thrown⟩ rfl ⟨Nat.le_of_ble_eq_true rfl, Nat.le_of_ble_eq_true rfl⟩ rfl (Nat.le_of_ble_eq_true rfl) dL_law_974 ⟨(by show _ ≤ 600002; omega), (by show _ ≤ 7302232; omega)⟩) ?_
                              refine xk_iload hC dL_law_977 1 rfl ?_
                              refine xk_icmp_eq (tgt := 984) hC dL_law_979 (by decide) (fun c174 => ?_) (fun c174 => ?_)
                              · replace hf := (if_pos c174).symm.trans hf
                                refine xk_iload hC dL_law_984 1 rfl ?_
                                refine xk_if_ne (tgt := 1001) hC dL_law_986 (by decide) (fun c175 => ?_) (fun c175 => ?_)
                                · replace hf := (if_neg c175).symm.trans hf
                                  refine xk_locals [2, 3, 4, 5, 6] rfl ?_
                                  exact t_L_law_1001 hC hr hz hq hl9 (by omega) (by omega) (by omega) (by omega) (fun x0 x1 x2 x3 x4 w hf => ih x0 x1 x2 x3 x4 w (kc + 100) (ks + 3870) (by omega) (by omega) hf) x0 x1 x2 x3 x4 (q172.2) hf
                                · replace hf := (if_pos c175).symm.trans hf
                                  refine xk_aload_n hC dL_law_989 5 rfl rfl ?_
                                  refine xk_iconst (v := (0 : Int32)) hC dL_law_990 (by decide) ?_
                                  obtain ⟨v176, h176, hf⟩ := xk_bi hf
                                  refine xk_lald hC rfl dL_law_991 h176 ?_
                                  refine xk_iload hC dL_law_992 0 rfl ?_
                                  refine xk_i2l hC dL_law_994 ?_
                                  refine xk_lcmp hC dL_law_995 ?_
                                  refine xk_if_eq (tgt := 1001) hC dL_law_996 (by decide) (fun c177 => ?_) (fun c177 => ?_)
                                  · replace hf := (if_pos c177).symm.trans hf
                                    refine xk_locals [2, 3, 4, 5, 6] rfl ?_
                                    exact t_L_law_1001 hC hr hz hq hl9 (by omega) (by omega) (by omega) (by omega) (fun x0 x1 x2 x3 x4 w hf => ih x0 x1 x2 x3 x4 w (kc + 100) (ks + 3870) (by omega) (by omega) hf) x0 x1 x2 x3 x4 (q172.2) hf
                                  · replace hf := (if_neg c177).symm.trans hf
                                    refine xk_iconst (v := (0 : Int32)) hC dL_law_999 (by decide) ?_
                                    cases hf
                                    exact xk_lawret hC hr hz hq (by omega) (by omega) dL_law_1000
                              · replace hf := (if_neg c174).symm.trans hf
                                refine xk_iconst (v := (0 : Int32)) hC dL_law_982 (by decide) ?_
                                cases hf
                                exact xk_lawret hC hr hz hq (by omega) (by omega) dL_law_983
                            · replace hf := (if_neg c164).symm.trans hf
                              by_cases c178 : ((v3) &&& ((31 : Int32))) = (12 : Int32)
                              · replace hf := (if_pos c178).symm.trans hf
                                refine xk_tableIn (tgt := 1004) hC dL_law_40 (by rw [c178]; decide) (by rw [c178]; decide) (off := 964) (by rw [c178]; rfl) (by decide) ?_
                                refine xk_aload_n hC dL_law_1004 1 rfl rfl ?_
                                refine xk_aload_n hC dL_law_1005 0 rfl rfl ?_
                                refine xk_iload hC dL_law_1006 4 rfl ?_
                                refine xk_iconst (v := (1 : Int32)) hC dL_law_1008 (by decide) ?_
                                refine xk_iadd hC dL_law_1009 ?_
                                obtain ⟨v179, h179, hf⟩ := xk_bi hf
                                refine xk_iald hC rfl dL_law_1010 h179 ?_
                                refine xk_aload_n hC dL_law_1011 0 rfl rfl ?_
                                refine xk_iload hC dL_law_1012 4 rfl ?_
                                refine xk_iconst (v := (2 : Int32)) hC dL_law_1014 (by decide) ?_
                                refine xk_iadd hC dL_law_1015 ?_
                                obtain ⟨v180, h180, hf⟩ := xk_bi hf
                                refine xk_iald hC rfl dL_law_1016 h180 ?_
                                refine xk_aload_n hC dL_law_1017 0 rfl rfl ?_
                                refine xk_iload hC dL_law_1018 4 rfl ?_
                                refine xk_iconst (v := (3 : Int32)) hC dL_law_1020 (by decide) ?_
                                refine xk_iadd hC dL_law_1021 ?_
                                obtain ⟨v181, h181, hf⟩ := xk_bi hf
                                refine xk_iald hC rfl dL_law_1022 h181 ?_
                                refine xk_aload_n hC dL_law_1023 3 rfl rfl ?_
                                obtain ⟨q182, h182, hf⟩ := xk_bi hf
                                refine xk_backi (xk_callSH hC 5 (c_L_ofBar hl9 h182) xm_794 xm_795 xm_0 xm_796 xd_L_ofBar rfl ⟨Nat.le_of_ble_eq_true rfl, Nat.le_of_ble_eq_true rfl⟩ rfl (Nat.le_of_ble_eq_true rfl) dL_law_1024 ⟨(by show _ ≤ 600002; omega), (by show _ ≤ 7302232; omega)⟩) ?_
                                refine xk_istore (i := 5) (lv' := [(5, .int (q182.1)), (0, va_rf (x0)), (1, va_rf (x1)), (2, va_rf (x2)), (3, va_rf (x3)), (4, .int (x4))]) hC dL_law_1027 (by decide) rfl ?_
                                refine xk_aload_n hC dL_law_1029 3 rfl rfl ?_
                                refine xk_aload_n hC dL_law_1030 1 rfl rfl ?_
                                refine xk_iload hC dL_law_1031 5 rfl ?_
                                refine xk_iconst (v := (1 : Int32)) hC dL_law_1033 (by decide) ?_
                                refine xk_iadd hC dL_law_1034 ?_
                                obtain ⟨v183, h183, hf⟩ := xk_bi hf
                                refine xk_iald hC rfl dL_law_1035 h183 ?_
                                refine xk_aload_n hC dL_law_1036 1 rfl rfl ?_
                                refine xk_iload hC dL_law_1037 5 rfl ?_
                                refine xk_iconst (v := (2 : Int32)) hC dL_law_1039 (by decide) ?_
                                refine xk_iadd hC dL_law_1040 ?_
                                obtain ⟨v184, h184, hf⟩ := xk_bi hf
                                refine xk_iald hC rfl dL_law_1041 h184 ?_
                                refine xk_aload_n hC dL_law_1042 1 rfl rfl ?_
                                refine xk_iload hC dL_law_1043 5 rfl ?_
                                refine xk_iconst (v := (3 : Int32)) hC dL_law_1045 (by decide) ?_
                                refine xk_iadd hC dL_law_1046 ?_
                                obtain ⟨v185, h185, hf⟩ := xk_bi hf
                                refine xk_iald hC rfl dL_law_1047 h185 ?_
                                obtain ⟨u187, h187, hf⟩ := xk_bi hf
                                obtain ⟨q186, h186, hf⟩ := xk_bi hf
                                refine xk_backi (xk_callV hC 3 xc_5 (c_X8_ofBar h186) h187 xm_1229 xm_1230 xm_1231 xm_6 xm_1232 ⟨rfl, xd_X8_ofBar⟩ rfl ⟨Nat.le_of_ble_eq_true rfl, Nat.le_of_ble_eq_true rfl⟩ rfl (Nat.le_of_ble_eq_true rfl) dL_law_1048 ⟨(by show _ ≤ 600002; omega), (by show _ ≤ 7302232; omega)⟩) ?_
                                refine xk_istore (i := 6) (lv' := [(6, .int (q186.1)), (5, .int (q182.1)), (0, va_rf (x0)), (1, va_rf (x1)), (2, va_rf (x2)), (3, va_rf (x3)), (4, .int (x4))]) hC dL_law_1051 (by decide) rfl ?_
                                refine xk_aload_n hC dL_law_1053 4 rfl rfl ?_
                                obtain ⟨u189, h189, hf⟩ := xk_bi hf
                                obtain ⟨q188, h188, hf⟩ := xk_bi hf
                                refine xk_backi (xk_callV hC 0 xc_5 (c_X8_thrown h188) h189 xm_891 xm_892 xm_893 xm_6 xm_894 ⟨rfl, xd_X8_thrown⟩ rfl ⟨Nat.le_of_ble_eq_true rfl, Nat.le_of_ble_eq_true rfl⟩ rfl (Nat.le_of_ble_eq_true rfl) dL_law_1054 ⟨(by show _ ≤ 600002; omega), (by show _ ≤ 7302232; omega)⟩) ?_
                                refine xk_iload hC dL_law_1057 1 rfl ?_
                                refine xk_icmp_eq (tgt := 1064) hC dL_law_1059 (by decide) (fun c190 => ?_) (fun c190 => ?_)
                                · replace hf := (if_pos c190).symm.trans hf
                                  refine xk_iload hC dL_law_1064 1 rfl ?_
                                  refine xk_if_ne (tgt := 1081) hC dL_law_1066 (by decide) (fun c191 => ?_) (fun c191 => ?_)
                                  · replace hf := (if_neg c191).symm.trans hf
                                    refine xk_locals [2, 3, 4, 5, 6] rfl ?_
                                    exact t_L_law_1081 hC hr hz hq hl9 (by omega) (by omega) (by omega) (by omega) (fun x0 x1 x2 x3 x4 w hf => ih x0 x1 x2 x3 x4 w (kc + 100) (ks + 3870) (by omega) (by omega) hf) x0 x1 x2 x3 x4 (q188.2) hf
                                  · replace hf := (if_pos c191).symm.trans hf
                                    refine xk_aload_n hC dL_law_1069 5 rfl rfl ?_
                                    refine xk_iconst (v := (0 : Int32)) hC dL_law_1070 (by decide) ?_
                                    obtain ⟨v192, h192, hf⟩ := xk_bi hf
                                    refine xk_lald hC rfl dL_law_1071 h192 ?_
                                    refine xk_iload hC dL_law_1072 0 rfl ?_
                                    refine xk_i2l hC dL_law_1074 ?_
                                    refine xk_lcmp hC dL_law_1075 ?_
                                    refine xk_if_eq (tgt := 1081) hC dL_law_1076 (by decide) (fun c193 => ?_) (fun c193 => ?_)
                                    · replace hf := (if_pos c193).symm.trans hf
                                      refine xk_locals [2, 3, 4, 5, 6] rfl ?_
                                      exact t_L_law_1081 hC hr hz hq hl9 (by omega) (by omega) (by omega) (by omega) (fun x0 x1 x2 x3 x4 w hf => ih x0 x1 x2 x3 x4 w (kc + 100) (ks + 3870) (by omega) (by omega) hf) x0 x1 x2 x3 x4 (q188.2) hf
                                    · replace hf := (if_neg c193).symm.trans hf
                                      refine xk_iconst (v := (0 : Int32)) hC dL_law_1079 (by decide) ?_
                                      cases hf
                                      exact xk_lawret hC hr hz hq (by omega) (by omega) dL_law_1080
                                · replace hf := (if_neg c190).symm.trans hf
                                  refine xk_iconst (v := (0 : Int32)) hC dL_law_1062 (by decide) ?_
                                  cases hf
                                  exact xk_lawret hC hr hz hq (by omega) (by omega) dL_law_1063
                              · replace hf := (if_neg c178).symm.trans hf
                                by_cases c194 : ((v3) &&& ((31 : Int32))) = (13 : Int32)
                                · replace hf := (if_pos c194).symm.trans hf
                                  refine xk_tableIn (tgt := 1084) hC dL_law_40 (by rw [c194]; decide) (by rw [c194]; decide) (off := 1044) (by rw [c194]; rfl) (by decide) ?_
                                  refine xk_aload_n hC dL_law_1084 1 rfl rfl ?_
                                  refine xk_aload_n hC dL_law_1085 0 rfl rfl ?_
                                  refine xk_iload hC dL_law_1086 4 rfl ?_
                                  refine xk_iconst (v := (1 : Int32)) hC dL_law_1088 (by decide) ?_
                                  refine xk_iadd hC dL_law_1089 ?_
                                  obtain ⟨v195, h195, hf⟩ := xk_bi hf
                                  refine xk_iald hC rfl dL_law_1090 h195 ?_
                                  refine xk_aload_n hC dL_law_1091 0 rfl rfl ?_
                                  refine xk_iload hC dL_law_1092 4 rfl ?_
                                  refine xk_iconst (v := (2 : Int32)) hC dL_law_1094 (by decide) ?_
                                  refine xk_iadd hC dL_law_1095 ?_
                                  obtain ⟨v196, h196, hf⟩ := xk_bi hf
                                  refine xk_iald hC rfl dL_law_1096 h196 ?_
                                  refine xk_aload_n hC dL_law_1097 3 rfl rfl ?_
                                  obtain ⟨q197, h197, hf⟩ := xk_bi hf
                                  refine xk_backi (xk_callSH hC 4 (c_L_beat hl9 h197) xm_798 xm_799 xm_0 xm_800 xd_L_beat rfl ⟨Nat.le_of_ble_eq_true rfl, Nat.le_of_ble_eq_true rfl⟩ rfl (Nat.le_of_ble_eq_true rfl) dL_law_1098 ⟨(by show _ ≤ 600002; omega), (by show _ ≤ 7302232; omega)⟩) ?_
                                  refine xk_istore (i := 5) (lv' := [(5, .int (q197.1)), (0, va_rf (x0)), (1, va_rf (x1)), (2, va_rf (x2)), (3, va_rf (x3)), (4, .int (x4))]) hC dL_law_1101 (by decide) rfl ?_
                                  refine xk_aload_n hC dL_law_1103 3 rfl rfl ?_
                                  refine xk_aload_n hC dL_law_1104 1 rfl rfl ?_
                                  refine xk_iload hC dL_law_1105 5 rfl ?_
                                  refine xk_iconst (v := (1 : Int32)) hC dL_law_1107 (by decide) ?_
                                  refine xk_iadd hC dL_law_1108 ?_
                                  obtain ⟨v198, h198, hf⟩ := xk_bi hf
                                  refine xk_iald hC rfl dL_law_1109 h198 ?_
                                  refine xk_aload_n hC dL_law_1110 1 rfl rfl ?_
                                  refine xk_iload hC dL_law_1111 5 rfl ?_
                                  refine xk_iconst (v := (2 : Int32)) hC dL_law_1113 (by decide) ?_
                                  refine xk_iadd hC dL_law_1114 ?_
                                  obtain ⟨v199, h199, hf⟩ := xk_bi hf
                                  refine xk_iald hC rfl dL_law_1115 h199 ?_
                                  obtain ⟨u201, h201, hf⟩ := xk_bi hf
                                  obtain ⟨q200, h200, hf⟩ := xk_bi hf
                                  refine xk_backi (xk_callV hC 2 xc_5 (c_X8_beat h200) h201 xm_1238 xm_1239 xm_1240 xm_6 xm_1241 ⟨rfl, xd_X8_beat⟩ rfl ⟨Nat.le_of_ble_eq_true rfl, Nat.le_of_ble_eq_true rfl⟩ rfl (Nat.le_of_ble_eq_true rfl) dL_law_1116 ⟨(by show _ ≤ 600002; omega), (by show _ ≤ 7302232; omega)⟩) ?_
                                  refine xk_istore (i := 6) (lv' := [(6, .int (q200.1)), (5, .int (q197.1)), (0, va_rf (x0)), (1, va_rf (x1)), (2, va_rf (x2)), (3, va_rf (x3)), (4, .int (x4))]) hC dL_law_1119 (by decide) rfl ?_
                                  refine xk_aload_n hC dL_law_1121 4 rfl rfl ?_
                                  obtain ⟨u203, h203, hf⟩ := xk_bi hf
                                  obtain ⟨q202, h202, hf⟩ := xk_bi hf
                                  refine xk_backi (xk_callV hC 0 xc_5 (c_X8_thrown h202) h203 xm_891 xm_892 xm_893 xm_6 xm_894 ⟨rfl, xd_X8_thrown⟩ rfl ⟨Nat.le_of_ble_eq_true rfl, Nat.le_of_ble_eq_true rfl⟩ rfl (Nat.le_of_ble_eq_true rfl) dL_law_1122 ⟨(by show _ ≤ 600002; omega), (by show _ ≤ 7302232; omega)⟩) ?_
                                  refine xk_iload hC dL_law_1125 1 rfl ?_
                                  refine xk_icmp_eq (tgt := 1132) hC dL_law_1127 (by decide) (fun c204 => ?_) (fun c204 => ?_)
                                  · replace hf := (if_pos c204).symm.trans hf
                                    refine xk_iload hC dL_law_1132 1 rfl ?_
                                    refine xk_if_ne (tgt := 1149) hC dL_law_1134 (by decide) (fun c205 => ?_) (fun c205 => ?_)
                                    · replace hf := (if_neg c205).symm.trans hf
                                      refine xk_locals [2, 3, 4, 5, 6] rfl ?_
                                      exact t_L_law_1149 hC hr hz hq hl9 (by omega) (by omega) (by omega) (by omega) (fun x0 x1 x2 x3 x4 w hf => ih x0 x1 x2 x3 x4 w (kc + 100) (ks + 3870) (by omega) (by omega) hf) x0 x1 x2 x3 x4 (q202.2) hf
                                    · replace hf := (if_pos c205).symm.trans hf
                                      refine xk_aload_n hC dL_law_1137 5 rfl rfl ?_
                                      refine xk_iconst (v := (0 : Int32)) hC dL_law_1138 (by decide) ?_
                                      obtain ⟨v206, h206, hf⟩ := xk_bi hf
                                      refine xk_lald hC rfl dL_law_1139 h206 ?_
                                      refine xk_iload hC dL_law_1140 0 rfl ?_
                                      refine xk_i2l hC dL_law_1142 ?_
                                      refine xk_lcmp hC dL_law_1143 ?_
                                      refine xk_if_eq (tgt := 1149) hC dL_law_1144 (by decide) (fun c207 => ?_) (fun c207 => ?_)
                                      · replace hf := (if_pos c207).symm.trans hf
                                        refine xk_locals [2, 3, 4, 5, 6] rfl ?_
                                        exact t_L_law_1149 hC hr hz hq hl9 (by omega) (by omega) (by omega) (by omega) (fun x0 x1 x2 x3 x4 w hf => ih x0 x1 x2 x3 x4 w (kc + 100) (ks + 3870) (by omega) (by omega) hf) x0 x1 x2 x3 x4 (q202.2) hf
                                      · replace hf := (if_neg c207).symm.trans hf
                                        refine xk_iconst (v := (0 : Int32)) hC dL_law_1147 (by decide) ?_
                                        cases hf
                                        exact xk_lawret hC hr hz hq (by omega) (by omega) dL_law_1148
                                  · replace hf := (if_neg c204).symm.trans hf
                                    refine xk_iconst (v := (0 : Int32)) hC dL_law_1130 (by decide) ?_
                                    cases hf
                                    exact xk_lawret hC hr hz hq (by omega) (by omega) dL_law_1131
                                · replace hf := (if_neg c194).symm.trans hf
                                  by_cases c208 : ((v3) &&& ((31 : Int32))) = (14 : Int32)
                                  · replace hf := (if_pos c208).symm.trans hf
                                    refine xk_tableIn (tgt := 1152) hC dL_law_40 (by rw [c208]; decide) (by rw [c208]; decide) (off := 1112) (by rw [c208]; rfl) (by decide) ?_
                                    refine xk_aload_n hC dL_law_1152 1 rfl rfl ?_
                                    refine xk_aload_n hC dL_law_1153 0 rfl rfl ?_
                                    refine xk_iload hC dL_law_1154 4 rfl ?_
                                    refine xk_iconst (v := (1 : Int32)) hC dL_law_1156 (by decide) ?_
                                    refine xk_iadd hC dL_law_1157 ?_
                                    obtain ⟨v209, h209, hf⟩ := xk_bi hf
                                    refine xk_iald hC rfl dL_law_1158 h209 ?_
                                    refine xk_aload_n hC dL_law_1159 0 rfl rfl ?_
                                    refine xk_iload hC dL_law_1160 4 rfl ?_
                                    refine xk_iconst (v := (2 : Int32)) hC dL_law_1162 (by decide) ?_
                                    refine xk_iadd hC dL_law_1163 ?_
                                    obtain ⟨v210, h210, hf⟩ := xk_bi hf
                                    refine xk_iald hC rfl dL_law_1164 h210 ?_
                                    refine xk_aload_n hC dL_law_1165 3 rfl rfl ?_
                                    obtain ⟨q211, h211, hf⟩ := xk_bi hf
                                    refine xk_backi (xk_callSH hC 4 (c_L_ofTake hl9 h211) xm_806 xm_807 xm_0 xm_808 xd_L_ofTake rfl ⟨Nat.le_of_ble_eq_true rfl, Nat.le_of_ble_eq_true rfl⟩ rfl (Nat.le_of_ble_eq_true rfl) dL_law_1166 ⟨(by show _ ≤ 600002; omega), (by show _ ≤ 7302232; omega)⟩) ?_
                                    refine xk_istore (i := 5) (lv' := [(5, .int (q211.1)), (0, va_rf (x0)), (1, va_rf (x1)), (2, va_rf (x2)), (3, va_rf (x3)), (4, .int (x4))]) hC dL_law_1169 (by decide) rfl ?_
                                    refine xk_aload_n hC dL_law_1171 3 rfl rfl ?_
                                    refine xk_aload_n hC dL_law_1172 1 rfl rfl ?_
                                    refine xk_iload hC dL_law_1173 5 rfl ?_
                                    refine xk_iconst (v := (1 : Int32)) hC dL_law_1175 (by decide) ?_
                                    refine xk_iadd hC dL_law_1176 ?_
                                    obtain ⟨v212, h212, hf⟩ := xk_bi hf
                                    refine xk_iald hC rfl dL_law_1177 h212 ?_
                                    refine xk_aload_n hC dL_law_1178 1 rfl rfl ?_
                                    refine xk_iload hC dL_law_1179 5 rfl ?_
                                    refine xk_iconst (v := (2 : Int32)) hC dL_law_1181 (by decide) ?_
                                    refine xk_iadd hC dL_law_1182 ?_
                                    obtain ⟨v213, h213, hf⟩ := xk_bi hf
                                    refine xk_iald hC rfl dL_law_1183 h213 ?_
                                    obtain ⟨u215, h215, hf⟩ := xk_bi hf
                                    obtain ⟨q214, h214, hf⟩ := xk_bi hf
                                    refine xk_backi (xk_callV hC 2 xc_5 (c_X8_ofTake h214) h215 xm_1242 xm_1243 xm_1244 xm_6 xm_1245 ⟨rfl, xd_X8_ofTake⟩ rfl ⟨Nat.le_of_ble_eq_true rfl, Nat.le_of_ble_eq_true rfl⟩ rfl (Nat.le_of_ble_eq_true rfl) dL_law_1184 ⟨(by show _ ≤ 600002; omega), (by show _ ≤ 7302232; omega)⟩) ?_
                                    refine xk_istore (i := 6) (lv' := [(6, .int (q214.1)), (5, .int (q211.1)), (0, va_rf (x0)), (1, va_rf (x1)), (2, va_rf (x2)), (3, va_rf (x3)), (4, .int (x4))]) hC dL_law_1187 (by decide) rfl ?_
                                    refine xk_aload_n hC dL_law_1189 4 rfl rfl ?_
                                    obtain ⟨u217, h217, hf⟩ := xk_bi hf
                                    obtain ⟨q216, h216, hf⟩ := xk_bi hf
                                    refine xk_backi (xk_callV hC 0 xc_5 (c_X8_thrown h216) h217 xm_891 xm_892 xm_893 xm_6 xm_894 ⟨rfl, xd_X8_thrown⟩ rfl ⟨Nat.le_of_ble_eq_true rfl, Nat.le_of_ble_eq_true rfl⟩ rfl (Nat.le_of_ble_eq_true rfl) dL_law_1190 ⟨(by show _ ≤ 600002; omega), (by show _ ≤ 7302232; omega)⟩) ?_
                                    refine xk_iload hC dL_law_1193 1 rfl ?_
                                    refine xk_icmp_eq (tgt := 1200) hC dL_law_1195 (by decide) (fun c218 => ?_) (fun c218 => ?_)
                                    · replace hf := (if_pos c218).symm.trans hf
                                      refine xk_iload hC dL_law_1200 1 rfl ?_
                                      refine xk_if_ne (tgt := 1217) hC dL_law_1202 (by decide) (fun c219 => ?_) (fun c219 => ?_)
                                      · replace hf := (if_neg c219).symm.trans hf
                                        refine xk_locals [2, 3, 4, 5, 6] rfl ?_
                                        exact t_L_law_1217 hC hr hz hq hl9 (by omega) (by omega) (by omega) (by omega) (fun x0 x1 x2 x3 x4 w hf => ih x0 x1 x2 x3 x4 w (kc + 100) (ks + 3870) (by omega) (by omega) hf) x0 x1 x2 x3 x4 (q216.2) hf
                                      · replace hf := (if_pos c219).symm.trans hf
                                        refine xk_aload_n hC dL_law_1205 5 rfl rfl ?_
                                        refine xk_iconst (v := (0 : Int32)) hC dL_law_1206 (by decide) ?_
                                        obtain ⟨v220, h220, hf⟩ := xk_bi hf
                                        refine xk_lald hC rfl dL_law_1207 h220 ?_
                                        refine xk_iload hC dL_law_1208 0 rfl ?_
                                        refine xk_i2l hC dL_law_1210 ?_
                                        refine xk_lcmp hC dL_law_1211 ?_
                                        refine xk_if_eq (tgt := 1217) hC dL_law_1212 (by decide) (fun c221 => ?_) (fun c221 => ?_)
                                        · replace hf := (if_pos c221).symm.trans hf
                                          refine xk_locals [2, 3, 4, 5, 6] rfl ?_
                                          exact t_L_law_1217 hC hr hz hq hl9 (by omega) (by omega) (by omega) (by omega) (fun x0 x1 x2 x3 x4 w hf => ih x0 x1 x2 x3 x4 w (kc + 100) (ks + 3870) (by omega) (by omega) hf) x0 x1 x2 x3 x4 (q216.2) hf
                                        · replace hf := (if_neg c221).symm.trans hf
                                          refine xk_iconst (v := (0 : Int32)) hC dL_law_1215 (by decide) ?_
                                          cases hf
                                          exact xk_lawret hC hr hz hq (by omega) (by omega) dL_law_1216
                                    · replace hf := (if_neg c218).symm.trans hf
                                      refine xk_iconst (v := (0 : Int32)) hC dL_law_1198 (by decide) ?_
                                      cases hf
                                      exact xk_lawret hC hr hz hq (by omega) (by omega) dL_law_1199
                                  · replace hf := (if_neg c208).symm.trans hf
                                    by_cases c222 : ((v3) &&& ((31 : Int32))) = (15 : Int32)
                                    · replace hf := (if_pos c222).symm.trans hf
                                      refine xk_tableIn (tgt := 1220) hC dL_law_40 (by rw [c222]; decide) (by rw [c222]; decide) (off := 1180) (by rw [c222]; rfl) (by decide) ?_
                                      refine xk_aload_n hC dL_law_1220 1 rfl rfl ?_
                                      refine xk_aload_n hC dL_law_1221 0 rfl rfl ?_
                                      refine xk_iload hC dL_law_1222 4 rfl ?_
                                      refine xk_iconst (v := (1 : Int32)) hC dL_law_1224 (by decide) ?_
                                      refine xk_iadd hC dL_law_1225 ?_
                                      obtain ⟨v223, h223, hf⟩ := xk_bi hf
                                      refine xk_iald hC rfl dL_law_1226 h223 ?_
                                      refine xk_aload_n hC dL_law_1227 3 rfl rfl ?_
                                      obtain ⟨q224, h224, hf⟩ := xk_bi hf
                                      refine xk_backi (xk_callSH hC 3 (c_L_sheet hl9 h224) xm_810 xm_811 xm_0 xm_812 xd_L_sheet rfl ⟨Nat.le_of_ble_eq_true rfl, Nat.le_of_ble_eq_true rfl⟩ rfl (Nat.le_of_ble_eq_true rfl) dL_law_1228 ⟨(by show _ ≤ 600002; omega), (by show _ ≤ 7302232; omega)⟩) ?_
                                      refine xk_istore (i := 5) (lv' := [(5, .int (q224.1)), (0, va_rf (x0)), (1, va_rf (x1)), (2, va_rf (x2)), (3, va_rf (x3)), (4, .int (x4))]) hC dL_law_1231 (by decide) rfl ?_
                                      refine xk_aload_n hC dL_law_1233 3 rfl rfl ?_
                                      refine xk_aload_n hC dL_law_1234 1 rfl rfl ?_
                                      refine xk_iload hC dL_law_1235 5 rfl ?_
                                      refine xk_iconst (v := (1 : Int32)) hC dL_law_1237 (by decide) ?_
                                      refine xk_iadd hC dL_law_1238 ?_
                                      obtain ⟨v225, h225, hf⟩ := xk_bi hf
                                      refine xk_iald hC rfl dL_law_1239 h225 ?_
                                      obtain ⟨u227, h227, hf⟩ := xk_bi hf
                                      obtain ⟨q226, h226, hf⟩ := xk_bi hf
                                      refine xk_backi (xk_callV hC 1 xc_5 (c_X8_sheet h226) h227 xm_1250 xm_1251 xm_1252 xm_6 xm_1253 ⟨rfl, xd_X8_sheet⟩ rfl ⟨Nat.le_of_ble_eq_true rfl, Nat.le_of_ble_eq_true rfl⟩ rfl (Nat.le_of_ble_eq_true rfl) dL_law_1240 ⟨(by show _ ≤ 600002; omega), (by show _ ≤ 7302232; omega)⟩) ?_
                                      refine xk_istore (i := 6) (lv' := [(6, .int (q226.1)), (5, .int (q224.1)), (0, va_rf (x0)), (1, va_rf (x1)), (2, va_rf (x2)), (3, va_rf (x3)), (4, .int (x4))]) hC dL_law_1243 (by decide) rfl ?_
                                      refine xk_aload_n hC dL_law_1245 4 rfl rfl ?_
                                      obtain ⟨u229, h229, hf⟩ := xk_bi hf
                                      obtain ⟨q228, h228, hf⟩ := xk_bi hf
                                      refine xk_backi (xk_callV hC 0 xc_5 (c_X8_thrown h228) h229 xm_891 xm_892 xm_893 xm_6 xm_894 ⟨rfl, xd_X8_thrown⟩ rfl ⟨Nat.le_of_ble_eq_true rfl, Nat.le_of_ble_eq_true rfl⟩ rfl (Nat.le_of_ble_eq_true rfl) dL_law_1246 ⟨(by show _ ≤ 600002; omega), (by show _ ≤ 7302232; omega)⟩) ?_
                                      refine xk_iload hC dL_law_1249 1 rfl ?_
                                      refine xk_icmp_eq (tgt := 1256) hC dL_law_1251 (by decide) (fun c230 => ?_) (fun c230 => ?_)
                                      · replace hf := (if_pos c230).symm.trans hf
                                        refine xk_iload hC dL_law_1256 1 rfl ?_
                                        refine xk_if_ne (tgt := 1273) hC dL_law_1258 (by decide) (fun c231 => ?_) (fun c231 => ?_)
                                        · replace hf := (if_neg c231).symm.trans hf
                                          refine xk_locals [2, 3, 4, 5, 6] rfl ?_
                                          exact t_L_law_1273 hC hr hz hq hl9 (by omega) (by omega) (by omega) (by omega) (fun x0 x1 x2 x3 x4 w hf => ih x0 x1 x2 x3 x4 w (kc + 100) (ks + 3870) (by omega) (by omega) hf) x0 x1 x2 x3 x4 (q228.2) hf
                                        · replace hf := (if_pos c231).symm.trans hf
                                          refine xk_aload_n hC dL_law_1261 5 rfl rfl ?_
                                          refine xk_iconst (v := (0 : Int32)) hC dL_law_1262 (by decide) ?_
                                          obtain ⟨v232, h232, hf⟩ := xk_bi hf
                                          refine xk_lald hC rfl dL_law_1263 h232 ?_
                                          refine xk_iload hC dL_law_1264 0 rfl ?_
                                          refine xk_i2l hC dL_law_1266 ?_
                                          refine xk_lcmp hC dL_law_1267 ?_
                                          refine xk_if_eq (tgt := 1273) hC dL_law_1268 (by decide) (fun c233 => ?_) (fun c233 => ?_)
                                          · replace hf := (if_pos c233).symm.trans hf
                                            refine xk_locals [2, 3, 4, 5, 6] rfl ?_
                                            exact t_L_law_1273 hC hr hz hq hl9 (by omega) (by omega) (by omega) (by omega) (fun x0 x1 x2 x3 x4 w hf => ih x0 x1 x2 x3 x4 w (kc + 100) (ks + 3870) (by omega) (by omega) hf) x0 x1 x2 x3 x4 (q228.2) hf
                                          · replace hf := (if_neg c233).symm.trans hf
                                            refine xk_iconst (v := (0 : Int32)) hC dL_law_1271 (by decide) ?_
                                            cases hf
                                            exact xk_lawret hC hr hz hq (by omega) (by omega) dL_law_1272
                                      · replace hf := (if_neg c230).symm.trans hf
                                        refine xk_iconst (v := (0 : Int32)) hC dL_law_1254 (by decide) ?_
                                        cases hf
                                        exact xk_lawret hC hr hz hq (by omega) (by omega) dL_law_1255
                                    · replace hf := (if_neg c222).symm.trans hf
                                      by_cases c234 : ((v3) &&& ((31 : Int32))) = (16 : Int32)
                                      · replace hf := (if_pos c234).symm.trans hf
                                        refine xk_tableIn (tgt := 1276) hC dL_law_40 (by rw [c234]; decide) (by rw [c234]; decide) (off := 1236) (by rw [c234]; rfl) (by decide) ?_
                                        refine xk_aload_n hC dL_law_1276 1 rfl rfl ?_
                                        refine xk_aload_n hC dL_law_1277 0 rfl rfl ?_
                                        refine xk_iload hC dL_law_1278 4 rfl ?_
                                        refine xk_iconst (v := (1 : Int32)) hC dL_law_1280 (by decide) ?_
                                        refine xk_iadd hC dL_law_1281 ?_
                                        obtain ⟨v235, h235, hf⟩ := xk_bi hf
                                        refine xk_iald hC rfl dL_law_1282 h235 ?_
                                        refine xk_aload_n hC dL_law_1283 3 rfl rfl ?_
                                        obtain ⟨q236, h236, hf⟩ := xk_bi hf
                                        refine xk_backi (xk_callSH hC 3 (c_L_many hl9 h236) xm_814 xm_815 xm_0 xm_816 xd_L_many rfl ⟨Nat.le_of_ble_eq_true rfl, Nat.le_of_ble_eq_true rfl⟩ rfl (Nat.le_of_ble_eq_true rfl) dL_law_1284 ⟨(by show _ ≤ 600002; omega), (by show _ ≤ 7302232; omega)⟩) ?_
                                        refine xk_istore (i := 5) (lv' := [(5, .int (q236.1)), (0, va_rf (x0)), (1, va_rf (x1)), (2, va_rf (x2)), (3, va_rf (x3)), (4, .int (x4))]) hC dL_law_1287 (by decide) rfl ?_
                                        refine xk_aload_n hC dL_law_1289 3 rfl rfl ?_
                                        refine xk_aload_n hC dL_law_1290 1 rfl rfl ?_
                                        refine xk_iload hC dL_law_1291 5 rfl ?_
                                        refine xk_iconst (v := (1 : Int32)) hC dL_law_1293 (by decide) ?_
                                        refine xk_iadd hC dL_law_1294 ?_
                                        obtain ⟨v237, h237, hf⟩ := xk_bi hf
                                        refine xk_iald hC rfl dL_law_1295 h237 ?_
                                        obtain ⟨u239, h239, hf⟩ := xk_bi hf
                                        obtain ⟨q238, h238, hf⟩ := xk_bi hf
                                        refine xk_backi (xk_callV hC 1 xc_5 (c_X8_many h238) h239 xm_1260 xm_1261 xm_1262 xm_6 xm_1263 ⟨rfl, xd_X8_many⟩ rfl ⟨Nat.le_of_ble_eq_true rfl, Nat.le_of_ble_eq_true rfl⟩ rfl (Nat.le_of_ble_eq_true rfl) dL_law_1296 ⟨(by show _ ≤ 600002; omega), (by show _ ≤ 7302232; omega)⟩) ?_
                                        refine xk_istore (i := 6) (lv' := [(6, .int (q238.1)), (5, .int (q236.1)), (0, va_rf (x0)), (1, va_rf (x1)), (2, va_rf (x2)), (3, va_rf (x3)), (4, .int (x4))]) hC dL_law_1299 (by decide) rfl ?_
                                        refine xk_aload_n hC dL_law_1301 4 rfl rfl ?_
                                        obtain ⟨u241, h241, hf⟩ := xk_bi hf
                                        obtain ⟨q240, h240, hf⟩ := xk_bi hf
                                        refine xk_backi (xk_callV hC 0 xc_5 (c_X8_thrown h240) h241 xm_891 xm_892 xm_893 xm_6 xm_894 ⟨rfl, xd_X8_thrown⟩ rfl ⟨Nat.le_of_ble_eq_true rfl, Nat.le_of_ble_eq_true rfl⟩ rfl (Nat.le_of_ble_eq_true rfl) dL_law_1302 ⟨(by show _ ≤ 600002; omega), (by show _ ≤ 7302232; omega)⟩) ?_
                                        refine xk_iload hC dL_law_1305 1 rfl ?_
                                        refine xk_icmp_eq (tgt := 1312) hC dL_law_1307 (by decide) (fun c242 => ?_) (fun c242 => ?_)
                                        · replace hf := (if_pos c242).symm.trans hf
                                          refine xk_iload hC dL_law_1312 1 rfl ?_
                                          refine xk_if_ne (tgt := 1329) hC dL_law_1314 (by decide) (fun c243 => ?_) (fun c243 => ?_)
                                          · replace hf := (if_neg c243).symm.trans hf
                                            refine xk_locals [2, 3, 4, 5, 6] rfl ?_
                                            exact t_L_law_1329 hC hr hz hq hl9 (by omega) (by omega) (by omega) (by omega) (fun x0 x1 x2 x3 x4 w hf => ih x0 x1 x2 x3 x4 w (kc + 100) (ks + 3870) (by omega) (by omega) hf) x0 x1 x2 x3 x4 (q240.2) hf
                                          · replace hf := (if_pos c243).symm.trans hf
                                            refine xk_aload_n hC dL_law_1317 5 rfl rfl ?_
                                            refine xk_iconst (v := (0 : Int32)) hC dL_law_1318 (by decide) ?_
                                            obtain ⟨v244, h244, hf⟩ := xk_bi hf
                                            refine xk_lald hC rfl dL_law_1319 h244 ?_
                                            refine xk_iload hC dL_law_1320 0 rfl ?_
                                            refine xk_i2l hC dL_law_1322 ?_
                                            refine xk_lcmp hC dL_law_1323 ?_
                                            refine xk_if_eq (tgt := 1329) hC dL_law_1324 (by decide) (fun c245 => ?_) (fun c245 => ?_)
                                            · replace hf := (if_pos c245).symm.trans hf
                                              refine xk_locals [2, 3, 4, 5, 6] rfl ?_
                                              exact t_L_law_1329 hC hr hz hq hl9 (by omega) (by omega) (by omega) (by omega) (fun x0 x1 x2 x3 x4 w hf => ih x0 x1 x2 x3 x4 w (kc + 100) (ks + 3870) (by omega) (by omega) hf) x0 x1 x2 x3 x4 (q240.2) hf
                                            · replace hf := (if_neg c245).symm.trans hf
                                              refine xk_iconst (v := (0 : Int32)) hC dL_law_1327 (by decide) ?_
                                              cases hf
                                              exact xk_lawret hC hr hz hq (by omega) (by omega) dL_law_1328
                                        · replace hf := (if_neg c242).symm.trans hf
                                          refine xk_iconst (v := (0 : Int32)) hC dL_law_1310 (by decide) ?_
                                          cases hf
                                          exact xk_lawret hC hr hz hq (by omega) (by omega) dL_law_1311
                                      · replace hf := (if_neg c234).symm.trans hf
                                        by_cases c246 : ((v3) &&& ((31 : Int32))) = (17 : Int32)
                                        · replace hf := (if_pos c246).symm.trans hf
                                          refine xk_tableIn (tgt := 1332) hC dL_law_40 (by rw [c246]; decide) (by rw [c246]; decide) (off := 1292) (by rw [c246]; rfl) (by decide) ?_
                                          refine xk_aload_n hC dL_law_1332 1 rfl rfl ?_
                                          obtain ⟨u248, h248, hf⟩ := xk_bi hf
                                          obtain ⟨q247, h247, hf⟩ := xk_bi hf
                                          refine xk_backd (xk_callV hC 0 xc_0 (c_X4_meanNote h247) h248 xm_126 xm_127 xm_128 xm_1 xm_129 ⟨rfl, xd_X4_meanNote⟩ rfl ⟨Nat.le_of_ble_eq_true rfl, Nat.le_of_ble_eq_true rfl⟩ rfl (Nat.le_of_ble_eq_true rfl) dL_law_1333 ⟨(by show _ ≤ 600002; omega), (by show _ ≤ 7302232; omega)⟩) ?_
                                          refine xk_dstore (i := 5) (lv' := [(5, .double (q247.1)), (0, va_rf (x0)), (1, va_rf (x1)), (2, va_rf (x2)), (3, va_rf (x3)), (4, .int (x4))]) hC dL_law_1336 (by decide) rfl ?_
                                          refine xk_aload_n hC dL_law_1338 3 rfl rfl ?_
                                          obtain ⟨u250, h250, hf⟩ := xk_bi hf
                                          obtain ⟨q249, h249, hf⟩ := xk_bi hf
                                          refine xk_backd (xk_callV hC 0 xc_5 (c_X8_meanNote h249) h250 xm_1276 xm_1277 xm_1278 xm_6 xm_1279 ⟨rfl, xd_X8_meanNote⟩ rfl ⟨Nat.le_of_ble_eq_true rfl, Nat.le_of_ble_eq_true rfl⟩ rfl (Nat.le_of_ble_eq_true rfl) dL_law_1339 ⟨(by show _ ≤ 600002; omega), (by show _ ≤ 7302232; omega)⟩) ?_
                                          refine xk_dstore (i := 7) (lv' := [(7, .double (q249.1)), (5, .double (q247.1)), (0, va_rf (x0)), (1, va_rf (x1)), (2, va_rf (x2)), (3, va_rf (x3)), (4, .int (x4))]) hC dL_law_1342 (by decide) rfl ?_
                                          refine xk_dload hC dL_law_1344 1 rfl ?_
                                          refine xk_dload hC dL_law_1346 0 rfl ?_
                                          refine xk_dcmp hC dL_law_1348 ?_
                                          refine xk_if_eq (tgt := 1370) hC dL_law_1349 (by decide) (fun c251 => ?_) (fun c251 => ?_)
                                          · replace hf := (if_pos c251).symm.trans hf
                                            refine xk_locals [2, 3, 4, 5, 6] rfl ?_
                                            exact t_L_law_1370 hC hr hz hq hl9 (by omega) (by omega) (by omega) (by omega) (fun x0 x1 x2 x3 x4 w hf => ih x0 x1 x2 x3 x4 w (kc + 100) (ks + 3870) (by omega) (by omega) hf) x0 x1 x2 x3 x4 (q249.2) hf
                                          · replace hf := (if_neg c251).symm.trans hf
                                            refine xk_dload hC dL_law_1352 1 rfl ?_
                                            refine xk_dload hC dL_law_1354 1 rfl ?_
                                            refine xk_dcmp hC dL_law_1356 ?_
                                            refine xk_if_eq (tgt := 1368) hC dL_law_1357 (by decide) (fun c252 => ?_) (fun c252 => ?_)
                                            · replace hf := (if_pos c252).symm.trans hf
                                              refine xk_locals [] rfl ?_
                                              refine xk_widen (k := 316) (n := 12276) (by omega) (by omega) ?_
                                              exact t_L_law_1368 hC hr hz hq hl9 (q249.2) hf
                                            · replace hf := (if_neg c252).symm.trans hf
                                              refine xk_dload hC dL_law_1360 0 rfl ?_
                                              refine xk_dload hC dL_law_1362 0 rfl ?_
                                              refine xk_dcmp hC dL_law_1364 ?_
                                              refine xk_if_ne (tgt := 1370) hC dL_law_1365 (by decide) (fun c253 => ?_) (fun c253 => ?_)
                                              · replace hf := (if_neg c253).symm.trans hf
                                                refine xk_locals [2, 3, 4, 5, 6] rfl ?_
                                                exact t_L_law_1370 hC hr hz hq hl9 (by omega) (by omega) (by omega) (by omega) (fun x0 x1 x2 x3 x4 w hf => ih x0 x1 x2 x3 x4 w (kc + 100) (ks + 3870) (by omega) (by omega) hf) x0 x1 x2 x3 x4 (q249.2) hf
                                              · replace hf := (if_pos c253).symm.trans hf
                                                refine xk_locals [] rfl ?_
                                                refine xk_widen (k := 316) (n := 12276) (by omega) (by omega) ?_
                                                exact t_L_law_1368 hC hr hz hq hl9 (q249.2) hf
                                        · replace hf := (if_neg c246).symm.trans hf
                                          by_cases c254 : ((v3) &&& ((31 : Int32))) = (18 : Int32)
                                          · replace hf := (if_pos c254).symm.trans hf
                                            refine xk_tableIn (tgt := 1373) hC dL_law_40 (by rw [c254]; decide) (by rw [c254]; decide) (off := 1333) (by rw [c254]; rfl) (by decide) ?_
                                            refine xk_aload_n hC dL_law_1373 1 rfl rfl ?_
                                            refine xk_aload_n hC dL_law_1374 0 rfl rfl ?_
                                            refine xk_iload hC dL_law_1375 4 rfl ?_
                                            refine xk_iconst (v := (1 : Int32)) hC dL_law_1377 (by decide) ?_
                                            refine xk_iadd hC dL_law_1378 ?_
                                            obtain ⟨v255, h255, hf⟩ := xk_bi hf
                                            refine xk_iald hC rfl dL_law_1379 h255 ?_
                                            refine xk_aload_n hC dL_law_1380 3 rfl rfl ?_
                                            obtain ⟨q256, h256, hf⟩ := xk_bi hf
                                            refine xk_backi (xk_callSH hC 3 (c_L_join hl9 h256) xm_818 xm_819 xm_0 xm_820 xd_L_join rfl ⟨Nat.le_of_ble_eq_true rfl, Nat.le_of_ble_eq_true rfl⟩ rfl (Nat.le_of_ble_eq_true rfl) dL_law_1381 ⟨(by show _ ≤ 600002; omega), (by show _ ≤ 7302232; omega)⟩) ?_
                                            refine xk_istore (i := 5) (lv' := [(5, .int (q256.1)), (0, va_rf (x0)), (1, va_rf (x1)), (2, va_rf (x2)), (3, va_rf (x3)), (4, .int (x4))]) hC dL_law_1384 (by decide) rfl ?_
                                            refine xk_aload_n hC dL_law_1386 3 rfl rfl ?_
                                            refine xk_aload_n hC dL_law_1387 1 rfl rfl ?_
                                            refine xk_iload hC dL_law_1388 5 rfl ?_
                                            refine xk_iconst (v := (1 : Int32)) hC dL_law_1390 (by decide) ?_
                                            refine xk_iadd hC dL_law_1391 ?_
                                            obtain ⟨v257, h257, hf⟩ := xk_bi hf
                                            refine xk_iald hC rfl dL_law_1392 h257 ?_
                                            obtain ⟨u259, h259, hf⟩ := xk_bi hf
                                            obtain ⟨q258, h258, hf⟩ := xk_bi hf
                                            refine xk_backi (xk_callV hC 1 xc_5 (c_X8_join h258) h259 xm_1280 xm_1281 xm_1282 xm_6 xm_1283 ⟨rfl, xd_X8_join⟩ rfl ⟨Nat.le_of_ble_eq_true rfl, Nat.le_of_ble_eq_true rfl⟩ rfl (Nat.le_of_ble_eq_true rfl) dL_law_1393 ⟨(by show _ ≤ 600002; omega), (by show _ ≤ 7302232; omega)⟩) ?_
                                            refine xk_istore (i := 6) (lv' := [(6, .int (q258.1)), (5, .int (q256.1)), (0, va_rf (x0)), (1, va_rf (x1)), (2, va_rf (x2)), (3, va_rf (x3)), (4, .int (x4))]) hC dL_law_1396 (by decide) rfl ?_
                                            refine xk_aload_n hC dL_law_1398 4 rfl rfl ?_
                                            obtain ⟨u261, h261, hf⟩ := xk_bi hf
                                            obtain ⟨q260, h260, hf⟩ := xk_bi hf
                                            refine xk_backi (xk_callV hC 0 xc_5 (c_X8_thrown h260) h261 xm_891 xm_892 xm_893 xm_6 xm_894 ⟨rfl, xd_X8_thrown⟩ rfl ⟨Nat.le_of_ble_eq_true rfl, Nat.le_of_ble_eq_true rfl⟩ rfl (Nat.le_of_ble_eq_true rfl) dL_law_1399 ⟨(by show _ ≤ 600002; omega), (by show _ ≤ 7302232; omega)⟩) ?_
                                            refine xk_iload hC dL_law_1402 1 rfl ?_
                                            refine xk_icmp_eq (tgt := 1409) hC dL_law_1404 (by decide) (fun c262 => ?_) (fun c262 => ?_)
                                            · replace hf := (if_pos c262).symm.trans hf
                                              refine xk_iload hC dL_law_1409 1 rfl ?_
                                              refine xk_if_ne (tgt := 1426) hC dL_law_1411 (by decide) (fun c263 => ?_) (fun c263 => ?_)
                                              · replace hf := (if_neg c263).symm.trans hf
                                                refine xk_locals [2, 3, 4, 5, 6] rfl ?_
                                                exact t_L_law_1426 hC hr hz hq hl9 (by omega) (by omega) (by omega) (by omega) (fun x0 x1 x2 x3 x4 w hf => ih x0 x1 x2 x3 x4 w (kc + 100) (ks + 3870) (by omega) (by omega) hf) x0 x1 x2 x3 x4 (q260.2) hf
                                              · replace hf := (if_pos c263).symm.trans hf
                                                refine xk_aload_n hC dL_law_1414 5 rfl rfl ?_
                                                refine xk_iconst (v := (0 : Int32)) hC dL_law_1415 (by decide) ?_
                                                obtain ⟨v264, h264, hf⟩ := xk_bi hf
                                                refine xk_lald hC rfl dL_law_1416 h264 ?_
                                                refine xk_iload hC dL_law_1417 0 rfl ?_
                                                refine xk_i2l hC dL_law_1419 ?_
                                                refine xk_lcmp hC dL_law_1420 ?_
                                                refine xk_if_eq (tgt := 1426) hC dL_law_1421 (by decide) (fun c265 => ?_) (fun c265 => ?_)
                                                · replace hf := (if_pos c265).symm.trans hf
                                                  refine xk_locals [2, 3, 4, 5, 6] rfl ?_
                                                  exact t_L_law_1426 hC hr hz hq hl9 (by omega) (by omega) (by omega) (by omega) (fun x0 x1 x2 x3 x4 w hf => ih x0 x1 x2 x3 x4 w (kc + 100) (ks + 3870) (by omega) (by omega) hf) x0 x1 x2 x3 x4 (q260.2) hf
                                                · replace hf := (if_neg c265).symm.trans hf
                                                  refine xk_iconst (v := (0 : Int32)) hC dL_law_1424 (by decide) ?_
                                                  cases hf
                                                  exact xk_lawret hC hr hz hq (by omega) (by omega) dL_law_1425
                                            · replace hf := (if_neg c262).symm.trans hf
                                              refine xk_iconst (v := (0 : Int32)) hC dL_law_1407 (by decide) ?_
                                              cases hf
                                              exact xk_lawret hC hr hz hq (by omega) (by omega) dL_law_1408
                                          · replace hf := (if_neg c254).symm.trans hf
                                            by_cases c266 : ((v3) &&& ((31 : Int32))) = (19 : Int32)
                                            · replace hf := (if_pos c266).symm.trans hf
                                              refine xk_tableIn (tgt := 1429) hC dL_law_40 (by rw [c266]; decide) (by rw [c266]; decide) (off := 1389) (by rw [c266]; rfl) (by decide) ?_
                                              refine xk_aload_n hC dL_law_1429 1 rfl rfl ?_
                                              refine xk_aload_n hC dL_law_1430 0 rfl rfl ?_
                                              refine xk_iload hC dL_law_1431 4 rfl ?_
                                              refine xk_iconst (v := (1 : Int32)) hC dL_law_1433 (by decide) ?_
                                              refine xk_iadd hC dL_law_1434 ?_
                                              obtain ⟨v267, h267, hf⟩ := xk_bi hf
                                              refine xk_iald hC rfl dL_law_1435 h267 ?_
                                              refine xk_aload_n hC dL_law_1436 0 rfl rfl ?_
                                              refine xk_iload hC dL_law_1437 4 rfl ?_
                                              refine xk_iconst (v := (2 : Int32)) hC dL_law_1439 (by decide) ?_
                                              refine xk_iadd hC dL_law_1440 ?_
                                              obtain ⟨v268, h268, hf⟩ := xk_bi hf
                                              refine xk_iald hC rfl dL_law_1441 h268 ?_
                                              refine xk_aload_n hC dL_law_1442 3 rfl rfl ?_
                                              obtain ⟨q269, h269, hf⟩ := xk_bi hf
                                              refine xk_backi (xk_callSH hC 4 (c_L_joined hl9 h269) xm_825 xm_826 xm_0 xm_827 xd_L_joined rfl ⟨Nat.le_of_ble_eq_true rfl, Nat.le_of_ble_eq_true rfl⟩ rfl (Nat.le_of_ble_eq_true rfl) dL_law_1443 ⟨(by show _ ≤ 600002; omega), (by show _ ≤ 7302232; omega)⟩) ?_
                                              refine xk_istore (i := 5) (lv' := [(5, .int (q269.1)), (0, va_rf (x0)), (1, va_rf (x1)), (2, va_rf (x2)), (3, va_rf (x3)), (4, .int (x4))]) hC dL_law_1446 (by decide) rfl ?_
                                              refine xk_aload_n hC dL_law_1448 3 rfl rfl ?_
                                              refine xk_aload_n hC dL_law_1449 1 rfl rfl ?_
                                              refine xk_iload hC dL_law_1450 5 rfl ?_
                                              refine xk_iconst (v := (1 : Int32)) hC dL_law_1452 (by decide) ?_
                                              refine xk_iadd hC dL_law_1453 ?_
                                              obtain ⟨v270, h270, hf⟩ := xk_bi hf
                                              refine xk_iald hC rfl dL_law_1454 h270 ?_
                                              refine xk_aload_n hC dL_law_1455 1 rfl rfl ?_
                                              refine xk_iload hC dL_law_1456 5 rfl ?_
                                              refine xk_iconst (v := (2 : Int32)) hC dL_law_1458 (by decide) ?_
                                              refine xk_iadd hC dL_law_1459 ?_
                                              obtain ⟨v271, h271, hf⟩ := xk_bi hf
                                              refine xk_iald hC rfl dL_law_1460 h271 ?_
                                              obtain ⟨u273, h273, hf⟩ := xk_bi hf
                                              obtain ⟨q272, h272, hf⟩ := xk_bi hf
                                              refine xk_backi (xk_callV hC 2 xc_5 (c_X8_joined_ h272) h273 xm_1301 xm_1302 xm_1303 xm_6 xm_1304 ⟨rfl, xd_X8_joined_⟩ rfl ⟨Nat.le_of_ble_eq_true rfl, Nat.le_of_ble_eq_true rfl⟩ rfl (Nat.le_of_ble_eq_true rfl) dL_law_1461 ⟨(by show _ ≤ 600002; omega), (by show _ ≤ 7302232; omega)⟩) ?_
                                              refine xk_istore (i := 6) (lv' := [(6, .int (q272.1)), (5, .int (q269.1)), (0, va_rf (x0)), (1, va_rf (x1)), (2, va_rf (x2)), (3, va_rf (x3)), (4, .int (x4))]) hC dL_law_1464 (by decide) rfl ?_
                                              refine xk_aload_n hC dL_law_1466 4 rfl rfl ?_
                                              obtain ⟨u275, h275, hf⟩ := xk_bi hf
                                              obtain ⟨q274, h274, hf⟩ := xk_bi hf
                                              refine xk_backi (xk_callV hC 0 xc_5 (c_X8_thrown h274) h275 xm_891 xm_892 xm_893 xm_6 xm_894 ⟨rfl, xd_X8_thrown⟩ rfl ⟨Nat.le_of_ble_eq_true rfl, Nat.le_of_ble_eq_true rfl⟩ rfl (Nat.le_of_ble_eq_true rfl) dL_law_1467 ⟨(by show _ ≤ 600002; omega), (by show _ ≤ 7302232; omega)⟩) ?_
                                              refine xk_iload hC dL_law_1470 1 rfl ?_
                                              refine xk_icmp_eq (tgt := 1477) hC dL_law_1472 (by decide) (fun c276 => ?_) (fun c276 => ?_)
                                              · replace hf := (if_pos c276).symm.trans hf
                                                refine xk_iload hC dL_law_1477 1 rfl ?_
                                                refine xk_if_ne (tgt := 1494) hC dL_law_1479 (by decide) (fun c277 => ?_) (fun c277 => ?_)
                                                · replace hf := (if_neg c277).symm.trans hf
                                                  refine xk_locals [2, 3, 4, 5, 6] rfl ?_
                                                  exact t_L_law_1494 hC hr hz hq hl9 (by omega) (by omega) (by omega) (by omega) (fun x0 x1 x2 x3 x4 w hf => ih x0 x1 x2 x3 x4 w (kc + 100) (ks + 3870) (by omega) (by omega) hf) x0 x1 x2 x3 x4 (q274.2) hf
                                                · replace hf := (if_pos c277).symm.trans hf
                                                  refine xk_aload_n hC dL_law_1482 5 rfl rfl ?_
                                                  refine xk_iconst (v := (0 : Int32)) hC dL_law_1483 (by decide) ?_
                                                  obtain ⟨v278, h278, hf⟩ := xk_bi hf
                                                  refine xk_lald hC rfl dL_law_1484 h278 ?_
                                                  refine xk_iload hC dL_law_1485 0 rfl ?_
                                                  refine xk_i2l hC dL_law_1487 ?_
                                                  refine xk_lcmp hC dL_law_1488 ?_
                                                  refine xk_if_eq (tgt := 1494) hC dL_law_1489 (by decide) (fun c279 => ?_) (fun c279 => ?_)
                                                  · replace hf := (if_pos c279).symm.trans hf
                                                    refine xk_locals [2, 3, 4, 5, 6] rfl ?_
                                                    exact t_L_law_1494 hC hr hz hq hl9 (by omega) (by omega) (by omega) (by omega) (fun x0 x1 x2 x3 x4 w hf => ih x0 x1 x2 x3 x4 w (kc + 100) (ks + 3870) (by omega) (by omega) hf) x0 x1 x2 x3 x4 (q274.2) hf
                                                  · replace hf := (if_neg c279).symm.trans hf
                                                    refine xk_iconst (v := (0 : Int32)) hC dL_law_1492 (by decide) ?_
                                                    cases hf
                                                    exact xk_lawret hC hr hz hq (by omega) (by omega) dL_law_1493
                                              · replace hf := (if_neg c276).symm.trans hf
                                                refine xk_iconst (v := (0 : Int32)) hC dL_law_1475 (by decide) ?_
                                                cases hf
                                                exact xk_lawret hC hr hz hq (by omega) (by omega) dL_law_1476
                                            · replace hf := (if_neg c266).symm.trans hf
                                              by_cases c280 : ((v3) &&& ((31 : Int32))) = (20 : Int32)
                                              · replace hf := (if_pos c280).symm.trans hf
                                                refine xk_tableIn (tgt := 1497) hC dL_law_40 (by rw [c280]; decide) (by rw [c280]; decide) (off := 1457) (by rw [c280]; rfl) (by decide) ?_
                                                refine xk_aload_n hC dL_law_1497 1 rfl rfl ?_
                                                refine xk_aload_n hC dL_law_1498 0 rfl rfl ?_
                                                refine xk_iload hC dL_law_1499 4 rfl ?_
                                                refine xk_iconst (v := (1 : Int32)) hC dL_law_1501 (by decide) ?_
                                                refine xk_iadd hC dL_law_1502 ?_
                                                obtain ⟨v281, h281, hf⟩ := xk_bi hf
                                                refine xk_iald hC rfl dL_law_1503 h281 ?_
                                                refine xk_aload_n hC dL_law_1504 3 rfl rfl ?_
                                                obtain ⟨q282, h282, hf⟩ := xk_bi hf
                                                refine xk_backi (xk_callSH hC 3 (c_L_bestStart hl9 h282) xm_832 xm_833 xm_0 xm_834 xd_L_bestStart rfl ⟨Nat.le_of_ble_eq_true rfl, Nat.le_of_ble_eq_true rfl⟩ rfl (Nat.le_of_ble_eq_true rfl) dL_law_1505 ⟨(by show _ ≤ 600002; omega), (by show _ ≤ 7302232; omega)⟩) ?_
                                                refine xk_istore (i := 5) (lv' := [(5, .int (q282.1)), (0, va_rf (x0)), (1, va_rf (x1)), (2, va_rf (x2)), (3, va_rf (x3)), (4, .int (x4))]) hC dL_law_1508 (by decide) rfl ?_
                                                refine xk_aload_n hC dL_law_1510 3 rfl rfl ?_
                                                refine xk_aload_n hC dL_law_1511 1 rfl rfl ?_
                                                refine xk_iload hC dL_law_1512 5 rfl ?_
                                                refine xk_iconst (v := (1 : Int32)) hC dL_law_1514 (by decide) ?_
                                                refine xk_iadd hC dL_law_1515 ?_
                                                obtain ⟨v283, h283, hf⟩ := xk_bi hf
                                                refine xk_iald hC rfl dL_law_1516 h283 ?_
                                                obtain ⟨u285, h285, hf⟩ := xk_bi hf
                                                obtain ⟨q284, h284, hf⟩ := xk_bi hf
                                                refine xk_backi (xk_callV hC 1 xc_5 (c_X8_bestStart h284) h285 xm_1309 xm_1310 xm_1311 xm_6 xm_1312 ⟨rfl, xd_X8_bestStart⟩ rfl ⟨Nat.le_of_ble_eq_true rfl, Nat.le_of_ble_eq_true rfl⟩ rfl (Nat.le_of_ble_eq_true rfl) dL_law_1517 ⟨(by show _ ≤ 600002; omega), (by show _ ≤ 7302232; omega)⟩) ?_
                                                refine xk_istore (i := 6) (lv' := [(6, .int (q284.1)), (5, .int (q282.1)), (0, va_rf (x0)), (1, va_rf (x1)), (2, va_rf (x2)), (3, va_rf (x3)), (4, .int (x4))]) hC dL_law_1520 (by decide) rfl ?_
                                                refine xk_aload_n hC dL_law_1522 4 rfl rfl ?_
                                                obtain ⟨u287, h287, hf⟩ := xk_bi hf
                                                obtain ⟨q286, h286, hf⟩ := xk_bi hf
                                                refine xk_backi (xk_callV hC 0 xc_5 (c_X8_thrown h286) h287 xm_891 xm_892 xm_893 xm_6 xm_894 ⟨rfl, xd_X8_thrown⟩ rfl ⟨Nat.le_of_ble_eq_true rfl, Nat.le_of_ble_eq_true rfl⟩ rfl (Nat.le_of_ble_eq_true rfl) dL_law_1523 ⟨(by show _ ≤ 600002; omega), (by show _ ≤ 7302232; omega)⟩) ?_
                                                refine xk_iload hC dL_law_1526 1 rfl ?_
                                                refine xk_icmp_eq (tgt := 1533) hC dL_law_1528 (by decide) (fun c288 => ?_) (fun c288 => ?_)
                                                · replace hf := (if_pos c288).symm.trans hf
                                                  refine xk_iload hC dL_law_1533 1 rfl ?_
                                                  refine xk_if_ne (tgt := 1550) hC dL_law_1535 (by decide) (fun c289 => ?_) (fun c289 => ?_)
                                                  · replace hf := (if_neg c289).symm.trans hf
                                                    refine xk_locals [2, 3, 4, 5, 6] rfl ?_
                                                    exact t_L_law_1550 hC hr hz hq hl9 (by omega) (by omega) (by omega) (by omega) (fun x0 x1 x2 x3 x4 w hf => ih x0 x1 x2 x3 x4 w (kc + 100) (ks + 3870) (by omega) (by omega) hf) x0 x1 x2 x3 x4 (q286.2) hf
                                                  · replace hf := (if_pos c289).symm.trans hf
                                                    refine xk_aload_n hC dL_law_1538 5 rfl rfl ?_
                                                    refine xk_iconst (v := (0 : Int32)) hC dL_law_1539 (by decide) ?_
                                                    obtain ⟨v290, h290, hf⟩ := xk_bi hf
                                                    refine xk_lald hC rfl dL_law_1540 h290 ?_
                                                    refine xk_iload hC dL_law_1541 0 rfl ?_
                                                    refine xk_i2l hC dL_law_1543 ?_
                                                    refine xk_lcmp hC dL_law_1544 ?_
                                                    refine xk_if_eq (tgt := 1550) hC dL_law_1545 (by decide) (fun c291 => ?_) (fun c291 => ?_)
                                                    · replace hf := (if_pos c291).symm.trans hf
                                                      refine xk_locals [2, 3, 4, 5, 6] rfl ?_
                                                      exact t_L_law_1550 hC hr hz hq hl9 (by omega) (by omega) (by omega) (by omega) (fun x0 x1 x2 x3 x4 w hf => ih x0 x1 x2 x3 x4 w (kc + 100) (ks + 3870) (by omega) (by omega) hf) x0 x1 x2 x3 x4 (q286.2) hf
                                                    · replace hf := (if_neg c291).symm.trans hf
                                                      refine xk_iconst (v := (0 : Int32)) hC dL_law_1548 (by decide) ?_
                                                      cases hf
                                                      exact xk_lawret hC hr hz hq (by omega) (by omega) dL_law_1549
                                                · replace hf := (if_neg c288).symm.trans hf
                                                  refine xk_iconst (v := (0 : Int32)) hC dL_law_1531 (by decide) ?_
                                                  cases hf
                                                  exact xk_lawret hC hr hz hq (by omega) (by omega) dL_law_1532
                                              · replace hf := (if_neg c280).symm.trans hf
                                                by_cases c292 : ((v3) &&& ((31 : Int32))) = (21 : Int32)
                                                · replace hf := (if_pos c292).symm.trans hf
                                                  refine xk_tableIn (tgt := 1553) hC dL_law_40 (by rw [c292]; decide) (by rw [c292]; decide) (off := 1513) (by rw [c292]; rfl) (by decide) ?_
                                                  refine xk_aload_n hC dL_law_1553 1 rfl rfl ?_
                                                  refine xk_aload_n hC dL_law_1554 0 rfl rfl ?_
                                                  refine xk_iload hC dL_law_1555 4 rfl ?_
                                                  refine xk_iconst (v := (1 : Int32)) hC dL_law_1557 (by decide) ?_
                                                  refine xk_iadd hC dL_law_1558 ?_
                                                  obtain ⟨v293, h293, hf⟩ := xk_bi hf
                                                  refine xk_iald hC rfl dL_law_1559 h293 ?_
                                                  refine xk_aload_n hC dL_law_1560 0 rfl rfl ?_
                                                  refine xk_iload hC dL_law_1561 4 rfl ?_
                                                  refine xk_iconst (v := (2 : Int32)) hC dL_law_1563 (by decide) ?_
                                                  refine xk_iadd hC dL_law_1564 ?_
                                                  obtain ⟨v294, h294, hf⟩ := xk_bi hf
                                                  refine xk_iald hC rfl dL_law_1565 h294 ?_
                                                  refine xk_aload_n hC dL_law_1566 3 rfl rfl ?_
                                                  obtain ⟨q295, h295, hf⟩ := xk_bi hf
                                                  refine xk_backi (xk_callSH hC 4 (c_L_bestClick hl9 h295) xm_836 xm_837 xm_0 xm_838 xd_L_bestClick rfl ⟨Nat.le_of_ble_eq_true rfl, Nat.le_of_ble_eq_true rfl⟩ rfl (Nat.le_of_ble_eq_true rfl) dL_law_1567 ⟨(by show _ ≤ 600002; omega), (by show _ ≤ 7302232; omega)⟩) ?_
                                                  refine xk_istore (i := 5) (lv' := [(5, .int (q295.1)), (0, va_rf (x0)), (1, va_rf (x1)), (2, va_rf (x2)), (3, va_rf (x3)), (4, .int (x4))]) hC dL_law_1570 (by decide) rfl ?_
                                                  refine xk_aload_n hC dL_law_1572 3 rfl rfl ?_
                                                  refine xk_aload_n hC dL_law_1573 1 rfl rfl ?_
                                                  refine xk_iload hC dL_law_1574 5 rfl ?_
                                                  refine xk_iconst (v := (1 : Int32)) hC dL_law_1576 (by decide) ?_
                                                  refine xk_iadd hC dL_law_1577 ?_
                                                  obtain ⟨v296, h296, hf⟩ := xk_bi hf
                                                  refine xk_iald hC rfl dL_law_1578 h296 ?_
                                                  refine xk_aload_n hC dL_law_1579 1 rfl rfl ?_
                                                  refine xk_iload hC dL_law_1580 5 rfl ?_
                                                  refine xk_iconst (v := (2 : Int32)) hC dL_law_1582 (by decide) ?_
                                                  refine xk_iadd hC dL_law_1583 ?_
                                                  obtain ⟨v297, h297, hf⟩ := xk_bi hf
                                                  refine xk_iald hC rfl dL_law_1584 h297 ?_
                                                  obtain ⟨u299, h299, hf⟩ := xk_bi hf
                                                  obtain ⟨q298, h298, hf⟩ := xk_bi hf
                                                  refine xk_backi (xk_callV hC 2 xc_5 (c_X8_bestClick h298) h299 xm_1317 xm_1318 xm_1319 xm_6 xm_1320 ⟨rfl, xd_X8_bestClick⟩ rfl ⟨Nat.le_of_ble_eq_true rfl, Nat.le_of_ble_eq_true rfl⟩ rfl (Nat.le_of_ble_eq_true rfl) dL_law_1585 ⟨(by show _ ≤ 600002; omega), (by show _ ≤ 7302232; omega)⟩) ?_
                                                  refine xk_istore (i := 6) (lv' := [(6, .int (q298.1)), (5, .int (q295.1)), (0, va_rf (x0)), (1, va_rf (x1)), (2, va_rf (x2)), (3, va_rf (x3)), (4, .int (x4))]) hC dL_law_1588 (by decide) rfl ?_
                                                  refine xk_aload_n hC dL_law_1590 4 rfl rfl ?_
                                                  obtain ⟨u301, h301, hf⟩ := xk_bi hf
                                                  obtain ⟨q300, h300, hf⟩ := xk_bi hf
                                                  refine xk_backi (xk_callV hC 0 xc_5 (c_X8_thrown h300) h301 xm_891 xm_892 xm_893 xm_6 xm_894 ⟨rfl, xd_X8_thrown⟩ rfl ⟨Nat.le_of_ble_eq_true rfl, Nat.le_of_ble_eq_true rfl⟩ rfl (Nat.le_of_ble_eq_true rfl) dL_law_1591 ⟨(by show _ ≤ 600002; omega), (by show _ ≤ 7302232; omega)⟩) ?_
                                                  refine xk_iload hC dL_law_1594 1 rfl ?_
                                                  refine xk_icmp_eq (tgt := 1601) hC dL_law_1596 (by decide) (fun c302 => ?_) (fun c302 => ?_)
                                                  · replace hf := (if_pos c302).symm.trans hf
                                                    refine xk_iload hC dL_law_1601 1 rfl ?_
                                                    refine xk_if_ne (tgt := 1618) hC dL_law_1603 (by decide) (fun c303 => ?_) (fun c303 => ?_)
                                                    · replace hf := (if_neg c303).symm.trans hf
                                                      refine xk_locals [2, 3, 4, 5, 6] rfl ?_
                                                      exact t_L_law_1618 hC hr hz hq hl9 (by omega) (by omega) (by omega) (by omega) (fun x0 x1 x2 x3 x4 w hf => ih x0 x1 x2 x3 x4 w (kc + 100) (ks + 3870) (by omega) (by omega) hf) x0 x1 x2 x3 x4 (q300.2) hf
                                                    · replace hf := (if_pos c303).symm.trans hf
                                                      refine xk_aload_n hC dL_law_1606 5 rfl rfl ?_
                                                      refine xk_iconst (v := (0 : Int32)) hC dL_law_1607 (by decide) ?_
                                                      obtain ⟨v304, h304, hf⟩ := xk_bi hf
                                                      refine xk_lald hC rfl dL_law_1608 h304 ?_
                                                      refine xk_iload hC dL_law_1609 0 rfl ?_
                                                      refine xk_i2l hC dL_law_1611 ?_
                                                      refine xk_lcmp hC dL_law_1612 ?_
                                                      refine xk_if_eq (tgt := 1618) hC dL_law_1613 (by decide) (fun c305 => ?_) (fun c305 => ?_)
                                                      · replace hf := (if_pos c305).symm.trans hf
                                                        refine xk_locals [2, 3, 4, 5, 6] rfl ?_
                                                        exact t_L_law_1618 hC hr hz hq hl9 (by omega) (by omega) (by omega) (by omega) (fun x0 x1 x2 x3 x4 w hf => ih x0 x1 x2 x3 x4 w (kc + 100) (ks + 3870) (by omega) (by omega) hf) x0 x1 x2 x3 x4 (q300.2) hf
                                                      · replace hf := (if_neg c305).symm.trans hf
                                                        refine xk_iconst (v := (0 : Int32)) hC dL_law_1616 (by decide) ?_
                                                        cases hf
                                                        exact xk_lawret hC hr hz hq (by omega) (by omega) dL_law_1617
                                                  · replace hf := (if_neg c302).symm.trans hf
                                                    refine xk_iconst (v := (0 : Int32)) hC dL_law_1599 (by decide) ?_
                                                    cases hf
                                                    exact xk_lawret hC hr hz hq (by omega) (by omega) dL_law_1600
                                                · replace hf := (if_neg c292).symm.trans hf
                                                  by_cases c306 : ((v3) &&& ((31 : Int32))) = (22 : Int32)
                                                  · replace hf := (if_pos c306).symm.trans hf
                                                    refine xk_tableIn (tgt := 1621) hC dL_law_40 (by rw [c306]; decide) (by rw [c306]; decide) (off := 1581) (by rw [c306]; rfl) (by decide) ?_
                                                    refine xk_aload_n hC dL_law_1621 1 rfl rfl ?_
                                                    refine xk_aload_n hC dL_law_1622 0 rfl rfl ?_
                                                    refine xk_iload hC dL_law_1623 4 rfl ?_
                                                    refine xk_iconst (v := (1 : Int32)) hC dL_law_1625 (by decide) ?_
                                                    refine xk_iadd hC dL_law_1626 ?_
                                                    obtain ⟨v307, h307, hf⟩ := xk_bi hf
                                                    refine xk_iald hC rfl dL_law_1627 h307 ?_
                                                    refine xk_aload_n hC dL_law_1628 0 rfl rfl ?_
                                                    refine xk_iload hC dL_law_1629 4 rfl ?_
                                                    refine xk_iconst (v := (2 : Int32)) hC dL_law_1631 (by decide) ?_
                                                    refine xk_iadd hC dL_law_1632 ?_
                                                    obtain ⟨v308, h308, hf⟩ := xk_bi hf
                                                    refine xk_iald hC rfl dL_law_1633 h308 ?_
                                                    refine xk_aload_n hC dL_law_1634 3 rfl rfl ?_
                                                    obtain ⟨q309, h309, hf⟩ := xk_bi hf
                                                    refine xk_backi (xk_callSH hC 4 (c_L_wouldMeet hl9 h309) xm_848 xm_849 xm_0 xm_850 xd_L_wouldMeet rfl ⟨Nat.le_of_ble_eq_true rfl, Nat.le_of_ble_eq_true rfl⟩ rfl (Nat.le_of_ble_eq_true rfl) dL_law_1635 ⟨(by show _ ≤ 600002; omega), (by show _ ≤ 7302232; omega)⟩) ?_
                                                    refine xk_istore (i := 5) (lv' := [(5, .int (q309.1)), (0, va_rf (x0)), (1, va_rf (x1)), (2, va_rf (x2)), (3, va_rf (x3)), (4, .int (x4))]) hC dL_law_1638 (by decide) rfl ?_
                                                    refine xk_aload_n hC dL_law_1640 3 rfl rfl ?_
                                                    refine xk_aload_n hC dL_law_1641 1 rfl rfl ?_
                                                    refine xk_iload hC dL_law_1642 5 rfl ?_
                                                    refine xk_iconst (v := (1 : Int32)) hC dL_law_1644 (by decide) ?_
                                                    refine xk_iadd hC dL_law_1645 ?_
                                                    obtain ⟨v310, h310, hf⟩ := xk_bi hf
                                                    refine xk_iald hC rfl dL_law_1646 h310 ?_
                                                    refine xk_aload_n hC dL_law_1647 1 rfl rfl ?_
                                                    refine xk_iload hC dL_law_1648 5 rfl ?_
                                                    refine xk_iconst (v := (2 : Int32)) hC dL_law_1650 (by decide) ?_
                                                    refine xk_iadd hC dL_law_1651 ?_
                                                    obtain ⟨v311, h311, hf⟩ := xk_bi hf
                                                    refine xk_iald hC rfl dL_law_1652 h311 ?_
                                                    obtain ⟨u313, h313, hf⟩ := xk_bi hf
                                                    obtain ⟨q312, h312, hf⟩ := xk_bi hf
                                                    refine xk_backi (xk_callV hC 2 xc_5 (c_X8_wouldMeet h312) h313 xm_1325 xm_1326 xm_1327 xm_6 xm_1328 ⟨rfl, xd_X8_wouldMeet⟩ rfl ⟨Nat.le_of_ble_eq_true rfl, Nat.le_of_ble_eq_true rfl⟩ rfl (Nat.le_of_ble_eq_true rfl) dL_law_1653 ⟨(by show _ ≤ 600002; omega), (by show _ ≤ 7302232; omega)⟩) ?_
                                                    refine xk_istore (i := 6) (lv' := [(6, .int (q312.1)), (5, .int (q309.1)), (0, va_rf (x0)), (1, va_rf (x1)), (2, va_rf (x2)), (3, va_rf (x3)), (4, .int (x4))]) hC dL_law_1656 (by decide) rfl ?_
                                                    refine xk_aload_n hC dL_law_1658 4 rfl rfl ?_
                                                    obtain ⟨u315, h315, hf⟩ := xk_bi hf
                                                    obtain ⟨q314, h314, hf⟩ := xk_bi hf
                                                    refine xk_backi (xk_callV hC 0 xc_5 (c_X8_thrown h314) h315 xm_891 xm_892 xm_893 xm_6 xm_894 ⟨rfl, xd_X8_thrown⟩ rfl ⟨Nat.le_of_ble_eq_true rfl, Nat.le_of_ble_eq_true rfl⟩ rfl (Nat.le_of_ble_eq_true rfl) dL_law_1659 ⟨(by show _ ≤ 600002; omega), (by show _ ≤ 7302232; omega)⟩) ?_
                                                    refine xk_iload hC dL_law_1662 1 rfl ?_
                                                    refine xk_icmp_eq (tgt := 1669) hC dL_law_1664 (by decide) (fun c316 => ?_) (fun c316 => ?_)
                                                    · replace hf := (if_pos c316).symm.trans hf
                                                      refine xk_iload hC dL_law_1669 1 rfl ?_
                                                      refine xk_if_ne (tgt := 1686) hC dL_law_1671 (by decide) (fun c317 => ?_) (fun c317 => ?_)
                                                      · replace hf := (if_neg c317).symm.trans hf
                                                        refine xk_locals [2, 3, 4, 5, 6] rfl ?_
                                                        exact t_L_law_1686 hC hr hz hq hl9 (by omega) (by omega) (by omega) (by omega) (fun x0 x1 x2 x3 x4 w hf => ih x0 x1 x2 x3 x4 w (kc + 100) (ks + 3870) (by omega) (by omega) hf) x0 x1 x2 x3 x4 (q314.2) hf
                                                      · replace hf := (if_pos c317).symm.trans hf
                                                        refine xk_aload_n hC dL_law_1674 5 rfl rfl ?_
                                                        refine xk_iconst (v := (0 : Int32)) hC dL_law_1675 (by decide) ?_
                                                        obtain ⟨v318, h318, hf⟩ := xk_bi hf
                                                        refine xk_lald hC rfl dL_law_1676 h318 ?_
                                                        refine xk_iload hC dL_law_1677 0 rfl ?_
                                                        refine xk_i2l hC dL_law_1679 ?_
                                                        refine xk_lcmp hC dL_law_1680 ?_
                                                        refine xk_if_eq (tgt := 1686) hC dL_law_1681 (by decide) (fun c319 => ?_) (fun c319 => ?_)
                                                        · replace hf := (if_pos c319).symm.trans hf
                                                          refine xk_locals [2, 3, 4, 5, 6] rfl ?_
                                                          exact t_L_law_1686 hC hr hz hq hl9 (by omega) (by omega) (by omega) (by omega) (fun x0 x1 x2 x3 x4 w hf => ih x0 x1 x2 x3 x4 w (kc + 100) (ks + 3870) (by omega) (by omega) hf) x0 x1 x2 x3 x4 (q314.2) hf
                                                        · replace hf := (if_neg c319).symm.trans hf
                                                          refine xk_iconst (v := (0 : Int32)) hC dL_law_1684 (by decide) ?_
                                                          cases hf
                                                          exact xk_lawret hC hr hz hq (by omega) (by omega) dL_law_1685
                                                    · replace hf := (if_neg c316).symm.trans hf
                                                      refine xk_iconst (v := (0 : Int32)) hC dL_law_1667 (by decide) ?_
                                                      cases hf
                                                      exact xk_lawret hC hr hz hq (by omega) (by omega) dL_law_1668
                                                  · replace hf := (if_neg c306).symm.trans hf
                                                    by_cases c320 : ((v3) &&& ((31 : Int32))) = (23 : Int32)
                                                    · replace hf := (if_pos c320).symm.trans hf
                                                      refine xk_tableIn (tgt := 1689) hC dL_law_40 (by rw [c320]; decide) (by rw [c320]; decide) (off := 1649) (by rw [c320]; rfl) (by decide) ?_
                                                      refine xk_aload_n hC dL_law_1689 1 rfl rfl ?_
                                                      obtain ⟨u322, h322, hf⟩ := xk_bi hf
                                                      obtain ⟨q321, h321, hf⟩ := xk_bi hf
                                                      refine xk_backl (xk_callV hC 0 xc_0 (c_X4_digest h321) h322 xm_161 xm_162 xm_163 xm_1 xm_164 ⟨rfl, xd_X4_digest⟩ rfl ⟨Nat.le_of_ble_eq_true rfl, Nat.le_of_ble_eq_true rfl⟩ rfl (Nat.le_of_ble_eq_true rfl) dL_law_1690 ⟨(by show _ ≤ 600002; omega), (by show _ ≤ 7302232; omega)⟩) ?_
                                                      refine xk_aload_n hC dL_law_1693 2 rfl rfl ?_
                                                      obtain ⟨u324, h324, hf⟩ := xk_bi hf
                                                      obtain ⟨q323, h323, hf⟩ := xk_bi hf
                                                      refine xk_backl (xk_callV hC 0 xc_5 (c_X8_digest h323) h324 xm_1333 xm_1334 xm_1335 xm_6 xm_1336 ⟨rfl, xd_X8_digest⟩ rfl ⟨Nat.le_of_ble_eq_true rfl, Nat.le_of_ble_eq_true rfl⟩ rfl (Nat.le_of_ble_eq_true rfl) dL_law_1694 ⟨(by show _ ≤ 600002; omega), (by show _ ≤ 7302232; omega)⟩) ?_
                                                      refine xk_lcmp hC dL_law_1697 ?_
                                                      refine xk_if_eq (tgt := 1703) hC dL_law_1698 (by decide) (fun c325 => ?_) (fun c325 => ?_)
                                                      · replace hf := (if_pos c325).symm.trans hf
                                                        exact t_L_law_1703 hC hr hz hq hl9 (by omega) (by omega) (by omega) (by omega) (fun x0 x1 x2 x3 x4 w hf => ih x0 x1 x2 x3 x4 w (kc + 100) (ks + 3870) (by omega) (by omega) hf) x0 x1 x2 x3 x4 (q323.2) hf
                                                      · replace hf := (if_neg c325).symm.trans hf
                                                        refine xk_iconst (v := (0 : Int32)) hC dL_law_1701 (by decide) ?_
                                                        cases hf
                                                        exact xk_lawret hC hr hz hq (by omega) (by omega) dL_law_1702
                                                    · replace hf := (if_neg c320).symm.trans hf
                                                      refine xk_tableOut (tgt := 1703) hC dL_law_40 (xk_swo ((v3) &&& ((31 : Int32))) 0 23 (fun v h1 h2 hv => by
                                                          have hh : v = 0 ∨ v = 1 ∨ v = 2 ∨ v = 3 ∨ v = 4 ∨ v = 5 ∨ v = 6 ∨ v = 7 ∨ v = 8 ∨ v = 9 ∨ v = 10 ∨ v = 11 ∨ v = 12 ∨ v = 13 ∨ v = 14 ∨ v = 15 ∨ v = 16 ∨ v = 17 ∨ v = 18 ∨ v = 19 ∨ v = 20 ∨ v = 21 ∨ v = 22 ∨ v = 23 := by omega
                                                          rcases hh with rfl | rfl | rfl | rfl | rfl | rfl | rfl | rfl | rfl | rfl | rfl | rfl | rfl | rfl | rfl | rfl | rfl | rfl | rfl | rfl | rfl | rfl | rfl | rfl
                                                          · exact c4 (Int32.toInt_inj.mp (hv.trans (by decide)))
                                                          · exact c18 (Int32.toInt_inj.mp (hv.trans (by decide)))
                                                          · exact c30 (Int32.toInt_inj.mp (hv.trans (by decide)))
                                                          · exact c44 (Int32.toInt_inj.mp (hv.trans (by decide)))
                                                          · exact c64 (Int32.toInt_inj.mp (hv.trans (by decide)))
                                                          · exact c80 (Int32.toInt_inj.mp (hv.trans (by decide)))
                                                          · exact c98 (Int32.toInt_inj.mp (hv.trans (by decide)))
                                                          · exact c112 (Int32.toInt_inj.mp (hv.trans (by decide)))
                                                          · exact c124 (Int32.toInt_inj.mp (hv.trans (by decide)))
                                                          · exact c140 (Int32.toInt_inj.mp (hv.trans (by decide)))
                                                          · exact c150 (Int32.toInt_inj.mp (hv.trans (by decide)))
                                                          · exact c164 (Int32.toInt_inj.mp (hv.trans (by decide)))
                                                          · exact c178 (Int32.toInt_inj.mp (hv.trans (by decide)))
                                                          · exact c194 (Int32.toInt_inj.mp (hv.trans (by decide)))
                                                          · exact c208 (Int32.toInt_inj.mp (hv.trans (by decide)))
                                                          · exact c222 (Int32.toInt_inj.mp (hv.trans (by decide)))
                                                          · exact c234 (Int32.toInt_inj.mp (hv.trans (by decide)))
                                                          · exact c246 (Int32.toInt_inj.mp (hv.trans (by decide)))
                                                          · exact c254 (Int32.toInt_inj.mp (hv.trans (by decide)))
                                                          · exact c266 (Int32.toInt_inj.mp (hv.trans (by decide)))
                                                          · exact c280 (Int32.toInt_inj.mp (hv.trans (by decide)))
                                                          · exact c292 (Int32.toInt_inj.mp (hv.trans (by decide)))
                                                          · exact c306 (Int32.toInt_inj.mp (hv.trans (by decide)))
                                                          · exact c320 (Int32.toInt_inj.mp (hv.trans (by decide)))
                                                          )) (by decide) ?_
                                                      exact t_L_law_1703 hC hr hz hq hl9 (by omega) (by omega) (by omega) (by omega) (fun x0 x1 x2 x3 x4 w hf => ih x0 x1 x2 x3 x4 w (kc + 100) (ks + 3870) (by omega) (by omega) hf) x0 x1 x2 x3 x4 w hf
def f_L_law (x0 : Option Nat) (w : xWd) : Option (Int32 × xWd) := (some (xk_nw w 0 xf_0)).bind (fun w1 => (f_X4_init (w.2.1)  w1).bind (fun q2 => (some (xk_nw q2 5 xf_5)).bind (fun w3 => (f_X8_init (q2.2.1)  w3).bind (fun q4 => (xk_nA q4 5 xk_dJ ((1 : Int32)) 64).bind (fun w5 => f_L_law_23 2 x0 (some w.2.1) (some q2.2.1) (some q4.2.1) ((0 : Int32)) w5)))))
set_option maxHeartbeats 4000000 in
set_option maxRecDepth 100000 in
theorem t_L_law_0 {p : Program} {l : Launch} {e : Env} {s : State} {m : MethodId} {b : Nat} {below : List Frame} {meth : Method} {c : Code} {E : xEv} (hC : xk_C p (s.setDrawn s.drawn) m #[Value.ref b] meth c E code "ClickbookLaw" 9) (hr : meth.sig.returnType = ret) (hz : E.2.2.1 = s.heap.size) {q : (Int32 × xWd)} (hq : q.1 = 1) (hl9 : l.stackTraces = false) (x0 : Option Nat) (w : xWd) (hf : f_L_law x0 w = some q) : xk_X p l e room_1 (s.setDrawn s.drawn) m #[Value.ref b] below meth c (lw_Z below #[Value.ref b] s) E 9 0 0 0 [(0, va_rf (x0))] [] w := by
  obtain ⟨w1, h1, hf⟩ := xk_bi hf
  refine xk_newH hC xi_0 xc_0 xo_0 xm_29 xm_30 xm_1 xfo_0 (Nat.le_of_ble_eq_true rfl) (Nat.le_of_ble_eq_true rfl) dL_law_0 h1 ?_
  refine xk_dup hC dL_law_3 (xk_cat1 _) ?_
  obtain ⟨q2, h2, hf⟩ := xk_bi hf
  refine xk_backv (xk_callI hC 0 (c_X4_init h2) xm_31 xm_32 xm_1 xm_33 rfl xd_X4_init rfl ⟨Nat.le_of_ble_eq_true rfl, Nat.le_of_ble_eq_true rfl⟩ rfl (Nat.le_of_ble_eq_true rfl) dL_law_4 ⟨(Nat.le_of_ble_eq_true rfl), (Nat.le_of_ble_eq_true rfl)⟩) ?_
  refine xk_astore_n (i := 1) (lv' := [(1, va_rf (some w.2.1)), (0, va_rf (x0))]) hC dL_law_7 rfl (by decide) (by simp [xk_cat1]) ?_
  obtain ⟨w3, h3, hf⟩ := xk_bi hf
  refine xk_newH hC xi_5 xc_5 xo_5 xm_852 xm_853 xm_6 xfo_5 (Nat.le_of_ble_eq_true rfl) (Nat.le_of_ble_eq_true rfl) dL_law_8 h3 ?_
  refine xk_dup hC dL_law_11 (xk_cat1 _) ?_
  obtain ⟨q4, h4, hf⟩ := xk_bi hf
  refine xk_backv (xk_callI hC 0 (c_X8_init h4) xm_854 xm_855 xm_6 xm_856 rfl xd_X8_init rfl ⟨Nat.le_of_ble_eq_true rfl, Nat.le_of_ble_eq_true rfl⟩ rfl (Nat.le_of_ble_eq_true rfl) dL_law_12 ⟨(Nat.le_of_ble_eq_true rfl), (Nat.le_of_ble_eq_true rfl)⟩) ?_
  refine xk_astore_n (i := 2) (lv' := [(2, va_rf (some q2.2.1)), (1, va_rf (some w.2.1)), (0, va_rf (x0))]) hC dL_law_15 rfl (by decide) rfl ?_
  refine xk_iconst (v := (1 : Int32)) hC dL_law_16 (by decide) ?_
  obtain ⟨w5, h5, hf⟩ := xk_bi hf
  refine xk_newarr (cap := 64) (atype := .long) (ty := .long) (kd := 5) hC rfl xm_1348 (by decide) rfl (fun _ _ => rfl) (Nat.le_of_ble_eq_true rfl) (Nat.le_of_ble_eq_true rfl) (Nat.le_of_ble_eq_true rfl) dL_law_17 h5 ?_
  refine xk_astore_n (i := 3) (lv' := [(3, va_rf (some q4.2.1)), (2, va_rf (some q2.2.1)), (1, va_rf (some w.2.1)), (0, va_rf (x0))]) hC dL_law_19 rfl (by decide) rfl ?_
  refine xk_iconst (v := (0 : Int32)) hC dL_law_20 (by decide) ?_
  refine xk_istore (i := 4) (lv' := [(4, .int ((0 : Int32))), (3, va_rf (some q4.2.1)), (2, va_rf (some q2.2.1)), (1, va_rf (some w.2.1)), (0, va_rf (x0))]) hC dL_law_21 (by decide) rfl ?_
  refine xk_locals [4, 3, 2, 1, 0] rfl ?_
  exact t_L_law_23 hC hr hz hq hl9 2 x0 (some w.2.1) (some q2.2.1) (some q4.2.1) ((0 : Int32)) w5 _ _ (Nat.le_of_ble_eq_true rfl) (Nat.le_of_ble_eq_true rfl) hf
