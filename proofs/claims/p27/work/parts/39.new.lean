theorem xi_al {w : xWd} {p k n r kd cap ci : Nat} {fs : List Value} (hr : w.2.1 = r) (h : w.1 p = some (.inr (ci, fs))) (hp : p < w.2.1) (hk : k < fs.length) (hn : n ≤ cap) (hn2 : n ≤ 1000) (F : xWd → Option xWd) : ∃ w', ((xk_nA w kd xk_d0 (iI n) cap).bind (fun w7 => (xk_pV w7 (some p) ci k (va_rf (some r))).bind F)) = F w' ∧ w'.1 p = some (.inr (ci, fs.set k (.ref r))) ∧ w'.1 r = some (.inl (kd, n, .inl (fun _ => 0))) ∧ w'.2.1 = r + 1 ∧ w'.2.2 = w.2.2 ∧ ∀ q, q ≠ p → q ≠ r → w'.1 q = w.1 q := by
  subst hr
  have n0 : ¬ iI (n : Int) < 0 := by rw [iI_0, iI_lt (by omega) (by omega)]; omega
  have n1 : (iI (n : Int)).toNatClampNeg = n := by rw [iI_clamp (by omega)]; omega
  have eA : xk_nA w kd xk_d0 (iI n) cap = some (va_up w.1 w.2.1 (some (.inl (kd, n, xk_d0.2))), w.2.1 + 1, w.2.2) := by
    unfold xk_nA
    rw [if_neg n0, n1, if_pos hn]
  have h2 : (va_up w.1 w.2.1 (some (.inl (kd, n, xk_d0.2))), w.2.1 + 1, w.2.2).1 p = some (.inr (ci, fs)) := (xk_up_n _ _ (by omega)).trans h
  have p2 := xr_pV (v := va_rf (some w.2.1)) h2 hk
  refine ⟨(va_up (va_up w.1 w.2.1 (some (.inl (kd, n, xk_d0.2)))) p (some (.inr (ci, fs.set k (va_rf (some w.2.1))))), w.2.1 + 1, w.2.2), ?_, xk_up_s _ _ _, (xk_up_n _ _ (by omega)).trans (xk_up_s _ _ _), rfl, rfl, fun q q1 q2 => (xk_up_n _ _ q1).trans (xk_up_n _ _ q2)⟩
  rw [eA, Option.bind_some, p2, Option.bind_some]
theorem xi_ln (w : xWd) : f_Jx4a65c_init_da8c8 w.2.1 (xk_nw w 5 xf_5) = some (va_up w.1 w.2.1 (some (.inr (5, [.int 0, .ref w.2.2.1, .int 0]))), w.2.1 + 1, w.2.2) := by
  unfold f_Jx4a65c_init_da8c8 f_Jxc12de_init_da8c8 f_Jxa1e45_init_da8c8 xk_nw xf_5
  rw [Option.bind_some, xk_nw_pV (by decide), Option.bind_some, Option.bind_some]
  show (xk_pV (va_up w.1 w.2.1 _, w.2.1 + 1, w.2.2) (some w.2.1) 5 1 (va_rf (some w.2.2.1))).bind _ = _
  rw [xk_nw_pV (by simp), Option.bind_some]
  rfl
theorem xi_li {w : xWd} {p k r ci : Nat} {fs : List Value} (hr : w.2.1 = r) (h : w.1 p = some (.inr (ci, fs))) (hp : p < w.2.1) (hk : k < fs.length) (F : xWd → Option xWd) : ∃ w', ((some (xk_nw w 5 xf_5)).bind (fun w1 => (f_Jx4a65c_init_da8c8 r w1).bind (fun q2 => (xk_pV q2 (some p) ci k (va_rf (some r))).bind F))) = F w' ∧ w'.1 p = some (.inr (ci, fs.set k (.ref r))) ∧ w'.1 r = some (.inr (5, [.int 0, .ref w.2.2.1, .int 0])) ∧ w'.2.1 = r + 1 ∧ w'.2.2 = w.2.2 ∧ ∀ q, q ≠ p → q ≠ r → w'.1 q = w.1 q := by
  subst hr
  have h2 : (va_up w.1 w.2.1 (some (.inr (5, [.int 0, .ref w.2.2.1, .int 0]))), w.2.1 + 1, w.2.2).1 p = some (.inr (ci, fs)) := (xk_up_n _ _ (by omega)).trans h
  have p2 := xr_pV (v := va_rf (some w.2.1)) h2 hk
  refine ⟨(va_up (va_up w.1 w.2.1 (some (.inr (5, [.int 0, .ref w.2.2.1, .int 0])))) p (some (.inr (ci, fs.set k (va_rf (some w.2.1))))), w.2.1 + 1, w.2.2), ?_, xk_up_s _ _ _, (xk_up_n _ _ (by omega)).trans (xk_up_s _ _ _), rfl, rfl, fun q q1 q2 => (xk_up_n _ _ q1).trans (xk_up_n _ _ q2)⟩
  rw [Option.bind_some, xi_ln, Option.bind_some, p2, Option.bind_some]
/-- the table of joins made -/
theorem x2_init {w : xWd} : ∃ w', f_X2_init w.2.1 (xk_nw w 3 xf_3) = some w' ∧ w'.1 w.2.1 = some (.inr (3, [.ref (w.2.1 + 1), .int 0, .ref (w.2.1 + 2)])) ∧ w'.1 (w.2.1 + 1) = some (.inr (5, [.int 0, .ref w.2.2.1, .int 0])) ∧ w'.1 (w.2.1 + 2) = some (.inl (0, 360, .inl (fun _ => 0))) ∧ w'.2.1 = w.2.1 + 3 ∧ w'.2.2 = w.2.2 ∧ ∀ q, q < w.2.1 → w'.1 q = w.1 q := by
  have z360 : (360 : Int32) = iI ((360 : Nat) : Int) := by decide
  have h0 : (xk_nw w 3 xf_3).1 w.2.1 = some (.inr (3, xf_3)) := xk_up_s _ _ _
  have k0 : ∀ q, q ≠ w.2.1 → (xk_nw w 3 xf_3).1 q = w.1 q := fun q hq => xk_up_n _ _ hq
  unfold f_X2_init
  rw [z360]
  obtain ⟨w1, e1, a1, b1, c1, d1, f1⟩ := xi_li (r := w.2.1 + 1) (k := 0) (w := xk_nw w 3 xf_3) rfl h0 (by show w.2.1 < w.2.1 + 1; omega) (by decide) (fun w3 => (xk_nA w3 0 xk_d0 (iI ((360 : Nat) : Int)) 360).bind fun w4 => (xk_pV w4 (some w.2.1) 3 2 (va_rf (some w3.2.1))).bind fun w5 => some w5)
  obtain ⟨w2, e2, a2, b2, c2, d2, f2⟩ := xi_al (r := w1.2.1) (k := 2) (n := 360) (kd := 0) (cap := 360) rfl a1 (by rw [c1]; omega) (by simp [xf_3]) (by omega) (by omega) (fun w5 => some w5)
  have s1 : w1.2.1 = w.2.1 + 2 := c1
  rw [s1] at a2 b2 c2 f2
  refine ⟨w2, e1.trans e2, a2, ?_, b2, c2, ?_, fun q hq => ?_⟩
  · rw [f2 _ (by omega) (by omega)]
    exact b1
  · rw [d2, d1]; rfl
  · rw [f2 _ (by omega) (by omega), f1 _ (by omega) (by omega)]
    exact k0 q (by omega)
theorem x4_init {w : xWd} {z : Nat} (hz : w.1 z = some (.inr (0, xf_0))) (hn : w.2.1 = z + 1) (he : w.2.2.1 < z) (hA : w.1 w.2.2.1 = some (.inl (3, 0, .inr (.inr (.inr (.inr (fun _ => none))))))) : ∃ w', f_X4_init z w = some w' ∧ xBk z w'.2.1 0 0 0 (fun _ => 0) (fun _ => 0) (fun _ => 0) (va_up (fun _ => 0) 5 2400) (fun _ _ => 0) (fun _ _ => 0) (fun _ _ => 0) w' ∧ xNw z w' ∧ w'.2.2 = w.2.2 ∧ (∀ q, q < z → w'.1 q = w.1 q) := by
  have z4 : (4 : Int32) = iI ((4 : Nat) : Int) := by decide
  have z63 : (63 : Int32) = iI ((63 : Nat) : Int) := by decide
  have z12 : (12 : Int32) = iI ((12 : Nat) : Int) := by decide
  unfold f_X4_init
  rw [z4, z63, z12]
  sorry
