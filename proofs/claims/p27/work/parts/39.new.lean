theorem xi_al {w : xWd} {p k n r kd cap ci : Nat} {fs : List Value} (hr : w.2.1 = r) (h : w.1 p = some (.inr (ci, fs))) (hp : p < w.2.1) (hk : k < fs.length) (hn : n ≤ cap) (hn2 : n ≤ 1000) : ∃ w' : xWd, (∀ F : xWd → Option xWd, (xk_nA w kd xk_d0 (iI n) cap).bind (fun w7 => (xk_pV w7 (some p) ci k (va_rf (some r))).bind F) = F w') ∧ w'.1 p = some (.inr (ci, fs.set k (.ref r))) ∧ w'.1 r = some (.inl (kd, n, .inl (fun _ => 0))) ∧ w'.2.1 = r + 1 ∧ w'.2.2 = w.2.2 ∧ ∀ q, q ≠ p → q ≠ r → w'.1 q = w.1 q := by
  subst hr
  have n0 : ¬ iI (n : Int) < 0 := by rw [iI_0, iI_lt (by omega) (by omega)]; omega
  have n1 : (iI (n : Int)).toNatClampNeg = n := by rw [iI_clamp (by omega)]; omega
  have eA : xk_nA w kd xk_d0 (iI n) cap = some (va_up w.1 w.2.1 (some (.inl (kd, n, xk_d0.2))), w.2.1 + 1, w.2.2) := by
    unfold xk_nA
    rw [if_neg n0, n1, if_pos hn]
  have h2 : (va_up w.1 w.2.1 (some (.inl (kd, n, xk_d0.2))), w.2.1 + 1, w.2.2).1 p = some (.inr (ci, fs)) := (xk_up_n _ _ (by omega)).trans h
  have p2 := xr_pV (v := va_rf (some w.2.1)) h2 hk
  refine ⟨(va_up (va_up w.1 w.2.1 (some (.inl (kd, n, xk_d0.2)))) p (some (.inr (ci, fs.set k (va_rf (some w.2.1))))), w.2.1 + 1, w.2.2), ?_, xk_up_s _ _ _, (xk_up_n _ _ (by omega)).trans (xk_up_s _ _ _), rfl, rfl, fun q q1 q2 => (xk_up_n _ _ q1).trans (xk_up_n _ _ q2)⟩
  intro F
  rw [eA, Option.bind_some, p2, Option.bind_some]
theorem xi_ln (w : xWd) : f_Jx4a65c_init_da8c8 w.2.1 (xk_nw w 5 xf_5) = some (va_up w.1 w.2.1 (some (.inr (5, [.int 0, .ref w.2.2.1, .int 0]))), w.2.1 + 1, w.2.2) := by
  unfold f_Jx4a65c_init_da8c8 f_Jxc12de_init_da8c8 f_Jxa1e45_init_da8c8 xk_nw xf_5
  rw [Option.bind_some, xk_nw_pV (by decide), Option.bind_some, Option.bind_some]
  show (xk_pV (va_up w.1 w.2.1 _, w.2.1 + 1, w.2.2) (some w.2.1) 5 1 (va_rf (some w.2.2.1))).bind _ = _
  rw [xk_nw_pV (by simp), Option.bind_some]
  rfl
theorem xi_li {w : xWd} {p k r ci : Nat} {fs : List Value} (hr : w.2.1 = r) (h : w.1 p = some (.inr (ci, fs))) (hp : p < w.2.1) (hk : k < fs.length) : ∃ w' : xWd, (∀ F : xWd → Option xWd, (some (xk_nw w 5 xf_5)).bind (fun w1 => (f_Jx4a65c_init_da8c8 r w1).bind (fun q2 => (xk_pV q2 (some p) ci k (va_rf (some r))).bind F)) = F w') ∧ w'.1 p = some (.inr (ci, fs.set k (.ref r))) ∧ w'.1 r = some (.inr (5, [.int 0, .ref w.2.2.1, .int 0])) ∧ w'.2.1 = r + 1 ∧ w'.2.2 = w.2.2 ∧ ∀ q, q ≠ p → q ≠ r → w'.1 q = w.1 q := by
  subst hr
  have h2 : (va_up w.1 w.2.1 (some (.inr (5, [.int 0, .ref w.2.2.1, .int 0]))), w.2.1 + 1, w.2.2).1 p = some (.inr (ci, fs)) := (xk_up_n _ _ (by omega)).trans h
  have p2 := xr_pV (v := va_rf (some w.2.1)) h2 hk
  refine ⟨(va_up (va_up w.1 w.2.1 (some (.inr (5, [.int 0, .ref w.2.2.1, .int 0])))) p (some (.inr (ci, fs.set k (va_rf (some w.2.1))))), w.2.1 + 1, w.2.2), ?_, xk_up_s _ _ _, (xk_up_n _ _ (by omega)).trans (xk_up_s _ _ _), rfl, rfl, fun q q1 q2 => (xk_up_n _ _ q1).trans (xk_up_n _ _ q2)⟩
  intro F
  rw [Option.bind_some, xi_ln, Option.bind_some, p2, Option.bind_some]
/-- the table of joins made -/
theorem x2_init {w : xWd} : ∃ w', f_X2_init w.2.1 (xk_nw w 3 xf_3) = some w' ∧ w'.1 w.2.1 = some (.inr (3, [.ref (w.2.1 + 1), .int 0, .ref (w.2.1 + 2)])) ∧ w'.1 (w.2.1 + 1) = some (.inr (5, [.int 0, .ref w.2.2.1, .int 0])) ∧ w'.1 (w.2.1 + 2) = some (.inl (0, 360, .inl (fun _ => 0))) ∧ w'.2.1 = w.2.1 + 3 ∧ w'.2.2 = w.2.2 ∧ ∀ q, q < w.2.1 → w'.1 q = w.1 q := by
  have z360 : (360 : Int32) = iI ((360 : Nat) : Int) := by decide
  have h0 : (xk_nw w 3 xf_3).1 w.2.1 = some (.inr (3, xf_3)) := xk_up_s _ _ _
  have k0 : ∀ q, q ≠ w.2.1 → (xk_nw w 3 xf_3).1 q = w.1 q := fun q hq => xk_up_n _ _ hq
  unfold f_X2_init
  rw [z360]
  obtain ⟨w1, e1, a1, b1, c1, d1, f1⟩ := xi_li (r := w.2.1 + 1) (k := 0) (w := xk_nw w 3 xf_3) rfl h0 (by show w.2.1 < w.2.1 + 1; omega) (by decide)
  obtain ⟨w2, e2, a2, b2, c2, d2, f2⟩ := xi_al (r := w1.2.1) (k := 2) (n := 360) (kd := 0) (cap := 360) rfl a1 (by rw [c1]; omega) (by simp [xf_3]) (by omega) (by omega)
  have s1 : w1.2.1 = w.2.1 + 2 := c1
  rw [s1] at a2 b2 c2 f2
  refine ⟨w2, (e1 _).trans (e2 _), a2, ?_, b2, c2, ?_, fun q hq => ?_⟩
  · rw [f2 _ (by omega) (by omega)]
    exact b1
  · rw [d2, d1]; rfl
  · rw [f2 _ (by omega) (by omega), f1 _ (by omega) (by omega)]
    exact k0 q (by omega)
theorem x4_init {w : xWd} {z : Nat} (hz : w.1 z = some (.inr (0, xf_0))) (hn : w.2.1 = z + 1) (he : w.2.2.1 < z) (hA : w.1 w.2.2.1 = some (.inl (3, 0, .inr (.inr (.inr (.inr (fun _ => none))))))) : ∃ w', f_X4_init z w = some w' ∧ xBk z w'.2.1 0 0 0 (fun _ => 0) (fun _ => 0) (fun _ => 0) (va_up (fun _ => 0) 5 2400) (fun _ _ => 0) (fun _ _ => 0) (fun _ _ => 0) w' ∧ xNw z w' ∧ w'.2.2 = w.2.2 ∧ (∀ q, q < z → w'.1 q = w.1 q) := by
  have z4 : (4 : Int32) = iI ((4 : Nat) : Int) := by decide
  have z63 : (63 : Int32) = iI ((63 : Nat) : Int) := by decide
  have z12 : (12 : Int32) = iI ((12 : Nat) : Int) := by decide
  unfold f_X4_init
  rw [z4, z63, z12]
  obtain ⟨w1, e1, a1, b1, c1, d1, f1⟩ := xi_li (r := z + 1) (k := 0) hn hz (by omega) (by decide)
  obtain ⟨w2, e2, a2, b2, c2, d2, f2⟩ := xi_al (r := z + 2) (k := 1) (n := 4) (kd := 0) (cap := 64) (by omega) a1 (by omega) (by simp [xf_0]) (by omega) (by omega)
  obtain ⟨w3, e3, a3, b3, c3, d3, f3⟩ := xi_li (r := z + 3) (k := 3) (by omega) a2 (by omega) (by simp [xf_0])
  obtain ⟨w4, e4, a4, b4, c4, d4, f4⟩ := xi_li (r := z + 4) (k := 4) (by omega) a3 (by omega) (by simp [xf_0])
  have e5 := xr_pV (k := 5) (v := .int (2400 : Int32)) a4 (by simp [xf_0])
  obtain ⟨w5, hw5⟩ : ∃ w5 : xWd, w5 = (va_up w4.1 z (some (.inr (0, ((((xf_0.set 0 (.ref (z + 1))).set 1 (.ref (z + 2))).set 3 (.ref (z + 3))).set 4 (.ref (z + 4))).set 5 (.int (2400 : Int32))))), w4.2) := ⟨_, rfl⟩
  rw [← hw5] at e5
  have a5 : w5.1 z = some (.inr (0, ((((xf_0.set 0 (.ref (z + 1))).set 1 (.ref (z + 2))).set 3 (.ref (z + 3))).set 4 (.ref (z + 4))).set 5 (.int (2400 : Int32)))) := by rw [hw5]; exact xk_up_s _ _ _
  have f5 : ∀ q, q ≠ z → w5.1 q = w4.1 q := fun q hq => by rw [hw5]; exact xk_up_n _ _ hq
  have c5 : w5.2.1 = z + 5 := by rw [hw5]; exact c4
  have d5 : w5.2.2 = w4.2.2 := by rw [hw5]
  obtain ⟨w6, e6, a6, b6, g6, c6, d6, f6⟩ := x2_init (w := w5)
  rw [c5] at a6 b6 g6 c6 f6
  have h6 : w6.1 z = w5.1 z := f6 z (by omega)
  have e7 := xr_pV (k := 10) (v := va_rf (some w5.2.1)) (h6.trans a5) (by simp [xf_0])
  obtain ⟨w7, hw7⟩ : ∃ w7 : xWd, w7 = (va_up w6.1 z (some (.inr (0, (((((xf_0.set 0 (.ref (z + 1))).set 1 (.ref (z + 2))).set 3 (.ref (z + 3))).set 4 (.ref (z + 4))).set 5 (.int (2400 : Int32))).set 10 (va_rf (some w5.2.1))))), w6.2) := ⟨_, rfl⟩
  rw [← hw7] at e7
  have a7 : w7.1 z = some (.inr (0, (((((xf_0.set 0 (.ref (z + 1))).set 1 (.ref (z + 2))).set 3 (.ref (z + 3))).set 4 (.ref (z + 4))).set 5 (.int (2400 : Int32))).set 10 (va_rf (some w5.2.1)))) := by rw [hw7]; exact xk_up_s _ _ _
  have f7 : ∀ q, q ≠ z → w7.1 q = w6.1 q := fun q hq => by rw [hw7]; exact xk_up_n _ _ hq
  have c7 : w7.2.1 = z + 8 := by rw [hw7]; exact c6
  have d7 : w7.2.2 = w6.2.2 := by rw [hw7]
  obtain ⟨w8, e8, a8, b8, c8, d8, f8⟩ := xi_al (r := z + 8) (k := 11) (n := 63) (kd := 0) (cap := 64) c7 a7 (by omega) (by simp [xf_0]) (by omega) (by omega)
  obtain ⟨w9, e9, a9, b9, c9, d9, f9⟩ := xi_al (r := z + 9) (k := 12) (n := 12) (kd := 1) (cap := 64) (by omega) a8 (by omega) (by simp [xf_0]) (by omega) (by omega)
  have D : w9.2.2 = w.2.2 := by rw [d9, d8, d7, d6, d5, d4, d3, d2, d1]
  have A9 : w9.2.2.1 = w.2.2.1 := by rw [D]
  have st9 : ∀ q, q ≠ z → q ≠ z + 9 → q ≠ z + 8 → w9.1 q = w6.1 q := fun q q1 q2 q3 => by rw [f9 _ q1 q2, f8 _ q1 q3, f7 _ q1]
  have st5 : ∀ q, q ≠ z → q < z + 5 → w9.1 q = w4.1 q := fun q q1 q2 => by rw [st9 _ q1 (by omega) (by omega), f6 _ (by omega), f5 _ q1]
  refine ⟨w9, ?_, ?_⟩
  · rw [hn, e1, show w1.2.1 = z + 2 by omega, e2, show w2.2.1 = z + 3 by omega, e3, show w3.2.1 = z + 4 by omega, e4, e5, Option.bind_some, Option.bind_some, e6, Option.bind_some, e7, Option.bind_some, c7, e8, show w8.2.1 = z + 9 by omega, e9]
  · have z0 : iI ((0 : Nat) : Int) = (0 : Int32) := by decide
    have li : ∀ al, w9.1 al = some (.inr (5, [.int 0, .ref w.2.2.1, .int 0])) → al < w9.2.1 → ∀ a : Nat → Nat, xl_R w9 al w.2.2.1 0 a := by
      intro al h1 h2 a
      refine ⟨0, by rw [z0]; exact h1, h2, by omega, Or.inl ⟨rfl, A9.symm, ?_⟩⟩
      rw [st9 _ (by omega) (by omega) (by omega), f6 _ (by omega), f5 _ (by omega), f4 _ (by omega) (by omega), f3 _ (by omega) (by omega), f2 _ (by omega) (by omega), f1 _ (by omega) (by omega)]
      exact hA
    have q1 : w9.1 (z + 1) = some (.inr (5, [.int 0, .ref w.2.2.1, .int 0])) := by
      rw [st5 _ (by omega) (by omega), f4 _ (by omega) (by omega), f3 _ (by omega) (by omega), f2 _ (by omega) (by omega)]
      exact b1
    have q2 : w9.1 (z + 2) = some (.inl (0, 4, .inl (fun _ => 0))) := by
      rw [st5 _ (by omega) (by omega), f4 _ (by omega) (by omega), f3 _ (by omega) (by omega)]
      exact b2
    have q3 : w9.1 (z + 3) = some (.inr (5, [.int 0, .ref w.2.2.1, .int 0])) := by
      rw [st5 _ (by omega) (by omega), f4 _ (by omega) (by omega), b3, d2, d1]
    have q4 : w9.1 (z + 4) = some (.inr (5, [.int 0, .ref w.2.2.1, .int 0])) := by
      rw [st5 _ (by omega) (by omega), b4, d3, d2, d1]
    have q5 : w9.1 (z + 5) = some (.inr (3, [.ref (z + 6), .int 0, .ref (z + 7)])) := by
      rw [st9 _ (by omega) (by omega) (by omega)]
      exact a6
    have q6 : w9.1 (z + 6) = some (.inr (5, [.int 0, .ref w.2.2.1, .int 0])) := by
      rw [st9 _ (by omega) (by omega) (by omega)]
      refine b6.trans ?_
      rw [d5, d4, d3, d2, d1]
    have q7 : w9.1 (z + 7) = some (.inl (0, 360, .inl (fun _ => 0))) := by
      rw [st9 _ (by omega) (by omega) (by omega)]
      exact g6
    have q8 : w9.1 (z + 8) = some (.inl (0, 63, .inl (fun _ => 0))) := by
      rw [f9 _ (by omega) (by omega)]
      exact b8
    have B20 : (fun i => iI (va_up (fun _ => (0 : Int)) 5 2400 (20 + i))) = fun _ => (0 : Int32) := by
      funext i
      rw [xk_up_n _ _ (by omega)]
      decide
    have hN : xNw z w9 := by
      refine ⟨xDj_i (li _ q1 (by omega) (fun _ => 0)) (li _ q3 (by omega) (fun _ => 0)) (Or.inl A9.symm), ⟨0, by rw [A9, z0]; exact q4⟩, ⟨0, by rw [A9, z0]; exact q6⟩, ?_⟩
      rw [A9, st9 _ (by omega) (by omega) (by omega), f6 _ (by omega), f5 _ (by omega), f4 _ (by omega) (by omega), f3 _ (by omega) (by omega), f2 _ (by omega) (by omega), f1 _ (by omega) (by omega)]
      exact hA
    refine ⟨⟨?_, by rw [B20]; exact q2, ⟨_, li _ q1 (by omega) _, Or.inl A9.symm⟩, ⟨_, li _ q3 (by omega) _, Or.inl A9.symm⟩, ⟨_, _, 0, fun _ => 0, 0, _, li _ q4 (by omega) _, Or.inl A9.symm, q5, li _ q6 (by omega) _, Or.inl A9.symm, Or.inl A9.symm, q7⟩,
      ⟨fun _ => 0, by rw [q8]; rfl, fun i _ => ⟨Int.le_refl _, by show (0 : Int) ≤ 3000; omega⟩⟩, ⟨_, b9⟩, fun k hk => absurd hk (by omega), fun k hk => absurd hk (by omega), fun k hk => absurd hk (by omega), by rw [A9]; exact he, by omega, Nat.le_refl _⟩, hN, D, fun q hq => ?_⟩
    · rw [a9, c5]
      rfl
    · rw [st5 _ (by omega) (by omega), f4 _ (by omega) (by omega), f3 _ (by omega) (by omega), f2 _ (by omega) (by omega), f1 _ (by omega) (by omega)]
