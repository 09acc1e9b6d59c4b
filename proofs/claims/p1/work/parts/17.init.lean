/-! a new object, a new reference -/
section YI
theorem y_ln (w : xWd) : f_Jx4a65c_init_da8c8 w.2.1 (xk_nw w 4 xf_4) = some (va_up w.1 w.2.1 (some (.inr (4, [.int 0, .ref w.2.2.1, .int 0]))), w.2.1 + 1, w.2.2) := by
  unfold f_Jx4a65c_init_da8c8 f_Jxc12de_init_da8c8 f_Jxa1e45_init_da8c8 xk_nw
  rw [Option.bind_some, xk_nw_pV (by simp [xf_4]), Option.bind_some, Option.bind_some, xk_nw_pV (by simp [xf_4]), Option.bind_some]
  rfl
/-- a new list into a field -/
theorem y_li {w : xWd} {p k r ci : Nat} {fs : List Value} (hr : w.2.1 = r) (h : w.1 p = some (.inr (ci, fs))) (hp : p < w.2.1) (hk : k < fs.length) : ∃ w' : xWd, (∀ F : xWd → Option xWd, (some (xk_nw w 4 xf_4)).bind (fun w1 => (f_Jx4a65c_init_da8c8 r w1).bind (fun q2 => (xk_pV q2 (some p) ci k (va_rf (some r))).bind F)) = F w') ∧ w'.1 p = some (.inr (ci, fs.set k (.ref r))) ∧ w'.1 r = some (.inr (4, [.int 0, .ref w.2.2.1, .int 0])) ∧ w'.2 = (r + 1, w.2.2) ∧ ∀ q, q ≠ p → q < r → w'.1 q = w.1 q := by
  subst hr
  have k1 : (va_up w.1 w.2.1 (some (.inr (4, [.int 0, .ref w.2.2.1, .int 0]))) : Nat → Option xE) p = some (.inr (ci, fs)) := (xk_up_n _ _ (Nat.ne_of_lt hp)).trans h
  obtain ⟨w', a1, a2, a3, a4⟩ := y_pv (β := xWd) (w := (va_up w.1 w.2.1 (some (.inr (4, [.int 0, .ref w.2.2.1, .int 0]))), w.2.1 + 1, w.2.2)) (v := va_rf (some w.2.1)) k1 hk
  refine ⟨w', fun F => ?_, a2, (a4 _ (Nat.ne_of_gt hp)).trans (xk_up_s _ _ _), a3, fun q hq hl => (a4 q hq).trans (xk_up_n _ _ (Nat.ne_of_lt hl))⟩
  rw [Option.bind_some, y_ln, Option.bind_some]
  exact a1 F
/-- a new row into a field -/
theorem y_ar {w : xWd} {p ci k n r kd cap : Nat} {N : Int32} {fs : List Value} (hr : w.2.1 = r) (h : w.1 p = some (.inr (ci, fs))) (hp : p < w.2.1) (hk : k < fs.length) (h0 : ¬ N < 0) (h1 : N.toNatClampNeg = n) (h2 : n ≤ cap) : ∃ w' : xWd, (∀ F : xWd → Option xWd, (xk_nA w kd xk_d0 N cap).bind (fun w7 => (xk_pV w7 (some p) ci k (va_rf (some r))).bind F) = F w') ∧ w'.1 p = some (.inr (ci, fs.set k (.ref r))) ∧ w'.1 r = some (.inl (kd, n, .inl (fun _ => 0))) ∧ w'.2 = (r + 1, w.2.2) ∧ ∀ q, q ≠ p → q < r → w'.1 q = w.1 q := by
  subst hr
  have e : xk_nA w kd xk_d0 N cap = some (va_up w.1 w.2.1 (some (.inl (kd, n, .inl (fun _ => 0)))), w.2.1 + 1, w.2.2) := by
    unfold xk_nA
    rw [if_neg h0, h1, if_pos h2]
  have k1 : (va_up w.1 w.2.1 (some (.inl (kd, n, .inl (fun _ => 0))) : Option xE)) p = some (.inr (ci, fs)) := (xk_up_n _ _ (Nat.ne_of_lt hp)).trans h
  obtain ⟨w', a1, a2, a3, a4⟩ := y_pv (β := xWd) (w := (va_up w.1 w.2.1 (some (.inl (kd, n, .inl (fun _ => 0)))), w.2.1 + 1, w.2.2)) (v := va_rf (some w.2.1)) k1 hk
  exact ⟨w', fun F => by rw [e, Option.bind_some]; exact a1 F, a2, (a4 _ (Nat.ne_of_gt hp)).trans (xk_up_s _ _ _), a3, fun q hq hl => (a4 q hq).trans (xk_up_n _ _ (Nat.ne_of_lt hl))⟩
theorem y_X2i (w : xWd) : ∃ w' : xWd, f_X2_init w.2.1 (xk_nw w 3 xf_3) = some w' ∧ w'.2 = (w.2.1 + 3, w.2.2) ∧ ∀ q, q < w.2.1 → w'.1 q = w.1 q := by
  obtain ⟨w0, e0⟩ : ∃ w0 : xWd, w0 = xk_nw w 3 xf_3 := ⟨_, rfl⟩
  have c0 : w0.1 w.2.1 = some (.inr (3, xf_3)) := by rw [e0]; exact xk_up_s _ _ _
  have s0 : w0.2 = (w.2.1 + 1, w.2.2) := by rw [e0]; rfl
  have q0 : ∀ q, q < w.2.1 → w0.1 q = w.1 q := fun q hq => by rw [e0]; exact xk_up_n _ _ (Nat.ne_of_lt hq)
  have n0 : w0.2.1 = w.2.1 + 1 := by rw [s0]
  obtain ⟨w1, f1, g1, -, s1, q1⟩ := y_li (k := 0) rfl c0 (by omega) (by simp [xf_3])
  have n1 : w1.2.1 = w.2.1 + 2 := by rw [s1]; show w0.2.1 + 1 = _; omega
  obtain ⟨w2, f2, g2, -, s2, q2⟩ := y_ar (k := 2) (kd := 0) (cap := 360) (n := 360) (N := 360) rfl g1 (by omega) (by simp [xf_3]) (by decide) (by decide) (by decide)
  have n2 : w2.2.1 = w.2.1 + 3 := by rw [s2]; show w1.2.1 + 1 = _; omega
  refine ⟨w2, ?_, ?_, fun q hq => (q2 q (by omega) (by omega)).trans ((q1 q (by omega) (by omega)).trans (q0 q hq))⟩
  · rw [← e0]
    unfold f_X2_init
    rw [f1, f2]
  · rw [s2, n1, s1, s0]
theorem y_X4i {w : xWd} {z : Nat} (hz : w.2.1 = z) (he : w.2.2.1 < z) : ∃ w' : xWd, f_X4_init z (xk_nw w 0 xf_0) = some w' ∧ yXW z w' ∧ w'.2 = (z + 10, w.2.2) ∧ ∀ q, q < z → w'.1 q = w.1 q := by
  subst hz
  obtain ⟨w0, e0⟩ : ∃ w0 : xWd, w0 = xk_nw w 0 xf_0 := ⟨_, rfl⟩
  obtain ⟨z, hz⟩ : ∃ z, z = w.2.1 := ⟨_, rfl⟩
  have c0 : w0.1 z = some (.inr (0, xf_0)) := by rw [e0, hz]; exact xk_up_s _ _ _
  have s0 : w0.2 = (z + 1, w.2.2) := by rw [e0, hz]; rfl
  have q0 : ∀ q, q < z → w0.1 q = w.1 q := fun q hq => by rw [e0]; exact xk_up_n _ _ (by omega)
  have n0 : w0.2.1 = z + 1 := by rw [s0]
  obtain ⟨w1, f1, g1, a1, s1, q1⟩ := y_li (k := 0) n0 c0 (by omega) (by simp [xf_0])
  have n1 : w1.2.1 = z + 2 := by rw [s1]
  obtain ⟨w2, f2, g2, a2, s2, q2⟩ := y_ar (k := 1) (kd := 0) (cap := 64) (n := 4) (N := 4) n1 g1 (by omega) (by simp [xf_0]) (by decide) (by decide) (by decide)
  have n2 : w2.2.1 = z + 3 := by rw [s2]
  obtain ⟨w3, f3, g3, a3, s3, q3⟩ := y_li (k := 3) n2 g2 (by omega) (by simp [xf_0])
  have n3 : w3.2.1 = z + 4 := by rw [s3]
  obtain ⟨w4, f4, g4, a4, s4, q4⟩ := y_li (k := 4) n3 g3 (by omega) (by simp [xf_0])
  have n4 : w4.2.1 = z + 5 := by rw [s4]
  obtain ⟨w5, f5, g5, s5, q5⟩ := y_pv (β := xWd) (k := 5) (v := .int (2400 : Int32)) g4 (by simp [xf_0])
  have n5 : w5.2.1 = z + 5 := by rw [s5]; exact n4
  obtain ⟨w6, f6, s6, q6⟩ := y_X2i w5
  have n6 : w6.2.1 = z + 8 := by rw [s6]; show w5.2.1 + 3 = _; omega
  obtain ⟨w7, f7, g7, s7, q7⟩ := y_pv (β := xWd) (k := 10) (v := va_rf (some w5.2.1)) ((q6 z (by omega)).trans g5) (by simp [xf_0])
  have n7 : w7.2.1 = z + 8 := by rw [s7]; exact n6
  obtain ⟨w8, f8, g8, -, s8, q8⟩ := y_ar (k := 11) (kd := 0) (cap := 64) (n := 63) (N := 63) n7 g7 (by omega) (by simp [xf_0]) (by decide) (by decide) (by decide)
  have n8 : w8.2.1 = z + 9 := by rw [s8]
  obtain ⟨w9, f9, g9, -, s9, q9⟩ := y_ar (k := 12) (kd := 1) (cap := 64) (n := 12) (N := 12) n8 g8 (by omega) (by simp [xf_0]) (by decide) (by decide) (by decide)
  have c : w9.2.2 = w.2.2 := by rw [s9]; show w8.2.2 = _; rw [s8]; show w7.2.2 = _; rw [s7, s6]; show w5.2.2 = _; rw [s5, s4]; show w3.2.2 = _; rw [s3]; show w2.2.2 = _; rw [s2]; show w1.2.2 = _; rw [s1]; show w0.2.2 = _; rw [s0]
  have cE : w9.2.2.1 = w.2.2.1 := by rw [c]
  have ce : ∀ wi : xWd, wi.2.2 = w.2.2 → wi.2.2.1 = w.2.2.1 := fun wi h => by rw [h]
  have t0 : w0.2.2 = w.2.2 := by rw [s0]
  have t1 : w1.2.2 = w.2.2 := by rw [s1]; exact t0
  have t2 : w2.2.2 = w.2.2 := by rw [s2]; exact t1
  have t3 : w3.2.2 = w.2.2 := by rw [s3]; exact t2
  have up : ∀ q, q ≠ z → q < z + 5 → w9.1 q = w4.1 q := fun q h1 h2 => (q9 q h1 (by omega)).trans ((q8 q h1 (by omega)).trans ((q7 q h1).trans ((q6 q (by omega)).trans (q5 q h1))))
  refine ⟨w9, ?_, ⟨?_, ?_, ?_, ?_, ?_⟩, ?_, fun q hq => ?_⟩
  · rw [← e0, ← hz]
    unfold f_X4_init
    rw [n0, f1, n1, f2, n2, f3, n3, f4, f5, Option.bind_some, f6, Option.bind_some, f7, n7, f8, n8, f9]
  · rw [← hz, g9, n5]
    rfl
  · unfold yEm
    rw [← hz, up _ (by omega) (by omega), q4 _ (by omega) (by omega), q3 _ (by omega) (by omega), q2 _ (by omega) (by omega), a1, cE, ce _ t0]
  · unfold yEm
    rw [← hz, up _ (by omega) (by omega), q4 _ (by omega) (by omega), a3, cE, ce _ t2]
  · unfold yEm
    rw [← hz, up _ (by omega) (by omega), a4, cE, ce _ t3]
  · rw [← hz, up _ (by omega) (by omega), q4 _ (by omega) (by omega), q3 _ (by omega) (by omega), a2]
  · rw [← hz, ← c, s9]
  · exact (up q (by omega) (by omega)).trans ((q4 q (by omega) (by omega)).trans ((q3 q (by omega) (by omega)).trans ((q2 q (by omega) (by omega)).trans ((q1 q (by omega) (by omega)).trans (q0 q (by omega))))))
theorem y_X8i {w : xWd} {m : Nat} (hz : w.2.1 = m) : ∃ w' : xWd, f_X8_init m (xk_nw w 5 xf_5) = some w' ∧ (∀ z, m = z + 10 → w'.1 (z + 10) = some (.inr (5, yMf z 0)) ∧ yEm w' (z + 11) ∧ yEm w' (z + 12) ∧ yEm w' (z + 13) ∧ yEm w' (z + 14)) ∧ w'.2 = (m + 5, w.2.2) ∧ ∀ q, q < m → w'.1 q = w.1 q := by
  obtain ⟨w0, e0⟩ : ∃ w0 : xWd, w0 = xk_nw w 5 xf_5 := ⟨_, rfl⟩
  have c0 : w0.1 m = some (.inr (5, xf_5)) := by rw [e0, ← hz]; exact xk_up_s _ _ _
  have s0 : w0.2 = (m + 1, w.2.2) := by rw [e0, ← hz]; rfl
  have q0 : ∀ q, q < m → w0.1 q = w.1 q := fun q hq => by rw [e0]; exact xk_up_n _ _ (by omega)
  obtain ⟨w1, f1, g1, s1, q1⟩ := y_pv (β := xWd) (k := 1) (v := .int (2400 : Int32)) c0 (by simp [xf_5])
  have n1 : w1.2.1 = m + 1 := by rw [s1, s0]
  obtain ⟨w2, f2, g2, a2, s2, q2⟩ := y_li (k := 3) n1 g1 (by omega) (by simp [xf_5])
  have n2 : w2.2.1 = m + 2 := by rw [s2]
  obtain ⟨w3, f3, g3, a3, s3, q3⟩ := y_li (k := 4) n2 g2 (by omega) (by simp [xf_5])
  have n3 : w3.2.1 = m + 3 := by rw [s3]
  obtain ⟨w4, f4, g4, a4, s4, q4⟩ := y_li (k := 5) n3 g3 (by omega) (by simp [xf_5])
  have n4 : w4.2.1 = m + 4 := by rw [s4]
  obtain ⟨w5, f5, g5, a5, s5, q5⟩ := y_li (k := 6) n4 g4 (by omega) (by simp [xf_5])
  have t1 : w1.2.2 = w.2.2 := by rw [s1, s0]
  have t2 : w2.2.2 = w.2.2 := by rw [s2]; exact t1
  have t3 : w3.2.2 = w.2.2 := by rw [s3]; exact t2
  have t4 : w4.2.2 = w.2.2 := by rw [s4]; exact t3
  have t5 : w5.2.2 = w.2.2 := by rw [s5]; exact t4
  have ce : ∀ wi : xWd, wi.2.2 = w.2.2 → wi.2.2.1 = w.2.2.1 := fun wi h => by rw [h]
  refine ⟨w5, ?_, fun z h => ?_, by rw [← t5, s5], fun q hq => (q5 q (by omega) (by omega)).trans ((q4 q (by omega) (by omega)).trans ((q3 q (by omega) (by omega)).trans ((q2 q (by omega) (by omega)).trans ((q1 q (by omega)).trans (q0 q hq)))))⟩
  · rw [← e0]
    unfold f_X8_init
    rw [f1, n1, f2, n2, f3, n3, f4, n4, f5]
  · subst h
    refine ⟨?_, ?_, ?_, ?_, ?_⟩
    · rw [g5]
      rfl
    · unfold yEm
      rw [q5 _ (by omega) (by omega), q4 _ (by omega) (by omega), q3 _ (by omega) (by omega), a2, ce _ t5, ce _ t1]
    · unfold yEm
      rw [q5 _ (by omega) (by omega), q4 _ (by omega) (by omega), a3, ce _ t5, ce _ t2]
    · unfold yEm
      rw [q5 _ (by omega) (by omega), a4, ce _ t5, ce _ t3]
    · unfold yEm
      rw [a5, ce _ t5, ce _ t4]
end YI
