/-! the calls that do something on a fresh object -/
section YP
variable {z : Nat} {t : Int32} {v : Int64} {w : xWd}
theorem y_sz1 {w : xWd} {a r : Nat} (h : w.1 a = some (.inr (4, [.int 1, .ref r, .int 1]))) : xk_is w (some a) 4 = some () ∧ f_Jx4a65c_size_8abf5 (some a) w = some (1, w) := by
  refine ⟨xr_is h, ?_⟩
  unfold f_Jx4a65c_size_8abf5
  rw [xr_gI (k := 2) h rfl]
  rfl
theorem y_X1i (x1 x2 : Int32) (w : xWd) : f_X1_init w.2.1 x1 x2 (xk_nw w 2 xf_2) = some (va_up w.1 w.2.1 (some (.inr (2, [.int x1, .int x2, .int 0]))), w.2.1 + 1, w.2.2) := by
  unfold f_X1_init xk_nw
  rw [xk_nw_pV (by simp [xf_2]), Option.bind_some, xk_nw_pV (by simp [xf_2]), Option.bind_some]
  rfl
theorem y_X6i (x1 x2 : Int32) (w : xWd) : f_X6_init w.2.1 x1 x2 (xk_nw w 7 xf_7) = some (va_up w.1 w.2.1 (some (.inr (7, [.int x1, .int x2, .int 0]))), w.2.1 + 1, w.2.2) := by
  unfold f_X6_init xk_nw
  rw [xk_nw_pV (by simp [xf_7]), Option.bind_some, xk_nw_pV (by simp [xf_7]), Option.bind_some]
  rfl
/-- what is new goes into a list of the class: nothing else changes -/
theorem y_addX {w0 : xWd} (hx : yXW z w) (hm : yMW z t w) (hk : yKp w w0) {a v0 ci : Nat} {fs : List Value} (ha : a = z + 1 ∨ a = z + 3 ∨ a = z + 4) (hv : w0.1 v0 = some (.inr (ci, fs))) (hv0 : w.2.1 ≤ v0) (hv1 : v0 < w0.2.1) :
    ∃ w1 : xWd, f_Jx4a65c_add_9ea2d (some a) (some v0) w0 = some (1, w1) ∧ w1.1 z = w.1 z ∧ xk_is w1 (some a) 4 = some () ∧ f_Jx4a65c_size_8abf5 (some a) w1 = some (1, w1) ∧ w1.1 v0 = some (.inr (ci, fs)) ∧ yCl z w w1 ∧ w1.1 (z + 15) = w.1 (z + 15) := by
  have hz := hm.2.2.2.2.2.2.2
  have he := hm.2.2.2.2.2.2.1
  have hx0 := hx.kp hk hz
  have hm0 := hm.kp hk
  have hem : yEm w0 a := by
    rcases ha with rfl | rfl | rfl
    · exact hx0.2.1
    · exact hx0.2.2.1
    · exact hx0.2.2.2.1
  have k1 := hk.1
  have k2 : w0.2.2 = w.2.2 := hk.2.1
  have k3 : w0.2.2.1 = w.2.2.1 := by rw [k2]
  obtain ⟨w1, e1, e2, e3, e4⟩ := y_add (v := v0) hem hm0.2.2.2.2.2.1 (by omega) (by omega) (fun w' _ hq => xr_any ((hq v0 (by omega) hv1).trans hv))
  refine ⟨w1, e1, ?_, (y_sz1 e2).1, (y_sz1 e2).2, (e4 v0 (by omega) hv1).trans hv, ⟨?_, ?_, ?_⟩, ?_⟩
  · exact (e4 z (by omega) (by omega)).trans (hk.2.2 z (by omega))
  · rw [e3]; show w.2.1 ≤ w0.2.1 + 1; omega
  · rw [e3]; exact k2
  · exact fun q hq => (e4 q (by omega) (by omega)).trans (hk.2.2 q (by omega))
  · exact (e4 _ (by omega) (by omega)).trans (hk.2.2 _ (by omega))
/-- .. and of the reference -/
theorem y_addM {w0 : xWd} (hm : yMW z t w) (hk : yKp w w0) {a v0 : Nat} (ha : a = z + 11 ∨ a = z + 12 ∨ a = z + 13) (hv : ∀ w' : xWd, w'.2.2 = w0.2.2 → (∀ q, q ≠ a → q < w0.2.1 → w'.1 q = w0.1 q) → xk_any w' (some v0) = some ()) :
    ∃ w1 : xWd, f_Jx4a65c_add_9ea2d (some a) (some v0) w0 = some (1, w1) ∧ w1.1 (z + 10) = some (.inr (5, yMf z t)) ∧ xk_is w1 (some a) 4 = some () ∧ f_Jx4a65c_size_8abf5 (some a) w1 = some (1, w1) ∧ yMo z w w1 := by
  have hz := hm.2.2.2.2.2.2.2
  have he := hm.2.2.2.2.2.2.1
  have hm0 := hm.kp hk
  have hem : yEm w0 a := by
    rcases ha with rfl | rfl | rfl
    · exact hm0.2.1
    · exact hm0.2.2.1
    · exact hm0.2.2.2.1
  have k1 := hk.1
  have k3 : w0.2.2.1 = w.2.2.1 := by rw [hk.2.1]
  obtain ⟨w1, e1, e2, e3, e4⟩ := y_add (v := v0) hem hm0.2.2.2.2.2.1 (by omega) (by omega) hv
  refine ⟨w1, e1, (e4 _ (by omega) (by omega)).trans hm0.1, (y_sz1 e2).1, (y_sz1 e2).2, fun q hq => (e4 q (by omega) (by omega)).trans (hk.2.2 q (by omega))⟩
theorem yMf_r {w1 : xWd} (h : w1.1 (z + 10) = some (.inr (5, yMf z t))) : xk_gR w1 (some (z + 10)) 5 3 = some (some (z + 11)) ∧ xk_gR w1 (some (z + 10)) 5 4 = some (some (z + 12)) ∧ xk_gR w1 (some (z + 10)) 5 5 = some (some (z + 13)) :=
  ⟨xr_gR (k := 3) h rfl, xr_gR (k := 4) h rfl, xr_gR (k := 5) h rfl⟩
theorem yXf_r {w1 : xWd} (hx : yXW z w) (h : w1.1 z = w.1 z) : xk_gR w1 (some z) 0 0 = some (some (z + 1)) ∧ xk_gR w1 (some z) 0 3 = some (some (z + 3)) ∧ xk_gR w1 (some z) 0 4 = some (some (z + 4)) :=
  ⟨xr_gR (k := 0) (h.trans hx.1) rfl, xr_gR (k := 3) (h.trans hx.1) rfl, xr_gR (k := 4) (h.trans hx.1) rfl⟩
theorem y_hit (hx : yXW z w) (hm : yMW z t w) (ho : yOW z v w) (x1 x2 : Int32) : yOK z w (f_L_hit (some z) x1 x2 (some (z + 15)) w) (f_X8_hit (some (z + 10)) x1 x2) := by
  have hmB := hm.kp (yKp.bp w)
  have l1 := y_ls 2399 2400 (by decide) x1
  have no : (x1 < 0 ∨ 2400 ≤ x1 ∨ x2 < 0 ∨ ¬ x2 ≤ 9) → yOK z w (f_L_hit (some z) x1 x2 (some (z + 15)) w) (f_X8_hit (some (z + 10)) x1 x2) := by
    intro c
    have eF : f_X4_hit (some z) x1 x2 w = none := by
      unfold f_X4_hit f_X4_hit_22
      rw [(yxf hx).2.2.2.2.2.2.2.1, Option.bind_some]
      rcases c with c | c | c | c <;> simp [c]
    have eE : e_X4_hit (some z) x1 x2 w = some (0, yBp w) := by
      unfold e_X4_hit e_X4_hit_22
      rw [(yxf hx).2.2.2.2.2.2.2.1, Option.bind_some]
      by_cases c1 : x1 < 0
      · rw [if_pos c1]; rfl
      · rw [if_neg c1]
        by_cases c2 : (2400 : Int32) ≤ x1
        · rw [if_pos c2]; rfl
        · rw [if_neg c2]
          by_cases c3 : x2 < 0
          · rw [if_pos c3]; rfl
          · rw [if_neg c3, if_neg (by rcases c with c | c | c | c; exact absurd c c1; exact absurd c c2; exact absurd c c3; exact c)]; rfl
    have eM : f_X8_hit (some (z + 10)) x1 x2 (yBp w) = some (0, yTh z 1 (yBp w)) := by
      have e30 : f_X8_hit_30 (some (z + 10)) x1 x2 1 (some (z + 10)) (yBp w) = some (0, yTh z 1 (yBp w)) := by
        simp [f_X8_hit_30, f_X8_hit_62, ymf hmB, y_start1 hmB]
      unfold f_X8_hit f_X8_hit_25
      simp only [ymf hmB, Option.bind_some, y_isIn]
      simp only [show (2400 : Int32) - 1 = 2399 by decide, l1]
      by_cases c1 : x1 < 0
      · rw [if_pos c1, if_pos rfl]; exact e30
      · rw [if_neg c1]
        by_cases c2 : (2400 : Int32) ≤ x1
        · rw [if_pos c2, if_pos rfl]; exact e30
        · rw [if_neg c2, if_neg (by decide)]
          by_cases c3 : x2 < 0
          · rw [if_pos c3, if_pos rfl]; exact e30
          · rw [if_neg c3, if_pos (Int32.not_le.mp (by rcases c with c | c | c | c; exact absurd c c1; exact absurd c c2; exact absurd c c3; exact c)), if_pos rfl]; exact e30
    exact yOK_no (k := 1) (by simp [f_L_hit, yxf hx, eF, eE, xk_or]) eM hm (by decide)
  by_cases c1 : x1 < 0
  · exact no (Or.inl c1)
  by_cases c2 : (2400 : Int32) ≤ x1
  · exact no (Or.inr (Or.inl c2))
  by_cases c3 : x2 < 0
  · exact no (Or.inr (Or.inr (Or.inl c3)))
  by_cases c4 : x2 ≤ 9
  case neg => exact no (Or.inr (Or.inr (Or.inr c4)))
  -- the class
  have hk1 : yKp w (va_up w.1 w.2.1 (some (.inr (2, [.int x1, .int x2, .int 0]))), w.2.1 + 1, w.2.2) := yKp.nw w _
  obtain ⟨w1, a1, a2, a3, a4, a5, a6, a7⟩ := y_addX hx hm hk1 (a := z + 1) (Or.inl rfl) (xk_up_s _ _ _) (Nat.le_refl _) (Nat.lt_succ_self _)
  have eF : f_X4_hit (some z) x1 x2 w = some (0, w1) := by
    unfold f_X4_hit
    have hx1 := hx.kp hk1 hm.2.2.2.2.2.2.2
    simp only [if_neg c1, if_neg c2, if_neg c3, if_pos c4, yxf hx, Option.bind_some, show ((0 : Int32) < 12) = True by decide, if_true, y_X1i, yxf hx1, a1, a3, a4, yXf_r hx a2]
    rfl
  obtain ⟨wA, b1, b2, b3⟩ := y_wrap eF a6 a7 ho
  have hmA := hm.cl b2
  -- the reference
  have m0 : yMW z 0 (yTh z 0 wA) := hmA.th
  have hk2 : yKp (yTh z 0 wA) (va_up (yTh z 0 wA).1 (yTh z 0 wA).2.1 (some (.inr (7, [.int x1, .int x2, .int 0]))), (yTh z 0 wA).2.1 + 1, (yTh z 0 wA).2.2) := yKp.nw _ _
  obtain ⟨w2, d1, d2, d3, d4, d5⟩ := y_addM m0 hk2 (a := z + 11) (v0 := (yTh z 0 wA).2.1) (Or.inl rfl) (fun w' _ hq => xr_any ((hq _ (by have := m0.2.2.2.2.2.2.2; omega) (Nat.lt_succ_self _)).trans (xk_up_s _ _ _)))
  have m2 := m0.kp hk2
  have eM : f_X8_hit (some (z + 10)) x1 x2 wA = some (0, w2) := by
    unfold f_X8_hit f_X8_hit_30 f_X8_hit_55
    simp only [ymf hmA, Option.bind_some, y_isIn, show (2400 : Int32) - 1 = 2399 by decide, l1, if_neg c1, if_neg c2, if_neg c3, show ((9 : Int32) < x2) = False from eq_false (Int32.not_lt.mpr c4), if_false, show ((1 : Int32) = 0) = False by decide, y_start0 hmA, ymf m0, if_true, show ((0 : Int32) = 12) = False by decide, y_refuse0 m0, y_X6i, ymf m2, d1, d3, d4, yMf_r d2]
    rfl
  exact ⟨0, wA, 0, w2, _, by unfold f_L_hit; rw [(yxf hx).1, Option.bind_some]; exact b1 _, b2, eM, d2, (yMo.th z 0 wA).tr d5, fun _ => b3⟩
end YP
