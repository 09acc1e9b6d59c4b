/-! reads by what the cells hold; a fresh book, a fresh reference -/
theorem xr_gI {w : xWd} {a ci k : Nat} {fs : List Value} {v : Int32} (h : w.1 a = some (.inr (ci, fs))) (hk : fs[k]? = some (.int v)) : xk_gI w (some a) ci k = some v := by
  simp [xk_gI, xk_obj, h, hk, xk_vI]
theorem xr_gR {w : xWd} {a ci k : Nat} {fs : List Value} {v : Nat} (h : w.1 a = some (.inr (ci, fs))) (hk : fs[k]? = some (.ref v)) : xk_gR w (some a) ci k = some (some v) := by
  simp [xk_gR, xk_obj, h, hk, xk_vR]
theorem xr_is {w : xWd} {a ci : Nat} {fs : List Value} (h : w.1 a = some (.inr (ci, fs))) : xk_is w (some a) ci = some () := by
  simp [xk_is, xk_obj, h]
theorem xr_pV {w : xWd} {a ci k : Nat} {fs : List Value} {v : Value} (h : w.1 a = some (.inr (ci, fs))) (hk : k < fs.length) : xk_pV w (some a) ci k v = some (va_up w.1 a (some (.inr (ci, fs.set k v))), w.2) := by
  simp [xk_pV, xk_obj, h, hk]
theorem xr_len {w : xWd} {a k n : Nat} {d : vp_A} (h : w.1 a = some (.inl (k, n, d.2))) (hk : k < xk_nk) : xk_len w (some a) = some (Int32.ofNat n) := by
  simp [xk_len, xk_arr, h, hk]
theorem xr_any {w : xWd} {a ci : Nat} {fs : List Value} (h : w.1 a = some (.inr (ci, fs))) : xk_any w (some a) = some () := by
  simp [xk_any, h]
theorem xk_up_s {α : Type} (f : Nat → α) (k : Nat) (v : α) : va_up f k v k = v := by simp [va_up]
theorem xk_up_n {α : Type} (f : Nat → α) {k j : Nat} (v : α) (h : j ≠ k) : va_up f k v j = f j := by simp [va_up, h]
abbrev yR0 : xE := .inl (3, 0, .inr (.inr (.inr (.inr (fun _ => none)))))
def yEm (w : xWd) (a : Nat) : Prop := w.1 a = some (.inr (4, [.int 0, .ref w.2.2.1, .int 0]))
/-- nothing that was there has changed -/
def yKp (w w1 : xWd) : Prop := w.2.1 ≤ w1.2.1 ∧ w1.2.2 = w.2.2 ∧ ∀ q, q < w.2.1 → w1.1 q = w.1 q
theorem yKp.rf (w : xWd) : yKp w w := ⟨Nat.le_refl _, rfl, fun _ _ => rfl⟩
theorem yKp.tr {w w1 w2 : xWd} (h : yKp w w1) (g : yKp w1 w2) : yKp w w2 := ⟨Nat.le_trans h.1 g.1, g.2.1.trans h.2.1, fun q hq => (g.2.2 q (Nat.lt_of_lt_of_le hq h.1)).trans (h.2.2 q hq)⟩
def yBp (w : xWd) : xWd := (w.1, w.2.1 + 1, w.2.2)
theorem yKp.bp (w : xWd) : yKp w (yBp w) := ⟨Nat.le_succ _, rfl, fun _ _ => rfl⟩
/-- a new cell -/
theorem yKp.nw (w : xWd) (x : Option xE) : yKp w (va_up w.1 w.2.1 x, w.2.1 + 1, w.2.2) := ⟨Nat.le_succ _, rfl, fun q hq => xk_up_n _ _ (Nat.ne_of_lt hq)⟩
/-- a cell that is new since w is written -/
theorem yKp.up {w w1 : xWd} (h : yKp w w1) {a : Nat} (ha : w.2.1 ≤ a) (x : Option xE) : yKp w (va_up w1.1 a x, w1.2) := ⟨h.1, h.2.1, fun q hq => (xk_up_n _ _ (by omega)).trans (h.2.2 q hq)⟩
def yMf (z : Nat) (t : Int32) : List Value := [.int t, .int 2400, .int 0, .ref (z + 11), .ref (z + 12), .ref (z + 13), .ref (z + 14), .int 0, .int 0, .int 0]
/-- the reference, fresh, with 'thrown' t -/
def yMW (z : Nat) (t : Int32) (w : xWd) : Prop := w.1 (z + 10) = some (.inr (5, yMf z t)) ∧ yEm w (z + 11) ∧ yEm w (z + 12) ∧ yEm w (z + 13) ∧ yEm w (z + 14) ∧ w.1 w.2.2.1 = some yR0 ∧ w.2.2.1 < z ∧ z + 16 ≤ w.2.1
/-- the class, fresh -/
def yXW (z : Nat) (w : xWd) : Prop := w.1 z = some (.inr (0, [.ref (z + 1), .ref (z + 2), .int 0, .ref (z + 3), .ref (z + 4), .int 2400, .int 0, .int 0, .int 0, .int 0, .ref (z + 5), .ref (z + 8), .ref (z + 9)])) ∧ yEm w (z + 1) ∧ yEm w (z + 3) ∧ yEm w (z + 4) ∧ w.1 (z + 2) = some (.inl (0, 4, .inl (fun _ => 0)))
/-- the row of the answer -/
def yOW (z : Nat) (v : Int64) (w : xWd) : Prop := ∃ g : Nat → Int64, w.1 (z + 15) = some (.inl (5, 1, .inr (.inl g))) ∧ g 0 = v
theorem yEm.kp {w w1 : xWd} {a : Nat} (h : yEm w a) (k : yKp w w1) (ha : a < w.2.1) : yEm w1 a := by
  unfold yEm
  rw [k.2.2 a ha, k.2.1]
  exact h
theorem yMW.kp {z : Nat} {t : Int32} {w w1 : xWd} (h : yMW z t w) (k : yKp w w1) : yMW z t w1 := by
  obtain ⟨h1, h2, h3, h4, h5, h6, h7, h8⟩ := h
  refine ⟨(k.2.2 _ (by omega)).trans h1, h2.kp k (by omega), h3.kp k (by omega), h4.kp k (by omega), h5.kp k (by omega), ?_, ?_, Nat.le_trans h8 k.1⟩
  · rw [k.2.1]
    exact (k.2.2 _ (by omega)).trans h6
  · rw [k.2.1]
    exact h7
theorem yXW.kp {z : Nat} {w w1 : xWd} (h : yXW z w) (k : yKp w w1) (hz : z + 16 ≤ w.2.1) : yXW z w1 := by
  obtain ⟨h1, h2, h3, h4, h5⟩ := h
  exact ⟨(k.2.2 _ (by omega)).trans h1, h2.kp k (by omega), h3.kp k (by omega), h4.kp k (by omega), (k.2.2 _ (by omega)).trans h5⟩
theorem yOW.kp {z : Nat} {v : Int64} {w w1 : xWd} (h : yOW z v w) (k : yKp w w1) (hz : z + 16 ≤ w.2.1) : yOW z v w1 := by
  obtain ⟨g, h1, h2⟩ := h
  exact ⟨g, (k.2.2 _ (by omega)).trans h1, h2⟩
/-- the reference with another 'thrown' -/
def yTh (z : Nat) (t : Int32) (w : xWd) : xWd := (va_up w.1 (z + 10) (some (.inr (5, yMf z t))), w.2)
theorem yTh_n {z : Nat} {t : Int32} {w : xWd} {q : Nat} (h : q ≠ z + 10) : (yTh z t w).1 q = w.1 q := xk_up_n _ _ h
theorem yTh_th (z : Nat) (t t' : Int32) (w : xWd) : yTh z t (yTh z t' w) = yTh z t w := by
  show (va_up (va_up w.1 (z + 10) _) (z + 10) _, w.2) = _
  rw [bx_uu]
  rfl
theorem yMW.th {z : Nat} {t t' : Int32} {w : xWd} (h : yMW z t w) : yMW z t' (yTh z t' w) := by
  obtain ⟨h1, h2, h3, h4, h5, h6, h7, h8⟩ := h
  exact ⟨xk_up_s _ _ _, (yTh_n (by omega)).trans h2, (yTh_n (by omega)).trans h3, (yTh_n (by omega)).trans h4, (yTh_n (by omega)).trans h5, (yTh_n (by show w.2.2.1 ≠ _; omega)).trans h6, h7, h8⟩
theorem yOW.th {z : Nat} {t : Int32} {v : Int64} {w : xWd} (h : yOW z v w) : yOW z v (yTh z t w) := by
  obtain ⟨g, h1, h2⟩ := h
  exact ⟨g, (yTh_n (by omega)).trans h1, h2⟩
theorem yem_f {w : xWd} {a : Nat} (h : yEm w a) : xk_is w (some a) 4 = some () ∧ f_Jx4a65c_size_8abf5 (some a) w = some (0, w) ∧ xk_gI w (some a) 4 0 = some 0 ∧ xk_gI w (some a) 4 2 = some 0 := by
  have g2 : xk_gI w (some a) 4 2 = some 0 := xr_gI (k := 2) h rfl
  refine ⟨xr_is h, ?_, xr_gI (k := 0) h rfl, g2⟩
  unfold f_Jx4a65c_size_8abf5
  rw [g2]
  rfl
/-- what is read of the class -/
theorem yxf {z : Nat} {w : xWd} (h : yXW z w) : xk_is w (some z) 0 = some () ∧ xk_gR w (some z) 0 0 = some (some (z + 1)) ∧ xk_gR w (some z) 0 1 = some (some (z + 2)) ∧ xk_gR w (some z) 0 3 = some (some (z + 3)) ∧ xk_gR w (some z) 0 4 = some (some (z + 4)) ∧ xk_gR w (some z) 0 10 = some (some (z + 5)) ∧ xk_gI w (some z) 0 2 = some 0 ∧ xk_gI w (some z) 0 5 = some 2400 ∧ xk_gI w (some z) 0 6 = some 0 ∧ xk_gI w (some z) 0 7 = some 0 ∧ xk_gI w (some z) 0 8 = some 0 ∧ xk_gI w (some z) 0 9 = some 0 ∧ xk_is w (some (z + 1)) 4 = some () ∧ f_Jx4a65c_size_8abf5 (some (z + 1)) w = some (0, w) ∧ xk_is w (some (z + 3)) 4 = some () ∧ f_Jx4a65c_size_8abf5 (some (z + 3)) w = some (0, w) ∧ xk_is w (some (z + 4)) 4 = some () ∧ f_Jx4a65c_size_8abf5 (some (z + 4)) w = some (0, w) :=
  ⟨xr_is h.1, xr_gR (k := 0) h.1 rfl, xr_gR (k := 1) h.1 rfl, xr_gR (k := 3) h.1 rfl, xr_gR (k := 4) h.1 rfl, xr_gR (k := 10) h.1 rfl, xr_gI (k := 2) h.1 rfl, xr_gI (k := 5) h.1 rfl, xr_gI (k := 6) h.1 rfl, xr_gI (k := 7) h.1 rfl, xr_gI (k := 8) h.1 rfl, xr_gI (k := 9) h.1 rfl, (yem_f h.2.1).1, (yem_f h.2.1).2.1, (yem_f h.2.2.1).1, (yem_f h.2.2.1).2.1, (yem_f h.2.2.2.1).1, (yem_f h.2.2.2.1).2.1⟩
/-- what is read of the reference -/
theorem ymf {z : Nat} {t : Int32} {w : xWd} (h : yMW z t w) : xk_is w (some (z + 10)) 5 = some () ∧ xk_gI w (some (z + 10)) 5 0 = some t ∧ xk_gI w (some (z + 10)) 5 1 = some 2400 ∧ xk_gI w (some (z + 10)) 5 2 = some 0 ∧ xk_gR w (some (z + 10)) 5 3 = some (some (z + 11)) ∧ xk_gR w (some (z + 10)) 5 4 = some (some (z + 12)) ∧ xk_gR w (some (z + 10)) 5 5 = some (some (z + 13)) ∧ xk_gR w (some (z + 10)) 5 6 = some (some (z + 14)) ∧ xk_gI w (some (z + 10)) 5 7 = some 0 ∧ xk_gI w (some (z + 10)) 5 8 = some 0 ∧ xk_gI w (some (z + 10)) 5 9 = some 0 ∧ xk_is w (some (z + 11)) 4 = some () ∧ f_Jx4a65c_size_8abf5 (some (z + 11)) w = some (0, w) ∧ xk_is w (some (z + 12)) 4 = some () ∧ f_Jx4a65c_size_8abf5 (some (z + 12)) w = some (0, w) ∧ xk_is w (some (z + 13)) 4 = some () ∧ f_Jx4a65c_size_8abf5 (some (z + 13)) w = some (0, w) ∧ xk_is w (some (z + 14)) 4 = some () ∧ f_Jx4a65c_size_8abf5 (some (z + 14)) w = some (0, w) :=
  ⟨xr_is h.1, xr_gI (k := 0) h.1 rfl, xr_gI (k := 1) h.1 rfl, xr_gI (k := 2) h.1 rfl, xr_gR (k := 3) h.1 rfl, xr_gR (k := 4) h.1 rfl, xr_gR (k := 5) h.1 rfl, xr_gR (k := 6) h.1 rfl, xr_gI (k := 7) h.1 rfl, xr_gI (k := 8) h.1 rfl, xr_gI (k := 9) h.1 rfl, (yem_f h.2.1).1, (yem_f h.2.1).2.1, (yem_f h.2.2.1).1, (yem_f h.2.2.1).2.1, (yem_f h.2.2.2.1).1, (yem_f h.2.2.2.1).2.1, (yem_f h.2.2.2.2.1).1, (yem_f h.2.2.2.2.1).2.1⟩
theorem ymp {z : Nat} {t : Int32} {w : xWd} (h : yMW z t w) (v : Int32) : xk_pV w (some (z + 10)) 5 0 (.int v) = some (yTh z v w) := (xr_pV (k := 0) h.1 (by simp [yMf])).trans rfl
theorem yzb : xk_zb 0 = some () ∧ xk_zb 1 = some () := ⟨by decide, by decide⟩
/-- one into an empty list -/
theorem y_add {w : xWd} {a v : Nat} (h : yEm w a) (hA : w.1 w.2.2.1 = some yR0) (ha : a < w.2.1) (he : w.2.2.1 < w.2.1) (hv : ∀ w' : xWd, w'.2.2 = w.2.2 → (∀ q, q ≠ a → q < w.2.1 → w'.1 q = w.1 q) → xk_any w' (some v) = some ()) :
    ∃ w' : xWd, f_Jx4a65c_add_9ea2d (some a) (some v) w = some (1, w') ∧ w'.1 a = some (.inr (4, [.int 1, .ref w.2.1, .int 1])) ∧ w'.2 = (w.2.1 + 1, w.2.2) ∧ ∀ q, q ≠ a → q < w.2.1 → w'.1 q = w.1 q := by
  have hne : w.2.2.1 ≠ a := by
    intro e
    rw [e] at hA
    cases h.symm.trans hA
  have hna : w.2.1 ≠ a := by omega
  obtain ⟨w2, e2⟩ : ∃ w2 : xWd, w2 = (va_up w.1 a (some (.inr (4, [.int 1, .ref w.2.2.1, .int 0]))), w.2) := ⟨_, rfl⟩
  have p1 : xk_pV w (some a) 4 0 (.int ((0 : Int32) + (1 : Int32))) = some w2 := by rw [e2]; exact (xr_pV (k := 0) h (by simp)).trans rfl
  have s2 : w2.2 = w.2 := by rw [e2]
  have k2 : w2.1 a = some (.inr (4, [.int 1, .ref w.2.2.1, .int 0])) := by rw [e2]; exact xk_up_s _ _ _
  have q2 : ∀ q, q ≠ a → w2.1 q = w.1 q := fun q hq => by rw [e2]; exact xk_up_n _ _ hq
  have r2 : w2.1 w.2.2.1 = some yR0 := (q2 _ hne).trans hA
  obtain ⟨w3, e3⟩ : ∃ w3 : xWd, w3 = (va_up w2.1 w.2.1 (some (.inl (2, 10, .inr (.inr (.inr (.inr (fun _ => none))))))), w.2.1 + 1, w.2.2) := ⟨_, rfl⟩
  have p3 : xk_nA w2 2 xk_dR (if (10 : Int32) < ((0 : Int32) + (1 : Int32)) then ((0 : Int32) + (1 : Int32)) else (10 : Int32)) 64 = some w3 := by
    rw [if_neg (by decide), e3]
    unfold xk_nA
    rw [if_neg (by decide), if_pos (by decide), s2]
    rfl
  have k3 : w3.1 a = some (.inr (4, [.int 1, .ref w.2.2.1, .int 0])) := by rw [e3]; exact (xk_up_n _ _ hna.symm).trans k2
  have n3 : w3.1 w.2.1 = some (.inl (2, 10, .inr (.inr (.inr (.inr (fun _ => none)))))) := by rw [e3]; exact xk_up_s _ _ _
  have q3 : ∀ q, q ≠ a → q < w.2.1 → w3.1 q = w.1 q := fun q hq hl => by rw [e3]; exact (xk_up_n _ _ (Nat.ne_of_lt hl)).trans (q2 q hq)
  obtain ⟨w4, e4⟩ : ∃ w4 : xWd, w4 = (va_up w3.1 a (some (.inr (4, [.int 1, .ref w.2.1, .int 0]))), w3.2) := ⟨_, rfl⟩
  have p4 : xk_pV w3 (some a) 4 1 (va_rf (some w.2.1)) = some w4 := by rw [e4]; exact (xr_pV (k := 1) k3 (by simp)).trans rfl
  have k4 : w4.1 a = some (.inr (4, [.int 1, .ref w.2.1, .int 0])) := by rw [e4]; exact xk_up_s _ _ _
  have n4 : w4.1 w.2.1 = some (.inl (2, 10, .inr (.inr (.inr (.inr (fun _ => none)))))) := by rw [e4]; exact (xk_up_n _ _ hna).trans n3
  have q4 : ∀ q, q ≠ a → q < w.2.1 → w4.1 q = w.1 q := fun q hq hl => by rw [e4]; exact (xk_up_n _ _ hq).trans (q3 q hq hl)
  have s4 : w4.2 = (w.2.1 + 1, w.2.2) := by rw [e4, e3]
  obtain ⟨w5, e5⟩ : ∃ w5 : xWd, w5 = (va_up w4.1 w.2.1 (some (.inl (2, 10, .inr (.inr (.inr (.inr (va_up (fun _ => none) 0 (some v)))))))), w4.2) := ⟨_, rfl⟩
  have p5 : xk_sR 2 w4 (some w.2.1) (0 : Int32) (some v) = some w5 := by
    rw [e5]
    simp only [xk_sR, xk_arr, n4, Option.bind_some]
    rw [if_pos ⟨trivial, by decide⟩]
    rfl
  have k5 : w5.1 a = some (.inr (4, [.int 1, .ref w.2.1, .int 0])) := by rw [e5]; exact (xk_up_n _ _ hna.symm).trans k4
  obtain ⟨w6, e6⟩ : ∃ w6 : xWd, w6 = (va_up w5.1 a (some (.inr (4, [.int 1, .ref w.2.1, .int 1]))), w5.2) := ⟨_, rfl⟩
  have p6 : xk_pV w5 (some a) 4 2 (.int ((0 : Int32) + (1 : Int32))) = some w6 := by rw [e6]; exact (xr_pV (k := 2) k5 (by simp)).trans rfl
  have an : xk_any w4 (some v) = some () := hv w4 (by rw [s4]) q4
  have L : xk_len w2 (some w.2.2.1) = some 0 := (xr_len (d := (0, .inr (.inr (.inr (.inr (fun _ => none)))))) r2 (by decide)).trans rfl
  have g1 : f_Jx4a65c_grow_92f84 (some a) ((0 : Int32) + (1 : Int32)) w2 = some (some w.2.1, w4) := by
    unfold f_Jx4a65c_grow_92f84
    rw [xr_gR (k := 1) k2 rfl, Option.bind_some, L, Option.bind_some, if_neg (by decide), Option.bind_some, if_pos (by rw [s2]), p3, Option.bind_some, s2, p4, Option.bind_some]
  have g2 : f_Jx4a65c_grow_d5877 (some a) w2 = some (some w.2.1, w4) := by
    unfold f_Jx4a65c_grow_d5877
    rw [xr_gI (k := 2) k2 rfl, Option.bind_some, xr_is k2, Option.bind_some, g1, Option.bind_some]
  have g3 : f_Jx4a65c_add_72be8 (some a) (some v) (some w.2.2.1) 0 w2 = some w6 := by
    unfold f_Jx4a65c_add_72be8 f_Jx4a65c_add_72be8_11
    rw [L, Option.bind_some, if_pos rfl, xr_is k2, Option.bind_some, g2, Option.bind_some]
    show (xk_any w4 (some v)).bind _ = _
    rw [an, Option.bind_some, p5, Option.bind_some, p6, Option.bind_some]
  refine ⟨w6, ?_, ?_, ?_, ?_⟩
  · unfold f_Jx4a65c_add_9ea2d
    rw [xr_gI (k := 0) h rfl, Option.bind_some, p1, Option.bind_some, xr_gR (k := 1) k2 rfl, Option.bind_some, xr_gI (k := 2) k2 rfl, Option.bind_some, xr_is k2, Option.bind_some, g3, Option.bind_some]
  · rw [e6]
    exact xk_up_s _ _ _
  · rw [e6, e5]
    exact s4
  · intro q hq hl
    rw [e6]
    refine (xk_up_n _ _ hq).trans ?_
    rw [e5]
    exact (xk_up_n _ _ (Nat.ne_of_lt hl)).trans (q4 q hq hl)
