/-! a step of the law: what the class' side and the reference's side owe -/
def yCl (z : Nat) (w w1 : xWd) : Prop := w.2.1 ≤ w1.2.1 ∧ w1.2.2 = w.2.2 ∧ ∀ q, (q < z ∨ (z + 10 ≤ q ∧ q < z + 15)) → w1.1 q = w.1 q
def yMo (z : Nat) (w w1 : xWd) : Prop := ∀ q, (q < z ∨ q = z + 15) → w1.1 q = w.1 q
def yOK (z : Nat) (w : xWd) (A : Option (Int32 × xWd)) (M : xWd → Option (Int32 × xWd)) : Prop := ∃ (k : Int32) (wA : xWd) (r : Int32) (wB : xWd) (fs : List Value), A = some (k, wA) ∧ yCl z w wA ∧ M wA = some (r, wB) ∧ wB.1 (z + 10) = some (.inr (5, .int k :: fs)) ∧ yMo z wA wB ∧ (k = 0 → yOW z r.toInt64 wA)
theorem yCl.rf (z : Nat) (w : xWd) : yCl z w w := ⟨Nat.le_refl _, rfl, fun _ _ => rfl⟩
theorem yCl.tr {z : Nat} {w w1 w2 : xWd} (h : yCl z w w1) (g : yCl z w1 w2) : yCl z w w2 := ⟨Nat.le_trans h.1 g.1, g.2.1.trans h.2.1, fun q hq => (g.2.2 q hq).trans (h.2.2 q hq)⟩
theorem yMo.rf (z : Nat) (w : xWd) : yMo z w w := fun _ _ => rfl
theorem yMo.tr {z : Nat} {w w1 w2 : xWd} (h : yMo z w w1) (g : yMo z w1 w2) : yMo z w w2 := fun q hq => (g q hq).trans (h q hq)
theorem yMo.th (z : Nat) (t : Int32) (w : xWd) : yMo z w (yTh z t w) := fun q hq => yTh_n (by omega)
theorem yMo.kp {z : Nat} {w w1 : xWd} (h : yKp w w1) (hz : z + 16 ≤ w.2.1) : yMo z w w1 := fun q hq => h.2.2 q (by omega)
theorem yMW.cl {z : Nat} {t : Int32} {w w1 : xWd} (h : yMW z t w) (k : yCl z w w1) : yMW z t w1 := by
  obtain ⟨h1, h2, h3, h4, h5, h6, h7, h8⟩ := h
  have e : ∀ a, z + 10 ≤ a → a < z + 15 → yEm w a → yEm w1 a := by
    intro a ha hb he
    unfold yEm
    rw [k.2.2 a (Or.inr ⟨ha, hb⟩), k.2.1]
    exact he
  refine ⟨(k.2.2 _ (by omega)).trans h1, e _ (by omega) (by omega) h2, e _ (by omega) (by omega) h3, e _ (by omega) (by omega) h4, e _ (by omega) (by omega) h5, ?_, ?_, Nat.le_trans h8 k.1⟩
  · rw [k.2.1]
    exact (k.2.2 _ (by omega)).trans h6
  · rw [k.2.1]
    exact h7
theorem yOK_no {z : Nat} {t : Int32} {w : xWd} {A : Option (Int32 × xWd)} {M : xWd → Option (Int32 × xWd)} {k r : Int32} (hA : A = some (k, yBp w)) (hM : M (yBp w) = some (r, yTh z k (yBp w))) (hm : yMW z t w) (hk : ¬ k = 0) : yOK z w A M :=
  ⟨k, yBp w, r, yTh z k (yBp w), _, hA, ⟨Nat.le_succ _, rfl, fun _ _ => rfl⟩, hM, xk_up_s _ _ _, yMo.th z k _, fun h => absurd h hk⟩
/-- the answer is laid into its row -/
theorem y_out {z : Nat} {v : Int64} {w : xWd} (h : yOW z v w) (u : Int64) : ∃ w' : xWd, xk_sL w (some (z + 15)) 0 u = some w' ∧ yOW z u w' ∧ w'.2 = w.2 ∧ ∀ q, q ≠ z + 15 → w'.1 q = w.1 q := by
  obtain ⟨g, h1, h2⟩ := h
  refine ⟨(va_up w.1 (z + 15) (some (.inl (5, 1, .inr (.inl (vp_updL g 0 u))))), w.2), ?_, ⟨vp_updL g 0 u, xk_up_s _ _ _, by simp [vp_updL]⟩, rfl, fun q hq => xk_up_n _ _ hq⟩
  simp only [xk_sL, xk_arr, h1, Option.bind_some]
  rw [if_pos ⟨trivial, by decide⟩]
  rfl
/-- a call that answers, and its wrapper -/
theorem y_wrap {z : Nat} {v : Int64} {w w1 : xWd} {F : Option (Int32 × xWd)} {r : Int32} (h1 : F = some (r, w1)) (hc : yCl z w w1) (h15 : w1.1 (z + 15) = w.1 (z + 15)) (ho : yOW z v w) :
    ∃ wA : xWd, (∀ K : Option (Int32 × xWd), xk_or F (fun q1 => (xk_sL q1.2 (some (z + 15)) (0 : Int32) (q1.1).toInt64).bind (fun w6 => some ((0 : Int32), w6))) K = some (0, wA)) ∧ yCl z w wA ∧ yOW z r.toInt64 wA := by
  obtain ⟨g, o1, o2⟩ := ho
  obtain ⟨wA, e1, e2, e3, e4⟩ := y_out (z := z) (v := v) (w := w1) ⟨g, h15.trans o1, o2⟩ r.toInt64
  refine ⟨wA, fun K => ?_, hc.tr ⟨by rw [e3]; exact Nat.le_refl _, by rw [e3], fun q hq => e4 q (by omega)⟩, e2⟩
  rw [h1]
  show (xk_sL w1 (some (z + 15)) 0 r.toInt64).bind _ = _
  rw [e1]
  rfl
theorem y_ls (a b : Int32) (h : b.toInt = a.toInt + 1) (x : Int32) : (a < x) = (b ≤ x) := by
  rw [Int32.lt_iff_toInt_lt, Int32.le_iff_toInt_le, h]
  exact propext ⟨fun q => by omega, fun q => by omega⟩
/-- fields and rows of what is new -/
theorem xk_nw_pV {w : xWd} {ci k : Nat} {fs : List Value} {v : Value} (hk : k < fs.length) : xk_pV (va_up w.1 w.2.1 (some (.inr (ci, fs))), w.2.1 + 1, w.2.2) (some w.2.1) ci k v = some (va_up w.1 w.2.1 (some (.inr (ci, fs.set k v))), w.2.1 + 1, w.2.2) := by
  rw [xr_pV (xk_up_s _ _ _) hk]
  show some (va_up (va_up w.1 w.2.1 _) w.2.1 _, _) = _
  rw [bx_uu]
theorem y_pv {β : Type} {w : xWd} {p ci k : Nat} {fs : List Value} {v : Value} (h : w.1 p = some (.inr (ci, fs))) (hk : k < fs.length) : ∃ w' : xWd, (∀ F : xWd → Option β, (xk_pV w (some p) ci k v).bind F = F w') ∧ w'.1 p = some (.inr (ci, fs.set k v)) ∧ w'.2 = w.2 ∧ ∀ q, q ≠ p → w'.1 q = w.1 q :=
  ⟨(va_up w.1 p (some (.inr (ci, fs.set k v))), w.2), fun F => by rw [xr_pV h hk]; rfl, xk_up_s _ _ _, rfl, fun q hq => xk_up_n _ _ hq⟩
theorem y_al {β : Type} {w : xWd} {p ci k n r : Nat} {N : Int32} {fs : List Value} (h : w.1 p = some (.inr (ci, fs))) (hp : p < w.2.1) (hr : w.2.1 = r) (hk : k < fs.length) (h0 : ¬ N < 0) (h1 : N.toNatClampNeg = n) (h2 : n ≤ 64) : ∃ w' : xWd, (∀ F : xWd → Option β, (xk_nA w 0 xk_d0 N 64).bind (fun w7 => (xk_pV w7 (some p) ci k (va_rf (some r))).bind F) = F w') ∧ w'.1 p = some (.inr (ci, fs.set k (.ref r))) ∧ w'.2 = (r + 1, w.2.2) ∧ ∀ q, q ≠ p → q < r → w'.1 q = w.1 q := by
  subst hr
  have e : xk_nA w 0 xk_d0 N 64 = some (va_up w.1 w.2.1 (some (.inl (0, n, .inl (fun _ => 0)))), w.2.1 + 1, w.2.2) := by
    unfold xk_nA
    rw [if_neg h0, h1, if_pos h2]
  have k1 : (va_up w.1 w.2.1 (some (.inl (0, n, .inl (fun _ => 0))) : Option xE)) p = some (.inr (ci, fs)) := (xk_up_n _ _ (Nat.ne_of_lt hp)).trans h
  obtain ⟨w', a1, a2, a3, a4⟩ := y_pv (β := β) (w := (va_up w.1 w.2.1 (some (.inl (0, n, .inl (fun _ => 0)))), w.2.1 + 1, w.2.2)) (v := va_rf (some w.2.1)) k1 hk
  refine ⟨w', fun F => by rw [e, Option.bind_some]; exact a1 F, a2, a3, fun q hq hl => (a4 q hq).trans (xk_up_n _ _ (Nat.ne_of_lt hl))⟩
