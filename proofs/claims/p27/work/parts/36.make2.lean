theorem xk_al_pV {w : xWd} {p k n r : Nat} {fs : List Value} (hr : w.2.1 = r) (h : w.1 p = some (.inr (1, fs))) (hp : p < w.2.1) (hk : k < fs.length) (hn : n ≤ 64) (F : xWd → Option xWd) : ∃ w', ((xk_nA w 0 xk_d0 (iI n) 64).bind (fun w7 => (xk_pV w7 (some p) 1 k (va_rf (some r))).bind F)) = F w' ∧ w'.1 p = some (.inr (1, fs.set k (.ref w.2.1))) ∧ w'.1 w.2.1 = some (.inl (0, n, .inl (fun _ => 0))) ∧ w'.2.1 = w.2.1 + 1 ∧ w'.2.2 = w.2.2 ∧ ∀ q, q ≠ p → q ≠ w.2.1 → w'.1 q = w.1 q := by
  subst hr
  have n0 : ¬ iI (n : Int) < 0 := by rw [iI_0, iI_lt (by omega) (by omega)]; omega
  have n1 : (iI (n : Int)).toNatClampNeg = n := by rw [iI_clamp (by omega)]; omega
  have eA : xk_nA w 0 xk_d0 (iI n) 64 = some (va_up w.1 w.2.1 (some (.inl (0, n, xk_d0.2))), w.2.1 + 1, w.2.2) := by
    unfold xk_nA
    rw [if_neg n0, n1, if_pos hn]
  have h2 : (va_up w.1 w.2.1 (some (.inl (0, n, xk_d0.2))), w.2.1 + 1, w.2.2).1 p = some (.inr (1, fs)) := (xk_up_n _ _ (by omega)).trans h
  have p2 := xr_pV (v := va_rf (some w.2.1)) h2 hk
  refine ⟨(va_up (va_up w.1 w.2.1 (some (.inl (0, n, xk_d0.2)))) p (some (.inr (1, fs.set k (va_rf (some w.2.1))))), w.2.1 + 1, w.2.2), ?_, xk_up_s _ _ _, (xk_up_n _ _ (by omega)).trans (xk_up_s _ _ _), rfl, rfl, fun q q1 q2 => (xk_up_n _ _ q1).trans (xk_up_n _ _ q2)⟩
  rw [eA, Option.bind_some, p2, Option.bind_some]
/-- a new cue -/
def yC0 (n st th pl wr us : Int) : Nat → Int
  | 0 => n | 1 => st | 2 => th | 3 => pl | 4 => wr | 5 => us | _ => 0
theorem x0_init {w : xWd} (n st th pl wr us : Int) : ∃ w3, f_X0_init w.2.1 (iI n) (iI st) (iI th) (iI pl) (iI wr) (iI us) (xk_nw w 1 xf_1) = some w3 ∧ xC w3 w.2.1 (yC0 n st th pl wr us) ∧ w3.2.1 = w.2.1 + 4 ∧ w3.2.2 = w.2.2 ∧ ∀ q, q < w.2.1 → w3.1 q = w.1 q := by
  have z9 : (9 : Int32) = iI ((9 : Nat) : Int) := by decide
  have z63 : (63 : Int32) = iI ((63 : Nat) : Int) := by decide
  unfold f_X0_init xk_nw xf_1
  rw [xk_nw_pV (by decide), Option.bind_some, xk_nw_pV (by simp), Option.bind_some, xk_nw_pV (by simp), Option.bind_some, xk_nw_pV (by simp), Option.bind_some, xk_nw_pV (by simp), Option.bind_some, xk_nw_pV (by simp), Option.bind_some]
  simp only [List.set]
  obtain ⟨w6, hw6⟩ : ∃ w6 : xWd, w6 = (va_up w.1 w.2.1 (some (.inr (1, [.int (iI n), .int (iI st), .int (iI th), .int (iI pl), .int (iI wr), .int (iI us), .int 0, .int 0, .null, .null, .int 0, .int 0, .null]))), w.2.1 + 1, w.2.2) := ⟨_, rfl⟩
  rw [← hw6, z9, z63]
  have h6 : w6.1 w.2.1 = some (.inr (1, [.int (iI n), .int (iI st), .int (iI th), .int (iI pl), .int (iI wr), .int (iI us), .int 0, .int 0, .null, .null, .int 0, .int 0, .null])) := by rw [hw6]; exact xk_up_s _ _ _
  have s6 : w6.2.1 = w.2.1 + 1 := by rw [hw6]
  have k6 : ∀ q, q ≠ w.2.1 → w6.1 q = w.1 q := fun q hq => by rw [hw6]; exact xk_up_n _ _ hq
  have r6 : w6.2.2 = w.2.2 := by rw [hw6]
  obtain ⟨w8, e8, a8, b8, c8, d8, f8⟩ := xk_al_pV (k := 8) (n := 9) s6 h6 (by omega) (by simp) (by omega) (fun w8 => (xk_nA w8 0 xk_d0 (iI ((9 : Nat) : Int)) 64).bind (fun w9 => (xk_pV w9 (some w.2.1) 1 9 (va_rf (some w8.2.1))).bind (fun w10 => (xk_nA w10 0 xk_d0 (iI ((63 : Nat) : Int)) 64).bind (fun w11 => (xk_pV w11 (some w.2.1) 1 12 (va_rf (some w10.2.1))).bind (fun w12 => some w12)))))
  rw [e8]
  obtain ⟨w10, e10, a10, b10, c10, d10, f10⟩ := xk_al_pV (k := 9) (n := 9) rfl a8 (by omega) (by simp) (by omega) (fun w10 => (xk_nA w10 0 xk_d0 (iI ((63 : Nat) : Int)) 64).bind (fun w11 => (xk_pV w11 (some w.2.1) 1 12 (va_rf (some w10.2.1))).bind (fun w12 => some w12)))
  rw [e10]
  obtain ⟨w12, e12, a12, b12, c12, d12, f12⟩ := xk_al_pV (k := 12) (n := 63) rfl a10 (by omega) (by simp) (by omega) (fun w12 => some w12)
  rw [e12]
  simp only [List.set] at a12
  have z0 : iI 0 = (0 : Int32) := by decide
  refine ⟨w12, rfl, ⟨?_, ?_, ?_, ?_⟩, by omega, by rw [d12, d10, d8, r6], fun q hq => ?_⟩
  · rw [a12]
    show _ = some (Sum.inr (1, [Value.int (iI n), Value.int (iI st), Value.int (iI th), Value.int (iI pl), Value.int (iI wr), Value.int (iI us), Value.int (iI 0), Value.int (iI 0), Value.ref (w.2.1 + 1), Value.ref (w.2.1 + 2), Value.int (iI 0), Value.int (iI 0), Value.ref (w.2.1 + 3)]))
    rw [z0, show w6.2.1 = w.2.1 + 1 by omega, show w8.2.1 = w.2.1 + 2 by omega, show w10.2.1 = w.2.1 + 3 by omega]
  · rw [f12 _ (by omega) (by omega), f10 _ (by omega) (by omega), ← s6, b8]
    congr 5
    funext i
    rw [show yC0 n st th pl wr us (20 + 3 * i) = 0 by rw [show 20 + 3 * i = (14 + 3 * i) + 6 by omega]; rfl, z0]
  · rw [f12 _ (by omega) (by omega), show w.2.1 + 2 = w8.2.1 by omega, b10]
    congr 5
    funext i
    rw [show yC0 n st th pl wr us (21 + 3 * i) = 0 by rw [show 21 + 3 * i = (15 + 3 * i) + 6 by omega]; rfl, z0]
  · rw [show w.2.1 + 3 = w10.2.1 by omega, b12]
    congr 5
    funext i
    rw [show yC0 n st th pl wr us (22 + 3 * i) = 0 by rw [show 22 + 3 * i = (16 + 3 * i) + 6 by omega]; rfl, z0]
  · rw [f12 _ (by omega) (by omega), f10 _ (by omega) (by omega), f8 _ (by omega) (by omega), k6 _ (by omega)]
