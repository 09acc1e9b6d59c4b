theorem yW_id {w : xWd} {ro : Nat} {g : Nat → Int} (h : w.1 ro = some (.inl (0, 63, .inl (fun i => iI (g i))))) : yW w ro g = w := by
  unfold yW
  rw [xk_up_id _ _ _ h]
theorem x0_layOut_l {w : xWd} {a ro : Nat} {s K g : Nat → Int} {oth oc : Int} (h : xC w a s) (hB : 0 ≤ s 7 ∧ s 7 ≤ 9) (h1 : a ≠ ro) (h2 : a + 1 ≠ ro) (h3 : a + 2 ≠ ro) (hK : yMK s K) (hk : ∀ n, n < 9 → K n = if (n : Int) = oth then oc else s (21 + 3 * n)) (ho : -1 ≤ oth ∧ oth ≤ 100) : ∀ (r n fu : Nat), (n : Int) + r = s 7 → r < fu →
    f_X0_layOut_9 fu (some a) (some ro) (iI oth) (iI oc) (iI (yH s K n)) (iI (yB s n)) (iI n) (yW w ro (yL s K g n)) = some (iI (yH s K (s 7).toNat), yW w ro (yL s K g (s 7).toNat)) := by
  have b4 : s 7 ≤ 9 := hB.2
  have g7 : ∀ g, xk_gI (yW w ro g) (some a) 1 7 = some (iI (s 7)) := fun g => xr_gI (k := 7) ((yW_n w g h1).trans h.1) rfl
  have g8 : ∀ g, xk_gR (yW w ro g) (some a) 1 8 = some (some (a + 1)) := fun g => xr_gR (k := 8) ((yW_n w g h1).trans h.1) rfl
  have g9 : ∀ g, xk_gR (yW w ro g) (some a) 1 9 = some (some (a + 2)) := fun g => xr_gR (k := 9) ((yW_n w g h1).trans h.1) rfl
  intro r
  induction r with
  | zero =>
    intro n fu e1 e2
    obtain ⟨fu, rfl⟩ : ∃ f, fu = f + 1 := ⟨fu - 1, by omega⟩
    have c1 : iI (s 7) ≤ iI n := by rw [iI_le (by omega) (by omega)]; omega
    unfold f_X0_layOut_9 f_X0_layOut_96
    rw [g7, Option.bind_some, if_pos c1, show (s 7).toNat = n by omega]
  | succ r ih =>
    intro n fu e1 e2
    obtain ⟨fu, rfl⟩ : ∃ f, fu = f + 1 := ⟨fu - 1, by omega⟩
    have c1 : ¬ iI (s 7) ≤ iI n := by rw [iI_le (by omega) (by omega)]; omega
    have c2 : ¬ (9 : Int32) ≤ iI n := by rw [iL_9, iI_le (by omega) (by omega)]; omega
    have hM := hK n (by omega)
    have ek := hk n (by omega)
    have key : f_X0_layOut_42 (f_X0_layOut_9 fu) (some a) (some ro) (iI oth) (iI oc) (iI (yH s K n)) (iI (yB s n)) (iI n) (iI (K n)) (yW w ro (yL s K g n)) = some (iI (yH s K (s 7).toNat), yW w ro (yL s K g (s 7).toNat)) := by
      have := x0_layOut_in (oth := oth) (oc := oc) (g := g) h.2.1 g8 h2 hK (n := n) (by omega) (f_X0_layOut_9 fu) (s (20 + 3 * n)).toNat 0 4096 (by omega) (by omega)
      unfold f_X0_layOut_42
      rw [yL1_0] at this
      simp only [Int.natCast_zero, Int.zero_mul, Int.add_zero] at this
      rw [iL_0]
      refine this.trans ?_
      exact ih (n + 1) fu (by omega) (by omega)
    unfold f_X0_layOut_9
    rw [g7, Option.bind_some, if_neg c1, if_neg c2]
    by_cases d : (n : Int) = oth
    · rw [if_pos (by rw [d]), ← key, ek, if_pos d]
    · have e := xr_lI ((yW_n w (yL s K g n) h3).trans h.2.2.1) (i := (n : Int)) (by omega) (by omega) (by omega)
      rw [Int.toNat_natCast] at e
      rw [if_neg (by rw [iI_eq (by omega) (by omega)]; exact d), g9, Option.bind_some, e, Option.bind_some, ← key, ek, if_neg d]
theorem x0_layOut {w : xWd} {a ro : Nat} {s K g : Nat → Int} {oth oc : Int} (h : xC w a s) (hB : 0 ≤ s 7 ∧ s 7 ≤ 9) (h1 : a ≠ ro) (h2 : a + 1 ≠ ro) (h3 : a + 2 ≠ ro) (hr : w.1 ro = some (.inl (0, 63, .inl (fun i => iI (g i))))) (hK : yMK s K) (hk : ∀ n, n < 9 → K n = if (n : Int) = oth then oc else s (21 + 3 * n)) (ho : -1 ≤ oth ∧ oth ≤ 100) :
    f_X0_layOut (some a) (some ro) (iI oth) (iI oc) w = some (iI (yH s K (s 7).toNat), yW w ro (yL s K g (s 7).toNat)) := by
  have h0 : 0 ≤ s 7 := hB.1
  have b4 : s 7 ≤ 9 := hB.2
  have := x0_layOut_l (g := g) h hB h1 h2 h3 hK hk ho (s 7).toNat 0 4096 (by omega) (by omega)
  unfold f_X0_layOut
  rw [show yW w ro (yL s K g 0) = w from yW_id hr] at this
  rw [iL_0]
  exact this
/-- the world with the cue at a as s -/
def xCW (w : xWd) (a : Nat) (s : Nat → Int) : xWd := (fun q =>
  if q = a then some (.inr (1, [.int (iI (s 0)), .int (iI (s 1)), .int (iI (s 2)), .int (iI (s 3)), .int (iI (s 4)), .int (iI (s 5)), .int (iI (s 6)), .int (iI (s 7)), .ref (a + 1), .ref (a + 2), .int (iI (s 10)), .int (iI (s 11)), .ref (a + 3)])) else
  if q = a + 1 then some (.inl (0, 9, .inl (fun i => iI (s (20 + 3 * i))))) else if q = a + 2 then some (.inl (0, 9, .inl (fun i => iI (s (21 + 3 * i))))) else if q = a + 3 then some (.inl (0, 63, .inl (fun i => iI (s (22 + 3 * i))))) else w.1 q, w.2)
theorem xCW_C (w : xWd) (a : Nat) (s : Nat → Int) : xC (xCW w a s) a s := by
  refine ⟨if_pos rfl, ?_, ?_, ?_⟩
  · exact (if_neg (by omega)).trans (if_pos rfl)
  · exact (if_neg (by omega)).trans ((if_neg (by omega)).trans (if_pos rfl))
  · exact (if_neg (by omega)).trans ((if_neg (by omega)).trans ((if_neg (by omega)).trans (if_pos rfl)))
theorem xCW_n (w : xWd) {a q : Nat} (s : Nat → Int) (h : q < a ∨ a + 3 < q) : (xCW w a s).1 q = w.1 q := by
  show (if q = a then _ else if q = a + 1 then _ else if q = a + 2 then _ else if q = a + 3 then _ else w.1 q) = _
  rw [if_neg (by omega), if_neg (by omega), if_neg (by omega), if_neg (by omega)]
theorem xCW_id {w : xWd} {a : Nat} {s : Nat → Int} (h : xC w a s) : xCW w a s = w := by
  have e : (xCW w a s).1 = w.1 := by
    funext q
    by_cases c : q < a ∨ a + 3 < q
    · exact xCW_n w s c
    · have hh := xCW_C w a s
      rcases (show q = a ∨ q = a + 1 ∨ q = a + 2 ∨ q = a + 3 by omega) with rfl | rfl | rfl | rfl
      · rw [hh.1, h.1]
      · rw [hh.2.1, h.2.1]
      · rw [hh.2.2.1, h.2.2.1]
      · rw [hh.2.2.2, h.2.2.2]
  show ((xCW w a s).1, w.2) = w
  rw [e]
/-- a world that agrees with a cue's world -/
theorem xCW_e {w : xWd} {a : Nat} {s : Nat → Int} {w' : xWd} (h : xC w' a s) (h2 : w'.2 = w.2) (h3 : ∀ q, q < a ∨ a + 3 < q → w'.1 q = w.1 q) : w' = xCW w a s := by
  have e : w'.1 = (xCW w a s).1 := by
    funext q
    by_cases c : q < a ∨ a + 3 < q
    · rw [h3 q c, xCW_n w s c]
    · have hh := xCW_C w a s
      rcases (show q = a ∨ q = a + 1 ∨ q = a + 2 ∨ q = a + 3 by omega) with rfl | rfl | rfl | rfl
      · rw [hh.1, h.1]
      · rw [hh.2.1, h.2.1]
      · rw [hh.2.2.1, h.2.2.1]
      · rw [hh.2.2.2, h.2.2.2]
  have e2 : w' = (w'.1, w'.2) := rfl
  rw [e2, e, h2]
  rfl
theorem xCW_pV {w : xWd} {a k : Nat} {s : Nat → Int} {v : Int} (hk : k = 1 ∨ k = 6 ∨ k = 7 ∨ k = 10 ∨ k = 11) : xk_pV (xCW w a s) (some a) 1 k (.int (iI v)) = some (xCW w a (va_up s k v)) := by
  have h := xCW_C w a s
  have n20 : (fun i => iI (va_up s k v (20 + 3 * i))) = fun i => iI (s (20 + 3 * i)) := by funext i; rw [xk_up_n _ _ (by omega)]
  have n40 : (fun i => iI (va_up s k v (21 + 3 * i))) = fun i => iI (s (21 + 3 * i)) := by funext i; rw [xk_up_n _ _ (by omega)]
  have n100 : (fun i => iI (va_up s k v (22 + 3 * i))) = fun i => iI (s (22 + 3 * i)) := by funext i; rw [xk_up_n _ _ (by omega)]
  rw [xr_pV h.1 (by show k < 13; omega)]
  congr 1
  refine xCW_e (w := w) ⟨?_, ?_, ?_, ?_⟩ rfl ?_
  · refine (xk_up_s _ _ _).trans ?_
    rcases hk with rfl | rfl | rfl | rfl | rfl <;> rfl
  · refine (xk_up_n _ _ (by omega)).trans (h.2.1.trans ?_)
    rw [n20]
  · refine (xk_up_n _ _ (by omega)).trans (h.2.2.1.trans ?_)
    rw [n40]
  · refine (xk_up_n _ _ (by omega)).trans (h.2.2.2.trans ?_)
    rw [n100]
  · intro q hq
    exact (xk_up_n _ _ (by omega)).trans (xCW_n w s hq)
theorem xCW_s1 {w : xWd} {a : Nat} {s : Nat → Int} {i v : Int} (h0 : 0 ≤ i) (h1 : i < 9) : xk_sI 0 (xCW w a s) (some (a + 1)) (iI i) (iI v) = some (xCW w a (va_up s (20 + 3 * i.toNat) v)) := by
  have h := xCW_C w a s
  rw [xr_sI h.2.1 h0 (by omega) (by omega), xi_upd]
  congr 1
  refine xCW_e (w := w) ⟨?_, ?_, ?_, ?_⟩ rfl ?_
  · refine (xk_up_n _ _ (by omega)).trans (h.1.trans ?_)
    simp only [xk_up_n _ _ (show 0 ≠ 20 + 3 * i.toNat by omega), xk_up_n _ _ (show 1 ≠ 20 + 3 * i.toNat by omega), xk_up_n _ _ (show 2 ≠ 20 + 3 * i.toNat by omega), xk_up_n _ _ (show 3 ≠ 20 + 3 * i.toNat by omega), xk_up_n _ _ (show 4 ≠ 20 + 3 * i.toNat by omega), xk_up_n _ _ (show 5 ≠ 20 + 3 * i.toNat by omega), xk_up_n _ _ (show 6 ≠ 20 + 3 * i.toNat by omega), xk_up_n _ _ (show 7 ≠ 20 + 3 * i.toNat by omega), xk_up_n _ _ (show 10 ≠ 20 + 3 * i.toNat by omega), xk_up_n _ _ (show 11 ≠ 20 + 3 * i.toNat by omega)]
  · refine (xk_up_s _ _ _).trans ?_
    congr 5
    funext j
    by_cases c : j = i.toNat
    · subst c; rw [xk_up_s, xk_up_s]
    · rw [xk_up_n _ _ c, xk_up_n _ _ (by omega)]
  · refine (xk_up_n _ _ (by omega)).trans (h.2.2.1.trans ?_)
    congr 5
    funext j
    exact congrArg iI (xk_up_n _ _ (by omega)).symm
  · refine (xk_up_n _ _ (by omega)).trans (h.2.2.2.trans ?_)
    congr 5
    funext j
    exact congrArg iI (xk_up_n _ _ (by omega)).symm
  · intro q hq
    exact (xk_up_n _ _ (by omega)).trans (xCW_n w s hq)
theorem xCW_s2 {w : xWd} {a : Nat} {s : Nat → Int} {i v : Int} (h0 : 0 ≤ i) (h1 : i < 9) : xk_sI 0 (xCW w a s) (some (a + 2)) (iI i) (iI v) = some (xCW w a (va_up s (21 + 3 * i.toNat) v)) := by
  have h := xCW_C w a s
  rw [xr_sI h.2.2.1 h0 (by omega) (by omega), xi_upd]
  congr 1
  refine xCW_e (w := w) ⟨?_, ?_, ?_, ?_⟩ rfl ?_
  · refine (xk_up_n _ _ (by omega)).trans (h.1.trans ?_)
    simp only [xk_up_n _ _ (show 0 ≠ 21 + 3 * i.toNat by omega), xk_up_n _ _ (show 1 ≠ 21 + 3 * i.toNat by omega), xk_up_n _ _ (show 2 ≠ 21 + 3 * i.toNat by omega), xk_up_n _ _ (show 3 ≠ 21 + 3 * i.toNat by omega), xk_up_n _ _ (show 4 ≠ 21 + 3 * i.toNat by omega), xk_up_n _ _ (show 5 ≠ 21 + 3 * i.toNat by omega), xk_up_n _ _ (show 6 ≠ 21 + 3 * i.toNat by omega), xk_up_n _ _ (show 7 ≠ 21 + 3 * i.toNat by omega), xk_up_n _ _ (show 10 ≠ 21 + 3 * i.toNat by omega), xk_up_n _ _ (show 11 ≠ 21 + 3 * i.toNat by omega)]
  · refine (xk_up_n _ _ (by omega)).trans (h.2.1.trans ?_)
    congr 5
    funext j
    exact congrArg iI (xk_up_n _ _ (by omega)).symm
  · refine (xk_up_s _ _ _).trans ?_
    congr 5
    funext j
    by_cases c : j = i.toNat
    · subst c; rw [xk_up_s, xk_up_s]
    · rw [xk_up_n _ _ c, xk_up_n _ _ (by omega)]
  · refine (xk_up_n _ _ (by omega)).trans (h.2.2.2.trans ?_)
    congr 5
    funext j
    exact congrArg iI (xk_up_n _ _ (by omega)).symm
  · intro q hq
    exact (xk_up_n _ _ (by omega)).trans (xCW_n w s hq)
/-- the row of offsets laid out -/
def yO (s : Nat → Int) (g : Nat → Int) : Nat → Int := fun j => if 22 ≤ j ∧ j % 3 = 1 then g ((j - 22) / 3) else s j
theorem yO_n (s g : Nat → Int) {j : Nat} (h : j < 22 ∨ j % 3 ≠ 1) : yO s g j = s j := if_neg (by omega)
theorem yO_o (s g : Nat → Int) (i : Nat) : yO s g (22 + 3 * i) = g i := by
  unfold yO
  rw [if_pos (by omega), show (22 + 3 * i - 22) / 3 = i by omega]
theorem xCW_yW {w : xWd} {a : Nat} {s g : Nat → Int} : yW (xCW w a s) (a + 3) g = xCW w a (yO s g) := by
  have h := xCW_C w a s
  refine xCW_e (w := w) ⟨?_, ?_, ?_, ?_⟩ rfl ?_
  · exact (yW_n _ g (by omega)).trans h.1
  · refine (yW_n _ g (by omega)).trans (h.2.1.trans ?_)
    congr 5
    funext j
    exact congrArg iI (yO_n s g (by omega)).symm
  · refine (yW_n _ g (by omega)).trans (h.2.2.1.trans ?_)
    congr 5
    funext j
    exact congrArg iI (yO_n s g (by omega)).symm
  · refine (yW_s _ _ g).trans ?_
    congr 5
    funext j
    exact congrArg iI (yO_o s g j).symm
  · intro q hq
    exact (yW_n _ g (by omega)).trans (xCW_n w s hq)
theorem x4_roundedUp {x n : Int} (w : xWd) (h : 0 ≤ x ∧ x ≤ 100000) (hn : 1 ≤ n ∧ n ≤ 100000) : f_X4_roundedUp (iI x) (iI n) w = some (iI ((x + n - 1) / n), w) := by
  have nz : xk_nz (iI n) = some () := by
    unfold xk_nz
    rw [if_neg]
    rw [iL_0, iI_eq (by omega) (by omega)]; omega
  unfold f_X4_roundedUp f_X4_roundedUp_16
  rw [if_pos (by rw [iL_1, iI_le (by omega) (by omega)]; omega), nz, Option.bind_some, iI_add, iL_1, iI_sub, iI_div (by omega) (by omega)]
/-- meter and click of bar b set -/
def yS2 (s : Nat → Int) (b : Nat) (m c : Int) : Nat → Int := va_up (va_up s (20 + 3 * b) m) (21 + 3 * b) c
/-- setBar, whole -/
def ySet (s : Nat → Int) (b : Nat) (m c : Int) : Nat → Int := fun j =>
  if j = 6 then s 6 + 1 else if j = 10 then yB (yS2 s b m c) (s 7).toNat else if j = 11 then (yH (yS2 s b m c) (fun n => yS2 s b m c (21 + 3 * n)) (s 7).toNat + 3) / 4
  else if 22 ≤ j ∧ j % 3 = 1 then yL (yS2 s b m c) (fun n => yS2 s b m c (21 + 3 * n)) (fun i => s (22 + 3 * i)) (s 7).toNat ((j - 22) / 3) else yS2 s b m c j
theorem yB_c {s t : Nat → Int} (h : ∀ i, s (20 + 3 * i) = t (20 + 3 * i)) : ∀ n, yB s n = yB t n := by
  intro n
  induction n with
  | zero => rfl
  | succ n ih => show yB s n + s (20 + 3 * n) = yB t n + t (20 + 3 * n); rw [ih, h]
theorem yH_c {s t : Nat → Int} (K : Nat → Int) (h : ∀ i, s (20 + 3 * i) = t (20 + 3 * i)) : ∀ n, yH s K n = yH t K n := by
  intro n
  induction n with
  | zero => rfl
  | succ n ih => show yH s K n + s (20 + 3 * n) * K n = yH t K n + t (20 + 3 * n) * K n; rw [ih, h]
theorem yL_c {s t : Nat → Int} (K g : Nat → Int) (h : ∀ i, s (20 + 3 * i) = t (20 + 3 * i)) : ∀ n, yL s K g n = yL t K g n := by
  intro n
  induction n with
  | zero => rfl
  | succ n ih =>
    funext i
    show (if yB s n ≤ i ∧ i < yB s (n + 1) then (yH s K n + (i - yB s n) * K n) / 4 else yL s K g n i) = (if yB t n ≤ i ∧ i < yB t (n + 1) then (yH t K n + (i - yB t n) * K n) / 4 else yL t K g n i)
    rw [ih, yB_c h, yB_c h, yH_c K h]
theorem x0_setBar {w : xWd} {a : Nat} {s : Nat → Int} (h : xC w a s) (hB : xCB s) {b m c : Int} (hb : 0 ≤ b ∧ b < s 7) (hm : 0 ≤ m ∧ m ≤ 7) (hc : 0 ≤ c ∧ c ≤ 160) :
    f_X0_setBar (some a) (iI b) (iI m) (iI c) w = some (xCW w a (ySet s b.toNat m c)) := by
  have b4 : s 7 ≤ 9 := hB.2.2.2.2.2.1
  have b6 : 0 ≤ s 6 ∧ s 6 ≤ 5000 := ⟨hB.2.2.1, hB.2.2.2.1⟩
  have hMK := hB.2.2.2.2.2.2.2.2.2.2.1
  obtain ⟨bn, rfl⟩ : ∃ n : Nat, b = n := ⟨b.toNat, by omega⟩
  simp only [Int.toNat_natCast]
  have c1 : ¬ iI (bn : Int) < (0 : Int32) := by rw [iL_0, iI_lt (by omega) (by omega)]; omega
  have c2 : ¬ iI (s 7) ≤ iI (bn : Int) := by rw [iI_le (by omega) (by omega)]; omega
  have c3 : iI (bn : Int) < (9 : Int32) := by rw [iL_9, iI_lt (by omega) (by omega)]; omega
  have w0 : w = xCW w a s := (xCW_id h).symm
  have r8 : ∀ t, xk_gR (xCW w a t) (some a) 1 8 = some (some (a + 1)) := fun t => xr_gR (k := 8) (xCW_C w a t).1 rfl
  have r9 : ∀ t, xk_gR (xCW w a t) (some a) 1 9 = some (some (a + 2)) := fun t => xr_gR (k := 9) (xCW_C w a t).1 rfl
  have r12 : ∀ t, xk_gR (xCW w a t) (some a) 1 12 = some (some (a + 3)) := fun t => xr_gR (k := 12) (xCW_C w a t).1 rfl
  have g6 : ∀ t, xk_gI (xCW w a t) (some a) 1 6 = some (iI (t 6)) := fun t => xr_gI (k := 6) (xCW_C w a t).1 rfl
  have g7 : ∀ t, xk_gI (xCW w a t) (some a) 1 7 = some (iI (t 7)) := fun t => xr_gI (k := 7) (xCW_C w a t).1 rfl
  have ri : ∀ t, xk_is (xCW w a t) (some a) 1 = some () := fun t => xr_is (xCW_C w a t).1
  have p1 := xCW_s1 (w := w) (a := a) (s := s) (i := bn) (v := m) (by omega) (by omega)
  have p2 := xCW_s2 (w := w) (a := a) (s := va_up s (20 + 3 * bn) m) (i := bn) (v := c) (by omega) (by omega)
  simp only [Int.toNat_natCast] at p1 p2
  have e2 : va_up (va_up s (20 + 3 * bn) m) (21 + 3 * bn) c = yS2 s bn m c := rfl
  rw [e2] at p2
  have q6 : yS2 s bn m c 6 = s 6 := by unfold yS2; rw [xk_up_n _ _ (by omega), xk_up_n _ _ (by omega)]
  have q7 : yS2 s bn m c 7 = s 7 := by unfold yS2; rw [xk_up_n _ _ (by omega), xk_up_n _ _ (by omega)]
  have qMK : yMK (yS2 s bn m c) (fun n => yS2 s bn m c (21 + 3 * n)) := by
    intro i hi
    have hh := hMK i hi
    have a1 : yS2 s bn m c (20 + 3 * i) = if i = bn then m else s (20 + 3 * i) := by
      unfold yS2
      rw [xk_up_n _ _ (by omega)]
      by_cases d : i = bn
      · subst d; rw [xk_up_s, if_pos rfl]
      · rw [xk_up_n _ _ (by omega), if_neg d]
    have a2 : yS2 s bn m c (21 + 3 * i) = if i = bn then c else s (21 + 3 * i) := by
      unfold yS2
      by_cases d : i = bn
      · subst d; rw [xk_up_s, if_pos rfl]
      · rw [xk_up_n _ _ (by omega), xk_up_n _ _ (by omega), if_neg d]
    show 0 ≤ yS2 s bn m c (20 + 3 * i) ∧ yS2 s bn m c (20 + 3 * i) ≤ 7 ∧ 0 ≤ yS2 s bn m c (21 + 3 * i) ∧ yS2 s bn m c (21 + 3 * i) ≤ 160
    rw [a1, a2]
    split <;> omega
  have b7 : 0 ≤ s 7 := hB.2.2.2.2.1
  have eT := yB_b qMK (s 7).toNat (by omega)
  have eH := yH_b qMK (s 7).toNat (by omega)
  -- the edition, the beats
  obtain ⟨t3, ht3⟩ : ∃ t3, t3 = va_up (yS2 s bn m c) 6 (s 6 + 1) := ⟨_, rfl⟩
  obtain ⟨t4, ht4⟩ : ∃ t4, t4 = va_up t3 10 (yB (yS2 s bn m c) (s 7).toNat) := ⟨_, rfl⟩
  have z3 : ∀ j, j ≠ 6 → t3 j = yS2 s bn m c j := fun j hj => by rw [ht3, xk_up_n _ _ hj]
  have z4 : ∀ j, j ≠ 6 → j ≠ 10 → t4 j = yS2 s bn m c j := fun j hj hj2 => by rw [ht4, xk_up_n _ _ hj2, z3 j hj]
  have p3 : xk_pV (xCW w a (yS2 s bn m c)) (some a) 1 6 (.int (iI (s 6 + 1))) = some (xCW w a t3) := by rw [ht3]; exact xCW_pV (by omega)
  have f3 := x0_firstBeat (xCW_C w a t3) (b := s 7) b7 b4
  rw [yB_c (t := yS2 s bn m c) (fun i => z3 _ (by omega))] at f3
  have p4 : xk_pV (xCW w a t3) (some a) 1 10 (.int (iI (yB (yS2 s bn m c) (s 7).toNat))) = some (xCW w a t4) := by rw [ht4]; exact xCW_pV (by omega)
  have t37 : t3 7 = s 7 := (z3 7 (by omega)).trans q7
  have t47 : t4 7 = s 7 := (z4 7 (by omega) (by omega)).trans q7
  have kMK : yMK t4 (fun n => yS2 s bn m c (21 + 3 * n)) := by
    intro i hi
    have := qMK i hi
    rw [z4 _ (by omega) (by omega)]
    exact this
  have lay := x0_layOut (ro := a + 3) (K := fun n => yS2 s bn m c (21 + 3 * n)) (g := fun i => t4 (22 + 3 * i)) (oth := -1) (oc := 0) (xCW_C w a t4) (by rw [t47]; omega) (by omega) (by omega) (by omega) (xCW_C w a t4).2.2.2 kMK (fun n _ => by rw [if_neg (by omega), z4 _ (by omega) (by omega)]) (by omega)
  rw [xCW_yW, t47] at lay
  have gE : (fun i => t4 (22 + 3 * i)) = fun i => s (22 + 3 * i) := by
    funext i
    rw [z4 _ (by omega) (by omega)]
    unfold yS2
    rw [xk_up_n _ _ (by omega), xk_up_n _ _ (by omega)]
  rw [gE, yH_c (t := yS2 s bn m c) _ (fun i => z4 _ (by omega) (by omega)), yL_c (t := yS2 s bn m c) _ _ (fun i => z4 _ (by omega) (by omega))] at lay
  have ru := x4_roundedUp (x := yH (yS2 s bn m c) (fun n => yS2 s bn m c (21 + 3 * n)) (s 7).toNat) (n := 4) (xCW w a (yO t4 (yL (yS2 s bn m c) (fun n => yS2 s bn m c (21 + 3 * n)) (fun i => s (22 + 3 * i)) (s 7).toNat))) (by omega) (by omega)
  have p5 := xCW_pV (w := w) (a := a) (k := 11) (s := yO t4 (yL (yS2 s bn m c) (fun n => yS2 s bn m c (21 + 3 * n)) (fun i => s (22 + 3 * i)) (s 7).toNat)) (v := (yH (yS2 s bn m c) (fun n => yS2 s bn m c (21 + 3 * n)) (s 7).toNat + 4 - 1) / 4) (by omega)
  have fin : va_up (yO t4 (yL (yS2 s bn m c) (fun n => yS2 s bn m c (21 + 3 * n)) (fun i => s (22 + 3 * i)) (s 7).toNat)) 11 ((yH (yS2 s bn m c) (fun n => yS2 s bn m c (21 + 3 * n)) (s 7).toNat + 4 - 1) / 4) = ySet s bn m c := by
    funext j
    unfold ySet
    by_cases d1 : j = 11
    · subst d1
      rw [xk_up_s, if_neg (by omega), if_neg (by omega), if_pos rfl]
      congr 1
      omega
    · rw [xk_up_n _ _ d1]
      by_cases d2 : j = 6
      · subst d2
        rw [yO_n _ _ (by omega), if_pos rfl, ht4, xk_up_n _ _ (by omega), ht3, xk_up_s]
      · rw [if_neg d2]
        by_cases d3 : j = 10
        · subst d3
          rw [yO_n _ _ (by omega), if_pos rfl, ht4, xk_up_s]
        · rw [if_neg d3, if_neg d1]
          by_cases d4 : 22 ≤ j ∧ j % 3 = 1
          · rw [if_pos d4]
            unfold yO
            rw [if_pos d4]
          · rw [if_neg d4, yO_n _ _ (by omega), z4 _ d2 d3]
  rw [fin] at p5
  have u1 : iI (s 6) + (1 : Int32) = iI (s 6 + 1) := by rw [iL_1, iI_add]
  conv => lhs; rw [w0]
  unfold f_X0_setBar
  rw [if_neg c1, g7, Option.bind_some, if_neg c2, if_pos c3, r8, Option.bind_some, p1, Option.bind_some, r9, Option.bind_some, p2, Option.bind_some, g6, Option.bind_some, q6, u1, p3, Option.bind_some, g7, Option.bind_some, ri, Option.bind_some, t37, f3, Option.bind_some]
  show (xk_pV (xCW w a t3) (some a) 1 10 (.int (iI (yB (yS2 s bn m c) (s 7).toNat)))).bind _ = _
  rw [p4, Option.bind_some, r12, Option.bind_some, ri, Option.bind_some, iL_m1, iL_0, lay, Option.bind_some]
  show (f_X4_roundedUp (iI (yH (yS2 s bn m c) (fun n => yS2 s bn m c (21 + 3 * n)) (s 7).toNat)) 4 (xCW w a (yO t4 (yL (yS2 s bn m c) (fun n => yS2 s bn m c (21 + 3 * n)) (fun i => s (22 + 3 * i)) (s 7).toNat)))).bind _ = _
  rw [iL_4, ru, Option.bind_some]
  show (xk_pV (xCW w a (yO t4 (yL (yS2 s bn m c) (fun n => yS2 s bn m c (21 + 3 * n)) (fun i => s (22 + 3 * i)) (s 7).toNat))) (some a) 1 11 (.int (iI ((yH (yS2 s bn m c) (fun n => yS2 s bn m c (21 + 3 * n)) (s 7).toNat + 4 - 1) / 4)))).bind _ = _
  rw [p5, Option.bind_some]
