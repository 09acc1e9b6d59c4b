theorem xi_ite {p : Prop} [Decidable p] (a b : Int) : (if p then iI a else iI b) = iI (if p then a else b) := by split <;> rfl
/-- a cue at a, its three rows behind it; s holds its numbers: fields at 0.., meters at 20 + 3 i, clicks at 21 + 3 i, offsets at 22 + 3 i -/
def xC (w : xWd) (a : Nat) (s : Nat → Int) : Prop :=
  w.1 a = some (.inr (1, [.int (iI (s 0)), .int (iI (s 1)), .int (iI (s 2)), .int (iI (s 3)), .int (iI (s 4)), .int (iI (s 5)), .int (iI (s 6)), .int (iI (s 7)), .ref (a + 1), .ref (a + 2), .int (iI (s 10)), .int (iI (s 11)), .ref (a + 3)])) ∧
  w.1 (a + 1) = some (.inl (0, 9, .inl (fun i => iI (s (20 + 3 * i))))) ∧ w.1 (a + 2) = some (.inl (0, 9, .inl (fun i => iI (s (21 + 3 * i))))) ∧ w.1 (a + 3) = some (.inl (0, 63, .inl (fun i => iI (s (22 + 3 * i)))))
/-- what a cue's numbers keep to -/
def xCB (s : Nat → Int) : Prop := 0 ≤ s 1 ∧ s 1 ≤ 50000 ∧ 0 ≤ s 6 ∧ s 6 ≤ 5000 ∧ 0 ≤ s 7 ∧ s 7 ≤ 9 ∧ 0 ≤ s 10 ∧ s 10 ≤ 63 ∧ 0 ≤ s 11 ∧ s 11 ≤ 3000 ∧ (∀ i, i < 9 → 0 ≤ s (20 + 3 * i) ∧ s (20 + 3 * i) ≤ 7 ∧ 0 ≤ s (21 + 3 * i) ∧ s (21 + 3 * i) ≤ 160) ∧ ∀ i, i < 63 → 0 ≤ s (22 + 3 * i) ∧ s (22 + 3 * i) ≤ 3000
theorem x0_end {w : xWd} {a : Nat} {s : Nat → Int} (h : xC w a s) : f_X0_end (some a) w = some (iI (s 1 + s 11), w) := by
  unfold f_X0_end
  rw [xr_gI (k := 1) h.1 rfl, Option.bind_some, xr_gI (k := 11) h.1 rfl, Option.bind_some, iI_add]
/-- the meters before bar n -/
def yB (s : Nat → Int) : Nat → Int
  | 0 => 0
  | n + 1 => yB s n + s (20 + 3 * n)
theorem x0_firstBeat_l {w : xWd} {a : Nat} {s : Nat → Int} (h : xC w a s) : ∀ (r k fu : Nat) (b : Int), k + r = b.toNat → 0 ≤ b → b ≤ 9 → r < fu → f_X0_firstBeat_4 fu (some a) (iI b) (iI (yB s k)) (iI k) w = some (iI (yB s b.toNat), w) := by
  intro r
  induction r with
  | zero =>
    intro k fu b h1 h2 h3 h4
    obtain ⟨fu, rfl⟩ : ∃ f, fu = f + 1 := ⟨fu - 1, by omega⟩
    have c1 : iI b ≤ iI k := by rw [iI_le (by omega) (by omega)]; omega
    unfold f_X0_firstBeat_4 f_X0_firstBeat_30
    rw [if_pos c1, ← h1, Nat.add_zero]
  | succ r ih =>
    intro k fu b h1 h2 h3 h4
    obtain ⟨fu, rfl⟩ : ∃ f, fu = f + 1 := ⟨fu - 1, by omega⟩
    unfold f_X0_firstBeat_4
    have e := xr_lI h.2.1 (i := (k : Int)) (by omega) (by omega) (by omega)
    simp only [Int.toNat_natCast] at e
    have c1 : ¬ iI b ≤ iI k := by rw [iI_le (by omega) (by omega)]; omega
    have c2 : ¬ (9 : Int32) ≤ iI k := by rw [iL_9, iI_le (by omega) (by omega)]; omega
    rw [if_neg c1, if_neg c2, xr_gR (k := 8) h.1 rfl, Option.bind_some, e, Option.bind_some, iI_add, iL_1, iI_add]
    exact ih (k + 1) fu b (by omega) h2 h3 (by omega)
theorem x0_firstBeat {w : xWd} {a : Nat} {s : Nat → Int} (h : xC w a s) {b : Int} (h2 : 0 ≤ b) (h3 : b ≤ 9) : f_X0_firstBeat (some a) (iI b) w = some (iI (yB s b.toNat), w) :=
  x0_firstBeat_l h b.toNat 0 4096 b (by omega) h2 h3 (by omega)
theorem x0_beatFrame {w : xWd} {a : Nat} {s : Nat → Int} (h : xC w a s) (hB : xCB s) {b : Int} (h2 : 0 ≤ b) (h3 : b < s 10) : f_X0_beatFrame (some a) (iI b) w = some (iI (s 1 + s (22 + 3 * b.toNat)), w) := by
  have hb : s 10 ≤ 63 := hB.2.2.2.2.2.2.2.1
  have e := xr_lI h.2.2.2 (i := b) h2 (by omega) (by omega)
  have c1 : ¬ iI b < (0 : Int32) := by rw [iL_0, iI_lt (by omega) (by omega)]; omega
  have c2 : ¬ iI (s 10) ≤ iI b := by rw [iI_le (by omega) (by omega)]; omega
  have c3 : iI b < Int32.ofNat 63 := by rw [xi_nat, iI_lt (by omega) (by omega)]; omega
  have eL := xr_len (d := (63, .inl (fun i => iI (s (22 + 3 * i))))) h.2.2.2 (by decide)
  unfold f_X0_beatFrame f_X0_beatFrame_39
  rw [if_neg c1, xr_gI (k := 10) h.1 rfl, Option.bind_some, if_neg c2, xr_gR (k := 12) h.1 rfl, Option.bind_some, eL, Option.bind_some, if_pos c3, xr_gI (k := 1) h.1 rfl, Option.bind_some, Option.bind_some, e, Option.bind_some, iI_add]
theorem x0_mostNotes_l {w : xWd} {a : Nat} {s : Nat → Int} (h : xC w a s) (hB : xCB s) : ∀ (r k fu : Nat), (k : Int) + r = s 7 → r < fu → f_X0_mostNotes_4 fu (some a) (iI (10 ^ k)) (iI k) w = some (iI (10 ^ (s 7).toNat - 1), w) := by
  have hb : s 7 ≤ 9 := hB.2.2.2.2.2.1
  intro r
  induction r with
  | zero =>
    intro k fu h1 h4
    obtain ⟨fu, rfl⟩ : ∃ f, fu = f + 1 := ⟨fu - 1, by omega⟩
    unfold f_X0_mostNotes_4
    have e : (s 7).toNat = k := by omega
    rw [xr_gI (k := 7) h.1 rfl, Option.bind_some, if_pos, iL_1, iI_sub, e]
    rw [iI_le (by omega) (by omega)]; omega
  | succ r ih =>
    intro k fu h1 h4
    obtain ⟨fu, rfl⟩ : ∃ f, fu = f + 1 := ⟨fu - 1, by omega⟩
    unfold f_X0_mostNotes_4
    rw [xr_gI (k := 7) h.1 rfl, Option.bind_some, if_neg, iL_1, iI_add, iL_10, iI_mul]
    · exact ih (k + 1) fu (by omega) (by omega)
    · rw [iI_le (by omega) (by omega)]; omega
theorem x0_mostNotes {w : xWd} {a : Nat} {s : Nat → Int} (h : xC w a s) (hB : xCB s) : f_X0_mostNotes (some a) w = some (iI (10 ^ (s 7).toNat - 1), w) := by
  have h0 : 0 ≤ s 7 := hB.2.2.2.2.1
  have hb : s 7 ≤ 9 := hB.2.2.2.2.2.1
  exact x0_mostNotes_l h hB (s 7).toNat 0 4096 (by omega) (by omega)
/-- is a cue touched by a cut -/
def yTouch (s : Nat → Int) (f n : Int) : Bool := if 0 < n then decide (s 1 < f ∧ f < s 1 + s 11) else decide (0 < s 7 ∧ s 1 < f - n ∧ f < s 1 + s 11)
theorem x0_isTouched {w : xWd} {a : Nat} {s : Nat → Int} (h : xC w a s) (hB : xCB s) {f n : Int} (hf : 0 ≤ f ∧ f ≤ 50000) (hn : -1000 ≤ n ∧ n ≤ 1000) : f_X0_isTouched (some a) (iI f) (iI n) w = some (iI (if yTouch s f n then 1 else 0), w) := by
  obtain ⟨b1, b2, -, -, b3, b4, -, -, b5, b6, -⟩ := hB
  have z0 : xk_zb (iI 0) = some () := by decide
  have z1 : xk_zb (iI 1) = some () := by decide
  have g1 := xr_gI (k := 1) h.1 rfl
  have g7 := xr_gI (k := 7) h.1 rfl
  unfold f_X0_isTouched f_X0_isTouched_24 f_X0_isTouched_55 f_X0_isTouched_25 f_X0_isTouched_56
  rw [g1, g7, x0_end h, xr_is h.1]
  simp (disch := omega) only [Option.bind_some, iL_0, iL_1, z0, z1, iI_sub, iI_le]
  by_cases c : n ≤ 0
  · rw [if_pos c]
    by_cases c1 : s 7 ≤ 0
    · have e : yTouch s f n = false := by unfold yTouch; rw [if_neg (by omega)]; simp only [decide_eq_false_iff_not, decide_eq_true_eq]; omega
      rw [if_pos c1, e]; rfl
    · rw [if_neg c1]
      by_cases c2 : f - n ≤ s 1
      · have e : yTouch s f n = false := by unfold yTouch; rw [if_neg (by omega)]; simp only [decide_eq_false_iff_not, decide_eq_true_eq]; omega
        rw [if_pos c2, e]; rfl
      · rw [if_neg c2]
        by_cases c3 : s 1 + s 11 ≤ f
        · have e : yTouch s f n = false := by unfold yTouch; rw [if_neg (by omega)]; simp only [decide_eq_false_iff_not, decide_eq_true_eq]; omega
          rw [if_pos c3, e]; rfl
        · have e : yTouch s f n = true := by unfold yTouch; rw [if_neg (by omega)]; simp only [decide_eq_false_iff_not, decide_eq_true_eq]; omega
          rw [if_neg c3, e]; rfl
  · rw [if_neg c]
    by_cases c2 : f ≤ s 1
    · have e : yTouch s f n = false := by unfold yTouch; rw [if_pos (by omega)]; simp only [decide_eq_false_iff_not, decide_eq_true_eq]; omega
      rw [if_pos c2, e]; rfl
    · rw [if_neg c2]
      by_cases c3 : s 1 + s 11 ≤ f
      · have e : yTouch s f n = false := by unfold yTouch; rw [if_pos (by omega)]; simp only [decide_eq_false_iff_not, decide_eq_true_eq]; omega
        rw [if_pos c3, e]; rfl
      · have e : yTouch s f n = true := by unfold yTouch; rw [if_pos (by omega)]; simp only [decide_eq_false_iff_not, decide_eq_true_eq]; omega
        rw [if_neg c3, e]; rfl
/-- |x| -/
def yA (x : Int) : Int := if 0 ≤ x then x else 0 - x
theorem xi_abs {x : Int} (h : -2147483648 < x ∧ x < 2147483648) : (if (0 : Int32) ≤ iI x then iI x else 0 - iI x) = iI (yA x) := by
  rw [iI_abs h]
  unfold yA
  split
  · rfl
  · congr 1; omega
theorem yA_0 (x : Int) : 0 ≤ yA x := by unfold yA; split <;> omega
/-- far of beat i of a cue, at start st, from frame f -/
def yF (s : Nat → Int) (st f : Int) (i : Nat) : Int := yA (st + s (22 + 3 * i) - f)
/-- the nearest beat and its miss, of the first n -/
def yN (s : Nat → Int) (f : Int) : Nat → Int × Int
  | 0 => (-1, -1)
  | n + 1 => if (yN s f n).2 = -1 then (n, yF s (s 1) f n) else if (yN s f n).2 ≤ yF s (s 1) f n then yN s f n else (n, yF s (s 1) f n)
theorem yF_b {s : Nat → Int} {st f : Int} {i : Nat} (h1 : -1000 ≤ st ∧ st ≤ 60000) (h2 : -1000 ≤ f ∧ f ≤ 60000) (h3 : 0 ≤ s (22 + 3 * i) ∧ s (22 + 3 * i) ≤ 3000) : 0 ≤ yF s st f i ∧ yF s st f i ≤ 70000 := by
  unfold yF yA
  split <;> omega
theorem x0_nearestBeat_l {w : xWd} {a : Nat} {s : Nat → Int} (h : xC w a s) (hB : xCB s) {f : Int} (hf : 0 ≤ f ∧ f ≤ 60000) : ∀ (r k fu : Nat), (k : Int) + r = s 10 → r < fu → (-1 ≤ (yN s f k).2 ∧ (yN s f k).2 ≤ 70000) → f_X0_nearestBeat_7 fu (some a) (iI f) (iI (yN s f k).1) (iI (yN s f k).2) (iI k) w = some (iI (yN s f (s 10).toNat).1, w) := by
  obtain ⟨b1, b2, -, -, -, -, b3, b4, -, -, -, b5⟩ := hB
  have g1 := xr_gI (k := 1) h.1 rfl
  have g10 := xr_gI (k := 10) h.1 rfl
  have g12 := xr_gR (k := 12) h.1 rfl
  have eL := xr_len (d := (63, .inl (fun i => iI (s (22 + 3 * i))))) h.2.2.2 (by decide)
  intro r
  induction r with
  | zero =>
    intro k fu h1 h4 h5
    obtain ⟨fu, rfl⟩ : ∃ f, fu = f + 1 := ⟨fu - 1, by omega⟩
    have c1 : iI (s 10) ≤ iI k := by rw [iI_le (by omega) (by omega)]; omega
    have e : (s 10).toNat = k := by omega
    unfold f_X0_nearestBeat_7 f_X0_nearestBeat_68
    rw [g10, Option.bind_some, if_pos c1, e]
  | succ r ih =>
    intro k fu h1 h4 h5
    obtain ⟨fu, rfl⟩ : ∃ f, fu = f + 1 := ⟨fu - 1, by omega⟩
    have bk := b5 k (by omega)
    have hb := yF_b (s := s) (st := s 1) (f := f) (i := k) (by omega) (by omega) bk
    have c1 : ¬ iI (s 10) ≤ iI k := by rw [iI_le (by omega) (by omega)]; omega
    have c2 : ¬ Int32.ofNat 63 ≤ iI k := by rw [xi_nat, iI_le (by omega) (by omega)]; omega
    have e := xr_lI h.2.2.2 (i := (k : Int)) (by omega) (by omega) (by omega)
    simp only [Int.toNat_natCast] at e
    have ed : (if 0 ≤ iI (s 1) + iI (s (22 + 3 * k)) - iI f then iI (s 1) + iI (s (22 + 3 * k)) - iI f else 0 - (iI (s 1) + iI (s (22 + 3 * k)) - iI f)) = iI (yF s (s 1) f k) := by
      rw [iI_add, iI_sub]
      exact xi_abs (by omega)
    have e3 : iI (k : Int) + (1 : Int32) = iI ((k + 1 : Nat) : Int) := by rw [iL_1, iI_add]; rfl
    unfold f_X0_nearestBeat_7 f_X0_nearestBeat_56 f_X0_nearestBeat_62
    rw [g10, Option.bind_some, if_neg c1, g12, Option.bind_some, eL, Option.bind_some, if_neg c2, g1, Option.bind_some, Option.bind_some, e, Option.bind_some, ed, e3]
    have i2 := ih (k + 1) fu (by omega) (by omega)
    have eN : yN s f (k + 1) = if (yN s f k).2 = -1 then ((k : Int), yF s (s 1) f k) else if (yN s f k).2 ≤ yF s (s 1) f k then yN s f k else ((k : Int), yF s (s 1) f k) := rfl
    by_cases d1 : (yN s f k).2 = -1
    · have d1' : iI (yN s f k).2 = (-1 : Int32) := by rw [d1, iL_m1]
      rw [if_pos d1'] 
      rw [eN, if_pos d1] at i2
      exact i2 (by omega)
    · have d1' : ¬ iI (yN s f k).2 = (-1 : Int32) := by rw [iL_m1, iI_eq (by omega) (by omega)]; exact d1
      rw [if_neg d1']
      rw [eN, if_neg d1] at i2
      by_cases d2 : (yN s f k).2 ≤ yF s (s 1) f k
      · rw [if_pos d2] at i2
        rw [if_pos (by rw [iI_le (by omega) (by omega)]; exact d2)]
        exact i2 h5
      · rw [if_neg d2] at i2
        rw [if_neg (by rw [iI_le (by omega) (by omega)]; exact d2)]
        exact i2 (by omega)
theorem x0_nearestBeat {w : xWd} {a : Nat} {s : Nat → Int} (h : xC w a s) (hB : xCB s) {f : Int} (hf : 0 ≤ f ∧ f ≤ 60000) : f_X0_nearestBeat (some a) (iI f) w = some (iI (yN s f (s 10).toNat).1, w) := by
  have h0 : 0 ≤ s 10 := hB.2.2.2.2.2.2.1
  unfold f_X0_nearestBeat
  rw [iL_m1, iL_0]
  exact x0_nearestBeat_l h hB hf (s 10).toNat 0 4096 (by omega) (by have := hB.2.2.2.2.2.2.2.1; omega) ⟨by show (-1 : Int) ≤ -1; omega, by show (-1 : Int) ≤ 70000; omega⟩
/-- what yN says: nothing of none; else a beat below n, and its miss, and none is nearer -/
theorem yN_s {s : Nat → Int} {f : Int} : ∀ n : Nat, 0 < n → ∃ j : Nat, j < n ∧ yN s f n = ((j : Int), yF s (s 1) f j) ∧ ∀ i, i < n → yF s (s 1) f j ≤ yF s (s 1) f i := by
  intro n
  induction n with
  | zero => intro h; omega
  | succ n ih =>
    intro _
    have eN : yN s f (n + 1) = if (yN s f n).2 = -1 then ((n : Int), yF s (s 1) f n) else if (yN s f n).2 ≤ yF s (s 1) f n then yN s f n else ((n : Int), yF s (s 1) f n) := rfl
    by_cases h0 : n = 0
    · subst h0
      refine ⟨0, by omega, rfl, fun i hi => ?_⟩
      rw [show i = 0 by omega]
      exact Int.le_refl _
    · obtain ⟨j, h1, h2, h3⟩ := ih (by omega)
      have p := yA_0 (s 1 + s (22 + 3 * j) - f)
      have p2 : yF s (s 1) f j = yA (s 1 + s (22 + 3 * j) - f) := rfl
      have h4 : (yN s f n).2 = yF s (s 1) f j := by rw [h2]
      rw [eN, if_neg (by omega)]
      by_cases c : (yN s f n).2 ≤ yF s (s 1) f n
      · rw [if_pos c]
        refine ⟨j, by omega, h2, fun i hi => ?_⟩
        by_cases e : i = n
        · subst e; omega
        · exact h3 i (by omega)
      · rw [if_neg c]
        refine ⟨n, by omega, rfl, fun i hi => ?_⟩
        by_cases e : i = n
        · subst e; omega
        · have := h3 i (by omega)
          omega
/-- the miss of a cue -/
def yM (s : Nat → Int) (f : Int) : Int := (yN s f (s 10).toNat).2
theorem x0_missOf {w : xWd} {a : Nat} {s : Nat → Int} (h : xC w a s) (hB : xCB s) {f : Int} (hf : 0 ≤ f ∧ f ≤ 60000) : f_X0_missOf (some a) (iI f) w = some (iI (yM s f), w) := by
  have h0 : 0 ≤ s 10 := hB.2.2.2.2.2.2.1
  have h1 : s 10 ≤ 63 := hB.2.2.2.2.2.2.2.1
  have g := x0_nearestBeat h hB hf
  unfold f_X0_missOf f_X0_missOf_25
  rw [xr_is h.1, Option.bind_some, g, Option.bind_some]
  by_cases c : s 10 = 0
  · have e : yN s f (s 10).toNat = (-1, -1) := by rw [c]; rfl
    have e2 : iI (yN s f (s 10).toNat).1 = (-1 : Int32) := by rw [e, iL_m1]
    rw [if_pos e2]
    unfold yM
    rw [e, iL_m1]
  · obtain ⟨j, j1, j2, j3⟩ := yN_s (s := s) (f := f) (s 10).toNat (by omega)
    have e2 : ¬ iI (yN s f (s 10).toNat).1 = (-1 : Int32) := by rw [j2, iL_m1, iI_eq (by omega) (by omega)]; omega
    have bj := hB.2.2.2.2.2.2.2.2.2.2.2 j (by omega)
    have b1 := hB.1
    have b2 := hB.2.1
    rw [if_neg e2]
    show ((xk_is w (some a) 1).bind _) = _
    rw [xr_is h.1, Option.bind_some]
    unfold yM
    rw [j2]
    have ef := x0_beatFrame h hB (b := (j : Int)) (by omega) (by omega)
    rw [Int.toNat_natCast] at ef
    show (f_X0_beatFrame (some a) (iI (j : Int)) w).bind _ = _
    rw [ef, Option.bind_some]
    show some ((if 0 ≤ iI (s 1 + s (22 + 3 * j)) - iI f then iI (s 1 + s (22 + 3 * j)) - iI f else 0 - (iI (s 1 + s (22 + 3 * j)) - iI f)), w) = _
    rw [iI_sub, xi_abs (by omega)]
    rfl
/-- a beat within tol, of the first n from start st by the row o -/
def yReach (o : Nat → Int) (st f tol : Int) (n : Nat) : Bool := (List.range n).any fun i => decide (yA (st + o i - f) ≤ tol)
theorem x0_reaches_l {w : xWd} {a ro : Nat} {s o : Nat → Int} (h : xC w a s) (hB : xCB s) (hr : w.1 ro = some (.inl (0, 63, .inl (fun i => iI (o i))))) (ho : ∀ i, i < 63 → 0 ≤ o i ∧ o i ≤ 3000) {f tol st : Int} (hf : 0 ≤ f ∧ f ≤ 60000) (ht : 0 ≤ tol ∧ tol ≤ 100) (hs : -1000 ≤ st ∧ st ≤ 60000) : ∀ (r k fu : Nat), (k : Int) + r = s 10 → r < fu → (∀ i, i < k → ¬ yA (st + o i - f) ≤ tol) → f_X0_reaches_3 fu (some a) (iI f) (iI tol) (iI st) (some ro) (iI k) w = some (iI (if yReach o st f tol (s 10).toNat then 1 else 0), w) := by
  obtain ⟨b1, b2, -, -, -, -, b3, b4, -, -, -, b5⟩ := hB
  have g10 := xr_gI (k := 10) h.1 rfl
  have eL := xr_len (d := (63, .inl (fun i => iI (o i)))) hr (by decide)
  intro r
  induction r with
  | zero =>
    intro k fu h1 h4 h5
    obtain ⟨fu, rfl⟩ : ∃ f, fu = f + 1 := ⟨fu - 1, by omega⟩
    have c1 : iI (s 10) ≤ iI k := by rw [iI_le (by omega) (by omega)]; omega
    have e : yReach o st f tol (s 10).toNat = false := by
      unfold yReach
      rw [List.any_eq_false]
      intro i hi
      have hi := List.mem_range.mp hi
      rw [decide_eq_true_eq]
      exact h5 i (by omega)
    unfold f_X0_reaches_3 f_X0_reaches_44
    rw [g10, Option.bind_some, if_pos c1, e]
    rfl
  | succ r ih =>
    intro k fu h1 h4 h5
    obtain ⟨fu, rfl⟩ : ∃ f, fu = f + 1 := ⟨fu - 1, by omega⟩
    have bk := ho k (by omega)
    have c1 : ¬ iI (s 10) ≤ iI k := by rw [iI_le (by omega) (by omega)]; omega
    have c2 : ¬ Int32.ofNat 63 ≤ iI k := by rw [xi_nat, iI_le (by omega) (by omega)]; omega
    have e := xr_lI hr (i := (k : Int)) (by omega) (by omega) (by omega)
    simp only [Int.toNat_natCast] at e
    have ed : (if 0 ≤ iI st + iI (o k) - iI f then iI st + iI (o k) - iI f else 0 - (iI st + iI (o k) - iI f)) = iI (yA (st + o k - f)) := by
      rw [iI_add, iI_sub]
      exact xi_abs (by omega)
    have e3 : iI (k : Int) + (1 : Int32) = iI ((k + 1 : Nat) : Int) := by rw [iL_1, iI_add]; rfl
    have hb : 0 ≤ yA (st + o k - f) ∧ yA (st + o k - f) ≤ 70000 := by unfold yA; split <;> omega
    unfold f_X0_reaches_3 f_X0_reaches_44
    rw [g10, Option.bind_some, if_neg c1, eL, Option.bind_some, if_neg c2, e, Option.bind_some, ed, e3]
    by_cases d : tol < yA (st + o k - f)
    · rw [if_pos (by rw [iI_lt (by omega) (by omega)]; exact d)]
      refine ih (k + 1) fu (by omega) (by omega) (fun i hi => ?_)
      by_cases q : i = k
      · subst q; omega
      · exact h5 i (by omega)
    · have e : yReach o st f tol (s 10).toNat = true := by
        unfold yReach
        rw [List.any_eq_true]
        refine ⟨k, List.mem_range.mpr (by omega), ?_⟩
        rw [decide_eq_true_eq]
        omega
      rw [if_neg (by rw [iI_lt (by omega) (by omega)]; exact d), e]
      rfl
theorem x0_reaches {w : xWd} {a ro : Nat} {s o : Nat → Int} (h : xC w a s) (hB : xCB s) (hr : w.1 ro = some (.inl (0, 63, .inl (fun i => iI (o i))))) (ho : ∀ i, i < 63 → 0 ≤ o i ∧ o i ≤ 3000) {f tol st : Int} (hf : 0 ≤ f ∧ f ≤ 60000) (ht : 0 ≤ tol ∧ tol ≤ 100) (hs : -1000 ≤ st ∧ st ≤ 60000) : f_X0_reaches (some a) (iI f) (iI tol) (iI st) (some ro) w = some (iI (if yReach o st f tol (s 10).toNat then 1 else 0), w) := by
  have h0 : 0 ≤ s 10 := hB.2.2.2.2.2.2.1
  have h1 : s 10 ≤ 63 := hB.2.2.2.2.2.2.2.1
  exact x0_reaches_l h hB hr ho hf ht hs (s 10).toNat 0 4096 (by omega) (by omega) (fun i hi => absurd hi (by omega))
