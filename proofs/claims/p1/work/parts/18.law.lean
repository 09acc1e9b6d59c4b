/-! the law on one call -/
section YL
theorem y_lg (x : Int64) : lg_cmp x x = 0 := by simp [lg_cmp]
theorem y_tail {z : Nat} {k r : Int32} {wB : xWd} {fs : List Value} (gB : wB.1 (z + 10) = some (.inr (5, .int k :: fs))) (oB : k = 0 → yOW z r.toInt64 wB) (NX : xWd → Option (Int32 × xWd)) (hN : NX wB = some (1, wB)) :
    (xk_is wB (some (z + 10)) 5).bind (fun _ => (f_X8_thrown (some (z + 10)) wB).bind (fun q12 => if q12.1 = k then if k = (0 : Int32) then (xk_lL q12.2 (some (z + 15)) (0 : Int32)).bind (fun v16 => if lg_cmp v16 r.toInt64 = (0 : Int32) then NX q12.2 else some ((0 : Int32), q12.2)) else NX q12.2 else some ((0 : Int32), q12.2))) = some (1, wB) := by
  have e : f_X8_thrown (some (z + 10)) wB = some (k, wB) := by
    unfold f_X8_thrown
    rw [xr_gI (k := 0) gB rfl]
    rfl
  rw [xr_is gB, Option.bind_some, e, Option.bind_some]
  show (if k = k then _ else _) = _
  rw [if_pos rfl]
  by_cases c : k = 0
  · obtain ⟨g, h1, h2⟩ := oB c
    have l : xk_lL wB (some (z + 15)) (0 : Int32) = some r.toInt64 := by
      simp only [xk_lL, xk_arr, h1, Option.bind_some]
      rw [if_pos ⟨trivial, by decide⟩]
      exact congrArg some h2
    rw [if_pos c]
    show (xk_lL wB (some (z + 15)) 0).bind _ = _
    rw [l, Option.bind_some, y_lg, if_pos rfl]
    exact hN
  · rw [if_neg c]
    exact hN
theorem y_rds {w : xWd} {b : Nat} {xs : Nat → Int32} (h : w.1 b = some (.inl (4, 6, .inl xs))) : xk_lI 0 w (some b) 0 = some (xs 0) ∧ xk_lI 0 w (some b) (0 + 1) = some (xs 1) ∧ xk_lI 0 w (some b) (0 + 2) = some (xs 2) ∧ xk_lI 0 w (some b) (0 + 3) = some (xs 3) ∧ xk_lI 0 w (some b) (0 + 4) = some (xs 4) ∧ xk_lI 0 w (some b) (0 + 5) = some (xs 5) ∧ xk_len w (some b) = some 6 := by
  refine ⟨?_, ?_, ?_, ?_, ?_, ?_, (xr_len (d := (6, .inl xs)) h (by decide)).trans rfl⟩
  · simp only [xk_lI, xk_arr, h, Option.bind_some]
    rw [if_pos ⟨Or.inr ⟨trivial, trivial⟩, by decide⟩]
    rfl
  · simp only [xk_lI, xk_arr, h, Option.bind_some]
    rw [if_pos ⟨Or.inr ⟨trivial, trivial⟩, by decide⟩]
    rfl
  · simp only [xk_lI, xk_arr, h, Option.bind_some]
    rw [if_pos ⟨Or.inr ⟨trivial, trivial⟩, by decide⟩]
    rfl
  · simp only [xk_lI, xk_arr, h, Option.bind_some]
    rw [if_pos ⟨Or.inr ⟨trivial, trivial⟩, by decide⟩]
    rfl
  · simp only [xk_lI, xk_arr, h, Option.bind_some]
    rw [if_pos ⟨Or.inr ⟨trivial, trivial⟩, by decide⟩]
    rfl
  · simp only [xk_lI, xk_arr, h, Option.bind_some]
    rw [if_pos ⟨Or.inr ⟨trivial, trivial⟩, by decide⟩]
    rfl
theorem y_end {w : xWd} {b : Nat} {xs : Nat → Int32} {x1 x2 x3 : Option Nat} (h : w.1 b = some (.inl (4, 6, .inl xs))) : f_L_law_23 1 (some b) x1 x2 x3 (0 + 6) w = some (1, w) := by
  unfold f_L_law_23
  rw [(y_rds h).2.2.2.2.2.2, Option.bind_some, if_pos (by decide)]
theorem yOK_of {z : Nat} {t : Int32} {w : xWd} {A : Option (Int32 × xWd)} {M : xWd → Option (Int32 × xWd)} (hm : yMW z t w) (h : A = some (1, yBp w) ∧ M (yBp w) = some (0, yTh z 1 (yBp w))) : yOK z w A M := yOK_no h.1 h.2 hm (by decide)
set_option maxHeartbeats 4000000 in
set_option maxRecDepth 100000 in
theorem y_step {z b : Nat} {t : Int32} {v : Int64} {w : xWd} {xs : Nat → Int32} (hx : yXW z w) (hm : yMW z t w) (ho : yOW z v w) (hb : b < z) (hs : w.1 b = some (.inl (4, 6, .inl xs))) : ∃ w1 : xWd, f_L_law_23 2 (some b) (some z) (some (z + 10)) (some (z + 15)) 0 w = some (1, w1) := by
  have rd := y_rds hs
  have fin : ∀ {k r : Int32} {wA wB : xWd} {fs : List Value}, yCl z w wA → wB.1 (z + 10) = some (.inr (5, .int k :: fs)) → yMo z wA wB → (k = 0 → yOW z r.toInt64 wA) → wA.1 b = some (.inl (4, 6, .inl xs)) ∧ xk_is wA (some (z + 10)) 5 = some () ∧ wB.1 b = some (.inl (4, 6, .inl xs)) ∧ (k = 0 → yOW z r.toInt64 wB) := by
    intro k r wA wB fs h1 h2 h3 h4
    have hA : wA.1 b = some (.inl (4, 6, .inl xs)) := (h1.2.2 b (Or.inl hb)).trans hs
    refine ⟨hA, (ymf (hm.cl h1)).1, (h3 b (Or.inl hb)).trans hA, fun hk => ?_⟩
    obtain ⟨g, g1, g2⟩ := h4 hk
    exact ⟨g, (h3 _ (Or.inr rfl)).trans g1, g2⟩
  unfold f_L_law_23
  rw [rd.2.2.2.2.2.2, Option.bind_some, if_neg (by decide), rd.1, Option.bind_some]
  by_cases c0 : xs 0 &&& 31 = 0
  · rw [if_pos c0]
    obtain ⟨k, wA, r, wB, fs, a1, a2, a3, a4, a5, a6⟩ := y_hit hx hm ho (xs 1) (xs 2)
    obtain ⟨b1, b2, b3, b4⟩ := fin a2 a4 a5 a6
    have rA := y_rds b1
    refine ⟨wB, ?_⟩
    simp only [rd, Option.bind_some, a1, rA, b2, a3]
    exact y_tail a4 b4 (fun w9 => f_L_law_217 (f_L_law_23 1) (some b) (some z) (some (z + 10)) (some (z + 15)) 0 w9) (y_end b3)
  rw [if_neg c0]
  by_cases c1 : xs 0 &&& 31 = 1
  · rw [if_pos c1]
    obtain ⟨k, wA, r, wB, fs, a1, a2, a3, a4, a5, a6⟩ := y_theme hx hm ho (xs 1)
    obtain ⟨b1, b2, b3, b4⟩ := fin a2 a4 a5 a6
    have rA := y_rds b1
    refine ⟨wB, ?_⟩
    simp only [rd, Option.bind_some, a1, rA, b2, a3]
    exact y_tail a4 b4 (fun w9 => f_L_law_273 (f_L_law_23 1) (some b) (some z) (some (z + 10)) (some (z + 15)) 0 w9) (y_end b3)
  rw [if_neg c1]
  by_cases c2 : xs 0 &&& 31 = 2
  · rw [if_pos c2]
    obtain ⟨k, wA, r, wB, fs, a1, a2, a3, a4, a5, a6⟩ := y_change hx hm ho (xs 1) (xs 2)
    obtain ⟨b1, b2, b3, b4⟩ := fin a2 a4 a5 a6
    have rA := y_rds b1
    refine ⟨wB, ?_⟩
    simp only [rd, Option.bind_some, a1, rA, b2, a3]
    exact y_tail a4 b4 (fun w9 => f_L_law_341 (f_L_law_23 1) (some b) (some z) (some (z + 10)) (some (z + 15)) 0 w9) (y_end b3)
  rw [if_neg c2]
  by_cases c3 : xs 0 &&& 31 = 3
  · rw [if_pos c3]
    obtain ⟨k, wA, r, wB, fs, a1, a2, a3, a4, a5, a6⟩ := y_cue hx hm ho (xs 1) (xs 2) (xs 3) (xs 4) (xs 5)
    obtain ⟨b1, b2, b3, b4⟩ := fin a2 a4 a5 a6
    have rA := y_rds b1
    refine ⟨wB, ?_⟩
    simp only [rd, Option.bind_some, a1, rA, b2, a3]
    exact y_tail a4 b4 (fun w9 => f_L_law_445 (f_L_law_23 1) (some b) (some z) (some (z + 10)) (some (z + 15)) 0 w9) (y_end b3)
  rw [if_neg c3]
  by_cases c4 : xs 0 &&& 31 = 4
  · rw [if_pos c4]
    obtain ⟨k, wA, r, wB, fs, a1, a2, a3, a4, a5, a6⟩ := yOK_of (A := f_L_bar (some z) (xs 1) (xs 2) (xs 3) (some (z + 15)) w) (M := f_X8_bar (some (z + 10)) (xs 1) (xs 2) (xs 3)) hm (y_bar hx hm (xs 1) (xs 2) (xs 3) (some (z + 15)))
    obtain ⟨b1, b2, b3, b4⟩ := fin a2 a4 a5 a6
    have rA := y_rds b1
    refine ⟨wB, ?_⟩
    simp only [rd, Option.bind_some, a1, rA, b2, a3]
    exact y_tail a4 b4 (fun w9 => f_L_law_525 (f_L_law_23 1) (some b) (some z) (some (z + 10)) (some (z + 15)) 0 w9) (y_end b3)
  rw [if_neg c4]
  by_cases c5 : xs 0 &&& 31 = 5
  · rw [if_pos c5]
    obtain ⟨k, wA, r, wB, fs, a1, a2, a3, a4, a5, a6⟩ := yOK_of (A := f_L_retime (some z) (xs 1) (xs 2) (xs 3) (xs 4) (some (z + 15)) w) (M := f_X8_retime (some (z + 10)) (xs 1) (xs 2) (xs 3) (xs 4)) hm (y_retime hx hm (xs 1) (xs 2) (xs 3) (xs 4) (some (z + 15)))
    obtain ⟨b1, b2, b3, b4⟩ := fin a2 a4 a5 a6
    have rA := y_rds b1
    refine ⟨wB, ?_⟩
    simp only [rd, Option.bind_some, a1, rA, b2, a3]
    exact y_tail a4 b4 (fun w9 => f_L_law_617 (f_L_law_23 1) (some b) (some z) (some (z + 10)) (some (z + 15)) 0 w9) (y_end b3)
  rw [if_neg c5]
  by_cases c6 : xs 0 &&& 31 = 6
  · rw [if_pos c6]
    obtain ⟨k, wA, r, wB, fs, a1, a2, a3, a4, a5, a6⟩ := yOK_of (A := f_L_shift (some z) (xs 1) (xs 2) (some (z + 15)) w) (M := f_X8_shift (some (z + 10)) (xs 1) (xs 2)) hm (y_shift hx hm (xs 1) (xs 2) (some (z + 15)))
    obtain ⟨b1, b2, b3, b4⟩ := fin a2 a4 a5 a6
    have rA := y_rds b1
    refine ⟨wB, ?_⟩
    simp only [rd, Option.bind_some, a1, rA, b2, a3]
    exact y_tail a4 b4 (fun w9 => f_L_law_685 (f_L_law_23 1) (some b) (some z) (some (z + 10)) (some (z + 15)) 0 w9) (y_end b3)
  rw [if_neg c6]
  by_cases c7 : xs 0 &&& 31 = 7
  · rw [if_pos c7]
    obtain ⟨k, wA, r, wB, fs, a1, a2, a3, a4, a5, a6⟩ := y_open hx hm ho (xs 1)
    obtain ⟨b1, b2, b3, b4⟩ := fin a2 a4 a5 a6
    have rA := y_rds b1
    refine ⟨wB, ?_⟩
    simp only [rd, Option.bind_some, a1, rA, b2, a3]
    exact y_tail a4 b4 (fun w9 => f_L_law_741 (f_L_law_23 1) (some b) (some z) (some (z + 10)) (some (z + 15)) 0 w9) (y_end b3)
  rw [if_neg c7]
  by_cases c8 : xs 0 &&& 31 = 8
  · rw [if_pos c8]
    obtain ⟨k, wA, r, wB, fs, a1, a2, a3, a4, a5, a6⟩ := yOK_of (A := f_L_take (some z) (xs 1) (xs 2) (xs 3) (some (z + 15)) w) (M := f_X8_take (some (z + 10)) (xs 1) (xs 2) (xs 3)) hm (y_take hx hm (xs 1) (xs 2) (xs 3) (some (z + 15)))
    obtain ⟨b1, b2, b3, b4⟩ := fin a2 a4 a5 a6
    have rA := y_rds b1
    refine ⟨wB, ?_⟩
    simp only [rd, Option.bind_some, a1, rA, b2, a3]
    exact y_tail a4 b4 (fun w9 => f_L_law_821 (f_L_law_23 1) (some b) (some z) (some (z + 10)) (some (z + 15)) 0 w9) (y_end b3)
  rw [if_neg c8]
  by_cases c9 : xs 0 &&& 31 = 9
  · rw [if_pos c9]
    obtain ⟨k, wA, r, wB, fs, a1, a2, a3, a4, a5, a6⟩ := yOK_of (A := f_L_close (some z)  (some (z + 15)) w) (M := f_X8_close (some (z + 10)) ) hm (y_close hx hm  (some (z + 15)))
    obtain ⟨b1, b2, b3, b4⟩ := fin a2 a4 a5 a6
    have rA := y_rds b1
    refine ⟨wB, ?_⟩
    simp only [rd, Option.bind_some, a1, rA, b2, a3]
    exact y_tail a4 b4 (fun w9 => f_L_law_865 (f_L_law_23 1) (some b) (some z) (some (z + 10)) (some (z + 15)) 0 w9) (y_end b3)
  rw [if_neg c9]
  by_cases c10 : xs 0 &&& 31 = 10
  · rw [if_pos c10]
    obtain ⟨k, wA, r, wB, fs, a1, a2, a3, a4, a5, a6⟩ := yOK_of (A := f_L_ofHit (some z) (xs 1) (xs 2) (some (z + 15)) w) (M := f_X8_ofHit (some (z + 10)) (xs 1) (xs 2)) hm (y_ofHit hx hm (xs 1) (xs 2) (some (z + 15)))
    obtain ⟨b1, b2, b3, b4⟩ := fin a2 a4 a5 a6
    have rA := y_rds b1
    refine ⟨wB, ?_⟩
    simp only [rd, Option.bind_some, a1, rA, b2, a3]
    exact y_tail a4 b4 (fun w9 => f_L_law_933 (f_L_law_23 1) (some b) (some z) (some (z + 10)) (some (z + 15)) 0 w9) (y_end b3)
  rw [if_neg c10]
  by_cases c11 : xs 0 &&& 31 = 11
  · rw [if_pos c11]
    obtain ⟨k, wA, r, wB, fs, a1, a2, a3, a4, a5, a6⟩ := yOK_of (A := f_L_ofCue (some z) (xs 1) (xs 2) (some (z + 15)) w) (M := f_X8_ofCue (some (z + 10)) (xs 1) (xs 2)) hm (y_ofCue hx hm (xs 1) (xs 2) (some (z + 15)))
    obtain ⟨b1, b2, b3, b4⟩ := fin a2 a4 a5 a6
    have rA := y_rds b1
    refine ⟨wB, ?_⟩
    simp only [rd, Option.bind_some, a1, rA, b2, a3]
    exact y_tail a4 b4 (fun w9 => f_L_law_1001 (f_L_law_23 1) (some b) (some z) (some (z + 10)) (some (z + 15)) 0 w9) (y_end b3)
  rw [if_neg c11]
  by_cases c12 : xs 0 &&& 31 = 12
  · rw [if_pos c12]
    obtain ⟨k, wA, r, wB, fs, a1, a2, a3, a4, a5, a6⟩ := yOK_of (A := f_L_ofBar (some z) (xs 1) (xs 2) (xs 3) (some (z + 15)) w) (M := f_X8_ofBar (some (z + 10)) (xs 1) (xs 2) (xs 3)) hm (y_ofBar hx hm (xs 1) (xs 2) (xs 3) (some (z + 15)))
    obtain ⟨b1, b2, b3, b4⟩ := fin a2 a4 a5 a6
    have rA := y_rds b1
    refine ⟨wB, ?_⟩
    simp only [rd, Option.bind_some, a1, rA, b2, a3]
    exact y_tail a4 b4 (fun w9 => f_L_law_1081 (f_L_law_23 1) (some b) (some z) (some (z + 10)) (some (z + 15)) 0 w9) (y_end b3)
  rw [if_neg c12]
  by_cases c13 : xs 0 &&& 31 = 13
  · rw [if_pos c13]
    obtain ⟨k, wA, r, wB, fs, a1, a2, a3, a4, a5, a6⟩ := yOK_of (A := f_L_beat (some z) (xs 1) (xs 2) (some (z + 15)) w) (M := f_X8_beat (some (z + 10)) (xs 1) (xs 2)) hm (y_beat hx hm (xs 1) (xs 2) (some (z + 15)))
    obtain ⟨b1, b2, b3, b4⟩ := fin a2 a4 a5 a6
    have rA := y_rds b1
    refine ⟨wB, ?_⟩
    simp only [rd, Option.bind_some, a1, rA, b2, a3]
    exact y_tail a4 b4 (fun w9 => f_L_law_1149 (f_L_law_23 1) (some b) (some z) (some (z + 10)) (some (z + 15)) 0 w9) (y_end b3)
  rw [if_neg c13]
  by_cases c14 : xs 0 &&& 31 = 14
  · rw [if_pos c14]
    obtain ⟨k, wA, r, wB, fs, a1, a2, a3, a4, a5, a6⟩ := yOK_of (A := f_L_ofTake (some z) (xs 1) (xs 2) (some (z + 15)) w) (M := f_X8_ofTake (some (z + 10)) (xs 1) (xs 2)) hm (y_ofTake hx hm (xs 1) (xs 2) (some (z + 15)))
    obtain ⟨b1, b2, b3, b4⟩ := fin a2 a4 a5 a6
    have rA := y_rds b1
    refine ⟨wB, ?_⟩
    simp only [rd, Option.bind_some, a1, rA, b2, a3]
    exact y_tail a4 b4 (fun w9 => f_L_law_1217 (f_L_law_23 1) (some b) (some z) (some (z + 10)) (some (z + 15)) 0 w9) (y_end b3)
  rw [if_neg c14]
  by_cases c15 : xs 0 &&& 31 = 15
  · rw [if_pos c15]
    obtain ⟨k, wA, r, wB, fs, a1, a2, a3, a4, a5, a6⟩ := y_sheet hx hm ho (xs 1)
    obtain ⟨b1, b2, b3, b4⟩ := fin a2 a4 a5 a6
    have rA := y_rds b1
    refine ⟨wB, ?_⟩
    simp only [rd, Option.bind_some, a1, rA, b2, a3]
    exact y_tail a4 b4 (fun w9 => f_L_law_1273 (f_L_law_23 1) (some b) (some z) (some (z + 10)) (some (z + 15)) 0 w9) (y_end b3)
  rw [if_neg c15]
  by_cases c16 : xs 0 &&& 31 = 16
  · rw [if_pos c16]
    obtain ⟨k, wA, r, wB, fs, a1, a2, a3, a4, a5, a6⟩ := y_many hx hm ho (xs 1)
    obtain ⟨b1, b2, b3, b4⟩ := fin a2 a4 a5 a6
    have rA := y_rds b1
    refine ⟨wB, ?_⟩
    simp only [rd, Option.bind_some, a1, rA, b2, a3]
    exact y_tail a4 b4 (fun w9 => f_L_law_1329 (f_L_law_23 1) (some b) (some z) (some (z + 10)) (some (z + 15)) 0 w9) (y_end b3)
  rw [if_neg c16]
  by_cases c17 : xs 0 &&& 31 = 17
  · rw [if_pos c17]
    have m0 : yMW z 0 (yTh z 0 w) := hm.th
    refine ⟨yTh z 0 w, ?_⟩
    simp only [yxf hx, Option.bind_some, y_meanX hx, ymf hm, y_meanM hm]
    rw [if_pos (by decide +kernel)]
    exact y_end ((yTh_n (by omega)).trans hs)
  rw [if_neg c17]
  by_cases c18 : xs 0 &&& 31 = 18
  · rw [if_pos c18]
    obtain ⟨k, wA, r, wB, fs, a1, a2, a3, a4, a5, a6⟩ := yOK_of (A := f_L_join (some z) (xs 1) (some (z + 15)) w) (M := f_X8_join (some (z + 10)) (xs 1)) hm (y_join hx hm (xs 1) (some (z + 15)))
    obtain ⟨b1, b2, b3, b4⟩ := fin a2 a4 a5 a6
    have rA := y_rds b1
    refine ⟨wB, ?_⟩
    simp only [rd, Option.bind_some, a1, rA, b2, a3]
    exact y_tail a4 b4 (fun w9 => f_L_law_1426 (f_L_law_23 1) (some b) (some z) (some (z + 10)) (some (z + 15)) 0 w9) (y_end b3)
  rw [if_neg c18]
  by_cases c19 : xs 0 &&& 31 = 19
  · rw [if_pos c19]
    obtain ⟨k, wA, r, wB, fs, a1, a2, a3, a4, a5, a6⟩ := yOK_of (A := f_L_joined (some z) (xs 1) (xs 2) (some (z + 15)) w) (M := f_X8_joined_ (some (z + 10)) (xs 1) (xs 2)) hm (y_joined hx hm (xs 1) (xs 2) (some (z + 15)))
    obtain ⟨b1, b2, b3, b4⟩ := fin a2 a4 a5 a6
    have rA := y_rds b1
    refine ⟨wB, ?_⟩
    simp only [rd, Option.bind_some, a1, rA, b2, a3]
    exact y_tail a4 b4 (fun w9 => f_L_law_1494 (f_L_law_23 1) (some b) (some z) (some (z + 10)) (some (z + 15)) 0 w9) (y_end b3)
  rw [if_neg c19]
  by_cases c20 : xs 0 &&& 31 = 20
  · rw [if_pos c20]
    obtain ⟨k, wA, r, wB, fs, a1, a2, a3, a4, a5, a6⟩ := yOK_of (A := f_L_bestStart (some z) (xs 1) (some (z + 15)) w) (M := f_X8_bestStart (some (z + 10)) (xs 1)) hm (y_bestStart hx hm (xs 1) (some (z + 15)))
    obtain ⟨b1, b2, b3, b4⟩ := fin a2 a4 a5 a6
    have rA := y_rds b1
    refine ⟨wB, ?_⟩
    simp only [rd, Option.bind_some, a1, rA, b2, a3]
    exact y_tail a4 b4 (fun w9 => f_L_law_1550 (f_L_law_23 1) (some b) (some z) (some (z + 10)) (some (z + 15)) 0 w9) (y_end b3)
  rw [if_neg c20]
  by_cases c21 : xs 0 &&& 31 = 21
  · rw [if_pos c21]
    obtain ⟨k, wA, r, wB, fs, a1, a2, a3, a4, a5, a6⟩ := yOK_of (A := f_L_bestClick (some z) (xs 1) (xs 2) (some (z + 15)) w) (M := f_X8_bestClick (some (z + 10)) (xs 1) (xs 2)) hm (y_bestClick hx hm (xs 1) (xs 2) (some (z + 15)))
    obtain ⟨b1, b2, b3, b4⟩ := fin a2 a4 a5 a6
    have rA := y_rds b1
    refine ⟨wB, ?_⟩
    simp only [rd, Option.bind_some, a1, rA, b2, a3]
    exact y_tail a4 b4 (fun w9 => f_L_law_1618 (f_L_law_23 1) (some b) (some z) (some (z + 10)) (some (z + 15)) 0 w9) (y_end b3)
  rw [if_neg c21]
  by_cases c22 : xs 0 &&& 31 = 22
  · rw [if_pos c22]
    obtain ⟨k, wA, r, wB, fs, a1, a2, a3, a4, a5, a6⟩ := y_wouldMeet hx hm ho (xs 1) (xs 2)
    obtain ⟨b1, b2, b3, b4⟩ := fin a2 a4 a5 a6
    have rA := y_rds b1
    refine ⟨wB, ?_⟩
    simp only [rd, Option.bind_some, a1, rA, b2, a3]
    exact y_tail a4 b4 (fun w9 => f_L_law_1686 (f_L_law_23 1) (some b) (some z) (some (z + 10)) (some (z + 15)) 0 w9) (y_end b3)
  rw [if_neg c22]
  by_cases c23 : xs 0 &&& 31 = 23
  · rw [if_pos c23]
    obtain ⟨w1, d1, d2⟩ := y_digM hm
    refine ⟨w1, ?_⟩
    simp only [yxf hx, Option.bind_some, y_digX hx, ymf hm, d1]
    rw [y_lg, if_pos rfl]
    exact y_end ((d2 b (Or.inl hb)).trans hs)
  rw [if_neg c23]
  exact ⟨w, y_end hs⟩
end YL
