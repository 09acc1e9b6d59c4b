/-- do two cues clash -/
def yCl (a c : Nat → Int) : Bool := decide (0 < a 7 ∧ 0 < c 7 ∧ a 1 < c 1 + c 11 ∧ c 1 < a 1 + a 11)
theorem x4_clash {z e nh nc nt : Nat} {ha ca ta : Nat → Nat} {B : Nat → Int} {H C T : Nat → Nat → Int} {w : xWd} (h : xBk z e nh nc nt ha ca ta B H C T w) (v : xVB nh nc nt B H C T) {i k : Nat} (hi : i < nc) (hk : k < nc) : f_X4_clash (some (ca i)) (some (ca k)) w = some (iI (if yCl (C i) (C k) then 1 else 0), w) := by
  have hC := bk_c h hi
  have hD := bk_c h hk
  obtain ⟨a1, a2, -, -, a3, a4, -, -, a5, a6, -⟩ := (yv_c v hi).1
  obtain ⟨b1, b2, -, -, b3, b4, -, -, b5, b6, -⟩ := (yv_c v hk).1
  have z0 : xk_zb (iI 0) = some () := by decide
  have z1 : xk_zb (iI 1) = some () := by decide
  have g1 : xk_gI w (some (ca i)) 1 7 = some (iI (C i 7)) := xr_gI (k := 7) hC.1 rfl
  have g2 : xk_gI w (some (ca k)) 1 7 = some (iI (C k 7)) := xr_gI (k := 7) hD.1 rfl
  have g3 : xk_gI w (some (ca i)) 1 1 = some (iI (C i 1)) := xr_gI (k := 1) hC.1 rfl
  have g4 : xk_gI w (some (ca k)) 1 1 = some (iI (C k 1)) := xr_gI (k := 1) hD.1 rfl
  unfold f_X4_clash f_X4_clash_40 f_X4_clash_41 yCl
  simp only [g1, g2, g3, g4, Option.bind_some, xr_is hC.1, xr_is hD.1, x0_end hC, x0_end hD, iL_0, iL_1, z0, z1]
  by_cases c1 : C i 7 ≤ 0
  · rw [if_pos (by rw [iI_le (by omega) (by omega)]; exact c1), decide_eq_false (by omega)]; rfl
  · rw [if_neg (by rw [iI_le (by omega) (by omega)]; exact c1)]
    by_cases c2 : C k 7 ≤ 0
    · rw [if_pos (by rw [iI_le (by omega) (by omega)]; exact c2), decide_eq_false (by omega)]; rfl
    · rw [if_neg (by rw [iI_le (by omega) (by omega)]; exact c2)]
      by_cases c3 : C k 1 + C k 11 ≤ C i 1
      · rw [if_pos (by rw [iI_le (by omega) (by omega)]; exact c3), decide_eq_false (by omega)]; rfl
      · rw [if_neg (by rw [iI_le (by omega) (by omega)]; exact c3)]
        by_cases c4 : C i 1 + C i 11 ≤ C k 1
        · rw [if_pos (by rw [iI_le (by omega) (by omega)]; exact c4), decide_eq_false (by omega)]; rfl
        · rw [if_neg (by rw [iI_le (by omega) (by omega)]; exact c4), decide_eq_true (by omega)]; rfl
/-- clashes of cue i with the cues from k on, r of them -/
def yCi (C : Nat → Nat → Int) (i k : Nat) : Nat → Int
  | 0 => 0
  | r + 1 => (if yCl (C i) (C k) then 1 else 0) + yCi C i (k + 1) r
/-- clashes of the cues from i on -/
def yCo (nc : Nat) (C : Nat → Nat → Int) (i : Nat) : Nat → Int
  | 0 => 0
  | r + 1 => yCi C i (i + 1) (nc - (i + 1)) + yCo nc C (i + 1) r
theorem x4_clash_in {z e nh nc nt : Nat} {ha ca ta : Nat → Nat} {B : Nat → Int} {H C T : Nat → Nat → Int} {w : xWd} (h : xBk z e nh nc nt ha ca ta B H C T w) (v : xVB nh nc nt B H C T) {i : Nat} (hi : i < nc) (k4 : Option Nat → Int32 → Int32 → xWd → Option (Int32 × xWd)) : ∀ (r k fu : Nat) (x : Int), k + r = nc → r < fu → f_X4_countClashes_19 k4 fu (some z) (iI x) (iI i) (iI k) w = k4 (some z) (iI (x + yCi C i k r)) (iI ((i + 1 : Nat) : Int)) w := by
  have hn := yv_n v
  obtain ⟨l1, l2, l3⟩ := bk_lc h
  have e3 : ∀ x : Int, iI x + (1 : Int32) = iI (x + 1) := fun x => by rw [iL_1, iI_add]
  intro r
  induction r with
  | zero =>
    intro k fu x h1 h4
    obtain ⟨fu, rfl⟩ : ∃ f, fu = f + 1 := ⟨fu - 1, by omega⟩
    have c1 : iI (nc : Int) ≤ iI k := by rw [iI_le (by omega) (by omega)]; omega
    unfold f_X4_countClashes_19
    simp only [bk_cues h, Option.bind_some, l1, l2, if_pos c1, e3]
    show _ = k4 (some z) (iI (x + 0)) _ w
    rw [Int.add_zero]
    rfl
  | succ r ih =>
    intro k fu x h1 h4
    obtain ⟨fu, rfl⟩ : ∃ f, fu = f + 1 := ⟨fu - 1, by omega⟩
    have hk : k < nc := by omega
    have c1 : ¬ iI (nc : Int) ≤ iI k := by rw [iI_le (by omega) (by omega)]; omega
    unfold f_X4_countClashes_19 f_X4_countClashes_61
    simp only [bk_cues h, Option.bind_some, l1, l2, if_neg c1, l3 k hk, l3 i hi, xr_cc (bk_c h hk).1, xr_cc (bk_c h hi).1, x4_clash h v hi hk, xi_if, e3]
    have e : yCi C i k (r + 1) = (if yCl (C i) (C k) then 1 else 0) + yCi C i (k + 1) r := rfl
    rw [e]
    cases c : yCl (C i) (C k)
    · simp only [Bool.false_eq_true, if_false, Int.zero_add]
      exact ih (k + 1) fu x (by omega) (by omega)
    · simp only [if_true]
      rw [← Int.add_assoc]
      exact ih (k + 1) fu (x + 1) (by omega) (by omega)
theorem x4_clashes_l {z e nh nc nt : Nat} {ha ca ta : Nat → Nat} {B : Nat → Int} {H C T : Nat → Nat → Int} {w : xWd} (h : xBk z e nh nc nt ha ca ta B H C T w) (v : xVB nh nc nt B H C T) : ∀ (r k fu : Nat) (x : Int), k + r = nc → r < fu → f_X4_countClashes_4 fu (some z) (iI x) (iI k) w = some (iI (x + yCo nc C k r), w) := by
  have hn := yv_n v
  obtain ⟨l1, l2, l3⟩ := bk_lc h
  have e3 : ∀ x : Int, iI x + (1 : Int32) = iI (x + 1) := fun x => by rw [iL_1, iI_add]
  intro r
  induction r with
  | zero =>
    intro k fu x h1 h4
    obtain ⟨fu, rfl⟩ : ∃ f, fu = f + 1 := ⟨fu - 1, by omega⟩
    have c1 : iI (nc : Int) ≤ iI k := by rw [iI_le (by omega) (by omega)]; omega
    unfold f_X4_countClashes_4
    simp only [bk_cues h, Option.bind_some, l1, l2, if_pos c1]
    show _ = some (iI (x + 0), w)
    rw [Int.add_zero]
  | succ r ih =>
    intro k fu x h1 h4
    obtain ⟨fu, rfl⟩ : ∃ f, fu = f + 1 := ⟨fu - 1, by omega⟩
    have hk : k < nc := by omega
    have c1 : ¬ iI (nc : Int) ≤ iI k := by rw [iI_le (by omega) (by omega)]; omega
    have i1 := x4_clash_in h v hk (f_X4_countClashes_4 fu) (nc - (k + 1)) (k + 1) 4096 x (by omega) (by omega)
    unfold f_X4_countClashes_4
    simp only [bk_cues h, Option.bind_some, l1, l2, if_neg c1, e3]
    refine i1.trans ?_
    have e : yCo nc C k (r + 1) = yCi C k (k + 1) (nc - (k + 1)) + yCo nc C (k + 1) r := rfl
    rw [e, ← Int.add_assoc]
    exact ih (k + 1) fu _ (by omega) (by omega)
theorem x4_countClashes {z e nh nc nt : Nat} {ha ca ta : Nat → Nat} {B : Nat → Int} {H C T : Nat → Nat → Int} {w : xWd} (h : xBk z e nh nc nt ha ca ta B H C T w) (v : xVB nh nc nt B H C T) : f_X4_countClashes (some z) w = some (iI (yCo nc C 0 nc), w) := by
  have hn := yv_n v
  have := x4_clashes_l h v nc 0 4096 0 (by omega) (by omega)
  rw [Int.zero_add] at this
  exact this
/-- what many answers -/
def yMany (nh nc nt : Nat) (B : Nat → Int) (H C T : Nat → Nat → Int) : Nat → Int
  | 0 => B 5 | 1 => B 6 | 2 => nh | 3 => yCt (fun i => decide (H i 2 = 1)) nh | 4 => yCm nh nc H C | 5 => B 2 | 6 => nc
  | 7 => yCt (fun i => yOv B (C i)) nc | 8 => yCt (fun i => ySp B (C i)) nc | 9 => yCo nc C 0 nc | 10 => nt | 11 => yCt (yVd C T) nt
  | 12 => B 7 | 13 => B 8 | 14 => B 9 | _ => yS' (yPy nt B C T) nc
theorem x4_many {z e nh nc nt : Nat} {ha ca ta : Nat → Nat} {B : Nat → Int} {H C T : Nat → Nat → Int} {w : xWd} (h : xBk z e nh nc nt ha ca ta B H C T w) (v : xVB nh nc nt B H C T) {k : Nat} (hk : k ≤ 15) : f_X4_many (some z) (iI k) w = some (iI (yMany nh nc nt B H C T k), w) := by
  obtain ⟨l1, l2, -⟩ := bk_lh h
  obtain ⟨l3, l4, -⟩ := bk_lc h
  obtain ⟨l5, l6, -⟩ := bk_lt h
  unfold f_X4_many
  rcases (show k = 0 ∨ k = 1 ∨ k = 2 ∨ k = 3 ∨ k = 4 ∨ k = 5 ∨ k = 6 ∨ k = 7 ∨ k = 8 ∨ k = 9 ∨ k = 10 ∨ k = 11 ∨ k = 12 ∨ k = 13 ∨ k = 14 ∨ k = 15 by omega) with rfl | rfl | rfl | rfl | rfl | rfl | rfl | rfl | rfl | rfl | rfl | rfl | rfl | rfl | rfl | rfl
  · rw [if_pos (by decide)]; simp only [bk_I5 h, Option.bind_some]; rfl
  · rw [if_neg (by decide), if_pos (by decide)]; simp only [bk_I6 h, Option.bind_some]; rfl
  · iterate 2 rw [if_neg (by decide)]
    rw [if_pos (by decide)]; simp only [bk_hits h, l1, l2, Option.bind_some]; rfl
  · iterate 3 rw [if_neg (by decide)]
    rw [if_pos (by decide)]; simp only [bk_is h, x4_countGone h v, Option.bind_some]; rfl
  · iterate 4 rw [if_neg (by decide)]
    rw [if_pos (by decide)]; simp only [bk_is h, x4_countMet h v, Option.bind_some]; rfl
  · iterate 5 rw [if_neg (by decide)]
    rw [if_pos (by decide)]; simp only [bk_I2 h, Option.bind_some]; rfl
  · iterate 6 rw [if_neg (by decide)]
    rw [if_pos (by decide)]; simp only [bk_cues h, l3, l4, Option.bind_some]; rfl
  · iterate 7 rw [if_neg (by decide)]
    rw [if_pos (by decide)]; simp only [bk_is h, x4_countOver h v, Option.bind_some]; rfl
  · iterate 8 rw [if_neg (by decide)]
    rw [if_pos (by decide)]; simp only [bk_is h, x4_countSpoiling h v, Option.bind_some]; rfl
  · iterate 9 rw [if_neg (by decide)]
    rw [if_pos (by decide)]; simp only [bk_is h, x4_countClashes h v, Option.bind_some]; rfl
  · iterate 10 rw [if_neg (by decide)]
    rw [if_pos (by decide)]; simp only [bk_takes h, l5, l6, Option.bind_some]; rfl
  · iterate 11 rw [if_neg (by decide)]
    rw [if_pos (by decide)]; simp only [bk_is h, x4_countAllValid h v, Option.bind_some]; rfl
  · iterate 12 rw [if_neg (by decide)]
    rw [if_pos (by decide)]; simp only [bk_I7 h, Option.bind_some]; rfl
  · iterate 13 rw [if_neg (by decide)]
    rw [if_pos (by decide)]; simp only [bk_I8 h, Option.bind_some]; rfl
  · iterate 14 rw [if_neg (by decide)]
    rw [if_pos (by decide)]; simp only [bk_I9 h, Option.bind_some]; rfl
  · iterate 15 rw [if_neg (by decide)]
    rw [if_pos (by decide)]; simp only [bk_is h, x4_payToAll h v, Option.bind_some]; rfl
/-- what ofCue answers -/
def yCue (nt : Nat) (B : Nat → Int) (C T : Nat → Nat → Int) (c : Nat) : Nat → Int
  | 0 => C c 1 | 1 => C c 2 | 2 => C c 3 | 3 => C c 4 | 4 => C c 5 | 5 => C c 6 | 6 => C c 7 | 7 => C c 10 | 8 => C c 1 + C c 11
  | 9 => if yOv B (C c) then 1 else 0 | 10 => if ySp B (C c) then 1 else 0 | 11 => yNv nt C T c | _ => ySc nt B C T c
theorem x4_ofCue {z e nh nc nt : Nat} {ha ca ta : Nat → Nat} {B : Nat → Int} {H C T : Nat → Nat → Int} {w : xWd} (h : xBk z e nh nc nt ha ca ta B H C T w) (v : xVB nh nc nt B H C T) {c k : Nat} (hc : c < nc) (hk : k ≤ 12) : f_X4_ofCue (some z) (iI c) (iI k) w = some (iI (yCue nt B C T c k), w) := by
  have hC := bk_c h hc
  have ov := x4_runsOver h v hc
  have sp := x4_spoils h v hc
  have d0 : (if yOv B (C c) = true then some ((1 : Int32), w) else some (0, w)) = some (iI (if yOv B (C c) then 1 else 0), w) := by cases yOv B (C c) <;> rfl
  have d1 : (if ySp B (C c) = true then some ((1 : Int32), w) else some (0, w)) = some (iI (if ySp B (C c) then 1 else 0), w) := by cases ySp B (C c) <;> rfl
  unfold f_X4_ofCue f_X4_ofCue_130 f_X4_ofCue_144
  simp only [bk_is h, x4_cueNumbered h v hc, Option.bind_some]
  rcases (show k = 0 ∨ k = 1 ∨ k = 2 ∨ k = 3 ∨ k = 4 ∨ k = 5 ∨ k = 6 ∨ k = 7 ∨ k = 8 ∨ k = 9 ∨ k = 10 ∨ k = 11 ∨ k = 12 by omega) with rfl | rfl | rfl | rfl | rfl | rfl | rfl | rfl | rfl | rfl | rfl | rfl | rfl
  · rw [if_pos (by decide), xr_gI (k := 1) hC.1 rfl]; rfl
  · rw [if_neg (by decide), if_pos (by decide), xr_gI (k := 2) hC.1 rfl]; rfl
  · iterate 2 rw [if_neg (by decide)]
    rw [if_pos (by decide), xr_gI (k := 3) hC.1 rfl]; rfl
  · iterate 3 rw [if_neg (by decide)]
    rw [if_pos (by decide), xr_gI (k := 4) hC.1 rfl]; rfl
  · iterate 4 rw [if_neg (by decide)]
    rw [if_pos (by decide), xr_gI (k := 5) hC.1 rfl]; rfl
  · iterate 5 rw [if_neg (by decide)]
    rw [if_pos (by decide), xr_gI (k := 6) hC.1 rfl]; rfl
  · iterate 6 rw [if_neg (by decide)]
    rw [if_pos (by decide), xr_gI (k := 7) hC.1 rfl]; rfl
  · iterate 7 rw [if_neg (by decide)]
    rw [if_pos (by decide), xr_gI (k := 10) hC.1 rfl]; rfl
  · iterate 8 rw [if_neg (by decide)]
    rw [if_pos (by decide)]; simp only [xr_is hC.1, x0_end hC, Option.bind_some]; rfl
  · iterate 9 rw [if_neg (by decide)]
    rw [if_pos (by decide)]; simp only [ov, Option.bind_some, xi_if, d0]; rfl
  · iterate 10 rw [if_neg (by decide)]
    rw [if_pos (by decide)]; simp only [sp, Option.bind_some, xi_if, d1]; rfl
  · iterate 11 rw [if_neg (by decide)]
    rw [if_pos (by decide)]; simp only [x4_countValid h v hc, Option.bind_some]; rfl
  · iterate 12 rw [if_neg (by decide)]
    rw [if_pos (by decide)]; simp only [x4_secondsOf h v hc, Option.bind_some]; rfl
/-- what ofHit answers -/
def yHit (nc : Nat) (C : Nat → Nat → Int) (s : Nat → Int) : Nat → Int
  | 0 => s 0 | 1 => s 1 | 2 => s 2 | 3 => yMs nc C s | 4 => if yMb nc C (-1) s then 1 else 0 | 5 => yNc nc C s | _ => yNb nc C s
theorem x4_ofHit {z e nh nc nt : Nat} {ha ca ta : Nat → Nat} {B : Nat → Int} {H C T : Nat → Nat → Int} {w : xWd} (h : xBk z e nh nc nt ha ca ta B H C T w) (v : xVB nh nc nt B H C T) {i k : Nat} (hi : i < nh) (hk : k ≤ 6) : f_X4_ofHit (some z) (iI i) (iI k) w = some (iI (yHit nc C (H i) k), w) := by
  have hn := yv_n v
  obtain ⟨l1, l2, l3⟩ := bk_lh h
  have hH := bk_h h hi
  obtain ⟨b1, b2, b3, b4, b5⟩ := yv_h v hi
  have c1 : ¬ iI (i : Int) < (0 : Int32) := by rw [iL_0, iI_lt (by omega) (by omega)]; omega
  have c2 : iI (i : Int) < iI (nh : Int) := by rw [iI_lt (by omega) (by omega)]; omega
  have hcc : xk_cc w (some (ha i)) 2 = some () := xr_cc hH
  have g0 : xk_gI w (some (ha i)) 2 0 = some (iI (H i 0)) := xr_gI (k := 0) hH rfl
  have g1 : xk_gI w (some (ha i)) 2 1 = some (iI (H i 1)) := xr_gI (k := 1) hH rfl
  have g2 : xk_gI w (some (ha i)) 2 2 = some (iI (H i 2)) := xr_gI (k := 2) hH rfl
  have d0 : (if yMb nc C (-1) (H i) = true then some ((1 : Int32), w) else some (0, w)) = some (iI (if yMb nc C (-1) (H i) then 1 else 0), w) := by cases yMb nc C (-1) (H i) <;> rfl
  unfold f_X4_ofHit f_X4_ofHit_102 f_X4_ofHit_122
  simp only [if_neg c1, bk_hits h, Option.bind_some, l1, l2, if_pos c2, l3 i hi, hcc, bk_is h]
  rcases (show k = 0 ∨ k = 1 ∨ k = 2 ∨ k = 3 ∨ k = 4 ∨ k = 5 ∨ k = 6 by omega) with rfl | rfl | rfl | rfl | rfl | rfl | rfl
  · rw [if_pos (by decide), g0]; rfl
  · rw [if_neg (by decide), if_pos (by decide), g1]; rfl
  · iterate 2 rw [if_neg (by decide)]
    rw [if_pos (by decide), g2, Option.bind_some]
    show _ = some (iI (H i 2), w)
    rcases b5 with e | e
    · rw [if_pos (by rw [e, iL_0]), e, iL_0]
    · rw [if_neg (by rw [e]; decide), e, iL_1]
  · iterate 3 rw [if_neg (by decide)]
    rw [if_pos (by decide)]; simp only [x4_missOf h v hH (by omega) b5, Option.bind_some]; rfl
  · iterate 4 rw [if_neg (by decide)]
    rw [if_pos (by decide)]; simp only [x4_isMet h v hH (by omega) (by omega) b5, Option.bind_some, xi_if, d0]; rfl
  · iterate 5 rw [if_neg (by decide)]
    rw [if_pos (by decide)]; simp only [x4_nearestCue h v hH (by omega) b5, Option.bind_some]; rfl
  · iterate 6 rw [if_neg (by decide)]
    rw [if_pos (by decide)]; simp only [x4_nearestBeat h v hH (by omega) b5, Option.bind_some]; rfl
theorem x4_beat {z e nh nc nt : Nat} {ha ca ta : Nat → Nat} {B : Nat → Int} {H C T : Nat → Nat → Int} {w : xWd} (h : xBk z e nh nc nt ha ca ta B H C T w) (v : xVB nh nc nt B H C T) {c : Nat} {i : Int} (hc : c < nc) (h0 : 0 ≤ i) (hi : i < C c 10) : f_X4_beat (some z) (iI c) (iI i) w = some (iI (C c 1 + C c (22 + 3 * i.toNat)), w) := by
  have hC := bk_c h hc
  have hB := (yv_c v hc).1
  have b1 := hB.2.2.2.2.2.2.2.1
  have g10 : xk_gI w (some (ca c)) 1 10 = some (iI (C c 10)) := xr_gI (k := 10) hC.1 rfl
  unfold f_X4_beat
  simp only [bk_is h, x4_cueNumbered h v hc, Option.bind_some]
  rw [if_neg (by rw [iL_0, iI_lt (by omega) (by omega)]; omega), g10, Option.bind_some, if_pos (by rw [iI_lt (by omega) (by omega)]; exact hi)]
  simp only [xr_is hC.1, x0_beatFrame hC hB h0 hi, Option.bind_some]
