/-- over r cues from c on -/
def yFc (nt : Nat) (B : Nat → Int) (C T : Nat → Nat → Int) (c : Nat) : Nat → Int64 → Int64
  | 0, d => d
  | r + 1, d => yFc nt B C T (c + 1) r (yDc nt B C T c d)
/-- over r hits from i on -/
def yFh (nc : Nat) (H C : Nat → Nat → Int) (i : Nat) : Nat → Int64 → Int64
  | 0, d => d
  | r + 1, d => yFh nc H C (i + 1) r (yFo (yHit nc C (H i)) 0 7 d)
/-- over r takes from t on -/
def yFt (C T : Nat → Nat → Int) (t : Nat) : Nat → Int64 → Int64
  | 0, d => d
  | r + 1, d => yFt C T (t + 1) r (yFo (yTak C T t) 0 5 d)
/-- the end of the checksum -/
def yDe (nh nc : Nat) (B : Nat → Int) (H C : Nat → Nat → Int) (d : Int64) : Int64 := if nc = 0 then yMx d (yWo nh nc H C (B 5 / 2) 24) else yMx (yMx d (yWo nh nc H C (B 5 / 2) 24)) (yBest nh nc B H C 0)
def yD4 (nh nc nt : Nat) (B : Nat → Int) (H C T : Nat → Nat → Int) (k r : Nat) (d : Int64) : Int64 := yDe nh nc B H C (yFo (fun wr => yS' (yPw nt B C T (wr : Int)) nc) k r d)
def yD3 (nh nc nt : Nat) (B : Nat → Int) (H C T : Nat → Nat → Int) (t r : Nat) (d : Int64) : Int64 := yD4 nh nc nt B H C T 0 4 (yFt C T t r d)
def yD2 (nh nc nt : Nat) (B : Nat → Int) (H C T : Nat → Nat → Int) (c r : Nat) (d : Int64) : Int64 := yD3 nh nc nt B H C T 0 nt (yFc nt B C T c r d)
def yD1 (nh nc nt : Nat) (B : Nat → Int) (H C T : Nat → Nat → Int) (i r : Nat) (d : Int64) : Int64 := yD2 nh nc nt B H C T 0 nc (yFh nc H C i r d)
def yD0 (nh nc nt : Nat) (B : Nat → Int) (H C T : Nat → Nat → Int) (k r : Nat) (d : Int64) : Int64 := yD1 nh nc nt B H C T 0 nh (yFo (yMany nh nc nt B H C T) k r d)
theorem xl_empty {w : xWd} {al ad n : Nat} {a : Nat → Nat} (h : xl_R w al ad n a) : f_Jx4a65c_isEmpty_aae02 (some al) w = some (iI (if decide (n = 0) then 1 else 0), w) := by
  obtain ⟨mc, h1, hal, hn, h2⟩ := h
  have z0 : xk_zb (0 : Int32) = some () := by decide
  have z1 : xk_zb (1 : Int32) = some () := by decide
  unfold f_Jx4a65c_isEmpty_aae02 f_Jx4a65c_isEmpty_aae02_12
  rw [xr_gI (k := 2) h1 rfl, Option.bind_some, z0, z1, Option.bind_some, Option.bind_some]
  by_cases c : n = 0
  · rw [if_pos (by rw [c]; decide), decide_eq_true c]; rfl
  · rw [if_neg (by rw [iL_0, iI_eq (by omega) (by omega)]; omega), decide_eq_false c]; rfl
theorem x4_dig4 {z e nh nc nt : Nat} {ha ca ta : Nat → Nat} {B : Nat → Int} {H C T : Nat → Nat → Int} {w : xWd} (h : xBk z e nh nc nt ha ca ta B H C T w) (v : xVB nh nc nt B H C T) : ∀ (r k fu : Nat) (d : Int64), k + r = 4 → r < fu → ∃ w', f_X4_digest_152 fu (some z) d (iI k) w = some (yD4 nh nc nt B H C T k r d, w') ∧ xBk z e nh nc nt ha ca ta B H C T w' ∧ xFr z e w w' := by
  have hn := yv_n v
  intro r
  induction r with
  | zero =>
    intro k fu d h1 h4
    obtain ⟨fu, rfl⟩ : ∃ f, fu = f + 1 := ⟨fu - 1, by omega⟩
    have e : k = 4 := by omega
    subst e
    obtain ⟨l1, l2, l3⟩ := bk_lc h
    have wm := x4_wouldMeet h v (f := B 5 / 2) (n := 24) ⟨by omega, by omega, by omega, by omega, by omega, by omega⟩
    have nz : xk_nz (iI 2) = some () := by decide
    have em : f_Jx4a65c_isEmpty_aae02 (some (z + 3)) w = some (iI (if decide (nc = 0) then 1 else 0), w) := by
      obtain ⟨ad, hl, -⟩ := h.2.2.2.1
      exact xl_empty hl
    have go : ∀ w', (∃ x : Int64, (if iI (if decide (nc = 0) = true then 1 else 0) = (0 : Int32) then (xk_is w (some z) 0).bind fun u12 => (f_X4_bestStart (some z) 0 w).bind fun q11 => (f_X4_mixed (yMx d (yWo nh nc H C (B 5 / 2) 24)) q11.1.toInt64 q11.2).bind fun q13 => f_X4_digest_216 q13.1 q13.2 else f_X4_digest_216 (yMx d (yWo nh nc H C (B 5 / 2) 24)) w) = some (x, w') ∧ x = yDe nh nc B H C d) → f_X4_digest_152 (fu + 1) (some z) d (iI ((4 : Nat) : Int)) w = some (yD4 nh nc nt B H C T 4 0 d, w') := by
      intro w' ⟨x, hx, ex⟩
      unfold f_X4_digest_152
      rw [if_pos (by decide), bk_I5 h, Option.bind_some, iL_2, nz, Option.bind_some, bk_is h, Option.bind_some, iI_div (by omega) (by omega), iL_24, wm, Option.bind_some]
      show ((xk_gR w (some z) 0 3).bind _) = _
      rw [bk_cues h, Option.bind_some]
      show ((xk_is w (some (z + 3)) 5).bind _) = _
      rw [l1, Option.bind_some]
      show ((f_Jx4a65c_isEmpty_aae02 (some (z + 3)) w).bind _) = _
      rw [em, Option.bind_some]
      refine hx.trans ?_
      rw [ex]
      rfl
    by_cases c0 : nc = 0
    · refine ⟨w, go w ⟨_, ?_, rfl⟩, h, xFr_r _ _ _⟩
      rw [xi_if, decide_eq_true c0, if_pos rfl]
      unfold f_X4_digest_216 yDe
      rw [if_pos c0]
    · obtain ⟨w', b1, b2, b3⟩ := x4_bestStart h v (c := 0) (by omega)
      have z0 : iI ((0 : Nat) : Int) = (0 : Int32) := by decide
      rw [z0] at b1
      refine ⟨w', go w' ⟨_, ?_, rfl⟩, b2, b3⟩
      rw [xi_if, decide_eq_false c0, if_neg (by decide), bk_is h, Option.bind_some, b1, Option.bind_some]
      unfold yDe
      rw [if_neg c0]
      rfl
  | succ r ih =>
    intro k fu d h1 h4
    obtain ⟨fu, rfl⟩ : ∃ f, fu = f + 1 := ⟨fu - 1, by omega⟩
    have sh := x4_sheet h v (wr := (k : Int)) (by omega)
    obtain ⟨w', i1, i2, i3⟩ := ih (k + 1) fu (yMx d (yS' (yPw nt B C T (k : Int)) nc)) (by omega) (by omega)
    refine ⟨w', ?_, i2, i3⟩
    unfold f_X4_digest_152
    rw [if_neg (by rw [iL_4, iI_le (by omega) (by omega)]; omega), bk_is h, Option.bind_some, sh, Option.bind_some, show iI (k : Int) + (1 : Int32) = iI ((k + 1 : Nat) : Int) by rw [iL_1, iI_add]; rfl]
    exact i1
theorem x4_digT {z e nh nc nt : Nat} {ha ca ta : Nat → Nat} {B : Nat → Int} {H C T : Nat → Nat → Int} {w : xWd} (h : xBk z e nh nc nt ha ca ta B H C T w) (v : xVB nh nc nt B H C T) {t : Nat} (ht : t < nt) (k105 : Option Nat → Int64 → Int32 → xWd → Option (Int64 × xWd)) : ∀ (r k fu : Nat) (d : Int64), k + r = 5 → r < fu → f_X4_digest_119 k105 fu (some z) d (iI t) (iI k) w = k105 (some z) (yFo (yTak C T t) k r d) (iI ((t + 1 : Nat) : Int)) w := by
  intro r
  induction r with
  | zero =>
    intro k fu d h1 h4
    obtain ⟨fu, rfl⟩ : ∃ f, fu = f + 1 := ⟨fu - 1, by omega⟩
    have e : k = 5 := by omega
    subst e
    unfold f_X4_digest_119
    rw [if_pos (by decide), show iI (t : Int) + (1 : Int32) = iI ((t + 1 : Nat) : Int) by rw [iL_1, iI_add]; rfl]
    rfl
  | succ r ih =>
    intro k fu d h1 h4
    obtain ⟨fu, rfl⟩ : ∃ f, fu = f + 1 := ⟨fu - 1, by omega⟩
    have ot := x4_ofTake h v (k := k) ht (by omega)
    unfold f_X4_digest_119
    rw [if_neg (by rw [iL_4, iI_lt (by omega) (by omega)]; omega), bk_is h, Option.bind_some, ot, Option.bind_some, show iI (k : Int) + (1 : Int32) = iI ((k + 1 : Nat) : Int) by rw [iL_1, iI_add]; rfl]
    exact ih (k + 1) fu (yMx d (yTak C T t k)) (by omega) (by omega)
theorem x4_dig3 {z e nh nc nt : Nat} {ha ca ta : Nat → Nat} {B : Nat → Int} {H C T : Nat → Nat → Int} {w : xWd} (h : xBk z e nh nc nt ha ca ta B H C T w) (v : xVB nh nc nt B H C T) : ∀ (r t fu : Nat) (d : Int64), t + r = nt → r < fu → ∃ w', f_X4_digest_105 fu (some z) d (iI t) w = some (yD3 nh nc nt B H C T t r d, w') ∧ xBk z e nh nc nt ha ca ta B H C T w' ∧ xFr z e w w' := by
  have hn := yv_n v
  have z0 : iI ((0 : Nat) : Int) = (0 : Int32) := by decide
  obtain ⟨l1, l2, l3⟩ := bk_lt h
  intro r
  induction r with
  | zero =>
    intro t fu d h1 h4
    obtain ⟨fu, rfl⟩ : ∃ f, fu = f + 1 := ⟨fu - 1, by omega⟩
    obtain ⟨w', i1, i2, i3⟩ := x4_dig4 h v 4 0 5 d (by omega) (by omega)
    rw [z0] at i1
    refine ⟨w', ?_, i2, i3⟩
    unfold f_X4_digest_105
    rw [bk_takes h, Option.bind_some, l1, Option.bind_some, l2, Option.bind_some, if_pos (show iI (nt : Int) ≤ iI t by rw [iI_le (by omega) (by omega)]; omega)]
    exact i1
  | succ r ih =>
    intro t fu d h1 h4
    obtain ⟨fu, rfl⟩ : ∃ f, fu = f + 1 := ⟨fu - 1, by omega⟩
    have dt := x4_digT h v (t := t) (by omega) (f_X4_digest_105 fu) 5 0 6 d (by omega) (by omega)
    rw [z0] at dt
    obtain ⟨w', i1, i2, i3⟩ := ih (t + 1) fu (yFo (yTak C T t) 0 5 d) (by omega) (by omega)
    refine ⟨w', ?_, i2, i3⟩
    unfold f_X4_digest_105
    rw [bk_takes h, Option.bind_some, l1, Option.bind_some, l2, Option.bind_some, if_neg (show ¬ iI (nt : Int) ≤ iI t by rw [iI_le (by omega) (by omega)]; omega)]
    exact dt.trans i1
theorem x4_dig2 {z e nh nc nt : Nat} {ha ca ta : Nat → Nat} {B : Nat → Int} {H C T : Nat → Nat → Int} (v : xVB nh nc nt B H C T) : ∀ (r c fu : Nat) (d : Int64) (w : xWd), xBk z e nh nc nt ha ca ta B H C T w → c + r = nc → r < fu → ∃ w', f_X4_digest_79 fu (some z) d (iI c) w = some (yD2 nh nc nt B H C T c r d, w') ∧ xBk z e nh nc nt ha ca ta B H C T w' ∧ xFr z e w w' := by
  have hn := yv_n v
  have z0 : iI ((0 : Nat) : Int) = (0 : Int32) := by decide
  intro r
  induction r with
  | zero =>
    intro c fu d w h h1 h4
    obtain ⟨fu, rfl⟩ : ∃ f, fu = f + 1 := ⟨fu - 1, by omega⟩
    obtain ⟨l1, l2, l3⟩ := bk_lc h
    obtain ⟨w', i1, i2, i3⟩ := x4_dig3 h v nt 0 41 d (by omega) (by omega)
    rw [z0] at i1
    refine ⟨w', ?_, i2, i3⟩
    unfold f_X4_digest_79
    rw [bk_cues h, Option.bind_some, l1, Option.bind_some, l2, Option.bind_some, if_pos (show iI (nc : Int) ≤ iI c by rw [iI_le (by omega) (by omega)]; omega)]
    exact i1
  | succ r ih =>
    intro c fu d w h h1 h4
    obtain ⟨fu, rfl⟩ : ∃ f, fu = f + 1 := ⟨fu - 1, by omega⟩
    obtain ⟨l1, l2, l3⟩ := bk_lc h
    obtain ⟨w1, m1, m2, m3⟩ := x4_mixedCue h v (c := c) (by omega) d
    obtain ⟨w', i1, i2, i3⟩ := ih (c + 1) fu (yDc nt B C T c d) w1 m2 (by omega) (by omega)
    refine ⟨w', ?_, i2, xFr_t m3 i3⟩
    unfold f_X4_digest_79
    rw [bk_cues h, Option.bind_some, l1, Option.bind_some, l2, Option.bind_some, if_neg (show ¬ iI (nc : Int) ≤ iI c by rw [iI_le (by omega) (by omega)]; omega), bk_is h, Option.bind_some]
    show (f_X4_mixedCue (some z) d (iI c) w).bind _ = _
    rw [m1, Option.bind_some, show iI (c : Int) + (1 : Int32) = iI ((c + 1 : Nat) : Int) by rw [iL_1, iI_add]; rfl]
    exact i1
theorem x4_digH {z e nh nc nt : Nat} {ha ca ta : Nat → Nat} {B : Nat → Int} {H C T : Nat → Nat → Int} {w : xWd} (h : xBk z e nh nc nt ha ca ta B H C T w) (v : xVB nh nc nt B H C T) {i : Nat} (hi : i < nh) (k31 : Option Nat → Int64 → Int32 → xWd → Option (Int64 × xWd)) : ∀ (r k fu : Nat) (d : Int64), k + r = 7 → r < fu → f_X4_digest_45 k31 fu (some z) d (iI i) (iI k) w = k31 (some z) (yFo (yHit nc C (H i)) k r d) (iI ((i + 1 : Nat) : Int)) w := by
  intro r
  induction r with
  | zero =>
    intro k fu d h1 h4
    obtain ⟨fu, rfl⟩ : ∃ f, fu = f + 1 := ⟨fu - 1, by omega⟩
    have e : k = 7 := by omega
    subst e
    unfold f_X4_digest_45
    rw [if_pos (by decide), show iI (i : Int) + (1 : Int32) = iI ((i + 1 : Nat) : Int) by rw [iL_1, iI_add]; rfl]
    rfl
  | succ r ih =>
    intro k fu d h1 h4
    obtain ⟨fu, rfl⟩ : ∃ f, fu = f + 1 := ⟨fu - 1, by omega⟩
    have ot := x4_ofHit h v (k := k) hi (by omega)
    unfold f_X4_digest_45
    rw [if_neg (by rw [iL_6, iI_lt (by omega) (by omega)]; omega), bk_is h, Option.bind_some, ot, Option.bind_some, show iI (k : Int) + (1 : Int32) = iI ((k + 1 : Nat) : Int) by rw [iL_1, iI_add]; rfl]
    exact ih (k + 1) fu (yMx d (yHit nc C (H i) k)) (by omega) (by omega)
theorem x4_dig1 {z e nh nc nt : Nat} {ha ca ta : Nat → Nat} {B : Nat → Int} {H C T : Nat → Nat → Int} {w : xWd} (h : xBk z e nh nc nt ha ca ta B H C T w) (v : xVB nh nc nt B H C T) : ∀ (r i fu : Nat) (d : Int64), i + r = nh → r < fu → ∃ w', f_X4_digest_31 fu (some z) d (iI i) w = some (yD1 nh nc nt B H C T i r d, w') ∧ xBk z e nh nc nt ha ca ta B H C T w' ∧ xFr z e w w' := by
  have hn := yv_n v
  have z0 : iI ((0 : Nat) : Int) = (0 : Int32) := by decide
  obtain ⟨l1, l2, l3⟩ := bk_lh h
  intro r
  induction r with
  | zero =>
    intro i fu d h1 h4
    obtain ⟨fu, rfl⟩ : ∃ f, fu = f + 1 := ⟨fu - 1, by omega⟩
    obtain ⟨w', i1, i2, i3⟩ := x4_dig2 v nc 0 9 d w h (by omega) (by omega)
    rw [z0] at i1
    refine ⟨w', ?_, i2, i3⟩
    unfold f_X4_digest_31
    rw [bk_hits h, Option.bind_some, l1, Option.bind_some, l2, Option.bind_some, if_pos (show iI (nh : Int) ≤ iI i by rw [iI_le (by omega) (by omega)]; omega)]
    exact i1
  | succ r ih =>
    intro i fu d h1 h4
    obtain ⟨fu, rfl⟩ : ∃ f, fu = f + 1 := ⟨fu - 1, by omega⟩
    have dt := x4_digH h v (i := i) (by omega) (f_X4_digest_31 fu) 7 0 8 d (by omega) (by omega)
    rw [z0] at dt
    obtain ⟨w', i1, i2, i3⟩ := ih (i + 1) fu (yFo (yHit nc C (H i)) 0 7 d) (by omega) (by omega)
    refine ⟨w', ?_, i2, i3⟩
    unfold f_X4_digest_31
    rw [bk_hits h, Option.bind_some, l1, Option.bind_some, l2, Option.bind_some, if_neg (show ¬ iI (nh : Int) ≤ iI i by rw [iI_le (by omega) (by omega)]; omega)]
    exact dt.trans i1
theorem x4_dig0 {z e nh nc nt : Nat} {ha ca ta : Nat → Nat} {B : Nat → Int} {H C T : Nat → Nat → Int} {w : xWd} (h : xBk z e nh nc nt ha ca ta B H C T w) (v : xVB nh nc nt B H C T) : ∀ (r k fu : Nat) (d : Int64), k + r = 16 → r < fu → ∃ w', f_X4_digest_6 fu (some z) d (iI k) w = some (yD0 nh nc nt B H C T k r d, w') ∧ xBk z e nh nc nt ha ca ta B H C T w' ∧ xFr z e w w' := by
  have hn := yv_n v
  have z0 : iI ((0 : Nat) : Int) = (0 : Int32) := by decide
  intro r
  induction r with
  | zero =>
    intro k fu d h1 h4
    obtain ⟨fu, rfl⟩ : ∃ f, fu = f + 1 := ⟨fu - 1, by omega⟩
    have e : k = 16 := by omega
    subst e
    obtain ⟨w', i1, i2, i3⟩ := x4_dig1 h v nh 0 13 d (by omega) (by omega)
    rw [z0] at i1
    refine ⟨w', ?_, i2, i3⟩
    unfold f_X4_digest_6
    rw [if_pos (by decide)]
    exact i1
  | succ r ih =>
    intro k fu d h1 h4
    obtain ⟨fu, rfl⟩ : ∃ f, fu = f + 1 := ⟨fu - 1, by omega⟩
    have mn := x4_many h v (k := k) (by omega)
    obtain ⟨w', i1, i2, i3⟩ := ih (k + 1) fu (yMx d (yMany nh nc nt B H C T k)) (by omega) (by omega)
    refine ⟨w', ?_, i2, i3⟩
    unfold f_X4_digest_6
    rw [if_neg (by rw [iL_15, iI_lt (by omega) (by omega)]; omega), bk_is h, Option.bind_some, mn, Option.bind_some, show iI (k : Int) + (1 : Int32) = iI ((k + 1 : Nat) : Int) by rw [iL_1, iI_add]; rfl]
    exact i1
/-- the checksum -/
def yDig (nh nc nt : Nat) (B : Nat → Int) (H C T : Nat → Nat → Int) : Int64 := yD0 nh nc nt B H C T 0 16 58231
theorem x4_digest {z e nh nc nt : Nat} {ha ca ta : Nat → Nat} {B : Nat → Int} {H C T : Nat → Nat → Int} {w : xWd} (h : xBk z e nh nc nt ha ca ta B H C T w) (v : xVB nh nc nt B H C T) : ∃ w', f_X4_digest (some z) w = some (yDig nh nc nt B H C T, w') ∧ xBk z e nh nc nt ha ca ta B H C T w' ∧ xFr z e w w' := by
  obtain ⟨w', i1, i2, i3⟩ := x4_dig0 h v 16 0 17 58231 (by omega) (by omega)
  have z0 : iI ((0 : Nat) : Int) = (0 : Int32) := by decide
  rw [z0] at i1
  refine ⟨w', ?_, i2, i3⟩
  unfold f_X4_digest
  exact i1
