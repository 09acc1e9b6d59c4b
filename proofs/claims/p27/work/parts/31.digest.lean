/-- the place after k bars of the best join -/
def yPc (T : Nat → Nat → Int) (pl : Nat → Nat) (n nb : Nat) : Nat → Int
  | 0 => -1
  | k + 1 => (yBp (fun p => yVj T pl n nb (nb - 1 - k) p - yCp T pl (yPc T pl n nb k) p) n).1
theorem yPc_b (T : Nat → Nat → Int) (pl : Nat → Nat) (n nb : Nat) : ∀ k : Nat, -1 ≤ yPc T pl n nb k ∧ (yPc T pl n nb k = -1 ∨ yPc T pl n nb k < n) := by
  intro k
  cases k with
  | zero => exact ⟨Int.le_refl _, Or.inl rfl⟩
  | succ k =>
    show -1 ≤ (yBp (fun p => yVj T pl n nb (nb - 1 - k) p - yCp T pl (yPc T pl n nb k) p) n).1 ∧ ((yBp (fun p => yVj T pl n nb (nb - 1 - k) p - yCp T pl (yPc T pl n nb k) p) n).1 = -1 ∨ (yBp (fun p => yVj T pl n nb (nb - 1 - k) p - yCp T pl (yPc T pl n nb k) p) n).1 < n)
    by_cases c : n = 0
    · subst c; exact ⟨Int.le_refl _, Or.inl rfl⟩
    · obtain ⟨j, h1, h2, h3⟩ := yBp_s (fun p => yVj T pl n nb (nb - 1 - k) p - yCp T pl (yPc T pl n nb k) p) n (by omega)
      rw [h2]
      exact ⟨by show -1 ≤ (j : Int); omega, Or.inr (by show (j : Int) < n; omega)⟩
/-- the take of a bar in the best join -/
def yTk (nt : Nat) (C T : Nat → Nat → Int) (c b : Nat) : Int :=
  if yPc T (yPool C T c nt).2 (yPool C T c nt).1 (C c 7).toNat (b + 1) < 0 then -1 else T ((yPool C T c nt).2 (yPc T (yPool C T c nt).2 (yPool C T c nt).1 (C c 7).toNat (b + 1)).toNat) 0
theorem x2_takeOf {z e nh nc nt : Nat} {ha ca ta : Nat → Nat} {B : Nat → Int} {H C T : Nat → Nat → Int} {w : xWd} (hk : xBk z e nh nc nt ha ca ta B H C T w) (v : xVB nh nc nt B H C T) {c : Nat} (hc : c < nc) {pr0 : Nat} {w0 : xWd} {W : Nat → Int32} (h : xJs z ta pr0 w0 w ((C c 7).toNat : Int) (yPool C T c nt).1 (yPool C T c nt).2 W) (hW : xWv T (yPool C T c nt).2 (yPool C T c nt).1 (C c 7).toNat W (C c 7).toNat) {b : Nat} (hb : b < (C c 7).toNat) :
    f_X2_takeOf (some (z + 5)) (iI b) w = some (iI (yTk nt C T c b), w) := by
  have hn := yv_n v
  have hB := (yv_c v hc).1
  have b7 : 0 ≤ C c 7 ∧ C c 7 ≤ 9 := ⟨hB.2.2.2.2.1, hB.2.2.2.2.2.1⟩
  obtain ⟨p1, p2, p3⟩ := yPool_s C T c nt
  obtain ⟨j1, j2, j3, j4, j5, j6, j7, j8⟩ := xJs_0 h
  have hT : ∀ i, i < (yPool C T c nt).1 → -2 ≤ T ((yPool C T c nt).2 i) 4 ∧ T ((yPool C T c nt).2 i) 4 ≤ 2 := fun i hi => by have := yv_t v (p2 i hi).1; omega
  have lp : ∀ (r k fu : Nat), k + r = b + 1 → r < fu → f_X2_takeOf_4 fu (some (z + 5)) (iI b) (iI (yPc T (yPool C T c nt).2 (yPool C T c nt).1 (C c 7).toNat k)) (iI k) w = f_X2_takeOf_30 (some (z + 5)) (iI (yPc T (yPool C T c nt).2 (yPool C T c nt).1 (C c 7).toNat (b + 1))) w := by
    intro r
    induction r with
    | zero =>
      intro k fu h1 h4
      obtain ⟨fu, rfl⟩ : ∃ f, fu = f + 1 := ⟨fu - 1, by omega⟩
      unfold f_X2_takeOf_4
      rw [if_pos (by rw [iI_lt (by omega) (by omega)]; omega), show b + 1 = k by omega]
    | succ r ih =>
      intro k fu h1 h4
      obtain ⟨fu, rfl⟩ : ∃ f, fu = f + 1 := ⟨fu - 1, by omega⟩
      have hkb : k < (C c 7).toNat := by omega
      have pb := yPc_b T (yPool C T c nt).2 (yPool C T c nt).1 (C c 7).toNat k
      have hV : ∀ p, p < (yPool C T c nt).1 → W (k * 40 + p) = iI (yVj T (yPool C T c nt).2 (yPool C T c nt).1 (C c 7).toNat ((C c 7).toNat - 1 - k) p) ∧ -1000 ≤ yVj T (yPool C T c nt).2 (yPool C T c nt).1 (C c 7).toNat ((C c 7).toNat - 1 - k) p ∧ yVj T (yPool C T c nt).2 (yPool C T c nt).1 (C c 7).toNat ((C c 7).toNat - 1 - k) p ≤ 1000 := fun p hp => by
        have h1 := hW ((C c 7).toNat - 1 - k) p (by omega) hp
        rw [show (C c 7).toNat - 1 - ((C c 7).toNat - 1 - k) = k by omega] at h1
        have h2 := yVj_b (nb := (C c 7).toNat) hT ((C c 7).toNat - 1 - k) p hp
        exact ⟨h1, by omega, by omega⟩
      have bp := x2_place hk v h (by omega) (by omega) (fun i hi => (p2 i hi).1) (ah := yPc T (yPool C T c nt).2 (yPool C T c nt).1 (C c 7).toNat k) (b := k) (by omega) (by omega) hV
      have i2 := ih (k + 1) fu (by omega) (by omega)
      unfold f_X2_takeOf_4
      rw [if_neg (by rw [iI_lt (by omega) (by omega)]; omega), j3, Option.bind_some, if_neg (by rw [iI_le (by omega) (by omega)]; omega), j1, Option.bind_some, bp, Option.bind_some, show iI (k : Int) + (1 : Int32) = iI ((k + 1 : Nat) : Int) by rw [iL_1, iI_add]; rfl]
      exact i2
  have l0 := lp (b + 1) 0 4096 (by omega) (by omega)
  have z0 : iI ((0 : Nat) : Int) = (0 : Int32) := by decide
  have y1 : iI (yPc T (yPool C T c nt).2 (yPool C T c nt).1 (C c 7).toNat 0) = (-1 : Int32) := by show iI (-1) = (-1 : Int32); decide
  rw [y1, z0] at l0
  have pb := yPc_b T (yPool C T c nt).2 (yPool C T c nt).1 (C c 7).toNat (b + 1)
  unfold f_X2_takeOf
  rw [l0]
  unfold f_X2_takeOf_30 f_X2_takeOf_45 f_X2_takeOf_63 yTk
  by_cases d : yPc T (yPool C T c nt).2 (yPool C T c nt).1 (C c 7).toNat (b + 1) < 0
  · rw [if_pos (by rw [iL_0, iI_lt (by omega) (by omega)]; exact d), if_pos d, iL_m1]
  · rw [if_neg (by rw [iL_0, iI_lt (by omega) (by omega)]; exact d), if_neg d]
    obtain ⟨q, hq⟩ : ∃ q : Nat, yPc T (yPool C T c nt).2 (yPool C T c nt).1 (C c 7).toNat (b + 1) = q := ⟨(yPc T (yPool C T c nt).2 (yPool C T c nt).1 (C c 7).toNat (b + 1)).toNat, by omega⟩
    rw [hq, Int.toNat_natCast]
    have c4 : iI (q : Int) < iI ((yPool C T c nt).1 : Int) := by rw [iI_lt (by omega) (by omega)]; omega
    have ta1 := bk_t hk (p2 q (by omega)).1
    have q1 : xk_cc w (some (ta ((yPool C T c nt).2 q))) 4 = some () := xr_cc ta1
    have g1 : xk_gI w (some (ta ((yPool C T c nt).2 q))) 4 0 = some (iI (T ((yPool C T c nt).2 q) 0)) := xr_gI (k := 0) ta1 rfl
    simp only [j2, j5, j6, Option.bind_some, if_pos c4, j7 q (by omega), q1, g1]
theorem x0_beatFrame2 {w : xWd} {a : Nat} {s : Nat → Int} (h : xC w a s) (hB : xCB s) {b : Int} (h2 : 0 ≤ b ∧ b ≤ 1000) : f_X0_beatFrame (some a) (iI b) w = some (iI (if b < s 10 then s 1 + s (22 + 3 * b.toNat) else s 1), w) := by
  by_cases c : b < s 10
  · rw [if_pos c]
    exact x0_beatFrame h hB h2.1 c
  · have hb : s 10 ≤ 63 := hB.2.2.2.2.2.2.2.1
    have hb0 : 0 ≤ s 10 := hB.2.2.2.2.2.2.1
    rw [if_neg c]
    unfold f_X0_beatFrame f_X0_beatFrame_21 f_X0_beatFrame_39
    rw [if_neg (by rw [iL_0, iI_lt (by omega) (by omega)]; omega), xr_gI (k := 10) h.1 rfl, Option.bind_some, if_pos (by rw [iI_le (by omega) (by omega)]; omega), xr_gI (k := 1) h.1 rfl, Option.bind_some]
/-- what ofBar answers -/
def yBrv (C : Nat → Nat → Int) (c b : Nat) : Nat → Int
  | 0 => C c (20 + 3 * b) | 1 => C c (21 + 3 * b) | 2 => yB (C c) b | _ => if yB (C c) b < C c 10 then C c 1 + C c (22 + 3 * (yB (C c) b).toNat) else C c 1
theorem x4_ofBar {z e nh nc nt : Nat} {ha ca ta : Nat → Nat} {B : Nat → Int} {H C T : Nat → Nat → Int} {w : xWd} (h : xBk z e nh nc nt ha ca ta B H C T w) (v : xVB nh nc nt B H C T) {c b k : Nat} (hc : c < nc) (hb : (b : Int) < C c 7) (hk : k ≤ 3) : f_X4_ofBar (some z) (iI c) (iI b) (iI k) w = some (iI (yBrv C c b k), w) := by
  have hC := bk_c h hc
  have hB := (yv_c v hc).1
  have b9 : C c 7 ≤ 9 := hB.2.2.2.2.2.1
  have g7 : xk_gI w (some (ca c)) 1 7 = some (iI (C c 7)) := xr_gI (k := 7) hC.1 rfl
  have g8 : xk_gR w (some (ca c)) 1 8 = some (some (ca c + 1)) := xr_gR (k := 8) hC.1 rfl
  have g9 : xk_gR w (some (ca c)) 1 9 = some (some (ca c + 2)) := xr_gR (k := 9) hC.1 rfl
  have e1 := xr_lI hC.2.1 (i := (b : Int)) (by omega) (by omega) (by omega)
  have e2 := xr_lI hC.2.2.1 (i := (b : Int)) (by omega) (by omega) (by omega)
  rw [Int.toNat_natCast] at e1 e2
  have fb := x0_firstBeat hC (b := (b : Int)) (by omega) (by omega)
  rw [Int.toNat_natCast] at fb
  have MK : yMK (C c) (fun i => C c (21 + 3 * i)) := hB.2.2.2.2.2.2.2.2.2.2.1
  have bb := yB_b MK b (by omega)
  have bf := x0_beatFrame2 hC hB (b := yB (C c) b) (by omega)
  have nb : f_X4_refuseNoBar (some (ca c)) (iI (b : Int)) w = some w := by
    unfold f_X4_refuseNoBar
    rw [if_neg (by rw [iL_0, iI_lt (by omega) (by omega)]; omega), g7, Option.bind_some, if_pos (by rw [iI_lt (by omega) (by omega)]; omega)]
  unfold f_X4_ofBar
  simp only [bk_is h, x4_cueNumbered h v hc, Option.bind_some, nb]
  rcases (show k = 0 ∨ k = 1 ∨ k = 2 ∨ k = 3 by omega) with rfl | rfl | rfl | rfl
  · rw [if_pos (by decide), g8, Option.bind_some, e1]; rfl
  · rw [if_neg (by decide), if_pos (by decide), g9, Option.bind_some, e2]; rfl
  · iterate 2 rw [if_neg (by decide)]
    rw [if_pos (by decide)]; simp only [xr_is hC.1, fb, Option.bind_some]; rfl
  · iterate 3 rw [if_neg (by decide)]
    rw [if_pos (by decide)]; simp only [xr_is hC.1, fb, bf, Option.bind_some]; rfl
/-- a checksum goes on -/
def yMx (d : Int64) (x : Int) : Int64 := d * 31 + (iI x).toInt64
theorem x4_mixed (d : Int64) (x : Int) (w : xWd) : f_X4_mixed d ((iI x).toInt64) w = some (yMx d x, w) := rfl
/-- over r answers from k on -/
def yFo (g : Nat → Int) (k : Nat) : Nat → Int64 → Int64
  | 0, d => d
  | r + 1, d => yFo g (k + 1) r (yMx d (g k))
theorem x4_mixedBar {z e nh nc nt : Nat} {ha ca ta : Nat → Nat} {B : Nat → Int} {H C T : Nat → Nat → Int} {w : xWd} (hk : xBk z e nh nc nt ha ca ta B H C T w) (v : xVB nh nc nt B H C T) {c b : Nat} (hc : c < nc) (hb : (b : Int) < C c 7) {pr0 : Nat} {w0 : xWd} {W : Nat → Int32} (h : xJs z ta pr0 w0 w ((C c 7).toNat : Int) (yPool C T c nt).1 (yPool C T c nt).2 W) (hW : xWv T (yPool C T c nt).2 (yPool C T c nt).1 (C c 7).toNat W (C c 7).toNat) (k57 : Option Nat → Int32 → Int64 → Option Nat → Int32 → xWd → Option (Int64 × xWd)) :
    ∀ (r k fu : Nat) (d : Int64), k + r = 4 → r < fu → f_X4_mixedCue_70 k57 fu (some z) (iI c) d (some (ca c)) (iI b) (iI k) w = k57 (some z) (iI c) (yMx (yFo (yBrv C c b) k r d) (yTk nt C T c b)) (some (ca c)) (iI ((b + 1 : Nat) : Int)) w := by
  obtain ⟨j1, -⟩ := xJs_0 h
  intro r
  induction r with
  | zero =>
    intro k fu d h1 h4
    obtain ⟨fu, rfl⟩ : ∃ f, fu = f + 1 := ⟨fu - 1, by omega⟩
    have e : k = 4 := by omega
    subst e
    have b9 : C c 7 ≤ 9 := (yv_c v hc).1.2.2.2.2.2.1
    have tk := x2_takeOf hk v hc h hW (b := b) (by omega)
    unfold f_X4_mixedCue_70
    rw [if_pos (by decide), bk_joins hk, Option.bind_some, j1, Option.bind_some, tk, Option.bind_some, show iI (b : Int) + (1 : Int32) = iI ((b + 1 : Nat) : Int) by rw [iL_1, iI_add]; rfl]
    rfl
  | succ r ih =>
    intro k fu d h1 h4
    obtain ⟨fu, rfl⟩ : ∃ f, fu = f + 1 := ⟨fu - 1, by omega⟩
    have ob := x4_ofBar hk v (b := b) (k := k) hc hb (by omega)
    unfold f_X4_mixedCue_70
    rw [if_neg (by rw [iL_3, iI_lt (by omega) (by omega)]; omega), bk_is hk, Option.bind_some, ob, Option.bind_some, show iI (k : Int) + (1 : Int32) = iI ((k + 1 : Nat) : Int) by rw [iL_1, iI_add]; rfl]
    exact ih (k + 1) fu (yMx d (yBrv C c b k)) (by omega) (by omega)
/-- the checksum over r bars from b on -/
def yFb (nt : Nat) (C T : Nat → Nat → Int) (c b : Nat) : Nat → Int64 → Int64
  | 0, d => d
  | r + 1, d => yFb nt C T c (b + 1) r (yMx (yFo (yBrv C c b) 0 4 d) (yTk nt C T c b))
theorem x4_mixedBars {z e nh nc nt : Nat} {ha ca ta : Nat → Nat} {B : Nat → Int} {H C T : Nat → Nat → Int} {w : xWd} (hk : xBk z e nh nc nt ha ca ta B H C T w) (v : xVB nh nc nt B H C T) {c : Nat} (hc : c < nc) {pr0 : Nat} {w0 : xWd} {W : Nat → Int32} (h : xJs z ta pr0 w0 w ((C c 7).toNat : Int) (yPool C T c nt).1 (yPool C T c nt).2 W) (hW : xWv T (yPool C T c nt).2 (yPool C T c nt).1 (C c 7).toNat W (C c 7).toNat) :
    ∀ (r b fu : Nat) (d : Int64), (b : Int) + r = C c 7 → r < fu → f_X4_mixedCue_57 fu (some z) (iI c) d (some (ca c)) (iI b) w = some (yMx (yFb nt C T c b r d) (yJoin nt C T c), w) := by
  have hC := bk_c hk hc
  have b9 : C c 7 ≤ 9 := (yv_c v hc).1.2.2.2.2.2.1
  have g7 : xk_gI w (some (ca c)) 1 7 = some (iI (C c 7)) := xr_gI (k := 7) hC.1 rfl
  obtain ⟨j1, -⟩ := xJs_0 h
  intro r
  induction r with
  | zero =>
    intro b fu d h1 h4
    obtain ⟨fu, rfl⟩ : ∃ f, fu = f + 1 := ⟨fu - 1, by omega⟩
    have bw := x2_bestWorth hk v hc h hW
    unfold f_X4_mixedCue_57
    rw [g7, Option.bind_some, if_pos (by rw [iI_le (by omega) (by omega)]; omega), bk_joins hk, Option.bind_some, j1, Option.bind_some, bw, Option.bind_some]
    rfl
  | succ r ih =>
    intro b fu d h1 h4
    obtain ⟨fu, rfl⟩ : ∃ f, fu = f + 1 := ⟨fu - 1, by omega⟩
    have mb := x4_mixedBar hk v (b := b) hc (by omega) h hW (f_X4_mixedCue_57 fu) 4 0 4096 d (by omega) (by omega)
    have z0 : iI ((0 : Nat) : Int) = (0 : Int32) := by decide
    rw [z0] at mb
    unfold f_X4_mixedCue_57
    rw [g7, Option.bind_some, if_neg (by rw [iI_le (by omega) (by omega)]; omega), mb]
    exact ih (b + 1) fu _ (by omega) (by omega)
/-- the checksum over a cue -/
def yDc (nt : Nat) (B : Nat → Int) (C T : Nat → Nat → Int) (c : Nat) (d : Int64) : Int64 := yMx (yFb nt C T c 0 (C c 7).toNat (yFo (yCue nt B C T c) 0 13 d)) (yJoin nt C T c)
theorem x4_mixedCue_l {z e nh nc nt : Nat} {ha ca ta : Nat → Nat} {B : Nat → Int} {H C T : Nat → Nat → Int} {w : xWd} (h : xBk z e nh nc nt ha ca ta B H C T w) (v : xVB nh nc nt B H C T) {c : Nat} (hc : c < nc) : ∀ (r k fu : Nat) (d : Int64), k + r = 13 → r < fu → ∃ w', f_X4_mixedCue_6 fu (some z) (iI c) d (iI k) w = some (yMx (yFb nt C T c 0 (C c 7).toNat (yFo (yCue nt B C T c) k r d)) (yJoin nt C T c), w') ∧ xBk z e nh nc nt ha ca ta B H C T w' ∧ xFr z e w w' := by
  intro r
  induction r with
  | zero =>
    intro k fu d h1 h4
    obtain ⟨fu, rfl⟩ : ∃ f, fu = f + 1 := ⟨fu - 1, by omega⟩
    have e : k = 13 := by omega
    subst e
    have b7 : 0 ≤ C c 7 := (yv_c v hc).1.2.2.2.2.1
    have hj : xk_is w (some (z + 5)) 3 = some () := by
      obtain ⟨tr, pr, np, pa, b, W, -, -, g5, -⟩ := h.2.2.2.2.1
      exact xr_is g5
    obtain ⟨pr0, w1, W1, f1, f2, f3, k1, fr⟩ := x2_fill h v hc
    have mb := x4_mixedBars k1 v hc f2 f3 (C c 7).toNat 0 4096 d (by omega) (by have := (yv_c v hc).1.2.2.2.2.2.1; omega)
    have z0 : iI ((0 : Nat) : Int) = (0 : Int32) := by decide
    rw [z0] at mb
    refine ⟨w1, ?_, k1, fr⟩
    unfold f_X4_mixedCue_6
    rw [if_pos (by decide), bk_is h, Option.bind_some, x4_cueNumbered h v hc, Option.bind_some]
    show (xk_gR w (some z) 0 10).bind _ = _
    rw [bk_joins h, Option.bind_some]
    show (xk_gR w (some z) 0 4).bind _ = _
    rw [bk_takes h, Option.bind_some]
    show (xk_is w (some (z + 5)) 3).bind _ = _
    rw [hj, Option.bind_some]
    show (f_X2_fill (some (z + 5)) (some (ca c)) (some (z + 4)) w).bind _ = _
    rw [f1, Option.bind_some]
    exact mb
  | succ r ih =>
    intro k fu d h1 h4
    obtain ⟨fu, rfl⟩ : ∃ f, fu = f + 1 := ⟨fu - 1, by omega⟩
    have oc := x4_ofCue h v (k := k) hc (by omega)
    obtain ⟨w', i1, i2, i3⟩ := ih (k + 1) fu (yMx d (yCue nt B C T c k)) (by omega) (by omega)
    refine ⟨w', ?_, i2, i3⟩
    unfold f_X4_mixedCue_6
    rw [if_neg (by rw [iL_12, iI_lt (by omega) (by omega)]; omega), bk_is h, Option.bind_some, oc, Option.bind_some, show iI (k : Int) + (1 : Int32) = iI ((k + 1 : Nat) : Int) by rw [iL_1, iI_add]; rfl]
    exact i1
theorem x4_mixedCue {z e nh nc nt : Nat} {ha ca ta : Nat → Nat} {B : Nat → Int} {H C T : Nat → Nat → Int} {w : xWd} (h : xBk z e nh nc nt ha ca ta B H C T w) (v : xVB nh nc nt B H C T) {c : Nat} (hc : c < nc) (d : Int64) : ∃ w', f_X4_mixedCue (some z) d (iI c) w = some (yDc nt B C T c d, w') ∧ xBk z e nh nc nt ha ca ta B H C T w' ∧ xFr z e w w' := by
  have := x4_mixedCue_l h v hc 13 0 4096 d (by omega) (by omega)
  have z0 : iI ((0 : Nat) : Int) = (0 : Int32) := by decide
  rw [z0] at this
  unfold f_X4_mixedCue
  exact this
