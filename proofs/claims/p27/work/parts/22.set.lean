theorem xCB_start {s : Nat → Int} (h : xCB s) {st : Int} (h1 : 0 ≤ st ∧ st ≤ 50000) : xCB (va_up s 1 st) := by
  obtain ⟨b1, b2, b3, b4, b5, b6, b7, b8, b9, b10, b11, b12⟩ := h
  have n : ∀ j, j ≠ 1 → va_up s 1 st j = s j := fun j hj => xk_up_n _ _ hj
  unfold xCB
  rw [xk_up_s, n 6 (by omega), n 7 (by omega), n 10 (by omega), n 11 (by omega)]
  exact ⟨h1.1, h1.2, b3, b4, b5, b6, b7, b8, b9, b10, fun i hi => by rw [n _ (by omega), n _ (by omega)]; exact b11 i hi, fun i hi => by rw [n _ (by omega)]; exact b12 i hi⟩
theorem yv_cue {nh nc nt : Nat} {B : Nat → Int} {H C T : Nat → Nat → Int} (v : xVB nh nc nt B H C T) {k : Nat} {s : Nat → Int} (hs : xCB s) (hf : ∀ j, j = 0 ∨ j = 2 ∨ j = 3 ∨ j = 4 ∨ j = 5 → s j = C k j) : xVB nh nc nt B H (va_up C k s) T := by
  refine ⟨v.1, v.2.1, v.2.2.1, v.2.2.2.1, v.2.2.2.2.1, v.2.2.2.2.2.1, v.2.2.2.2.2.2.1, v.2.2.2.2.2.2.2.1, v.2.2.2.2.2.2.2.2.1, v.2.2.2.2.2.2.2.2.2.1, v.2.2.2.2.2.2.2.2.2.2.1, v.2.2.2.2.2.2.2.2.2.2.2.1, v.2.2.2.2.2.2.2.2.2.2.2.2.1, v.2.2.2.2.2.2.2.2.2.2.2.2.2.1, v.2.2.2.2.2.2.2.2.2.2.2.2.2.2.1, v.2.2.2.2.2.2.2.2.2.2.2.2.2.2.2.1, fun i hi => ?_, v.2.2.2.2.2.2.2.2.2.2.2.2.2.2.2.2.2.1, v.2.2.2.2.2.2.2.2.2.2.2.2.2.2.2.2.2.2⟩
  have hc := yv_c v hi
  by_cases c : i = k
  · subst c
    rw [xk_up_s, hf 0 (by omega), hf 2 (by omega), hf 3 (by omega), hf 4 (by omega), hf 5 (by omega)]
    exact ⟨hs, hc.2⟩
  · rw [xk_up_n _ _ c]
    exact hc
theorem x4_open {z e nh nc nt : Nat} {ha ca ta : Nat → Nat} {B : Nat → Int} {H C T : Nat → Nat → Int} {w : xWd} (h : xBk z e nh nc nt ha ca ta B H C T w) (v : xVB nh nc nt B H C T) {b : Int} (hb : 1 ≤ b ∧ b ≤ 60) (h7 : B 7 = 0) : ∃ w', f_X4_open (some z) (iI b) w = some (iI nt, w') ∧ xBk z e nh nc nt ha ca ta (va_up B 7 b) H C T w' ∧ xFr z e w w' := by
  obtain ⟨w', h1, h2, h3⟩ := bk_pV h (k := 7) (v := b) (by omega)
  obtain ⟨l1, l2, -⟩ := bk_lt h2
  refine ⟨w', ?_, h2, h3⟩
  unfold f_X4_open
  rw [if_neg (by rw [iL_1, iI_lt (by omega) (by omega)]; omega), if_pos (by rw [iL_60, iI_le (by omega) (by omega)]; omega)]
  simp only [bk_I7 h, Option.bind_some]
  rw [if_pos (by rw [h7, iL_0, iI_le (by omega) (by omega)]; omega)]
  simp only [h1, bk_takes h2, Option.bind_some, l1, l2]
/-- blocks of a quarter hour -/
def yBl (t : Int) : Int := (t + 14) / 15
def yCost (b t : Int) : Int := b * ((if 4 < yBl t then 4 else yBl t) * 4 + (yBl t - (if 4 < yBl t then 4 else yBl t)) * 6)
theorem x4_close {z e nh nc nt : Nat} {ha ca ta : Nat → Nat} {B : Nat → Int} {H C T : Nat → Nat → Int} {w : xWd} (h : xBk z e nh nc nt ha ca ta B H C T w) (v : xVB nh nc nt B H C T) (h7 : B 7 ≠ 0) : ∃ w', f_X4_close (some z) w = some (iI (yCost (B 7) (B 8)), w') ∧ xBk z e nh nc nt ha ca ta (va_up (va_up (va_up B 9 (B 9 + yCost (B 7) (B 8))) 7 0) 8 0) H C T w' ∧ xFr z e w w' := by
  have b7 : 0 ≤ B 7 ∧ B 7 ≤ 60 := ⟨v.2.2.2.2.2.2.2.2.2.1, v.2.2.2.2.2.2.2.2.2.2.1⟩
  have b8 : 0 ≤ B 8 ∧ B 8 ≤ 120 := ⟨v.2.2.2.2.2.2.2.2.2.2.2.1, v.2.2.2.2.2.2.2.2.2.2.2.2.1⟩
  obtain ⟨w1, h1, k1, f1⟩ := bk_pV h (k := 9) (v := B 9 + yCost (B 7) (B 8)) (by omega)
  obtain ⟨w2, h2, k2, f2⟩ := bk_pV k1 (k := 7) (v := 0) (by omega)
  obtain ⟨w3, h3, k3, f3⟩ := bk_pV k2 (k := 8) (v := 0) (by omega)
  refine ⟨w3, ?_, k3, xFr_t (xFr_t f1 f2) f3⟩
  have c0 : ¬ iI (B 7) = (0 : Int32) := by rw [iL_0, iI_eq (by omega) (by omega)]; exact h7
  have ru := x4_roundedUp (x := B 8) (n := 15) w (by omega) (by omega)
  have eb : (B 8 + 15 - 1) / 15 = yBl (B 8) := by unfold yBl; congr 1; omega
  rw [eb, ← iL_15] at ru
  have bb : 0 ≤ yBl (B 8) ∧ yBl (B 8) ≤ 8 := by unfold yBl; omega
  have em : (if (4 : Int32) < iI (yBl (B 8)) then (4 : Int32) else iI (yBl (B 8))) = iI (if 4 < yBl (B 8) then 4 else yBl (B 8)) := by
    by_cases c : 4 < yBl (B 8)
    · rw [if_pos (by rw [iL_4, iI_lt (by omega) (by omega)]; exact c), if_pos c, iL_4]
    · rw [if_neg (by rw [iL_4, iI_lt (by omega) (by omega)]; exact c), if_neg c]
  have ec : iI (B 7) * (iI (if 4 < yBl (B 8) then 4 else yBl (B 8)) * 4 + (iI (yBl (B 8)) - iI (if 4 < yBl (B 8) then 4 else yBl (B 8))) * 6) = iI (yCost (B 7) (B 8)) := by
    rw [iL_4, iL_6, iI_mul, iI_sub, iI_mul, iI_add, iI_mul]
    rfl
  have z0 : iI 0 = (0 : Int32) := by decide
  rw [z0] at h2 h3
  unfold f_X4_close
  simp only [bk_I7 h, bk_I8 h, bk_I9 h, Option.bind_some, if_neg c0, ru, em, ec, iI_add, h1, h2, h3]
theorem x4_theme {z e nh nc nt : Nat} {ha ca ta : Nat → Nat} {B : Nat → Int} {H C T : Nat → Nat → Int} {w : xWd} (h : xBk z e nh nc nt ha ca ta B H C T w) (v : xVB nh nc nt B H C T) {r : Int} (hr : 0 ≤ r ∧ r ≤ B 5) (h2 : B 2 < 4) : ∃ w', f_X4_theme (some z) (iI r) w = some (iI (B 2), w') ∧ xBk z e nh nc nt ha ca ta (va_up (va_up B (20 + (B 2).toNat) r) 2 (B 2 + 1)) H C T w' ∧ xFr z e w w' := by
  have hn := yv_n v
  have b2 : 0 ≤ B 2 := v.2.2.2.2.2.2.2.1
  obtain ⟨w1, g1, k1, f1⟩ := bk_sR h (i := (B 2).toNat) (v := r) (by omega)
  rw [show (((B 2).toNat : Nat) : Int) = B 2 by omega] at g1
  obtain ⟨w2, g2, k2, f2⟩ := bk_pV k1 (k := 2) (v := B 2 + 1) (by omega)
  refine ⟨w2, ?_, k2, xFr_t f1 f2⟩
  have e1 := bk_I2 k1
  rw [xk_up_n _ _ (by omega)] at e1
  have e2 := bk_I2 k2
  rw [xk_up_s] at e2
  have e3 : iI (B 2) + (1 : Int32) = iI (B 2 + 1) := by rw [iL_1, iI_add]
  have e4 : iI (B 2 + 1) - (1 : Int32) = iI (B 2) := by rw [iL_1, iI_sub]; congr 1; omega
  unfold f_X4_theme
  rw [if_neg (by rw [iL_0, iI_lt (by omega) (by omega)]; omega), bk_I5 h, Option.bind_some, if_pos (by rw [iI_le (by omega) (by omega)]; omega), bk_I2 h, Option.bind_some, if_pos (by rw [iL_4, iI_lt (by omega) (by omega)]; omega)]
  simp only [bk_reveals h, Option.bind_some, g1, e1, e3, g2, e2, e4]
theorem x4_shift {z e nh nc nt : Nat} {ha ca ta : Nat → Nat} {B : Nat → Int} {H C T : Nat → Nat → Int} {w : xWd} (h : xBk z e nh nc nt ha ca ta B H C T w) (v : xVB nh nc nt B H C T) {c : Nat} {st : Int} (hc : c < nc) (hs : 0 ≤ st ∧ st ≤ B 5) : ∃ w', f_X4_shift (some z) (iI c) (iI st) w = some (iI (yCm nh nc H (va_up C c (va_up (C c) 1 st))), w') ∧ xBk z e nh nc nt ha ca ta B H (va_up C c (va_up (C c) 1 st)) T w' ∧ xVB nh nc nt B H (va_up C c (va_up (C c) 1 st)) T ∧ xFr z e w w' := by
  have hn := yv_n v
  have hC := bk_c h hc
  obtain ⟨k1, f1⟩ := bk_cue h hc (va_up (C c) 1 st)
  have v1 : xVB nh nc nt B H (va_up C c (va_up (C c) 1 st)) T := yv_cue v (xCB_start (yv_c v hc).1 (by omega)) (fun j hj => xk_up_n _ _ (by omega))
  have p1 := xCW_pV (w := w) (a := ca c) (k := 1) (s := C c) (v := st) (by omega)
  rw [xCW_id hC] at p1
  refine ⟨_, ?_, k1, v1, f1⟩
  unfold f_X4_shift
  simp only [bk_is h, x4_cueNumbered h v hc, Option.bind_some]
  rw [if_neg (by rw [iL_0, iI_lt (by omega) (by omega)]; omega), bk_I5 h, Option.bind_some, if_pos (by rw [iI_le (by omega) (by omega)]; omega), p1, Option.bind_some, bk_is k1, Option.bind_some, x4_countMet k1 v1, Option.bind_some]
theorem x4_badBar (w : xWd) {m c : Int} (hm : 2 ≤ m ∧ m ≤ 7) (hc : 24 ≤ c ∧ c ≤ 160) : f_X4_refuseBadBar (iI m) (iI c) w = some w := by
  unfold f_X4_refuseBadBar
  rw [if_neg (by rw [iL_2, iI_lt (by omega) (by omega)]; omega), if_neg (by rw [iL_7, iI_lt (by omega) (by omega)]; omega), if_neg (by rw [iL_24, iI_lt (by omega) (by omega)]; omega), if_pos (by rw [iL_160, iI_le (by omega) (by omega)]; omega)]
/-- a bar put behind -/
def yBar (s : Nat → Int) (m c : Int) : Nat → Int := ySet (va_up s 7 (s 7 + 1)) (s 7).toNat m c
theorem yBar_ok {s : Nat → Int} (hB : xCB s) {m c : Int} (h7 : s 7 < 9) (hm : 2 ≤ m ∧ m ≤ 7) (hc : 24 ≤ c ∧ c ≤ 160) (h6 : s 6 < 5000) (hK : xCK s) :
    xCB (yBar s m c) ∧ xCK (yBar s m c) ∧ xCI (yBar s m c) ∧ (∀ j, j < 20 → j ≠ 6 → j ≠ 7 → j ≠ 10 → j ≠ 11 → yBar s m c j = s j) ∧ yBar s m c 6 = s 6 + 1 ∧ yBar s m c 7 = s 7 + 1 := by
  obtain ⟨b1, b2, b3, b4, b5, b6, b7, b8, b9, b10, b11, b12⟩ := id hB
  have n : ∀ j, j ≠ 7 → va_up s 7 (s 7 + 1) j = s j := fun j hj => xk_up_n _ _ hj
  have hB2 : xCB (va_up s 7 (s 7 + 1)) := by
    unfold xCB
    rw [xk_up_s, n 1 (by omega), n 6 (by omega), n 10 (by omega), n 11 (by omega)]
    exact ⟨b1, b2, b3, b4, by omega, by omega, b7, b8, b9, b10, fun i hi => by rw [n _ (by omega), n _ (by omega)]; exact b11 i hi, fun i hi => by rw [n _ (by omega)]; exact b12 i hi⟩
  obtain ⟨o1, o2, o3, o4, o5⟩ := ySet_ok hB2 (b := (s 7).toNat) (m := m) (c := c) (by rw [xk_up_s]; omega) hm hc (by rw [n 6 (by omega)]; exact h6) (fun i hi hne => by
    rw [xk_up_s] at hi
    rw [n _ (by omega), n _ (by omega)]
    exact hK i (by omega))
  refine ⟨o1, o2, o3, fun j j1 j2 j3 j4 j5 => (o4 j (by omega) j2 j4 j5 j1).trans (n j j3), o5.trans (by rw [n 6 (by omega)]), (o4 7 (by omega) (by omega) (by omega) (by omega) (by omega)).trans (xk_up_s _ _ _)⟩
theorem xCW_CW (w : xWd) (a : Nat) (s t : Nat → Int) : xCW (xCW w a s) a t = xCW w a t := by
  refine xCW_e (xCW_C _ _ _) rfl (fun q hq => (xCW_n _ _ hq).trans (xCW_n _ _ hq))
theorem x4_bar {z e nh nc nt : Nat} {ha ca ta : Nat → Nat} {B : Nat → Int} {H C T : Nat → Nat → Int} {w : xWd} (h : xBk z e nh nc nt ha ca ta B H C T w) (v : xVB nh nc nt B H C T) {k : Nat} {m c : Int} (hk : k < nc) (h7 : C k 7 < 9) (hm : 2 ≤ m ∧ m ≤ 7) (hc : 24 ≤ c ∧ c ≤ 160) (h6 : C k 6 < 5000) (hK : xCK (C k)) : ∃ w', f_X4_bar (some z) (iI k) (iI m) (iI c) w = some (iI (C k 7), w') ∧ xBk z e nh nc nt ha ca ta B H (va_up C k (yBar (C k) m c)) T w' ∧ xVB nh nc nt B H (va_up C k (yBar (C k) m c)) T ∧ xFr z e w w' := by
  have hn := yv_n v
  have hC := bk_c h hk
  have hB := (yv_c v hk).1
  have b7 := hB.2.2.2.2.1
  obtain ⟨o1, o2, o3, o4, o5, o6⟩ := yBar_ok hB h7 hm hc h6 hK
  obtain ⟨k1, f1⟩ := bk_cue h hk (yBar (C k) m c)
  have p1 := xCW_pV (w := w) (a := ca k) (k := 7) (s := C k) (v := C k 7 + 1) (by omega)
  rw [xCW_id hC] at p1
  have hC1 := xCW_C w (ca k) (va_up (C k) 7 (C k 7 + 1))
  have n : ∀ j, j ≠ 7 → va_up (C k) 7 (C k 7 + 1) j = C k j := fun j hj => xk_up_n _ _ hj
  have hB1 : xCB (va_up (C k) 7 (C k 7 + 1)) := by
    obtain ⟨b1, b2, b3, b4, b5, b6, b7, b8, b9, b10, b11, b12⟩ := hB
    unfold xCB
    rw [xk_up_s, n 1 (by omega), n 6 (by omega), n 10 (by omega), n 11 (by omega)]
    exact ⟨b1, b2, b3, b4, by omega, by omega, b7, b8, b9, b10, fun i hi => by rw [n _ (by omega), n _ (by omega)]; exact b11 i hi, fun i hi => by rw [n _ (by omega)]; exact b12 i hi⟩
  have sb := x0_setBar (b := C k 7) (m := m) (c := c) hC1 hB1 (by rw [xk_up_s]; omega) (by omega) (by omega)
  rw [xCW_CW] at sb
  have g7 : xk_gI w (some (ca k)) 1 7 = some (iI (C k 7)) := xr_gI (k := 7) hC.1 rfl
  have g7' : xk_gI (xCW w (ca k) (va_up (C k) 7 (C k 7 + 1))) (some (ca k)) 1 7 = some (iI (C k 7 + 1)) := by
    refine (xr_gI (k := 7) hC1.1 rfl).trans ?_
    rw [xk_up_s]
  have g7'' : xk_gI (xCW w (ca k) (yBar (C k) m c)) (some (ca k)) 1 7 = some (iI (C k 7 + 1)) := by
    refine (xr_gI (k := 7) (xCW_C w (ca k) (yBar (C k) m c)).1 rfl).trans ?_
    rw [o6]
  have e3 : iI (C k 7) + (1 : Int32) = iI (C k 7 + 1) := by rw [iL_1, iI_add]
  have e4 : iI (C k 7 + 1) - (1 : Int32) = iI (C k 7) := by rw [iL_1, iI_sub]; congr 1; omega
  have c9 : iI (C k 7) < (9 : Int32) := by rw [iL_9, iI_lt (by omega) (by omega)]; exact h7
  have sb' : f_X0_setBar (some (ca k)) (iI (C k 7)) (iI m) (iI c) (xCW w (ca k) (va_up (C k) 7 (C k 7 + 1))) = some (xCW w (ca k) (yBar (C k) m c)) := sb
  refine ⟨_, ?_, k1, yv_cue v o1 (fun j hj => o4 j (by omega) (by omega) (by omega) (by omega) (by omega)), f1⟩
  unfold f_X4_bar
  simp only [bk_is h, x4_cueNumbered h v hk, Option.bind_some, x4_badBar w hm hc, g7, if_pos c9, e3, p1, g7', xr_is hC1.1, e4, sb', g7'']
theorem x4_retime {z e nh nc nt : Nat} {ha ca ta : Nat → Nat} {B : Nat → Int} {H C T : Nat → Nat → Int} {w : xWd} (h : xBk z e nh nc nt ha ca ta B H C T w) (v : xVB nh nc nt B H C T) {k : Nat} {b m c : Int} (hk : k < nc) (hb : 0 ≤ b ∧ b < C k 7) (hm : 2 ≤ m ∧ m ≤ 7) (hc : 24 ≤ c ∧ c ≤ 160) (h6 : C k 6 < 5000) (hK : xCK (C k)) : ∃ w', f_X4_retime (some z) (iI k) (iI b) (iI m) (iI c) w = some (iI (ySet (C k) b.toNat m c 1 + ySet (C k) b.toNat m c 11), w') ∧ xBk z e nh nc nt ha ca ta B H (va_up C k (ySet (C k) b.toNat m c)) T w' ∧ xVB nh nc nt B H (va_up C k (ySet (C k) b.toNat m c)) T ∧ xFr z e w w' := by
  have hn := yv_n v
  have hC := bk_c h hk
  have hB := (yv_c v hk).1
  have b9 := hB.2.2.2.2.2.1
  obtain ⟨o1, o2, o3, o4, o5⟩ := ySet_ok hB (b := b.toNat) (m := m) (c := c) (by omega) hm hc h6 (fun i hi _ => hK i hi)
  obtain ⟨k1, f1⟩ := bk_cue h hk (ySet (C k) b.toNat m c)
  have sb := x0_setBar (b := b) (m := m) (c := c) hC hB hb (by omega) (by omega)
  have hC1 := xCW_C w (ca k) (ySet (C k) b.toNat m c)
  have g7 : xk_gI w (some (ca k)) 1 7 = some (iI (C k 7)) := xr_gI (k := 7) hC.1 rfl
  have nb : f_X4_refuseNoBar (some (ca k)) (iI b) w = some w := by
    unfold f_X4_refuseNoBar
    rw [if_neg (by rw [iL_0, iI_lt (by omega) (by omega)]; omega), g7, Option.bind_some, if_pos (by rw [iI_lt (by omega) (by omega)]; omega)]
  refine ⟨_, ?_, k1, yv_cue v o1 (fun j hj => o4 j (by omega) (by omega) (by omega) (by omega) (by omega)), f1⟩
  unfold f_X4_retime
  simp only [bk_is h, x4_cueNumbered h v hk, Option.bind_some, nb, x4_badBar w hm hc, xr_is hC.1, sb, xr_is hC1.1, x0_end hC1]
