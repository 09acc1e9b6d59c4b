/-! the setting up -/
theorem x4_bar_e {z e nh nc nt : Nat} {ha ca ta : Nat → Nat} {B : Nat → Int} {H C T : Nat → Nat → Int} {w : xWd} (h : xBk z e nh nc nt ha ca ta B H C T w) (v : xVB nh nc nt B H C T) {k : Nat} {m c : Int} (hk : k < nc) (h7 : C k 7 < 9) (hm : 2 ≤ m ∧ m ≤ 7) (hc : 24 ≤ c ∧ c ≤ 160) (h6 : C k 6 < 5000) (hK : xCK (C k)) : f_X4_bar (some z) (iI k) (iI m) (iI c) w = some (iI (C k 7), xCW w (ca k) (yBar (C k) m c)) ∧ xBk z e nh nc nt ha ca ta B H (va_up C k (yBar (C k) m c)) T (xCW w (ca k) (yBar (C k) m c)) := by
  have hn := yv_n v
  have hC := bk_c h hk
  have hB := (yv_c v hk).1
  have b7 := hB.2.2.2.2.1
  obtain ⟨o1, o2, o3, o4, o5, o6⟩ := yBar_ok hB h7 hm hc h6 hK
  obtain ⟨k1, f1⟩ := bk_cue h hk (yBar (C k) m c)
  have p1 := xCW_pV (w := w) (a := ca k) (k := 7) (s := C k) (v := C k 7 + 1) (by omega)
  rw [xCW_id hC] at p1
  have hC1 := xCW_C w (ca k) (va_up (C k) 7 (C k 7 + 1))
  have n : ∀ j, j ≠ 7 → va_up (C k) 7 (C k 7 + 1) j = C k j := fun j hj => xk_up_n _ _ hj
  have hB1 : xCB (va_up (C k) 7 (C k 7 + 1)) := by
    obtain ⟨b1, b2, b3, b4, b5, b6, b7, b8, b9, b10, b11, b12⟩ := hB
    unfold xCB
    rw [xk_up_s, n 1 (by omega), n 6 (by omega), n 10 (by omega), n 11 (by omega)]
    exact ⟨b1, b2, b3, b4, by omega, by omega, b7, b8, b9, b10, fun i hi => by rw [n _ (by omega), n _ (by omega)]; exact b11 i hi, fun i hi => by rw [n _ (by omega)]; exact b12 i hi⟩
  have sb := x0_setBar (b := C k 7) (m := m) (c := c) hC1 hB1 (by rw [xk_up_s]; omega) (by omega) (by omega)
  rw [xCW_CW] at sb
  have g7 : xk_gI w (some (ca k)) 1 7 = some (iI (C k 7)) := xr_gI (k := 7) hC.1 rfl
  have g7' : xk_gI (xCW w (ca k) (va_up (C k) 7 (C k 7 + 1))) (some (ca k)) 1 7 = some (iI (C k 7 + 1)) := by
    refine (xr_gI (k := 7) hC1.1 rfl).trans ?_
    rw [xk_up_s]
  have g7'' : xk_gI (xCW w (ca k) (yBar (C k) m c)) (some (ca k)) 1 7 = some (iI (C k 7 + 1)) := by
    refine (xr_gI (k := 7) (xCW_C w (ca k) (yBar (C k) m c)).1 rfl).trans ?_
    rw [o6]
  have e3 : iI (C k 7) + (1 : Int32) = iI (C k 7 + 1) := by rw [iL_1, iI_add]
  have e4 : iI (C k 7 + 1) - (1 : Int32) = iI (C k 7) := by rw [iL_1, iI_sub]; congr 1; omega
  have c9 : iI (C k 7) < (9 : Int32) := by rw [iL_9, iI_lt (by omega) (by omega)]; exact h7
  have sb' : f_X0_setBar (some (ca k)) (iI (C k 7)) (iI m) (iI c) (xCW w (ca k) (va_up (C k) 7 (C k 7 + 1))) = some (xCW w (ca k) (yBar (C k) m c)) := sb
  refine ⟨?_, k1⟩
  unfold f_X4_bar
  simp only [bk_is h, x4_cueNumbered h v hk, Option.bind_some, x4_badBar w hm hc, g7, if_pos c9, e3, p1, g7', xr_is hC1.1, e4, sb', g7'']
theorem x4_theme_e {z e nh nc nt : Nat} {ha ca ta : Nat → Nat} {B : Nat → Int} {H C T : Nat → Nat → Int} {w : xWd} (h : xBk z e nh nc nt ha ca ta B H C T w) (v : xVB nh nc nt B H C T) {r : Int} (hr : 0 ≤ r ∧ r ≤ B 5) (h2 : B 2 < 4) : ∃ w', f_X4_theme (some z) (iI r) w = some (iI (B 2), w') ∧ xBk z e nh nc nt ha ca ta (va_up (va_up B (20 + (B 2).toNat) r) 2 (B 2 + 1)) H C T w' ∧ w'.2 = w.2 ∧ ∀ q, q ≠ z → q ≠ z + 2 → w'.1 q = w.1 q := by
  have hn := yv_n v
  have b2 : 0 ≤ B 2 := v.2.2.2.2.2.2.2.1
  obtain ⟨w1, g1, k1, f1⟩ := bk_sR h (i := (B 2).toNat) (v := r) (by omega)
  have r1 : w1.2 = w.2 ∧ ∀ q, q ≠ z + 2 → w1.1 q = w.1 q := by
    have e1 := xr_sI (i := (((B 2).toNat : Nat) : Int)) (v := iI r) h.2.1 (by omega) (by omega) (by omega)
    have e2 := Option.some.inj (g1.symm.trans e1)
    rw [e2]
    exact ⟨rfl, fun q hq => xk_up_n _ _ hq⟩
  rw [show (((B 2).toNat : Nat) : Int) = B 2 by omega] at g1
  obtain ⟨w2, g2, k2, f2⟩ := bk_pV k1 (k := 2) (v := B 2 + 1) (by omega)
  have r2 : w2.2 = w1.2 ∧ ∀ q, q ≠ z → w2.1 q = w1.1 q := by
    have e1 := xr_pV (v := .int (iI (B 2 + 1))) (k := 2) k1.1 (by show 2 < 13; omega)
    have e2 := Option.some.inj (g2.symm.trans e1)
    rw [e2]
    exact ⟨rfl, fun q hq => xk_up_n _ _ hq⟩
  refine ⟨w2, ?_, k2, r2.1.trans r1.1, fun q q1 q2 => (r2.2 q q1).trans (r1.2 q q2)⟩
  have e1 := bk_I2 k1
  rw [xk_up_n _ _ (by omega)] at e1
  have e2 := bk_I2 k2
  rw [xk_up_s] at e2
  have e3 : iI (B 2) + (1 : Int32) = iI (B 2 + 1) := by rw [iL_1, iI_add]
  have e4 : iI (B 2 + 1) - (1 : Int32) = iI (B 2) := by rw [iL_1, iI_sub]; congr 1; omega
  unfold f_X4_theme
  rw [if_neg (by rw [iL_0, iI_lt (by omega) (by omega)]; omega), bk_I5 h, Option.bind_some, if_pos (by rw [iI_le (by omega) (by omega)]; omega), bk_I2 h, Option.bind_some, if_pos (by rw [iL_4, iI_lt (by omega) (by omega)]; omega)]
  simp only [bk_reveals h, Option.bind_some, g1, e1, e3, g2, e2, e4]
theorem xNw_m {z : Nat} {w w' : xWd} (hN : xNw z w) (h2 : w'.2 = w.2) (hq : ∀ q, q = z + 1 ∨ q = z + 3 ∨ q = z + 4 ∨ q = z + 6 ∨ q = w.2.2.1 → w'.1 q = w.1 q) : xNw z w' := by
  obtain ⟨⟨m1, m2, d1, d2, n1, n2, x1, x2, x3⟩, ⟨mc, y1⟩, ⟨md, y2⟩, y3⟩ := hN
  have hA : w'.2.2.1 = w.2.2.1 := by rw [h2]
  refine ⟨⟨m1, m2, d1, d2, n1, n2, (hq _ (by omega)).trans x1, (hq _ (by omega)).trans x2, by rw [hA]; exact x3⟩, ⟨mc, ?_⟩, ⟨md, ?_⟩, ?_⟩
  · rw [hA]; exact (hq _ (by omega)).trans y1
  · rw [hA]; exact (hq _ (by omega)).trans y2
  · rw [hA]; exact (hq _ (by omega)).trans y3
def xSb (B : Nat → Int) : Prop := B 5 = 2400 ∧ B 6 = 0 ∧ B 7 = 0 ∧ B 8 = 0 ∧ B 9 = 0 ∧ ∀ k, k < 4 → 0 ≤ B (20 + k) ∧ B (20 + k) ≤ 2400
def xSh (nh : Nat) (H : Nat → Nat → Int) : Prop := ∀ k, k < nh → 0 ≤ H k 0 ∧ H k 0 ≤ 2400 ∧ 0 ≤ H k 1 ∧ H k 1 ≤ 9 ∧ H k 2 = 0
def xS1 (k : Nat) (s : Nat → Int) : Prop := xCB s ∧ s 0 = k ∧ -1 ≤ s 2 ∧ s 2 < 2 ∧ 1 ≤ s 3 ∧ s 3 ≤ 40 ∧ 0 ≤ s 4 ∧ s 4 ≤ 3 ∧ 0 ≤ s 5 ∧ s 5 ≤ 2
def xSc (nc : Nat) (C : Nat → Nat → Int) : Prop := ∀ k, k < nc → xS1 k (C k) ∧ 0 ≤ C k 1 ∧ C k 1 ≤ 2400 ∧ 1 ≤ C k 7 ∧ C k 6 ≤ 1 ∧ xCK (C k) ∧ xCI (C k)
theorem su_v {nh nc : Nat} {B : Nat → Int} {H C T : Nat → Nat → Int} (b : xSb B) (b2 : 0 ≤ B 2 ∧ B 2 ≤ 2) (hh : xSh nh H) (hnh : nh ≤ 12) (hnc : nc ≤ 8) (hc : ∀ k, k < nc → B 2 = 2 ∧ xS1 k (C k)) : xVB nh nc 0 B H C T := by
  obtain ⟨b5, b6, b7, b8, b9, br⟩ := b
  refine ⟨hnh, hnc, by omega, by omega, by omega, by omega, by omega, by omega, by omega, by omega, by omega, by omega, by omega, by omega, by omega, fun k hk => ?_, fun k hk => ?_, fun k hk => by omega, fun k hk => ?_⟩
  · obtain ⟨h1, h2, h3, h4, h5⟩ := hh k hk
    omega
  · obtain ⟨e, c1, c2, c3, c4, c5, c6, c7, c8, c9, c10⟩ := hc k hk
    exact ⟨c1, c2, c3, by omega, c5, c6, c7, c8, c9, c10⟩
  · have := br k hk
    omega
theorem ls_theme {z b L : Nat} {xs : Nat → Int32} {ha ca ta : Nat → Nat} {H C T : Nat → Nat → Int} (hL : L ≤ 260) (hbz : b < z) : ∀ (r k fu e : Nat) (B : Nat → Int) (w : xWd), xBk z e 0 0 0 ha ca ta B H C T w → xNw z w → xSb B → B 2 = k → w.1 b = some (.inl (4, L, .inl xs)) → k + r = 2 → r < fu →
    ∃ (B' : Nat → Int) (w' : xWd), f_L_law_10 fu (some b) (some z) (iI k) w = f_L_law_47 41 (some b) (some z) (0 : Int32) w' ∧ xBk z e 0 0 0 ha ca ta B' H C T w' ∧ xNw z w' ∧ xSb B' ∧ B' 2 = 2 ∧ w'.1 b = some (.inl (4, L, .inl xs)) := by
  intro r
  induction r with
  | zero =>
    intro k fu e B w h hN sb s2 hb h1 h2
    obtain ⟨fu, rfl⟩ : ∃ f, fu = f + 1 := ⟨fu - 1, by omega⟩
    have c1 : (2 : Int32) ≤ iI k := by rw [iL_2, iI_le (by omega) (by omega)]; omega
    refine ⟨B, w, ?_, h, hN, sb, by omega, hb⟩
    rw [f_L_law_10, if_pos c1]
  | succ r ih =>
    intro k fu e B w h hN sb s2 hb h1 h2
    obtain ⟨fu, rfl⟩ : ∃ f, fu = f + 1 := ⟨fu - 1, by omega⟩
    have he := bk_e h
    have v : xVB 0 0 0 B H C T := su_v sb (by omega) (fun k hk => by omega) (by omega) (by omega) (fun k hk => by omega)
    have c1 : ¬ (2 : Int32) ≤ iI k := by rw [iL_2, iI_le (by omega) (by omega)]; omega
    obtain ⟨cv, hcv⟩ := lw_cell hb hL (k := (k : Int)) (by omega)
    obtain ⟨r1, u1, u2, u3⟩ := lw_below (cv * (9 : Int32)) (n := 2401) (by omega) w
    rw [← iL_2401] at u1
    obtain ⟨w', m1, m2, m3, m4⟩ := x4_theme_e h v (r := r1) (by have := sb.1; omega) (by omega)
    have e1 : iI (k : Int) + (1 : Int32) = iI ((k + 1 : Nat) : Int) := by rw [iL_1, iI_add]; rfl
    obtain ⟨b5, b6, b7, b8, b9, br⟩ := sb
    have nb : ∀ j, j ≠ 2 → j < 20 → va_up (va_up B (20 + (B 2).toNat) r1) 2 (B 2 + 1) j = B j := fun j h1 h2 => (xk_up_n _ _ h1).trans (xk_up_n _ _ (by omega))
    have sb' : xSb (va_up (va_up B (20 + (B 2).toNat) r1) 2 (B 2 + 1)) := by
      unfold xSb
      rw [nb 5 (by omega) (by omega), nb 6 (by omega) (by omega), nb 7 (by omega) (by omega), nb 8 (by omega) (by omega), nb 9 (by omega) (by omega)]
      refine ⟨b5, b6, b7, b8, b9, fun j hj => ?_⟩
      rw [xk_up_n _ _ (show 20 + j ≠ 2 by omega)]
      by_cases c : 20 + j = 20 + (B 2).toNat
      · rw [c, xk_up_s]; omega
      · rw [xk_up_n _ _ c]; exact br j hj
    obtain ⟨B', w2, i1, i2⟩ := ih (k + 1) fu e _ w' m2 (xNw_m hN m3 (fun q hq => m4 q (by omega) (by omega))) sb' (by rw [xk_up_s]; omega) ((m4 b (by omega) (by omega)).trans hb) (by omega) (by omega)
    refine ⟨B', w2, ?_, i2⟩
    rw [← i1]
    have sp : ∀ m, f_L_law_10 (m + 1) (some b) (some z) (iI k) w = f_L_law_10 m (some b) (some z) (iI ((k + 1 : Nat) : Int)) w' := by
      intro m
      rw [f_L_law_10, if_neg c1, hcv, Option.bind_some, u1, Option.bind_some, bk_is h, Option.bind_some, m1, Option.bind_some, if_pos (show iI (B 2) = iI (k : Int) by rw [s2]), e1]
    exact sp fu
theorem ls_hits {z b L : Nat} {xs : Nat → Int32} {ca ta : Nat → Nat} {B : Nat → Int} {C T : Nat → Nat → Int} (hL : L ≤ 260) (hbz : b < z) (sb : xSb B) : ∀ (r k fu e : Nat) (ha : Nat → Nat) (H : Nat → Nat → Int) (w : xWd), xBk z e k 0 0 ha ca ta B H C T w → xNw z w → xSh k H → w.1 b = some (.inl (4, L, .inl xs)) → k + r = 8 → r < fu →
    ∃ (e' : Nat) (ha' : Nat → Nat) (H' : Nat → Nat → Int) (w' : xWd), f_L_law_47 fu (some b) (some z) (iI k) w = f_L_law_97 41 (some b) (some z) (0 : Int32) w' ∧ xBk z e' 8 0 0 ha' ca ta B H' C T w' ∧ xNw z w' ∧ xSh 8 H' ∧ w'.1 b = some (.inl (4, L, .inl xs)) := by
  intro r
  induction r with
  | zero =>
    intro k fu e ha H w h hN sh hb h1 h2
    obtain ⟨fu, rfl⟩ : ∃ f, fu = f + 1 := ⟨fu - 1, by omega⟩
    have c1 : (8 : Int32) ≤ iI k := by rw [iL_8, iI_le (by omega) (by omega)]; omega
    have ek : k = 8 := by omega
    subst ek
    refine ⟨e, ha, H, w, ?_, h, hN, sh, hb⟩
    rw [f_L_law_47, if_pos c1]
  | succ r ih =>
    intro k fu e ha H w h hN sh hb h1 h2
    obtain ⟨fu, rfl⟩ : ∃ f, fu = f + 1 := ⟨fu - 1, by omega⟩
    have c1 : ¬ (8 : Int32) ≤ iI k := by rw [iL_8, iI_le (by omega) (by omega)]; omega
    have b5 := sb.1
    obtain ⟨cv, hcv⟩ := lw_cell hb hL (k := (k : Int)) (by omega)
    obtain ⟨r1, u1, u2, u3⟩ := lw_below (cv * (7 : Int32)) (n := 2400) (by omega) w
    rw [← iL_2400] at u1
    obtain ⟨r2, t1, t2, t3⟩ := lw_below (cv >>> ((3 : Int32) &&& 31)) (n := 10) (by omega) w
    rw [← iL_10] at t1
    obtain ⟨w', m1, m2, m3, m4, m5⟩ := x4_hit h hN (f := r1) (t := r2) (by omega) (by omega) (by omega) (by omega)
    have e1 : iI (k : Int) + (1 : Int32) = iI ((k + 1 : Nat) : Int) := by rw [iL_1, iI_add]; rfl
    obtain ⟨e', ha', H', w2, i1, i2⟩ := ih (k + 1) fu _ _ _ w' m2 m3 (fun j hj => by
      by_cases c : j = k
      · subst c
        rw [xk_up_s]
        show 0 ≤ r1 ∧ r1 ≤ 2400 ∧ 0 ≤ r2 ∧ r2 ≤ 9 ∧ (0 : Int) = 0
        omega
      · rw [xk_up_n _ _ c]; exact sh j (by omega)) ((m5 b hbz).trans hb) (by omega) (by omega)
    refine ⟨e', ha', H', w2, ?_, i2⟩
    rw [← i1]
    have sp : ∀ m, f_L_law_47 (m + 1) (some b) (some z) (iI k) w = f_L_law_47 m (some b) (some z) (iI ((k + 1 : Nat) : Int)) w' := by
      intro m
      rw [f_L_law_47, if_neg c1, hcv, Option.bind_some, u1, Option.bind_some, hcv, Option.bind_some, t1, Option.bind_some, bk_is h, Option.bind_some, m1, Option.bind_some, if_pos rfl, e1]
    exact sp fu
theorem yC0_h (n st th pl wr us : Int) {j : Nat} (h : 6 ≤ j) : yC0 n st th pl wr us j = 0 := by
  obtain ⟨i, rfl⟩ : ∃ i, j = i + 6 := ⟨j - 6, by omega⟩
  rfl
theorem ls_cues {z b L : Nat} {xs : Nat → Int32} {ha ta : Nat → Nat} {B : Nat → Int} {H T : Nat → Nat → Int} (hL : L ≤ 260) (hbz : b < z) (sb : xSb B) (s2 : B 2 = 2) (sh : xSh 8 H) : ∀ (r k fu e : Nat) (ca : Nat → Nat) (C : Nat → Nat → Int) (w : xWd), xBk z e 8 k 0 ha ca ta B H C T w → xNw z w → xSc k C → w.1 b = some (.inl (4, L, .inl xs)) → k + r = 4 → r < fu →
    ∃ (w' : xWd), f_L_law_97 fu (some b) (some z) (iI k) w = some (1, w') := by
  intro r
  induction r with
  | zero =>
    intro k fu e ca C w h hN sc hb h1 h2
    obtain ⟨fu, rfl⟩ : ∃ f, fu = f + 1 := ⟨fu - 1, by omega⟩
    have c1 : (4 : Int32) ≤ iI k := by rw [iL_4, iI_le (by omega) (by omega)]; omega
    have ek : k = 4 := by omega
    subst ek
    have he := bk_e h
    obtain ⟨w1, a1, a2, a3, a4, a5, a6⟩ := lw_new h (n := 40) (by omega)
    obtain ⟨w2, b1, b2, b3, b4, b5, b6⟩ := lw_new a2 (n := 40) (by omega)
    rw [show iI ((40 : Nat) : Int) = (40 : Int32) by decide] at a1 b1
    have v : xVB 8 4 0 B H C T := su_v sb (by omega) sh (by omega) (by omega) (fun k hk => ⟨s2, (sc k hk).1⟩)
    have l : xLv 0 0 B H C T := ⟨sb.1, by have := sb.2.2.2.2.1; omega, fun k hk => by obtain ⟨x1, x2, x3, x4, x5⟩ := sh k hk; exact ⟨x1, x2, x5⟩, fun k hk => by obtain ⟨x0, x1, x2, x3, x4, x5⟩ := sc k hk; exact ⟨x1, x2, x3, by omega, x5⟩, fun k hk => (sb.2.2.2.2.2 k hk).2, fun k hk => by omega⟩
    have S : xSt z e b L w.2.1 w1.2.1 0 0 xs ha ca ta B H C T w2 := ⟨b2, v, l, (b6 b (by omega)).trans ((a6 b (by omega)).trans hb), ⟨_, _, (b6 _ (by omega)).trans a3, b3, fun k hk => by omega⟩, hbz, by omega, by omega, by omega⟩
    obtain ⟨w', i1⟩ := ls_all hL 44 0 46 0 ta B C T w2 S (by omega) (by omega)
    rw [sb.2.2.2.2.1, show iI ((0 : Nat) : Int) = (0 : Int32) by decide, show iI (0 : Int) = (0 : Int32) by decide] at i1
    refine ⟨w', ?_⟩
    rw [f_L_law_97, if_pos c1, a1, Option.bind_some, b1, Option.bind_some]
    exact i1
  | succ r ih =>
    intro k fu e ca C w h hN sc hb h1 h2
    obtain ⟨fu, rfl⟩ : ∃ f, fu = f + 1 := ⟨fu - 1, by omega⟩
    have hk : k < 4 := by omega
    have he := bk_e h
    have b5 := sb.1
    have c1 : ¬ (4 : Int32) ≤ iI k := by rw [iL_4, iI_le (by omega) (by omega)]; omega
    have e0 : iI (k : Int) + (4 : Int32) = iI ((k : Int) + 4) := by rw [iL_4, iI_add]
    obtain ⟨cv, hcv⟩ := lw_cell hb hL (k := (k : Int) + 4) (by omega)
    obtain ⟨r1, u1, u2, u3⟩ := lw_below (cv * (5 : Int32)) (n := 2300) (by omega) w
    rw [← iL_2300] at u1
    obtain ⟨r2, t1, t2, t3⟩ := lw_below cv (n := 3) (by omega) w
    rw [← iL_3] at t1
    obtain ⟨r3, x1, x2, x3⟩ := lw_below (cv >>> ((3 : Int32) &&& 31)) (n := 20) (by omega) w
    rw [← iL_20] at x1
    obtain ⟨r4, y1, y2, y3⟩ := lw_below (cv >>> ((2 : Int32) &&& 31)) (n := 4) (by omega) w
    rw [← iL_4] at y1
    obtain ⟨r5, p1, p2, p3⟩ := lw_below (cv >>> ((4 : Int32) &&& 31)) (n := 3) (by omega) w
    rw [← iL_3] at p1
    have e2 : iI r2 - (1 : Int32) = iI (r2 - 1) := by rw [iL_1, iI_sub]
    have e3 : (1 : Int32) + iI r3 = iI (1 + r3) := by rw [iL_1, iI_add]
    obtain ⟨w1, m1, m2, m3, m4, m5⟩ := x4_cue h hN (by omega) (by omega) (by omega) (st := r1) (th := r2 - 1) (pl := 1 + r3) (wr := r4) (us := r5) (by omega) (by omega) (by omega) (by omega) (by omega)
    have he1 := bk_e m2
    have s1 : xS1 k (yC0 k r1 (r2 - 1) (1 + r3) r4 r5) := by
      refine ⟨⟨u2, ?_, Int.le_refl _, ?_, Int.le_refl _, ?_, Int.le_refl _, ?_, Int.le_refl _, ?_, fun i hi => ?_, fun i hi => ?_⟩, rfl, ?_, ?_, ?_, ?_, ?_, ?_, ?_, ?_⟩
      · show r1 ≤ 50000; omega
      · show (0 : Int) ≤ 5000; omega
      · show (0 : Int) ≤ 9; omega
      · show (0 : Int) ≤ 63; omega
      · show (0 : Int) ≤ 3000; omega
      · rw [show yC0 k r1 (r2 - 1) (1 + r3) r4 r5 (20 + 3 * i) = 0 from yC0_h _ _ _ _ _ _ (by omega), show yC0 k r1 (r2 - 1) (1 + r3) r4 r5 (21 + 3 * i) = 0 from yC0_h _ _ _ _ _ _ (by omega)]; omega
      · rw [show yC0 k r1 (r2 - 1) (1 + r3) r4 r5 (22 + 3 * i) = 0 from yC0_h _ _ _ _ _ _ (by omega)]; omega
      · show -1 ≤ r2 - 1; omega
      · show r2 - 1 < 2; omega
      · show 1 ≤ 1 + r3; omega
      · show 1 + r3 ≤ 40; omega
      · show 0 ≤ r4; omega
      · show r4 ≤ 3; omega
      · show 0 ≤ r5; omega
      · show r5 ≤ 2; omega
    have sc1 : ∀ j, j < k + 1 → B 2 = 2 ∧ xS1 j (va_up C k (yC0 k r1 (r2 - 1) (1 + r3) r4 r5) j) := by
      intro j hj
      refine ⟨s2, ?_⟩
      by_cases c : j = k
      · subst c; rw [xk_up_s]; exact s1
      · rw [xk_up_n _ _ c]; exact (sc j (by omega)).1
    have v1 : xVB 8 (k + 1) 0 B H (va_up C k (yC0 k r1 (r2 - 1) (1 + r3) r4 r5)) T := su_v sb (by omega) sh (by omega) (by omega) sc1
    obtain ⟨r6, n1, n2, n3⟩ := lw_below cv (n := 6) (by omega) w1
    rw [← iL_6] at n1
    obtain ⟨r7, o1, o2, o3⟩ := lw_below (cv >>> ((1 : Int32) &&& 31)) (n := 137) (by omega) w1
    rw [← iL_137] at o1
    have e6 : (2 : Int32) + iI r6 = iI (2 + r6) := by rw [iL_2, iI_add]
    have e7 : (24 : Int32) + iI r7 = iI (24 + r7) := by rw [iL_24, iI_add]
    have es : va_up C k (yC0 k r1 (r2 - 1) (1 + r3) r4 r5) k = yC0 k r1 (r2 - 1) (1 + r3) r4 r5 := xk_up_s _ _ _
    have K0 : xCK (yC0 k r1 (r2 - 1) (1 + r3) r4 r5) := fun i hi => absurd (show (i : Int) < 0 from hi) (by omega)
    obtain ⟨q1, q2⟩ := x4_bar_e m2 v1 (k := k) (m := 2 + r6) (c := 24 + r7) (by omega) (by rw [es]; show (0 : Int) < 9; omega) (by omega) (by omega) (by rw [es]; show (0 : Int) < 5000; omega) (by rw [es]; exact K0)
    obtain ⟨z1, z2, z3, z4, z5, z6⟩ := yBar_ok s1.1 (m := 2 + r6) (c := 24 + r7) (by show (0 : Int) < 9; omega) (by omega) (by omega) (by show (0 : Int) < 5000; omega) K0
    rw [es] at q1 q2
    rw [xk_up2] at q2
    have hcb := bk_cb m2 (k := k) (by omega)
    have fr : ∀ q, q ≤ z + 9 → (xCW w1 (va_up ca k w.2.1 k) (yBar (yC0 k r1 (r2 - 1) (1 + r3) r4 r5) (2 + r6) (24 + r7))).1 q = w1.1 q := fun q hq => xCW_n _ _ (Or.inl (by omega))
    have e1 : iI (k : Int) + (1 : Int32) = iI ((k + 1 : Nat) : Int) := by rw [iL_1, iI_add]; rfl
    obtain ⟨w', i1⟩ := ih (k + 1) fu _ _ _ _ q2 (xNw_m m3 rfl (fun q hq => fr q (by omega))) (fun j hj => by
      by_cases c : j = k
      · subst c
        rw [xk_up_s]
        have y0 := z4 0 (by omega) (by omega) (by omega) (by omega) (by omega)
        have y1' := z4 1 (by omega) (by omega) (by omega) (by omega) (by omega)
        have y2' := z4 2 (by omega) (by omega) (by omega) (by omega) (by omega)
        have y3' := z4 3 (by omega) (by omega) (by omega) (by omega) (by omega)
        have y4' := z4 4 (by omega) (by omega) (by omega) (by omega) (by omega)
        have y5' := z4 5 (by omega) (by omega) (by omega) (by omega) (by omega)
        obtain ⟨-, k1, k2, k3, k4, k5, k6, k7, k8, k9⟩ := s1
        have r1' : yC0 j r1 (r2 - 1) (1 + r3) r4 r5 1 = r1 := rfl
        have r6' : yC0 j r1 (r2 - 1) (1 + r3) r4 r5 6 = 0 := rfl
        have r7' : yC0 j r1 (r2 - 1) (1 + r3) r4 r5 7 = 0 := rfl
        exact ⟨⟨z1, by omega, by omega, by omega, by omega, by omega, by omega, by omega, by omega, by omega⟩, by omega, by omega, by omega, by omega, z2, z3⟩
      · rw [xk_up_n _ _ c]; exact sc j (by omega)) ((fr b (by omega)).trans ((m5 b hbz).trans hb)) (by omega) (by omega)
    refine ⟨w', ?_⟩
    rw [← i1]
    have sp : ∀ m, f_L_law_97 (m + 1) (some b) (some z) (iI k) w = f_L_law_97 m (some b) (some z) (iI ((k + 1 : Nat) : Int)) (xCW w1 (va_up ca k w.2.1 k) (yBar (yC0 k r1 (r2 - 1) (1 + r3) r4 r5) (2 + r6) (24 + r7))) := by
      intro m
      rw [f_L_law_97, if_neg c1, e0, hcv, Option.bind_some, u1, Option.bind_some, t1, Option.bind_some, x1, Option.bind_some, y1, Option.bind_some, p1, Option.bind_some, bk_is h, Option.bind_some, e2, e3, m1, Option.bind_some, if_pos rfl, n1, Option.bind_some, o1, Option.bind_some, bk_is m2, Option.bind_some, e6, e7, q1, Option.bind_some, if_pos (show iI (yC0 k r1 (r2 - 1) (1 + r3) r4 r5 7) = (0 : Int32) by show iI 0 = 0; decide), e1]
    exact sp fu
