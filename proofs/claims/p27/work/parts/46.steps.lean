/-! the steps -/
theorem ls_bar {z e b L A D n nt : Nat} {xs : Nat → Int32} {ha ca ta : Nat → Nat} {B : Nat → Int} {H C T : Nat → Nat → Int} {w : xWd} (st : xSt z e b L A D n nt xs ha ca ta B H C T w) (hn : n < 44) (K : Option Nat → Option Nat → Option Nat → Option Nat → Int32 → Int32 → xWd → Option (Int32 × xWd)) {k : Nat} (hk : k < 4) (x y : Int32) : xGo z e b L A D n xs ha ca H K (f_L_law_348 K (some b) (some z) (some A) (some D) (iI (B 9)) (iI n) x y (iI k) (iI (C k 7)) (iI (C k 6)) w) := by
  have h := st.1
  have v := st.2.1
  have l := st.2.2.1
  obtain ⟨g1, g2, g3, g4, g5, g6⟩ := l.2.2.2.1 k hk
  have c9 : C k 7 ≤ 9 := (yv_c v hk).1.2.2.2.2.2.1
  have c60 : 0 ≤ C k 6 := (yv_c v hk).1.2.2.1
  unfold f_L_law_348
  by_cases c : (9 : Int) ≤ C k 7
  · rw [if_pos (by rw [iL_9, iI_le (by omega) (by omega)]; exact c)]
    exact xGo_0 st K
  · have c1 : ¬ (9 : Int32) ≤ iI (C k 7) := by rw [iL_9, iI_le (by omega) (by omega)]; exact c
    obtain ⟨r1, u1, u2, u3⟩ := lw_below y (n := 6) (by omega) w
    obtain ⟨r2, t1, t2, t3⟩ := lw_below (x >>> ((1 : Int32) &&& 31)) (n := 137) (by omega) w
    rw [← iL_6] at u1
    rw [← iL_137] at t1
    have e1 : (2 : Int32) + iI r1 = iI (2 + r1) := by rw [iL_2, iI_add]
    have e2 : (24 : Int32) + iI r2 = iI (24 + r2) := by rw [iL_24, iI_add]
    obtain ⟨o1, o2, o3, o4, o5, o6⟩ := yBar_ok (yv_c v hk).1 (m := 2 + r1) (c := 24 + r2) (by omega) (by omega) (by omega) (by omega) g5
    obtain ⟨w', m1, m2, m3, m4⟩ := x4_bar h v hk (m := 2 + r1) (c := 24 + r2) (by omega) (by omega) (by omega) (by omega) g5
    have q5 := lw_c5 m2 m3 hk
    rw [xk_up_s, o5] at q5
    have q11 := lw_c11 m2 m3 hk
    have nv : yNv nt (va_up C k (yBar (C k) (2 + r1) (24 + r2))) T k = 0 := yCt_0 nt (fun j hj => by
      unfold yVc yVd
      by_cases d : (T j 1).toNat = k
      · have := (l.2.2.2.2.2 j hj).2
        rw [d] at this ⊢
        rw [xk_up_s, o5, decide_eq_false (show ¬ T j 2 = C k 6 + 1 by omega), Bool.and_false]
      · rw [decide_eq_false d, Bool.false_and])
    rw [nv] at q11
    have z0 : iI 0 = (0 : Int32) := by decide
    have e3 : iI (C k 6) + (1 : Int32) = iI (C k 6 + 1) := by rw [iL_1, iI_add]
    refine ⟨nt, ta, B, va_up C k (yBar (C k) (2 + r1) (24 + r2)), T, w', ?_, xSt_m st m2 m3 (xLv_c l (by rw [o4 1 (by omega) (by omega) (by omega) (by omega) (by omega)]; omega) (by omega) (by omega) o2 o3) m4⟩
    rw [if_neg c1, u1, Option.bind_some, t1, Option.bind_some, bk_is h, Option.bind_some, e1, e2, m1, Option.bind_some, if_pos rfl, bk_is m2, Option.bind_some, q5, Option.bind_some, if_pos e3.symm, bk_is m2, Option.bind_some, q11, Option.bind_some, if_pos z0]
theorem ls_back {z e b L A D n nt : Nat} {xs : Nat → Int32} {ha ca ta : Nat → Nat} {B : Nat → Int} {H C T : Nat → Nat → Int} {w : xWd} (st : xSt z e b L A D n nt xs ha ca ta B H C T w) (hn : n < 44) (K : Option Nat → Option Nat → Option Nat → Option Nat → Int32 → Int32 → xWd → Option (Int32 × xWd)) (x y : Int32) : xGo z e b L A D n xs ha ca H K (f_L_law_521 K (some b) (some z) (some A) (some D) (iI (B 9)) (iI n) x y w) := by
  have h := st.1
  have v := st.2.1
  have l := st.2.2.1
  have b5 : B 5 = 2400 := l.1
  have b6 : 0 ≤ B 6 ∧ B 6 ≤ 20 := ⟨v.2.2.2.2.2.1, v.2.2.2.2.2.2.1⟩
  unfold f_L_law_521
  by_cases c : (19 : Int) ≤ B 6
  · have c1 : (19 : Int32) ≤ iI (B 6) := by rw [show (19 : Int32) = iI 19 by decide, iI_le (by omega) (by omega)]; exact c
    simp only [bk_is h, Option.bind_some, lw_m1 h v, if_pos c1]
    exact xGo_0 st K
  · have c1 : ¬ (19 : Int32) ≤ iI (B 6) := by rw [show (19 : Int32) = iI 19 by decide, iI_le (by omega) (by omega)]; exact c
    obtain ⟨r1, u1, u2, u3⟩ := lw_below (x * (3 : Int32)) (n := B 5 + 1) (by omega) w
    obtain ⟨r2, t1, t2, t3⟩ := lw_below (y >>> ((2 : Int32) &&& 31)) (n := 80) (by omega) w
    rw [← iL_80] at t1
    have e1 : iI (B 5) + (1 : Int32) = iI (B 5 + 1) := by rw [iL_1, iI_add]
    have e2 : (1 : Int32) + iI r2 = iI (1 + r2) := by rw [iL_1, iI_add]
    obtain ⟨w', m1, m2, m3⟩ := lw_isBack h v l (m := n) (by omega) (a := r1) (n := 1 + r2) (by omega) (by omega) (by omega)
    obtain ⟨v2, l2⟩ := lw_v2 (a := r1) (n := 1 + r2) v l (by omega) (by omega)
    have z0 : ¬ (1 : Int32) = 0 := by decide
    have e9 : va_up B 6 (B 6 + 2) 9 = B 9 := xk_up_n _ _ (by omega)
    refine ⟨nt, ta, va_up B 6 (B 6 + 2), yC2 r1 (1 + r2) 4 C, T, w', ?_, xSt_m st m2 v2 l2 m3⟩
    rw [e9]
    rw [bk_is h, Option.bind_some, lw_m1 h v, Option.bind_some, if_neg c1, bk_is h, Option.bind_some, lw_m0 h v, Option.bind_some, e1, u1, Option.bind_some, t1, Option.bind_some, e2, m1, Option.bind_some, if_neg z0]
theorem ls_note {nt : Nat} {B : Nat → Int} {H C T : Nat → Nat → Int} {w : xWd} (v : xVB 8 4 nt B H C T) (K : Option Nat → Option Nat → Option Nat → Option Nat → Int32 → Int32 → xWd → Option (Int32 × xWd)) {k : Nat} (hk : k < 4) (y0 y1 y2 y3 : Option Nat) (x4 x5 x6 x7 x8 x10 x11 : Int32) : ∀ (r j fu : Nat) (no : Int), j + r = (C k 7).toNat → r < fu → 0 ≤ no ∧ no ≤ 10 ^ j - 1 → ∃ (fu' : Nat) (no' : Int), f_L_law_812 K fu y0 y1 y2 y3 x4 x5 x6 x7 x8 (iI (C k 7)) x10 x11 (iI no) (iI j) w = f_L_law_812 K (fu' + 1) y0 y1 y2 y3 x4 x5 x6 x7 x8 (iI (C k 7)) x10 x11 (iI no') (iI ((C k 7).toNat : Nat)) w ∧ 0 ≤ no' ∧ no' ≤ 10 ^ (C k 7).toNat - 1 := by
  have b5 : 0 ≤ C k 7 := (yv_c v hk).1.2.2.2.2.1
  have b6 : C k 7 ≤ 9 := (yv_c v hk).1.2.2.2.2.2.1
  intro r
  induction r with
  | zero =>
    intro j fu no h1 h2 h3
    obtain ⟨fu, rfl⟩ : ∃ f, fu = f + 1 := ⟨fu - 1, by omega⟩
    have ej : j = (C k 7).toNat := by omega
    subst ej
    exact ⟨fu, no, rfl, h3⟩
  | succ r ih =>
    intro j fu no h1 h2 h3
    obtain ⟨fu, rfl⟩ : ∃ f, fu = f + 1 := ⟨fu - 1, by omega⟩
    have c1 : ¬ iI (C k 7) ≤ iI j := by rw [iI_le (by omega) (by omega)]; omega
    obtain ⟨r1, u1, u2, u3⟩ := lw_below ((x6 >>> ((2 : Int32) &&& 31)) + (3 : Int32) * iI j) (n := 10) (by omega) w
    rw [← iL_10] at u1
    have e1 : (10 : Int32) * iI no + iI r1 = iI (10 * no + r1) := by rw [iL_10, iI_mul, iI_add]
    have e2 : iI (j : Int) + (1 : Int32) = iI ((j + 1 : Nat) : Int) := by rw [iL_1, iI_add]; rfl
    have pp : (10 : Int) ^ (j + 1) = 10 ^ j * 10 := Int.pow_succ _ _
    obtain ⟨fu', no', i1, i2⟩ := ih (j + 1) fu (10 * no + r1) (by omega) (by omega) (by rw [pp]; omega)
    refine ⟨fu', no', Eq.trans ?_ i1, i2⟩
    have sp : ∀ m, f_L_law_812 K (m + 1) y0 y1 y2 y3 x4 x5 x6 x7 x8 (iI (C k 7)) x10 x11 (iI no) (iI j) w = f_L_law_812 K m y0 y1 y2 y3 x4 x5 x6 x7 x8 (iI (C k 7)) x10 x11 (iI (10 * no + r1)) (iI ((j + 1 : Nat) : Int)) w := by
      intro m
      rw [f_L_law_812]
      simp only [if_neg c1, u1, Option.bind_some, e1, e2]
    exact sp fu
theorem ls_take {z e b L A D n nt : Nat} {xs : Nat → Int32} {ha ca ta : Nat → Nat} {B : Nat → Int} {H C T : Nat → Nat → Int} {w : xWd} (st : xSt z e b L A D n nt xs ha ca ta B H C T w) (K : Option Nat → Option Nat → Option Nat → Option Nat → Int32 → Int32 → xWd → Option (Int32 × xWd)) {k : Nat} (hk : k < 4) (hb : C k 3 ≤ B 7) (h8 : B 8 ≤ 110) (hnt : nt < 40) (x y : Int32) : xGo z e b L A D n xs ha ca H K (f_L_law_812 K 4096 (some b) (some z) (some A) (some D) (iI (B 9)) (iI n) x y (iI k) (iI (C k 7)) (iI (C k 6)) (iI nt) (0 : Int32) (0 : Int32) w) := by
  obtain ⟨h, v, l, hs, ⟨fe, fo, a1, a2, a3⟩, p1, p2, p3, p4⟩ := st
  obtain ⟨g1, g2, g3, g4, g5, g6⟩ := l.2.2.2.1 k hk
  obtain ⟨b1, b2, b3, b4, b5, b6, b7, b8, b9, b10, b11, b12⟩ := (yv_c v hk).1
  have B8 : 0 ≤ B 8 := v.2.2.2.2.2.2.2.2.2.2.2.1
  obtain ⟨fu', no, i1, i2, i3⟩ := ls_note (w := w) v K hk (some b) (some z) (some A) (some D) (iI (B 9)) (iI n) x y (iI k) (iI (C k 6)) (iI nt) (C k 7).toNat 0 4096 0 (by omega) (by omega) ⟨Int.le_refl _, by decide⟩
  rw [show iI ((0 : Nat) : Int) = (0 : Int32) by decide, show iI (0 : Int) = (0 : Int32) by decide] at i1
  rw [i1]
  obtain ⟨r1, u1, u2, u3⟩ := lw_below (y >>> ((2 : Int32) &&& 31)) (n := 5) (by omega) w
  rw [← iL_5] at u1
  have e1 : iI r1 - (2 : Int32) = iI (r1 - 2) := by rw [iL_2, iI_sub]
  obtain ⟨w1, ta', m1, m2, m3⟩ := x4_take h v hk (x := no) (p := r1 - 2) ⟨i2, i3⟩ (by omega) (by omega) hb (by omega) hnt
  have eB : ∀ j, j ≠ 8 → va_up B 8 (B 8 + (3 + (C k 11 + 1439) / 1440)) j = B j := fun j hj => xk_up_n _ _ hj
  have eB8 : va_up B 8 (B 8 + (3 + (C k 11 + 1439) / 1440)) 8 = B 8 + (3 + (C k 11 + 1439) / 1440) := xk_up_s _ _ _
  have v1 := yv_T (B' := va_up B 8 (B 8 + (3 + (C k 11 + 1439) / 1440))) v eB (by omega) hnt hk (x := no) (p := r1 - 2) ⟨i2, i3⟩ (by omega)
  have l1 := xLv_T (B' := va_up B 8 (B 8 + (3 + (C k 11 + 1439) / 1440))) l eB (c := k) (x := no) (p := r1 - 2) i3
  have A1 := xFr_k (n := 0) m3 (by omega) a1 (by omega) (Or.inr p2)
  have D1 := xFr_k (n := 0) m3 (by omega) a2 (by omega) (Or.inr (by omega))
  have S1 := xFr_k (n := 0) m3 (by omega) hs (by have := bk_e h; omega) (Or.inl p1)
  obtain ⟨w2, s1, s2, s3, s4, s5⟩ := lw_set m2 A1 p2 (i := nt) (by omega) (by omega) (iI (C k 6))
  have D2 := (s5 D (by omega)).trans D1
  obtain ⟨w3, t1, t2, t3, t4, t5⟩ := lw_set s2 D2 (by omega) (i := nt) (by omega) (by omega) (iI k)
  have he2 := bk_e h
  refine ⟨nt + 1, ta', va_up B 8 (B 8 + (3 + (C k 11 + 1439) / 1440)), C, va_up T nt (yNew nt k (C k 6) no (r1 - 2)), w3, ?_, t2, v1, l1, (t5 b (by omega)).trans ((s5 b (by omega)).trans S1), ⟨_, _, (t5 A (by omega)).trans s3, t3, fun j hj => ?_⟩, p1, p2, p3, by rw [t4, s4]; exact Nat.lt_of_lt_of_le p4 m3.1⟩
  · have c1 : iI (C k 7) ≤ iI ((C k 7).toNat : Nat) := by rw [iI_le (by omega) (by omega)]; omega
    have q13 := lw_m13 m2 v1
    rw [eB8] at q13
    have nz : xk_nz (1440 : Int32) = some () := by decide
    have e2 : ((iI (B 8) + (3 : Int32)) + (((iI (C k 1 + C k 11) - iI (C k 1)) + (1439 : Int32)) / (1440 : Int32))) = iI (B 8 + (3 + (C k 11 + 1439) / 1440)) := by
      rw [iI_sub, iL_1439, iL_1440, iL_3, iI_add, iI_add, show C k 1 + C k 11 - C k 1 + 1439 = C k 11 + 1439 by omega, iI_div (by omega) (by omega), iI_add, Int.add_assoc]
    rw [f_L_law_812, eB 9 (by omega)]
    rw [if_pos c1, bk_is h, Option.bind_some, lw_m13 h v, Option.bind_some, u1, Option.bind_some, bk_is h, Option.bind_some, e1, m1, Option.bind_some, if_pos rfl, bk_is m2, Option.bind_some, q13, Option.bind_some, bk_is m2, Option.bind_some, lw_c8 m2 v1 hk, Option.bind_some, bk_is m2, Option.bind_some, lw_c0 m2 v1 hk, Option.bind_some, nz, Option.bind_some, if_pos e2.symm, s1, Option.bind_some, t1, Option.bind_some]
  · by_cases c : j = nt
    · subst c
      rw [lw_us, lw_us, xk_up_s]
      exact ⟨rfl, rfl⟩
    · rw [lw_un _ _ c, lw_un _ _ c, xk_up_n _ _ c]
      exact a3 j (by omega)
