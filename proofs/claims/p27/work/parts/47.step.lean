/-! one step -/
theorem lw_cost {t u : Int} (ht : 0 ≤ t ∧ t ≤ 60) (hu : 0 ≤ u ∧ u ≤ 120) : iI t * ((4 : Int32) * ((iI u + (14 : Int32)) / (15 : Int32)) + (2 : Int32) * (if (0 : Int32) < (iI u + (14 : Int32)) / (15 : Int32) - (4 : Int32) then (iI u + (14 : Int32)) / (15 : Int32) - (4 : Int32) else (0 : Int32))) = iI (yCost t u) := by
  have e : (iI u + (14 : Int32)) / (15 : Int32) = iI (yBl u) := by
    rw [iL_14, iL_15, iI_add, iI_div (by omega) (by omega)]
    rfl
  have b : 0 ≤ yBl u ∧ yBl u ≤ 8 := by unfold yBl; omega
  rw [e]
  generalize hy : yBl u = y at b
  have ec : yCost t u = t * ((if 4 < y then 4 else y) * 4 + (y - (if 4 < y then 4 else y)) * 6) := by unfold yCost; rw [hy]
  rw [ec]
  by_cases c : 4 < y
  · rw [if_pos (by rw [iL_0, iL_4, iI_sub, iI_lt (by omega) (by omega)]; omega), if_pos c, iL_4, iL_2, iI_sub, iI_mul, iI_mul, iI_add, iI_mul]
    congr 2
    omega
  · rw [if_neg (by rw [iL_0, iL_4, iI_sub, iI_lt (by omega) (by omega)]; omega), if_neg c, iL_4, iL_2, iL_0, iI_mul, iI_mul, iI_add, iI_mul]
    congr 2
    omega
theorem yCost_b {t u : Int} (ht : 0 ≤ t ∧ t ≤ 60) (hu : 0 ≤ u ∧ u ≤ 120) : 0 ≤ yCost t u ∧ yCost t u ≤ 2400 := by
  have b : 0 ≤ yBl u ∧ yBl u ≤ 8 := by unfold yBl; omega
  unfold yCost
  have f : 0 ≤ (if 4 < yBl u then 4 else yBl u) * 4 + (yBl u - (if 4 < yBl u then 4 else yBl u)) * 6 ∧ (if 4 < yBl u then 4 else yBl u) * 4 + (yBl u - (if 4 < yBl u then 4 else yBl u)) * 6 ≤ 40 := by
    by_cases c : 4 < yBl u
    · rw [if_pos c]; omega
    · rw [if_neg c]; omega
  generalize (if 4 < yBl u then 4 else yBl u) * 4 + (yBl u - (if 4 < yBl u then 4 else yBl u)) * 6 = m at f
  have h1 := Int.mul_nonneg ht.1 f.1
  have h2 := Int.mul_le_mul ht.2 f.2 f.1 (show (0 : Int) ≤ 60 by omega)
  omega
theorem ls_step {z e b L A D n nt : Nat} {xs : Nat → Int32} {ha ca ta : Nat → Nat} {B : Nat → Int} {H C T : Nat → Nat → Int} {w : xWd} (st : xSt z e b L A D n nt xs ha ca ta B H C T w) (hL : L ≤ 260) (hn : n < 44) (fu : Nat) : xGo z e b L A D n xs ha ca H (f_L_law_210 fu) (f_L_law_210 (fu + 1) (some b) (some z) (some A) (some D) (iI (B 9)) (iI n) w) := by
  have h := st.1
  have v := st.2.1
  have l := st.2.2.1
  have hb := st.2.2.2.1
  have b5 : B 5 = 2400 := l.1
  have b7 : 0 ≤ B 7 ∧ B 7 ≤ 60 := ⟨v.2.2.2.2.2.2.2.2.2.1, v.2.2.2.2.2.2.2.2.2.2.1⟩
  have b8 : 0 ≤ B 8 ∧ B 8 ≤ 120 := ⟨v.2.2.2.2.2.2.2.2.2.2.2.1, v.2.2.2.2.2.2.2.2.2.2.2.2.1⟩
  have b9 : 0 ≤ B 9 ∧ B 9 ≤ 2400 * n := ⟨v.2.2.2.2.2.2.2.2.2.2.2.2.2.1, l.2.1⟩
  have c1 : ¬ (44 : Int32) ≤ iI n := by rw [iL_44, iI_le (by omega) (by omega)]; omega
  have nz : xk_nz (16 : Int32) = some () := by decide
  have ei : iI (n : Int) - iI (n : Int) / (16 : Int32) * (16 : Int32) = iI ((n : Int) - (n : Int) / 16 * 16) := by rw [iL_16, iI_div (by omega) (by omega), iI_mul, iI_sub]
  have ej : ((7 : Int32) * iI (n : Int) + (3 : Int32)) - ((7 : Int32) * iI (n : Int) + (3 : Int32)) / (16 : Int32) * (16 : Int32) = iI ((7 * (n : Int) + 3) - (7 * (n : Int) + 3) / 16 * 16) := by
    rw [iL_7, iL_3, iL_16, iI_mul, iI_add, iI_div (by omega) (by omega), iI_mul, iI_sub]
  obtain ⟨cx, hcx⟩ := lw_cell hb hL (k := (n : Int) - (n : Int) / 16 * 16) (by omega)
  obtain ⟨cy, hcy⟩ := lw_cell hb hL (k := (7 * (n : Int) + 3) - (7 * (n : Int) + 3) / 16 * 16) (by omega)
  obtain ⟨cu, u1, u2, u3⟩ := lw_below (cy + (5 : Int32) * iI (n : Int)) (n := 4) (by omega) w
  rw [← iL_4] at u1
  obtain ⟨k, rfl⟩ : ∃ k : Nat, cu = k := ⟨cu.toNat, by omega⟩
  have hk : k < 4 := by omega
  obtain ⟨op, o1, o2, o3⟩ := lw_below (cx + (31 : Int32) * iI (n : Int)) (n := 16) (by omega) w
  rw [← iL_16] at o1
  obtain ⟨g1, g2, g3, g4, g5, g6⟩ := l.2.2.2.1 k hk
  obtain ⟨p1, p2, p3, p4, p5, p6, p7, p8, p9, p10, p11, p12⟩ := (yv_c v hk).1
  rw [f_L_law_210, if_neg c1, nz, Option.bind_some, ei, hcx, Option.bind_some, Option.bind_some, ej, hcy, Option.bind_some, u1, Option.bind_some, bk_is h, Option.bind_some, lw_c6 h v hk, Option.bind_some, bk_is h, Option.bind_some, lw_c5 h v hk, Option.bind_some, bk_is h, Option.bind_some, lw_m10 h v, Option.bind_some, o1, Option.bind_some]
  rcases (show op = 0 ∨ op = 1 ∨ op = 2 ∨ op = 3 ∨ op = 4 ∨ op = 5 ∨ op = 6 ∨ op = 7 ∨ op = 8 ∨ 9 ≤ op by omega) with rfl | rfl | rfl | rfl | rfl | rfl | rfl | rfl | rfl | ho
  · rw [if_pos (show iI 0 = (0 : Int32) by decide)]
    exact ls_bar st hn _ hk _ _
  · rw [if_neg (show ¬ iI 1 = (0 : Int32) by decide), if_pos (show iI 1 = (1 : Int32) by decide)]
    exact ls_bar st hn _ hk _ _
  · rw [if_neg (show ¬ iI 2 = (0 : Int32) by decide), if_neg (show ¬ iI 2 = (1 : Int32) by decide), if_pos (show iI 2 = (2 : Int32) by decide)]
    obtain ⟨r0, s1, s2, s3⟩ := lw_below ((cy + (5 : Int32) * iI (n : Int)) >>> ((3 : Int32) &&& 31)) (n := C k 7) (by omega) w
    obtain ⟨r1, t1, t2, t3⟩ := lw_below (cy + (5 : Int32) * iI (n : Int)) (n := 6) (by omega) w
    obtain ⟨r2, q1, q2, q3⟩ := lw_below ((cx + (31 : Int32) * iI (n : Int)) >>> ((1 : Int32) &&& 31)) (n := 137) (by omega) w
    rw [← iL_6] at t1
    rw [← iL_137] at q1
    have e1 : (2 : Int32) + iI r1 = iI (2 + r1) := by rw [iL_2, iI_add]
    have e2 : (24 : Int32) + iI r2 = iI (24 + r2) := by rw [iL_24, iI_add]
    obtain ⟨y1, y2, y3, y4, y5⟩ := ySet_ok (yv_c v hk).1 (b := r0.toNat) (m := 2 + r1) (c := 24 + r2) (by omega) (by omega) (by omega) (by omega) (fun i hi _ => g5 i hi)
    obtain ⟨w', m1, m2, m3, m4⟩ := x4_retime h v hk (b := r0) (m := 2 + r1) (c := 24 + r2) (by omega) (by omega) (by omega) (by omega) g5
    have q8 := lw_c8 m2 m3 hk
    rw [xk_up_s] at q8
    have q5 := lw_c5 m2 m3 hk
    rw [xk_up_s, y5] at q5
    have e3 : iI (C k 6) + (1 : Int32) = iI (C k 6 + 1) := by rw [iL_1, iI_add]
    rw [s1, Option.bind_some, t1, Option.bind_some, q1, Option.bind_some, bk_is h, Option.bind_some, e1, e2, m1, Option.bind_some, bk_is m2, Option.bind_some, q8, Option.bind_some, if_pos rfl, bk_is m2, Option.bind_some, q5, Option.bind_some, if_pos e3.symm]
    have a1 := y4 1 (by omega) (by omega) (by omega) (by omega) (by omega)
    have a7 := y4 7 (by omega) (by omega) (by omega) (by omega) (by omega)
    exact ⟨nt, ta, B, va_up C k (ySet (C k) r0.toNat (2 + r1) (24 + r2)), T, w', rfl, xSt_m st m2 m3 (xLv_c l (by omega) (by omega) (by omega) y2 y3) m4⟩
  · rw [if_neg (show ¬ iI 3 = (0 : Int32) by decide), if_neg (show ¬ iI 3 = (1 : Int32) by decide), if_neg (show ¬ iI 3 = (2 : Int32) by decide), if_pos (show iI 3 = (3 : Int32) by decide)]
    obtain ⟨r0, s1, s2, s3⟩ := lw_below ((cx + (31 : Int32) * iI (n : Int)) * (3 : Int32)) (n := B 5 + 1) (by omega) w
    have e1 : iI (B 5) + (1 : Int32) = iI (B 5 + 1) := by rw [iL_1, iI_add]
    obtain ⟨w', m1, m2, m3, m4⟩ := x4_shift h v hk (st := r0) (by omega)
    have q5 := lw_c5 m2 m3 hk
    rw [xk_up_s, xk_up_n _ _ (show 6 ≠ 1 by omega)] at q5
    rw [bk_is h, Option.bind_some, lw_m0 h v, Option.bind_some, e1, s1, Option.bind_some, bk_is h, Option.bind_some, m1, Option.bind_some, bk_is m2, Option.bind_some, lw_m4 m2 m3, Option.bind_some, if_pos rfl, bk_is m2, Option.bind_some, q5, Option.bind_some, if_pos rfl]
    have nn : ∀ j, j ≠ 1 → j ≠ 6 → C k j = va_up (C k) 1 r0 j := fun j h1 _ => (xk_up_n _ _ h1).symm
    exact ⟨nt, ta, B, va_up C k (va_up (C k) 1 r0), T, w', rfl, xSt_m st m2 m3 (xLv_c l (by rw [xk_up_s]; omega) (by rw [xk_up_n _ _ (show 7 ≠ 1 by omega)]; omega) (by rw [xk_up_n _ _ (show 6 ≠ 1 by omega)]; omega) (xCK_c nn g5) (xCI_c nn g6)) m4⟩
  · rw [if_neg (show ¬ iI 4 = (0 : Int32) by decide), if_neg (show ¬ iI 4 = (1 : Int32) by decide), if_neg (show ¬ iI 4 = (2 : Int32) by decide), if_neg (show ¬ iI 4 = (3 : Int32) by decide), if_pos (show iI 4 = (4 : Int32) by decide)]
    exact ls_back st hn _ _ _
  · rw [if_neg (show ¬ iI 5 = (0 : Int32) by decide), if_neg (show ¬ iI 5 = (1 : Int32) by decide), if_neg (show ¬ iI 5 = (2 : Int32) by decide), if_neg (show ¬ iI 5 = (3 : Int32) by decide), if_neg (show ¬ iI 5 = (4 : Int32) by decide), if_pos (show iI 5 = (5 : Int32) by decide)]
    exact ls_back st hn _ _ _
  · rw [if_neg (show ¬ iI 6 = (0 : Int32) by decide), if_neg (show ¬ iI 6 = (1 : Int32) by decide), if_neg (show ¬ iI 6 = (2 : Int32) by decide), if_neg (show ¬ iI 6 = (3 : Int32) by decide), if_neg (show ¬ iI 6 = (4 : Int32) by decide), if_neg (show ¬ iI 6 = (5 : Int32) by decide), if_pos (show iI 6 = (6 : Int32) by decide)]
    obtain ⟨w1, m1, m2, m3⟩ := x4_bestStart h v hk
    obtain ⟨t1, t2, t3, t4, t5, t6, t7⟩ := yTry_s (len := B 5) (cnt := yCnt 8 (fun i => yMb 4 C k (H i)) H (C k)) (now := C k 1) (by omega) (fun x => (yCt_b _ 8).1) 24
    have eb : (yTry (B 5) (yCnt 8 (fun i => yMb 4 C k (H i)) H (C k)) (C k 1) 24).1 = yBest 8 4 B H C k := rfl
    rw [eb] at t1 t3 t4 t5 t6 t7
    rw [t1] at t2 t7
    generalize yBest 8 4 B H C k = bs at *
    have cb := lw_cnt (nh := 8) (nc := 4) (H := H) (C := C) hk bs
    have cn := lw_cnt (nh := 8) (nc := 4) (H := H) (C := C) hk (C k 1)
    rw [xk_up_id (C k) 1 _ rfl, xk_up_id C k _ rfl] at cn
    rw [← cb, ← cn] at t2 t7
    obtain ⟨w2, n1, n2, n3, n4⟩ := x4_shift m2 v hk (st := bs) ⟨t3, t4⟩
    have bc := yCt_b (fun i => yMb 4 C (-1) (H i)) 8
    have bd := yCt_b (fun i => yMb 4 (va_up C k (va_up (C k) 1 bs)) (-1) (H i)) 8
    have b1 : 0 ≤ yCm 8 4 H C ∧ yCm 8 4 H C ≤ 8 := bc
    have b2 : 0 ≤ yCm 8 4 H (va_up C k (va_up (C k) 1 bs)) ∧ yCm 8 4 H (va_up C k (va_up (C k) 1 bs)) ≤ 8 := bd
    have c24 : ¬ (24 : Int32) < (if (0 : Int32) ≤ iI bs - iI (C k 1) then iI bs - iI (C k 1) else 0 - (iI bs - iI (C k 1))) := by
      rw [iI_sub, xi_abs (by omega), iL_24]
      have : 0 ≤ yA (bs - C k 1) ∧ yA (bs - C k 1) ≤ 24 := by
        unfold yA
        by_cases c : 0 ≤ bs - C k 1
        · rw [if_pos c]; omega
        · rw [if_neg c]; omega
      rw [iI_lt (by omega) (by omega)]
      omega
    have cL : ¬ iI (yCm 8 4 H (va_up C k (va_up (C k) 1 bs))) < iI (yCm 8 4 H C) := by rw [iI_lt (by omega) (by omega)]; omega
    have nn : ∀ j, j ≠ 1 → j ≠ 6 → C k j = va_up (C k) 1 bs j := fun j h1 _ => (xk_up_n _ _ h1).symm
    have S := xSt_m st n2 n3 (xLv_c l (s := va_up (C k) 1 bs) (by rw [xk_up_s]; omega) (by rw [xk_up_n _ _ (show 7 ≠ 1 by omega)]; omega) (by rw [xk_up_n _ _ (show 6 ≠ 1 by omega)]; omega) (xCK_c nn g5) (xCI_c nn g6)) (xFr_t m3 n4)
    rw [bk_is h, Option.bind_some, m1, Option.bind_some, bk_is m2, Option.bind_some, lw_m4 m2 v, Option.bind_some, bk_is m2, Option.bind_some, lw_c0 m2 v hk, Option.bind_some, if_neg c24, bk_is m2, Option.bind_some, n1, Option.bind_some, if_neg cL]
    by_cases c : bs = C k 1
    · rw [if_pos (show iI bs = iI (C k 1) by rw [c])]
      exact ⟨nt, ta, B, _, T, w2, rfl, S⟩
    · rw [if_neg (show ¬ iI bs = iI (C k 1) by rw [iI_eq (by omega) (by omega)]; exact c), bk_is n2, Option.bind_some, lw_m4 n2 n3, Option.bind_some, if_neg (show ¬ iI (yCm 8 4 H (va_up C k (va_up (C k) 1 bs))) = iI (yCm 8 4 H C) by rw [iI_eq (by omega) (by omega)]; omega)]
      exact ⟨nt, ta, B, _, T, w2, rfl, S⟩
  · rw [if_neg (show ¬ iI 7 = (0 : Int32) by decide), if_neg (show ¬ iI 7 = (1 : Int32) by decide), if_neg (show ¬ iI 7 = (2 : Int32) by decide), if_neg (show ¬ iI 7 = (3 : Int32) by decide), if_neg (show ¬ iI 7 = (4 : Int32) by decide), if_neg (show ¬ iI 7 = (5 : Int32) by decide), if_neg (show ¬ iI 7 = (6 : Int32) by decide), if_pos (show iI 7 = (7 : Int32) by decide), bk_is h, Option.bind_some, lw_m12 h v, Option.bind_some]
    by_cases c : B 7 = 0
    · obtain ⟨r0, s1, s2, s3⟩ := lw_below ((cy + (5 : Int32) * iI (n : Int)) >>> ((3 : Int32) &&& 31)) (n := 56) (by omega) w
      rw [← show (56 : Int32) = iI 56 by decide] at s1
      have e1 : (5 : Int32) + iI r0 = iI (5 + r0) := by rw [iL_5, iI_add]
      obtain ⟨w', m1, m2, m3⟩ := x4_open h v (b := 5 + r0) (by omega) c
      have eB : ∀ j, j ≠ 7 → va_up B 7 (5 + r0) j = B j := fun j hj => xk_up_n _ _ hj
      have e7 : va_up B 7 (5 + r0) 7 = 5 + r0 := xk_up_s _ _ _
      have e8 := eB 8 (by omega)
      have e9 := eB 9 (by omega)
      rw [if_pos (show iI (B 7) = (0 : Int32) by rw [c]; decide), s1, Option.bind_some, bk_is h, Option.bind_some, e1, m1, Option.bind_some, if_pos rfl, ← e9]
      exact ⟨nt, ta, va_up B 7 (5 + r0), C, T, w', rfl, xSt_m st m2 (yv_B v (fun j h7 _ _ => eB j h7) (by omega) (by omega) (by omega)) (xLv_B l (fun j h7 _ _ => eB j h7) (by omega)) m3⟩
    · rw [if_neg (show ¬ iI (B 7) = (0 : Int32) by rw [iL_0, iI_eq (by omega) (by omega)]; exact c), bk_is h, Option.bind_some, lw_m13 h v, Option.bind_some, if_pos (show iI (B 8) ≤ (120 : Int32) by rw [iL_120, iI_le (by omega) (by omega)]; omega)]
      exact xGo_0 st _
  · rw [if_neg (show ¬ iI 8 = (0 : Int32) by decide), if_neg (show ¬ iI 8 = (1 : Int32) by decide), if_neg (show ¬ iI 8 = (2 : Int32) by decide), if_neg (show ¬ iI 8 = (3 : Int32) by decide), if_neg (show ¬ iI 8 = (4 : Int32) by decide), if_neg (show ¬ iI 8 = (5 : Int32) by decide), if_neg (show ¬ iI 8 = (6 : Int32) by decide), if_neg (show ¬ iI 8 = (7 : Int32) by decide), if_pos (show iI 8 = (8 : Int32) by decide), bk_is h, Option.bind_some, lw_m12 h v, Option.bind_some]
    by_cases c : B 7 = 0
    · rw [if_pos (show iI (B 7) = (0 : Int32) by rw [c]; decide)]
      exact xGo_0 st _
    · obtain ⟨r0, s1, s2, s3⟩ := lw_below ((cy + (5 : Int32) * iI (n : Int)) >>> ((4 : Int32) &&& 31)) (n := 2) (by omega) w
      rw [← iL_2] at s1
      rw [if_neg (show ¬ iI (B 7) = (0 : Int32) by rw [iL_0, iI_eq (by omega) (by omega)]; exact c), s1, Option.bind_some]
      by_cases d : r0 = 0
      · rw [if_pos (show iI r0 = (0 : Int32) by rw [d]; decide)]
        exact xGo_0 st _
      · obtain ⟨w', m1, m2, m3⟩ := x4_close h v c
        have bc := yCost_b (t := B 7) (u := B 8) b7 b8
        have eB : ∀ j, j ≠ 7 → j ≠ 8 → j ≠ 9 → va_up (va_up (va_up B 9 (B 9 + yCost (B 7) (B 8))) 7 0) 8 0 j = B j := fun j h7 h8 h9 => (xk_up_n _ _ h8).trans ((xk_up_n _ _ h7).trans (xk_up_n _ _ h9))
        have e8 : va_up (va_up (va_up B 9 (B 9 + yCost (B 7) (B 8))) 7 0) 8 0 8 = 0 := xk_up_s _ _ _
        have e7 : va_up (va_up (va_up B 9 (B 9 + yCost (B 7) (B 8))) 7 0) 8 0 7 = 0 := (xk_up_n _ _ (by omega)).trans (xk_up_s _ _ _)
        have e9 : va_up (va_up (va_up B 9 (B 9 + yCost (B 7) (B 8))) 7 0) 8 0 9 = B 9 + yCost (B 7) (B 8) := (xk_up_n _ _ (by omega)).trans ((xk_up_n _ _ (by omega)).trans (xk_up_s _ _ _))
        have v1 := yv_B v eB (by omega) (by omega) (by omega)
        have q14 := lw_m14 m2 v1
        rw [e9] at q14
        have nz15 : xk_nz (15 : Int32) = some () := by decide
        have ec := lw_cost b7 b8
        have e10 : iI (B 9) + iI (yCost (B 7) (B 8)) = iI (B 9 + yCost (B 7) (B 8)) := by rw [iI_add]
        rw [if_neg (show ¬ iI r0 = (0 : Int32) by rw [iL_0, iI_eq (by omega) (by omega)]; exact d), bk_is h, Option.bind_some, lw_m13 h v, Option.bind_some, nz15, Option.bind_some, bk_is h, Option.bind_some, lw_m12 h v, Option.bind_some, bk_is h, Option.bind_some, m1, Option.bind_some, ec, if_pos rfl, bk_is m2, Option.bind_some, q14, Option.bind_some, e10, if_pos rfl, ← e9]
        exact ⟨nt, ta, _, C, T, w', rfl, xSt_m st m2 v1 (xLv_B l eB (by omega)) m3⟩
  · rw [if_neg (show ¬ iI op = (0 : Int32) by rw [iL_0, iI_eq (by omega) (by omega)]; omega), if_neg (show ¬ iI op = (1 : Int32) by rw [iL_1, iI_eq (by omega) (by omega)]; omega), if_neg (show ¬ iI op = (2 : Int32) by rw [iL_2, iI_eq (by omega) (by omega)]; omega), if_neg (show ¬ iI op = (3 : Int32) by rw [iL_3, iI_eq (by omega) (by omega)]; omega), if_neg (show ¬ iI op = (4 : Int32) by rw [iL_4, iI_eq (by omega) (by omega)]; omega), if_neg (show ¬ iI op = (5 : Int32) by rw [iL_5, iI_eq (by omega) (by omega)]; omega), if_neg (show ¬ iI op = (6 : Int32) by rw [iL_6, iI_eq (by omega) (by omega)]; omega), if_neg (show ¬ iI op = (7 : Int32) by rw [iL_7, iI_eq (by omega) (by omega)]; omega), if_neg (show ¬ iI op = (8 : Int32) by rw [iL_8, iI_eq (by omega) (by omega)]; omega), bk_is h, Option.bind_some, lw_m12 h v, Option.bind_some, bk_is h, Option.bind_some, lw_c2 h v hk, Option.bind_some]
    obtain ⟨hB, i1, i2, i3, i4, i5, i6, i7, i8, i9⟩ := yv_c v hk
    have nt40 := (yv_n v).2.2.1
    by_cases c : B 7 < C k 3
    · rw [if_pos (show iI (B 7) < iI (C k 3) by rw [iI_lt (by omega) (by omega)]; exact c)]
      exact xGo_0 st _
    · rw [if_neg (show ¬ iI (B 7) < iI (C k 3) by rw [iI_lt (by omega) (by omega)]; exact c), bk_is h, Option.bind_some, lw_m13 h v, Option.bind_some]
      by_cases d : 110 < B 8
      · rw [if_pos (show (110 : Int32) < iI (B 8) by rw [iL_110, iI_lt (by omega) (by omega)]; exact d)]
        exact xGo_0 st _
      · rw [if_neg (show ¬ (110 : Int32) < iI (B 8) by rw [iL_110, iI_lt (by omega) (by omega)]; exact d)]
        by_cases f : nt = 40
        · rw [if_pos (show iI (nt : Int) = (40 : Int32) by rw [f]; decide)]
          exact xGo_0 st _
        · rw [if_neg (show ¬ iI (nt : Int) = (40 : Int32) by rw [iL_40, iI_eq (by omega) (by omega)]; omega)]
          exact ls_take st _ hk (by omega) (by omega) (by omega) _ _
