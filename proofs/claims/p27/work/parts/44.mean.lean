/-! notes of a take within its bars, and the mean note -/
theorem yDv_lt {x : Int} {m : Nat} (h : 0 ≤ x ∧ x < 10 ^ m) : ∀ b : Nat, b ≤ m → 0 ≤ yDv x b ∧ yDv x b < 10 ^ (m - b)
  | 0 => fun _ => h
  | b + 1 => by
    intro hb
    obtain ⟨i1, i2⟩ := yDv_lt h b (by omega)
    have e : (10 : Int) ^ (m - b) = 10 ^ (m - (b + 1)) * 10 := by rw [← Int.pow_succ]; congr 1; omega
    rw [e] at i2
    show 0 ≤ yDv x b / 10 ∧ yDv x b / 10 < _
    generalize (10 : Int) ^ (m - (b + 1)) = P at i2
    omega
theorem yDv_0 {x : Int} {m : Nat} (h : 0 ≤ x ∧ x < 10 ^ m) : ∀ j : Nat, yDv x (m + j) = 0
  | 0 => by
    have := yDv_lt h m (Nat.le_refl _)
    rw [Nat.sub_self] at this
    have e : (10 : Int) ^ 0 = 1 := rfl
    show yDv x m = 0
    omega
  | j + 1 => by
    show yDv x (m + j) / 10 = 0
    rw [yDv_0 h j]; rfl
theorem yNo_s {x : Int} {m : Nat} (h : 0 ≤ x ∧ x < 10 ^ m) : ∀ j : Nat, yS' (yNo x) (m + j) = yS' (yNo x) m
  | 0 => rfl
  | j + 1 => by
    show yS' (yNo x) (m + j) + yNo x (m + j) = _
    have z : yNo x (m + j) = 0 := by
      unfold yNo
      rw [yDv_0 h j]
      rfl
    rw [yNo_s h j, z, Int.add_zero]
theorem yNs_b (x : Int) : ∀ m : Nat, 0 ≤ yS' (yNo x) m ∧ yS' (yNo x) m ≤ 9 * m
  | 0 => ⟨Int.le_refl _, Int.le_refl _⟩
  | m + 1 => by
    have := yNs_b x m
    have := yNo_b x m
    show 0 ≤ yS' (yNo x) m + yNo x m ∧ yS' (yNo x) m + yNo x m ≤ _
    omega
theorem yNs_e {x : Int} {m : Nat} (h0 : 0 ≤ x) (h : x ≤ 10 ^ m - 1) (hm : m ≤ 9) : yNs x = yS' (yNo x) m := by
  have := yNo_s (x := x) (m := m) ⟨h0, by omega⟩ (9 - m)
  rw [show m + (9 - m) = 9 by omega] at this
  exact this
theorem lw_vn {r : UInt64} (h : Jvm.FP.Core.val64 r ≠ .nan) : vf_n64 r := by
  unfold Jvm.FP.Core.val64 at h
  have h2 : ¬ Jvm.FP.Core.infBits Jvm.FP.Core.b64 < Jvm.FP.Core.mag Jvm.FP.Core.b64 r.toNat := fun c => h ((Jvm.FP.Core.decode_nan _).mpr c)
  have e1 : Jvm.FP.Core.infBits Jvm.FP.Core.b64 = 9218868437227405312 := by decide
  have e2 : Jvm.FP.Core.half Jvm.FP.Core.b64 = 9223372036854775808 := by decide
  unfold Jvm.FP.Core.mag at h2
  rw [e1, e2] at h2
  unfold vf_n64
  rw [UInt64.le_iff_toNat_le, UInt64.toNat_and]
  show r.toNat &&& 9223372036854775807 ≤ 9218868437227405312
  have e3 := Nat.and_two_pow_sub_one_eq_mod r.toNat 63
  have e4 : (2 : Nat) ^ 63 - 1 = 9223372036854775807 := by decide
  have e5 : (2 : Nat) ^ 63 = 9223372036854775808 := by decide
  rw [e4, e5] at e3
  rw [e3]
  omega
theorem lw_i2d {n : Nat} (hn : n ≤ 100000) : ∃ (c : Nat) (q : Int), Jvm.FP.Core.val64 (FP.i2d (iI n)) = .fin false c q ∧ -1074 ≤ q ∧ q ≤ 0 ∧ c * 2 ^ (q + 1074).toNat = n * 2 ^ 1074 := by
  have e : Jvm.FP.Core.val64 (FP.i2d (iI n)) = Jvm.FP.Core.round Jvm.FP.Core.b64 (Jvm.FP.Core.ofInt (iI (n : Int)).toInt) := Jvm.FP.Core.val64_i2d _
  rw [iI_toInt (by omega) (by omega)] at e
  have e2 : Jvm.FP.Core.round Jvm.FP.Core.b64 (Jvm.FP.Core.ofInt (n : Int)) = Jvm.FP.Core.roundRatio Jvm.FP.Core.b64 false n 1 0 := by
    show Jvm.FP.Core.roundRatio Jvm.FP.Core.b64 (decide ((n : Int) < 0)) (n : Int).natAbs 1 0 = _
    rw [decide_eq_false (show ¬ (n : Int) < 0 by omega), show (n : Int).natAbs = n by omega]
  rw [e2] at e
  have qm : Jvm.FP.Core.b64.qmin = -1074 := by decide
  have qx : Jvm.FP.Core.b64.qmax = 971 := by decide
  by_cases h0 : n = 0
  · subst h0
    refine ⟨0, -1074, ?_, by omega, by omega, by rw [Nat.zero_mul, Nat.zero_mul]⟩
    rw [e]
    unfold Jvm.FP.Core.roundRatio
    rw [if_pos rfl, qm]
  · have g1 := Nat.log2_self_le h0
    have g2 := Nat.lt_log2_self (n := n)
    have g3 : n.log2 < 17 := (Nat.log2_lt h0).mpr (by omega)
    generalize n.log2 = L at g1 g2 g3
    have p1 : 2 ^ L * 2 ^ (52 - L) = 2 ^ 52 := by rw [← Nat.pow_add]; congr 1; omega
    have p2 : 2 ^ (L + 1) * 2 ^ (52 - L) = 2 ^ 53 := by rw [← Nat.pow_add]; congr 1; omega
    have q1 : 2 ^ 52 ≤ n * 2 ^ (52 - L) := by rw [← p1]; exact Nat.mul_le_mul_right _ g1
    have q2 : n * 2 ^ (52 - L) < 2 ^ 53 := by rw [← p2]; exact Nat.mul_lt_mul_of_pos_right g2 (Nat.two_pow_pos _)
    refine ⟨n * 2 ^ (52 - L), -((52 - L : Nat) : Int), ?_, by omega, by omega, ?_⟩
    · rw [e]
      refine Jvm.FP.Core.roundRatio_exact Jvm.FP.Core.good_b64 (by decide) ⟨q2, ?_, ?_, Or.inr q1⟩ ?_
      · rw [qm]; omega
      · rw [qx]; omega
      · rw [show (0 - -((52 - L : Nat) : Int)).toNat = 52 - L by omega, show (-((52 - L : Nat) : Int) - 0).toNat = 0 by omega, Nat.pow_zero, Nat.mul_one, Nat.mul_one]
    · rw [Nat.mul_assoc, ← Nat.pow_add, show 52 - L + (-((52 - L : Nat) : Int) + 1074).toNat = 1074 by omega]
theorem lw_nine : Jvm.FP.Core.val64 4621256167635550208 = .fin false (9 * 2 ^ 49) (-49) := by decide +kernel
theorem lw_nine2 : Jvm.FP.Core.val64 4621256167635550208 ≠ .nan := by
  rw [lw_nine]
  intro h
  cases h
theorem lw_mean {s n : Nat} (hn : 0 < n ∧ n ≤ 1000) (hs : s ≤ 9 * n) : xk_nn (FP.ddiv (FP.i2d (iI s)) (FP.i2d (iI n))) = some () ∧ ¬ (0 : Int32) < Op.cmpValue (FP.dcmp (FP.ddiv (FP.i2d (iI s)) (FP.i2d (iI n))) (4621256167635550208 : UInt64)) .l := by
  obtain ⟨c, q, a1, a2, a3, a4⟩ := lw_i2d (n := s) (by omega)
  obtain ⟨d, r, b1, b2, b3, b4⟩ := lw_i2d (n := n) (by omega)
  have P0 : 0 < 2 ^ 1074 := Nat.two_pow_pos _
  have d0 : 0 < d := by
    rcases Nat.eq_zero_or_pos d with k | k
    · rw [k, Nat.zero_mul] at b4
      have := Nat.mul_pos hn.1 P0
      rw [← b4] at this
      exact absurd this (Nat.lt_irrefl 0)
    · exact k
  have e1 : Jvm.FP.Core.val64 (FP.ddiv (FP.i2d (iI s)) (FP.i2d (iI n))) = Jvm.FP.Core.roundRatio Jvm.FP.Core.b64 false c d (q - r) := by
    have e := Jvm.FP.Core.val64_ddiv (FP.i2d (iI s)) (FP.i2d (iI n))
    rw [a1, b1] at e
    refine e.trans ?_
    show (if d = 0 then _ else _) = _
    rw [if_neg (by omega)]
    rfl
  have nn : Jvm.FP.Core.val64 (FP.ddiv (FP.i2d (iI s)) (FP.i2d (iI n))) ≠ .nan := by rw [e1]; exact Jvm.FP.Core.roundRatio_ne_nan _ _ _ _ _
  refine ⟨?_, ?_⟩
  · unfold xk_nn
    exact if_pos (lw_vn nn)
  · have qm : Jvm.FP.Core.b64.qmin = -1074 := by decide
    have fv : Jvm.FP.Core.fits Jvm.FP.Core.b64 (.fin false (9 * 2 ^ 49) (-49)) := by rw [← lw_nine]; exact Jvm.FP.Core.val64_fits _
    have zv : Jvm.FP.Core.zmag Jvm.FP.Core.b64 (.fin false (9 * 2 ^ 49) (-49)) = 9 * 2 ^ 1074 := by
      show 9 * 2 ^ 49 * 2 ^ ((-49 : Int) - Jvm.FP.Core.b64.qmin).toNat = _
      rw [qm, show ((-49 : Int) - -1074).toNat = 1025 by decide, Nat.mul_assoc, ← Nat.pow_add]
    have le := Jvm.FP.Core.zmag_roundRatio_le Jvm.FP.Core.good_b64 (s := false) (A := c) (B := d) (e := q - r) (e0 := -1074) (V := .fin false (9 * 2 ^ 49) (-49)) d0 fv (by intro h; cases h) (by rw [qm]; omega) (by omega) (by
      rw [zv, qm, show ((-1074 : Int) - -1074).toNat = 0 by decide, Nat.pow_zero, Nat.mul_one]
      show c * 2 ^ ((q - r) - -1074).toNat ≤ 9 * 2 ^ 1074 * d
      refine Nat.le_of_mul_le_mul_right (c := 2 ^ (r + 1074).toNat) ?_ (Nat.two_pow_pos _)
      have l1 : c * 2 ^ ((q - r) - -1074).toNat * 2 ^ (r + 1074).toNat = s * 2 ^ 1074 * 2 ^ 1074 := by
        rw [Nat.mul_assoc, ← Nat.pow_add, show ((q - r) - -1074).toNat + (r + 1074).toNat = (q + 1074).toNat + 1074 by omega, Nat.pow_add, ← Nat.mul_assoc, a4]
      rw [l1, Nat.mul_assoc (9 * 2 ^ 1074) d, b4]
      generalize (2 : Nat) ^ 1074 = P
      have : s * P ≤ 9 * n * P := Nat.mul_le_mul_right P hs
      calc s * P * P ≤ 9 * n * P * P := Nat.mul_le_mul_right P this
        _ = 9 * P * (n * P) := by ac_rfl)
    have od : FP.dcmp (FP.ddiv (FP.i2d (iI s)) (FP.i2d (iI n))) (4621256167635550208 : UInt64) = some (compare (Jvm.FP.Core.zval Jvm.FP.Core.b64 (Jvm.FP.Core.val64 (FP.ddiv (FP.i2d (iI s)) (FP.i2d (iI n))))) (Jvm.FP.Core.zval Jvm.FP.Core.b64 (Jvm.FP.Core.val64 4621256167635550208))) :=
      Jvm.FP.Core.order_zval Jvm.FP.Core.good_b64 (Jvm.FP.Core.val64_fits _) (Jvm.FP.Core.val64_fits _) nn lw_nine2
    have z1 : Jvm.FP.Core.zval Jvm.FP.Core.b64 (Jvm.FP.Core.val64 (FP.ddiv (FP.i2d (iI s)) (FP.i2d (iI n)))) = (Jvm.FP.Core.zmag Jvm.FP.Core.b64 (Jvm.FP.Core.roundRatio Jvm.FP.Core.b64 false c d (q - r)) : Int) := by
      rw [e1]
      unfold Jvm.FP.Core.zval
      rw [Jvm.FP.Core.sgn_roundRatio]
      rfl
    have z2 : Jvm.FP.Core.zval Jvm.FP.Core.b64 (Jvm.FP.Core.val64 4621256167635550208) = (Jvm.FP.Core.zmag Jvm.FP.Core.b64 (.fin false (9 * 2 ^ 49) (-49)) : Int) := by
      rw [lw_nine]
      rfl
    rw [od, z1, z2]
    generalize Jvm.FP.Core.zmag Jvm.FP.Core.b64 (Jvm.FP.Core.roundRatio Jvm.FP.Core.b64 false c d (q - r)) = x at le
    generalize Jvm.FP.Core.zmag Jvm.FP.Core.b64 (.fin false (9 * 2 ^ 49) (-49)) = y at le
    have ce : compare (x : Int) (y : Int) = if (x : Int) < y then .lt else if (x : Int) = y then .eq else .gt := rfl
    rw [ce]
    by_cases c1 : (x : Int) < y
    · rw [if_pos c1]; decide
    · rw [if_neg c1, if_pos (by omega)]; decide
theorem x4_mean_l {z e nh nc nt : Nat} {ha ca ta : Nat → Nat} {B : Nat → Int} {H C T : Nat → Nat → Int} {w : xWd} (h : xBk z e nh nc nt ha ca ta B H C T w) (v : xVB nh nc nt B H C T) (hT : ∀ k, k < nt → T k 3 ≤ 10 ^ (C (T k 1).toNat 7).toNat - 1) : ∀ (r k fu s n : Nat), k + r = nt → r < fu → s ≤ 9 * n → n ≤ 9 * k → ∃ q, f_X4_meanNote_6 fu (some z) (iI s) (iI n) (iI k) w = some (q, w) ∧ ¬ (0 : Int32) < Op.cmpValue (FP.dcmp q (4621256167635550208 : UInt64)) .l := by
  have hn := yv_n v
  obtain ⟨l1, l2, l3⟩ := bk_lt h
  intro r
  induction r with
  | zero =>
    intro k fu s n h1 h2 h3 h4
    obtain ⟨fu, rfl⟩ : ∃ f, fu = f + 1 := ⟨fu - 1, by omega⟩
    have c1 : iI (nt : Int) ≤ iI k := by rw [iI_le (by omega) (by omega)]; omega
    unfold f_X4_meanNote_6 f_X4_meanNote_76
    by_cases c : n = 0
    · have c2 : iI (n : Int) = (0 : Int32) := by rw [c]; decide
      simp only [bk_takes h, Option.bind_some, l1, l2, if_pos c1, if_pos c2]
      exact ⟨_, rfl, by decide +kernel⟩
    · have c2 : ¬ iI (n : Int) = (0 : Int32) := by rw [iL_0, iI_eq (by omega) (by omega)]; omega
      obtain ⟨m1, m2⟩ := lw_mean (s := s) (n := n) (by omega) h3
      simp only [bk_takes h, Option.bind_some, l1, l2, if_pos c1, if_neg c2, m1]
      exact ⟨_, rfl, m2⟩
  | succ r ih =>
    intro k fu s n h1 h2 h3 h4
    obtain ⟨fu, rfl⟩ : ∃ f, fu = f + 1 := ⟨fu - 1, by omega⟩
    have hk : k < nt := by omega
    have c1 : ¬ iI (nt : Int) ≤ iI k := by rw [iI_le (by omega) (by omega)]; omega
    have e1 : iI (k : Int) + (1 : Int32) = iI ((k + 1 : Nat) : Int) := by rw [iL_1, iI_add]; rfl
    have tk := bk_t h hk
    have vk := yv_t v hk
    have cT : (T k 1).toNat < nc := bk_tc h v hk
    obtain ⟨b1, b2, b3, b4, b5, b6, b7, b8, b9, b10, b11, b12⟩ := (yv_c v cT).1
    have val := x3_isValid h v hk
    have q7 : xk_gI w (some (ca (T k 1).toNat)) 1 7 = some (iI (C (T k 1).toNat 7)) := xr_gI (k := 7) (bk_c h cT).1 rfl
    unfold f_X4_meanNote_6 f_X4_meanNote_57
    by_cases d : yVd C T k = true
    · rw [d, if_pos rfl] at val
      have c2 : ¬ iI 1 = (0 : Int32) := by decide
      have ns := yNs_e (x := T k 3) (m := (C (T k 1).toNat 7).toNat) (by omega) (hT k hk) (by omega)
      have nb := yNs_b (T k 3) (C (T k 1).toNat 7).toNat
      rw [← ns] at nb
      obtain ⟨x, hx⟩ : ∃ x : Nat, (x : Int) = yNs (T k 3) := ⟨(yNs (T k 3)).toNat, by omega⟩
      obtain ⟨y, hy⟩ : ∃ y : Nat, (y : Int) = C (T k 1).toNat 7 := ⟨(C (T k 1).toNat 7).toNat, by omega⟩
      have e2 : iI (s : Int) + iI (yNs (T k 3)) = iI ((s + x : Nat) : Int) := by rw [← hx, iI_add]; rfl
      have e3 : iI (n : Int) + iI (C (T k 1).toNat 7) = iI ((n + y : Nat) : Int) := by rw [← hy, iI_add]; rfl
      obtain ⟨q, i1, i2⟩ := ih (k + 1) fu (s + x) (n + y) (by omega) (by omega) (by omega) (by omega)
      refine ⟨q, ?_, i2⟩
      simp only [bk_takes h, Option.bind_some, l1, l2, if_neg c1, l3 k hk, xr_cc tk, xr_is tk, val, if_neg c2, x3_sumOfNotes h v hk, bk_t1 h hk, q7, e1, e2, e3]
      exact i1
    · rw [if_neg d] at val
      have c2 : iI 0 = (0 : Int32) := by decide
      obtain ⟨q, i1, i2⟩ := ih (k + 1) fu s n (by omega) (by omega) h3 (by omega)
      refine ⟨q, ?_, i2⟩
      simp only [bk_takes h, Option.bind_some, l1, l2, if_neg c1, l3 k hk, xr_cc tk, xr_is tk, val, if_pos c2, e1]
      exact i1
theorem x4_meanNote {z e nh nc nt : Nat} {ha ca ta : Nat → Nat} {B : Nat → Int} {H C T : Nat → Nat → Int} {w : xWd} (h : xBk z e nh nc nt ha ca ta B H C T w) (v : xVB nh nc nt B H C T) (hT : ∀ k, k < nt → T k 3 ≤ 10 ^ (C (T k 1).toNat 7).toNat - 1) : ∃ q, f_X4_meanNote (some z) w = some (q, w) ∧ ¬ (0 : Int32) < Op.cmpValue (FP.dcmp q (4621256167635550208 : UInt64)) .l := by
  have := x4_mean_l h v hT nt 0 4096 0 0 (by omega) (by have := (yv_n v).2.2.1; omega) (by omega) (by omega)
  rw [show iI ((0 : Nat) : Int) = (0 : Int32) by decide] at this
  exact this
