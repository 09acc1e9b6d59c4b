/-! what stands well at every step -/
theorem lw_met {nh nc nt : Nat} {B : Nat → Int} {H C T : Nat → Nat → Int} (v : xVB nh nc nt B H C T) {i : Nat} (hi : i < nh) (hm : yMb nc C (-1) (H i) = true) : H i 2 = 0 ∧ ∃ c b : Nat, yNc nc C (H i) = c ∧ c < nc ∧ yNb nc C (H i) = b ∧ (b : Int) < C c 10 ∧ yMs nc C (H i) = yA (C c 1 + C c (22 + 3 * b) - H i 0) ∧ yMs nc C (H i) ≤ H i 1 := by
  obtain ⟨h1, h2, h3, h4, h5⟩ := yv_h v hi
  unfold yMb at hm
  rw [Bool.and_eq_true, decide_eq_true_iff, List.any_eq_true] at hm
  obtain ⟨g1, i0, g2, g3⟩ := hm
  rw [List.mem_range] at g2
  rw [Bool.and_eq_true] at g3
  have g4 := g3.2
  unfold yRc yReach at g4
  rw [List.any_eq_true] at g4
  obtain ⟨j0, g5, g6⟩ := g4
  rw [List.mem_range] at g5
  rw [decide_eq_true_iff] at g6
  have g7 : yF (C i0) (C i0 1) (H i 0) j0 ≤ H i 1 := g6
  obtain ⟨j1, p1, p2, p3⟩ := yN_s (s := C i0) (f := H i 0) (C i0 10).toNat (by omega)
  have p4 := p3 j0 g5
  have m0 : yM (C i0) (H i 0) = yF (C i0) (C i0 1) (H i 0) j1 := by
    unfold yM
    rw [p2]
  have m1 : 0 ≤ yF (C i0) (C i0 1) (H i 0) j1 := yA_0 _
  refine ⟨g1, ?_⟩
  rcases yQ_s (C := C) (f := H i 0) (by omega) nc (fun k hk => (yv_c v hk).1) with ⟨q1, q2⟩ | ⟨j, q1, q2, q3, q4⟩
  · have := q2 i0 g2
    omega
  · have q5 : yM (C j) (H i 0) ≤ yM (C i0) (H i 0) := by
      rcases q4 i0 g2 with q | q <;> omega
    have n0 : 0 < (C j 10).toNat := by
      rcases Nat.eq_zero_or_pos (C j 10).toNat with c | c
      · exfalso
        unfold yM at q3
        rw [c] at q3
        have : (yN (C j) (H i 0) 0).2 = -1 := rfl
        omega
      · exact c
    obtain ⟨b, r1, r2, r3⟩ := yN_s (s := C j) (f := H i 0) (C j 10).toNat n0
    have e1 : yNc nc C (H i) = (j : Int) := by
      unfold yNc
      rw [if_pos g1, q2]
    have e2 : yMs nc C (H i) = yM (C j) (H i 0) := by
      unfold yMs
      rw [if_pos g1, q2]
    refine ⟨j, b, e1, q1, ?_, by omega, ?_, by omega⟩
    · unfold yNb
      rw [e1, if_neg (by omega), Int.toNat_natCast, r2]
    · rw [e2]
      unfold yM
      rw [r2]
      rfl
theorem lw_pay {nh nc nt : Nat} {B : Nat → Int} {H C T : Nat → Nat → Int} (v : xVB nh nc nt B H C T) {k : Nat} (hk : k < nc) : iI (ySc nt B C T k) * ((1 : Int32) + (2 : Int32) * iI (C k 5)) = iI (yPy nt B C T k) := by
  obtain ⟨hB, n1, n2, n3, n4, n5, n6, n7, n8, n9⟩ := yv_c v hk
  rw [iL_1, iL_2, iI_mul, iI_add, iI_mul]
  unfold yPy yRt
  rcases (show C k 5 = 0 ∨ C k 5 = 1 ∨ C k 5 = 2 by omega) with q | q | q <;> rw [q] <;> rfl
theorem lw_33 {z e nh nc nt : Nat} {ha ca ta : Nat → Nat} {B : Nat → Int} {H C T : Nat → Nat → Int} {w : xWd} (h : xBk z e nh nc nt ha ca ta B H C T w) (v : xVB nh nc nt B H C T) {k : Nat} (hk : k < nc) (hI : xCI (C k)) (K : Option Nat → Int32 → Int32 → Int32 → xWd → Option (Int32 × xWd)) (p o : Int32) : ∀ (r j fu : Nat) (la : Int), (j : Int) + r = C k 10 → r < fu → (-10 ≤ la ∧ la < C k 1 + C k 11 ∧ ∀ i : Nat, j ≤ i → (i : Int) < C k 10 → la < C k 1 + C k (22 + 3 * i)) → f_L_areWell_33 K fu (some z) p o (iI k) (iI (C k 10)) (iI la) (iI j) w = K (some z) (p + iI (yPy nt B C T k)) (o + iI (if yOv B (C k) then 1 else 0)) (iI ((k + 1 : Nat) : Int)) w := by
  have hn := yv_n v
  obtain ⟨hB, n1, n2, n3, n4, n5, n6, n7, n8, n9⟩ := yv_c v hk
  obtain ⟨b1, b2, b3, b4, b5, b6, b7, b8, b9, b10, b11, b12⟩ := hB
  intro r
  induction r with
  | zero =>
    intro j fu la h1 h2 h3
    obtain ⟨fu, rfl⟩ : ∃ f, fu = f + 1 := ⟨fu - 1, by omega⟩
    obtain ⟨h3a, h3b, h3c⟩ := h3
    have c1 : iI (C k 10) ≤ iI j := by rw [iI_le (by omega) (by omega)]; omega
    have c3 : ¬ iI (C k 1 + C k 11) ≤ iI la := by rw [iI_le (by omega) (by omega)]; omega
    have e1 : iI (k : Int) + (1 : Int32) = iI ((k + 1 : Nat) : Int) := by rw [iL_1, iI_add]; rfl
    have q9 := lw_c9 h v hk
    have z0 : iI 0 = (0 : Int32) := by decide
    have z1 : iI 1 = (1 : Int32) := by decide
    have z2 : ¬ (0 : Int32) = 1 := by decide
    have z3 : ¬ (1 : Int32) = 0 := by decide
    unfold f_L_areWell_33 f_L_areWell_88 f_L_areWell_118 f_L_areWell_150 f_L_areWell_182
    by_cases d : B 5 < C k 1 + C k 11
    · have ho : yOv B (C k) = true := decide_eq_true d
      have sc : ySc nt B C T k = 0 := by
        unfold ySc
        rw [ho, if_neg (fun c => Bool.noConfusion c.1)]
      have c2 : ¬ iI (C k 1 + C k 11) ≤ iI (B 5) := by rw [iI_le (by omega) (by omega)]; omega
      have c4 : iI (ySc nt B C T k) ≤ (0 : Int32) := by rw [sc]; decide
      rw [ho, if_pos rfl, z1] at q9
      rw [ho, if_pos rfl, z1]
      simp only [if_pos c1, bk_is h, Option.bind_some, lw_c8 h v hk, lw_m0 h v, if_neg c2, if_neg c3, q9, if_true, eq_self, lw_c12 h v hk, if_pos c4, lw_c4 h v hk, if_neg z3, lw_pay v hk, e1]
    · have ho : yOv B (C k) = false := decide_eq_false d
      have c2 : iI (C k 1 + C k 11) ≤ iI (B 5) := by rw [iI_le (by omega) (by omega)]; omega
      rw [ho, if_neg Bool.false_ne_true, z0] at q9
      rw [ho, if_neg Bool.false_ne_true, z0]
      by_cases c4 : iI (ySc nt B C T k) ≤ (0 : Int32)
      · simp only [if_pos c1, bk_is h, Option.bind_some, lw_c8 h v hk, lw_m0 h v, if_pos c2, if_neg c3, q9, if_neg z2, if_true, eq_self, lw_c12 h v hk, if_pos c4, lw_c4 h v hk, lw_pay v hk, e1]
      · have c5 : ¬ iI (yNv nt C T k) = (0 : Int32) := by
          intro c6
          apply c4
          have nb := yCt_b (yVc C T k) nt
          have nn : yNv nt C T k = 0 := by
            rw [iL_0, iI_eq (by unfold yNv; omega) (by omega)] at c6
            exact c6
          unfold ySc
          rw [nn, if_neg (by omega)]
          decide
        simp only [if_pos c1, bk_is h, Option.bind_some, lw_c8 h v hk, lw_m0 h v, if_pos c2, if_neg c3, q9, if_neg z2, if_true, eq_self, lw_c12 h v hk, if_neg c4, lw_c11 h v hk, if_neg c5, lw_c4 h v hk, lw_pay v hk, e1]
  | succ r ih =>
    intro j fu la h1 h2 h3
    obtain ⟨fu, rfl⟩ : ∃ f, fu = f + 1 := ⟨fu - 1, by omega⟩
    obtain ⟨h3a, h3b, h3c⟩ := h3
    have c1 : ¬ iI (C k 10) ≤ iI j := by rw [iI_le (by omega) (by omega)]; omega
    have bt := x4_beat h v hk (i := (j : Int)) (by omega) (by omega)
    rw [Int.toNat_natCast] at bt
    have bj := b12 j (by omega)
    have c2 : iI la < iI (C k 1 + C k (22 + 3 * j)) := by
      rw [iI_lt (by omega) (by omega)]
      exact h3c j (Nat.le_refl _) (by omega)
    have e3 : iI (j : Int) + (1 : Int32) = iI ((j + 1 : Nat) : Int) := by rw [iL_1, iI_add]; rfl
    have i2 := ih (j + 1) fu (C k 1 + C k (22 + 3 * j)) (by omega) (by omega) ⟨by omega, by have := (hI.2 j (by omega)).2; omega, fun i hi hi2 => by have := hI.1 j i (by omega) hi2; omega⟩
    unfold f_L_areWell_33
    simp only [if_neg c1, bk_is h, Option.bind_some, bt, if_pos c2, e3]
    exact i2
theorem lw_6 {z e nt : Nat} {ha ca ta : Nat → Nat} {B : Nat → Int} {H C T : Nat → Nat → Int} {w : xWd} (h : xBk z e 8 4 nt ha ca ta B H C T w) (v : xVB 8 4 nt B H C T) (hI : ∀ k, k < 4 → xCI (C k)) : ∀ (r k fu : Nat), k + r = 4 → r < fu → f_L_areWell_6 fu (some z) (iI (yS' (yPy nt B C T) k)) (iI (yCt (fun i => yOv B (C i)) k)) (iI k) w = f_L_areWell_195 4096 (some z) (iI (yS' (yPy nt B C T) 4)) (iI (yCt (fun i => yOv B (C i)) 4)) (0 : Int32) (0 : Int32) w := by
  intro r
  induction r with
  | zero =>
    intro k fu h1 h2
    obtain ⟨fu, rfl⟩ : ∃ f, fu = f + 1 := ⟨fu - 1, by omega⟩
    have c1 : (4 : Int32) ≤ iI k := by rw [iL_4, iI_le (by omega) (by omega)]; omega
    unfold f_L_areWell_6
    rw [if_pos c1, show k = 4 by omega]
  | succ r ih =>
    intro k fu h1 h2
    obtain ⟨fu, rfl⟩ : ∃ f, fu = f + 1 := ⟨fu - 1, by omega⟩
    have hk : k < 4 := by omega
    obtain ⟨b1, b2, b3, b4, b5, b6, b7, b8, b9, b10, b11, b12⟩ := (yv_c v hk).1
    have c1 : ¬ (4 : Int32) ≤ iI k := by rw [iL_4, iI_le (by omega) (by omega)]; omega
    have e1 : iI (C k 1) - (1 : Int32) = iI (C k 1 - 1) := by rw [iL_1, iI_sub]
    have hI' := hI k hk
    have st := lw_33 h v hk hI' (f_L_areWell_6 fu) (iI (yS' (yPy nt B C T) k)) (iI (yCt (fun i => yOv B (C i)) k)) (C k 10).toNat 0 4096 (C k 1 - 1) (by omega) (by omega) ⟨by omega, by omega, fun i hi hi2 => by have := (hI'.2 i hi2).1; omega⟩
    rw [show iI ((0 : Nat) : Int) = (0 : Int32) by decide, iI_add, iI_add] at st
    unfold f_L_areWell_6
    simp only [if_neg c1, bk_is h, Option.bind_some, lw_c7 h v hk, lw_c0 h v hk, e1]
    exact st.trans (ih (k + 1) fu (by omega) (by omega))
theorem lw_sheets {nh nc nt : Nat} {B : Nat → Int} {H C T : Nat → Nat → Int} (v : xVB nh nc nt B H C T) : ∀ n : Nat, n ≤ nc → yS' (yPw nt B C T 0) n + yS' (yPw nt B C T 1) n + yS' (yPw nt B C T 2) n + yS' (yPw nt B C T 3) n = yS' (yPy nt B C T) n
  | 0 => fun _ => rfl
  | n + 1 => by
    intro h
    have ih := lw_sheets v n (by omega)
    obtain ⟨hB, n1, n2, n3, n4, n5, n6, n7, n8, n9⟩ := yv_c v (show n < nc by omega)
    rw [yS'_e, yS'_e, yS'_e, yS'_e, yS'_e]
    have p : yPw nt B C T 0 n + yPw nt B C T 1 n + yPw nt B C T 2 n + yPw nt B C T 3 n = yPy nt B C T n := by
      unfold yPw
      rcases (show C n 4 = 0 ∨ C n 4 = 1 ∨ C n 4 = 2 ∨ C n 4 = 3 by omega) with q | q | q | q <;> rw [q] <;> simp
    omega
theorem lw_195 {z e nt : Nat} {ha ca ta : Nat → Nat} {B : Nat → Int} {H C T : Nat → Nat → Int} {w : xWd} (h : xBk z e 8 4 nt ha ca ta B H C T w) (v : xVB 8 4 nt B H C T) : ∀ (r i fu : Nat), i + r = 8 → r < fu → f_L_areWell_195 fu (some z) (iI (yS' (yPy nt B C T) 4)) (iI (yCt (fun i => yOv B (C i)) 4)) (iI (yCt (fun i => yMb 4 C (-1) (H i)) i)) (iI i) w = some (1, w) := by
  intro r
  induction r with
  | zero =>
    intro i fu h1 h2
    obtain ⟨fu, rfl⟩ : ∃ f, fu = f + 1 := ⟨fu - 1, by omega⟩
    have b8 : 0 ≤ B 8 ∧ B 8 ≤ 120 := ⟨v.2.2.2.2.2.2.2.2.2.2.2.1, v.2.2.2.2.2.2.2.2.2.2.2.2.1⟩
    have c1 : (8 : Int32) ≤ iI i := by rw [iL_8, iI_le (by omega) (by omega)]; omega
    have c2 : iI (yCm 8 4 H C) = iI (yCt (fun i => yMb 4 C (-1) (H i)) i) := by rw [show i = 8 by omega]; rfl
    have c3 : ¬ (120 : Int32) < iI (B 8) := by rw [iL_120, iI_lt (by omega) (by omega)]; omega
    have c4 : iI (yS' (yPw nt B C T 0) 4) + iI (yS' (yPw nt B C T 1) 4) + iI (yS' (yPw nt B C T 2) 4) + iI (yS' (yPw nt B C T 3) 4) = iI (yS' (yPy nt B C T) 4) := by
      rw [iI_add, iI_add, iI_add, lw_sheets v 4 (by omega)]
    have z1 : xk_zb (1 : Int32) = some () := by decide
    unfold f_L_areWell_195 f_L_areWell_365
    simp only [if_pos c1, bk_is h, Option.bind_some, lw_m4 h v, if_pos c2, lw_m7 h v, if_true, eq_self, lw_m15 h v, lw_m13 h v, if_neg c3, lw_s0 h v, lw_s1 h v, lw_s2 h v, lw_s3 h v, if_pos c4, z1]
  | succ r ih =>
    intro i fu h1 h2
    obtain ⟨fu, rfl⟩ : ∃ f, fu = f + 1 := ⟨fu - 1, by omega⟩
    have hi : i < 8 := by omega
    have c1 : ¬ (8 : Int32) ≤ iI i := by rw [iL_8, iI_le (by omega) (by omega)]; omega
    have e1 : iI (i : Int) + (1 : Int32) = iI ((i + 1 : Nat) : Int) := by rw [iL_1, iI_add]; rfl
    have q4 := lw_h4 h v hi
    have i2 := ih (i + 1) fu (by omega) (by omega)
    rw [yCt_e (fun i => yMb 4 C (-1) (H i)) i] at i2
    unfold f_L_areWell_195 f_L_areWell_287
    by_cases hm : yMb 4 C (-1) (H i) = true
    · obtain ⟨m0, c, b, m1, m2, m3, m4, m5, m6⟩ := lw_met v hi hm
      obtain ⟨h1', h2', h3', h4', h5'⟩ := yv_h v hi
      obtain ⟨b1, b2, b3, b4, b5, b6, b7, b8, b9, b10, b11, b12⟩ := (yv_c v m2).1
      have bb := b12 b (by omega)
      rw [hm, if_pos rfl] at q4
      rw [if_pos hm] at i2
      have c2 : ¬ iI 1 = (0 : Int32) := by decide
      have q5 := lw_h5 h v hi
      rw [m1] at q5
      have q6 := lw_h6 h v hi
      rw [m3] at q6
      have bt := x4_beat h v m2 (i := (b : Int)) (by omega) m4
      rw [Int.toNat_natCast] at bt
      have c3 : ¬ iI (H i 2) = (1 : Int32) := by rw [m0]; decide
      have ab := xi_abs (x := C c 1 + C c (22 + 3 * b) - H i 0) (by omega)
      have c4 : iI (yA (C c 1 + C c (22 + 3 * b) - H i 0)) = iI (yMs 4 C (H i)) := by rw [m5]
      have a0 := yA_0 (C c 1 + C c (22 + 3 * b) - H i 0)
      have c5 : iI (yA (C c 1 + C c (22 + 3 * b) - H i 0)) ≤ iI (H i 1) := by rw [iI_le (by omega) (by omega)]; omega
      have e2 : iI (yCt (fun i => yMb 4 C (-1) (H i)) i) + (1 : Int32) = iI (yCt (fun i => yMb 4 C (-1) (H i)) i + 1) := by rw [iL_1, iI_add]
      simp only [if_neg c1, bk_is h, Option.bind_some, q4, if_neg c2, q5, q6, bt, lw_h0 h v hi, lw_h2 h v hi, if_neg c3, lw_h3 h v hi, iI_sub, ab, if_pos c4, lw_h1 h v hi, if_pos c5, e1, e2]
      exact i2
    · rw [if_neg hm] at q4
      rw [if_neg hm, Int.add_zero] at i2
      have c2 : iI 0 = (0 : Int32) := by decide
      simp only [if_neg c1, bk_is h, Option.bind_some, q4, if_pos c2, e1]
      exact i2
theorem lw_well {z e nt : Nat} {ha ca ta : Nat → Nat} {B : Nat → Int} {H C T : Nat → Nat → Int} {w : xWd} (h : xBk z e 8 4 nt ha ca ta B H C T w) (v : xVB 8 4 nt B H C T) (hI : ∀ k, k < 4 → xCI (C k)) : f_L_areWell (some z) w = some (1, w) := by
  have a := lw_6 h v hI 4 0 4096 (by omega) (by omega)
  have b := lw_195 h v 8 0 4096 (by omega) (by omega)
  have z0 : iI ((0 : Nat) : Int) = (0 : Int32) := by decide
  have s0 : iI (yS' (yPy nt B C T) 0) = (0 : Int32) := by show iI 0 = 0; decide
  have s1 : iI (yCt (fun i => yOv B (C i)) 0) = (0 : Int32) := by show iI 0 = 0; decide
  have s2 : iI (yCt (fun i => yMb 4 C (-1) (H i)) 0) = (0 : Int32) := by show iI 0 = 0; decide
  rw [s0, s1, z0] at a
  rw [s2, z0] at b
  unfold f_L_areWell
  exact a.trans b
