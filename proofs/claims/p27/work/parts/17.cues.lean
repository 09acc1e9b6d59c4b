theorem bk_ca {z e nh nc nt : Nat} {ha ca ta : Nat → Nat} {B : Nat → Int} {H C T : Nat → Nat → Int} {w : xWd} (h : xBk z e nh nc nt ha ca ta B H C T w) {i j : Nat} (hi : i < nc) (hj : j < nc) (e : ca i = ca j) : i = j := by
  rcases Nat.lt_trichotomy i j with c | c | c
  · have := (h.2.2.2.2.2.2.2.2.1 j hj).2.2.2 i c
    omega
  · exact c
  · have := (h.2.2.2.2.2.2.2.2.1 i hi).2.2.2 j c
    omega
theorem x4_cueNumbered {z e nh nc nt : Nat} {ha ca ta : Nat → Nat} {B : Nat → Int} {H C T : Nat → Nat → Int} {w : xWd} (h : xBk z e nh nc nt ha ca ta B H C T w) (v : xVB nh nc nt B H C T) {k : Nat} (hk : k < nc) : f_X4_cueNumbered (some z) (iI k) w = some (some (ca k), w) := by
  have hn := yv_n v
  obtain ⟨l1, l2, l3⟩ := bk_lc h
  have c1 : ¬ iI (k : Int) < (0 : Int32) := by rw [iL_0, iI_lt (by omega) (by omega)]; omega
  have c2 : iI (k : Int) < iI (nc : Int) := by rw [iI_lt (by omega) (by omega)]; omega
  unfold f_X4_cueNumbered
  simp only [if_neg c1, bk_cues h, Option.bind_some, l1, l2, if_pos c2, l3 k hk, xr_cc (bk_c h hk).1]
/-- runs over -/
def yOv (B c : Nat → Int) : Bool := decide (B 5 < c 1 + c 11)
theorem x4_runsOver {z e nh nc nt : Nat} {ha ca ta : Nat → Nat} {B : Nat → Int} {H C T : Nat → Nat → Int} {w : xWd} (h : xBk z e nh nc nt ha ca ta B H C T w) (v : xVB nh nc nt B H C T) {k : Nat} (hk : k < nc) : f_X4_runsOver (some z) (some (ca k)) w = some (iI (if yOv B (C k) then 1 else 0), w) := by
  have hn := yv_n v
  have hC := bk_c h hk
  have hB := (yv_c v hk).1
  have b1 := hB.1
  have b2 := hB.2.1
  have b3 := hB.2.2.2.2.2.2.2.2.1
  have b4 := hB.2.2.2.2.2.2.2.2.2.1
  have z0 : xk_zb (0 : Int32) = some () := by decide
  have z1 : xk_zb (1 : Int32) = some () := by decide
  unfold f_X4_runsOver f_X4_runsOver_16 yOv
  simp only [xr_is hC.1, Option.bind_some, x0_end hC, bk_I5 h, z0, z1]
  by_cases c : C k 1 + C k 11 ≤ B 5
  · rw [if_pos (by rw [iI_le (by omega) (by omega)]; exact c), decide_eq_false (by omega)]; rfl
  · rw [if_neg (by rw [iI_le (by omega) (by omega)]; exact c), decide_eq_true (by omega)]; rfl
/-- starts before its theme is revealed -/
def ySp (B c : Nat → Int) : Bool := decide (0 ≤ c 2 ∧ c 2 < B 2 ∧ c 1 < B (20 + (c 2).toNat))
theorem x4_spoils {z e nh nc nt : Nat} {ha ca ta : Nat → Nat} {B : Nat → Int} {H C T : Nat → Nat → Int} {w : xWd} (h : xBk z e nh nc nt ha ca ta B H C T w) (v : xVB nh nc nt B H C T) {k : Nat} (hk : k < nc) : f_X4_spoils (some z) (some (ca k)) w = some (iI (if ySp B (C k) then 1 else 0), w) := by
  have hC := bk_c h hk
  obtain ⟨hB, -, p1, p2, -⟩ := yv_c v hk
  have b1 := hB.1
  have b2 := hB.2.1
  have q1 : B 2 ≤ 4 := v.2.2.2.2.2.2.2.2.1
  have z0 : xk_zb (0 : Int32) = some () := by decide
  have z1 : xk_zb (1 : Int32) = some () := by decide
  have g1 : xk_gI w (some (ca k)) 1 1 = some (iI (C k 1)) := xr_gI (k := 1) hC.1 rfl
  have g2 : xk_gI w (some (ca k)) 1 2 = some (iI (C k 2)) := xr_gI (k := 2) hC.1 rfl
  unfold f_X4_spoils f_X4_spoils_38 f_X4_spoils_39 ySp
  simp only [g1, g2, bk_I2 h, bk_reveals h, Option.bind_some, z0, z1]
  by_cases c : C k 2 < 0
  · rw [if_pos (by rw [iL_0, iI_lt (by omega) (by omega)]; exact c), decide_eq_false (by omega)]; rfl
  · have c2 : ¬ B 2 ≤ C k 2 := by omega
    have br := v.2.2.2.2.2.2.2.2.2.2.2.2.2.2.2.2.2.2 (C k 2).toNat (by omega)
    have e := xr_lI h.2.1 (i := C k 2) (by omega) (by omega) (by omega)
    rw [if_neg (by rw [iL_0, iI_lt (by omega) (by omega)]; exact c), if_neg (by rw [iI_le (by omega) (by omega)]; exact c2), e, Option.bind_some]
    by_cases c3 : B (20 + (C k 2).toNat) ≤ C k 1
    · rw [if_pos (by rw [iI_le (by omega) (by omega)]; exact c3), decide_eq_false (by omega)]; rfl
    · rw [if_neg (by rw [iI_le (by omega) (by omega)]; exact c3), decide_eq_true (by omega)]; rfl
/-- is take k valid -/
def yVd (C T : Nat → Nat → Int) (k : Nat) : Bool := decide (T k 2 = C (T k 1).toNat 6)
theorem bk_tc {z e nh nc nt : Nat} {ha ca ta : Nat → Nat} {B : Nat → Int} {H C T : Nat → Nat → Int} {w : xWd} (h : xBk z e nh nc nt ha ca ta B H C T w) (v : xVB nh nc nt B H C T) {k : Nat} (hk : k < nt) : (T k 1).toNat < nc := by
  have := yv_t v hk
  omega
theorem bk_t1 {z e nh nc nt : Nat} {ha ca ta : Nat → Nat} {B : Nat → Int} {H C T : Nat → Nat → Int} {w : xWd} (h : xBk z e nh nc nt ha ca ta B H C T w) {k : Nat} (hk : k < nt) : xk_gR w (some (ta k)) 4 1 = some (some (ca (T k 1).toNat)) := xr_gR (k := 1) (bk_t h hk) rfl
theorem x3_isValid {z e nh nc nt : Nat} {ha ca ta : Nat → Nat} {B : Nat → Int} {H C T : Nat → Nat → Int} {w : xWd} (h : xBk z e nh nc nt ha ca ta B H C T w) (v : xVB nh nc nt B H C T) {k : Nat} (hk : k < nt) : f_X3_isValid (some (ta k)) w = some (iI (if yVd C T k then 1 else 0), w) := by
  have hT := bk_t h hk
  have hv := yv_t v hk
  have hc := bk_tc h v hk
  have hB := (yv_c v hc).1
  have b6 := hB.2.2.1
  have b7 := hB.2.2.2.1
  have z0 : xk_zb (0 : Int32) = some () := by decide
  have z1 : xk_zb (1 : Int32) = some () := by decide
  have g2 : xk_gI w (some (ta k)) 4 2 = some (iI (T k 2)) := xr_gI (k := 2) hT rfl
  have g6 : xk_gI w (some (ca (T k 1).toNat)) 1 6 = some (iI (C (T k 1).toNat 6)) := xr_gI (k := 6) (bk_c h hc).1 rfl
  unfold f_X3_isValid f_X3_isValid_19 yVd
  simp only [g2, g6, bk_t1 h hk, Option.bind_some, z0, z1]
  by_cases c : T k 2 = C (T k 1).toNat 6
  · rw [if_pos (by rw [c]), decide_eq_true c]; rfl
  · rw [if_neg (by rw [iI_eq (by omega) (by omega)]; exact c), decide_eq_false c]; rfl
/-- take k is a valid one of cue c -/
def yVc (C T : Nat → Nat → Int) (c k : Nat) : Bool := decide ((T k 1).toNat = c) && yVd C T k
theorem x4_countValid_l {z e nh nc nt : Nat} {ha ca ta : Nat → Nat} {B : Nat → Int} {H C T : Nat → Nat → Int} {w : xWd} (h : xBk z e nh nc nt ha ca ta B H C T w) (v : xVB nh nc nt B H C T) {c : Nat} (hc : c < nc) : ∀ (r k fu : Nat), k + r = nt → r < fu → f_X4_countValid_4 fu (some z) (some (ca c)) (iI (yCt (yVc C T c) k)) (iI k) w = some (iI (yCt (yVc C T c) nt), w) := by
  have hn := yv_n v
  obtain ⟨l1, l2, l3⟩ := bk_lt h
  intro r
  induction r with
  | zero =>
    intro k fu h1 h4
    obtain ⟨fu, rfl⟩ : ∃ f, fu = f + 1 := ⟨fu - 1, by omega⟩
    have c1 : iI (nt : Int) ≤ iI k := by rw [iI_le (by omega) (by omega)]; omega
    unfold f_X4_countValid_4
    simp only [bk_takes h, Option.bind_some, l1, l2, if_pos c1]
    rw [show nt = k by omega]
  | succ r ih =>
    intro k fu h1 h4
    obtain ⟨fu, rfl⟩ : ∃ f, fu = f + 1 := ⟨fu - 1, by omega⟩
    have hk : k < nt := by omega
    have hT := bk_t h hk
    have hcc : xk_cc w (some (ta k)) 4 = some () := xr_cc hT
    have his : xk_is w (some (ta k)) 4 = some () := xr_is hT
    have c1 : ¬ iI (nt : Int) ≤ iI k := by rw [iI_le (by omega) (by omega)]; omega
    have e3 : ∀ x : Int, iI x + (1 : Int32) = iI (x + 1) := fun x => by rw [iL_1, iI_add]
    have i2 := ih (k + 1) fu (by omega) (by omega)
    rw [yCt_e] at i2
    unfold f_X4_countValid_4 f_X4_countValid_48
    simp only [bk_takes h, Option.bind_some, l1, l2, if_neg c1, l3 k hk, hcc, his, bk_t1 h hk, x3_isValid h v hk, xi_if, e3]
    by_cases d : (T k 1).toNat = c
    · rw [if_pos (by rw [d])]
      cases c5 : yVd C T k
      · have e : yVc C T c k = false := by unfold yVc; rw [c5, Bool.and_false]
        rw [e] at i2
        simp only [Bool.false_eq_true, if_false, Int.add_zero] at i2 ⊢
        exact i2
      · have e : yVc C T c k = true := by unfold yVc; rw [c5, Bool.and_true]; exact decide_eq_true d
        rw [e] at i2
        simp only [if_true] at i2 ⊢
        exact i2
    · have e : yVc C T c k = false := by unfold yVc; rw [decide_eq_false d, Bool.false_and]
      rw [if_neg (fun q => d (bk_ca h (bk_tc h v hk) hc (Option.some.inj q)))]
      rw [e] at i2
      simp only [Bool.false_eq_true, if_false, Int.add_zero] at i2 ⊢
      exact i2
/-- valid takes of a cue -/
def yNv (nt : Nat) (C T : Nat → Nat → Int) (c : Nat) : Int := yCt (yVc C T c) nt
theorem x4_countValid {z e nh nc nt : Nat} {ha ca ta : Nat → Nat} {B : Nat → Int} {H C T : Nat → Nat → Int} {w : xWd} (h : xBk z e nh nc nt ha ca ta B H C T w) (v : xVB nh nc nt B H C T) {c : Nat} (hc : c < nc) : f_X4_countValid (some z) (some (ca c)) w = some (iI (yNv nt C T c), w) := by
  have hn := yv_n v
  exact x4_countValid_l h v hc nt 0 4096 (by omega) (by omega)
/-- seconds heard of a cue -/
def ySc (nt : Nat) (B : Nat → Int) (C T : Nat → Nat → Int) (c : Nat) : Int := if yOv B (C c) = false ∧ 0 < yNv nt C T c then C c 11 / 24 else 0
theorem x4_secondsOf {z e nh nc nt : Nat} {ha ca ta : Nat → Nat} {B : Nat → Int} {H C T : Nat → Nat → Int} {w : xWd} (h : xBk z e nh nc nt ha ca ta B H C T w) (v : xVB nh nc nt B H C T) {c : Nat} (hc : c < nc) : f_X4_secondsOf (some z) (some (ca c)) w = some (iI (ySc nt B C T c), w) := by
  have hn := yv_n v
  have hC := bk_c h hc
  have hB := (yv_c v hc).1
  have b3 := hB.2.2.2.2.2.2.2.2.1
  have b4 := hB.2.2.2.2.2.2.2.2.2.1
  have g11 : xk_gI w (some (ca c)) 1 11 = some (iI (C c 11)) := xr_gI (k := 11) hC.1 rfl
  have z0 : xk_nz (24 : Int32) = some () := by decide
  have n1 : ¬ (1 : Int32) = 0 := by decide
  have bn : 0 ≤ yNv nt C T c ∧ yNv nt C T c ≤ nt := yCt_b _ _
  unfold f_X4_secondsOf f_X4_secondsOf_20 f_X4_secondsOf_21 f_X4_secondsOf_37 ySc
  simp only [bk_is h, Option.bind_some, x4_runsOver h v hc, xi_if, x4_countValid h v hc, if_true, if_neg n1, g11, z0]
  cases c1 : yOv B (C c)
  · simp only [Bool.false_eq_true, if_false, true_and]
    by_cases c2 : 0 < yNv nt C T c
    · rw [if_neg (by rw [iL_0, iI_le (by omega) (by omega)]; omega), if_pos c2, iL_24, iI_div (by omega) (by omega)]
    · rw [if_pos (by rw [iL_0, iI_le (by omega) (by omega)]; omega), if_neg c2, iL_0]
  · simp only [if_true, Bool.true_eq_false, false_and, if_false]
    rw [iL_0]
/-- the rate of a use -/
def yRt (c : Nat → Int) : Int := if c 5 = 0 then 1 else if c 5 = 1 then 3 else 5
def yPy (nt : Nat) (B : Nat → Int) (C T : Nat → Nat → Int) (c : Nat) : Int := ySc nt B C T c * yRt (C c)
theorem x4_payOf {z e nh nc nt : Nat} {ha ca ta : Nat → Nat} {B : Nat → Int} {H C T : Nat → Nat → Int} {w : xWd} (h : xBk z e nh nc nt ha ca ta B H C T w) (v : xVB nh nc nt B H C T) {c : Nat} (hc : c < nc) : f_X4_payOf (some z) (some (ca c)) w = some (iI (yPy nt B C T c), w) := by
  have hC := bk_c h hc
  obtain ⟨hB, -, -, -, -, -, -, -, u1, u2⟩ := yv_c v hc
  have g5 : xk_gI w (some (ca c)) 1 5 = some (iI (C c 5)) := xr_gI (k := 5) hC.1 rfl
  unfold f_X4_payOf f_X4_payOf_24 yPy yRt
  simp only [g5, Option.bind_some, bk_is h, x4_secondsOf h v hc]
  by_cases c1 : C c 5 = 0
  · rw [if_pos (by rw [c1, iL_0]), if_pos c1, iL_1, iI_mul]
  · rw [if_neg (by rw [iL_0, iI_eq (by omega) (by omega)]; exact c1), if_neg c1]
    by_cases c2 : C c 5 = 1
    · rw [if_pos (by rw [c2, iL_1]), if_pos c2, iL_3, iI_mul]
    · rw [if_neg (by rw [iL_1, iI_eq (by omega) (by omega)]; exact c2), if_neg c2, iL_5, iI_mul]
theorem yPy_b {nh nc nt : Nat} {B : Nat → Int} {H C T : Nat → Nat → Int} (v : xVB nh nc nt B H C T) {c : Nat} (hc : c < nc) : 0 ≤ yPy nt B C T c ∧ yPy nt B C T c ≤ 625 := by
  have hB := (yv_c v hc).1
  have b3 := hB.2.2.2.2.2.2.2.2.1
  have b4 := hB.2.2.2.2.2.2.2.2.2.1
  have s1 : 0 ≤ ySc nt B C T c ∧ ySc nt B C T c ≤ 125 := by unfold ySc; split <;> omega
  unfold yPy yRt
  split
  · omega
  · split <;> omega
/-- a sum over the first n -/
def yS' (p : Nat → Int) : Nat → Int
  | 0 => 0
  | n + 1 => yS' p n + p n
theorem yS'_e (p : Nat → Int) (n : Nat) : yS' p (n + 1) = yS' p n + p n := rfl
theorem x4_payToAll_l {z e nh nc nt : Nat} {ha ca ta : Nat → Nat} {B : Nat → Int} {H C T : Nat → Nat → Int} {w : xWd} (h : xBk z e nh nc nt ha ca ta B H C T w) (v : xVB nh nc nt B H C T) : ∀ (r k fu : Nat), k + r = nc → r < fu → f_X4_payToAll_4 fu (some z) (iI (yS' (yPy nt B C T) k)) (iI k) w = some (iI (yS' (yPy nt B C T) nc), w) := by
  have hn := yv_n v
  obtain ⟨l1, l2, l3⟩ := bk_lc h
  intro r
  induction r with
  | zero =>
    intro k fu h1 h4
    obtain ⟨fu, rfl⟩ : ∃ f, fu = f + 1 := ⟨fu - 1, by omega⟩
    have c1 : iI (nc : Int) ≤ iI k := by rw [iI_le (by omega) (by omega)]; omega
    unfold f_X4_payToAll_4
    simp only [bk_cues h, Option.bind_some, l1, l2, if_pos c1]
    rw [show nc = k by omega]
  | succ r ih =>
    intro k fu h1 h4
    obtain ⟨fu, rfl⟩ : ∃ f, fu = f + 1 := ⟨fu - 1, by omega⟩
    have hk : k < nc := by omega
    have c1 : ¬ iI (nc : Int) ≤ iI k := by rw [iI_le (by omega) (by omega)]; omega
    have e3 : ∀ x : Int, iI x + (1 : Int32) = iI (x + 1) := fun x => by rw [iL_1, iI_add]
    have i2 := ih (k + 1) fu (by omega) (by omega)
    rw [yS'_e] at i2
    unfold f_X4_payToAll_4
    simp only [bk_cues h, Option.bind_some, l1, l2, if_neg c1, l3 k hk, xr_cc (bk_c h hk).1, bk_is h, x4_payOf h v hk, iI_add, e3]
    exact i2
theorem x4_payToAll {z e nh nc nt : Nat} {ha ca ta : Nat → Nat} {B : Nat → Int} {H C T : Nat → Nat → Int} {w : xWd} (h : xBk z e nh nc nt ha ca ta B H C T w) (v : xVB nh nc nt B H C T) : f_X4_payToAll (some z) w = some (iI (yS' (yPy nt B C T) nc), w) := by
  have hn := yv_n v
  exact x4_payToAll_l h v nc 0 4096 (by omega) (by omega)
/-- the pay of a writer's cue -/
def yPw (nt : Nat) (B : Nat → Int) (C T : Nat → Nat → Int) (wr : Int) (c : Nat) : Int := if C c 4 = wr then yPy nt B C T c else 0
theorem x4_sheet_l {z e nh nc nt : Nat} {ha ca ta : Nat → Nat} {B : Nat → Int} {H C T : Nat → Nat → Int} {w : xWd} (h : xBk z e nh nc nt ha ca ta B H C T w) (v : xVB nh nc nt B H C T) {wr : Int} (hw : 0 ≤ wr ∧ wr < 4) : ∀ (r k fu : Nat), k + r = nc → r < fu → f_X4_sheet_24 fu (some z) (iI wr) (iI (yS' (yPw nt B C T wr) k)) (iI k) w = some (iI (yS' (yPw nt B C T wr) nc), w) := by
  have hn := yv_n v
  obtain ⟨l1, l2, l3⟩ := bk_lc h
  intro r
  induction r with
  | zero =>
    intro k fu h1 h4
    obtain ⟨fu, rfl⟩ : ∃ f, fu = f + 1 := ⟨fu - 1, by omega⟩
    have c1 : iI (nc : Int) ≤ iI k := by rw [iI_le (by omega) (by omega)]; omega
    unfold f_X4_sheet_24
    simp only [bk_cues h, Option.bind_some, l1, l2, if_pos c1]
    rw [show nc = k by omega]
  | succ r ih =>
    intro k fu h1 h4
    obtain ⟨fu, rfl⟩ : ∃ f, fu = f + 1 := ⟨fu - 1, by omega⟩
    have hk : k < nc := by omega
    have hC := bk_c h hk
    have hv := yv_c v hk
    have c1 : ¬ iI (nc : Int) ≤ iI k := by rw [iI_le (by omega) (by omega)]; omega
    have e3 : ∀ x : Int, iI x + (1 : Int32) = iI (x + 1) := fun x => by rw [iL_1, iI_add]
    have i2 := ih (k + 1) fu (by omega) (by omega)
    have g4 : xk_gI w (some (ca k)) 1 4 = some (iI (C k 4)) := xr_gI (k := 4) hC.1 rfl
    rw [yS'_e] at i2
    unfold f_X4_sheet_24 f_X4_sheet_66
    simp only [bk_cues h, Option.bind_some, l1, l2, if_neg c1, l3 k hk, xr_cc hC.1, bk_is h, g4, x4_payOf h v hk, iI_add, e3]
    by_cases d : C k 4 = wr
    · rw [if_pos (by rw [d])]
      unfold yPw at i2 ⊢
      rw [if_pos d] at i2
      exact i2
    · rw [if_neg (by rw [iI_eq (by omega) (by omega)]; exact d)]
      unfold yPw at i2 ⊢
      rw [if_neg d, Int.add_zero] at i2
      exact i2
theorem x4_sheet {z e nh nc nt : Nat} {ha ca ta : Nat → Nat} {B : Nat → Int} {H C T : Nat → Nat → Int} {w : xWd} (h : xBk z e nh nc nt ha ca ta B H C T w) (v : xVB nh nc nt B H C T) {wr : Int} (hw : 0 ≤ wr ∧ wr < 4) : f_X4_sheet (some z) (iI wr) w = some (iI (yS' (yPw nt B C T wr) nc), w) := by
  have hn := yv_n v
  unfold f_X4_sheet
  rw [if_neg (by rw [iL_0, iI_lt (by omega) (by omega)]; omega), if_pos (by rw [iL_4, iI_lt (by omega) (by omega)]; omega), iL_0]
  exact x4_sheet_l h v hw nc 0 4096 (by omega) (by omega)
theorem x4_countGone_l {z e nh nc nt : Nat} {ha ca ta : Nat → Nat} {B : Nat → Int} {H C T : Nat → Nat → Int} {w : xWd} (h : xBk z e nh nc nt ha ca ta B H C T w) (v : xVB nh nc nt B H C T) : ∀ (r k fu : Nat), k + r = nh → r < fu → f_X4_countGone_4 fu (some z) (iI (yCt (fun i => decide (H i 2 = 1)) k)) (iI k) w = some (iI (yCt (fun i => decide (H i 2 = 1)) nh), w) := by
  have hn := yv_n v
  obtain ⟨l1, l2, l3⟩ := bk_lh h
  intro r
  induction r with
  | zero =>
    intro k fu h1 h4
    obtain ⟨fu, rfl⟩ : ∃ f, fu = f + 1 := ⟨fu - 1, by omega⟩
    have c1 : iI (nh : Int) ≤ iI k := by rw [iI_le (by omega) (by omega)]; omega
    unfold f_X4_countGone_4
    simp only [bk_hits h, Option.bind_some, l1, l2, if_pos c1]
    rw [show nh = k by omega]
  | succ r ih =>
    intro k fu h1 h4
    obtain ⟨fu, rfl⟩ : ∃ f, fu = f + 1 := ⟨fu - 1, by omega⟩
    have hk : k < nh := by omega
    have c1 : ¬ iI (nh : Int) ≤ iI k := by rw [iI_le (by omega) (by omega)]; omega
    have e3 : ∀ x : Int, iI x + (1 : Int32) = iI (x + 1) := fun x => by rw [iL_1, iI_add]
    have i2 := ih (k + 1) fu (by omega) (by omega)
    rw [yCt_e] at i2
    have hH := bk_h h hk
    have hg := (yv_h v hk).2.2.2.2
    have g2 : xk_gI w (some (ha k)) 2 2 = some (iI (if decide (H k 2 = 1) then 1 else 0)) := by
      refine (xr_gI (k := 2) hH rfl).trans ?_
      rcases hg with e | e <;> simp [e]
    have hcc : xk_cc w (some (ha k)) 2 = some () := xr_cc hH
    unfold f_X4_countGone_4 f_X4_countGone_35
    simp only [bk_hits h, Option.bind_some, l1, l2, if_neg c1, l3 k hk, bk_is h, hcc, g2, xi_if, e3]
    cases c : decide (H k 2 = 1)
    · rw [c] at i2
      simp only [Bool.false_eq_true, if_false, Int.add_zero] at i2 ⊢
      exact i2
    · rw [c] at i2
      simp only [if_true] at i2 ⊢
      exact i2
theorem x4_countGone {z e nh nc nt : Nat} {ha ca ta : Nat → Nat} {B : Nat → Int} {H C T : Nat → Nat → Int} {w : xWd} (h : xBk z e nh nc nt ha ca ta B H C T w) (v : xVB nh nc nt B H C T) : f_X4_countGone (some z) w = some (iI (yCt (fun i => decide (H i 2 = 1)) nh), w) := by
  have hn := yv_n v
  exact x4_countGone_l h v nh 0 4096 (by omega) (by omega)
theorem x4_countOver_l {z e nh nc nt : Nat} {ha ca ta : Nat → Nat} {B : Nat → Int} {H C T : Nat → Nat → Int} {w : xWd} (h : xBk z e nh nc nt ha ca ta B H C T w) (v : xVB nh nc nt B H C T) : ∀ (r k fu : Nat), k + r = nc → r < fu → f_X4_countRunningOver_4 fu (some z) (iI (yCt (fun i => yOv B (C i)) k)) (iI k) w = some (iI (yCt (fun i => yOv B (C i)) nc), w) := by
  have hn := yv_n v
  obtain ⟨l1, l2, l3⟩ := bk_lc h
  intro r
  induction r with
  | zero =>
    intro k fu h1 h4
    obtain ⟨fu, rfl⟩ : ∃ f, fu = f + 1 := ⟨fu - 1, by omega⟩
    have c1 : iI (nc : Int) ≤ iI k := by rw [iI_le (by omega) (by omega)]; omega
    unfold f_X4_countRunningOver_4
    simp only [bk_cues h, Option.bind_some, l1, l2, if_pos c1]
    rw [show nc = k by omega]
  | succ r ih =>
    intro k fu h1 h4
    obtain ⟨fu, rfl⟩ : ∃ f, fu = f + 1 := ⟨fu - 1, by omega⟩
    have hk : k < nc := by omega
    have c1 : ¬ iI (nc : Int) ≤ iI k := by rw [iI_le (by omega) (by omega)]; omega
    have e3 : ∀ x : Int, iI x + (1 : Int32) = iI (x + 1) := fun x => by rw [iL_1, iI_add]
    have i2 := ih (k + 1) fu (by omega) (by omega)
    rw [yCt_e] at i2
    have hcc : xk_cc w (some (ca k)) 1 = some () := xr_cc (bk_c h hk).1
    have hb := x4_runsOver h v hk
    unfold f_X4_countRunningOver_4 f_X4_countRunningOver_36
    simp only [bk_cues h, Option.bind_some, l1, l2, if_neg c1, l3 k hk, bk_is h, hcc, hb, xi_if, e3]
    cases c : yOv B (C k)
    · rw [c] at i2
      simp only [Bool.false_eq_true, if_false, Int.add_zero] at i2 ⊢
      exact i2
    · rw [c] at i2
      simp only [if_true] at i2 ⊢
      exact i2
theorem x4_countOver {z e nh nc nt : Nat} {ha ca ta : Nat → Nat} {B : Nat → Int} {H C T : Nat → Nat → Int} {w : xWd} (h : xBk z e nh nc nt ha ca ta B H C T w) (v : xVB nh nc nt B H C T) : f_X4_countRunningOver (some z) w = some (iI (yCt (fun i => yOv B (C i)) nc), w) := by
  have hn := yv_n v
  exact x4_countOver_l h v nc 0 4096 (by omega) (by omega)
theorem x4_countSpoiling_l {z e nh nc nt : Nat} {ha ca ta : Nat → Nat} {B : Nat → Int} {H C T : Nat → Nat → Int} {w : xWd} (h : xBk z e nh nc nt ha ca ta B H C T w) (v : xVB nh nc nt B H C T) : ∀ (r k fu : Nat), k + r = nc → r < fu → f_X4_countSpoiling_4 fu (some z) (iI (yCt (fun i => ySp B (C i)) k)) (iI k) w = some (iI (yCt (fun i => ySp B (C i)) nc), w) := by
  have hn := yv_n v
  obtain ⟨l1, l2, l3⟩ := bk_lc h
  intro r
  induction r with
  | zero =>
    intro k fu h1 h4
    obtain ⟨fu, rfl⟩ : ∃ f, fu = f + 1 := ⟨fu - 1, by omega⟩
    have c1 : iI (nc : Int) ≤ iI k := by rw [iI_le (by omega) (by omega)]; omega
    unfold f_X4_countSpoiling_4
    simp only [bk_cues h, Option.bind_some, l1, l2, if_pos c1]
    rw [show nc = k by omega]
  | succ r ih =>
    intro k fu h1 h4
    obtain ⟨fu, rfl⟩ : ∃ f, fu = f + 1 := ⟨fu - 1, by omega⟩
    have hk : k < nc := by omega
    have c1 : ¬ iI (nc : Int) ≤ iI k := by rw [iI_le (by omega) (by omega)]; omega
    have e3 : ∀ x : Int, iI x + (1 : Int32) = iI (x + 1) := fun x => by rw [iL_1, iI_add]
    have i2 := ih (k + 1) fu (by omega) (by omega)
    rw [yCt_e] at i2
    have hcc : xk_cc w (some (ca k)) 1 = some () := xr_cc (bk_c h hk).1
    have hb := x4_spoils h v hk
    unfold f_X4_countSpoiling_4 f_X4_countSpoiling_36
    simp only [bk_cues h, Option.bind_some, l1, l2, if_neg c1, l3 k hk, bk_is h, hcc, hb, xi_if, e3]
    cases c : ySp B (C k)
    · rw [c] at i2
      simp only [Bool.false_eq_true, if_false, Int.add_zero] at i2 ⊢
      exact i2
    · rw [c] at i2
      simp only [if_true] at i2 ⊢
      exact i2
theorem x4_countSpoiling {z e nh nc nt : Nat} {ha ca ta : Nat → Nat} {B : Nat → Int} {H C T : Nat → Nat → Int} {w : xWd} (h : xBk z e nh nc nt ha ca ta B H C T w) (v : xVB nh nc nt B H C T) : f_X4_countSpoiling (some z) w = some (iI (yCt (fun i => ySp B (C i)) nc), w) := by
  have hn := yv_n v
  exact x4_countSpoiling_l h v nc 0 4096 (by omega) (by omega)
theorem x4_countAllValid_l {z e nh nc nt : Nat} {ha ca ta : Nat → Nat} {B : Nat → Int} {H C T : Nat → Nat → Int} {w : xWd} (h : xBk z e nh nc nt ha ca ta B H C T w) (v : xVB nh nc nt B H C T) : ∀ (r k fu : Nat), k + r = nt → r < fu → f_X4_countAllValid_4 fu (some z) (iI (yCt (yVd C T) k)) (iI k) w = some (iI (yCt (yVd C T) nt), w) := by
  have hn := yv_n v
  obtain ⟨l1, l2, l3⟩ := bk_lt h
  intro r
  induction r with
  | zero =>
    intro k fu h1 h4
    obtain ⟨fu, rfl⟩ : ∃ f, fu = f + 1 := ⟨fu - 1, by omega⟩
    have c1 : iI (nt : Int) ≤ iI k := by rw [iI_le (by omega) (by omega)]; omega
    unfold f_X4_countAllValid_4
    simp only [bk_takes h, Option.bind_some, l1, l2, if_pos c1]
    rw [show nt = k by omega]
  | succ r ih =>
    intro k fu h1 h4
    obtain ⟨fu, rfl⟩ : ∃ f, fu = f + 1 := ⟨fu - 1, by omega⟩
    have hk : k < nt := by omega
    have c1 : ¬ iI (nt : Int) ≤ iI k := by rw [iI_le (by omega) (by omega)]; omega
    have e3 : ∀ x : Int, iI x + (1 : Int32) = iI (x + 1) := fun x => by rw [iL_1, iI_add]
    have i2 := ih (k + 1) fu (by omega) (by omega)
    rw [yCt_e] at i2
    have hcc : xk_cc w (some (ta k)) 4 = some () := xr_cc (bk_t h hk)
    have his : xk_is w (some (ta k)) 4 = some () := xr_is (bk_t h hk)
    have hb := x3_isValid h v hk
    unfold f_X4_countAllValid_4 f_X4_countAllValid_35
    simp only [bk_takes h, Option.bind_some, l1, l2, if_neg c1, l3 k hk, bk_is h, hcc, his, hb, xi_if, e3]
    cases c : (yVd C T) k
    · rw [c] at i2
      simp only [Bool.false_eq_true, if_false, Int.add_zero] at i2 ⊢
      exact i2
    · rw [c] at i2
      simp only [if_true] at i2 ⊢
      exact i2
theorem x4_countAllValid {z e nh nc nt : Nat} {ha ca ta : Nat → Nat} {B : Nat → Int} {H C T : Nat → Nat → Int} {w : xWd} (h : xBk z e nh nc nt ha ca ta B H C T w) (v : xVB nh nc nt B H C T) : f_X4_countAllValid (some z) w = some (iI (yCt (yVd C T) nt), w) := by
  have hn := yv_n v
  exact x4_countAllValid_l h v nt 0 4096 (by omega) (by omega)
