/-- a hit -/
def xHt (w : xWd) (h : Nat) (s : Nat → Int) : Prop := w.1 h = some (.inr (2, [.int (iI (s 0)), .int (iI (s 1)), .int (iI (s 2))]))
/-- the book's own cell -/
def xBc (z : Nat) (B : Nat → Int) : xE := .inr (0, [.ref (z + 1), .ref (z + 2), .int (iI (B 2)), .ref (z + 3), .ref (z + 4), .int (iI (B 5)), .int (iI (B 6)), .int (iI (B 7)), .int (iI (B 8)), .int (iI (B 9)), .ref (z + 5), .ref (z + 8), .ref (z + 9)])
/-- a take's cell -/
def xTc (ca : Nat → Nat) (s : Nat → Int) : xE := .inr (4, [.int (iI (s 0)), .ref (ca (s 1).toNat), .int (iI (s 2)), .int (iI (s 3)), .int (iI (s 4))])
/-- takes, and the room of joins -/
def xTJ (z e nt : Nat) (ta : Nat → Nat) (w : xWd) : Prop := ∃ tr pr np : Nat, ∃ pa : Nat → Nat, ∃ b : Int32, ∃ W : Nat → Int32, xl_R w (z + 4) tr nt ta ∧ (tr = w.2.2.1 ∨ e ≤ tr) ∧ w.1 (z + 5) = some (.inr (3, [.ref (z + 6), .int b, .ref (z + 7)])) ∧ xl_R w (z + 6) pr np pa ∧ (pr = w.2.2.1 ∨ e ≤ pr) ∧ (tr = w.2.2.1 ∨ tr ≠ pr) ∧ w.1 (z + 7) = some (.inl (0, 360, .inl W))
/-- the book in the world -/
def xBk (z e nh nc nt : Nat) (ha ca ta : Nat → Nat) (B : Nat → Int) (H C T : Nat → Nat → Int) (w : xWd) : Prop :=
  w.1 z = some (xBc z B) ∧ w.1 (z + 2) = some (.inl (0, 4, .inl (fun i => iI (B (20 + i))))) ∧
  (∃ ad, xl_R w (z + 1) ad nh ha ∧ (ad = w.2.2.1 ∨ (z + 9 < ad ∧ ad < e))) ∧ (∃ ad, xl_R w (z + 3) ad nc ca ∧ (ad = w.2.2.1 ∨ (z + 9 < ad ∧ ad < e))) ∧ xTJ z e nt ta w ∧
  (∃ O : Nat → Int, w.1 (z + 8) = some (.inl (0, 63, .inl (fun i => iI (O i)))) ∧ ∀ i, i < 63 → 0 ≤ O i ∧ O i ≤ 3000) ∧ (∃ M : Nat → Int32, w.1 (z + 9) = some (.inl (1, 12, .inl M))) ∧
  (∀ k, k < nh → z + 9 < ha k ∧ ha k < e ∧ xHt w (ha k) (H k) ∧ ∀ j, j < k → ha j < ha k) ∧
  (∀ k, k < nc → z + 9 < ca k ∧ ca k + 3 < e ∧ xC w (ca k) (C k) ∧ ∀ j, j < k → ca j + 3 < ca k) ∧
  (∀ k, k < nt → e ≤ ta k ∧ ta k < w.2.1 ∧ w.1 (ta k) = some (xTc ca (T k))) ∧
  w.2.2.1 < z ∧ z + 10 ≤ e ∧ e ≤ w.2.1
/-- what its numbers keep to -/
def xVB (nh nc nt : Nat) (B : Nat → Int) (H C T : Nat → Nat → Int) : Prop :=
  nh ≤ 12 ∧ nc ≤ 8 ∧ nt ≤ 40 ∧ 24 ≤ B 5 ∧ B 5 ≤ 30000 ∧ 0 ≤ B 6 ∧ B 6 ≤ 20 ∧ 0 ≤ B 2 ∧ B 2 ≤ 4 ∧ 0 ≤ B 7 ∧ B 7 ≤ 60 ∧ 0 ≤ B 8 ∧ B 8 ≤ 120 ∧ 0 ≤ B 9 ∧ B 9 ≤ 1000000 ∧
  (∀ k, k < nh → 0 ≤ H k 0 ∧ H k 0 ≤ 50000 ∧ 0 ≤ H k 1 ∧ H k 1 ≤ 9 ∧ (H k 2 = 0 ∨ H k 2 = 1)) ∧
  (∀ k, k < nc → xCB (C k) ∧ C k 0 = k ∧ -1 ≤ C k 2 ∧ C k 2 < B 2 ∧ 1 ≤ C k 3 ∧ C k 3 ≤ 40 ∧ 0 ≤ C k 4 ∧ C k 4 ≤ 3 ∧ 0 ≤ C k 5 ∧ C k 5 ≤ 2) ∧
  (∀ k, k < nt → T k 0 = k ∧ 0 ≤ T k 1 ∧ T k 1 < nc ∧ 0 ≤ T k 2 ∧ T k 2 ≤ 5000 ∧ 0 ≤ T k 3 ∧ T k 3 ≤ 999999999 ∧ -2 ≤ T k 4 ∧ T k 4 ≤ 2) ∧
  (∀ k, k < 4 → 0 ≤ B (20 + k) ∧ B (20 + k) ≤ 50000)
theorem bk_is {z e nh nc nt : Nat} {ha ca ta : Nat → Nat} {B : Nat → Int} {H C T : Nat → Nat → Int} {w : xWd} (h : xBk z e nh nc nt ha ca ta B H C T w) : xk_is w (some z) 0 = some () := xr_is h.1
theorem bk_hits {z e nh nc nt : Nat} {ha ca ta : Nat → Nat} {B : Nat → Int} {H C T : Nat → Nat → Int} {w : xWd} (h : xBk z e nh nc nt ha ca ta B H C T w) : xk_gR w (some z) 0 0 = some (some (z + 1)) := xr_gR (k := 0) h.1 rfl
theorem bk_reveals {z e nh nc nt : Nat} {ha ca ta : Nat → Nat} {B : Nat → Int} {H C T : Nat → Nat → Int} {w : xWd} (h : xBk z e nh nc nt ha ca ta B H C T w) : xk_gR w (some z) 0 1 = some (some (z + 2)) := xr_gR (k := 1) h.1 rfl
theorem bk_cues {z e nh nc nt : Nat} {ha ca ta : Nat → Nat} {B : Nat → Int} {H C T : Nat → Nat → Int} {w : xWd} (h : xBk z e nh nc nt ha ca ta B H C T w) : xk_gR w (some z) 0 3 = some (some (z + 3)) := xr_gR (k := 3) h.1 rfl
theorem bk_takes {z e nh nc nt : Nat} {ha ca ta : Nat → Nat} {B : Nat → Int} {H C T : Nat → Nat → Int} {w : xWd} (h : xBk z e nh nc nt ha ca ta B H C T w) : xk_gR w (some z) 0 4 = some (some (z + 4)) := xr_gR (k := 4) h.1 rfl
theorem bk_joins {z e nh nc nt : Nat} {ha ca ta : Nat → Nat} {B : Nat → Int} {H C T : Nat → Nat → Int} {w : xWd} (h : xBk z e nh nc nt ha ca ta B H C T w) : xk_gR w (some z) 0 10 = some (some (z + 5)) := xr_gR (k := 10) h.1 rfl
theorem bk_trial {z e nh nc nt : Nat} {ha ca ta : Nat → Nat} {B : Nat → Int} {H C T : Nat → Nat → Int} {w : xWd} (h : xBk z e nh nc nt ha ca ta B H C T w) : xk_gR w (some z) 0 11 = some (some (z + 8)) := xr_gR (k := 11) h.1 rfl
theorem bk_others {z e nh nc nt : Nat} {ha ca ta : Nat → Nat} {B : Nat → Int} {H C T : Nat → Nat → Int} {w : xWd} (h : xBk z e nh nc nt ha ca ta B H C T w) : xk_gR w (some z) 0 12 = some (some (z + 9)) := xr_gR (k := 12) h.1 rfl
theorem bk_I2 {z e nh nc nt : Nat} {ha ca ta : Nat → Nat} {B : Nat → Int} {H C T : Nat → Nat → Int} {w : xWd} (h : xBk z e nh nc nt ha ca ta B H C T w) : xk_gI w (some z) 0 2 = some (iI (B 2)) := xr_gI (k := 2) h.1 rfl
theorem bk_I5 {z e nh nc nt : Nat} {ha ca ta : Nat → Nat} {B : Nat → Int} {H C T : Nat → Nat → Int} {w : xWd} (h : xBk z e nh nc nt ha ca ta B H C T w) : xk_gI w (some z) 0 5 = some (iI (B 5)) := xr_gI (k := 5) h.1 rfl
theorem bk_I6 {z e nh nc nt : Nat} {ha ca ta : Nat → Nat} {B : Nat → Int} {H C T : Nat → Nat → Int} {w : xWd} (h : xBk z e nh nc nt ha ca ta B H C T w) : xk_gI w (some z) 0 6 = some (iI (B 6)) := xr_gI (k := 6) h.1 rfl
theorem bk_I7 {z e nh nc nt : Nat} {ha ca ta : Nat → Nat} {B : Nat → Int} {H C T : Nat → Nat → Int} {w : xWd} (h : xBk z e nh nc nt ha ca ta B H C T w) : xk_gI w (some z) 0 7 = some (iI (B 7)) := xr_gI (k := 7) h.1 rfl
theorem bk_I8 {z e nh nc nt : Nat} {ha ca ta : Nat → Nat} {B : Nat → Int} {H C T : Nat → Nat → Int} {w : xWd} (h : xBk z e nh nc nt ha ca ta B H C T w) : xk_gI w (some z) 0 8 = some (iI (B 8)) := xr_gI (k := 8) h.1 rfl
theorem bk_I9 {z e nh nc nt : Nat} {ha ca ta : Nat → Nat} {B : Nat → Int} {H C T : Nat → Nat → Int} {w : xWd} (h : xBk z e nh nc nt ha ca ta B H C T w) : xk_gI w (some z) 0 9 = some (iI (B 9)) := xr_gI (k := 9) h.1 rfl
theorem bk_lh {z e nh nc nt : Nat} {ha ca ta : Nat → Nat} {B : Nat → Int} {H C T : Nat → Nat → Int} {w : xWd} (h : xBk z e nh nc nt ha ca ta B H C T w) : xk_is w (some (z + 1)) 5 = some () ∧ f_Jx4a65c_size_8abf5 (some (z + 1)) w = some (iI nh, w) ∧ ∀ k : Nat, k < nh → f_Jx4a65c_get_915e3 (some (z + 1)) (iI k) w = some (some (ha k), w) := by
  obtain ⟨ad, hl, -⟩ := h.2.2.1
  exact ⟨xl_is hl, xl_size hl, fun k hk => by have := xl_get hl (i := (k : Int)) (by omega) (by omega); rw [Int.toNat_natCast] at this; exact this⟩
theorem bk_lc {z e nh nc nt : Nat} {ha ca ta : Nat → Nat} {B : Nat → Int} {H C T : Nat → Nat → Int} {w : xWd} (h : xBk z e nh nc nt ha ca ta B H C T w) : xk_is w (some (z + 3)) 5 = some () ∧ f_Jx4a65c_size_8abf5 (some (z + 3)) w = some (iI nc, w) ∧ ∀ k : Nat, k < nc → f_Jx4a65c_get_915e3 (some (z + 3)) (iI k) w = some (some (ca k), w) := by
  obtain ⟨ad, hl, -⟩ := h.2.2.2.1
  exact ⟨xl_is hl, xl_size hl, fun k hk => by have := xl_get hl (i := (k : Int)) (by omega) (by omega); rw [Int.toNat_natCast] at this; exact this⟩
theorem bk_lt {z e nh nc nt : Nat} {ha ca ta : Nat → Nat} {B : Nat → Int} {H C T : Nat → Nat → Int} {w : xWd} (h : xBk z e nh nc nt ha ca ta B H C T w) : xk_is w (some (z + 4)) 5 = some () ∧ f_Jx4a65c_size_8abf5 (some (z + 4)) w = some (iI nt, w) ∧ ∀ k : Nat, k < nt → f_Jx4a65c_get_915e3 (some (z + 4)) (iI k) w = some (some (ta k), w) := by
  obtain ⟨tr, pr, np, pa, b, W, hl, -⟩ := h.2.2.2.2.1
  exact ⟨xl_is hl, xl_size hl, fun k hk => by have := xl_get hl (i := (k : Int)) (by omega) (by omega); rw [Int.toNat_natCast] at this; exact this⟩
theorem bk_h {z e nh nc nt : Nat} {ha ca ta : Nat → Nat} {B : Nat → Int} {H C T : Nat → Nat → Int} {w : xWd} (h : xBk z e nh nc nt ha ca ta B H C T w) {k : Nat} (hk : k < nh) : xHt w (ha k) (H k) := (h.2.2.2.2.2.2.2.1 k hk).2.2.1
theorem bk_c {z e nh nc nt : Nat} {ha ca ta : Nat → Nat} {B : Nat → Int} {H C T : Nat → Nat → Int} {w : xWd} (h : xBk z e nh nc nt ha ca ta B H C T w) {k : Nat} (hk : k < nc) : xC w (ca k) (C k) := (h.2.2.2.2.2.2.2.2.1 k hk).2.2.1
theorem bk_t {z e nh nc nt : Nat} {ha ca ta : Nat → Nat} {B : Nat → Int} {H C T : Nat → Nat → Int} {w : xWd} (h : xBk z e nh nc nt ha ca ta B H C T w) {k : Nat} (hk : k < nt) : w.1 (ta k) = some (xTc ca (T k)) := (h.2.2.2.2.2.2.2.2.2.1 k hk).2.2
theorem yv_h {nh nc nt : Nat} {B : Nat → Int} {H C T : Nat → Nat → Int} (v : xVB nh nc nt B H C T) {k : Nat} (hk : k < nh) : 0 ≤ H k 0 ∧ H k 0 ≤ 50000 ∧ 0 ≤ H k 1 ∧ H k 1 ≤ 9 ∧ (H k 2 = 0 ∨ H k 2 = 1) := v.2.2.2.2.2.2.2.2.2.2.2.2.2.2.2.1 k hk
theorem yv_c {nh nc nt : Nat} {B : Nat → Int} {H C T : Nat → Nat → Int} (v : xVB nh nc nt B H C T) {k : Nat} (hk : k < nc) : xCB (C k) ∧ C k 0 = k ∧ -1 ≤ C k 2 ∧ C k 2 < B 2 ∧ 1 ≤ C k 3 ∧ C k 3 ≤ 40 ∧ 0 ≤ C k 4 ∧ C k 4 ≤ 3 ∧ 0 ≤ C k 5 ∧ C k 5 ≤ 2 := v.2.2.2.2.2.2.2.2.2.2.2.2.2.2.2.2.1 k hk
theorem yv_t {nh nc nt : Nat} {B : Nat → Int} {H C T : Nat → Nat → Int} (v : xVB nh nc nt B H C T) {k : Nat} (hk : k < nt) : T k 0 = k ∧ 0 ≤ T k 1 ∧ T k 1 < nc ∧ 0 ≤ T k 2 ∧ T k 2 ≤ 5000 ∧ 0 ≤ T k 3 ∧ T k 3 ≤ 999999999 ∧ -2 ≤ T k 4 ∧ T k 4 ≤ 2 := v.2.2.2.2.2.2.2.2.2.2.2.2.2.2.2.2.2.1 k hk
theorem yv_n {nh nc nt : Nat} {B : Nat → Int} {H C T : Nat → Nat → Int} (v : xVB nh nc nt B H C T) : nh ≤ 12 ∧ nc ≤ 8 ∧ nt ≤ 40 ∧ 24 ≤ B 5 ∧ B 5 ≤ 30000 := ⟨v.1, v.2.1, v.2.2.1, v.2.2.2.1, v.2.2.2.2.1⟩
theorem xi_if {α : Type} {b : Bool} (x y : α) : (if iI (if b = true then 1 else 0) = (0 : Int32) then x else y) = if b = true then y else x := by
  cases b
  · exact if_pos rfl
  · exact if_neg (show ¬ iI 1 = 0 by decide)
/-- a cut -/
def yOut (f at' n : Int) : Bool := decide (n < 0 ∧ at' ≤ f ∧ f < at' - n)
def yMv (f at' n : Int) : Int := if f < at' then f else if yOut f at' n then at' else f + n
theorem x4_isOut {f a n : Int} (w : xWd) (h1 : 0 ≤ f ∧ f ≤ 60000) (h2 : 0 ≤ a ∧ a ≤ 60000) (h3 : -1000 ≤ n ∧ n ≤ 1000) : f_X4_isTakenOut (iI f) (iI a) (iI n) w = some (iI (if yOut f a n then 1 else 0), w) := by
  have z0 : xk_zb (iI 0) = some () := by decide
  have z1 : xk_zb (iI 1) = some () := by decide
  unfold f_X4_isTakenOut f_X4_isTakenOut_20 f_X4_isTakenOut_21 yOut
  rw [iI_sub, iL_0, iL_1, z0, z1, Option.bind_some, Option.bind_some]
  by_cases c1 : 0 ≤ n
  · rw [if_pos (by rw [iI_le (by omega) (by omega)]; exact c1), decide_eq_false (by omega)]; rfl
  · rw [if_neg (by rw [iI_le (by omega) (by omega)]; exact c1)]
    by_cases c2 : f < a
    · rw [if_pos (by rw [iI_lt (by omega) (by omega)]; exact c2), decide_eq_false (by omega)]; rfl
    · rw [if_neg (by rw [iI_lt (by omega) (by omega)]; exact c2)]
      by_cases c3 : a - n ≤ f
      · rw [if_pos (by rw [iI_le (by omega) (by omega)]; exact c3), decide_eq_false (by omega)]; rfl
      · rw [if_neg (by rw [iI_le (by omega) (by omega)]; exact c3), decide_eq_true (by omega)]; rfl
theorem x4_moved {f a n : Int} (w : xWd) (h1 : 0 ≤ f ∧ f ≤ 60000) (h2 : 0 ≤ a ∧ a ≤ 60000) (h3 : -1000 ≤ n ∧ n ≤ 1000) : f_X4_movedFrame (iI f) (iI a) (iI n) w = some (iI (yMv f a n), w) := by
  unfold f_X4_movedFrame f_X4_movedFrame_23 yMv
  by_cases c1 : f < a
  · rw [if_neg (by rw [iI_le (by omega) (by omega)]; omega), if_pos c1]
  · rw [if_pos (by rw [iI_le (by omega) (by omega)]; omega), if_neg c1, x4_isOut w h1 h2 h3, Option.bind_some]
    cases c2 : yOut f a n
    · rw [if_pos (by rfl), iI_add]; rfl
    · exact (xi_if (b := true) _ _).trans rfl
/-- the nearest cue and its miss, of the first n -/
def yQ (C : Nat → Nat → Int) (f : Int) : Nat → Int × Int
  | 0 => (-1, -1)
  | n + 1 => if yM (C n) f = -1 then yQ C f n else if (yQ C f n).2 = -1 then ((n : Int), yM (C n) f) else if (yQ C f n).2 ≤ yM (C n) f then yQ C f n else ((n : Int), yM (C n) f)
theorem yM_b {s : Nat → Int} {f : Int} (hB : xCB s) (hf : 0 ≤ f ∧ f ≤ 60000) : -1 ≤ yM s f ∧ yM s f ≤ 70000 := by
  unfold yM
  by_cases c : s 10 ≤ 0
  · rw [show (s 10).toNat = 0 by omega]
    exact ⟨Int.le_refl _, by show (-1 : Int) ≤ 70000; omega⟩
  · obtain ⟨j, j1, j2, j3⟩ := yN_s (s := s) (f := f) (s 10).toNat (by omega)
    obtain ⟨b1, b2, -, -, -, -, b3, b4, -, -, -, b5⟩ := hB
    have bj := b5 j (by omega)
    have := yF_b (s := s) (st := s 1) (f := f) (i := j) (by omega) (by omega) bj
    rw [j2]
    exact ⟨by omega, this.2⟩
theorem x4_nearestCue_l {z e nh nc nt : Nat} {ha ca ta : Nat → Nat} {B : Nat → Int} {H C T : Nat → Nat → Int} {w : xWd} (h : xBk z e nh nc nt ha ca ta B H C T w) (v : xVB nh nc nt B H C T) {q : Nat} {s : Nat → Int} (hq : xHt w q s) (hs : 0 ≤ s 0 ∧ s 0 ≤ 60000) (hg : s 2 = 0) : ∀ (r k fu : Nat), k + r = nc → r < fu → (-1 ≤ (yQ C (s 0) k).2 ∧ (yQ C (s 0) k).2 ≤ 70000) → f_X4_nearestCue_7 fu (some z) (some q) (iI (yQ C (s 0) k).1) (iI (yQ C (s 0) k).2) (iI k) w = some (iI (yQ C (s 0) nc).1, w) := by
  have hn := yv_n v
  obtain ⟨l1, l2, l3⟩ := bk_lc h
  intro r
  induction r with
  | zero =>
    intro k fu h1 h4 h5
    obtain ⟨fu, rfl⟩ : ∃ f, fu = f + 1 := ⟨fu - 1, by omega⟩
    have c1 : iI (nc : Int) ≤ iI k := by rw [iI_le (by omega) (by omega)]; omega
    unfold f_X4_nearestCue_7 f_X4_nearestCue_76
    rw [bk_cues h, Option.bind_some, l1, Option.bind_some, l2, Option.bind_some, if_pos c1, show nc = k by omega]
  | succ r ih =>
    intro k fu h1 h4 h5
    obtain ⟨fu, rfl⟩ : ∃ f, fu = f + 1 := ⟨fu - 1, by omega⟩
    have hk : k < nc := by omega
    have hC := bk_c h hk
    have hB := (yv_c v hk).1
    have c1 : ¬ iI (nc : Int) ≤ iI k := by rw [iI_le (by omega) (by omega)]; omega
    have g2 : xk_gI w (some q) 2 2 = some (iI (s 2)) := xr_gI (k := 2) hq rfl
    have g0 : xk_gI w (some q) 2 0 = some (iI (s 0)) := xr_gI (k := 0) hq rfl
    have c2 : iI (s 2) = (0 : Int32) := by rw [hg, iL_0]
    have e3 : iI (k : Int) + (1 : Int32) = iI ((k + 1 : Nat) : Int) := by rw [iL_1, iI_add]; rfl
    have bm := yM_b hB hs
    have i2 := ih (k + 1) fu (by omega) (by omega)
    have eN : yQ C (s 0) (k + 1) = if yM (C k) (s 0) = -1 then yQ C (s 0) k else if (yQ C (s 0) k).2 = -1 then ((k : Int), yM (C k) (s 0)) else if (yQ C (s 0) k).2 ≤ yM (C k) (s 0) then yQ C (s 0) k else ((k : Int), yM (C k) (s 0)) := rfl
    rw [eN] at i2
    unfold f_X4_nearestCue_7 f_X4_nearestCue_64 f_X4_nearestCue_70
    simp only [bk_cues h, Option.bind_some, l1, l2, if_neg c1, g2, if_pos c2, l3 k hk, xr_cc hC.1, g0, xr_is hC.1, x0_missOf hC hB hs, e3]
    by_cases d1 : yM (C k) (s 0) = -1
    · rw [if_pos d1] at i2
      rw [if_pos (show iI (yM (C k) (s 0)) = (-1 : Int32) by rw [d1, iL_m1])]
      exact i2 h5
    · rw [if_neg d1] at i2
      rw [if_neg (show ¬ iI (yM (C k) (s 0)) = (-1 : Int32) by rw [iL_m1, iI_eq (by omega) (by omega)]; exact d1)]
      by_cases d2 : (yQ C (s 0) k).2 = -1
      · rw [if_pos d2] at i2
        rw [if_pos (show iI (yQ C (s 0) k).2 = (-1 : Int32) by rw [d2, iL_m1])]
        exact i2 bm
      · rw [if_neg d2] at i2
        rw [if_neg (show ¬ iI (yQ C (s 0) k).2 = (-1 : Int32) by rw [iL_m1, iI_eq (by omega) (by omega)]; exact d2)]
        by_cases d3 : (yQ C (s 0) k).2 ≤ yM (C k) (s 0)
        · rw [if_pos d3] at i2
          rw [if_pos (show iI (yQ C (s 0) k).2 ≤ iI (yM (C k) (s 0)) by rw [iI_le (by omega) (by omega)]; exact d3)]
          exact i2 h5
        · rw [if_neg d3] at i2
          rw [if_neg (show ¬ iI (yQ C (s 0) k).2 ≤ iI (yM (C k) (s 0)) by rw [iI_le (by omega) (by omega)]; exact d3)]
          exact i2 bm
/-- the nearest cue of a hit -/
def yNc (nc : Nat) (C : Nat → Nat → Int) (s : Nat → Int) : Int := if s 2 = 0 then (yQ C (s 0) nc).1 else -1
theorem x4_nearestCue {z e nh nc nt : Nat} {ha ca ta : Nat → Nat} {B : Nat → Int} {H C T : Nat → Nat → Int} {w : xWd} (h : xBk z e nh nc nt ha ca ta B H C T w) (v : xVB nh nc nt B H C T) {q : Nat} {s : Nat → Int} (hq : xHt w q s) (hs : 0 ≤ s 0 ∧ s 0 ≤ 60000) (hg : s 2 = 0 ∨ s 2 = 1) : f_X4_nearestCue (some z) (some q) w = some (iI (yNc nc C s), w) := by
  have hn := yv_n v
  obtain ⟨l1, l2, l3⟩ := bk_lc h
  unfold f_X4_nearestCue yNc
  by_cases c : s 2 = 0
  · rw [if_pos c, iL_m1, iL_0]
    exact x4_nearestCue_l h v hq hs c nc 0 4096 (by omega) (by omega) ⟨Int.le_refl _, by show (-1 : Int) ≤ 70000; omega⟩
  · rw [if_neg c]
    have g2 : xk_gI w (some q) 2 2 = some (iI (s 2)) := xr_gI (k := 2) hq rfl
    have c2 : ¬ iI (s 2) = (0 : Int32) := by rw [iL_0, iI_eq (by omega) (by omega)]; exact c
    unfold f_X4_nearestCue_7 f_X4_nearestCue_76
    rw [bk_cues h, Option.bind_some, l1, Option.bind_some, l2, Option.bind_some]
    by_cases c1 : iI (nc : Int) ≤ 0
    · rw [if_pos c1, iL_m1]
    · rw [if_neg c1, g2, Option.bind_some, if_neg c2, iL_m1]
