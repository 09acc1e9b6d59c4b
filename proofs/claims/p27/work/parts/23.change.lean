/-- a cue after a cut -/
def yCut (f n : Int) (s : Nat → Int) : Nat → Int := va_up (if yTouch s f n then va_up s 6 (s 6 + 1) else s) 1 (yMv (s 1) f n)
/-- a hit after a cut -/
def yHc (f n : Int) (s : Nat → Int) : Nat → Int := if s 2 = 0 then if yOut (s 0) f n then va_up s 2 1 else va_up s 0 (yMv (s 0) f n) else s
/-- the first k changed -/
def yUpTo (g : (Nat → Int) → Nat → Int) (C : Nat → Nat → Int) (k : Nat) : Nat → Nat → Int := fun i => if i < k then g (C i) else C i
theorem yUpTo_s (g : (Nat → Int) → Nat → Int) (C : Nat → Nat → Int) (k : Nat) : va_up (yUpTo g C k) k (g (C k)) = yUpTo g C (k + 1) := by
  funext i
  unfold yUpTo
  by_cases c : i = k
  · subst c; rw [xk_up_s, if_pos (by omega)]
  · rw [xk_up_n _ _ c]
    by_cases d : i < k
    · rw [if_pos d, if_pos (by omega)]
    · rw [if_neg d, if_neg (by omega)]
theorem yUpTo_0 (g : (Nat → Int) → Nat → Int) (C : Nat → Nat → Int) : yUpTo g C 0 = C := by
  funext i
  exact if_neg (by omega)
theorem yUpTo_k (g : (Nat → Int) → Nat → Int) (C : Nat → Nat → Int) (k : Nat) : yUpTo g C k k = C k := if_neg (by omega)
theorem x4_cutCues_l {z e nh nc nt : Nat} {ha ca ta : Nat → Nat} {B : Nat → Int} {H C T : Nat → Nat → Int} (hnc : nc ≤ 8) (hB : ∀ k, k < nc → xCB (C k)) {f n : Int} (hm : yMay (B 5) f n) (hl : B 5 ≤ 50000) : ∀ (r k fu : Nat) (w : xWd), xBk z e nh nc nt ha ca ta B H (yUpTo (yCut f n) C k) T w → k + r = nc → r < fu →
    ∃ w', f_X4_cutCues_5 fu (some z) (iI f) (iI n) (iI (yCt (fun i => yTouch (C i) f n) k)) (iI k) w = some (iI (yCt (fun i => yTouch (C i) f n) nc), w') ∧ xBk z e nh nc nt ha ca ta B H (yUpTo (yCut f n) C nc) T w' ∧ xFr z e w w' := by
  obtain ⟨m1, m2, m3, m4, m5, m6⟩ := id hm
  intro r
  induction r with
  | zero =>
    intro k fu w h h1 h4
    obtain ⟨fu, rfl⟩ : ∃ f, fu = f + 1 := ⟨fu - 1, by omega⟩
    obtain ⟨l1, l2, l3⟩ := bk_lc h
    have c1 : iI (nc : Int) ≤ iI k := by rw [iI_le (by omega) (by omega)]; omega
    have e : nc = k := by omega
    refine ⟨w, ?_, by rw [← e] at h; exact h, xFr_r _ _ _⟩
    unfold f_X4_cutCues_5
    simp only [bk_cues h, Option.bind_some, l1, l2, if_pos c1]
    rw [e]
  | succ r ih =>
    intro k fu w h h1 h4
    obtain ⟨fu, rfl⟩ : ∃ f, fu = f + 1 := ⟨fu - 1, by omega⟩
    have hk : k < nc := by omega
    obtain ⟨l1, l2, l3⟩ := bk_lc h
    have hC := bk_c h hk
    rw [yUpTo_k] at hC
    have hb := hB k hk
    have b1 : 0 ≤ C k 1 ∧ C k 1 ≤ 50000 := ⟨hb.1, hb.2.1⟩
    have c1 : ¬ iI (nc : Int) ≤ iI k := by rw [iI_le (by omega) (by omega)]; omega
    have e3 : ∀ x : Int, iI x + (1 : Int32) = iI (x + 1) := fun x => by rw [iL_1, iI_add]
    obtain ⟨k1, f1⟩ := bk_cue h hk (yCut f n (C k))
    rw [yUpTo_s] at k1
    obtain ⟨w', i1, i2, i3⟩ := ih (k + 1) fu _ k1 (by omega) (by omega)
    rw [yCt_e] at i1
    refine ⟨w', ?_, i2, xFr_t f1 i3⟩
    unfold f_X4_cutCues_5 f_X4_cutCues_55
    simp only [bk_cues h, Option.bind_some, l1, l2, if_neg c1, l3 k hk, xr_cc hC.1, xr_is hC.1, x0_isTouched hC hb (f := f) (n := n) (by omega) (by omega), xi_if, e3]
    have g1 : xk_gI w (some (ca k)) 1 1 = some (iI (C k 1)) := xr_gI (k := 1) hC.1 rfl
    have g6 : xk_gI w (some (ca k)) 1 6 = some (iI (C k 6)) := xr_gI (k := 6) hC.1 rfl
    have mv : ∀ w, f_X4_movedFrame (iI (C k 1)) (iI f) (iI n) w = some (iI (yMv (C k 1) f n), w) := fun w => x4_moved w (by omega) (by omega) (by omega)
    cases c2 : yTouch (C k) f n
    · rw [c2] at i1
      have eC : yCut f n (C k) = va_up (C k) 1 (yMv (C k 1) f n) := by unfold yCut; rw [c2]; rfl
      have p1 := xCW_pV (w := w) (a := ca k) (k := 1) (s := C k) (v := yMv (C k 1) f n) (by omega)
      rw [xCW_id hC, ← eC] at p1
      simp only [Bool.false_eq_true, if_false, Int.add_zero, g1, Option.bind_some, mv, p1] at i1 ⊢
      exact i1
    · rw [c2] at i1
      have eC : yCut f n (C k) = va_up (va_up (C k) 6 (C k 6 + 1)) 1 (yMv (C k 1) f n) := by unfold yCut; rw [c2]; rfl
      have p6 := xCW_pV (w := w) (a := ca k) (k := 6) (s := C k) (v := C k 6 + 1) (by omega)
      rw [xCW_id hC] at p6
      have g1' : xk_gI (xCW w (ca k) (va_up (C k) 6 (C k 6 + 1))) (some (ca k)) 1 1 = some (iI (C k 1)) := by
        refine (xr_gI (k := 1) (xCW_C w (ca k) _).1 rfl).trans ?_
        rw [xk_up_n _ _ (by omega)]
      have p1 := xCW_pV (w := w) (a := ca k) (k := 1) (s := va_up (C k) 6 (C k 6 + 1)) (v := yMv (C k 1) f n) (by omega)
      rw [← eC] at p1
      simp only [if_true, g6, Option.bind_some, e3, p6, g1', mv, p1] at i1 ⊢
      exact i1
theorem x1_cut {w : xWd} {q : Nat} {s : Nat → Int} (hq : xHt w q s) (hs : 0 ≤ s 0 ∧ s 0 ≤ 50000) (hg : s 2 = 0 ∨ s 2 = 1) {f n : Int} (h2 : 0 ≤ f ∧ f ≤ 60000) (h3 : -1000 ≤ n ∧ n ≤ 1000) :
    f_X1_cut (some q) (iI f) (iI n) w = some (va_up w.1 q (some (.inr (2, [.int (iI (yHc f n s 0)), .int (iI (yHc f n s 1)), .int (iI (yHc f n s 2))]))), w.2) := by
  have g0 : xk_gI w (some q) 2 0 = some (iI (s 0)) := xr_gI (k := 0) hq rfl
  have g2 : xk_gI w (some q) 2 2 = some (iI (s 2)) := xr_gI (k := 2) hq rfl
  have io := x4_isOut (f := s 0) (a := f) (n := n) w (by omega) h2 h3
  have mv := x4_moved (f := s 0) (a := f) (n := n) w (by omega) h2 h3
  unfold xHt at hq
  unfold f_X1_cut f_X1_cut_41 yHc
  by_cases c : s 2 = 0
  · have c' : iI (s 2) = (0 : Int32) := by rw [c, iL_0]
    simp only [g2, Option.bind_some, if_pos c', if_pos c, g0, io, xi_if]
    cases c2 : yOut (s 0) f n
    · have p := xr_pV (k := 0) (v := .int (iI (yMv (s 0) f n))) hq (by simp)
      simp only [Bool.false_eq_true, if_false, mv, Option.bind_some, p]
      rfl
    · have p := xr_pV (k := 2) (v := .int (iI 1)) hq (by simp)
      have z1 : iI 1 = (1 : Int32) := by decide
      rw [z1] at p
      simp only [if_true, p, Option.bind_some]
      rfl
  · have c' : ¬ iI (s 2) = (0 : Int32) := by rw [iL_0, iI_eq (by omega) (by omega)]; exact c
    simp only [g2, Option.bind_some, if_neg c', if_neg c]
    rw [xk_up_id _ _ _ hq]
/-- the reveals, the first k moved -/
def yRv (f n : Int) (B : Nat → Int) (k : Nat) : Nat → Int := fun j => if 20 ≤ j ∧ j < 20 + k then yMv (B j) f n else B j
theorem yRv_s (f n : Int) (B : Nat → Int) (k : Nat) : va_up (yRv f n B k) (20 + k) (yMv (B (20 + k)) f n) = yRv f n B (k + 1) := by
  funext i
  unfold yRv
  by_cases c : i = 20 + k
  · subst c; rw [xk_up_s, if_pos (by omega)]
  · rw [xk_up_n _ _ c]
    by_cases d : 20 ≤ i ∧ i < 20 + k
    · rw [if_pos d, if_pos (by omega)]
    · rw [if_neg d, if_neg (by omega)]
/-- the book's numbers after a cut -/
def yBc (f n : Int) (B : Nat → Int) : Nat → Int := va_up (va_up (yRv f n B (B 2).toNat) 5 (B 5 + n)) 6 (B 6 + 1)
theorem x4_change3 {z e nh nc nt : Nat} {ha ca ta : Nat → Nat} {B : Nat → Int} {H C T : Nat → Nat → Int} {f n : Int} (hm : yMay (B 5) f n) (hl : B 5 ≤ 50000) (h2 : 0 ≤ B 2 ∧ B 2 ≤ 4) (hv : ∀ k, k < 4 → 0 ≤ B (20 + k) ∧ B (20 + k) ≤ 50000) (x : Int32) : ∀ (r k fu : Nat) (w : xWd), xBk z e nh nc nt ha ca ta (yRv f n B k) H C T w → (k : Int) + r = B 2 → r < fu →
    ∃ w', f_X4_change_73 fu (some z) (iI f) (iI n) x (iI k) w = some (x, w') ∧ xBk z e nh nc nt ha ca ta (yBc f n B) H C T w' ∧ xFr z e w w' := by
  obtain ⟨m1, m2, m3, m4, m5, m6⟩ := id hm
  have lo : ∀ k j, j < 20 → yRv f n B k j = B j := fun k j hj => if_neg (by omega)
  intro r
  induction r with
  | zero =>
    intro k fu w h h1 h4
    obtain ⟨fu, rfl⟩ : ∃ f, fu = f + 1 := ⟨fu - 1, by omega⟩
    have c1 : iI (B 2) ≤ iI k := by rw [iI_le (by omega) (by omega)]; omega
    obtain ⟨w1, g1, k1, f1⟩ := bk_pV h (k := 5) (v := B 5 + n) (by omega)
    obtain ⟨w2, g2, k2, f2⟩ := bk_pV k1 (k := 6) (v := B 6 + 1) (by omega)
    have i2 := bk_I2 h
    rw [lo k 2 (by omega)] at i2
    have i5 := bk_I5 h
    rw [lo k 5 (by omega)] at i5
    have i6 := bk_I6 k1
    rw [xk_up_n _ _ (by omega), lo k 6 (by omega)] at i6
    have e3 : ∀ x : Int, iI x + (1 : Int32) = iI (x + 1) := fun x => by rw [iL_1, iI_add]
    refine ⟨w2, ?_, ?_, xFr_t f1 f2⟩
    · unfold f_X4_change_73
      simp only [i2, Option.bind_some, if_pos c1, i5, iI_add, g1, i6, e3, g2]
    · unfold yBc
      rw [show (B 2).toNat = k by omega]
      exact k2
  | succ r ih =>
    intro k fu w h h1 h4
    obtain ⟨fu, rfl⟩ : ∃ f, fu = f + 1 := ⟨fu - 1, by omega⟩
    have hk : k < 4 := by omega
    have hb := hv k hk
    have c1 : ¬ iI (B 2) ≤ iI k := by rw [iI_le (by omega) (by omega)]; omega
    have e3 : ∀ x : Int, iI x + (1 : Int32) = iI (x + 1) := fun x => by rw [iL_1, iI_add]
    have eK : yRv f n B k (20 + k) = B (20 + k) := if_neg (by omega)
    obtain ⟨w1, g1, k1, f1⟩ := bk_sR h (i := k) (v := yMv (B (20 + k)) f n) hk
    rw [yRv_s] at k1
    obtain ⟨w', i1, i2, i3⟩ := ih (k + 1) fu _ k1 (by omega) (by omega)
    have j2 := bk_I2 h
    rw [lo k 2 (by omega)] at j2
    have el := xr_lI h.2.1 (i := (k : Int)) (by omega) (by omega) (by omega)
    rw [Int.toNat_natCast, eK] at el
    have mv := x4_moved (f := B (20 + k)) (a := f) (n := n) w (by omega) (by omega) (by omega)
    refine ⟨w', ?_, i2, xFr_t f1 i3⟩
    unfold f_X4_change_73
    simp only [j2, Option.bind_some, if_neg c1, bk_reveals h, el, mv, g1, e3]
    exact i1
theorem x4_change2 {z e nh nc nt : Nat} {ha ca ta : Nat → Nat} {B : Nat → Int} {H C T : Nat → Nat → Int} (hnh : nh ≤ 12) {f n : Int} (hm : yMay (B 5) f n) (hl : B 5 ≤ 50000) (h2 : 0 ≤ B 2 ∧ B 2 ≤ 4) (hv : ∀ k, k < 4 → 0 ≤ B (20 + k) ∧ B (20 + k) ≤ 50000) (hH : ∀ k, k < nh → 0 ≤ H k 0 ∧ H k 0 ≤ 50000 ∧ (H k 2 = 0 ∨ H k 2 = 1)) (x : Int32) : ∀ (r k fu : Nat) (w : xWd), xBk z e nh nc nt ha ca ta B (yUpTo (yHc f n) H k) C T w → k + r = nh → r < fu →
    ∃ w', f_X4_change_35 fu (some z) (iI f) (iI n) x (iI k) w = some (x, w') ∧ xBk z e nh nc nt ha ca ta (yBc f n B) (yUpTo (yHc f n) H nh) C T w' ∧ xFr z e w w' := by
  obtain ⟨m1, m2, m3, m4, m5, m6⟩ := id hm
  intro r
  induction r with
  | zero =>
    intro k fu w h h1 h4
    obtain ⟨fu, rfl⟩ : ∃ f, fu = f + 1 := ⟨fu - 1, by omega⟩
    obtain ⟨l1, l2, l3⟩ := bk_lh h
    have c1 : iI (nh : Int) ≤ iI k := by rw [iI_le (by omega) (by omega)]; omega
    have e' : nh = k := by omega
    have h0 : xBk z e nh nc nt ha ca ta (yRv f n B 0) (yUpTo (yHc f n) H nh) C T w := by
      have : yRv f n B 0 = B := by funext j; exact if_neg (by omega)
      rw [this, e']
      rw [e'] at h
      exact h
    obtain ⟨w', i1, i2, i3⟩ := x4_change3 hm hl h2 hv x (B 2).toNat 0 4096 w h0 (by omega) (by omega)
    refine ⟨w', ?_, i2, i3⟩
    unfold f_X4_change_35
    simp only [bk_hits h, Option.bind_some, l1, l2, if_pos c1]
    exact i1
  | succ r ih =>
    intro k fu w h h1 h4
    obtain ⟨fu, rfl⟩ : ∃ f, fu = f + 1 := ⟨fu - 1, by omega⟩
    have hk : k < nh := by omega
    obtain ⟨l1, l2, l3⟩ := bk_lh h
    have hq := bk_h h hk
    rw [yUpTo_k] at hq
    obtain ⟨b1, b2, b3⟩ := hH k hk
    have c1 : ¬ iI (nh : Int) ≤ iI k := by rw [iI_le (by omega) (by omega)]; omega
    have e3 : ∀ x : Int, iI x + (1 : Int32) = iI (x + 1) := fun x => by rw [iL_1, iI_add]
    obtain ⟨k1, f1⟩ := bk_hit h hk (yHc f n (H k))
    rw [yUpTo_s] at k1
    obtain ⟨w', i1, i2, i3⟩ := ih (k + 1) fu _ k1 (by omega) (by omega)
    have ct := x1_cut hq ⟨b1, b2⟩ b3 (f := f) (n := n) (by omega) (by omega)
    have hcc : xk_cc w (some (ha k)) 2 = some () := xr_cc hq
    have his : xk_is w (some (ha k)) 2 = some () := xr_is hq
    refine ⟨w', ?_, i2, xFr_t f1 i3⟩
    unfold f_X4_change_35
    simp only [bk_hits h, Option.bind_some, l1, l2, if_neg c1, l3 k hk, hcc, his, ct, e3]
    exact i1
theorem x4_change {z e nh nc nt : Nat} {ha ca ta : Nat → Nat} {B : Nat → Int} {H C T : Nat → Nat → Int} {w : xWd} (h : xBk z e nh nc nt ha ca ta B H C T w) (v : xVB nh nc nt B H C T) {f n : Int} (hm : yMay (B 5) f n) (h6 : B 6 < 20) : ∃ w', f_X4_change (some z) (iI f) (iI n) w = some (iI (yCt (fun i => yTouch (C i) f n) nc), w') ∧ xBk z e nh nc nt ha ca ta (yBc f n B) (yUpTo (yHc f n) H nh) (yUpTo (yCut f n) C nc) T w' ∧ xFr z e w w' := by
  have hn := yv_n v
  have b6 : 0 ≤ B 6 := v.2.2.2.2.2.1
  have b2 : 0 ≤ B 2 ∧ B 2 ≤ 4 := ⟨v.2.2.2.2.2.2.2.1, v.2.2.2.2.2.2.2.2.1⟩
  have hv := v.2.2.2.2.2.2.2.2.2.2.2.2.2.2.2.2.2.2
  obtain ⟨w1, i1, i2, i3⟩ := x4_cutCues_l (C := C) (B := B) (by omega) (fun k hk => (yv_c v hk).1) hm (by omega) nc 0 4096 w (by rw [yUpTo_0]; exact h) (by omega) (by omega)
  obtain ⟨w2, j1, j2, j3⟩ := x4_change2 (B := B) (H := H) (by omega) hm (by omega) b2 hv (fun k hk => ⟨(yv_h v hk).1, (yv_h v hk).2.1, (yv_h v hk).2.2.2.2⟩) (iI (yCt (fun i => yTouch (C i) f n) nc)) nh 0 4096 w1 (by rw [yUpTo_0]; exact i2) (by omega) (by omega)
  have c6 : iI (B 6) < (20 : Int32) := by rw [iL_20, iI_lt (by omega) (by omega)]; exact h6
  have z0 : iI ((0 : Nat) : Int) = (0 : Int32) := by decide
  have y0 : iI (yCt (fun i => yTouch (C i) f n) 0) = (0 : Int32) := by show iI 0 = (0 : Int32); decide
  rw [y0, z0] at i1
  rw [z0] at j1
  have key : f_X4_cutCues (some z) (iI f) (iI n) w = some (iI (yCt (fun i => yTouch (C i) f n) nc), w1) := by
    unfold f_X4_cutCues
    exact i1
  refine ⟨w2, ?_, j2, xFr_t i3 j3⟩
  unfold f_X4_change
  rw [bk_is h, Option.bind_some, x4_badCut h v hm, Option.bind_some, bk_I6 h, Option.bind_some, if_pos c6, bk_is h, Option.bind_some, key, Option.bind_some]
  exact j1
