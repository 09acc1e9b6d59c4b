/-! frames put in and taken out again: the walk -/
theorem lw_set {z e nh nc nt : Nat} {ha ca ta : Nat → Nat} {B : Nat → Int} {H C T : Nat → Nat → Int} {w : xWd} (h : xBk z e nh nc nt ha ca ta B H C T w) {a n : Nat} {f : Nat → Int32} (hr : w.1 a = some (.inl (0, n, .inl f))) (ha' : e ≤ a) {i : Nat} (hi : i < n) (hn : n ≤ 64) (x : Int32) : ∃ w', xk_sI 0 w (some a) (iI i) x = some w' ∧ xBk z e nh nc nt ha ca ta B H C T w' ∧ w'.1 a = some (.inl (0, n, .inl (upd f i x))) ∧ w'.2 = w.2 ∧ ∀ q, q ≠ a → w'.1 q = w.1 q := by
  refine ⟨_, xr_sI (i := (i : Int)) hr (by omega) (by omega) (by omega), ?_, ?_, rfl, fun q hq => xk_up_n _ _ hq⟩
  · exact bk_out h ha' (Or.inr ⟨_, hr⟩) (Nat.le_refl _) rfl (fun q _ hq => xk_up_n _ _ hq)
  · rw [Int.toNat_natCast]; exact xk_up_s _ _ _
theorem lw_new {z e nh nc nt : Nat} {ha ca ta : Nat → Nat} {B : Nat → Int} {H C T : Nat → Nat → Int} {w : xWd} (h : xBk z e nh nc nt ha ca ta B H C T w) {n : Nat} (hn : n ≤ 64) : ∃ w', xk_nA w 0 xk_d0 (iI n) 64 = some w' ∧ xBk z e nh nc nt ha ca ta B H C T w' ∧ w'.1 w.2.1 = some (.inl (0, n, .inl (fun _ => 0))) ∧ w'.2.1 = w.2.1 + 1 ∧ w'.2.2 = w.2.2 ∧ ∀ q, q < w.2.1 → w'.1 q = w.1 q := by
  have he := bk_e h
  have e1 : (iI (n : Int)).toNatClampNeg = n := by rw [iI_clamp (by omega)]; exact Int.toNat_natCast n
  have e2 : ¬ iI (n : Int) < (0 : Int32) := by rw [iL_0, iI_lt (by omega) (by omega)]; omega
  obtain ⟨w', hw⟩ : ∃ w' : xWd, w' = (va_up w.1 w.2.1 (some (.inl (0, n, .inl (fun _ => 0)))), w.2.1 + 1, w.2.2) := ⟨_, rfl⟩
  have st : ∀ q, q < w.2.1 → w'.1 q = w.1 q := fun q hq => by rw [hw]; exact xk_up_n _ _ (by omega)
  have n1 : w'.2.1 = w.2.1 + 1 := by rw [hw]
  have n2 : w'.2.2 = w.2.2 := by rw [hw]
  refine ⟨w', ?_, ?_, by rw [hw]; exact xk_up_s _ _ _, n1, n2, st⟩
  · unfold xk_nA
    rw [if_neg e2, e1, if_pos hn, hw]
  · exact bk_out h he.2.2 (Or.inl (Nat.le_refl _)) (by omega) n2 (fun q hq _ => st q hq)
theorem lw_b21 {z e nt : Nat} {ha ca ta : Nat → Nat} {B : Nat → Int} {H C T : Nat → Nat → Int} (v : xVB 8 4 nt B H C T) {a n : Int} (hat : 0 ≤ a ∧ a ≤ 2400) (hn : 1 ≤ n ∧ n ≤ 80) {s d g : Nat} (hsd : s ≠ d) (es : e ≤ s) (ed : e ≤ d) : ∀ (r k fu : Nat) (w : xWd) (f3 f4 : Nat → Int32), xBk z e 8 4 nt ha ca ta B H C T w → w.1 s = some (.inl (0, 4, .inl f3)) → w.1 d = some (.inl (0, 4, .inl f4)) → (∀ i, i < k → f3 i = iI (C i 1) ∧ f4 i = iI (C i 6)) → k + r = 4 → r < fu →
    ∃ (w' : xWd) (g3 g4 : Nat → Int32), f_L_isBack_21 fu (some z) (iI a) (iI n) (some s) (some d) (some g) (iI (yCt (fun i => yTouch (C i) a n) k)) (iI k) w = f_L_isBack_89 4096 (some z) (iI a) (iI n) (some s) (some d) (some g) (iI (yCt (fun i => yTouch (C i) a n) 4)) (0 : Int32) w' ∧ xBk z e 8 4 nt ha ca ta B H C T w' ∧ w'.1 s = some (.inl (0, 4, .inl g3)) ∧ w'.1 d = some (.inl (0, 4, .inl g4)) ∧ (∀ i, i < 4 → g3 i = iI (C i 1) ∧ g4 i = iI (C i 6)) ∧ w'.2 = w.2 ∧ ∀ q, q ≠ s → q ≠ d → w'.1 q = w.1 q := by
  intro r
  induction r with
  | zero =>
    intro k fu w f3 f4 h hs hd hf h1 h2
    obtain ⟨fu, rfl⟩ : ∃ f, fu = f + 1 := ⟨fu - 1, by omega⟩
    have c1 : (4 : Int32) ≤ iI k := by rw [iL_4, iI_le (by omega) (by omega)]; omega
    refine ⟨w, f3, f4, ?_, h, hs, hd, fun i hi => hf i (by omega), rfl, fun _ _ _ => rfl⟩
    unfold f_L_isBack_21
    rw [if_pos c1, show k = 4 by omega]
  | succ r ih =>
    intro k fu w f3 f4 h hs hd hf h1 h2
    obtain ⟨fu, rfl⟩ : ∃ f, fu = f + 1 := ⟨fu - 1, by omega⟩
    have hk : k < 4 := by omega
    obtain ⟨b1, b2, b3, b4, b5, b6, b7, b8, b9, b10, b11, b12⟩ := (yv_c v hk).1
    have c1 : ¬ (4 : Int32) ≤ iI k := by rw [iL_4, iI_le (by omega) (by omega)]; omega
    have e1 : iI (k : Int) + (1 : Int32) = iI ((k + 1 : Nat) : Int) := by rw [iL_1, iI_add]; rfl
    obtain ⟨w4, s1, s2, s3, s4, s5⟩ := lw_set h hs es hk (by omega) (iI (C k 1))
    have hd4 : w4.1 d = some (.inl (0, 4, .inl f4)) := (s5 d (fun c => hsd c.symm)).trans hd
    obtain ⟨w7, t1, t2, t3, t4, t5⟩ := lw_set s2 hd4 ed hk (by omega) (iI (C k 6))
    have hs7 : w7.1 s = some (.inl (0, 4, .inl (upd f3 k (iI (C k 1))))) := (t5 s hsd).trans s3
    have ld : xk_lI 0 w7 (some s) (iI k) = some (iI (C k 1)) := by
      have := xr_lI (i := (k : Int)) hs7 (by omega) (by omega) (by omega)
      rw [Int.toNat_natCast, lw_us] at this
      exact this
    obtain ⟨w', g3, g4, i1, i2, i3, i4, i5, i6, i7⟩ := ih (k + 1) fu w7 _ _ t2 hs7 t3 (fun i hi => by
      by_cases c : i = k
      · subst c; exact ⟨lw_us _ _ _, lw_us _ _ _⟩
      · rw [lw_un _ _ c, lw_un _ _ c]; exact hf i (by omega)) (by omega) (by omega)
    refine ⟨w', g3, g4, ?_, i2, i3, i4, i5, by rw [i6, t4, s4], fun q q1 q2 => (i7 q q1 q2).trans ((t5 q q2).trans (s5 q q1))⟩
    rw [yCt_e (fun i => yTouch (C i) a n) k] at i1
    have ez : ∀ x : Int, iI x + (0 : Int32) = iI x := fun x => by rw [iL_0, iI_add, Int.add_zero]
    have eo : ∀ x : Int, iI x + (1 : Int32) = iI (x + 1) := fun x => by rw [iL_1, iI_add]
    unfold f_L_isBack_21 f_L_isBack_76 f_L_isBack_77
    by_cases d1 : a ≤ C k 1
    · have c2 : iI a ≤ iI (C k 1) := by rw [iI_le (by omega) (by omega)]; omega
      have tf : yTouch (C k) a n = false := by unfold yTouch; rw [if_pos (by omega)]; exact decide_eq_false (by omega)
      rw [tf, if_neg Bool.false_ne_true, Int.add_zero] at i1
      simp only [if_neg c1, bk_is h, Option.bind_some, lw_c0 h v hk, s1, bk_is s2, lw_c5 s2 v hk, t1, ld, if_pos c2, e1, ez]
      exact i1
    · have c2 : ¬ iI a ≤ iI (C k 1) := by rw [iI_le (by omega) (by omega)]; omega
      by_cases d2 : C k 1 + C k 11 ≤ a
      · have c3 : iI (C k 1 + C k 11) ≤ iI a := by rw [iI_le (by omega) (by omega)]; omega
        have tf : yTouch (C k) a n = false := by unfold yTouch; rw [if_pos (by omega)]; exact decide_eq_false (by omega)
        rw [tf, if_neg Bool.false_ne_true, Int.add_zero] at i1
        simp only [if_neg c1, bk_is h, Option.bind_some, lw_c0 h v hk, s1, bk_is s2, lw_c5 s2 v hk, t1, ld, if_neg c2, bk_is t2, lw_c8 t2 v hk, if_pos c3, ez, e1]
        exact i1
      · have c3 : ¬ iI (C k 1 + C k 11) ≤ iI a := by rw [iI_le (by omega) (by omega)]; omega
        have tf : yTouch (C k) a n = true := by unfold yTouch; rw [if_pos (by omega)]; exact decide_eq_true (by omega)
        rw [tf, if_pos rfl] at i1
        have ek : ∀ x : Int32, x = iI (yCt (fun i => yTouch (C i) a n) k) + (1 : Int32) → x = iI (yCt (fun i => yTouch (C i) a n) k + 1) := fun x hx => hx.trans (eo _)
        simp only [if_neg c1, bk_is h, Option.bind_some, lw_c0 h v hk, s1, bk_is s2, lw_c5 s2 v hk, t1, ld, if_neg c2, bk_is t2, lw_c8 t2 v hk, if_neg c3, e1, eo]
        exact i1
theorem lw_b89 {z e nt : Nat} {ha ca ta : Nat → Nat} {B : Nat → Int} {H C T : Nat → Nat → Int} (v : xVB 8 4 nt B H C T) {s d g : Nat} (eg : e ≤ g) (x1 x2 x6 : Int32) : ∀ (r k fu : Nat) (w : xWd) (f5 : Nat → Int32), xBk z e 8 4 nt ha ca ta B H C T w → w.1 g = some (.inl (0, 8, .inl f5)) → (∀ i, i < k → f5 i = iI (H i 0)) → k + r = 8 → r < fu →
    ∃ (fu' : Nat) (w' : xWd) (g5 : Nat → Int32), f_L_isBack_89 fu (some z) x1 x2 (some s) (some d) (some g) x6 (iI k) w = f_L_isBack_89 (fu' + 1) (some z) x1 x2 (some s) (some d) (some g) x6 (8 : Int32) w' ∧ xBk z e 8 4 nt ha ca ta B H C T w' ∧ w'.1 g = some (.inl (0, 8, .inl g5)) ∧ (∀ i, i < 8 → g5 i = iI (H i 0)) ∧ w'.2 = w.2 ∧ ∀ q, q ≠ g → w'.1 q = w.1 q := by
  intro r
  induction r with
  | zero =>
    intro k fu w f5 h hg hf h1 h2
    obtain ⟨fu, rfl⟩ : ∃ f, fu = f + 1 := ⟨fu - 1, by omega⟩
    refine ⟨fu, w, f5, ?_, h, hg, fun i hi => hf i (by omega), rfl, fun _ _ => rfl⟩
    rw [show k = 8 by omega, show iI ((8 : Nat) : Int) = (8 : Int32) by decide]
  | succ r ih =>
    intro k fu w f5 h hg hf h1 h2
    obtain ⟨fu, rfl⟩ : ∃ f, fu = f + 1 := ⟨fu - 1, by omega⟩
    have hk : k < 8 := by omega
    have c1 : ¬ (8 : Int32) ≤ iI k := by rw [iL_8, iI_le (by omega) (by omega)]; omega
    have e1 : iI (k : Int) + (1 : Int32) = iI ((k + 1 : Nat) : Int) := by rw [iL_1, iI_add]; rfl
    obtain ⟨w4, s1, s2, s3, s4, s5⟩ := lw_set h hg eg hk (by omega) (iI (H k 0))
    obtain ⟨fu', w', g5, i1, i2, i3, i4, i5, i6⟩ := ih (k + 1) fu w4 _ s2 s3 (fun i hi => by
      by_cases c : i = k
      · subst c; exact lw_us _ _ _
      · rw [lw_un _ _ c]; exact hf i (by omega)) (by omega) (by omega)
    refine ⟨fu', w', g5, Eq.trans ?_ i1, i2, i3, i4, by rw [i5, s4], fun q q1 => (i6 q q1).trans (s5 q q1)⟩
    have st : ∀ n, f_L_isBack_89 (n + 1) (some z) x1 x2 (some s) (some d) (some g) x6 (iI k) w = f_L_isBack_89 n (some z) x1 x2 (some s) (some d) (some g) x6 (iI ((k + 1 : Nat) : Int)) w4 := by
      intro n
      rw [f_L_isBack_89]
      simp only [if_neg c1, bk_is h, Option.bind_some, lw_h0 h v hk, s1, e1]
    exact st fu
theorem lw_305 {z e nt : Nat} {ha ca ta : Nat → Nat} {B : Nat → Int} {H C T : Nat → Nat → Int} {w : xWd} (h : xBk z e 8 4 nt ha ca ta B H C T w) (v : xVB 8 4 nt B H C T) {g : Nat} {g5 : Nat → Int32} (hg : w.1 g = some (.inl (0, 8, .inl g5))) (h5 : ∀ i, i < 8 → g5 i = iI (H i 0)) : ∀ (r k fu : Nat), k + r = 8 → r < fu → f_L_isBack_305 fu (some z) (some g) (iI k) w = some (1, w) := by
  intro r
  induction r with
  | zero =>
    intro k fu h1 h2
    obtain ⟨fu, rfl⟩ : ∃ f, fu = f + 1 := ⟨fu - 1, by omega⟩
    have c1 : (8 : Int32) ≤ iI k := by rw [iL_8, iI_le (by omega) (by omega)]; omega
    unfold f_L_isBack_305
    rw [if_pos c1]
  | succ r ih =>
    intro k fu h1 h2
    obtain ⟨fu, rfl⟩ : ∃ f, fu = f + 1 := ⟨fu - 1, by omega⟩
    have hk : k < 8 := by omega
    have c1 : ¬ (8 : Int32) ≤ iI k := by rw [iL_8, iI_le (by omega) (by omega)]; omega
    have e1 : iI (k : Int) + (1 : Int32) = iI ((k + 1 : Nat) : Int) := by rw [iL_1, iI_add]; rfl
    have ld : xk_lI 0 w (some g) (iI k) = some (iI (H k 0)) := by
      have := xr_lI (i := (k : Int)) hg (by omega) (by omega) (by omega)
      rw [Int.toNat_natCast, h5 k hk] at this
      exact this
    have i2 := ih (k + 1) fu (by omega) (by omega)
    unfold f_L_isBack_305
    simp only [if_neg c1, bk_is h, Option.bind_some, lw_h0 h v hk, ld, if_true, eq_self, e1]
    exact i2
theorem lw_256 {z e nt : Nat} {ha ca ta : Nat → Nat} {B : Nat → Int} {H C T : Nat → Nat → Int} {w : xWd} (h : xBk z e 8 4 nt ha ca ta B H C T w) (v : xVB 8 4 nt B H C T) {s d g : Nat} {g3 g4 g5 : Nat → Int32} (hs : w.1 s = some (.inl (0, 4, .inl g3))) (hd : w.1 d = some (.inl (0, 4, .inl g4))) (hg : w.1 g = some (.inl (0, 8, .inl g5))) (h3 : ∀ i, i < 4 → g3 i = iI (C i 1)) (h4 : ∀ i, i < 4 → ∃ y, g4 i = iI y ∧ (C i 6 = y ∨ C i 6 = y + 2)) (h5 : ∀ i, i < 8 → g5 i = iI (H i 0)) : ∀ (r k fu : Nat), k + r = 4 → r < fu → f_L_isBack_256 fu (some z) (some s) (some d) (some g) (iI k) w = some (1, w) := by
  intro r
  induction r with
  | zero =>
    intro k fu h1 h2
    obtain ⟨fu, rfl⟩ : ∃ f, fu = f + 1 := ⟨fu - 1, by omega⟩
    have c1 : (4 : Int32) ≤ iI k := by rw [iL_4, iI_le (by omega) (by omega)]; omega
    have := lw_305 h v hg h5 8 0 4096 (by omega) (by omega)
    rw [show iI ((0 : Nat) : Int) = (0 : Int32) by decide] at this
    unfold f_L_isBack_256
    rw [if_pos c1]
    exact this
  | succ r ih =>
    intro k fu h1 h2
    obtain ⟨fu, rfl⟩ : ∃ f, fu = f + 1 := ⟨fu - 1, by omega⟩
    have hk : k < 4 := by omega
    have c1 : ¬ (4 : Int32) ≤ iI k := by rw [iL_4, iI_le (by omega) (by omega)]; omega
    have e1 : iI (k : Int) + (1 : Int32) = iI ((k + 1 : Nat) : Int) := by rw [iL_1, iI_add]; rfl
    obtain ⟨y, y1, y2⟩ := h4 k hk
    have ls : xk_lI 0 w (some s) (iI k) = some (iI (C k 1)) := by
      have := xr_lI (i := (k : Int)) hs (by omega) (by omega) (by omega)
      rw [Int.toNat_natCast, h3 k hk] at this
      exact this
    have ld : xk_lI 0 w (some d) (iI k) = some (iI y) := by
      have := xr_lI (i := (k : Int)) hd (by omega) (by omega) (by omega)
      rw [Int.toNat_natCast, y1] at this
      exact this
    have nz : xk_nz (2 : Int32) = some () := by decide
    have c4 : (iI (C k 6) - iI y) - (iI (C k 6) - iI y) / (2 : Int32) * (2 : Int32) = (0 : Int32) := by
      rw [iI_sub]
      rcases y2 with q | q
      · rw [show C k 6 - y = 0 by omega]; decide
      · rw [show C k 6 - y = 2 by omega]; decide
    have i2 := ih (k + 1) fu (by omega) (by omega)
    unfold f_L_isBack_256
    simp only [if_neg c1, bk_is h, Option.bind_some, lw_c0 h v hk, ls, if_true, eq_self, lw_c5 h v hk, ld, nz, if_pos c4, e1]
    exact i2
theorem xFr_k {z e : Nat} {w w' : xWd} (f : xFr z e w w') {a n k : Nat} {g : vp_A} (hk : k ≠ 2) (h : w.1 a = some (.inl (k, g))) (ha : a < w.2.1) (hz : a < z ∨ e ≤ a) : w'.1 a = some (.inl (k, g)) := (f.2.2 a ha hz (k, g) h hk).trans h
theorem lw_neg (n : Int) : -(iI n) = iI (-n) := by
  unfold iI
  exact (Int32.ofInt_neg ..).symm
theorem lw_chain {z e nt : Nat} {ha ca ta : Nat → Nat} {B : Nat → Int} {H C T : Nat → Nat → Int} {w : xWd} (h : xBk z e 8 4 nt ha ca ta B H C T w) (v : xVB 8 4 nt B H C T) {m : Nat} (l : xLv m nt B H C T) (hm : m ≤ 44) {a n : Int} (hat : 0 ≤ a ∧ a ≤ 2400) (hn : 1 ≤ n ∧ n ≤ 80) (h6 : B 6 < 19) {s d g : Nat} {g3 g4 g5 : Nat → Int32} (hs : w.1 s = some (.inl (0, 4, .inl g3))) (hd : w.1 d = some (.inl (0, 4, .inl g4))) (hg : w.1 g = some (.inl (0, 8, .inl g5))) (es : e ≤ s ∧ s < w.2.1) (ed : e ≤ d ∧ d < w.2.1) (eg : e ≤ g ∧ g < w.2.1) (h3 : ∀ i, i < 4 → g3 i = iI (C i 1) ∧ g4 i = iI (C i 6)) (h5 : ∀ i, i < 8 → g5 i = iI (H i 0)) (fu : Nat) :
    ∃ w', f_L_isBack_89 (fu + 1) (some z) (iI a) (iI n) (some s) (some d) (some g) (iI (yCt (fun i => yTouch (C i) a n) 4)) (8 : Int32) w = some (1, w') ∧ xBk z e 8 4 nt ha ca ta (va_up B 6 (B 6 + 2)) H (yC2 a n 4 C) T w' ∧ xFr z e w w' := by
  have v1 := lw_v1 (a := a) v l hm hn h6
  obtain ⟨v2, l2⟩ := lw_v2 (a := a) (n := n) v l hm h6
  obtain ⟨l1, -, l3, l4, -⟩ := l
  have my : yMay (B 5) a n := ⟨by omega, by omega, by omega, by omega, by omega, fun c => by omega⟩
  have b5 := yBc_5 a n B
  have my2 : yMay (yBc a n B 5) a (-n) := ⟨by omega, by omega, by omega, by omega, by omega, fun c => by omega⟩
  obtain ⟨w1, c1, c2, c3⟩ := x4_change h v my (by omega)
  obtain ⟨w2, d1, d2, d3⟩ := x4_change c2 v1 my2 (by rw [yBc_6]; omega)
  have wo1 := lw_wo (nh := 8) (nc := 4) (H := H) (C := C) (a := a) (n := n) (fun i hi => ⟨(l3 i hi).2.2, yOut_in (by omega)⟩)
  have wo2 := lw_wo (nh := 8) (nc := 4) (H := yUpTo (yHc a n) H 8) (C := yUpTo (yCut a n) C 4) (a := a) (n := -n) (fun i hi => by
    have e : yUpTo (yHc a n) H 8 i = va_up (H i) 0 (yMv (H i 0) a n) := (if_pos hi).trans (yHc_in (by omega) (l3 i hi).2.2)
    rw [e, xk_up_s, xk_up_n _ _ (show 2 ≠ 0 by omega)]
    exact ⟨(l3 i hi).2.2, yOut_back (by omega)⟩)
  have eH := yH2_e (a := a) (n := n) (nh := 8) (H := H) (by omega) (fun k hk => (l3 k hk).2.2)
  have eC := yC2_e (a := a) (n := n) (nc := 4) (C := C) (by omega) (fun k hk => by have := (l4 k hk).2.2.1; omega)
  have eB := yBc_back (a := a) (n := n) (by omega) B
  rw [eH, eC] at wo2
  rw [eH, eC, eB] at d2
  have wo3 : yCm 8 4 H (yC2 a n 4 C) = yCm 8 4 H C := yCm_c (fun i hi j hj => yC2_n a n 4 C i (by omega))
  have t2 : yCt (fun i => yTouch (yUpTo (yCut a n) C 4 i) a (-n)) 4 = yCt (fun i => yTouch (C i) a n) 4 := yCt_c 4 (fun i hi => by
    have e : yUpTo (yCut a n) C 4 i = yCut a n (C i) := if_pos hi
    show yTouch (yUpTo (yCut a n) C 4 i) a (-n) = yTouch (C i) a n
    rw [e]
    exact yT_back (by omega) (by have := (l4 i hi).2.2.1; omega))
  have nb : ∀ j, j ≠ 6 → va_up B 6 (B 6 + 2) j = B j := fun j hj => xk_up_n _ _ hj
  have sp2 : yCt (fun i => ySp (va_up B 6 (B 6 + 2)) (yC2 a n 4 C i)) 4 = yCt (fun i => ySp B (C i)) 4 := yCt_c 4 (fun i hi => by
    show ySp (va_up B 6 (B 6 + 2)) (yC2 a n 4 C i) = ySp B (C i)
    unfold ySp
    rw [yC2_n a n 4 C i (show 1 ≠ 6 by omega), yC2_n a n 4 C i (show 2 ≠ 6 by omega), nb 2 (by omega), nb (20 + (C i 2).toNat) (by omega)])
  have f2 := xFr_t c3 d3
  have hs2 := xFr_k (n := 0) f2 (by omega) hs es.2 (Or.inr es.1)
  have hd2 := xFr_k (n := 0) f2 (by omega) hd ed.2 (Or.inr ed.1)
  have hg2 := xFr_k (n := 0) f2 (by omega) hg eg.2 (Or.inr eg.1)
  have fin := lw_256 d2 v2 hs2 hd2 hg2 (fun i hi => by rw [yC2_n a n 4 C i (by omega)]; exact (h3 i hi).1) (fun i hi => ⟨C i 6, (h3 i hi).2, yC2_6 a n 4 C i⟩) h5 4 0 4096 (by omega) (by omega)
  rw [show iI ((0 : Nat) : Int) = (0 : Int32) by decide] at fin
  have cA : (8 : Int32) ≤ 8 := by decide
  have e5 : iI (yBc a n B 5) = iI (B 5) + iI n := by rw [b5, iI_add]
  have m0 := lw_m0 d2 v2
  rw [nb 5 (by omega)] at m0
  have m4 := lw_m4 d2 v2
  rw [wo3] at m4
  have m8 := lw_m8 d2 v2
  rw [sp2] at m8
  rw [t2] at d1
  have w4 := x4_wouldMeet c2 v1 my2
  rw [wo2, wo3] at w4
  have w3 := x4_wouldMeet h v my
  rw [wo1] at w3
  refine ⟨w2, ?_, d2, f2⟩
  rw [f_L_isBack_89]
  simp only [if_pos cA, bk_is h, Option.bind_some, lw_m0 h v, lw_m3 h v, lw_m4 h v, lw_m8 h v, w3, c1, if_true, eq_self, bk_is c2, lw_m4 c2 v1, lw_m0 c2 v1, if_pos e5, lw_neg, w4, d1, bk_is d2, m0, lw_m3 d2 v2, m4, m8]
  exact fin
theorem lw_isBack {z e nt : Nat} {ha ca ta : Nat → Nat} {B : Nat → Int} {H C T : Nat → Nat → Int} {w : xWd} (h : xBk z e 8 4 nt ha ca ta B H C T w) (v : xVB 8 4 nt B H C T) {m : Nat} (l : xLv m nt B H C T) (hm : m ≤ 44) {a n : Int} (hat : 0 ≤ a ∧ a ≤ 2400) (hn : 1 ≤ n ∧ n ≤ 80) (h6 : B 6 < 19) : ∃ w', f_L_isBack (some z) (iI a) (iI n) w = some (1, w') ∧ xBk z e 8 4 nt ha ca ta (va_up B 6 (B 6 + 2)) H (yC2 a n 4 C) T w' ∧ xFr z e w w' := by
  have he := bk_e h
  obtain ⟨w1, a1, a2, a3, a4, a5, a6⟩ := lw_new h (n := 4) (by omega)
  obtain ⟨w2, b1, b2, b3, b4, b5, b6⟩ := lw_new a2 (n := 4) (by omega)
  obtain ⟨w3, c1, c2, c3, c4, c5, c6⟩ := lw_new b2 (n := 8) (by omega)
  rw [show iI ((4 : Nat) : Int) = (4 : Int32) by decide] at a1 b1
  rw [show iI ((8 : Nat) : Int) = (8 : Int32) by decide] at c1
  have hs3 : w3.1 w.2.1 = some (.inl (0, 4, .inl (fun _ => 0))) := (c6 _ (by omega)).trans ((b6 _ (by omega)).trans a3)
  have hd3 : w3.1 w1.2.1 = some (.inl (0, 4, .inl (fun _ => 0))) := (c6 _ (by omega)).trans b3
  obtain ⟨w4, g3, g4, d1, d2, d3, d4, d5, d6, d7⟩ := lw_b21 v hat hn (s := w.2.1) (d := w1.2.1) (g := w2.2.1) (by omega) (by omega) (by omega) 4 0 4096 w3 _ _ c2 hs3 hd3 (fun i hi => by omega) (by omega) (by omega)
  have hg4 : w4.1 w2.2.1 = some (.inl (0, 8, .inl (fun _ => 0))) := (d7 _ (by omega) (by omega)).trans c3
  obtain ⟨fu', w5, g5, e1, e2, e3, e4, e5, e6⟩ := lw_b89 v (s := w.2.1) (d := w1.2.1) (g := w2.2.1) (by omega) (iI a) (iI n) (iI (yCt (fun i => yTouch (C i) a n) 4)) 8 0 4096 w4 _ d2 hg4 (fun i hi => by omega) (by omega) (by omega)
  have n5 : w5.2.1 = w.2.1 + 3 := by rw [e5, d6]; omega
  have m5 : w5.2.2 = w.2.2 := by rw [e5, d6, c5, b5, a5]
  obtain ⟨w', k1, k2, k3⟩ := lw_chain e2 v l hm hat hn h6 ((e6 _ (by omega)).trans d3) ((e6 _ (by omega)).trans d4) e3 (by omega) (by omega) (by omega) d5 e4 fu'
  refine ⟨w', ?_, k2, xFr_t ⟨by omega, m5, fun q hq _ x _ _ => (e6 q (by omega)).trans ((d7 q (by omega) (by omega)).trans ((c6 q (by omega)).trans ((b6 q (by omega)).trans (a6 q hq))))⟩ k3⟩
  have z0 : iI ((0 : Nat) : Int) = (0 : Int32) := by decide
  have s0 : iI (yCt (fun i => yTouch (C i) a n) 0) = (0 : Int32) := by show iI 0 = 0; decide
  rw [s0, z0] at d1
  rw [z0] at e1
  unfold f_L_isBack
  rw [a1, Option.bind_some, b1, Option.bind_some, c1, Option.bind_some, d1, e1, k1]
