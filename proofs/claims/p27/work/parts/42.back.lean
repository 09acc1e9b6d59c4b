/-! frames put in and taken out again: what the numbers say -/
theorem lw_us (f : Nat → Int32) (k : Nat) (x : Int32) : upd f k x k = x := if_pos rfl
theorem lw_un (f : Nat → Int32) {k j : Nat} (x : Int32) (h : j ≠ k) : upd f k x j = f j := if_neg h
theorem yOut_in {f a n : Int} (hn : 0 < n) : yOut f a n = false := decide_eq_false (by omega)
theorem yMv_in {f a n : Int} (hn : 0 < n) : yMv f a n = if f < a then f else f + n := by
  unfold yMv
  rw [yOut_in hn, if_neg Bool.false_ne_true]
theorem yOut_back {f a n : Int} (hn : 0 < n) : yOut (yMv f a n) a (-n) = false := by
  rw [yMv_in hn]
  apply decide_eq_false
  by_cases c : f < a
  · rw [if_pos c]; omega
  · rw [if_neg c]; omega
theorem yMv_back {f a n : Int} (hn : 0 < n) : yMv (yMv f a n) a (-n) = f := by
  have o := yOut_back (f := f) (a := a) hn
  unfold yMv at o ⊢
  rw [yOut_in hn, if_neg Bool.false_ne_true] at o ⊢
  rw [o, if_neg Bool.false_ne_true]
  by_cases c : f < a
  · rw [if_pos c, if_pos c]
  · rw [if_neg c, if_neg (by omega)]; omega
theorem yHc_in {a n : Int} (hn : 0 < n) {s : Nat → Int} (h2 : s 2 = 0) : yHc a n s = va_up s 0 (yMv (s 0) a n) := by
  unfold yHc
  rw [if_pos h2, yOut_in hn, if_neg Bool.false_ne_true]
theorem yHc_back {a n : Int} (hn : 0 < n) {s : Nat → Int} (h2 : s 2 = 0) : yHc a (-n) (yHc a n s) = s := by
  rw [yHc_in hn h2]
  have e2 : va_up s 0 (yMv (s 0) a n) 2 = 0 := (xk_up_n _ _ (by omega)).trans h2
  have e0 : va_up s 0 (yMv (s 0) a n) 0 = yMv (s 0) a n := xk_up_s _ _ _
  unfold yHc
  rw [if_pos e2, e0, yOut_back hn, if_neg Bool.false_ne_true, yMv_back hn, xk_up2, xk_up_id _ _ _ rfl]
theorem yCut_1 (f n : Int) (s : Nat → Int) : yCut f n s 1 = yMv (s 1) f n := xk_up_s _ _ _
theorem yCut_n (f n : Int) (s : Nat → Int) {j : Nat} (h1 : j ≠ 1) (h6 : j ≠ 6) : yCut f n s j = s j := by
  unfold yCut
  rw [xk_up_n _ _ h1]
  cases yTouch s f n
  · rw [if_neg Bool.false_ne_true]
  · rw [if_pos rfl]; exact xk_up_n _ _ h6
theorem yCut_6 (f n : Int) (s : Nat → Int) : yCut f n s 6 = s 6 + if yTouch s f n then 1 else 0 := by
  unfold yCut
  rw [xk_up_n _ _ (show 6 ≠ 1 by omega)]
  cases yTouch s f n
  · rw [if_neg Bool.false_ne_true, if_neg Bool.false_ne_true, Int.add_zero]
  · rw [if_pos rfl, if_pos rfl]; exact xk_up_s _ _ _
theorem yT_back {a n : Int} (hn : 0 < n) {s : Nat → Int} (h7 : 0 < s 7) : yTouch (yCut a n s) a (-n) = yTouch s a n := by
  unfold yTouch
  rw [if_neg (by omega), if_pos hn, yCut_1, yCut_n a n s (show 7 ≠ 1 by omega) (by omega), yCut_n a n s (show 11 ≠ 1 by omega) (by omega), yMv_in hn]
  apply decide_eq_decide.mpr
  by_cases c : s 1 < a
  · rw [if_pos c]; omega
  · rw [if_neg c]; omega
theorem yCut_back {a n : Int} (hn : 0 < n) {s : Nat → Int} (h7 : 0 < s 7) : yCut a (-n) (yCut a n s) = if yTouch s a n then va_up s 6 (s 6 + 2) else s := by
  funext j
  by_cases c1 : j = 1
  · subst c1
    rw [yCut_1, yCut_1, yMv_back hn]
    cases yTouch s a n
    · rw [if_neg Bool.false_ne_true]
    · rw [if_pos rfl]; exact (xk_up_n _ _ (by omega)).symm
  · by_cases c6 : j = 6
    · subst c6
      rw [yCut_6, yT_back hn h7, yCut_6]
      cases yTouch s a n
      · rw [if_neg Bool.false_ne_true, if_neg Bool.false_ne_true]; omega
      · rw [if_pos rfl, if_pos rfl, xk_up_s]; omega
    · rw [yCut_n _ _ _ c1 c6, yCut_n _ _ _ c1 c6]
      cases yTouch s a n
      · rw [if_neg Bool.false_ne_true]
      · rw [if_pos rfl]; exact (xk_up_n _ _ c6).symm
theorem yBc_5 (f n : Int) (B : Nat → Int) : yBc f n B 5 = B 5 + n := (xk_up_n _ _ (by omega)).trans (xk_up_s _ _ _)
theorem yBc_6 (f n : Int) (B : Nat → Int) : yBc f n B 6 = B 6 + 1 := xk_up_s _ _ _
theorem yBc_n (f n : Int) (B : Nat → Int) {j : Nat} (h5 : j ≠ 5) (h6 : j ≠ 6) : yBc f n B j = if 20 ≤ j ∧ j < 20 + (B 2).toNat then yMv (B j) f n else B j := (xk_up_n _ _ h6).trans (xk_up_n _ _ h5)
theorem yBc_l (f n : Int) (B : Nat → Int) {j : Nat} (h5 : j ≠ 5) (h6 : j ≠ 6) (h : j < 20) : yBc f n B j = B j := (yBc_n f n B h5 h6).trans (if_neg (by omega))
theorem yBc_back {a n : Int} (hn : 0 < n) (B : Nat → Int) : yBc a (-n) (yBc a n B) = va_up B 6 (B 6 + 2) := by
  funext j
  by_cases c6 : j = 6
  · subst c6
    rw [yBc_6, yBc_6, xk_up_s]; omega
  · rw [xk_up_n _ _ c6]
    by_cases c5 : j = 5
    · subst c5
      rw [yBc_5, yBc_5]; omega
    · rw [yBc_n _ _ _ c5 c6, yBc_n _ _ _ c5 c6, yBc_l a n B (show 2 ≠ 5 by omega) (by omega) (by omega)]
      by_cases c : 20 ≤ j ∧ j < 20 + (B 2).toNat
      · rw [if_pos c, if_pos c, yMv_back hn]
      · rw [if_neg c, if_neg c]
theorem yCt_c {p q : Nat → Bool} : ∀ n : Nat, (∀ i, i < n → p i = q i) → yCt p n = yCt q n
  | 0 => fun _ => rfl
  | n + 1 => by
    intro h
    rw [yCt_e, yCt_e, yCt_c n (fun i hi => h i (by omega)), h n (by omega)]
theorem lw_any {n : Nat} {p q : Nat → Bool} (h : ∀ i, i < n → p i = q i) : (List.range n).any p = (List.range n).any q := by
  rw [Bool.eq_iff_iff, List.any_eq_true, List.any_eq_true]
  constructor
  · rintro ⟨i, hi, g⟩
    exact ⟨i, hi, by rw [← h i (List.mem_range.mp hi)]; exact g⟩
  · rintro ⟨i, hi, g⟩
    exact ⟨i, hi, by rw [h i (List.mem_range.mp hi)]; exact g⟩
theorem yRc_c {s t : Nat → Int} (h : ∀ j, j = 10 ∨ 22 ≤ j → s j = t j) (st f tol : Int) : yRc s st f tol = yRc t st f tol := by
  unfold yRc yReach
  rw [h 10 (by omega)]
  refine lw_any (fun i _ => ?_)
  show decide (yA (st + s (22 + 3 * i) - f) ≤ tol) = decide (yA (st + t (22 + 3 * i) - f) ≤ tol)
  rw [h (22 + 3 * i) (by omega)]
theorem yCm_c {nh nc : Nat} {H C D : Nat → Nat → Int} (h : ∀ i, i < nc → ∀ j, j = 1 ∨ j = 10 ∨ 22 ≤ j → C i j = D i j) : yCm nh nc H C = yCm nh nc H D := by
  unfold yCm
  refine yCt_c nh (fun i _ => ?_)
  unfold yMb
  rw [lw_any (fun k hk => ?_)]
  rw [h k hk 1 (by omega), yRc_c (fun j hj => h k hk j (by omega))]
/-- what would be met is what is met then -/
theorem lw_wo {nh nc : Nat} {H C : Nat → Nat → Int} {a n : Int} (hg : ∀ i, i < nh → H i 2 = 0 ∧ yOut (H i 0) a n = false) : yWo nh nc H C a n = yCm nh nc (yUpTo (yHc a n) H nh) (yUpTo (yCut a n) C nc) := by
  unfold yWo yCm
  refine yCt_c nh (fun i hi => ?_)
  obtain ⟨g1, g2⟩ := hg i hi
  have eH : yUpTo (yHc a n) H nh i = va_up (H i) 0 (yMv (H i 0) a n) := by
    unfold yUpTo yHc
    rw [if_pos hi, if_pos g1, g2, if_neg Bool.false_ne_true]
  rw [eH]
  have e2 : va_up (H i) 0 (yMv (H i 0) a n) 2 = H i 2 := xk_up_n _ _ (by omega)
  have e1 : va_up (H i) 0 (yMv (H i 0) a n) 1 = H i 1 := xk_up_n _ _ (by omega)
  have e0 : va_up (H i) 0 (yMv (H i 0) a n) 0 = yMv (H i 0) a n := xk_up_s _ _ _
  unfold yWm yMb yWb
  rw [e2, e1, e0, g2, Bool.not_false, Bool.true_and]
  congr 1
  refine lw_any (fun k hk => ?_)
  have eC : yUpTo (yCut a n) C nc k = yCut a n (C k) := if_pos hk
  rw [eC, yCut_1, yRc_c (s := yCut a n (C k)) (t := C k) (fun j hj => yCut_n a n (C k) (by omega) (by omega)), decide_eq_true (show (k : Int) ≠ -1 by omega), Bool.true_and]
theorem yRc_1 (s : Nat → Int) (st f tol : Int) : yRc s (st + 1) (f + 1) tol = yRc s st f tol := by
  unfold yRc yReach
  refine lw_any (fun i _ => ?_)
  show decide (yA (st + 1 + s (22 + 3 * i) - (f + 1)) ≤ tol) = decide (yA (st + s (22 + 3 * i) - f) ≤ tol)
  rw [show st + 1 + s (22 + 3 * i) - (f + 1) = st + s (22 + 3 * i) - f by omega]
/-- a frame put in ahead of all changes nothing of what is met -/
theorem lw_wo01 {nh nc : Nat} {H C : Nat → Nat → Int} (hg : ∀ i, i < nh → H i 2 = 0 ∧ 0 ≤ H i 0) (hc : ∀ k, k < nc → 0 ≤ C k 1) : yWo nh nc H C 0 1 = yCm nh nc H C := by
  unfold yWo yCm
  refine yCt_c nh (fun i hi => ?_)
  obtain ⟨g1, g2⟩ := hg i hi
  unfold yWm yMb yWb
  rw [yOut_in (by omega), Bool.not_false, Bool.true_and]
  congr 1
  refine lw_any (fun k hk => ?_)
  have := hc k hk
  rw [yMv_in (by omega), yMv_in (by omega), if_neg (by omega), if_neg (by omega), yRc_1, decide_eq_true (show (k : Int) ≠ -1 by omega), Bool.true_and]
/-- the cues behind frames put in and taken out again -/
def yC2 (a n : Int) (nc : Nat) (C : Nat → Nat → Int) : Nat → Nat → Int := fun i => if i < nc then (if yTouch (C i) a n then va_up (C i) 6 (C i 6 + 2) else C i) else C i
theorem yC2_e {a n : Int} (hn : 0 < n) {nc : Nat} {C : Nat → Nat → Int} (h7 : ∀ k, k < nc → 0 < C k 7) : yUpTo (yCut a (-n)) (yUpTo (yCut a n) C nc) nc = yC2 a n nc C := by
  funext i
  unfold yUpTo yC2
  by_cases c : i < nc
  · rw [if_pos c, if_pos c, if_pos c, yCut_back hn (h7 i c)]
  · rw [if_neg c, if_neg c, if_neg c]
theorem yC2_n (a n : Int) (nc : Nat) (C : Nat → Nat → Int) (k : Nat) {j : Nat} (hj : j ≠ 6) : yC2 a n nc C k j = C k j := by
  unfold yC2
  by_cases c : k < nc
  · rw [if_pos c]
    cases yTouch (C k) a n
    · rw [if_neg Bool.false_ne_true]
    · rw [if_pos rfl]; exact xk_up_n _ _ hj
  · rw [if_neg c]
theorem yC2_6 (a n : Int) (nc : Nat) (C : Nat → Nat → Int) (k : Nat) : yC2 a n nc C k 6 = C k 6 ∨ yC2 a n nc C k 6 = C k 6 + 2 := by
  unfold yC2
  by_cases c : k < nc
  · rw [if_pos c]
    cases yTouch (C k) a n
    · rw [if_neg Bool.false_ne_true]; exact Or.inl rfl
    · rw [if_pos rfl]; exact Or.inr (xk_up_s _ _ _)
  · rw [if_neg c]; exact Or.inl rfl
theorem yH2_e {a n : Int} (hn : 0 < n) {nh : Nat} {H : Nat → Nat → Int} (h2 : ∀ k, k < nh → H k 2 = 0) : yUpTo (yHc a (-n)) (yUpTo (yHc a n) H nh) nh = H := by
  funext i
  unfold yUpTo
  by_cases c : i < nh
  · rw [if_pos c, if_pos c, yHc_back hn (h2 i c)]
  · rw [if_neg c, if_neg c]
theorem xCB_c {s t : Nat → Int} (h : ∀ j, j ≠ 1 → j ≠ 6 → s j = t j) (h1 : 0 ≤ t 1 ∧ t 1 ≤ 50000) (h6 : 0 ≤ t 6 ∧ t 6 ≤ 5000) (hB : xCB s) : xCB t := by
  obtain ⟨b1, b2, b3, b4, b5, b6, b7, b8, b9, b10, b11, b12⟩ := hB
  rw [h 7 (by omega) (by omega)] at b5 b6
  rw [h 10 (by omega) (by omega)] at b7 b8
  rw [h 11 (by omega) (by omega)] at b9 b10
  exact ⟨h1.1, h1.2, h6.1, h6.2, b5, b6, b7, b8, b9, b10, fun i hi => by rw [← h (20 + 3 * i) (by omega) (by omega), ← h (21 + 3 * i) (by omega) (by omega)]; exact b11 i hi, fun i hi => by rw [← h (22 + 3 * i) (by omega) (by omega)]; exact b12 i hi⟩
theorem xCK_c {s t : Nat → Int} (h : ∀ j, j ≠ 1 → j ≠ 6 → s j = t j) (hK : xCK s) : xCK t := by
  intro i hi
  rw [← h 7 (by omega) (by omega)] at hi
  rw [← h (20 + 3 * i) (by omega) (by omega), ← h (21 + 3 * i) (by omega) (by omega)]
  exact hK i hi
theorem xCI_c {s t : Nat → Int} (h : ∀ j, j ≠ 1 → j ≠ 6 → s j = t j) (hI : xCI s) : xCI t := by
  constructor
  · intro i j hij hj
    rw [← h 10 (by omega) (by omega)] at hj
    rw [← h (22 + 3 * i) (by omega) (by omega), ← h (22 + 3 * j) (by omega) (by omega)]
    exact hI.1 i j hij hj
  · intro i hi
    rw [← h 10 (by omega) (by omega)] at hi
    rw [← h (22 + 3 * i) (by omega) (by omega), ← h 11 (by omega) (by omega)]
    exact hI.2 i hi
/-- what holds ahead of step n -/
def xLv (n nt : Nat) (B : Nat → Int) (H C T : Nat → Nat → Int) : Prop :=
  B 5 = 2400 ∧ B 9 ≤ 2400 * n ∧ (∀ k, k < 8 → 0 ≤ H k 0 ∧ H k 0 ≤ 2400 ∧ H k 2 = 0) ∧ (∀ k, k < 4 → 0 ≤ C k 1 ∧ C k 1 ≤ 2400 ∧ 1 ≤ C k 7 ∧ C k 6 ≤ 2 * n + 1 ∧ xCK (C k) ∧ xCI (C k)) ∧ (∀ k, k < 4 → B (20 + k) ≤ 2400) ∧ ∀ k, k < nt → T k 3 ≤ 10 ^ (C (T k 1).toNat 7).toNat - 1 ∧ T k 2 ≤ C (T k 1).toNat 6
/-- the numbers with frames put in -/
theorem lw_v1 {nt : Nat} {B : Nat → Int} {H C T : Nat → Nat → Int} {m : Nat} (v : xVB 8 4 nt B H C T) (l : xLv m nt B H C T) (hm : m ≤ 44) {a n : Int} (hn : 1 ≤ n ∧ n ≤ 80) (h6 : B 6 < 19) : xVB 8 4 nt (yBc a n B) (yUpTo (yHc a n) H 8) (yUpTo (yCut a n) C 4) T := by
  obtain ⟨a1, a2, a3, a4, a5, a6, a7, a8, a9, a10, a11, a12, a13, a14, a15, vh, vc, vt, vr⟩ := v
  obtain ⟨l1, l2, l3, l4, l5, l6⟩ := l
  have mv : ∀ x : Int, 0 ≤ x → x ≤ 2400 → 0 ≤ yMv x a n ∧ yMv x a n ≤ 2500 := by
    intro x x1 x2
    rw [yMv_in (by omega)]
    by_cases c : x < a
    · rw [if_pos c]; omega
    · rw [if_neg c]; omega
  have b5 := yBc_5 a n B
  have b6 := yBc_6 a n B
  have b2 := yBc_l a n B (j := 2) (by omega) (by omega) (by omega)
  have b7 := yBc_l a n B (j := 7) (by omega) (by omega) (by omega)
  have b8 := yBc_l a n B (j := 8) (by omega) (by omega) (by omega)
  have b9 := yBc_l a n B (j := 9) (by omega) (by omega) (by omega)
  refine ⟨a1, a2, a3, by omega, by omega, by omega, by omega, by omega, by omega, by omega, by omega, by omega, by omega, by omega, by omega, fun k hk => ?_, fun k hk => ?_, vt, fun k hk => ?_⟩
  · obtain ⟨g1, g2, g3⟩ := l3 k hk
    obtain ⟨p1, p2, p3, p4, p5⟩ := vh k hk
    have e : yUpTo (yHc a n) H 8 k = va_up (H k) 0 (yMv (H k 0) a n) := (if_pos hk).trans (yHc_in (by omega) g3)
    have := mv _ g1 g2
    rw [e, xk_up_s, xk_up_n _ _ (show 1 ≠ 0 by omega), xk_up_n _ _ (show 2 ≠ 0 by omega)]
    exact ⟨this.1, by omega, p3, p4, p5⟩
  · obtain ⟨g1, g2, g3, g4, -⟩ := l4 k hk
    obtain ⟨hB, n1, n2, n3, n4, n5, n6, n7, n8, n9⟩ := vc k hk
    have e : yUpTo (yCut a n) C 4 k = yCut a n (C k) := if_pos hk
    have := mv _ g1 g2
    have c1 := yCut_1 a n (C k)
    have c6 := yCut_6 a n (C k)
    have nn : ∀ j, j ≠ 1 → j ≠ 6 → yCut a n (C k) j = C k j := fun j h1 h6 => yCut_n a n (C k) h1 h6
    have b60 : 0 ≤ C k 6 := hB.2.2.1
    have c7 : 0 ≤ yCut a n (C k) 6 ∧ yCut a n (C k) 6 ≤ 5000 := by
      rw [c6]
      cases yTouch (C k) a n
      · rw [if_neg Bool.false_ne_true]; omega
      · rw [if_pos rfl]; omega
    rw [e, b2, nn 0 (by omega) (by omega), nn 2 (by omega) (by omega), nn 3 (by omega) (by omega), nn 4 (by omega) (by omega), nn 5 (by omega) (by omega)]
    exact ⟨xCB_c (fun j h1 h6 => (nn j h1 h6).symm) (by omega) c7 hB, n1, n2, n3, n4, n5, n6, n7, n8, n9⟩
  · have := l5 k hk
    have p := vr k hk
    rw [yBc_n a n B (by omega) (by omega)]
    have := mv _ p.1 this
    by_cases c : 20 ≤ 20 + k ∧ 20 + k < 20 + (B 2).toNat
    · rw [if_pos c]; omega
    · rw [if_neg c]; exact p
/-- and taken out again -/
theorem lw_v2 {nt : Nat} {B : Nat → Int} {H C T : Nat → Nat → Int} {m : Nat} (v : xVB 8 4 nt B H C T) (l : xLv m nt B H C T) (hm : m ≤ 44) {a n : Int} (h6 : B 6 < 19) : xVB 8 4 nt (va_up B 6 (B 6 + 2)) H (yC2 a n 4 C) T ∧ xLv (m + 1) nt (va_up B 6 (B 6 + 2)) H (yC2 a n 4 C) T := by
  obtain ⟨a1, a2, a3, a4, a5, a6, a7, a8, a9, a10, a11, a12, a13, a14, a15, vh, vc, vt, vr⟩ := v
  obtain ⟨l1, l2, l3, l4, l5, l6⟩ := l
  have nb : ∀ j, j ≠ 6 → va_up B 6 (B 6 + 2) j = B j := fun j hj => xk_up_n _ _ hj
  have b6 : va_up B 6 (B 6 + 2) 6 = B 6 + 2 := xk_up_s _ _ _
  have nn : ∀ k j, j ≠ 6 → yC2 a n 4 C k j = C k j := fun k j hj => yC2_n a n 4 C k hj
  constructor
  · unfold xVB
    rw [b6, nb 5 (by omega), nb 2 (by omega), nb 7 (by omega), nb 8 (by omega), nb 9 (by omega)]
    refine ⟨a1, a2, a3, a4, a5, by omega, by omega, a8, a9, a10, a11, a12, a13, a14, a15, vh, fun k hk => ?_, vt, fun k hk => ?_⟩
    · obtain ⟨g1, g2, g3, g4, -⟩ := l4 k hk
      obtain ⟨hB, n1, n2, n3, n4, n5, n6, n7, n8, n9⟩ := vc k hk
      have b60 : 0 ≤ C k 6 := hB.2.2.1
      have e6 := yC2_6 a n 4 C k
      have e1 := nn k 1 (by omega)
      rw [nn k 0 (by omega), nn k 2 (by omega), nn k 3 (by omega), nn k 4 (by omega), nn k 5 (by omega)]
      exact ⟨xCB_c (fun j h1 h6 => (nn k j h6).symm) (by omega) (by omega) hB, n1, n2, n3, n4, n5, n6, n7, n8, n9⟩
    · rw [nb _ (by omega)]; exact vr k hk
  · unfold xLv
    rw [nb 5 (by omega), nb 9 (by omega)]
    refine ⟨l1, by omega, l3, fun k hk => ?_, fun k hk => ?_, fun k hk => ?_⟩
    · obtain ⟨g1, g2, g3, g4, g5, g6⟩ := l4 k hk
      have e6 := yC2_6 a n 4 C k
      rw [nn k 1 (by omega), nn k 7 (by omega)]
      exact ⟨g1, g2, g3, by omega, xCK_c (fun j h1 h6 => (nn k j h6).symm) g5, xCI_c (fun j h1 h6 => (nn k j h6).symm) g6⟩
    · rw [nb _ (by omega)]; exact l5 k hk
    · have e6 := yC2_6 a n 4 C (T k 1).toNat
      rw [nn _ 7 (by omega)]
      exact ⟨(l6 k hk).1, by have := (l6 k hk).2; omega⟩
