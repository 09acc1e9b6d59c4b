/-- notes without the first b places -/
def yDv (x : Int) : Nat → Int
  | 0 => x
  | b + 1 => yDv x b / 10
theorem yDv_b {x : Int} (h : 0 ≤ x ∧ x ≤ 999999999) : ∀ b : Nat, 0 ≤ yDv x b ∧ yDv x b ≤ 999999999 := by
  intro b
  induction b with
  | zero => exact h
  | succ b ih =>
    have e : yDv x (b + 1) = yDv x b / 10 := rfl
    omega
/-- the note of bar b -/
def yNo (x : Int) (b : Nat) : Int := yDv x b - yDv x b / 10 * 10
theorem yNo_b (x : Int) (b : Nat) : 0 ≤ yNo x b ∧ yNo x b ≤ 9 := by unfold yNo; omega
theorem x3_noteOf_l {x : Int} (hx : 0 ≤ x ∧ x ≤ 999999999) {b : Nat} (hb : b ≤ 100) (w : xWd) : ∀ (r k fu : Nat), k + r = b → r < fu → f_X3_noteOf_7 fu (iI b) (iI (yDv x k)) (iI k) w = some (iI (yNo x b), w) := by
  have nz : xk_nz (iI 10) = some () := by decide
  intro r
  induction r with
  | zero =>
    intro k fu h1 h4
    obtain ⟨fu, rfl⟩ : ∃ f, fu = f + 1 := ⟨fu - 1, by omega⟩
    have bd := yDv_b hx k
    have c1 : iI (b : Int) ≤ iI k := by rw [iI_le (by omega) (by omega)]; omega
    unfold f_X3_noteOf_7
    rw [if_pos c1, iL_10, nz, Option.bind_some, iI_div (by omega) (by omega), iI_mul, iI_sub, show b = k by omega]
    rfl
  | succ r ih =>
    intro k fu h1 h4
    obtain ⟨fu, rfl⟩ : ∃ f, fu = f + 1 := ⟨fu - 1, by omega⟩
    have bd := yDv_b hx k
    have c1 : ¬ iI (b : Int) ≤ iI k := by rw [iI_le (by omega) (by omega)]; omega
    have i2 := ih (k + 1) fu (by omega) (by omega)
    unfold f_X3_noteOf_7
    rw [if_neg c1, iL_10, nz, Option.bind_some, iI_div (by omega) (by omega), iL_1, iI_add]
    exact i2
theorem bk_t3 {z e nh nc nt : Nat} {ha ca ta : Nat → Nat} {B : Nat → Int} {H C T : Nat → Nat → Int} {w : xWd} (h : xBk z e nh nc nt ha ca ta B H C T w) {k : Nat} (hk : k < nt) : xk_gI w (some (ta k)) 4 3 = some (iI (T k 3)) := xr_gI (k := 3) (bk_t h hk) rfl
theorem x3_noteOf {z e nh nc nt : Nat} {ha ca ta : Nat → Nat} {B : Nat → Int} {H C T : Nat → Nat → Int} {w : xWd} (h : xBk z e nh nc nt ha ca ta B H C T w) (v : xVB nh nc nt B H C T) {k b : Nat} (hk : k < nt) (hb : b ≤ 100) : f_X3_noteOf (some (ta k)) (iI b) w = some (iI (yNo (T k 3) b), w) := by
  have hv := yv_t v hk
  unfold f_X3_noteOf
  rw [bk_t3 h hk, Option.bind_some, iL_0]
  exact x3_noteOf_l (x := T k 3) (by omega) hb w b 0 4096 (by omega) (by omega)
/-- the sum of notes -/
def yNs (x : Int) : Int := yS' (yNo x) 9
theorem x3_sum_l {z e nh nc nt : Nat} {ha ca ta : Nat → Nat} {B : Nat → Int} {H C T : Nat → Nat → Int} {w : xWd} (h : xBk z e nh nc nt ha ca ta B H C T w) (v : xVB nh nc nt B H C T) {t : Nat} (ht : t < nt) : ∀ (r k fu : Nat), k + r = 9 → r < fu → f_X3_sumOfNotes_4 fu (some (ta t)) (iI (yS' (yNo (T t 3)) k)) (iI k) w = some (iI (yNs (T t 3)), w) := by
  have his : xk_is w (some (ta t)) 4 = some () := xr_is (bk_t h ht)
  intro r
  induction r with
  | zero =>
    intro k fu h1 h4
    obtain ⟨fu, rfl⟩ : ∃ f, fu = f + 1 := ⟨fu - 1, by omega⟩
    have e : k = 9 := by omega
    subst e
    unfold f_X3_sumOfNotes_4
    rw [if_pos (by decide)]
    rfl
  | succ r ih =>
    intro k fu h1 h4
    obtain ⟨fu, rfl⟩ : ∃ f, fu = f + 1 := ⟨fu - 1, by omega⟩
    have c1 : ¬ (9 : Int32) ≤ iI k := by rw [iL_9, iI_le (by omega) (by omega)]; omega
    have i2 := ih (k + 1) fu (by omega) (by omega)
    have e3 : ∀ x : Int, iI x + (1 : Int32) = iI (x + 1) := fun x => by rw [iL_1, iI_add]
    rw [yS'_e] at i2
    unfold f_X3_sumOfNotes_4
    simp only [if_neg c1, his, Option.bind_some, x3_noteOf h v ht (show k ≤ 100 by omega), iI_add, e3]
    exact i2
theorem x3_sumOfNotes {z e nh nc nt : Nat} {ha ca ta : Nat → Nat} {B : Nat → Int} {H C T : Nat → Nat → Int} {w : xWd} (h : xBk z e nh nc nt ha ca ta B H C T w) (v : xVB nh nc nt B H C T) {t : Nat} (ht : t < nt) : f_X3_sumOfNotes (some (ta t)) w = some (iI (yNs (T t 3)), w) := x3_sum_l h v ht 9 0 4096 (by omega) (by omega)
/-- what ofTake answers -/
def yTak (C T : Nat → Nat → Int) (t : Nat) : Nat → Int
  | 0 => (T t 1) | 1 => T t 2 | 2 => T t 4 | 3 => if yVd C T t then 1 else 0 | _ => yNs (T t 3)
theorem x4_ofTake {z e nh nc nt : Nat} {ha ca ta : Nat → Nat} {B : Nat → Int} {H C T : Nat → Nat → Int} {w : xWd} (h : xBk z e nh nc nt ha ca ta B H C T w) (v : xVB nh nc nt B H C T) {t k : Nat} (ht : t < nt) (hk : k ≤ 4) : f_X4_ofTake (some z) (iI t) (iI k) w = some (iI (yTak C T t k), w) := by
  have hn := yv_n v
  obtain ⟨l1, l2, l3⟩ := bk_lt h
  have hT := bk_t h ht
  have hv := yv_t v ht
  have hc := bk_tc h v ht
  have hC := bk_c h hc
  have c1 : ¬ iI (t : Int) < (0 : Int32) := by rw [iL_0, iI_lt (by omega) (by omega)]; omega
  have c2 : iI (t : Int) < iI (nt : Int) := by rw [iI_lt (by omega) (by omega)]; omega
  have hcc : xk_cc w (some (ta t)) 4 = some () := xr_cc hT
  have his : xk_is w (some (ta t)) 4 = some () := xr_is hT
  have g2 : xk_gI w (some (ta t)) 4 2 = some (iI (T t 2)) := xr_gI (k := 2) hT rfl
  have g4 : xk_gI w (some (ta t)) 4 4 = some (iI (T t 4)) := xr_gI (k := 4) hT rfl
  have g0 : xk_gI w (some (ca (T t 1).toNat)) 1 0 = some (iI (T t 1)) := by
    refine (xr_gI (k := 0) hC.1 rfl).trans ?_
    rw [(yv_c v hc).2.1]
    congr 2
    omega
  have d0 : (if yVd C T t = true then some ((1 : Int32), w) else some (0, w)) = some (iI (if yVd C T t then 1 else 0), w) := by cases yVd C T t <;> rfl
  unfold f_X4_ofTake f_X4_ofTake_102
  simp only [if_neg c1, bk_takes h, Option.bind_some, l1, l2, if_pos c2, l3 t ht, hcc, his, bk_t1 h ht]
  rcases (show k = 0 ∨ k = 1 ∨ k = 2 ∨ k = 3 ∨ k = 4 by omega) with rfl | rfl | rfl | rfl | rfl
  · rw [if_pos (by decide), g0]; rfl
  · rw [if_neg (by decide), if_pos (by decide), g2]; rfl
  · iterate 2 rw [if_neg (by decide)]
    rw [if_pos (by decide), g4]; rfl
  · iterate 3 rw [if_neg (by decide)]
    rw [if_pos (by decide)]; simp only [x3_isValid h v ht, Option.bind_some, xi_if, d0]; rfl
  · iterate 4 rw [if_neg (by decide)]
    rw [if_pos (by decide)]; simp only [x3_sumOfNotes h v ht, Option.bind_some]; rfl
/-- may frames be put in or taken out so -/
def yMay (len f n : Int) : Prop := 0 ≤ f ∧ f ≤ len ∧ n ≠ 0 ∧ -999 ≤ n ∧ n ≤ 999 ∧ (n < 0 → f - n ≤ len ∧ 24 ≤ len + n)
theorem x4_badCut {z e nh nc nt : Nat} {ha ca ta : Nat → Nat} {B : Nat → Int} {H C T : Nat → Nat → Int} {w : xWd} (h : xBk z e nh nc nt ha ca ta B H C T w) (v : xVB nh nc nt B H C T) {f n : Int} (hm : yMay (B 5) f n) : f_X4_refuseBadCut (some z) (iI f) (iI n) w = some w := by
  have hn := yv_n v
  obtain ⟨m1, m2, m3, m4, m5, m6⟩ := hm
  unfold f_X4_refuseBadCut f_X4_refuseBadCut_75
  simp only [bk_I5 h, Option.bind_some]
  rw [if_neg (by rw [iL_0, iI_lt (by omega) (by omega)]; omega), if_neg (by rw [iI_lt (by omega) (by omega)]; omega), if_neg (by rw [iL_0, iI_eq (by omega) (by omega)]; omega), if_neg (by rw [iL_m999, iI_lt (by omega) (by omega)]; omega), if_pos (by rw [iL_999, iI_le (by omega) (by omega)]; omega)]
  by_cases c : 0 ≤ n
  · rw [if_pos (by rw [iL_0, iI_le (by omega) (by omega)]; omega)]
  · have := m6 (by omega)
    rw [if_neg (by rw [iL_0, iI_le (by omega) (by omega)]; omega), iI_sub, iI_add, if_neg (by rw [iI_lt (by omega) (by omega)]; omega), if_pos (by rw [iL_24, iI_le (by omega) (by omega)]; omega)]
theorem yMv_b {f a n len : Int} (h1 : 0 ≤ f ∧ f ≤ 50000) (h2 : yMay len a n) : 0 ≤ yMv f a n ∧ yMv f a n ≤ 51000 ∧ yMv f a n ≤ f + 1000 := by
  obtain ⟨m1, m2, m3, m4, m5, m6⟩ := h2
  unfold yMv yOut
  split
  · omega
  · split
    · rename_i q
      have := of_decide_eq_true q
      omega
    · rename_i q
      have q : ¬ (n < 0 ∧ a ≤ f ∧ f < a - n) := fun e => q (decide_eq_true e)
      omega
/-- would a hit be met after the cut -/
def yWb (nc : Nat) (C : Nat → Nat → Int) (s : Nat → Int) (f n : Int) : Bool := (List.range nc).any fun i => yRc (C i) (yMv (C i 1) f n) (yMv (s 0) f n) (s 1)
theorem x4_wouldBe_l {z e nh nc nt : Nat} {ha ca ta : Nat → Nat} {B : Nat → Int} {H C T : Nat → Nat → Int} {w : xWd} (h : xBk z e nh nc nt ha ca ta B H C T w) (v : xVB nh nc nt B H C T) {q : Nat} {s : Nat → Int} {f n : Int} (hm : yMay (B 5) f n) (hq : xHt w q s) (hs : 0 ≤ s 0 ∧ s 0 ≤ 50000) (ht : 0 ≤ s 1 ∧ s 1 ≤ 100) : ∀ (r k fu : Nat), k + r = nc → r < fu → (∀ i, i < k → yRc (C i) (yMv (C i 1) f n) (yMv (s 0) f n) (s 1) = false) → f_X4_wouldBeMet_14 fu (some z) (some q) (iI f) (iI n) (iI (yMv (s 0) f n)) (iI k) w = some (iI (if yWb nc C s f n then 1 else 0), w) := by
  have hn := yv_n v
  obtain ⟨l1, l2, l3⟩ := bk_lc h
  have g1 : xk_gI w (some q) 2 1 = some (iI (s 1)) := xr_gI (k := 1) hq rfl
  have e3 : ∀ x : Int, iI x + (1 : Int32) = iI (x + 1) := fun x => by rw [iL_1, iI_add]
  have bs := yMv_b hs hm
  obtain ⟨m1, m2, m3, m4, m5, m6⟩ := id hm
  intro r
  induction r with
  | zero =>
    intro k fu h1 h4 h5
    obtain ⟨fu, rfl⟩ : ∃ f, fu = f + 1 := ⟨fu - 1, by omega⟩
    have c1 : iI (nc : Int) ≤ iI k := by rw [iI_le (by omega) (by omega)]; omega
    have e : yWb nc C s f n = false := by
      unfold yWb
      rw [List.any_eq_false]
      intro i hi
      rw [h5 i (by have := List.mem_range.mp hi; omega)]
      decide
    unfold f_X4_wouldBeMet_14
    simp only [bk_cues h, Option.bind_some, l1, l2, if_pos c1, e]
    rfl
  | succ r ih =>
    intro k fu h1 h4 h5
    obtain ⟨fu, rfl⟩ : ∃ f, fu = f + 1 := ⟨fu - 1, by omega⟩
    have hk : k < nc := by omega
    have hC := bk_c h hk
    have hB := (yv_c v hk).1
    have c1 : ¬ iI (nc : Int) ≤ iI k := by rw [iI_le (by omega) (by omega)]; omega
    have i2 := ih (k + 1) fu (by omega) (by omega)
    have d1 : xk_gI w (some (ca k)) 1 1 = some (iI (C k 1)) := xr_gI (k := 1) hC.1 rfl
    have d12 : xk_gR w (some (ca k)) 1 12 = some (some (ca k + 3)) := xr_gR (k := 12) hC.1 rfl
    have mv := x4_moved (f := C k 1) (a := f) (n := n) w ⟨hB.1, by have := hB.2.1; omega⟩ (by omega) (by omega)
    have bc := yMv_b ⟨hB.1, hB.2.1⟩ hm
    have rea := x0_reaches (ro := ca k + 3) (o := fun j => C k (22 + 3 * j)) hC hB hC.2.2.2 (xCB_o hB) (f := yMv (s 0) f n) (tol := s 1) (st := yMv (C k 1) f n) (by omega) ht (by omega)
    unfold f_X4_wouldBeMet_14
    simp only [bk_cues h, Option.bind_some, l1, l2, if_neg c1, l3 k hk, xr_cc hC.1, g1, d1, mv, d12, xr_is hC.1, rea, xi_if, e3]
    cases c5 : yReach (fun j => C k (22 + 3 * j)) (yMv (C k 1) f n) (yMv (s 0) f n) (s 1) (C k 10).toNat
    · refine i2 (fun i hi => ?_)
      by_cases q : i = k
      · rw [q]; exact c5
      · exact h5 i (by omega)
    · have e : yWb nc C s f n = true := by
        unfold yWb
        rw [List.any_eq_true]
        exact ⟨k, List.mem_range.mpr hk, c5⟩
      rw [e]
      rfl
theorem x4_wouldBe {z e nh nc nt : Nat} {ha ca ta : Nat → Nat} {B : Nat → Int} {H C T : Nat → Nat → Int} {w : xWd} (h : xBk z e nh nc nt ha ca ta B H C T w) (v : xVB nh nc nt B H C T) {q : Nat} {s : Nat → Int} {f n : Int} (hm : yMay (B 5) f n) (hq : xHt w q s) (hs : 0 ≤ s 0 ∧ s 0 ≤ 50000) (ht : 0 ≤ s 1 ∧ s 1 ≤ 100) : f_X4_wouldBeMet (some z) (some q) (iI f) (iI n) w = some (iI (if yWb nc C s f n then 1 else 0), w) := by
  have hn := yv_n v
  have g0 : xk_gI w (some q) 2 0 = some (iI (s 0)) := xr_gI (k := 0) hq rfl
  have mv := x4_moved (f := s 0) (a := f) (n := n) w (by omega) (by have := hm.1; have := hm.2.1; omega) (by have := hm.2.2.2.1; have := hm.2.2.2.2.1; omega)
  unfold f_X4_wouldBeMet
  have key : f_X4_wouldBeMet_14 4096 (some z) (some q) (iI f) (iI n) (iI (yMv (s 0) f n)) (iI ((0 : Nat) : Int)) w = some (iI (if yWb nc C s f n then 1 else 0), w) := x4_wouldBe_l h v hm hq hs ht nc 0 4096 (by omega) (by omega) (fun i hi => absurd hi (by omega))
  rw [show iI ((0 : Nat) : Int) = (0 : Int32) by decide] at key
  rw [g0, Option.bind_some, mv, Option.bind_some]
  exact key
/-- does a hit count after the cut -/
def yWm (nc : Nat) (C : Nat → Nat → Int) (f n : Int) (s : Nat → Int) : Bool := decide (s 2 = 0) && (!yOut (s 0) f n && yWb nc C s f n)
theorem x4_wouldMeet_l {z e nh nc nt : Nat} {ha ca ta : Nat → Nat} {B : Nat → Int} {H C T : Nat → Nat → Int} {w : xWd} (h : xBk z e nh nc nt ha ca ta B H C T w) (v : xVB nh nc nt B H C T) {f n : Int} (hm : yMay (B 5) f n) : ∀ (r k fu : Nat), k + r = nh → r < fu → f_X4_wouldMeet_11 fu (some z) (iI f) (iI n) (iI (yCt (fun i => yWm nc C f n (H i)) k)) (iI k) w = some (iI (yCt (fun i => yWm nc C f n (H i)) nh), w) := by
  have hn := yv_n v
  obtain ⟨l1, l2, l3⟩ := bk_lh h
  obtain ⟨m1, m2, m3, m4, m5, m6⟩ := id hm
  intro r
  induction r with
  | zero =>
    intro k fu h1 h4
    obtain ⟨fu, rfl⟩ : ∃ f, fu = f + 1 := ⟨fu - 1, by omega⟩
    have c1 : iI (nh : Int) ≤ iI k := by rw [iI_le (by omega) (by omega)]; omega
    unfold f_X4_wouldMeet_11
    simp only [bk_hits h, Option.bind_some, l1, l2, if_pos c1]
    rw [show nh = k by omega]
  | succ r ih =>
    intro k fu h1 h4
    obtain ⟨fu, rfl⟩ : ∃ f, fu = f + 1 := ⟨fu - 1, by omega⟩
    have hk : k < nh := by omega
    have hH := bk_h h hk
    obtain ⟨b1, b2, b3, b4, b5⟩ := yv_h v hk
    have c1 : ¬ iI (nh : Int) ≤ iI k := by rw [iI_le (by omega) (by omega)]; omega
    have e3 : ∀ x : Int, iI x + (1 : Int32) = iI (x + 1) := fun x => by rw [iL_1, iI_add]
    have i2 := ih (k + 1) fu (by omega) (by omega)
    have hcc : xk_cc w (some (ha k)) 2 = some () := xr_cc hH
    have g0 : xk_gI w (some (ha k)) 2 0 = some (iI (H k 0)) := xr_gI (k := 0) hH rfl
    have g2 : xk_gI w (some (ha k)) 2 2 = some (iI (H k 2)) := xr_gI (k := 2) hH rfl
    have io := x4_isOut (f := H k 0) (a := f) (n := n) w (by omega) (by omega) (by omega)
    rw [yCt_e] at i2
    unfold f_X4_wouldMeet_11 f_X4_wouldMeet_72
    simp only [bk_hits h, Option.bind_some, l1, l2, if_neg c1, l3 k hk, hcc, bk_is h, g0, g2, io, x4_wouldBe h v hm hH (by omega) (by omega), xi_if, e3]
    by_cases c2 : H k 2 = 0
    · rw [if_pos (by rw [c2, iL_0])]
      cases c3 : yOut (H k 0) f n
      · cases c4 : yWb nc C (H k) f n
        · have e : yWm nc C f n (H k) = false := by unfold yWm; rw [c4, Bool.and_false, Bool.and_false]
          rw [e] at i2
          simp only [Bool.false_eq_true, if_false, Int.add_zero] at i2 ⊢
          exact i2
        · have e : yWm nc C f n (H k) = true := by unfold yWm; rw [c4, c3, decide_eq_true c2]; rfl
          rw [e] at i2
          simp only [Bool.false_eq_true, if_false, if_true] at i2 ⊢
          exact i2
      · have e : yWm nc C f n (H k) = false := by unfold yWm; rw [c3, Bool.not_true, Bool.false_and, Bool.and_false]
        rw [e] at i2
        simp only [Bool.false_eq_true, if_false, if_true, Int.add_zero] at i2 ⊢
        exact i2
    · rw [if_neg (by rw [iL_0, iI_eq (by omega) (by omega)]; exact c2)]
      have e : yWm nc C f n (H k) = false := by unfold yWm; rw [decide_eq_false c2, Bool.false_and]
      rw [e] at i2
      simp only [Bool.false_eq_true, if_false, Int.add_zero] at i2 ⊢
      exact i2
/-- hits that would be met -/
def yWo (nh nc : Nat) (H C : Nat → Nat → Int) (f n : Int) : Int := yCt (fun i => yWm nc C f n (H i)) nh
theorem x4_wouldMeet {z e nh nc nt : Nat} {ha ca ta : Nat → Nat} {B : Nat → Int} {H C T : Nat → Nat → Int} {w : xWd} (h : xBk z e nh nc nt ha ca ta B H C T w) (v : xVB nh nc nt B H C T) {f n : Int} (hm : yMay (B 5) f n) : f_X4_wouldMeet (some z) (iI f) (iI n) w = some (iI (yWo nh nc H C f n), w) := by
  have hn := yv_n v
  unfold f_X4_wouldMeet
  simp only [bk_is h, Option.bind_some, x4_badCut h v hm]
  exact x4_wouldMeet_l h v hm nh 0 4096 (by omega) (by omega)
