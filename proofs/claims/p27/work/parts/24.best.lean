/-- the rooms for what would be, written -/
theorem bk_scr {z e nh nc nt : Nat} {ha ca ta : Nat → Nat} {B : Nat → Int} {H C T : Nat → Nat → Int} {w : xWd} (h : xBk z e nh nc nt ha ca ta B H C T w) {w' : xWd} {O : Nat → Int} {M : Nat → Int32} (h2 : w'.2 = w.2) (ho : ∀ q, q ≠ z + 8 → q ≠ z + 9 → w'.1 q = w.1 q) (h8 : w'.1 (z + 8) = some (.inl (0, 63, .inl (fun i => iI (O i))))) (hO : ∀ i, i < 63 → 0 ≤ O i ∧ O i ≤ 3000) (h9 : w'.1 (z + 9) = some (.inl (1, 12, .inl M))) : xBk z e nh nc nt ha ca ta B H C T w' ∧ xFr z e w w' := by
  obtain ⟨a1, a2, ⟨d1, a3, a3'⟩, ⟨d2, a4, a4'⟩, ⟨tr, pr, np, pa, b, W, j1, j2, j3, j4, j5, j6, j7⟩, ⟨O', a6, a6'⟩, ⟨M', a7⟩, a8, a9, a10, a11, a12, a13⟩ := h
  have hA : w'.2.2.1 = w.2.2.1 := by rw [h2]
  have hrow : ∀ {al ad n : Nat} {a : Nat → Nat}, xl_R w al ad n a → w'.1 ad = w.1 ad := by
    intro al ad n a hl
    rcases xl_row hl with q | ⟨x, q⟩
    · exact ho ad (by omega) (by omega)
    · exact ho ad (fun c => by rw [c, a6] at q; cases q) (fun c => by rw [c, a7] at q; cases q)
  have hc : ∀ k, k < nc → xC w' (ca k) (C k) := fun k hk => by
    obtain ⟨b1, b2, b3, -⟩ := a9 k hk
    exact ⟨(ho _ (by omega) (by omega)).trans b3.1, (ho _ (by omega) (by omega)).trans b3.2.1, (ho _ (by omega) (by omega)).trans b3.2.2.1, (ho _ (by omega) (by omega)).trans b3.2.2.2⟩
  refine ⟨⟨(ho _ (by omega) (by omega)).trans a1, (ho _ (by omega) (by omega)).trans a2, ⟨d1, xl_fr a3 h2 (ho _ (by omega) (by omega)) (hrow a3), by rw [hA]; exact a3'⟩, ⟨d2, xl_fr a4 h2 (ho _ (by omega) (by omega)) (hrow a4), by rw [hA]; exact a4'⟩,
    ⟨tr, pr, np, pa, b, W, xl_fr j1 h2 (ho _ (by omega) (by omega)) (hrow j1), by rw [hA]; exact j2, (ho _ (by omega) (by omega)).trans j3, xl_fr j4 h2 (ho _ (by omega) (by omega)) (hrow j4), by rw [hA]; exact j5, by rw [hA]; exact j6, (ho _ (by omega) (by omega)).trans j7⟩,
    ⟨O, h8, hO⟩, ⟨M, h9⟩, fun k hk => ⟨(a8 k hk).1, (a8 k hk).2.1, (ho _ (by have := (a8 k hk).1; omega) (by have := (a8 k hk).1; omega)).trans (a8 k hk).2.2.1, (a8 k hk).2.2.2⟩, fun k hk => ⟨(a9 k hk).1, (a9 k hk).2.1, hc k hk, (a9 k hk).2.2.2⟩,
    fun k hk => ⟨(a10 k hk).1, by rw [h2]; exact (a10 k hk).2.1, (ho _ (by have := (a10 k hk).1; omega) (by have := (a10 k hk).1; omega)).trans (a10 k hk).2.2⟩, by rw [hA]; exact a11, a12, by rw [h2]; exact a13⟩, ?_⟩
  exact ⟨by rw [h2]; exact Nat.le_refl _, by rw [h2], fun q _ hq _ _ _ => ho q (by omega) (by omega)⟩
theorem vp_narb (b : Bool) : vp_nar .boolean (iI (if b = true then 1 else 0)) = iI (if b = true then 1 else 0) := by cases b <;> decide
/-- the marks stand in the world -/
def xMk (z nh : Nat) (w : xWd) (mb : Nat → Bool) (k : Nat) : Prop := ∃ M : Nat → Int32, w.1 (z + 9) = some (.inl (1, 12, .inl M)) ∧ ∀ i, i < k → M i = iI (if mb i then 1 else 0)
theorem x4_mark_l {z e nh nc nt : Nat} {ha ca ta : Nat → Nat} {B : Nat → Int} {H C T : Nat → Nat → Int} (v : xVB nh nc nt B H C T) {but : Int} (hb : -1 ≤ but ∧ but ≤ 100) : ∀ (r k fu : Nat) (w : xWd), xBk z e nh nc nt ha ca ta B H C T w → xMk z nh w (fun i => yMb nc C but (H i)) k → k + r = nh → r < fu →
    ∃ w', f_X4_markMetByOthers_2 fu (some z) (iI but) (iI k) w = some w' ∧ xBk z e nh nc nt ha ca ta B H C T w' ∧ xMk z nh w' (fun i => yMb nc C but (H i)) nh ∧ xFr z e w w' ∧ w'.1 (z + 8) = w.1 (z + 8) := by
  have hn := yv_n v
  intro r
  induction r with
  | zero =>
    intro k fu w h hM h1 h4
    obtain ⟨fu, rfl⟩ : ∃ f, fu = f + 1 := ⟨fu - 1, by omega⟩
    obtain ⟨l1, l2, l3⟩ := bk_lh h
    have c1 : iI (nh : Int) ≤ iI k := by rw [iI_le (by omega) (by omega)]; omega
    refine ⟨w, ?_, h, by rw [show nh = k by omega]; rw [show nh = k by omega] at hM; exact hM, xFr_r _ _ _, rfl⟩
    unfold f_X4_markMetByOthers_2 f_X4_markMetByOthers_50
    simp only [bk_hits h, Option.bind_some, l1, l2, if_pos c1]
  | succ r ih =>
    intro k fu w h hM h1 h4
    obtain ⟨fu, rfl⟩ : ∃ f, fu = f + 1 := ⟨fu - 1, by omega⟩
    have hk : k < nh := by omega
    obtain ⟨l1, l2, l3⟩ := bk_lh h
    have hH := bk_h h hk
    obtain ⟨b1, b2, b3, b4, b5⟩ := yv_h v hk
    obtain ⟨M, m1, m2⟩ := hM
    obtain ⟨O, o1, o2⟩ := h.2.2.2.2.2.1
    have c1 : ¬ iI (nh : Int) ≤ iI k := by rw [iI_le (by omega) (by omega)]; omega
    have c2 : ¬ Int32.ofNat 12 ≤ iI k := by rw [xi_nat, iI_le (by omega) (by omega)]; omega
    have eL := xr_len (d := (12, .inl M)) m1 (by decide)
    have e3 : ∀ x : Int, iI x + (1 : Int32) = iI (x + 1) := fun x => by rw [iL_1, iI_add]
    have hcc : xk_cc w (some (ha k)) 2 = some () := xr_cc hH
    have mb := x4_isMetBut h v hb hH (by omega) (by omega) b5
    have st := xr_sI (v := iI (if yMb nc C but (H k) then 1 else 0)) m1 (i := (k : Int)) (by omega) (by omega) (by omega)
    rw [Int.toNat_natCast] at st
    obtain ⟨w1, hw1⟩ : ∃ w1 : xWd, w1 = (va_up w.1 (z + 9) (some (.inl (1, 12, .inl (upd M k (iI (if yMb nc C but (H k) then 1 else 0)))))), w.2) := ⟨_, rfl⟩
    rw [← hw1] at st
    have q9 : w1.1 (z + 9) = some (.inl (1, 12, .inl (upd M k (iI (if yMb nc C but (H k) then 1 else 0))))) := by rw [hw1]; exact xk_up_s _ _ _
    have qn : ∀ q, q ≠ z + 9 → w1.1 q = w.1 q := fun q hq => by rw [hw1]; exact xk_up_n _ _ hq
    obtain ⟨k1, f1⟩ := bk_scr h (w' := w1) (O := O) (by rw [hw1]) (fun q _ hq => qn q hq) ((qn _ (by omega)).trans o1) o2 q9
    have hM1 : xMk z nh w1 (fun i => yMb nc C but (H i)) (k + 1) := by
      refine ⟨_, q9, fun i hi => ?_⟩
      by_cases c : i = k
      · subst c; simp [upd]
      · simp only [upd, if_neg c]
        exact m2 i (by omega)
    obtain ⟨w', i1, i2, i3, i4, i5⟩ := ih (k + 1) fu w1 k1 hM1 (by omega) (by omega)
    refine ⟨w', ?_, i2, i3, xFr_t f1 i4, i5.trans (qn _ (by omega))⟩
    unfold f_X4_markMetByOthers_2
    simp only [bk_hits h, bk_others h, Option.bind_some, l1, l2, if_neg c1, eL, if_neg c2, l3 k hk, hcc, bk_is h, mb, vp_narb, st, e3]
    exact i1
theorem x4_mark {z e nh nc nt : Nat} {ha ca ta : Nat → Nat} {B : Nat → Int} {H C T : Nat → Nat → Int} {w : xWd} (h : xBk z e nh nc nt ha ca ta B H C T w) (v : xVB nh nc nt B H C T) {but : Int} (hb : -1 ≤ but ∧ but ≤ 100) : ∃ w', f_X4_markMetByOthers (some z) (iI but) w = some w' ∧ xBk z e nh nc nt ha ca ta B H C T w' ∧ xMk z nh w' (fun i => yMb nc C but (H i)) nh ∧ xFr z e w w' ∧ w'.1 (z + 8) = w.1 (z + 8) := by
  have hn := yv_n v
  obtain ⟨M, m1⟩ := h.2.2.2.2.2.2.1
  have z0 : iI ((0 : Nat) : Int) = (0 : Int32) := by decide
  have := x4_mark_l v hb nh 0 4096 w h ⟨M, m1, fun i hi => absurd hi (by omega)⟩ (by omega) (by omega)
  rw [z0] at this
  unfold f_X4_markMetByOthers
  exact this
/-- is hit i met, with the cue at st by the row o -/
def yPw1 (mb : Nat → Bool) (H : Nat → Nat → Int) (o : Nat → Int) (st : Int) (n : Nat) (i : Nat) : Bool := mb i || (decide (H i 2 = 0) && yReach o st (H i 0) (H i 1) n)
theorem x4_countWith_l {z e nh nc nt : Nat} {ha ca ta : Nat → Nat} {B : Nat → Int} {H C T : Nat → Nat → Int} {w : xWd} (h : xBk z e nh nc nt ha ca ta B H C T w) (v : xVB nh nc nt B H C T) {mb : Nat → Bool} (hM : xMk z nh w mb nh) {c ro : Nat} {o : Nat → Int} {st : Int} (hc : c < nc) (hr : w.1 ro = some (.inl (0, 63, .inl (fun i => iI (o i))))) (ho : ∀ i, i < 63 → 0 ≤ o i ∧ o i ≤ 3000) (hs : -1000 ≤ st ∧ st ≤ 60000) : ∀ (r k fu : Nat), k + r = nh → r < fu →
    f_X4_countMetWith_6 fu (some z) (some (ca c)) (iI st) (some ro) (iI (yCt (yPw1 mb H o st (C c 10).toNat) k)) (iI k) w = some (iI (yCt (yPw1 mb H o st (C c 10).toNat) nh), w) := by
  have hn := yv_n v
  obtain ⟨l1, l2, l3⟩ := bk_lh h
  have hC := bk_c h hc
  have hB := (yv_c v hc).1
  obtain ⟨M, m1, m2⟩ := hM
  have eL := xr_len (d := (12, .inl M)) m1 (by decide)
  intro r
  induction r with
  | zero =>
    intro k fu h1 h4
    obtain ⟨fu, rfl⟩ : ∃ f, fu = f + 1 := ⟨fu - 1, by omega⟩
    have c1 : iI (nh : Int) ≤ iI k := by rw [iI_le (by omega) (by omega)]; omega
    unfold f_X4_countMetWith_6 f_X4_countMetWith_88
    simp only [bk_hits h, Option.bind_some, l1, l2, if_pos c1]
    rw [show nh = k by omega]
  | succ r ih =>
    intro k fu h1 h4
    obtain ⟨fu, rfl⟩ : ∃ f, fu = f + 1 := ⟨fu - 1, by omega⟩
    have hk : k < nh := by omega
    have hH := bk_h h hk
    obtain ⟨b1, b2, b3, b4, b5⟩ := yv_h v hk
    have c1 : ¬ iI (nh : Int) ≤ iI k := by rw [iI_le (by omega) (by omega)]; omega
    have c2 : ¬ Int32.ofNat 12 ≤ iI k := by rw [xi_nat, iI_le (by omega) (by omega)]; omega
    have e3 : ∀ x : Int, iI x + (1 : Int32) = iI (x + 1) := fun x => by rw [iL_1, iI_add]
    have i2 := ih (k + 1) fu (by omega) (by omega)
    have hcc : xk_cc w (some (ha k)) 2 = some () := xr_cc hH
    have g0 : xk_gI w (some (ha k)) 2 0 = some (iI (H k 0)) := xr_gI (k := 0) hH rfl
    have g1 : xk_gI w (some (ha k)) 2 1 = some (iI (H k 1)) := xr_gI (k := 1) hH rfl
    have g2 : xk_gI w (some (ha k)) 2 2 = some (iI (H k 2)) := xr_gI (k := 2) hH rfl
    have rea := x0_reaches (ro := ro) (o := o) hC hB hr ho (f := H k 0) (tol := H k 1) (st := st) (by omega) (by omega) hs
    have el : xk_lI 1 w (some (z + 9)) (iI (k : Int)) = some (iI (if mb k then 1 else 0)) := by
      have := xr_lI m1 (i := (k : Int)) (by omega) (by omega) (by omega)
      rw [Int.toNat_natCast, m2 k hk] at this
      exact this
    rw [yCt_e] at i2
    unfold f_X4_countMetWith_6 f_X4_countMetWith_79 f_X4_countMetWith_82
    simp only [bk_hits h, bk_others h, Option.bind_some, l1, l2, if_neg c1, eL, if_neg c2, l3 k hk, hcc, el, xi_if, g0, g1, g2, xr_is hC.1, rea, e3]
    cases c3 : mb k
    · by_cases c4 : H k 2 = 0
      · have c4' : iI (H k 2) = (0 : Int32) := by rw [c4, iL_0]
        cases c5 : yReach o st (H k 0) (H k 1) (C c 10).toNat
        · have e : yPw1 mb H o st (C c 10).toNat k = false := by unfold yPw1; rw [c3, c5, Bool.and_false]; rfl
          rw [e] at i2
          simp only [Bool.false_eq_true, if_false, Int.add_zero, if_pos c4'] at i2 ⊢
          exact i2
        · have e : yPw1 mb H o st (C c 10).toNat k = true := by unfold yPw1; rw [c3, c5, decide_eq_true c4]; rfl
          rw [e] at i2
          simp only [Bool.false_eq_true, if_false, if_true, if_pos c4'] at i2 ⊢
          exact i2
      · have c4' : ¬ iI (H k 2) = (0 : Int32) := by rw [iL_0, iI_eq (by omega) (by omega)]; exact c4
        have e : yPw1 mb H o st (C c 10).toNat k = false := by unfold yPw1; rw [c3, decide_eq_false c4, Bool.false_and]; rfl
        rw [e] at i2
        simp only [Bool.false_eq_true, if_false, Int.add_zero, if_neg c4'] at i2 ⊢
        exact i2
    · have e : yPw1 mb H o st (C c 10).toNat k = true := by unfold yPw1; rw [c3, Bool.true_or]
      rw [e] at i2
      simp only [if_true] at i2 ⊢
      exact i2
theorem x4_countWith {z e nh nc nt : Nat} {ha ca ta : Nat → Nat} {B : Nat → Int} {H C T : Nat → Nat → Int} {w : xWd} (h : xBk z e nh nc nt ha ca ta B H C T w) (v : xVB nh nc nt B H C T) {mb : Nat → Bool} (hM : xMk z nh w mb nh) {c ro : Nat} {o : Nat → Int} {st : Int} (hc : c < nc) (hr : w.1 ro = some (.inl (0, 63, .inl (fun i => iI (o i))))) (ho : ∀ i, i < 63 → 0 ≤ o i ∧ o i ≤ 3000) (hs : -1000 ≤ st ∧ st ≤ 60000) :
    f_X4_countMetWith (some z) (some (ca c)) (iI st) (some ro) w = some (iI (yCt (yPw1 mb H o st (C c 10).toNat) nh), w) := by
  have hn := yv_n v
  have := x4_countWith_l h v hM hc hr ho hs nh 0 4096 (by omega) (by omega)
  have z0 : iI ((0 : Nat) : Int) = (0 : Int32) := by decide
  have y0 : iI (yCt (yPw1 mb H o st (C c 10).toNat) 0) = (0 : Int32) := by show iI 0 = (0 : Int32); decide
  rw [y0, z0] at this
  unfold f_X4_countMetWith
  exact this
