/-- the pool out of the first k takes -/
def yPool (C T : Nat → Nat → Int) (c : Nat) : Nat → Nat × (Nat → Nat)
  | 0 => (0, fun _ => 0)
  | k + 1 => if yVc C T c k then ((yPool C T c k).1 + 1, va_up (yPool C T c k).2 (yPool C T c k).1 k) else yPool C T c k
theorem yPool_s (C T : Nat → Nat → Int) (c : Nat) : ∀ k : Nat, (yPool C T c k).1 ≤ k ∧ (∀ i, i < (yPool C T c k).1 → (yPool C T c k).2 i < k ∧ yVc C T c ((yPool C T c k).2 i) = true) ∧ ∀ t, t < k → yVc C T c t = true → ∃ i, i < (yPool C T c k).1 ∧ (yPool C T c k).2 i = t := by
  intro k
  induction k with
  | zero => exact ⟨Nat.le_refl _, fun i hi => absurd hi (by show ¬ i < 0; omega), fun t ht => absurd ht (by omega)⟩
  | succ k ih =>
    obtain ⟨h1, h2, h3⟩ := ih
    have e : yPool C T c (k + 1) = if yVc C T c k then ((yPool C T c k).1 + 1, va_up (yPool C T c k).2 (yPool C T c k).1 k) else yPool C T c k := rfl
    rw [e]
    cases d : yVc C T c k
    · rw [if_neg (by decide)]
      refine ⟨by omega, fun i hi => ⟨by have := (h2 i hi).1; omega, (h2 i hi).2⟩, fun t ht hv => ?_⟩
      by_cases q : t = k
      · rw [q, d] at hv; cases hv
      · exact h3 t (by omega) hv
    · rw [if_pos rfl]
      refine ⟨by show (yPool C T c k).1 + 1 ≤ k + 1; omega, fun i hi => ?_, fun t ht hv => ?_⟩
      · show va_up (yPool C T c k).2 (yPool C T c k).1 k i < k + 1 ∧ yVc C T c (va_up (yPool C T c k).2 (yPool C T c k).1 k i) = true
        by_cases q : i = (yPool C T c k).1
        · rw [q, xk_up_s]; exact ⟨by omega, d⟩
        · rw [xk_up_n _ _ q]
          have hi' : i < (yPool C T c k).1 + 1 := hi
          have := h2 i (by omega)
          exact ⟨by omega, this.2⟩
      · by_cases q : t = k
        · refine ⟨(yPool C T c k).1, by show (yPool C T c k).1 < (yPool C T c k).1 + 1; omega, ?_⟩
          show va_up (yPool C T c k).2 (yPool C T c k).1 k (yPool C T c k).1 = t
          rw [xk_up_s, q]
        · obtain ⟨i, i1, i2⟩ := h3 t (by omega) hv
          refine ⟨i, by show i < (yPool C T c k).1 + 1; omega, ?_⟩
          show va_up (yPool C T c k).2 (yPool C T c k).1 k i = t
          rw [xk_up_n _ _ (by omega), i2]
/-- the room of joins: bars b, a pool of n takes pl, worths W -/
def xJs (z : Nat) (ta : Nat → Nat) (pr0 : Nat) (w0 w : xWd) (b : Int) (n : Nat) (pl : Nat → Nat) (W : Nat → Int32) : Prop :=
  xJf z pr0 w0 w ∧ w.1 (z + 5) = some (.inr (3, [.ref (z + 6), .int (iI b), .ref (z + 7)])) ∧ (∃ pr, xl_R w (z + 6) pr n (fun i => ta (pl i)) ∧ (pr = w0.2.2.1 ∨ pr = pr0 ∨ w0.2.1 ≤ pr)) ∧ w.1 (z + 7) = some (.inl (0, 360, .inl W))
theorem xJs_bk {z e nh nc nt : Nat} {ha ca ta : Nat → Nat} {B : Nat → Int} {H C T : Nat → Nat → Int} {w0 w : xWd} {pr0 : Nat} {b : Int} {n : Nat} {pl : Nat → Nat} {W : Nat → Int32}
    (J : ∀ (w' : xWd) (pr' np' : Nat) (pa' : Nat → Nat) (b' : Int32) (W' : Nat → Int32), xJf z pr0 w0 w' → w'.1 (z + 5) = some (.inr (3, [.ref (z + 6), .int b', .ref (z + 7)])) → xl_R w' (z + 6) pr' np' pa' → (pr' = w0.2.2.1 ∨ pr' = pr0 ∨ w0.2.1 ≤ pr') → w'.1 (z + 7) = some (.inl (0, 360, .inl W')) → xBk z e nh nc nt ha ca ta B H C T w' ∧ xFr z e w0 w')
    (h : xJs z ta pr0 w0 w b n pl W) : xBk z e nh nc nt ha ca ta B H C T w ∧ xFr z e w0 w := by
  obtain ⟨h1, h2, ⟨pr, h3, h4⟩, h5⟩ := h
  exact J w pr n _ _ W h1 h2 h3 h4 h5
theorem xJs_0 {z : Nat} {ta : Nat → Nat} {pr0 : Nat} {w0 w : xWd} {b : Int} {n : Nat} {pl : Nat → Nat} {W : Nat → Int32} (h : xJs z ta pr0 w0 w b n pl W) : xk_is w (some (z + 5)) 3 = some () ∧ xk_gR w (some (z + 5)) 3 0 = some (some (z + 6)) ∧ xk_gI w (some (z + 5)) 3 1 = some (iI b) ∧ xk_gR w (some (z + 5)) 3 2 = some (some (z + 7)) ∧ xk_is w (some (z + 6)) 5 = some () ∧ f_Jx4a65c_size_8abf5 (some (z + 6)) w = some (iI n, w) ∧ (∀ k : Nat, k < n → f_Jx4a65c_get_915e3 (some (z + 6)) (iI k) w = some (some (ta (pl k)), w)) ∧ n ≤ 64 := by
  obtain ⟨h1, h2, ⟨pr, h3, h4⟩, h5⟩ := h
  refine ⟨xr_is h2, xr_gR (k := 0) h2 rfl, xr_gI (k := 1) h2 rfl, xr_gR (k := 2) h2 rfl, xl_is h3, xl_size h3, fun k hk => ?_, ?_⟩
  · have := xl_get h3 (i := (k : Int)) (by omega) (by omega)
    rw [Int.toNat_natCast] at this
    exact this
  · obtain ⟨mc, q1, q2, q3, q4⟩ := h3
    exact q3
theorem x2_fill17 {z e nh nc nt : Nat} {ha ca ta : Nat → Nat} {B : Nat → Int} {H C T : Nat → Nat → Int} (v : xVB nh nc nt B H C T) {c : Nat} (hc : c < nc) {w0 : xWd} {pr0 : Nat} (hpr : pr0 < w0.2.1) {b : Int} {W : Nat → Int32}
    (J : ∀ (w' : xWd) (pr' np' : Nat) (pa' : Nat → Nat) (b' : Int32) (W' : Nat → Int32), xJf z pr0 w0 w' → w'.1 (z + 5) = some (.inr (3, [.ref (z + 6), .int b', .ref (z + 7)])) → xl_R w' (z + 6) pr' np' pa' → (pr' = w0.2.2.1 ∨ pr' = pr0 ∨ w0.2.1 ≤ pr') → w'.1 (z + 7) = some (.inl (0, 360, .inl W')) → xBk z e nh nc nt ha ca ta B H C T w' ∧ xFr z e w0 w') :
    ∀ (r k fu : Nat) (w : xWd), xJs z ta pr0 w0 w b (yPool C T c k).1 (yPool C T c k).2 W → k + r = nt → r < fu →
    ∃ w', f_X2_fill_17 fu (some (z + 5)) (some (ca c)) (some (z + 4)) (iI k) w = f_X2_fill_74 (some (z + 5)) w' ∧ xJs z ta pr0 w0 w' b (yPool C T c nt).1 (yPool C T c nt).2 W := by
  have hn := yv_n v
  intro r
  induction r with
  | zero =>
    intro k fu w hj h1 h4
    obtain ⟨fu, rfl⟩ : ∃ f, fu = f + 1 := ⟨fu - 1, by omega⟩
    obtain ⟨h, -⟩ := xJs_bk J hj
    obtain ⟨l1, l2, l3⟩ := bk_lt h
    have c1 : iI (nt : Int) ≤ iI k := by rw [iI_le (by omega) (by omega)]; omega
    refine ⟨w, ?_, by rw [show nt = k by omega]; exact hj⟩
    unfold f_X2_fill_17
    simp only [l1, l2, Option.bind_some, if_pos c1]
  | succ r ih =>
    intro k fu w hj h1 h4
    obtain ⟨fu, rfl⟩ : ∃ f, fu = f + 1 := ⟨fu - 1, by omega⟩
    obtain ⟨h, -⟩ := xJs_bk J hj
    obtain ⟨l1, l2, l3⟩ := bk_lt h
    obtain ⟨j1, j2, j3, j4, j5, j6, j7, j8⟩ := xJs_0 hj
    have hk : k < nt := by omega
    have he := bk_e h
    have hT := bk_t h hk
    have c1 : ¬ iI (nt : Int) ≤ iI k := by rw [iI_le (by omega) (by omega)]; omega
    have c2 : ¬ (40 : Int32) ≤ iI k := by rw [iL_40, iI_le (by omega) (by omega)]; omega
    have e3 : iI (k : Int) + (1 : Int32) = iI ((k + 1 : Nat) : Int) := by rw [iL_1, iI_add]; rfl
    have hcc : xk_cc w (some (ta k)) 4 = some () := xr_cc hT
    have his : xk_is w (some (ta k)) 4 = some () := xr_is hT
    have ep : yPool C T c (k + 1) = if yVc C T c k then ((yPool C T c k).1 + 1, va_up (yPool C T c k).2 (yPool C T c k).1 k) else yPool C T c k := rfl
    have i0 := fun w => ih (k + 1) fu w
    rw [ep] at i0
    unfold f_X2_fill_17 f_X2_fill_68
    simp only [l1, l2, Option.bind_some, if_neg c1, if_neg c2, l3 k hk, hcc, his, bk_t1 h hk, x3_isValid h v hk, xi_if, j2, j5, e3]
    by_cases d : (T k 1).toNat = c
    · rw [if_pos (by rw [d])]
      cases c5 : yVd C T k
      · have ev : yVc C T c k = false := by unfold yVc; rw [c5, Bool.and_false]
        rw [ev] at i0
        simp only [Bool.false_eq_true, if_false] at i0 ⊢
        exact i0 w hj (by omega) (by omega)
      · have ev : yVc C T c k = true := by unfold yVc; rw [c5, Bool.and_true]; exact decide_eq_true d
        rw [ev] at i0
        simp only [if_true] at i0 ⊢
        obtain ⟨p1, p2, p3⟩ := yPool_s C T c k
        obtain ⟨⟨f1, f2, f3⟩, g5, ⟨pr, gl, gp⟩, g7⟩ := hj
        have hta : ∀ t, t < nt → (∃ ci fs, w.1 (ta t) = some (.inr (ci, fs))) ∧ ta t < w.2.1 ∧ ta t ≠ z + 6 := by
          intro t ht
          have ht1 := h.2.2.2.2.2.2.2.2.2.1 t ht
          exact ⟨⟨4, _, ht1.2.2⟩, ht1.2.1, by have := ht1.1; omega⟩
        obtain ⟨ad', w', a1, a2, a3, a4⟩ := xl_add gl (by omega) (by omega) hT (hta k hk).2.2 (hta k hk).2.1 (fun i hi => hta _ (by have := (p2 i hi).1; omega))
        obtain ⟨b1, b2, b3⟩ := a3
        have hA : w.2.2.1 = w0.2.2.1 := by rw [f2]
        have hz : w.2.2.1 < w.2.1 := by omega
        have q5 : w'.1 (z + 5) = w.1 (z + 5) := b3 _ (by omega) (by
          rintro (q | ⟨q, q'⟩)
          · omega
          · rcases xl_row gl with s | ⟨y, s⟩
            · exact q' s
            · rw [← q, g5] at s; cases s)
        have q7 : w'.1 (z + 7) = w.1 (z + 7) := b3 _ (by omega) (by
          rintro (q | ⟨q, q'⟩)
          · omega
          · rcases xl_row gl with s | ⟨y, s⟩
            · exact q' s
            · rw [← q, g7] at s; cases s)
        have ea : va_up (fun i => ta ((yPool C T c k).2 i)) (yPool C T c k).1 (ta k) = fun i => ta (va_up (yPool C T c k).2 (yPool C T c k).1 k i) := by
          funext i
          by_cases q : i = (yPool C T c k).1
          · rw [q, xk_up_s, xk_up_s]
          · rw [xk_up_n _ _ q, xk_up_n _ _ q]
        rw [ea] at a2
        have hj' : xJs z ta pr0 w0 w' b ((yPool C T c k).1 + 1) (va_up (yPool C T c k).2 (yPool C T c k).1 k) W := by
          refine ⟨⟨by omega, b2.trans f2, fun q h0 h5 h6 h7 h8 => ?_⟩, q5.trans g5, ⟨ad', a2, ?_⟩, q7.trans g7⟩
          · refine (b3 q (by omega) ?_).trans (f3 q h0 h5 h6 h7 h8)
            rintro (s | ⟨s, s'⟩)
            · omega
            · omega
          · rcases a4 with ⟨s, s', -⟩ | ⟨s, -⟩
            · rw [s]; exact gp
            · exact Or.inr (Or.inr (by omega))
        simp only [a1, Option.bind_some]
        exact i0 w' hj' (by omega) (by omega)
    · have ev : yVc C T c k = false := by unfold yVc; rw [decide_eq_false d, Bool.false_and]
      rw [if_neg (fun q => d (bk_ca h (bk_tc h v hk) hc (Option.some.inj q)))]
      rw [ev] at i0
      simp only [Bool.false_eq_true, if_false] at i0
      exact i0 w hj (by omega) (by omega)
