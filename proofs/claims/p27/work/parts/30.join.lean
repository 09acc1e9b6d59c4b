/-- the worths from the last bar backwards: j bars before the last -/
def yVj (T : Nat → Nat → Int) (pl : Nat → Nat) (n nb : Nat) : Nat → Nat → Int
  | 0 => fun p => yNo (T (pl p) 3) (nb - 1)
  | j + 1 => fun p => yNo (T (pl p) 3) (nb - 1 - (j + 1)) + (yBp (fun q => yVj T pl n nb j q - yCp T pl p q) n).2
theorem yCp_0 (T : Nat → Nat → Int) (pl : Nat → Nat) (p : Nat) : yCp T pl p p = 0 := by
  unfold yCp
  rw [if_pos (Or.inl rfl)]
theorem yVj_b {T : Nat → Nat → Int} {pl : Nat → Nat} {n nb : Nat} (hT : ∀ i, i < n → -2 ≤ T (pl i) 4 ∧ T (pl i) 4 ≤ 2) : ∀ j p : Nat, p < n → 0 ≤ yVj T pl n nb j p ∧ yVj T pl n nb j p ≤ 9 * (j + 1) := by
  intro j
  induction j with
  | zero =>
    intro p hp
    have := yNo_b (T (pl p) 3) (nb - 1)
    show 0 ≤ yNo (T (pl p) 3) (nb - 1) ∧ yNo (T (pl p) 3) (nb - 1) ≤ 9 * (((0 : Nat) : Int) + 1)
    omega
  | succ j ih =>
    intro p hp
    have h1 := yNo_b (T (pl p) 3) (nb - 1 - (j + 1))
    obtain ⟨q, q1, q2, q3⟩ := yBp_s (fun q => yVj T pl n nb j q - yCp T pl p q) n (by omega)
    have h2 := q3 p hp
    have h3 := ih p hp
    have h4 := ih q q1
    have h5 := yCp_b hT (ah := (p : Int)) (p := q) (by omega) q1
    have e : yVj T pl n nb (j + 1) p = yNo (T (pl p) 3) (nb - 1 - (j + 1)) + (yBp (fun q => yVj T pl n nb j q - yCp T pl p q) n).2 := rfl
    have e0 := yCp_0 T pl p
    rw [e, q2]
    show 0 ≤ yNo (T (pl p) 3) (nb - 1 - (j + 1)) + (yVj T pl n nb j q - yCp T pl p q) ∧ yNo (T (pl p) 3) (nb - 1 - (j + 1)) + (yVj T pl n nb j q - yCp T pl p q) ≤ 9 * (((j + 1 : Nat) : Int) + 1)
    have h2' : yVj T pl n nb j p - yCp T pl p p ≤ yVj T pl n nb j q - yCp T pl p q := h2
    omega
/-- the worth of a take from bar nb - 1 - j on is at least its own notes -/
theorem yVj_l {T : Nat → Nat → Int} {pl : Nat → Nat} {n nb : Nat} : ∀ j p : Nat, p < n → j + 1 ≤ nb → yS' (yNo (T (pl p) 3)) nb - yS' (yNo (T (pl p) 3)) (nb - 1 - j) ≤ yVj T pl n nb j p := by
  intro j
  induction j with
  | zero =>
    intro p hp hj
    have e : yS' (yNo (T (pl p) 3)) nb = yS' (yNo (T (pl p) 3)) (nb - 1) + yNo (T (pl p) 3) (nb - 1) := by
      have := yS'_e (yNo (T (pl p) 3)) (nb - 1)
      rw [show nb - 1 + 1 = nb by omega] at this
      exact this
    show _ ≤ yNo (T (pl p) 3) (nb - 1)
    rw [e, Nat.sub_zero]
    omega
  | succ j ih =>
    intro p hp hj
    obtain ⟨q, q1, q2, q3⟩ := yBp_s (fun q => yVj T pl n nb j q - yCp T pl p q) n (by omega)
    have h2 : yVj T pl n nb j p - yCp T pl p p ≤ yVj T pl n nb j q - yCp T pl p q := q3 p hp
    have h3 := ih p hp (by omega)
    have e0 := yCp_0 T pl p
    have e : yS' (yNo (T (pl p) 3)) (nb - 1 - j) = yS' (yNo (T (pl p) 3)) (nb - 1 - (j + 1)) + yNo (T (pl p) 3) (nb - 1 - (j + 1)) := by
      have := yS'_e (yNo (T (pl p) 3)) (nb - 1 - (j + 1))
      rw [show nb - 1 - (j + 1) + 1 = nb - 1 - j by omega] at this
      exact this
    show _ ≤ yNo (T (pl p) 3) (nb - 1 - (j + 1)) + (yBp (fun q => yVj T pl n nb j q - yCp T pl p q) n).2
    rw [q2]
    show _ ≤ yNo (T (pl p) 3) (nb - 1 - (j + 1)) + (yVj T pl n nb j q - yCp T pl p q)
    omega
/-- the worths written for the last j bars -/
def xWv (T : Nat → Nat → Int) (pl : Nat → Nat) (n nb : Nat) (W : Nat → Int32) (j : Nat) : Prop := ∀ i p, i < j → p < n → W ((nb - 1 - i) * 40 + p) = iI (yVj T pl n nb i p)
theorem xJs_set {z e : Nat} {ta : Nat → Nat} {pr0 : Nat} {w0 w : xWd} {nb : Int} {n : Nat} {pl : Nat → Nat} {W : Nat → Int32} (h : xJs z ta pr0 w0 w nb n pl W) {i : Nat} (hi : i < 360) (x : Int32) : ∃ w', xk_sI 0 w (some (z + 7)) (iI i) x = some w' ∧ xJs z ta pr0 w0 w' nb n pl (upd W i x) := by
  obtain ⟨⟨f1, f2, f3⟩, g5, ⟨pr, gl, gp⟩, g7⟩ := h
  have st := xr_sI (v := x) g7 (i := (i : Int)) (by omega) (by omega) (by omega)
  rw [Int.toNat_natCast] at st
  have hq : ∀ q, q ≠ z + 7 → va_up w.1 (z + 7) (some (.inl (0, 360, .inl (upd W i x)))) q = w.1 q := fun q hq => xk_up_n _ _ hq
  refine ⟨_, st, ⟨f1, f2, fun q h0 h5 h6 h7 h8 => (hq q h7).trans (f3 q h0 h5 h6 h7 h8)⟩, (hq _ (by omega)).trans g5, ⟨pr, xl_fr gl rfl (hq _ (by omega)) (hq _ ?_), gp⟩, xk_up_s _ _ _⟩
  rcases xl_row gl with s | ⟨y, s⟩
  · intro c
    obtain ⟨mc, r1, r2, r3, r4⟩ := gl
    rcases r4 with ⟨-, -, r5⟩ | ⟨cap, f, r5, -⟩
    · rw [c, g7] at r5; cases r5
    · rw [c, g7] at r5; cases r5
  · intro c
    rw [c, g7] at s; cases s
theorem x2_fillBar_l {z e nh nc nt : Nat} {ha ca ta : Nat → Nat} {B : Nat → Int} {H C T : Nat → Nat → Int} (v : xVB nh nc nt B H C T) {pr0 : Nat} {w0 : xWd} {nb n : Nat} {pl : Nat → Nat} (hn : n ≤ 40) (hnb : nb ≤ 9) (hpl : ∀ i, i < n → pl i < nt) {j : Nat} (hj : j < nb)
    (J : ∀ (w' : xWd) (pr' np' : Nat) (pa' : Nat → Nat) (b' : Int32) (W' : Nat → Int32), xJf z pr0 w0 w' → w'.1 (z + 5) = some (.inr (3, [.ref (z + 6), .int b', .ref (z + 7)])) → xl_R w' (z + 6) pr' np' pa' → (pr' = w0.2.2.1 ∨ pr' = pr0 ∨ w0.2.1 ≤ pr') → w'.1 (z + 7) = some (.inl (0, 360, .inl W')) → xBk z e nh nc nt ha ca ta B H C T w' ∧ xFr z e w0 w') :
    ∀ (r k fu : Nat) (w : xWd) (W : Nat → Int32), xJs z ta pr0 w0 w nb n pl W → xWv T pl n nb W j → (∀ p, p < k → W ((nb - 1 - j) * 40 + p) = iI (yVj T pl n nb j p)) → k + r = n → r < fu →
    ∃ (w' : xWd) (W' : Nat → Int32), f_X2_fillBar_2 fu (some (z + 5)) (iI ((nb - 1 - j : Nat) : Int)) (iI k) w = some w' ∧ xJs z ta pr0 w0 w' nb n pl W' ∧ xWv T pl n nb W' (j + 1) := by
  have hT : ∀ i, i < n → -2 ≤ T (pl i) 4 ∧ T (pl i) 4 ≤ 2 := fun i hi => by have := yv_t v (hpl i hi); omega
  intro r
  induction r with
  | zero =>
    intro k fu w W h hW hk h1 h4
    obtain ⟨fu, rfl⟩ : ∃ f, fu = f + 1 := ⟨fu - 1, by omega⟩
    obtain ⟨j1, j2, j3, j4, j5, j6, j7, j8⟩ := xJs_0 h
    have c1 : iI (n : Int) ≤ iI k := by rw [iI_le (by omega) (by omega)]; omega
    refine ⟨w, W, ?_, h, fun i p hi hp => ?_⟩
    · unfold f_X2_fillBar_2
      simp only [j2, j5, j6, Option.bind_some, if_pos c1]
    · by_cases c : i = j
      · subst c; exact hk p (by omega)
      · exact hW i p (by omega) hp
  | succ r ih =>
    intro k fu w W h hW hk h1 h4
    obtain ⟨fu, rfl⟩ : ∃ f, fu = f + 1 := ⟨fu - 1, by omega⟩
    have hkn : k < n := by omega
    obtain ⟨j1, j2, j3, j4, j5, j6, j7, j8⟩ := xJs_0 h
    obtain ⟨hb, -⟩ := xJs_bk J h
    have c1 : ¬ iI (n : Int) ≤ iI k := by rw [iI_le (by omega) (by omega)]; omega
    have e3 : iI (k : Int) + (1 : Int32) = iI ((k + 1 : Nat) : Int) := by rw [iL_1, iI_add]; rfl
    have eb : iI ((nb - 1 - j : Nat) : Int) + (1 : Int32) = iI ((nb - 1 - j + 1 : Nat) : Int) := by rw [iL_1, iI_add]; rfl
    have ht := bk_t hb (hpl k hkn)
    have q1 : xk_cc w (some (ta (pl k))) 4 = some () := xr_cc ht
    have q2 : xk_is w (some (ta (pl k))) 4 = some () := xr_is ht
    have no := x3_noteOf hb v (b := nb - 1 - j) (hpl k hkn) (by omega)
    have vb := yVj_b (nb := nb) hT j k hkn
    have sl := x2_slot (b := ((nb - 1 - j : Nat) : Int)) (p := (k : Int)) w (by omega) (by omega)
    rw [show ((nb - 1 - j : Nat) : Int) * 40 + (k : Int) = (((nb - 1 - j) * 40 + k : Nat) : Int) by omega] at sl
    obtain ⟨w1, s1, s2⟩ := xJs_set (e := e) h (i := (nb - 1 - j) * 40 + k) (by omega) (iI (yVj T pl n nb j k))
    have W1 : xWv T pl n nb (upd W ((nb - 1 - j) * 40 + k) (iI (yVj T pl n nb j k))) j := by
      intro i p hi hp
      have := hW i p hi hp
      simp only [upd]
      rw [if_neg (by omega)]
      exact this
    have K1 : ∀ p, p < k + 1 → upd W ((nb - 1 - j) * 40 + k) (iI (yVj T pl n nb j k)) ((nb - 1 - j) * 40 + p) = iI (yVj T pl n nb j p) := by
      intro p hp
      simp only [upd]
      by_cases c : p = k
      · subst c; rw [if_pos rfl]
      · rw [if_neg (by omega)]; exact hk p (by omega)
    obtain ⟨w', W', i1, i2, i3⟩ := ih (k + 1) fu w1 _ s2 W1 K1 (by omega) (by omega)
    have cs : ¬ iI (((nb - 1 - j) * 40 + k : Nat) : Int) = (-1 : Int32) := by rw [iL_m1, iI_eq (by omega) (by omega)]; omega
    have wr : f_X2_fillBar_65 (f_X2_fillBar_2 fu) (some (z + 5)) (iI ((nb - 1 - j : Nat) : Int)) (iI k) (iI (yVj T pl n nb j k)) w = some w' := by
      unfold f_X2_fillBar_65 f_X2_fillBar_86
      rw [sl, Option.bind_some]
      show (if iI (((nb - 1 - j) * 40 + k : Nat) : Int) = (-1 : Int32) then _ else (xk_gR w (some (z + 5)) 3 2).bind _) = _
      rw [if_neg cs, j4, Option.bind_some, s1, Option.bind_some, e3]
      exact i1
    refine ⟨w', W', ?_, i2, i3⟩
    unfold f_X2_fillBar_2
    simp only [j1, j2, j5, j6, Option.bind_some, if_neg c1, j7 k hkn, q1, q2, no, eb]
    by_cases d : j = 0
    · subst d
      have np := x2_place_no h (ah := iI (k : Int)) (b := ((nb - 1 - 0 + 1 : Nat) : Int)) (by omega) (by omega)
      simp only [np, Option.bind_some]
      rw [if_pos trivial]
      exact wr
    · obtain ⟨i, rfl⟩ : ∃ i, j = i + 1 := ⟨j - 1, by omega⟩
      have eB : nb - 1 - (i + 1) + 1 = nb - 1 - i := by omega
      rw [eB]
      have hV : ∀ p, p < n → W ((nb - 1 - i) * 40 + p) = iI (yVj T pl n nb i p) ∧ -1000 ≤ yVj T pl n nb i p ∧ yVj T pl n nb i p ≤ 1000 := fun p hp => by
        have := yVj_b (nb := nb) hT i p hp
        exact ⟨hW i p (by omega) hp, by omega, by omega⟩
      have bp := x2_place hb v h hn (by omega) hpl (ah := (k : Int)) (b := nb - 1 - i) (by omega) (by omega) hV
      obtain ⟨q, y1, y2, y3⟩ := yBp_s (fun p => yVj T pl n nb i p - yCp T pl (k : Int) p) n (by omega)
      have wf := x2_worth h (b := nb - 1 - i) (p := q) (by omega) (by omega)
      rw [(hV q y1).1] at wf
      have cc := x2_cost hb v h hpl (ah := (k : Int)) (p := q) (by omega) y1
      have cq : ¬ iI (q : Int) = (-1 : Int32) := by rw [iL_m1, iI_eq (by omega) (by omega)]; omega
      rw [y2] at bp
      have ev : yVj T pl n nb (i + 1) k = yNo (T (pl k) 3) (nb - 1 - (i + 1)) + (yVj T pl n nb i q - yCp T pl (k : Int) q) := by
        show yNo (T (pl k) 3) (nb - 1 - (i + 1)) + (yBp (fun q => yVj T pl n nb i q - yCp T pl k q) n).2 = _
        rw [y2]
      rw [ev] at wr
      simp only [bp, Option.bind_some, if_neg cq, j1, wf, cc, iI_sub, iI_add]
      exact wr
theorem x2_fill81 {z e nh nc nt : Nat} {ha ca ta : Nat → Nat} {B : Nat → Int} {H C T : Nat → Nat → Int} (v : xVB nh nc nt B H C T) {pr0 : Nat} {w0 : xWd} {nb n : Nat} {pl : Nat → Nat} (hn : n ≤ 40) (hnb : nb ≤ 9) (hpl : ∀ i, i < n → pl i < nt)
    (J : ∀ (w' : xWd) (pr' np' : Nat) (pa' : Nat → Nat) (b' : Int32) (W' : Nat → Int32), xJf z pr0 w0 w' → w'.1 (z + 5) = some (.inr (3, [.ref (z + 6), .int b', .ref (z + 7)])) → xl_R w' (z + 6) pr' np' pa' → (pr' = w0.2.2.1 ∨ pr' = pr0 ∨ w0.2.1 ≤ pr') → w'.1 (z + 7) = some (.inl (0, 360, .inl W')) → xBk z e nh nc nt ha ca ta B H C T w' ∧ xFr z e w0 w') :
    ∀ (r j fu : Nat) (w : xWd) (W : Nat → Int32), xJs z ta pr0 w0 w nb n pl W → xWv T pl n nb W j → j + r = nb → r < fu →
    ∃ (w' : xWd) (W' : Nat → Int32), f_X2_fill_81 fu (some (z + 5)) (iI ((nb : Int) - 1 - j)) w = some w' ∧ xJs z ta pr0 w0 w' nb n pl W' ∧ xWv T pl n nb W' nb := by
  intro r
  induction r with
  | zero =>
    intro j fu w W h hW h1 h4
    obtain ⟨fu, rfl⟩ : ∃ f, fu = f + 1 := ⟨fu - 1, by omega⟩
    have e : j = nb := by omega
    subst e
    refine ⟨w, W, ?_, h, hW⟩
    unfold f_X2_fill_81
    rw [if_pos (by rw [iL_0, iI_lt (by omega) (by omega)]; omega)]
  | succ r ih =>
    intro j fu w W h hW h1 h4
    obtain ⟨fu, rfl⟩ : ∃ f, fu = f + 1 := ⟨fu - 1, by omega⟩
    obtain ⟨j1, -⟩ := xJs_0 h
    obtain ⟨w1, W1, a1, a2, a3⟩ := x2_fillBar_l v hn hnb hpl (j := j) (by omega) J n 0 4096 w W h hW (fun p hp => absurd hp (by omega)) (by omega) (by omega)
    obtain ⟨w', W', b1, b2, b3⟩ := ih (j + 1) fu w1 W1 a2 a3 (by omega) (by omega)
    refine ⟨w', W', ?_, b2, b3⟩
    have z0 : iI ((0 : Nat) : Int) = (0 : Int32) := by decide
    rw [z0, show ((nb - 1 - j : Nat) : Int) = (nb : Int) - 1 - j by omega] at a1
    have fb : f_X2_fillBar (some (z + 5)) (iI ((nb : Int) - 1 - j)) w = some w1 := by
      unfold f_X2_fillBar
      exact a1
    unfold f_X2_fill_81
    rw [if_neg (by rw [iL_0, iI_lt (by omega) (by omega)]; omega), j1, Option.bind_some, fb, Option.bind_some, iL_m1, iI_add, show (nb : Int) - 1 - j + -1 = (nb : Int) - 1 - ((j + 1 : Nat) : Int) by omega]
    exact b1
theorem x2_fill {z e nh nc nt : Nat} {ha ca ta : Nat → Nat} {B : Nat → Int} {H C T : Nat → Nat → Int} {w : xWd} (h : xBk z e nh nc nt ha ca ta B H C T w) (v : xVB nh nc nt B H C T) {c : Nat} (hc : c < nc) : ∃ (pr0 : Nat) (w' : xWd) (W' : Nat → Int32), f_X2_fill (some (z + 5)) (some (ca c)) (some (z + 4)) w = some w' ∧ xJs z ta pr0 w w' ((C c 7).toNat : Int) (yPool C T c nt).1 (yPool C T c nt).2 W' ∧ xWv T (yPool C T c nt).2 (yPool C T c nt).1 (C c 7).toNat W' (C c 7).toNat ∧ xBk z e nh nc nt ha ca ta B H C T w' ∧ xFr z e w w' := by
  have hn := yv_n v
  have he := bk_e h
  have hC := bk_c h hc
  have hB := (yv_c v hc).1
  have b7 : 0 ≤ C c 7 ∧ C c 7 ≤ 9 := ⟨hB.2.2.2.2.1, hB.2.2.2.2.2.1⟩
  have hz : w.2.2.1 < w.2.1 := by omega
  obtain ⟨pr, np, pa, b, W, g5, g6, gp, g7, J⟩ := bk_jn h
  have hpr := xl_lt g6 hz
  obtain ⟨p1, p2, p3⟩ := yPool_s C T c nt
  -- the bars
  have s1 := xr_pV (k := 1) (v := .int (iI (C c 7))) g5 (by simp)
  simp only [List.set] at s1
  obtain ⟨w1, hw1⟩ : ∃ w1 : xWd, w1 = (va_up w.1 (z + 5) (some (.inr (3, [.ref (z + 6), .int (iI (C c 7)), .ref (z + 7)]))), w.2) := ⟨_, rfl⟩
  rw [← hw1] at s1
  have k5 : w1.1 (z + 5) = some (.inr (3, [.ref (z + 6), .int (iI (C c 7)), .ref (z + 7)])) := by rw [hw1]; exact xk_up_s _ _ _
  have kn : ∀ q, q ≠ z + 5 → w1.1 q = w.1 q := fun q hq => by rw [hw1]; exact xk_up_n _ _ hq
  have e1 : w1.2 = w.2 := by rw [hw1]
  have hpr5 : pr ≠ z + 5 := by
    intro q
    rcases xl_row g6 with s | ⟨y, s⟩
    · omega
    · rw [q, g5] at s; cases s
  have g6' : xl_R w1 (z + 6) pr np pa := xl_fr g6 e1 (kn _ (by omega)) (kn _ hpr5)
  obtain ⟨w2, c1, c2, c3, c4⟩ := xl_clear (a' := fun i => ta ((yPool C T c 0).2 i)) g6'
  have hA1 : w1.2.2.1 = w.2.2.1 := by rw [e1]
  have hJ0 : xJs z ta pr w w2 ((C c 7).toNat : Int) (yPool C T c 0).1 (yPool C T c 0).2 W := by
    refine ⟨⟨by rw [c3, e1]; exact Nat.le_refl _, by rw [c3, e1], fun q h0 h5 h6 h7 h8 => (c4 q h6 (by rw [hA1]; exact h8)).trans (kn q h5)⟩, ?_, ⟨pr, c2, Or.inr (Or.inl rfl)⟩, ?_⟩
    · rw [show ((C c 7).toNat : Int) = C c 7 by omega]
      exact (c4 _ (by omega) (Or.inl (fun q => hpr5 q.symm))).trans k5
    · refine (c4 _ (by omega) ?_).trans ((kn _ (by omega)).trans g7)
      rcases xl_row g6 with s | ⟨y, s⟩
      · exact Or.inr (by rw [hA1]; exact s)
      · exact Or.inl (fun q => by rw [← q, g7] at s; cases s)
  obtain ⟨w3, d1, d2⟩ := x2_fill17 v hc hpr J nt 0 41 w2 hJ0 (by omega) (by omega)
  obtain ⟨w4, W4, f1, f2, f3⟩ := x2_fill81 v (nb := (C c 7).toNat) (n := (yPool C T c nt).1) (pl := (yPool C T c nt).2) (by omega) (by omega) (fun i hi => (p2 i hi).1) J (C c 7).toNat 0 4096 w3 W d2 (fun i p hi => absurd hi (by omega)) (by omega) (by omega)
  obtain ⟨k1, fr⟩ := xJs_bk J f2
  obtain ⟨j1, j2, j3, -⟩ := xJs_0 d2
  refine ⟨pr, w4, W4, ?_, f2, f3, k1, fr⟩
  have z0 : iI ((0 : Nat) : Int) = (0 : Int32) := by decide
  rw [z0] at d1
  rw [show (((C c 7).toNat : Nat) : Int) - 1 - ((0 : Nat) : Int) = (((C c 7).toNat : Nat) : Int) - 1 by omega] at f1
  have r7 : xk_gI w (some (ca c)) 1 7 = some (iI (C c 7)) := xr_gI (k := 7) hC.1 rfl
  have r5 : xk_gR w1 (some (z + 5)) 3 0 = some (some (z + 6)) := xr_gR (k := 0) k5 rfl
  unfold f_X2_fill
  rw [r7, Option.bind_some, s1, Option.bind_some, r5, Option.bind_some, xl_is g6', Option.bind_some, c1, Option.bind_some, d1]
  unfold f_X2_fill_74
  rw [j3, Option.bind_some, iL_1, iI_sub]
  exact f1
/-- the worth of the best join -/
def yJoin (nt : Nat) (C T : Nat → Nat → Int) (c : Nat) : Int := if (yPool C T c nt).1 = 0 ∨ C c 7 ≤ 0 then -1 else (yBp (fun p => yVj T (yPool C T c nt).2 (yPool C T c nt).1 (C c 7).toNat ((C c 7).toNat - 1) p - yCp T (yPool C T c nt).2 (-1) p) (yPool C T c nt).1).2
theorem x2_bestWorth {z e nh nc nt : Nat} {ha ca ta : Nat → Nat} {B : Nat → Int} {H C T : Nat → Nat → Int} {w : xWd} (hk : xBk z e nh nc nt ha ca ta B H C T w) (v : xVB nh nc nt B H C T) {c : Nat} (hc : c < nc) {pr0 : Nat} {w0 : xWd} {W : Nat → Int32} (h : xJs z ta pr0 w0 w ((C c 7).toNat : Int) (yPool C T c nt).1 (yPool C T c nt).2 W) (hW : xWv T (yPool C T c nt).2 (yPool C T c nt).1 (C c 7).toNat W (C c 7).toNat) :
    f_X2_bestWorth (some (z + 5)) w = some (iI (yJoin nt C T c), w) := by
  have hn := yv_n v
  have hB := (yv_c v hc).1
  have b7 : 0 ≤ C c 7 ∧ C c 7 ≤ 9 := ⟨hB.2.2.2.2.1, hB.2.2.2.2.2.1⟩
  obtain ⟨p1, p2, p3⟩ := yPool_s C T c nt
  obtain ⟨j1, j2, j3, j4, j5, j6, j7, j8⟩ := xJs_0 h
  have hT : ∀ i, i < (yPool C T c nt).1 → -2 ≤ T ((yPool C T c nt).2 i) 4 ∧ T ((yPool C T c nt).2 i) 4 ≤ 2 := fun i hi => by have := yv_t v (p2 i hi).1; omega
  have no : f_X2_bestPlace (some (z + 5)) 0 (-1) w = some (-1, w) → (yPool C T c nt).1 = 0 ∨ C c 7 ≤ 0 → f_X2_bestWorth (some (z + 5)) w = some (iI (yJoin nt C T c), w) := by
    intro q1 q2
    unfold f_X2_bestWorth f_X2_bestWorth_22 yJoin
    rw [j1, Option.bind_some, q1, Option.bind_some, if_pos q2, iL_m1]
    rfl
  by_cases c0 : C c 7 ≤ 0
  · have := x2_place_no h (ah := (-1 : Int32)) (b := 0) (by omega) (by omega)
    exact no this (Or.inr c0)
  · have hV : ∀ p, p < (yPool C T c nt).1 → W (0 * 40 + p) = iI (yVj T (yPool C T c nt).2 (yPool C T c nt).1 (C c 7).toNat ((C c 7).toNat - 1) p) ∧ -1000 ≤ yVj T (yPool C T c nt).2 (yPool C T c nt).1 (C c 7).toNat ((C c 7).toNat - 1) p ∧ yVj T (yPool C T c nt).2 (yPool C T c nt).1 (C c 7).toNat ((C c 7).toNat - 1) p ≤ 1000 := fun p hp => by
      have h1 := hW ((C c 7).toNat - 1) p (by omega) hp
      rw [show (C c 7).toNat - 1 - ((C c 7).toNat - 1) = 0 by omega] at h1
      have h2 := yVj_b (nb := (C c 7).toNat) hT ((C c 7).toNat - 1) p hp
      exact ⟨h1, by omega, by omega⟩
    have bp := x2_place hk v h (by omega) (by omega) (fun i hi => (p2 i hi).1) (ah := -1) (b := 0) (by omega) (by omega) hV
    have z0 : iI ((0 : Nat) : Int) = (0 : Int32) := by decide
    have m1 : iI (-1) = (-1 : Int32) := by decide
    rw [z0, m1] at bp
    by_cases c1 : (yPool C T c nt).1 = 0
    · refine no ?_ (Or.inl c1)
      rw [bp, c1]
      rfl
    · obtain ⟨q, y1, y2, y3⟩ := yBp_s (fun p => yVj T (yPool C T c nt).2 (yPool C T c nt).1 (C c 7).toNat ((C c 7).toNat - 1) p - yCp T (yPool C T c nt).2 (-1) p) (yPool C T c nt).1 (by omega)
      have wf := x2_worth h (b := 0) (p := q) (by omega) (by omega)
      rw [(hV q y1).1, z0] at wf
      have cq : ¬ iI (q : Int) = (-1 : Int32) := by rw [iL_m1, iI_eq (by omega) (by omega)]; omega
      have e0 : yCp T (yPool C T c nt).2 (-1) q = 0 := by unfold yCp; rw [if_pos (Or.inr (by omega))]
      rw [y2] at bp
      unfold f_X2_bestWorth f_X2_bestWorth_22 yJoin
      rw [if_neg (by omega), y2]
      simp only [j1, Option.bind_some, bp, if_neg cq, wf, e0, Int.sub_zero]
theorem x4_join {z e nh nc nt : Nat} {ha ca ta : Nat → Nat} {B : Nat → Int} {H C T : Nat → Nat → Int} {w : xWd} (h : xBk z e nh nc nt ha ca ta B H C T w) (v : xVB nh nc nt B H C T) {c : Nat} (hc : c < nc) : ∃ w', f_X4_join (some z) (iI c) w = some (iI (yJoin nt C T c), w') ∧ xBk z e nh nc nt ha ca ta B H C T w' ∧ xFr z e w w' := by
  obtain ⟨pr0, w1, W1, f1, f2, f3, k1, fr⟩ := x2_fill h v hc
  have bw := x2_bestWorth k1 v hc f2 f3
  have hj : xk_is w (some (z + 5)) 3 = some () := by
    obtain ⟨tr, pr, np, pa, b, W, -, -, g5, -⟩ := h.2.2.2.2.1
    exact xr_is g5
  obtain ⟨j1, -⟩ := xJs_0 f2
  refine ⟨w1, ?_, k1, fr⟩
  unfold f_X4_join
  simp only [bk_joins h, bk_is h, Option.bind_some, x4_cueNumbered h v hc, bk_takes h, hj, f1, bk_joins k1, j1, bw]
/-- no valid take alone is better -/
theorem yJoin_l {nh nc nt : Nat} {B : Nat → Int} {H C T : Nat → Nat → Int} (v : xVB nh nc nt B H C T) {c t : Nat} (hc : c < nc) (ht : t < nt) (hv : yVc C T c t = true) (h7 : 0 < C c 7) : yS' (yNo (T t 3)) (C c 7).toNat ≤ yJoin nt C T c := by
  obtain ⟨p1, p2, p3⟩ := yPool_s C T c nt
  obtain ⟨i, i1, i2⟩ := p3 t ht hv
  unfold yJoin
  rw [if_neg (by omega)]
  obtain ⟨q, y1, y2, y3⟩ := yBp_s (fun p => yVj T (yPool C T c nt).2 (yPool C T c nt).1 (C c 7).toNat ((C c 7).toNat - 1) p - yCp T (yPool C T c nt).2 (-1) p) (yPool C T c nt).1 (by omega)
  have e0 : ∀ p, yCp T (yPool C T c nt).2 (-1) p = 0 := fun p => by unfold yCp; rw [if_pos (Or.inr (by omega))]
  have h2 : yVj T (yPool C T c nt).2 (yPool C T c nt).1 (C c 7).toNat ((C c 7).toNat - 1) i - yCp T (yPool C T c nt).2 (-1) i ≤ yVj T (yPool C T c nt).2 (yPool C T c nt).1 (C c 7).toNat ((C c 7).toNat - 1) q - yCp T (yPool C T c nt).2 (-1) q := y3 i i1
  have h3 := yVj_l (T := T) (pl := (yPool C T c nt).2) (n := (yPool C T c nt).1) (nb := (C c 7).toNat) ((C c 7).toNat - 1) i i1 (by omega)
  rw [i2, show (C c 7).toNat - 1 - ((C c 7).toNat - 1) = 0 by omega] at h3
  have z : yS' (yNo (T t 3)) 0 = 0 := rfl
  rw [y2]
  show _ ≤ yVj T (yPool C T c nt).2 (yPool C T c nt).1 (C c 7).toNat ((C c 7).toNat - 1) q - yCp T (yPool C T c nt).2 (-1) q
  rw [e0] at h2
  omega
