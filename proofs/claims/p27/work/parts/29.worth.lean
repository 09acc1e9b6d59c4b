/-- the first best of n, and its worth -/
def yBp (g : Nat → Int) : Nat → Int × Int
  | 0 => (-1, 0)
  | n + 1 => if (yBp g n).1 = -1 then ((n : Int), g n) else if g n ≤ (yBp g n).2 then yBp g n else ((n : Int), g n)
theorem yBp_e (g : Nat → Int) (n : Nat) : yBp g (n + 1) = if (yBp g n).1 = -1 then ((n : Int), g n) else if g n ≤ (yBp g n).2 then yBp g n else ((n : Int), g n) := rfl
theorem yBp_s (g : Nat → Int) : ∀ n : Nat, 0 < n → ∃ j : Nat, j < n ∧ yBp g n = ((j : Int), g j) ∧ ∀ i, i < n → g i ≤ g j := by
  intro n
  induction n with
  | zero => intro h; omega
  | succ n ih =>
    intro _
    rw [yBp_e]
    by_cases h0 : n = 0
    · subst h0
      exact ⟨0, by omega, rfl, fun i hi => by rw [show i = 0 by omega]; exact Int.le_refl _⟩
    · obtain ⟨j, h1, h2, h3⟩ := ih (by omega)
      rw [h2, if_neg (show ¬ (j : Int) = -1 by omega)]
      by_cases c : g n ≤ g j
      · rw [if_pos c]
        refine ⟨j, by omega, rfl, fun i hi => ?_⟩
        by_cases e : i = n
        · subst e; exact c
        · exact h3 i (by omega)
      · rw [if_neg c]
        refine ⟨n, by omega, rfl, fun i hi => ?_⟩
        by_cases e : i = n
        · subst e; exact Int.le_refl _
        · have := h3 i (by omega)
          omega
/-- the cost of a splice, places ahead and at -/
def yCp (T : Nat → Nat → Int) (pl : Nat → Nat) (ah : Int) (p : Nat) : Int := if ah = p ∨ ah < 0 then 0 else 4 + 2 * yA (T (pl ah.toNat) 4 - T (pl p) 4)
theorem yCp_b {T : Nat → Nat → Int} {pl : Nat → Nat} {n : Nat} (hT : ∀ i, i < n → -2 ≤ T (pl i) 4 ∧ T (pl i) 4 ≤ 2) {ah : Int} {p : Nat} (ha : ah < n) (hp : p < n) : 0 ≤ yCp T pl ah p ∧ yCp T pl ah p ≤ 12 := by
  unfold yCp
  by_cases c : ah = p ∨ ah < 0
  · rw [if_pos c]; omega
  · rw [if_neg c]
    have h1 := hT ah.toNat (by omega)
    have h2 := hT p hp
    unfold yA
    split <;> omega
theorem x2_slot {b p : Int} (w : xWd) (hb : 0 ≤ b ∧ b < 9) (hp : 0 ≤ p ∧ p < 40) : f_X2_slotOf (iI b) (iI p) w = some (iI (b * 40 + p), w) := by
  unfold f_X2_slotOf f_X2_slotOf_25 f_X2_slotOf_40
  rw [if_neg (by rw [iL_0, iI_lt (by omega) (by omega)]; omega), if_neg (by rw [iL_9, iI_le (by omega) (by omega)]; omega), if_neg (by rw [iL_0, iI_lt (by omega) (by omega)]; omega), if_neg (by rw [iL_40, iI_le (by omega) (by omega)]; omega), if_neg (by decide), iL_40, iI_mul, iI_add]
theorem x2_worth {z : Nat} {ta : Nat → Nat} {pr0 : Nat} {w0 w : xWd} {nb : Int} {n : Nat} {pl : Nat → Nat} {W : Nat → Int32} (h : xJs z ta pr0 w0 w nb n pl W) {b p : Nat} (hb : b < 9) (hp : p < 40) : f_X2_worthFrom (some (z + 5)) (iI b) (iI p) w = some (W (b * 40 + p), w) := by
  obtain ⟨j1, j2, j3, j4, j5, j6, j7, j8⟩ := xJs_0 h
  have sl := x2_slot (b := (b : Int)) (p := (p : Int)) w (by omega) (by omega)
  have el := xr_lI h.2.2.2 (i := (b : Int) * 40 + p) (by omega) (by omega) (by omega)
  rw [show ((b : Int) * 40 + p).toNat = b * 40 + p by omega] at el
  have c1 : ¬ iI ((b : Int) * 40 + p) = (-1 : Int32) := by rw [iL_m1, iI_eq (by omega) (by omega)]; omega
  unfold f_X2_worthFrom f_X2_worthFrom_21
  rw [sl, Option.bind_some]
  show (if iI ((b : Int) * 40 + p) = (-1 : Int32) then _ else (xk_gR w (some (z + 5)) 3 2).bind _) = _
  rw [if_neg c1, j4, Option.bind_some, el, Option.bind_some]
theorem x2_cost {z e nh nc nt : Nat} {ha ca ta : Nat → Nat} {B : Nat → Int} {H C T : Nat → Nat → Int} {w : xWd} (hk : xBk z e nh nc nt ha ca ta B H C T w) (v : xVB nh nc nt B H C T) {pr0 : Nat} {w0 : xWd} {nb : Int} {n : Nat} {pl : Nat → Nat} {W : Nat → Int32} (h : xJs z ta pr0 w0 w nb n pl W) (hpl : ∀ i, i < n → pl i < nt) {ah : Int} {p : Nat} (ha : -1 ≤ ah ∧ ah < n) (hp : p < n) :
    f_X2_costOfSplice (some (z + 5)) (iI ah) (iI p) w = some (iI (yCp T pl ah p), w) := by
  obtain ⟨j1, j2, j3, j4, j5, j6, j7, j8⟩ := xJs_0 h
  unfold f_X2_costOfSplice f_X2_costOfSplice_13 f_X2_costOfSplice_37 yCp
  by_cases c1 : ah = p
  · rw [if_pos (by rw [c1]), if_pos (Or.inl c1), iL_0]
  · rw [if_neg (by rw [iI_eq (by omega) (by omega)]; exact c1)]
    by_cases c2 : ah < 0
    · rw [if_pos (by rw [iL_0, iI_lt (by omega) (by omega)]; exact c2), if_pos (Or.inr c2), iL_0]
    · rw [if_neg (by rw [iL_0, iI_lt (by omega) (by omega)]; exact c2), if_neg (show ¬ (ah = p ∨ ah < 0) by omega), if_pos (by rw [iL_0, iI_le (by omega) (by omega)]; omega)]
      obtain ⟨a, rfl⟩ : ∃ a : Nat, ah = a := ⟨ah.toNat, by omega⟩
      have c3 : ¬ iI (n : Int) ≤ iI (a : Int) := by rw [iI_le (by omega) (by omega)]; omega
      have c4 : iI (p : Int) < iI (n : Int) := by rw [iI_lt (by omega) (by omega)]; omega
      have ta1 := bk_t hk (hpl a (by omega))
      have ta2 := bk_t hk (hpl p hp)
      have b1 := yv_t v (hpl a (by omega))
      have b2 := yv_t v (hpl p hp)
      have q1 : xk_cc w (some (ta (pl a))) 4 = some () := xr_cc ta1
      have q2 : xk_cc w (some (ta (pl p))) 4 = some () := xr_cc ta2
      have g1 : xk_gI w (some (ta (pl a))) 4 4 = some (iI (T (pl a) 4)) := xr_gI (k := 4) ta1 rfl
      have g2 : xk_gI w (some (ta (pl p))) 4 4 = some (iI (T (pl p) 4)) := xr_gI (k := 4) ta2 rfl
      simp only [j2, j5, j6, Option.bind_some, if_neg c3, if_pos c4, j7 a (by omega), j7 p hp, q1, q2, g1, g2, iI_sub, Int.toNat_natCast]
      rw [xi_abs (by omega), iL_4, iL_2, iI_mul, iI_add]
theorem x2_place_l {z e nh nc nt : Nat} {ha ca ta : Nat → Nat} {B : Nat → Int} {H C T : Nat → Nat → Int} {w : xWd} (hk : xBk z e nh nc nt ha ca ta B H C T w) (v : xVB nh nc nt B H C T) {pr0 : Nat} {w0 : xWd} {nb : Int} {n : Nat} {pl : Nat → Nat} {W : Nat → Int32} (h : xJs z ta pr0 w0 w nb n pl W) (hn : n ≤ 40) (hnb : nb ≤ 9) (hpl : ∀ i, i < n → pl i < nt) {ah : Int} {b : Nat} (ha : -1 ≤ ah ∧ ah < n) (hb : (b : Int) < nb) {V : Nat → Int} (hV : ∀ p, p < n → W (b * 40 + p) = iI (V p) ∧ -1000 ≤ V p ∧ V p ≤ 1000) :
    ∀ (r k fu : Nat), k + r = n → r < fu → ((yBp (fun p => V p - yCp T pl ah p) k).1 = -1 ∨ 0 ≤ (yBp (fun p => V p - yCp T pl ah p) k).1) → (-1 ≤ (yBp (fun p => V p - yCp T pl ah p) k).1 ∧ (yBp (fun p => V p - yCp T pl ah p) k).1 ≤ 40 ∧ -2000 ≤ (yBp (fun p => V p - yCp T pl ah p) k).2 ∧ (yBp (fun p => V p - yCp T pl ah p) k).2 ≤ 2000) →
    f_X2_bestPlace_8 fu (some (z + 5)) (iI b) (iI ah) (iI (yBp (fun p => V p - yCp T pl ah p) k).1) (iI (yBp (fun p => V p - yCp T pl ah p) k).2) (iI k) w = some (iI (yBp (fun p => V p - yCp T pl ah p) n).1, w) := by
  obtain ⟨j1, j2, j3, j4, j5, j6, j7, j8⟩ := xJs_0 h
  have hT : ∀ i, i < n → -2 ≤ T (pl i) 4 ∧ T (pl i) 4 ≤ 2 := fun i hi => by have := yv_t v (hpl i hi); omega
  intro r
  induction r with
  | zero =>
    intro k fu h1 h4 h5 h6
    obtain ⟨fu, rfl⟩ : ∃ f, fu = f + 1 := ⟨fu - 1, by omega⟩
    have c1 : iI (n : Int) ≤ iI k := by rw [iI_le (by omega) (by omega)]; omega
    unfold f_X2_bestPlace_8 f_X2_bestPlace_70
    simp only [j2, j5, j6, Option.bind_some, if_pos c1]
    rw [show n = k by omega]
  | succ r ih =>
    intro k fu h1 h4 h5 h6
    obtain ⟨fu, rfl⟩ : ∃ f, fu = f + 1 := ⟨fu - 1, by omega⟩
    have hkn : k < n := by omega
    have c1 : ¬ iI (n : Int) ≤ iI k := by rw [iI_le (by omega) (by omega)]; omega
    have c2 : ¬ iI nb ≤ iI (b : Int) := by rw [iI_le (by omega) (by omega)]; omega
    have e3 : iI (k : Int) + (1 : Int32) = iI ((k + 1 : Nat) : Int) := by rw [iL_1, iI_add]; rfl
    have hw := x2_worth h (b := b) (p := k) (by omega) (by omega)
    obtain ⟨v1, v2, v3⟩ := hV k hkn
    rw [v1] at hw
    have hc := x2_cost hk v h hpl ha hkn
    have cb := yCp_b hT ha.2 hkn
    have i2 := ih (k + 1) fu (by omega) (by omega)
    rw [yBp_e] at i2
    unfold f_X2_bestPlace_8 f_X2_bestPlace_57 f_X2_bestPlace_64
    simp only [j1, j2, j3, j5, j6, Option.bind_some, if_neg c1, if_neg c2, hw, hc, iI_sub, e3]
    by_cases d1 : (yBp (fun p => V p - yCp T pl ah p) k).1 = -1
    · rw [if_pos (show iI (yBp (fun p => V p - yCp T pl ah p) k).1 = (-1 : Int32) by rw [d1, iL_m1])]
      rw [if_pos d1] at i2
      exact i2 (Or.inr (by show 0 ≤ (k : Int); omega)) ⟨by show -1 ≤ (k : Int); omega, by show (k : Int) ≤ 40; omega, by show -2000 ≤ V k - yCp T pl ah k; omega, by show V k - yCp T pl ah k ≤ 2000; omega⟩
    · rw [if_neg (show ¬ iI (yBp (fun p => V p - yCp T pl ah p) k).1 = (-1 : Int32) by rw [iL_m1, iI_eq (by omega) (by omega)]; exact d1)]
      rw [if_neg d1] at i2
      by_cases d2 : V k - yCp T pl ah k ≤ (yBp (fun p => V p - yCp T pl ah p) k).2
      · rw [if_pos (show iI (V k - yCp T pl ah k) ≤ iI (yBp (fun p => V p - yCp T pl ah p) k).2 by rw [iI_le (by omega) (by omega)]; exact d2)]
        rw [if_pos d2] at i2
        exact i2 h5 h6
      · rw [if_neg (show ¬ iI (V k - yCp T pl ah k) ≤ iI (yBp (fun p => V p - yCp T pl ah p) k).2 by rw [iI_le (by omega) (by omega)]; exact d2)]
        rw [if_neg d2] at i2
        exact i2 (Or.inr (by show 0 ≤ (k : Int); omega)) ⟨by show -1 ≤ (k : Int); omega, by show (k : Int) ≤ 40; omega, by show -2000 ≤ V k - yCp T pl ah k; omega, by show V k - yCp T pl ah k ≤ 2000; omega⟩
theorem x2_place {z e nh nc nt : Nat} {ha ca ta : Nat → Nat} {B : Nat → Int} {H C T : Nat → Nat → Int} {w : xWd} (hk : xBk z e nh nc nt ha ca ta B H C T w) (v : xVB nh nc nt B H C T) {pr0 : Nat} {w0 : xWd} {nb : Int} {n : Nat} {pl : Nat → Nat} {W : Nat → Int32} (h : xJs z ta pr0 w0 w nb n pl W) (hn : n ≤ 40) (hnb : nb ≤ 9) (hpl : ∀ i, i < n → pl i < nt) {ah : Int} {b : Nat} (ha : -1 ≤ ah ∧ ah < n) (hb : (b : Int) < nb) {V : Nat → Int} (hV : ∀ p, p < n → W (b * 40 + p) = iI (V p) ∧ -1000 ≤ V p ∧ V p ≤ 1000) :
    f_X2_bestPlace (some (z + 5)) (iI b) (iI ah) w = some (iI (yBp (fun p => V p - yCp T pl ah p) n).1, w) := by
  have := x2_place_l hk v h hn hnb hpl ha hb hV n 0 4096 (by omega) (by omega) (Or.inl rfl) ⟨by show (-1 : Int) ≤ -1; omega, by show (-1 : Int) ≤ 40; omega, by show (-2000 : Int) ≤ 0; omega, by show (0 : Int) ≤ 2000; omega⟩
  have z0 : iI ((0 : Nat) : Int) = (0 : Int32) := by decide
  have y1 : iI (yBp (fun p => V p - yCp T pl ah p) 0).1 = (-1 : Int32) := by show iI (-1) = (-1 : Int32); decide
  have y2 : iI (yBp (fun p => V p - yCp T pl ah p) 0).2 = (0 : Int32) := by show iI 0 = (0 : Int32); decide
  rw [y1, y2, z0] at this
  unfold f_X2_bestPlace
  exact this
/-- no bar there: no place -/
theorem x2_place_no {z : Nat} {ta : Nat → Nat} {pr0 : Nat} {w0 w : xWd} {nb : Int} {n : Nat} {pl : Nat → Nat} {W : Nat → Int32} (h : xJs z ta pr0 w0 w nb n pl W) {ah : Int32} {b : Int} (hnb : 0 ≤ nb ∧ nb ≤ 9) (hb : nb ≤ b ∧ b ≤ 100) : f_X2_bestPlace (some (z + 5)) (iI b) ah w = some (-1, w) := by
  obtain ⟨j1, j2, j3, j4, j5, j6, j7, j8⟩ := xJs_0 h
  have c2 : iI nb ≤ iI b := by rw [iI_le (by omega) (by omega)]; omega
  unfold f_X2_bestPlace f_X2_bestPlace_8 f_X2_bestPlace_70
  rw [j2, Option.bind_some, j5, Option.bind_some, j6, Option.bind_some]
  show (if iI (n : Int) ≤ 0 then some ((-1 : Int32), w) else (xk_gI w (some (z + 5)) 3 1).bind _) = _
  rw [j3, Option.bind_some, if_pos c2]
  split <;> rfl
