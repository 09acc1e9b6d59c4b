/-- the miss of a hit -/
def yMs (nc : Nat) (C : Nat → Nat → Int) (s : Nat → Int) : Int := if s 2 = 0 then (yQ C (s 0) nc).2 else -1
/-- the nearest beat of a hit -/
def yNb (nc : Nat) (C : Nat → Nat → Int) (s : Nat → Int) : Int := if yNc nc C s = -1 then -1 else (yN (C (yNc nc C s).toNat) (s 0) (C (yNc nc C s).toNat 10).toNat).1
/-- what yQ says -/
theorem yQ_s {C : Nat → Nat → Int} {f : Int} (hf : 0 ≤ f ∧ f ≤ 60000) : ∀ n : Nat, (∀ k, k < n → xCB (C k)) → (yQ C f n = (-1, -1) ∧ ∀ i, i < n → yM (C i) f = -1) ∨ ∃ j : Nat, j < n ∧ yQ C f n = ((j : Int), yM (C j) f) ∧ 0 ≤ yM (C j) f ∧ ∀ i, i < n → yM (C i) f = -1 ∨ yM (C j) f ≤ yM (C i) f := by
  intro n
  induction n with
  | zero => intro _; exact Or.inl ⟨rfl, fun i hi => absurd hi (by omega)⟩
  | succ n ih =>
    intro hB
    have bm := yM_b (hB n (by omega)) hf
    have eN : yQ C f (n + 1) = if yM (C n) f = -1 then yQ C f n else if (yQ C f n).2 = -1 then ((n : Int), yM (C n) f) else if (yQ C f n).2 ≤ yM (C n) f then yQ C f n else ((n : Int), yM (C n) f) := rfl
    rw [eN]
    rcases ih (fun k hk => hB k (by omega)) with ⟨h1, h2⟩ | ⟨j, h1, h2, h3, h4⟩
    · by_cases c : yM (C n) f = -1
      · rw [if_pos c]
        refine Or.inl ⟨h1, fun i hi => ?_⟩
        by_cases d : i = n
        · rw [d]; exact c
        · exact h2 i (by omega)
      · rw [if_neg c, if_pos (by rw [h1])]
        refine Or.inr ⟨n, by omega, rfl, by omega, fun i hi => ?_⟩
        by_cases d : i = n
        · rw [d]; exact Or.inr (Int.le_refl _)
        · exact Or.inl (h2 i (by omega))
    · have e2 : (yQ C f n).2 = yM (C j) f := by rw [h2]
      by_cases c : yM (C n) f = -1
      · rw [if_pos c]
        refine Or.inr ⟨j, by omega, h2, h3, fun i hi => ?_⟩
        by_cases d : i = n
        · rw [d]; exact Or.inl c
        · exact h4 i (by omega)
      · rw [if_neg c, if_neg (by omega)]
        by_cases c2 : (yQ C f n).2 ≤ yM (C n) f
        · rw [if_pos c2]
          refine Or.inr ⟨j, by omega, h2, h3, fun i hi => ?_⟩
          by_cases d : i = n
          · rw [d]; exact Or.inr (by omega)
          · exact h4 i (by omega)
        · rw [if_neg c2]
          refine Or.inr ⟨n, by omega, rfl, by omega, fun i hi => ?_⟩
          by_cases d : i = n
          · rw [d]; exact Or.inr (Int.le_refl _)
          · rcases h4 i (by omega) with q | q
            · exact Or.inl q
            · exact Or.inr (by omega)
theorem x4_missOf {z e nh nc nt : Nat} {ha ca ta : Nat → Nat} {B : Nat → Int} {H C T : Nat → Nat → Int} {w : xWd} (h : xBk z e nh nc nt ha ca ta B H C T w) (v : xVB nh nc nt B H C T) {q : Nat} {s : Nat → Int} (hq : xHt w q s) (hs : 0 ≤ s 0 ∧ s 0 ≤ 60000) (hg : s 2 = 0 ∨ s 2 = 1) : f_X4_missOf (some z) (some q) w = some (iI (yMs nc C s), w) := by
  obtain ⟨l1, l2, l3⟩ := bk_lc h
  have hn := yv_n v
  have g0 : xk_gI w (some q) 2 0 = some (iI (s 0)) := xr_gI (k := 0) hq rfl
  have key := x4_nearestCue h v hq hs hg
  unfold f_X4_missOf f_X4_missOf_33
  simp only [bk_is h, Option.bind_some, key]
  have no : yNc nc C s = -1 → yMs nc C s = -1 → (if iI (yNc nc C s) = (-1 : Int32) then some ((-1 : Int32), w) else (xk_gR w (some z) 0 3).bind fun v4 => (xk_is w v4 5).bind fun u6 => (f_Jx4a65c_get_915e3 v4 (iI (yNc nc C s)) w).bind fun q5 => (xk_cc q5.2 q5.1 1).bind fun u7 => (xk_gI q5.2 (some q) 2 0).bind fun v8 => (xk_is q5.2 q5.1 1).bind fun u10 => (f_X0_missOf q5.1 v8 q5.2).bind fun q9 => some (q9.1, q9.2)) = some (iI (yMs nc C s), w) := by
    intro e1 e2
    rw [if_pos (by rw [e1, iL_m1]), e2, iL_m1]
  by_cases c : s 2 = 0
  · rcases yQ_s (C := C) hs nc (fun k hk => (yv_c v hk).1) with ⟨h1, h2⟩ | ⟨j, j1, j2, j3, j4⟩
    · exact no (by unfold yNc; rw [if_pos c, h1]) (by unfold yMs; rw [if_pos c, h1])
    · have e1 : yNc nc C s = j := by unfold yNc; rw [if_pos c, j2]
      have e2 : yMs nc C s = yM (C j) (s 0) := by unfold yMs; rw [if_pos c, j2]
      have hC := bk_c h j1
      have cj : ¬ iI (j : Int) = (-1 : Int32) := by rw [iL_m1, iI_eq (by omega) (by omega)]; omega
      simp only [e1, if_neg cj, bk_cues h, Option.bind_some, l1, l3 j j1, xr_cc hC.1, g0, xr_is hC.1, x0_missOf hC (yv_c v j1).1 hs, e2]
  · exact no (by unfold yNc; rw [if_neg c]) (by unfold yMs; rw [if_neg c])
theorem x4_nearestBeat {z e nh nc nt : Nat} {ha ca ta : Nat → Nat} {B : Nat → Int} {H C T : Nat → Nat → Int} {w : xWd} (h : xBk z e nh nc nt ha ca ta B H C T w) (v : xVB nh nc nt B H C T) {q : Nat} {s : Nat → Int} (hq : xHt w q s) (hs : 0 ≤ s 0 ∧ s 0 ≤ 60000) (hg : s 2 = 0 ∨ s 2 = 1) : f_X4_nearestBeat (some z) (some q) w = some (iI (yNb nc C s), w) := by
  obtain ⟨l1, l2, l3⟩ := bk_lc h
  have hn := yv_n v
  have g0 : xk_gI w (some q) 2 0 = some (iI (s 0)) := xr_gI (k := 0) hq rfl
  have key := x4_nearestCue h v hq hs hg
  unfold f_X4_nearestBeat f_X4_nearestBeat_33 yNb
  simp only [bk_is h, Option.bind_some, key]
  by_cases c0 : yNc nc C s = -1
  · have e1 : iI (yNc nc C s) = (-1 : Int32) := by rw [c0, iL_m1]
    rw [if_pos e1, if_pos c0, iL_m1]
  · rw [if_neg c0]
    by_cases c : s 2 = 0
    · rcases yQ_s (C := C) hs nc (fun k hk => (yv_c v hk).1) with ⟨h1, h2⟩ | ⟨j, j1, j2, j3, j4⟩
      · exact absurd (by unfold yNc; rw [if_pos c, h1]) c0
      · have e1 : yNc nc C s = j := by unfold yNc; rw [if_pos c, j2]
        have hC := bk_c h j1
        have cj : ¬ iI (j : Int) = (-1 : Int32) := by rw [iL_m1, iI_eq (by omega) (by omega)]; omega
        simp only [e1, if_neg cj, bk_cues h, Option.bind_some, l1, l3 j j1, xr_cc hC.1, g0, xr_is hC.1, x0_nearestBeat hC (yv_c v j1).1 hs, Int.toNat_natCast]
    · exact absurd (by unfold yNc; rw [if_neg c]) c0
/-- is a hit met from a cue with start st -/
def yRc (c : Nat → Int) (st f tol : Int) : Bool := yReach (fun j => c (22 + 3 * j)) st f tol (c 10).toNat
/-- is a hit met by a cue but one -/
def yMb (nc : Nat) (C : Nat → Nat → Int) (but : Int) (s : Nat → Int) : Bool := decide (s 2 = 0) && (List.range nc).any fun i => decide ((i : Int) ≠ but) && yRc (C i) (C i 1) (s 0) (s 1)
theorem xCB_o {s : Nat → Int} (h : xCB s) : ∀ i, i < 63 → 0 ≤ s (22 + 3 * i) ∧ s (22 + 3 * i) ≤ 3000 := h.2.2.2.2.2.2.2.2.2.2.2
theorem x4_isMetBut_l {z e nh nc nt : Nat} {ha ca ta : Nat → Nat} {B : Nat → Int} {H C T : Nat → Nat → Int} {w : xWd} (h : xBk z e nh nc nt ha ca ta B H C T w) (v : xVB nh nc nt B H C T) {q : Nat} {s : Nat → Int} {but : Int} (hb : -1 ≤ but ∧ but ≤ 100) (hq : xHt w q s) (hs : 0 ≤ s 0 ∧ s 0 ≤ 60000) (ht : 0 ≤ s 1 ∧ s 1 ≤ 100) (hg : s 2 = 0 ∨ s 2 = 1) : ∀ (r k fu : Nat), k + r = nc → r < fu → (∀ i, i < k → (decide ((i : Int) ≠ but) && yRc (C i) (C i 1) (s 0) (s 1)) = false) → f_X4_isMetBut_2 fu (some z) (some q) (iI but) (iI k) w = some (iI (if yMb nc C but s then 1 else 0), w) := by
  have hn := yv_n v
  obtain ⟨l1, l2, l3⟩ := bk_lc h
  have g2 : xk_gI w (some q) 2 2 = some (iI (s 2)) := xr_gI (k := 2) hq rfl
  have g0 : xk_gI w (some q) 2 0 = some (iI (s 0)) := xr_gI (k := 0) hq rfl
  have g1 : xk_gI w (some q) 2 1 = some (iI (s 1)) := xr_gI (k := 1) hq rfl
  intro r
  induction r with
  | zero =>
    intro k fu h1 h4 h5
    obtain ⟨fu, rfl⟩ : ∃ f, fu = f + 1 := ⟨fu - 1, by omega⟩
    have c1 : iI (nc : Int) ≤ iI k := by rw [iI_le (by omega) (by omega)]; omega
    have e : yMb nc C but s = false := by
      unfold yMb
      rw [Bool.and_eq_false_iff]
      right
      rw [List.any_eq_false]
      intro i hi
      rw [h5 i (by have := List.mem_range.mp hi; omega)]
      decide
    unfold f_X4_isMetBut_2 f_X4_isMetBut_72
    simp only [bk_cues h, Option.bind_some, l1, l2, if_pos c1, e]
    rfl
  | succ r ih =>
    intro k fu h1 h4 h5
    obtain ⟨fu, rfl⟩ : ∃ f, fu = f + 1 := ⟨fu - 1, by omega⟩
    have hk : k < nc := by omega
    have hC := bk_c h hk
    have hB := (yv_c v hk).1
    have c1 : ¬ iI (nc : Int) ≤ iI k := by rw [iI_le (by omega) (by omega)]; omega
    have e3 : iI (k : Int) + (1 : Int32) = iI ((k + 1 : Nat) : Int) := by rw [iL_1, iI_add]; rfl
    have i2 := ih (k + 1) fu (by omega) (by omega)
    have d1 : xk_gI w (some (ca k)) 1 1 = some (iI (C k 1)) := xr_gI (k := 1) hC.1 rfl
    have d12 : xk_gR w (some (ca k)) 1 12 = some (some (ca k + 3)) := xr_gR (k := 12) hC.1 rfl
    have rea := x0_reaches (ro := ca k + 3) (o := fun j => C k (22 + 3 * j)) hC hB hC.2.2.2 (xCB_o hB) (f := s 0) (tol := s 1) (st := C k 1) hs ht ⟨by have := hB.1; omega, by have := hB.2.1; omega⟩
    unfold f_X4_isMetBut_2 f_X4_isMetBut_66 f_X4_isMetBut_72
    by_cases c2 : s 2 = 0
    · have c2' : iI (s 2) = (0 : Int32) := by rw [c2, iL_0]
      by_cases c4 : (k : Int) = but
      · have c4' : iI (k : Int) = iI but := by rw [c4]
        simp only [bk_cues h, Option.bind_some, l1, l2, if_neg c1, g2, if_pos c2', l3 k hk, xr_cc hC.1, if_pos c4', e3]
        refine i2 (fun i hi => ?_)
        by_cases q : i = k
        · rw [q, c4]; simp
        · exact h5 i (by omega)
      · have c4' : ¬ iI (k : Int) = iI but := by rw [iI_eq (by omega) (by omega)]; exact c4
        simp only [bk_cues h, Option.bind_some, l1, l2, if_neg c1, g2, if_pos c2', l3 k hk, xr_cc hC.1, if_neg c4', e3, g0, g1, d1, d12, xr_is hC.1, rea, xi_if]
        cases c5 : yReach (fun j => C k (22 + 3 * j)) (C k 1) (s 0) (s 1) (C k 10).toNat
        · refine i2 (fun i hi => ?_)
          by_cases q : i = k
          · rw [q]
            unfold yRc
            rw [c5, Bool.and_false]
          · exact h5 i (by omega)
        · have e : yMb nc C but s = true := by
            unfold yMb
            rw [Bool.and_eq_true, List.any_eq_true]
            refine ⟨decide_eq_true c2, k, List.mem_range.mpr hk, ?_⟩
            unfold yRc
            rw [c5, Bool.and_true]
            exact decide_eq_true c4
          rw [e]
          rfl
    · have c2' : ¬ iI (s 2) = (0 : Int32) := by rw [iL_0, iI_eq (by omega) (by omega)]; exact c2
      have e : yMb nc C but s = false := by
        unfold yMb
        rw [decide_eq_false c2, Bool.false_and]
      simp only [bk_cues h, Option.bind_some, l1, l2, if_neg c1, g2, if_neg c2', e]
      rfl
theorem x4_isMetBut {z e nh nc nt : Nat} {ha ca ta : Nat → Nat} {B : Nat → Int} {H C T : Nat → Nat → Int} {w : xWd} (h : xBk z e nh nc nt ha ca ta B H C T w) (v : xVB nh nc nt B H C T) {q : Nat} {s : Nat → Int} {but : Int} (hb : -1 ≤ but ∧ but ≤ 100) (hq : xHt w q s) (hs : 0 ≤ s 0 ∧ s 0 ≤ 60000) (ht : 0 ≤ s 1 ∧ s 1 ≤ 100) (hg : s 2 = 0 ∨ s 2 = 1) : f_X4_isMetBut (some z) (some q) (iI but) w = some (iI (if yMb nc C but s then 1 else 0), w) := by
  have hn := yv_n v
  exact x4_isMetBut_l h v hb hq hs ht hg nc 0 4096 (by omega) (by omega) (fun i hi => absurd hi (by omega))
theorem xi_zb (b : Bool) : xk_zb (iI (if b = true then 1 else 0)) = some () := by cases b <;> decide
theorem x4_isMet {z e nh nc nt : Nat} {ha ca ta : Nat → Nat} {B : Nat → Int} {H C T : Nat → Nat → Int} {w : xWd} (h : xBk z e nh nc nt ha ca ta B H C T w) (v : xVB nh nc nt B H C T) {q : Nat} {s : Nat → Int} (hq : xHt w q s) (hs : 0 ≤ s 0 ∧ s 0 ≤ 60000) (ht : 0 ≤ s 1 ∧ s 1 ≤ 100) (hg : s 2 = 0 ∨ s 2 = 1) : f_X4_isMet (some z) (some q) w = some (iI (if yMb nc C (-1) s then 1 else 0), w) := by
  unfold f_X4_isMet
  rw [iL_m1]
  simp only [bk_is h, Option.bind_some, x4_isMetBut h v (but := -1) (by omega) hq hs ht hg, xi_zb]
/-- how many below n -/
def yCt (p : Nat → Bool) : Nat → Int
  | 0 => 0
  | n + 1 => yCt p n + if p n then 1 else 0
theorem yCt_b (p : Nat → Bool) : ∀ n : Nat, 0 ≤ yCt p n ∧ yCt p n ≤ n := by
  intro n
  induction n with
  | zero => exact ⟨Int.le_refl _, Int.le_refl _⟩
  | succ n ih =>
    have e : yCt p (n + 1) = yCt p n + if p n then 1 else 0 := rfl
    rw [e]
    split <;> omega
theorem yCt_e (p : Nat → Bool) (n : Nat) : yCt p (n + 1) = yCt p n + if p n then 1 else 0 := rfl
theorem x4_countMet_l {z e nh nc nt : Nat} {ha ca ta : Nat → Nat} {B : Nat → Int} {H C T : Nat → Nat → Int} {w : xWd} (h : xBk z e nh nc nt ha ca ta B H C T w) (v : xVB nh nc nt B H C T) : ∀ (r k fu : Nat), k + r = nh → r < fu → f_X4_countMet_4 fu (some z) (iI (yCt (fun i => yMb nc C (-1) (H i)) k)) (iI k) w = some (iI (yCt (fun i => yMb nc C (-1) (H i)) nh), w) := by
  have hn := yv_n v
  obtain ⟨l1, l2, l3⟩ := bk_lh h
  intro r
  induction r with
  | zero =>
    intro k fu h1 h4
    obtain ⟨fu, rfl⟩ : ∃ f, fu = f + 1 := ⟨fu - 1, by omega⟩
    have c1 : iI (nh : Int) ≤ iI k := by rw [iI_le (by omega) (by omega)]; omega
    unfold f_X4_countMet_4
    simp only [bk_hits h, Option.bind_some, l1, l2, if_pos c1]
    rw [show nh = k by omega]
  | succ r ih =>
    intro k fu h1 h4
    obtain ⟨fu, rfl⟩ : ∃ f, fu = f + 1 := ⟨fu - 1, by omega⟩
    have hk : k < nh := by omega
    have hH := bk_h h hk
    have hB := yv_h v hk
    have c1 : ¬ iI (nh : Int) ≤ iI k := by rw [iI_le (by omega) (by omega)]; omega
    have e3 : ∀ x : Int, iI x + (1 : Int32) = iI (x + 1) := fun x => by rw [iL_1, iI_add]
    have i2 := ih (k + 1) fu (by omega) (by omega)
    have hi : xk_is w (some (ha k)) 2 = some () := xr_is hH
    rw [yCt_e] at i2
    unfold f_X4_countMet_4 f_X4_countMet_36
    simp only [bk_hits h, Option.bind_some, l1, l2, if_neg c1, l3 k hk, xr_cc hH, bk_is h, x4_isMet h v hH (by omega) (by omega) hB.2.2.2.2, xi_if, e3]
    cases c : yMb nc C (-1) (H k)
    · rw [c] at i2
      simp only [Bool.false_eq_true, if_false, Int.add_zero] at i2 ⊢
      exact i2
    · rw [c] at i2
      simp only [if_true] at i2 ⊢
      exact i2
/-- how many hits are met -/
def yCm (nh nc : Nat) (H C : Nat → Nat → Int) : Int := yCt (fun i => yMb nc C (-1) (H i)) nh
theorem x4_countMet {z e nh nc nt : Nat} {ha ca ta : Nat → Nat} {B : Nat → Int} {H C T : Nat → Nat → Int} {w : xWd} (h : xBk z e nh nc nt ha ca ta B H C T w) (v : xVB nh nc nt B H C T) : f_X4_countMet (some z) w = some (iI (yCm nh nc H C), w) := by
  have hn := yv_n v
  exact x4_countMet_l h v nh 0 4096 (by omega) (by omega)
