/-! the state ahead of a step, and what a step leaves -/
theorem p10_pos : ∀ n : Nat, (0 : Int) < 10 ^ n
  | 0 => by decide
  | n + 1 => by
    have := p10_pos n
    rw [Int.pow_succ]
    omega
theorem p10_le {a : Nat} : ∀ c : Nat, (10 : Int) ^ a ≤ 10 ^ (a + c)
  | 0 => Int.le_refl _
  | c + 1 => by
    have h1 := p10_le (a := a) c
    have h2 := p10_pos (a + c)
    rw [show a + (c + 1) = (a + c) + 1 by omega, Int.pow_succ]
    omega
theorem p10_m {a b : Nat} (h : a ≤ b) : (10 : Int) ^ a ≤ 10 ^ b := by
  have := p10_le (a := a) (b - a)
  rw [show a + (b - a) = b by omega] at this
  exact this
theorem yCt_0 {p : Nat → Bool} : ∀ n : Nat, (∀ i, i < n → p i = false) → yCt p n = 0
  | 0 => fun _ => rfl
  | n + 1 => by
    intro h
    rw [yCt_e, yCt_0 n (fun i hi => h i (by omega)), h n (by omega), if_neg Bool.false_ne_true]
    rfl
theorem xLv_u {n nt : Nat} {B : Nat → Int} {H C T : Nat → Nat → Int} (l : xLv n nt B H C T) : xLv (n + 1) nt B H C T := by
  obtain ⟨l1, l2, l3, l4, l5, l6⟩ := l
  exact ⟨l1, by omega, l3, fun k hk => by obtain ⟨g1, g2, g3, g4, g5, g6⟩ := l4 k hk; exact ⟨g1, g2, g3, by omega, g5, g6⟩, l5, l6⟩
theorem xLv_c {n nt : Nat} {B : Nat → Int} {H C T : Nat → Nat → Int} (l : xLv n nt B H C T) {k : Nat} {s : Nat → Int} (h1 : 0 ≤ s 1 ∧ s 1 ≤ 2400) (h7 : 1 ≤ s 7 ∧ C k 7 ≤ s 7) (h6 : C k 6 ≤ s 6 ∧ s 6 ≤ 2 * (n + 1 : Nat) + 1) (hK : xCK s) (hI : xCI s) : xLv (n + 1) nt B H (va_up C k s) T := by
  obtain ⟨l1, l2, l3, l4, l5, l6⟩ := l
  refine ⟨l1, by omega, l3, fun j hj => ?_, l5, fun j hj => ?_⟩
  · by_cases c : j = k
    · subst c
      rw [xk_up_s]
      exact ⟨h1.1, h1.2, h7.1, h6.2, hK, hI⟩
    · rw [xk_up_n _ _ c]
      obtain ⟨g1, g2, g3, g4, g5, g6⟩ := l4 j hj
      exact ⟨g1, g2, g3, by omega, g5, g6⟩
  · obtain ⟨m1, m2⟩ := l6 j hj
    by_cases c : (T j 1).toNat = k
    · rw [c] at m1 m2 ⊢
      rw [xk_up_s]
      have := p10_m (show (C k 7).toNat ≤ (s 7).toNat by omega)
      exact ⟨by omega, by omega⟩
    · rw [xk_up_n _ _ c]
      exact ⟨m1, m2⟩
theorem xLv_B {n nt : Nat} {B B' : Nat → Int} {H C T : Nat → Nat → Int} (l : xLv n nt B H C T) (h : ∀ j, j ≠ 7 → j ≠ 8 → j ≠ 9 → B' j = B j) (h9 : B' 9 ≤ B 9 + 2400) : xLv (n + 1) nt B' H C T := by
  obtain ⟨l1, l2, l3, l4, l5, l6⟩ := xLv_u l
  obtain ⟨-, k2, -⟩ := l
  exact ⟨(h 5 (by omega) (by omega) (by omega)).trans l1, by omega, l3, l4, fun k hk => by rw [h (20 + k) (by omega) (by omega) (by omega)]; exact l5 k hk, l6⟩
theorem yv_B {nh nc nt : Nat} {B B' : Nat → Int} {H C T : Nat → Nat → Int} (v : xVB nh nc nt B H C T) (h : ∀ j, j ≠ 7 → j ≠ 8 → j ≠ 9 → B' j = B j) (b7 : 0 ≤ B' 7 ∧ B' 7 ≤ 60) (b8 : 0 ≤ B' 8 ∧ B' 8 ≤ 120) (b9 : 0 ≤ B' 9 ∧ B' 9 ≤ 1000000) : xVB nh nc nt B' H C T := by
  obtain ⟨a1, a2, a3, a4, a5, a6, a7, a8, a9, a10, a11, a12, a13, a14, a15, vh, vc, vt, vr⟩ := v
  have e5 := h 5 (by omega) (by omega) (by omega)
  have e6 := h 6 (by omega) (by omega) (by omega)
  have e2 := h 2 (by omega) (by omega) (by omega)
  unfold xVB
  rw [e5, e6, e2]
  exact ⟨a1, a2, a3, a4, a5, a6, a7, a8, a9, b7.1, b7.2, b8.1, b8.2, b9.1, b9.2, vh, vc, vt, fun k hk => by rw [h (20 + k) (by omega) (by omega) (by omega)]; exact vr k hk⟩
/-- a take more -/
theorem yv_T {nh nc nt : Nat} {B B' : Nat → Int} {H C T : Nat → Nat → Int} (v : xVB nh nc nt B H C T) (hB : ∀ j, j ≠ 8 → B' j = B j) (b8 : 0 ≤ B' 8 ∧ B' 8 ≤ 120) (hnt : nt < 40) {c : Nat} (hc : c < nc) {x p : Int} (hx : 0 ≤ x ∧ x ≤ 10 ^ (C c 7).toNat - 1) (hp : -2 ≤ p ∧ p ≤ 2) : xVB nh nc (nt + 1) B' H C (va_up T nt (yNew nt c (C c 6) x p)) := by
  obtain ⟨b1, b2, b3, b4, b5, b6, -⟩ := (yv_c v hc).1
  obtain ⟨a1, a2, a3, a4, a5, a6, a7, a8, a9, a10, a11, a12, a13, a14, a15, vh, vc, vt, vr⟩ := v
  have pw := p10_m (show (C c 7).toNat ≤ 9 by omega)
  have p9 : (10 : Int) ^ 9 = 1000000000 := by decide
  unfold xVB
  rw [hB 5 (by omega), hB 6 (by omega), hB 2 (by omega), hB 7 (by omega), hB 9 (by omega)]
  refine ⟨a1, a2, by omega, a4, a5, a6, a7, a8, a9, a10, a11, b8.1, b8.2, a14, a15, vh, vc, fun k hk => ?_, fun k hk => by rw [hB (20 + k) (by omega)]; exact vr k hk⟩
  by_cases e : k = nt
  · subst e
    rw [xk_up_s]
    show (k : Int) = k ∧ 0 ≤ (c : Int) ∧ (c : Int) < nc ∧ 0 ≤ C c 6 ∧ C c 6 ≤ 5000 ∧ 0 ≤ x ∧ x ≤ 999999999 ∧ -2 ≤ p ∧ p ≤ 2
    omega
  · rw [xk_up_n _ _ e]
    exact vt k (by omega)
theorem xLv_T {n nt : Nat} {B B' : Nat → Int} {H C T : Nat → Nat → Int} (l : xLv n nt B H C T) (hB : ∀ j, j ≠ 8 → B' j = B j) {c : Nat} {x p : Int} (hx : x ≤ 10 ^ (C c 7).toNat - 1) : xLv (n + 1) (nt + 1) B' H C (va_up T nt (yNew nt c (C c 6) x p)) := by
  obtain ⟨l1, l2, l3, l4, l5, l6⟩ := xLv_u l
  unfold xLv
  rw [hB 5 (by omega), hB 9 (by omega)]
  refine ⟨l1, l2, l3, l4, fun k hk => by rw [hB (20 + k) (by omega)]; exact l5 k hk, fun k hk => ?_⟩
  by_cases e : k = nt
  · subst e
    rw [xk_up_s]
    show x ≤ 10 ^ (C ((c : Int)).toNat 7).toNat - 1 ∧ C c 6 ≤ C ((c : Int)).toNat 6
    rw [Int.toNat_natCast]
    exact ⟨hx, Int.le_refl _⟩
  · rw [xk_up_n _ _ e]
    exact l6 k (by omega)
/-- ahead of step n -/
def xSt (z e b L A D n nt : Nat) (xs : Nat → Int32) (ha ca ta : Nat → Nat) (B : Nat → Int) (H C T : Nat → Nat → Int) (w : xWd) : Prop :=
  xBk z e 8 4 nt ha ca ta B H C T w ∧ xVB 8 4 nt B H C T ∧ xLv n nt B H C T ∧ w.1 b = some (.inl (4, L, .inl xs)) ∧ (∃ fe fo : Nat → Int32, w.1 A = some (.inl (0, 40, .inl fe)) ∧ w.1 D = some (.inl (0, 40, .inl fo)) ∧ ∀ k, k < nt → fe k = iI (T k 2) ∧ fo k = iI (T k 1)) ∧ b < z ∧ e ≤ A ∧ A < D ∧ D < w.2.1
theorem xSt_m {z e b L A D n nt n' : Nat} {xs : Nat → Int32} {ha ca ta ta' : Nat → Nat} {B B' : Nat → Int} {H C C' T : Nat → Nat → Int} {w w' : xWd} (st : xSt z e b L A D n nt xs ha ca ta B H C T w) (h : xBk z e 8 4 nt ha ca ta' B' H C' T w') (v : xVB 8 4 nt B' H C' T) (l : xLv n' nt B' H C' T) (f : xFr z e w w') : xSt z e b L A D n' nt xs ha ca ta' B' H C' T w' := by
  obtain ⟨h0, v0, l0, hb, ⟨fe, fo, a1, a2, a3⟩, p1, p2, p3, p4⟩ := st
  have he := bk_e h0
  exact ⟨h, v, l, xFr_k (n := 0) f (by omega) hb (by omega) (Or.inl p1), ⟨fe, fo, xFr_k (n := 0) f (by omega) a1 (by omega) (Or.inr p2), xFr_k (n := 0) f (by omega) a2 (by omega) (Or.inr (by omega)), a3⟩, p1, p2, p3, Nat.lt_of_lt_of_le p4 f.1⟩
/-- the step goes on well -/
def xGo (z e b L A D n : Nat) (xs : Nat → Int32) (ha ca : Nat → Nat) (H : Nat → Nat → Int) (K : Option Nat → Option Nat → Option Nat → Option Nat → Int32 → Int32 → xWd → Option (Int32 × xWd)) (o : Option (Int32 × xWd)) : Prop :=
  ∃ (nt : Nat) (ta : Nat → Nat) (B : Nat → Int) (C T : Nat → Nat → Int) (w : xWd), o = f_L_law_930 K (some b) (some z) (some A) (some D) (iI (B 9)) (iI n) w ∧ xSt z e b L A D (n + 1) nt xs ha ca ta B H C T w
theorem xGo_0 {z e b L A D n nt : Nat} {xs : Nat → Int32} {ha ca ta : Nat → Nat} {B : Nat → Int} {H C T : Nat → Nat → Int} {w : xWd} (st : xSt z e b L A D n nt xs ha ca ta B H C T w) (K : Option Nat → Option Nat → Option Nat → Option Nat → Int32 → Int32 → xWd → Option (Int32 × xWd)) : xGo z e b L A D n xs ha ca H K (f_L_law_930 K (some b) (some z) (some A) (some D) (iI (B 9)) (iI n) w) :=
  ⟨nt, ta, B, C, T, w, rfl, xSt_m st st.1 st.2.1 (xLv_u st.2.2.1) (xFr_r z e w)⟩
/-- the count of a start is the count with the cue put there -/
theorem lw_cnt {nh nc : Nat} {H C : Nat → Nat → Int} {c : Nat} (hc : c < nc) (st : Int) : yCm nh nc H (va_up C c (va_up (C c) 1 st)) = yCnt nh (fun i => yMb nc C c (H i)) H (C c) st := by
  unfold yCm yCnt
  refine yCt_c nh (fun i hi => ?_)
  have hr : ∀ x f t, yRc (va_up (C c) 1 st) x f t = yRc (C c) x f t := fun x f t => yRc_c (fun j hj => xk_up_n _ _ (by omega)) x f t
  unfold yPw1
  show yMb nc (va_up C c (va_up (C c) 1 st)) (-1) (H i) = (yMb nc C c (H i) || (decide (H i 2 = 0) && yRc (C c) st (H i 0) (H i 1)))
  unfold yMb
  rw [Bool.eq_iff_iff, Bool.or_eq_true, Bool.and_eq_true, Bool.and_eq_true, Bool.and_eq_true, List.any_eq_true, List.any_eq_true]
  constructor
  · rintro ⟨g1, j, g2, g3⟩
    rw [Bool.and_eq_true] at g3
    by_cases e : j = c
    · subst e
      have g4 := g3.2
      rw [xk_up_s, xk_up_s, hr] at g4
      exact Or.inr ⟨g1, g4⟩
    · have g4 := g3.2
      rw [xk_up_n _ _ e] at g4
      exact Or.inl ⟨g1, j, g2, by rw [Bool.and_eq_true]; exact ⟨decide_eq_true (by omega), g4⟩⟩
  · rintro (⟨g1, j, g2, g3⟩ | ⟨g1, g3⟩)
    · rw [Bool.and_eq_true, decide_eq_true_iff] at g3
      refine ⟨g1, j, g2, ?_⟩
      rw [xk_up_n _ _ (show j ≠ c by omega), Bool.and_eq_true]
      exact ⟨decide_eq_true (by omega), g3.2⟩
    · refine ⟨g1, c, List.mem_range.mpr hc, ?_⟩
      rw [xk_up_s, xk_up_s, hr, Bool.and_eq_true]
      exact ⟨decide_eq_true (by omega), g3⟩
