/-- what joins leave alone -/
def xJf (z pr : Nat) (w w' : xWd) : Prop := w.2.1 ≤ w'.2.1 ∧ w'.2.2 = w.2.2 ∧ ∀ q, q < w.2.1 → q ≠ z + 5 → q ≠ z + 6 → q ≠ z + 7 → (q ≠ pr ∨ pr = w.2.2.1) → w'.1 q = w.1 q
theorem xl_fr2 {w w' : xWd} {al ad n : Nat} {a : Nat → Nat} (h : xl_R w al ad n a) (h1 : w.2.1 ≤ w'.2.1) (h2 : w'.2.2 = w.2.2) (ha : w'.1 al = w.1 al) (hd : w'.1 ad = w.1 ad) : xl_R w' al ad n a := by
  obtain ⟨mc, h3, h4, h5, h6⟩ := h
  refine ⟨mc, ha.trans h3, by omega, h5, ?_⟩
  rcases h6 with ⟨q1, q2, q3⟩ | ⟨cap, f, q1, q2, q3, q4⟩
  · exact Or.inl ⟨q1, by rw [h2]; exact q2, hd.trans q3⟩
  · exact Or.inr ⟨cap, f, hd.trans q1, by rw [h2]; exact q2, by omega, q4⟩
theorem xl_lt {w : xWd} {al ad n : Nat} {a : Nat → Nat} (h : xl_R w al ad n a) (hz : w.2.2.1 < w.2.1) : ad < w.2.1 := by
  obtain ⟨mc, h3, h4, h5, h6⟩ := h
  rcases h6 with ⟨q1, q2, q3⟩ | ⟨cap, f, q1, q2, q3, q4⟩
  · omega
  · exact q3
theorem bk_jn {z e nh nc nt : Nat} {ha ca ta : Nat → Nat} {B : Nat → Int} {H C T : Nat → Nat → Int} {w : xWd} (h : xBk z e nh nc nt ha ca ta B H C T w) : ∃ (pr np : Nat) (pa : Nat → Nat) (b : Int32) (W : Nat → Int32), w.1 (z + 5) = some (.inr (3, [.ref (z + 6), .int b, .ref (z + 7)])) ∧ xl_R w (z + 6) pr np pa ∧ (pr = w.2.2.1 ∨ e ≤ pr) ∧ w.1 (z + 7) = some (.inl (0, 360, .inl W)) ∧
    ∀ (w' : xWd) (pr' np' : Nat) (pa' : Nat → Nat) (b' : Int32) (W' : Nat → Int32), xJf z pr w w' → w'.1 (z + 5) = some (.inr (3, [.ref (z + 6), .int b', .ref (z + 7)])) → xl_R w' (z + 6) pr' np' pa' → (pr' = w.2.2.1 ∨ pr' = pr ∨ w.2.1 ≤ pr') → w'.1 (z + 7) = some (.inl (0, 360, .inl W')) → xBk z e nh nc nt ha ca ta B H C T w' ∧ xFr z e w w' := by
  obtain ⟨a1, a2, ⟨d1, a3, a3'⟩, ⟨d2, a4, a4'⟩, ⟨tr, pr, np, pa, b, W, j1, j2, j3, j4, j5, j6, j7⟩, ⟨O, a6, a6'⟩, ⟨M, a7⟩, a8, a9, a10, a11, a12, a13⟩ := h
  refine ⟨pr, np, pa, b, W, j3, j4, j5, j7, ?_⟩
  intro w' pr' np' pa' b' W' hf g5 g6 gp g7
  obtain ⟨f1, f2, f3⟩ := hf
  have hA : w'.2.2.1 = w.2.2.1 := by rw [f2]
  have hz : w.2.2.1 < w.2.1 := by omega
  have hal : ∀ q, q < w.2.1 → (q < e ∨ ∃ x, w.1 q = some (.inr x)) → q ≠ z + 5 → q ≠ z + 6 → q ≠ z + 7 → w'.1 q = w.1 q := by
    intro q q0 q1 q2 q3 q4
    refine f3 q q0 q2 q3 q4 ?_
    rcases q1 with q1 | ⟨x, q1⟩
    · by_cases c : q = pr
      · exact Or.inr (by omega)
      · exact Or.inl c
    · rcases xl_row j4 with c | ⟨y, c⟩
      · exact Or.inr c
      · exact Or.inl (fun c2 => by rw [c2, c] at q1; cases q1)
  have l1 := xl_lt a3 hz
  have l2 := xl_lt a4 hz
  have l3 := xl_lt j1 hz
  have htr : w'.1 tr = w.1 tr := by
    rcases j2 with c | c
    · exact hal tr l3 (Or.inl (by omega)) (by omega) (by omega) (by omega)
    · exact f3 tr l3 (by omega) (by omega) (by omega) (Or.inl (by omega))
  refine ⟨⟨(hal _ (by omega) (Or.inl (by omega)) (by omega) (by omega) (by omega)).trans a1, (hal _ (by omega) (Or.inl (by omega)) (by omega) (by omega) (by omega)).trans a2,
    ⟨d1, xl_fr2 a3 f1 f2 (hal _ (by omega) (Or.inl (by omega)) (by omega) (by omega) (by omega)) (hal _ l1 (Or.inl (by omega)) (by omega) (by omega) (by omega)), by rw [hA]; exact a3'⟩,
    ⟨d2, xl_fr2 a4 f1 f2 (hal _ (by omega) (Or.inl (by omega)) (by omega) (by omega) (by omega)) (hal _ l2 (Or.inl (by omega)) (by omega) (by omega) (by omega)), by rw [hA]; exact a4'⟩,
    ⟨tr, pr', np', pa', b', W', xl_fr2 j1 f1 f2 (hal _ (by omega) (Or.inl (by omega)) (by omega) (by omega) (by omega)) htr, by rw [hA]; exact j2, g5, g6, by rw [hA]; omega, by rw [hA]; omega, g7⟩,
    ⟨O, (hal _ (by omega) (Or.inl (by omega)) (by omega) (by omega) (by omega)).trans a6, a6'⟩, ⟨M, (hal _ (by omega) (Or.inl (by omega)) (by omega) (by omega) (by omega)).trans a7⟩,
    fun k hk => ?_, fun k hk => ?_, fun k hk => ?_, by rw [hA]; exact a11, a12, by omega⟩, f1, f2, ?_⟩
  · obtain ⟨b1, b2, b3, b4⟩ := a8 k hk
    exact ⟨b1, b2, (hal _ (by omega) (Or.inl (by omega)) (by omega) (by omega) (by omega)).trans b3, b4⟩
  · obtain ⟨b1, b2, b3, b4⟩ := a9 k hk
    exact ⟨b1, b2, ⟨(hal _ (by omega) (Or.inl (by omega)) (by omega) (by omega) (by omega)).trans b3.1, (hal _ (by omega) (Or.inl (by omega)) (by omega) (by omega) (by omega)).trans b3.2.1, (hal _ (by omega) (Or.inl (by omega)) (by omega) (by omega) (by omega)).trans b3.2.2.1, (hal _ (by omega) (Or.inl (by omega)) (by omega) (by omega) (by omega)).trans b3.2.2.2⟩, b4⟩
  · obtain ⟨b1, b2, b3⟩ := a10 k hk
    exact ⟨b1, by omega, (hal _ b2 (Or.inr ⟨_, b3⟩) (by omega) (by omega) (by omega)).trans b3⟩
  · intro q hq hr x hx hx2
    refine f3 q hq (by omega) (by omega) (by omega) ?_
    rcases xl_row j4 with c | ⟨y, c⟩
    · exact Or.inr c
    · exact Or.inl (fun c2 => by rw [c2, c] at hx; cases hx; exact hx2 rfl)
theorem xk_any0 (w : xWd) : xk_any w none = some () := rfl
/-- the row of a list emptied -/
theorem xl_clear_l {ad n cap : Nat} (hn : n ≤ cap) (hc : cap ≤ 64) : ∀ (r k fu : Nat) (w : xWd) (f : Nat → Option Nat), w.1 ad = some (.inl (2, cap, .inr (.inr (.inr (.inr f))))) → k + r = n → r < fu →
    ∃ (g : Nat → Option Nat), f_Jx4a65c_clear_da8c8_27 fu (some ad) (iI n) (iI k) w = some (va_up w.1 ad (some (.inl (2, cap, .inr (.inr (.inr (.inr g)))))), w.2) := by
  intro r
  induction r with
  | zero =>
    intro k fu w f hw h1 h4
    obtain ⟨fu, rfl⟩ : ∃ f, fu = f + 1 := ⟨fu - 1, by omega⟩
    have c1 : iI (n : Int) ≤ iI k := by rw [iI_le (by omega) (by omega)]; omega
    refine ⟨f, ?_⟩
    unfold f_Jx4a65c_clear_da8c8_27
    rw [if_pos c1, xk_up_id _ _ _ hw]
  | succ r ih =>
    intro k fu w f hw h1 h4
    obtain ⟨fu, rfl⟩ : ∃ f, fu = f + 1 := ⟨fu - 1, by omega⟩
    have c1 : ¬ iI (n : Int) ≤ iI k := by rw [iI_le (by omega) (by omega)]; omega
    have e1 := xr_sR (v := none) hw (i := (k : Int)) (by omega) (by omega) (by omega)
    obtain ⟨g, i1⟩ := ih (k + 1) fu (va_up w.1 ad (some (.inl (2, cap, .inr (.inr (.inr (.inr (va_up f (k : Int).toNat none))))))), w.2) _ (xk_up_s _ _ _) (by omega) (by omega)
    refine ⟨g, ?_⟩
    unfold f_Jx4a65c_clear_da8c8_27
    rw [if_neg c1, xk_any0, Option.bind_some, e1, Option.bind_some, show iI (k : Int) + (1 : Int32) = iI ((k + 1 : Nat) : Int) by rw [iL_1, iI_add]; rfl, i1]
    congr 1
    show (va_up (va_up w.1 ad _) ad _, w.2) = _
    rw [xk_up2]
theorem xl_clear {w : xWd} {al ad n : Nat} {a a' : Nat → Nat} (h : xl_R w al ad n a) : ∃ w', f_Jx4a65c_clear_da8c8 (some al) w = some w' ∧ xl_R w' al ad 0 a' ∧ w'.2 = w.2 ∧ ∀ q, q ≠ al → (q ≠ ad ∨ ad = w.2.2.1) → w'.1 q = w.1 q := by
  obtain ⟨mc, h1, hal, hn, h2⟩ := h
  have p1 := xr_pV (k := 0) (v := .int (mc + 1)) h1 (by simp)
  simp only [List.set] at p1
  have p2 := xr_pV (w := (va_up w.1 al (some (.inr (5, [.int (mc + 1), .ref ad, .int (iI n)]))), w.2)) (k := 2) (v := .int 0) (xk_up_s _ _ _) (by simp)
  simp only [List.set] at p2
  rw [xk_up2] at p2
  obtain ⟨w3, hw3⟩ : ∃ w3 : xWd, w3 = (va_up w.1 al (some (.inr (5, [.int (mc + 1), .ref ad, .int 0]))), w.2) := ⟨_, rfl⟩
  rw [← hw3] at p2
  have k3 : w3.1 al = some (.inr (5, [.int (mc + 1), .ref ad, .int (iI ((0 : Nat) : Int))])) := by rw [hw3]; exact xk_up_s _ _ _
  have kn : ∀ q, q ≠ al → w3.1 q = w.1 q := fun q hq => by rw [hw3]; exact xk_up_n _ _ hq
  have s3 : w3.2 = w.2 := by rw [hw3]
  have run : ∀ w', f_Jx4a65c_clear_da8c8_27 4096 (some ad) (iI n) 0 w3 = some w' → f_Jx4a65c_clear_da8c8 (some al) w = some w' := by
    intro w' hx
    unfold f_Jx4a65c_clear_da8c8
    rw [xr_gI (k := 0) h1 rfl, Option.bind_some, p1, Option.bind_some, xr_gR (k := 1) (xk_up_s _ _ _) rfl, Option.bind_some, xr_gI (k := 2) (xk_up_s _ _ _) rfl, Option.bind_some, p2, Option.bind_some]
    exact hx
  rcases h2 with ⟨rfl, q2, q3⟩ | ⟨cap, f, q1, q2, q3, q4, q5, q6, q7⟩
  · have hne : ad ≠ al := fun c => by rw [c, h1] at q3; cases q3
    refine ⟨w3, run w3 ?_, ⟨mc + 1, k3, by rw [s3]; exact hal, by omega, Or.inl ⟨rfl, by rw [s3]; exact q2, (kn _ hne).trans q3⟩⟩, s3, fun q hq _ => kn q hq⟩
    rw [f_Jx4a65c_clear_da8c8_27, if_pos (by decide)]
  · have hne : ad ≠ al := fun c => by rw [c, h1] at q1; cases q1
    obtain ⟨g, i1⟩ := xl_clear_l (ad := ad) (n := n) q5 q6 n 0 4096 w3 f ((kn _ hne).trans q1) (by omega) (by omega)
    refine ⟨_, run _ i1, ⟨mc + 1, (xk_up_n _ _ (fun c => hne c.symm)).trans k3, by show al < w3.2.1; rw [s3]; exact hal, by omega, Or.inr ⟨cap, g, xk_up_s _ _ _, by show ad ≠ w3.2.2.1; rw [s3]; exact q2, by show ad < w3.2.1; rw [s3]; exact q3, q4, by omega, q6, fun i hi => absurd hi (by omega)⟩⟩, s3, fun q hq hd => ?_⟩
    have : q ≠ ad := by
      rcases hd with d | d
      · exact d
      · exact absurd d q2
    exact (xk_up_n _ _ this).trans (kn q hq)
