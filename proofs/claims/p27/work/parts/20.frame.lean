/-- what a call leaves alone: rows of the law's own, the script, the shared row -/
def xFr (z e : Nat) (w w' : xWd) : Prop := w.2.1 ≤ w'.2.1 ∧ w'.2.2 = w.2.2 ∧ ∀ q, q < w.2.1 → (q < z ∨ e ≤ q) → ∀ x, w.1 q = some (.inl x) → x.1 ≠ 2 → w'.1 q = w.1 q
theorem xFr_r (z e : Nat) (w : xWd) : xFr z e w w := ⟨Nat.le_refl _, rfl, fun _ _ _ _ _ _ => rfl⟩
theorem xFr_t {z e : Nat} {w w1 w2 : xWd} (h1 : xFr z e w w1) (h2 : xFr z e w1 w2) : xFr z e w w2 := by
  refine ⟨Nat.le_trans h1.1 h2.1, h2.2.1.trans h1.2.1, fun q hq hr x hx hn => ?_⟩
  have e1 := h1.2.2 q hq hr x hx hn
  have e2 := h2.2.2 q (Nat.lt_of_lt_of_le hq h1.1) hr x (e1.trans hx) hn
  exact e2.trans e1
theorem xl_fr {w w' : xWd} {al ad n : Nat} {a : Nat → Nat} (h : xl_R w al ad n a) (h2 : w'.2 = w.2) (ha : w'.1 al = w.1 al) (hd : w'.1 ad = w.1 ad) : xl_R w' al ad n a := by
  obtain ⟨mc, h3, h4, h5, h6⟩ := h
  refine ⟨mc, ha.trans h3, by rw [h2]; exact h4, h5, ?_⟩
  rcases h6 with ⟨q1, q2, q3⟩ | ⟨cap, f, q1, q2, q3, q4⟩
  · exact Or.inl ⟨q1, by rw [h2]; exact q2, hd.trans q3⟩
  · exact Or.inr ⟨cap, f, hd.trans q1, by rw [h2]; exact q2, by rw [h2]; exact q3, q4⟩
/-- the list's row is a row of references or the shared one -/
theorem xl_row {w : xWd} {al ad n : Nat} {a : Nat → Nat} (h : xl_R w al ad n a) : (ad = w.2.2.1) ∨ ∃ x, w.1 ad = some (.inl (2, x)) := by
  obtain ⟨mc, h3, h4, h5, h6⟩ := h
  rcases h6 with ⟨q1, q2, q3⟩ | ⟨cap, f, q1, q2, q3, q4⟩
  · exact Or.inl q2
  · exact Or.inr ⟨_, q1⟩
theorem bk_mod {z e nh nc nt : Nat} {ha ca ta : Nat → Nat} {B : Nat → Int} {H C T : Nat → Nat → Int} {w : xWd} (h : xBk z e nh nc nt ha ca ta B H C T w) {w' : xWd} {B' : Nat → Int} {H' C' : Nat → Nat → Int} (h2 : w'.2 = w.2) (ho : ∀ q, q < z ∨ e ≤ q → w'.1 q = w.1 q) (hr : ∀ q x, w.1 q = some (.inl (2, x)) → w'.1 q = w.1 q)
    (hl : ∀ q, (q = z + 1 ∨ q = z + 3 ∨ q = z + 4 ∨ q = z + 5 ∨ q = z + 6 ∨ q = z + 7 ∨ q = z + 8 ∨ q = z + 9) → w'.1 q = w.1 q) (hz : w'.1 z = some (xBc z B')) (hv : w'.1 (z + 2) = some (.inl (0, 4, .inl (fun i => iI (B' (20 + i))))))
    (hh : ∀ k, k < nh → xHt w' (ha k) (H' k)) (hc : ∀ k, k < nc → xC w' (ca k) (C' k)) : xBk z e nh nc nt ha ca ta B' H' C' T w' ∧ xFr z e w w' := by
  obtain ⟨a1, a2, ⟨d1, a3, a3'⟩, ⟨d2, a4, a4'⟩, ⟨tr, pr, np, pa, b, W, j1, j2, j3, j4, j5, j6, j7⟩, ⟨O, a6, a6'⟩, ⟨M, a7⟩, a8, a9, a10, a11, a12, a13⟩ := h
  have hA : w'.2.2.1 = w.2.2.1 := by rw [h2]
  have hrow : ∀ {al ad n : Nat} {a : Nat → Nat}, xl_R w al ad n a → w'.1 ad = w.1 ad := by
    intro al ad n a hl
    rcases xl_row hl with q | ⟨x, q⟩
    · exact ho ad (Or.inl (by omega))
    · exact hr ad x q
  refine ⟨⟨hz, hv, ⟨d1, xl_fr a3 h2 (hl _ (by omega)) (hrow a3), by rw [hA]; exact a3'⟩, ⟨d2, xl_fr a4 h2 (hl _ (by omega)) (hrow a4), by rw [hA]; exact a4'⟩,
    ⟨tr, pr, np, pa, b, W, xl_fr j1 h2 (hl _ (by omega)) (hrow j1), by rw [hA]; exact j2, (hl _ (by omega)).trans j3, xl_fr j4 h2 (hl _ (by omega)) (hrow j4), by rw [hA]; exact j5, by rw [hA]; exact j6, (hl _ (by omega)).trans j7⟩,
    ⟨O, (hl _ (by omega)).trans a6, a6'⟩, ⟨M, (hl _ (by omega)).trans a7⟩, fun k hk => ⟨(a8 k hk).1, (a8 k hk).2.1, hh k hk, (a8 k hk).2.2.2⟩, fun k hk => ⟨(a9 k hk).1, (a9 k hk).2.1, hc k hk, (a9 k hk).2.2.2⟩,
    fun k hk => ⟨(a10 k hk).1, by rw [h2]; exact (a10 k hk).2.1, (ho _ (Or.inr (a10 k hk).1)).trans (a10 k hk).2.2⟩, by rw [hA]; exact a11, a12, by rw [h2]; exact a13⟩, ?_⟩
  exact ⟨by rw [h2]; exact Nat.le_refl _, by rw [h2], fun q _ hq _ _ _ => ho q hq⟩
theorem bk_e {z e nh nc nt : Nat} {ha ca ta : Nat → Nat} {B : Nat → Int} {H C T : Nat → Nat → Int} {w : xWd} (h : xBk z e nh nc nt ha ca ta B H C T w) : w.2.2.1 < z ∧ z + 10 ≤ e ∧ e ≤ w.2.1 := h.2.2.2.2.2.2.2.2.2.2
theorem bk_ha {z e nh nc nt : Nat} {ha ca ta : Nat → Nat} {B : Nat → Int} {H C T : Nat → Nat → Int} {w : xWd} (h : xBk z e nh nc nt ha ca ta B H C T w) {k : Nat} (hk : k < nh) : z + 9 < ha k ∧ ha k < e := ⟨(h.2.2.2.2.2.2.2.1 k hk).1, (h.2.2.2.2.2.2.2.1 k hk).2.1⟩
theorem bk_cb {z e nh nc nt : Nat} {ha ca ta : Nat → Nat} {B : Nat → Int} {H C T : Nat → Nat → Int} {w : xWd} (h : xBk z e nh nc nt ha ca ta B H C T w) {k : Nat} (hk : k < nc) : z + 9 < ca k ∧ ca k + 3 < e := ⟨(h.2.2.2.2.2.2.2.2.1 k hk).1, (h.2.2.2.2.2.2.2.2.1 k hk).2.1⟩
theorem bk_hj {z e nh nc nt : Nat} {ha ca ta : Nat → Nat} {B : Nat → Int} {H C T : Nat → Nat → Int} {w : xWd} (h : xBk z e nh nc nt ha ca ta B H C T w) {i j : Nat} (hi : i < nh) (hj : j < nh) (e : ha i = ha j) : i = j := by
  rcases Nat.lt_trichotomy i j with c | c | c
  · have := (h.2.2.2.2.2.2.2.1 j hj).2.2.2 i c
    omega
  · exact c
  · have := (h.2.2.2.2.2.2.2.1 i hi).2.2.2 j c
    omega
theorem bk_cj {z e nh nc nt : Nat} {ha ca ta : Nat → Nat} {B : Nat → Int} {H C T : Nat → Nat → Int} {w : xWd} (h : xBk z e nh nc nt ha ca ta B H C T w) {i j : Nat} (hi : i < nc) (hj : j < nc) (e : i ≠ j) : ca i + 3 < ca j ∨ ca j + 3 < ca i := by
  rcases Nat.lt_trichotomy i j with c | c | c
  · exact Or.inl ((h.2.2.2.2.2.2.2.2.1 j hj).2.2.2 i c)
  · exact absurd c e
  · exact Or.inr ((h.2.2.2.2.2.2.2.2.1 i hi).2.2.2 j c)
/-- a hit is no part of a cue -/
theorem bk_hc {z e nh nc nt : Nat} {ha ca ta : Nat → Nat} {B : Nat → Int} {H C T : Nat → Nat → Int} {w : xWd} (h : xBk z e nh nc nt ha ca ta B H C T w) {i j : Nat} (hi : i < nh) (hj : j < nc) : ha i < ca j ∨ ca j + 3 < ha i := by
  have hH := bk_h h hi
  have hC := bk_c h hj
  by_cases c : ha i < ca j ∨ ca j + 3 < ha i
  · exact c
  · exfalso
    unfold xHt at hH
    rcases (show ha i = ca j ∨ ha i = ca j + 1 ∨ ha i = ca j + 2 ∨ ha i = ca j + 3 by omega) with q | q | q | q
    · rw [q, hC.1] at hH; cases hH
    · rw [q, hC.2.1] at hH; cases hH
    · rw [q, hC.2.2.1] at hH; cases hH
    · rw [q, hC.2.2.2] at hH; cases hH
/-- the book's cell written -/
def xBW (w : xWd) (z : Nat) (B : Nat → Int) : xWd := (va_up w.1 z (some (xBc z B)), w.2)
theorem bk_pV {z e nh nc nt : Nat} {ha ca ta : Nat → Nat} {B : Nat → Int} {H C T : Nat → Nat → Int} {w : xWd} (h : xBk z e nh nc nt ha ca ta B H C T w) {k : Nat} {v : Int} (hk : k = 2 ∨ k = 5 ∨ k = 6 ∨ k = 7 ∨ k = 8 ∨ k = 9) : ∃ w', xk_pV w (some z) 0 k (.int (iI v)) = some w' ∧ xBk z e nh nc nt ha ca ta (va_up B k v) H C T w' ∧ xFr z e w w' := by
  have he := bk_e h
  refine ⟨xBW w z (va_up B k v), ?_, ?_⟩
  · unfold xBW
    rw [xr_pV (v := .int (iI v)) h.1 (by show k < 13; omega)]
    rcases hk with rfl | rfl | rfl | rfl | rfl | rfl <;> rfl
  · have hq : ∀ q, q ≠ z → (xBW w z (va_up B k v)).1 q = w.1 q := fun q hq => xk_up_n _ _ hq
    refine bk_mod h rfl (fun q hq' => hq q (by omega)) (fun q x hx => hq q (fun c => by rw [c, h.1] at hx; cases hx)) (fun q hq' => hq q (by omega)) (xk_up_s _ _ _) ?_ (fun i hi => ?_) (fun i hi => ?_)
    · refine (hq _ (by omega)).trans (h.2.1.trans ?_)
      congr 5
      funext i
      exact congrArg iI (xk_up_n _ _ (by omega)).symm
    · have := bk_ha h hi
      exact (hq _ (by omega)).trans (bk_h h hi)
    · have := bk_cb h hi
      have hC := bk_c h hi
      exact ⟨(hq _ (by omega)).trans hC.1, (hq _ (by omega)).trans hC.2.1, (hq _ (by omega)).trans hC.2.2.1, (hq _ (by omega)).trans hC.2.2.2⟩
theorem bk_sR {z e nh nc nt : Nat} {ha ca ta : Nat → Nat} {B : Nat → Int} {H C T : Nat → Nat → Int} {w : xWd} (h : xBk z e nh nc nt ha ca ta B H C T w) {i : Nat} {v : Int} (hi : i < 4) : ∃ w', xk_sI 0 w (some (z + 2)) (iI i) (iI v) = some w' ∧ xBk z e nh nc nt ha ca ta (va_up B (20 + i) v) H C T w' ∧ xFr z e w w' := by
  have he := bk_e h
  have e1 := xr_sI (v := iI v) h.2.1 (i := (i : Int)) (by omega) (by omega) (by omega)
  rw [Int.toNat_natCast] at e1
  refine ⟨_, e1, ?_⟩
  have hq : ∀ q, q ≠ z + 2 → (va_up w.1 (z + 2) (some (.inl (0, 4, .inl (upd (fun i => iI (B (20 + i))) i (iI v)))))) q = w.1 q := fun q hq => xk_up_n _ _ hq
  have ez : xBc z (va_up B (20 + i) v) = xBc z B := by
    unfold xBc
    rw [xk_up_n _ _ (by omega), xk_up_n _ _ (by omega), xk_up_n _ _ (by omega), xk_up_n _ _ (by omega), xk_up_n _ _ (by omega), xk_up_n _ _ (by omega)]
  refine bk_mod h rfl (fun q hq' => hq q (by omega)) (fun q x hx => hq q (fun c => by rw [c, h.2.1] at hx; cases hx)) (fun q hq' => hq q (by omega)) ?_ ?_ (fun i hi => ?_) (fun i hi => ?_)
  · rw [ez]; exact (hq _ (by omega)).trans h.1
  · refine (xk_up_s _ _ _).trans ?_
    rw [xi_upd (fun i => B (20 + i))]
    congr 5
    funext j
    by_cases c : j = i
    · subst c; rw [xk_up_s, xk_up_s]
    · rw [xk_up_n _ _ c, xk_up_n _ _ (by omega)]
  · have := bk_ha h hi
    exact (hq _ (by omega)).trans (bk_h h hi)
  · have := bk_cb h hi
    have hC := bk_c h hi
    exact ⟨(hq _ (by omega)).trans hC.1, (hq _ (by omega)).trans hC.2.1, (hq _ (by omega)).trans hC.2.2.1, (hq _ (by omega)).trans hC.2.2.2⟩
/-- a cue rewritten -/
theorem bk_cue {z e nh nc nt : Nat} {ha ca ta : Nat → Nat} {B : Nat → Int} {H C T : Nat → Nat → Int} {w : xWd} (h : xBk z e nh nc nt ha ca ta B H C T w) {k : Nat} (hk : k < nc) (s : Nat → Int) : xBk z e nh nc nt ha ca ta B H (va_up C k s) T (xCW w (ca k) s) ∧ xFr z e w (xCW w (ca k) s) := by
  have he := bk_e h
  have hb := bk_cb h hk
  have hC := bk_c h hk
  have hq : ∀ q, q < ca k ∨ ca k + 3 < q → (xCW w (ca k) s).1 q = w.1 q := fun q hq => xCW_n w s hq
  refine bk_mod h rfl (fun q hq' => hq q (by omega)) (fun q x hx => hq q ?_) (fun q hq' => hq q (by omega)) ((hq z (by omega)).trans h.1) ((hq _ (by omega)).trans h.2.1) (fun i hi => ?_) (fun i hi => ?_)
  · by_cases c : q < ca k ∨ ca k + 3 < q
    · exact c
    · exfalso
      rcases (show q = ca k ∨ q = ca k + 1 ∨ q = ca k + 2 ∨ q = ca k + 3 by omega) with d | d | d | d
      · rw [d, hC.1] at hx; cases hx
      · rw [d, hC.2.1] at hx; cases hx
      · rw [d, hC.2.2.1] at hx; cases hx
      · rw [d, hC.2.2.2] at hx; cases hx
  · exact (hq _ (bk_hc h hi hk)).trans (bk_h h hi)
  · by_cases c : i = k
    · subst c
      rw [xk_up_s]
      exact xCW_C w (ca i) s
    · rw [xk_up_n _ _ c]
      have hD := bk_c h hi
      have := bk_cj h hi hk c
      exact ⟨(hq _ (by omega)).trans hD.1, (hq _ (by omega)).trans hD.2.1, (hq _ (by omega)).trans hD.2.2.1, (hq _ (by omega)).trans hD.2.2.2⟩
/-- a hit rewritten -/
theorem bk_hit {z e nh nc nt : Nat} {ha ca ta : Nat → Nat} {B : Nat → Int} {H C T : Nat → Nat → Int} {w : xWd} (h : xBk z e nh nc nt ha ca ta B H C T w) {k : Nat} (hk : k < nh) (s : Nat → Int) : xBk z e nh nc nt ha ca ta B (va_up H k s) C T (va_up w.1 (ha k) (some (.inr (2, [.int (iI (s 0)), .int (iI (s 1)), .int (iI (s 2))]))), w.2) ∧ xFr z e w (va_up w.1 (ha k) (some (.inr (2, [.int (iI (s 0)), .int (iI (s 1)), .int (iI (s 2))]))), w.2) := by
  have he := bk_e h
  have hb := bk_ha h hk
  have hH := bk_h h hk
  unfold xHt at hH
  have hq : ∀ q, q ≠ ha k → (va_up w.1 (ha k) (some (.inr (2, [.int (iI (s 0)), .int (iI (s 1)), .int (iI (s 2))])))) q = w.1 q := fun q hq => xk_up_n _ _ hq
  refine bk_mod h rfl (fun q hq' => hq q (by omega)) (fun q x hx => hq q (fun c => by rw [c, hH] at hx; cases hx)) (fun q hq' => hq q (by omega)) ((hq z (by omega)).trans h.1) ((hq _ (by omega)).trans h.2.1) (fun i hi => ?_) (fun i hi => ?_)
  · by_cases c : i = k
    · subst c
      rw [xk_up_s]
      exact xk_up_s _ _ _
    · rw [xk_up_n _ _ c]
      exact (hq _ (fun d => c (bk_hj h hi hk d))).trans (bk_h h hi)
  · have hD := bk_c h hi
    have := bk_hc h hk hi
    exact ⟨(hq _ (by omega)).trans hD.1, (hq _ (by omega)).trans hD.2.1, (hq _ (by omega)).trans hD.2.2.1, (hq _ (by omega)).trans hD.2.2.2⟩
