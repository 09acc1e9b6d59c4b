theorem law_true (b L : Nat) (xs : Nat → Int32) (z0 eA mi : Nat) (hL : L ≤ 260) (hb : b < z0) (he : eA < z0) (hne : ¬ b = eA) : ∃ w1 : xWd, f_L_law (some b) ((fun a => if a = b then some (.inl (4, L, .inl xs)) else if a = eA then some (.inl (3, 0, .inr (.inr (.inr (.inr (fun _ => none)))))) else none, z0, eA, mi)) = some (1, w1) := by
  obtain ⟨w, hw⟩ : ∃ w : xWd, w = (fun a => if a = b then some (.inl (4, L, .inl xs)) else if a = eA then some (.inl (3, 0, .inr (.inr (.inr (.inr (fun _ => none)))))) else none, z0, eA, mi) := ⟨_, rfl⟩
  have h1 : w.1 b = some (.inl (4, L, .inl xs)) := by rw [hw]; exact if_pos rfl
  have h2 : w.1 eA = some (.inl (3, 0, .inr (.inr (.inr (.inr (fun _ => none)))))) := by rw [hw]; exact (if_neg (fun e => hne e.symm)).trans (if_pos rfl)
  have h3 : w.2.1 = z0 := by rw [hw]
  have h4 : w.2.2.1 = eA := by rw [hw]
  rw [← hw]
  obtain ⟨w1, hw1⟩ : ∃ w1 : xWd, w1 = xk_nw w 0 xf_0 := ⟨_, rfl⟩
  have g1 : w1.1 z0 = some (.inr (0, xf_0)) := by rw [hw1, ← h3]; exact xk_up_s _ _ _
  have g2 : ∀ q, q ≠ z0 → w1.1 q = w.1 q := fun q hq => by rw [hw1]; exact xk_up_n _ _ (by rw [h3]; exact hq)
  have g3 : w1.2.1 = z0 + 1 := by rw [hw1, ← h3]; rfl
  have g4 : w1.2.2.1 = eA := by rw [hw1]; exact h4
  obtain ⟨w2, i1, i2, i3, i4, i5⟩ := x4_init g1 g3 (by rw [g4]; exact he) (by rw [g4, g2 eA (by omega)]; exact h2)
  have hb2 := (i5 b hb).trans ((g2 b (by omega)).trans h1)
  have sb : xSb (va_up (fun _ => 0) 5 2400) := ⟨xk_up_s _ _ _, xk_up_n _ _ (by omega), xk_up_n _ _ (by omega), xk_up_n _ _ (by omega), xk_up_n _ _ (by omega), fun k hk => by rw [xk_up_n _ _ (show 20 + k ≠ 5 by omega)]; omega⟩
  obtain ⟨B', w3, j1, j2, j3, j4, j5, j6⟩ := ls_theme hL hb 2 0 4096 _ _ w2 i2 i3 sb (xk_up_n _ _ (by omega)) hb2 (by omega) (by omega)
  obtain ⟨e', ha', H', w4, k1, k2, k3, k4, k5⟩ := ls_hits hL hb j4 8 0 41 _ _ _ w3 j2 j3 (fun k hk => by omega) j6 (by omega) (by omega)
  obtain ⟨w5, l1⟩ := ls_cues hL hb j4 j5 k4 4 0 41 _ _ _ w4 k2 k3 (fun k hk => by omega) k5 (by omega) (by omega)
  rw [show iI ((0 : Nat) : Int) = (0 : Int32) by decide] at j1 k1 l1
  refine ⟨w5, ?_⟩
  unfold f_L_law
  rw [Option.bind_some, h3, ← hw1, i1, Option.bind_some, j1, k1, l1]
