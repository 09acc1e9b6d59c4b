theorem law_true (b L : Nat) (xs : Nat → Int32) (z0 eA : Nat) (ad : Nat → Nat) (hL : L ≤ 6) (hb : b < z0) (he : eA < z0) (hne : ¬ b = eA) : ∃ w1 : xWd, f_L_law (some b) ((fun a => if a = b then some (.inl (4, L, .inl xs)) else if a = eA then some (.inl (3, 0, .inr (.inr (.inr (.inr (fun _ => none)))))) else none, z0, eA, ad)) = some (1, w1) := by
  obtain ⟨w, hw⟩ : ∃ w : xWd, w = (fun a => if a = b then some (.inl (4, L, .inl xs)) else if a = eA then some (.inl (3, 0, .inr (.inr (.inr (.inr (fun _ => none)))))) else none, z0, eA, ad) := ⟨_, rfl⟩
  have h1 : w.1 b = some (.inl (4, L, .inl xs)) := by rw [hw]; exact if_pos rfl
  have h2 : w.1 eA = some yR0 := by rw [hw]; exact (if_neg (fun e => hne e.symm)).trans (if_pos rfl)
  have h3 : w.2.1 = z0 := by rw [hw]
  have h4 : w.2.2.1 = eA := by rw [hw]
  rw [← hw]
  obtain ⟨w1, a1, a2, a3, a4⟩ := y_X4i h3 (by omega)
  have n1 : w1.2.1 = z0 + 10 := by rw [a3]
  obtain ⟨w2, b1, b2, b3, b4⟩ := y_X8i n1
  have n2 : w2.2.1 = z0 + 15 := by rw [b3]
  have e2 : w2.2.2 = w.2.2 := by rw [b3, a3]
  have e1 : w1.2.2 = w.2.2 := by rw [a3]
  obtain ⟨c1, c2, c3, c4, c5⟩ := b2 z0 rfl
  obtain ⟨w3, hw3⟩ : ∃ w3 : xWd, w3 = (va_up w2.1 (z0 + 15) (some (.inl (5, 1, .inr (.inl (fun _ => 0))))), z0 + 16, w2.2.2) := ⟨_, rfl⟩
  have d1 : xk_nA w2 5 xk_dJ 1 64 = some w3 := by
    unfold xk_nA
    rw [if_neg (by decide), if_pos (by decide), n2, hw3]
    rfl
  have q3 : ∀ q, q < z0 + 15 → w3.1 q = w2.1 q := fun q hq => by rw [hw3]; exact xk_up_n _ _ (by omega)
  have n3 : w3.2.1 = z0 + 16 := by rw [hw3]
  have e3 : w3.2.2 = w2.2.2 := by rw [hw3]
  have ee : ∀ wi wj : xWd, wi.2.2 = wj.2.2 → ∀ a, yEm wj a → wi.1 a = wj.1 a → yEm wi a := by
    intro wi wj h a g1 g2
    unfold yEm
    rw [g2, h]
    exact g1
  have k2 : ∀ q, q < z0 + 10 → w3.1 q = w1.1 q := fun q hq => (q3 q (by omega)).trans (b4 q (by omega))
  have s3 : w3.1 b = some (.inl (4, L, .inl xs)) := (k2 b (by omega)).trans ((a4 b (by omega)).trans h1)
  have hx : yXW z0 w3 := ⟨(k2 _ (by omega)).trans a2.1, ee w3 w1 (by rw [e3, e2, e1]) _ a2.2.1 (k2 _ (by omega)), ee w3 w1 (by rw [e3, e2, e1]) _ a2.2.2.1 (k2 _ (by omega)), ee w3 w1 (by rw [e3, e2, e1]) _ a2.2.2.2.1 (k2 _ (by omega)), (k2 _ (by omega)).trans a2.2.2.2.2⟩
  have hE : w3.2.2.1 = eA := by rw [e3, e2, h4]
  have hm : yMW z0 0 w3 := ⟨(q3 _ (by omega)).trans c1, ee w3 w2 e3 _ c2 (q3 _ (by omega)), ee w3 w2 e3 _ c3 (q3 _ (by omega)), ee w3 w2 e3 _ c4 (q3 _ (by omega)), ee w3 w2 e3 _ c5 (q3 _ (by omega)), by rw [hE]; exact (k2 _ (by omega)).trans ((a4 _ (by omega)).trans h2), by rw [hE]; exact he, by rw [n3]; exact Nat.le_refl _⟩
  have ho : yOW z0 0 w3 := ⟨fun _ => 0, by rw [hw3]; exact xk_up_s _ _ _, rfl⟩
  have hf : f_L_law (some b) w = f_L_law_23 2 (some b) (some z0) (some (z0 + 10)) (some (z0 + 15)) 0 w3 := by
    unfold f_L_law
    rw [Option.bind_some, h3, a1, Option.bind_some, Option.bind_some, n1, b1, Option.bind_some, n2, d1, Option.bind_some]
  rw [hf]
  by_cases c : L = 6
  · subst c
    exact y_step hx hm ho hb s3
  · refine ⟨w3, ?_⟩
    have l : xk_len w3 (some b) = some (Int32.ofNat L) := xr_len (d := (L, .inl xs)) s3 (by decide)
    unfold f_L_law_23
    rw [l, Option.bind_some, if_pos]
    rcases (show L = 0 ∨ L = 1 ∨ L = 2 ∨ L = 3 ∨ L = 4 ∨ L = 5 by omega) with rfl | rfl | rfl | rfl | rfl | rfl <;> decide
