/-- bars as the document wants them -/
def xCK (s : Nat → Int) : Prop := ∀ i : Nat, (i : Int) < s 7 → 2 ≤ s (20 + 3 * i) ∧ s (20 + 3 * i) ≤ 7 ∧ 24 ≤ s (21 + 3 * i) ∧ s (21 + 3 * i) ≤ 160
/-- beats go forward, and end ahead of the end -/
def xCI (s : Nat → Int) : Prop := (∀ i j : Nat, i < j → (j : Int) < s 10 → s (22 + 3 * i) < s (22 + 3 * j)) ∧ ∀ i : Nat, (i : Int) < s 10 → 0 ≤ s (22 + 3 * i) ∧ s (22 + 3 * i) < s 11
theorem yL_spec {s K : Nat → Int} (g : Nat → Int) : ∀ n : Nat, (∀ i, i < n → 0 ≤ s (20 + 3 * i) ∧ 24 ≤ K i) → 0 ≤ yH s K n ∧ 0 ≤ yB s n ∧ (∀ i : Nat, (i : Int) < yB s n → ∃ a, yL s K g n i = a / 4 ∧ 0 ≤ a ∧ a + 24 ≤ yH s K n) ∧ (∀ i j : Nat, i < j → (j : Int) < yB s n → ∃ a b, yL s K g n i = a / 4 ∧ yL s K g n j = b / 4 ∧ a + 24 ≤ b) ∧ ∀ i : Nat, yB s n ≤ i → yL s K g n i = g i := by
  intro n
  induction n with
  | zero =>
    intro _
    refine ⟨Int.le_refl _, Int.le_refl _, fun i hi => ?_, fun i j _ hj => ?_, fun _ _ => rfl⟩
    · have e : yB s 0 = 0 := rfl
      omega
    · have e : yB s 0 = 0 := rfl
      omega
  | succ n ih =>
    intro hK
    obtain ⟨h1, h2, h3, h4, h5⟩ := ih (fun i hi => hK i (by omega))
    obtain ⟨m1, k1⟩ := hK n (by omega)
    have eB : yB s (n + 1) = yB s n + s (20 + 3 * n) := rfl
    have eH : yH s K (n + 1) = yH s K n + s (20 + 3 * n) * K n := rfl
    have eL : ∀ i : Nat, yL s K g (n + 1) i = if yB s n ≤ i ∧ i < yB s (n + 1) then (yH s K n + (i - yB s n) * K n) / 4 else yL s K g n i := fun _ => rfl
    have p0 : 0 ≤ s (20 + 3 * n) * K n := Int.mul_nonneg m1 (by omega)
    -- within bar n
    have inb : ∀ i : Nat, yB s n ≤ i → (i : Int) < yB s (n + 1) → yL s K g (n + 1) i = (yH s K n + (i - yB s n) * K n) / 4 ∧ 0 ≤ (i - yB s n) * K n ∧ yH s K n + (i - yB s n) * K n + 24 ≤ yH s K (n + 1) := by
      intro i q1 q2
      refine ⟨by rw [eL, if_pos ⟨q1, q2⟩], Int.mul_nonneg (by omega) (by omega), ?_⟩
      have : ((i : Int) - yB s n + 1) * K n ≤ s (20 + 3 * n) * K n := Int.mul_le_mul_of_nonneg_right (by omega) (by omega)
      rw [Int.add_mul, Int.one_mul] at this
      omega
    have inl : ∀ i : Nat, (i : Int) < yB s n → yL s K g (n + 1) i = yL s K g n i := fun i q => by rw [eL, if_neg (by omega)]
    refine ⟨by omega, by omega, fun i hi => ?_, fun i j hij hj => ?_, fun i hi => ?_⟩
    · by_cases c : (i : Int) < yB s n
      · obtain ⟨a, a1, a2, a3⟩ := h3 i c
        exact ⟨a, (inl i c).trans a1, a2, by omega⟩
      · obtain ⟨a1, a2, a3⟩ := inb i (by omega) hi
        exact ⟨_, a1, by omega, a3⟩
    · by_cases c : (j : Int) < yB s n
      · obtain ⟨a, b, a1, a2, a3⟩ := h4 i j hij c
        exact ⟨a, b, (inl i (by omega)).trans a1, (inl j c).trans a2, a3⟩
      · obtain ⟨b1, b2, b3⟩ := inb j (by omega) hj
        by_cases d : (i : Int) < yB s n
        · obtain ⟨a, a1, a2, a3⟩ := h3 i d
          exact ⟨a, _, (inl i d).trans a1, b1, by omega⟩
        · obtain ⟨a1, a2, a3⟩ := inb i (by omega) (by omega)
          refine ⟨_, _, a1, b1, ?_⟩
          have : ((i : Int) - yB s n + 1) * K n ≤ ((j : Int) - yB s n) * K n := Int.mul_le_mul_of_nonneg_right (by omega) (by omega)
          rw [Int.add_mul, Int.one_mul] at this
          omega
    · rw [eL, if_neg (by omega)]
      exact h5 i (by omega)
theorem ySet_ok {s : Nat → Int} (hB : xCB s) {b : Nat} {m c : Int} (hb : (b : Int) < s 7) (hm : 2 ≤ m ∧ m ≤ 7) (hc : 24 ≤ c ∧ c ≤ 160) (h6 : s 6 < 5000) (hK : ∀ i : Nat, (i : Int) < s 7 → i ≠ b → 2 ≤ s (20 + 3 * i) ∧ s (20 + 3 * i) ≤ 7 ∧ 24 ≤ s (21 + 3 * i) ∧ s (21 + 3 * i) ≤ 160) :
    xCB (ySet s b m c) ∧ xCK (ySet s b m c) ∧ xCI (ySet s b m c) ∧ (∀ j, j < 22 → j ≠ 6 → j ≠ 10 → j ≠ 11 → j < 20 → ySet s b m c j = s j) ∧ ySet s b m c 6 = s 6 + 1 := by
  obtain ⟨b1, b2, b3, b4, b5, b6, b7, b8, b9, b10, b11, b12⟩ := hB
  have q20 : ∀ i, yS2 s b m c (20 + 3 * i) = if i = b then m else s (20 + 3 * i) := by
    intro i
    unfold yS2
    rw [xk_up_n _ _ (by omega)]
    by_cases d : i = b
    · subst d; rw [xk_up_s, if_pos rfl]
    · rw [xk_up_n _ _ (by omega), if_neg d]
  have q21 : ∀ i, yS2 s b m c (21 + 3 * i) = if i = b then c else s (21 + 3 * i) := by
    intro i
    unfold yS2
    by_cases d : i = b
    · subst d; rw [xk_up_s, if_pos rfl]
    · rw [xk_up_n _ _ (by omega), xk_up_n _ _ (by omega), if_neg d]
  have e20 : ∀ i, ySet s b m c (20 + 3 * i) = yS2 s b m c (20 + 3 * i) := fun i => by unfold ySet; rw [if_neg (by omega), if_neg (by omega), if_neg (by omega), if_neg (by omega)]
  have e21 : ∀ i, ySet s b m c (21 + 3 * i) = yS2 s b m c (21 + 3 * i) := fun i => by unfold ySet; rw [if_neg (by omega), if_neg (by omega), if_neg (by omega), if_neg (by omega)]
  have e22 : ∀ i, ySet s b m c (22 + 3 * i) = yL (yS2 s b m c) (fun n => yS2 s b m c (21 + 3 * n)) (fun i => s (22 + 3 * i)) (s 7).toNat i := fun i => by
    unfold ySet
    rw [if_neg (by omega), if_neg (by omega), if_neg (by omega), if_pos (by omega), show (22 + 3 * i - 22) / 3 = i by omega]
  have e10 : ySet s b m c 10 = yB (yS2 s b m c) (s 7).toNat := rfl
  have e11 : ySet s b m c 11 = (yH (yS2 s b m c) (fun n => yS2 s b m c (21 + 3 * n)) (s 7).toNat + 3) / 4 := rfl
  have e6 : ySet s b m c 6 = s 6 + 1 := rfl
  have elo : ∀ j, j < 22 → j ≠ 6 → j ≠ 10 → j ≠ 11 → j < 20 → ySet s b m c j = s j := by
    intro j j1 j2 j3 j4 j5
    unfold ySet yS2
    rw [if_neg j2, if_neg j3, if_neg j4, if_neg (by omega), xk_up_n _ _ (by omega), xk_up_n _ _ (by omega)]
  have MK : yMK (yS2 s b m c) (fun n => yS2 s b m c (21 + 3 * n)) := by
    intro i hi
    have hh := b11 i hi
    show 0 ≤ yS2 s b m c (20 + 3 * i) ∧ yS2 s b m c (20 + 3 * i) ≤ 7 ∧ 0 ≤ yS2 s b m c (21 + 3 * i) ∧ yS2 s b m c (21 + 3 * i) ≤ 160
    rw [q20, q21]
    split <;> omega
  have CK : ∀ i : Nat, (i : Int) < s 7 → 2 ≤ yS2 s b m c (20 + 3 * i) ∧ yS2 s b m c (20 + 3 * i) ≤ 7 ∧ 24 ≤ yS2 s b m c (21 + 3 * i) ∧ yS2 s b m c (21 + 3 * i) ≤ 160 := by
    intro i hi
    rw [q20, q21]
    by_cases d : i = b
    · rw [if_pos d, if_pos d]; omega
    · rw [if_neg d, if_neg d]; exact hK i hi d
  have bB := yB_b MK (s 7).toNat (by omega)
  have bH := yH_b MK (s 7).toNat (by omega)
  obtain ⟨l1, l2, l3, l4, l5⟩ := yL_spec (s := yS2 s b m c) (K := fun n => yS2 s b m c (21 + 3 * n)) (fun i => s (22 + 3 * i)) (s 7).toNat (fun i hi => ⟨by have := CK i (by omega); omega, (CK i (by omega)).2.2.1⟩)
  refine ⟨⟨?_, ?_, ?_, ?_, ?_, ?_, ?_, ?_, ?_, ?_, ?_, ?_⟩, ?_, ⟨?_, ?_⟩, elo, rfl⟩
  · rw [elo 1 (by omega) (by omega) (by omega) (by omega) (by omega)]; exact b1
  · rw [elo 1 (by omega) (by omega) (by omega) (by omega) (by omega)]; exact b2
  · rw [e6]; omega
  · rw [e6]; omega
  · rw [elo 7 (by omega) (by omega) (by omega) (by omega) (by omega)]; exact b5
  · rw [elo 7 (by omega) (by omega) (by omega) (by omega) (by omega)]; exact b6
  · rw [e10]; omega
  · rw [e10]; omega
  · rw [e11]; omega
  · rw [e11]; omega
  · intro i hi
    rw [e20, e21]
    exact MK i hi
  · intro i hi
    rw [e22]
    by_cases d : (i : Int) < yB (yS2 s b m c) (s 7).toNat
    · obtain ⟨a, a1, a2, a3⟩ := l3 i d
      rw [a1]
      omega
    · rw [l5 i (by omega)]
      exact b12 i hi
  · intro i hi
    rw [elo 7 (by omega) (by omega) (by omega) (by omega) (by omega)] at hi
    rw [e20, e21]
    exact CK i hi
  · intro i j hij hj
    rw [e10] at hj
    obtain ⟨a, b', a1, a2, a3⟩ := l4 i j hij hj
    rw [e22, e22, a1, a2]
    omega
  · intro i hi
    rw [e10] at hi
    obtain ⟨a, a1, a2, a3⟩ := l3 i hi
    rw [e22, e11, a1]
    omega
