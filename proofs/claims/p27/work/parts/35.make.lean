/-- the rows of hits and of cues are two -/
def xDj (z : Nat) (w : xWd) : Prop := ∃ (m1 m2 : Int32) (d1 d2 : Nat) (n1 n2 : Int32), w.1 (z + 1) = some (.inr (5, [.int m1, .ref d1, .int n1])) ∧ w.1 (z + 3) = some (.inr (5, [.int m2, .ref d2, .int n2])) ∧ (d1 = w.2.2.1 ∨ d1 ≠ d2)
theorem xDj_e {z : Nat} {w : xWd} (h : xDj z w) {d1 d2 n1 n2 : Nat} {a1 a2 : Nat → Nat} (h1 : xl_R w (z + 1) d1 n1 a1) (h2 : xl_R w (z + 3) d2 n2 a2) : d1 = w.2.2.1 ∨ d1 ≠ d2 := by
  obtain ⟨m1, m2, e1, e2, k1, k2, g1, g2, g3⟩ := h
  obtain ⟨mc, r1, -⟩ := h1
  obtain ⟨mc', r2, -⟩ := h2
  rw [r1] at g1
  rw [r2] at g2
  cases g1
  cases g2
  exact g3
theorem xDj_i {z : Nat} {w : xWd} {d1 d2 n1 n2 : Nat} {a1 a2 : Nat → Nat} (h1 : xl_R w (z + 1) d1 n1 a1) (h2 : xl_R w (z + 3) d2 n2 a2) (h : d1 = w.2.2.1 ∨ d1 ≠ d2) : xDj z w := by
  obtain ⟨mc, r1, -⟩ := h1
  obtain ⟨mc', r2, -⟩ := h2
  exact ⟨_, _, _, _, _, _, r1, r2, h⟩
def xNw (z : Nat) (w : xWd) : Prop := xDj z w ∧ (∃ mc : Int32, w.1 (z + 4) = some (.inr (5, [.int mc, .ref w.2.2.1, .int (iI ((0 : Nat) : Int))]))) ∧ (∃ mc : Int32, w.1 (z + 6) = some (.inr (5, [.int mc, .ref w.2.2.1, .int (iI ((0 : Nat) : Int))]))) ∧ w.1 w.2.2.1 = some (.inl (3, 0, .inr (.inr (.inr (.inr (fun _ => none))))))
theorem xNw_l {z : Nat} {w : xWd} (h : xNw z w) (hz : z + 6 < w.2.1) (a : Nat → Nat) : xl_R w (z + 4) w.2.2.1 0 a ∧ xl_R w (z + 6) w.2.2.1 0 a := by
  obtain ⟨-, ⟨m1, h1⟩, ⟨m2, h2⟩, h3⟩ := h
  exact ⟨⟨m1, h1, by omega, by omega, Or.inl ⟨rfl, rfl, h3⟩⟩, ⟨m2, h2, by omega, by omega, Or.inl ⟨rfl, rfl, h3⟩⟩⟩
theorem bk_grow {z e nh nc : Nat} {ha ca ta : Nat → Nat} {B : Nat → Int} {H C T : Nat → Nat → Int} {w : xWd} (h : xBk z e nh nc 0 ha ca ta B H C T w) (hN : xNw z w) {w4 : xWd} {al rd : Nat} (hal : al = z + 1 ∨ al = z + 3) (hrd : rd = w.2.2.1 ∨ (z + 9 < rd ∧ ∃ y, w.1 rd = some (.inl (2, y)))) (g1 : w.2.1 ≤ w4.2.1) (g2 : w4.2.2 = w.2.2)
    (st : ∀ q, q < w.2.1 → q ≠ al → (q ≠ rd ∨ rd = w.2.2.1) → w4.1 q = w.1 q) {nh' nc' : Nat} {ha' ca' : Nat → Nat} {H' C' : Nat → Nat → Int} (DJ : xDj z w4) (L1 : ∃ ad, xl_R w4 (z + 1) ad nh' ha' ∧ (ad = w.2.2.1 ∨ z + 9 < ad)) (L3 : ∃ ad, xl_R w4 (z + 3) ad nc' ca' ∧ (ad = w.2.2.1 ∨ z + 9 < ad))
    (hh : ∀ k, k < nh' → z + 9 < ha' k ∧ ha' k < w4.2.1 ∧ xHt w4 (ha' k) (H' k) ∧ ∀ j, j < k → ha' j < ha' k) (hc : ∀ k, k < nc' → z + 9 < ca' k ∧ ca' k + 3 < w4.2.1 ∧ xC w4 (ca' k) (C' k) ∧ ∀ j, j < k → ca' j + 3 < ca' k) :
    xBk z w4.2.1 nh' nc' 0 ha' ca' ta B H' C' T w4 ∧ xNw z w4 ∧ ∀ q, q < z → w4.1 q = w.1 q := by
  obtain ⟨a1, a2, -, -, ⟨tr, pr, np, pa, b, W, j1, j2, j3, j4, j5, j6, j7⟩, ⟨O, a6, a6'⟩, ⟨M, a7⟩, -, -, -, a11, a12, a13⟩ := h
  obtain ⟨-, ⟨m1, n1⟩, ⟨m2, n2⟩, n3⟩ := hN
  have hz : w.2.2.1 < w.2.1 := by omega
  have hA : w4.2.2.1 = w.2.2.1 := by rw [g2]
  have no2 : ∀ q x, w.1 q = some x → (∀ y, x ≠ .inl (2, y)) → (q ≠ rd ∨ rd = w.2.2.1) := by
    intro q x hx hy
    rcases hrd with r | ⟨-, y, r⟩
    · exact Or.inr r
    · exact Or.inl (fun r2 => by rw [r2, r] at hx; exact hy y (Option.some.inj hx).symm)
  have hN4 : xNw z w4 := by
    refine ⟨DJ, ⟨m1, ?_⟩, ⟨m2, ?_⟩, ?_⟩
    · rw [hA]; exact (st _ (by omega) (by omega) (no2 _ _ n1 (fun y q => by cases q))).trans n1
    · rw [hA]; exact (st _ (by omega) (by omega) (no2 _ _ n2 (fun y q => by cases q))).trans n2
    · rw [hA]; exact (st _ (by omega) (by omega) (no2 _ _ n3 (fun y q => by cases q))).trans n3
  have lz := xNw_l hN4 (by omega) ta
  rw [hA] at lz
  obtain ⟨e1, l1, l1'⟩ := L1
  obtain ⟨e3, l3, l3'⟩ := L3
  have t1 := xl_lt l1 (by omega)
  have t3 := xl_lt l3 (by omega)
  refine ⟨⟨(st _ (by omega) (by omega) (no2 _ _ a1 (fun y q => by cases q))).trans a1, (st _ (by omega) (by omega) (no2 _ _ a2 (fun y q => by cases q))).trans a2,
    ⟨e1, l1, by rw [hA]; omega⟩, ⟨e3, l3, by rw [hA]; omega⟩,
    ⟨w.2.2.1, w.2.2.1, 0, ta, b, W, lz.1, Or.inl hA.symm, (st _ (by omega) (by omega) (no2 _ _ j3 (fun y q => by cases q))).trans j3, lz.2, Or.inl hA.symm, Or.inl hA.symm, (st _ (by omega) (by omega) (no2 _ _ j7 (fun y q => by cases q))).trans j7⟩,
    ⟨O, (st _ (by omega) (by omega) (no2 _ _ a6 (fun y q => by cases q))).trans a6, a6'⟩, ⟨M, (st _ (by omega) (by omega) (no2 _ _ a7 (fun y q => by cases q))).trans a7⟩, hh, hc, fun k hk => absurd hk (by omega), by rw [hA]; exact a11, by omega, Nat.le_refl _⟩, hN4, ?_⟩
  intro q hq
  refine st q (by omega) (by omega) ?_
  rcases hrd with r | ⟨r, -⟩
  · exact Or.inr r
  · exact Or.inl (by omega)
theorem bk_addhit {z e nh nc : Nat} {ha ca ta : Nat → Nat} {B : Nat → Int} {H C T : Nat → Nat → Int} {w : xWd} (h : xBk z e nh nc 0 ha ca ta B H C T w) (hN : xNw z w) (hnh : nh ≤ 12) (s : Nat → Int) : ∃ w', f_Jx4a65c_add_9ea2d (some (z + 1)) (some w.2.1) (va_up w.1 w.2.1 (some (.inr (2, [.int (iI (s 0)), .int (iI (s 1)), .int (iI (s 2))]))), w.2.1 + 1, w.2.2) = some (1, w') ∧ xBk z w'.2.1 (nh + 1) nc 0 (va_up ha nh w.2.1) ca ta B (va_up H nh s) C T w' ∧ xNw z w' ∧ w'.2.2 = w.2.2 ∧ (∀ q, q < z → w'.1 q = w.1 q) := by
  obtain ⟨w3, hw3⟩ : ∃ w3 : xWd, w3 = (va_up w.1 w.2.1 (some (.inr (2, [.int (iI (s 0)), .int (iI (s 1)), .int (iI (s 2))]))), w.2.1 + 1, w.2.2) := ⟨_, rfl⟩
  rw [← hw3]
  have hp : w3.1 w.2.1 = some (.inr (2, [.int (iI (s 0)), .int (iI (s 1)), .int (iI (s 2))])) := by rw [hw3]; exact xk_up_s _ _ _
  have hq : ∀ q, q ≠ w.2.1 → w3.1 q = w.1 q := fun q hq => by rw [hw3]; exact xk_up_n _ _ hq
  have h21 : w3.2.1 = w.2.1 + 1 := by rw [hw3]
  have h22 : w3.2.2 = w.2.2 := by rw [hw3]
  have he := bk_e h
  obtain ⟨a1, a2, ⟨d1, a3, a3'⟩, ⟨d2, a4, a4'⟩, a5, a6, a7, a8, a9, -⟩ := id h
  have t1 := xl_lt a3 (by omega)
  have t2 := xl_lt a4 (by omega)
  have l' : xl_R w3 (z + 1) d1 nh ha := xl_fr2 a3 (by omega) h22 (hq _ (by omega)) (hq _ (by omega))
  obtain ⟨ad', w4, b1, b2, ⟨b3, b4, b5⟩, b6⟩ := xl_add l' (by rw [h22]; omega) (by omega) hp (by omega) (by omega) (fun i hi => by
    obtain ⟨q1, q2, q3, q4⟩ := a8 i hi
    exact ⟨⟨2, _, (hq _ (by omega)).trans q3⟩, by omega, by omega⟩)
  have st : ∀ q, q < w.2.1 → q ≠ z + 1 → (q ≠ d1 ∨ d1 = w.2.2.1) → w4.1 q = w.1 q := by
    intro q q0 q1 q2
    refine (b5 q (by omega) ?_).trans (hq q (by omega))
    rintro (r | ⟨r, r'⟩)
    · exact q1 r
    · rcases q2 with r2 | r2
      · exact r2 r
      · exact r' (by rw [h22]; exact r2)
  have ob : ∀ q x, w.1 q = some x → (∀ y, x ≠ .inl (2, y)) → (q ≠ d1 ∨ d1 = w.2.2.1) := by
    intro q x hx hy
    rcases xl_row a3 with r | ⟨y, r⟩
    · exact Or.inr r
    · exact Or.inl (fun r2 => by rw [r2, r] at hx; exact hy y (Option.some.inj hx).symm)
  have hrd : d1 = w.2.2.1 ∨ (z + 9 < d1 ∧ ∃ y, w.1 d1 = some (.inl (2, y))) := by
    rcases xl_row a3 with r | ⟨y, r⟩
    · exact Or.inl r
    · rcases a3' with r2 | ⟨r2, -⟩
      · exact Or.inl r2
      · exact Or.inr ⟨r2, y, r⟩
  have dj := xDj_e hN.1 a3 a4
  have rows : d2 ≠ d1 ∨ d1 = w.2.2.1 := by
    rcases dj with r | r
    · exact Or.inr r
    · exact Or.inl (fun q => r q.symm)
  have d2z : d2 ≠ z + 1 := by
    rcases xl_row a4 with r | ⟨y, r⟩
    · omega
    · intro q
      obtain ⟨mc, r1, -⟩ := a3
      rw [q, r1] at r; cases r
  have a4w : xl_R w4 (z + 3) d2 nc ca := xl_fr2 a4 (by omega) (by rw [b4, h22]) (st _ (by omega) (by omega) (ob _ _ (Classical.choose_spec a4).1 (fun y q => by cases q))) (st _ t2 d2z rows)
  have dj4 : xDj z w4 := by
    refine xDj_i b2 a4w ?_
    rw [show w4.2.2.1 = w.2.2.1 by rw [b4, h22]]
    rcases b6 with ⟨r, r2, -⟩ | ⟨r, -⟩
    · rw [r]; exact dj
    · exact Or.inr (by omega)
  have G := bk_grow h hN (w4 := w4) (al := z + 1) (rd := d1) (Or.inl rfl) hrd (by omega) (by rw [b4, h22]) st (nh' := nh + 1) (nc' := nc) (ha' := va_up ha nh w.2.1) (ca' := ca) (H' := va_up H nh s) (C' := C) dj4 ⟨ad', b2, ?_⟩ ⟨d2, a4w, by omega⟩ (fun k hk => ?_) (fun k hk => ?_)
  · exact ⟨w4, b1, G.1, G.2.1, by rw [b4, h22], G.2.2⟩
  · rcases b6 with ⟨r, r2, -⟩ | ⟨r, -⟩
    · rw [r]; omega
    · exact Or.inr (by omega)
  · by_cases cc : k = nh
    · subst cc
      rw [xk_up_s, xk_up_s]
      refine ⟨by omega, by omega, (b5 _ (by omega) ?_).trans hp, fun j hj => ?_⟩
      · rintro (r | ⟨r, r'⟩) <;> omega
      · rw [xk_up_n _ _ (by omega)]
        have := (a8 j hj).2.1
        omega
    · rw [xk_up_n _ _ cc, xk_up_n _ _ cc]
      obtain ⟨q1, q2, q3, q4⟩ := a8 k (by omega)
      refine ⟨q1, by omega, (st _ (by omega) (by omega) (ob _ _ q3 (fun y q => by cases q))).trans q3, fun j hj => ?_⟩
      rw [xk_up_n _ _ (by omega)]
      exact q4 j hj
  · obtain ⟨q1, q2, q3, q4⟩ := a9 k hk
    exact ⟨q1, by omega, ⟨(st _ (by omega) (by omega) (ob _ _ q3.1 (fun y q => by cases q))).trans q3.1, (st _ (by omega) (by omega) (ob _ _ q3.2.1 (fun y q => by cases q))).trans q3.2.1, (st _ (by omega) (by omega) (ob _ _ q3.2.2.1 (fun y q => by cases q))).trans q3.2.2.1, (st _ (by omega) (by omega) (ob _ _ q3.2.2.2 (fun y q => by cases q))).trans q3.2.2.2⟩, q4⟩
