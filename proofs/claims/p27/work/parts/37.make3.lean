theorem bk_addcue {z e nh nc : Nat} {ha ca ta : Nat → Nat} {B : Nat → Int} {H C T : Nat → Nat → Int} {w : xWd} (h : xBk z e nh nc 0 ha ca ta B H C T w) (hN : xNw z w) (hnc : nc ≤ 8) {s : Nat → Int} {w3 : xWd} (hp : xC w3 w.2.1 s) (h21 : w3.2.1 = w.2.1 + 4) (h22 : w3.2.2 = w.2.2) (hq : ∀ q, q < w.2.1 → w3.1 q = w.1 q) : ∃ w', f_Jx4a65c_add_9ea2d (some (z + 3)) (some w.2.1) w3 = some (1, w') ∧ xBk z w'.2.1 nh (nc + 1) 0 ha (va_up ca nc w.2.1) ta B H (va_up C nc s) T w' ∧ xNw z w' ∧ w'.2.2 = w.2.2 ∧ (∀ q, q < z → w'.1 q = w.1 q) := by
  have he := bk_e h
  obtain ⟨a1, a2, ⟨d1, a3, a3'⟩, ⟨d2, a4, a4'⟩, a5, a6, a7, a8, a9, -⟩ := id h
  have t1 := xl_lt a3 (by omega)
  have t2 := xl_lt a4 (by omega)
  have l' : xl_R w3 (z + 3) d2 nc ca := xl_fr2 a4 (by omega) h22 (hq _ (by omega)) (hq _ (by omega))
  obtain ⟨ad', w4, b1, b2, ⟨b3, b4, b5⟩, b6⟩ := xl_add l' (by rw [h22]; omega) (by omega) hp.1 (by omega) (by omega) (fun i hi => by
    obtain ⟨q1, q2, q3, q4⟩ := a9 i hi
    exact ⟨⟨1, _, (hq _ (by omega)).trans q3.1⟩, by omega, by omega⟩)
  have st : ∀ q, q < w.2.1 → q ≠ z + 3 → (q ≠ d2 ∨ d2 = w.2.2.1) → w4.1 q = w.1 q := by
    intro q q0 q1 q2
    refine (b5 q (by omega) ?_).trans (hq q (by omega))
    rintro (r | ⟨r, r'⟩)
    · exact q1 r
    · rcases q2 with r2 | r2
      · exact r2 r
      · exact r' (by rw [h22]; exact r2)
  have ob : ∀ q x, w.1 q = some x → (∀ y, x ≠ .inl (2, y)) → (q ≠ d2 ∨ d2 = w.2.2.1) := by
    intro q x hx hy
    rcases xl_row a4 with r | ⟨y, r⟩
    · exact Or.inr r
    · exact Or.inl (fun r2 => by rw [r2, r] at hx; exact hy y (Option.some.inj hx).symm)
  have hrd : d2 = w.2.2.1 ∨ (z + 9 < d2 ∧ ∃ y, w.1 d2 = some (.inl (2, y))) := by
    rcases xl_row a4 with r | ⟨y, r⟩
    · exact Or.inl r
    · rcases a4' with r2 | ⟨r2, -⟩
      · exact Or.inl r2
      · exact Or.inr ⟨r2, y, r⟩
  have dj := xDj_e hN.1 a3 a4
  have rows : d1 ≠ d2 ∨ d2 = w.2.2.1 := by
    by_cases q : d1 = d2
    · rcases dj with r | r
      · exact Or.inr (by omega)
      · exact absurd q r
    · exact Or.inl q
  have d1z : d1 ≠ z + 3 := by
    rcases xl_row a3 with r | ⟨y, r⟩
    · omega
    · intro q
      obtain ⟨mc, r1, -⟩ := a4
      rw [q, r1] at r; cases r
  have a3w : xl_R w4 (z + 1) d1 nh ha := xl_fr2 a3 (by omega) (by rw [b4, h22]) (st _ (by omega) (by omega) (ob _ _ (Classical.choose_spec a3).1 (fun y q => by cases q))) (st _ t1 d1z rows)
  have dj4 : xDj z w4 := by
    refine xDj_i a3w b2 ?_
    rw [show w4.2.2.1 = w.2.2.1 by rw [b4, h22]]
    rcases b6 with ⟨r, r2, -⟩ | ⟨r, -⟩
    · rw [r]; exact dj
    · exact Or.inr (by omega)
  have G := bk_grow h hN (w4 := w4) (al := z + 3) (rd := d2) (Or.inr rfl) hrd (by omega) (by rw [b4, h22]) st (nh' := nh) (nc' := nc + 1) (ha' := ha) (ca' := va_up ca nc w.2.1) (H' := H) (C' := va_up C nc s) dj4 ⟨d1, a3w, by omega⟩ ⟨ad', b2, ?_⟩ (fun k hk => ?_) (fun k hk => ?_)
  · exact ⟨w4, b1, G.1, G.2.1, by rw [b4, h22], G.2.2⟩
  · rcases b6 with ⟨r, r2, -⟩ | ⟨r, -⟩
    · rw [r]; omega
    · exact Or.inr (by omega)
  · obtain ⟨q1, q2, q3, q4⟩ := a8 k hk
    exact ⟨q1, by omega, (st _ (by omega) (by omega) (ob _ _ q3 (fun y q => by cases q))).trans q3, q4⟩
  · by_cases cc : k = nc
    · subst cc
      rw [xk_up_s, xk_up_s]
      have st3 : ∀ q, w.2.1 ≤ q → q < w3.2.1 → w4.1 q = w3.1 q := fun q q0 q1 => b5 q q1 (by rintro (r | ⟨r, r'⟩) <;> omega)
      refine ⟨by omega, by omega, ⟨(st3 _ (by omega) (by omega)).trans hp.1, (st3 _ (by omega) (by omega)).trans hp.2.1, (st3 _ (by omega) (by omega)).trans hp.2.2.1, (st3 _ (by omega) (by omega)).trans hp.2.2.2⟩, fun j hj => ?_⟩
      rw [xk_up_n _ _ (by omega)]
      have := (a9 j hj).2.1
      omega
    · rw [xk_up_n _ _ cc, xk_up_n _ _ cc]
      obtain ⟨q1, q2, q3, q4⟩ := a9 k (by omega)
      refine ⟨q1, by omega, ⟨(st _ (by omega) (by omega) (ob _ _ q3.1 (fun y q => by cases q))).trans q3.1, (st _ (by omega) (by omega) (ob _ _ q3.2.1 (fun y q => by cases q))).trans q3.2.1, (st _ (by omega) (by omega) (ob _ _ q3.2.2.1 (fun y q => by cases q))).trans q3.2.2.1, (st _ (by omega) (by omega) (ob _ _ q3.2.2.2 (fun y q => by cases q))).trans q3.2.2.2⟩, fun j hj => ?_⟩
      rw [xk_up_n _ _ (by omega)]
      exact q4 j hj
