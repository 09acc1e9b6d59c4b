theorem xk_nw_pV {w : xWd} {ci k : Nat} {fs : List Value} {v : Value} (hk : k < fs.length) : xk_pV (va_up w.1 w.2.1 (some (.inr (ci, fs))), w.2.1 + 1, w.2.2) (some w.2.1) ci k v = some (va_up w.1 w.2.1 (some (.inr (ci, fs.set k v))), w.2.1 + 1, w.2.2) := by
  rw [xr_pV (xk_up_s _ _ _) hk]
  congr 1
  show (va_up (va_up w.1 w.2.1 _) w.2.1 _, _) = _
  rw [xk_up2]
theorem x3_init {w : xWd} {a : Nat} {s : Nat → Int} (hC : xC w a s) (ha : a < w.2.1) (n x p : Int) : f_X3_init w.2.1 (iI n) (some a) (iI x) (iI p) (xk_nw w 4 xf_4) = some (va_up w.1 w.2.1 (some (.inr (4, [.int (iI n), .ref a, .int (iI (s 6)), .int (iI x), .int (iI p)]))), w.2.1 + 1, w.2.2) := by
  unfold f_X3_init xk_nw xf_4
  have g6 : ∀ fs, xk_gI (va_up w.1 w.2.1 (some (.inr (4, fs))), w.2.1 + 1, w.2.2) (some a) 1 6 = some (iI (s 6)) := fun fs => xr_gI (k := 6) ((xk_up_n _ _ (by omega)).trans hC.1) rfl
  rw [xk_nw_pV (by decide), Option.bind_some, xk_nw_pV (by simp), Option.bind_some, g6, Option.bind_some, xk_nw_pV (by simp), Option.bind_some, xk_nw_pV (by simp), Option.bind_some, xk_nw_pV (by simp), Option.bind_some]
  rfl
/-- a take put behind -/
theorem bk_take {z e nh nc nt : Nat} {ha ca ta : Nat → Nat} {B : Nat → Int} {H C T : Nat → Nat → Int} {w : xWd} (h : xBk z e nh nc nt ha ca ta B H C T w) {c : Nat} (hc : c < nc) {s : Nat → Int} (hs : s 1 = c) (hnt : nt ≤ 40) : ∃ w' : xWd, f_Jx4a65c_add_9ea2d (some (z + 4)) (some w.2.1) (va_up w.1 w.2.1 (some (xTc ca s)), w.2.1 + 1, w.2.2) = some (1, w') ∧ xBk z e nh nc (nt + 1) ha ca (va_up ta nt w.2.1) B H C (va_up T nt s) w' ∧ xFr z e w w' := by
  obtain ⟨w3, hw3⟩ : ∃ w3 : xWd, w3 = (va_up w.1 w.2.1 (some (xTc ca s)), w.2.1 + 1, w.2.2) := ⟨_, rfl⟩
  rw [← hw3]
  have hp : w3.1 w.2.1 = some (xTc ca s) := by rw [hw3]; exact xk_up_s _ _ _
  have hq : ∀ q, q ≠ w.2.1 → w3.1 q = w.1 q := fun q hq => by rw [hw3]; exact xk_up_n _ _ hq
  have h21 : w3.2.1 = w.2.1 + 1 := by rw [hw3]
  have h22 : w3.2.2 = w.2.2 := by rw [hw3]
  have h221 : w3.2.2.1 = w.2.2.1 := by rw [h22]
  obtain ⟨a1, a2, ⟨d1, a3, a3'⟩, ⟨d2, a4, a4'⟩, ⟨tr, pr, np, pa, b, W, j1, j2, j3, j4, j5, j6, j7⟩, ⟨O, a6, a6'⟩, ⟨M, a7⟩, a8, a9, a10, a11, a12, a13⟩ := id h
  have hz : w.2.2.1 < w.2.1 := by omega
  have t1 := xl_lt a3 hz
  have t2 := xl_lt a4 hz
  have t3 := xl_lt j1 hz
  have t4 := xl_lt j4 hz
  have j1' : xl_R w3 (z + 4) tr nt ta := xl_fr2 j1 (by omega) h22 (hq _ (by omega)) (hq _ (by omega))
  obtain ⟨ad', w4, b1, b2, ⟨b3, b4, b5⟩, b6⟩ := xl_add j1' (by omega) (by omega) hp (by omega) (by omega) (fun i hi => by
    obtain ⟨q1, q2, q3⟩ := a10 i hi
    exact ⟨⟨4, _, (hq _ (by omega)).trans q3⟩, by omega, by omega⟩)
  have hA : w4.2.2.1 = w.2.2.1 := by rw [b4, h22]
  -- cells that stay
  have st : ∀ q, q < w.2.1 → q ≠ z + 4 → (q ≠ tr ∨ tr = w.2.2.1) → w4.1 q = w.1 q := by
    intro q q0 q1 q2
    refine (b5 q (by omega) ?_).trans (hq q (by omega))
    rintro (r | ⟨r, r'⟩)
    · exact q1 r
    · rcases q2 with r2 | r2
      · exact r2 r
      · exact r' (by omega)
  have ob : ∀ q x, w.1 q = some (.inr x) → (q ≠ tr ∨ tr = w.2.2.1) := by
    intro q x hx
    rcases xl_row j1 with r | ⟨y, r⟩
    · exact Or.inr r
    · exact Or.inl (fun r2 => by rw [r2, r] at hx; cases hx)
  have lo : ∀ q, q < e → (q ≠ tr ∨ tr = w.2.2.1) := fun q hqe => by
    rcases j2 with r | r
    · exact Or.inr r
    · exact Or.inl (by omega)
  refine ⟨w4, b1, ⟨(st _ (by omega) (by omega) (lo _ (by omega))).trans a1, (st _ (by omega) (by omega) (lo _ (by omega))).trans a2,
    ⟨d1, xl_fr2 a3 (by omega) (by rw [b4, h22]) (st _ (by omega) (by omega) (lo _ (by omega))) (st _ t1 ?_ (lo _ (by omega))), by rw [hA]; exact a3'⟩,
    ⟨d2, xl_fr2 a4 (by omega) (by rw [b4, h22]) (st _ (by omega) (by omega) (lo _ (by omega))) (st _ t2 ?_ (lo _ (by omega))), by rw [hA]; exact a4'⟩,
    ⟨ad', pr, np, pa, b, W, b2, ?_, (st _ (by omega) (by omega) (lo _ (by omega))).trans j3, xl_fr2 j4 (by omega) (by rw [b4, h22]) (st _ (by omega) (by omega) (lo _ (by omega))) (st _ t4 ?_ ?_), by rw [hA]; exact j5, ?_, (st _ (by omega) (by omega) (lo _ (by omega))).trans j7⟩,
    ⟨O, (st _ (by omega) (by omega) (lo _ (by omega))).trans a6, a6'⟩, ⟨M, (st _ (by omega) (by omega) (lo _ (by omega))).trans a7⟩,
    fun k hk => ?_, fun k hk => ?_, fun k hk => ?_, by rw [hA]; exact a11, a12, by omega⟩, by omega, by rw [b4, h22], ?_⟩
  · omega
  · omega
  · rw [hA]
    rcases b6 with ⟨r, r2, -⟩ | ⟨r, -⟩
    · rw [r]; exact j2
    · exact Or.inr (by omega)
  · rcases xl_row j4 with r | ⟨y, r⟩
    · omega
    · intro q
      obtain ⟨mc, r1, -⟩ := j1
      rw [q, r1] at r; cases r
  · rcases j6 with r | r
    · exact Or.inr r
    · exact Or.inl (fun r2 => r r2.symm)
  · rw [hA]
    rcases b6 with ⟨r, r2, -⟩ | ⟨r, -⟩
    · rw [r]
      rcases j6 with r3 | r3
      · exact absurd (by rw [h221]; exact r3) r2
      · exact Or.inr r3
    · exact Or.inr (by omega)
  · obtain ⟨q1, q2, q3, q4⟩ := a8 k hk
    exact ⟨q1, q2, (st _ (by omega) (by omega) (lo _ (by omega))).trans q3, q4⟩
  · obtain ⟨q1, q2, q3, q4⟩ := a9 k hk
    exact ⟨q1, q2, ⟨(st _ (by omega) (by omega) (lo _ (by omega))).trans q3.1, (st _ (by omega) (by omega) (lo _ (by omega))).trans q3.2.1, (st _ (by omega) (by omega) (lo _ (by omega))).trans q3.2.2.1, (st _ (by omega) (by omega) (lo _ (by omega))).trans q3.2.2.2⟩, q4⟩
  · by_cases cc : k = nt
    · subst cc
      rw [xk_up_s, xk_up_s]
      refine ⟨by omega, by omega, (b5 _ (by omega) ?_).trans hp⟩
      rintro (r | ⟨r, r'⟩)
      · omega
      · omega
    · rw [xk_up_n _ _ cc, xk_up_n _ _ cc]
      obtain ⟨q1, q2, q3⟩ := a10 k (by omega)
      exact ⟨q1, by omega, (st _ q2 (by omega) (ob _ _ q3)).trans q3⟩
  · intro q q0 q1 x hx hx2
    refine st q q0 (by omega) ?_
    rcases xl_row j1 with r | ⟨y, r⟩
    · exact Or.inr r
    · exact Or.inl (fun r2 => by rw [r2, r] at hx; cases hx; exact hx2 rfl)
