/-- a new hit's numbers -/
def yH0 (f t : Int) : Nat → Int
  | 0 => f | 1 => t | _ => 0
theorem x4_hit {z e nh nc : Nat} {ha ca ta : Nat → Nat} {B : Nat → Int} {H C T : Nat → Nat → Int} {w : xWd} (h : xBk z e nh nc 0 ha ca ta B H C T w) (hN : xNw z w) (hl : B 5 ≤ 30000) (hnh : nh < 12) {f t : Int} (hf : 0 ≤ f ∧ f < B 5) (ht : 0 ≤ t ∧ t ≤ 9) :
    ∃ w', f_X4_hit (some z) (iI f) (iI t) w = some (iI nh, w') ∧ xBk z w'.2.1 (nh + 1) nc 0 (va_up ha nh w.2.1) ca ta B (va_up H nh (yH0 f t)) C T w' ∧ xNw z w' ∧ w'.2.2 = w.2.2 ∧ (∀ q, q < z → w'.1 q = w.1 q) := by
  have he := bk_e h
  obtain ⟨w', a1, a2, a3, a4, a5⟩ := bk_addhit h hN (by omega) (yH0 f t)
  obtain ⟨l1, l2, l3⟩ := bk_lh h
  obtain ⟨m1, m2, m3⟩ := bk_lh a2
  have ini : f_X1_init w.2.1 (iI f) (iI t) (xk_nw w 2 xf_2) = some (va_up w.1 w.2.1 (some (.inr (2, [.int (iI (yH0 f t 0)), .int (iI (yH0 f t 1)), .int (iI (yH0 f t 2))]))), w.2.1 + 1, w.2.2) := by
    unfold f_X1_init xk_nw xf_2
    rw [xk_nw_pV (by decide), Option.bind_some, xk_nw_pV (by simp), Option.bind_some]
    rfl
  obtain ⟨w3, hw3⟩ : ∃ w3 : xWd, w3 = (va_up w.1 w.2.1 (some (.inr (2, [.int (iI (yH0 f t 0)), .int (iI (yH0 f t 1)), .int (iI (yH0 f t 2))]))), w.2.1 + 1, w.2.2) := ⟨_, rfl⟩
  rw [← hw3] at ini a1
  have i3 : xk_is w3 (some (z + 1)) 5 = some () := by
    obtain ⟨d1, ⟨mc, j1, j2, -⟩, -⟩ := h.2.2.1
    refine xr_is (ci := 5) (fs := [.int mc, .ref d1, .int (iI nh)]) ?_
    rw [hw3]
    exact (xk_up_n _ _ (by omega)).trans j1
  have c1 : ¬ iI f < (0 : Int32) := by rw [iL_0, iI_lt (by omega) (by omega)]; omega
  have c2 : ¬ iI (B 5) ≤ iI f := by rw [iI_le (by omega) (by omega)]; omega
  have c3 : ¬ iI t < (0 : Int32) := by rw [iL_0, iI_lt (by omega) (by omega)]; omega
  have c4 : iI t ≤ (9 : Int32) := by rw [iL_9, iI_le (by omega) (by omega)]; omega
  have c5 : iI (nh : Int) < (12 : Int32) := by rw [iL_12, iI_lt (by omega) (by omega)]; omega
  have en : iI ((nh + 1 : Nat) : Int) - (1 : Int32) = iI (nh : Int) := by rw [iL_1, iI_sub]; congr 1; omega
  refine ⟨w', ?_, a2, a3, a4, a5⟩
  unfold f_X4_hit
  simp only [if_neg c1, bk_I5 h, Option.bind_some, if_neg c2, if_neg c3, if_pos c4, bk_hits h, l1, l2, if_pos c5, ini, i3, a1, bk_hits a2, m1, m2, en]
theorem x4_cue {z e nh nc : Nat} {ha ca ta : Nat → Nat} {B : Nat → Int} {H C T : Nat → Nat → Int} {w : xWd} (h : xBk z e nh nc 0 ha ca ta B H C T w) (hN : xNw z w) (hl : B 5 ≤ 30000) (hb : 0 ≤ B 2 ∧ B 2 ≤ 4) (hnc : nc < 8) {st th pl wr us : Int} (h1 : 0 ≤ st ∧ st ≤ B 5) (h2 : -1 ≤ th ∧ th < B 2) (h3 : 1 ≤ pl ∧ pl ≤ 40) (h4 : 0 ≤ wr ∧ wr < 4) (h5 : 0 ≤ us ∧ us ≤ 2) :
    ∃ w', f_X4_cue (some z) (iI st) (iI th) (iI pl) (iI wr) (iI us) w = some (iI nc, w') ∧ xBk z w'.2.1 nh (nc + 1) 0 ha (va_up ca nc w.2.1) ta B H (va_up C nc (yC0 nc st th pl wr us)) T w' ∧ xNw z w' ∧ w'.2.2 = w.2.2 ∧ (∀ q, q < z → w'.1 q = w.1 q) := by
  have he := bk_e h
  obtain ⟨w3, i1, i2, i3, i4, i5⟩ := x0_init (w := w) (nc : Int) st th pl wr us
  obtain ⟨w', a1, a2, a3, a4, a5⟩ := bk_addcue h hN (by omega) i2 i3 i4 i5
  obtain ⟨l1, l2, l3⟩ := bk_lc h
  have nwq : ∀ q, q < w.2.1 → (xk_nw w 1 xf_1).1 q = w.1 q := fun q hq => xk_up_n _ _ (by omega)
  have n3 : xk_gR (xk_nw w 1 xf_1) (some z) 0 3 = some (some (z + 3)) := xr_gR (k := 3) ((nwq z (by omega)).trans h.1) rfl
  obtain ⟨d2, hl2, -⟩ := h.2.2.2.1
  have t2 := xl_lt hl2 (by omega)
  have lst : xl_R (xk_nw w 1 xf_1) (z + 3) d2 nc ca := xl_fr2 hl2 (by show w.2.1 ≤ w.2.1 + 1; omega) rfl (nwq _ (by omega)) (nwq _ t2)
  have r3 : xk_gR w3 (some z) 0 3 = some (some (z + 3)) := xr_gR (k := 3) ((i5 z (by omega)).trans h.1) rfl
  have is3 : xk_is w3 (some (z + 3)) 5 = some () := by
    obtain ⟨mc, j1, j2, -⟩ := hl2
    exact xr_is ((i5 _ (by omega)).trans j1)
  have hC := bk_c a2 (show nc < nc + 1 by omega)
  rw [xk_up_s, xk_up_s] at hC
  have g0 : xk_gI w' (some w.2.1) 1 0 = some (iI (nc : Int)) := xr_gI (k := 0) hC.1 rfl
  have c1 : ¬ iI th < (-1 : Int32) := by rw [iL_m1, iI_lt (by omega) (by omega)]; omega
  have c2 : iI th < iI (B 2) := by rw [iI_lt (by omega) (by omega)]; omega
  have c3 : ¬ iI st < (0 : Int32) := by rw [iL_0, iI_lt (by omega) (by omega)]; omega
  have c4 : ¬ iI (B 5) < iI st := by rw [iI_lt (by omega) (by omega)]; omega
  have c5 : ¬ iI pl < (1 : Int32) := by rw [iL_1, iI_lt (by omega) (by omega)]; omega
  have c6 : iI pl ≤ (40 : Int32) := by rw [iL_40, iI_le (by omega) (by omega)]; omega
  have c7 : ¬ iI wr < (0 : Int32) := by rw [iL_0, iI_lt (by omega) (by omega)]; omega
  have c8 : ¬ (4 : Int32) ≤ iI wr := by rw [iL_4, iI_le (by omega) (by omega)]; omega
  have c9 : ¬ iI us < (0 : Int32) := by rw [iL_0, iI_lt (by omega) (by omega)]; omega
  have c10 : iI us ≤ (2 : Int32) := by rw [iL_2, iI_le (by omega) (by omega)]; omega
  have c11 : iI (nc : Int) < (8 : Int32) := by rw [iL_8, iI_lt (by omega) (by omega)]; omega
  refine ⟨w', ?_, a2, a3, a4, a5⟩
  unfold f_X4_cue
  simp only [if_neg c1, bk_I2 h, Option.bind_some, if_pos c2, if_neg c3, bk_I5 h, if_neg c4, if_neg c5, if_pos c6, if_neg c7, if_neg c8, if_neg c9, if_pos c10, bk_cues h, l1, l2, if_pos c11, n3, xl_is lst, xl_size lst, i1, r3, is3, a1, g0]
