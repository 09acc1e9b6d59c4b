/-- a new take -/
def yNew (n c : Nat) (ed x p : Int) : Nat → Int
  | 0 => n | 1 => c | 2 => ed | 3 => x | 4 => p | _ => 0
theorem x4_take {z e nh nc nt : Nat} {ha ca ta : Nat → Nat} {B : Nat → Int} {H C T : Nat → Nat → Int} {w : xWd} (h : xBk z e nh nc nt ha ca ta B H C T w) (v : xVB nh nc nt B H C T) {c : Nat} {x p : Int} (hc : c < nc) (hx : 0 ≤ x ∧ x ≤ 10 ^ (C c 7).toNat - 1) (hp : -2 ≤ p ∧ p ≤ 2) (h7 : 0 < C c 7) (hb : C c 3 ≤ B 7) (ht : B 8 + (3 + (C c 11 + 1439) / 1440) ≤ 120) (hnt : nt < 40) :
    ∃ (w' : xWd) (ta' : Nat → Nat), f_X4_take (some z) (iI c) (iI x) (iI p) w = some (iI nt, w') ∧ xBk z e nh nc (nt + 1) ha ca ta' (va_up B 8 (B 8 + (3 + (C c 11 + 1439) / 1440))) H C (va_up T nt (yNew nt c (C c 6) x p)) w' ∧ xFr z e w w' := by
  have hn := yv_n v
  obtain ⟨hB, n1, n2, n3, n4, n5, n6⟩ := yv_c v hc
  have b7 : 0 ≤ B 7 ∧ B 7 ≤ 60 := ⟨v.2.2.2.2.2.2.2.2.2.1, v.2.2.2.2.2.2.2.2.2.2.1⟩
  have b8 : 0 ≤ B 8 ∧ B 8 ≤ 120 := ⟨v.2.2.2.2.2.2.2.2.2.2.2.1, v.2.2.2.2.2.2.2.2.2.2.2.2.1⟩
  have hC := bk_c h hc
  have he := bk_e h
  have hcb := bk_cb h hc
  have c9 : C c 7 ≤ 9 := hB.2.2.2.2.2.1
  have c11 : 0 ≤ C c 11 ∧ C c 11 ≤ 3000 := ⟨hB.2.2.2.2.2.2.2.2.1, hB.2.2.2.2.2.2.2.2.2.1⟩
  have pw : (10 : Int) ^ (C c 7).toNat - 1 ≤ 999999999 := by
    rcases (show (C c 7).toNat = 1 ∨ (C c 7).toNat = 2 ∨ (C c 7).toNat = 3 ∨ (C c 7).toNat = 4 ∨ (C c 7).toNat = 5 ∨ (C c 7).toNat = 6 ∨ (C c 7).toNat = 7 ∨ (C c 7).toNat = 8 ∨ (C c 7).toNat = 9 by omega) with q | q | q | q | q | q | q | q | q <;> rw [q] <;> decide
  have mo := x0_mostNotes hC hB
  have ru := x4_roundedUp (x := C c 11) (n := 1440) w (by omega) (by omega)
  rw [show C c 11 + 1440 - 1 = C c 11 + 1439 by omega, ← iL_1440] at ru
  obtain ⟨w1, p1, k1, f1⟩ := bk_pV h (k := 8) (v := B 8 + (3 + (C c 11 + 1439) / 1440)) (by omega)
  have hC1 := bk_c k1 hc
  have he1 := bk_e k1
  have h21 : w1.2 = w.2 := by
    have := xr_pV (v := .int (iI (B 8 + (3 + (C c 11 + 1439) / 1440)))) (k := 8) h.1 (by show 8 < 13; omega)
    rw [this] at p1
    have := Option.some.inj p1
    rw [← this]
  obtain ⟨w4, a1, a2, a3⟩ := bk_take k1 (c := c) (s := yNew nt c (C c 6) x p) hc rfl (by omega)
  have ini := x3_init hC1 (by omega) (nt : Int) x p
  have eT : (some (.inr (4, [.int (iI (nt : Int)), .ref (ca c), .int (iI (C c 6)), .int (iI x), .int (iI p)])) : Option xE) = some (xTc ca (yNew nt c (C c 6) x p)) := by
    unfold xTc
    show _ = some (Sum.inr (4, [Value.int (iI (nt : Int)), Value.ref (ca ((c : Int)).toNat), Value.int (iI (C c 6)), Value.int (iI x), Value.int (iI p)]))
    rw [Int.toNat_natCast]
  rw [eT] at ini
  obtain ⟨w3, hw3⟩ : ∃ w3 : xWd, w3 = (va_up w1.1 w1.2.1 (some (xTc ca (yNew nt c (C c 6) x p))), w1.2.1 + 1, w1.2.2) := ⟨_, rfl⟩
  rw [← hw3] at ini a1
  obtain ⟨l1, l2, l3⟩ := bk_lt h
  obtain ⟨m1, m2, m3⟩ := bk_lt a2
  -- the lists in the worlds between
  have nwq : ∀ q, q < w1.2.1 → (xk_nw w1 4 xf_4).1 q = w1.1 q := fun q hq => xk_up_n _ _ (by omega)
  have n4' : xk_gR (xk_nw w1 4 xf_4) (some z) 0 4 = some (some (z + 4)) := xr_gR (k := 4) ((nwq z (by omega)).trans k1.1) rfl
  have lst : xl_R (xk_nw w1 4 xf_4) (z + 4) k1.2.2.2.2.1.choose nt ta := by
    have := k1.2.2.2.2.1.choose_spec
    obtain ⟨pr, np, pa, b, W, j1, -⟩ := this
    have lt := xl_lt j1 (by omega)
    exact xl_fr2 j1 (by show w1.2.1 ≤ w1.2.1 + 1; omega) rfl (nwq _ (by omega)) (nwq _ lt)
  have n5' := xl_is lst
  have n6' := xl_size lst
  have i3 : xk_is w3 (some (z + 4)) 5 = some () := by
    have := k1.2.2.2.2.1.choose_spec
    obtain ⟨pr, np, pa, b, W, ⟨mc, j1, j2, -⟩, -⟩ := this
    refine xr_is (ci := 5) (fs := [.int mc, .ref k1.2.2.2.2.1.choose, .int (iI nt)]) ?_
    rw [hw3]
    exact (xk_up_n _ _ (by omega)).trans j1
  refine ⟨w4, _, ?_, a2, xFr_t f1 a3⟩
  have q7 : xk_gI w (some (ca c)) 1 7 = some (iI (C c 7)) := xr_gI (k := 7) hC.1 rfl
  have q3 : xk_gI w (some (ca c)) 1 3 = some (iI (C c 3)) := xr_gI (k := 3) hC.1 rfl
  have q11 : xk_gI w (some (ca c)) 1 11 = some (iI (C c 11)) := xr_gI (k := 11) hC.1 rfl
  have c1 : ¬ iI x < (0 : Int32) := by rw [iL_0, iI_lt (by omega) (by omega)]; omega
  have c2 : ¬ iI (10 ^ (C c 7).toNat - 1) < iI x := by rw [iI_lt (by omega) (by omega)]; omega
  have c3 : ¬ iI p < (-2 : Int32) := by rw [iL_m2, iI_lt (by omega) (by omega)]; omega
  have c4 : iI p ≤ (2 : Int32) := by rw [iL_2, iI_le (by omega) (by omega)]; omega
  have c5 : ¬ iI (B 7) = (0 : Int32) := by rw [iL_0, iI_eq (by omega) (by omega)]; omega
  have c6 : ¬ iI (C c 7) = (0 : Int32) := by rw [iL_0, iI_eq (by omega) (by omega)]; omega
  have c7 : iI (C c 3) ≤ iI (B 7) := by rw [iI_le (by omega) (by omega)]; omega
  have e8 : iI (B 8) + ((3 : Int32) + iI ((C c 11 + 1439) / 1440)) = iI (B 8 + (3 + (C c 11 + 1439) / 1440)) := by rw [iL_3, iI_add, iI_add]
  have c8 : ¬ (120 : Int32) < iI (B 8 + (3 + (C c 11 + 1439) / 1440)) := by rw [iL_120, iI_lt (by omega) (by omega)]; omega
  have c40 : iI (nt : Int) < (40 : Int32) := by rw [iL_40, iI_lt (by omega) (by omega)]; omega
  have en : iI ((nt + 1 : Nat) : Int) - (1 : Int32) = iI (nt : Int) := by rw [iL_1, iI_sub]; congr 1; omega
  unfold f_X4_take
  simp only [bk_is h, x4_cueNumbered h v hc, Option.bind_some, if_neg c1, xr_is hC.1, mo, if_neg c2, if_neg c3, if_pos c4, bk_I7 h, if_neg c5, q7, if_neg c6, q3, if_pos c7, q11, ru, bk_I8 h, e8, if_neg c8, bk_takes h, l1, l2, if_pos c40, p1, bk_takes k1, n4', n5', n6', ini, i3, a1, bk_takes a2, m1, m2, en]
