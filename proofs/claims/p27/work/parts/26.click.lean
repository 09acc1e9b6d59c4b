theorem x4_withClick {z e nh nc nt : Nat} {ha ca ta : Nat → Nat} {B : Nat → Int} {H C T : Nat → Nat → Int} {w : xWd} (h : xBk z e nh nc nt ha ca ta B H C T w) (v : xVB nh nc nt B H C T) {mb : Nat → Bool} (hM : xMk z nh w mb nh) {c : Nat} (hc : c < nc) (hK : xCK (C c)) {b cl : Int} (hb : 0 ≤ b ∧ b ≤ 9) (hcl : 24 ≤ cl ∧ cl ≤ 160) : ∃ (m : Int) (w' : xWd), f_X4_countMetWithClick (some z) (some (ca c)) (iI b) (iI cl) w = some (iI m, w') ∧ 0 ≤ m ∧ m ≤ 100 ∧ xBk z e nh nc nt ha ca ta B H C T w' ∧ xMk z nh w' mb nh ∧ xFr z e w w' := by
  have hn := yv_n v
  have hC := bk_c h hc
  have hB := (yv_c v hc).1
  have he := bk_e h
  have hcb := bk_cb h hc
  obtain ⟨b1, b2, b3, b4, b5, b6, b7, b8, b9, b10, b11, b12⟩ := id hB
  obtain ⟨O, o1, o2⟩ := h.2.2.2.2.2.1
  obtain ⟨M, m1, m2⟩ := hM
  have kk : ∀ i : Nat, i < 9 → (if (i : Int) = b then cl else C c (21 + 3 * i)) = if (i : Int) = b then cl else C c (21 + 3 * i) := fun _ _ => rfl
  have MK : yMK (C c) (fun i => if (i : Int) = b then cl else C c (21 + 3 * i)) := by
    intro i hi
    have := b11 i hi
    show 0 ≤ C c (20 + 3 * i) ∧ C c (20 + 3 * i) ≤ 7 ∧ 0 ≤ (if (i : Int) = b then cl else C c (21 + 3 * i)) ∧ (if (i : Int) = b then cl else C c (21 + 3 * i)) ≤ 160
    split <;> omega
  have lay := x0_layOut (ro := z + 8) (K := fun i => if (i : Int) = b then cl else C c (21 + 3 * i)) (g := O) (oth := b) (oc := cl) hC ⟨b5, b6⟩ (by omega) (by omega) (by omega) o1 MK kk (by omega)
  have bH := yH_b MK (C c 7).toNat (by omega)
  obtain ⟨l1, l2, l3, l4, l5⟩ := yL_spec (s := C c) (K := fun i => if (i : Int) = b then cl else C c (21 + 3 * i)) O (C c 7).toNat (fun i hi => ⟨by have := hK i (by omega); omega, by
    show 24 ≤ (if (i : Int) = b then cl else C c (21 + 3 * i))
    have := hK i (by omega)
    split <;> omega⟩)
  have bO : ∀ i, i < 63 → 0 ≤ yL (C c) (fun i => if (i : Int) = b then cl else C c (21 + 3 * i)) O (C c 7).toNat i ∧ yL (C c) (fun i => if (i : Int) = b then cl else C c (21 + 3 * i)) O (C c 7).toNat i ≤ 3000 := by
    intro i hi
    by_cases d : (i : Int) < yB (C c) (C c 7).toNat
    · obtain ⟨a, a1, a2, a3⟩ := l3 i d
      rw [a1]; omega
    · rw [l5 i (by omega)]; exact o2 i hi
  obtain ⟨w1, hw1⟩ : ∃ w1, w1 = yW w (z + 8) (yL (C c) (fun i => if (i : Int) = b then cl else C c (21 + 3 * i)) O (C c 7).toNat) := ⟨_, rfl⟩
  rw [← hw1] at lay
  have q8 : w1.1 (z + 8) = some (.inl (0, 63, .inl (fun i => iI (yL (C c) (fun i => if (i : Int) = b then cl else C c (21 + 3 * i)) O (C c 7).toNat i)))) := by rw [hw1]; exact yW_s _ _ _
  have qn : ∀ q, q ≠ z + 8 → w1.1 q = w.1 q := fun q hq => by rw [hw1]; exact yW_n _ _ hq
  have q9 : w1.1 (z + 9) = some (.inl (1, 12, .inl M)) := (qn _ (by omega)).trans m1
  obtain ⟨k1, f1⟩ := bk_scr h (w' := w1) (by rw [hw1]; rfl) (fun q hq _ => qn q hq) q8 bO q9
  have hM1 : xMk z nh w1 mb nh := ⟨M, q9, m2⟩
  have cw := x4_countWith k1 v hM1 (ro := z + 8) (o := yL (C c) (fun i => if (i : Int) = b then cl else C c (21 + 3 * i)) O (C c 7).toNat) (st := C c 1) hc q8 bO (by omega)
  have cb := yCt_b (yPw1 mb H (yL (C c) (fun i => if (i : Int) = b then cl else C c (21 + 3 * i)) O (C c 7).toNat) (C c 1) (C c 10).toNat) nh
  have hC1 := bk_c k1 hc
  have g1 : xk_gI w1 (some (ca c)) 1 1 = some (iI (C c 1)) := xr_gI (k := 1) hC1.1 rfl
  refine ⟨_, w1, ?_, cb.1, by omega, k1, hM1, f1⟩
  unfold f_X4_countMetWithClick
  rw [bk_trial h, Option.bind_some, xr_is hC.1, Option.bind_some, lay, Option.bind_some]
  show (xk_gI w1 (some (ca c)) 1 1).bind _ = _
  rw [g1, Option.bind_some]
  show (xk_gR w1 (some z) 0 11).bind _ = _
  rw [bk_trial k1, Option.bind_some, bk_is k1, Option.bind_some]
  show (f_X4_countMetWith (some z) (some (ca c)) (iI (C c 1)) (some (z + 8)) w1).bind _ = _
  rw [cw, Option.bind_some]
theorem x4_click_s {z e nh nc nt : Nat} {ha ca ta : Nat → Nat} {B : Nat → Int} {H C T : Nat → Nat → Int} {w : xWd} (h : xBk z e nh nc nt ha ca ta B H C T w) (v : xVB nh nc nt B H C T) {mb : Nat → Bool} (hM : xMk z nh w mb nh) {c : Nat} (hc : c < nc) (hK : xCK (C c)) {b : Int} (hb : 0 ≤ b ∧ b ≤ 9) (k46 : Option Nat → Int32 → Option Nat → Int32 → Int32 → Int32 → Int32 → xWd → Option (Int32 × xWd)) {now best most aw sd : Int} (hnow : 24 ≤ now ∧ now ≤ 160) (hbe : 24 ≤ best ∧ best ≤ 160) (hmo : 0 ≤ most ∧ most ≤ 100) (haw : 1 ≤ aw ∧ aw ≤ 136) (hs : sd = -1 ∨ sd = 1) (fu : Nat) :
    ∃ (best' most' : Int) (w' : xWd), f_X4_bestClick_57 k46 (fu + 1) (some z) (iI b) (some (ca c)) (iI now) (iI best) (iI most) (iI aw) (iI sd) w = f_X4_bestClick_57 k46 fu (some z) (iI b) (some (ca c)) (iI now) (iI best') (iI most') (iI aw) (iI (sd + 2)) w' ∧ (24 ≤ best' ∧ best' ≤ 160) ∧ (0 ≤ most' ∧ most' ≤ 100) ∧ xBk z e nh nc nt ha ca ta B H C T w' ∧ xMk z nh w' mb nh ∧ xFr z e w w' := by
  have hsa : -136 ≤ sd * aw ∧ sd * aw ≤ 136 := by rcases hs with rfl | rfl <;> omega
  have c1 : ¬ (1 : Int32) < iI sd := by rw [iL_1, iI_lt (by omega) (by omega)]; omega
  have e3 : iI sd + (2 : Int32) = iI (sd + 2) := by rw [iL_2, iI_add]
  have no : f_X4_bestClick_88 k46 (f_X4_bestClick_57 k46 fu) (some z) (iI b) (some (ca c)) (iI now) (iI best) (iI most) (iI aw) (iI sd) (iI (now + sd * aw)) w = f_X4_bestClick_57 k46 fu (some z) (iI b) (some (ca c)) (iI now) (iI best) (iI most) (iI aw) (iI (sd + 2)) w := by
    unfold f_X4_bestClick_88 f_X4_bestClick_100 f_X4_bestClick_117
    rw [if_pos (by rw [iL_0, iI_le (by omega) (by omega)]; omega), e3]
  rw [f_X4_bestClick_57, if_neg c1, iI_mul, iI_add]
  by_cases d1 : now + sd * aw < 24
  · rw [if_pos (by rw [iL_24, iI_lt (by omega) (by omega)]; exact d1), no]
    exact ⟨best, most, w, rfl, hbe, hmo, h, hM, xFr_r _ _ _⟩
  · rw [if_neg (by rw [iL_24, iI_lt (by omega) (by omega)]; exact d1)]
    by_cases d2 : now + sd * aw ≤ 160
    · obtain ⟨m, w1, g1, g2, g3, k1, m1, f1⟩ := x4_withClick h v hM hc hK hb (cl := now + sd * aw) (by omega)
      rw [if_pos (by rw [iL_160, iI_le (by omega) (by omega)]; exact d2), bk_is h, Option.bind_some, g1, Option.bind_some]
      unfold f_X4_bestClick_100 f_X4_bestClick_117
      by_cases d3 : m ≤ most
      · refine ⟨best, most, w1, ?_, hbe, hmo, k1, m1, f1⟩
        show (if iI m ≤ iI most then _ else _) = _
        rw [if_pos (by rw [iI_le (by omega) (by omega)]; exact d3), e3]
      · refine ⟨now + sd * aw, m, w1, ?_, by omega, by omega, k1, m1, f1⟩
        show (if iI m ≤ iI most then _ else _) = _
        rw [if_neg (by rw [iI_le (by omega) (by omega)]; exact d3), e3]
    · rw [if_neg (by rw [iL_160, iI_le (by omega) (by omega)]; exact d2), no]
      exact ⟨best, most, w, rfl, hbe, hmo, h, hM, xFr_r _ _ _⟩
theorem x4_click_l {z e nh nc nt : Nat} {ha ca ta : Nat → Nat} {B : Nat → Int} {H C T : Nat → Nat → Int} (v : xVB nh nc nt B H C T) {mb : Nat → Bool} {c : Nat} (hc : c < nc) (hK : xCK (C c)) {b now : Int} (hb : 0 ≤ b ∧ b ≤ 9) (hnow : 24 ≤ now ∧ now ≤ 160) : ∀ (r k fu : Nat) (best most : Int) (w : xWd), xBk z e nh nc nt ha ca ta B H C T w → xMk z nh w mb nh → (24 ≤ best ∧ best ≤ 160) → (0 ≤ most ∧ most ≤ 100) → k + r = 136 → r < fu →
    ∃ (x : Int) (w' : xWd), f_X4_bestClick_46 fu (some z) (iI b) (some (ca c)) (iI now) (iI best) (iI most) (iI ((k + 1 : Nat) : Int)) w = some (iI x, w') ∧ (24 ≤ x ∧ x ≤ 160) ∧ xBk z e nh nc nt ha ca ta B H C T w' ∧ xFr z e w w' := by
  intro r
  induction r with
  | zero =>
    intro k fu best most w h hM hbe hmo h1 h4
    obtain ⟨fu, rfl⟩ : ∃ f, fu = f + 1 := ⟨fu - 1, by omega⟩
    have e : k = 136 := by omega
    subst e
    refine ⟨best, w, ?_, hbe, h, xFr_r _ _ _⟩
    unfold f_X4_bestClick_46
    rw [if_pos (by decide)]
  | succ r ih =>
    intro k fu best most w h hM hbe hmo h1 h4
    obtain ⟨fu, rfl⟩ : ∃ f, fu = f + 1 := ⟨fu - 1, by omega⟩
    have c1 : ¬ (136 : Int32) < iI ((k + 1 : Nat) : Int) := by rw [iL_136, iI_lt (by omega) (by omega)]; omega
    obtain ⟨be1, mo1, w1, s1, s2, s3, k1, m1, f1⟩ := x4_click_s h v hM hc hK hb (f_X4_bestClick_46 fu) hnow hbe hmo (aw := ((k + 1 : Nat) : Int)) (sd := -1) (by omega) (Or.inl rfl) 4095
    obtain ⟨be2, mo2, w2, t1, t2, t3, k2, m2, f2⟩ := x4_click_s k1 v m1 hc hK hb (f_X4_bestClick_46 fu) hnow s2 s3 (aw := ((k + 1 : Nat) : Int)) (sd := 1) (by omega) (Or.inr rfl) 4094
    obtain ⟨x, w', i1, i2, i3, i4⟩ := ih (k + 1) fu be2 mo2 w2 k2 m2 t2 t3 (by omega) (by omega)
    refine ⟨x, w', ?_, i2, i3, xFr_t (xFr_t f1 f2) i4⟩
    unfold f_X4_bestClick_46
    rw [if_neg c1, iL_m1, s1, show iI (-1 + 2) = iI 1 from rfl, t1, show iI (1 + 2) = iI 3 from rfl]
    rw [f_X4_bestClick_57, if_pos (by decide), show iI ((k + 1 : Nat) : Int) + (1 : Int32) = iI ((k + 1 + 1 : Nat) : Int) by rw [iL_1, iI_add]; rfl]
    exact i1
theorem x4_bestClick {z e nh nc nt : Nat} {ha ca ta : Nat → Nat} {B : Nat → Int} {H C T : Nat → Nat → Int} {w : xWd} (h : xBk z e nh nc nt ha ca ta B H C T w) (v : xVB nh nc nt B H C T) {c : Nat} {b : Int} (hc : c < nc) (hK : xCK (C c)) (hb : 0 ≤ b ∧ b < C c 7) : ∃ (x : Int) (w' : xWd), f_X4_bestClick (some z) (iI c) (iI b) w = some (iI x, w') ∧ (24 ≤ x ∧ x ≤ 160) ∧ xBk z e nh nc nt ha ca ta B H C T w' ∧ xFr z e w w' := by
  have hn := yv_n v
  obtain ⟨w1, g1, k1, m1, f1, -⟩ := x4_mark h v (but := (c : Int)) (by omega)
  have hC0 := bk_c h hc
  have hC := bk_c k1 hc
  have hB := (yv_c v hc).1
  have b1 : 0 ≤ C c 1 ∧ C c 1 ≤ 50000 := ⟨hB.1, hB.2.1⟩
  have b9 : C c 7 ≤ 9 := hB.2.2.2.2.2.1
  have ck := hK b.toNat (by omega)
  have q1 : xk_gI w1 (some (ca c)) 1 1 = some (iI (C c 1)) := xr_gI (k := 1) hC.1 rfl
  have q12 : xk_gR w1 (some (ca c)) 1 12 = some (some (ca c + 3)) := xr_gR (k := 12) hC.1 rfl
  have q9 : xk_gR w1 (some (ca c)) 1 9 = some (some (ca c + 2)) := xr_gR (k := 9) hC.1 rfl
  have q7 : xk_gI w (some (ca c)) 1 7 = some (iI (C c 7)) := xr_gI (k := 7) hC0.1 rfl
  have el := xr_lI hC.2.2.1 (i := b) (by omega) (by omega) (by omega)
  have cw : f_X4_countMetWith (some z) (some (ca c)) (iI (C c 1)) (some (ca c + 3)) w1 = some (iI (yCnt nh (fun i => yMb nc C c (H i)) H (C c) (C c 1)), w1) := x4_countWith k1 v m1 (ro := ca c + 3) (o := fun j => C c (22 + 3 * j)) (st := C c 1) hc hC.2.2.2 (xCB_o hB) (by omega)
  have cb : 0 ≤ yCnt nh (fun i => yMb nc C c (H i)) H (C c) (C c 1) ∧ yCnt nh (fun i => yMb nc C c (H i)) H (C c) (C c 1) ≤ nh := yCt_b _ _
  obtain ⟨x, w', i1, i2, i3, i4⟩ := x4_click_l v (mb := fun i => yMb nc C c (H i)) hc hK (b := b) (now := C c (21 + 3 * b.toNat)) (by omega) ck.2.2 136 0 4096 (C c (21 + 3 * b.toNat)) (yCnt nh (fun i => yMb nc C c (H i)) H (C c) (C c 1)) w1 k1 m1 ck.2.2 (by omega) (by omega) (by omega)
  have z1 : iI ((0 + 1 : Nat) : Int) = (1 : Int32) := by decide
  rw [z1] at i1
  have nb : f_X4_refuseNoBar (some (ca c)) (iI b) w = some w := by
    unfold f_X4_refuseNoBar
    rw [if_neg (by rw [iL_0, iI_lt (by omega) (by omega)]; omega), q7, Option.bind_some, if_pos (by rw [iI_lt (by omega) (by omega)]; omega)]
  refine ⟨x, w', ?_, i2, i3, xFr_t f1 i4⟩
  unfold f_X4_bestClick
  rw [bk_is h, Option.bind_some, x4_cueNumbered h v hc, Option.bind_some]
  show (f_X4_refuseNoBar (some (ca c)) (iI b) w).bind _ = _
  rw [nb, Option.bind_some, bk_is h, Option.bind_some, g1, Option.bind_some]
  show (xk_gR w1 (some (ca c)) 1 9).bind _ = _
  rw [q9, Option.bind_some, el, Option.bind_some]
  show (xk_gI w1 (some (ca c)) 1 1).bind _ = _
  rw [q1, Option.bind_some]
  show (xk_gR w1 (some (ca c)) 1 12).bind _ = _
  rw [q12, Option.bind_some, bk_is k1, Option.bind_some]
  show (f_X4_countMetWith (some z) (some (ca c)) (iI (C c 1)) (some (ca c + 3)) w1).bind _ = _
  rw [cw, Option.bind_some]
  exact i1
