/-! behind the last step -/
theorem lw_jb {nh nc nt : Nat} {B : Nat → Int} {H C T : Nat → Nat → Int} (v : xVB nh nc nt B H C T) {c : Nat} (hc : c < nc) : yJoin nt C T c ≤ 100 := by
  have b6 : C c 7 ≤ 9 := (yv_c v hc).1.2.2.2.2.2.1
  unfold yJoin
  by_cases d : (yPool C T c nt).1 = 0 ∨ C c 7 ≤ 0
  · rw [if_pos d]; omega
  · rw [if_neg d]
    have hp := (yPool_s C T c nt).2.1
    generalize (yPool C T c nt).2 = pl at *
    generalize (yPool C T c nt).1 = n at *
    obtain ⟨j, j1, j2, j3⟩ := yBp_s (fun p => yVj T pl n (C c 7).toNat ((C c 7).toNat - 1) p - yCp T pl (-1) p) n (by omega)
    rw [j2]
    have vb := yVj_b (T := T) (pl := pl) (n := n) (nb := (C c 7).toNat) (fun i hi => by have := yv_t v (hp i hi).1; omega) ((C c 7).toNat - 1) j j1
    have cp : yCp T pl (-1) j = 0 := if_pos (Or.inr (by omega))
    show yVj T pl n (C c 7).toNat ((C c 7).toNat - 1) j - yCp T pl (-1) j ≤ 100
    rw [cp]
    omega
theorem ls_fin {z e b L A D n nt : Nat} {xs : Nat → Int32} {ha ca ta : Nat → Nat} {B : Nat → Int} {H C T : Nat → Nat → Int} {w : xWd} (st : xSt z e b L A D n nt xs ha ca ta B H C T w) (fu : Nat) : ∃ w', f_L_law_951 (fu + 1) (some z) (some A) (some D) (iI (yCt (yVd C T) nt)) (iI nt) w = some (1, w') := by
  have h := st.1
  have v := st.2.1
  have l := st.2.2.1
  have nt40 := (yv_n v).2.2.1
  obtain ⟨l1, l2, l3, l4, l5, l6⟩ := l
  obtain ⟨w1, d1, d2, d3⟩ := x4_digest h v
  obtain ⟨q, m1, m2⟩ := x4_meanNote d2 v (fun k hk => (l6 k hk).1)
  have h7 := (l4 0 (by omega)).2.2.1
  obtain ⟨x, w2, k1, k2, k3, k4⟩ := x4_bestClick d2 v (c := 0) (b := 0) (by omega) (l4 0 (by omega)).2.2.2.2.1 (by omega)
  have z0 : iI ((0 : Nat) : Int) = (0 : Int32) := by decide
  have z1 : iI (0 : Int) = (0 : Int32) := by decide
  have z2 : iI (1 : Int) = (1 : Int32) := by decide
  rw [z0, z1] at k1
  have wo := x4_wouldMeet k3 v (f := 0) (n := 1) ⟨by omega, by omega, by omega, by omega, by omega, fun c => by omega⟩
  rw [z1, z2, lw_wo01 (fun i hi => ⟨(l3 i hi).2.2, (l3 i hi).1⟩) (fun k hk => (l4 k hk).1)] at wo
  obtain ⟨w3, e1, e2, e3⟩ := x4_digest k3 v
  have c1 : iI (nt : Int) ≤ iI nt := by rw [iI_le (by omega) (by omega)]; omega
  have c24 : ¬ iI x < (24 : Int32) := by rw [iL_24, iI_lt (by omega) (by omega)]; omega
  have lg : lg_cmp (yDig 8 4 nt B H C T) (yDig 8 4 nt B H C T) = (0 : Int32) := by simp [lg_cmp]
  refine ⟨w3, ?_⟩
  rw [f_L_law_951, bk_is h, Option.bind_some, lw_m10 h v, Option.bind_some, if_pos c1, bk_is h, Option.bind_some, d1, Option.bind_some, bk_is d2, Option.bind_some, lw_m11 d2 v, Option.bind_some, if_pos rfl, bk_is d2, Option.bind_some, m1, Option.bind_some, if_neg m2, bk_is d2, Option.bind_some, k1, Option.bind_some, if_neg c24, bk_is k3, Option.bind_some, wo, Option.bind_some, bk_is k3, Option.bind_some, lw_m4 k3 v, Option.bind_some, if_pos rfl, bk_is k3, Option.bind_some, e1, Option.bind_some, if_pos lg]
  rfl
theorem ls_end {z e b L A D n nt : Nat} {xs : Nat → Int32} {ha ca ta : Nat → Nat} {B : Nat → Int} {H C T : Nat → Nat → Int} : ∀ (r k fu : Nat) (w : xWd), xSt z e b L A D n nt xs ha ca ta B H C T w → k + r = nt → r < fu → ∃ w', f_L_law_951 fu (some z) (some A) (some D) (iI (yCt (yVd C T) k)) (iI k) w = some (1, w') := by
  intro r
  induction r with
  | zero =>
    intro k fu w st h1 h2
    obtain ⟨fu, rfl⟩ : ∃ f, fu = f + 1 := ⟨fu - 1, by omega⟩
    have e : k = nt := by omega
    subst e
    exact ls_fin st fu
  | succ r ih =>
    intro k fu w st h1 h2
    obtain ⟨fu, rfl⟩ : ∃ f, fu = f + 1 := ⟨fu - 1, by omega⟩
    have h := st.1
    have v := st.2.1
    have l := st.2.2.1
    have nt40 := (yv_n v).2.2.1
    have st0 := st
    obtain ⟨-, -, -, -, ⟨fe, fo, a1, a2, a3⟩, -⟩ := st
    have hk : k < nt := by omega
    have vt := yv_t v hk
    obtain ⟨c, hc⟩ : ∃ c : Nat, (c : Int) = T k 1 := ⟨(T k 1).toNat, by omega⟩
    have hc4 : c < 4 := by omega
    have ec : (T k 1).toNat = c := by omega
    obtain ⟨g1, g2, g3, g4, g5, g6⟩ := l.2.2.2.1 c hc4
    obtain ⟨p1, p2, p3, p4, p5, p6, p7, p8, p9, p10, p11, p12⟩ := (yv_c v hc4).1
    have c1 : ¬ iI (nt : Int) ≤ iI k := by rw [iI_le (by omega) (by omega)]; omega
    have ld : xk_lI 0 w (some D) (iI k) = some (iI c) := by
      have := xr_lI (i := (k : Int)) a2 (by omega) (by omega) (by omega)
      rw [Int.toNat_natCast, (a3 k hk).2, ← hc] at this
      exact this
    have le : xk_lI 0 w (some A) (iI k) = some (iI (T k 2)) := by
      have := xr_lI (i := (k : Int)) a1 (by omega) (by omega) (by omega)
      rw [Int.toNat_natCast, (a3 k hk).1] at this
      exact this
    have e1 : iI (k : Int) + (1 : Int32) = iI ((k + 1 : Nat) : Int) := by rw [iL_1, iI_add]; rfl
    have q0 := lw_t0 h v hk
    rw [← hc] at q0
    have q3 := lw_t3 h v hk
    have nz : ¬ (1 : Int32) = 0 := by decide
    have n01 : ¬ (0 : Int32) = 1 := by decide
    have z0 : iI 0 = (0 : Int32) := by decide
    have z1 : iI 1 = (1 : Int32) := by decide
    by_cases d : T k 2 = C c 6
    · have tv : yVd C T k = true := by
        unfold yVd
        rw [ec]
        exact decide_eq_true d
      rw [tv, if_pos rfl, z1] at q3
      have i2 := ih (k + 1) fu
      rw [yCt_e (yVd C T) k, tv, if_pos rfl] at i2
      obtain ⟨w1, j1, j2, j3⟩ := x4_join h v hc4
      have jl := yJoin_l v hc4 hk (by unfold yVc; rw [decide_eq_true ec, tv]; rfl) (by omega)
      have jb := lw_jb v hc4
      have t3 := (l.2.2.2.2.2 k hk).1
      rw [ec] at t3
      have ns := yNs_e (x := T k 3) (m := (C c 7).toNat) (by omega) t3 (by omega)
      have nb := yNs_b (T k 3) (C c 7).toNat
      rw [← ns] at jl nb
      have cj : iI (yNs (T k 3)) ≤ iI (yJoin nt C T c) := by rw [iI_le (by omega) (by omega)]; exact jl
      have ea : iI (yCt (yVd C T) k) + (1 : Int32) = iI (yCt (yVd C T) k + 1) := by rw [iL_1, iI_add]
      obtain ⟨w', i3⟩ := i2 w1 (xSt_m st0 j2 v l j3) (by omega) (by omega)
      refine ⟨w', ?_⟩
      have sp : ∀ m, f_L_law_951 (m + 1) (some z) (some A) (some D) (iI (yCt (yVd C T) k)) (iI k) w = f_L_law_951 m (some z) (some A) (some D) (iI (yCt (yVd C T) k + 1)) (iI ((k + 1 : Nat) : Int)) w1 := by
        intro m
        rw [f_L_law_951, bk_is h, Option.bind_some, lw_m10 h v, Option.bind_some, if_neg c1, ld, Option.bind_some, bk_is h, Option.bind_some, lw_c5 h v hc4, Option.bind_some, le, Option.bind_some, if_pos (show iI (C c 6) = iI (T k 2) by rw [d])]
        unfold f_L_law_983
        rw [if_neg nz]
        unfold f_L_law_997
        rw [bk_is h, Option.bind_some, q3, Option.bind_some, if_pos rfl]
        unfold f_L_law_1016
        rw [if_pos rfl, bk_is h, Option.bind_some, q0, Option.bind_some, ld, Option.bind_some, if_pos rfl, bk_is h, Option.bind_some, lw_t1 h v hk, Option.bind_some, le, Option.bind_some, if_pos rfl, if_neg nz, bk_is h, Option.bind_some, lw_t4 h v hk, Option.bind_some, ld, Option.bind_some, bk_is h, Option.bind_some, j1, Option.bind_some, if_pos cj]
        unfold f_L_law_1074
        rw [ea, e1]
      rw [sp]
      exact i3
    · have tv : yVd C T k = false := by
        unfold yVd
        rw [ec]
        exact decide_eq_false d
      rw [tv, if_neg Bool.false_ne_true, z0] at q3
      have i2 := ih (k + 1) fu
      rw [yCt_e (yVd C T) k, tv, if_neg Bool.false_ne_true, Int.add_zero] at i2
      have ez : iI (yCt (yVd C T) k) + (0 : Int32) = iI (yCt (yVd C T) k) := by rw [iL_0, iI_add, Int.add_zero]
      obtain ⟨w', i3⟩ := i2 w st0 (by omega) (by omega)
      refine ⟨w', ?_⟩
      have l6' := (l.2.2.2.2.2 k hk).2
      have sp : ∀ m, f_L_law_951 (m + 1) (some z) (some A) (some D) (iI (yCt (yVd C T) k)) (iI k) w = f_L_law_951 m (some z) (some A) (some D) (iI (yCt (yVd C T) k)) (iI ((k + 1 : Nat) : Int)) w := by
        intro m
        rw [f_L_law_951, bk_is h, Option.bind_some, lw_m10 h v, Option.bind_some, if_neg c1, ld, Option.bind_some, bk_is h, Option.bind_some, lw_c5 h v hc4, Option.bind_some, le, Option.bind_some, if_neg (show ¬ iI (C c 6) = iI (T k 2) by rw [iI_eq (by omega) (by omega)]; omega)]
        unfold f_L_law_983
        rw [if_pos rfl]
        unfold f_L_law_997
        rw [bk_is h, Option.bind_some, q3, Option.bind_some, if_neg n01]
        unfold f_L_law_1016
        rw [if_pos rfl, bk_is h, Option.bind_some, q0, Option.bind_some, ld, Option.bind_some, if_pos rfl, bk_is h, Option.bind_some, lw_t1 h v hk, Option.bind_some, le, Option.bind_some, if_pos rfl, if_pos rfl]
        unfold f_L_law_1074
        rw [ez, e1]
      rw [sp]
      exact i3
theorem ls_all {z e b L A D : Nat} {xs : Nat → Int32} {ha ca : Nat → Nat} {H : Nat → Nat → Int} (hL : L ≤ 260) : ∀ (r n fu nt : Nat) (ta : Nat → Nat) (B : Nat → Int) (C T : Nat → Nat → Int) (w : xWd), xSt z e b L A D n nt xs ha ca ta B H C T w → n + r = 44 → r < fu → ∃ w', f_L_law_210 fu (some b) (some z) (some A) (some D) (iI (B 9)) (iI n) w = some (1, w') := by
  intro r
  induction r with
  | zero =>
    intro n fu nt ta B C T w st h1 h2
    obtain ⟨fu, rfl⟩ : ∃ f, fu = f + 1 := ⟨fu - 1, by omega⟩
    have c1 : (44 : Int32) ≤ iI n := by rw [iL_44, iI_le (by omega) (by omega)]; omega
    obtain ⟨w', e1⟩ := ls_end nt 0 41 w st (by omega) (by have := (yv_n st.2.1).2.2.1; omega)
    rw [show iI ((0 : Nat) : Int) = (0 : Int32) by decide, show iI (yCt (yVd C T) 0) = (0 : Int32) by show iI 0 = 0; decide] at e1
    refine ⟨w', ?_⟩
    rw [f_L_law_210, if_pos c1]
    exact e1
  | succ r ih =>
    intro n fu nt ta B C T w st h1 h2
    obtain ⟨fu, rfl⟩ : ∃ f, fu = f + 1 := ⟨fu - 1, by omega⟩
    obtain ⟨nt', ta', B', C', T', w1, e1, S⟩ := ls_step st hL (by omega) fu
    have wl := lw_well S.1 S.2.1 (fun k hk => (S.2.2.1.2.2.2.1 k hk).2.2.2.2.2)
    have e2 : iI (n : Int) + (1 : Int32) = iI ((n + 1 : Nat) : Int) := by rw [iL_1, iI_add]; rfl
    obtain ⟨w', i1⟩ := ih (n + 1) fu nt' ta' B' C' T' w1 S (by omega) (by omega)
    refine ⟨w', ?_⟩
    rw [e1]
    unfold f_L_law_930
    rw [wl, Option.bind_some, if_neg (show ¬ (1 : Int32) = 0 by decide), e2]
    exact i1
