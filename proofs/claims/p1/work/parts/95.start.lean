/-- the world at the law's entry: the script, the shared empty row -/
def xk_w0 (b L : Nat) (xs : Nat → Int32) (z0 eA : Nat) (ad : Nat → Nat) : xWd := (fun a => if a = b then some (.inl (4, L, .inl xs)) else if a = eA then some (.inl (3, 0, .inr (.inr (.inr (.inr (fun _ => none)))))) else none, z0, eA, ad)
theorem xk_arroa {args : Array Value} {s : State} (h : (Cond.arrayOver (.array .int)).before args s = true) : ∃ cA : ClassId, ArrOfT s cA (.array .int) ∧ va_RA s cA (.array .int) := by
  obtain ⟨comp, c, k, h1, h2, h3, h4, h5⟩ := arrayOverA_spec h
  exact ⟨c, fun n z => ⟨fun k h => (by cases h), k, h3, comp, h4⟩, h5⟩
theorem xk_arrof {args : Array Value} {s : State} {ty : FieldType} (hs : ∀ C : String, ty ≠ .object C) (h : (Cond.arrayClass ty).before args s = true) : ∃ cA : ClassId, ArrOfT s cA ty ∧ va_RA s cA ty := by
  obtain ⟨c, k, comp, h1, h2, h3⟩ := Cond.arrayClass_spec h
  refine ⟨c, fun n z => ⟨fun k h => (by cases h), k, h2, comp, h3⟩, ?_⟩
  cases ty with
  | object C => exact absurd rfl (hs C)
  | _ => exact h1
theorem xk_arrob {args : Array Value} {s : State} {C : String} (h : (Cond.arrayOver (.object C)).before args s = true) : ∃ cA : ClassId, ArrOfT s cA (.object C) ∧ va_RA s cA (.object C) := by
  obtain ⟨comp, c, k, h1, h2, h3, h4, h5⟩ := Cond.arrayOver_spec h
  exact ⟨c, fun n z => ⟨fun k h => (by cases h), k, h3, comp, h4⟩, k, comp, h3, h4, h1, h5⟩
theorem xk_isarr {s : State} {cell : Cell} {t1 t2 : FieldType} (h1 : s.isArrayOf cell t1) (h2 : s.isArrayOf cell t2) : t1 = t2 := by
  obtain ⟨-, k, a1, c1, a2⟩ := h1
  obtain ⟨-, k', b1, c2, b2⟩ := h2
  cases a1.symm.trans b1
  have e := a2.symm.trans b2
  injection e
set_option maxHeartbeats 4000000 in
set_option maxRecDepth 100000 in
theorem whole_start {p : Program} {e : Env} {s : State} {m : MethodId} {below : List Frame} {meth : Method} {c : Code} (l : Launch) (hflags : l.flags = flags0) {b L : Nat} {xs : Nat → Int32} (hL : L ≤ 6) (C0 : lw_At p s m meth c b L xs) : W p l e room_1 s m #[Value.ref b] below meth c s.heap [] 0 0 (lw_Z below #[Value.ref b] s) (entryFrame m ([Value.ref b] : List Value).toArray 9) := by
  obtain ⟨hx, hb, hr, hml, hown, hts, hX, hbl, hlocks, hgv⟩ := id C0
  have hT : ∀ w ∈ xk_T, w.before #[Value.ref b] s = true := fun w h => hts w (List.mem_filter.mp h).1
  have hg := flat_of_before _ hgv
  have hA : ∀ a : Nat, a < s.heap.size → ¬ xk_A s.heap.size a := fun a h => Nat.not_le.mpr h
  obtain ⟨c0, i0, k0⟩ := u_known (C := "Clickbook") (T := xT_0) (N := 13) (n := 13) hT xi_0 (hT _ xm_30)
  obtain ⟨c1, i1, k1⟩ := u_known (C := "Clickbook$Cue") (T := xT_1) (N := 13) (n := 13) hT xi_1 (hT _ xm_627)
  obtain ⟨c2, i2, k2⟩ := u_known (C := "Clickbook$Hit") (T := xT_2) (N := 3) (n := 3) hT xi_2 (hT _ xm_564)
  obtain ⟨c3, i3, k3⟩ := u_known (C := "Clickbook$JoinTable") (T := xT_3) (N := 3) (n := 3) hT xi_3 (hT _ xm_67)
  obtain ⟨c4, i4, k4⟩ := u_known (C := "java/util/ArrayList") (T := xT_4) (N := 3) (n := 3) hT xi_4 (hT _ xm_38)
  obtain ⟨c5, i5, k5⟩ := u_known (C := "ClickbookModel") (T := xT_5) (N := 10) (n := 10) hT xi_5 (hT _ xm_853)
  obtain ⟨c6, i6, k6⟩ := u_known (C := "ClickbookModel$Cue") (T := xT_6) (N := 9) (n := 9) hT xi_6 (hT _ xm_1045)
  obtain ⟨c7, i7, k7⟩ := u_known (C := "ClickbookModel$Hit") (T := xT_7) (N := 3) (n := 3) hT xi_7 (hT _ xm_912)
  obtain ⟨c8, i8, k8⟩ := u_known (C := "java/util/ArrayList$Itr") (T := xT_8) (N := 4) (n := 4) hT xi_8 (hT _ xm_967)
  obtain ⟨c9, i9, k9⟩ := u_known (C := "java/lang/Integer") (T := xT_9) (N := 1) (n := 1) hT xi_9 (hT _ xm_942)
  obtain ⟨dC, dI, hKc⟩ : ∃ (dC : Nat → ClassId) (dI : Nat → Nat → Nat), ∀ (k : Nat) (q : vw_C), xk_cl[k]? = some q → u_Kn s q.1 q.2.1 q.2.2 (dC k) (dI k) := by
    refine ⟨fun k => if k = 0 then c0 else if k = 1 then c1 else if k = 2 then c2 else if k = 3 then c3 else if k = 4 then c4 else if k = 5 then c5 else if k = 6 then c6 else if k = 7 then c7 else if k = 8 then c8 else c9, fun k => if k = 0 then i0 else if k = 1 then i1 else if k = 2 then i2 else if k = 3 then i3 else if k = 4 then i4 else if k = 5 then i5 else if k = 6 then i6 else if k = 7 then i7 else if k = 8 then i8 else i9, ?_⟩
    intro k q hq
    match k, hq with
    | 0, hq => cases hq; exact k0
    | 1, hq => cases hq; exact k1
    | 2, hq => cases hq; exact k2
    | 3, hq => cases hq; exact k3
    | 4, hq => cases hq; exact k4
    | 5, hq => cases hq; exact k5
    | 6, hq => cases hq; exact k6
    | 7, hq => cases hq; exact k7
    | 8, hq => cases hq; exact k8
    | 9, hq => cases hq; exact k9
    | k + 10, hq => simp [xk_cl] at hq
  obtain ⟨cI, hI1, hI2⟩ := xk_arrof (fun C h => by cases h) (hT _ xm_84)
  obtain ⟨cZ, hZ1, hZ2⟩ := xk_arrof (fun C h => by cases h) (hT _ xm_125)
  obtain ⟨cO, hO1, hO2⟩ := xk_arrob (hts _ xm_438)
  obtain ⟨cJ, hJ1, hJ2⟩ := xk_arrof (fun C h => by cases h) (hT _ xm_1348)
  obtain ⟨cA, hA1, hA2⟩ := xk_arroa (hts _ xm_1123)
  have q1 : (Cond.arrayOf (Term.static "java/util/ArrayList" "DEFAULTCAPACITY_EMPTY_ELEMENTDATA" "[Ljava/lang/Object;") (.object "java/lang/Object")).before #[Value.ref b] s = true := hg _ (by decide +kernel)
  have q2 : (Cond.eq (.length (Term.static "java/util/ArrayList" "DEFAULTCAPACITY_EMPTY_ELEMENTDATA" "[Ljava/lang/Object;")) (.int 0)).before #[Value.ref b] s = true := hg _ (by decide +kernel)
  obtain ⟨y, y1, y2⟩ := Cond.eq_one q2
  have y3 : y = .int (Int32.ofNat 0) := (Option.some.inj y2).symm
  subst y3
  obtain ⟨eA, hv, hT0⟩ := va_Tof (N := 0) (f := fun _ => .null) (A := xk_A s.heap.size) (by decide) q1 y1 (fun j hj => absurd hj (Nat.not_lt_zero j)) hA
  have hZ := va_Zof (A := xk_A s.heap.size) (hts _ xm_50) (hT _ xm_4) hv hA
  have qU : (Cond.isRef (.static "java/lang/Throwable" "UNASSIGNED_STACK" "[Ljava/lang/StackTraceElement;")).before #[Value.ref b] s = true := hg _ (by decide +kernel)
  have qN : (Cond.isRef (.static "java/lang/Throwable" "SUPPRESSED_SENTINEL" "Ljava/util/List;")).before #[Value.ref b] s = true := hg _ (by decide +kernel)
  have zU : vx_Zq Bundle.tN "UNASSIGNED_STACK" Bundle.steD (xk_A s.heap.size) s s.heap := vx_Zqof (hts _ xm_269) (hT _ xm_7) qU hA
  have zN : vx_Zq Bundle.tN "SUPPRESSED_SENTINEL" Bundle.listD (xk_A s.heap.size) s s.heap := vx_Zqof (hts _ xm_271) (hT _ xm_7) qN hA
  have qh : (Cond.eq (.static "java/lang/Integer$IntegerCache" "high" "I") (.int 127)).before #[Value.ref b] s = true := hg _ (by decide +kernel)
  obtain ⟨yh, yh1, yh2⟩ := Cond.eq_one qh
  have yh3 : yh = .int 127 := (Option.some.inj yh2).symm
  subst yh3
  have zH := va_Zof (A := xk_A s.heap.size) (hts _ xm_938) (hT _ xm_20) yh1 hA
  have qc1 : (Cond.arrayOf (Term.static "java/lang/Integer$IntegerCache" "cache" "[Ljava/lang/Integer;") (.object "java/lang/Integer")).before #[Value.ref b] s = true := hg _ (by decide +kernel)
  have qc2 : (Cond.eq (.length (Term.static "java/lang/Integer$IntegerCache" "cache" "[Ljava/lang/Integer;")) (.int 256)).before #[Value.ref b] s = true := hg _ (by decide +kernel)
  have qc3 : (Cond.all (Term.static "java/lang/Integer$IntegerCache" "cache" "[Ljava/lang/Integer;") (.and (.exactly (.elem (Term.static "java/lang/Integer$IntegerCache" "cache" "[Ljava/lang/Integer;") (.index 0)) "java/lang/Integer") (.eq (.field (.elem (Term.static "java/lang/Integer$IntegerCache" "cache" "[Ljava/lang/Integer;") (.index 0)) "java/lang/Integer" "value" "I") (.sub (.index 0) (.int 128))))).before #[Value.ref b] s = true := hg _ (by decide +kernel)
  obtain ⟨yc, yc1, yc2⟩ := Cond.eq_one qc2
  have yc3 : yc = .int (Int32.ofNat 256) := (Option.some.inj yc2).symm
  subst yc3
  obtain ⟨ad, hAd, hEl⟩ := vb_Cof (A := xk_A s.heap.size) rfl yc1 qc3 hA
  obtain ⟨tA, htA, hTA⟩ := va_Tof (N := 256) (f := fun j => .ref (ad j)) (A := xk_A s.heap.size) (by decide) qc1 yc1 hEl hA
  have zC := va_Zof (A := xk_A s.heap.size) (hts _ xm_940) (hT _ xm_20) htA hA
  have hN : xk_N s := ⟨va_Nw.of rfl (hts _ xm_53), va_Nw.of rfl (hts _ xm_244), va_Nw.of rfl (hts _ xm_246), va_Nw.of rfl (hts _ xm_248), va_Nw.of rfl (hts _ xm_250), xk_str (hts _ xm_283) (hg _ (by decide +kernel)), va_Nw.of rfl (hts _ xm_320), xk_str (hts _ xm_327) (hg _ (by decide +kernel)), xk_str (hts _ xm_359) (hg _ (by decide +kernel)), xk_str (hts _ xm_372) (hg _ (by decide +kernel)), xk_str (hts _ xm_373) (hg _ (by decide +kernel)), va_AO.of (hts _ xm_438), xk_str (hts _ xm_476) (hg _ (by decide +kernel)), xk_str (hts _ xm_482) (hg _ (by decide +kernel)), xk_str (hts _ xm_495) (hg _ (by decide +kernel)), xk_str (hts _ xm_496) (hg _ (by decide +kernel)), xk_str (hts _ xm_501) (hg _ (by decide +kernel)), xk_str (hts _ xm_510) (hg _ (by decide +kernel)), xk_str (hts _ xm_511) (hg _ (by decide +kernel)), xk_str (hts _ xm_547) (hg _ (by decide +kernel)), va_Nw.of rfl (hts _ xm_550), xk_str (hts _ xm_557) (hg _ (by decide +kernel)), xk_str (hts _ xm_590) (hg _ (by decide +kernel)), xk_str (hts _ xm_591) (hg _ (by decide +kernel)), xk_str (hts _ xm_599) (hg _ (by decide +kernel)), va_Nw.of rfl (hts _ xm_613), va_Nw.of rfl (hts _ xm_614), xk_str (hts _ xm_623) (hg _ (by decide +kernel)), xk_str (hts _ xm_624) (hg _ (by decide +kernel)), xk_str (hts _ xm_625) (hg _ (by decide +kernel)), xk_str (hts _ xm_626) (hg _ (by decide +kernel)), xk_str (hts _ xm_697) (hg _ (by decide +kernel)), xk_str (hts _ xm_698) (hg _ (by decide +kernel)), va_Nw.of rfl (hts _ xm_708), xk_str (hts _ xm_725) (hg _ (by decide +kernel)), xk_str (hts _ xm_733) (hg _ (by decide +kernel)), xk_str (hts _ xm_734) (hg _ (by decide +kernel)), xk_str (hts _ xm_746) (hg _ (by decide +kernel)), xk_str (hts _ xm_747) (hg _ (by decide +kernel)), xk_str (hts _ xm_749) (hg _ (by decide +kernel)), xk_str (hts _ xm_784) (hg _ (by decide +kernel)), xk_str (hts _ xm_805) (hg _ (by decide +kernel)), va_Nw.of rfl (hts _ xm_1021), (hts _ xm_1123), va_Nw.of rfl (hts _ xm_1350), va_Nw.of rfl (hts _ xm_1351), va_Nw.of rfl (hts _ xm_1352), va_Nw.of rfl (hts _ xm_1353), va_Nw.of rfl (hts _ xm_1354), va_Nw.of rfl (hts _ xm_1357), va_Nw.of rfl (hts _ xm_1358), va_Nw.of rfl (hts _ xm_1359), va_Nw.of rfl (hts _ xm_1361), va_Nw.of rfl (hts _ xm_1362), va_Fw.of (hts _ xm_988) (hts _ xm_987) (hts _ xm_993) (hts _ xm_991) (hts _ xm_989), va_Nc.of (hg _ (by decide +kernel)), va_Nc.of (hg _ (by decide +kernel)), va_Nc.of (hg _ (by decide +kernel)), va_Nc.of (hg _ (by decide +kernel)), va_Nc.of (hg _ (by decide +kernel)), va_Nc.of (hg _ (by decide +kernel))⟩
  have hne : ¬ b = eA := by
    intro h
    obtain ⟨scr, x1, x2, -⟩ := hX
    obtain ⟨cell, z1, z2, -⟩ := hT0
    rw [← h] at z1
    cases x1.symm.trans z1
    cases xk_isarr x2 z2
  obtain ⟨E, hE⟩ : ∃ E : xEv, E = ((dC, dI), (fun k => if k = 1 then cZ else if k = 2 then cO else if k = 3 then cO else if k = 5 then cJ else if k = 6 then cA else cI), s.heap.size, eA, ad, b, L, xs) := ⟨_, rfl⟩
  have hS : xk_S E s := by
    rw [hE]
    refine ⟨Nat.le_refl _, ⟨hKc, fun k q hq => ?_⟩, hZ, ⟨hX, hbl, ⟨zU, zN, zH, ⟨tA, zC, hTA⟩, hAd.1⟩, hT0⟩, hN⟩
    match k, hq with
    | 0, hq => cases hq; exact ⟨hI1, hI2⟩
    | 1, hq => cases hq; exact ⟨hZ1, hZ2⟩
    | 2, hq => cases hq; exact ⟨hO1, hO2⟩
    | 3, hq => cases hq; exact ⟨hO1, hO2⟩
    | 4, hq => cases hq; exact ⟨hI1, hI2⟩
    | 5, hq => cases hq; exact ⟨hJ1, hJ2⟩
    | 6, hq => cases hq; exact ⟨hA1, hA2⟩
    | k + 7, hq => simp [xk_tys] at hq
  have hH : xk_H E (xk_w0 b L xs s.heap.size eA ad) s.heap := by
    rw [hE]
    refine ⟨rfl, Nat.le_refl _, ⟨rfl, rfl⟩, fun a z hz => ⟨fun _ => ?_, fun hn => ?_⟩⟩
    · by_cases h1 : a = b
      · have hz : some (Sum.inl (4, L, Sum.inl xs) : xE) = some z := (if_pos h1).symm.trans hz
        cases hz
        exact Or.inl ⟨h1, rfl⟩
      · by_cases h2 : a = eA
        · have hz : some (Sum.inl (3, 0, .inr (.inr (.inr (.inr (fun _ => none))))) : xE) = some z := (if_pos h2).symm.trans ((if_neg h1).symm.trans hz)
          cases hz
          exact Or.inr ⟨h2, rfl⟩
        · have hz : (none : Option xE) = some z := (if_neg h2).symm.trans ((if_neg h1).symm.trans hz)
          cases hz
    · by_cases h1 : a = b
      · have hz : some (Sum.inl (4, L, Sum.inl xs) : xE) = some z := (if_pos h1).symm.trans hz
        cases hz
        exact absurd rfl hn
      · by_cases h2 : a = eA
        · have hz : some (Sum.inl (3, 0, .inr (.inr (.inr (.inr (fun _ => none))))) : xE) = some z := (if_pos h2).symm.trans ((if_neg h1).symm.trans hz)
          cases hz
          exact absurd rfl hn
        · have hz : (none : Option xE) = some z := (if_neg h2).symm.trans ((if_neg h1).symm.trans hz)
          cases hz
  have hz0 : E.2.2.1 = s.heap.size := by rw [hE]
  have hC : xk_C p (s.setDrawn s.drawn) m #[Value.ref b] meth c E code "ClickbookLaw" 9 := ⟨hx, hb, hml, hown, dr_words hT _, hlocks, hS⟩
  obtain ⟨w1, hf⟩ := law_true b L xs s.heap.size eA ad hL hbl (Nat.lt_of_not_le (fun h => hT0.out h)) hne
  have hl9 : l.stackTraces = false := by unfold Launch.stackTraces; rw [hflags]; decide +kernel
  refine W.base ?_
  have hl := lv_entry ([.ref b]) (n := 9) (Nat.le_of_ble_eq_true rfl)
  rw [lg_entry_eq]
  exact t_L_law_0 (l := l) (e := e) (below := below) hC hr hz0 (q := (1, w1)) rfl hl9 (some b) (xk_w0 b L xs s.heap.size eA ad) hf s.heap [] _ hH va_S.rf hl
