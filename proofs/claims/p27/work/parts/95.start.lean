/-- the world at the law's entry: the script, the shared empty row -/
def xk_w0 (b L : Nat) (xs : Nat → Int32) (z0 eA mi : Nat) : xWd := (fun a => if a = b then some (.inl (4, L, .inl xs)) else if a = eA then some (.inl (3, 0, .inr (.inr (.inr (.inr (fun _ => none)))))) else none, z0, eA, mi)
theorem xk_arrof {args : Array Value} {s : State} {ty : FieldType} (hs : ∀ C : String, ty ≠ .object C) (h : (Cond.arrayClass ty).before args s = true) : ∃ cA : ClassId, ArrOfT s cA ty ∧ va_RA s cA ty := by
  obtain ⟨c, k, comp, h1, h2, h3⟩ := Cond.arrayClass_spec h
  refine ⟨c, fun n z => ⟨fun k h => (by cases h), k, h2, comp, h3⟩, ?_⟩
  cases ty with
  | object C => exact absurd rfl (hs C)
  | _ => exact h1
theorem xk_arrob {args : Array Value} {s : State} {C : String} (h : (Cond.arrayOver (.object C)).before args s = true) : ∃ cA : ClassId, ArrOfT s cA (.object C) ∧ va_RA s cA (.object C) := by
  obtain ⟨comp, c, k, h1, h2, h3, h4, h5⟩ := Cond.arrayOver_spec h
  exact ⟨c, fun n z => ⟨fun k h => (by cases h), k, h3, comp, h4⟩, k, comp, h3, h4, h1, h5⟩
theorem xk_isarr {s : State} {cell : Cell} {t1 t2 : FieldType} (h1 : s.isArrayOf cell t1) (h2 : s.isArrayOf cell t2) : t1 = t2 := by
  obtain ⟨-, k, a1, c1, a2⟩ := h1
  obtain ⟨-, k', b1, c2, b2⟩ := h2
  cases a1.symm.trans b1
  have e := a2.symm.trans b2
  injection e
set_option maxHeartbeats 4000000 in
set_option maxRecDepth 100000 in
theorem whole_start {p : Program} {e : Env} {s : State} {m : MethodId} {below : List Frame} {meth : Method} {c : Code} (l : Launch) (hflags : l.flags = flags0) {b L : Nat} {xs : Nat → Int32} (hL : L ≤ 260) (C0 : lw_At p s m meth c b L xs) : W p l e room_1 s m #[Value.ref b] below meth c s.heap [] 0 0 (lw_Z below #[Value.ref b] s) (entryFrame m ([Value.ref b] : List Value).toArray 19) := by
  obtain ⟨hx, hb, hr, hml, hown, hts, hX, hbl, hlocks, hgv⟩ := id C0
  have hT : ∀ w ∈ xk_T, w.before #[Value.ref b] s = true := fun w h => hts w (List.mem_filter.mp h).1
  have hg := flat_of_before _ hgv
  have hA : ∀ a : Nat, a < s.heap.size → ¬ xk_A s.heap.size a := fun a h => Nat.not_le.mpr h
  obtain ⟨c0, i0, k0⟩ := u_known (C := "Clickbook") (T := xT_0) (N := 13) (n := 13) hT xi_0 (hT _ xm_22)
  obtain ⟨c1, i1, k1⟩ := u_known (C := "Clickbook$Cue") (T := xT_1) (N := 13) (n := 13) hT xi_1 (hT _ xm_312)
  obtain ⟨c2, i2, k2⟩ := u_known (C := "Clickbook$Hit") (T := xT_2) (N := 3) (n := 3) hT xi_2 (hT _ xm_208)
  obtain ⟨c3, i3, k3⟩ := u_known (C := "Clickbook$JoinTable") (T := xT_3) (N := 3) (n := 3) hT xi_3 (hT _ xm_56)
  obtain ⟨c4, i4, k4⟩ := u_known (C := "Clickbook$Take") (T := xT_4) (N := 5) (n := 5) hT xi_4 (hT _ xm_470)
  obtain ⟨c5, i5, k5⟩ := u_known (C := "java/util/ArrayList") (T := xT_5) (N := 3) (n := 3) hT xi_5 (hT _ xm_30)
  obtain ⟨dC, dI, hKc⟩ : ∃ (dC : Nat → ClassId) (dI : Nat → Nat → Nat), ∀ (k : Nat) (q : vw_C), xk_cl[k]? = some q → u_Kn s q.1 q.2.1 q.2.2 (dC k) (dI k) := by
    refine ⟨fun k => if k = 0 then c0 else if k = 1 then c1 else if k = 2 then c2 else if k = 3 then c3 else if k = 4 then c4 else c5, fun k => if k = 0 then i0 else if k = 1 then i1 else if k = 2 then i2 else if k = 3 then i3 else if k = 4 then i4 else i5, ?_⟩
    intro k q hq
    match k, hq with
    | 0, hq => cases hq; exact k0
    | 1, hq => cases hq; exact k1
    | 2, hq => cases hq; exact k2
    | 3, hq => cases hq; exact k3
    | 4, hq => cases hq; exact k4
    | 5, hq => cases hq; exact k5
    | k + 6, hq => simp [xk_cl] at hq
  obtain ⟨cI, hI1, hI2⟩ := xk_arrof (fun C h => by cases h) (hT _ xm_73)
  obtain ⟨cZ, hZ1, hZ2⟩ := xk_arrof (fun C h => by cases h) (hT _ xm_114)
  obtain ⟨cO, hO1, hO2⟩ := xk_arrob (hts _ xm_272)
  have q1 : (Cond.arrayOf (Term.static "java/util/ArrayList" "DEFAULTCAPACITY_EMPTY_ELEMENTDATA" "[Ljava/lang/Object;") (.object "java/lang/Object")).before #[Value.ref b] s = true := hg _ (by decide +kernel)
  have q2 : (Cond.eq (.length (Term.static "java/util/ArrayList" "DEFAULTCAPACITY_EMPTY_ELEMENTDATA" "[Ljava/lang/Object;")) (.int 0)).before #[Value.ref b] s = true := hg _ (by decide +kernel)
  have q3 : (Cond.isRef (.mirror "[Ljava/lang/Object;")).before #[Value.ref b] s = true := hg _ (by decide +kernel)
  obtain ⟨y, y1, y2⟩ := Cond.eq_one q2
  have y3 : y = .int (Int32.ofNat 0) := (Option.some.inj y2).symm
  subst y3
  obtain ⟨eA, hv, hT0⟩ := va_Tof (N := 0) (f := fun _ => .null) (A := xk_A s.heap.size) (by decide) q1 y1 (fun j hj => absurd hj (Nat.not_lt_zero j)) hA
  have hZ := va_Zof (A := xk_A s.heap.size) (hts _ xm_42) (hT _ xm_4) hv hA
  obtain ⟨mi, hM⟩ := va_Mi.of q3
  have hN : xk_N s := ⟨va_AO.of (hts _ xm_272), va_Nw.of rfl (hts _ xm_412), va_Nw.of rfl (hts _ xm_764), va_Nw.of rfl (hts _ xm_765), va_Nw.of rfl (hts _ xm_779), va_Nw.of rfl (hts _ xm_780), va_Nw.of rfl (hts _ xm_781), va_Nw.of rfl (hts _ xm_784), va_Nw.of rfl (hts _ xm_786), va_Nw.of rfl (hts _ xm_787), va_Nw.of rfl (hts _ xm_792)⟩
  have hne : ¬ b = eA := by
    intro h
    obtain ⟨scr, x1, x2, -⟩ := hX
    obtain ⟨cell, z1, z2, -⟩ := hT0
    rw [← h] at z1
    cases x1.symm.trans z1
    cases xk_isarr x2 z2
  obtain ⟨E, hE⟩ : ∃ E : xEv, E = ((dC, dI), (fun k => if k = 1 then cZ else if k = 2 then cO else if k = 3 then cO else cI), s.heap.size, eA, mi, b, L, xs) := ⟨_, rfl⟩
  have hS : xk_S E s := by
    rw [hE]
    refine ⟨Nat.le_refl _, ⟨hKc, fun k q hq => ?_⟩, hZ, ⟨hX, hbl, hM, hT0⟩, hN⟩
    match k, hq with
    | 0, hq => cases hq; exact ⟨hI1, hI2⟩
    | 1, hq => cases hq; exact ⟨hZ1, hZ2⟩
    | 2, hq => cases hq; exact ⟨hO1, hO2⟩
    | 3, hq => cases hq; exact ⟨hO1, hO2⟩
    | 4, hq => cases hq; exact ⟨hI1, hI2⟩
    | k + 5, hq => simp [xk_tys] at hq
  have hH : xk_H E (xk_w0 b L xs s.heap.size eA mi) s.heap := by
    rw [hE]
    refine ⟨rfl, Nat.le_refl _, ⟨rfl, rfl⟩, fun a z hz => ⟨fun _ => ?_, fun hn => ?_⟩⟩
    · by_cases h1 : a = b
      · have hz : some (Sum.inl (4, L, Sum.inl xs) : xE) = some z := (if_pos h1).symm.trans hz
        cases hz
        exact Or.inl ⟨h1, rfl⟩
      · by_cases h2 : a = eA
        · have hz : some (Sum.inl (3, 0, .inr (.inr (.inr (.inr (fun _ => none))))) : xE) = some z := (if_pos h2).symm.trans ((if_neg h1).symm.trans hz)
          cases hz
          exact Or.inr ⟨h2, rfl⟩
        · have hz : (none : Option xE) = some z := (if_neg h2).symm.trans ((if_neg h1).symm.trans hz)
          cases hz
    · by_cases h1 : a = b
      · have hz : some (Sum.inl (4, L, Sum.inl xs) : xE) = some z := (if_pos h1).symm.trans hz
        cases hz
        exact absurd rfl hn
      · by_cases h2 : a = eA
        · have hz : some (Sum.inl (3, 0, .inr (.inr (.inr (.inr (fun _ => none))))) : xE) = some z := (if_pos h2).symm.trans ((if_neg h1).symm.trans hz)
          cases hz
          exact absurd rfl hn
        · have hz : (none : Option xE) = some z := (if_neg h2).symm.trans ((if_neg h1).symm.trans hz)
          cases hz
  have hz0 : E.2.2.1 = s.heap.size := by rw [hE]
  have hC : xk_C p (s.setDrawn s.drawn) m #[Value.ref b] meth c E code "ClickbookLaw" 19 := ⟨hx, hb, hml, hown, dr_words hT _, hlocks, hS⟩
  obtain ⟨w1, hf⟩ := law_true b L xs s.heap.size eA mi hL hbl (Nat.lt_of_not_le (fun h => hT0.out h)) hne
  refine W.base ?_
  have hl := lv_entry ([.ref b]) (n := 19) (Nat.le_of_ble_eq_true rfl)
  rw [lg_entry_eq]
  exact t_L_law_0 (l := l) (e := e) (below := below) hC hr hz0 (q := (1, w1)) rfl (some b) (xk_w0 b L xs s.heap.size eA mi) hf s.heap [] _ hH va_S.rf hl
