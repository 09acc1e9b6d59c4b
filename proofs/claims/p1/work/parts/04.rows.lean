/-! heap rows, calls and ends over the map -/
theorem xk_nr (C : String) (r : Option Nat) : narrow (.object C) (va_rf r) = va_rf r := by cases r <;> rfl
theorem xk_fr (C : String) (r : Option Nat) : fits (.object C) (va_rf r) = true := by cases r <;> rfl
theorem xk_nra (t : FieldType) (r : Option Nat) : narrow (.array t) (va_rf r) = va_rf r := by cases r <;> rfl
theorem xk_fra (t : FieldType) (r : Option Nat) : fits (.array t) (va_rf r) = true := by cases r <;> rfl
section XR
variable {p : Program} {l : Launch} {e : Env} {R : Room} {s : State} {m : MethodId} {args : Array Value} {below : List Frame} {meth : Method} {c : Code} {Q : State → Prop}
variable {E : xEv} {cc : ByteArray} {own : String} {nL cells slots pc : Nat} {lv lv' : List (Nat × Value)} {st : List Value} {w w1 : xWd}
variable {C ref : String} {T : u_T} {N ci index : Nat} {r : Option Nat}
theorem xk_sm {k : Nat} (hC : xk_C p s m args meth c E cc own nL) (hs : (T k).1 = ref ∨ Cond.sameField ref (T k).1 (T k).2.1 (T k).2.2.1 ∈ xk_T) : ∀ z, s.fieldFound? (T k).1 (T k).2.1 (T k).2.2.1 = some z → s.fieldFound? ref (T k).2.1 (T k).2.2.1 = some z := by
  intro z hz
  rcases hs with h | h
  · rw [← h]; exact hz
  · exact u_same (hC.2.2.2.2.1 _ h) z hz
theorem xk_getI (hC : xk_C p s m args meth c E cc own nL) (hi : ∀ x ∈ u_ws C T N, x ∈ xk_T) (hc : xk_cl[ci]? = some (C, T, N)) (k : Nat) (hk : k < N) (hw : Cond.fieldLink own index ref (T k).2.1 (T k).2.2.1 ∈ xk_T) (hs : (T k).1 = ref ∨ Cond.sameField ref (T k).1 (T k).2.1 (T k).2.2.1 ∈ xk_T) {v : Int32} (d : decode cc pc = .ok (.getfield index, 3)) (h : xk_gI w r ci k = some v)
    (kk : xk_X p l e R s m args below meth c Q E nL cells slots (pc + 3) lv (.int v :: st) w) : xk_X p l e R s m args below meth c Q E nL cells slots pc lv (va_rf r :: st) w := by
  intro H locs ls hH hS hl
  obtain ⟨a, fs, rfl, hm, hv⟩ := xk_gI_e h
  exact va_get (D := E.1) (ws := [(a, .inr (ci, fs))]) hC.1 hC.2.1 hC.2.2.2.2.1 hi hC.2.2.2.1 hC.2.2.2.2.2.2.2.1 (xk_one (hH.at hm (fun h => Bool.noConfusion h))) 0 rfl hc k hk (hC.2.2.2.2.1 _ hw) (xk_sm hC hs) hv d (kk H locs ls hH hS hl)
theorem xk_getR (hC : xk_C p s m args meth c E cc own nL) (hi : ∀ x ∈ u_ws C T N, x ∈ xk_T) (hc : xk_cl[ci]? = some (C, T, N)) (k : Nat) (hk : k < N) (hw : Cond.fieldLink own index ref (T k).2.1 (T k).2.2.1 ∈ xk_T) (hs : (T k).1 = ref ∨ Cond.sameField ref (T k).1 (T k).2.1 (T k).2.2.1 ∈ xk_T) {v : Option Nat} (d : decode cc pc = .ok (.getfield index, 3)) (h : xk_gR w r ci k = some v)
    (kk : xk_X p l e R s m args below meth c Q E nL cells slots (pc + 3) lv (va_rf v :: st) w) : xk_X p l e R s m args below meth c Q E nL cells slots pc lv (va_rf r :: st) w := by
  intro H locs ls hH hS hl
  obtain ⟨a, fs, rfl, hm, hv⟩ := xk_gR_e h
  exact va_get (D := E.1) (ws := [(a, .inr (ci, fs))]) hC.1 hC.2.1 hC.2.2.2.2.1 hi hC.2.2.2.1 hC.2.2.2.2.2.2.2.1 (xk_one (hH.at hm (fun h => Bool.noConfusion h))) 0 rfl hc k hk (hC.2.2.2.2.1 _ hw) (xk_sm hC hs) hv d (kk H locs ls hH hS hl)
theorem xk_put (hC : xk_C p s m args meth c E cc own nL) (hi : ∀ x ∈ u_ws C T N, x ∈ xk_T) (hc : xk_cl[ci]? = some (C, T, N)) {ty0 : Nat → FieldType} (hty : ∀ k, k < N → parseFieldDescriptor (T k).2.2.1 = some (ty0 k)) (hnm : ∀ a, a < N → ∀ b, b < N → a ≠ b → (T a).2.1 ≠ (T b).2.1) (k : Nat) (hk : k < N) (hw : Cond.fieldLink own index ref (T k).2.1 (T k).2.2.1 ∈ xk_T) (hs : (T k).1 = ref ∨ Cond.sameField ref (T k).1 (T k).2.1 (T k).2.2.1 ∈ xk_T) (hfin : (T k).2.2.2 = false) {v : Value} (hn : narrow (ty0 k) v = v) (hfit : fits (ty0 k) v = true) (d : decode cc pc = .ok (.putfield index, 3)) (h : xk_pV w r ci k v = some w1)
    (kk : xk_X p l e R s m args below meth c Q E nL cells slots (pc + 3) lv st w1) : xk_X p l e R s m args below meth c Q E nL cells slots pc lv (v :: va_rf r :: st) w := by
  intro H locs ls hH hS hl
  obtain ⟨a, fs, rfl, hm, hlen, rfl⟩ := xk_pV_e h
  have hts := hC.2.2.2.2.1
  have hK := hC.2.2.2.2.2.2.2.1
  have hap := va_apart (own := own) hts hi ty0 hty hnm hK hc
  obtain ⟨r0, h1, cell, q1, q2, q3, q4⟩ := hH.at hm (fun h => Bool.noConfusion h)
  have hown := hH.ow hm (fun h => Bool.noConfusion h)
  have hr : r0 = (C, T, N) := Option.some.inj (h1.symm.trans hc)
  subst hr
  obtain ⟨hSl, hfc, kC, hkC, hkind⟩ := hK.1 ci _ hc
  obtain ⟨cf, kf, fi, f, hif, hsl⟩ := hSl k hk
  have hlay := hts _ (hi _ (u_in_lay hk))
  unfold u_lay at hlay
  rw [if_neg (by rw [hfin]; decide)] at hlay
  have hst := (u_facts hfc hkC (u_lays hts hi hk) hif).1
  have h6 := u_store hfc hkC hkind hlay hif (hty k hk) hn hfit
  refine W.putK hC.1 hC.2.1 (f := f) ⟨hC.2.2.2.1, hts _ hw, ⟨_, _, _, xk_sm hC hs _ hif⟩, hst⟩ (by rw [q2]; exact h6) q1 q3 (by rw [hsl]; exact k2_hasslot (q4 k hk)) rfl rfl d fun H' e1 e2 e3 => ?_
  rw [hsl] at e1 ⊢
  exact kk H' _ ls (hH.setp (z := .inr (ci, fs.set k v)) hown (fun h => Bool.noConfusion h) ⟨_, hc, t_OB.to (V := updV (vp_V fs) k v) ⟨_, e1, q2, q3, t_set q4 hap hk v⟩ (fun j _ => vp_updV_set hlen v j)⟩ e2 e3) (hS.put e2 e3 hown) hl
theorem xk_putF (hC : xk_C p s m args meth c E cc own nL) (hi : ∀ x ∈ u_ws C T N, x ∈ xk_T) (hc : xk_cl[ci]? = some (C, T, N)) {ty0 : Nat → FieldType} (hty : ∀ k, k < N → parseFieldDescriptor (T k).2.2.1 = some (ty0 k)) (hnm : ∀ a, a < N → ∀ b, b < N → a ≠ b → (T a).2.1 ≠ (T b).2.1) (k : Nat) (hk : k < N) (hw : Cond.fieldLink own index ref (T k).2.1 (T k).2.2.1 ∈ xk_T) (hs : (T k).1 = ref ∨ Cond.sameField ref (T k).1 (T k).2.1 (T k).2.2.1 ∈ xk_T) (hfin : (T k).2.2.2 = true) (hin2 : meth.name = "<init>") (hdecl : (T k).1 = own) {v : Value} (hn : narrow (ty0 k) v = v) (hfit : fits (ty0 k) v = true) (d : decode cc pc = .ok (.putfield index, 3)) (h : xk_pV w r ci k v = some w1)
    (kk : xk_X p l e R s m args below meth c Q E nL cells slots (pc + 3) lv st w1) : xk_X p l e R s m args below meth c Q E nL cells slots pc lv (v :: va_rf r :: st) w := by
  intro H locs ls hH hS hl
  obtain ⟨a, fs, rfl, hm, hlen, rfl⟩ := xk_pV_e h
  have hts := hC.2.2.2.2.1
  have hK := hC.2.2.2.2.2.2.2.1
  have hap := va_apart (own := own) hts hi ty0 hty hnm hK hc
  obtain ⟨r0, h1, cell, q1, q2, q3, q4⟩ := hH.at hm (fun h => Bool.noConfusion h)
  have hown := hH.ow hm (fun h => Bool.noConfusion h)
  have hr : r0 = (C, T, N) := Option.some.inj (h1.symm.trans hc)
  subst hr
  obtain ⟨hSl, hfc, kC, hkC, hkind⟩ := hK.1 ci _ hc
  obtain ⟨cf, kf, fi, f, hif, hsl⟩ := hSl k hk
  have hlay := hts _ (hi _ (u_in_lay hk))
  unfold u_lay at hlay
  rw [if_pos hfin] at hlay
  have hst := (u_facts hfc hkC (u_lays hts hi hk) hif).1
  have hcf : m.cls = cf := by
    obtain ⟨_, _, c', _, _, _, -, -, hf', -, -, -, hown2, -⟩ := Cond.laysFinal_spec hlay
    have e1 : c' = cf := by have := hif.symm.trans hf'; simp at this; exact this.1.symm
    rw [hdecl] at hown2
    rw [← e1]; exact Option.some.inj (hC.2.2.2.1.symm.trans hown2)
  have h6 := u_fits hfc hkC hkind (Or.inr hlay) hif (hty k hk) hn hfit
  refine W.putFinK hC.1 hC.2.1 hC.2.2.2.1 (hts _ hw) (xk_sm hC hs _ hif) hst hcf hin2 (by rw [q2]; exact h6) q1 q3 (by rw [hsl]; exact k2_hasslot (q4 k hk)) rfl rfl d fun H' e1 e2 e3 => ?_
  rw [hsl] at e1 ⊢
  exact kk H' _ ls (hH.setp (z := .inr (ci, fs.set k v)) hown (fun h => Bool.noConfusion h) ⟨_, hc, t_OB.to (V := updV (vp_V fs) k v) ⟨_, e1, q2, q3, t_set q4 hap hk v⟩ (fun j _ => vp_updV_set hlen v j)⟩ e2 e3) (hS.put e2 e3 hown) hl
theorem xk_grow {H H1 : Heap} {locs : List Loc} {z0 : Nat} {H0 : Heap} (hS : va_S (xk_A z0) H0 H locs) (z1 : H1.size = H.size + 1) (o1 : ∀ q : Nat, q < H.size → H1[q]? = H[q]?) : va_S (xk_A z0) H0 H1 locs :=
  ⟨Nat.le_trans hS.1 (by omega), fun x h1 h2 => (o1 x (Nat.lt_of_lt_of_le h1 hS.1)).trans (hS.2.1 x h1 h2), hS.2.2⟩
theorem xk_new (hC : xk_C p s m args meth c E cc own nL) (hi : ∀ x ∈ u_ws C T N, x ∈ xk_T) (hc : xk_cl[ci]? = some (C, T, N)) {ty0 : Nat → FieldType} (hty : ∀ k, k < N → parseFieldDescriptor (T k).2.2.1 = some (ty0 k)) (hcl : Cond.classLink own index C ∈ xk_T) (hinst : Cond.instantiable C N ∈ xk_T) (hini : Cond.initialized C ∈ xk_T) {fs : List Value} (hfs : ∀ j, j < N → defaultValue (ty0 j) = vp_V fs j) (hcells : cells + 1 ≤ R.cells) (hslots : slots + N ≤ R.slots) (d : decode cc pc = .ok (.new index, 3))
    (kk : xk_X p l e R s m args below meth c Q E nL (cells + 1) (slots + N) (pc + 3) lv (va_rf (some w.2.1) :: st) (xk_nw w ci fs)) : xk_X p l e R s m args below meth c Q E nL cells slots pc lv st w := by
  intro H locs ls hH hS hl
  have hts := hC.2.2.2.2.1
  have hKn := hC.2.2.2.2.2.2.2.1.1 ci _ hc
  refine W.newcK hC.1 hC.2.1 hC.2.2.2.1 (hts _ hcl) (hts _ hinst) (hts _ hini) rfl d hcells hslots hKn.2.1 rfl fun H1 kC hkC e1 z1 o1 => ?_
  have hq : va_at E.1 xk_cl (H.size, .inr (ci, fs)) H1 := ⟨_, hc, (u_born ty0 hts hi hKn hkC e1 hty).to hfs⟩
  have k2 := kk H1 locs ls (hH.push (z := .inr (ci, fs)) (fun h => Bool.noConfusion h) hq z1 o1) (xk_grow hS z1 o1) hl
  rw [← hH.1] at k2
  exact k2
theorem xk_newarr (hC : xk_C p s m args meth c E cc own nL) {atype : ArrayType} {ty : FieldType} (hty : newarray.typeOf atype = ty) (harr : Cond.arrayClass ty ∈ xk_T) {kd : Nat} (hk4 : (kd == 3 || kd == 4) = false) {dd : vp_A} (hk : (xk_tys E.2.1)[kd]? = some (E.2.1 kd, ty)) (hd : ∀ (cA : ClassId) (N' : Nat), vp_cell cA (N', dd.2) = arrV cA N' (fun _ => defaultValue ty)) {n : Int32} {cap : Nat} (hcap : cap * componentBytes ty ≤ 536870912) (hcells : cells + 1 ≤ R.cells) (hslots : slots + cap ≤ R.slots) (d : decode cc pc = .ok (.newarray atype, 2)) (h : xk_nA w kd dd n cap = some w1)
    (kk : xk_X p l e R s m args below meth c Q E nL (cells + 1) (slots + cap) (pc + 2) lv (va_rf (some w.2.1) :: st) w1) : xk_X p l e R s m args below meth c Q E nL cells slots pc lv (.int n :: st) w := by
  intro H locs ls hH hS hl
  subst hty
  unfold xk_nA at h
  split at h
  · cases h
  · rename_i hn
    split at h
    · rename_i hle
      cases h
      refine va_newaK hC.1 hC.2.1 (hC.2.2.2.2.1 _ harr) rfl d rfl hn rfl (Nat.le_trans (Nat.mul_le_mul_right _ hle) hcap) hcells (by omega) rfl fun H1 cA e1 z1 o1 hAr hNm => ?_
      have hRA := ((hC.2.2.2.2.2.2.2.1).2 kd _ hk).2
      have hcA : cA = E.2.1 kd := by
        have hR2 : s.vm.findClass ("[" ++ (newarray.typeOf atype).toString) = some (E.2.1 kd) := by
          cases atype <;> exact hRA
        exact Option.some.inj (hNm.symm.trans hR2)
      have hq : va_at E.1 xk_cl (H.size, xk_toE E.2.1 (.inl (kd, n.toNatClampNeg, dd.2))) H1 := by
        show H1[H.size]? = some (vp_cell (E.2.1 kd) (n.toNatClampNeg, dd.2))
        rw [hd, ← hcA]
        exact e1
      have k2 := kk H1 locs ls (hH.push (z := .inl (kd, n.toNatClampNeg, dd.2)) (fun h => Bool.noConfusion (hk4.symm.trans h)) hq z1 o1) (xk_grow hS z1 o1) hl
      rw [← hH.1] at k2
      exact W.widen (Nat.le_refl _) (Nat.add_le_add_left hle _) k2
    · cases h
theorem xk_anew (hC : xk_C p s m args meth c E cc own nL) (hclink : Cond.classLink own index "java/lang/Object" ∈ xk_T) (hover : va_AO "java/lang/Object" s) (hk : (xk_tys E.2.1)[2]? = some (E.2.1 2, .object "java/lang/Object")) {n : Int32} {cap : Nat} (hcap : cap * 4 ≤ 536870912) (hcells : cells + 1 ≤ R.cells) (hslots : slots + cap ≤ R.slots) (d : decode cc pc = .ok (.anewarray index, 3)) (h : xk_nA w 2 xk_dR n cap = some w1)
    (kk : xk_X p l e R s m args below meth c Q E nL (cells + 1) (slots + cap) (pc + 3) lv (va_rf (some w.2.1) :: st) w1) : xk_X p l e R s m args below meth c Q E nL cells slots pc lv (.int n :: st) w := by
  intro H locs ls hH hS hl
  unfold xk_nA at h
  split at h
  · cases h
  · rename_i hn
    split at h
    · rename_i hle
      cases h
      refine W.anew hC.1 hC.2.1 hC.2.2.2.1 (hC.2.2.2.2.1 _ hclink) (va_AO.use hover) rfl d rfl hn (Nat.le_trans (Nat.mul_le_mul_right _ hle) hcap) hcells (by omega) fun cA kA comp f1 f2 f3 f4 => ?_
      generalize hH1 : H.push ({ cls := cA, slots := Array.replicate n.toNatClampNeg .null, vm := .none } : Cell) = H1
      have z1 : H1.size = H.size + 1 := by rw [← hH1, Array.size_push]
      have e1 : H1[H.size]? = some (arrV cA n.toNatClampNeg (fun _ => .null)) := by rw [← hH1, Array.getElem?_push_size, ← arrV_new]
      have o1 : ∀ q : Nat, q < H.size → H1[q]? = H[q]? := fun q hq => by rw [← hH1, Array.getElem?_push, if_neg (Nat.ne_of_lt hq)]
      obtain ⟨kA', comp', g1, g2, g3, g4⟩ := ((hC.2.2.2.2.2.2.2.1).2 2 _ hk).2
      have hcA : cA = E.2.1 2 := Option.some.inj (f1.symm.trans g4)
      have hq : va_at E.1 xk_cl (H.size, xk_toE E.2.1 (.inl (2, n.toNatClampNeg, xk_dR.2))) H1 := by
        show H1[H.size]? = some (vp_cell (E.2.1 2) (n.toNatClampNeg, xk_dR.2))
        rw [← hcA]
        exact e1
      have k2 := kk H1 locs ls (hH.push (z := .inl (2, n.toNatClampNeg, xk_dR.2)) (fun h => Bool.noConfusion h) hq z1 o1) (xk_grow hS z1 o1) hl
      rw [← hH.1] at k2
      exact W.widen (Nat.le_refl _) (Nat.add_le_add_left hle _) k2
    · cases h
theorem xk_iald (hC : xk_C p s m args meth c E cc own nL) (hk : (xk_tys E.2.1)[0]? = some (E.2.1 0, .int)) {i v : Int32} (d : decode cc pc = .ok (.iaload, 1)) (h : xk_lI 0 w r i = some v) (kk : xk_X p l e R s m args below meth c Q E nL cells slots (pc + 1) lv (.int v :: st) w) : xk_X p l e R s m args below meth c Q E nL cells slots pc lv (.int i :: va_rf r :: st) w := by
  intro H locs ls hH hS hl
  obtain ⟨a, k, n, f, rfl, hm, hkd, hin, rfl⟩ := xk_lI_e h
  rcases hkd with rfl | ⟨-, rfl⟩
  · exact va_iald hC.1 hC.2.1 hC.2.2.2.2.2.2.2.1 (ws := [(a, .inl (E.2.1 0, n, .inl f))]) (xk_one (hH.at hm (fun h => Bool.noConfusion h))) 0 0 rfl hk hin d (kk H locs ls hH hS hl)
  · rcases (hH.2.2.2 a _ hm).1 rfl with ⟨h1, h2⟩ | ⟨h1, h2⟩
    · cases h2
      subst h1
      have hx := hC.2.2.2.2.2.2.2.2.2.1
      exact va_sld hC.1 hC.2.1 hx.1 (Nat.lt_of_lt_of_le hx.2.1 hC.2.2.2.2.2.2.1) (Nat.not_le.mpr hx.2.1) hS hin d (kk H locs ls hH hS hl)
    · cases h2
theorem xk_zald (hC : xk_C p s m args meth c E cc own nL) (hk : (xk_tys E.2.1)[1]? = some (E.2.1 1, .boolean)) {i v : Int32} (d : decode cc pc = .ok (.baload, 1)) (h : xk_lI 1 w r i = some v) (kk : xk_X p l e R s m args below meth c Q E nL cells slots (pc + 1) lv (.int v :: st) w) : xk_X p l e R s m args below meth c Q E nL cells slots pc lv (.int i :: va_rf r :: st) w := by
  intro H locs ls hH hS hl
  obtain ⟨a, k, n, f, rfl, hm, hkd, hin, rfl⟩ := xk_lI_e h
  rcases hkd with rfl | ⟨h0, -⟩
  · exact va_zald hC.1 hC.2.1 hC.2.2.2.2.2.2.2.1 (ws := [(a, .inl (E.2.1 1, n, .inl f))]) (xk_one (hH.at hm (fun h => Bool.noConfusion h))) 0 1 rfl hk hin d (kk H locs ls hH hS hl)
  · cases h0
theorem xk_aald (hC : xk_C p s m args meth c E cc own nL) (hk : (xk_tys E.2.1)[2]? = some (E.2.1 2, .object "java/lang/Object")) {i : Int32} {v : Option Nat} (d : decode cc pc = .ok (.aaload, 1)) (h : xk_lR 2 w r i = some v) (kk : xk_X p l e R s m args below meth c Q E nL cells slots (pc + 1) lv (va_rf v :: st) w) : xk_X p l e R s m args below meth c Q E nL cells slots pc lv (.int i :: va_rf r :: st) w := by
  intro H locs ls hH hS hl
  obtain ⟨a, n, f, rfl, hm, hin, rfl⟩ := xk_lR_e h
  exact va_aldq hC.1 hC.2.1 hC.2.2.2.2.2.2.2.1 (ws := [(a, .inl (E.2.1 2, n, .inr (.inr (.inr (.inr f)))))]) (xk_one (hH.at hm (fun h => Bool.noConfusion h))) 0 2 rfl hk hin d (kk H locs ls hH hS hl)
theorem xk_alen (hC : xk_C p s m args meth c E cc own nL) {v : Int32} (d : decode cc pc = .ok (.arraylength, 1)) (h : xk_len w r = some v) (kk : xk_X p l e R s m args below meth c Q E nL cells slots (pc + 1) lv (.int v :: st) w) : xk_X p l e R s m args below meth c Q E nL cells slots pc lv (va_rf r :: st) w := by
  intro H locs ls hH hS hl
  obtain ⟨z, h1, h2⟩ := xk_bi h
  split at h2
  · rename_i hk
    obtain ⟨a, rfl, hm⟩ := xk_arr_e h1
    cases h2
    by_cases h4 : xk_scr (.inl z) = true
    · have hx := hC.2.2.2.2.2.2.2.2.2.1
      rcases (hH.2.2.2 a _ hm).1 h4 with ⟨h5, h6⟩ | ⟨h5, h6⟩
      · cases h6
        subst h5
        exact va_slen hC.1 hC.2.1 hx.1 (Nat.lt_of_lt_of_le hx.2.1 hC.2.2.2.2.2.2.1) (Nat.not_le.mpr hx.2.1) hS d (kk H locs ls hH hS hl)
      · cases h6
        subst h5
        exact va_tlen hC.1 hC.2.1 hx.2.2.2 hS rfl d (kk H locs ls hH hS hl)
    · obtain ⟨ty, ht⟩ := xk_tyk E.2.1 z.1 hk
      exact va_alen hC.1 hC.2.1 hC.2.2.2.2.2.2.2.1 (ws := [(a, .inl (E.2.1 z.1, z.2))]) (xk_one (hH.at hm h4)) 0 z.1 rfl ht rfl d (kk H locs ls hH hS hl)
  · cases h2
theorem xk_iast (hC : xk_C p s m args meth c E cc own nL) (hk : (xk_tys E.2.1)[0]? = some (E.2.1 0, .int)) {i v : Int32} (d : decode cc pc = .ok (.iastore, 1)) (h : xk_sI 0 w r i v = some w1) (kk : xk_X p l e R s m args below meth c Q E nL cells slots (pc + 1) lv st w1) : xk_X p l e R s m args below meth c Q E nL cells slots pc lv (.int v :: .int i :: va_rf r :: st) w := by
  intro H locs ls hH hS hl
  obtain ⟨a, n, f, rfl, hm, hin, rfl⟩ := xk_sI_e h
  have hP : va_P E.1 xk_cl [(a, .inl (E.2.1 0, n, .inl f))] H := xk_one (hH.at hm (fun h => Bool.noConfusion h))
  have ha : E.2.2.1 ≤ a := hH.ow hm (fun h => Bool.noConfusion h)
  refine W.iast hC.1 hC.2.1 (hP 0 _ rfl) ((hC.2.2.2.2.2.2.2.1.2 0 _ hk).1 n (fun j => .int (f j))) (fun q => by cases q) (by show ¬ (i < 0 ∨ (arrV _ _ _).slots.size ≤ _); rw [arrV_size]; exact hin) rfl rfl d fun H1 e1 z1 oq => ?_
  refine kk H1 _ ls (hH.setp ha (hn := fun h => Bool.noConfusion h) (z := .inl (0, n, .inl (upd f i.toNatClampNeg v))) ?_ z1 oq) (hS.put z1 oq ha) hl
  show H1[a]? = some (vp_cell _ _)
  rw [e1]
  show some ((vp_cell _ (n, Sum.inl f)).setSlot _ _) = some (vp_cell _ (n, Sum.inl _))
  rw [vp_cell_i, vp_cell_i, arrV_store]
  congr 2
  funext q
  by_cases hq : q = i.toNatClampNeg
  · subst hq
    simp [updV, upd]
  · simp [updV, upd, hq]
theorem xk_zast (hC : xk_C p s m args meth c E cc own nL) (hk : (xk_tys E.2.1)[1]? = some (E.2.1 1, .boolean)) {i v : Int32} (d : decode cc pc = .ok (.bastore, 1)) (h : xk_sI 1 w r i (vp_nar .boolean v) = some w1) (kk : xk_X p l e R s m args below meth c Q E nL cells slots (pc + 1) lv st w1) : xk_X p l e R s m args below meth c Q E nL cells slots pc lv (.int v :: .int i :: va_rf r :: st) w := by
  intro H locs ls hH hS hl
  obtain ⟨a, n, f, rfl, hm, hin, rfl⟩ := xk_sI_e h
  have hP : va_P E.1 xk_cl [(a, .inl (E.2.1 1, n, .inl f))] H := xk_one (hH.at hm (fun h => Bool.noConfusion h))
  have ha : E.2.2.1 ≤ a := hH.ow hm (fun h => Bool.noConfusion h)
  refine W.zast hC.1 hC.2.1 (hP 0 _ rfl) ((hC.2.2.2.2.2.2.2.1.2 1 _ hk).1 n (fun j => .int (f j))) (fun q => by cases q) (by show ¬ (i < 0 ∨ (arrV _ _ _).slots.size ≤ _); rw [arrV_size]; exact hin) rfl rfl d fun H1 e1 z1 oq => ?_
  refine kk H1 _ ls (hH.setp ha (hn := fun h => Bool.noConfusion h) (z := .inl (1, n, .inl (upd f i.toNatClampNeg (vp_nar .boolean v)))) ?_ z1 oq) (hS.put z1 oq ha) hl
  show H1[a]? = some (vp_cell _ _)
  rw [e1]
  show some ((vp_cell _ (n, Sum.inl f)).setSlot _ _) = some (vp_cell _ (n, Sum.inl _))
  rw [vp_cell_i, vp_cell_i, arrV_store]
  congr 2
  funext q
  by_cases hq : q = i.toNatClampNeg
  · subst hq
    simp [updV, upd, vp_nar]
    try rfl
  · simp [updV, upd, hq]
/-- an object of ours, a cached Integer, or null, into a row of objects -/
theorem xk_aast (hC : xk_C p s m args meth c E cc own nL) (hk : (xk_tys E.2.1)[2]? = some (E.2.1 2, .object "java/lang/Object")) (hca : ∀ (ci : Nat) (q : vw_C), xk_cl[ci]? = some q → va_Nw (.castable q.1 "java/lang/Object") s) {i : Int32} {v : Option Nat} (d : decode cc pc = .ok (.aastore, 1)) (h : xk_sR 2 w r i v = some w1) (hci : va_Nw (.castable "java/lang/Integer" "java/lang/Object") s) (hv : v = none ∨ (∃ ci fs, xk_obj w v ci = some fs) ∨ ∃ k, k < 256 ∧ v = some (w.2.2.2 k)) (kk : xk_X p l e R s m args below meth c Q E nL cells slots (pc + 1) lv st w1) : xk_X p l e R s m args below meth c Q E nL cells slots pc lv (va_rf v :: .int i :: va_rf r :: st) w := by
  intro H locs ls hH hS hl
  obtain ⟨a, n, f, rfl, hm, hin, rfl⟩ := xk_sR_e h
  have hP : va_P E.1 xk_cl [(a, .inl (E.2.1 2, n, .inr (.inr (.inr (.inr f)))))] H := xk_one (hH.at hm (fun h => Bool.noConfusion h))
  have ha : E.2.2.1 ≤ a := hH.ow hm (fun h => Bool.noConfusion h)
  have hK := hC.2.2.2.2.2.2.2.1
  have fin : ∀ H1 : Heap, H1[a]? = some ((vp_cell (E.2.1 2) (n, .inr (.inr (.inr (.inr f))))).setSlot i.toNatClampNeg (va_rf v)) → va_at E.1 xk_cl (a, xk_toE E.2.1 (.inl (2, n, .inr (.inr (.inr (.inr (va_up f i.toNatClampNeg v))))))) H1 := by
    intro H1 e1
    show H1[a]? = some (vp_cell (E.2.1 2) (n, .inr (.inr (.inr (.inr (va_up f i.toNatClampNeg v))))))
    rw [e1]
    rw [vp_cell_q, vp_cell_q, arrV_store]
    congr 2
    funext q
    by_cases hq : q = i.toNatClampNeg
    · subst hq
      simp [updV, va_up]
    · simp [updV, va_up, hq]
  cases v with
  | none =>
    refine va_WaastN (C := "java/lang/Object") hC.1 hC.2.1 (hP 0 _ rfl) ((hK.2 2 _ hk).1 n (fun j => va_rf (f j))) (fun q => by cases q) (by show ¬ (i < 0 ∨ (arrV _ _ _).slots.size ≤ _); rw [arrV_size]; exact hin) rfl rfl d fun H1 e1 z1 oq => ?_
    exact kk H1 _ ls (hH.setp ha (hn := fun h => Bool.noConfusion h) (z := .inl (2, n, .inr (.inr (.inr (.inr (va_up f i.toNatClampNeg none)))))) (fin H1 e1) z1 oq) (hS.put z1 oq ha) hl
  | some v =>
    rcases hv with hv | ⟨ci, fs, hv⟩ | ⟨k9, hk9, hv⟩
    · cases hv
    · obtain ⟨v', hv1, hv2⟩ := xk_obj_e hv
      cases hv1
      obtain ⟨q, hq, cellV, g1, g2, g3, -⟩ := hH.at hv2 (fun h => Bool.noConfusion h)
      have hlt : i.toNatClampNeg < n := Nat.not_le.mp fun q => hin (Or.inr q)
      have h0 : ¬ i < 0 := fun q => hin (Or.inl q)
      have hcls := (hK.1 ci q hq).2
      obtain ⟨kA, comp, k1, k2, k3, -⟩ := (hK.2 2 _ hk).2
      obtain ⟨kE, hkE, -⟩ := Vm.findClass_spec k3
      obtain ⟨c0, t1, f1, f2, f3⟩ := Cond.castable_spec (va_Nw.use (A := args) rfl (hca ci q hq))
      cases hcls.1.symm.trans f1
      cases k3.symm.trans f2
      obtain ⟨kC, hkC, -⟩ := hcls.2
      refine W.aast hC.1 hC.2.1 (hP 0 _ rfl) (fun q h => by cases h) (fun h => by cases h) k1 k2 rfl hkE ⟨h0, by show _ < (arrV _ _ _).slots.size; rw [arrV_size]; exact hlt⟩ g1 (fun q h => by rw [g3] at h; cases h) (by rw [g2]; exact hkC) (by rw [g2]; exact f3) rfl rfl d fun H1 e1 z1 oq => ?_
      exact kk H1 _ ls (hH.setp ha (hn := fun h => Bool.noConfusion h) (z := .inl (2, n, .inr (.inr (.inr (.inr (va_up f i.toNatClampNeg (some v))))))) (fin H1 e1) z1 oq) (hS.put z1 oq ha) hl
    · cases hv
      obtain ⟨cellV, g1, g3, g2, g4⟩ := hC.2.2.2.2.2.2.2.2.2.1.2.2.1.2.2.2.2 k9 hk9
      rw [← hH.2.2.1.2] at g1 g4
      have g1 : H[w.2.2.2 k9]? = some cellV := (hS.2.1 _ (Array.getElem?_eq_some_iff.mp g1).1 g4).trans g1
      have hlt : i.toNatClampNeg < n := Nat.not_le.mp fun q => hin (Or.inr q)
      have h0 : ¬ i < 0 := fun q => hin (Or.inl q)
      obtain ⟨kA, comp, k1, k2, k3, -⟩ := (hK.2 2 _ hk).2
      obtain ⟨kE, hkE, -⟩ := Vm.findClass_spec k3
      obtain ⟨kC, hkC, -⟩ := Vm.findClass_spec g2
      refine W.aast hC.1 hC.2.1 (hP 0 _ rfl) (fun q h => by cases h) (fun h => by cases h) k1 k2 rfl hkE ⟨h0, by show _ < (arrV _ _ _).slots.size; rw [arrV_size]; exact hlt⟩ g1 (fun q h => by rw [h] at g3; cases g3) hkC (vb_asgC hci _ _ k3 g2) rfl rfl d fun H1 e1 z1 oq => ?_
      exact kk H1 _ ls (hH.setp ha (hn := fun h => Bool.noConfusion h) (z := .inl (2, n, .inr (.inr (.inr (.inr (va_up f i.toNatClampNeg (some (w.2.2.2 k9)))))))) (fin H1 e1) z1 oq) (hS.put z1 oq ha) hl
theorem xk_cast (hC : xk_C p s m args meth c E cc own nL) (hc : xk_cl[ci]? = some (C, T, N)) (hw : Cond.classLink own index C ∈ xk_T) (d : decode cc pc = .ok (.checkcast index, 3)) {u : Unit} (h : xk_cc w r ci = some u) (kk : xk_X p l e R s m args below meth c Q E nL cells slots (pc + 3) lv (va_rf r :: st) w) : xk_X p l e R s m args below meth c Q E nL cells slots pc lv (va_rf r :: st) w := by
  intro H locs ls hH hS hl
  unfold xk_cc at h
  split at h
  · rename_i hr
    subst hr
    exact lv_castN hC.1 hC.2.1 d (kk H locs ls hH hS hl)
  · obtain ⟨fs, h1, -⟩ := xk_bi h
    obtain ⟨a, rfl, hm⟩ := xk_obj_e h1
    obtain ⟨q, hq, cell, g1, g2, g3, -⟩ := hH.at hm (fun h => Bool.noConfusion h)
    have hr : q = (C, T, N) := Option.some.inj (hq.symm.trans hc)
    subst hr
    have hKn := (hC.2.2.2.2.2.2.2.1.1 ci _ hc).2
    exact va_castS hC.1 hC.2.1 hC.2.2.2.1 (hC.2.2.2.2.1 _ hw) hKn ⟨cell, g1, by rw [g3]; rfl, by rw [g2]; exact hKn.1⟩ d (kk H locs ls hH hS hl)
theorem xk_gets (hC : xk_C p s m args meth c E cc own nL) (hw : Cond.fieldLink own index "java/util/ArrayList" "DEFAULTCAPACITY_EMPTY_ELEMENTDATA" "[Ljava/lang/Object;" ∈ xk_T) (d : decode cc pc = .ok (.getstatic index, 3)) (kk : xk_X p l e R s m args below meth c Q E nL cells slots (pc + 3) lv (va_rf (some w.2.2.1) :: st) w) : xk_X p l e R s m args below meth c Q E nL cells slots pc lv st w := by
  intro H locs ls hH hS hl
  have k2 := kk H locs ls hH hS hl
  rw [hH.2.2.1.1] at k2
  exact va_gets hC.1 hC.2.1 hC.2.2.2.2.2.2.2.2.1 hS hC.2.2.2.1 (hC.2.2.2.2.1 _ hw) (fun _ h => h) d k2
theorem xk_mmin (hC : xk_C p s m args meth c E cc own nL) (hw : Cond.methodLink own index Lib.Math.min.name ∈ xk_T) (h2 : Cond.static Lib.Math.min.name ∈ xk_T) (h3 : Cond.initialized "java/lang/Math" ∈ xk_T) (h4 : Cond.code Lib.Math.min.name Lib.Math.min.code 2 (some .int) ∈ xk_T) (hf : 1 ≤ R.frames) (hlo : (st.map fun v => v.category).sum + 13 ≤ R.locals) (h5 : cells ≤ R.cells) (h6 : slots ≤ R.slots) {x y : Int32} (d : decode cc pc = .ok (.invokestatic index, 3)) (kk : xk_X p l e R s m args below meth c Q E nL cells slots (pc + 3) lv (.int (if y < x then y else x) :: st) w) : xk_X p l e R s m args below meth c Q E nL cells slots pc lv (.int y :: .int x :: st) w := fun H locs ls hH hS hl => va_mmin hC.1 hC.2.1 (hC.2.2.1.trans hl.1.symm) hC.2.2.2.1 (hC.2.2.2.2.1 _ hw) (hC.2.2.2.2.1 _ h2) (hC.2.2.2.2.1 _ h3) (hC.2.2.2.2.1 _ h4) hf hlo h5 h6 d (kk H locs ls hH hS hl)
theorem xk_mmax (hC : xk_C p s m args meth c E cc own nL) (hw : Cond.methodLink own index Lib.Math.max.name ∈ xk_T) (h2 : Cond.static Lib.Math.max.name ∈ xk_T) (h3 : Cond.initialized "java/lang/Math" ∈ xk_T) (h4 : Cond.code Lib.Math.max.name Lib.Math.max.code 2 (some .int) ∈ xk_T) (hf : 1 ≤ R.frames) (hlo : (st.map fun v => v.category).sum + 13 ≤ R.locals) (h5 : cells ≤ R.cells) (h6 : slots ≤ R.slots) {x y : Int32} (d : decode cc pc = .ok (.invokestatic index, 3)) (kk : xk_X p l e R s m args below meth c Q E nL cells slots (pc + 3) lv (.int (if x < y then y else x) :: st) w) : xk_X p l e R s m args below meth c Q E nL cells slots pc lv (.int y :: .int x :: st) w := fun H locs ls hH hS hl => va_mmax hC.1 hC.2.1 (hC.2.2.1.trans hl.1.symm) hC.2.2.2.1 (hC.2.2.2.2.1 _ hw) (hC.2.2.2.2.1 _ h2) (hC.2.2.2.2.1 _ h3) (hC.2.2.2.2.1 _ h4) hf hlo h5 h6 d (kk H locs ls hH hS hl)
theorem xk_mabs (hC : xk_C p s m args meth c E cc own nL) (hw : Cond.methodLink own index Lib.Math.abs.name ∈ xk_T) (h2 : Cond.static Lib.Math.abs.name ∈ xk_T) (h3 : Cond.initialized "java/lang/Math" ∈ xk_T) (h4 : Cond.code Lib.Math.abs.name Lib.Math.abs.code 1 (some .int) ∈ xk_T) (hf : 1 ≤ R.frames) (hlo : (st.map fun v => v.category).sum + 13 ≤ R.locals) (h5 : cells ≤ R.cells) (h6 : slots ≤ R.slots) {x : Int32} (d : decode cc pc = .ok (.invokestatic index, 3)) (kk : xk_X p l e R s m args below meth c Q E nL cells slots (pc + 3) lv (.int (if 0 ≤ x then x else 0 - x) :: st) w) : xk_X p l e R s m args below meth c Q E nL cells slots pc lv (.int x :: st) w := fun H locs ls hH hS hl => va_mabs hC.1 hC.2.1 (hC.2.2.1.trans hl.1.symm) hC.2.2.2.1 (hC.2.2.2.2.1 _ hw) (hC.2.2.2.2.1 _ h2) (hC.2.2.2.2.1 _ h3) (hC.2.2.2.2.1 _ h4) hf hlo h5 h6 d (kk H locs ls hH hS hl)
/-- the ends -/
theorem xk_iret (hC : xk_C p s m args meth c E cc own nL) {ty : FieldType} (hr : meth.sig.returnType = some ty) {v : Int32} (hn : narrow ty (.int v) = .int v) (d : decode cc pc = .ok (.ireturn, 1)) : xk_X p l e R s m args below meth c (MQ below (xk_Qi E (v, w)) args s cells slots (xk_A E.2.2.1)) E nL cells slots pc lv [.int v] w := fun H locs ls hH hS hl => W.zret (v := v) hC.1 hC.2.1 hr hn (fun t ht hW => ⟨⟨v, (), rfl, rfl, by subst ht; exact hH⟩, hS.F ht⟩) hS.2.2 d hC.2.2.2.2.2.1
theorem xk_lret (hC : xk_C p s m args meth c E cc own nL) (hr : meth.sig.returnType = some .long) {v : Int64} (d : decode cc pc = .ok (.lreturn, 1)) : xk_X p l e R s m args below meth c (MQ below (xk_Ql E (v, w)) args s cells slots (xk_A E.2.2.1)) E nL cells slots pc lv [.long v] w := fun H locs ls hH hS hl => W.lret (v := v) hC.1 hC.2.1 hr (fun t ht hW => ⟨⟨v, (), rfl, rfl, by subst ht; exact hH⟩, hS.F ht⟩) hS.2.2 d hC.2.2.2.2.2.1
theorem xk_dret (hC : xk_C p s m args meth c E cc own nL) (hr : meth.sig.returnType = some .double) {v : UInt64} (d : decode cc pc = .ok (.dreturn, 1)) : xk_X p l e R s m args below meth c (MQ below (xk_Qd E (v, w)) args s cells slots (xk_A E.2.2.1)) E nL cells slots pc lv [.double v] w := fun H locs ls hH hS hl => W.dret (v := v) hC.1 hC.2.1 hr (fun t ht hW => ⟨⟨v, (), rfl, rfl, by subst ht; exact hH⟩, hS.F ht⟩) hS.2.2 d hC.2.2.2.2.2.1
theorem xk_aret (hC : xk_C p s m args meth c E cc own nL) {ty : FieldType} (hr : meth.sig.returnType = some ty) (hty : (∃ n, ty = .object n) ∨ ∃ t, ty = .array t) (d : decode cc pc = .ok (.areturn, 1)) : xk_X p l e R s m args below meth c (MQ below (xk_Qq E (r, w)) args s cells slots (xk_A E.2.2.1)) E nL cells slots pc lv [va_rf r] w := fun H locs ls hH hS hl => W.aret (v := va_rf r) hC.1 hC.2.1 hr hty (by cases r with | none => exact Or.inl rfl | some a => exact Or.inr ⟨a, rfl⟩) (fun t ht hW => ⟨⟨r, (), rfl, rfl, by subst ht; exact hH⟩, hS.F ht⟩) hS.2.2 d hC.2.2.2.2.2.1
theorem xk_vret (hC : xk_C p s m args meth c E cc own nL) (hr : meth.sig.returnType = none) (d : decode cc pc = .ok (.return_, 1)) : xk_X p l e R s m args below meth c (MQ below (xk_Qv E w) args s cells slots (xk_A E.2.2.1)) E nL cells slots pc lv [] w := fun H locs ls hH hS hl => W.vret hC.1 hC.2.1 hr (fun t ht hW => ⟨⟨(), rfl, trivial, by subst ht; exact hH⟩, hS.F ht⟩) hS.2.2 d hC.2.2.2.2.2.1
/-- calls -/
theorem xk_S.warm {U : State} {H : Heap} {locs : List Loc} (h : xk_S E s) (hS : va_S (xk_A E.2.2.1) s.heap H locs) (hW : s.WarmedH U.vm) (hU : U.heap = H) : xk_S E U := by
  refine ⟨Nat.le_trans h.1 (by rw [hU]; exact hS.1), va_K.moved hW.alike h.2.1, va_Z.kept (va_Z.moved hW.alike h.2.2.1) (fun q hq hn => by rw [hU]; exact hS.2.1 q hq hn), ⟨(va_X.moved hW.alike h.2.2.2.1.1).kept (by rw [hU]; exact hS.2.1 _ (Nat.lt_of_lt_of_le h.2.2.2.1.2.1 h.1) (Nat.not_le.mpr h.2.2.2.1.2.1)), h.2.2.2.1.2.1, (h.2.2.2.1.2.2.1.moved hW.alike).kept (fun q hq hn => by rw [hU]; exact hS.2.1 q hq hn), (va_T.moved hW.alike h.2.2.2.1.2.2.2).kept (fun q hq hn => by rw [hU]; exact hS.2.1 q hq hn)⟩, h.2.2.2.2.warm hW⟩
theorem xk_blind {av : List Value} : FrameBlind (va_Pc av (fun U => xk_H E w U.heap ∧ xk_S E U)) := by
  intro a U g mk h
  obtain ⟨h1, h2, h3⟩ := h
  exact ⟨h1, h2, h3.1, va_K.moved (Vm.Alike.refl U.vm) h3.2.1, va_Z.moved (Vm.Alike.refl U.vm) h3.2.2.1, ⟨va_X.moved (Vm.Alike.refl U.vm) h3.2.2.2.1.1, h3.2.2.2.1.2.1, h3.2.2.2.1.2.2.1.moved (Vm.Alike.refl U.vm), va_T.moved (Vm.Alike.refl U.vm) h3.2.2.2.1.2.2.2⟩, h3.2.2.2.2.same rfl⟩
theorem xk_gv {own C : String} {idx : Nat} {y : MethodName} {b : ByteArray} {n : Nat} {ret : Option FieldType} (h1 : Cond.methodLink own idx y ∈ xk_T) (h2 : Cond.instanceMethod y ∈ xk_T) (h3 : Cond.selects C y y ∈ xk_T) (h4 : Cond.initialized C ∈ xk_T) (h5 : Cond.code y b n ret ∈ xk_T) : GoodIn xk_T (wsV own idx C y (Cond.code y b n ret :: xk_T)) := by
  intro w hw
  have hm : w ∈ xk_T := by
    simp only [wsV, List.cons_append, List.nil_append, List.mem_cons] at hw
    rcases hw with rfl | rfl | rfl | rfl | rfl | h <;> assumption
  exact ⟨hm, good_of_word (xk_good hm)⟩
theorem xk_gs {own : String} {idx : Nat} {y : MethodName} {b : ByteArray} {n : Nat} {ret : Option FieldType} (h1 : Cond.methodLink own idx y ∈ xk_T) (h2 : Cond.static y ∈ xk_T) (h4 : Cond.initialized y.cls ∈ xk_T) (h5 : Cond.code y b n ret ∈ xk_T) : GoodIn xk_T (va_wsS own idx y (Cond.code y b n ret :: xk_T)) := by
  intro w hw
  have hm : w ∈ xk_T := by
    simp only [va_wsS, List.cons_append, List.nil_append, List.mem_cons] at hw
    rcases hw with rfl | rfl | rfl | rfl | h <;> assumption
  exact ⟨hm, good_of_word (xk_good hm)⟩
theorem xk_gb {y : MethodName} {b : ByteArray} {n : Nat} {ret : Option FieldType} (h5 : Cond.code y b n ret ∈ xk_T) : GoodIn xk_T (Cond.code y b n ret :: xk_T) := by
  intro w hw
  have hm : w ∈ xk_T := by
    rcases List.mem_cons.mp hw with rfl | h <;> assumption
  exact ⟨hm, good_of_word (xk_good hm)⟩
/-- the machine's side of a call, of any kind: va_Run to the callee's end -/
def xk_R (p : Program) (l : Launch) (e : Env) (R : Room) (s : State) (m : MethodId) (args : Array Value) (below : List Frame) (meth : Method) (c : Code) (E : xEv) (nL cells slots mc ms pc : Nat) (lv : List (Nat × Value)) (st rest : List Value) (w : xWd) (Qc : Array Value → State → Outcome → State → Prop) : Prop :=
  ∀ (H : Heap) (locs : List Loc) (ls : Array Slot), xk_H E w H → va_S (xk_A E.2.2.1) s.heap H locs → lv_has ls nL lv → ∃ a : Array Value, va_Run p l e R s m args below meth c H locs cells slots mc ms (F0 m pc ls st) rest (Qc a) (xk_A E.2.2.1)
theorem xk_callV (hC : xk_C p s m args meth c E cc own nL) {y : MethodName} {b : ByteArray} {nLy : Nat} {ret : Option FieldType} {fr lc mc ms : Nat} {av : List Value} {rest : List Value} {Qc : Array Value → State → Outcome → State → Prop} (n : Nat) (hc : xk_cl[ci]? = some (C, T, N)) (hM : xk_M l y b nLy ret fr lc mc ms E (va_rf r :: av) w Qc) {u : Unit} (hr : xk_is w r ci = some u) (h1 : Cond.methodLink own index y ∈ xk_T) (h2 : Cond.instanceMethod y ∈ xk_T) (h3 : Cond.selects C y y ∈ xk_T) (h4 : Cond.initialized C ∈ xk_T) (h5 : Cond.code y b nLy ret ∈ xk_T) (hd : y.cls = C ∧ y.cls ≠ "java/lang/invoke/MethodHandle" ∧ y.cls ≠ "java/lang/invoke/VarHandle" ∧ (parseMethodDescriptor y.desc).map (fun d => d.parameters.length) = some n) (hn : av.length = n) (hR : fr + 1 ≤ R.frames ∧ 8 + (nLy + 11) + lc ≤ R.locals) (hst : st = av.reverse ++ va_rf r :: rest) (hro : (rest.map fun v => v.category).sum ≤ 8) (d : decode cc pc = .ok (.invokevirtual index, 3)) (hf : cells + mc ≤ R.cells ∧ slots + ms ≤ R.slots) : xk_R p l e R s m args below meth c E nL cells slots mc ms pc lv st rest w Qc := by
  intro H locs ls hH hS hl
  obtain ⟨fs, hr1, -⟩ := xk_bi hr
  obtain ⟨a, rfl, hm⟩ := xk_obj_e hr1
  refine ⟨_, va_runV (As := av) (rest := rest) (b := a) (nL := nL) ⟨hC.1, hC.2.1, hC.2.2.1, hC.2.2.2.1, hC.2.2.2.2.1⟩ hM (cwV n hC.2.2.2.2.1 (xk_gv h1 h2 h3 h4 h5) rfl rfl rfl hd hR) ⟨xk_blind, va_recv hC.2.2.2.2.2.2.2.1 (xk_one (hH.at hm (fun h => Bool.noConfusion h))) (ci := ci) (q0 := 0) hc rfl, fun U hU hW => ⟨rfl, by rw [hU]; exact hH, hC.2.2.2.2.2.2.warm hS hW hU⟩⟩ rfl hn hl.1 hst (lv_room hro) d hf⟩
theorem xk_callS (hC : xk_C p s m args meth c E cc own nL) {y : MethodName} {b : ByteArray} {nLy : Nat} {ret : Option FieldType} {fr lc mc ms : Nat} {av : List Value} {rest : List Value} {Qc : Array Value → State → Outcome → State → Prop} (n : Nat) (hM : xk_M l y b nLy ret fr lc mc ms E av w Qc) (h1 : Cond.methodLink own index y ∈ xk_T) (h2 : Cond.static y ∈ xk_T) (h4 : Cond.initialized y.cls ∈ xk_T) (h5 : Cond.code y b nLy ret ∈ xk_T) (hd : y.cls ≠ "java/lang/invoke/MethodHandle" ∧ y.cls ≠ "java/lang/invoke/VarHandle" ∧ (parseMethodDescriptor y.desc).map (fun d => d.parameters.length) = some n) (hn : av.length = n) (hR : fr + 1 ≤ R.frames ∧ 8 + (nLy + 11) + lc ≤ R.locals) (hst : st = av.reverse ++ rest) (hro : (rest.map fun v => v.category).sum ≤ 8) (d : decode cc pc = .ok (.invokestatic index, 3)) (hf : cells + mc ≤ R.cells ∧ slots + ms ≤ R.slots) : xk_R p l e R s m args below meth c E nL cells slots mc ms pc lv st rest w Qc := by
  intro H locs ls hH hS hl
  exact ⟨_, va_runS (As := av) (rest := rest) (nL := nL) ⟨hC.1, hC.2.1, hC.2.2.1, hC.2.2.2.1, hC.2.2.2.2.1⟩ hM (va_cwS n hC.2.2.2.2.1 (xk_gs h1 h2 h4 h5) rfl rfl rfl hd hR) ⟨xk_blind, fun U hU hW => ⟨rfl, by rw [hU]; exact hH, hC.2.2.2.2.2.2.warm hS hW hU⟩⟩ rfl hn hl.1 hst (lv_room hro) d hf⟩
theorem xk_callSN (hC : xk_C p s m args meth c E cc own nL) {y : MethodName} {b : ByteArray} {nLy : Nat} {host : String} {ret : Option FieldType} {fr lc mc ms : Nat} {av : List Value} {rest : List Value} {Qc : Array Value → State → Outcome → State → Prop} (n : Nat) (hM : xk_M l y b nLy ret fr lc mc ms E av w Qc) (h1 : va_Nw (.methodLinkNest own index y host) s) (h2 : Cond.static y ∈ xk_T) (h4 : Cond.initialized y.cls ∈ xk_T) (h5 : Cond.code y b nLy ret ∈ xk_T) (hd : y.cls ≠ "java/lang/invoke/MethodHandle" ∧ y.cls ≠ "java/lang/invoke/VarHandle" ∧ (parseMethodDescriptor y.desc).map (fun d => d.parameters.length) = some n) (hn : av.length = n) (hR : fr + 1 ≤ R.frames ∧ 8 + (nLy + 11) + lc ≤ R.locals) (hst : st = av.reverse ++ rest) (hro : (rest.map fun v => v.category).sum ≤ 8) (d : decode cc pc = .ok (.invokestatic index, 3)) (hf : cells + mc ≤ R.cells ∧ slots + ms ≤ R.slots) : xk_R p l e R s m args below meth c E nL cells slots mc ms pc lv st rest w Qc := by
  intro H locs ls hH hS hl
  exact ⟨_, va_runSN (As := av) (rest := rest) (nL := nL) ⟨hC.1, hC.2.1, hC.2.2.1, hC.2.2.2.1, hC.2.2.2.2.1⟩ hM ⟨va_cnB n hC.2.2.2.2.1 (xk_gb h5) rfl rfl rfl h1 (hC.2.2.2.2.1 _ h4) hd hR, hC.2.2.2.2.1 _ h2, trivial⟩ ⟨xk_blind, fun U hU hW => ⟨rfl, by rw [hU]; exact hH, hC.2.2.2.2.2.2.warm hS hW hU⟩⟩ rfl hn hl.1 hst (lv_room hro) d hf⟩
theorem xk_callI (hC : xk_C p s m args meth c E cc own nL) {y : MethodName} {b : ByteArray} {nLy : Nat} {fr lc mc ms : Nat} {av : List Value} {rest : List Value} {Qc : Array Value → State → Outcome → State → Prop} (n : Nat) {a : Nat} (hM : xk_M l y b nLy none fr lc mc ms E (va_rf (some a) :: av) w Qc) (h1 : Cond.methodLink own index y ∈ xk_T) (h2 : Cond.instanceMethod y ∈ xk_T) (h4 : Cond.initialized y.cls ∈ xk_T) (h5 : Cond.code y b nLy none ∈ xk_T) (hy : y.name = "<init>") (hd : y.cls ≠ "java/lang/invoke/MethodHandle" ∧ y.cls ≠ "java/lang/invoke/VarHandle" ∧ (parseMethodDescriptor y.desc).map (fun d => d.parameters.length) = some n) (hn : av.length = n) (hR : fr + 1 ≤ R.frames ∧ 8 + (nLy + 11) + lc ≤ R.locals) (hst : st = av.reverse ++ va_rf (some a) :: rest) (hro : (rest.map fun v => v.category).sum ≤ 8) (d : decode cc pc = .ok (.invokespecial index, 3)) (hf : cells + mc ≤ R.cells ∧ slots + ms ≤ R.slots) : xk_R p l e R s m args below meth c E nL cells slots mc ms pc lv st rest w Qc := by
  intro H locs ls hH hS hl
  exact ⟨_, va_runI (As := av) (rest := rest) (b := a) (nL := nL) ⟨hC.1, hC.2.1, hC.2.2.1, hC.2.2.2.1, hC.2.2.2.2.1⟩ hM (cwI n hC.2.2.2.2.1 (xk_gb h5) rfl rfl rfl (hC.2.2.2.2.1 _ h4) (hC.2.2.2.2.1 _ h1) (hC.2.2.2.2.1 _ h2) hy hd hR) ⟨xk_blind, fun U hU hW => ⟨rfl, by rw [hU]; exact hH, hC.2.2.2.2.2.2.warm hS hW hU⟩⟩ rfl hn hl.1 hst (lv_room hro) d hf⟩
theorem xk_sub {H H1 : Heap} {z0 : Nat} : ∀ q, q < H.size → xk_A z0 q → xk_A z0 q := fun _ _ h => h
theorem xk_backi {rest : List Value} {mc ms : Nat} {q : Int32 × xWd} (h : xk_R p l e R s m args below meth c E nL cells slots mc ms pc lv st rest w (xk_Qi E q)) (kk : xk_X p l e R s m args below meth c Q E nL (cells + mc) (slots + ms) (pc + 3) lv (.int q.1 :: rest) q.2) : xk_X p l e R s m args below meth c Q E nL cells slots pc lv st w := by
  intro H locs ls hH hS hl
  obtain ⟨a, hr⟩ := h H locs ls hH hS hl
  refine va_calli hr hS (fun _ _ h => h) (fun _ h => h) (fun r u t H1 locs1 ht hvm hp hB hz hk hS1 => ?_)
  have hp : r = q.1 := hp
  have hB : xk_H E q.2 t.heap := hB
  rw [ht] at hB
  subst hp
  exact kk H1 locs1 ls hB hS1 hl
theorem xk_backl {rest : List Value} {mc ms : Nat} {q : Int64 × xWd} (h : xk_R p l e R s m args below meth c E nL cells slots mc ms pc lv st rest w (xk_Ql E q)) (kk : xk_X p l e R s m args below meth c Q E nL (cells + mc) (slots + ms) (pc + 3) lv (.long q.1 :: rest) q.2) : xk_X p l e R s m args below meth c Q E nL cells slots pc lv st w := by
  intro H locs ls hH hS hl
  obtain ⟨a, hr⟩ := h H locs ls hH hS hl
  refine va_calll hr hS (fun _ _ h => h) (fun _ h => h) (fun r u t H1 locs1 ht hvm hp hB hz hk hS1 => ?_)
  have hp : r = q.1 := hp
  have hB : xk_H E q.2 t.heap := hB
  rw [ht] at hB
  subst hp
  exact kk H1 locs1 ls hB hS1 hl
theorem xk_backd {rest : List Value} {mc ms : Nat} {q : UInt64 × xWd} (h : xk_R p l e R s m args below meth c E nL cells slots mc ms pc lv st rest w (xk_Qd E q)) (kk : xk_X p l e R s m args below meth c Q E nL (cells + mc) (slots + ms) (pc + 3) lv (.double q.1 :: rest) q.2) : xk_X p l e R s m args below meth c Q E nL cells slots pc lv st w := by
  intro H locs ls hH hS hl
  obtain ⟨a, hr⟩ := h H locs ls hH hS hl
  refine va_calld hr hS (fun _ _ h => h) (fun _ h => h) (fun r u t H1 locs1 ht hvm hp hB hz hk hS1 => ?_)
  have hp : r = q.1 := hp
  have hB : xk_H E q.2 t.heap := hB
  rw [ht] at hB
  subst hp
  exact kk H1 locs1 ls hB hS1 hl
theorem xk_backq {rest : List Value} {mc ms : Nat} {q : Option Nat × xWd} (h : xk_R p l e R s m args below meth c E nL cells slots mc ms pc lv st rest w (xk_Qq E q)) (kk : xk_X p l e R s m args below meth c Q E nL (cells + mc) (slots + ms) (pc + 3) lv (va_rf q.1 :: rest) q.2) : xk_X p l e R s m args below meth c Q E nL cells slots pc lv st w := by
  intro H locs ls hH hS hl
  obtain ⟨a, hr⟩ := h H locs ls hH hS hl
  refine va_callq hr hS (fun _ _ h => h) (fun _ h => h) (fun r u t H1 locs1 ht hvm hp hB hz hk hS1 => ?_)
  have hp : r = q.1 := hp
  have hB : xk_H E q.2 t.heap := hB
  rw [ht] at hB
  subst hp
  exact kk H1 locs1 ls hB hS1 hl
theorem xk_backv {rest : List Value} {mc ms : Nat} {q : xWd} (h : xk_R p l e R s m args below meth c E nL cells slots mc ms pc lv st rest w (xk_Qv E q)) (kk : xk_X p l e R s m args below meth c Q E nL (cells + mc) (slots + ms) (pc + 3) lv rest q) : xk_X p l e R s m args below meth c Q E nL cells slots pc lv st w := by
  intro H locs ls hH hS hl
  obtain ⟨a, hr⟩ := h H locs ls hH hS hl
  refine va_callv hr hS (fun _ _ h => h) (fun _ h => h) (fun u t H1 locs1 ht hvm hp hB hz hk hS1 => ?_)
  have hB : xk_H E q t.heap := hB
  rw [ht] at hB
  exact kk H1 locs1 ls hB hS1 hl
theorem xk_objI (hC : xk_C p s m args meth c E cc own nL) (h1 : Cond.methodLink own index Lib.objectInit ∈ xk_T) (h2 : Cond.instanceMethod Lib.objectInit ∈ xk_T) (h3 : Cond.code Lib.objectInit ⟨#[0xb1]⟩ 1 none ∈ xk_T) {a : Nat} (d : decode cc pc = .ok (.invokespecial index, 3)) (hf : 1 ≤ R.frames) (hlo : (st.map fun v => v.category).sum + 12 ≤ R.locals) (kk : xk_X p l e R s m args below meth c Q E nL cells slots (pc + 3) lv st w) : xk_X p l e R s m args below meth c Q E nL cells slots pc lv (va_rf (some a) :: st) w := fun H locs ls hH hS hl => W.objInit hC.1 hC.2.1 hC.2.2.2.1 (hC.2.2.2.2.1 _ h1) (hC.2.2.2.2.1 _ h2) (hC.2.2.2.2.1 _ h3) rfl (hl.1.trans hC.2.2.1.symm) (rest := st) (a := a) rfl d hf (by show 2 * 0 + _ + 12 ≤ _; omega) (kk H locs ls hH hS hl)
/-- the law's end -/
theorem xk_lawret {s0 : State} {b : Nat} {v : Int32} (hC : xk_C p (s0.setDrawn s0.drawn) m #[Value.ref b] meth c E code "ClickbookLaw" nL) (hr : meth.sig.returnType = ret) (hz : E.2.2.1 = s0.heap.size) (hv : v = 1) (h1 : cells ≤ 600002) (h2 : slots ≤ 7302232) (d : decode code pc = .ok (.ireturn, 1)) : xk_X p l e room_1 (s0.setDrawn s0.drawn) m #[Value.ref b] below meth c (lw_Z below #[Value.ref b] s0) E nL cells slots pc lv [.int v] w := by
  intro H locs ls hH hS hl
  subst hv
  refine va_forget (fun q hq => ?_) ?_
  · have h := hS.2.2 q hq
    show s0.heap.size ≤ q.base
    rw [← hz]
    exact h
  refine W.widen h1 h2 ?_
  exact lw_ret (Drawn.sameBut.refl s0.drawn lw_cs) hC.1 hC.2.1 hr hC.2.2.2.2.2.1 d
end XR
