/-! small guards of the functions, and what stands behind them -/
def xk_nz (y : Int32) : Option Unit := if y = 0 then none else some ()
theorem xk_nz_e {y : Int32} {u : Unit} (h : xk_nz y = some u) : ¬ y = 0 := by
  unfold xk_nz at h
  split at h
  · cases h
  · assumption
def xk_nn (x : UInt64) : Option Unit := if x &&& 0x7fffffffffffffff ≤ 0x7ff0000000000000 then some () else none
theorem xk_nn_e {x : UInt64} {u : Unit} (h : xk_nn x = some u) : vf_n64 x := by
  unfold xk_nn at h
  split at h
  · assumption
  · cases h
def xk_zb (x : Int32) : Option Unit := if x = 0 ∨ x = 1 then some () else none
theorem xk_zb_e {x : Int32} {u : Unit} (h : xk_zb x = some u) : narrow .boolean (.int x) = .int x := by
  unfold xk_zb at h
  split at h
  · rename_i q
    rcases q with rfl | rfl <;> rfl
  · cases h
def xk_any (w : xWd) (v : Option Nat) : Option Unit := match v with
  | none => some ()
  | some a => match w.1 a with
    | some (.inr _) => some ()
    | _ => none
theorem xk_any_e {w : xWd} {v : Option Nat} {u : Unit} (h : xk_any w v = some u) : v = none ∨ ∃ ci fs, xk_obj w v ci = some fs := by
  cases v with
  | none => exact Or.inl rfl
  | some a =>
    simp only [xk_any] at h
    split at h
    · rename_i o ho
      exact Or.inr ⟨o.1, o.2, by simp [xk_obj, ho]⟩
    · cases h
theorem xk_swo (x : Int32) (lo hi : Int) (h : ∀ v : Int, lo ≤ v → v ≤ hi → x.toInt = v → False) : x.toInt < lo ∨ hi < x.toInt := by
  by_cases h1 : x.toInt < lo
  · exact Or.inl h1
  · by_cases h2 : hi < x.toInt
    · exact Or.inr h2
    · exact (h _ (by omega) (by omega) rfl).elim
def xk_ar2 (w : xWd) (r : Option Nat) : Option Unit := (xk_arr w r).bind fun z => if z.1 = 2 then some () else none
/-- the places sp to sp + n of a row hold objects of ours, or null -/
def xk_els (w : xWd) (f : Nat → Option Nat) (sp n : Nat) : Bool := (List.range n).all fun i => (xk_any w (f (sp + i))).isSome
def xk_cpy (w : xWd) (src : Option Nat) (sp : Int32) (dst : Option Nat) (dp n : Int32) : Option xWd := match dst with
  | none => none
  | some a => (xk_arr w src).bind fun z0 => (xk_arr w (some a)).bind fun z1 => match z0, z1 with
    | (k0, n0, .inr (.inr (.inr (.inr f)))), (k1, n1, .inr (.inr (.inr (.inr g)))) =>
      if k0 = 2 ∧ k1 = 2 ∧ ¬ sp < 0 ∧ ¬ dp < 0 ∧ ¬ n < 0 ∧ sp.toNatClampNeg + n.toNatClampNeg ≤ n0 ∧ dp.toNatClampNeg + n.toNatClampNeg ≤ n1 ∧ xk_els w f sp.toNatClampNeg n.toNatClampNeg = true then
        some (va_up w.1 a (some (.inl (2, n1, .inr (.inr (.inr (.inr (va_cpy f g sp.toNatClampNeg dp.toNatClampNeg n.toNatClampNeg))))))), w.2) else none
    | _, _ => none
theorem xk_cpy_e {w w1 : xWd} {src dst : Option Nat} {sp dp n : Int32} (h : xk_cpy w src sp dst dp n = some w1) : ∃ a0 a n0 n1 f g, src = some a0 ∧ dst = some a ∧ w.1 a0 = some (.inl (2, n0, .inr (.inr (.inr (.inr f))))) ∧ w.1 a = some (.inl (2, n1, .inr (.inr (.inr (.inr g))))) ∧ ¬ sp < 0 ∧ ¬ dp < 0 ∧ ¬ n < 0 ∧ sp.toNatClampNeg + n.toNatClampNeg ≤ n0 ∧ dp.toNatClampNeg + n.toNatClampNeg ≤ n1 ∧ xk_els w f sp.toNatClampNeg n.toNatClampNeg = true ∧ w1 = (va_up w.1 a (some (.inl (2, n1, .inr (.inr (.inr (.inr (va_cpy f g sp.toNatClampNeg dp.toNatClampNeg n.toNatClampNeg))))))), w.2) := by
  cases dst with
  | none => cases h
  | some a =>
    obtain ⟨z0, h1, h⟩ := xk_bi h
    obtain ⟨z1, h2, h⟩ := xk_bi h
    obtain ⟨a0, e0, m0⟩ := xk_arr_e h1
    obtain ⟨a1, e1, m1⟩ := xk_arr_e h2
    cases e1
    split at h
    · rename_i k0 n0 f k1 n1 g _
      split at h
      · rename_i hc
        obtain ⟨c1, c2, c3, c4, c5, c6, c7, c8⟩ := hc
        cases h
        exact ⟨a0, a, n0, n1, f, g, e0, rfl, by rw [m0, c1], by rw [m1, c2], c3, c4, c5, c6, c7, c8, rfl⟩
      · cases h
    · cases h
theorem xk_nfw : nativeFrameWords "java/lang/System" "arraycopy" 5 ≤ 20 := by decide
section XH
variable {p : Program} {l : Launch} {e : Env} {R : Room} {s : State} {m : MethodId} {args : Array Value} {below : List Frame} {meth : Method} {c : Code} {Q : State → Prop}
variable {E : xEv} {cc : ByteArray} {own : String} {nL cells slots pc : Nat} {lv lv' : List (Nat × Value)} {st : List Value} {w w1 : xWd}
variable {C ref : String} {T : u_T} {N ci index : Nat} {r : Option Nat}
theorem xk_newH (hC : xk_C p s m args meth c E cc own nL) (hi : ∀ x ∈ u_ws C T N, x ∈ xk_T) (hc : xk_cl[ci]? = some (C, T, N)) {ty0 : Nat → FieldType} (hty : ∀ k, k < N → parseFieldDescriptor (T k).2.2.1 = some (ty0 k)) (hcl : Cond.classLink own index C ∈ xk_T) (hinst : Cond.instantiable C N ∈ xk_T) (hini : Cond.initialized C ∈ xk_T) {fs : List Value} (hfs : ∀ j, j < N → defaultValue (ty0 j) = vp_V fs j) (hcells : cells + 1 ≤ R.cells) (hslots : slots + N ≤ R.slots) (d : decode cc pc = .ok (.new index, 3)) (h : some (xk_nw w ci fs) = some w1)
    (kk : xk_X p l e R s m args below meth c Q E nL (cells + 1) (slots + N) (pc + 3) lv (va_rf (some w.2.1) :: st) w1) : xk_X p l e R s m args below meth c Q E nL cells slots pc lv st w := by
  cases h
  exact xk_new hC hi hc hty hcl hinst hini hfs hcells hslots d kk
theorem xk_ifnonnull (hC : xk_C p s m args meth c E cc own nL) {off : Int} {tgt : Nat} (d : decode cc pc = .ok (.ifnonnull off, 3)) (ht : (pc : Int) + off = (tgt : Int)) (kt : ¬ r = none → xk_X p l e R s m args below meth c Q E nL cells slots tgt lv st w) (kf : r = none → xk_X p l e R s m args below meth c Q E nL cells slots (pc + 3) lv st w) : xk_X p l e R s m args below meth c Q E nL cells slots pc lv (va_rf r :: st) w := by
  intro H locs ls hH hS hl
  cases r with
  | none => exact lv_ifnonnullN hC.1 hC.2.1 d (kf rfl H locs ls hH hS hl)
  | some a => exact lv_ifnonnull (tgt := tgt) hC.1 hC.2.1 d ht (kt (fun h => by cases h) H locs ls hH hS hl)
theorem xk_ifnull (hC : xk_C p s m args meth c E cc own nL) {off : Int} {tgt : Nat} (d : decode cc pc = .ok (.ifnull off, 3)) (ht : (pc : Int) + off = (tgt : Int)) (kt : r = none → xk_X p l e R s m args below meth c Q E nL cells slots tgt lv st w) (kf : ¬ r = none → xk_X p l e R s m args below meth c Q E nL cells slots (pc + 3) lv st w) : xk_X p l e R s m args below meth c Q E nL cells slots pc lv (va_rf r :: st) w := by
  intro H locs ls hH hS hl
  cases r with
  | none => exact lv_ifnullN (tgt := tgt) hC.1 hC.2.1 d ht (kt rfl H locs ls hH hS hl)
  | some a => exact lv_ifnull hC.1 hC.2.1 d (kf (fun h => by cases h) H locs ls hH hS hl)
theorem xk_getC (hC : xk_C p s m args meth c E cc own nL) (hw : Cond.methodLink own index ⟨"java/lang/Object", "getClass", "()Ljava/lang/Class;"⟩ ∈ xk_T) (hdecl : va_Nw (.declares ⟨"java/lang/Object", "getClass", "()Ljava/lang/Class;"⟩) s) (hsel : Cond.selects "[Ljava/lang/Object;" ⟨"java/lang/Object", "getClass", "()Ljava/lang/Class;"⟩ ⟨"java/lang/Object", "getClass", "()Ljava/lang/Class;"⟩ ∈ xk_T) (hinst : Cond.instanceMethod ⟨"java/lang/Object", "getClass", "()Ljava/lang/Class;"⟩ ∈ xk_T) (hnat : Cond.native ⟨"java/lang/Object", "getClass", "()Ljava/lang/Class;"⟩ ∈ xk_T) (hf : 1 ≤ R.frames) (hlo : (st.map fun v => v.category).sum + 14 ≤ R.locals) (d : decode cc pc = .ok (.invokevirtual index, 3)) {u : Unit} (h : xk_ar2 w r = some u)
    (kk : xk_X p l e R s m args below meth c Q E nL cells slots (pc + 3) lv (va_rf (some w.2.2.2) :: st) w) : xk_X p l e R s m args below meth c Q E nL cells slots pc lv (va_rf r :: st) w := by
  intro H locs ls hH hS hl
  obtain ⟨z, h1, h2⟩ := xk_bi h
  obtain ⟨a, rfl, hm⟩ := xk_arr_e h1
  by_cases hz : z.1 = 2
  · have hat := hH.at hm (fun q => by have q : (z.1 == 3 || z.1 == 4) = true := q; rw [hz] at q; cases q)
    have k2 := kk H locs ls hH hS hl
    rw [hH.2.2.1.2] at k2
    obtain ⟨kA, comp, r1, r2, r3, r4⟩ := (hC.2.2.2.2.2.2.2.1.2 2 (E.2.1 2, .object "java/lang/Object") rfl).2
    refine va_getC (C := "[Ljava/lang/Object;") hC.1 hC.2.1 (hC.2.2.1.trans hl.1.symm) hC.2.2.2.1 (hC.2.2.2.2.1 _ hw) (va_Nw.use rfl hdecl) (hC.2.2.2.2.1 _ hsel) (hC.2.2.2.2.1 _ hinst) (hC.2.2.2.2.1 _ hnat) hC.2.2.2.2.2.2.2.2.2.1.2.2.1 ⟨vp_cell (E.2.1 z.1) z.2, hat, ?_, ?_⟩ hf hlo d k2
    · obtain ⟨k, n, dd⟩ := z
      rcases dd with f | f | f | f | f <;> rfl
    · rw [hz]
      obtain ⟨k, n, dd⟩ := z
      have e : (vp_cell (E.2.1 2) (n, dd)).cls = E.2.1 2 := by rcases dd with f | f | f | f | f <;> rfl
      show s.vm.findClass "[Ljava/lang/Object;" = some (vp_cell (E.2.1 2) (n, dd)).cls
      rw [e]
      exact r4
  · rw [if_neg hz] at h2
    cases h2
theorem xk_ldcM (hC : xk_C p s m args meth c E cc own nL) (hw : Cond.classLink own index "[Ljava/lang/Object;" ∈ xk_T) (d : decode cc pc = .ok (.ldc index, 2)) (kk : xk_X p l e R s m args below meth c Q E nL cells slots (pc + 2) lv (va_rf (some w.2.2.2) :: st) w) : xk_X p l e R s m args below meth c Q E nL cells slots pc lv st w := by
  intro H locs ls hH hS hl
  have k2 := kk H locs ls hH hS hl
  rw [hH.2.2.1.2] at k2
  exact va_ldcM hC.1 hC.2.1 hC.2.2.2.1 (hC.2.2.2.2.1 _ hw) hC.2.2.2.2.2.2.2.2.2.1.2.2.1 d k2
theorem xk_acpy (hC : xk_C p s m args meth c E cc own nL) (hca : ∀ (ci : Nat) (q : vw_C), xk_cl[ci]? = some q → va_Nw (.castable q.1 "java/lang/Object") s) (hw : Cond.methodLink own index arraycopyName ∈ xk_T) (hnat : Cond.native arraycopyName ∈ xk_T) (hstat : Cond.static arraycopyName ∈ xk_T) (hini : Cond.initialized "java/lang/System" ∈ xk_T) (hframes : 1 ≤ R.frames) (hlo : (st.map fun v => v.category).sum + 31 ≤ R.locals) {src dst : Option Nat} {sp dp n : Int32} (d : decode cc pc = .ok (.invokestatic index, 3)) (h : xk_cpy w src sp dst dp n = some w1)
    (kk : xk_X p l e R s m args below meth c Q E nL cells slots (pc + 3) lv st w1) : xk_X p l e R s m args below meth c Q E nL cells slots pc lv (.int n :: .int dp :: va_rf dst :: .int sp :: va_rf src :: st) w := by
  intro H locs ls hH hS hl
  obtain ⟨a0, a, n0, n1, f, g, rfl, rfl, m0, m1, h1, h2, h3, h4, h5, h6, rfl⟩ := xk_cpy_e h
  have nn : ∀ z : Int32, ¬ z < 0 → z.toInt = (z.toNatClampNeg : Int) := by
    intro z hz
    have hz0 : (0 : Int) ≤ z.toInt := by
      have := Int32.not_lt.mp hz
      simpa using Int32.le_iff_toInt_le.mp this
    show z.toInt = ((z.toInt.toNat : Nat) : Int)
    omega
  have hel : ∀ i : Nat, i < n.toNatClampNeg → ∀ y : Nat, f (sp.toNatClampNeg + i) = some y → ∃ ci fs, w.1 y = some (.inr (ci, fs)) := by
    intro i hi y hy
    have q := List.all_eq_true.mp h6 i (List.mem_range.mpr hi)
    rw [hy] at q
    obtain ⟨u, hu⟩ := Option.isSome_iff_exists.mp q
    rcases xk_any_e hu with q2 | ⟨ci, fs, q2⟩
    · cases q2
    · obtain ⟨a', e1, e2⟩ := xk_obj_e q2
      cases e1
      exact ⟨ci, fs, e2⟩
  have hK := hC.2.2.2.2.2.2.2.1
  have ht : (xk_tys E.2.1)[2]? = some (E.2.1 2, .object "java/lang/Object") := rfl
  have ha : E.2.2.1 ≤ a := hH.ow m1 (fun h => Bool.noConfusion h)
  intro T hT X
  have hc0 : H[a0]? = some (vp_cell (E.2.1 2) (n0, .inr (.inr (.inr (.inr f))))) := hH.at m0 (fun h => Bool.noConfusion h)
  have hc1 : H[a]? = some (vp_cell (E.2.1 2) (n1, .inr (.inr (.inr (.inr g))))) := hH.at m1 (fun h => Bool.noConfusion h)
  obtain ⟨-, k0, hk0, cm0, hkk0⟩ := (hK.2 2 _ ht).1 n0 (fun j => va_rf (f j))
  obtain ⟨-, k1, hk1, cm1, hkk1⟩ := (hK.2 2 _ ht).1 n1 (fun j => va_rf (g j))
  have hlo2 := xk_nfw
  obtain ⟨vm', X', step⟩ := X.arraycopy hC.1 hC.2.2.2.1 (hC.2.2.2.2.1 _ hw) (hC.2.2.2.2.1 _ hnat) (hC.2.2.2.2.1 _ hstat) (hC.2.2.2.2.1 _ hini) (src := a0) (dst := a) (cs := vp_cell (E.2.1 2) (n0, .inr (.inr (.inr (.inr f))))) (cd := vp_cell (E.2.1 2) (n1, .inr (.inr (.inr (.inr g))))) (srcPos := sp) (destPos := dp) (n := n) (by rw [hT]; exact hc0) (by rw [hT]; exact hc1)
    (fun _ h => by cases h) (fun _ h => by cases h) (fun h => by cases h) (fun h => by cases h) hk0 hk1 hkk0 hkk1 rfl h1 h2 h3
    (by rw [nn sp h1, nn n h3]; show ¬ _ > ((arrV (E.2.1 2) n0 (fun j => va_rf (f j))).slots.size : Int); rw [arrV_size]; omega)
    (by rw [nn dp h2, nn n h3]; show ¬ _ > ((arrV (E.2.1 2) n1 (fun j => va_rf (g j))).slots.size : Int); rw [arrV_size]; omega)
    (fun vm₁ hal i hi => by
      have e : (vp_cell (E.2.1 2) (n0, .inr (.inr (.inr (.inr f))))).slots.getD (sp.toNatClampNeg + i) .null = va_rf (f (sp.toNatClampNeg + i)) := by
        show (arrV (E.2.1 2) n0 (fun j => va_rf (f j))).slots.getD _ _ = _
        rw [Array.getD_eq_getD_getElem?, arrV_read _ _ (by omega)]
        rfl
      rw [e]
      cases hy : f (sp.toNatClampNeg + i) with
      | none => exact ⟨rfl, trivial⟩
      | some y =>
        obtain ⟨ci, fs, my⟩ := hel i hi y hy
        obtain ⟨q, hq, cellV, g1, g2, g3, -⟩ := hH.at my (fun h => Bool.noConfusion h)
        have hcls := (hK.1 ci q hq).2
        obtain ⟨kA, comp, r1, r2, r3, -⟩ := (hK.2 2 _ ht).2
        cases hk1.symm.trans r1
        cases hkk1.symm.trans r2
        obtain ⟨c0, t1, f1, f2, f3⟩ := Cond.castable_spec (va_Nw.use (A := args) rfl (hca ci q hq))
        cases hcls.1.symm.trans f1
        cases r3.symm.trans f2
        obtain ⟨kC, hkC, -⟩ := hcls.2
        obtain ⟨kE, hkE, -⟩ := Vm.findClass_spec r3
        obtain ⟨kC', hkC', -⟩ := hal.2.2 _ _ hkC
        obtain ⟨kE', hkE', -⟩ := hal.2.2 _ _ hkE
        refine ⟨rfl, cellV, (show T.heap[y]? = some cellV by rw [hT]; exact g1), (fun q h => by rw [g3] at h; cases h), ⟨kC', by rw [g2]; exact hkC'⟩, ?_, ?_⟩
        · exact ⟨kE', hkE'⟩
        · show vm₁.assignable _ _ = true
          rw [hal.assignable, g2]
          exact f3)
    (g := F0 m pc ls (.int n :: .int dp :: .ref a :: .int sp :: .ref a0 :: st)) rfl (by rw [hC.2.2.1]; exact hl.1) (rest := st) rfl (by rw [hC.2.1]; exact d) hframes (by show 2 * 0 + _ + _ ≤ _; omega)
  have e1 : copied (vp_cell (E.2.1 2) (n0, .inr (.inr (.inr (.inr f))))) (vp_cell (E.2.1 2) (n1, .inr (.inr (.inr (.inr g))))) sp dp n = vp_cell (E.2.1 2) (n1, .inr (.inr (.inr (.inr (va_cpy f g sp.toNatClampNeg dp.toNatClampNeg n.toNatClampNeg))))) := by
    rw [vp_cell_q, vp_cell_q, vp_cell_q]
    exact va_copied (fun z => va_rf z) (E.2.1 2) (E.2.1 2) f g h4
  rw [e1] at X' step
  have hl2 : a < H.size := (Array.getElem?_eq_some_iff.mp hc1).1
  have hheap : ((T.setVm vm').setCell a (vp_cell (E.2.1 2) (n1, .inr (.inr (.inr (.inr (va_cpy f g sp.toNatClampNeg dp.toNatClampNeg n.toNatClampNeg))))))).heap = H.setIfInBounds a (vp_cell (E.2.1 2) (n1, .inr (.inr (.inr (.inr (va_cpy f g sp.toNatClampNeg dp.toNatClampNeg n.toNatClampNeg)))))) := by rw [← hT]; rfl
  have oq : ∀ q : Nat, q ≠ a → (H.setIfInBounds a (vp_cell (E.2.1 2) (n1, .inr (.inr (.inr (.inr (va_cpy f g sp.toNatClampNeg dp.toNatClampNeg n.toNatClampNeg)))))))[q]? = H[q]? := fun q hq => by simp [Array.getElem?_setIfInBounds, Ne.symm hq]
  obtain ⟨t, a1, b1⟩ := kk _ _ ls (hH.setp ha (z := .inl (2, n1, .inr (.inr (.inr (.inr (va_cpy f g sp.toNatClampNeg dp.toNatClampNeg n.toNatClampNeg)))))) (fun h => Bool.noConfusion h) (show (H.setIfInBounds a _)[a]? = some _ by simp [Array.getElem?_setIfInBounds, hl2]) (by simp) oq) ⟨by simp; exact hS.1, fun q g1 g2 => by
      rw [oq q (fun e => g2 (by rw [e]; exact ha))]
      exact hS.2.1 q g1 g2, fun q hq => by
      rcases List.mem_append.mp hq with h | h
      · exact hS.2.2 q h
      · obtain ⟨z, -, hz⟩ := List.mem_map.mp h
        rw [← hz]
        exact ha⟩ hl _ hheap X'
  exact ⟨t, step t a1, b1⟩
end XH
def xf_0 : List Value := [.null, .null, .int 0, .null, .null, .int 0, .int 0, .int 0, .int 0, .int 0, .null, .null, .null]
theorem xfo_0 : ∀ j, j < 13 → defaultValue (xt_0 j) = vp_V xf_0 j := by
  intro j hj
  rcases (show j = 0 ∨ j = 1 ∨ j = 2 ∨ j = 3 ∨ j = 4 ∨ j = 5 ∨ j = 6 ∨ j = 7 ∨ j = 8 ∨ j = 9 ∨ j = 10 ∨ j = 11 ∨ j = 12 by omega) with rfl | rfl | rfl | rfl | rfl | rfl | rfl | rfl | rfl | rfl | rfl | rfl | rfl <;> rfl
def xf_1 : List Value := [.int 0, .int 0, .int 0, .int 0, .int 0, .int 0, .int 0, .int 0, .null, .null, .int 0, .int 0, .null]
theorem xfo_1 : ∀ j, j < 13 → defaultValue (xt_1 j) = vp_V xf_1 j := by
  intro j hj
  rcases (show j = 0 ∨ j = 1 ∨ j = 2 ∨ j = 3 ∨ j = 4 ∨ j = 5 ∨ j = 6 ∨ j = 7 ∨ j = 8 ∨ j = 9 ∨ j = 10 ∨ j = 11 ∨ j = 12 by omega) with rfl | rfl | rfl | rfl | rfl | rfl | rfl | rfl | rfl | rfl | rfl | rfl | rfl <;> rfl
def xf_2 : List Value := [.int 0, .int 0, .int 0]
theorem xfo_2 : ∀ j, j < 3 → defaultValue (xt_2 j) = vp_V xf_2 j := by
  intro j hj
  rcases (show j = 0 ∨ j = 1 ∨ j = 2 by omega) with rfl | rfl | rfl <;> rfl
def xf_3 : List Value := [.null, .int 0, .null]
theorem xfo_3 : ∀ j, j < 3 → defaultValue (xt_3 j) = vp_V xf_3 j := by
  intro j hj
  rcases (show j = 0 ∨ j = 1 ∨ j = 2 by omega) with rfl | rfl | rfl <;> rfl
def xf_4 : List Value := [.int 0, .null, .int 0, .int 0, .int 0]
theorem xfo_4 : ∀ j, j < 5 → defaultValue (xt_4 j) = vp_V xf_4 j := by
  intro j hj
  rcases (show j = 0 ∨ j = 1 ∨ j = 2 ∨ j = 3 ∨ j = 4 by omega) with rfl | rfl | rfl | rfl | rfl <;> rfl
def xf_5 : List Value := [.int 0, .null, .int 0]
theorem xfo_5 : ∀ j, j < 3 → defaultValue (xt_5 j) = vp_V xf_5 j := by
  intro j hj
  rcases (show j = 0 ∨ j = 1 ∨ j = 2 by omega) with rfl | rfl | rfl <;> rfl
theorem xk_over {p : Program} {s : State} {m : MethodId} {args : Array Value} {meth : Method} {c : Code} {E : xEv} {cc : ByteArray} {own : String} {nL : Nat} (hC : xk_C p s m args meth c E cc own nL) : va_AO "java/lang/Object" s := hC.2.2.2.2.2.2.2.2.2.2.1
theorem xk_note1 {p : Program} {s : State} {m : MethodId} {args : Array Value} {meth : Method} {c : Code} {E : xEv} {cc : ByteArray} {own : String} {nL : Nat} (hC : xk_C p s m args meth c E cc own nL) : va_Nw (Cond.methodLinkNest "Clickbook$Cue" 57 ⟨"Clickbook", "roundedUp", "(II)I"⟩ "Clickbook") s := hC.2.2.2.2.2.2.2.2.2.2.2.1
theorem xk_note2 {p : Program} {s : State} {m : MethodId} {args : Array Value} {meth : Method} {c : Code} {E : xEv} {cc : ByteArray} {own : String} {nL : Nat} (hC : xk_C p s m args meth c E cc own nL) : va_Nw (Cond.methodLinkNest "Clickbook$Hit" 20 ⟨"Clickbook", "isTakenOut", "(III)Z"⟩ "Clickbook") s := hC.2.2.2.2.2.2.2.2.2.2.2.2.1
theorem xk_note3 {p : Program} {s : State} {m : MethodId} {args : Array Value} {meth : Method} {c : Code} {E : xEv} {cc : ByteArray} {own : String} {nL : Nat} (hC : xk_C p s m args meth c E cc own nL) : va_Nw (Cond.methodLinkNest "Clickbook$Hit" 26 ⟨"Clickbook", "movedFrame", "(III)I"⟩ "Clickbook") s := hC.2.2.2.2.2.2.2.2.2.2.2.2.2.1
theorem xk_note4 {p : Program} {s : State} {m : MethodId} {args : Array Value} {meth : Method} {c : Code} {E : xEv} {cc : ByteArray} {own : String} {nL : Nat} (hC : xk_C p s m args meth c E cc own nL) : va_Nw (Cond.castable "Clickbook" "java/lang/Object") s := hC.2.2.2.2.2.2.2.2.2.2.2.2.2.2.1
theorem xk_note5 {p : Program} {s : State} {m : MethodId} {args : Array Value} {meth : Method} {c : Code} {E : xEv} {cc : ByteArray} {own : String} {nL : Nat} (hC : xk_C p s m args meth c E cc own nL) : va_Nw (Cond.castable "java/util/ArrayList" "java/lang/Object") s := hC.2.2.2.2.2.2.2.2.2.2.2.2.2.2.2.1
theorem xk_note6 {p : Program} {s : State} {m : MethodId} {args : Array Value} {meth : Method} {c : Code} {E : xEv} {cc : ByteArray} {own : String} {nL : Nat} (hC : xk_C p s m args meth c E cc own nL) : va_Nw (Cond.castable "Clickbook$JoinTable" "java/lang/Object") s := hC.2.2.2.2.2.2.2.2.2.2.2.2.2.2.2.2.1
theorem xk_note7 {p : Program} {s : State} {m : MethodId} {args : Array Value} {meth : Method} {c : Code} {E : xEv} {cc : ByteArray} {own : String} {nL : Nat} (hC : xk_C p s m args meth c E cc own nL) : va_Nw (Cond.castable "Clickbook$Hit" "java/lang/Object") s := hC.2.2.2.2.2.2.2.2.2.2.2.2.2.2.2.2.2.1
theorem xk_note8 {p : Program} {s : State} {m : MethodId} {args : Array Value} {meth : Method} {c : Code} {E : xEv} {cc : ByteArray} {own : String} {nL : Nat} (hC : xk_C p s m args meth c E cc own nL) : va_Nw (Cond.castable "Clickbook$Cue" "java/lang/Object") s := hC.2.2.2.2.2.2.2.2.2.2.2.2.2.2.2.2.2.2.1
theorem xk_note9 {p : Program} {s : State} {m : MethodId} {args : Array Value} {meth : Method} {c : Code} {E : xEv} {cc : ByteArray} {own : String} {nL : Nat} (hC : xk_C p s m args meth c E cc own nL) : va_Nw (Cond.castable "Clickbook$Take" "java/lang/Object") s := hC.2.2.2.2.2.2.2.2.2.2.2.2.2.2.2.2.2.2.2.1
theorem xk_note10 {p : Program} {s : State} {m : MethodId} {args : Array Value} {meth : Method} {c : Code} {E : xEv} {cc : ByteArray} {own : String} {nL : Nat} (hC : xk_C p s m args meth c E cc own nL) : va_Nw (Cond.declares ⟨"java/lang/Object", "getClass", "()Ljava/lang/Class;"⟩) s := hC.2.2.2.2.2.2.2.2.2.2.2.2.2.2.2.2.2.2.2.2
theorem xk_cas {p : Program} {s : State} {m : MethodId} {args : Array Value} {meth : Method} {c : Code} {E : xEv} {cc : ByteArray} {own : String} {nL : Nat} (hC : xk_C p s m args meth c E cc own nL) : ∀ (ci : Nat) (q : vw_C), xk_cl[ci]? = some q → va_Nw (.castable q.1 "java/lang/Object") s := fun ci q h => by
  match ci, h with
  | 0, h => cases h; exact xk_note4 hC
  | 1, h => cases h; exact xk_note8 hC
  | 2, h => cases h; exact xk_note7 hC
  | 3, h => cases h; exact xk_note6 hC
  | 4, h => cases h; exact xk_note9 hC
  | 5, h => cases h; exact xk_note5 hC
  | k + 6, h => simp [xk_cl] at h
