/-! THE WORLD AS A MAP: every cell that the run has made, by its address; rows over it. xk_T, xk_cl, xk_tys stand in the part ahead. -/
abbrev xE : Type := (Nat × vp_A) ⊕ (Nat × List Value)
/-- the cells, the next address, the address of the shared empty row, those of the cached Integers -/
abbrev xWd : Type := (Nat → Option xE) × Nat × Nat × (Nat → Nat)
def xk_toE (dA : Nat → ClassId) (z : xE) : va_E := match z with
  | .inl a => .inl (dA a.1, a.2)
  | .inr o => .inr o
/-- kinds 3 and 4 are old rows: the shared empty one, and the script; they are only read -/
def xk_scr (z : xE) : Bool := match z with
  | .inl a => a.1 == 3 || a.1 == 4
  | .inr _ => false
def xk_A (z0 : Nat) : Nat → Prop := fun q => z0 ≤ q
/-- what stays the same through a run: the classes' numbers, the rows' classes, the first address of ours, the shared empty row -/
abbrev xEv : Type := va_G × (Nat → ClassId) × Nat × Nat × (Nat → Nat) × Nat × Nat × (Nat → Int32)
def xk_H (E : xEv) (w : xWd) (H : Heap) : Prop := H.size = w.2.1 ∧ E.2.2.1 ≤ w.2.1 ∧ (w.2.2.1 = E.2.2.2.1 ∧ w.2.2.2 = E.2.2.2.2.1) ∧ ∀ a z, w.1 a = some z → (xk_scr z = true → (a = E.2.2.2.2.2.1 ∧ z = .inl (4, E.2.2.2.2.2.2.1, .inl E.2.2.2.2.2.2.2)) ∨ (a = E.2.2.2.1 ∧ z = .inl (3, 0, .inr (.inr (.inr (.inr (fun _ => none))))))) ∧ (¬ xk_scr z = true → va_at E.1 xk_cl (a, xk_toE E.2.1 z) H ∧ E.2.2.1 ≤ a)
theorem xk_H.at {E : xEv} {w : xWd} {H : Heap} {a : Nat} {z : xE} (h : xk_H E w H) (hm : w.1 a = some z) (hn : ¬ xk_scr z = true) : va_at E.1 xk_cl (a, xk_toE E.2.1 z) H := ((h.2.2.2 a z hm).2 hn).1
theorem xk_H.ow {E : xEv} {w : xWd} {H : Heap} {a : Nat} {z : xE} (h : xk_H E w H) (hm : w.1 a = some z) (hn : ¬ xk_scr z = true) : E.2.2.1 ≤ a := ((h.2.2.2 a z hm).2 hn).2
/-- old things that are only read: the statics of a throw, the cache of small Integers -/
def xk_J (E : xEv) (U : State) (H : Heap) : Prop := vx_Zq Bundle.tN "UNASSIGNED_STACK" Bundle.steD (xk_A E.2.2.1) U H ∧ vx_Zq Bundle.tN "SUPPRESSED_SENTINEL" Bundle.listD (xk_A E.2.2.1) U H ∧ va_Z "java/lang/Integer$IntegerCache" "high" "I" (.int 127) (xk_A E.2.2.1) U H ∧ (∃ tA : Nat, va_Z "java/lang/Integer$IntegerCache" "cache" "[Ljava/lang/Integer;" (.ref tA) (xk_A E.2.2.1) U H ∧ va_T (.object "java/lang/Integer") tA 256 (fun j => .ref (E.2.2.2.2.1 j)) (xk_A E.2.2.1) U H) ∧ ∀ k : Nat, k < 256 → va_O "java/lang/Integer" (E.2.2.2.2.1 k) (xk_A E.2.2.1) U H
theorem xk_J.moved {E : xEv} {u U : State} {H : Heap} (hvm : u.vm.Alike U.vm) (h : xk_J E u H) : xk_J E U H := by
  obtain ⟨h1, h2, h3, ⟨t, h4, h5⟩, h6⟩ := h
  exact ⟨h1.moved hvm, h2.moved hvm, va_Z.moved hvm h3, ⟨t, va_Z.moved hvm h4, va_T.moved hvm h5⟩, fun k hk => va_O.moved hvm (h6 k hk)⟩
theorem xk_J.kept {E : xEv} {U : State} {H H1 : Heap} (h : xk_J E U H) (hq : ∀ a : Nat, a < H.size → ¬ xk_A E.2.2.1 a → H1[a]? = H[a]?) : xk_J E U H1 := by
  obtain ⟨h1, h2, h3, ⟨t, h4, h5⟩, h6⟩ := h
  exact ⟨h1.kept hq, h2.kept hq, va_Z.kept h3 hq, ⟨t, va_Z.kept h4 hq, va_T.kept h5 hq⟩, fun k hk => (h6 k hk).kept hq⟩
def xk_S (E : xEv) (U : State) : Prop := E.2.2.1 ≤ U.heap.size ∧ va_K E.1 xk_cl (xk_tys E.2.1) U ∧ va_Z "java/util/ArrayList" "DEFAULTCAPACITY_EMPTY_ELEMENTDATA" "[Ljava/lang/Object;" (.ref E.2.2.2.1) (xk_A E.2.2.1) U U.heap ∧ (va_X E.2.2.2.2.2.1 E.2.2.2.2.2.2.1 E.2.2.2.2.2.2.2 U U.heap ∧ E.2.2.2.2.2.1 < E.2.2.1 ∧ xk_J E U U.heap ∧ va_T (.object "java/lang/Object") E.2.2.2.1 0 (fun _ => .null) (xk_A E.2.2.1) U U.heap) ∧ xk_N U
def xk_obj (w : xWd) (r : Option Nat) (ci : Nat) : Option (List Value) := match r with
  | none => none
  | some a => match w.1 a with
    | some (.inr o) => if o.1 = ci then some o.2 else none
    | _ => none
def xk_arr (w : xWd) (r : Option Nat) : Option (Nat × vp_A) := match r with
  | none => none
  | some a => match w.1 a with
    | some (.inl z) => some z
    | _ => none
theorem xk_obj_e {w : xWd} {r : Option Nat} {ci : Nat} {fs : List Value} (h : xk_obj w r ci = some fs) : ∃ a, r = some a ∧ w.1 a = some (.inr (ci, fs)) := by
  cases r with
  | none => simp [xk_obj] at h
  | some a =>
    refine ⟨a, rfl, ?_⟩
    simp only [xk_obj] at h
    split at h
    · rename_i o ho
      by_cases e : o.1 = ci
      · rw [if_pos e] at h
        cases h
        rw [ho, ← e]
      · rw [if_neg e] at h
        cases h
    · cases h
theorem xk_arr_e {w : xWd} {r : Option Nat} {z : Nat × vp_A} (h : xk_arr w r = some z) : ∃ a, r = some a ∧ w.1 a = some (.inl z) := by
  cases r with
  | none => simp [xk_arr] at h
  | some a =>
    refine ⟨a, rfl, ?_⟩
    simp only [xk_arr] at h
    split at h
    · rename_i o ho
      cases h
      rw [ho]
    · cases h
def xk_vI (v : Option Value) : Option Int32 := match v with
  | some (.int x) => some x
  | _ => none
def xk_vR (v : Option Value) : Option (Option Nat) := match v with
  | some (.ref a) => some (some a)
  | some .null => some none
  | _ => none
theorem xk_vI_e {v : Option Value} {x : Int32} (h : xk_vI v = some x) : v = some (.int x) := by
  unfold xk_vI at h
  split at h
  · cases h; rfl
  · cases h
theorem xk_vR_e {v : Option Value} {x : Option Nat} (h : xk_vR v = some x) : v = some (va_rf x) := by
  unfold xk_vR at h
  split at h
  · cases h; rfl
  · cases h; rfl
  · cases h
def xk_gI (w : xWd) (r : Option Nat) (ci k : Nat) : Option Int32 := (xk_obj w r ci).bind fun fs => xk_vI (fs[k]?)
def xk_gR (w : xWd) (r : Option Nat) (ci k : Nat) : Option (Option Nat) := (xk_obj w r ci).bind fun fs => xk_vR (fs[k]?)
theorem xk_bi {α β : Type} {o : Option α} {f : α → Option β} {r : β} (h : o.bind f = some r) : ∃ x, o = some x ∧ f x = some r := by
  cases o with
  | none => cases h
  | some x => exact ⟨x, rfl, h⟩
theorem xk_gI_e {w : xWd} {r : Option Nat} {ci k : Nat} {v : Int32} (h : xk_gI w r ci k = some v) : ∃ a fs, r = some a ∧ w.1 a = some (.inr (ci, fs)) ∧ fs[k]? = some (.int v) := by
  obtain ⟨fs, h1, h2⟩ := xk_bi h
  obtain ⟨a, h3, h4⟩ := xk_obj_e h1
  exact ⟨a, fs, h3, h4, xk_vI_e h2⟩
theorem xk_gR_e {w : xWd} {r : Option Nat} {ci k : Nat} {v : Option Nat} (h : xk_gR w r ci k = some v) : ∃ a fs, r = some a ∧ w.1 a = some (.inr (ci, fs)) ∧ fs[k]? = some (va_rf v) := by
  obtain ⟨fs, h1, h2⟩ := xk_bi h
  obtain ⟨a, h3, h4⟩ := xk_obj_e h1
  exact ⟨a, fs, h3, h4, xk_vR_e h2⟩
/-- a field is written -/
def xk_pV (w : xWd) (r : Option Nat) (ci k : Nat) (v : Value) : Option xWd := match r with
  | none => none
  | some a => (xk_obj w (some a) ci).bind fun fs => if k < fs.length then some (va_up w.1 a (some (.inr (ci, fs.set k v))), w.2) else none
theorem xk_pV_e {w w1 : xWd} {r : Option Nat} {ci k : Nat} {v : Value} (h : xk_pV w r ci k v = some w1) : ∃ a fs, r = some a ∧ w.1 a = some (.inr (ci, fs)) ∧ k < fs.length ∧ w1 = (va_up w.1 a (some (.inr (ci, fs.set k v))), w.2) := by
  cases r with
  | none => cases h
  | some a =>
    obtain ⟨fs, h1, h2⟩ := xk_bi h
    obtain ⟨a', h3, h4⟩ := xk_obj_e h1
    cases h3
    by_cases hk : k < fs.length
    · rw [if_pos hk] at h2
      cases h2
      exact ⟨a, fs, rfl, h4, hk, rfl⟩
    · rw [if_neg hk] at h2
      cases h2
/-- a new object -/
def xk_nw (w : xWd) (ci : Nat) (fs : List Value) : xWd := (va_up w.1 w.2.1 (some (.inr (ci, fs))), w.2.1 + 1, w.2.2)
/-- a new row of n places, n at most cap -/
def xk_nA (w : xWd) (kd : Nat) (d : vp_A) (n : Int32) (cap : Nat) : Option xWd := if n < 0 then none else if n.toNatClampNeg ≤ cap then some (va_up w.1 w.2.1 (some (.inl (kd, n.toNatClampNeg, d.2))), w.2.1 + 1, w.2.2) else none
abbrev xk_d0 : vp_A := (0, .inl (fun _ => 0))
abbrev xk_dR : vp_A := (0, .inr (.inr (.inr (.inr (fun _ => none)))))
def xk_len (w : xWd) (r : Option Nat) : Option Int32 := (xk_arr w r).bind fun z => if z.1 < xk_nk then some (Int32.ofNat z.2.1) else none
def xk_lI (kd : Nat) (w : xWd) (r : Option Nat) (i : Int32) : Option Int32 := (xk_arr w r).bind fun z => match z with
  | (k, n, .inl f) => if (k = kd ∨ (kd = 0 ∧ k = 4)) ∧ ¬ (i < 0 ∨ n ≤ i.toNatClampNeg) then some (f i.toNatClampNeg) else none
  | _ => none
def xk_lR (kd : Nat) (w : xWd) (r : Option Nat) (i : Int32) : Option (Option Nat) := (xk_arr w r).bind fun z => match z with
  | (k, n, .inr (.inr (.inr (.inr f)))) => if k = kd ∧ ¬ (i < 0 ∨ n ≤ i.toNatClampNeg) then some (f i.toNatClampNeg) else none
  | _ => none
def xk_sI (kd : Nat) (w : xWd) (r : Option Nat) (i v : Int32) : Option xWd := match r with
  | none => none
  | some a => (xk_arr w (some a)).bind fun z => match z with
    | (k, n, .inl f) => if k = kd ∧ ¬ (i < 0 ∨ n ≤ i.toNatClampNeg) then some (va_up w.1 a (some (.inl (kd, n, .inl (upd f i.toNatClampNeg v)))), w.2) else none
    | _ => none
def xk_sR (kd : Nat) (w : xWd) (r : Option Nat) (i : Int32) (v : Option Nat) : Option xWd := match r with
  | none => none
  | some a => (xk_arr w (some a)).bind fun z => match z with
    | (k, n, .inr (.inr (.inr (.inr f)))) => if k = kd ∧ ¬ (i < 0 ∨ n ≤ i.toNatClampNeg) then some (va_up w.1 a (some (.inl (kd, n, .inr (.inr (.inr (.inr (va_up f i.toNatClampNeg v))))))), w.2) else none
    | _ => none
theorem xk_lI_e {kd : Nat} {w : xWd} {r : Option Nat} {i v : Int32} (h : xk_lI kd w r i = some v) : ∃ a k n f, r = some a ∧ w.1 a = some (.inl (k, n, .inl f)) ∧ (k = kd ∨ (kd = 0 ∧ k = 4)) ∧ vp_in i n ∧ v = f i.toNatClampNeg := by
  obtain ⟨z, h1, h2⟩ := xk_bi h
  obtain ⟨a, h3, h4⟩ := xk_arr_e h1
  split at h2
  · rename_i k n f
    split at h2
    · rename_i hc
      cases h2
      exact ⟨a, k, n, f, h3, h4, hc.1, hc.2, rfl⟩
    · cases h2
  · cases h2
theorem xk_lR_e {kd : Nat} {w : xWd} {r : Option Nat} {i : Int32} {v : Option Nat} (h : xk_lR kd w r i = some v) : ∃ a n f, r = some a ∧ w.1 a = some (.inl (kd, n, .inr (.inr (.inr (.inr f))))) ∧ vp_in i n ∧ v = f i.toNatClampNeg := by
  obtain ⟨z, h1, h2⟩ := xk_bi h
  obtain ⟨a, h3, h4⟩ := xk_arr_e h1
  split at h2
  · rename_i k n f
    split at h2
    · rename_i hc
      cases h2
      exact ⟨a, n, f, h3, by rw [h4, hc.1], hc.2, rfl⟩
    · cases h2
  · cases h2
theorem xk_sI_e {kd : Nat} {w w1 : xWd} {r : Option Nat} {i v : Int32} (h : xk_sI kd w r i v = some w1) : ∃ a n f, r = some a ∧ w.1 a = some (.inl (kd, n, .inl f)) ∧ vp_in i n ∧ w1 = (va_up w.1 a (some (.inl (kd, n, .inl (upd f i.toNatClampNeg v)))), w.2) := by
  cases r with
  | none => cases h
  | some a =>
    obtain ⟨z, h1, h2⟩ := xk_bi h
    obtain ⟨a', h3, h4⟩ := xk_arr_e h1
    cases h3
    split at h2
    · rename_i k n f
      split at h2
      · rename_i hc
        cases h2
        exact ⟨a, n, f, rfl, by rw [h4, hc.1], hc.2, rfl⟩
      · cases h2
    · cases h2
theorem xk_sR_e {kd : Nat} {w w1 : xWd} {r : Option Nat} {i : Int32} {v : Option Nat} (h : xk_sR kd w r i v = some w1) : ∃ a n f, r = some a ∧ w.1 a = some (.inl (kd, n, .inr (.inr (.inr (.inr f))))) ∧ vp_in i n ∧ w1 = (va_up w.1 a (some (.inl (kd, n, .inr (.inr (.inr (.inr (va_up f i.toNatClampNeg v))))))), w.2) := by
  cases r with
  | none => cases h
  | some a =>
    obtain ⟨z, h1, h2⟩ := xk_bi h
    obtain ⟨a', h3, h4⟩ := xk_arr_e h1
    cases h3
    split at h2
    · rename_i k n f
      split at h2
      · rename_i hc
        cases h2
        exact ⟨a, n, f, rfl, by rw [h4, hc.1], hc.2, rfl⟩
      · cases h2
    · cases h2
/-- the object is there, of that class -/
def xk_is (w : xWd) (r : Option Nat) (ci : Nat) : Option Unit := (xk_obj w r ci).bind fun _ => some ()
/-- a checkcast goes through: null, or an object of just that class -/
def xk_cc (w : xWd) (r : Option Nat) (ci : Nat) : Option Unit := if r = none then some () else xk_is w r ci
theorem xk_H.setp {E : xEv} {w : xWd} {H H1 : Heap} (h : xk_H E w H) {a : Nat} {z : xE} (ha : E.2.2.1 ≤ a) (hn : ¬ xk_scr z = true) (hz : va_at E.1 xk_cl (a, xk_toE E.2.1 z) H1) (hs : H1.size = H.size) (ho : ∀ q : Nat, q ≠ a → H1[q]? = H[q]?) : xk_H E (va_up w.1 a (some z), w.2) H1 := by
  refine ⟨hs.trans h.1, h.2.1, h.2.2.1, fun b y hb => ?_⟩
  by_cases e : b = a
  · subst e
    have e1 : some z = some y := by simpa [va_up] using hb
    cases e1
    exact ⟨fun q => absurd q hn, fun _ => ⟨hz, ha⟩⟩
  · have e1 : w.1 b = some y := by simpa [va_up, e] using hb
    exact ⟨(h.2.2.2 b y e1).1, fun q => ⟨((h.2.2.2 b y e1).2 q).1.kept (ho b e), ((h.2.2.2 b y e1).2 q).2⟩⟩
theorem xk_H.push {E : xEv} {w : xWd} {H H1 : Heap} (h : xk_H E w H) {z : xE} (hn : ¬ xk_scr z = true) (hz : va_at E.1 xk_cl (H.size, xk_toE E.2.1 z) H1) (hs : H1.size = H.size + 1) (ho : ∀ q : Nat, q < H.size → H1[q]? = H[q]?) : xk_H E (va_up w.1 w.2.1 (some z), w.2.1 + 1, w.2.2) H1 := by
  refine ⟨by rw [hs, h.1], Nat.le_succ_of_le h.2.1, h.2.2.1, fun b y hb => ?_⟩
  by_cases e : b = w.2.1
  · subst e
    have e1 : some z = some y := by simpa [va_up] using hb
    cases e1
    refine ⟨fun q => absurd q hn, fun _ => ⟨?_, h.2.1⟩⟩
    have hh := hz
    rw [h.1] at hh
    exact hh
  · have e1 : w.1 b = some y := by simpa [va_up, e] using hb
    exact ⟨(h.2.2.2 b y e1).1, fun q => ⟨((h.2.2.2 b y e1).2 q).1.kept (ho b ((h.2.2.2 b y e1).2 q).1.lt), ((h.2.2.2 b y e1).2 q).2⟩⟩
theorem xk_one {D : va_G} {q : Nat × va_E} {H : Heap} (h : va_at D xk_cl q H) : va_P D xk_cl [q] H := by
  intro k x hk
  cases k with
  | zero => cases hk; exact h
  | succ k => simp at hk
theorem xk_cati (x : Int32) : (Value.int x).category = 1 := rfl
theorem xk_catl (x : Int64) : (Value.long x).category = 2 := rfl
theorem xk_catd (x : UInt64) : (Value.double x).category = 2 := rfl
theorem xk_cat1 (r : Option Nat) : (va_rf r).category = 1 := by cases r <;> rfl
def xk_C (p : Program) (s : State) (m : MethodId) (args : Array Value) (meth : Method) (c : Code) (E : xEv) (cc : ByteArray) (own : String) (nL : Nat) : Prop := p.tables.exec = Jvm.exec ∧ c.code = cc ∧ c.maxLocals = nL ∧ s.vm.findClass own = some m.cls ∧ (∀ w ∈ xk_T, w.before args s = true) ∧ meth.locks = false ∧ xk_S E s
def xk_X (p : Program) (l : Launch) (e : Env) (R : Room) (s : State) (m : MethodId) (args : Array Value) (below : List Frame) (meth : Method) (c : Code) (Q : State → Prop) (E : xEv) (nL cells slots pc : Nat) (lv : List (Nat × Value)) (st : List Value) (w : xWd) : Prop :=
  ∀ (H : Heap) (locs : List Loc) (ls : Array Slot), xk_H E w H → va_S (xk_A E.2.2.1) s.heap H locs → lv_has ls nL lv → W p l e R s m args below meth c H locs cells slots Q (F0 m pc ls st)
/-- a contract: from the world w, the method ends as Qc says -/
def xk_M (l : Launch) (y : MethodName) (b : ByteArray) (nL : Nat) (ret : Option FieldType) (fr lc mc ms : Nat) (E : xEv) (av : List Value) (w : xWd) (Qc : Array Value → State → Outcome → State → Prop) : Prop :=
  Met l y (Cond.code y b nL ret :: xk_T) { frames := fr, cells := mc, slots := ms, locals := lc } (va_Pc av (fun U => xk_H E w U.heap ∧ xk_S E U)) Qc mc ms (xk_A E.2.2.1)
def xk_Qi (E : xEv) (q : Int32 × xWd) : Array Value → State → Outcome → State → Prop := va_Qi (fun r (_ : Unit) => r = q.1) (fun _ t => xk_H E q.2 t.heap) (xk_A E.2.2.1)
def xk_Ql (E : xEv) (q : Int64 × xWd) : Array Value → State → Outcome → State → Prop := va_Ql (fun r (_ : Unit) => r = q.1) (fun _ t => xk_H E q.2 t.heap) (xk_A E.2.2.1)
def xk_Qd (E : xEv) (q : UInt64 × xWd) : Array Value → State → Outcome → State → Prop := va_Qd (fun r (_ : Unit) => r = q.1) (fun _ t => xk_H E q.2 t.heap) (xk_A E.2.2.1)
def xk_Qq (E : xEv) (q : Option Nat × xWd) : Array Value → State → Outcome → State → Prop := va_Qq (fun r (_ : Unit) => r = q.1) (fun _ t => xk_H E q.2 t.heap) (xk_A E.2.2.1)
def xk_Qv (E : xEv) (q : xWd) : Array Value → State → Outcome → State → Prop := va_Qv (fun (_ : Unit) => True) (fun _ t => xk_H E q t.heap) (xk_A E.2.2.1)
section XK
variable {p : Program} {l : Launch} {e : Env} {R : Room} {s : State} {m : MethodId} {args : Array Value} {below : List Frame} {meth : Method} {c : Code} {Q : State → Prop}
variable {E : xEv} {cc : ByteArray} {own : String} {nL cells slots pc : Nat} {lv lv' : List (Nat × Value)} {st : List Value} {w : xWd}
theorem xk_enter {y : MethodName} {b : ByteArray} {ret : Option FieldType} {fr lc mc ms : Nat} {av : List Value} {Qc : Array Value → State → Outcome → State → Prop} (hy : plainName y.cls = true) (hn : (lg_sl av).length ≤ nL)
    (h : ∀ (p : Program) (e : Env) (s : State) (m : MethodId) (args : Array Value) (below : List Frame) (meth : Method) (c : Code), xk_C p s m args meth c E b y.cls nL → meth.sig.returnType = ret → (y.name = "<init>" → meth.name = "<init>") → args = av.toArray → xk_X p l e { frames := fr, cells := mc, slots := ms, locals := lc } s m args below meth c (MQ below Qc args s mc ms (xk_A E.2.2.1)) E nL 0 0 0 (lv_args 0 av) [] w) : xk_M l y b nL ret fr lc mc ms E av w Qc := by
  refine Met.ofW (cc := b) (maxL := nL) (ret := ret) hy rfl ?_
  intro p e s m args below meth c s₁ B hml hv
  obtain ⟨rfl, hH, hS⟩ := hv
  have hts := atoms_spec (ws := Cond.code y b nL ret :: xk_T) B.pre
  have hl := lv_entry av (n := nL) hn
  rw [lg_entry_eq]
  exact h p e s m _ below meth c ⟨B.exec, B.bytes, hml, findClass_of_methodNamed B.named, fun w hw => hts w (List.mem_cons_of_mem _ hw), B.notSynchronized, hS⟩ B.returns (fun hi => (name_of_methodNamed B.named B.method).1.trans hi) rfl s.heap [] _ hH va_S.rf hl
theorem xk_widen {k n : Nat} (h1 : cells ≤ k) (h2 : slots ≤ n) (kk : xk_X p l e R s m args below meth c Q E nL k n pc lv st w) : xk_X p l e R s m args below meth c Q E nL cells slots pc lv st w := fun H locs ls hH hS hl => W.widen h1 h2 (kk H locs ls hH hS hl)
theorem xk_locals (ks : List Nat) (hl : lv_pick lv ks = lv') (kk : xk_X p l e R s m args below meth c Q E nL cells slots pc lv' st w) : xk_X p l e R s m args below meth c Q E nL cells slots pc lv st w := fun H locs ls hH hS h => kk H locs ls hH hS (lv_sub h ks hl)
theorem xk_iconst (hC : xk_C p s m args meth c E cc own nL) {n : Int} {v : Int32} (d : decode cc pc = .ok (.iconst n, 1)) (hv : Int32.ofInt n = v) (kk : xk_X p l e R s m args below meth c Q E nL cells slots (pc + 1) lv (.int v :: st) w) : xk_X p l e R s m args below meth c Q E nL cells slots pc lv (st) w := fun H locs ls hH hS hl => lv_iconst hC.1 hC.2.1 d hv (kk H locs ls hH hS hl)
theorem xk_bipush (hC : xk_C p s m args meth c E cc own nL) {n : Int} {v : Int32} (d : decode cc pc = .ok (.bipush n, 2)) (hv : (Int8.ofInt n).toInt32 = v) (kk : xk_X p l e R s m args below meth c Q E nL cells slots (pc + 2) lv (.int v :: st) w) : xk_X p l e R s m args below meth c Q E nL cells slots pc lv (st) w := fun H locs ls hH hS hl => lv_bipush hC.1 hC.2.1 d hv (kk H locs ls hH hS hl)
theorem xk_sipush (hC : xk_C p s m args meth c E cc own nL) {n : Int} {v : Int32} (d : decode cc pc = .ok (.sipush n, 3)) (hv : (Int16.ofInt n).toInt32 = v) (kk : xk_X p l e R s m args below meth c Q E nL cells slots (pc + 3) lv (.int v :: st) w) : xk_X p l e R s m args below meth c Q E nL cells slots pc lv (st) w := fun H locs ls hH hS hl => lv_sipush hC.1 hC.2.1 d hv (kk H locs ls hH hS hl)
theorem xk_lconst (hC : xk_C p s m args meth c E cc own nL) {n : Fin 2} {v : Int64} (d : decode cc pc = .ok (.lconst n, 1)) (hv : Int64.ofNat (n : Nat) = v) (kk : xk_X p l e R s m args below meth c Q E nL cells slots (pc + 1) lv (.long v :: st) w) : xk_X p l e R s m args below meth c Q E nL cells slots pc lv (st) w := fun H locs ls hH hS hl => lv_lconst hC.1 hC.2.1 d hv (kk H locs ls hH hS hl)
theorem xk_ldc (hC : xk_C p s m args meth c E cc own nL) {index : Nat} {v : Int32} (d : decode cc pc = .ok (.ldc index, 2)) (hw : Cond.constant own index v ∈ xk_T) (kk : xk_X p l e R s m args below meth c Q E nL cells slots (pc + 2) lv (.int v :: st) w) : xk_X p l e R s m args below meth c Q E nL cells slots pc lv (st) w := fun H locs ls hH hS hl => lv_ldc hC.1 hC.2.1 hC.2.2.2.1 (hC.2.2.2.2.1 _ hw) d (kk H locs ls hH hS hl)
theorem xk_ldcw (hC : xk_C p s m args meth c E cc own nL) {index : Nat} {v : Int32} (d : decode cc pc = .ok (.ldc_w index, 3)) (hw : Cond.constant own index v ∈ xk_T) (kk : xk_X p l e R s m args below meth c Q E nL cells slots (pc + 3) lv (.int v :: st) w) : xk_X p l e R s m args below meth c Q E nL cells slots pc lv (st) w := fun H locs ls hH hS hl => lv_ldcw hC.1 hC.2.1 hC.2.2.2.1 (hC.2.2.2.2.1 _ hw) d (kk H locs ls hH hS hl)
theorem xk_ldc2 (hC : xk_C p s m args meth c E cc own nL) {index : Nat} {v : Int64} (d : decode cc pc = .ok (.ldc2_w index, 3)) (hw : Cond.constantLong own index v ∈ xk_T) (kk : xk_X p l e R s m args below meth c Q E nL cells slots (pc + 3) lv (.long v :: st) w) : xk_X p l e R s m args below meth c Q E nL cells slots pc lv (st) w := fun H locs ls hH hS hl => lv_ldc2 hC.1 hC.2.1 hC.2.2.2.1 (hC.2.2.2.2.1 _ hw) d (kk H locs ls hH hS hl)
theorem xk_ldc2d (hC : xk_C p s m args meth c E cc own nL) {index : Nat} {v : UInt64} (d : decode cc pc = .ok (.ldc2_w index, 3)) (hw : Cond.constantDouble own index v ∈ xk_T) (kk : xk_X p l e R s m args below meth c Q E nL cells slots (pc + 3) lv (.double v :: st) w) : xk_X p l e R s m args below meth c Q E nL cells slots pc lv (st) w := fun H locs ls hH hS hl => lv_ldc2d hC.1 hC.2.1 hC.2.2.2.1 (hC.2.2.2.2.1 _ hw) d (kk H locs ls hH hS hl)
theorem xk_null (hC : xk_C p s m args meth c E cc own nL) (d : decode cc pc = .ok (.aconst_null, 1)) (kk : xk_X p l e R s m args below meth c Q E nL cells slots (pc + 1) lv (va_rf none :: st) w) : xk_X p l e R s m args below meth c Q E nL cells slots pc lv (st) w := fun H locs ls hH hS hl => lv_null hC.1 hC.2.1 d (kk H locs ls hH hS hl)
theorem xk_iadd (hC : xk_C p s m args meth c E cc own nL) {x y : Int32} (d : decode cc pc = .ok (.iadd, 1)) (kk : xk_X p l e R s m args below meth c Q E nL cells slots (pc + 1) lv (.int (x + y) :: st) w) : xk_X p l e R s m args below meth c Q E nL cells slots pc lv (.int y :: .int x :: st) w := fun H locs ls hH hS hl => lv_iadd hC.1 hC.2.1 d (kk H locs ls hH hS hl)
theorem xk_isub (hC : xk_C p s m args meth c E cc own nL) {x y : Int32} (d : decode cc pc = .ok (.isub, 1)) (kk : xk_X p l e R s m args below meth c Q E nL cells slots (pc + 1) lv (.int (x - y) :: st) w) : xk_X p l e R s m args below meth c Q E nL cells slots pc lv (.int y :: .int x :: st) w := fun H locs ls hH hS hl => lv_isub hC.1 hC.2.1 d (kk H locs ls hH hS hl)
theorem xk_imul (hC : xk_C p s m args meth c E cc own nL) {x y : Int32} (d : decode cc pc = .ok (.imul, 1)) (kk : xk_X p l e R s m args below meth c Q E nL cells slots (pc + 1) lv (.int (x * y) :: st) w) : xk_X p l e R s m args below meth c Q E nL cells slots pc lv (.int y :: .int x :: st) w := fun H locs ls hH hS hl => lv_imul hC.1 hC.2.1 d (kk H locs ls hH hS hl)
theorem xk_iand (hC : xk_C p s m args meth c E cc own nL) {x y : Int32} (d : decode cc pc = .ok (.iand, 1)) (kk : xk_X p l e R s m args below meth c Q E nL cells slots (pc + 1) lv (.int (x &&& y) :: st) w) : xk_X p l e R s m args below meth c Q E nL cells slots pc lv (.int y :: .int x :: st) w := fun H locs ls hH hS hl => lv_iand hC.1 hC.2.1 d (kk H locs ls hH hS hl)
theorem xk_ishr (hC : xk_C p s m args meth c E cc own nL) {x y : Int32} (d : decode cc pc = .ok (.ishr, 1)) (kk : xk_X p l e R s m args below meth c Q E nL cells slots (pc + 1) lv (.int (x >>> (y &&& 31)) :: st) w) : xk_X p l e R s m args below meth c Q E nL cells slots pc lv (.int y :: .int x :: st) w := fun H locs ls hH hS hl => lv_ishr hC.1 hC.2.1 d (kk H locs ls hH hS hl)
theorem xk_ineg (hC : xk_C p s m args meth c E cc own nL) {x : Int32} (d : decode cc pc = .ok (.ineg, 1)) (kk : xk_X p l e R s m args below meth c Q E nL cells slots (pc + 1) lv (.int (-x) :: st) w) : xk_X p l e R s m args below meth c Q E nL cells slots pc lv (.int x :: st) w := fun H locs ls hH hS hl => lv_ineg hC.1 hC.2.1 d (kk H locs ls hH hS hl)
theorem xk_idiv (hC : xk_C p s m args meth c E cc own nL) {x y : Int32} (d : decode cc pc = .ok (.idiv, 1)) (h0 : ¬ y = 0) (kk : xk_X p l e R s m args below meth c Q E nL cells slots (pc + 1) lv (.int (x / y) :: st) w) : xk_X p l e R s m args below meth c Q E nL cells slots pc lv (.int y :: .int x :: st) w := fun H locs ls hH hS hl => lv_idiv hC.1 hC.2.1 d h0 (kk H locs ls hH hS hl)
theorem xk_irem (hC : xk_C p s m args meth c E cc own nL) {x y : Int32} (d : decode cc pc = .ok (.irem, 1)) (h0 : ¬ y = 0) (kk : xk_X p l e R s m args below meth c Q E nL cells slots (pc + 1) lv (.int (x - x / y * y) :: st) w) : xk_X p l e R s m args below meth c Q E nL cells slots pc lv (.int y :: .int x :: st) w := fun H locs ls hH hS hl => lv_irem hC.1 hC.2.1 d h0 (kk H locs ls hH hS hl)
theorem xk_ladd (hC : xk_C p s m args meth c E cc own nL) {x y : Int64} (d : decode cc pc = .ok (.ladd, 1)) (kk : xk_X p l e R s m args below meth c Q E nL cells slots (pc + 1) lv (.long (x + y) :: st) w) : xk_X p l e R s m args below meth c Q E nL cells slots pc lv (.long y :: .long x :: st) w := fun H locs ls hH hS hl => lv_ladd hC.1 hC.2.1 d (kk H locs ls hH hS hl)
theorem xk_lmul (hC : xk_C p s m args meth c E cc own nL) {x y : Int64} (d : decode cc pc = .ok (.lmul, 1)) (kk : xk_X p l e R s m args below meth c Q E nL cells slots (pc + 1) lv (.long (x * y) :: st) w) : xk_X p l e R s m args below meth c Q E nL cells slots pc lv (.long y :: .long x :: st) w := fun H locs ls hH hS hl => lv_lmul hC.1 hC.2.1 d (kk H locs ls hH hS hl)
theorem xk_lcmp (hC : xk_C p s m args meth c E cc own nL) {x y : Int64} (d : decode cc pc = .ok (.lcmp, 1)) (kk : xk_X p l e R s m args below meth c Q E nL cells slots (pc + 1) lv (.int (lg_cmp x y) :: st) w) : xk_X p l e R s m args below meth c Q E nL cells slots pc lv (.long y :: .long x :: st) w := fun H locs ls hH hS hl => W.lcmp hC.1 hC.2.1 d (kk H locs ls hH hS hl)
theorem xk_i2l (hC : xk_C p s m args meth c E cc own nL) {x : Int32} (d : decode cc pc = .ok (.i2l, 1)) (kk : xk_X p l e R s m args below meth c Q E nL cells slots (pc + 1) lv (.long x.toInt64 :: st) w) : xk_X p l e R s m args below meth c Q E nL cells slots pc lv (.int x :: st) w := fun H locs ls hH hS hl => lv_i2l hC.1 hC.2.1 d rfl (kk H locs ls hH hS hl)
theorem xk_i2d (hC : xk_C p s m args meth c E cc own nL) {x : Int32} (d : decode cc pc = .ok (.i2d, 1)) (kk : xk_X p l e R s m args below meth c Q E nL cells slots (pc + 1) lv (.double (FP.i2d x) :: st) w) : xk_X p l e R s m args below meth c Q E nL cells slots pc lv (.int x :: st) w := fun H locs ls hH hS hl => lv_i2d hC.1 hC.2.1 d (kk H locs ls hH hS hl)
theorem xk_dconst0 (hC : xk_C p s m args meth c E cc own nL) (d : decode cc pc = .ok (.dconst 0, 1)) (kk : xk_X p l e R s m args below meth c Q E nL cells slots (pc + 1) lv (.double FP.dconst0 :: st) w) : xk_X p l e R s m args below meth c Q E nL cells slots pc lv (st) w := fun H locs ls hH hS hl => lv_dconst0 hC.1 hC.2.1 d (kk H locs ls hH hS hl)
theorem xk_ddiv (hC : xk_C p s m args meth c E cc own nL) {x y : UInt64} (d : decode cc pc = .ok (.ddiv, 1)) (hq : vf_n64 (FP.ddiv x y)) (kk : xk_X p l e R s m args below meth c Q E nL cells slots (pc + 1) lv (.double (FP.ddiv x y) :: st) w) : xk_X p l e R s m args below meth c Q E nL cells slots pc lv (.double y :: .double x :: st) w := fun H locs ls hH hS hl => lv_ddiv hC.1 hC.2.1 d hq (kk H locs ls hH hS hl)
theorem xk_dcmp (hC : xk_C p s m args meth c E cc own nL) {x y : UInt64} {op : CmpOp} (d : decode cc pc = .ok (.dcmp op, 1)) (kk : xk_X p l e R s m args below meth c Q E nL cells slots (pc + 1) lv (.int (Op.cmpValue (FP.dcmp x y) op) :: st) w) : xk_X p l e R s m args below meth c Q E nL cells slots pc lv (.double y :: .double x :: st) w := fun H locs ls hH hS hl => lv_dcmp hC.1 hC.2.1 d (kk H locs ls hH hS hl)
theorem xk_pop (hC : xk_C p s m args meth c E cc own nL) {v : Value} (d : decode cc pc = .ok (.pop, 1)) (hv : v.category = 1) (kk : xk_X p l e R s m args below meth c Q E nL cells slots (pc + 1) lv (st) w) : xk_X p l e R s m args below meth c Q E nL cells slots pc lv (v :: st) w := fun H locs ls hH hS hl => lv_pop hC.1 hC.2.1 d hv (kk H locs ls hH hS hl)
theorem xk_dup (hC : xk_C p s m args meth c E cc own nL) {v : Value} (d : decode cc pc = .ok (.dup, 1)) (hv : v.category = 1) (kk : xk_X p l e R s m args below meth c Q E nL cells slots (pc + 1) lv (v :: v :: st) w) : xk_X p l e R s m args below meth c Q E nL cells slots pc lv (v :: st) w := fun H locs ls hH hS hl => lv_dup hC.1 hC.2.1 d hv (kk H locs ls hH hS hl)
theorem xk_dup_x1 (hC : xk_C p s m args meth c E cc own nL) {v u : Value} (d : decode cc pc = .ok (.dup_x1, 1)) (hv : v.category = 1) (hu : u.category = 1) (kk : xk_X p l e R s m args below meth c Q E nL cells slots (pc + 1) lv (v :: u :: v :: st) w) : xk_X p l e R s m args below meth c Q E nL cells slots pc lv (v :: u :: st) w := fun H locs ls hH hS hl => lv_dup_x1 hC.1 hC.2.1 d hv hu (kk H locs ls hH hS hl)
theorem xk_dup2 (hC : xk_C p s m args meth c E cc own nL) {v u : Value} (d : decode cc pc = .ok (.dup2, 1)) (hv : v.category = 1) (hu : u.category = 1) (kk : xk_X p l e R s m args below meth c Q E nL cells slots (pc + 1) lv (v :: u :: v :: u :: st) w) : xk_X p l e R s m args below meth c Q E nL cells slots pc lv (v :: u :: st) w := fun H locs ls hH hS hl => lv_dup2_11 hC.1 hC.2.1 d hv hu (kk H locs ls hH hS hl)
theorem xk_iload_n (hC : xk_C p s m args meth c E cc own nL) {k : Fin 4} {i : Nat} {x : Int32} (d : decode cc pc = .ok (.iload_n k, 1)) (j : Nat) (hi : (k : Nat) = i) (hj : lv[j]? = some (i, .int x)) (kk : xk_X p l e R s m args below meth c Q E nL cells slots (pc + 1) lv (.int x :: st) w) : xk_X p l e R s m args below meth c Q E nL cells slots pc lv (st) w := fun H locs ls hH hS hl => lv_iload_n hC.1 hC.2.1 d hi (lv_at hl j hj) (kk H locs ls hH hS hl)
theorem xk_iload (hC : xk_C p s m args meth c E cc own nL) {i : Nat} {x : Int32} (d : decode cc pc = .ok (.iload i, 2)) (j : Nat) (hj : lv[j]? = some (i, .int x)) (kk : xk_X p l e R s m args below meth c Q E nL cells slots (pc + 2) lv (.int x :: st) w) : xk_X p l e R s m args below meth c Q E nL cells slots pc lv (st) w := fun H locs ls hH hS hl => lv_iload hC.1 hC.2.1 d (lv_at hl j hj) (kk H locs ls hH hS hl)
theorem xk_lload_n (hC : xk_C p s m args meth c E cc own nL) {k : Fin 4} {i : Nat} {x : Int64} (d : decode cc pc = .ok (.lload_n k, 1)) (j : Nat) (hi : (k : Nat) = i) (hj : lv[j]? = some (i, .long x)) (kk : xk_X p l e R s m args below meth c Q E nL cells slots (pc + 1) lv (.long x :: st) w) : xk_X p l e R s m args below meth c Q E nL cells slots pc lv (st) w := fun H locs ls hH hS hl => lv_lload_n hC.1 hC.2.1 d hi (lv_at hl j hj) (kk H locs ls hH hS hl)
theorem xk_lload (hC : xk_C p s m args meth c E cc own nL) {i : Nat} {x : Int64} (d : decode cc pc = .ok (.lload i, 2)) (j : Nat) (hj : lv[j]? = some (i, .long x)) (kk : xk_X p l e R s m args below meth c Q E nL cells slots (pc + 2) lv (.long x :: st) w) : xk_X p l e R s m args below meth c Q E nL cells slots pc lv (st) w := fun H locs ls hH hS hl => lv_lload hC.1 hC.2.1 d (lv_at hl j hj) (kk H locs ls hH hS hl)
theorem xk_dload_n (hC : xk_C p s m args meth c E cc own nL) {k : Fin 4} {i : Nat} {x : UInt64} (d : decode cc pc = .ok (.dload_n k, 1)) (j : Nat) (hi : (k : Nat) = i) (hj : lv[j]? = some (i, .double x)) (kk : xk_X p l e R s m args below meth c Q E nL cells slots (pc + 1) lv (.double x :: st) w) : xk_X p l e R s m args below meth c Q E nL cells slots pc lv (st) w := fun H locs ls hH hS hl => lv_dload_n hC.1 hC.2.1 d hi (lv_at hl j hj) (kk H locs ls hH hS hl)
theorem xk_dload (hC : xk_C p s m args meth c E cc own nL) {i : Nat} {x : UInt64} (d : decode cc pc = .ok (.dload i, 2)) (j : Nat) (hj : lv[j]? = some (i, .double x)) (kk : xk_X p l e R s m args below meth c Q E nL cells slots (pc + 2) lv (.double x :: st) w) : xk_X p l e R s m args below meth c Q E nL cells slots pc lv (st) w := fun H locs ls hH hS hl => lv_dload hC.1 hC.2.1 d (lv_at hl j hj) (kk H locs ls hH hS hl)
theorem xk_aload_n (hC : xk_C p s m args meth c E cc own nL) {k : Fin 4} {i : Nat} {r : Option Nat} (d : decode cc pc = .ok (.aload_n k, 1)) (j : Nat) (hi : (k : Nat) = i) (hj : lv[j]? = some (i, va_rf r)) (kk : xk_X p l e R s m args below meth c Q E nL cells slots (pc + 1) lv (va_rf r :: st) w) : xk_X p l e R s m args below meth c Q E nL cells slots pc lv st w := by
  intro H locs ls hH hS hl
  cases r with
  | none => exact lv_aload_nN hC.1 hC.2.1 d hi (lv_at hl j hj) (kk H locs ls hH hS hl)
  | some a => exact lv_aload_n hC.1 hC.2.1 d hi (lv_at hl j hj) (kk H locs ls hH hS hl)
theorem xk_aload (hC : xk_C p s m args meth c E cc own nL) {i : Nat} {r : Option Nat} (d : decode cc pc = .ok (.aload i, 2)) (j : Nat) (hj : lv[j]? = some (i, va_rf r)) (kk : xk_X p l e R s m args below meth c Q E nL cells slots (pc + 2) lv (va_rf r :: st) w) : xk_X p l e R s m args below meth c Q E nL cells slots pc lv st w := by
  intro H locs ls hH hS hl
  cases r with
  | none => exact lv_aloadN hC.1 hC.2.1 d (lv_at hl j hj) (kk H locs ls hH hS hl)
  | some a => exact lv_aload hC.1 hC.2.1 d (lv_at hl j hj) (kk H locs ls hH hS hl)
theorem xk_istore_n (hC : xk_C p s m args meth c E cc own nL) {k : Fin 4} {i : Nat} {x : Int32} (d : decode cc pc = .ok (.istore_n k, 1)) (hi : (k : Nat) = i) (hn : i < nL) (hl : (i, Value.int x) :: lv.filter (fun q => !(q.1 == i) && !(q.1 + 1 == i && q.2.category == 2)) = lv') (kk : xk_X p l e R s m args below meth c Q E nL cells slots (pc + 1) lv' st w) : xk_X p l e R s m args below meth c Q E nL cells slots pc lv (.int x :: st) w := fun H locs ls hH hS h => lv_istore_n (lv' := lv') hC.1 hC.2.1 d hi h hn hl (fun ls' h' => kk H locs ls' hH hS h')
theorem xk_istore (hC : xk_C p s m args meth c E cc own nL) {i : Nat} {x : Int32} (d : decode cc pc = .ok (.istore i, 2)) (hn : i < nL) (hl : (i, Value.int x) :: lv.filter (fun q => !(q.1 == i) && !(q.1 + 1 == i && q.2.category == 2)) = lv') (kk : xk_X p l e R s m args below meth c Q E nL cells slots (pc + 2) lv' st w) : xk_X p l e R s m args below meth c Q E nL cells slots pc lv (.int x :: st) w := fun H locs ls hH hS h => lv_istore (lv' := lv') hC.1 hC.2.1 d h hn hl (fun ls' h' => kk H locs ls' hH hS h')
theorem xk_lstore_n (hC : xk_C p s m args meth c E cc own nL) {k : Fin 4} {i : Nat} {x : Int64} (d : decode cc pc = .ok (.lstore_n k, 1)) (hi : (k : Nat) = i) (hn : i + 1 < nL) (hl : (i, Value.long x) :: lv.filter (fun q => !(q.1 == i) && (!(q.1 == i + 1) && !(q.1 + 1 == i && q.2.category == 2))) = lv') (kk : xk_X p l e R s m args below meth c Q E nL cells slots (pc + 1) lv' st w) : xk_X p l e R s m args below meth c Q E nL cells slots pc lv (.long x :: st) w := fun H locs ls hH hS h => lv_lstore_n (lv' := lv') hC.1 hC.2.1 d hi h hn hl (fun ls' h' => kk H locs ls' hH hS h')
theorem xk_lstore (hC : xk_C p s m args meth c E cc own nL) {i : Nat} {x : Int64} (d : decode cc pc = .ok (.lstore i, 2)) (hn : i + 1 < nL) (hl : (i, Value.long x) :: lv.filter (fun q => !(q.1 == i) && (!(q.1 == i + 1) && !(q.1 + 1 == i && q.2.category == 2))) = lv') (kk : xk_X p l e R s m args below meth c Q E nL cells slots (pc + 2) lv' st w) : xk_X p l e R s m args below meth c Q E nL cells slots pc lv (.long x :: st) w := fun H locs ls hH hS h => lv_lstore (lv' := lv') hC.1 hC.2.1 d h hn hl (fun ls' h' => kk H locs ls' hH hS h')
theorem xk_dstore_n (hC : xk_C p s m args meth c E cc own nL) {k : Fin 4} {i : Nat} {x : UInt64} (d : decode cc pc = .ok (.dstore_n k, 1)) (hi : (k : Nat) = i) (hn : i + 1 < nL) (hl : (i, Value.double x) :: lv.filter (fun q => !(q.1 == i) && (!(q.1 == i + 1) && !(q.1 + 1 == i && q.2.category == 2))) = lv') (kk : xk_X p l e R s m args below meth c Q E nL cells slots (pc + 1) lv' st w) : xk_X p l e R s m args below meth c Q E nL cells slots pc lv (.double x :: st) w := fun H locs ls hH hS h => lv_dstore_n (lv' := lv') hC.1 hC.2.1 d hi h hn hl (fun ls' h' => kk H locs ls' hH hS h')
theorem xk_dstore (hC : xk_C p s m args meth c E cc own nL) {i : Nat} {x : UInt64} (d : decode cc pc = .ok (.dstore i, 2)) (hn : i + 1 < nL) (hl : (i, Value.double x) :: lv.filter (fun q => !(q.1 == i) && (!(q.1 == i + 1) && !(q.1 + 1 == i && q.2.category == 2))) = lv') (kk : xk_X p l e R s m args below meth c Q E nL cells slots (pc + 2) lv' st w) : xk_X p l e R s m args below meth c Q E nL cells slots pc lv (.double x :: st) w := fun H locs ls hH hS h => lv_dstore (lv' := lv') hC.1 hC.2.1 d h hn hl (fun ls' h' => kk H locs ls' hH hS h')
theorem xk_astore_n (hC : xk_C p s m args meth c E cc own nL) {k : Fin 4} {i : Nat} {r : Option Nat} (d : decode cc pc = .ok (.astore_n k, 1)) (hi : (k : Nat) = i) (hn : i < nL) (hl : (i, va_rf r) :: lv.filter (fun q => !(q.1 == i) && !(q.1 + 1 == i && q.2.category == 2)) = lv') (kk : xk_X p l e R s m args below meth c Q E nL cells slots (pc + 1) lv' st w) : xk_X p l e R s m args below meth c Q E nL cells slots pc lv (va_rf r :: st) w := by
  intro H locs ls hH hS h
  cases r with
  | none => exact lv_astore_nN (lv' := lv') hC.1 hC.2.1 d hi h hn hl (fun ls' h' => kk H locs ls' hH hS h')
  | some a => exact lv_astore_n (lv' := lv') hC.1 hC.2.1 d hi h hn hl (fun ls' h' => kk H locs ls' hH hS h')
theorem xk_astore (hC : xk_C p s m args meth c E cc own nL) {i : Nat} {r : Option Nat} (d : decode cc pc = .ok (.astore i, 2)) (hn : i < nL) (hl : (i, va_rf r) :: lv.filter (fun q => !(q.1 == i) && !(q.1 + 1 == i && q.2.category == 2)) = lv') (kk : xk_X p l e R s m args below meth c Q E nL cells slots (pc + 2) lv' st w) : xk_X p l e R s m args below meth c Q E nL cells slots pc lv (va_rf r :: st) w := by
  intro H locs ls hH hS h
  cases r with
  | none => exact lv_astoreN (lv' := lv') hC.1 hC.2.1 d h hn hl (fun ls' h' => kk H locs ls' hH hS h')
  | some a => exact lv_astore (lv' := lv') hC.1 hC.2.1 d h hn hl (fun ls' h' => kk H locs ls' hH hS h')
theorem xk_iinc (hC : xk_C p s m args meth c E cc own nL) {i : Nat} {n : Int} {x v : Int32} (d : decode cc pc = .ok (.iinc i n, 3)) (j : Nat) (hj : lv[j]? = some (i, .int x)) (hv : x + Int32.ofInt n = v) (hn : i < nL) (hl : (i, Value.int v) :: lv.filter (fun q => !(q.1 == i) && !(q.1 + 1 == i && q.2.category == 2)) = lv') (kk : xk_X p l e R s m args below meth c Q E nL cells slots (pc + 3) lv' st w) : xk_X p l e R s m args below meth c Q E nL cells slots pc lv st w := fun H locs ls hH hS h => lv_iinc (v := v) (lv' := lv') hC.1 hC.2.1 d h hj hv hn hl (fun ls' h' => kk H locs ls' hH hS h')
theorem xk_goto (hC : xk_C p s m args meth c E cc own nL) {off : Int} {tgt : Nat} (d : decode cc pc = .ok (.goto off, 3)) (ht : (pc : Int) + off = (tgt : Int)) (kk : xk_X p l e R s m args below meth c Q E nL cells slots tgt lv st w) : xk_X p l e R s m args below meth c Q E nL cells slots pc lv st w := fun H locs ls hH hS hl => lv_goto (tgt := tgt) hC.1 hC.2.1 d ht (kk H locs ls hH hS hl)
theorem xk_icmp_eq (hC : xk_C p s m args meth c E cc own nL) {x y : Int32} {off : Int} {tgt : Nat} (d : decode cc pc = .ok (.if_icmp .eq off, 3)) (ht : (pc : Int) + off = (tgt : Int)) (kt : x = y → xk_X p l e R s m args below meth c Q E nL cells slots tgt lv st w) (kf : ¬ x = y → xk_X p l e R s m args below meth c Q E nL cells slots (pc + 3) lv st w) : xk_X p l e R s m args below meth c Q E nL cells slots pc lv (.int y :: .int x :: st) w := fun H locs ls hH hS hl => lv_icmp_eq (tgt := tgt) hC.1 hC.2.1 d ht (fun q => kt q H locs ls hH hS hl) (fun q => kf q H locs ls hH hS hl)
theorem xk_icmp_ne (hC : xk_C p s m args meth c E cc own nL) {x y : Int32} {off : Int} {tgt : Nat} (d : decode cc pc = .ok (.if_icmp .ne off, 3)) (ht : (pc : Int) + off = (tgt : Int)) (kt : ¬ x = y → xk_X p l e R s m args below meth c Q E nL cells slots tgt lv st w) (kf : x = y → xk_X p l e R s m args below meth c Q E nL cells slots (pc + 3) lv st w) : xk_X p l e R s m args below meth c Q E nL cells slots pc lv (.int y :: .int x :: st) w := fun H locs ls hH hS hl => lv_icmp_ne (tgt := tgt) hC.1 hC.2.1 d ht (fun q => kt q H locs ls hH hS hl) (fun q => kf q H locs ls hH hS hl)
theorem xk_icmp_lt (hC : xk_C p s m args meth c E cc own nL) {x y : Int32} {off : Int} {tgt : Nat} (d : decode cc pc = .ok (.if_icmp .lt off, 3)) (ht : (pc : Int) + off = (tgt : Int)) (kt : x < y → xk_X p l e R s m args below meth c Q E nL cells slots tgt lv st w) (kf : ¬ x < y → xk_X p l e R s m args below meth c Q E nL cells slots (pc + 3) lv st w) : xk_X p l e R s m args below meth c Q E nL cells slots pc lv (.int y :: .int x :: st) w := fun H locs ls hH hS hl => lv_icmp_lt (tgt := tgt) hC.1 hC.2.1 d ht (fun q => kt q H locs ls hH hS hl) (fun q => kf q H locs ls hH hS hl)
theorem xk_icmp_ge (hC : xk_C p s m args meth c E cc own nL) {x y : Int32} {off : Int} {tgt : Nat} (d : decode cc pc = .ok (.if_icmp .ge off, 3)) (ht : (pc : Int) + off = (tgt : Int)) (kt : y ≤ x → xk_X p l e R s m args below meth c Q E nL cells slots tgt lv st w) (kf : ¬ y ≤ x → xk_X p l e R s m args below meth c Q E nL cells slots (pc + 3) lv st w) : xk_X p l e R s m args below meth c Q E nL cells slots pc lv (.int y :: .int x :: st) w := fun H locs ls hH hS hl => lv_icmp_ge (tgt := tgt) hC.1 hC.2.1 d ht (fun q => kt q H locs ls hH hS hl) (fun q => kf q H locs ls hH hS hl)
theorem xk_icmp_gt (hC : xk_C p s m args meth c E cc own nL) {x y : Int32} {off : Int} {tgt : Nat} (d : decode cc pc = .ok (.if_icmp .gt off, 3)) (ht : (pc : Int) + off = (tgt : Int)) (kt : y < x → xk_X p l e R s m args below meth c Q E nL cells slots tgt lv st w) (kf : ¬ y < x → xk_X p l e R s m args below meth c Q E nL cells slots (pc + 3) lv st w) : xk_X p l e R s m args below meth c Q E nL cells slots pc lv (.int y :: .int x :: st) w := fun H locs ls hH hS hl => lv_icmp_gt (tgt := tgt) hC.1 hC.2.1 d ht (fun q => kt q H locs ls hH hS hl) (fun q => kf q H locs ls hH hS hl)
theorem xk_icmp_le (hC : xk_C p s m args meth c E cc own nL) {x y : Int32} {off : Int} {tgt : Nat} (d : decode cc pc = .ok (.if_icmp .le off, 3)) (ht : (pc : Int) + off = (tgt : Int)) (kt : x ≤ y → xk_X p l e R s m args below meth c Q E nL cells slots tgt lv st w) (kf : ¬ x ≤ y → xk_X p l e R s m args below meth c Q E nL cells slots (pc + 3) lv st w) : xk_X p l e R s m args below meth c Q E nL cells slots pc lv (.int y :: .int x :: st) w := fun H locs ls hH hS hl => lv_icmp_le (tgt := tgt) hC.1 hC.2.1 d ht (fun q => kt q H locs ls hH hS hl) (fun q => kf q H locs ls hH hS hl)
theorem xk_if_eq (hC : xk_C p s m args meth c E cc own nL) {x : Int32} {off : Int} {tgt : Nat} (d : decode cc pc = .ok (.ifCond .eq off, 3)) (ht : (pc : Int) + off = (tgt : Int)) (kt : x = 0 → xk_X p l e R s m args below meth c Q E nL cells slots tgt lv st w) (kf : ¬ x = 0 → xk_X p l e R s m args below meth c Q E nL cells slots (pc + 3) lv st w) : xk_X p l e R s m args below meth c Q E nL cells slots pc lv (.int x :: st) w := fun H locs ls hH hS hl => lv_if_eq (tgt := tgt) hC.1 hC.2.1 d ht (fun q => kt q H locs ls hH hS hl) (fun q => kf q H locs ls hH hS hl)
theorem xk_if_ne (hC : xk_C p s m args meth c E cc own nL) {x : Int32} {off : Int} {tgt : Nat} (d : decode cc pc = .ok (.ifCond .ne off, 3)) (ht : (pc : Int) + off = (tgt : Int)) (kt : ¬ x = 0 → xk_X p l e R s m args below meth c Q E nL cells slots tgt lv st w) (kf : x = 0 → xk_X p l e R s m args below meth c Q E nL cells slots (pc + 3) lv st w) : xk_X p l e R s m args below meth c Q E nL cells slots pc lv (.int x :: st) w := fun H locs ls hH hS hl => lv_if_ne (tgt := tgt) hC.1 hC.2.1 d ht (fun q => kt q H locs ls hH hS hl) (fun q => kf q H locs ls hH hS hl)
theorem xk_if_lt (hC : xk_C p s m args meth c E cc own nL) {x : Int32} {off : Int} {tgt : Nat} (d : decode cc pc = .ok (.ifCond .lt off, 3)) (ht : (pc : Int) + off = (tgt : Int)) (kt : x < 0 → xk_X p l e R s m args below meth c Q E nL cells slots tgt lv st w) (kf : ¬ x < 0 → xk_X p l e R s m args below meth c Q E nL cells slots (pc + 3) lv st w) : xk_X p l e R s m args below meth c Q E nL cells slots pc lv (.int x :: st) w := fun H locs ls hH hS hl => lv_if_lt (tgt := tgt) hC.1 hC.2.1 d ht (fun q => kt q H locs ls hH hS hl) (fun q => kf q H locs ls hH hS hl)
theorem xk_if_ge (hC : xk_C p s m args meth c E cc own nL) {x : Int32} {off : Int} {tgt : Nat} (d : decode cc pc = .ok (.ifCond .ge off, 3)) (ht : (pc : Int) + off = (tgt : Int)) (kt : 0 ≤ x → xk_X p l e R s m args below meth c Q E nL cells slots tgt lv st w) (kf : ¬ 0 ≤ x → xk_X p l e R s m args below meth c Q E nL cells slots (pc + 3) lv st w) : xk_X p l e R s m args below meth c Q E nL cells slots pc lv (.int x :: st) w := fun H locs ls hH hS hl => lv_if_ge (tgt := tgt) hC.1 hC.2.1 d ht (fun q => kt q H locs ls hH hS hl) (fun q => kf q H locs ls hH hS hl)
theorem xk_if_gt (hC : xk_C p s m args meth c E cc own nL) {x : Int32} {off : Int} {tgt : Nat} (d : decode cc pc = .ok (.ifCond .gt off, 3)) (ht : (pc : Int) + off = (tgt : Int)) (kt : 0 < x → xk_X p l e R s m args below meth c Q E nL cells slots tgt lv st w) (kf : ¬ 0 < x → xk_X p l e R s m args below meth c Q E nL cells slots (pc + 3) lv st w) : xk_X p l e R s m args below meth c Q E nL cells slots pc lv (.int x :: st) w := fun H locs ls hH hS hl => lv_if_gt (tgt := tgt) hC.1 hC.2.1 d ht (fun q => kt q H locs ls hH hS hl) (fun q => kf q H locs ls hH hS hl)
theorem xk_if_le (hC : xk_C p s m args meth c E cc own nL) {x : Int32} {off : Int} {tgt : Nat} (d : decode cc pc = .ok (.ifCond .le off, 3)) (ht : (pc : Int) + off = (tgt : Int)) (kt : x ≤ 0 → xk_X p l e R s m args below meth c Q E nL cells slots tgt lv st w) (kf : ¬ x ≤ 0 → xk_X p l e R s m args below meth c Q E nL cells slots (pc + 3) lv st w) : xk_X p l e R s m args below meth c Q E nL cells slots pc lv (.int x :: st) w := fun H locs ls hH hS hl => lv_if_le (tgt := tgt) hC.1 hC.2.1 d ht (fun q => kt q H locs ls hH hS hl) (fun q => kf q H locs ls hH hS hl)
theorem xk_acmp_eq (hC : xk_C p s m args meth c E cc own nL) {x y : Option Nat} {off : Int} {tgt : Nat} (d : decode cc pc = .ok (.if_acmp .eq off, 3)) (ht : (pc : Int) + off = (tgt : Int)) (kt : x = y → xk_X p l e R s m args below meth c Q E nL cells slots tgt lv st w) (kf : ¬ x = y → xk_X p l e R s m args below meth c Q E nL cells slots (pc + 3) lv st w) : xk_X p l e R s m args below meth c Q E nL cells slots pc lv (va_rf y :: va_rf x :: st) w := fun H locs ls hH hS hl => lv_acmp_eq (tgt := tgt) hC.1 hC.2.1 d ht (fun q => kt q H locs ls hH hS hl) (fun q => kf q H locs ls hH hS hl)
theorem xk_acmp_ne (hC : xk_C p s m args meth c E cc own nL) {x y : Option Nat} {off : Int} {tgt : Nat} (d : decode cc pc = .ok (.if_acmp .ne off, 3)) (ht : (pc : Int) + off = (tgt : Int)) (kt : ¬ x = y → xk_X p l e R s m args below meth c Q E nL cells slots tgt lv st w) (kf : x = y → xk_X p l e R s m args below meth c Q E nL cells slots (pc + 3) lv st w) : xk_X p l e R s m args below meth c Q E nL cells slots pc lv (va_rf y :: va_rf x :: st) w := fun H locs ls hH hS hl => lv_acmp_ne (tgt := tgt) hC.1 hC.2.1 d ht (fun q => kt q H locs ls hH hS hl) (fun q => kf q H locs ls hH hS hl)
theorem xk_tableIn (hC : xk_C p s m args meth c E cc own nL) {dflt lo hi : Int} {offs : Array Int} {len : Nat} {x : Int32} {off : Int} {tgt : Nat} (d : decode cc pc = .ok (.tableswitch dflt lo hi offs, len)) (h1 : ¬ x.toInt < lo) (h2 : ¬ hi < x.toInt) (ho : offs[(x.toInt - lo).toNat]? = some off) (ht : (pc : Int) + off = (tgt : Int)) (kk : xk_X p l e R s m args below meth c Q E nL cells slots tgt lv st w) : xk_X p l e R s m args below meth c Q E nL cells slots pc lv (.int x :: st) w := fun H locs ls hH hS hl => lv_tableIn (tgt := tgt) hC.1 hC.2.1 d h1 h2 ho ht (kk H locs ls hH hS hl)
theorem xk_tableOut (hC : xk_C p s m args meth c E cc own nL) {dflt lo hi : Int} {offs : Array Int} {len : Nat} {x : Int32} {tgt : Nat} (d : decode cc pc = .ok (.tableswitch dflt lo hi offs, len)) (h : x.toInt < lo ∨ hi < x.toInt) (ht : (pc : Int) + dflt = (tgt : Int)) (kk : xk_X p l e R s m args below meth c Q E nL cells slots tgt lv st w) : xk_X p l e R s m args below meth c Q E nL cells slots pc lv (.int x :: st) w := fun H locs ls hH hS hl => lv_tableOut (tgt := tgt) hC.1 hC.2.1 d h ht (kk H locs ls hH hS hl)
end XK
