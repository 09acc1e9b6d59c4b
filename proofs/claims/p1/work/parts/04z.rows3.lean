/-! exceptions, long rows, rows of rows, an interface, the cache of small Integers -/
def xk_xn : Nat → String
  | 0 => "java/lang/IllegalArgumentException"
  | 1 => "java/lang/IllegalStateException"
  | _ => "java/lang/IndexOutOfBoundsException"
def xk_or {α β : Type} (o : Option α) (k : α → Option β) (d : Option β) : Option β := match o with
  | some x => k x
  | none => d
theorem xk_or_e {α β : Type} {o : Option α} {k : α → Option β} {d : Option β} {r : β} (h : xk_or o k d = some r) : (o = none ∧ d = some r) ∨ ∃ x, o = some x ∧ k x = some r := by
  cases o with
  | none => exact Or.inl ⟨rfl, h⟩
  | some x => exact Or.inr ⟨x, rfl, h⟩
def xk_QN : Array Value → State → Outcome → State → Prop := fun _ _ _ _ => False
/-- thrown: the class' number, the world behind it -/
def xk_XC (E : xEv) (r : Nat × xWd) : String → State → State → Prop := vx_X (fun (_ : Unit) => True) (fun C _ t => C = xk_xn r.1 ∧ xk_H E r.2 t.heap) (xk_A E.2.2.1)
def xk_MX (l : Launch) (y : MethodName) (b : ByteArray) (nL : Nat) (ret : Option FieldType) (fr lc mc ms : Nat) (E : xEv) (av : List Value) (w : xWd) (r : Nat × xWd) : Prop :=
  vx_Met l y (Cond.code y b nL ret :: xk_T) { frames := fr, cells := mc, slots := ms, locals := lc } (va_Pc av (fun U => xk_H E w U.heap ∧ xk_S E U)) xk_QN (xk_XC E r) mc ms (xk_A E.2.2.1)
/-- a method with a table of its own, that returns -/
def xk_MH (l : Launch) (y : MethodName) (b : ByteArray) (nL : Nat) (ret : Option FieldType) (hh : List (Nat × Nat × Nat × Nat)) (fr lc mc ms : Nat) (E : xEv) (av : List Value) (w : xWd) (Qc : Array Value → State → Outcome → State → Prop) : Prop :=
  Met l y (Cond.codeWith y b nL ret hh :: xk_T) { frames := fr, cells := mc, slots := ms, locals := lc } (va_Pc av (fun U => xk_H E w U.heap ∧ xk_S E U)) Qc mc ms (xk_A E.2.2.1)
theorem xk_ofWH {l : Launch} {y : MethodName} {ws ws' : List Cond} {rm : Room} {Pc : Array Value → State → Prop} {Qc : Array Value → State → Outcome → State → Prop} {mc ms : Nat} {free : Addr → Prop} {cc : ByteArray} {maxL : Nat} {ret : Option FieldType} {hh : List (Nat × Nat × Nat × Nat)}
    (hy : plainName y.cls = true) (hw : ws = Cond.codeWith y cc maxL ret hh :: ws')
    (body : ∀ p e s m args below meth c s₁, BodyLoose p l y (headSpec ws rm) cc maxL ret e s m args below meth c s₁ → c.maxLocals = maxL → Pc args s →
      W p l e (headSpec ws rm).room s m args below meth c s.heap [] 0 0 (MQ below Qc args s mc ms free) (entryFrame m args maxL)) : Met l y ws rm Pc Qc mc ms free := by
  refine MetFree.of_bodyS (code := cc) (maxLocals := maxL) (ret := ret) hy ?_ ?_
  · intro args s m h hn
    obtain ⟨m9, meth, c, hn9, h1, h2, h3, h4, -, h5, h6, -⟩ := Cond.codeWith_spec (atoms_spec (ws := ws) h _ (by rw [hw]; exact List.mem_cons_self))
    cases hn.symm.trans hn9
    exact ⟨meth, c, h1, h2, h3, h4, h5, h6⟩
  · intro p e s m args below meth c s₁ B hml hP _
    have hh0 : s₁.heap = s.heap := by rw [B.state]; rfl
    obtain ⟨t, a1, o, b1, b2, b3⟩ := body p e s m args below meth c s₁ B hml hP s₁ hh0 (Stand.of_body B)
    exact ⟨t, o, a1, b1, b2, ⟨b3.1, b3.2⟩⟩
/-- 'throw new E("text")', with the heap's size behind it (follows vx_throwS of the kit) -/
theorem xk_throwS {p : Program} {l : Launch} {e : Env} {R : Room} {s : State} {m : MethodId} {args : Array Value} {below : List Frame} {meth : Method} {c : Code} {H : Heap} {locs : List Loc} {cells slots mc ms : Nat} {free : Addr → Prop} {ls : Array Slot} {rest : List Value} {Qc : Array Value → State → Outcome → State → Prop} {XC : String → State → State → Prop}
    {cc : ByteArray} {pc : Nat} (hexec : p.tables.exec = Jvm.exec) (hb : c.code = cc) (hl : l.stackTraces = false) {own cls text : String} {names : List String} {ik is ic sa : Nat} {A : Nat → Prop}
    (hown : s.vm.findClass own = some m.cls) (hcls : Bundle.fit cls = true) (hnames : ∀ n ∈ names, Bundle.fit n = true)
    (hk : (Cond.classLink own ik cls).before args s = true) (hini : (Cond.initialized cls).before args s = true) (hstr : vk_R own is text sa s) (hat : ∀ w ∈ vx_atS own ic cls names, w.before args s = true)
    (hgood : ∀ w ∈ Cond.classLink own ik cls :: Cond.initialized cls :: vx_atS own ic cls names, vx_ot w = true)
    (hU : vx_Zq Bundle.tN "UNASSIGNED_STACK" Bundle.steD A s s.heap) (hN : vx_Zq Bundle.tN "SUPPRESSED_SENTINEL" Bundle.listD A s s.heap) (hS : va_S A s.heap H locs) (hsize : ls.size = c.maxLocals)
    (d0 : decode cc pc = .ok (.new ik, 3)) (d3 : decode cc (pc + 3) = .ok (.dup, 1)) (d4 : decode cc (pc + 4) = .ok (.ldc is, 2)) (d6 : decode cc (pc + 6) = .ok (.invokespecial ic, 3)) (d9 : decode cc (pc + 9) = .ok (.athrow, 1))
    (hout : ∀ x ∈ c.exceptionTable.toList, covers x (pc + 9) = false)
    (hRframes : names.length + 3 < R.frames) (hRlocals : (rest.map fun v => v.category).sum + (13 * (names.length + 1) + 43) ≤ R.locals) (hRcells : cells + 1 ≤ R.cells) (hRslots : slots + 6 ≤ R.slots) (hlocks : meth.locks = false)
    (hx : ∀ t : State, s.vm.Alike t.vm → t.heap.size = H.size + 1 → (∀ q : Nat, q < H.size → t.heap[q]? = H[q]?) → XC cls s t)
    (hf : ∀ z ∈ locs, free z.base) (hc : cells + 1 ≤ mc) (hs : slots + 6 ≤ ms) :
    W p l e R s m args below meth c H locs cells slots (vx_MQ below Qc XC args s mc ms free) (F0 m pc ls rest) := by
  intro T hT X
  have htr : e.platform.stackTraces = false := (show e.platform.stackTraces = l.stackTraces by rw [X.admits.platform]).trans hl
  have Y := vx_rebase X (R' := { frames := R.frames, locals := R.locals, cells := 1, slots := 6 }) (Nat.le_refl _) (Nat.le_refl _) hRcells hRslots
  obtain ⟨s', hA⟩ : ∃ z, z = (T.setVm s.vm).setFrames (.invoking m args :: below) := ⟨_, rfl⟩
  rw [← hA] at Y
  have hvm : s'.vm = s.vm := by rw [hA]; rfl
  have hhp : s'.heap = H := by rw [hA]; exact hT
  have hW0 : s.WarmedH s'.vm := by rw [hvm]; exact State.WarmedH.refl s
  have hat' : ∀ w ∈ vx_atS own ic cls names, w.before args s' = true := fun w hw => vx_ot_at hW0 hvm.symm (hgood w (List.mem_cons_of_mem _ (List.mem_cons_of_mem _ hw))) (hat w hw)
  have hk' : (Cond.classLink own ik cls).before args s' = true := vx_ot_at hW0 hvm.symm (hgood _ List.mem_cons_self) hk
  have hini' : (Cond.initialized cls).before args s' = true := vx_ot_at hW0 hvm.symm (hgood _ (List.mem_cons_of_mem _ List.mem_cons_self)) hini
  have hU' : vx_Zq Bundle.tN "UNASSIGNED_STACK" Bundle.steD A s' s'.heap := by rw [hhp]; exact vx_Zq.moved hW0.alike (hU.kept hS.2.1)
  have hN' : vx_Zq Bundle.tN "SUPPRESSED_SENTINEL" Bundle.listD A s' s'.heap := by rw [hhp]; exact vx_Zq.moved hW0.alike (hN.kept hS.2.1)
  have h : ∀ w ∈ Bundle.ownAtoms own ic cls names, w.before args s' = true := vx_own hat' (vx_isRefq hU'.1) (vx_isRefq hN'.1) hU'.2.word hN'.2.word
  have hown' : s'.vm.findClass own = some m.cls := by rw [hvm]; exact hown
  have hins : (Cond.instantiable cls 6).before args s' = true := h _ (by simp [Bundle.ownAtoms])
  obtain ⟨vm₁, cX, kX, hfX, hkX, -, -, X₁, st1⟩ := Y.newCold hexec (own := own) (C := cls) (index := ik) (n := 6) hown' hk' hins hini'
    (g := F0 m pc ls rest) rfl (by rw [hb]; exact d0) (Nat.le_refl _) (Nat.le_refl _)
  generalize hT1 : (T.setVm vm₁).pushCell { cls := cX, slots := kX.instanceTypes.map defaultValue, vm := .none } = T1 at X₁ st1
  have hcat : (Value.ref T.heap.size).category = 1 := rfl
  have hcellA : T1.heap[T.heap.size]? = some (freshCell cX kX) := by rw [← hT1]; exact State.heap_pushCell_size _ _
  have d3' : decode c.code (pc + 3) = .ok (.dup, 1) := by rw [hb]; exact d3
  have d4' : decode c.code (pc + 4) = .ok (.ldc is, 2) := by rw [hb]; exact d4
  have hstr' : vk_R own is text sa s' := vk_R.warm hW0 hstr
  obtain ⟨U, hsteps, hrun, hend, hW, hsame, ce, hce, hO⟩ := X₁.ctorThrowS hexec htr (own := own) (cls := cls) (names := names) (ic := ic) hown' hcls hnames h (fun x hx => nomatch hx) hfX hkX hcellA (by rw [hhp, hT]; exact Nat.le_refl _) (msg := .ref sa) rfl
    (g := { method := m, pc := pc + 6, locals := ls, stack := .ref sa :: .ref T.heap.size :: .ref T.heap.size :: rest, locked := none }) rfl hsize rfl rfl (rest := rest) rfl
    (by rw [hb]; exact d6) (by rw [hb]; exact d9) hout hRframes (by simp only [List.map_cons, List.sum_cons, hcat]; omega) hlocks
  obtain ⟨f1, f2⟩ := vx_frame hsame
  have f3 : U.heap.size ≤ H.size + 1 := by
    have h9 : U.heap.size ≤ s'.heap.size + (0 + 1) := hsame.2.2.1
    rw [hhp] at h9
    exact h9
  have f4 : H.size < U.heap.size := by rw [← hT]; exact (Array.getElem?_eq_some_iff.mp hce).1
  rw [hhp] at f1 f2
  have hWs : s.WarmedH U.vm := State.WarmedH.trans hW0 hW
  have hcl : s.vm.findClass cls = some ce.cls := by
    have h9 := hO.cls
    rw [hvm] at h9
    exact h9
  have hall : s.sameButNew ({ U with vm := s.vm } : State) locs mc ms := by
    subst hA
    obtain ⟨e1, e2⟩ := hsame
    rw [State.setFrames_setFrames] at e1
    have h2 : (T.setVm s.vm).sameButNew ({ U with vm := s.vm } : State) [] (0 + 1) (0 + 6) := ⟨e1, e2⟩
    have h3 := X.same.trans h2
    rw [List.append_nil] at h3
    exact h3.mono hc hs
  refine ⟨U, ?_, .threw T.heap.size, hrun, hend, Or.inr ⟨T.heap.size, rfl, cls, ce, locs, hx U hWs.alike (by omega) (fun q hq => f2 q hq (fun z hz => nomatch hz)), hce, hO.vm, hcl, hWs, hall, hf⟩⟩
  refine st1 _ ?_
  show Steps p.tables e below (T1.setTop { method := m, pc := pc + 3, locals := ls, stack := .ref T.heap.size :: rest, locked := none }) _
  jvm_step X₁.here [X₁.here.top, hexec, d3', Value.category]
  exact X₁.ldcString hexec (own := own) (text := text) (index := is) (a := sa) hown' hstr'.1 hstr'.2
    (g := { method := m, pc := pc + 4, locals := ls, stack := .ref T.heap.size :: .ref T.heap.size :: rest, locked := none }) rfl d4' _ hsteps
/-- 'throw new E("text")', the text by a wide index, with the heap's size behind it (follows vx_throwS of the kit) -/
theorem xk_throwSW {p : Program} {l : Launch} {e : Env} {R : Room} {s : State} {m : MethodId} {args : Array Value} {below : List Frame} {meth : Method} {c : Code} {H : Heap} {locs : List Loc} {cells slots mc ms : Nat} {free : Addr → Prop} {ls : Array Slot} {rest : List Value} {Qc : Array Value → State → Outcome → State → Prop} {XC : String → State → State → Prop}
    {cc : ByteArray} {pc : Nat} (hexec : p.tables.exec = Jvm.exec) (hb : c.code = cc) (hl : l.stackTraces = false) {own cls text : String} {names : List String} {ik is ic sa : Nat} {A : Nat → Prop}
    (hown : s.vm.findClass own = some m.cls) (hcls : Bundle.fit cls = true) (hnames : ∀ n ∈ names, Bundle.fit n = true)
    (hk : (Cond.classLink own ik cls).before args s = true) (hini : (Cond.initialized cls).before args s = true) (hstr : vk_R own is text sa s) (hat : ∀ w ∈ vx_atS own ic cls names, w.before args s = true)
    (hgood : ∀ w ∈ Cond.classLink own ik cls :: Cond.initialized cls :: vx_atS own ic cls names, vx_ot w = true)
    (hU : vx_Zq Bundle.tN "UNASSIGNED_STACK" Bundle.steD A s s.heap) (hN : vx_Zq Bundle.tN "SUPPRESSED_SENTINEL" Bundle.listD A s s.heap) (hS : va_S A s.heap H locs) (hsize : ls.size = c.maxLocals)
    (d0 : decode cc pc = .ok (.new ik, 3)) (d3 : decode cc (pc + 3) = .ok (.dup, 1)) (d4 : decode cc (pc + 4) = .ok (.ldc_w is, 3)) (d6 : decode cc (pc + 7) = .ok (.invokespecial ic, 3)) (d9 : decode cc (pc + 10) = .ok (.athrow, 1))
    (hout : ∀ x ∈ c.exceptionTable.toList, covers x (pc + 10) = false)
    (hRframes : names.length + 3 < R.frames) (hRlocals : (rest.map fun v => v.category).sum + (13 * (names.length + 1) + 43) ≤ R.locals) (hRcells : cells + 1 ≤ R.cells) (hRslots : slots + 6 ≤ R.slots) (hlocks : meth.locks = false)
    (hx : ∀ t : State, s.vm.Alike t.vm → t.heap.size = H.size + 1 → (∀ q : Nat, q < H.size → t.heap[q]? = H[q]?) → XC cls s t)
    (hf : ∀ z ∈ locs, free z.base) (hc : cells + 1 ≤ mc) (hs : slots + 6 ≤ ms) :
    W p l e R s m args below meth c H locs cells slots (vx_MQ below Qc XC args s mc ms free) (F0 m pc ls rest) := by
  intro T hT X
  have htr : e.platform.stackTraces = false := (show e.platform.stackTraces = l.stackTraces by rw [X.admits.platform]).trans hl
  have Y := vx_rebase X (R' := { frames := R.frames, locals := R.locals, cells := 1, slots := 6 }) (Nat.le_refl _) (Nat.le_refl _) hRcells hRslots
  obtain ⟨s', hA⟩ : ∃ z, z = (T.setVm s.vm).setFrames (.invoking m args :: below) := ⟨_, rfl⟩
  rw [← hA] at Y
  have hvm : s'.vm = s.vm := by rw [hA]; rfl
  have hhp : s'.heap = H := by rw [hA]; exact hT
  have hW0 : s.WarmedH s'.vm := by rw [hvm]; exact State.WarmedH.refl s
  have hat' : ∀ w ∈ vx_atS own ic cls names, w.before args s' = true := fun w hw => vx_ot_at hW0 hvm.symm (hgood w (List.mem_cons_of_mem _ (List.mem_cons_of_mem _ hw))) (hat w hw)
  have hk' : (Cond.classLink own ik cls).before args s' = true := vx_ot_at hW0 hvm.symm (hgood _ List.mem_cons_self) hk
  have hini' : (Cond.initialized cls).before args s' = true := vx_ot_at hW0 hvm.symm (hgood _ (List.mem_cons_of_mem _ List.mem_cons_self)) hini
  have hU' : vx_Zq Bundle.tN "UNASSIGNED_STACK" Bundle.steD A s' s'.heap := by rw [hhp]; exact vx_Zq.moved hW0.alike (hU.kept hS.2.1)
  have hN' : vx_Zq Bundle.tN "SUPPRESSED_SENTINEL" Bundle.listD A s' s'.heap := by rw [hhp]; exact vx_Zq.moved hW0.alike (hN.kept hS.2.1)
  have h : ∀ w ∈ Bundle.ownAtoms own ic cls names, w.before args s' = true := vx_own hat' (vx_isRefq hU'.1) (vx_isRefq hN'.1) hU'.2.word hN'.2.word
  have hown' : s'.vm.findClass own = some m.cls := by rw [hvm]; exact hown
  have hins : (Cond.instantiable cls 6).before args s' = true := h _ (by simp [Bundle.ownAtoms])
  obtain ⟨vm₁, cX, kX, hfX, hkX, -, -, X₁, st1⟩ := Y.newCold hexec (own := own) (C := cls) (index := ik) (n := 6) hown' hk' hins hini'
    (g := F0 m pc ls rest) rfl (by rw [hb]; exact d0) (Nat.le_refl _) (Nat.le_refl _)
  generalize hT1 : (T.setVm vm₁).pushCell { cls := cX, slots := kX.instanceTypes.map defaultValue, vm := .none } = T1 at X₁ st1
  have hcat : (Value.ref T.heap.size).category = 1 := rfl
  have hcellA : T1.heap[T.heap.size]? = some (freshCell cX kX) := by rw [← hT1]; exact State.heap_pushCell_size _ _
  have d3' : decode c.code (pc + 3) = .ok (.dup, 1) := by rw [hb]; exact d3
  have d4' : decode c.code (pc + 4) = .ok (.ldc_w is, 3) := by rw [hb]; exact d4
  have hstr' : vk_R own is text sa s' := vk_R.warm hW0 hstr
  obtain ⟨U, hsteps, hrun, hend, hW, hsame, ce, hce, hO⟩ := X₁.ctorThrowS hexec htr (own := own) (cls := cls) (names := names) (ic := ic) hown' hcls hnames h (fun x hx => nomatch hx) hfX hkX hcellA (by rw [hhp, hT]; exact Nat.le_refl _) (msg := .ref sa) rfl
    (g := { method := m, pc := pc + 7, locals := ls, stack := .ref sa :: .ref T.heap.size :: .ref T.heap.size :: rest, locked := none }) rfl hsize rfl rfl (rest := rest) rfl
    (by rw [hb]; exact d6) (by rw [hb]; exact d9) hout hRframes (by simp only [List.map_cons, List.sum_cons, hcat]; omega) hlocks
  obtain ⟨f1, f2⟩ := vx_frame hsame
  have f3 : U.heap.size ≤ H.size + 1 := by
    have h9 : U.heap.size ≤ s'.heap.size + (0 + 1) := hsame.2.2.1
    rw [hhp] at h9
    exact h9
  have f4 : H.size < U.heap.size := by rw [← hT]; exact (Array.getElem?_eq_some_iff.mp hce).1
  rw [hhp] at f1 f2
  have hWs : s.WarmedH U.vm := State.WarmedH.trans hW0 hW
  have hcl : s.vm.findClass cls = some ce.cls := by
    have h9 := hO.cls
    rw [hvm] at h9
    exact h9
  have hall : s.sameButNew ({ U with vm := s.vm } : State) locs mc ms := by
    subst hA
    obtain ⟨e1, e2⟩ := hsame
    rw [State.setFrames_setFrames] at e1
    have h2 : (T.setVm s.vm).sameButNew ({ U with vm := s.vm } : State) [] (0 + 1) (0 + 6) := ⟨e1, e2⟩
    have h3 := X.same.trans h2
    rw [List.append_nil] at h3
    exact h3.mono hc hs
  refine ⟨U, ?_, .threw T.heap.size, hrun, hend, Or.inr ⟨T.heap.size, rfl, cls, ce, locs, hx U hWs.alike (by omega) (fun q hq => f2 q hq (fun z hz => nomatch hz)), hce, hO.vm, hcl, hWs, hall, hf⟩⟩
  refine st1 _ ?_
  show Steps p.tables e below (T1.setTop { method := m, pc := pc + 3, locals := ls, stack := .ref T.heap.size :: rest, locked := none }) _
  jvm_step X₁.here [X₁.here.top, hexec, d3', Value.category]
  exact X₁.ldcStringW hexec (own := own) (text := text) (index := is) (a := sa) hown' hstr'.1 hstr'.2
    (g := { method := m, pc := pc + 4, locals := ls, stack := .ref T.heap.size :: .ref T.heap.size :: rest, locked := none }) rfl d4' _ hsteps
theorem xk_H.bump {E : xEv} {w : xWd} {H H1 : Heap} (h : xk_H E w H) (hs : H1.size = H.size + 1) (ho : ∀ q : Nat, q < H.size → H1[q]? = H[q]?) : xk_H E (w.1, w.2.1 + 1, w.2.2) H1 := by
  refine ⟨by rw [hs, h.1], Nat.le_succ_of_le h.2.1, h.2.2.1, fun b y hb => ?_⟩
  have hb : w.1 b = some y := hb
  exact ⟨(h.2.2.2 b y hb).1, fun q => ⟨((h.2.2.2 b y hb).2 q).1.kept (ho b ((h.2.2.2 b y hb).2 q).1.lt), ((h.2.2.2 b y hb).2 q).2⟩⟩
section XT
variable {p : Program} {l : Launch} {e : Env} {R : Room} {s : State} {m : MethodId} {args : Array Value} {below : List Frame} {meth : Method} {c : Code} {Q : State → Prop}
variable {E : xEv} {cc : ByteArray} {own : String} {nL cells slots pc : Nat} {lv lv' : List (Nat × Value)} {st : List Value} {w w1 : xWd}
variable {C ref : String} {T : u_T} {N ci index : Nat} {r : Option Nat}
theorem xk_enterX {y : MethodName} {b : ByteArray} {ret : Option FieldType} {fr lc mc ms : Nat} {av : List Value} {q : Nat × xWd} (hy : plainName y.cls = true) (hn : (lg_sl av).length ≤ nL)
    (h : ∀ (p : Program) (e : Env) (s : State) (m : MethodId) (args : Array Value) (below : List Frame) (meth : Method) (c : Code), xk_C p s m args meth c E b y.cls nL → meth.sig.returnType = ret → (∀ x ∈ c.exceptionTable.toList, False) → args = av.toArray → xk_X p l e { frames := fr, cells := mc, slots := ms, locals := lc } s m args below meth c (vx_MQ below xk_QN (xk_XC E q) args s mc ms (xk_A E.2.2.1)) E nL 0 0 0 (lv_args 0 av) [] w) : xk_MX l y b nL ret fr lc mc ms E av w q := by
  refine vx_ofW (cc := b) (maxL := nL) (ret := ret) hy rfl ?_
  intro p e s m args below meth c s₁ B hml hX hv
  obtain ⟨rfl, hH, hS⟩ := hv
  have hts := atoms_spec (ws := Cond.code y b nL ret :: xk_T) B.pre
  have hl := lv_entry av (n := nL) hn
  rw [lg_entry_eq]
  exact h p e s m _ below meth c ⟨B.exec, B.bytes, hml, findClass_of_methodNamed B.named, fun w hw => hts w (List.mem_cons_of_mem _ hw), B.notSynchronized, hS⟩ B.returns hX rfl s.heap [] _ hH va_S.rf hl
theorem xk_enterH {y : MethodName} {b : ByteArray} {ret : Option FieldType} {hh : List (Nat × Nat × Nat × Nat)} {fr lc mc ms : Nat} {av : List Value} {Qc : Array Value → State → Outcome → State → Prop} (hy : plainName y.cls = true) (hn : (lg_sl av).length ≤ nL)
    (h : ∀ (p : Program) (e : Env) (s : State) (m : MethodId) (args : Array Value) (below : List Frame) (meth : Method) (c : Code), xk_C p s m args meth c E b y.cls nL → meth.sig.returnType = ret → c.exceptionTable.toList = tableOf hh → args = av.toArray → xk_X p l e { frames := fr, cells := mc, slots := ms, locals := lc } s m args below meth c (MQ below Qc args s mc ms (xk_A E.2.2.1)) E nL 0 0 0 (lv_args 0 av) [] w) : xk_MH l y b nL ret hh fr lc mc ms E av w Qc := by
  refine xk_ofWH (cc := b) (maxL := nL) (ret := ret) (hh := hh) hy rfl ?_
  intro p e s m args below meth c s₁ B hml hv
  obtain ⟨rfl, hH, hS⟩ := hv
  have hts := atoms_spec (ws := Cond.codeWith y b nL ret hh :: xk_T) B.pre
  have hl := lv_entry av (n := nL) hn
  rw [lg_entry_eq]
  exact h p e s m _ below meth c ⟨B.exec, B.bytes, hml, findClass_of_methodNamed B.named, fun w hw => hts w (List.mem_cons_of_mem _ hw), B.notSynchronized, hS⟩ B.returns (vx_table (x := y) B (hts _ List.mem_cons_self)) rfl s.heap [] _ hH va_S.rf hl
theorem xk_throw (hC : xk_C p s m args meth c E cc own nL) (hX : ∀ x ∈ c.exceptionTable.toList, False) (hl9 : l.stackTraces = false) {cls text : String} {names : List String} {B : List Cond} {k ik is ic k9 n9 : Nat} (hkc : xk_xn k = cls) (hcls : Bundle.fit cls = true) (hnames : ∀ n ∈ names, Bundle.fit n = true) (hlen : names.length = 2)
    (hk : Cond.classLink own ik cls ∈ xk_T) (hini : Cond.initialized cls ∈ xk_T) (hstr : ∃ sa, vk_R own is text sa s) (hg : ∀ w ∈ (vx_atS own ic cls names).filter goodWord, w ∈ xk_T) (hb : ∀ w ∈ (vx_atS own ic cls names).filter (fun w => !goodWord w), w ∈ B) (hB : ∀ w ∈ B, w.before args s = true)
    (hgood : ∀ w ∈ Cond.classLink own ik cls :: Cond.initialized cls :: vx_atS own ic cls names, vx_ot w = true)
    (d0 : decode cc pc = .ok (.new ik, 3)) (d3 : decode cc (pc + 3) = .ok (.dup, 1)) (d4 : decode cc (pc + 4) = .ok (.ldc is, 2)) (d6 : decode cc (pc + 6) = .ok (.invokespecial ic, 3)) (d9 : decode cc (pc + 9) = .ok (.athrow, 1))
    (hRf : 5 < R.frames) (hRl : (st.map fun v => v.category).sum + 82 ≤ R.locals) (hRc : cells + 1 ≤ R.cells) (hRs : slots + 6 ≤ R.slots) (hc : cells + 1 ≤ k9) (hs : slots + 6 ≤ n9) :
    xk_X p l e R s m args below meth c (vx_MQ below xk_QN (xk_XC E (k, (w.1, w.2.1 + 1, w.2.2))) args s k9 n9 (xk_A E.2.2.1)) E nL cells slots pc lv st w := by
  intro H locs ls hH hS hl
  obtain ⟨sa, hstr⟩ := hstr
  have hJ := hC.2.2.2.2.2.2.2.2.2.1.2.2.1
  refine xk_throwS (A := xk_A E.2.2.1) hC.1 hC.2.1 hl9 hC.2.2.2.1 hcls hnames (hC.2.2.2.2.1 _ hk) (hC.2.2.2.2.1 _ hini) hstr (vx_hat (fun w hw => hC.2.2.2.2.1 _ (hg w hw)) hb hB) hgood hJ.1 hJ.2.1 hS (hl.1.trans hC.2.2.1.symm) d0 d3 d4 d6 d9 (fun x hx => (hX x hx).elim) (by omega) (by rw [hlen]; omega) hRc hRs hC.2.2.2.2.2.1 (fun t hvm hsz ho => ⟨(), trivial, ⟨hkc.symm, hH.bump hsz ho⟩, ?_⟩) hS.2.2 hc hs
  exact ⟨Nat.le_trans hS.1 (by omega), fun q h1 h2 => (ho q (Nat.lt_of_lt_of_le h1 hS.1)).trans (hS.2.1 q h1 h2)⟩
theorem xk_throwW (hC : xk_C p s m args meth c E cc own nL) (hX : ∀ x ∈ c.exceptionTable.toList, False) (hl9 : l.stackTraces = false) {cls text : String} {names : List String} {B : List Cond} {k ik is ic k9 n9 : Nat} (hkc : xk_xn k = cls) (hcls : Bundle.fit cls = true) (hnames : ∀ n ∈ names, Bundle.fit n = true) (hlen : names.length = 2)
    (hk : Cond.classLink own ik cls ∈ xk_T) (hini : Cond.initialized cls ∈ xk_T) (hstr : ∃ sa, vk_R own is text sa s) (hg : ∀ w ∈ (vx_atS own ic cls names).filter goodWord, w ∈ xk_T) (hb : ∀ w ∈ (vx_atS own ic cls names).filter (fun w => !goodWord w), w ∈ B) (hB : ∀ w ∈ B, w.before args s = true)
    (hgood : ∀ w ∈ Cond.classLink own ik cls :: Cond.initialized cls :: vx_atS own ic cls names, vx_ot w = true)
    (d0 : decode cc pc = .ok (.new ik, 3)) (d3 : decode cc (pc + 3) = .ok (.dup, 1)) (d4 : decode cc (pc + 4) = .ok (.ldc_w is, 3)) (d6 : decode cc (pc + 7) = .ok (.invokespecial ic, 3)) (d9 : decode cc (pc + 10) = .ok (.athrow, 1))
    (hRf : 5 < R.frames) (hRl : (st.map fun v => v.category).sum + 82 ≤ R.locals) (hRc : cells + 1 ≤ R.cells) (hRs : slots + 6 ≤ R.slots) (hc : cells + 1 ≤ k9) (hs : slots + 6 ≤ n9) :
    xk_X p l e R s m args below meth c (vx_MQ below xk_QN (xk_XC E (k, (w.1, w.2.1 + 1, w.2.2))) args s k9 n9 (xk_A E.2.2.1)) E nL cells slots pc lv st w := by
  intro H locs ls hH hS hl
  obtain ⟨sa, hstr⟩ := hstr
  have hJ := hC.2.2.2.2.2.2.2.2.2.1.2.2.1
  refine xk_throwSW (A := xk_A E.2.2.1) hC.1 hC.2.1 hl9 hC.2.2.2.1 hcls hnames (hC.2.2.2.2.1 _ hk) (hC.2.2.2.2.1 _ hini) hstr (vx_hat (fun w hw => hC.2.2.2.2.1 _ (hg w hw)) hb hB) hgood hJ.1 hJ.2.1 hS (hl.1.trans hC.2.2.1.symm) d0 d3 d4 d6 d9 (fun x hx => (hX x hx).elim) (by omega) (by rw [hlen]; omega) hRc hRs hC.2.2.2.2.2.1 (fun t hvm hsz ho => ⟨(), trivial, ⟨hkc.symm, hH.bump hsz ho⟩, ?_⟩) hS.2.2 hc hs
  exact ⟨Nat.le_trans hS.1 (by omega), fun q h1 h2 => (ho q (Nat.lt_of_lt_of_le h1 hS.1)).trans (hS.2.1 q h1 h2)⟩
def xk_RX (p : Program) (l : Launch) (e : Env) (R : Room) (s : State) (m : MethodId) (args : Array Value) (below : List Frame) (meth : Method) (c : Code) (E : xEv) (nL cells slots mc ms pc : Nat) (lv : List (Nat × Value)) (st rest : List Value) (w : xWd) (q : Nat × xWd) : Prop :=
  ∀ (H : Heap) (locs : List Loc) (ls : Array Slot), xk_H E w H → va_S (xk_A E.2.2.1) s.heap H locs → lv_has ls nL lv → ∃ a : Array Value, vx_Run p l e R s m args below meth c H locs cells slots mc ms (F0 m pc ls st) rest (xk_QN a) (xk_XC E q) (xk_A E.2.2.1)
theorem xk_callVX (hC : xk_C p s m args meth c E cc own nL) {y : MethodName} {b : ByteArray} {nLy : Nat} {ret : Option FieldType} {fr lc mc ms : Nat} {av : List Value} {rest : List Value} {q : Nat × xWd} (n : Nat) (hc : xk_cl[ci]? = some (C, T, N)) (hM : xk_MX l y b nLy ret fr lc mc ms E (va_rf r :: av) w q) {u : Unit} (hr : xk_is w r ci = some u) (h1 : Cond.methodLink own index y ∈ xk_T) (h2 : Cond.instanceMethod y ∈ xk_T) (h3 : Cond.selects C y y ∈ xk_T) (h4 : Cond.initialized C ∈ xk_T) (h5 : Cond.code y b nLy ret ∈ xk_T) (hd : y.cls = C ∧ y.cls ≠ "java/lang/invoke/MethodHandle" ∧ y.cls ≠ "java/lang/invoke/VarHandle" ∧ (parseMethodDescriptor y.desc).map (fun d => d.parameters.length) = some n) (hn : av.length = n) (hR : fr + 1 ≤ R.frames ∧ 8 + (nLy + 11) + lc ≤ R.locals) (hst : st = av.reverse ++ va_rf r :: rest) (hro : (rest.map fun v => v.category).sum ≤ 8) (d : decode cc pc = .ok (.invokevirtual index, 3)) (hf : cells + mc ≤ R.cells ∧ slots + ms ≤ R.slots) : xk_RX p l e R s m args below meth c E nL cells slots mc ms pc lv st rest w q := by
  intro H locs ls hH hS hl
  obtain ⟨fs, hr1, -⟩ := xk_bi hr
  obtain ⟨a, rfl, hm⟩ := xk_obj_e hr1
  exact ⟨_, vx_runV (As := av) (rest := rest) (b := a) (nL := nL) ⟨hC.1, hC.2.1, hC.2.2.1, hC.2.2.2.1, hC.2.2.2.2.1⟩ hM (cwV n hC.2.2.2.2.1 (xk_gv h1 h2 h3 h4 h5) rfl rfl rfl hd hR) ⟨xk_blind, va_recv hC.2.2.2.2.2.2.2.1 (xk_one (hH.at hm (fun h => Bool.noConfusion h))) (ci := ci) (q0 := 0) hc rfl, fun U hU hW => ⟨rfl, by rw [hU]; exact hH, hC.2.2.2.2.2.2.warm hS hW hU⟩⟩ rfl hn hl.1 hst (lv_room hro) d hf⟩
theorem xk_backX {rest : List Value} {mc ms : Nat} {q : Nat × xWd} (h : xk_RX p l e R s m args below meth c E nL cells slots mc ms pc lv st rest w q) (kk : ∀ (H1 : Heap) (locs1 : List Loc) (ls : Array Slot) (q9 : Nat) (ce : Cell), xk_H E q.2 H1 → va_S (xk_A E.2.2.1) s.heap H1 locs1 → lv_has ls nL lv → H1[q9]? = some ce → ce.vm = .none → s.vm.findClass (xk_xn q.1) = some ce.cls → vx_W p l e R s m args below meth c H1 locs1 (cells + mc) (slots + ms) Q (F0 m pc ls rest) q9) : xk_X p l e R s m args below meth c Q E nL cells slots pc lv st w := by
  intro H locs ls hH hS hl
  obtain ⟨a, hr⟩ := h H locs ls hH hS hl
  intro T hT X
  rcases hr T hT X with ⟨v, st₀, t, T', L, h0, X', hL, e1, e2, hq, st9⟩ | ⟨q9, st₀, t, T', L, E9, ce, h0, X', hL, e1, e2, ⟨u, hp, ⟨hb1, hb2⟩, hF⟩, hce, hcv, hcl, st9⟩
  · exact hq.elim
  · obtain ⟨k1, k2, k3⟩ := vx_keep h0 e1 hS (fun _ _ h => h) (fun _ h => h) hL hF
    subst hb1
    obtain ⟨t2, a1, b1⟩ := kk T'.heap (locs ++ L) ls q9 ce (by rw [e1]; exact hb2) k3 hl (by rw [e1]; exact hce) hcv hcl T' rfl X'
    exact ⟨t2, st9.trans a1, b1⟩
theorem xk_outX {rest : List Value} {mc ms k9 n9 : Nat} {q : Nat × xWd} (hC : xk_C p s m args meth c E cc own nL) (hX : ∀ x ∈ c.exceptionTable.toList, False) (h1 : cells + mc ≤ k9) (h2 : slots + ms ≤ n9) (h : xk_RX p l e R s m args below meth c E nL cells slots mc ms pc lv st rest w q) : xk_X p l e R s m args below meth c (vx_MQ below xk_QN (xk_XC E q) args s k9 n9 (xk_A E.2.2.1)) E nL cells slots pc lv st w :=
  xk_backX h fun H1 locs1 ls q9 ce hH1 hS1 _ hce hcv hcl => vx_out (fun x hx => (hX x hx).elim) hC.2.2.2.2.2.1 hce hcv hcl (fun t ht hvm => ⟨(), trivial, ⟨rfl, by rw [ht]; exact hH1⟩, hS1.F ht⟩) hS1.2.2 h1 h2
theorem xk_catchX {rest : List Value} {mc ms k : Nat} {q : Nat × xWd} {name : String} {x0 : ExceptionTableEntry} (hC : xk_C p s m args meth c E cc own nL) (pre suf : List ExceptionTableEntry) (hX : c.exceptionTable.toList = pre ++ x0 :: suf) (hk : q.1 = k) (hpass : ∀ z ∈ pre, covers z pc = false ∨ (z.catchType ≠ 0 ∧ ∃ nm : String, (Cond.classLink own z.catchType nm).before args s = true ∧ va_Nc (xk_xn k) nm s)) (hx : covers x0 pc = true) (h0 : x0.catchType ≠ 0) (hlink : Cond.classLink own x0.catchType name ∈ xk_T) (hcast : va_Nw (.castable (xk_xn k) name) s) (h : xk_RX p l e R s m args below meth c E nL cells slots mc ms pc lv st rest w q) (kk : ∀ q9 : Nat, xk_X p l e R s m args below meth c Q E nL (cells + mc) (slots + ms) x0.handlerPc lv [va_rf (some q9)] q.2) : xk_X p l e R s m args below meth c Q E nL cells slots pc lv st w := by
  subst hk
  exact xk_backX h fun H1 locs1 ls q9 ce hH1 hS1 hl hce hcv hcl => vx_catch hC.2.2.2.1 pre x0 suf hX hpass hx h0 (hC.2.2.2.2.1 _ hlink) (va_Nw.use rfl hcast) hce hcv hcl (kk q9 H1 locs1 ls hH1 hS1 hl)
theorem xk_pass0 {P : ExceptionTableEntry → Prop} : ∀ z ∈ ([] : List ExceptionTableEntry), P z := fun z h => nomatch h
theorem xk_passc {P : ExceptionTableEntry → Prop} {x : ExceptionTableEntry} {r : List ExceptionTableEntry} (h : P x) (t : ∀ z ∈ r, P z) : ∀ z ∈ x :: r, P z := fun z hz => (List.mem_cons.mp hz).elim (fun e => by rw [e]; exact h) (t z)
/-- a static call of a method with a table -/
theorem xk_gsH {idx : Nat} {y : MethodName} {b : ByteArray} {n : Nat} {ret : Option FieldType} {hh : List (Nat × Nat × Nat × Nat)} (h1 : Cond.methodLink own idx y ∈ xk_T) (h2 : Cond.static y ∈ xk_T) (h4 : Cond.initialized y.cls ∈ xk_T) (h5 : Cond.codeWith y b n ret hh ∈ xk_T) : GoodIn xk_T (va_wsS own idx y (Cond.codeWith y b n ret hh :: xk_T)) := by
  intro w hw
  have hm : w ∈ xk_T := by
    simp only [va_wsS, List.cons_append, List.nil_append, List.mem_cons] at hw
    rcases hw with rfl | rfl | rfl | rfl | h <;> assumption
  exact ⟨hm, good_of_word (xk_good hm)⟩
theorem xk_callSH (hC : xk_C p s m args meth c E cc own nL) {y : MethodName} {b : ByteArray} {nLy : Nat} {ret : Option FieldType} {hh : List (Nat × Nat × Nat × Nat)} {fr lc mc ms : Nat} {av : List Value} {rest : List Value} {Qc : Array Value → State → Outcome → State → Prop} (n : Nat) (hM : xk_MH l y b nLy ret hh fr lc mc ms E av w Qc) (h1 : Cond.methodLink own index y ∈ xk_T) (h2 : Cond.static y ∈ xk_T) (h4 : Cond.initialized y.cls ∈ xk_T) (h5 : Cond.codeWith y b nLy ret hh ∈ xk_T) (hd : y.cls ≠ "java/lang/invoke/MethodHandle" ∧ y.cls ≠ "java/lang/invoke/VarHandle" ∧ (parseMethodDescriptor y.desc).map (fun d => d.parameters.length) = some n) (hn : av.length = n) (hR : fr + 1 ≤ R.frames ∧ 8 + (nLy + 11) + lc ≤ R.locals) (hst : st = av.reverse ++ rest) (hro : (rest.map fun v => v.category).sum ≤ 8) (d : decode cc pc = .ok (.invokestatic index, 3)) (hf : cells + mc ≤ R.cells ∧ slots + ms ≤ R.slots) : xk_R p l e R s m args below meth c E nL cells slots mc ms pc lv st rest w Qc := by
  intro H locs ls hH hS hl
  exact ⟨_, vx_runSW (As := av) (rest := rest) (nL := nL) ⟨hC.1, hC.2.1, hC.2.2.1, hC.2.2.2.1, hC.2.2.2.2.1⟩ hM (vx_cwSW n hC.2.2.2.2.1 (xk_gsH h1 h2 h4 h5) rfl rfl rfl hd hR) ⟨xk_blind, fun U hU hW => ⟨rfl, by rw [hU]; exact hH, hC.2.2.2.2.2.2.warm hS hW hU⟩⟩ rfl hn hl.1 hst (lv_room hro) d hf⟩
/-- a call by an interface -/
theorem xk_gF {idx : Nat} {x y : MethodName} {b : ByteArray} {n : Nat} {ret : Option FieldType} (h1 : Cond.methodLink own idx x ∈ xk_T) (h2 : Cond.selects C x y ∈ xk_T) (h3 : Cond.instanceMethod y ∈ xk_T) (h4 : Cond.initialized y.cls ∈ xk_T) (h5 : Cond.code y b n ret ∈ xk_T) : GoodIn xk_T (va_wsF own idx C x y (Cond.code y b n ret :: xk_T)) := by
  intro w hw
  have hm : w ∈ xk_T := by
    simp only [va_wsF, List.cons_append, List.nil_append, List.mem_cons] at hw
    rcases hw with rfl | rfl | rfl | rfl | rfl | h <;> assumption
  exact ⟨hm, good_of_word (xk_good hm)⟩
theorem xk_callFi (hC : xk_C p s m args meth c E cc own nL) {x y : MethodName} {b : ByteArray} {nLy : Nat} {ret : Option FieldType} {fr lc mc ms count : Nat} {av : List Value} {rest : List Value} {q : Int32 × xWd} (n : Nat) (hc : xk_cl[ci]? = some (C, T, N)) (hM : xk_M l y b nLy ret fr lc mc ms E (va_rf r :: av) w (xk_Qi E q)) {u : Unit} (hr : xk_is w r ci = some u) (hF : va_Fw C x y s) (h1 : Cond.methodLink own index x ∈ xk_T) (h2 : Cond.selects C x y ∈ xk_T) (h3 : Cond.instanceMethod y ∈ xk_T) (h4 : Cond.initialized y.cls ∈ xk_T) (h5 : Cond.code y b nLy ret ∈ xk_T) (hd : x.cls ≠ "java/lang/invoke/MethodHandle" ∧ x.cls ≠ "java/lang/invoke/VarHandle" ∧ (parseMethodDescriptor x.desc).map (fun d => d.parameters.length) = some n) (hn : av.length = n) (hR : fr + 1 ≤ R.frames ∧ 8 + (nLy + 11) + lc ≤ R.locals) (hst : st = av.reverse ++ va_rf r :: rest) (hro : (rest.map fun v => v.category).sum ≤ 8) (d : decode cc pc = .ok (.invokeinterface index count, 5)) (hf : cells + mc ≤ R.cells ∧ slots + ms ≤ R.slots)
    (kk : xk_X p l e R s m args below meth c Q E nL (cells + mc) (slots + ms) (pc + 5) lv (.int q.1 :: rest) q.2) : xk_X p l e R s m args below meth c Q E nL cells slots pc lv st w := by
  intro H locs ls hH hS hl
  obtain ⟨fs, hr1, -⟩ := xk_bi hr
  obtain ⟨a, rfl, hm⟩ := xk_obj_e hr1
  refine va_callFi (va_runF (As := av) (rest := rest) (b := a) (nL := nL) (hC.2.2.2.2.2.2.2.1.1 ci _ hc).2 ⟨hC.1, hC.2.1, hC.2.2.1, hC.2.2.2.1, hC.2.2.2.2.1⟩ hM (va_cwF n hC.2.2.2.2.1 (xk_gF h1 h2 h3 h4 h5) rfl rfl rfl hF hd hR) ⟨xk_blind, va_recv hC.2.2.2.2.2.2.2.1 (xk_one (hH.at hm (fun h => Bool.noConfusion h))) (ci := ci) (q0 := 0) hc rfl, fun U hU hW => ⟨rfl, by rw [hU]; exact hH, hC.2.2.2.2.2.2.warm hS hW hU⟩⟩ (g := F0 m pc ls st) rfl hn hl.1 hst (lv_room hro) d hf) hS (fun _ _ h => h) (fun _ h => h) (fun r u t H1 locs1 ht hvm hp hB hz hk hS1 => ?_)
  have hp : r = q.1 := hp
  have hB : xk_H E q.2 t.heap := hB
  rw [ht] at hB
  subst hp
  exact kk H1 locs1 ls hB hS1 hl
theorem xk_getIN {host : String} (hC : xk_C p s m args meth c E cc own nL) (hi : ∀ x ∈ u_ws C T N, x ∈ xk_T) (hc : xk_cl[ci]? = some (C, T, N)) (k : Nat) (hk : k < N) (hw : va_Nw (.fieldLinkNest own index ref (T k).2.1 (T k).2.2.1 host) s) (hs : (T k).1 = ref ∨ Cond.sameField ref (T k).1 (T k).2.1 (T k).2.2.1 ∈ xk_T) {v : Int32} (d : decode cc pc = .ok (.getfield index, 3)) (h : xk_gI w r ci k = some v)
    (kk : xk_X p l e R s m args below meth c Q E nL cells slots (pc + 3) lv (.int v :: st) w) : xk_X p l e R s m args below meth c Q E nL cells slots pc lv (va_rf r :: st) w := by
  intro H locs ls hH hS hl
  obtain ⟨a, fs, rfl, hm, hv⟩ := xk_gI_e h
  exact va_getN (D := E.1) (ws := [(a, .inr (ci, fs))]) hC.1 hC.2.1 hC.2.2.2.2.1 hi hC.2.2.2.1 hC.2.2.2.2.2.2.2.1 (xk_one (hH.at hm (fun h => Bool.noConfusion h))) 0 rfl hc k hk (va_Nw.use rfl hw) (xk_sm hC hs) hv d (kk H locs ls hH hS hl)
/-- long rows -/
def xk_lL (w : xWd) (r : Option Nat) (i : Int32) : Option Int64 := (xk_arr w r).bind fun z => match z with
  | (k, n, .inr (.inl f)) => if k = 5 ∧ ¬ (i < 0 ∨ n ≤ i.toNatClampNeg) then some (f i.toNatClampNeg) else none
  | _ => none
def xk_sL (w : xWd) (r : Option Nat) (i : Int32) (v : Int64) : Option xWd := match r with
  | none => none
  | some a => (xk_arr w (some a)).bind fun z => match z with
    | (k, n, .inr (.inl f)) => if k = 5 ∧ ¬ (i < 0 ∨ n ≤ i.toNatClampNeg) then some (va_up w.1 a (some (.inl (5, n, .inr (.inl (vp_updL f i.toNatClampNeg v))))), w.2) else none
    | _ => none
theorem xk_lL_e {i : Int32} {v : Int64} (h : xk_lL w r i = some v) : ∃ a n f, r = some a ∧ w.1 a = some (.inl (5, n, .inr (.inl f))) ∧ vp_in i n ∧ v = f i.toNatClampNeg := by
  obtain ⟨z, h1, h2⟩ := xk_bi h
  obtain ⟨a, h3, h4⟩ := xk_arr_e h1
  split at h2
  · rename_i k n f
    split at h2
    · rename_i hc
      cases h2
      exact ⟨a, n, f, h3, by rw [h4, hc.1], hc.2, rfl⟩
    · cases h2
  · cases h2
theorem xk_sL_e {i : Int32} {v : Int64} (h : xk_sL w r i v = some w1) : ∃ a n f, r = some a ∧ w.1 a = some (.inl (5, n, .inr (.inl f))) ∧ vp_in i n ∧ w1 = (va_up w.1 a (some (.inl (5, n, .inr (.inl (vp_updL f i.toNatClampNeg v))))), w.2) := by
  cases r with
  | none => cases h
  | some a =>
    obtain ⟨z, h1, h2⟩ := xk_bi h
    obtain ⟨a', h3, h4⟩ := xk_arr_e h1
    cases h3
    split at h2
    · rename_i k n f
      split at h2
      · rename_i hc
        cases h2
        exact ⟨a, n, f, rfl, by rw [h4, hc.1], hc.2, rfl⟩
      · cases h2
    · cases h2
theorem xk_lald (hC : xk_C p s m args meth c E cc own nL) (hk : (xk_tys E.2.1)[5]? = some (E.2.1 5, .long)) {i : Int32} {v : Int64} (d : decode cc pc = .ok (.laload, 1)) (h : xk_lL w r i = some v) (kk : xk_X p l e R s m args below meth c Q E nL cells slots (pc + 1) lv (.long v :: st) w) : xk_X p l e R s m args below meth c Q E nL cells slots pc lv (.int i :: va_rf r :: st) w := by
  intro H locs ls hH hS hl
  obtain ⟨a, n, f, rfl, hm, hin, rfl⟩ := xk_lL_e h
  exact va_lald hC.1 hC.2.1 hC.2.2.2.2.2.2.2.1 (ws := [(a, .inl (E.2.1 5, n, .inr (.inl f)))]) (xk_one (hH.at hm (fun h => Bool.noConfusion h))) 0 5 rfl hk hin d (kk H locs ls hH hS hl)
theorem xk_last (hC : xk_C p s m args meth c E cc own nL) (hk : (xk_tys E.2.1)[5]? = some (E.2.1 5, .long)) {i : Int32} {v : Int64} (d : decode cc pc = .ok (.lastore, 1)) (h : xk_sL w r i v = some w1) (kk : xk_X p l e R s m args below meth c Q E nL cells slots (pc + 1) lv st w1) : xk_X p l e R s m args below meth c Q E nL cells slots pc lv (.long v :: .int i :: va_rf r :: st) w := by
  intro H locs ls hH hS hl
  obtain ⟨a, n, f, rfl, hm, hin, rfl⟩ := xk_sL_e h
  have hP : va_P E.1 xk_cl [(a, .inl (E.2.1 5, n, .inr (.inl f)))] H := xk_one (hH.at hm (fun h => Bool.noConfusion h))
  have ha : E.2.2.1 ≤ a := hH.ow hm (fun h => Bool.noConfusion h)
  refine W.last hC.1 hC.2.1 (hP 0 _ rfl) ((hC.2.2.2.2.2.2.2.1.2 5 _ hk).1 n (fun j => .long (f j))) (fun q => by cases q) (by show ¬ (i < 0 ∨ (arrV _ _ _).slots.size ≤ _); rw [arrV_size]; exact hin) rfl rfl d fun H1 e1 z1 oq => ?_
  refine kk H1 _ ls (hH.setp ha (hn := fun h => Bool.noConfusion h) (z := .inl (5, n, .inr (.inl (vp_updL f i.toNatClampNeg v)))) ?_ z1 oq) (hS.put z1 oq ha) hl
  show H1[a]? = some (vp_cell _ _)
  rw [e1]
  show some ((vp_cell _ (n, Sum.inr (Sum.inl f))).setSlot _ _) = some (vp_cell _ (n, Sum.inr (Sum.inl _)))
  rw [vp_cell_l, vp_cell_l, arrV_store]
  congr 2
  funext q
  by_cases hq : q = i.toNatClampNeg
  · subst hq
    simp [updV, vp_updL]
  · simp [updV, vp_updL, hq]
abbrev xk_dJ : vp_A := (0, .inr (.inl (fun _ => 0)))
/-- a row of int rows -/
theorem xk_anewA (hC : xk_C p s m args meth c E cc own nL) (hclink : Cond.classLink own index "[I" ∈ xk_T) (hover : xk_AA s) (hk : (xk_tys E.2.1)[6]? = some (E.2.1 6, .array .int)) {n : Int32} {cap : Nat} (hcap : cap * 4 ≤ 536870912) (hcells : cells + 1 ≤ R.cells) (hslots : slots + cap ≤ R.slots) (d : decode cc pc = .ok (.anewarray index, 3)) (h : xk_nA w 6 xk_dR n cap = some w1)
    (kk : xk_X p l e R s m args below meth c Q E nL (cells + 1) (slots + cap) (pc + 3) lv (va_rf (some w.2.1) :: st) w1) : xk_X p l e R s m args below meth c Q E nL cells slots pc lv (.int n :: st) w := by
  intro H locs ls hH hS hl
  unfold xk_nA at h
  split at h
  · cases h
  · rename_i hn
    split at h
    · rename_i hle
      cases h
      refine W.anewA (t := .int) hC.1 hC.2.1 hC.2.2.2.1 (hC.2.2.2.2.1 _ hclink) hover rfl d rfl hn (Nat.le_trans (Nat.mul_le_mul_right _ hle) hcap) hcells (by omega) fun cA kA comp f1 f2 f3 f4 => ?_
      generalize hH1 : H.push ({ cls := cA, slots := Array.replicate n.toNatClampNeg .null, vm := .none } : Cell) = H1
      have z1 : H1.size = H.size + 1 := by rw [← hH1, Array.size_push]
      have e1 : H1[H.size]? = some (arrV cA n.toNatClampNeg (fun _ => .null)) := by rw [← hH1, Array.getElem?_push_size, ← arrV_new]
      have o1 : ∀ q : Nat, q < H.size → H1[q]? = H[q]? := fun q hq => by rw [← hH1, Array.getElem?_push, if_neg (Nat.ne_of_lt hq)]
      have g4 : s.vm.findClass ("[" ++ (FieldType.array .int).toString) = some (E.2.1 6) := ((hC.2.2.2.2.2.2.2.1).2 6 _ hk).2
      have hcA : cA = E.2.1 6 := Option.some.inj (f1.symm.trans g4)
      have hq : va_at E.1 xk_cl (H.size, xk_toE E.2.1 (.inl (6, n.toNatClampNeg, xk_dR.2))) H1 := by
        show H1[H.size]? = some (vp_cell (E.2.1 6) (n.toNatClampNeg, xk_dR.2))
        rw [← hcA]
        exact e1
      have k2 := kk H1 locs ls (hH.push (z := .inl (6, n.toNatClampNeg, xk_dR.2)) (fun h => Bool.noConfusion h) hq z1 o1) (xk_grow hS z1 o1) hl
      rw [← hH.1] at k2
      exact W.widen (Nat.le_refl _) (Nat.add_le_add_left hle _) k2
    · cases h
/-- the cache of small Integers -/
theorem xk_gethigh (hC : xk_C p s m args meth c E cc own nL) (hw : Cond.fieldLink own index "java/lang/Integer$IntegerCache" "high" "I" ∈ xk_T) (d : decode cc pc = .ok (.getstatic index, 3)) (kk : xk_X p l e R s m args below meth c Q E nL cells slots (pc + 3) lv (.int 127 :: st) w) : xk_X p l e R s m args below meth c Q E nL cells slots pc lv st w := fun H locs ls hH hS hl => va_gets hC.1 hC.2.1 hC.2.2.2.2.2.2.2.2.2.1.2.2.1.2.2.1 hS hC.2.2.2.1 (hC.2.2.2.2.1 _ hw) (fun _ h => h) d (kk H locs ls hH hS hl)
theorem xk_cached (hC : xk_C p s m args meth c E cc own nL) (hw : Cond.fieldLink own index "java/lang/Integer$IntegerCache" "cache" "[Ljava/lang/Integer;" ∈ xk_T) {x : Int32} (j : Nat) (hj : lv[j]? = some (0, .int x)) (h1 : ¬ x < (-128 : Int32)) (h2 : ¬ (127 : Int32) < x) (d0 : decode cc pc = .ok (.getstatic index, 3)) (d1 : decode cc (pc + 3) = .ok (.iload_n 0, 1)) (d2 : decode cc (pc + 4) = .ok (.sipush 128, 3)) (d3 : decode cc (pc + 7) = .ok (.iadd, 1)) (d4 : decode cc (pc + 8) = .ok (.aaload, 1)) (kk : xk_X p l e R s m args below meth c Q E nL cells slots (pc + 9) lv (va_rf (some (w.2.2.2 (x + (128 : Int32)).toNatClampNeg)) :: st) w) : xk_X p l e R s m args below meth c Q E nL cells slots pc lv st w := by
  intro H locs ls hH hS hl
  obtain ⟨tA, hz, hT⟩ := hC.2.2.2.2.2.2.2.2.2.1.2.2.1.2.2.2.1
  refine va_gets hC.1 hC.2.1 hz hS hC.2.2.2.1 (hC.2.2.2.2.1 _ hw) (fun _ h => h) d0 ?_
  refine lv_iload_n hC.1 hC.2.1 d1 rfl (lv_at hl j hj) ?_
  refine lv_sipush (v := 128) hC.1 hC.2.1 d2 (by decide) ?_
  refine lv_iadd hC.1 hC.2.1 d3 ?_
  have k2 := kk H locs ls hH hS hl
  obtain ⟨i, hi1, hi2, -⟩ := bx_small h1 h2
  have hi3 : (x + (128 : Int32)).toNatClampNeg = i := by rw [hi2]; exact Int32.toNatClampNeg_ofNat_of_lt (by omega)
  have hin : vp_in (x + (128 : Int32)) 256 := by
    intro q
    rcases q with q | q
    · rw [hi2] at q
      have := Int32.lt_iff_toInt_lt.mp q
      rw [nI_toInt (by omega)] at this
      have z : (0 : Int32).toInt = 0 := by decide
      omega
    · omega
  rw [hH.2.2.1.2] at k2
  exact vb_tq (v := .ref (E.2.2.2.2.1 (x + (128 : Int32)).toNatClampNeg)) hC.1 hC.2.1 hT hS hin rfl d4 k2
end XT
