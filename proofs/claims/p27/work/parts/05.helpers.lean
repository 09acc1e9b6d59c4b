/-! small guards of the functions, and what stands behind them -/
def xk_nz (y : Int32) : Option Unit := if y = 0 then none else some ()
theorem xk_nz_e {y : Int32} {u : Unit} (h : xk_nz y = some u) : ¬ y = 0 := by
  unfold xk_nz at h
  split at h
  · cases h
  · assumption
def xk_nn (x : UInt64) : Option Unit := if x &&& 0x7fffffffffffffff ≤ 0x7ff0000000000000 then some () else none
theorem xk_nn_e {x : UInt64} {u : Unit} (h : xk_nn x = some u) : vf_n64 x := by
  unfold xk_nn at h
  split at h
  · assumption
  · cases h
def xk_zb (x : Int32) : Option Unit := if x = 0 ∨ x = 1 then some () else none
theorem xk_zb_e {x : Int32} {u : Unit} (h : xk_zb x = some u) : narrow .boolean (.int x) = .int x := by
  unfold xk_zb at h
  split at h
  · rename_i q
    rcases q with rfl | rfl <;> rfl
  · cases h
def xk_any (w : xWd) (v : Option Nat) : Option Unit := match v with
  | none => some ()
  | some a => match w.1 a with
    | some (.inr _) => some ()
    | _ => none
theorem xk_any_e {w : xWd} {v : Option Nat} {u : Unit} (h : xk_any w v = some u) : v = none ∨ ∃ ci fs, xk_obj w v ci = some fs := by
  cases v with
  | none => exact Or.inl rfl
  | some a =>
    simp only [xk_any] at h
    split at h
    · rename_i o ho
      exact Or.inr ⟨o.1, o.2, by simp [xk_obj, ho]⟩
    · cases h
theorem xk_swo (x : Int32) (lo hi : Int) (h : ∀ v : Int, lo ≤ v → v ≤ hi → x.toInt = v → False) : x.toInt < lo ∨ hi < x.toInt := by
  by_cases h1 : x.toInt < lo
  · exact Or.inl h1
  · by_cases h2 : hi < x.toInt
    · exact Or.inr h2
    · exact (h _ (by omega) (by omega) rfl).elim
section XH
variable {p : Program} {l : Launch} {e : Env} {R : Room} {s : State} {m : MethodId} {args : Array Value} {below : List Frame} {meth : Method} {c : Code} {Q : State → Prop}
variable {E : xEv} {cc : ByteArray} {own : String} {nL cells slots pc : Nat} {lv lv' : List (Nat × Value)} {st : List Value} {w w1 : xWd}
variable {C ref : String} {T : u_T} {N ci index : Nat} {r : Option Nat}
theorem xk_newH (hC : xk_C p s m args meth c E cc own nL) (hi : ∀ x ∈ u_ws C T N, x ∈ xk_T) (hc : xk_cl[ci]? = some (C, T, N)) {ty0 : Nat → FieldType} (hty : ∀ k, k < N → parseFieldDescriptor (T k).2.2.1 = some (ty0 k)) (hcl : Cond.classLink own index C ∈ xk_T) (hinst : Cond.instantiable C N ∈ xk_T) (hini : Cond.initialized C ∈ xk_T) {fs : List Value} (hfs : ∀ j, j < N → defaultValue (ty0 j) = vp_V fs j) (hcells : cells + 1 ≤ R.cells) (hslots : slots + N ≤ R.slots) (d : decode cc pc = .ok (.new index, 3)) (h : some (xk_nw w ci fs) = some w1)
    (kk : xk_X p l e R s m args below meth c Q E nL (cells + 1) (slots + N) (pc + 3) lv (va_rf (some w.2.1) :: st) w1) : xk_X p l e R s m args below meth c Q E nL cells slots pc lv st w := by
  cases h
  exact xk_new hC hi hc hty hcl hinst hini hfs hcells hslots d kk
theorem xk_ifnonnull (hC : xk_C p s m args meth c E cc own nL) {off : Int} {tgt : Nat} (d : decode cc pc = .ok (.ifnonnull off, 3)) (ht : (pc : Int) + off = (tgt : Int)) (kt : ¬ r = none → xk_X p l e R s m args below meth c Q E nL cells slots tgt lv st w) (kf : r = none → xk_X p l e R s m args below meth c Q E nL cells slots (pc + 3) lv st w) : xk_X p l e R s m args below meth c Q E nL cells slots pc lv (va_rf r :: st) w := by
  intro H locs ls hH hS hl
  cases r with
  | none => exact lv_ifnonnullN hC.1 hC.2.1 d (kf rfl H locs ls hH hS hl)
  | some a => exact lv_ifnonnull (tgt := tgt) hC.1 hC.2.1 d ht (kt (fun h => by cases h) H locs ls hH hS hl)
theorem xk_ifnull (hC : xk_C p s m args meth c E cc own nL) {off : Int} {tgt : Nat} (d : decode cc pc = .ok (.ifnull off, 3)) (ht : (pc : Int) + off = (tgt : Int)) (kt : r = none → xk_X p l e R s m args below meth c Q E nL cells slots tgt lv st w) (kf : ¬ r = none → xk_X p l e R s m args below meth c Q E nL cells slots (pc + 3) lv st w) : xk_X p l e R s m args below meth c Q E nL cells slots pc lv (va_rf r :: st) w := by
  intro H locs ls hH hS hl
  cases r with
  | none => exact lv_ifnullN (tgt := tgt) hC.1 hC.2.1 d ht (kt rfl H locs ls hH hS hl)
  | some a => exact lv_ifnull hC.1 hC.2.1 d (kf (fun h => by cases h) H locs ls hH hS hl)
end XH
def xf_0 : List Value := [.null, .null, .int 0, .null, .null, .int 0, .int 0, .int 0, .int 0, .int 0, .null, .null, .null]
theorem xfo_0 : ∀ j, j < 13 → defaultValue (xt_0 j) = vp_V xf_0 j := by
  intro j hj
  rcases (show j = 0 ∨ j = 1 ∨ j = 2 ∨ j = 3 ∨ j = 4 ∨ j = 5 ∨ j = 6 ∨ j = 7 ∨ j = 8 ∨ j = 9 ∨ j = 10 ∨ j = 11 ∨ j = 12 by omega) with rfl | rfl | rfl | rfl | rfl | rfl | rfl | rfl | rfl | rfl | rfl | rfl | rfl <;> rfl
def xf_1 : List Value := [.int 0, .int 0, .int 0, .int 0, .int 0, .int 0, .int 0, .int 0, .null, .null, .int 0, .int 0, .null]
theorem xfo_1 : ∀ j, j < 13 → defaultValue (xt_1 j) = vp_V xf_1 j := by
  intro j hj
  rcases (show j = 0 ∨ j = 1 ∨ j = 2 ∨ j = 3 ∨ j = 4 ∨ j = 5 ∨ j = 6 ∨ j = 7 ∨ j = 8 ∨ j = 9 ∨ j = 10 ∨ j = 11 ∨ j = 12 by omega) with rfl | rfl | rfl | rfl | rfl | rfl | rfl | rfl | rfl | rfl | rfl | rfl | rfl <;> rfl
def xf_2 : List Value := [.int 0, .int 0, .int 0]
theorem xfo_2 : ∀ j, j < 3 → defaultValue (xt_2 j) = vp_V xf_2 j := by
  intro j hj
  rcases (show j = 0 ∨ j = 1 ∨ j = 2 by omega) with rfl | rfl | rfl <;> rfl
def xf_3 : List Value := [.null, .int 0, .null]
theorem xfo_3 : ∀ j, j < 3 → defaultValue (xt_3 j) = vp_V xf_3 j := by
  intro j hj
  rcases (show j = 0 ∨ j = 1 ∨ j = 2 by omega) with rfl | rfl | rfl <;> rfl
def xf_4 : List Value := [.int 0, .null, .int 0, .int 0, .int 0]
theorem xfo_4 : ∀ j, j < 5 → defaultValue (xt_4 j) = vp_V xf_4 j := by
  intro j hj
  rcases (show j = 0 ∨ j = 1 ∨ j = 2 ∨ j = 3 ∨ j = 4 by omega) with rfl | rfl | rfl | rfl | rfl <;> rfl
def xf_5 : List Value := [.int 0, .null, .int 0]
theorem xfo_5 : ∀ j, j < 3 → defaultValue (xt_5 j) = vp_V xf_5 j := by
  intro j hj
  rcases (show j = 0 ∨ j = 1 ∨ j = 2 by omega) with rfl | rfl | rfl <;> rfl
theorem xk_over {p : Program} {s : State} {m : MethodId} {args : Array Value} {meth : Method} {c : Code} {E : xEv} {cc : ByteArray} {own : String} {nL : Nat} (hC : xk_C p s m args meth c E cc own nL) : va_AO "java/lang/Object" s := hC.2.2.2.2.2.2.2.2.2.2.1
theorem xk_note1 {p : Program} {s : State} {m : MethodId} {args : Array Value} {meth : Method} {c : Code} {E : xEv} {cc : ByteArray} {own : String} {nL : Nat} (hC : xk_C p s m args meth c E cc own nL) : va_Nw (Cond.methodLinkNest "Clickbook$Cue" 57 ⟨"Clickbook", "roundedUp", "(II)I"⟩ "Clickbook") s := hC.2.2.2.2.2.2.2.2.2.2.2.1
theorem xk_note2 {p : Program} {s : State} {m : MethodId} {args : Array Value} {meth : Method} {c : Code} {E : xEv} {cc : ByteArray} {own : String} {nL : Nat} (hC : xk_C p s m args meth c E cc own nL) : va_Nw (Cond.methodLinkNest "Clickbook$Hit" 20 ⟨"Clickbook", "isTakenOut", "(III)Z"⟩ "Clickbook") s := hC.2.2.2.2.2.2.2.2.2.2.2.2.1
theorem xk_note3 {p : Program} {s : State} {m : MethodId} {args : Array Value} {meth : Method} {c : Code} {E : xEv} {cc : ByteArray} {own : String} {nL : Nat} (hC : xk_C p s m args meth c E cc own nL) : va_Nw (Cond.methodLinkNest "Clickbook$Hit" 26 ⟨"Clickbook", "movedFrame", "(III)I"⟩ "Clickbook") s := hC.2.2.2.2.2.2.2.2.2.2.2.2.2.1
theorem xk_note4 {p : Program} {s : State} {m : MethodId} {args : Array Value} {meth : Method} {c : Code} {E : xEv} {cc : ByteArray} {own : String} {nL : Nat} (hC : xk_C p s m args meth c E cc own nL) : va_Nw (Cond.castable "Clickbook" "java/lang/Object") s := hC.2.2.2.2.2.2.2.2.2.2.2.2.2.2.1
theorem xk_note5 {p : Program} {s : State} {m : MethodId} {args : Array Value} {meth : Method} {c : Code} {E : xEv} {cc : ByteArray} {own : String} {nL : Nat} (hC : xk_C p s m args meth c E cc own nL) : va_Nw (Cond.castable "java/util/ArrayList" "java/lang/Object") s := hC.2.2.2.2.2.2.2.2.2.2.2.2.2.2.2.1
theorem xk_note6 {p : Program} {s : State} {m : MethodId} {args : Array Value} {meth : Method} {c : Code} {E : xEv} {cc : ByteArray} {own : String} {nL : Nat} (hC : xk_C p s m args meth c E cc own nL) : va_Nw (Cond.castable "Clickbook$JoinTable" "java/lang/Object") s := hC.2.2.2.2.2.2.2.2.2.2.2.2.2.2.2.2.1
theorem xk_note7 {p : Program} {s : State} {m : MethodId} {args : Array Value} {meth : Method} {c : Code} {E : xEv} {cc : ByteArray} {own : String} {nL : Nat} (hC : xk_C p s m args meth c E cc own nL) : va_Nw (Cond.castable "Clickbook$Hit" "java/lang/Object") s := hC.2.2.2.2.2.2.2.2.2.2.2.2.2.2.2.2.2.1
theorem xk_note8 {p : Program} {s : State} {m : MethodId} {args : Array Value} {meth : Method} {c : Code} {E : xEv} {cc : ByteArray} {own : String} {nL : Nat} (hC : xk_C p s m args meth c E cc own nL) : va_Nw (Cond.castable "Clickbook$Cue" "java/lang/Object") s := hC.2.2.2.2.2.2.2.2.2.2.2.2.2.2.2.2.2.2.1
theorem xk_note9 {p : Program} {s : State} {m : MethodId} {args : Array Value} {meth : Method} {c : Code} {E : xEv} {cc : ByteArray} {own : String} {nL : Nat} (hC : xk_C p s m args meth c E cc own nL) : va_Nw (Cond.castable "Clickbook$Take" "java/lang/Object") s := hC.2.2.2.2.2.2.2.2.2.2.2.2.2.2.2.2.2.2.2
theorem xk_cas {p : Program} {s : State} {m : MethodId} {args : Array Value} {meth : Method} {c : Code} {E : xEv} {cc : ByteArray} {own : String} {nL : Nat} (hC : xk_C p s m args meth c E cc own nL) : ∀ (ci : Nat) (q : vw_C), xk_cl[ci]? = some q → va_Nw (.castable q.1 "java/lang/Object") s := fun ci q h => by
  match ci, h with
  | 0, h => cases h; exact xk_note4 hC
  | 1, h => cases h; exact xk_note8 hC
  | 2, h => cases h; exact xk_note7 hC
  | 3, h => cases h; exact xk_note6 hC
  | 4, h => cases h; exact xk_note9 hC
  | 5, h => cases h; exact xk_note5 hC
  | k + 6, h => simp [xk_cl] at h
/-- Arrays.copyOf of a row of objects, to a length that isn't less, and is at most 64 -/
def f_J7_copyOf_1904c (x0 : Option Nat) (x1 : Int32) (w : xWd) : Option (Option Nat × xWd) := (xk_arr w x0).bind fun z => match z with
  | (2, n, .inr (.inr (.inr (.inr f)))) => if x1 < 0 then none else if n ≤ x1.toNatClampNeg ∧ x1.toNatClampNeg ≤ 64 then some (some w.2.1, (va_up w.1 w.2.1 (some (.inl (2, x1.toNatClampNeg, .inr (.inr (.inr (.inr (fun j => if j < n then f j else none))))))), w.2.1 + 1, w.2.2)) else none
  | _ => none
theorem xd_J7_copyOf_1904c : xy_J7_copyOf_1904c.cls ≠ "java/lang/invoke/MethodHandle" ∧ xy_J7_copyOf_1904c.cls ≠ "java/lang/invoke/VarHandle" ∧ (parseMethodDescriptor xy_J7_copyOf_1904c.desc).map (fun d => d.parameters.length) = some 2 := ⟨by decide +kernel, by decide +kernel, by decide +kernel⟩
theorem c_J7_copyOf_1904c {l : Launch} {E : xEv} {x0 : Option Nat} {x1 : Int32} {w : xWd} {q : (Option Nat × xWd)} (hf : f_J7_copyOf_1904c x0 x1 w = some q) : xk_M l xy_J7_copyOf_1904c prog_26_method_119_code 2 (some (.array (.object "java/lang/Object"))) 3 80 1 64 E [va_rf x0, .int x1] w (xk_Qq E q) := sorry
