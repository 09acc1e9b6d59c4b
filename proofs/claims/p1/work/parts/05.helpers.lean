/-! small guards of the functions, and what stands behind them -/
def xk_nz (y : Int32) : Option Unit := if y = 0 then none else some ()
theorem xk_nz_e {y : Int32} {u : Unit} (h : xk_nz y = some u) : ¬ y = 0 := by
  unfold xk_nz at h
  split at h
  · cases h
  · assumption
def xk_nn (x : UInt64) : Option Unit := if x &&& 0x7fffffffffffffff ≤ 0x7ff0000000000000 then some () else none
theorem xk_nn_e {x : UInt64} {u : Unit} (h : xk_nn x = some u) : vf_n64 x := by
  unfold xk_nn at h
  split at h
  · assumption
  · cases h
def xk_zb (x : Int32) : Option Unit := if x = 0 ∨ x = 1 then some () else none
theorem xk_zb_e {x : Int32} {u : Unit} (h : xk_zb x = some u) : narrow .boolean (.int x) = .int x := by
  unfold xk_zb at h
  split at h
  · rename_i q
    rcases q with rfl | rfl <;> rfl
  · cases h
def xk_any (w : xWd) (v : Option Nat) : Option Unit := match v with
  | none => some ()
  | some a => match w.1 a with
    | some (.inr _) => some ()
    | _ => if (List.range 256).any (fun k => w.2.2.2 k == a) = true then some () else none
theorem xk_any_c {w : xWd} {k : Nat} (hk : k < 256) : xk_any w (some (w.2.2.2 k)) = some () := by
  simp only [xk_any]
  split
  · rfl
  · exact if_pos (List.any_eq_true.mpr ⟨k, List.mem_range.mpr hk, by simp⟩)
theorem xk_any_e {w : xWd} {v : Option Nat} {u : Unit} (h : xk_any w v = some u) : v = none ∨ (∃ ci fs, xk_obj w v ci = some fs) ∨ ∃ k, k < 256 ∧ v = some (w.2.2.2 k) := by
  cases v with
  | none => exact Or.inl rfl
  | some a =>
    simp only [xk_any] at h
    split at h
    · rename_i o ho
      exact Or.inr (Or.inl ⟨o.1, o.2, by simp [xk_obj, ho]⟩)
    · split at h
      · rename_i hq
        obtain ⟨k, hk, e⟩ := List.any_eq_true.mp hq
        exact Or.inr (Or.inr ⟨k, List.mem_range.mp hk, by rw [beq_iff_eq.mp e]⟩)
      · cases h
theorem xk_swo (x : Int32) (lo hi : Int) (h : ∀ v : Int, lo ≤ v → v ≤ hi → x.toInt = v → False) : x.toInt < lo ∨ hi < x.toInt := by
  by_cases h1 : x.toInt < lo
  · exact Or.inl h1
  · by_cases h2 : hi < x.toInt
    · exact Or.inr h2
    · exact (h _ (by omega) (by omega) rfl).elim
section XH
variable {p : Program} {l : Launch} {e : Env} {R : Room} {s : State} {m : MethodId} {args : Array Value} {below : List Frame} {meth : Method} {c : Code} {Q : State → Prop}
variable {E : xEv} {cc : ByteArray} {own : String} {nL cells slots pc : Nat} {lv lv' : List (Nat × Value)} {st : List Value} {w w1 : xWd}
variable {C ref : String} {T : u_T} {N ci index : Nat} {r : Option Nat}
theorem xk_newH (hC : xk_C p s m args meth c E cc own nL) (hi : ∀ x ∈ u_ws C T N, x ∈ xk_T) (hc : xk_cl[ci]? = some (C, T, N)) {ty0 : Nat → FieldType} (hty : ∀ k, k < N → parseFieldDescriptor (T k).2.2.1 = some (ty0 k)) (hcl : Cond.classLink own index C ∈ xk_T) (hinst : Cond.instantiable C N ∈ xk_T) (hini : Cond.initialized C ∈ xk_T) {fs : List Value} (hfs : ∀ j, j < N → defaultValue (ty0 j) = vp_V fs j) (hcells : cells + 1 ≤ R.cells) (hslots : slots + N ≤ R.slots) (d : decode cc pc = .ok (.new index, 3)) (h : some (xk_nw w ci fs) = some w1)
    (kk : xk_X p l e R s m args below meth c Q E nL (cells + 1) (slots + N) (pc + 3) lv (va_rf (some w.2.1) :: st) w1) : xk_X p l e R s m args below meth c Q E nL cells slots pc lv st w := by
  cases h
  exact xk_new hC hi hc hty hcl hinst hini hfs hcells hslots d kk
theorem xk_ifnonnull (hC : xk_C p s m args meth c E cc own nL) {off : Int} {tgt : Nat} (d : decode cc pc = .ok (.ifnonnull off, 3)) (ht : (pc : Int) + off = (tgt : Int)) (kt : ¬ r = none → xk_X p l e R s m args below meth c Q E nL cells slots tgt lv st w) (kf : r = none → xk_X p l e R s m args below meth c Q E nL cells slots (pc + 3) lv st w) : xk_X p l e R s m args below meth c Q E nL cells slots pc lv (va_rf r :: st) w := by
  intro H locs ls hH hS hl
  cases r with
  | none => exact lv_ifnonnullN hC.1 hC.2.1 d (kf rfl H locs ls hH hS hl)
  | some a => exact lv_ifnonnull (tgt := tgt) hC.1 hC.2.1 d ht (kt (fun h => by cases h) H locs ls hH hS hl)
theorem xk_ifnull (hC : xk_C p s m args meth c E cc own nL) {off : Int} {tgt : Nat} (d : decode cc pc = .ok (.ifnull off, 3)) (ht : (pc : Int) + off = (tgt : Int)) (kt : r = none → xk_X p l e R s m args below meth c Q E nL cells slots tgt lv st w) (kf : ¬ r = none → xk_X p l e R s m args below meth c Q E nL cells slots (pc + 3) lv st w) : xk_X p l e R s m args below meth c Q E nL cells slots pc lv (va_rf r :: st) w := by
  intro H locs ls hH hS hl
  cases r with
  | none => exact lv_ifnullN (tgt := tgt) hC.1 hC.2.1 d ht (kt rfl H locs ls hH hS hl)
  | some a => exact lv_ifnull hC.1 hC.2.1 d (kf (fun h => by cases h) H locs ls hH hS hl)
end XH
def xf_0 : List Value := [.null, .null, .int 0, .null, .null, .int 0, .int 0, .int 0, .int 0, .int 0, .null, .null, .null]
theorem xfo_0 : ∀ j, j < 13 → defaultValue (xt_0 j) = vp_V xf_0 j := by
  intro j hj
  rcases (show j = 0 ∨ j = 1 ∨ j = 2 ∨ j = 3 ∨ j = 4 ∨ j = 5 ∨ j = 6 ∨ j = 7 ∨ j = 8 ∨ j = 9 ∨ j = 10 ∨ j = 11 ∨ j = 12 by omega) with rfl | rfl | rfl | rfl | rfl | rfl | rfl | rfl | rfl | rfl | rfl | rfl | rfl <;> rfl
def xf_1 : List Value := [.int 0, .int 0, .int 0, .int 0, .int 0, .int 0, .int 0, .int 0, .null, .null, .int 0, .int 0, .null]
theorem xfo_1 : ∀ j, j < 13 → defaultValue (xt_1 j) = vp_V xf_1 j := by
  intro j hj
  rcases (show j = 0 ∨ j = 1 ∨ j = 2 ∨ j = 3 ∨ j = 4 ∨ j = 5 ∨ j = 6 ∨ j = 7 ∨ j = 8 ∨ j = 9 ∨ j = 10 ∨ j = 11 ∨ j = 12 by omega) with rfl | rfl | rfl | rfl | rfl | rfl | rfl | rfl | rfl | rfl | rfl | rfl | rfl <;> rfl
def xf_2 : List Value := [.int 0, .int 0, .int 0]
theorem xfo_2 : ∀ j, j < 3 → defaultValue (xt_2 j) = vp_V xf_2 j := by
  intro j hj
  rcases (show j = 0 ∨ j = 1 ∨ j = 2 by omega) with rfl | rfl | rfl <;> rfl
def xf_3 : List Value := [.null, .int 0, .null]
theorem xfo_3 : ∀ j, j < 3 → defaultValue (xt_3 j) = vp_V xf_3 j := by
  intro j hj
  rcases (show j = 0 ∨ j = 1 ∨ j = 2 by omega) with rfl | rfl | rfl <;> rfl
def xf_4 : List Value := [.int 0, .null, .int 0]
theorem xfo_4 : ∀ j, j < 3 → defaultValue (xt_4 j) = vp_V xf_4 j := by
  intro j hj
  rcases (show j = 0 ∨ j = 1 ∨ j = 2 by omega) with rfl | rfl | rfl <;> rfl
def xf_5 : List Value := [.int 0, .int 0, .int 0, .null, .null, .null, .null, .int 0, .int 0, .int 0]
theorem xfo_5 : ∀ j, j < 10 → defaultValue (xt_5 j) = vp_V xf_5 j := by
  intro j hj
  rcases (show j = 0 ∨ j = 1 ∨ j = 2 ∨ j = 3 ∨ j = 4 ∨ j = 5 ∨ j = 6 ∨ j = 7 ∨ j = 8 ∨ j = 9 by omega) with rfl | rfl | rfl | rfl | rfl | rfl | rfl | rfl | rfl | rfl <;> rfl
def xf_6 : List Value := [.int 0, .int 0, .int 0, .int 0, .int 0, .int 0, .int 0, .null, .null]
theorem xfo_6 : ∀ j, j < 9 → defaultValue (xt_6 j) = vp_V xf_6 j := by
  intro j hj
  rcases (show j = 0 ∨ j = 1 ∨ j = 2 ∨ j = 3 ∨ j = 4 ∨ j = 5 ∨ j = 6 ∨ j = 7 ∨ j = 8 by omega) with rfl | rfl | rfl | rfl | rfl | rfl | rfl | rfl | rfl <;> rfl
def xf_7 : List Value := [.int 0, .int 0, .int 0]
theorem xfo_7 : ∀ j, j < 3 → defaultValue (xt_7 j) = vp_V xf_7 j := by
  intro j hj
  rcases (show j = 0 ∨ j = 1 ∨ j = 2 by omega) with rfl | rfl | rfl <;> rfl
def xf_8 : List Value := [.int 0, .int 0, .int 0, .null]
theorem xfo_8 : ∀ j, j < 4 → defaultValue (xt_8 j) = vp_V xf_8 j := by
  intro j hj
  rcases (show j = 0 ∨ j = 1 ∨ j = 2 ∨ j = 3 by omega) with rfl | rfl | rfl | rfl <;> rfl
def xf_9 : List Value := [.int 0]
theorem xfo_9 : ∀ j, j < 1 → defaultValue (xt_9 j) = vp_V xf_9 j := by
  intro j hj
  obtain rfl : j = 0 := by omega
  rfl
theorem xk_note0 {p : Program} {s : State} {m : MethodId} {args : Array Value} {meth : Method} {c : Code} {E : xEv} {cc : ByteArray} {own : String} {nL : Nat} (hC : xk_C p s m args meth c E cc own nL) : va_Nw (Cond.fieldLinkNest "java/util/ArrayList$Itr" 28 "java/util/ArrayList" "size" "I" "java/util/ArrayList") s := hC.2.2.2.2.2.2.2.2.2.2.1
theorem xk_note1 {p : Program} {s : State} {m : MethodId} {args : Array Value} {meth : Method} {c : Code} {E : xEv} {cc : ByteArray} {own : String} {nL : Nat} (hC : xk_C p s m args meth c E cc own nL) : va_Nw (Cond.castable "java/lang/IllegalArgumentException" "java/lang/IllegalArgumentException") s := hC.2.2.2.2.2.2.2.2.2.2.2.1
theorem xk_note2 {p : Program} {s : State} {m : MethodId} {args : Array Value} {meth : Method} {c : Code} {E : xEv} {cc : ByteArray} {own : String} {nL : Nat} (hC : xk_C p s m args meth c E cc own nL) : va_Nw (Cond.declares ⟨"java/lang/RuntimeException", "<init>", "(Ljava/lang/String;)V"⟩) s := hC.2.2.2.2.2.2.2.2.2.2.2.2.1
theorem xk_note3 {p : Program} {s : State} {m : MethodId} {args : Array Value} {meth : Method} {c : Code} {E : xEv} {cc : ByteArray} {own : String} {nL : Nat} (hC : xk_C p s m args meth c E cc own nL) : va_Nw (Cond.declares ⟨"java/lang/Exception", "<init>", "(Ljava/lang/String;)V"⟩) s := hC.2.2.2.2.2.2.2.2.2.2.2.2.2.1
theorem xk_note4 {p : Program} {s : State} {m : MethodId} {args : Array Value} {meth : Method} {c : Code} {E : xEv} {cc : ByteArray} {own : String} {nL : Nat} (hC : xk_C p s m args meth c E cc own nL) : va_Nw (Cond.declares ⟨"java/lang/Throwable", "<init>", "(Ljava/lang/String;)V"⟩) s := hC.2.2.2.2.2.2.2.2.2.2.2.2.2.2.1
theorem xk_note5 {p : Program} {s : State} {m : MethodId} {args : Array Value} {meth : Method} {c : Code} {E : xEv} {cc : ByteArray} {own : String} {nL : Nat} (hC : xk_C p s m args meth c E cc own nL) : (∃ sa, vk_R "Clickbook" 328 "no such question" sa s) := hC.2.2.2.2.2.2.2.2.2.2.2.2.2.2.2.1
theorem xk_note6 {p : Program} {s : State} {m : MethodId} {args : Array Value} {meth : Method} {c : Code} {E : xEv} {cc : ByteArray} {own : String} {nL : Nat} (hC : xk_C p s m args meth c E cc own nL) : va_Nw (Cond.castable "java/lang/IndexOutOfBoundsException" "java/lang/IndexOutOfBoundsException") s := hC.2.2.2.2.2.2.2.2.2.2.2.2.2.2.2.2.1
theorem xk_note7 {p : Program} {s : State} {m : MethodId} {args : Array Value} {meth : Method} {c : Code} {E : xEv} {cc : ByteArray} {own : String} {nL : Nat} (hC : xk_C p s m args meth c E cc own nL) : (∃ sa, vk_R "Clickbook" 213 "no such HIT" sa s) := hC.2.2.2.2.2.2.2.2.2.2.2.2.2.2.2.2.2.1
theorem xk_note8 {p : Program} {s : State} {m : MethodId} {args : Array Value} {meth : Method} {c : Code} {E : xEv} {cc : ByteArray} {own : String} {nL : Nat} (hC : xk_C p s m args meth c E cc own nL) : (∃ sa, vk_R "Clickbook" 239 "no such question of a HIT" sa s) := hC.2.2.2.2.2.2.2.2.2.2.2.2.2.2.2.2.2.2.1
theorem xk_note9 {p : Program} {s : State} {m : MethodId} {args : Array Value} {meth : Method} {c : Code} {E : xEv} {cc : ByteArray} {own : String} {nL : Nat} (hC : xk_C p s m args meth c E cc own nL) : (∃ sa, vk_R "Clickbook" 164 "no such CUE" sa s) := hC.2.2.2.2.2.2.2.2.2.2.2.2.2.2.2.2.2.2.2.1
theorem xk_note10 {p : Program} {s : State} {m : MethodId} {args : Array Value} {meth : Method} {c : Code} {E : xEv} {cc : ByteArray} {own : String} {nL : Nat} (hC : xk_C p s m args meth c E cc own nL) : (∃ sa, vk_R "Clickbook" 267 "no such question of a CUE" sa s) := hC.2.2.2.2.2.2.2.2.2.2.2.2.2.2.2.2.2.2.2.2.1
theorem xk_note11 {p : Program} {s : State} {m : MethodId} {args : Array Value} {meth : Method} {c : Code} {E : xEv} {cc : ByteArray} {own : String} {nL : Nat} (hC : xk_C p s m args meth c E cc own nL) : va_AO "java/lang/Object" s := hC.2.2.2.2.2.2.2.2.2.2.2.2.2.2.2.2.2.2.2.2.2.1
theorem xk_over {p : Program} {s : State} {m : MethodId} {args : Array Value} {meth : Method} {c : Code} {E : xEv} {cc : ByteArray} {own : String} {nL : Nat} (hC : xk_C p s m args meth c E cc own nL) : va_AO "java/lang/Object" s := xk_note11 hC
theorem xk_note12 {p : Program} {s : State} {m : MethodId} {args : Array Value} {meth : Method} {c : Code} {E : xEv} {cc : ByteArray} {own : String} {nL : Nat} (hC : xk_C p s m args meth c E cc own nL) : (∃ sa, vk_R "Clickbook" 166 "no such BAR" sa s) := hC.2.2.2.2.2.2.2.2.2.2.2.2.2.2.2.2.2.2.2.2.2.2.1
theorem xk_note13 {p : Program} {s : State} {m : MethodId} {args : Array Value} {meth : Method} {c : Code} {E : xEv} {cc : ByteArray} {own : String} {nL : Nat} (hC : xk_C p s m args meth c E cc own nL) : (∃ sa, vk_R "Clickbook" 282 "no such question of a BAR" sa s) := hC.2.2.2.2.2.2.2.2.2.2.2.2.2.2.2.2.2.2.2.2.2.2.2.1
theorem xk_note14 {p : Program} {s : State} {m : MethodId} {args : Array Value} {meth : Method} {c : Code} {E : xEv} {cc : ByteArray} {own : String} {nL : Nat} (hC : xk_C p s m args meth c E cc own nL) : (∃ sa, vk_R "Clickbook" 286 "no such TAKE" sa s) := hC.2.2.2.2.2.2.2.2.2.2.2.2.2.2.2.2.2.2.2.2.2.2.2.2.1
theorem xk_note15 {p : Program} {s : State} {m : MethodId} {args : Array Value} {meth : Method} {c : Code} {E : xEv} {cc : ByteArray} {own : String} {nL : Nat} (hC : xk_C p s m args meth c E cc own nL) : (∃ sa, vk_R "Clickbook" 303 "no such question of a TAKE" sa s) := hC.2.2.2.2.2.2.2.2.2.2.2.2.2.2.2.2.2.2.2.2.2.2.2.2.2.1
theorem xk_note16 {p : Program} {s : State} {m : MethodId} {args : Array Value} {meth : Method} {c : Code} {E : xEv} {cc : ByteArray} {own : String} {nL : Nat} (hC : xk_C p s m args meth c E cc own nL) : (∃ sa, vk_R "Clickbook" 305 "no such WRITER" sa s) := hC.2.2.2.2.2.2.2.2.2.2.2.2.2.2.2.2.2.2.2.2.2.2.2.2.2.2.1
theorem xk_note17 {p : Program} {s : State} {m : MethodId} {args : Array Value} {meth : Method} {c : Code} {E : xEv} {cc : ByteArray} {own : String} {nL : Nat} (hC : xk_C p s m args meth c E cc own nL) : (∃ sa, vk_R "Clickbook" 111 "no such CHANGE" sa s) := hC.2.2.2.2.2.2.2.2.2.2.2.2.2.2.2.2.2.2.2.2.2.2.2.2.2.2.2.1
theorem xk_note18 {p : Program} {s : State} {m : MethodId} {args : Array Value} {meth : Method} {c : Code} {E : xEv} {cc : ByteArray} {own : String} {nL : Nat} (hC : xk_C p s m args meth c E cc own nL) : (∃ sa, vk_R "Clickbook" 113 "that can not be taken out" sa s) := hC.2.2.2.2.2.2.2.2.2.2.2.2.2.2.2.2.2.2.2.2.2.2.2.2.2.2.2.2.1
theorem xk_note19 {p : Program} {s : State} {m : MethodId} {args : Array Value} {meth : Method} {c : Code} {E : xEv} {cc : ByteArray} {own : String} {nL : Nat} (hC : xk_C p s m args meth c E cc own nL) : (∃ sa, vk_R "Clickbook" 46 "no such FRAME or TOLERANCE" sa s) := hC.2.2.2.2.2.2.2.2.2.2.2.2.2.2.2.2.2.2.2.2.2.2.2.2.2.2.2.2.2.1
theorem xk_note20 {p : Program} {s : State} {m : MethodId} {args : Array Value} {meth : Method} {c : Code} {E : xEv} {cc : ByteArray} {own : String} {nL : Nat} (hC : xk_C p s m args meth c E cc own nL) : va_Nw (Cond.castable "java/lang/IllegalStateException" "java/lang/IllegalStateException") s := hC.2.2.2.2.2.2.2.2.2.2.2.2.2.2.2.2.2.2.2.2.2.2.2.2.2.2.2.2.2.2.1
theorem xk_note21 {p : Program} {s : State} {m : MethodId} {args : Array Value} {meth : Method} {c : Code} {E : xEv} {cc : ByteArray} {own : String} {nL : Nat} (hC : xk_C p s m args meth c E cc own nL) : (∃ sa, vk_R "Clickbook" 57 "no more HITS" sa s) := hC.2.2.2.2.2.2.2.2.2.2.2.2.2.2.2.2.2.2.2.2.2.2.2.2.2.2.2.2.2.2.2.1
theorem xk_note22 {p : Program} {s : State} {m : MethodId} {args : Array Value} {meth : Method} {c : Code} {E : xEv} {cc : ByteArray} {own : String} {nL : Nat} (hC : xk_C p s m args meth c E cc own nL) : (∃ sa, vk_R "Clickbook" 69 "no such FRAME" sa s) := hC.2.2.2.2.2.2.2.2.2.2.2.2.2.2.2.2.2.2.2.2.2.2.2.2.2.2.2.2.2.2.2.2.1
theorem xk_note23 {p : Program} {s : State} {m : MethodId} {args : Array Value} {meth : Method} {c : Code} {E : xEv} {cc : ByteArray} {own : String} {nL : Nat} (hC : xk_C p s m args meth c E cc own nL) : (∃ sa, vk_R "Clickbook" 74 "no more THEMES" sa s) := hC.2.2.2.2.2.2.2.2.2.2.2.2.2.2.2.2.2.2.2.2.2.2.2.2.2.2.2.2.2.2.2.2.2.1
theorem xk_note24 {p : Program} {s : State} {m : MethodId} {args : Array Value} {meth : Method} {c : Code} {E : xEv} {cc : ByteArray} {own : String} {nL : Nat} (hC : xk_C p s m args meth c E cc own nL) : (∃ sa, vk_R "Clickbook" 82 "no more VERSIONS" sa s) := hC.2.2.2.2.2.2.2.2.2.2.2.2.2.2.2.2.2.2.2.2.2.2.2.2.2.2.2.2.2.2.2.2.2.2.1
theorem xk_note25 {p : Program} {s : State} {m : MethodId} {args : Array Value} {meth : Method} {c : Code} {E : xEv} {cc : ByteArray} {own : String} {nL : Nat} (hC : xk_C p s m args meth c E cc own nL) : va_Nw (Cond.methodLinkNest "Clickbook$Hit" 20 ⟨"Clickbook", "isTakenOut", "(III)Z"⟩ "Clickbook") s := hC.2.2.2.2.2.2.2.2.2.2.2.2.2.2.2.2.2.2.2.2.2.2.2.2.2.2.2.2.2.2.2.2.2.2.2.1
theorem xk_note26 {p : Program} {s : State} {m : MethodId} {args : Array Value} {meth : Method} {c : Code} {E : xEv} {cc : ByteArray} {own : String} {nL : Nat} (hC : xk_C p s m args meth c E cc own nL) : va_Nw (Cond.methodLinkNest "Clickbook$Hit" 26 ⟨"Clickbook", "movedFrame", "(III)I"⟩ "Clickbook") s := hC.2.2.2.2.2.2.2.2.2.2.2.2.2.2.2.2.2.2.2.2.2.2.2.2.2.2.2.2.2.2.2.2.2.2.2.2.1
theorem xk_note27 {p : Program} {s : State} {m : MethodId} {args : Array Value} {meth : Method} {c : Code} {E : xEv} {cc : ByteArray} {own : String} {nL : Nat} (hC : xk_C p s m args meth c E cc own nL) : (∃ sa, vk_R "Clickbook" 121 "no such THEME" sa s) := hC.2.2.2.2.2.2.2.2.2.2.2.2.2.2.2.2.2.2.2.2.2.2.2.2.2.2.2.2.2.2.2.2.2.2.2.2.2.1
theorem xk_note28 {p : Program} {s : State} {m : MethodId} {args : Array Value} {meth : Method} {c : Code} {E : xEv} {cc : ByteArray} {own : String} {nL : Nat} (hC : xk_C p s m args meth c E cc own nL) : (∃ sa, vk_R "Clickbook" 124 "no such START or PLAYERS" sa s) := hC.2.2.2.2.2.2.2.2.2.2.2.2.2.2.2.2.2.2.2.2.2.2.2.2.2.2.2.2.2.2.2.2.2.2.2.2.2.2.1
theorem xk_note29 {p : Program} {s : State} {m : MethodId} {args : Array Value} {meth : Method} {c : Code} {E : xEv} {cc : ByteArray} {own : String} {nL : Nat} (hC : xk_C p s m args meth c E cc own nL) : (∃ sa, vk_R "Clickbook" 126 "no such WRITER or USE" sa s) := hC.2.2.2.2.2.2.2.2.2.2.2.2.2.2.2.2.2.2.2.2.2.2.2.2.2.2.2.2.2.2.2.2.2.2.2.2.2.2.2.1
theorem xk_note30 {p : Program} {s : State} {m : MethodId} {args : Array Value} {meth : Method} {c : Code} {E : xEv} {cc : ByteArray} {own : String} {nL : Nat} (hC : xk_C p s m args meth c E cc own nL) : (∃ sa, vk_R "Clickbook" 128 "no more CUES" sa s) := hC.2.2.2.2.2.2.2.2.2.2.2.2.2.2.2.2.2.2.2.2.2.2.2.2.2.2.2.2.2.2.2.2.2.2.2.2.2.2.2.2.1
theorem xk_note31 {p : Program} {s : State} {m : MethodId} {args : Array Value} {meth : Method} {c : Code} {E : xEv} {cc : ByteArray} {own : String} {nL : Nat} (hC : xk_C p s m args meth c E cc own nL) : (∃ sa, vk_R "Clickbook" 168 "no such METER or CLICK" sa s) := hC.2.2.2.2.2.2.2.2.2.2.2.2.2.2.2.2.2.2.2.2.2.2.2.2.2.2.2.2.2.2.2.2.2.2.2.2.2.2.2.2.2.1
theorem xk_note32 {p : Program} {s : State} {m : MethodId} {args : Array Value} {meth : Method} {c : Code} {E : xEv} {cc : ByteArray} {own : String} {nL : Nat} (hC : xk_C p s m args meth c E cc own nL) : (∃ sa, vk_R "Clickbook" 146 "no more BARS" sa s) := hC.2.2.2.2.2.2.2.2.2.2.2.2.2.2.2.2.2.2.2.2.2.2.2.2.2.2.2.2.2.2.2.2.2.2.2.2.2.2.2.2.2.2.1
theorem xk_note33 {p : Program} {s : State} {m : MethodId} {args : Array Value} {meth : Method} {c : Code} {E : xEv} {cc : ByteArray} {own : String} {nL : Nat} (hC : xk_C p s m args meth c E cc own nL) : va_Nw (Cond.methodLinkNest "Clickbook$Cue" 57 ⟨"Clickbook", "roundedUp", "(II)I"⟩ "Clickbook") s := hC.2.2.2.2.2.2.2.2.2.2.2.2.2.2.2.2.2.2.2.2.2.2.2.2.2.2.2.2.2.2.2.2.2.2.2.2.2.2.2.2.2.2.2.1
theorem xk_note34 {p : Program} {s : State} {m : MethodId} {args : Array Value} {meth : Method} {c : Code} {E : xEv} {cc : ByteArray} {own : String} {nL : Nat} (hC : xk_C p s m args meth c E cc own nL) : (∃ sa, vk_R "Clickbook" 159 "no such START" sa s) := hC.2.2.2.2.2.2.2.2.2.2.2.2.2.2.2.2.2.2.2.2.2.2.2.2.2.2.2.2.2.2.2.2.2.2.2.2.2.2.2.2.2.2.2.2.1
theorem xk_note35 {p : Program} {s : State} {m : MethodId} {args : Array Value} {meth : Method} {c : Code} {E : xEv} {cc : ByteArray} {own : String} {nL : Nat} (hC : xk_C p s m args meth c E cc own nL) : (∃ sa, vk_R "Clickbook" 170 "no such band" sa s) := hC.2.2.2.2.2.2.2.2.2.2.2.2.2.2.2.2.2.2.2.2.2.2.2.2.2.2.2.2.2.2.2.2.2.2.2.2.2.2.2.2.2.2.2.2.2.1
theorem xk_note36 {p : Program} {s : State} {m : MethodId} {args : Array Value} {meth : Method} {c : Code} {E : xEv} {cc : ByteArray} {own : String} {nL : Nat} (hC : xk_C p s m args meth c E cc own nL) : (∃ sa, vk_R "Clickbook" 175 "a SESSION is open" sa s) := hC.2.2.2.2.2.2.2.2.2.2.2.2.2.2.2.2.2.2.2.2.2.2.2.2.2.2.2.2.2.2.2.2.2.2.2.2.2.2.2.2.2.2.2.2.2.2.1
theorem xk_note37 {p : Program} {s : State} {m : MethodId} {args : Array Value} {meth : Method} {c : Code} {E : xEv} {cc : ByteArray} {own : String} {nL : Nat} (hC : xk_C p s m args meth c E cc own nL) : (∃ sa, vk_R "Clickbook" 180 "no such NOTES or PUSH" sa s) := hC.2.2.2.2.2.2.2.2.2.2.2.2.2.2.2.2.2.2.2.2.2.2.2.2.2.2.2.2.2.2.2.2.2.2.2.2.2.2.2.2.2.2.2.2.2.2.2.1
theorem xk_note38 {p : Program} {s : State} {m : MethodId} {args : Array Value} {meth : Method} {c : Code} {E : xEv} {cc : ByteArray} {own : String} {nL : Nat} (hC : xk_C p s m args meth c E cc own nL) : (∃ sa, vk_R "Clickbook" 185 "no SESSION for that CUE" sa s) := hC.2.2.2.2.2.2.2.2.2.2.2.2.2.2.2.2.2.2.2.2.2.2.2.2.2.2.2.2.2.2.2.2.2.2.2.2.2.2.2.2.2.2.2.2.2.2.2.2.1
theorem xk_note39 {p : Program} {s : State} {m : MethodId} {args : Array Value} {meth : Method} {c : Code} {E : xEv} {cc : ByteArray} {own : String} {nL : Nat} (hC : xk_C p s m args meth c E cc own nL) : (∃ sa, vk_R "Clickbook" 196 "no more TIME or TAKES" sa s) := hC.2.2.2.2.2.2.2.2.2.2.2.2.2.2.2.2.2.2.2.2.2.2.2.2.2.2.2.2.2.2.2.2.2.2.2.2.2.2.2.2.2.2.2.2.2.2.2.2.2.1
theorem xk_note40 {p : Program} {s : State} {m : MethodId} {args : Array Value} {meth : Method} {c : Code} {E : xEv} {cc : ByteArray} {own : String} {nL : Nat} (hC : xk_C p s m args meth c E cc own nL) : (∃ sa, vk_R "Clickbook" 203 "no SESSION is open" sa s) := hC.2.2.2.2.2.2.2.2.2.2.2.2.2.2.2.2.2.2.2.2.2.2.2.2.2.2.2.2.2.2.2.2.2.2.2.2.2.2.2.2.2.2.2.2.2.2.2.2.2.2.1
theorem xk_note41 {p : Program} {s : State} {m : MethodId} {args : Array Value} {meth : Method} {c : Code} {E : xEv} {cc : ByteArray} {own : String} {nL : Nat} (hC : xk_C p s m args meth c E cc own nL) : (∃ sa, vk_R "Clickbook" 284 "no such BEAT" sa s) := hC.2.2.2.2.2.2.2.2.2.2.2.2.2.2.2.2.2.2.2.2.2.2.2.2.2.2.2.2.2.2.2.2.2.2.2.2.2.2.2.2.2.2.2.2.2.2.2.2.2.2.2.1
theorem xk_note42 {p : Program} {s : State} {m : MethodId} {args : Array Value} {meth : Method} {c : Code} {E : xEv} {cc : ByteArray} {own : String} {nL : Nat} (hC : xk_C p s m args meth c E cc own nL) : va_Nw (Cond.methodLinkNest "ClickbookModel$Cue" 45 ⟨"ClickbookModel", "up", "(II)I"⟩ "ClickbookModel") s := hC.2.2.2.2.2.2.2.2.2.2.2.2.2.2.2.2.2.2.2.2.2.2.2.2.2.2.2.2.2.2.2.2.2.2.2.2.2.2.2.2.2.2.2.2.2.2.2.2.2.2.2.2.1
theorem xk_note43 {p : Program} {s : State} {m : MethodId} {args : Array Value} {meth : Method} {c : Code} {E : xEv} {cc : ByteArray} {own : String} {nL : Nat} (hC : xk_C p s m args meth c E cc own nL) : xk_AA s := hC.2.2.2.2.2.2.2.2.2.2.2.2.2.2.2.2.2.2.2.2.2.2.2.2.2.2.2.2.2.2.2.2.2.2.2.2.2.2.2.2.2.2.2.2.2.2.2.2.2.2.2.2.2.1
theorem xk_note44 {p : Program} {s : State} {m : MethodId} {args : Array Value} {meth : Method} {c : Code} {E : xEv} {cc : ByteArray} {own : String} {nL : Nat} (hC : xk_C p s m args meth c E cc own nL) : va_Nw (Cond.castable "java/lang/Integer" "java/lang/Object") s := hC.2.2.2.2.2.2.2.2.2.2.2.2.2.2.2.2.2.2.2.2.2.2.2.2.2.2.2.2.2.2.2.2.2.2.2.2.2.2.2.2.2.2.2.2.2.2.2.2.2.2.2.2.2.2.1
theorem xk_note45 {p : Program} {s : State} {m : MethodId} {args : Array Value} {meth : Method} {c : Code} {E : xEv} {cc : ByteArray} {own : String} {nL : Nat} (hC : xk_C p s m args meth c E cc own nL) : va_Nw (Cond.castable "Clickbook" "java/lang/Object") s := hC.2.2.2.2.2.2.2.2.2.2.2.2.2.2.2.2.2.2.2.2.2.2.2.2.2.2.2.2.2.2.2.2.2.2.2.2.2.2.2.2.2.2.2.2.2.2.2.2.2.2.2.2.2.2.2.1
theorem xk_note46 {p : Program} {s : State} {m : MethodId} {args : Array Value} {meth : Method} {c : Code} {E : xEv} {cc : ByteArray} {own : String} {nL : Nat} (hC : xk_C p s m args meth c E cc own nL) : va_Nw (Cond.castable "java/util/ArrayList" "java/lang/Object") s := hC.2.2.2.2.2.2.2.2.2.2.2.2.2.2.2.2.2.2.2.2.2.2.2.2.2.2.2.2.2.2.2.2.2.2.2.2.2.2.2.2.2.2.2.2.2.2.2.2.2.2.2.2.2.2.2.2.1
theorem xk_note47 {p : Program} {s : State} {m : MethodId} {args : Array Value} {meth : Method} {c : Code} {E : xEv} {cc : ByteArray} {own : String} {nL : Nat} (hC : xk_C p s m args meth c E cc own nL) : va_Nw (Cond.castable "Clickbook$JoinTable" "java/lang/Object") s := hC.2.2.2.2.2.2.2.2.2.2.2.2.2.2.2.2.2.2.2.2.2.2.2.2.2.2.2.2.2.2.2.2.2.2.2.2.2.2.2.2.2.2.2.2.2.2.2.2.2.2.2.2.2.2.2.2.2.1
theorem xk_note48 {p : Program} {s : State} {m : MethodId} {args : Array Value} {meth : Method} {c : Code} {E : xEv} {cc : ByteArray} {own : String} {nL : Nat} (hC : xk_C p s m args meth c E cc own nL) : va_Nw (Cond.castable "ClickbookModel" "java/lang/Object") s := hC.2.2.2.2.2.2.2.2.2.2.2.2.2.2.2.2.2.2.2.2.2.2.2.2.2.2.2.2.2.2.2.2.2.2.2.2.2.2.2.2.2.2.2.2.2.2.2.2.2.2.2.2.2.2.2.2.2.2.1
theorem xk_note49 {p : Program} {s : State} {m : MethodId} {args : Array Value} {meth : Method} {c : Code} {E : xEv} {cc : ByteArray} {own : String} {nL : Nat} (hC : xk_C p s m args meth c E cc own nL) : va_Nw (Cond.castable "Clickbook$Hit" "java/lang/Object") s := hC.2.2.2.2.2.2.2.2.2.2.2.2.2.2.2.2.2.2.2.2.2.2.2.2.2.2.2.2.2.2.2.2.2.2.2.2.2.2.2.2.2.2.2.2.2.2.2.2.2.2.2.2.2.2.2.2.2.2.2.1
theorem xk_note50 {p : Program} {s : State} {m : MethodId} {args : Array Value} {meth : Method} {c : Code} {E : xEv} {cc : ByteArray} {own : String} {nL : Nat} (hC : xk_C p s m args meth c E cc own nL) : va_Nw (Cond.castable "ClickbookModel$Hit" "java/lang/Object") s := hC.2.2.2.2.2.2.2.2.2.2.2.2.2.2.2.2.2.2.2.2.2.2.2.2.2.2.2.2.2.2.2.2.2.2.2.2.2.2.2.2.2.2.2.2.2.2.2.2.2.2.2.2.2.2.2.2.2.2.2.2.1
theorem xk_note51 {p : Program} {s : State} {m : MethodId} {args : Array Value} {meth : Method} {c : Code} {E : xEv} {cc : ByteArray} {own : String} {nL : Nat} (hC : xk_C p s m args meth c E cc own nL) : va_Nw (Cond.castable "java/util/ArrayList$Itr" "java/lang/Object") s := hC.2.2.2.2.2.2.2.2.2.2.2.2.2.2.2.2.2.2.2.2.2.2.2.2.2.2.2.2.2.2.2.2.2.2.2.2.2.2.2.2.2.2.2.2.2.2.2.2.2.2.2.2.2.2.2.2.2.2.2.2.2.1
theorem xk_note52 {p : Program} {s : State} {m : MethodId} {args : Array Value} {meth : Method} {c : Code} {E : xEv} {cc : ByteArray} {own : String} {nL : Nat} (hC : xk_C p s m args meth c E cc own nL) : va_Nw (Cond.castable "Clickbook$Cue" "java/lang/Object") s := hC.2.2.2.2.2.2.2.2.2.2.2.2.2.2.2.2.2.2.2.2.2.2.2.2.2.2.2.2.2.2.2.2.2.2.2.2.2.2.2.2.2.2.2.2.2.2.2.2.2.2.2.2.2.2.2.2.2.2.2.2.2.2.1
theorem xk_note53 {p : Program} {s : State} {m : MethodId} {args : Array Value} {meth : Method} {c : Code} {E : xEv} {cc : ByteArray} {own : String} {nL : Nat} (hC : xk_C p s m args meth c E cc own nL) : va_Nw (Cond.castable "ClickbookModel$Cue" "java/lang/Object") s := hC.2.2.2.2.2.2.2.2.2.2.2.2.2.2.2.2.2.2.2.2.2.2.2.2.2.2.2.2.2.2.2.2.2.2.2.2.2.2.2.2.2.2.2.2.2.2.2.2.2.2.2.2.2.2.2.2.2.2.2.2.2.2.2.1
theorem xk_note54 {p : Program} {s : State} {m : MethodId} {args : Array Value} {meth : Method} {c : Code} {E : xEv} {cc : ByteArray} {own : String} {nL : Nat} (hC : xk_C p s m args meth c E cc own nL) : va_Fw "java/util/ArrayList$Itr" ⟨"java/util/Iterator", "hasNext", "()Z"⟩ ⟨"java/util/ArrayList$Itr", "hasNext", "()Z"⟩ s := hC.2.2.2.2.2.2.2.2.2.2.2.2.2.2.2.2.2.2.2.2.2.2.2.2.2.2.2.2.2.2.2.2.2.2.2.2.2.2.2.2.2.2.2.2.2.2.2.2.2.2.2.2.2.2.2.2.2.2.2.2.2.2.2.2.1
theorem xk_note55 {p : Program} {s : State} {m : MethodId} {args : Array Value} {meth : Method} {c : Code} {E : xEv} {cc : ByteArray} {own : String} {nL : Nat} (hC : xk_C p s m args meth c E cc own nL) : va_Nc "java/lang/IllegalArgumentException" "java/lang/IllegalStateException" s := hC.2.2.2.2.2.2.2.2.2.2.2.2.2.2.2.2.2.2.2.2.2.2.2.2.2.2.2.2.2.2.2.2.2.2.2.2.2.2.2.2.2.2.2.2.2.2.2.2.2.2.2.2.2.2.2.2.2.2.2.2.2.2.2.2.2.1
theorem xk_note56 {p : Program} {s : State} {m : MethodId} {args : Array Value} {meth : Method} {c : Code} {E : xEv} {cc : ByteArray} {own : String} {nL : Nat} (hC : xk_C p s m args meth c E cc own nL) : va_Nc "java/lang/IllegalArgumentException" "java/lang/IndexOutOfBoundsException" s := hC.2.2.2.2.2.2.2.2.2.2.2.2.2.2.2.2.2.2.2.2.2.2.2.2.2.2.2.2.2.2.2.2.2.2.2.2.2.2.2.2.2.2.2.2.2.2.2.2.2.2.2.2.2.2.2.2.2.2.2.2.2.2.2.2.2.2.1
theorem xk_note57 {p : Program} {s : State} {m : MethodId} {args : Array Value} {meth : Method} {c : Code} {E : xEv} {cc : ByteArray} {own : String} {nL : Nat} (hC : xk_C p s m args meth c E cc own nL) : va_Nc "java/lang/IllegalStateException" "java/lang/IllegalArgumentException" s := hC.2.2.2.2.2.2.2.2.2.2.2.2.2.2.2.2.2.2.2.2.2.2.2.2.2.2.2.2.2.2.2.2.2.2.2.2.2.2.2.2.2.2.2.2.2.2.2.2.2.2.2.2.2.2.2.2.2.2.2.2.2.2.2.2.2.2.2.1
theorem xk_note58 {p : Program} {s : State} {m : MethodId} {args : Array Value} {meth : Method} {c : Code} {E : xEv} {cc : ByteArray} {own : String} {nL : Nat} (hC : xk_C p s m args meth c E cc own nL) : va_Nc "java/lang/IllegalStateException" "java/lang/IndexOutOfBoundsException" s := hC.2.2.2.2.2.2.2.2.2.2.2.2.2.2.2.2.2.2.2.2.2.2.2.2.2.2.2.2.2.2.2.2.2.2.2.2.2.2.2.2.2.2.2.2.2.2.2.2.2.2.2.2.2.2.2.2.2.2.2.2.2.2.2.2.2.2.2.2.1
theorem xk_note59 {p : Program} {s : State} {m : MethodId} {args : Array Value} {meth : Method} {c : Code} {E : xEv} {cc : ByteArray} {own : String} {nL : Nat} (hC : xk_C p s m args meth c E cc own nL) : va_Nc "java/lang/IndexOutOfBoundsException" "java/lang/IllegalArgumentException" s := hC.2.2.2.2.2.2.2.2.2.2.2.2.2.2.2.2.2.2.2.2.2.2.2.2.2.2.2.2.2.2.2.2.2.2.2.2.2.2.2.2.2.2.2.2.2.2.2.2.2.2.2.2.2.2.2.2.2.2.2.2.2.2.2.2.2.2.2.2.2.1
theorem xk_note60 {p : Program} {s : State} {m : MethodId} {args : Array Value} {meth : Method} {c : Code} {E : xEv} {cc : ByteArray} {own : String} {nL : Nat} (hC : xk_C p s m args meth c E cc own nL) : va_Nc "java/lang/IndexOutOfBoundsException" "java/lang/IllegalStateException" s := hC.2.2.2.2.2.2.2.2.2.2.2.2.2.2.2.2.2.2.2.2.2.2.2.2.2.2.2.2.2.2.2.2.2.2.2.2.2.2.2.2.2.2.2.2.2.2.2.2.2.2.2.2.2.2.2.2.2.2.2.2.2.2.2.2.2.2.2.2.2.2
theorem xk_cas {p : Program} {s : State} {m : MethodId} {args : Array Value} {meth : Method} {c : Code} {E : xEv} {cc : ByteArray} {own : String} {nL : Nat} (hC : xk_C p s m args meth c E cc own nL) : ∀ (ci : Nat) (q : vw_C), xk_cl[ci]? = some q → va_Nw (.castable q.1 "java/lang/Object") s := fun ci q h => by
  match ci, h with
  | 0, h => cases h; exact xk_note45 hC
  | 1, h => cases h; exact xk_note52 hC
  | 2, h => cases h; exact xk_note49 hC
  | 3, h => cases h; exact xk_note47 hC
  | 4, h => cases h; exact xk_note46 hC
  | 5, h => cases h; exact xk_note48 hC
  | 6, h => cases h; exact xk_note53 hC
  | 7, h => cases h; exact xk_note50 hC
  | 8, h => cases h; exact xk_note51 hC
  | 9, h => cases h; exact xk_note44 hC
  | k + 10, h => simp [xk_cl] at h
