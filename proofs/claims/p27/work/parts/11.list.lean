/-! reads by what the cells hold -/
theorem xr_gI {w : xWd} {a ci k : Nat} {fs : List Value} {v : Int32} (h : w.1 a = some (.inr (ci, fs))) (hk : fs[k]? = some (.int v)) : xk_gI w (some a) ci k = some v := by
  simp [xk_gI, xk_obj, h, hk, xk_vI]
theorem xr_gR {w : xWd} {a ci k : Nat} {fs : List Value} {v : Nat} (h : w.1 a = some (.inr (ci, fs))) (hk : fs[k]? = some (.ref v)) : xk_gR w (some a) ci k = some (some v) := by
  simp [xk_gR, xk_obj, h, hk, xk_vR]
theorem xr_is {w : xWd} {a ci : Nat} {fs : List Value} (h : w.1 a = some (.inr (ci, fs))) : xk_is w (some a) ci = some () := by
  simp [xk_is, xk_obj, h]
theorem xr_cc {w : xWd} {a ci : Nat} {fs : List Value} (h : w.1 a = some (.inr (ci, fs))) : xk_cc w (some a) ci = some () := by
  simp [xk_cc, xr_is h]
theorem xr_pV {w : xWd} {a ci k : Nat} {fs : List Value} {v : Value} (h : w.1 a = some (.inr (ci, fs))) (hk : k < fs.length) : xk_pV w (some a) ci k v = some (va_up w.1 a (some (.inr (ci, fs.set k v))), w.2) := by
  simp [xk_pV, xk_obj, h, hk]
theorem xr_len {w : xWd} {a k n : Nat} {d : vp_A} (h : w.1 a = some (.inl (k, n, d.2))) (hk : k < xk_nk) : xk_len w (some a) = some (Int32.ofNat n) := by
  simp [xk_len, xk_arr, h, hk]
theorem xr_lI {w : xWd} {a k n : Nat} {f : Nat → Int32} {i : Int} (h : w.1 a = some (.inl (k, n, .inl f))) (h0 : 0 ≤ i) (h1 : i < n) (hn : n < 2147483648) : xk_lI k w (some a) (iI i) = some (f i.toNat) := by
  have e : (iI i).toNatClampNeg = i.toNat := iI_clamp (by omega)
  have e2 : ¬ iI i < 0 := by rw [iI_0, iI_lt (by omega) (by omega)]; omega
  have e3 : ¬ n ≤ i.toNat := by omega
  simp [xk_lI, xk_arr, h, e, e2, e3]
theorem xr_lI4 {w : xWd} {a n : Nat} {f : Nat → Int32} {i : Int} (h : w.1 a = some (.inl (4, n, .inl f))) (h0 : 0 ≤ i) (h1 : i < n) (hn : n < 2147483648) : xk_lI 0 w (some a) (iI i) = some (f i.toNat) := by
  have e : (iI i).toNatClampNeg = i.toNat := iI_clamp (by omega)
  have e2 : ¬ iI i < 0 := by rw [iI_0, iI_lt (by omega) (by omega)]; omega
  have e3 : ¬ n ≤ i.toNat := by omega
  simp [xk_lI, xk_arr, h, e, e2, e3]
theorem xr_sI {w : xWd} {a k n : Nat} {f : Nat → Int32} {i : Int} {v : Int32} (h : w.1 a = some (.inl (k, n, .inl f))) (h0 : 0 ≤ i) (h1 : i < n) (hn : n < 2147483648) : xk_sI k w (some a) (iI i) v = some (va_up w.1 a (some (.inl (k, n, .inl (upd f i.toNat v)))), w.2) := by
  have e : (iI i).toNatClampNeg = i.toNat := iI_clamp (by omega)
  have e2 : ¬ iI i < 0 := by rw [iI_0, iI_lt (by omega) (by omega)]; omega
  have e3 : ¬ n ≤ i.toNat := by omega
  simp [xk_sI, xk_arr, h, e, e2, e3]
theorem xr_lR {w : xWd} {a k n : Nat} {f : Nat → Option Nat} {i : Int} (h : w.1 a = some (.inl (k, n, .inr (.inr (.inr (.inr f)))))) (h0 : 0 ≤ i) (h1 : i < n) (hn : n < 2147483648) : xk_lR k w (some a) (iI i) = some (f i.toNat) := by
  have e : (iI i).toNatClampNeg = i.toNat := iI_clamp (by omega)
  have e2 : ¬ iI i < 0 := by rw [iI_0, iI_lt (by omega) (by omega)]; omega
  have e3 : ¬ n ≤ i.toNat := by omega
  simp [xk_lR, xk_arr, h, e, e2, e3]
theorem xr_sR {w : xWd} {a k n : Nat} {f : Nat → Option Nat} {i : Int} {v : Option Nat} (h : w.1 a = some (.inl (k, n, .inr (.inr (.inr (.inr f)))))) (h0 : 0 ≤ i) (h1 : i < n) (hn : n < 2147483648) : xk_sR k w (some a) (iI i) v = some (va_up w.1 a (some (.inl (k, n, .inr (.inr (.inr (.inr (va_up f i.toNat v))))))), w.2) := by
  have e : (iI i).toNatClampNeg = i.toNat := iI_clamp (by omega)
  have e2 : ¬ iI i < 0 := by rw [iI_0, iI_lt (by omega) (by omega)]; omega
  have e3 : ¬ n ≤ i.toNat := by omega
  simp [xk_sR, xk_arr, h, e, e2, e3]
theorem xr_any {w : xWd} {a ci : Nat} {fs : List Value} (h : w.1 a = some (.inr (ci, fs))) : xk_any w (some a) = some () := by
  simp [xk_any, h]
/-- a list at al, its row at ad, of n things a 0 .. -/
def xl_R (w : xWd) (al ad n : Nat) (a : Nat → Nat) : Prop := ∃ mc : Int32, w.1 al = some (.inr (5, [.int mc, .ref ad, .int (iI n)])) ∧ al < w.2.1 ∧ n ≤ 64 ∧
  ((n = 0 ∧ ad = w.2.2.1 ∧ w.1 ad = some (.inl (3, 0, .inr (.inr (.inr (.inr (fun _ => none))))))) ∨ ∃ (cap : Nat) (f : Nat → Option Nat), w.1 ad = some (.inl (2, cap, .inr (.inr (.inr (.inr f))))) ∧ ad ≠ w.2.2.1 ∧ ad < w.2.1 ∧ 0 < cap ∧ n ≤ cap ∧ cap ≤ 64 ∧ ∀ i, i < n → f i = some (a i))
theorem xl_size {w : xWd} {al ad n : Nat} {a : Nat → Nat} (h : xl_R w al ad n a) : f_Jx4a65c_size_8abf5 (some al) w = some (iI n, w) := by
  obtain ⟨mc, h1, -⟩ := h
  simp [f_Jx4a65c_size_8abf5, xr_gI (k := 2) h1 rfl]
theorem xl_is {w : xWd} {al ad n : Nat} {a : Nat → Nat} (h : xl_R w al ad n a) : xk_is w (some al) 5 = some () := by
  obtain ⟨mc, h1, -⟩ := h
  exact xr_is h1
theorem xl_get {w : xWd} {al ad n : Nat} {a : Nat → Nat} (h : xl_R w al ad n a) {i : Int} (h0 : 0 ≤ i) (hi : i < n) : f_Jx4a65c_get_915e3 (some al) (iI i) w = some (some (a i.toNat), w) := by
  obtain ⟨mc, h1, hlt, hn, h2⟩ := h
  rcases h2 with ⟨h2, -⟩ | ⟨cap, f, h2, h3, h4, h5, h6, h7, h8⟩
  · omega
  · have e1 : ¬ iI i < 0 := by rw [iI_0, iI_lt (by omega) (by omega)]; omega
    have e2 : iI i < iI n := by rw [iI_lt (by omega) (by omega)]; omega
    simp [f_Jx4a65c_get_915e3, f_J15_checkIndex_7cf53, f_J3_checkIndex_8e157, f_Jx4a65c_elementData_915e3, xr_gI (k := 2) h1 rfl, xr_gR (k := 1) h1 rfl, xr_is h1, e1, e2, xr_lR h2 h0 (by omega) (by omega), h8 i.toNat (by omega)]
/-- other cells stay -/
def xk_kp (w w1 : xWd) (S : Nat → Prop) : Prop := w.2.1 ≤ w1.2.1 ∧ w1.2.2 = w.2.2 ∧ ∀ q, q < w.2.1 → ¬ S q → w1.1 q = w.1 q
theorem xk_up_s {α : Type} (f : Nat → α) (k : Nat) (v : α) : va_up f k v k = v := by simp [va_up]
theorem xk_up_n {α : Type} (f : Nat → α) {k j : Nat} (v : α) (h : j ≠ k) : va_up f k v j = f j := by simp [va_up, h]
theorem xi_nat (n : Nat) : Int32.ofNat n = iI (n : Int) := by
  unfold iI
  rw [Int32.ofInt_eq_ofNat]
/-- add, with room in the row -/
theorem xl_put {w : xWd} {al ad n cap v ci : Nat} {a : Nat → Nat} {f : Nat → Option Nat} {fs : List Value} {mc : Int32} (h1 : w.1 al = some (.inr (5, [.int mc, .ref ad, .int (iI n)]))) (h2 : w.1 ad = some (.inl (2, cap, .inr (.inr (.inr (.inr f)))))) (hne : al ≠ ad) (hv : w.1 v = some (.inr (ci, fs))) (hn : n < cap) (hc : cap ≤ 64) :
    f_Jx4a65c_add_72be8_11 (some al) (some v) (some ad) (iI n) w = some (va_up (va_up w.1 ad (some (.inl (2, cap, .inr (.inr (.inr (.inr (va_up f n (some v))))))))) al (some (.inr (5, [.int mc, .ref ad, .int (iI (n + 1))]))), w.2) := by
  have e := xr_sR (v := some v) h2 (i := (n : Int)) (by omega) (by omega) (by omega)
  have h3 : (va_up w.1 ad (some (.inl (2, cap, .inr (.inr (.inr (.inr (va_up f n (some v)))))))), w.2).1 al = some (.inr (5, [.int mc, .ref ad, .int (iI n)])) := by
    show va_up w.1 ad _ al = _
    rw [xk_up_n _ _ hne]
    exact h1
  have e2 := xr_pV (k := 2) (v := .int (iI n + 1)) h3 (by simp)
  have e3 : iI (n : Int) + 1 = iI ((n : Int) + 1) := by rw [iI_1, iI_add]
  simp only [Int.toNat_natCast] at e
  simp only [f_Jx4a65c_add_72be8_11, xr_any hv, Option.bind_some, e, e2]
  simp [e3]
theorem xl_shr : ∀ c : Nat, c < 65 → iI (c : Int) >>> ((1 : Int32) &&& 31) = iI ((c / 2 : Nat) : Int) := by decide
/-- the row grown: from cap to cap + max 1 (cap / 2) -/
theorem xl_grow {w : xWd} {al ad cap : Nat} {a : Nat → Nat} {f : Nat → Option Nat} {mc : Int32} (h1 : w.1 al = some (.inr (5, [.int mc, .ref ad, .int (iI cap)]))) (hal : al < w.2.1) (h2 : w.1 ad = some (.inl (2, cap, .inr (.inr (.inr (.inr f)))))) (had : ad < w.2.1) (hc0 : 0 < cap) (hc : cap ≤ 42) (hf : ∀ i, i < cap → f i = some (a i)) (ho : ∀ i, i < cap → ∃ ci fs, w.1 (a i) = some (.inr (ci, fs)) ∧ a i < w.2.1) :
    ∃ (nc : Nat) (g : Nat → Option Nat), cap < nc ∧ nc ≤ 64 ∧ (∀ i, i < cap → g i = some (a i)) ∧ f_Jx4a65c_grow_d5877 (some al) w = some (some w.2.1, (va_up (va_up w.1 w.2.1 (some (.inl (2, nc, .inr (.inr (.inr (.inr g))))))) al (some (.inr (5, [.int mc, .ref w.2.1, .int (iI cap)]))), w.2.1 + 1, w.2.2)) := by
  have hm : ∃ m : Nat, 1 ≤ m ∧ m ≤ 21 ∧ (if iI ((cap : Int) + 1) - iI cap < iI ((cap / 2 : Nat) : Int) then iI ((cap / 2 : Nat) : Int) else iI ((cap : Int) + 1) - iI cap) = iI (m : Int) := by
    rw [iI_sub]
    by_cases c : cap / 2 ≤ 1
    · refine ⟨1, by omega, by omega, ?_⟩
      rw [if_neg]
      · congr 1; omega
      · rw [iI_lt (by omega) (by omega)]; omega
    · refine ⟨cap / 2, by omega, by omega, ?_⟩
      rw [if_pos]
      rw [iI_lt (by omega) (by omega)]; omega
  obtain ⟨m, m1, m2, m3⟩ := hm
  refine ⟨cap + m, fun j => if j < cap then f j else none, by omega, by omega, fun i hi => (if_pos hi).trans (hf i hi), ?_⟩
  have e1 : iI (cap : Int) + 1 = iI ((cap : Int) + 1) := by rw [iI_1, iI_add]
  have eN : f_J8_newLength_cabcc (iI (cap : Int)) (iI ((cap : Int) + 1) - iI cap) (iI (cap : Int) >>> ((1 : Int32) &&& 31)) w = some (iI ((cap + m : Nat) : Int), w) := by
    unfold f_J8_newLength_cabcc
    rw [xl_shr cap (by omega), m3, iI_add]
    have q1 : ¬ iI ((cap : Int) + m) ≤ 0 := by rw [iI_0, iI_le (by omega) (by omega)]; omega
    have q2 : ¬ (2147483639 : Int32) < iI ((cap : Int) + m) := by rw [show (2147483639 : Int32) = iI 2147483639 from by decide, iI_lt (by omega) (by omega)]; omega
    rw [if_neg q1, if_neg q2]
    congr 2
  have q0 : ¬ iI ((cap + m : Nat) : Int) < 0 := by rw [iI_0, iI_lt (by omega) (by omega)]; omega
  have q3 : (iI ((cap + m : Nat) : Int)).toNatClampNeg = cap + m := by rw [iI_clamp (by omega)]; omega
  have eA : xk_nA w 2 xk_dR (iI ((cap + m : Nat) : Int)) 64 = some (va_up w.1 w.2.1 (some (.inl (2, cap + m, xk_dR.2))), w.2.1 + 1, w.2.2) := by
    unfold xk_nA
    rw [if_neg q0, q3, if_pos (by omega)]
  obtain ⟨w2, hw2⟩ : ∃ w2 : xWd, w2 = (va_up w.1 w.2.1 (some (.inl (2, cap + m, xk_dR.2))), w.2.1 + 1, w.2.2) := ⟨_, rfl⟩
  have ad2 : w2.1 ad = some (.inl (2, cap, .inr (.inr (.inr (.inr f))))) := by
    rw [hw2]
    show va_up w.1 w.2.1 _ ad = _
    rw [xk_up_n _ _ (by omega)]
    exact h2
  have nw2 : w2.1 w.2.1 = some (.inl (2, cap + m, .inr (.inr (.inr (.inr (fun _ => none)))))) := by
    rw [hw2]
    show va_up w.1 w.2.1 _ w.2.1 = _
    rw [xk_up_s]
  have eL : xk_len w2 (some ad) = some (iI cap) := by
    have := xr_len (d := (cap, .inr (.inr (.inr (.inr f))))) ad2 (by decide)
    rw [this, xi_nat]
  have q4 : (if iI ((cap + m : Nat) : Int) < iI (cap : Int) then iI ((cap + m : Nat) : Int) else iI cap) = iI cap := by
    rw [if_neg]
    rw [iI_lt (by omega) (by omega)]; omega
  have z0 : (0 : Int32).toNatClampNeg = 0 := by decide
  have q5 : ¬ iI (cap : Int) < 0 := by rw [iI_0, iI_lt (by omega) (by omega)]; omega
  have q6 : (iI (cap : Int)).toNatClampNeg = cap := by rw [iI_clamp (by omega)]; omega
  have els : xk_els w2 f 0 cap = true := by
    unfold xk_els
    rw [List.all_eq_true]
    intro i hi
    have hi := List.mem_range.mp hi
    obtain ⟨ci, fs, o1, o2⟩ := ho i hi
    have o3 : w2.1 (a i) = some (.inr (ci, fs)) := by
      rw [hw2]
      show va_up w.1 w.2.1 _ (a i) = _
      rw [xk_up_n _ _ (by omega)]
      exact o1
    rw [Nat.zero_add, hf i hi, xr_any o3]
    rfl
  have eC : xk_cpy w2 (some ad) 0 (some w.2.1) 0 (iI cap) = some (va_up w2.1 w.2.1 (some (.inl (2, cap + m, .inr (.inr (.inr (.inr (va_cpy f (fun _ => none) 0 0 cap))))))), w2.2) := by
    have a1 : xk_arr w2 (some ad) = some (2, cap, .inr (.inr (.inr (.inr f)))) := by simp [xk_arr, ad2]
    have a2 : xk_arr w2 (some w.2.1) = some (2, cap + m, .inr (.inr (.inr (.inr (fun _ => none))))) := by simp [xk_arr, nw2]
    have n0 : ¬ (0 : Int32) < 0 := by decide
    simp only [xk_cpy, a1, a2, Option.bind_some, z0, q6]
    rw [if_pos]
    exact ⟨trivial, trivial, n0, n0, q5, by omega, by omega, els⟩
  have eQ : va_cpy f (fun _ => none) 0 0 cap = fun j => if j < cap then f j else none := by
    funext j
    simp [va_cpy]
  have eD : f_J7_copyOf_1904c (some ad) (iI ((cap + m : Nat) : Int)) w = some (some w.2.1, (va_up w2.1 w.2.1 (some (.inl (2, cap + m, .inr (.inr (.inr (.inr (va_cpy f (fun _ => none) 0 0 cap))))))), w2.2)) := by
    have a3 : xk_ar2 w (some ad) = some () := by simp [xk_ar2, xk_arr, h2]
    simp only [f_J7_copyOf_1904c, f_J7_copyOf_6403c, a3, Option.bind_some, if_true, eA, ← hw2, eL, q4, eC]
  have lv : f_Jx4a65c_grow_92f84_20 (some al) (iI ((cap : Int) + 1)) (iI cap) w = some (some w.2.1, (va_up (va_up w.1 w.2.1 (some (.inl (2, cap + m, .inr (.inr (.inr (.inr (fun j => if j < cap then f j else none)))))))) al (some (.inr (5, [.int mc, .ref w.2.1, .int (iI cap)]))), w.2.1 + 1, w.2.2)) := by
    have l1 : (va_up w2.1 w.2.1 (some (.inl (2, cap + m, .inr (.inr (.inr (.inr (va_cpy f (fun _ => none) 0 0 cap))))))), w2.2).1 al = some (.inr (5, [.int mc, .ref ad, .int (iI cap)])) := by
      show va_up w2.1 w.2.1 _ al = _
      rw [xk_up_n _ _ (by omega), hw2]
      show va_up w.1 w.2.1 _ al = _
      rw [xk_up_n _ _ (by omega)]
      exact h1
    have l2 := xr_pV (k := 1) (v := .ref w.2.1) l1 (by simp)
    simp only [f_Jx4a65c_grow_92f84_20, eN, Option.bind_some, xr_gR (k := 1) h1 rfl, eD]
    show (xk_pV _ (some al) 5 1 (.ref w.2.1)).bind _ = _
    rw [l2]
    simp only [Option.bind_some, List.set]
    rw [eQ, hw2]
    congr 3
    funext q
    by_cases c1 : q = al
    · subst c1; simp [va_up]
    · by_cases c2 : q = w.2.1
      · subst c2; simp [va_up, c1]
      · simp [va_up, c1, c2]
  have eL0 : xk_len w (some ad) = some (iI cap) := by
    have := xr_len (d := (cap, .inr (.inr (.inr (.inr f))))) h2 (by decide)
    rw [this, xi_nat]
  have q7 : (0 : Int32) < iI cap := by rw [iI_0, iI_lt (by omega) (by omega)]; omega
  simp only [f_Jx4a65c_grow_d5877, f_Jx4a65c_grow_92f84, xr_gI (k := 2) h1 rfl, xr_is h1, xr_gR (k := 1) h1 rfl, Option.bind_some, e1, eL0, if_pos q7, lv]
/-- the first row, of ten -/
theorem xl_grow0 {w : xWd} {al ad : Nat} {mc : Int32} (h1 : w.1 al = some (.inr (5, [.int mc, .ref ad, .int (iI (0 : Nat))]))) (hal : al < w.2.1) (hA : w.1 ad = some (.inl (3, 0, .inr (.inr (.inr (.inr (fun _ => none))))))) (hE : ad = w.2.2.1) :
    f_Jx4a65c_grow_d5877 (some al) w = some (some w.2.1, (va_up (va_up w.1 w.2.1 (some (.inl (2, 10, .inr (.inr (.inr (.inr (fun _ => none)))))))) al (some (.inr (5, [.int mc, .ref w.2.1, .int (iI (0 : Nat))]))), w.2.1 + 1, w.2.2)) := by
  have eL : xk_len w (some ad) = some (0 : Int32) := by
    have := xr_len (d := (0, .inr (.inr (.inr (.inr (fun _ => none)))))) hA (by decide)
    rw [this]
    rfl
  have eA : xk_nA w 2 xk_dR (10 : Int32) 64 = some (va_up w.1 w.2.1 (some (.inl (2, 10, xk_dR.2))), w.2.1 + 1, w.2.2) := by
    have n0 : ¬ (10 : Int32) < 0 := by decide
    have n1 : (10 : Int32).toNatClampNeg = 10 := by decide
    unfold xk_nA
    rw [if_neg n0, n1, if_pos (by decide)]
  have l1 : (va_up w.1 w.2.1 (some (.inl (2, 10, xk_dR.2))), w.2.1 + 1, w.2.2).1 al = some (.inr (5, [.int mc, .ref ad, .int (iI (0 : Nat))])) := (xk_up_n _ _ (Nat.ne_of_lt hal)).trans h1
  have l2 := xr_pV (k := 1) (v := va_rf (some w.2.1)) l1 (by simp)
  have z2 : (if (10 : Int32) < iI ((0 : Nat) : Int) + 1 then iI ((0 : Nat) : Int) + 1 else 10) = 10 := by decide
  have c0 : ¬ (0 : Int32) < 0 := by decide
  have e1 : f_Jx4a65c_grow_92f84 (some al) (iI ((0 : Nat) : Int) + 1) w = some (some w.2.1, (va_up (va_up w.1 w.2.1 (some (.inl (2, 10, .inr (.inr (.inr (.inr (fun _ => none)))))))) al (some (.inr (5, [.int mc, .ref w.2.1, .int (iI (0 : Nat))]))), w.2.1 + 1, w.2.2)) := by
    unfold f_Jx4a65c_grow_92f84
    rw [xr_gR (k := 1) h1 rfl, Option.bind_some, eL, Option.bind_some, if_neg c0, Option.bind_some, if_pos (congrArg some hE), z2, eA, Option.bind_some, l2]
    rfl
  unfold f_Jx4a65c_grow_d5877
  rw [xr_gI (k := 2) h1 rfl, Option.bind_some, xr_is h1, Option.bind_some, e1]
  rfl
/-- the list add, whole: the row may be new -/
theorem xl_add {w : xWd} {al ad n v ci : Nat} {a : Nat → Nat} {fs : List Value} (h : xl_R w al ad n a) (hz : w.2.2.1 < w.2.1) (hn : n ≤ 42) (hv : w.1 v = some (.inr (ci, fs))) (hva : v ≠ al) (hvl : v < w.2.1) (ho : ∀ i, i < n → (∃ ci fs, w.1 (a i) = some (.inr (ci, fs))) ∧ a i < w.2.1 ∧ a i ≠ al) :
    ∃ (ad' : Nat) (w' : xWd), f_Jx4a65c_add_9ea2d (some al) (some v) w = some (1, w') ∧ xl_R w' al ad' (n + 1) (va_up a n v) ∧ xk_kp w w' (fun q => q = al ∨ (q = ad ∧ ad ≠ w.2.2.1)) ∧ ((ad' = ad ∧ ad ≠ w.2.2.1 ∧ w'.2.1 = w.2.1) ∨ (ad' = w.2.1 ∧ w'.2.1 = w.2.1 + 1)) := by
  obtain ⟨mc, h1, hal, hn64, h2⟩ := h
  have p1 := xr_pV (k := 0) (v := .int (mc + 1)) h1 (by simp)
  simp only [List.set] at p1
  obtain ⟨w2, hw2⟩ : ∃ w2 : xWd, w2 = (va_up w.1 al (some (.inr (5, [.int (mc + 1), .ref ad, .int (iI n)]))), w.2) := ⟨_, rfl⟩
  rw [← hw2] at p1
  have k1 : w2.1 al = some (.inr (5, [.int (mc + 1), .ref ad, .int (iI n)])) := by
    rw [hw2]
    exact xk_up_s _ _ _
  have kq : ∀ q, q ≠ al → w2.1 q = w.1 q := fun q hq => by
    rw [hw2]
    exact xk_up_n _ _ hq
  have ks : w2.2 = w.2 := by rw [hw2]
  have ks1 : w2.2.1 = w.2.1 := by rw [ks]
  have kE : w2.2.2.1 = w.2.2.1 := by rw [ks]
  have e0 : ∀ w', f_Jx4a65c_add_72be8 (some al) (some v) (some ad) (iI n) w2 = some w' → f_Jx4a65c_add_9ea2d (some al) (some v) w = some (1, w') := by
    intro w' hx
    unfold f_Jx4a65c_add_9ea2d
    rw [xr_gI (k := 0) h1 rfl, Option.bind_some, p1, Option.bind_some, xr_gR (k := 1) k1 rfl, Option.bind_some, xr_gI (k := 2) k1 rfl, Option.bind_some, xr_is k1, Option.bind_some, hx]
    rfl
  have hv2 : w2.1 v = some (.inr (ci, fs)) := (kq v hva).trans hv
  -- after a growth to a new row at w.2.1
  have fin : ∀ (nc : Nat) (g : Nat → Option Nat) (w4 : xWd), n < nc → nc ≤ 64 → (∀ i, i < n → g i = some (a i)) → w4 = (va_up (va_up w2.1 w2.2.1 (some (.inl (2, nc, .inr (.inr (.inr (.inr g))))))) al (some (.inr (5, [.int (mc + 1), .ref w2.2.1, .int (iI n)]))), w2.2.1 + 1, w2.2.2) →
      f_Jx4a65c_grow_d5877 (some al) w2 = some (some w2.2.1, w4) → (xk_len w2 (some ad) = some (iI n)) →
      ∃ (ad' : Nat) (w' : xWd), f_Jx4a65c_add_9ea2d (some al) (some v) w = some (1, w') ∧ xl_R w' al ad' (n + 1) (va_up a n v) ∧ xk_kp w w' (fun q => q = al ∨ (q = ad ∧ ad ≠ w.2.2.1)) ∧ ((ad' = ad ∧ ad ≠ w.2.2.1 ∧ w'.2.1 = w.2.1) ∨ (ad' = w.2.1 ∧ w'.2.1 = w.2.1 + 1)) := by
    intro nc g w4 g1 g2 g3 g4 g5 g6
    have l1 : w4.1 al = some (.inr (5, [.int (mc + 1), .ref w2.2.1, .int (iI n)])) := by
      rw [g4]
      exact xk_up_s _ _ _
    have l2 : w4.1 w2.2.1 = some (.inl (2, nc, .inr (.inr (.inr (.inr g))))) := by
      rw [g4]
      exact (xk_up_n _ _ (by omega)).trans (xk_up_s _ _ _)
    have lq : ∀ q, q ≠ al → q ≠ w2.2.1 → w4.1 q = w2.1 q := by
      intro q q1 q2
      rw [g4]
      exact (xk_up_n _ _ q1).trans (xk_up_n _ _ q2)
    have lv : w4.1 v = some (.inr (ci, fs)) := (lq v hva (by omega)).trans hv2
    have pp := xl_put (a := a) l1 l2 (by omega) lv g1 g2
    have s4 : w4.2 = (w2.2.1 + 1, w2.2.2) := by rw [g4]
    obtain ⟨w5, hw5⟩ : ∃ w5 : xWd, w5 = (va_up (va_up w4.1 w2.2.1 (some (.inl (2, nc, .inr (.inr (.inr (.inr (va_up g n (some v))))))))) al (some (.inr (5, [.int (mc + 1), .ref w2.2.1, .int (iI (n + 1))]))), w4.2) := ⟨_, rfl⟩
    rw [← hw5] at pp
    have s5 : w5.2 = (w2.2.1 + 1, w2.2.2) := by rw [hw5]; exact s4
    have s51 : w5.2.1 = w2.2.1 + 1 := by rw [s5]
    have r1 : f_Jx4a65c_add_72be8 (some al) (some v) (some ad) (iI n) w2 = some w5 := by
      unfold f_Jx4a65c_add_72be8
      rw [g6, Option.bind_some, if_pos rfl, xr_is k1, Option.bind_some, g5, Option.bind_some]
      exact pp
    have r2 : w5.1 al = some (.inr (5, [.int (mc + 1), .ref w2.2.1, .int (iI (n + 1))])) := by
      rw [hw5]
      exact xk_up_s _ _ _
    have r3 : w5.1 w2.2.1 = some (.inl (2, nc, .inr (.inr (.inr (.inr (va_up g n (some v))))))) := by
      rw [hw5]
      exact (xk_up_n _ _ (by omega)).trans (xk_up_s _ _ _)
    have r4 : ∀ q, q ≠ al → q ≠ w2.2.1 → w5.1 q = w.1 q := by
      intro q q1 q2
      rw [hw5]
      exact ((xk_up_n _ _ q1).trans (xk_up_n _ _ q2)).trans ((lq q q1 q2).trans (kq q q1))
    have hEl : w.2.2.1 = w5.2.2.1 := by rw [s5, ks]
    refine ⟨w2.2.1, w5, e0 _ r1, ⟨mc + 1, r2, by omega, by omega, Or.inr ⟨nc, va_up g n (some v), r3, ?_, by omega, by omega, by omega, by omega, ?_⟩⟩, ⟨by omega, by rw [s5, ks], ?_⟩, Or.inr ⟨ks1, by omega⟩⟩
    · rw [← hEl]; omega
    · intro i hi
      by_cases c : i = n
      · subst c
        rw [xk_up_s, xk_up_s]
      · rw [xk_up_n _ _ c, xk_up_n _ _ c]
        exact g3 i (by omega)
    · intro q hq hS
      exact r4 q (fun e => hS (Or.inl e)) (by omega)
  rcases h2 with ⟨rfl, hEq, hA⟩ | ⟨cap, f, h2, h3, h4, h5, h6, h7, h8⟩
  · have hne : ad ≠ al := fun e => by rw [e, h1] at hA; cases hA
    have hA2 : w2.1 ad = some (.inl (3, 0, .inr (.inr (.inr (.inr (fun _ => none)))))) := by rw [kq ad hne]; exact hA
    have eL : xk_len w2 (some ad) = some (iI (0 : Nat)) := by
      have := xr_len (d := (0, .inr (.inr (.inr (.inr (fun _ => none)))))) hA2 (by decide)
      rw [this]
      rfl
    exact fin 10 _ _ (by omega) (by omega) (fun i hi => absurd hi (by omega)) rfl (xl_grow0 k1 (by omega) hA2 (by rw [kE]; exact hEq)) eL
  · have hne : ad ≠ al := fun e => by rw [e, h1] at h2; cases h2
    have hA2 : w2.1 ad = some (.inl (2, cap, .inr (.inr (.inr (.inr f))))) := by rw [kq ad hne]; exact h2
    have eL : xk_len w2 (some ad) = some (iI cap) := by
      have := xr_len (d := (cap, .inr (.inr (.inr (.inr f))))) hA2 (by decide)
      rw [this, xi_nat]
    by_cases c : n = cap
    · subst c
      obtain ⟨nc, g, g1, g2, g3, g4⟩ := xl_grow (a := a) k1 (by omega) hA2 (by omega) h5 hn h8 (fun i hi => by
        obtain ⟨⟨ci2, fs2, o1⟩, o2, o3⟩ := ho i hi
        exact ⟨ci2, fs2, (kq _ o3).trans o1, by omega⟩)
      exact fin nc g _ g1 g2 g3 rfl g4 eL
    · have c2 : ¬ iI (n : Int) = iI (cap : Int) := by rw [iI_eq (by omega) (by omega)]; omega
      have pp := xl_put (a := a) k1 hA2 (fun e => hne e.symm) hv2 (by omega) h7
      obtain ⟨w5, hw5⟩ : ∃ w5 : xWd, w5 = (va_up (va_up w2.1 ad (some (.inl (2, cap, .inr (.inr (.inr (.inr (va_up f n (some v))))))))) al (some (.inr (5, [.int (mc + 1), .ref ad, .int (iI (n + 1))]))), w2.2) := ⟨_, rfl⟩
      rw [← hw5] at pp
      have r1 : f_Jx4a65c_add_72be8 (some al) (some v) (some ad) (iI n) w2 = some w5 := by
        unfold f_Jx4a65c_add_72be8
        rw [eL, Option.bind_some, if_neg c2]
        exact pp
      have s5 : w5.2 = w.2 := by rw [hw5]; exact ks
      have r2 : w5.1 al = some (.inr (5, [.int (mc + 1), .ref ad, .int (iI (n + 1))])) := by
        rw [hw5]
        exact xk_up_s _ _ _
      have r3 : w5.1 ad = some (.inl (2, cap, .inr (.inr (.inr (.inr (va_up f n (some v))))))) := by
        rw [hw5]
        exact (xk_up_n _ _ hne).trans (xk_up_s _ _ _)
      refine ⟨ad, w5, e0 _ r1, ⟨mc + 1, r2, by rw [s5]; exact hal, by omega, Or.inr ⟨cap, va_up f n (some v), r3, by rw [s5]; exact h3, by rw [s5]; exact h4, h5, by omega, h7, ?_⟩⟩, ⟨by rw [s5]; exact Nat.le_refl _, by rw [s5], ?_⟩, Or.inl ⟨rfl, h3, by rw [s5]⟩⟩
      · intro i hi
        by_cases c : i = n
        · subst c
          rw [xk_up_s, xk_up_s]
        · rw [xk_up_n _ _ c, xk_up_n _ _ c]
          exact h8 i (by omega)
      · intro q hq hS
        rw [hw5]
        have q1 : q ≠ al := fun e => hS (Or.inl e)
        have q2 : q ≠ ad := fun e => hS (Or.inr ⟨e, h3⟩)
        exact ((xk_up_n _ _ q1).trans (xk_up_n _ _ q2)).trans (kq q q1)
