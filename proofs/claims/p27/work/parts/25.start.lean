/-- one try of a start -/
def yStp (len : Int) (cnt : Int → Int) (p : Int × Int) (st : Int) : Int × Int := if (if st < 0 ∨ len < st then 0 else cnt st) ≤ p.2 then p else (st, if st < 0 ∨ len < st then 0 else cnt st)
/-- the tries up to n away -/
def yTry (len : Int) (cnt : Int → Int) (now : Int) : Nat → Int × Int
  | 0 => (now, cnt now)
  | n + 1 => yStp len cnt (yStp len cnt (yTry len cnt now n) (now - (n + 1))) (now + (n + 1))
theorem yStp_b {len : Int} {cnt : Int → Int} (hc : ∀ st, 0 ≤ cnt st ∧ cnt st ≤ 100) {p : Int × Int} (hp : 0 ≤ p.2 ∧ p.2 ≤ 100) (st : Int) : 0 ≤ (yStp len cnt p st).2 ∧ (yStp len cnt p st).2 ≤ 100 := by
  have := hc st
  unfold yStp
  by_cases d : st < 0 ∨ len < st
  · rw [if_pos d, if_pos hp.1]
    exact hp
  · rw [if_neg d]
    by_cases d2 : cnt st ≤ p.2
    · rw [if_pos d2]; exact hp
    · rw [if_neg d2]; exact this
theorem yTry_b {len : Int} {cnt : Int → Int} (hc : ∀ st, 0 ≤ cnt st ∧ cnt st ≤ 100) (now : Int) : ∀ n : Nat, 0 ≤ (yTry len cnt now n).2 ∧ (yTry len cnt now n).2 ≤ 100 := by
  intro n
  induction n with
  | zero => exact hc now
  | succ n ih => exact yStp_b hc (yStp_b hc ih _) _
/-- the count of a start -/
def yCnt (nh : Nat) (mb : Nat → Bool) (H : Nat → Nat → Int) (s : Nat → Int) (st : Int) : Int := yCt (yPw1 mb H (fun j => s (22 + 3 * j)) st (s 10).toNat) nh
theorem x4_start_s {z e nh nc nt : Nat} {ha ca ta : Nat → Nat} {B : Nat → Int} {H C T : Nat → Nat → Int} {w : xWd} (h : xBk z e nh nc nt ha ca ta B H C T w) (v : xVB nh nc nt B H C T) {mb : Nat → Bool} (hM : xMk z nh w mb nh) {c : Nat} (hc : c < nc) (k31 : Option Nat → Option Nat → Int32 → Int32 → Int32 → xWd → Option (Int32 × xWd)) {p : Int × Int} (hp : 0 ≤ p.2 ∧ p.2 ≤ 100) {aw sd : Int} (ha : 1 ≤ aw ∧ aw ≤ 24) (hs : sd = -1 ∨ sd = 1) (fu : Nat) :
    f_X4_bestStart_41 k31 (fu + 1) (some z) (some (ca c)) (iI p.1) (iI p.2) (iI aw) (iI sd) w = f_X4_bestStart_41 k31 fu (some z) (some (ca c)) (iI (yStp (B 5) (yCnt nh mb H (C c)) p (C c 1 + sd * aw)).1) (iI (yStp (B 5) (yCnt nh mb H (C c)) p (C c 1 + sd * aw)).2) (iI aw) (iI (sd + 2)) w := by
  have hn := yv_n v
  have hC := bk_c h hc
  have hB := (yv_c v hc).1
  have b1 : 0 ≤ C c 1 ∧ C c 1 ≤ 50000 := ⟨hB.1, hB.2.1⟩
  have g1 : xk_gI w (some (ca c)) 1 1 = some (iI (C c 1)) := xr_gI (k := 1) hC.1 rfl
  have g12 : xk_gR w (some (ca c)) 1 12 = some (some (ca c + 3)) := xr_gR (k := 12) hC.1 rfl
  have hsa : -24 ≤ sd * aw ∧ sd * aw ≤ 24 := by rcases hs with rfl | rfl <;> omega
  have c1 : ¬ (1 : Int32) < iI sd := by rw [iL_1, iI_lt (by omega) (by omega)]; omega
  have e3 : iI sd + (2 : Int32) = iI (sd + 2) := by rw [iL_2, iI_add]
  have cw := x4_countWith h v hM (ro := ca c + 3) (o := fun j => C c (22 + 3 * j)) (st := C c 1 + sd * aw) hc hC.2.2.2 (xCB_o hB) (by omega)
  have cb : 0 ≤ yCnt nh mb H (C c) (C c 1 + sd * aw) ∧ yCnt nh mb H (C c) (C c 1 + sd * aw) ≤ nh := yCt_b _ _
  have cw' : f_X4_countMetWith (some z) (some (ca c)) (iI (C c 1 + sd * aw)) (some (ca c + 3)) w = some (iI (yCnt nh mb H (C c) (C c 1 + sd * aw)), w) := cw
  have fin : ∀ m : Int, 0 ≤ m ∧ m ≤ 100 → m = (if C c 1 + sd * aw < 0 ∨ B 5 < C c 1 + sd * aw then 0 else yCnt nh mb H (C c) (C c 1 + sd * aw)) → f_X4_bestStart_88 k31 (f_X4_bestStart_41 k31 fu) (some z) (some (ca c)) (iI p.1) (iI p.2) (iI aw) (iI sd) (iI (C c 1 + sd * aw)) (iI m) w = f_X4_bestStart_41 k31 fu (some z) (some (ca c)) (iI (yStp (B 5) (yCnt nh mb H (C c)) p (C c 1 + sd * aw)).1) (iI (yStp (B 5) (yCnt nh mb H (C c)) p (C c 1 + sd * aw)).2) (iI aw) (iI (sd + 2)) w := by
    intro m hm em
    unfold f_X4_bestStart_88 f_X4_bestStart_104 yStp
    rw [← em, e3]
    by_cases d : m ≤ p.2
    · rw [if_pos (by rw [iI_le (by omega) (by omega)]; exact d), if_pos d]
    · rw [if_neg (by rw [iI_le (by omega) (by omega)]; exact d), if_neg d]
  rw [f_X4_bestStart_41]
  unfold f_X4_bestStart_73
  rw [if_neg c1, g1, Option.bind_some, iI_mul, iI_add]
  by_cases d1 : C c 1 + sd * aw < 0
  · rw [if_pos (by rw [iL_0, iI_lt (by omega) (by omega)]; exact d1), iL_0]
    exact fin 0 (by omega) (by rw [if_pos (Or.inl d1)])
  · rw [if_neg (by rw [iL_0, iI_lt (by omega) (by omega)]; exact d1), bk_I5 h, Option.bind_some]
    by_cases d2 : C c 1 + sd * aw ≤ B 5
    · rw [if_pos (by rw [iI_le (by omega) (by omega)]; exact d2), g12, Option.bind_some, bk_is h, Option.bind_some, cw', Option.bind_some]
      exact fin _ (by omega) (by rw [if_neg (by omega)])
    · rw [if_neg (by rw [iI_le (by omega) (by omega)]; exact d2), iL_0]
      exact fin 0 (by omega) (by rw [if_pos (Or.inr (by omega))])
theorem x4_start_l {z e nh nc nt : Nat} {ha ca ta : Nat → Nat} {B : Nat → Int} {H C T : Nat → Nat → Int} {w : xWd} (h : xBk z e nh nc nt ha ca ta B H C T w) (v : xVB nh nc nt B H C T) {mb : Nat → Bool} (hM : xMk z nh w mb nh) {c : Nat} (hc : c < nc) : ∀ (r k fu : Nat), k + r = 24 → r < fu →
    f_X4_bestStart_31 fu (some z) (some (ca c)) (iI (yTry (B 5) (yCnt nh mb H (C c)) (C c 1) k).1) (iI (yTry (B 5) (yCnt nh mb H (C c)) (C c 1) k).2) (iI ((k + 1 : Nat) : Int)) w = some (iI (yTry (B 5) (yCnt nh mb H (C c)) (C c 1) 24).1, w) := by
  have hn := yv_n v
  have hcnt : ∀ st, 0 ≤ yCnt nh mb H (C c) st ∧ yCnt nh mb H (C c) st ≤ 100 := fun st => by
    have : 0 ≤ yCnt nh mb H (C c) st ∧ yCnt nh mb H (C c) st ≤ nh := yCt_b _ _
    omega
  intro r
  induction r with
  | zero =>
    intro k fu h1 h4
    obtain ⟨fu, rfl⟩ : ∃ f, fu = f + 1 := ⟨fu - 1, by omega⟩
    have e : k = 24 := by omega
    subst e
    unfold f_X4_bestStart_31
    rw [if_pos (by decide)]
  | succ r ih =>
    intro k fu h1 h4
    obtain ⟨fu, rfl⟩ : ∃ f, fu = f + 1 := ⟨fu - 1, by omega⟩
    have c1 : ¬ (24 : Int32) < iI ((k + 1 : Nat) : Int) := by rw [iL_24, iI_lt (by omega) (by omega)]; omega
    have i2 := ih (k + 1) fu (by omega) (by omega)
    have hp := yTry_b (len := B 5) hcnt (C c 1) k
    have s1 := x4_start_s h v hM hc (f_X4_bestStart_31 fu) hp (aw := ((k + 1 : Nat) : Int)) (sd := -1) (by omega) (Or.inl rfl) 4095
    have s2 := x4_start_s h v hM hc (f_X4_bestStart_31 fu) (yStp_b (len := B 5) hcnt hp (C c 1 + -1 * ((k + 1 : Nat) : Int))) (aw := ((k + 1 : Nat) : Int)) (sd := 1) (by omega) (Or.inr rfl) 4094
    unfold f_X4_bestStart_31
    rw [if_neg c1, iL_m1, s1, show iI (-1 + 2) = iI 1 from rfl, s2, show iI (1 + 2) = iI 3 from rfl]
    rw [f_X4_bestStart_41, if_pos (by decide)]
    have e : yTry (B 5) (yCnt nh mb H (C c)) (C c 1) (k + 1) = yStp (B 5) (yCnt nh mb H (C c)) (yStp (B 5) (yCnt nh mb H (C c)) (yTry (B 5) (yCnt nh mb H (C c)) (C c 1) k) (C c 1 + -1 * ((k + 1 : Nat) : Int))) (C c 1 + 1 * ((k + 1 : Nat) : Int)) := by
      show yStp _ _ (yStp _ _ _ (C c 1 - ((k : Int) + 1))) (C c 1 + ((k : Int) + 1)) = _
      rw [show C c 1 - ((k : Int) + 1) = C c 1 + -1 * ((k + 1 : Nat) : Int) by omega, show C c 1 + ((k : Int) + 1) = C c 1 + 1 * ((k + 1 : Nat) : Int) by omega]
    rw [e] at i2
    rw [show iI ((k + 1 : Nat) : Int) + (1 : Int32) = iI ((k + 1 + 1 : Nat) : Int) by rw [iL_1, iI_add]; rfl]
    exact i2
/-- the best start -/
def yBest (nh nc : Nat) (B : Nat → Int) (H C : Nat → Nat → Int) (c : Nat) : Int := (yTry (B 5) (yCnt nh (fun i => yMb nc C c (H i)) H (C c)) (C c 1) 24).1
theorem x4_bestStart {z e nh nc nt : Nat} {ha ca ta : Nat → Nat} {B : Nat → Int} {H C T : Nat → Nat → Int} {w : xWd} (h : xBk z e nh nc nt ha ca ta B H C T w) (v : xVB nh nc nt B H C T) {c : Nat} (hc : c < nc) : ∃ w', f_X4_bestStart (some z) (iI c) w = some (iI (yBest nh nc B H C c), w') ∧ xBk z e nh nc nt ha ca ta B H C T w' ∧ xFr z e w w' := by
  have hn := yv_n v
  obtain ⟨w1, g1, k1, m1, f1, -⟩ := x4_mark h v (but := (c : Int)) (by omega)
  have hC := bk_c k1 hc
  have hB := (yv_c v hc).1
  have b1 : 0 ≤ C c 1 ∧ C c 1 ≤ 50000 := ⟨hB.1, hB.2.1⟩
  have q1 : xk_gI w1 (some (ca c)) 1 1 = some (iI (C c 1)) := xr_gI (k := 1) hC.1 rfl
  have q12 : xk_gR w1 (some (ca c)) 1 12 = some (some (ca c + 3)) := xr_gR (k := 12) hC.1 rfl
  have cw : f_X4_countMetWith (some z) (some (ca c)) (iI (C c 1)) (some (ca c + 3)) w1 = some (iI (yCnt nh (fun i => yMb nc C c (H i)) H (C c) (C c 1)), w1) := x4_countWith k1 v m1 (ro := ca c + 3) (o := fun j => C c (22 + 3 * j)) (st := C c 1) hc hC.2.2.2 (xCB_o hB) (by omega)
  have lp := x4_start_l k1 v m1 hc 24 0 4096 (by omega) (by omega)
  have z1 : iI ((0 + 1 : Nat) : Int) = (1 : Int32) := by decide
  rw [z1] at lp
  refine ⟨w1, ?_, k1, f1⟩
  unfold f_X4_bestStart
  rw [bk_is h, Option.bind_some, x4_cueNumbered h v hc, Option.bind_some]
  show (xk_is w (some z) 0).bind _ = _
  rw [bk_is h, Option.bind_some]
  show (f_X4_markMetByOthers (some z) (iI c) w).bind _ = _
  rw [g1, Option.bind_some]
  show (xk_gI w1 (some (ca c)) 1 1).bind _ = _
  rw [q1, Option.bind_some]
  show (xk_gR w1 (some (ca c)) 1 12).bind _ = _
  rw [q12, Option.bind_some, bk_is k1, Option.bind_some]
  show (f_X4_countMetWith (some z) (some (ca c)) (iI (C c 1)) (some (ca c + 3)) w1).bind _ = _
  rw [cw, Option.bind_some]
  exact lp
/-- what the tries say -/
theorem yTry_s {len : Int} {cnt : Int → Int} {now : Int} (h0 : 0 ≤ now ∧ now ≤ len) (hc : ∀ st, 0 ≤ cnt st) : ∀ n : Nat, (yTry len cnt now n).2 = cnt (yTry len cnt now n).1 ∧ cnt now ≤ (yTry len cnt now n).2 ∧ 0 ≤ (yTry len cnt now n).1 ∧ (yTry len cnt now n).1 ≤ len ∧ now - n ≤ (yTry len cnt now n).1 ∧ (yTry len cnt now n).1 ≤ now + n ∧ ((yTry len cnt now n).1 = now ∨ cnt now < (yTry len cnt now n).2) := by
  have stp : ∀ (p : Int × Int) (st a b : Int), (p.2 = cnt p.1 ∧ cnt now ≤ p.2 ∧ 0 ≤ p.1 ∧ p.1 ≤ len ∧ a ≤ p.1 ∧ p.1 ≤ b ∧ (p.1 = now ∨ cnt now < p.2)) → a ≤ st ∧ st ≤ b → ((yStp len cnt p st).2 = cnt (yStp len cnt p st).1 ∧ cnt now ≤ (yStp len cnt p st).2 ∧ 0 ≤ (yStp len cnt p st).1 ∧ (yStp len cnt p st).1 ≤ len ∧ a ≤ (yStp len cnt p st).1 ∧ (yStp len cnt p st).1 ≤ b ∧ ((yStp len cnt p st).1 = now ∨ cnt now < (yStp len cnt p st).2)) := by
    intro p st a b hp hst
    unfold yStp
    by_cases d : st < 0 ∨ len < st
    · rw [if_pos d]
      have : (0 : Int) ≤ p.2 := by have := hc now; omega
      rw [if_pos this]
      exact hp
    · rw [if_neg d]
      by_cases d2 : cnt st ≤ p.2
      · rw [if_pos d2]; exact hp
      · rw [if_neg d2]
        refine ⟨rfl, ?_, ?_, ?_, hst.1, hst.2, Or.inr ?_⟩
        · show cnt now ≤ cnt st
          omega
        · show 0 ≤ st
          omega
        · show st ≤ len
          omega
        · show cnt now < cnt st
          omega
  intro n
  induction n with
  | zero => exact ⟨rfl, Int.le_refl _, h0.1, h0.2, by show now - 0 ≤ now; omega, by show now ≤ now + 0; omega, Or.inl rfl⟩
  | succ n ih =>
    obtain ⟨i1, i2, i3, i4, i5, i6, i7⟩ := ih
    have s1 := stp (yTry len cnt now n) (now - ((n : Int) + 1)) (now - ((n : Int) + 1)) (now + ((n : Int) + 1)) ⟨i1, i2, i3, i4, by omega, by omega, i7⟩ (by omega)
    have s2 := stp _ (now + ((n : Int) + 1)) (now - ((n : Int) + 1)) (now + ((n : Int) + 1)) s1 (by omega)
    exact s2
