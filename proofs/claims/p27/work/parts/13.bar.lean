theorem xi_upd (g : Nat → Int) (k : Nat) (x : Int) : upd (fun i => iI (g i)) k (iI x) = fun i => iI (va_up g k x i) := by
  funext i
  by_cases c : i = k
  · subst c; simp [upd, va_up]
  · simp [upd, va_up, c]
theorem xk_up2 {α : Type} (f : Nat → α) (k : Nat) (u v : α) : va_up (va_up f k u) k v = va_up f k v := by
  funext i
  by_cases c : i = k
  · subst c; simp [va_up]
  · simp [va_up, c]
theorem xk_up_id {α : Type} (f : Nat → α) (k : Nat) (u : α) (h : f k = u) : va_up f k u = f := by
  funext i
  by_cases c : i = k
  · subst c; simp [va_up, h]
  · simp [va_up, c]
/-- quarters before bar n, with clicks K -/
def yH (s K : Nat → Int) : Nat → Int
  | 0 => 0
  | n + 1 => yH s K n + s (20 + 3 * n) * K n
/-- the row laid out by the first n bars -/
def yL (s K : Nat → Int) (g : Nat → Int) : Nat → Nat → Int
  | 0 => g
  | n + 1 => fun i => if yB s n ≤ i ∧ i < yB s (n + 1) then (yH s K n + (i - yB s n) * K n) / 4 else yL s K g n i
/-- within bar n, k beats of it -/
def yL1 (s K : Nat → Int) (g : Nat → Int) (n k : Nat) : Nat → Int := fun i => if yB s n ≤ i ∧ i < yB s n + k then (yH s K n + (i - yB s n) * K n) / 4 else yL s K g n i
theorem yL1_0 (s K g : Nat → Int) (n : Nat) : yL1 s K g n 0 = yL s K g n := by
  funext i
  unfold yL1
  rw [if_neg (by omega)]
theorem yL1_m (s K g : Nat → Int) (n m : Nat) (h : (m : Int) = s (20 + 3 * n)) : yL1 s K g n m = yL s K g (n + 1) := by
  funext i
  show (if _ then _ else _) = if yB s n ≤ i ∧ i < yB s n + s (20 + 3 * n) then _ else _
  rw [h]
theorem yL1_s (s K g : Nat → Int) (n k b : Nat) (hb : (b : Int) = yB s n + k) : va_up (yL1 s K g n k) b ((yH s K n + k * K n) / 4) = yL1 s K g n (k + 1) := by
  funext i
  by_cases c : i = b
  · subst c
    rw [xk_up_s]
    unfold yL1
    rw [if_pos (by omega)]
    rw [show (i : Int) - yB s n = k by omega]
  · rw [xk_up_n _ _ c]
    unfold yL1
    by_cases d : yB s n ≤ i ∧ (i : Int) < yB s n + k
    · rw [if_pos d, if_pos (by omega)]
    · rw [if_neg d, if_neg (by omega)]
/-- what meters and clicks keep to -/
def yMK (s K : Nat → Int) : Prop := ∀ i, i < 9 → 0 ≤ s (20 + 3 * i) ∧ s (20 + 3 * i) ≤ 7 ∧ 0 ≤ K i ∧ K i ≤ 160
theorem yB_b {s K : Nat → Int} (h : yMK s K) : ∀ n : Nat, n ≤ 9 → 0 ≤ yB s n ∧ yB s n ≤ 7 * n := by
  intro n
  induction n with
  | zero => intro _; exact ⟨Int.le_refl _, Int.le_refl _⟩
  | succ n ih =>
    intro hn
    have h1 := ih (by omega)
    have h2 := h n (by omega)
    have e : yB s (n + 1) = yB s n + s (20 + 3 * n) := rfl
    omega
theorem yH_b {s K : Nat → Int} (h : yMK s K) : ∀ n : Nat, n ≤ 9 → 0 ≤ yH s K n ∧ yH s K n ≤ 1120 * n := by
  intro n
  induction n with
  | zero => intro _; exact ⟨Int.le_refl _, Int.le_refl _⟩
  | succ n ih =>
    intro hn
    have h1 := ih (by omega)
    have h2 := h n (by omega)
    have e : yH s K (n + 1) = yH s K n + s (20 + 3 * n) * K n := rfl
    have h3 : 0 ≤ s (20 + 3 * n) * K n := Int.mul_nonneg h2.1 h2.2.2.1
    have h4 : s (20 + 3 * n) * K n ≤ 7 * 160 := Int.mul_le_mul h2.2.1 h2.2.2.2 h2.2.2.1 (by omega)
    omega
theorem yH_k {s K : Nat → Int} (h : yMK s K) {n k : Nat} (hn : n < 9) (hk : k ≤ 7) : 0 ≤ yH s K n + k * K n ∧ yH s K n + k * K n ≤ 12000 := by
  have h1 := yH_b h n (by omega)
  have h2 := h n hn
  have h3 : 0 ≤ (k : Int) * K n := Int.mul_nonneg (by omega) h2.2.2.1
  have h4 : (k : Int) * K n ≤ 7 * 160 := Int.mul_le_mul (by omega) h2.2.2.2 h2.2.2.1 (by omega)
  omega
/-- the world with row ro as g -/
def yW (w : xWd) (ro : Nat) (g : Nat → Int) : xWd := (va_up w.1 ro (some (.inl (0, 63, .inl (fun i => iI (g i))))), w.2)
theorem yW_s (w : xWd) (ro : Nat) (g : Nat → Int) : (yW w ro g).1 ro = some (.inl (0, 63, .inl (fun i => iI (g i)))) := xk_up_s _ _ _
theorem yW_n (w : xWd) {ro q : Nat} (g : Nat → Int) (h : q ≠ ro) : (yW w ro g).1 q = w.1 q := xk_up_n _ _ h
theorem yW_set {w : xWd} {ro : Nat} {g : Nat → Int} {i x : Int} (h0 : 0 ≤ i) (h1 : i < 63) : xk_sI 0 (yW w ro g) (some ro) (iI i) (iI x) = some (yW w ro (va_up g i.toNat x)) := by
  rw [xr_sI (yW_s w ro g) h0 (by omega) (by omega), xi_upd]
  unfold yW
  rw [xk_up2]
theorem x0_layOut_in {w : xWd} {a ro : Nat} {s K g : Nat → Int} {oth oc : Int} (hm : w.1 (a + 1) = some (.inl (0, 9, .inl (fun i => iI (s (20 + 3 * i)))))) (hf : ∀ g, xk_gR (yW w ro g) (some a) 1 8 = some (some (a + 1))) (hne : a + 1 ≠ ro) (hK : yMK s K) {n : Nat} (hn : n < 9) (k9 : Option Nat → Option Nat → Int32 → Int32 → Int32 → Int32 → Int32 → xWd → Option (Int32 × xWd)) : ∀ (r k fu : Nat), (k : Int) + r = s (20 + 3 * n) → r < fu →
    f_X0_layOut_47 k9 fu (some a) (some ro) (iI oth) (iI oc) (iI (yH s K n + k * K n)) (iI (yB s n + k)) (iI n) (iI (K n)) (iI k) (yW w ro (yL1 s K g n k)) = k9 (some a) (some ro) (iI oth) (iI oc) (iI (yH s K (n + 1))) (iI (yB s (n + 1))) (iI ((n + 1 : Nat) : Int)) (yW w ro (yL s K g (n + 1))) := by
  intro r
  have b1 := yB_b hK n (by omega)
  have b2 := hK n hn
  have e : ∀ g, xk_lI 0 (yW w ro g) (some (a + 1)) (iI (n : Int)) = some (iI (s (20 + 3 * n))) := by
    intro g
    have := xr_lI ((yW_n w g hne).trans hm) (i := (n : Int)) (by omega) (by omega) (by omega)
    rw [this, Int.toNat_natCast]
  induction r with
  | zero =>
    intro k fu h1 h4
    obtain ⟨fu, rfl⟩ : ∃ f, fu = f + 1 := ⟨fu - 1, by omega⟩
    have c1 : iI (s (20 + 3 * n)) ≤ iI k := by rw [iI_le (by omega) (by omega)]; omega
    unfold f_X0_layOut_47 f_X0_layOut_90
    rw [hf, Option.bind_some, e, Option.bind_some, if_pos c1, yL1_m s K g n k (by omega), iL_1, iI_add]
    have q1 : yH s K n + k * K n = yH s K (n + 1) := by rw [show (k : Int) = s (20 + 3 * n) by omega]; rfl
    have q2 : yB s n + k = yB s (n + 1) := by rw [show (k : Int) = s (20 + 3 * n) by omega]; rfl
    rw [q1, q2]
    rfl
  | succ r ih =>
    intro k fu h1 h4
    obtain ⟨fu, rfl⟩ : ∃ f, fu = f + 1 := ⟨fu - 1, by omega⟩
    have b3 := yH_k hK hn (k := k) (by omega)
    have c1 : ¬ iI (s (20 + 3 * n)) ≤ iI k := by rw [iI_le (by omega) (by omega)]; omega
    have c2 : ¬ Int32.ofNat 63 ≤ iI (yB s n + k) := by rw [xi_nat, iI_le (by omega) (by omega)]; omega
    have eL := xr_len (d := (63, .inl (fun i => iI (yL1 s K g n k i)))) (yW_s w ro (yL1 s K g n k)) (by decide)
    have q3 : yH s K n + k * K n + K n = yH s K n + ((k + 1 : Nat) : Int) * K n := by
      rw [show ((k + 1 : Nat) : Int) = (k : Int) + 1 by omega, Int.add_mul, Int.one_mul]; omega
    have nz : xk_nz (iI 4) = some () := by decide
    unfold f_X0_layOut_47
    rw [hf, Option.bind_some, e, Option.bind_some, if_neg c1, eL, Option.bind_some, if_neg c2, iL_4, nz, Option.bind_some, iI_div (by omega) (by omega), yW_set (by omega) (by omega), Option.bind_some, iL_1, iI_add, iI_add, iI_add, q3, yL1_s s K g n k _ (by omega)]
    have := ih (k + 1) fu (by omega) (by omega)
    rw [show yB s n + (k : Int) + 1 = yB s n + ((k + 1 : Nat) : Int) by omega, show (k : Int) + 1 = ((k + 1 : Nat) : Int) by omega]
    exact this
