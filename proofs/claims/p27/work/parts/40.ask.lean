/-! the law's own helpers, and the answers at fixed numbers -/
theorem lw_and (v : Int32) : ∃ M : Int, v &&& (2147483647 : Int32) = iI M ∧ 0 ≤ M ∧ M < 2147483648 := by
  refine ⟨(v &&& 2147483647).toInt, ?_, ?_, ?_⟩
  · unfold iI
    rw [Int32.ofInt_toInt]
  · show 0 ≤ (v.toBitVec &&& (2147483647 : Int32).toBitVec).toInt
    have e : ((2147483647 : Int32).toBitVec).msb = false := by decide
    rw [BitVec.toInt_eq_msb_cond, BitVec.msb_and, e, Bool.and_false]
    simp
  · have := Int32.toInt_lt (v &&& 2147483647)
    omega
theorem lw_nz {n : Int} (h : 0 < n ∧ n ≤ 100000) : xk_nz (iI n) = some () := by
  unfold xk_nz
  rw [if_neg]
  rw [iL_0, iI_eq (by omega) (by omega)]
  omega
theorem lw_below (v : Int32) {n : Int} (h : 0 < n ∧ n ≤ 100000) (w : xWd) : ∃ r : Int, f_L_below v (iI n) w = some (iI r, w) ∧ 0 ≤ r ∧ r < n := by
  obtain ⟨M, h1, h2, h3⟩ := lw_and v
  have e := Int.emod_def M n
  have e2 := Int.emod_nonneg M (show n ≠ 0 by omega)
  have e3 := Int.emod_lt_of_pos M (show 0 < n by omega)
  refine ⟨M - M / n * n, ?_, ?_, ?_⟩
  · unfold f_L_below
    rw [lw_nz h, Option.bind_some, h1, iI_div ⟨h2, h3⟩ (by omega), iI_mul, iI_sub]
  · rw [Int.mul_comm, ← e]; exact e2
  · rw [Int.mul_comm, ← e]; exact e3
theorem lw_cell {w : xWd} {b L : Nat} {xs : Nat → Int32} (h : w.1 b = some (.inl (4, L, .inl xs))) (hL : L ≤ 260) {k : Int} (hk : 0 ≤ k ∧ k < 100) : ∃ v, f_L_cell (some b) (iI k) w = some (v, w) := by
  have l : xk_len w (some b) = some (iI (L : Int)) := xr_len (d := (L, .inl xs)) h (by decide)
  unfold f_L_cell f_L_cell_18
  rw [l, Option.bind_some]
  by_cases c : (L : Int) ≤ k
  · rw [if_pos (by rw [iI_le (by omega) (by omega)]; exact c)]
    exact ⟨_, rfl⟩
  · rw [if_neg (by rw [iI_le (by omega) (by omega)]; exact c), xr_lI4 h hk.1 (by omega) (by omega), Option.bind_some]
    exact ⟨_, rfl⟩
theorem lw_m0 {z e nh nc nt : Nat} {ha ca ta : Nat → Nat} {B : Nat → Int} {H C T : Nat → Nat → Int} {w : xWd} (h : xBk z e nh nc nt ha ca ta B H C T w) (v : xVB nh nc nt B H C T) : f_X4_many (some z) (0 : Int32) w = some (iI (B 5), w) := by
  rw [show (0 : Int32) = iI ((0 : Nat) : Int) by decide]
  exact x4_many h v (k := 0) (by omega)
theorem lw_m1 {z e nh nc nt : Nat} {ha ca ta : Nat → Nat} {B : Nat → Int} {H C T : Nat → Nat → Int} {w : xWd} (h : xBk z e nh nc nt ha ca ta B H C T w) (v : xVB nh nc nt B H C T) : f_X4_many (some z) (1 : Int32) w = some (iI (B 6), w) := by
  rw [show (1 : Int32) = iI ((1 : Nat) : Int) by decide]
  exact x4_many h v (k := 1) (by omega)
theorem lw_m3 {z e nh nc nt : Nat} {ha ca ta : Nat → Nat} {B : Nat → Int} {H C T : Nat → Nat → Int} {w : xWd} (h : xBk z e nh nc nt ha ca ta B H C T w) (v : xVB nh nc nt B H C T) : f_X4_many (some z) (3 : Int32) w = some (iI (yCt (fun i => decide (H i 2 = 1)) nh), w) := by
  rw [show (3 : Int32) = iI ((3 : Nat) : Int) by decide]
  exact x4_many h v (k := 3) (by omega)
theorem lw_m4 {z e nh nc nt : Nat} {ha ca ta : Nat → Nat} {B : Nat → Int} {H C T : Nat → Nat → Int} {w : xWd} (h : xBk z e nh nc nt ha ca ta B H C T w) (v : xVB nh nc nt B H C T) : f_X4_many (some z) (4 : Int32) w = some (iI (yCm nh nc H C), w) := by
  rw [show (4 : Int32) = iI ((4 : Nat) : Int) by decide]
  exact x4_many h v (k := 4) (by omega)
theorem lw_m7 {z e nh nc nt : Nat} {ha ca ta : Nat → Nat} {B : Nat → Int} {H C T : Nat → Nat → Int} {w : xWd} (h : xBk z e nh nc nt ha ca ta B H C T w) (v : xVB nh nc nt B H C T) : f_X4_many (some z) (7 : Int32) w = some (iI (yCt (fun i => yOv B (C i)) nc), w) := by
  rw [show (7 : Int32) = iI ((7 : Nat) : Int) by decide]
  exact x4_many h v (k := 7) (by omega)
theorem lw_m8 {z e nh nc nt : Nat} {ha ca ta : Nat → Nat} {B : Nat → Int} {H C T : Nat → Nat → Int} {w : xWd} (h : xBk z e nh nc nt ha ca ta B H C T w) (v : xVB nh nc nt B H C T) : f_X4_many (some z) (8 : Int32) w = some (iI (yCt (fun i => ySp B (C i)) nc), w) := by
  rw [show (8 : Int32) = iI ((8 : Nat) : Int) by decide]
  exact x4_many h v (k := 8) (by omega)
theorem lw_m10 {z e nh nc nt : Nat} {ha ca ta : Nat → Nat} {B : Nat → Int} {H C T : Nat → Nat → Int} {w : xWd} (h : xBk z e nh nc nt ha ca ta B H C T w) (v : xVB nh nc nt B H C T) : f_X4_many (some z) (10 : Int32) w = some (iI ((nt : Int)), w) := by
  rw [show (10 : Int32) = iI ((10 : Nat) : Int) by decide]
  exact x4_many h v (k := 10) (by omega)
theorem lw_m11 {z e nh nc nt : Nat} {ha ca ta : Nat → Nat} {B : Nat → Int} {H C T : Nat → Nat → Int} {w : xWd} (h : xBk z e nh nc nt ha ca ta B H C T w) (v : xVB nh nc nt B H C T) : f_X4_many (some z) (11 : Int32) w = some (iI (yCt (yVd C T) nt), w) := by
  rw [show (11 : Int32) = iI ((11 : Nat) : Int) by decide]
  exact x4_many h v (k := 11) (by omega)
theorem lw_m12 {z e nh nc nt : Nat} {ha ca ta : Nat → Nat} {B : Nat → Int} {H C T : Nat → Nat → Int} {w : xWd} (h : xBk z e nh nc nt ha ca ta B H C T w) (v : xVB nh nc nt B H C T) : f_X4_many (some z) (12 : Int32) w = some (iI (B 7), w) := by
  rw [show (12 : Int32) = iI ((12 : Nat) : Int) by decide]
  exact x4_many h v (k := 12) (by omega)
theorem lw_m13 {z e nh nc nt : Nat} {ha ca ta : Nat → Nat} {B : Nat → Int} {H C T : Nat → Nat → Int} {w : xWd} (h : xBk z e nh nc nt ha ca ta B H C T w) (v : xVB nh nc nt B H C T) : f_X4_many (some z) (13 : Int32) w = some (iI (B 8), w) := by
  rw [show (13 : Int32) = iI ((13 : Nat) : Int) by decide]
  exact x4_many h v (k := 13) (by omega)
theorem lw_m14 {z e nh nc nt : Nat} {ha ca ta : Nat → Nat} {B : Nat → Int} {H C T : Nat → Nat → Int} {w : xWd} (h : xBk z e nh nc nt ha ca ta B H C T w) (v : xVB nh nc nt B H C T) : f_X4_many (some z) (14 : Int32) w = some (iI (B 9), w) := by
  rw [show (14 : Int32) = iI ((14 : Nat) : Int) by decide]
  exact x4_many h v (k := 14) (by omega)
theorem lw_m15 {z e nh nc nt : Nat} {ha ca ta : Nat → Nat} {B : Nat → Int} {H C T : Nat → Nat → Int} {w : xWd} (h : xBk z e nh nc nt ha ca ta B H C T w) (v : xVB nh nc nt B H C T) : f_X4_many (some z) (15 : Int32) w = some (iI (yS' (yPy nt B C T) nc), w) := by
  rw [show (15 : Int32) = iI ((15 : Nat) : Int) by decide]
  exact x4_many h v (k := 15) (by omega)
theorem lw_c0 {z e nh nc nt : Nat} {ha ca ta : Nat → Nat} {B : Nat → Int} {H C T : Nat → Nat → Int} {w : xWd} (h : xBk z e nh nc nt ha ca ta B H C T w) (v : xVB nh nc nt B H C T) {c : Nat} (hc : c < nc) : f_X4_ofCue (some z) (iI c) (0 : Int32) w = some (iI (C c 1), w) := by
  rw [show (0 : Int32) = iI ((0 : Nat) : Int) by decide]
  exact x4_ofCue h v (k := 0) hc (by omega)
theorem lw_c2 {z e nh nc nt : Nat} {ha ca ta : Nat → Nat} {B : Nat → Int} {H C T : Nat → Nat → Int} {w : xWd} (h : xBk z e nh nc nt ha ca ta B H C T w) (v : xVB nh nc nt B H C T) {c : Nat} (hc : c < nc) : f_X4_ofCue (some z) (iI c) (2 : Int32) w = some (iI (C c 3), w) := by
  rw [show (2 : Int32) = iI ((2 : Nat) : Int) by decide]
  exact x4_ofCue h v (k := 2) hc (by omega)
theorem lw_c4 {z e nh nc nt : Nat} {ha ca ta : Nat → Nat} {B : Nat → Int} {H C T : Nat → Nat → Int} {w : xWd} (h : xBk z e nh nc nt ha ca ta B H C T w) (v : xVB nh nc nt B H C T) {c : Nat} (hc : c < nc) : f_X4_ofCue (some z) (iI c) (4 : Int32) w = some (iI (C c 5), w) := by
  rw [show (4 : Int32) = iI ((4 : Nat) : Int) by decide]
  exact x4_ofCue h v (k := 4) hc (by omega)
theorem lw_c5 {z e nh nc nt : Nat} {ha ca ta : Nat → Nat} {B : Nat → Int} {H C T : Nat → Nat → Int} {w : xWd} (h : xBk z e nh nc nt ha ca ta B H C T w) (v : xVB nh nc nt B H C T) {c : Nat} (hc : c < nc) : f_X4_ofCue (some z) (iI c) (5 : Int32) w = some (iI (C c 6), w) := by
  rw [show (5 : Int32) = iI ((5 : Nat) : Int) by decide]
  exact x4_ofCue h v (k := 5) hc (by omega)
theorem lw_c6 {z e nh nc nt : Nat} {ha ca ta : Nat → Nat} {B : Nat → Int} {H C T : Nat → Nat → Int} {w : xWd} (h : xBk z e nh nc nt ha ca ta B H C T w) (v : xVB nh nc nt B H C T) {c : Nat} (hc : c < nc) : f_X4_ofCue (some z) (iI c) (6 : Int32) w = some (iI (C c 7), w) := by
  rw [show (6 : Int32) = iI ((6 : Nat) : Int) by decide]
  exact x4_ofCue h v (k := 6) hc (by omega)
theorem lw_c7 {z e nh nc nt : Nat} {ha ca ta : Nat → Nat} {B : Nat → Int} {H C T : Nat → Nat → Int} {w : xWd} (h : xBk z e nh nc nt ha ca ta B H C T w) (v : xVB nh nc nt B H C T) {c : Nat} (hc : c < nc) : f_X4_ofCue (some z) (iI c) (7 : Int32) w = some (iI (C c 10), w) := by
  rw [show (7 : Int32) = iI ((7 : Nat) : Int) by decide]
  exact x4_ofCue h v (k := 7) hc (by omega)
theorem lw_c8 {z e nh nc nt : Nat} {ha ca ta : Nat → Nat} {B : Nat → Int} {H C T : Nat → Nat → Int} {w : xWd} (h : xBk z e nh nc nt ha ca ta B H C T w) (v : xVB nh nc nt B H C T) {c : Nat} (hc : c < nc) : f_X4_ofCue (some z) (iI c) (8 : Int32) w = some (iI (C c 1 + C c 11), w) := by
  rw [show (8 : Int32) = iI ((8 : Nat) : Int) by decide]
  exact x4_ofCue h v (k := 8) hc (by omega)
theorem lw_c9 {z e nh nc nt : Nat} {ha ca ta : Nat → Nat} {B : Nat → Int} {H C T : Nat → Nat → Int} {w : xWd} (h : xBk z e nh nc nt ha ca ta B H C T w) (v : xVB nh nc nt B H C T) {c : Nat} (hc : c < nc) : f_X4_ofCue (some z) (iI c) (9 : Int32) w = some (iI (if yOv B (C c) then 1 else 0), w) := by
  rw [show (9 : Int32) = iI ((9 : Nat) : Int) by decide]
  exact x4_ofCue h v (k := 9) hc (by omega)
theorem lw_c11 {z e nh nc nt : Nat} {ha ca ta : Nat → Nat} {B : Nat → Int} {H C T : Nat → Nat → Int} {w : xWd} (h : xBk z e nh nc nt ha ca ta B H C T w) (v : xVB nh nc nt B H C T) {c : Nat} (hc : c < nc) : f_X4_ofCue (some z) (iI c) (11 : Int32) w = some (iI (yNv nt C T c), w) := by
  rw [show (11 : Int32) = iI ((11 : Nat) : Int) by decide]
  exact x4_ofCue h v (k := 11) hc (by omega)
theorem lw_c12 {z e nh nc nt : Nat} {ha ca ta : Nat → Nat} {B : Nat → Int} {H C T : Nat → Nat → Int} {w : xWd} (h : xBk z e nh nc nt ha ca ta B H C T w) (v : xVB nh nc nt B H C T) {c : Nat} (hc : c < nc) : f_X4_ofCue (some z) (iI c) (12 : Int32) w = some (iI (ySc nt B C T c), w) := by
  rw [show (12 : Int32) = iI ((12 : Nat) : Int) by decide]
  exact x4_ofCue h v (k := 12) hc (by omega)
theorem lw_h0 {z e nh nc nt : Nat} {ha ca ta : Nat → Nat} {B : Nat → Int} {H C T : Nat → Nat → Int} {w : xWd} (h : xBk z e nh nc nt ha ca ta B H C T w) (v : xVB nh nc nt B H C T) {i : Nat} (hi : i < nh) : f_X4_ofHit (some z) (iI i) (0 : Int32) w = some (iI (H i 0), w) := by
  rw [show (0 : Int32) = iI ((0 : Nat) : Int) by decide]
  exact x4_ofHit h v (k := 0) hi (by omega)
theorem lw_h1 {z e nh nc nt : Nat} {ha ca ta : Nat → Nat} {B : Nat → Int} {H C T : Nat → Nat → Int} {w : xWd} (h : xBk z e nh nc nt ha ca ta B H C T w) (v : xVB nh nc nt B H C T) {i : Nat} (hi : i < nh) : f_X4_ofHit (some z) (iI i) (1 : Int32) w = some (iI (H i 1), w) := by
  rw [show (1 : Int32) = iI ((1 : Nat) : Int) by decide]
  exact x4_ofHit h v (k := 1) hi (by omega)
theorem lw_h2 {z e nh nc nt : Nat} {ha ca ta : Nat → Nat} {B : Nat → Int} {H C T : Nat → Nat → Int} {w : xWd} (h : xBk z e nh nc nt ha ca ta B H C T w) (v : xVB nh nc nt B H C T) {i : Nat} (hi : i < nh) : f_X4_ofHit (some z) (iI i) (2 : Int32) w = some (iI (H i 2), w) := by
  rw [show (2 : Int32) = iI ((2 : Nat) : Int) by decide]
  exact x4_ofHit h v (k := 2) hi (by omega)
theorem lw_h3 {z e nh nc nt : Nat} {ha ca ta : Nat → Nat} {B : Nat → Int} {H C T : Nat → Nat → Int} {w : xWd} (h : xBk z e nh nc nt ha ca ta B H C T w) (v : xVB nh nc nt B H C T) {i : Nat} (hi : i < nh) : f_X4_ofHit (some z) (iI i) (3 : Int32) w = some (iI (yMs nc C (H i)), w) := by
  rw [show (3 : Int32) = iI ((3 : Nat) : Int) by decide]
  exact x4_ofHit h v (k := 3) hi (by omega)
theorem lw_h4 {z e nh nc nt : Nat} {ha ca ta : Nat → Nat} {B : Nat → Int} {H C T : Nat → Nat → Int} {w : xWd} (h : xBk z e nh nc nt ha ca ta B H C T w) (v : xVB nh nc nt B H C T) {i : Nat} (hi : i < nh) : f_X4_ofHit (some z) (iI i) (4 : Int32) w = some (iI (if yMb nc C (-1) (H i) then 1 else 0), w) := by
  rw [show (4 : Int32) = iI ((4 : Nat) : Int) by decide]
  exact x4_ofHit h v (k := 4) hi (by omega)
theorem lw_h5 {z e nh nc nt : Nat} {ha ca ta : Nat → Nat} {B : Nat → Int} {H C T : Nat → Nat → Int} {w : xWd} (h : xBk z e nh nc nt ha ca ta B H C T w) (v : xVB nh nc nt B H C T) {i : Nat} (hi : i < nh) : f_X4_ofHit (some z) (iI i) (5 : Int32) w = some (iI (yNc nc C (H i)), w) := by
  rw [show (5 : Int32) = iI ((5 : Nat) : Int) by decide]
  exact x4_ofHit h v (k := 5) hi (by omega)
theorem lw_h6 {z e nh nc nt : Nat} {ha ca ta : Nat → Nat} {B : Nat → Int} {H C T : Nat → Nat → Int} {w : xWd} (h : xBk z e nh nc nt ha ca ta B H C T w) (v : xVB nh nc nt B H C T) {i : Nat} (hi : i < nh) : f_X4_ofHit (some z) (iI i) (6 : Int32) w = some (iI (yNb nc C (H i)), w) := by
  rw [show (6 : Int32) = iI ((6 : Nat) : Int) by decide]
  exact x4_ofHit h v (k := 6) hi (by omega)
theorem lw_t0 {z e nh nc nt : Nat} {ha ca ta : Nat → Nat} {B : Nat → Int} {H C T : Nat → Nat → Int} {w : xWd} (h : xBk z e nh nc nt ha ca ta B H C T w) (v : xVB nh nc nt B H C T) {t : Nat} (ht : t < nt) : f_X4_ofTake (some z) (iI t) (0 : Int32) w = some (iI (T t 1), w) := by
  rw [show (0 : Int32) = iI ((0 : Nat) : Int) by decide]
  exact x4_ofTake h v (k := 0) ht (by omega)
theorem lw_t1 {z e nh nc nt : Nat} {ha ca ta : Nat → Nat} {B : Nat → Int} {H C T : Nat → Nat → Int} {w : xWd} (h : xBk z e nh nc nt ha ca ta B H C T w) (v : xVB nh nc nt B H C T) {t : Nat} (ht : t < nt) : f_X4_ofTake (some z) (iI t) (1 : Int32) w = some (iI (T t 2), w) := by
  rw [show (1 : Int32) = iI ((1 : Nat) : Int) by decide]
  exact x4_ofTake h v (k := 1) ht (by omega)
theorem lw_t3 {z e nh nc nt : Nat} {ha ca ta : Nat → Nat} {B : Nat → Int} {H C T : Nat → Nat → Int} {w : xWd} (h : xBk z e nh nc nt ha ca ta B H C T w) (v : xVB nh nc nt B H C T) {t : Nat} (ht : t < nt) : f_X4_ofTake (some z) (iI t) (3 : Int32) w = some (iI (if yVd C T t then 1 else 0), w) := by
  rw [show (3 : Int32) = iI ((3 : Nat) : Int) by decide]
  exact x4_ofTake h v (k := 3) ht (by omega)
theorem lw_t4 {z e nh nc nt : Nat} {ha ca ta : Nat → Nat} {B : Nat → Int} {H C T : Nat → Nat → Int} {w : xWd} (h : xBk z e nh nc nt ha ca ta B H C T w) (v : xVB nh nc nt B H C T) {t : Nat} (ht : t < nt) : f_X4_ofTake (some z) (iI t) (4 : Int32) w = some (iI (yNs (T t 3)), w) := by
  rw [show (4 : Int32) = iI ((4 : Nat) : Int) by decide]
  exact x4_ofTake h v (k := 4) ht (by omega)
theorem lw_s0 {z e nh nc nt : Nat} {ha ca ta : Nat → Nat} {B : Nat → Int} {H C T : Nat → Nat → Int} {w : xWd} (h : xBk z e nh nc nt ha ca ta B H C T w) (v : xVB nh nc nt B H C T) : f_X4_sheet (some z) (0 : Int32) w = some (iI (yS' (yPw nt B C T 0) nc), w) := by
  rw [show (0 : Int32) = iI 0 by decide]
  exact x4_sheet h v (wr := 0) (by omega)
theorem lw_s1 {z e nh nc nt : Nat} {ha ca ta : Nat → Nat} {B : Nat → Int} {H C T : Nat → Nat → Int} {w : xWd} (h : xBk z e nh nc nt ha ca ta B H C T w) (v : xVB nh nc nt B H C T) : f_X4_sheet (some z) (1 : Int32) w = some (iI (yS' (yPw nt B C T 1) nc), w) := by
  rw [show (1 : Int32) = iI 1 by decide]
  exact x4_sheet h v (wr := 1) (by omega)
theorem lw_s2 {z e nh nc nt : Nat} {ha ca ta : Nat → Nat} {B : Nat → Int} {H C T : Nat → Nat → Int} {w : xWd} (h : xBk z e nh nc nt ha ca ta B H C T w) (v : xVB nh nc nt B H C T) : f_X4_sheet (some z) (2 : Int32) w = some (iI (yS' (yPw nt B C T 2) nc), w) := by
  rw [show (2 : Int32) = iI 2 by decide]
  exact x4_sheet h v (wr := 2) (by omega)
theorem lw_s3 {z e nh nc nt : Nat} {ha ca ta : Nat → Nat} {B : Nat → Int} {H C T : Nat → Nat → Int} {w : xWd} (h : xBk z e nh nc nt ha ca ta B H C T w) (v : xVB nh nc nt B H C T) : f_X4_sheet (some z) (3 : Int32) w = some (iI (yS' (yPw nt B C T 3) nc), w) := by
  rw [show (3 : Int32) = iI 3 by decide]
  exact x4_sheet h v (wr := 3) (by omega)
/-- a row of the law's own written or made -/
theorem bk_out {z e nh nc nt : Nat} {ha ca ta : Nat → Nat} {B : Nat → Int} {H C T : Nat → Nat → Int} {w : xWd} (h : xBk z e nh nc nt ha ca ta B H C T w) {w' : xWd} {a : Nat} (ha' : e ≤ a) (hk : w.2.1 ≤ a ∨ ∃ y, w.1 a = some (.inl (0, y))) (h1 : w.2.1 ≤ w'.2.1) (h2 : w'.2.2 = w.2.2) (hq : ∀ q, q < w.2.1 → q ≠ a → w'.1 q = w.1 q) : xBk z e nh nc nt ha ca ta B H C T w' := by
  obtain ⟨a1, a2, ⟨d1, a3, a3'⟩, ⟨d2, a4, a4'⟩, ⟨tr, pr, np, pa, b, W, j1, j2, j3, j4, j5, j6, j7⟩, ⟨O, a6, a6'⟩, ⟨M, a7⟩, a8, a9, a10, a11, a12, a13⟩ := h
  have hA : w'.2.2.1 = w.2.2.1 := by rw [h2]
  have hz : w.2.2.1 < w.2.1 := by omega
  have hal : ∀ q, q < e → w'.1 q = w.1 q := fun q q1 => hq q (by omega) (by omega)
  have hob : ∀ q x, q < w.2.1 → w.1 q = some (.inr x) → w'.1 q = w.1 q := by
    intro q x q1 q2
    refine hq q q1 (fun c => ?_)
    rcases hk with k | ⟨y, k⟩
    · omega
    · rw [← c, q2] at k; cases k
  have hrow : ∀ {al ad n : Nat} {a' : Nat → Nat}, xl_R w al ad n a' → w'.1 ad = w.1 ad := by
    intro al ad n a' hl
    have lt := xl_lt hl hz
    rcases xl_row hl with q | ⟨x, q⟩
    · exact hal ad (by omega)
    · refine hq ad lt (fun c => ?_)
      rcases hk with k | ⟨y, k⟩
      · omega
      · rw [← c, q] at k; cases k
  refine ⟨(hal _ (by omega)).trans a1, (hal _ (by omega)).trans a2, ⟨d1, xl_fr2 a3 h1 h2 (hal _ (by omega)) (hrow a3), by rw [hA]; exact a3'⟩, ⟨d2, xl_fr2 a4 h1 h2 (hal _ (by omega)) (hrow a4), by rw [hA]; exact a4'⟩,
    ⟨tr, pr, np, pa, b, W, xl_fr2 j1 h1 h2 (hal _ (by omega)) (hrow j1), by rw [hA]; exact j2, (hal _ (by omega)).trans j3, xl_fr2 j4 h1 h2 (hal _ (by omega)) (hrow j4), by rw [hA]; exact j5, by rw [hA]; exact j6, (hal _ (by omega)).trans j7⟩,
    ⟨O, (hal _ (by omega)).trans a6, a6'⟩, ⟨M, (hal _ (by omega)).trans a7⟩, fun k hk => ?_, fun k hk => ?_, fun k hk => ?_, by rw [hA]; exact a11, a12, by omega⟩
  · obtain ⟨b1, b2, b3, b4⟩ := a8 k hk
    exact ⟨b1, b2, (hal _ (by omega)).trans b3, b4⟩
  · obtain ⟨b1, b2, b3, b4⟩ := a9 k hk
    exact ⟨b1, b2, ⟨(hal _ (by omega)).trans b3.1, (hal _ (by omega)).trans b3.2.1, (hal _ (by omega)).trans b3.2.2.1, (hal _ (by omega)).trans b3.2.2.2⟩, b4⟩
  · obtain ⟨b1, b2, b3⟩ := a10 k hk
    exact ⟨b1, by omega, (hob _ _ b2 b3).trans b3⟩
