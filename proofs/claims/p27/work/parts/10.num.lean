/-! whole numbers of the machine as whole numbers -/
def iI (z : Int) : Int32 := Int32.ofInt z
theorem iI_add (a b : Int) : iI a + iI b = iI (a + b) := (Int32.ofInt_add ..).symm
theorem iI_sub (a b : Int) : iI a - iI b = iI (a - b) := (Int32.ofInt_sub ..).symm
theorem iI_mul (a b : Int) : iI a * iI b = iI (a * b) := (Int32.ofInt_mul ..).symm
theorem iI_toInt {z : Int} (h1 : -2147483648 ≤ z) (h2 : z < 2147483648) : (iI z).toInt = z := by
  unfold iI
  rw [Int32.toInt_ofInt]
  have e : (Int32.size : Int) = 4294967296 := rfl
  exact Int.bmod_eq_of_le (by omega) (by omega)
theorem iI_lit (n : Nat) : (OfNat.ofNat n : Int32) = iI (n : Int) := by
  unfold iI
  rw [Int32.ofInt_eq_ofNat]
  rfl
theorem iI_lt {a b : Int} (h1 : -2147483648 ≤ a ∧ a < 2147483648) (h2 : -2147483648 ≤ b ∧ b < 2147483648) : (iI a < iI b) = (a < b) := by
  rw [Int32.lt_iff_toInt_lt, iI_toInt h1.1 h1.2, iI_toInt h2.1 h2.2]
theorem iI_le {a b : Int} (h1 : -2147483648 ≤ a ∧ a < 2147483648) (h2 : -2147483648 ≤ b ∧ b < 2147483648) : (iI a ≤ iI b) = (a ≤ b) := by
  rw [Int32.le_iff_toInt_le, iI_toInt h1.1 h1.2, iI_toInt h2.1 h2.2]
theorem iI_eq {a b : Int} (h1 : -2147483648 ≤ a ∧ a < 2147483648) (h2 : -2147483648 ≤ b ∧ b < 2147483648) : (iI a = iI b) = (a = b) := by
  rw [← Int32.toInt_inj, iI_toInt h1.1 h1.2, iI_toInt h2.1 h2.2]
theorem iI_clamp {a : Int} (h1 : -2147483648 ≤ a ∧ a < 2147483648) : (iI a).toNatClampNeg = a.toNat := by
  show (iI a).toInt.toNat = _
  rw [iI_toInt h1.1 h1.2]
theorem iI_div {a b : Int} (h1 : 0 ≤ a ∧ a < 2147483648) (h2 : 0 < b ∧ b < 2147483648) : iI a / iI b = iI (a / b) := by
  apply Int32.toInt_inj.mp
  have hb : 0 ≤ b := by omega
  have h3 : 0 ≤ a / b := Int.ediv_nonneg h1.1 hb
  have h4 : a / b ≤ a := Int.ediv_le_self _ h1.1
  rw [Int32.toInt_div_of_ne_right, iI_toInt (by omega) (by omega), iI_toInt (by omega) (by omega), iI_toInt (by omega) (by omega)]
  · exact Int.tdiv_eq_ediv_of_nonneg h1.1
  · intro h
    have := congrArg Int32.toInt h
    rw [iI_toInt (by omega) (by omega)] at this
    have e : (-1 : Int32).toInt = -1 := by decide
    rw [e] at this
    omega
theorem iI_abs {a : Int} (h : -2147483648 < a ∧ a < 2147483648) : (if (0 : Int32) ≤ iI a then iI a else 0 - iI a) = iI (if 0 ≤ a then a else -a) := by
  by_cases c : 0 ≤ a
  · rw [if_pos c, if_pos]
    rw [show (0 : Int32) = iI 0 from rfl, iI_le (by omega) (by omega)]
    exact c
  · rw [if_neg c, if_neg, show (0 : Int32) = iI 0 from rfl, iI_sub]
    · congr 1
      omega
    · rw [show (0 : Int32) = iI 0 from rfl, iI_le (by omega) (by omega)]
      exact c
theorem iI_0 : (0 : Int32) = iI 0 := rfl
theorem iI_1 : (1 : Int32) = iI 1 := rfl
theorem iI_m1 : (-1 : Int32) = iI (-1) := by decide
theorem iL_0 : (0 : Int32) = iI 0 := by decide
theorem iL_1 : (1 : Int32) = iI 1 := by decide
theorem iL_2 : (2 : Int32) = iI 2 := by decide
theorem iL_3 : (3 : Int32) = iI 3 := by decide
theorem iL_4 : (4 : Int32) = iI 4 := by decide
theorem iL_5 : (5 : Int32) = iI 5 := by decide
theorem iL_6 : (6 : Int32) = iI 6 := by decide
theorem iL_7 : (7 : Int32) = iI 7 := by decide
theorem iL_8 : (8 : Int32) = iI 8 := by decide
theorem iL_9 : (9 : Int32) = iI 9 := by decide
theorem iL_10 : (10 : Int32) = iI 10 := by decide
theorem iL_11 : (11 : Int32) = iI 11 := by decide
theorem iL_12 : (12 : Int32) = iI 12 := by decide
theorem iL_13 : (13 : Int32) = iI 13 := by decide
theorem iL_14 : (14 : Int32) = iI 14 := by decide
theorem iL_15 : (15 : Int32) = iI 15 := by decide
theorem iL_16 : (16 : Int32) = iI 16 := by decide
theorem iL_20 : (20 : Int32) = iI 20 := by decide
theorem iL_24 : (24 : Int32) = iI 24 := by decide
theorem iL_31 : (31 : Int32) = iI 31 := by decide
theorem iL_36 : (36 : Int32) = iI 36 := by decide
theorem iL_40 : (40 : Int32) = iI 40 := by decide
theorem iL_41 : (41 : Int32) = iI 41 := by decide
theorem iL_42 : (42 : Int32) = iI 42 := by decide
theorem iL_44 : (44 : Int32) = iI 44 := by decide
theorem iL_48 : (48 : Int32) = iI 48 := by decide
theorem iL_60 : (60 : Int32) = iI 60 := by decide
theorem iL_63 : (63 : Int32) = iI 63 := by decide
theorem iL_64 : (64 : Int32) = iI 64 := by decide
theorem iL_79 : (79 : Int32) = iI 79 := by decide
theorem iL_80 : (80 : Int32) = iI 80 := by decide
theorem iL_110 : (110 : Int32) = iI 110 := by decide
theorem iL_119 : (119 : Int32) = iI 119 := by decide
theorem iL_120 : (120 : Int32) = iI 120 := by decide
theorem iL_136 : (136 : Int32) = iI 136 := by decide
theorem iL_137 : (137 : Int32) = iI 137 := by decide
theorem iL_160 : (160 : Int32) = iI 160 := by decide
theorem iL_255 : (255 : Int32) = iI 255 := by decide
theorem iL_360 : (360 : Int32) = iI 360 := by decide
theorem iL_999 : (999 : Int32) = iI 999 := by decide
theorem iL_1439 : (1439 : Int32) = iI 1439 := by decide
theorem iL_1440 : (1440 : Int32) = iI 1440 := by decide
theorem iL_2299 : (2299 : Int32) = iI 2299 := by decide
theorem iL_2300 : (2300 : Int32) = iI 2300 := by decide
theorem iL_2399 : (2399 : Int32) = iI 2399 := by decide
theorem iL_2400 : (2400 : Int32) = iI 2400 := by decide
theorem iL_2401 : (2401 : Int32) = iI 2401 := by decide
theorem iL_2147483639 : (2147483639 : Int32) = iI 2147483639 := by decide
theorem iL_m1 : (-1 : Int32) = iI (-1) := by decide
theorem iL_m2 : (-2 : Int32) = iI (-2) := by decide
theorem iL_m999 : (-999 : Int32) = iI (-999) := by decide
