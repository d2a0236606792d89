theorem vv_mul (a b : Nat) : nI a * nI b = nI (a * b) := by unfold nI; exact (Int32.ofNat_mul a b).symm
theorem nl0 : (0 : Int32) = nI 0 := rfl
theorem nl1 : (1 : Int32) = nI 1 := rfl
theorem nl2 : (2 : Int32) = nI 2 := rfl
theorem nl3 : (3 : Int32) = nI 3 := rfl
theorem nl4 : (4 : Int32) = nI 4 := rfl
theorem nl5 : (5 : Int32) = nI 5 := rfl
theorem nl6 : (6 : Int32) = nI 6 := rfl
theorem nl7 : (7 : Int32) = nI 7 := rfl
theorem nl8 : (8 : Int32) = nI 8 := rfl
theorem nl12 : (12 : Int32) = nI 12 := rfl
theorem nl24 : (24 : Int32) = nI 24 := rfl
theorem nl25 : (25 : Int32) = nI 25 := rfl
theorem nl28 : (28 : Int32) = nI 28 := rfl
theorem nl32 : (32 : Int32) = nI 32 := rfl
theorem nl37 : (37 : Int32) = nI 37 := rfl
theorem nl52 : (52 : Int32) = nI 52 := rfl
theorem nl60 : (60 : Int32) = nI 60 := rfl
theorem nl62 : (62 : Int32) = nI 62 := rfl
theorem nl76 : (76 : Int32) = nI 76 := rfl
theorem nl87 : (87 : Int32) = nI 87 := rfl
theorem nl96 : (96 : Int32) = nI 96 := rfl
theorem nl511 : (511 : Int32) = nI 511 := rfl
theorem vv_clI {k : Nat} (h : k < 2147483648) : (nI k).toNatClampNeg = k := nI_clamp (by omega)
theorem vv_in {k N : Nat} (h : k < N) (hN : N < 2147483648) : vp_in (nI k) N := vp_in_nI h (by omega)
theorem vv_le {a b : Nat} (ha : a < 2147483648) (hb : b < 2147483648) : (nI a ≤ nI b) = (a ≤ b) := propext (nI_leI (by omega) (by omega))
theorem vv_lt {a b : Nat} (ha : a < 2147483648) (hb : b < 2147483648) : (nI a < nI b) = (a < b) := propext (nI_ltI (by omega) (by omega))
theorem vv_eq {a b : Nat} (ha : a < 2147483648) (hb : b < 2147483648) : (nI a = nI b) = (a = b) := propext (nI_eq (by omega) (by omega))
theorem vv_sub {a b : Nat} (h : b ≤ a) (ha : a < 2147483648) : nI a - nI b = nI (a - b) := by
  apply Int32.toInt_inj.mp
  rw [Int32.toInt_sub, nI_toInt' ha, nI_toInt' (by omega), nI_toInt' (by omega)]
  rw [Int.bmod_eq_of_le (by omega) (by omega)]
  omega
