def nearS (a b : Int64) : Int64 := if 2 * a + b < (2 * a + b) / (2 * b) * (2 * b) then (2 * a + b) / (2 * b) - 1 else (2 * a + b) / (2 * b)
def nearI (a b : Int) : Int := (2 * a + b) / (2 * b)
theorem v7_near {a b : Int64} {S : xS} {Q : Int64 → xS → Prop} (hb : ¬ 2 * b = 0) (k : Q (nearS a b) S) : wp_X7_near a b S Q := by
  unfold wp_X7_near wp_X7_near_42
  refine ⟨hb, ?_⟩
  simp only [cmp_le0]
  rw [Int64.mul_assoc]
  unfold nearS at k
  by_cases c : 2 * a + b < (2 * a + b) / (2 * b) * (2 * b)
  · rw [if_pos c] at k
    exact gf (fun h => h c) k
  · rw [if_neg c] at k
    exact gt c k
theorem i64_neg_xor {x y : Int64} (hy : 0 ≤ y.toInt) : ((x ^^^ y) < 0) = (x.toInt < 0) := by
  have e : (0 : Int64).toInt = 0 := rfl
  rw [i64_lt, e]
  have h1 : (x ^^^ y).toBitVec.msb = decide ((x ^^^ y).toInt < 0) := BitVec.msb_eq_toInt
  have h2 : x.toBitVec.msb = decide (x.toInt < 0) := BitVec.msb_eq_toInt
  have h3 : y.toBitVec.msb = decide (y.toInt < 0) := BitVec.msb_eq_toInt
  rw [Int64.toBitVec_xor, BitVec.msb_xor, h2, h3] at h1
  have h4 : decide (y.toInt < 0) = false := by simp; omega
  rw [h4] at h1
  simp at h1
  exact propext h1.symm
theorem i64_mul {x y : Int64} (h1 : -9223372036854775808 ≤ x.toInt * y.toInt) (h2 : x.toInt * y.toInt < 9223372036854775808) : (x * y).toInt = x.toInt * y.toInt := by
  rw [Int64.toInt_mul]
  exact Int.bmod_eq_of_le (by omega) (by omega)
theorem i64_add {x y : Int64} (h1 : -9223372036854775808 ≤ x.toInt + y.toInt) (h2 : x.toInt + y.toInt < 9223372036854775808) : (x + y).toInt = x.toInt + y.toInt := by
  rw [Int64.toInt_add]
  exact Int.bmod_eq_of_le (by omega) (by omega)
theorem i64_sub {x y : Int64} (h1 : -9223372036854775808 ≤ x.toInt - y.toInt) (h2 : x.toInt - y.toInt < 9223372036854775808) : (x - y).toInt = x.toInt - y.toInt := by
  rw [Int64.toInt_sub]
  exact Int.bmod_eq_of_le (by omega) (by omega)
theorem int_tdiv_neg {u d : Int} (h : u < 0) : u.tdiv d = -((-u) / d) := by
  have e : u = -(-u) := by omega
  rw [e, Int.neg_tdiv, Int.tdiv_eq_ediv_of_nonneg (by omega), Int.neg_neg]
theorem i64_div_facts {x y : Int64} {d : Int} (hy : y.toInt = d) (hd : 0 < d) : (0 ≤ x.toInt → (x / y).toInt = x.toInt / d) ∧ (x.toInt < 0 → (x / y).toInt = -((-x.toInt) / d)) := by
  have hne : y ≠ -1 := by
    intro e
    rw [e] at hy
    have : (-1 : Int64).toInt = -1 := rfl
    omega
  rw [Int64.toInt_div_of_ne_right x y hne, hy]
  exact ⟨fun h => Int.tdiv_eq_ediv_of_nonneg h, fun h => int_tdiv_neg h⟩
theorem i64_divmul {x y : Int64} {d : Int} (hy : y.toInt = d) (hd : 0 < d) : (x / y * y).toInt = (x / y).toInt * d ∧ (0 ≤ x.toInt → (x / y).toInt * d ≤ x.toInt) ∧ (x.toInt < 0 → x.toInt ≤ (x / y).toInt * d) := by
  have hlt := Int64.toInt_lt x
  have hle := Int64.le_toInt x
  obtain ⟨f1, f2⟩ := i64_div_facts (x := x) hy hd
  by_cases c : 0 ≤ x.toInt
  · have e := f1 c
    have g1 := Int.emod_def x.toInt d
    have g2 := Int.emod_nonneg x.toInt (show d ≠ 0 by omega)
    have g3 : 0 ≤ x.toInt / d := Int.ediv_nonneg c (by omega)
    have g4 : 0 ≤ x.toInt / d * d := Int.mul_nonneg g3 (by omega)
    rw [Int.mul_comm] at g1
    refine ⟨?_, fun _ => by rw [e]; omega, fun h => absurd h (by omega)⟩
    rw [i64_mul, hy]
    · rw [hy, e]; omega
    · rw [hy, e]; omega
  · have e := f2 (by omega)
    have g1 := Int.emod_def (-x.toInt) d
    have g2 := Int.emod_nonneg (-x.toInt) (show d ≠ 0 by omega)
    have g3 : 0 ≤ (-x.toInt) / d := Int.ediv_nonneg (by omega) (by omega)
    have g4 : 0 ≤ (-x.toInt) / d * d := Int.mul_nonneg g3 (by omega)
    rw [Int.mul_comm] at g1
    have g5 : -((-x.toInt) / d) * d = -((-x.toInt) / d * d) := Int.neg_mul _ _
    refine ⟨?_, fun h => absurd h (by omega), fun _ => by rw [e, g5]; omega⟩
    rw [i64_mul, hy]
    · rw [hy, e, g5]; omega
    · rw [hy, e, g5]; omega
theorem v6_rq {a b : Int64} {S : xS} {Q : Int64 → xS → Prop} (h1 : 0 < b.toInt) (h2 : b.toInt < 4611686018427387904) (k : Q (nearS a b) S) : wp_X6_roundedQuotient a b S Q := by
  have e0 : (0 : Int64).toInt = 0 := rfl
  have e2 : (2 : Int64).toInt = 2 := rfl
  have hy : (2 * b).toInt = 2 * b.toInt := by rw [i64_mul, e2] <;> rw [e2] <;> omega
  have hd : 0 < 2 * b.toInt := by omega
  unfold wp_X6_roundedQuotient wp_J9_floorDiv_f86c9 wp_J9_floorDiv_f86c9_27
  simp only [cmp_gt0, cmp_ge0, cmp_eq0]
  refine gt (by rw [i64_lt, e0]; exact h1) ⟨fun h => ?_, ?_⟩
  · rw [h, e0] at hy; omega
  obtain ⟨m1, m2, m3⟩ := i64_divmul (x := 2 * a + b) hy hd
  unfold nearS at k
  simp only [i64_neg_xor (show 0 ≤ (2 * b).toInt by omega)]
  by_cases c : (2 * a + b).toInt < 0
  · refine gf (fun h => h c) ?_
    by_cases c2 : (2 * a + b) / (2 * b) * (2 * b) = 2 * a + b
    · refine gt c2 ?_
      rw [if_neg (by rw [c2, i64_lt]; omega)] at k
      exact k
    · refine gf c2 ?_
      have c3 : ((2 * a + b) / (2 * b) * (2 * b)).toInt ≠ (2 * a + b).toInt := fun h => c2 (Int64.toInt_inj.mp h)
      have c4 := m3 c
      rw [if_pos (by rw [i64_lt]; omega)] at k
      exact k
  · refine gt c ?_
    have c4 := m2 (by omega)
    rw [if_neg (by rw [i64_lt]; omega)] at k
    exact k
theorem fl_unique {u d r : Int} (hd : 0 < d) (h1 : d * r ≤ u) (h2 : u < d * r + d) : u / d = r := by
  have g1 := Int.emod_def u d
  have g2 := Int.emod_nonneg u (show d ≠ 0 by omega)
  have g3 := Int.emod_lt_of_pos u hd
  rcases Int.lt_trichotomy (u / d) r with h | h | h
  · have := Int.mul_le_mul_of_nonneg_left (show u / d ≤ r - 1 by omega) (show 0 ≤ d by omega)
    rw [Int.mul_sub] at this
    omega
  · exact h
  · have := Int.mul_le_mul_of_nonneg_left (show r + 1 ≤ u / d by omega) (show 0 ≤ d by omega)
    rw [Int.mul_add] at this
    omega
theorem near_toInt {a b : Int64} (h1 : 0 < b.toInt) (h2 : b.toInt < 1152921504606846976) (h3 : -1152921504606846976 < a.toInt) (h4 : a.toInt < 1152921504606846976) : (nearS a b).toInt = nearI a.toInt b.toInt := by
  have e2 : (2 : Int64).toInt = 2 := rfl
  have hy : (2 * b).toInt = 2 * b.toInt := by rw [i64_mul, e2] <;> rw [e2] <;> omega
  have hx : (2 * a).toInt = 2 * a.toInt := by rw [i64_mul, e2] <;> rw [e2] <;> omega
  have hu : (2 * a + b).toInt = 2 * a.toInt + b.toInt := by rw [i64_add, hx] <;> rw [hx] <;> omega
  have hd : 0 < 2 * b.toInt := by omega
  obtain ⟨m1, m2, m3⟩ := i64_divmul (x := 2 * a + b) hy hd
  obtain ⟨f1, f2⟩ := i64_div_facts (x := 2 * a + b) hy hd
  unfold nearS nearI
  rw [hu] at m2 m3 f1 f2
  have hcmp : (2 * a + b < (2 * a + b) / (2 * b) * (2 * b)) = (2 * a.toInt + b.toInt < ((2 * a + b) / (2 * b)).toInt * (2 * b.toInt)) := by rw [i64_lt, m1, hu]
  simp only [hcmp]
  by_cases c : 2 * a.toInt + b.toInt < 0
  · have q := f2 c
    have g1 := Int.emod_def (-(2 * a.toInt + b.toInt)) (2 * b.toInt)
    have g2 := Int.emod_nonneg (-(2 * a.toInt + b.toInt)) (show 2 * b.toInt ≠ 0 by omega)
    have g3 := Int.emod_lt_of_pos (-(2 * a.toInt + b.toInt)) hd
    have g4 : 0 ≤ -(2 * a.toInt + b.toInt) / (2 * b.toInt) := Int.ediv_nonneg (by omega) (by omega)
    have g6 : -(2 * a.toInt + b.toInt) / (2 * b.toInt) ≤ -(2 * a.toInt + b.toInt) := Int.ediv_le_self _ (by omega)
    generalize -(2 * a.toInt + b.toInt) / (2 * b.toInt) = z at *
    rw [q]
    have e5 : -z * (2 * b.toInt) = -(2 * b.toInt * z) := by rw [Int.neg_mul, Int.mul_comm]
    rw [e5]
    by_cases c2 : 2 * a.toInt + b.toInt < -(2 * b.toInt * z)
    · rw [if_pos c2]
      rw [i64_sub, q, show (1 : Int64).toInt = 1 from rfl]
      · symm
        apply fl_unique hd
        · rw [Int.mul_sub, Int.mul_neg]; omega
        · rw [Int.mul_sub, Int.mul_neg]; omega
      · rw [q, show (1 : Int64).toInt = 1 from rfl]; omega
      · rw [q, show (1 : Int64).toInt = 1 from rfl]; omega
    · rw [if_neg c2, q]
      symm
      apply fl_unique hd
      · rw [Int.mul_neg]; omega
      · rw [Int.mul_neg]; omega
  · have q := f1 (by omega)
    rw [if_neg (by have := m2 (by omega); omega), q]
