theorem nearI_rng {a b lo hi : Int} (hb : 0 < b) (h1 : lo * b ≤ a) (h2 : a ≤ hi * b) : lo ≤ nearI a b ∧ nearI a b ≤ hi := by
  unfold nearI
  have g1 := Int.emod_def (2 * a + b) (2 * b)
  have g2 := Int.emod_nonneg (2 * a + b) (show 2 * b ≠ 0 by omega)
  have g3 := Int.emod_lt_of_pos (2 * a + b) (show 0 < 2 * b by omega)
  generalize (2 * a + b) / (2 * b) = z at *
  have e1 : 2 * b * z = 2 * (b * z) := Int.mul_assoc _ _ _
  constructor
  · apply Int.not_lt.mp
    intro h
    have := Int.mul_le_mul_of_nonneg_left (show z + 1 ≤ lo by omega) (show 0 ≤ b by omega)
    rw [Int.mul_add, Int.mul_comm b lo] at this
    omega
  · apply Int.not_lt.mp
    intro h
    have := Int.mul_le_mul_of_nonneg_left (show hi + 1 ≤ z by omega) (show 0 ≤ b by omega)
    rw [Int.mul_add, Int.mul_comm b hi] at this
    omega
theorem i32_sub {x y : Int32} (h1 : -2147483648 ≤ x.toInt - y.toInt) (h2 : x.toInt - y.toInt < 2147483648) : (x - y).toInt = x.toInt - y.toInt := by
  rw [Int32.toInt_sub]
  exact Int.bmod_eq_of_le (by omega) (by omega)
theorem i32_add {x y : Int32} (h1 : -2147483648 ≤ x.toInt + y.toInt) (h2 : x.toInt + y.toInt < 2147483648) : (x + y).toInt = x.toInt + y.toInt := by
  rw [Int32.toInt_add]
  exact Int.bmod_eq_of_le (by omega) (by omega)
theorem i32_neg {x : Int32} (h1 : -2147483648 < x.toInt) : (-x).toInt = -x.toInt := by
  have := Int32.toInt_lt x
  rw [Int32.toInt_neg]
  exact Int.bmod_eq_of_le (by omega) (by omega)
theorem l2i_toInt {x : Int64} (h1 : -2147483648 ≤ x.toInt) (h2 : x.toInt < 2147483648) : (Int64.toInt32 x).toInt = x.toInt := by
  rw [Int64.toInt_toInt32]
  exact Int.bmod_eq_of_le (by omega) (by omega)
def clS (l g v : Int32) : Int32 := if v < l then l else if g < v then g else v
def nmW (l s g w : Int32) : Int32 := if w = s then 0 else if w < s then -(Int64.toInt32 (nearS ((Int32.toInt64 (s - w)) * 16384) (Int32.toInt64 (s - l)))) else Int64.toInt32 (nearS ((Int32.toInt64 (w - s)) * 16384) (Int32.toInt64 (g - s)))
theorem cl_rng {l g v : Int32} (h : l.toInt ≤ g.toInt) : l.toInt ≤ (clS l g v).toInt ∧ (clS l g v).toInt ≤ g.toInt := by
  unfold clS
  by_cases c1 : v < l
  · rw [if_pos c1]; omega
  · rw [if_neg c1]
    rw [i32_lt] at c1
    by_cases c2 : g < v
    · rw [if_pos c2]; omega
    · rw [if_neg c2]; rw [i32_lt] at c2; omega
theorem l16384 : (16384 : Int64).toInt = 16384 := rfl
theorem nm_aux {x y : Int32} (h1 : 0 ≤ x.toInt) (h2 : x.toInt ≤ y.toInt) (h3 : 0 < y.toInt) (h4 : y.toInt ≤ 400000) : 0 ≤ (Int64.toInt32 (nearS ((Int32.toInt64 x) * 16384) (Int32.toInt64 y))).toInt ∧ (Int64.toInt32 (nearS ((Int32.toInt64 x) * 16384) (Int32.toInt64 y))).toInt ≤ 16384 := by
  have e1 : ((Int32.toInt64 x) * 16384).toInt = x.toInt * 16384 := by
    rw [i64_mul, i2l_toInt, l16384] <;> rw [i2l_toInt, l16384] <;> omega
  have e2 := near_toInt (a := (Int32.toInt64 x) * 16384) (b := Int32.toInt64 y) (by rw [i2l_toInt]; omega) (by rw [i2l_toInt]; omega) (by rw [e1]; omega) (by rw [e1]; omega)
  rw [e1, i2l_toInt] at e2
  have e3 := nearI_rng (a := x.toInt * 16384) (b := y.toInt) (lo := 0) (hi := 16384) (by omega) (by omega) (by omega)
  rw [l2i_toInt (by omega) (by omega)]
  omega
theorem nm_rng {l s g w : Int32} (h1 : -100000 ≤ l.toInt) (h2 : l.toInt ≤ s.toInt) (h3 : s.toInt ≤ g.toInt) (h4 : g.toInt ≤ 100000) (h5 : l.toInt ≤ w.toInt) (h6 : w.toInt ≤ g.toInt) : -16384 ≤ (nmW l s g w).toInt ∧ (nmW l s g w).toInt ≤ 16384 := by
  unfold nmW
  by_cases c1 : w = s
  · rw [if_pos c1]; exact ⟨by decide, by decide⟩
  · rw [if_neg c1]
    have c1' : w.toInt ≠ s.toInt := fun e => c1 (Int32.toInt_inj.mp e)
    by_cases c2 : w < s
    · rw [if_pos c2]
      rw [i32_lt] at c2
      have e1 := i32_sub (x := s) (y := w) (by omega) (by omega)
      have e2 := i32_sub (x := s) (y := l) (by omega) (by omega)
      have := nm_aux (x := s - w) (y := s - l) (by omega) (by omega) (by omega) (by omega)
      rw [i32_neg (by omega)]
      omega
    · rw [if_neg c2]
      rw [i32_lt] at c2
      have e1 := i32_sub (x := w) (y := s) (by omega) (by omega)
      have e2 := i32_sub (x := g) (y := s) (by omega) (by omega)
      have := nm_aux (x := w - s) (y := g - s) (by omega) (by omega) (by omega) (by omega)
      omega
theorem near_ne {b : Int64} (h1 : 0 < b.toInt) (h2 : b.toInt < 4611686018427387904) : ¬ 2 * b = 0 := by
  intro h
  have e2 : (2 : Int64).toInt = 2 := rfl
  have hy : (2 * b).toInt = 2 * b.toInt := by rw [i64_mul, e2] <;> rw [e2] <;> omega
  rw [h] at hy
  have : (0 : Int64).toInt = 0 := rfl
  omega
theorem v7_normal {a : Nat} {l s g v : Int32} {M : xS} {Q : Int32 → xS → Prop} (ha : a < 4) (el : M.1 2 0 a = l) (es : M.1 3 0 a = s) (eg : M.1 4 0 a = g) (h1 : -100000 ≤ l.toInt) (h2 : l.toInt ≤ s.toInt) (h3 : s.toInt ≤ g.toInt) (h4 : g.toInt ≤ 100000) (k : Q (nmW l s g (clS l g v)) M) : wp_X7_normal (nI a) v M Q := by
  have hin := vv_in ha (by omega)
  have key : ∀ w : Int32, l.toInt ≤ w.toInt → w.toInt ≤ g.toInt → Q (nmW l s g w) M → wp_X7_normal_39 (nI a) Q M w := by
    intro w hw1 hw2 k
    unfold wp_X7_normal_39 wp_X7_normal_112
    rw [vv_clI (by omega), es, el, eg]
    unfold nmW at k
    refine ⟨hin, ?_⟩
    by_cases c1 : w = s
    · rw [if_pos c1] at k; exact gt c1 k
    · rw [if_neg c1] at k
      have c1' : w.toInt ≠ s.toInt := fun e => c1 (Int32.toInt_inj.mp e)
      refine gf c1 ?_
      by_cases c2 : w < s
      · rw [if_pos c2] at k
        rw [i32_lt] at c2
        refine gf (by rw [i32_le]; omega) ⟨hin, ?_⟩
        have e2 := i32_sub (x := s) (y := l) (by omega) (by omega)
        exact v7_near (near_ne (by rw [i2l_toInt]; omega) (by rw [i2l_toInt]; omega)) k
      · rw [if_neg c2] at k
        rw [i32_lt] at c2
        refine gt (by rw [i32_le]; omega) ⟨hin, ?_⟩
        have e2 := i32_sub (x := g) (y := s) (by omega) (by omega)
        exact v7_near (near_ne (by rw [i2l_toInt]; omega) (by rw [i2l_toInt]; omega)) k
  have hr := cl_rng (v := v) (show l.toInt ≤ g.toInt by omega)
  unfold wp_X7_normal
  rw [vv_clI (by omega), el, eg]
  refine ⟨hin, ?_⟩
  unfold clS at k hr
  by_cases c1 : v < l
  · rw [if_pos c1] at k hr
    rw [i32_lt] at c1
    exact gf (by rw [i32_le]; omega) ⟨hin, key l hr.1 hr.2 k⟩
  · rw [if_neg c1] at k hr
    rw [i32_lt] at c1
    refine gt (by rw [i32_le]; omega) ⟨hin, ?_⟩
    by_cases c2 : g < v
    · rw [if_pos c2] at k hr
      rw [i32_lt] at c2
      exact gf (by rw [i32_le]; omega) ⟨hin, key g hr.1 hr.2 k⟩
    · rw [if_neg c2] at k hr
      rw [i32_lt] at c2
      exact gt (by rw [i32_le]; omega) (key v hr.1 hr.2 k)
theorem v6_norm {a : Nat} {l s g v : Int32} {S : xS} {Q : Int32 → xS → Prop} (el : S.1 0 a 0 = l) (es : S.1 0 a 1 = s) (eg : S.1 0 a 2 = g) (h1 : -100000 ≤ l.toInt) (h2 : l.toInt ≤ s.toInt) (h3 : s.toInt ≤ g.toInt) (h4 : g.toInt ≤ 100000) (k : wp_X0_mapped a (nmW l s g (clS l g v)) S Q) : wp_X0_coordinateFor a v S Q := by
  have key : ∀ w : Int32, l.toInt ≤ w.toInt → w.toInt ≤ g.toInt → wp_X0_mapped a (nmW l s g w) S Q → wp_X0_unmapped a w S (fun r6 S5 => (wp_X0_mapped a r6 S5 (fun r8 S7 => (Q r8 S7)))) := by
    intro w hw1 hw2 k
    unfold wp_X0_unmapped
    rw [es, el, eg]
    unfold nmW at k
    by_cases c1 : w = s
    · rw [if_pos c1] at k
      exact gt (by rw [i32_le, c1]; omega) (gt (by rw [i32_le, c1]; omega) k)
    · rw [if_neg c1] at k
      have c1' : w.toInt ≠ s.toInt := fun e => c1 (Int32.toInt_inj.mp e)
      by_cases c2 : w < s
      · rw [if_pos c2] at k
        rw [i32_lt] at c2
        refine gf (by rw [i32_le]; omega) ?_
        have e2 := i32_sub (x := s) (y := l) (by omega) (by omega)
        exact v6_rq (by rw [i2l_toInt]; omega) (by rw [i2l_toInt]; omega) k
      · rw [if_neg c2] at k
        rw [i32_lt] at c2
        refine gt (by rw [i32_le]; omega) (gf (by rw [i32_le]; omega) ?_)
        have e2 := i32_sub (x := g) (y := s) (by omega) (by omega)
        exact v6_rq (by rw [i2l_toInt]; omega) (by rw [i2l_toInt]; omega) k
  have hr := cl_rng (v := v) (show l.toInt ≤ g.toInt by omega)
  unfold wp_X0_coordinateFor wp_J9_min_7cf53 wp_J9_min_7cf53_10 wp_J9_max_7cf53 wp_J9_max_7cf53_10
  rw [el, eg]
  unfold clS at k hr
  by_cases c1 : v < l
  · rw [if_pos c1] at k hr
    rw [i32_lt] at c1
    refine gf (by rw [i32_lt]; omega) (gf (by rw [i32_lt]; omega) (key l hr.1 hr.2 k))
  · rw [if_neg c1] at k hr
    rw [i32_lt] at c1
    by_cases c2 : g < v
    · rw [if_pos c2] at k hr
      refine gt c2 ?_
      rw [i32_lt] at c2
      by_cases c3 : l < g
      · exact gt c3 (key g hr.1 hr.2 k)
      · refine gf c3 ?_
        have e : l = g := by rw [i32_lt] at c3; exact Int32.toInt_inj.mp (by omega)
        rw [e]
        exact key g hr.1 hr.2 k
    · rw [if_neg c2] at k hr
      refine gf c2 ?_
      rw [i32_lt] at c2
      by_cases c3 : l < v
      · exact gt c3 (key v hr.1 hr.2 k)
      · refine gf c3 ?_
        have e : l = v := by rw [i32_lt] at c3; exact Int32.toInt_inj.mp (by omega)
        rw [e]
        exact key v hr.1 hr.2 k
