def apQ (r : Nat → Int32) (N : Nat) (x y th : Int32) (z : Nat) : Int32 := if z = 52 + N then th else if z = 28 + N then y else if z = 4 + N then x else r z
theorem w7_addPlace {M : xS} {g N T : Nat} {x y th : Int32} {Q : Int32 → xS → Prop} (hg : g < 6) (h2 : mrow M g 2 = nI N) (hN : N < 24) (h3 : mrow M g 3 = nI T) (hT : T ≤ 5) (hf : ∀ t, t < T → fl (mrow M g) t N = 0)
    (k : ∀ M', (∀ k, k ≠ 11 → M'.1 k = M.1 k) → (∀ z y, z ≠ g → y < 511 → mrow M' z y = mrow M z y) → (∀ w, mrow M' g w = apR (mrow M g) N x y th w) → Q (nI N) M') : wp_X7_addPlace (nI g) x y th M Q := by
  unfold wp_X7_addPlace
  refine v7_of rfl nl2 hg (by omega) ?_
  rw [h2]
  refine v7_put (y := 4 + N) rfl (by rw [nl4, nI_add]) hg (by omega) (v7_put (y := 28 + N) rfl (by rw [nl28, nI_add]) hg (by omega) (v7_put (y := 52 + N) rfl (by rw [nl52, nI_add]) hg (by omega) ?_))
  refine wl2 (wp_X7_addPlace_44 (nI g) Q) (fun K => wp_X7_addPlace_44_b (nI g) K Q) (fun _ _ _ _ => rfl)
    (fun M' v5 v6 => ∃ j, j ≤ T ∧ v5 = nI N ∧ v6 = nI j ∧ (∀ k, k ≠ 11 → M'.1 k = M.1 k) ∧ (∀ z y, z ≠ g → y < 511 → mrow M' z y = mrow M z y) ∧ (∀ w, mrow M' g w = apQ (mrow M g) N x y th w))
    (fun _ _ v => 10 - v.toNatClampNeg) ⟨0, by omega, rfl, rfl, fun k hk => by rw [xI_k hk, xI_k hk, xI_k hk], fun z w hz hw => by rw [mrow_put_ne _ _ hz (by omega) hw, mrow_put_ne _ _ hz (by omega) hw, mrow_put_ne _ _ hz (by omega) hw], fun w => by rw [mrow_put, mrow_put, mrow_put]; rfl⟩ ?_
  rintro M' v5 v6 K ⟨j, hj, rfl, rfl, q1, q2, q3⟩ hK
  unfold wp_X7_addPlace_44_b
  have e3 : mrow M' g 3 = nI T := by
    rw [q3]
    unfold apQ
    rw [if_neg (by omega), if_neg (by omega), if_neg (by omega)]
    exact h3
  refine v7_of rfl nl3 hg (by omega) ?_
  rw [e3]
  by_cases c : j = T
  · subst c
    refine gt (by rw [vv_le (by omega) (by omega)]; omega) (v7_put rfl nl2 hg (by omega) (k _ (fun k hk => by rw [xI_k hk]; exact q1 k hk) (fun z w hz hw => by rw [mrow_put_ne _ _ hz (by omega) hw]; exact q2 z w hz hw) (fun w => ?_)))
    rw [mrow_put, q3, nI_1]
    unfold apQ apR
    by_cases w2 : w = 2
    · rw [if_pos w2, if_pos w2]
    · rw [if_neg w2, if_neg w2]
      by_cases w4 : w = 4 + N
      · rw [if_neg (by omega), if_neg (by omega), if_pos w4, if_pos w4]
      · by_cases w28 : w = 28 + N
        · rw [if_neg (by omega), if_pos w28, if_neg w4, if_pos w28]
        · by_cases w52 : w = 52 + N
          · rw [if_pos w52, if_neg w4, if_neg w28, if_pos w52]
          · rw [if_neg w52, if_neg w28, if_neg w4, if_neg w4, if_neg w28, if_neg w52]
  · refine gf (by rw [vv_le (by omega) (by omega)]; omega) (v7_put (y := tb j + 12 + N) rfl (by simp only [nl76, nl87, nl12, vv_mul, nI_add]; rfl) hg (by unfold tb; omega) ?_)
    rw [nI_1]
    refine hK _ _ _ ⟨j + 1, by omega, rfl, rfl, fun k hk => by rw [xI_k hk]; exact q1 k hk, fun z w hz hw => by rw [mrow_put_ne _ _ hz (by unfold tb; omega) hw]; exact q2 z w hz hw, fun w => ?_⟩ (by rw [vv_clI (by omega), vv_clI (by omega)]; omega)
    rw [mrow_put]
    by_cases ew : w = tb j + 12 + N
    · rw [if_pos ew, ew]
      unfold apQ
      rw [if_neg (by unfold tb; omega), if_neg (by unfold tb; omega), if_neg (by unfold tb; omega)]
      exact (hf j (by omega)).symm
    · rw [if_neg ew]; exact q3 w
theorem v6_isPosition_t {x y : Int32} {S : xS} {Q : Int32 → xS → Prop} (hx : rng x (-4000) 4000) (hy : rng y (-4000) 4000) (k : Q 1 S) : wp_X6_isPosition x y S Q :=
  v6_within_t (show (-4000 : Int32).toInt ≤ x.toInt ∧ x.toInt ≤ (4000 : Int32).toInt from hx) (g1 (v6_within_t (show (-4000 : Int32).toInt ≤ y.toInt ∧ y.toInt ≤ (4000 : Int32).toInt from hy) (g1 ⟨Or.inr rfl, k⟩)))
theorem v6_isPosition_f {x y : Int32} {S : xS} {Q : Int32 → xS → Prop} (h : ¬ (rng x (-4000) 4000 ∧ rng y (-4000) 4000)) (k : Q 0 S) : wp_X6_isPosition x y S Q := by
  unfold wp_X6_isPosition wp_X6_isPosition_30 wp_X6_isPosition_31
  by_cases hx : rng x (-4000) 4000
  · exact v6_within_t (show (-4000 : Int32).toInt ≤ x.toInt ∧ x.toInt ≤ (4000 : Int32).toInt from hx) (g1 (v6_within_f (show ¬ ((-4000 : Int32).toInt ≤ y.toInt ∧ y.toInt ≤ (4000 : Int32).toInt) from fun hy => h ⟨hx, hy⟩) (g0 ⟨Or.inl rfl, k⟩)))
  · exact v6_within_f (show ¬ ((-4000 : Int32).toInt ≤ x.toInt ∧ x.toInt ≤ (4000 : Int32).toInt) from hx) (g0 ⟨Or.inl rfl, k⟩)
theorem v7_isPlace_t {x y : Int32} {S : xS} {Q : Int32 → xS → Prop} (hx : rng x (-4000) 4000) (hy : rng y (-4000) 4000) (k : Q 1 S) : wp_X7_isPlace x y S Q :=
  v7_in_t (by rw [i2l_toInt]; exact hx) (g1 (v7_in_t (by rw [i2l_toInt]; exact hy) (g1 ⟨Or.inr rfl, k⟩)))
theorem v7_isPlace_f {x y : Int32} {S : xS} {Q : Int32 → xS → Prop} (h : ¬ (rng x (-4000) 4000 ∧ rng y (-4000) 4000)) (k : Q 0 S) : wp_X7_isPlace x y S Q := by
  unfold wp_X7_isPlace wp_X7_isPlace_32 wp_X7_isPlace_33
  by_cases hx : rng x (-4000) 4000
  · exact v7_in_t (by rw [i2l_toInt]; exact hx) (g1 (v7_in_f (by rw [i2l_toInt]; exact fun hy => h ⟨hx, hy⟩) (g0 ⟨Or.inl rfl, k⟩)))
  · exact v7_in_f (by rw [i2l_toInt]; exact hx) (g0 ⟨Or.inl rfl, k⟩)
theorem w1_appendPoint {S : xS} {G N : Nat} {x y st : Int32} {b : Nat} {Q : Int32 → xS → Prop} (e : S.1 1 G 1 = nI N) (hN : N < 24) (hb : 0 < N → S.1 14 G N = nI b) (hbl : b < 1000)
    (k : Q (nI N) (xI (xI (xI (xI S 1 G 1 (nI (N + 1))) 12 G (N + 1) x) 13 G (N + 1) y) 14 G (N + 1) (nI (if N = 0 then 0 else if st = 0 then b else b + 1)))) : wp_X1_appendPoint G x y st S Q := by
  have hin := vv_in (k := N + 1) (N := 25) (by omega) (by omega)
  have c1 : (xI S 1 G 1 (nI (N + 1))).1 1 G 1 = nI (N + 1) := xI_s _ _ _ _ _
  have c2 : (xI (xI S 1 G 1 (nI (N + 1))) 12 G (N + 1) x).1 1 G 1 = nI (N + 1) := by rw [xI_k (by omega)]; exact c1
  have c3 : (xI (xI (xI S 1 G 1 (nI (N + 1))) 12 G (N + 1) x) 13 G (N + 1) y).1 1 G 1 = nI (N + 1) := by rw [xI_k (by omega)]; exact c2
  have c4 : ∀ v, (xI (xI (xI (xI S 1 G 1 (nI (N + 1))) 12 G (N + 1) x) 13 G (N + 1) y) 14 G (N + 1) v).1 1 G 1 = nI (N + 1) := fun v => by rw [xI_k (by omega)]; exact c3
  have c5 : (xI (xI (xI S 1 G 1 (nI (N + 1))) 12 G (N + 1) x) 13 G (N + 1) y).1 14 = S.1 14 := by rw [xI_k (by omega), xI_k (by omega), xI_k (by omega)]
  unfold wp_X1_appendPoint wp_X1_appendPlace
  rw [e, nI_1, c1, vv_clI (k := N + 1) (by omega), c2, vv_clI (k := N + 1) (by omega)]
  refine ⟨hin, hin, ?_⟩
  dsimp only
  rw [c3]
  unfold wp_X1_appendPoint_46 wp_X1_appendPoint_47
  by_cases c0 : N = 0
  · refine gt (by rw [c0]; rfl) ⟨hin, ?_⟩
    rw [vv_clI (k := N + 1) (by omega), c4, nI_s1 (by omega) (by omega), Nat.add_sub_cancel]
    rw [if_pos c0] at k
    exact k
  · rw [if_neg c0] at k
    refine gf (by rw [nl1, vv_eq (by omega) (by omega)]; omega) ?_
    rw [nI_s1 (by omega) (by omega), Nat.add_sub_cancel, vv_clI (k := N) (by omega), c5, hb (by omega)]
    refine ⟨vv_in (by omega) (by omega), ?_⟩
    by_cases cs : st = 0
    · rw [if_pos cs] at k
      refine gt cs ⟨hin, ?_⟩
      rw [nl0, nI_add, Nat.add_zero, vv_clI (k := N + 1) (by omega), c4, nI_s1 (by omega) (by omega), Nat.add_sub_cancel]
      exact k
    · rw [if_neg cs] at k
      refine gf cs ⟨hin, ?_⟩
      rw [nI_1, vv_clI (k := N + 1) (by omega), c4, nI_s1 (by omega) (by omega), Nat.add_sub_cancel]
      exact k
