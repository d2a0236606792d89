def scF (v : Int64) (st pk en c : Int32) : Int64 := if pk = 0 then v else if c < st then 0 else if en < c then 0 else if c = pk then v else if c < pk then nearS (v * Int32.toInt64 (c - st)) (Int32.toInt64 (pk - st)) else nearS (v * Int32.toInt64 (en - c)) (Int32.toInt64 (en - pk))
def scV (r : Nat → Int32) (t : Nat) (loc : Nat → Int32) : Nat → Int64
  | 0 => 268435456
  | a + 1 => scF (scV r t loc a) (r (tb t + 3 * a)) (r (tb t + 3 * a + 1)) (r (tb t + 3 * a + 2)) (loc a)
theorem sc_near {v : Int64} {x y : Int32} (h1 : 0 ≤ v.toInt) (h2 : v.toInt ≤ 268435456) (h3 : 0 ≤ x.toInt) (h4 : x.toInt ≤ y.toInt) (h5 : 0 < y.toInt) (h6 : y.toInt ≤ 100000) : (nearS (v * Int32.toInt64 x) (Int32.toInt64 y)).toInt = nearI (v.toInt * x.toInt) y.toInt ∧ 0 ≤ nearI (v.toInt * x.toInt) y.toInt ∧ nearI (v.toInt * x.toInt) y.toInt ≤ 268435456 := by
  have m := mul_rng (a := v.toInt) (b := x.toInt) (A := 268435456) (B := 100000) h1 h2 (by omega) (by omega)
  have e : (v * Int32.toInt64 x).toInt = v.toInt * x.toInt := by rw [i64_mul] <;> rw [i2l_toInt] <;> omega
  refine ⟨?_, ?_⟩
  · rw [near_toInt, e, i2l_toInt] <;> (try rw [i2l_toInt]) <;> (try rw [e]) <;> omega
  · apply nearI_rng h5
    · rw [Int.zero_mul]; exact Int.mul_nonneg h1 h3
    · have a1 : v.toInt * x.toInt ≤ v.toInt * y.toInt := Int.mul_le_mul_of_nonneg_left h4 h1
      have a2 : v.toInt * y.toInt ≤ 268435456 * y.toInt := Int.mul_le_mul_of_nonneg_right h2 (by omega)
      omega
theorem scF_rng {v : Int64} {st pk en c : Int32} (h1 : 0 ≤ v.toInt) (h2 : v.toInt ≤ 268435456) (o1 : -16384 ≤ st.toInt) (o2 : st.toInt ≤ pk.toInt) (o3 : pk.toInt ≤ en.toInt) (o4 : en.toInt ≤ 16384) : 0 ≤ (scF v st pk en c).toInt ∧ (scF v st pk en c).toInt ≤ 268435456 := by
  have z : (0 : Int64).toInt = 0 := rfl
  unfold scF
  by_cases c1 : pk = 0
  · rw [if_pos c1]; exact ⟨h1, h2⟩
  rw [if_neg c1]
  by_cases c2 : c < st
  · rw [if_pos c2, z]; omega
  rw [if_neg c2]
  by_cases c3 : en < c
  · rw [if_pos c3, z]; omega
  rw [if_neg c3]
  by_cases c4 : c = pk
  · rw [if_pos c4]; exact ⟨h1, h2⟩
  rw [if_neg c4]
  rw [i32_lt] at c2 c3
  have c5 : c.toInt ≠ pk.toInt := fun h => c4 (Int32.toInt_inj.mp h)
  by_cases c6 : c < pk
  · rw [if_pos c6]
    rw [i32_lt] at c6
    have e1 : (c - st).toInt = c.toInt - st.toInt := i32_sub (by omega) (by omega)
    have e2 : (pk - st).toInt = pk.toInt - st.toInt := i32_sub (by omega) (by omega)
    obtain ⟨a, b⟩ := sc_near (x := c - st) (y := pk - st) h1 h2 (by omega) (by omega) (by omega) (by omega)
    rw [a]; exact b
  · rw [if_neg c6]
    rw [i32_lt] at c6
    have e1 : (en - c).toInt = en.toInt - c.toInt := i32_sub (by omega) (by omega)
    have e2 : (en - pk).toInt = en.toInt - pk.toInt := i32_sub (by omega) (by omega)
    obtain ⟨a, b⟩ := sc_near (x := en - c) (y := en - pk) h1 h2 (by omega) (by omega) (by omega) (by omega)
    rw [a]; exact b
theorem scV_rng {na n t : Nat} {r loc : Nat → Int32} (hO : TupOk na n r t) : ∀ a, a ≤ 4 → 0 ≤ (scV r t loc a).toInt ∧ (scV r t loc a).toInt ≤ 268435456
  | 0, _ => by show 0 ≤ (268435456 : Int64).toInt ∧ (268435456 : Int64).toInt ≤ 268435456; decide
  | a + 1, h => by
    obtain ⟨h1, h2⟩ := scV_rng hO (loc := loc) a (by omega)
    obtain ⟨o1, o2, o3, o4⟩ := hO.1 a (by omega)
    exact scF_rng h1 h2 o1 o2 o3 o4
theorem scV_na {na n t : Nat} {r loc : Nat → Int32} (hO : TupOk na n r t) : ∀ d, na + d ≤ 4 → scV r t loc (na + d) = scV r t loc na
  | 0, _ => rfl
  | d + 1, h => by
    rw [← Nat.add_assoc]
    show scF _ _ _ _ _ = _
    rw [scV_na hO d (by omega)]
    obtain ⟨p1, p2, p3⟩ := hO.2.1 (na + d) (by omega) (by omega)
    unfold scF
    rw [if_pos p2]
theorem scV_fr {t : Nat} {r loc loc' : Nat → Int32} : ∀ a, (∀ x, x < a → loc' x = loc x) → scV r t loc' a = scV r t loc a
  | 0, _ => rfl
  | a + 1, h => by
    show scF _ _ _ _ _ = scF _ _ _ _ _
    rw [scV_fr a (fun x hx => h x (by omega)), h a (by omega)]
theorem w5_factor {T a : Nat} {v : Int64} {st pk en c : Int32} {S : xS} {Q : Int64 → xS → Prop} (ha : a < 4) (e1 : S.1 24 T a = st) (e2 : S.1 25 T a = pk) (e3 : S.1 26 T a = en) (o1 : -16384 ≤ st.toInt) (o2 : st.toInt ≤ pk.toInt) (o3 : pk.toInt ≤ en.toInt) (o4 : en.toInt ≤ 16384) (k : Q (scF v st pk en c) S) : wp_X5_timesFactor T v (nI a) c S Q := by
  have hin := vv_in (k := a) (N := 4) ha (by omega)
  unfold wp_X5_timesFactor wp_X5_timesFactor_33 wp_X5_timesFactor_120
  rw [vv_clI (by omega), e1, e2, e3]
  unfold scF at k
  refine ⟨hin, ?_⟩
  by_cases c1 : pk = 0
  · rw [if_pos c1] at k; exact gt c1 k
  rw [if_neg c1] at k
  refine gf c1 ⟨hin, ?_⟩
  by_cases c2 : c < st
  · rw [if_pos c2] at k; exact gt c2 k
  rw [if_neg c2] at k
  refine gf c2 ⟨hin, ?_⟩
  by_cases c3 : en < c
  · rw [if_pos c3] at k; exact gf (by rw [i32_lt] at c3; rw [i32_le]; omega) k
  rw [if_neg c3] at k
  refine gt (by rw [i32_lt] at c3; rw [i32_le]; omega) ⟨hin, ?_⟩
  by_cases c4 : c = pk
  · rw [if_pos c4] at k; exact gt c4 k
  rw [if_neg c4] at k
  refine gf c4 ⟨hin, ?_⟩
  rw [i32_lt] at c2 c3
  have c5 : c.toInt ≠ pk.toInt := fun h => c4 (Int32.toInt_inj.mp h)
  by_cases c6 : c < pk
  · rw [if_pos c6] at k
    rw [i32_lt] at c6
    refine gf (by rw [i32_le]; omega) ⟨hin, hin, hin, v6_rq ?_ ?_ k⟩ <;> rw [i2l_toInt, i32_sub] <;> omega
  · rw [if_neg c6] at k
    rw [i32_lt] at c6
    refine gt (by rw [i32_le]; omega) ⟨hin, hin, hin, v6_rq ?_ ?_ k⟩ <;> rw [i2l_toInt, i32_sub] <;> omega
theorem w5_scalar {T L na n t : Nat} {r loc : Nat → Int32} {S : xS} {Q : Int32 → xS → Prop} (hT : TupRel S T r t) (hO : TupOk na n r t) (hl : ∀ a, a < 4 → S.1 30 L a = loc a) (k : Q (Int64.toInt32 (scV r t loc 4)) S) : wp_X5_scalarAt T L S Q := by
  unfold wp_X5_scalarAt
  refine wl2 (wp_X5_scalarAt_7 T L Q) (fun K => wp_X5_scalarAt_7_b T L K Q) (fun _ _ _ _ => rfl)
    (fun S' v w => S' = S ∧ ∃ a, a ≤ 4 ∧ w = nI a ∧ v = scV r t loc a) (fun _ _ w => 4 - w.toNatClampNeg) ⟨rfl, 0, by omega, rfl, rfl⟩ ?_
  rintro S' v w K ⟨rfl, a, ha, rfl, rfl⟩ hK
  unfold wp_X5_scalarAt_7_b
  by_cases c : a = 4
  · subst c
    exact gt (by rw [nl4, vv_le (by omega) (by omega)]; omega) k
  · obtain ⟨o1, o2, o3, o4⟩ := hO.1 a (by omega)
    obtain ⟨t1, t2, t3⟩ := hT.1 a (by omega)
    refine gf (by rw [nl4, vv_le (by omega) (by omega)]; omega) ⟨vv_in (by omega) (by omega), w5_factor (by omega) t1 t2 t3 o1 o2 o3 o4 ?_⟩
    rw [vv_clI (by omega), hl a (by omega), nI_1]
    exact hK _ _ _ ⟨rfl, a + 1, by omega, rfl, rfl⟩ (by rw [vv_clI (by omega), vv_clI (by omega)]; omega)
theorem w7_scalar {g na n t : Nat} {loc : Nat → Int32} {M : xS} {Q : Int64 → xS → Prop} (hg : g < 6) (ht : t < 5) (hn : na ≤ 4) (h0 : M.1 0 0 0 = nI na) (hO : TupOk na n (mrow M g) t) (hl : ∀ a, a < na → M.1 5 0 a = loc a) (k : Q (scV (mrow M g) t loc 4) M) : wp_X7_scalarOf (nI g) (nI t) M Q := by
  have ez := scV_na hO (loc := loc) (4 - na) (by omega)
  rw [show na + (4 - na) = 4 by omega] at ez
  rw [ez] at k
  have tbl : tb t + 87 ≤ 511 := by unfold tb; omega
  unfold wp_X7_scalarOf
  refine wl2 (wp_X7_scalarOf_7 (nI g) (nI t) Q) (fun K => wp_X7_scalarOf_7_b (nI g) (nI t) K Q) (fun _ _ _ _ => rfl)
    (fun S' v w => S' = M ∧ ∃ a, a ≤ na ∧ w = nI a ∧ v = scV (mrow M g) t loc a) (fun _ _ w => 4 - w.toNatClampNeg) ⟨rfl, 0, by omega, rfl, rfl⟩ ?_
  rintro S' v w K ⟨rfl, a, ha, rfl, rfl⟩ hK
  unfold wp_X7_scalarOf_7_b
  rw [h0]
  by_cases c : a = na
  · subst c
    exact gt (by rw [vv_le (by omega) (by omega)]; omega) k
  · obtain ⟨o1, o2, o3, o4⟩ := hO.1 a (by omega)
    have q0 : (76 : Int32) + 87 * nI t + 3 * nI a = nI (tb t + 3 * a) := by simp only [nl76, nl87, nl3, vv_mul, nI_add]; rfl
    have q1 : (76 : Int32) + 87 * nI t + 3 * nI a + 1 = nI (tb t + 3 * a + 1) := by rw [q0, nI_1]
    have q2 : (76 : Int32) + 87 * nI t + 3 * nI a + 2 = nI (tb t + 3 * a + 2) := by rw [q0, nl2, nI_add]
    refine gf (by rw [vv_le (by omega) (by omega)]; omega) ?_
    unfold wp_X7_tupleAt
    refine v7_of rfl q0 hg (by omega) (v7_of rfl q1 hg (by omega) (v7_of rfl q2 hg (by omega) ⟨vv_in (by omega) (by omega), ?_⟩))
    rw [vv_clI (by omega), hl a (by omega)]
    have fin : ∀ v, v = scV (mrow S' g) t loc (a + 1) → K S' v (nI a + 1) := fun v hv => by
      rw [nI_1]
      exact hK _ _ _ ⟨rfl, a + 1, by omega, rfl, hv⟩ (by rw [vv_clI (by omega), vv_clI (by omega)]; omega)
    have es : scV (mrow S' g) t loc (a + 1) = scF (scV (mrow S' g) t loc a) (mrow S' g (tb t + 3 * a)) (mrow S' g (tb t + 3 * a + 1)) (mrow S' g (tb t + 3 * a + 2)) (loc a) := rfl
    rw [es] at fin
    unfold wp_X7_scalarOf_96 wp_X7_scalarOf_155 wp_X7_scalarOf_156
    unfold scF at fin
    generalize mrow S' g (tb t + 3 * a) = st at *
    generalize mrow S' g (tb t + 3 * a + 1) = pk at *
    generalize mrow S' g (tb t + 3 * a + 2) = en at *
    generalize loc a = cc at *
    by_cases c1 : pk = 0
    · rw [if_pos c1] at fin; exact gt c1 (fin _ rfl)
    rw [if_neg c1] at fin
    refine gf c1 ?_
    by_cases c2 : cc < st
    · rw [if_pos c2] at fin; exact gt c2 (fin _ rfl)
    rw [if_neg c2] at fin
    refine gf c2 ?_
    by_cases c3 : en < cc
    · rw [if_pos c3] at fin; exact gf (by rw [i32_lt] at c3; rw [i32_le]; omega) (fin _ rfl)
    rw [if_neg c3] at fin
    refine gt (by rw [i32_lt] at c3; rw [i32_le]; omega) ?_
    by_cases c4 : cc = pk
    · rw [if_pos c4] at fin; exact gt c4 (fin _ rfl)
    rw [if_neg c4] at fin
    refine gf c4 ?_
    rw [i32_lt] at c2 c3
    have c5 : cc.toInt ≠ pk.toInt := fun h => c4 (Int32.toInt_inj.mp h)
    by_cases c6 : cc < pk
    · rw [if_pos c6] at fin
      rw [i32_lt] at c6
      refine gf (by rw [i32_le]; omega) (v7_near (near_ne ?_ ?_) (fin _ rfl)) <;> rw [i2l_toInt, i32_sub] <;> omega
    · rw [if_neg c6] at fin
      rw [i32_lt] at c6
      refine gt (by rw [i32_le]; omega) (v7_near (near_ne ?_ ?_) (fin _ rfl)) <;> rw [i2l_toInt, i32_sub] <;> omega
theorem op_scalar {n : Nat} {S M : xS} {K : xS → xS → Prop} (I : Inv n S M) (a b : Int32) (hK : ∀ S' M', Inv (n + 1) S' M' → K S' M') :
    wp_X6_scalar a b S (fun r1 S1 => wp_X7_scalar a b M (fun r2 M1 => if r1 = r2 then K S1 M1 else False)) := by
  rcases tupErr I a b with ⟨e, e1, e2, e3, e4⟩ | ⟨g, t, rfl, rfl, hg, ht, e3, e4⟩
  · exact op_of (w6 := wp_X6_scalar a b S) (w7 := wp_X7_scalar a b M) (r := e) (fun Q k => e3 _ (gf e1 k)) (fun Q k => e4 _ (gf e2 k)) (hK _ _ I.next)
  · obtain ⟨d1, d2, d3⟩ := I.2.1.2.2.1 g hg
    have hg6 := I.2.1.1.1
    have hT := d2.2.2.2.1.1
    have hid := I.2.1.2.1.1 g (by omega) t (by omega)
    have hO := d2.2.2.2.2.2.2 t ht
    refine op_of (w6 := wp_X6_scalar (nI g) (nI t) S) (w7 := wp_X7_scalar (nI g) (nI t) M) (r := Int64.toInt32 (scV (mrow M g) t (fun a => S.1 30 0 a) 4)) (fun Q k => e3 _ (g0 ⟨vv_in (by omega) (by omega), ⟨vv_in (by omega) (by omega), ?_⟩, ?_⟩)) (fun Q k => e4 _ (gt (by decide) (w7_scalar (by omega) (by omega) I.1.1.1 I.1.1.2.1 hO (fun a ha => ((I.1.2.1 a ha).2.2.2.1.1).symm) k))) (hK _ _ I.next)
    · rw [vv_clI (by omega), vv_clI (by omega)]; omega
    · rw [vv_clI (by omega), vv_clI (by omega)]
      exact w5_scalar (d1.2.2.2.2.2.2.2.2 t ht) hO (fun _ _ => rfl) k
