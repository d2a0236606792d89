def betB (g : Int32) (s v : Int64) : Bool := if g = 0 then decide (s < v) else decide (v < s)
def enF (X : Nat → Int64) (g : Int32) : Nat → Int64
  | 0 => if g = 0 then 9223372036854775807 else -9223372036854775808
  | k + 1 => if betB g (X k) (enF X g k) = true then X k else enF X g k
def xyL (l : List (Int64 × Int64 × Nat)) (v : Int32) (i : Nat) : Int64 := if v = 0 then lX l i else lY l i
def enV (l : List (Int64 × Int64 × Nat)) (v g : Int32) : Int64 := enF (xyL l v) g l.length
theorem enF_1 (X : Nat → Int64) (g : Int32) : enF X g 1 = X 0 := by
  have a1 := Int64.toInt_lt (X 0)
  have a2 := Int64.le_toInt (X 0)
  show (if betB g (X 0) (if g = 0 then 9223372036854775807 else -9223372036854775808) = true then X 0 else (if g = 0 then 9223372036854775807 else -9223372036854775808)) = X 0
  unfold betB
  by_cases c : g = 0
  · simp only [if_pos c]
    by_cases c2 : X 0 < 9223372036854775807
    · rw [decide_eq_true c2, if_pos rfl]
    · rw [decide_eq_false c2, if_neg (by decide)]
      rw [i64_lt, show (9223372036854775807 : Int64).toInt = 9223372036854775807 from rfl] at c2
      apply Int64.toInt_inj.mp
      rw [show (9223372036854775807 : Int64).toInt = 9223372036854775807 from rfl]
      omega
  · simp only [if_neg c]
    by_cases c2 : -9223372036854775808 < X 0
    · rw [decide_eq_true c2, if_pos rfl]
    · rw [decide_eq_false c2, if_neg (by decide)]
      rw [i64_lt, show (-9223372036854775808 : Int64).toInt = -9223372036854775808 from rfl] at c2
      apply Int64.toInt_inj.mp
      rw [show (-9223372036854775808 : Int64).toInt = -9223372036854775808 from rfl]
      omega
section ENDS
variable {S : xS} {o : Nat} {l : List (Int64 × Int64 × Nat)} {v : Int32} {Q : Int64 → xS → Prop}
theorem w4_least (h4 : S.1 4 o 0 = nI l.length) (hA : OutA (S.2.1 21 o) (S.2.1 22 o) (S.1 23 o) l) (hl : l.length ≤ 96) (k : Q (enV l v 0) S) : wp_X4_leastOf o v S Q := by
  unfold wp_X4_leastOf
  refine wl2 (wp_X4_leastOf_7 o v Q) (fun K => wp_X4_leastOf_7_b o v K Q) (fun _ _ _ _ => rfl) (fun S' x w => S' = S ∧ ∃ j, j ≤ l.length ∧ w = nI j ∧ x = enF (xyL l v) 0 j) (fun _ _ w => 100 - w.toNatClampNeg) ⟨rfl, 0, by omega, rfl, rfl⟩ ?_
  rintro S' x w K ⟨rfl, j, hj, rfl, rfl⟩ hK
  unfold wp_X4_leastOf_7_b wp_X4_leastOf_38 wp_J9_min_f86c9 wp_J9_min_f86c9_11
  rw [h4]
  by_cases c : j = l.length
  · subst c
    exact gt (by rw [vv_le (by omega) (by omega)]; omega) k
  · obtain ⟨x1, x2, x3⟩ := hA.to (i := j) (by omega)
    have hin := vv_in (k := j) (N := 96) (by omega) (by omega)
    have fin : if 0 < lg_cmp (enF (xyL l v) 0 j) (xyL l v j) then K S' (xyL l v j) (nI j + 1) else K S' (enF (xyL l v) 0 j) (nI j + 1) := by
      have es : enF (xyL l v) 0 (j + 1) = if betB 0 (xyL l v j) (enF (xyL l v) 0 j) = true then xyL l v j else enF (xyL l v) 0 j := rfl
      have next : ∀ x, x = enF (xyL l v) 0 (j + 1) → K S' x (nI j + 1) := fun x hx => by
        rw [nI_1]; exact hK _ _ _ ⟨rfl, j + 1, by omega, rfl, hx⟩ (by rw [vv_clI (by omega), vv_clI (by omega)]; omega)
      unfold betB at es
      rw [if_pos rfl] at es
      by_cases c2 : xyL l v j < enF (xyL l v) 0 j
      · exact gt (by rw [cmp_gt0]; exact c2) (next _ (by rw [es, decide_eq_true c2, if_pos rfl]))
      · exact gf (by rw [cmp_gt0]; exact c2) (next _ (by rw [es, decide_eq_false c2, if_neg (by decide)]))
    unfold xyL at fin
    refine gf (by rw [vv_le (by omega) (by omega)]; omega) ?_
    rw [vv_clI (by omega), x1, x2]
    by_cases cv : v = 0
    · simp only [if_pos cv] at fin; exact gt cv ⟨hin, by unfold xyL; simp only [if_pos cv]; exact fin⟩
    · simp only [if_neg cv] at fin; exact gf cv ⟨hin, by unfold xyL; simp only [if_neg cv]; exact fin⟩
theorem w4_great (h4 : S.1 4 o 0 = nI l.length) (hA : OutA (S.2.1 21 o) (S.2.1 22 o) (S.1 23 o) l) (hl : l.length ≤ 96) (k : Q (enV l v 1) S) : wp_X4_greatestOf o v S Q := by
  unfold wp_X4_greatestOf
  refine wl2 (wp_X4_greatestOf_7 o v Q) (fun K => wp_X4_greatestOf_7_b o v K Q) (fun _ _ _ _ => rfl) (fun S' x w => S' = S ∧ ∃ j, j ≤ l.length ∧ w = nI j ∧ x = enF (xyL l v) 1 j) (fun _ _ w => 100 - w.toNatClampNeg) ⟨rfl, 0, by omega, rfl, rfl⟩ ?_
  rintro S' x w K ⟨rfl, j, hj, rfl, rfl⟩ hK
  unfold wp_X4_greatestOf_7_b wp_X4_greatestOf_38 wp_J9_max_f86c9 wp_J9_max_f86c9_11
  rw [h4]
  by_cases c : j = l.length
  · subst c
    exact gt (by rw [vv_le (by omega) (by omega)]; omega) k
  · obtain ⟨x1, x2, x3⟩ := hA.to (i := j) (by omega)
    have hin := vv_in (k := j) (N := 96) (by omega) (by omega)
    have fin : if lg_cmp (enF (xyL l v) 1 j) (xyL l v j) < 0 then K S' (xyL l v j) (nI j + 1) else K S' (enF (xyL l v) 1 j) (nI j + 1) := by
      have es : enF (xyL l v) 1 (j + 1) = if betB 1 (xyL l v j) (enF (xyL l v) 1 j) = true then xyL l v j else enF (xyL l v) 1 j := rfl
      have next : ∀ x, x = enF (xyL l v) 1 (j + 1) → K S' x (nI j + 1) := fun x hx => by
        rw [nI_1]; exact hK _ _ _ ⟨rfl, j + 1, by omega, rfl, hx⟩ (by rw [vv_clI (by omega), vv_clI (by omega)]; omega)
      unfold betB at es
      rw [if_neg (show ¬ (1 : Int32) = 0 by decide)] at es
      by_cases c2 : enF (xyL l v) 1 j < xyL l v j
      · exact gt (by rw [cmp_lt0]; exact c2) (next _ (by rw [es, decide_eq_true c2, if_pos rfl]))
      · exact gf (by rw [cmp_lt0]; exact c2) (next _ (by rw [es, decide_eq_false c2, if_neg (by decide)]))
    unfold xyL at fin
    refine gf (by rw [vv_le (by omega) (by omega)]; omega) ?_
    rw [vv_clI (by omega), x1, x2]
    by_cases cv : v = 0
    · simp only [if_pos cv] at fin; exact gt cv ⟨hin, by unfold xyL; simp only [if_pos cv]; exact fin⟩
    · simp only [if_neg cv] at fin; exact gf cv ⟨hin, by unfold xyL; simp only [if_neg cv]; exact fin⟩
theorem w7_endOf {g : Int32} (h4 : S.1 0 0 13 = nI l.length) (hA : OutA (S.2.1 16 0) (S.2.1 17 0) (S.1 18 0) l) (hl : l.length ≤ 96) (h0 : 0 < l.length) (k : Q (enV l v g) S) : wp_X7_endOf v g S Q := by
  have main : wp_X7_endOf_19 v g Q S (xyL l v 0) := by
    unfold wp_X7_endOf_19
    refine wl2 (wp_X7_endOf_23 v g Q) (fun K => wp_X7_endOf_23_b v g K Q) (fun _ _ _ _ => rfl) (fun S' x w => S' = S ∧ ∃ j, 1 ≤ j ∧ j ≤ l.length ∧ w = nI j ∧ x = enF (xyL l v) g j) (fun _ _ w => 100 - w.toNatClampNeg) ⟨rfl, 1, by omega, by omega, rfl, (enF_1 _ _).symm⟩ ?_
    rintro S' x w K ⟨rfl, j, hj1, hj, rfl, rfl⟩ hK
    unfold wp_X7_endOf_23_b wp_X7_endOf_53 wp_X7_endOf_88
    rw [h4]
    by_cases c : j = l.length
    · subst c
      exact gt (by rw [vv_le (by omega) (by omega)]; omega) k
    · obtain ⟨x1, x2, x3⟩ := hA.to (i := j) (by omega)
      have hin := vv_in (k := j) (N := 96) (by omega) (by omega)
      have fin : if g = 0 then (if 0 ≤ (lg_cmp (xyL l v j) (enF (xyL l v) g j)) then K S' (enF (xyL l v) g j) (nI j + 1) else K S' (xyL l v j) (nI j + 1)) else (if (lg_cmp (xyL l v j) (enF (xyL l v) g j)) ≤ 0 then K S' (enF (xyL l v) g j) (nI j + 1) else K S' (xyL l v j) (nI j + 1)) := by
        have es : enF (xyL l v) g (j + 1) = if betB g (xyL l v j) (enF (xyL l v) g j) = true then xyL l v j else enF (xyL l v) g j := rfl
        have next : ∀ x, x = enF (xyL l v) g (j + 1) → K S' x (nI j + 1) := fun x hx => by
          rw [nI_1]; exact hK _ _ _ ⟨rfl, j + 1, by omega, by omega, rfl, hx⟩ (by rw [vv_clI (by omega), vv_clI (by omega)]; omega)
        unfold betB at es
        by_cases cg : g = 0
        · rw [if_pos cg] at es
          refine gt cg ?_
          by_cases c2 : xyL l v j < enF (xyL l v) g j
          · exact gf (by rw [cmp_ge0]; exact not_not_intro c2) (next _ (by rw [es, decide_eq_true c2, if_pos rfl]))
          · exact gt (by rw [cmp_ge0]; exact c2) (next _ (by rw [es, decide_eq_false c2, if_neg (by decide)]))
        · rw [if_neg cg] at es
          refine gf cg ?_
          by_cases c2 : enF (xyL l v) g j < xyL l v j
          · exact gf (by rw [cmp_le0]; exact not_not_intro c2) (next _ (by rw [es, decide_eq_true c2, if_pos rfl]))
          · exact gt (by rw [cmp_le0]; exact c2) (next _ (by rw [es, decide_eq_false c2, if_neg (by decide)]))
      refine gf (by rw [vv_le (by omega) (by omega)]; omega) ?_
      rw [vv_clI (by omega), x1, x2]
      by_cases cv : v = 0
      · have e : xyL l v j = lX l j := by unfold xyL; rw [if_pos cv]
        rw [e] at fin; exact gt cv ⟨hin, fin⟩
      · have e : xyL l v j = lY l j := by unfold xyL; rw [if_neg cv]
        rw [e] at fin; exact gf cv ⟨hin, fin⟩
  obtain ⟨x1, x2, x3⟩ := hA.to (i := 0) h0
  have hin := vv_in (k := 0) (N := 96) (by omega) (by omega)
  unfold wp_X7_endOf
  rw [show (0 : Int32).toNatClampNeg = 0 from rfl, x1, x2]
  by_cases cv : v = 0
  · have e : xyL l v 0 = lX l 0 := by unfold xyL; rw [if_pos cv]
    rw [e] at main; exact gt cv ⟨hin, main⟩
  · have e : xyL l v 0 = lY l 0 := by unfold xyL; rw [if_neg cv]
    rw [e] at main; exact gf cv ⟨hin, main⟩
end ENDS
theorem op_box {n : Nat} {S M : xS} {K : xS → xS → Prop} (I : Inv n S M) (hn : n ≤ 600) (a b : Int32) (hK : ∀ S' M', Inv (n + 1) S' M' → K S' M') :
    wp_X6_box a b S (fun r1 S1 => wp_X7_box a b M (fun r2 M1 => if (lg_cmp r1 r2) = 0 then K S1 M1 else False)) := by
  obtain ⟨⟨b1, b2, b3⟩, b4, b5, b6⟩ := I.2.1
  have hS1 := b3.trans b2
  have z0 : (0 : Int32).toInt = 0 := rfl
  have z3 : (3 : Int32).toInt = 3 := rfl
  have y0 : (0 : Int64).toInt = 0 := rfl
  have y3 : (3 : Int64).toInt = 3 := rfl
  by_cases ca : 0 ≤ a.toInt ∧ a.toInt < cntM M 9
  rotate_left
  · exact op_ofL (w6 := wp_X6_box a b S) (w7 := wp_X7_box a b M) (r := -9223372036854775808) (fun Q k => v6_hasGlyph_f b1 hS1 ca (g0 k)) (fun Q k => v7_noGlyph_f b1 b2 ca (g1 k)) (hK _ _ I.next)
  obtain ⟨g, rfl, eg, hgg⟩ := vv_nat ca.1
  have hg : g < cntM M 9 := by omega
  obtain ⟨o1, o2, o3, o4, o5⟩ := dwA_ok I hn hg
  by_cases cc : 0 ≤ b.toInt ∧ b.toInt ≤ 3
  rotate_left
  · exact op_ofL (w6 := wp_X6_box (nI g) b S) (w7 := wp_X7_box (nI g) b M) (r := -9223372036854775808) (fun Q k => v6_hasGlyph_t b1 hS1 hg (g1 (v6_within_f (by rw [z0, z3]; exact cc) (g0 k)))) (fun Q k => v7_noGlyph_t b1 b2 hg (g0 (v7_in_f (by rw [i2l_toInt, y0, y3]; exact cc) (g0 k)))) (hK _ _ I.next)
  refine v6_hasGlyph_t b1 hS1 hg (g1 (v6_within_t (by rw [z0, z3]; exact cc) (g1 (drawn_6 I hn hg (fun S' hO _ => ?_)))))
  have p7 : ∀ Q : Int64 → xS → Prop, (∀ M', OutM M M' (dwA S M g) → (if (M'.1 0 0 13) = 0 then (wp_X7_lost M' (fun r8 S7 => (wp_X7_box_68 Q S7 r8))) else (if b ≤ 1 then (wp_X7_box_53 b Q M' 0) else (wp_X7_box_53 b Q M' 1)))) → wp_X7_box (nI g) b M Q := fun Q k =>
    v7_noGlyph_t b1 b2 hg (g0 (v7_in_t (by rw [i2l_toInt, y0, y3]; exact cc) (g1 (drawn_7 I hn hg k))))
  rw [hO.2.2.2.1]
  by_cases cz : (dwA S M g).1.length = 0
  · refine gt (by rw [cz]; rfl) (p7 _ (fun M' hM => ?_))
    rw [hM.2.2.1]
    exact gt (by rw [cz]; rfl) (lost_k (A := fun m => K S' m) (hK _ _ (I.sc hO.sc hM.sc)))
  · refine gf (by rw [nl0, vv_eq (by omega) (by omega)]; exact cz) ?_
    have m : ∀ (v e : Int32) (Q : Int64 → xS → Prop), (∀ M', OutM M M' (dwA S M g) → (if b ≤ 1 then (wp_X7_box_53 b Q M' 0) else (wp_X7_box_53 b Q M' 1)) = wp_X7_box_65 Q M' v e) → (∀ M', OutM M M' (dwA S M g) → Q (enV (dwA S M g).1 v e) M') → wp_X7_box (nI g) b M Q := fun v e Q h k => p7 Q (fun M' hM => by
      rw [hM.2.2.1]
      refine gf (by rw [nl0, vv_eq (by omega) (by omega)]; exact cz) ?_
      rw [h M' hM]
      exact w7_endOf hM.2.2.1 hM.2.2.2.2 o1 (by omega) (k M' hM))
    have l6 : ∀ (v : Int32) (Q : Int64 → xS → Prop), Q (enV (dwA S M g).1 v 0) S' → wp_X4_leastOf 0 v S' Q := fun v Q k => w4_least hO.2.2.2.1 hO.2.2.2.2.2 o1 k
    have g6 : ∀ (v : Int32) (Q : Int64 → xS → Prop), Q (enV (dwA S M g).1 v 1) S' → wp_X4_greatestOf 0 v S' Q := fun v Q k => w4_great hO.2.2.2.1 hO.2.2.2.2.2 o1 k
    have fin : ∀ (x : Int64) (M' : xS), OutM M M' (dwA S M g) → if lg_cmp x x = 0 then K S' M' else False := fun x M' hM => gt (by rw [cmp_eq0]) (hK _ _ (I.sc hO.sc hM.sc))
    have n2 : ¬ (2 : Int32) = 0 := by decide
    unfold wp_X6_box_48 wp_X6_box_71
    obtain ⟨i, rfl, ei, hi⟩ := vv_nat cc.1
    have hi4 : i = 0 ∨ i = 1 ∨ i = 2 ∨ i = 3 := by omega
    rcases hi4 with rfl | rfl | rfl | rfl
    · refine gt (by decide) ⟨n2, gt (by decide) (l6 0 _ (m 0 0 _ (fun M' _ => ?_) (fun M' hM => fin _ M' hM)))⟩
      unfold wp_X7_box_53
      rw [if_pos (by decide), if_neg (show ¬ (nI 0 - nI 0 / 2 * 2 = 1) by decide)]
      exact propext ⟨fun h => h.2, fun h => ⟨n2, h⟩⟩
    · refine gt (by decide) ⟨n2, gf (by decide) (g6 0 _ (m 0 1 _ (fun M' _ => ?_) (fun M' hM => fin _ M' hM)))⟩
      unfold wp_X7_box_53
      rw [if_pos (by decide), if_pos (show (nI 1 - nI 1 / 2 * 2 = 1) by decide)]
      exact propext ⟨fun h => h.2, fun h => ⟨n2, h⟩⟩
    · refine gf (by decide) ⟨n2, gt (by decide) (l6 1 _ (m 1 0 _ (fun M' _ => ?_) (fun M' hM => fin _ M' hM)))⟩
      unfold wp_X7_box_53
      rw [if_neg (by decide), if_neg (show ¬ (nI 2 - nI 2 / 2 * 2 = 1) by decide)]
      exact propext ⟨fun h => h.2, fun h => ⟨n2, h⟩⟩
    · refine gf (by decide) ⟨n2, gf (by decide) (g6 1 _ (m 1 1 _ (fun M' _ => ?_) (fun M' hM => fin _ M' hM)))⟩
      unfold wp_X7_box_53
      rw [if_neg (by decide), if_pos (show (nI 3 - nI 3 / 2 * 2 = 1) by decide)]
      exact propext ⟨fun h => h.2, fun h => ⟨n2, h⟩⟩
/- a mean as a float -/
theorem nan_dec32 {x : UInt32} (h : isNaN32 x = true) : FP.Core.decode FP.Core.b32 x.toNat = .nan := by
  rw [isNaN32_iff] at h
  have e : x.toNat &&& 0x7fffffff = x.toNat % 2 ^ 31 := Nat.and_two_pow_sub_one_eq_mod x.toNat 31
  rw [e] at h
  have e1 : FP.Core.fieldE FP.Core.b32 x.toNat = x.toNat / 8388608 % 256 := rfl
  have e2 : FP.Core.fieldT FP.Core.b32 x.toNat = x.toNat % 8388608 := rfl
  have e3 : FP.Core.b32.exps - 1 = 255 := rfl
  unfold FP.Core.decode
  rw [e1, e2, e3, if_pos (by omega), if_neg (by omega)]
theorem or_ge (a c q m : Nat) (h : c &&& m = c) : c ≤ (a ||| c ||| q) &&& m := by
  rw [Nat.and_or_distrib_right, Nat.and_or_distrib_right, h]
  exact Nat.le_trans Nat.right_le_or Nat.left_le_or
theorem nan_d2f {x : UInt64} (h : isNaN64 x = true) : isNaN32 (FP.d2f x) = true := by
  have e : FP.d2f x = FP.nanD2F x := if_pos (decide_eq_true (nan_dec h))
  rw [e, isNaN32_iff]
  show _ < (((x >>> 63).toUInt32 <<< 31) ||| (0x7fc00000 : UInt32) ||| ((x &&& 0x000fffffffffffff) >>> 29).toUInt32).toNat &&& 0x7fffffff
  rw [UInt32.toNat_or, UInt32.toNat_or]
  have := or_ge ((x >>> 63).toUInt32 <<< 31).toNat 0x7fc00000 ((x &&& 0x000fffffffffffff) >>> 29).toUInt32.toNat 0x7fffffff (by decide)
  have e2 : (0x7fc00000 : UInt32).toNat = 0x7fc00000 := rfl
  rw [e2]
  omega
theorem nan_f2d {x : UInt32} (h : isNaN32 x = true) : isNaN64 (FP.f2d x) = true := by
  have e : FP.f2d x = FP.nanF2D x := if_pos (decide_eq_true (nan_dec32 h))
  rw [e, isNaN64_iff]
  show _ < (((x >>> 31).toUInt64 <<< 63) ||| (0x7ff8000000000000 : UInt64) ||| ((x &&& 0x007fffff).toUInt64 <<< 29)).toNat &&& 0x7fffffffffffffff
  rw [UInt64.toNat_or, UInt64.toNat_or]
  have := or_ge ((x >>> 31).toUInt64 <<< 63).toNat 0x7ff8000000000000 ((x &&& 0x007fffff).toUInt64 <<< 29).toNat 0x7fffffffffffffff (by decide)
  have e2 : (0x7ff8000000000000 : UInt64).toNat = 0x7ff8000000000000 := rfl
  rw [e2]
  omega
theorem al64_or {x y : UInt64} (h : alike64 x y = true) : x = y ∨ (isNaN64 x = true ∧ isNaN64 y = true) := by
  simp only [alike64, Bool.or_eq_true, Bool.and_eq_true, decide_eq_true_eq] at h
  exact h
theorem al32_or {x y : UInt32} (h : alike32 x y = true) : x = y ∨ (isNaN32 x = true ∧ isNaN32 y = true) := by
  simp only [alike32, Bool.or_eq_true, Bool.and_eq_true, decide_eq_true_eq] at h
  exact h
theorem al_nan {x y : UInt64} (h1 : isNaN64 x = true) (h2 : isNaN64 y = true) : alD x y := by
  have nn : ∀ x : UInt64, isNaN64 x = true → ¬ Op.cmpValue (FP.dcmp x x) CmpOp.l = 0 := fun x hx => by rw [nan_cmp hx]; decide
  exact Or.inr ⟨nn _ h1, nn _ h2⟩
theorem al_mid {z d d' : UInt64} {f f' : UInt32} {e e' : UInt64} (h1 : alike64 d z = true) (h2 : alike32 f (FP.d2f d) = true) (h3 : alike64 e (FP.f2d f) = true) (k1 : alike64 d' z = true) (k2 : alike32 f' (FP.d2f d') = true) (k3 : alike64 e' (FP.f2d f') = true) : alD e e' := by
  have nan_of : ∀ {d : UInt64} {f : UInt32} {e : UInt64}, isNaN64 d = true → alike32 f (FP.d2f d) = true → alike64 e (FP.f2d f) = true → isNaN64 e = true := by
    intro d f e hd hf he
    have hf2 : isNaN32 f = true := by
      rcases al32_or hf with h | h
      · rw [h]; exact nan_d2f hd
      · exact h.1
    rcases al64_or he with h | h
    · rw [h]; exact nan_f2d hf2
    · exact h.1
  have nan_of2 : ∀ {f : UInt32} {e : UInt64}, isNaN32 f = true → alike64 e (FP.f2d f) = true → isNaN64 e = true := by
    intro f e hf he
    rcases al64_or he with h | h
    · rw [h]; exact nan_f2d hf
    · exact h.1
  rcases al64_or h1 with rfl | ⟨a1, a2⟩
  · rcases al64_or k1 with rfl | ⟨c1, c2⟩
    · rcases al32_or h2 with rfl | ⟨p1, p2⟩
      · rcases al32_or k2 with rfl | ⟨q1, q2⟩
        · exact al_both h3 k3
        · exact al_nan (nan_of2 q2 h3) (nan_of2 q1 k3)
      · rcases al32_or k2 with rfl | ⟨q1, q2⟩
        · exact al_nan (nan_of2 p1 h3) (nan_of2 p2 k3)
        · exact al_nan (nan_of2 p1 h3) (nan_of2 q1 k3)
    · exact al_nan (nan_of c2 h2 h3) (nan_of c1 k2 k3)
  · rcases al64_or k1 with rfl | ⟨c1, c2⟩
    · exact al_nan (nan_of a1 h2 h3) (nan_of a2 k2 k3)
    · exact al_nan (nan_of a1 h2 h3) (nan_of c1 k2 k3)
theorem op_middle {n : Nat} {S M : xS} {K : xS → xS → Prop} (I : Inv n S M) (hn : n ≤ 600) (a b : Int32) (hK : ∀ S' M', Inv (n + 1) S' M' → K S' M') :
    wp_X6_middle a b S (fun r1 S1 => ∀ v4 : UInt64, alike64 v4 (FP.f2d r1) = true → wp_X7_middle a b M (fun r2 M1 => ∀ r3 : UInt64, alike64 r3 (FP.f2d r2) = true → if (Op.cmpValue (FP.dcmp v4 r3) CmpOp.l) = 0 then K S1 M1 else (if (Op.cmpValue (FP.dcmp v4 v4) CmpOp.l) = 0 then False else (if (Op.cmpValue (FP.dcmp r3 r3) CmpOp.l) = 0 then False else K S1 M1)))) := by
  obtain ⟨⟨b1, b2, b3⟩, b4, b5, b6⟩ := I.2.1
  have hS1 := b3.trans b2
  by_cases ca : 0 ≤ a.toInt ∧ a.toInt < cntM M 9
  rotate_left
  · exact v6_hasGlyph_f b1 hS1 ca (g0 (fun v4 h4 => v7_noGlyph_f b1 b2 ca (g1 (fun r3 h3 => al_if (al_both h4 h3) (hK _ _ I.next)))))
  obtain ⟨g, rfl, eg, hgg⟩ := vv_nat ca.1
  have hg : g < cntM M 9 := by omega
  obtain ⟨o1, o2, o3, o4, o5⟩ := dwA_ok I hn hg
  refine v6_hasGlyph_t b1 hS1 hg (g1 (drawn_6 I hn hg (fun S' hO _ => ?_)))
  rw [hO.2.2.2.1]
  by_cases cz : (dwA S M g).1.length = 0
  · refine gt (by rw [cz]; rfl) (fun v4 h4 => v7_noGlyph_t b1 b2 hg (g0 (drawn_7 I hn hg (fun M' hM => ?_))))
    rw [hM.2.2.1]
    exact gt (by rw [cz]; rfl) (fun r3 h3 => al_if (al_both h4 h3) (hK _ _ (I.sc hO.sc hM.sc)))
  · have hne : ¬ nI (dwA S M g).1.length = 0 := by rw [nl0, vv_eq (by omega) (by omega)]; exact cz
    refine gf hne (w4_least hO.2.2.2.1 hO.2.2.2.2.2 o1 (w4_great hO.2.2.2.1 hO.2.2.2.2.2 o1 (fun d hd f hf v4 h4 => ?_)))
    refine v7_noGlyph_t b1 b2 hg (g0 (drawn_7 I hn hg (fun M' hM => ?_)))
    rw [hM.2.2.1]
    exact gf hne (w7_endOf hM.2.2.1 hM.2.2.2.2 o1 (by omega) (w7_endOf hM.2.2.1 hM.2.2.2.2 o1 (by omega) (fun d' hd' f' hf' r3 h3 => al_if (al_mid hd hf h4 hd' hf' h3) (hK _ _ (I.sc hO.sc hM.sc)))))
