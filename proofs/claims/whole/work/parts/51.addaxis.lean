theorem xI_s (S : xS) (k i j : Nat) (v : Int32) : (xI S k i j v).1 k i j = v := by rw [xI_1, if_pos ⟨rfl, rfl, rfl⟩]
theorem v6_begin {i : Nat} {l s g : Int32} {S : xS} {Q : xS → Prop} (hi : i < 4) (k : ∀ S', (∀ k, k ≠ 0 → k ≠ 10 → k ≠ 11 → S'.1 k = S.1 k) → S'.2 = S.2 → (∀ x j, x ≠ i ∨ j = 3 → S'.1 0 x j = S.1 0 x j) → (∀ x j, x ≠ i → S'.1 10 x j = S.1 10 x j ∧ S'.1 11 x j = S.1 11 x j) →
    (S'.1 0 i 0 = l ∧ S'.1 0 i 1 = s ∧ S'.1 0 i 2 = g ∧ S'.1 0 i 4 = 3) → (∀ j, j < 3 → S'.1 10 i j = (nI j - 1) * 16384 ∧ S'.1 11 i j = (nI j - 1) * 16384) → Q S') : wp_X0_begin i l s g S Q := by
  unfold wp_X0_begin
  refine wl1 (wp_X0_begin_18 i Q) (fun K => wp_X0_begin_18_b i K Q) (fun _ _ _ => rfl)
    (fun S' v => ∃ j, j ≤ 3 ∧ v = nI j ∧ (∀ k, k ≠ 0 → k ≠ 10 → k ≠ 11 → S'.1 k = S.1 k) ∧ S'.2 = S.2 ∧ (∀ x j, x ≠ i ∨ j = 3 → S'.1 0 x j = S.1 0 x j) ∧ (∀ x j, x ≠ i → S'.1 10 x j = S.1 10 x j ∧ S'.1 11 x j = S.1 11 x j) ∧ (S'.1 0 i 0 = l ∧ S'.1 0 i 1 = s ∧ S'.1 0 i 2 = g) ∧ (∀ z, z < j → S'.1 10 i z = (nI z - 1) * 16384 ∧ S'.1 11 i z = (nI z - 1) * 16384))
    (fun _ v => 3 - v.toNatClampNeg) ⟨0, by omega, rfl, fun k h1 h2 h3 => by rw [xI_k h1, xI_k h1, xI_k h1], rfl, fun x j h => by rw [xI_1, if_neg (by omega), xI_1, if_neg (by omega), xI_1, if_neg (by omega)], fun x j h => by rw [xI_k (by omega), xI_k (by omega), xI_k (by omega), xI_k (k' := 11) (by omega), xI_k (k' := 11) (by omega), xI_k (k' := 11) (by omega)]; exact ⟨rfl, rfl⟩,
      ⟨by rw [xI_1, if_neg (by omega), xI_1, if_neg (by omega), xI_1, if_pos (by omega)], by rw [xI_1, if_neg (by omega), xI_1, if_pos (by omega)], by rw [xI_1, if_pos (by omega)]⟩, fun z h => by omega⟩ ?_
  rintro S' v K ⟨j, hj, rfl, h1, h2, h3, h4, ⟨h5, h6, h7⟩, h8⟩ hK
  unfold wp_X0_begin_18_b
  by_cases c : j = 3
  · subst c
    refine gt (by rw [nl3, vv_le (by omega) (by omega)]; omega) (k _ (fun k a b d => by rw [xI_k a]; exact h1 k a b d) h2 (fun x z h => by rw [xI_1, if_neg (by omega)]; exact h3 x z h) (fun x z h => by rw [xI_k (by omega), xI_k (k' := 11) (by omega)]; exact h4 x z h) ⟨by rw [xI_1, if_neg (by omega)]; exact h5, by rw [xI_1, if_neg (by omega)]; exact h6, by rw [xI_1, if_neg (by omega)]; exact h7, by rw [xI_1, if_pos (by omega)]⟩ (fun z hz => by rw [xI_k (by omega), xI_k (k' := 11) (by omega)]; exact h8 z hz))
  · refine gf (by rw [nl3, vv_le (by omega) (by omega)]; omega) ⟨vv_in (by omega) (by omega), vv_in (by omega) (by omega), vv_in (by omega) (by omega), ?_⟩
    rw [vv_clI (k := j) (by omega), nI_1, xI_1, if_pos (by omega)]
    refine hK _ _ ⟨j + 1, by omega, rfl, fun k a b d => by rw [xI_k d, xI_k b]; exact h1 k a b d, h2, fun x z h => by rw [xI_k (by omega), xI_k (by omega)]; exact h3 x z h, fun x z h => ?_, ⟨by rw [xI_k (by omega), xI_k (by omega)]; exact h5, by rw [xI_k (by omega), xI_k (by omega)]; exact h6, by rw [xI_k (by omega), xI_k (by omega)]; exact h7⟩, fun z hz => ?_⟩ (by rw [vv_clI (by omega), vv_clI (by omega)]; omega)
    · rw [xI_k (k' := 10) (by omega), xI_1, if_neg (by omega), xI_1 _ 11, if_neg (by omega), xI_k (by omega)]; exact h4 x z h
    · rw [xI_k (k' := 10) (by omega), xI_1 _ 10, xI_1 _ 11]
      by_cases ez : z = j
      · subst ez; rw [if_pos (by omega), if_pos (by omega)]; exact ⟨rfl, rfl⟩
      · rw [if_neg (by omega), if_neg (by omega), xI_k (by omega)]; exact h8 z (by omega)
theorem w7_addAxis {na : Nat} {l s g : Int32} {M : xS} {Q : Int32 → xS → Prop} (hn : na < 4) (h0 : M.1 0 0 0 = nI na)
    (k : ∀ M', (∀ k, k ≠ 0 → k ≠ 2 → k ≠ 3 → k ≠ 4 → k ≠ 5 → k ≠ 7 → k ≠ 8 → k ≠ 9 → M'.1 k = M.1 k) → (∀ j, j ≠ 0 → M'.1 0 0 j = M.1 0 0 j) → M'.1 0 0 0 = nI (na + 1) → (∀ a, a ≠ na → M'.1 2 0 a = M.1 2 0 a ∧ M'.1 3 0 a = M.1 3 0 a ∧ M'.1 4 0 a = M.1 4 0 a ∧ M'.1 5 0 a = M.1 5 0 a ∧ M'.1 7 0 a = M.1 7 0 a) → (∀ z, z < 8 * na → M'.1 8 0 z = M.1 8 0 z ∧ M'.1 9 0 z = M.1 9 0 z) →
      (M'.1 2 0 na = l ∧ M'.1 3 0 na = s ∧ M'.1 4 0 na = g ∧ M'.1 5 0 na = 0 ∧ M'.1 7 0 na = 3) → (∀ z, z < 3 → M'.1 8 0 (8 * na + z) = 16384 * (nI z - 1) ∧ M'.1 9 0 (8 * na + z) = 16384 * (nI z - 1)) → Q (nI na) M') :
    ∃ n, wp_X7_addAxis_112 Q n (xI (xI (xI (xI (xI M 2 0 na l) 3 0 na s) 4 0 na g) 5 0 na 0) 7 0 na 3) 0 := by
  refine wl1 (wp_X7_addAxis_112 Q) (fun K => wp_X7_addAxis_112_b K Q) (fun _ _ _ => rfl)
    (fun M' v => ∃ j, j ≤ 3 ∧ v = nI j ∧ (∀ k, k ≠ 2 → k ≠ 3 → k ≠ 4 → k ≠ 5 → k ≠ 7 → k ≠ 8 → k ≠ 9 → M'.1 k = M.1 k) ∧ (∀ a, a ≠ na → M'.1 2 0 a = M.1 2 0 a ∧ M'.1 3 0 a = M.1 3 0 a ∧ M'.1 4 0 a = M.1 4 0 a ∧ M'.1 5 0 a = M.1 5 0 a ∧ M'.1 7 0 a = M.1 7 0 a) ∧ (∀ z, z < 8 * na → M'.1 8 0 z = M.1 8 0 z ∧ M'.1 9 0 z = M.1 9 0 z) ∧
      (M'.1 2 0 na = l ∧ M'.1 3 0 na = s ∧ M'.1 4 0 na = g ∧ M'.1 5 0 na = 0 ∧ M'.1 7 0 na = 3) ∧ (∀ z, z < j → M'.1 8 0 (8 * na + z) = 16384 * (nI z - 1) ∧ M'.1 9 0 (8 * na + z) = 16384 * (nI z - 1)))
    (fun _ v => 3 - v.toNatClampNeg) ⟨0, by omega, rfl, fun k a b d e f _ _ => by rw [xI_k f, xI_k e, xI_k d, xI_k b, xI_k a], fun a ha => ?_, fun z hz => ?_, ?_, fun z h => by omega⟩ ?_
  · simp (disch := decide) only [xI_k, xI_1, ha, and_false, if_false, true_and, and_self]
  · simp (disch := decide) only [xI_k, and_self]
  · simp (disch := decide) only [xI_k, xI_s, and_self]
  rintro M' v K ⟨j, hj, rfl, h1, h2, h3, h4, h5⟩ hK
  have e0 : M'.1 0 0 0 = nI na := by rw [h1 0 (by omega) (by omega) (by omega) (by omega) (by omega) (by omega) (by omega)]; exact h0
  unfold wp_X7_addAxis_112_b
  simp (disch := decide) only [xI_k, e0]
  rw [nl8, vv_mul, nI_add]
  by_cases c : j = 3
  · subst c
    refine gt (by rw [nl3, vv_le (by omega) (by omega)]; omega) ?_
    rw [xI_1, if_pos (by omega), nI_1, nl1, vv_sub (by omega) (by omega)]
    refine k _ (fun k z a b d e f g i => by rw [xI_k z]; exact h1 k a b d e f g i) (fun z hz => by rw [xI_1, if_neg (by omega), h1 0 (by omega) (by omega) (by omega) (by omega) (by omega) (by omega) (by omega)]) (by rw [xI_1, if_pos (by omega)]) (fun a ha => ?_) (fun z hz => ?_) ?_ (fun z hz => ?_)
    · simp (disch := decide) only [xI_k]; exact h2 a ha
    · simp (disch := decide) only [xI_k]; exact h3 z hz
    · simp (disch := decide) only [xI_k]; exact h4
    · simp (disch := decide) only [xI_k]; exact h5 z hz
  · refine gf (by rw [nl3, vv_le (by omega) (by omega)]; omega) ⟨vv_in (by omega) (by omega), vv_in (by omega) (by omega), ?_⟩
    rw [vv_clI (by omega), nI_1]
    refine hK _ _ ⟨j + 1, by omega, rfl, fun k a b d e f g i => by rw [xI_k i, xI_k g]; exact h1 k a b d e f g i, fun a ha => ?_, fun z hz => ?_, ?_, fun z hz => ?_⟩ (by rw [vv_clI (by omega), vv_clI (by omega)]; omega)
    · simp (disch := decide) only [xI_k]; exact h2 a ha
    · rw [xI_k (k' := 8) (by omega), xI_1, if_neg (by omega), xI_1 _ 9, if_neg (by omega), xI_k (by omega)]; exact h3 z hz
    · simp (disch := decide) only [xI_k]; exact h4
    · rw [xI_k (k' := 8) (by omega), xI_1 _ 8, xI_1 _ 9]
      by_cases ez : z = j
      · subst ez; rw [if_pos (by omega), if_pos (by omega)]; exact ⟨rfl, rfl⟩
      · rw [if_neg (by omega), if_neg (by omega), xI_k (by omega)]; exact h5 z (by omega)
theorem op_addAxis {n : Nat} {S M : xS} {K : xS → xS → Prop} (I : Inv n S M) (l s g : Int32) (hK : ∀ S' M', Inv (n + 1) S' M' → K S' M') :
    wp_X6_addAxis l s g S (fun r1 S1 => wp_X7_addAxis l s g M (fun r2 M1 => if r1 = r2 then K S1 M1 else False)) := by
  obtain ⟨⟨hn, h0, h1⟩, hax, hz, hzz⟩ := I.1
  have hS1 := h1.trans h0
  have z1 : (-100000 : Int32).toInt = -100000 := rfl
  have z2 : (100000 : Int32).toInt = 100000 := rfl
  have y1 : (-100000 : Int64).toInt = -100000 := rfl
  have y2 : (100000 : Int64).toInt = 100000 := rfl
  unfold wp_X6_addAxis wp_X7_addAxis wp_X6_addAxis_36 wp_X7_addAxis_45
  by_cases c1 : -100000 ≤ l.toInt ∧ l.toInt ≤ 100000
  · have d1 : (-100000 : Int64).toInt ≤ (Int32.toInt64 l).toInt ∧ (Int32.toInt64 l).toInt ≤ (100000 : Int64).toInt := by rw [i2l_toInt, y1, y2]; exact c1
    refine v6_within_t (by rw [z1, z2]; exact c1) (g1 ?_)
    by_cases c2 : l.toInt ≤ s.toInt ∧ s.toInt ≤ 100000
    · have d2 : (Int32.toInt64 l).toInt ≤ (Int32.toInt64 s).toInt ∧ (Int32.toInt64 s).toInt ≤ (100000 : Int64).toInt := by rw [i2l_toInt, i2l_toInt, y2]; exact c2
      refine v6_within_t (by rw [z2]; exact c2) (g1 ?_)
      by_cases c3 : s.toInt ≤ g.toInt ∧ g.toInt ≤ 100000
      · have d3 : (Int32.toInt64 s).toInt ≤ (Int32.toInt64 g).toInt ∧ (Int32.toInt64 g).toInt ≤ (100000 : Int64).toInt := by rw [i2l_toInt, i2l_toInt, y2]; exact c3
        refine v6_within_t (by rw [z2]; exact c3) (g1 ?_)
        by_cases c4 : g = l
        · exact gt c4 (v7_in_t d1 (g1 (v7_in_t d2 (g1 (v7_in_t d3 (g1 (gt c4 (gt rfl (hK _ _ I.next)))))))))
        · refine gf c4 ?_
          rw [hS1]
          have c4' : g.toInt ≠ l.toInt := fun e => c4 (Int32.toInt_inj.mp e)
          by_cases c5 : cntM M 0 < 4
          · have hin := vv_in c5 (by omega)
            refine gt (by rw [nl4, vv_lt (by omega) (by omega)]; exact c5) ⟨hin, ?_⟩
            rw [vv_clI (by omega)]
            refine v6_begin c5 (fun S' a1 a2 a3 a4 a5 a6 => ?_)
            have e1 : S'.1 6 0 1 = nI (cntM M 0) := by rw [a1 6 (by omega) (by omega) (by omega)]; exact hS1
            rw [xI_s, e1, nI_1, nl1, vv_sub (by omega) (by omega)]
            refine v7_in_t d1 (g1 (v7_in_t d2 (g1 (v7_in_t d3 (g1 (gf c4 ?_))))))
            simp (disch := decide) only [xI_k, h0]
            refine gf (by rw [nl4, vv_eq (by omega) (by omega)]; omega) ⟨hin, hin, hin, hin, hin, ?_⟩
            rw [vv_clI (by omega)]
            refine w7_addAxis c5 h0 (fun M' b1 b2 b3 b4 b5 b6 b7 => ?_)
            refine gt rfl ?_
            refine hK _ _ ?_
            have ec : cntM M' 0 = cntM M 0 + 1 := by unfold cntM; rw [b3, vv_clI (by unfold cntM at c5; omega)]; rfl
            have p0 : (nI 0 - 1) * 16384 = (-16384 : Int32) := by decide
            have p1 : (nI 1 - 1) * 16384 = (0 : Int32) := by decide
            have p2 : (nI 2 - 1) * 16384 = (16384 : Int32) := by decide
            have r0 : 16384 * (nI 0 - 1) = (-16384 : Int32) := by decide
            have r1 : 16384 * (nI 1 - 1) = (0 : Int32) := by decide
            have r2 : 16384 * (nI 2 - 1) = (16384 : Int32) := by decide
            refine I.ax ⟨⟨by omega, by rw [b3, ec], by rw [xI_s, b3]⟩, fun x hx => ?_, fun x hx hx4 => ?_, fun x hx => ?_⟩ (fun k q1 q2 q3 q4 q5 => by rw [xI_k q2]; exact a1 k q1 q3 q4) (fun j hj => by rw [xI_1, if_neg (by omega), a1 6 (by omega) (by omega) (by omega)]) (by show S'.2.2 = S.2.2; rw [a2]) (fun k hk => b1 k (by omega) (by omega) (by omega) (by omega) (by omega) (by omega) (by omega) (by omega)) (fun j hj => b2 j (by omega)) (by omega)
            · by_cases ex : x = cntM M 0
              · rw [ex]
                obtain ⟨t1, t2, t3, t4⟩ := a5
                obtain ⟨t5, t6, t7, t8, t9⟩ := b6
                unfold AxRel
                simp (disch := decide) only [xI_k]
                rw [t1, t2, t3, t4, t5, t6, t7, t8, t9, a3 (cntM M 0) 3 (by omega), a1 30 (by omega) (by omega) (by omega), b1 6 (by omega) (by omega) (by omega) (by omega) (by omega) (by omega) (by omega) (by omega), (hz (cntM M 0) (by omega) c5).1, (hz (cntM M 0) (by omega) c5).2.1, (hz (cntM M 0) (by omega) c5).2.2]
                refine ⟨⟨rfl, rfl, rfl⟩, ⟨c1.1, c2.1, c3.1, c3.2, by omega⟩, ⟨rfl, Or.inl rfl⟩, ⟨rfl, by unfold rng; decide⟩, rfl, 3, rfl, by omega, by omega, fun z hz => ?_, ?_, fun z hz => ?_⟩
                · rw [(a6 z hz).1, (a6 z hz).2, (b7 z hz).1, (b7 z hz).2, Int32.mul_comm]
                  exact ⟨rfl, rfl⟩
                · have f0 := b7 0 (by omega)
                  have f2 := b7 2 (by omega)
                  rw [r0] at f0
                  rw [r2] at f2
                  exact ⟨f0.1, f0.2, f2.1, f2.2⟩
                · have f0 := b7 0 (by omega)
                  have f1 := b7 1 (by omega)
                  have f2 := b7 2 (by omega)
                  rw [r0] at f0
                  rw [r1] at f1
                  rw [r2] at f2
                  rcases (show z = 0 ∨ z = 1 by omega) with rfl | rfl
                  · rw [f0.1, f0.2, f1.1, f1.2]; decide
                  · rw [f1.1, f1.2, f2.1, f2.2]; decide
              · obtain ⟨t1, t2, t3, t4, t5, np, t6, t7, t8, t9, t10, t11⟩ := hax x (by omega)
                obtain ⟨q2, q3, q4, q5, q7⟩ := b4 x ex
                have q8 : ∀ z, z < np → M'.1 8 0 (8 * x + z) = M.1 8 0 (8 * x + z) ∧ M'.1 9 0 (8 * x + z) = M.1 9 0 (8 * x + z) := fun z hz => b5 (8 * x + z) (by omega)
                unfold AxRel
                simp (disch := decide) only [xI_k]
                rw [a3 x 0 (by omega), a3 x 1 (by omega), a3 x 2 (by omega), a3 x 3 (by omega), a3 x 4 (by omega), a1 30 (by omega) (by omega) (by omega), q2, q3, q4, q5, q7, b1 6 (by omega) (by omega) (by omega) (by omega) (by omega) (by omega) (by omega) (by omega)]
                refine ⟨t1, t2, t3, t4, t5, np, t6, t7, t8, fun z hz => ?_, ?_, fun z hz => ?_⟩
                · rw [(a4 x z ex).1, (a4 x z ex).2, (q8 z hz).1, (q8 z hz).2]; exact t9 z hz
                · have u0 := q8 0 (by omega)
                  have u1 := q8 (np - 1) (by omega)
                  rw [Nat.add_zero] at u0
                  rw [u0.1, u0.2, u1.1, u1.2]; exact t10
                · have u0 := q8 z (by omega)
                  have u1 := q8 (z + 1) (by omega)
                  rw [u0.1, u0.2, u1.1, u1.2]; exact t11 z hz
            · rw [ec] at hx
              simp (disch := decide) only [xI_k]
              rw [a1 30 (by omega) (by omega) (by omega), a3 x 3 (by omega), b1 6 (by omega) (by omega) (by omega) (by omega) (by omega) (by omega) (by omega) (by omega)]
              exact hz x (by omega) hx4
            · simp (disch := decide) only [xI_k]
              rw [a1 30 (by omega) (by omega) (by omega)]
              exact hzz x hx
          · have e4 : cntM M 0 = 4 := by omega
            refine gf (by rw [nl4, vv_lt (by omega) (by omega)]; exact c5) ?_
            refine v7_in_t d1 (g1 (v7_in_t d2 (g1 (v7_in_t d3 (g1 (gf c4 (gt ?_ (gt rfl (hK _ _ I.next)))))))))
            rw [h0, e4]; rfl
      · have d3 : ¬ ((Int32.toInt64 s).toInt ≤ (Int32.toInt64 g).toInt ∧ (Int32.toInt64 g).toInt ≤ (100000 : Int64).toInt) := by rw [i2l_toInt, i2l_toInt, y2]; exact c3
        refine v6_within_f (by rw [z2]; exact c3) (g0 ?_)
        exact v7_in_t d1 (g1 (v7_in_t d2 (g1 (v7_in_f d3 (g0 (gt rfl (hK _ _ I.next)))))))
    · have d2 : ¬ ((Int32.toInt64 l).toInt ≤ (Int32.toInt64 s).toInt ∧ (Int32.toInt64 s).toInt ≤ (100000 : Int64).toInt) := by rw [i2l_toInt, i2l_toInt, y2]; exact c2
      refine v6_within_f (by rw [z2]; exact c2) (g0 ?_)
      exact v7_in_t d1 (g1 (v7_in_f d2 (g0 (gt rfl (hK _ _ I.next)))))
  · have d1 : ¬ ((-100000 : Int64).toInt ≤ (Int32.toInt64 l).toInt ∧ (Int32.toInt64 l).toInt ≤ (100000 : Int64).toInt) := by rw [i2l_toInt, y1, y2]; exact c1
    refine v6_within_f (by rw [z1, z2]; exact c1) (g0 ?_)
    exact v7_in_f d1 (g0 (gt rfl (hK _ _ I.next)))
