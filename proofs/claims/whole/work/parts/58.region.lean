section REGION
variable {n : Nat} {S M : xS} {K : xS → xS → Prop}
theorem op_release (I : Inv n S M) (a b c : Int32) (hK : ∀ S' M', Inv (n + 1) S' M' → K S' M') :
    wp_X6_release a b c S (fun r1 S1 => wp_X7_release a b c M (fun r2 M1 => if r1 = r2 then K S1 M1 else False)) := by
  rcases ptErr I a b c with ⟨e, e1, e2, e3, e4⟩ | ⟨g, t, pl, rfl, rfl, ec, ec2, hg, ht, hp, e3, e4⟩
  · exact op_of (w6 := wp_X6_release a b c S) (w7 := wp_X7_release a b c M) (r := e) (fun Q k => e3 _ (gf e1 k)) (fun Q k => e4 _ (gf e2 k)) (hK _ _ I.next)
  · obtain ⟨d1, d2, d3⟩ := I.2.1.2.2.1 g hg
    have hg6 := I.2.1.1.1
    have hN := d2.2.1.1
    have hT := d2.2.2.2.1.1
    have hid := I.2.1.2.1.1 g (by omega) t (by omega)
    obtain ⟨v1, ⟨m, u1, u2, u3⟩, v3⟩ := d1.2.2.2.2.2.2.2.2 t ht
    obtain ⟨w1, w2, w3, w4, w5⟩ := d2.2.2.2.2.2.2 t ht
    have hp25 : pl < 25 := by omega
    have hs := slo_lt hp25
    have hb : m.testBit pl = decide (fl (mrow M g) t (slo pl) = 1) := u3 pl (by omega)
    have er : ∀ z, mrow (xI M 11 0 (511 * g + (tb t + 12 + slo pl)) 0) g z = if z = tb t + 12 + slo pl then 0 else mrow M g z := fun z => mrow_put _ _ _ _ _
    have ef : ∀ s, s < 25 → fl (mrow (xI M 11 0 (511 * g + (tb t + 12 + slo pl)) 0) g) t s = if s = slo pl then 0 else fl (mrow M g) t s := by
      intro s h25
      unfold fl
      rw [er]
      by_cases e : s = slo pl
      · rw [if_pos e, if_pos (by omega)]
      · rw [if_neg e, if_neg (by omega)]
    have ex : ∀ s, s < 25 → dlx (mrow (xI M 11 0 (511 * g + (tb t + 12 + slo pl)) 0) g) t s = dlx (mrow M g) t s := fun s h25 => by unfold dlx; rw [er, if_neg (by omega)]
    have ey : ∀ s, s < 25 → dly (mrow (xI M 11 0 (511 * g + (tb t + 12 + slo pl)) 0) g) t s = dly (mrow M g) t s := fun s h25 => by unfold dly; rw [er, if_neg (by omega)]
    have fin : Inv (n + 1) (xI S 5 (S.2.2 16 g t) 3 (nI (bOff m pl))) (xI M 11 0 (511 * g + (tb t + 12 + slo pl)) 0) := by
      refine I.tup hg ht (fun k hk => by rw [xI_k (by omega)]) rfl (fun k z hz => ?_) (fun k hk => by rw [xI_k hk]) (fun z hz => ?_) ⟨fun a ha => ?_, ⟨bOff m pl, by rw [xI_s], bOff_lt u2, fun q hq => ?_⟩, fun q hq hf => ?_⟩ ⟨fun a ha => ?_, fun a ha hb => ?_, fun s h25 => ?_, fun s h1 h2 => ?_, fun h24 => ?_⟩ (fun s h25 hf => ?_)
      · funext j
        rw [xI_1, if_neg (by omega)]
      · rw [xI_1, if_neg (by omega)]
      · rw [xI_k (by omega), xI_k (by omega), xI_k (by omega)]
        simp only [er]
        rw [if_neg (by omega), if_neg (by omega), if_neg (by omega)]
        exact v1 a ha
      · rw [ef _ (slo_lt hq), bOff_bit hq, u3 q hq]
        by_cases eq : q = pl
        · subst eq; rw [if_pos rfl]; simp
        · rw [if_neg (by rw [slo_inj hq hp25]; exact eq), decide_eq_false (show ¬ pl = q by omega), Bool.not_false, Bool.and_true]
      · rw [ef _ (slo_lt hq)] at hf
        rw [ex _ (slo_lt hq), ey _ (slo_lt hq), xI_k (by omega), xI_k (by omega)]
        by_cases eq : slo q = slo pl
        · rw [if_pos eq] at hf; exact absurd hf (by decide)
        · rw [if_neg eq] at hf; exact v3 q hq hf
      · simp only [er]
        rw [if_neg (by omega), if_neg (by omega), if_neg (by omega)]
        exact w1 a ha
      · simp only [er]
        rw [if_neg (by omega), if_neg (by omega), if_neg (by omega)]
        exact w2 a ha hb
      · rw [ef _ h25]
        split
        · exact Or.inl rfl
        · exact w3 s h25
      · rw [ef _ (by omega)]
        split
        · rfl
        · exact w4 s h1 h2
      · rw [ef _ (by omega)] at h24
        rw [ey _ (by omega)]
        by_cases e0 : 24 = slo pl
        · rw [if_pos e0] at h24; exact absurd h24 (by decide)
        · rw [if_neg e0] at h24; exact w5 h24
      · rw [ef _ h25] at hf
        rw [ex _ h25, ey _ h25]
        by_cases e0 : s = slo pl
        · rw [if_pos e0] at hf; exact absurd hf (by decide)
        · rw [if_neg e0] at hf; exact Or.inl ⟨hf, rfl, rfl⟩
    refine op_of (w6 := wp_X6_release (nI g) (nI t) c S) (w7 := wp_X7_release (nI g) (nI t) c M) (r := fl (mrow M g) t (slo pl)) (fun Q k => e3 _ (g0 ⟨vv_in (by omega) (by omega), ⟨vv_in (by omega) (by omega), ?_⟩, ?_⟩)) (fun Q k => e4 _ (gt (by decide) ?_)) (hK _ _ fin)
    · rw [vv_clI (by omega), vv_clI (by omega)]; omega
    · rw [vv_clI (by omega), vv_clI (by omega), ec]
      refine v5_touches u1 u2 (by omega) ?_
      unfold wp_X5_dropTouch wp_X6_release_58
      rw [u1, nI_off (by omega), hb]
      rcases w3 (slo pl) hs with cf | cf
      · rw [cf] at k; rw [cf]; exact g0 k
      · rw [cf] at k; rw [cf]; exact g1 k
    · unfold wp_X7_tupleAt
      refine v7_slot ec2 (by omega) ?_
      refine v7_of (y := tb t + 12 + slo pl) rfl (by simp only [nl76, nl87, nl12, vv_mul, nI_add]; rfl) (by omega) (by unfold tb; omega) ?_
      refine v7_slot ec2 (by omega) ?_
      refine v7_put (y := tb t + 12 + slo pl) rfl (by simp only [nl76, nl87, nl12, vv_mul, nI_add]; rfl) (by omega) (by unfold tb; omega) ?_
      exact k
def rgM (M : xS) (g o : Nat) (x y z : Int32) : xS := xI (xI (xI M 11 0 (511 * g + o) x) 11 0 (511 * g + (o + 1)) y) 11 0 (511 * g + (o + 2)) z
theorem rg_row (M : xS) (g o : Nat) (x y z : Int32) (w : Nat) : mrow (rgM M g o x y z) g w = if w = o + 2 then z else if w = o + 1 then y else if w = o then x else mrow M g w := by
  unfold rgM
  rw [mrow_put, mrow_put, mrow_put]
theorem op_setRegion (I : Inv n S M) (a b c x y z : Int32) (hK : ∀ S' M', Inv (n + 1) S' M' → K S' M') :
    wp_X6_setRegion a b c x y z S (fun r1 S1 => wp_X7_setRegion a b c x y z M (fun r2 M1 => if r1 = r2 then K S1 M1 else False)) := by
  rcases tupErr I a b with ⟨e, e1, e2, e3, e4⟩ | ⟨g, t, rfl, rfl, hg, ht, e3, e4⟩
  · exact op_of (w6 := wp_X6_setRegion a b c x y z S) (w7 := wp_X7_setRegion a b c x y z M) (r := e) (fun Q k => e3 _ (gf e1 k)) (fun Q k => e4 _ (gf e2 k)) (hK _ _ I.next)
  · obtain ⟨⟨hn, h0, h1⟩, hax, hz, hzz⟩ := I.1
    have hS1 := h1.trans h0
    have z0 : (0 : Int32).toInt = 0 := rfl
    have z1 : (-16384 : Int32).toInt = -16384 := rfl
    have z2 : (16384 : Int32).toInt = 16384 := rfl
    have y1 : (-16384 : Int64).toInt = -16384 := rfl
    have y2 : (16384 : Int64).toInt = 16384 := rfl
    by_cases ca : 0 ≤ c.toInt ∧ c.toInt < cntM M 0
    rotate_left
    · exact op_of (w6 := wp_X6_setRegion (nI g) (nI t) c x y z S) (w7 := wp_X7_setRegion (nI g) (nI t) c x y z M) (r := -1000001) (fun Q k => e3 _ (g0 (v6_hasAxis_f hn hS1 ca (g0 k)))) (fun Q k => e4 _ (gt (by decide) (v7_noAxis_f hn h0 ca (g1 k)))) (hK _ _ I.next)
    by_cases c1 : -16384 ≤ y.toInt ∧ y.toInt ≤ 16384
    rotate_left
    · exact op_of (w6 := wp_X6_setRegion (nI g) (nI t) c x y z S) (w7 := wp_X7_setRegion (nI g) (nI t) c x y z M) (r := -1000005) (fun Q k => e3 _ (g0 (v6_hasAxis_t hn hS1 ca (g1 (v6_within_f (by rw [z1, z2]; exact c1) (g0 k)))))) (fun Q k => e4 _ (gt (by decide) (v7_noAxis_t hn h0 ca (g0 (v7_in_f (by rw [i2l_toInt, y1, y2]; exact c1) (g0 k)))))) (hK _ _ I.next)
    by_cases c2 : -16384 ≤ x.toInt ∧ x.toInt ≤ y.toInt
    rotate_left
    · exact op_of (w6 := wp_X6_setRegion (nI g) (nI t) c x y z S) (w7 := wp_X7_setRegion (nI g) (nI t) c x y z M) (r := -1000005) (fun Q k => e3 _ (g0 (v6_hasAxis_t hn hS1 ca (g1 (v6_within_t (by rw [z1, z2]; exact c1) (g1 (v6_within_f (by rw [z1]; exact c2) (g0 k)))))))) (fun Q k => e4 _ (gt (by decide) (v7_noAxis_t hn h0 ca (g0 (v7_in_t (by rw [i2l_toInt, y1, y2]; exact c1) (g1 (v7_in_f (by rw [i2l_toInt, i2l_toInt, y1]; exact c2) (g0 k)))))))) (hK _ _ I.next)
    by_cases c3 : y.toInt ≤ z.toInt ∧ z.toInt ≤ 16384
    rotate_left
    · exact op_of (w6 := wp_X6_setRegion (nI g) (nI t) c x y z S) (w7 := wp_X7_setRegion (nI g) (nI t) c x y z M) (r := -1000005) (fun Q k => e3 _ (g0 (v6_hasAxis_t hn hS1 ca (g1 (v6_within_t (by rw [z1, z2]; exact c1) (g1 (v6_within_t (by rw [z1]; exact c2) (g1 (v6_within_f (by rw [z2]; exact c3) (g0 k)))))))))) (fun Q k => e4 _ (gt (by decide) (v7_noAxis_t hn h0 ca (g0 (v7_in_t (by rw [i2l_toInt, y1, y2]; exact c1) (g1 (v7_in_t (by rw [i2l_toInt, i2l_toInt, y1]; exact c2) (g1 (v7_in_f (by rw [i2l_toInt, i2l_toInt, y2]; exact c3) (g0 k)))))))))) (hK _ _ I.next)
    have p6 : ∀ Q : Int32 → xS → Prop, (if y = 0 then (wp_X6_setRegion_85 (nI g) (nI t) c x y z Q S) else (if 0 ≤ x then (wp_X6_setRegion_85 (nI g) (nI t) c x y z Q S) else (if z ≤ 0 then (wp_X6_setRegion_85 (nI g) (nI t) c x y z Q S) else (wp_X6_setRegion_82 Q S)))) → wp_X6_setRegion (nI g) (nI t) c x y z S Q := fun Q k => e3 _ (g0 (v6_hasAxis_t hn hS1 ca (g1 (v6_within_t (by rw [z1, z2]; exact c1) (g1 (v6_within_t (by rw [z1]; exact c2) (g1 (v6_within_t (by rw [z2]; exact c3) (g1 k)))))))))
    have p7 : ∀ Q : Int32 → xS → Prop, (if y = 0 then (wp_X7_setRegion_90 (nI g) (nI t) c x y z Q M) else (if 0 ≤ x then (wp_X7_setRegion_90 (nI g) (nI t) c x y z Q M) else (if z ≤ 0 then (wp_X7_setRegion_90 (nI g) (nI t) c x y z Q M) else (wp_X7_setRegion_87 Q M)))) → wp_X7_setRegion (nI g) (nI t) c x y z M Q := fun Q k => e4 _ (gt (by decide) (v7_noAxis_t hn h0 ca (g0 (v7_in_t (by rw [i2l_toInt, y1, y2]; exact c1) (g1 (v7_in_t (by rw [i2l_toInt, i2l_toInt, y1]; exact c2) (g1 (v7_in_t (by rw [i2l_toInt, i2l_toInt, y2]; exact c3) (g1 k)))))))))
    by_cases c4 : y = 0 ∨ 0 ≤ x ∨ z ≤ 0
    rotate_left
    · have q1 : ¬ y = 0 := fun h => c4 (Or.inl h)
      have q2 : ¬ 0 ≤ x := fun h => c4 (Or.inr (Or.inl h))
      have q3 : ¬ z ≤ 0 := fun h => c4 (Or.inr (Or.inr h))
      exact op_of (w6 := wp_X6_setRegion (nI g) (nI t) c x y z S) (w7 := wp_X7_setRegion (nI g) (nI t) c x y z M) (r := -1000005) (fun Q k => p6 Q (gf q1 (gf q2 (gf q3 k)))) (fun Q k => p7 Q (gf q1 (gf q2 (gf q3 k)))) (hK _ _ I.next)
    obtain ⟨d1, d2, d3⟩ := I.2.1.2.2.1 g hg
    have hg6 := I.2.1.1.1
    have hN := d2.2.1.1
    have hT := d2.2.2.2.1.1
    have hid := I.2.1.2.1.1 g (by omega) t (by omega)
    obtain ⟨v1, ⟨m, u1, u2, u3⟩, v3⟩ := d1.2.2.2.2.2.2.2.2 t ht
    obtain ⟨w1, w2, w3, w4, w5⟩ := d2.2.2.2.2.2.2 t ht
    obtain ⟨i, rfl, ei, hi⟩ := vv_nat ca.1
    have hi4 : i < 4 := by omega
    have tbl : tb t + 87 ≤ 511 := by unfold tb; omega
    have fin : Inv (n + 1) (xI (xI (xI S 24 (S.2.2 16 g t) i x) 25 (S.2.2 16 g t) i y) 26 (S.2.2 16 g t) i z) (rgM M g (tb t + 3 * i) x y z) := by
      refine I.tup hg ht (fun k hk => by rw [xI_k (by omega), xI_k (by omega), xI_k (by omega)]) rfl (fun k w hw => ?_) (fun k hk => by unfold rgM; rw [xI_k hk, xI_k hk, xI_k hk]) (fun w hw => ?_) ⟨fun a ha => ?_, ⟨m, ?_, u2, fun q hq => ?_⟩, fun q hq hf => ?_⟩ ⟨fun a ha => ?_, fun a ha hb => ?_, fun s h25 => ?_, fun s h1 h2 => ?_, fun h24 => ?_⟩ (fun s h25 hf => Or.inl ?_)
      · funext j
        rw [xI_1, if_neg (by omega), xI_1, if_neg (by omega), xI_1, if_neg (by omega)]
      · unfold rgM
        rw [xI_1, if_neg (by omega), xI_1, if_neg (by omega), xI_1, if_neg (by omega)]
      · rw [xI_k (k' := 24) (by omega), xI_k (k' := 24) (by omega), xI_k (k' := 25) (by omega), xI_1, xI_1 _ 25, xI_1 _ 26, xI_k (k' := 25) (by omega), xI_k (k' := 26) (by omega), xI_k (k' := 26) (by omega)]
        simp only [rg_row]
        by_cases ea : a = i
        · subst ea
          simp
        · rw [if_neg (by omega), if_neg (by omega), if_neg (by omega), if_neg (by omega), if_neg (by omega), if_neg (by omega), if_neg (by omega), if_neg (by omega), if_neg (by omega), if_neg (by omega), if_neg (by omega), if_neg (by omega)]
          exact v1 a ha
      · rw [xI_k (by omega), xI_k (by omega), xI_k (by omega)]; exact u1
      · unfold fl
        rw [rg_row, if_neg (by omega), if_neg (by omega), if_neg (by omega)]; exact u3 q hq
      · unfold fl at hf
        rw [rg_row, if_neg (by omega), if_neg (by omega), if_neg (by omega)] at hf
        unfold dlx dly
        rw [rg_row, if_neg (by omega), if_neg (by omega), if_neg (by omega), rg_row, if_neg (by omega), if_neg (by omega), if_neg (by omega), xI_k (by omega), xI_k (by omega), xI_k (by omega), xI_k (by omega), xI_k (by omega), xI_k (by omega)]
        exact v3 q hq hf
      · simp only [rg_row]
        by_cases ea : a = i
        · subst ea
          simp
          omega
        · rw [if_neg (by omega), if_neg (by omega), if_neg (by omega), if_neg (by omega), if_neg (by omega), if_neg (by omega), if_neg (by omega), if_neg (by omega), if_neg (by omega)]
          exact w1 a ha
      · simp only [rg_row]
        rw [if_neg (by omega), if_neg (by omega), if_neg (by omega), if_neg (by omega), if_neg (by omega), if_neg (by omega), if_neg (by omega), if_neg (by omega), if_neg (by omega)]
        exact w2 a ha hb
      · unfold fl
        rw [rg_row, if_neg (by omega), if_neg (by omega), if_neg (by omega)]; exact w3 s h25
      · unfold fl
        rw [rg_row, if_neg (by omega), if_neg (by omega), if_neg (by omega)]; exact w4 s h1 h2
      · unfold fl at h24
        unfold dly
        rw [rg_row, if_neg (by omega), if_neg (by omega), if_neg (by omega)] at h24 ⊢; exact w5 h24
      · unfold fl at hf ⊢
        unfold dlx dly
        rw [rg_row, if_neg (by omega), if_neg (by omega), if_neg (by omega)] at hf
        rw [rg_row, if_neg (by omega), if_neg (by omega), if_neg (by omega), rg_row, if_neg (by omega), if_neg (by omega), if_neg (by omega)]
        exact ⟨hf, rfl, rfl⟩
    have hv := v1 i hi4
    have q6 : ∀ (Q : Int32 → xS → Prop), Q (if mrow M g (tb t + 3 * i) = x ∧ mrow M g (tb t + 3 * i + 1) = y ∧ mrow M g (tb t + 3 * i + 2) = z then 0 else 1) (xI (xI (xI S 24 (S.2.2 16 g t) i x) 25 (S.2.2 16 g t) i y) 26 (S.2.2 16 g t) i z) → wp_X6_setRegion_85 (nI g) (nI t) (nI i) x y z Q S := by
      intro Q k
      unfold wp_X6_setRegion_85 wp_X6_setRegion_114 wp_X5_putRegion wp_X5_putRegion_31 wp_X5_putRegion_36
      have hin := vv_in (k := i) (N := 4) hi4 (by omega)
      refine ⟨vv_in (by omega) (by omega), ⟨vv_in (by omega) (by omega), ?_⟩, hin, ?_⟩
      · rw [vv_clI (by omega), vv_clI (by omega)]; omega
      · rw [vv_clI (k := g) (by omega), vv_clI (k := t) (by omega), vv_clI (k := i) (by omega), hv.1, hv.2.1, hv.2.2]
        by_cases k1 : mrow M g (tb t + 3 * i) = x
        · refine gt k1 ⟨hin, ?_⟩
          by_cases k2 : mrow M g (tb t + 3 * i + 1) = y
          · refine gt k2 ⟨hin, ?_⟩
            by_cases k3 : mrow M g (tb t + 3 * i + 2) = z
            · rw [if_pos ⟨k1, k2, k3⟩] at k
              exact gt k3 ⟨hin, hin, hin, Or.inl rfl, g0 k⟩
            · rw [if_neg (fun h => k3 h.2.2)] at k
              exact gf k3 ⟨hin, hin, hin, Or.inr rfl, g1 k⟩
          · rw [if_neg (fun h => k2 h.2.1)] at k
            exact gf k2 ⟨hin, hin, hin, Or.inr rfl, g1 k⟩
        · rw [if_neg (fun h => k1 h.1)] at k
          exact gf k1 ⟨hin, hin, hin, Or.inr rfl, g1 k⟩
    have q7 : ∀ (Q : Int32 → xS → Prop), Q (if mrow M g (tb t + 3 * i) = x ∧ mrow M g (tb t + 3 * i + 1) = y ∧ mrow M g (tb t + 3 * i + 2) = z then 0 else 1) (rgM M g (tb t + 3 * i) x y z) → wp_X7_setRegion_90 (nI g) (nI t) (nI i) x y z Q M := by
      intro Q k
      unfold wp_X7_setRegion_90 wp_X7_setRegion_140 wp_X7_tupleAt
      have o0 : (76 : Int32) + 87 * nI t + 3 * nI i = nI (tb t + 3 * i) := by simp only [nl76, nl87, nl3, vv_mul, nI_add]; rfl
      have o1 : (76 : Int32) + 87 * nI t + 3 * nI i + 1 = nI (tb t + 3 * i + 1) := by rw [o0, nI_1]
      have o2 : (76 : Int32) + 87 * nI t + 3 * nI i + 2 = nI (tb t + 3 * i + 2) := by rw [o0, nl2, nI_add]
      have last : ∀ s0 : Int32, Q s0 (rgM M g (tb t + 3 * i) x y z) → wp_X7_setRegion_145 (nI g) x y z Q M (76 + 87 * nI t + 3 * nI i) s0 := fun s0 k => v7_put rfl o0 (by omega) (by omega) (v7_put rfl o1 (by omega) (by omega) (v7_put rfl o2 (by omega) (by omega) k))
      refine v7_of rfl o0 (by omega) (by omega) ?_
      by_cases k1 : mrow M g (tb t + 3 * i) = x
      · refine gt k1 (v7_of rfl o1 (by omega) (by omega) ?_)
        by_cases k2 : mrow M g (tb t + 3 * i + 1) = y
        · refine gt k2 (v7_of rfl o2 (by omega) (by omega) ?_)
          by_cases k3 : mrow M g (tb t + 3 * i + 2) = z
          · rw [if_pos ⟨k1, k2, k3⟩] at k
            exact gt k3 (last _ k)
          · rw [if_neg (fun h => k3 h.2.2)] at k
            exact gf k3 (last _ k)
        · rw [if_neg (fun h => k2 h.2.1)] at k
          exact gf k2 (last _ k)
      · rw [if_neg (fun h => k1 h.1)] at k
        exact gf k1 (last _ k)
    refine op_of (w6 := wp_X6_setRegion (nI g) (nI t) (nI i) x y z S) (w7 := wp_X7_setRegion (nI g) (nI t) (nI i) x y z M) (r := if mrow M g (tb t + 3 * i) = x ∧ mrow M g (tb t + 3 * i + 1) = y ∧ mrow M g (tb t + 3 * i + 2) = z then 0 else 1) (fun Q k => p6 Q ?_) (fun Q k => p7 Q ?_) (hK _ _ fin)
    · have := q6 Q k
      by_cases k1 : y = 0
      · exact gt k1 this
      · refine gf k1 ?_
        by_cases k2 : 0 ≤ x
        · exact gt k2 this
        · exact gf k2 (gt (c4.resolve_left k1 |>.resolve_left k2) this)
    · have := q7 Q k
      by_cases k1 : y = 0
      · exact gt k1 this
      · refine gf k1 ?_
        by_cases k2 : 0 ≤ x
        · exact gt k2 this
        · exact gf k2 (gt (c4.resolve_left k1 |>.resolve_left k2) this)
end REGION
