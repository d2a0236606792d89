theorem w1_appendComp {S : xS} {G N : Nat} {ch x y : Int32} {Q : Int32 → xS → Prop} (e : S.1 1 G 1 = nI N) (hN : N < 4)
    (k : Q (nI N) (xI (xI (xI (xI S 1 G 1 (nI (N + 1))) 12 G (N + 1) x) 13 G (N + 1) y) 15 G (N + 1) ch)) : wp_X1_appendComponent G ch x y S Q := by
  have hin := vv_in (k := N + 1) (N := 25) (by omega) (by omega)
  have c1 : (xI S 1 G 1 (nI (N + 1))).1 1 G 1 = nI (N + 1) := xI_s _ _ _ _ _
  have c2 : (xI (xI S 1 G 1 (nI (N + 1))) 12 G (N + 1) x).1 1 G 1 = nI (N + 1) := by rw [xI_k (by omega)]; exact c1
  have c3 : (xI (xI (xI S 1 G 1 (nI (N + 1))) 12 G (N + 1) x) 13 G (N + 1) y).1 1 G 1 = nI (N + 1) := by rw [xI_k (by omega)]; exact c2
  have c4 : ∀ v, (xI (xI (xI (xI S 1 G 1 (nI (N + 1))) 12 G (N + 1) x) 13 G (N + 1) y) 15 G (N + 1) v).1 1 G 1 = nI (N + 1) := fun v => by rw [xI_k (by omega)]; exact c3
  unfold wp_X1_appendComponent wp_X1_appendPlace
  rw [e, nI_1, c1, vv_clI (k := N + 1) (by omega), c2, vv_clI (k := N + 1) (by omega)]
  refine ⟨hin, hin, ?_⟩
  dsimp only
  rw [c3, vv_clI (k := N + 1) (by omega), c4, nI_s1 (by omega) (by omega), Nat.add_sub_cancel]
  exact ⟨vv_in (by omega) (by omega), k⟩
theorem op_addComponent {n : Nat} {S M : xS} {K : xS → xS → Prop} (I : Inv n S M) (hn : n ≤ 600) (a c x y : Int32) (hK : ∀ S' M', Inv (n + 1) S' M' → K S' M') :
    wp_X6_addComponent a c x y S (fun r1 S1 => wp_X7_addComponent a c x y M (fun r2 M1 => if r1 = r2 then K S1 M1 else False)) := by
  obtain ⟨⟨b1, b2, b3⟩, b4, b5, b6⟩ := I.2.1
  have hS1 := b3.trans b2
  have z0 : (0 : Int32).toInt = 0 := rfl
  have y0 : (0 : Int64).toInt = 0 := rfl
  by_cases ca : 0 ≤ a.toInt ∧ a.toInt < cntM M 9
  rotate_left
  · exact op_of (w6 := wp_X6_addComponent a c x y S) (w7 := wp_X7_addComponent a c x y M) (r := -1000002) (fun Q k => v6_hasGlyph_f b1 hS1 ca (g0 k)) (fun Q k => v7_noGlyph_f b1 b2 ca (g1 k)) (hK _ _ I.next)
  obtain ⟨g, rfl, eg, hgg⟩ := vv_nat ca.1
  have hg : g < cntM M 9 := by omega
  obtain ⟨d1, d2, d3⟩ := b5 g hg
  have hin := vv_in (k := g) (N := 6) (by omega) (by omega)
  by_cases cc : 0 ≤ c.toInt ∧ c.toInt ≤ (g : Int) - 1
  rotate_left
  · refine op_of (w6 := wp_X6_addComponent (nI g) c x y S) (w7 := wp_X7_addComponent (nI g) c x y M) (r := -1000002) (fun Q k => v6_hasGlyph_t b1 hS1 hg (g1 ?_)) (fun Q k => v7_noGlyph_t b1 b2 hg (g0 (v7_in_f (by rw [l64_sub1 (by omega), y0, i2l_toInt]; exact cc) (g0 k)))) (hK _ _ I.next)
    by_cases c0 : c < 0
    · exact gt c0 k
    · rw [i32_lt, z0] at c0
      exact gf (by rw [i32_lt, z0]; exact c0) (gf (by rw [i32_lt, eg]; omega) k)
  obtain ⟨ch, rfl, ec, hcc⟩ := vv_nat cc.1
  have hch : ch < g := by omega
  have q0 : ¬ nI ch < 0 := by rw [nl0, vv_lt (by omega) (by omega)]; omega
  have q1 : nI ch < nI g := by rw [vv_lt (by omega) (by omega)]; exact hch
  have q2 : (0 : Int64).toInt ≤ (Int32.toInt64 (nI ch)).toInt ∧ (Int32.toInt64 (nI ch)).toInt ≤ ((Int32.toInt64 (nI g)) - 1).toInt := by rw [l64_sub1 (by omega), y0, i2l_toInt]; exact cc
  by_cases cp : rng x (-4000) 4000 ∧ rng y (-4000) 4000
  rotate_left
  · exact op_of (w6 := wp_X6_addComponent (nI g) (nI ch) x y S) (w7 := wp_X7_addComponent (nI g) (nI ch) x y M) (r := -1000005) (fun Q k => v6_hasGlyph_t b1 hS1 hg (g1 (gf q0 (gt q1 (v6_isPosition_f cp (g0 k)))))) (fun Q k => v7_noGlyph_t b1 b2 hg (g0 (v7_in_t q2 (g1 (v7_isPlace_f cp (g0 k)))))) (hK _ _ I.next)
  have hG : ∀ z, z < cntM M 9 → GlRel S z (mrow M z) ∧ RowOk (cntM M 0) z (mrow M z) := fun z hz => ⟨(b5 z hz).1, (b5 z hz).2.1⟩
  have hR : ∀ z, z < cntM M 9 → RowOk (cntM M 0) z (mrow M z) := fun z hz => (b5 z hz).2.1
  by_cases c0 : mrow M g 0 = 0
  · refine op_of (w6 := wp_X6_addComponent (nI g) (nI ch) x y S) (w7 := wp_X7_addComponent (nI g) (nI ch) x y M) (r := -1000007) (fun Q k => v6_hasGlyph_t b1 hS1 hg (g1 (gf q0 (gt q1 (v6_isPosition_t cp.1 cp.2 (g1 ⟨hin, gt ?_ k⟩)))))) (fun Q k => v7_noGlyph_t b1 b2 hg (g0 (v7_in_t q2 (g1 (v7_isPlace_t cp.1 cp.2 (g1 (v7_of rfl nl0 (by omega) (by omega) (gt c0 k)))))))) (hK _ _ I.next)
    rw [vv_clI (by omega), d1.1]; exact c0
  have c1 : mrow M g 0 = 1 := d2.1.resolve_left c0
  rcases Classical.em (prtV M (cntM M 9) g) with hp | hp
  · refine op_of (w6 := wp_X6_addComponent (nI g) (nI ch) x y S) (w7 := wp_X7_addComponent (nI g) (nI ch) x y M) (r := -1000007) (fun Q k => v6_hasGlyph_t b1 hS1 hg (g1 (gf q0 (gt q1 (v6_isPosition_t cp.1 cp.2 (g1 ⟨hin, gf ?_ (w6_isComponent b1 hS1 hg hG (fun _ => g1 k) (fun h => absurd hp h))⟩)))))) (fun Q k => v7_noGlyph_t b1 b2 hg (g0 (v7_in_t q2 (g1 (v7_isPlace_t cp.1 cp.2 (g1 (v7_of rfl nl0 (by omega) (by omega) (gf c0 (w7_isPart b1 b2 hg hR (fun _ => g1 k) (fun h => absurd hp h)))))))))) (hK _ _ I.next)
    rw [vv_clI (by omega), d1.1]; exact c0
  have hN := d2.2.1.1
  have hN4 := d2.2.2.1 c1
  have hch9 : ch < cntM M 9 := by omega
  obtain ⟨o1, o2, o3, o4, o5⟩ := dwA_ok I hn hg
  obtain ⟨x1, x2, x3⟩ := drawn_ctx I hn
  refine v6_hasGlyph_t b1 hS1 hg (g1 (gf q0 (gt q1 (v6_isPosition_t cp.1 cp.2 (g1 ⟨hin, gf (by rw [vv_clI (by omega), d1.1]; exact c0) (w6_isComponent b1 hS1 hg hG (fun h => absurd h hp) (fun _ => g0 (drawn_6 I hn hg (fun S1 hO1 _ => ?_))))⟩)))))
  have I1 : Inv n S1 M := I.sc0 hO1.sc (ScM.refl M)
  obtain ⟨r1, r2, r3, r4, r5⟩ := dwA_ok I1 hn hch9
  refine drawn_6 I1 hn hch9 (fun S2 hO2 _ => ⟨hin, ?_⟩)
  have I2 : Inv n S2 M := I1.sc0 hO2.sc (ScM.refl M)
  have eN : S2.1 1 g 1 = nI (rN (mrow M g)) := by rw [hO2.1 1 (by omega) (by omega), hO1.1 1 (by omega) (by omega)]; exact d1.2.1.trans d2.2.1.2
  rw [vv_clI (k := g) (by omega), eN, hO1.2.2.2.1, hO2.2.2.2.1, nI_add, o4, r4]
  have p7 : ∀ Q : Int32 → xS → Prop, (∀ M', CtM M M' (cntM M 9) → (if mrow M g 2 = 4 then Q (-1000006) M' else if nI (ptsOf M 7 g + ptsOf M 7 ch) ≤ 96 then wp_X7_addPlace (nI g) x y (nI ch) M' (fun r18 S17 => Q r18 S17) else Q (-1000006) M')) → wp_X7_addComponent (nI g) (nI ch) x y M Q := fun Q k => by
    refine v7_noGlyph_t b1 b2 hg (g0 (v7_in_t q2 (g1 (v7_isPlace_t cp.1 cp.2 (g1 (v7_of rfl nl0 (by omega) (by omega) (gf c0 (w7_isPart b1 b2 hg hR (fun h => absurd h hp) (fun _ => g0 (w7_counts b1 b2 hR (fun M' hM => v7_of rfl nl2 (by omega) (by omega) ?_)))))))))))
    have er : mrow M' g = mrow M g := by unfold mrow; rw [hM.1 11 (by omega) (by omega)]
    have k := k M' hM
    rw [er]
    by_cases c4 : mrow M g 2 = 4
    · rw [if_pos c4] at k; exact gt c4 k
    · rw [if_neg c4] at k
      refine gf c4 ⟨hin, vv_in (by omega) (by omega), ?_⟩
      rw [vv_clI (k := g) (by omega), vv_clI (k := ch) (by omega), (hM.2.2 g hg).1, (hM.2.2 ch hch9).1, nI_add]
      exact k
  have e2 : mrow M g 2 = nI (rN (mrow M g)) := d2.2.1.2
  have l1 := (x3 g hg).1
  have l2 := (x3 ch hch9).1
  by_cases c4 : rN (mrow M g) = 4
  · refine gt (by rw [nl4, vv_le (by omega) (by omega)]; omega) (p7 _ (fun M' hM => gt (by rw [e2, c4]; rfl) (gt rfl (hK _ _ ((I2.sc0 (ScS.refl S2) hM.sc).next)))))
  refine gf (by rw [nl4, vv_le (by omega) (by omega)]; omega) ?_
  have n4 : ¬ mrow M g 2 = 4 := by rw [e2, nl4, vv_eq (by omega) (by omega)]; exact c4
  by_cases cl : ptsOf M 7 g + ptsOf M 7 ch ≤ 96
  rotate_left
  · have hc : ¬ nI (ptsOf M 7 g + ptsOf M 7 ch) ≤ 96 := by rw [nl96, vv_le (by omega) (by omega)]; exact cl
    exact gf hc (p7 _ (fun M' hM => gf n4 (gf hc (gt rfl (hK _ _ ((I2.sc0 (ScS.refl S2) hM.sc).next))))))
  have hc : nI (ptsOf M 7 g + ptsOf M 7 ch) ≤ 96 := by rw [nl96, vv_le (by omega) (by omega)]; exact cl
  refine gt hc ⟨hin, w1_appendComp eN (by omega) (p7 _ (fun M1 hM => gf n4 (gt hc ?_)))⟩
  have I3 : Inv n S2 M1 := I2.sc0 (ScS.refl S2) hM.sc
  have er : ∀ z, mrow M1 z = mrow M z := fun z => by unfold mrow; rw [hM.1 11 (by omega) (by omega)]
  have e9 : cntM M1 9 = cntM M 9 := by unfold cntM; rw [hM.1 0 (by omega) (by omega)]
  have hT := d2.2.2.2.1.1
  refine w7_addPlace (N := rN (mrow M g)) (T := rT (mrow M g)) (by omega) (by rw [er]; exact e2) (by omega) (by rw [er]; exact d2.2.2.2.1.2) hT (fun t ht => by rw [er]; exact (d2.2.2.2.2.2.2 t ht).2.2.2.1 _ (Nat.le_refl _) (by omega)) (fun M' m1 m2 m3 => gt rfl (hK _ _ ?_))
  rw [er] at m3
  have m3' : mrow M' g = apR (mrow M g) (rN (mrow M g)) x y (nI ch) := funext m3
  have hp1 : ¬ prtV M1 (cntM M1 9) g := by unfold prtV; simp only [er, e9]; exact hp
  refine place_inv I3 (g := g) (N := rN (mrow M g)) (x := x) (y := y) (th := nI ch) (by rw [e9]; exact hg) (by rw [er]) (by omega) (fun _ => by omega) cp.1 cp.2 (fun h => by rw [er] at h; exact absurd h c0) (fun _ => ⟨ch, rfl, hch⟩) hp1
    (fun k hk => by rw [xI_k (by omega), xI_k (by omega), xI_k (by omega), xI_k (by omega)]) rfl (fun k z hz => ?_) ?_ (fun j hj => ?_) (fun k j hk hj => ?_) ?_ ?_ (fun h => by rw [er] at h; exact absurd h c0) (fun _ => xI_s _ _ _ _ _) (fun k hk => m1 k (by unfold kM at hk; omega)) m2 (by rw [er]; exact m3) ?_
  · funext w
    rw [xI_1, if_neg (by omega), xI_1, if_neg (by omega), xI_1, if_neg (by omega), xI_1, if_neg (by omega)]
  · rw [xI_k (by omega), xI_k (by omega), xI_k (by omega), xI_s]
  · rw [xI_k (by omega), xI_k (by omega), xI_k (by omega), xI_1, if_neg (by omega)]
  · rw [xI_1, if_neg (by omega), xI_1, if_neg (by omega), xI_1, if_neg (by omega), xI_1, if_neg (by omega)]
  · rw [xI_k (by omega), xI_k (by omega), xI_s]
  · rw [xI_k (by omega), xI_s]
  · have hR1 : ∀ z, z < cntM M1 9 → RowOk (cntM M 0) z (mrow M1 z) := fun z hz => by rw [e9] at hz; rw [er]; exact hR z hz
    have a0 : mrow M' g 0 = 1 := by rw [m3']; unfold apR; rw [if_neg (by omega), if_neg (by omega), if_neg (by omega), if_neg (by omega)]; exact c1
    have aN : rN (mrow M' g) = rN (mrow M g) + 1 := by rw [m3']; unfold rN apR; rw [if_pos rfl, vv_clI (by unfold rN at hN; omega)]
    have ac : ∀ i, i < rN (mrow M g) → chd M' g i = chd M g i := fun i hi => by
      unfold chd
      rw [m3']
      unfold apR
      rw [if_neg (by omega), if_neg (by omega), if_neg (by omega), if_neg (by omega)]
    have al : chd M' g (rN (mrow M g)) = ch := by
      unfold chd
      rw [m3']
      unfold apR
      rw [if_neg (by omega), if_neg (by omega), if_neg (by omega), if_pos rfl, vv_clI (by omega)]
    have oth : ∀ z, z < cntM M 9 → z ≠ g → ptsOf M' 5 z = ptsOf M 5 z := fun z hz hzg => by
      rw [ptsOf_other (M := M1) (ng := cntM M 9) b1 (fun z hz => hR1 z (by rw [e9]; exact hz)) (by rw [e9] at hp1; exact hp1) m2 5 z hz hzg]
      exact ptsOf_fr (hM.1 11 (by omega) (by omega)) 5 z
    have f5 : ∀ z, z < g → ptsOf M 5 z = ptsOf M 7 z := fun z hz => by
      have e1 := (fuel_s b1 hR 5 z (by omega) (by omega)).1
      have e2 := (fuel_s b1 hR 6 z (by omega) (by omega)).1
      exact e1.symm.trans e2.symm
    have e7 : ptsOf M 7 g = ptsOf M 6 g := (x3 g hg).2.1
    have p6 := ptsOf_s M 5 g
    rw [if_pos c1] at p6
    have p6' := ptsOf_s M' 5 g
    rw [if_pos a0, aN] at p6'
    have s1 : sumR (fun c => ptsOf M' 5 (chd M' g c)) (rN (mrow M g) + 1) = sumR (fun c => ptsOf M' 5 (chd M' g c)) (rN (mrow M g)) + ptsOf M' 5 (chd M' g (rN (mrow M g))) := rfl
    have s2 : sumR (fun c => ptsOf M' 5 (chd M' g c)) (rN (mrow M g)) = sumR (fun c => ptsOf M 5 (chd M g c)) (rN (mrow M g)) := sumR_congr _ (fun i hi => by
      show ptsOf M' 5 (chd M' g i) = ptsOf M 5 (chd M g i)
      have := (chd_lt (by omega) d2 c1 hi).1
      rw [ac i hi, oth _ (by omega) (by omega)])
    have s3 : ptsOf M' 5 (chd M' g (rN (mrow M g))) = ptsOf M 7 ch := by rw [al, oth _ hch9 (by omega), f5 _ hch]
    have p6'' : ptsOf M' 6 g = sumR (fun c => ptsOf M' 5 (chd M' g c)) (rN (mrow M g) + 1) := p6'
    have p66 : ptsOf M 6 g = sumR (fun c => ptsOf M 5 (chd M g c)) (rN (mrow M g)) := p6
    omega
