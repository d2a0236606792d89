theorem sum_le {f f' : Nat → Nat} : ∀ b a, a ≤ b → (∀ c, c < a → f' c ≤ f c) → ((List.range a).map f').sum ≤ ((List.range b).map f).sum
  | 0, a, h, _ => by rw [show a = 0 by omega]; exact Nat.le_refl _
  | b + 1, a, h, h2 => by
    rw [List.range_succ, List.map_append, List.sum_append]
    by_cases e : a = b + 1
    · subst e
      rw [List.range_succ, List.map_append, List.sum_append]
      have i1 := sum_le (f := f) (f' := f') b b (Nat.le_refl _) (fun c hc => h2 c (by omega))
      have i2 := h2 b (by omega)
      simp only [List.map_cons, List.map_nil, List.sum_cons, List.sum_nil]
      omega
    · have i1 := sum_le (f := f) (f' := f') b a (by omega) h2
      omega
theorem ptsOf_pre {M M' : xS} {N na : Nat} (hN : N ≤ 6) (hR : ∀ g, g < N → RowOk na g (mrow M g)) (hE : ∀ g, g < N → pre (mrow M' g) (mrow M g)) : ∀ f g, g < N → ptsOf M' f g ≤ ptsOf M f g
  | 0, _, _ => Nat.le_refl _
  | f + 1, g, hg => by
    obtain ⟨e1, e2, e3⟩ := hE g hg
    show (if mrow M' g 0 = 1 then ((List.range (rN (mrow M' g))).map (fun c => ptsOf M' f (mrow M' g (52 + c)).toNatClampNeg)).sum else rN (mrow M' g)) ≤ (if mrow M g 0 = 1 then ((List.range (rN (mrow M g))).map (fun c => ptsOf M f (mrow M g (52 + c)).toNatClampNeg)).sum else rN (mrow M g))
    rw [e1]
    by_cases c0 : mrow M g 0 = 1
    · rw [if_pos c0, if_pos c0]
      refine sum_le _ _ e2 (fun c hc => ?_)
      obtain ⟨h, q1, q2⟩ := (hR g hg).2.2.2.2.2.1 c0 c (by omega)
      rw [e3 c hc, q1, vv_clI (by omega)]
      exact ptsOf_pre hN hR hE f h (by omega)
    · rw [if_neg c0, if_neg c0]; exact e2
theorem w7_undo {M : xS} {g d : Nat} {Q : Int32 → xS → Prop} (hg : g < 6) (hd : d < 6) (h23 : M.1 0 0 23 = nI d) (h25 : M.1 25 0 d = nI g)
    (k : ∀ M', (∀ k, k ≠ 11 → M'.1 k = M.1 k) → (∀ z y, z ≠ g → y < 511 → mrow M' z y = mrow M z y) → (∀ x, x < 511 → mrow M' g x = krow M d x) → Q (nI g) M') : ∃ n, wp_X7_undo_23 Q n M 0 := by
  refine wl1 (wp_X7_undo_23 Q) (fun K => wp_X7_undo_23_b K Q) (fun _ _ _ => rfl)
    (fun M' v => ∃ j, j ≤ 511 ∧ v = nI j ∧ (∀ k, k ≠ 11 → M'.1 k = M.1 k) ∧ (∀ z y, z ≠ g → y < 511 → mrow M' z y = mrow M z y) ∧ (∀ x, x < j → mrow M' g x = krow M d x))
    (fun _ v => 511 - v.toNatClampNeg) ⟨0, by omega, rfl, fun _ _ => rfl, fun _ _ _ _ => rfl, fun x h => by omega⟩ ?_
  rintro M' v K ⟨j, hj, rfl, h1, h2, h3⟩ hK
  have e : M'.1 0 0 23 = nI d := by rw [h1 0 (by omega)]; exact h23
  have e25 : M'.1 25 0 d = nI g := by rw [h1 25 (by omega)]; exact h25
  unfold wp_X7_undo_23_b
  rw [e, vv_clI (k := d) (by omega), e25]
  by_cases c : j = 511
  · subst c
    exact gt (by rw [nl511, vv_le (by omega) (by omega)]; omega) ⟨vv_in hd (by omega), k M' h1 h2 h3⟩
  · refine gf (by rw [nl511, vv_le (by omega) (by omega)]; omega) ⟨vv_in hd (by omega), ?_⟩
    rw [nl511, vv_mul, nI_add, vv_clI (k := 511 * d + j) (by omega), nI_1]
    refine ⟨vv_in (by omega) (by omega), v7_put rfl rfl hg (by omega) (hK _ _ ⟨j + 1, by omega, rfl, fun k hk => by rw [xI_k hk]; exact h1 k hk, fun z y hz hy => by rw [mrow_put_ne M' _ hz (by omega) hy]; exact h2 z y hz hy, fun x hx => ?_⟩ (by rw [vv_clI (by omega), vv_clI (by omega)]; omega))⟩
    rw [mrow_put]
    by_cases ex : x = j
    · rw [if_pos ex, h1 26 (by omega), ex]; rfl
    · rw [if_neg ex]; exact h3 x (by omega)
theorem op_undo {n : Nat} {S M : xS} {K : xS → xS → Prop} (I : Inv n S M) (hK : ∀ S' M', Inv (n + 1) S' M' → K S' M') :
    wp_X6_undo S (fun r1 S1 => wp_X7_undo M (fun r2 M1 => if r1 = r2 then K S1 M1 else False)) := by
  obtain ⟨a1, ⟨⟨b1, b2, b3⟩, b4, b5, b6⟩, ⟨⟨c1, c2, c3⟩, c4⟩, a4, a5, ⟨a6, a7, a8⟩⟩ := id I
  have hS1 := b3.trans b2
  have hS2 := c3.trans c2
  unfold wp_X6_undo wp_X7_undo wp_X6_undo_75
  rw [hS2, c2]
  by_cases c0 : cntM M 23 = 0
  · refine gf (by rw [nl0, vv_lt (by omega) (by omega)]; omega) (gt (by rw [c0]; rfl) (ge (hK _ _ I.next)))
  refine gt (by rw [nl0, vv_lt (by omega) (by omega)]; omega) ?_
  rw [nI_s1 (by omega) (by omega), xI_s, vv_clI (k := cntM M 23 - 1) (by omega), xI_k (k' := 17) (by omega)]
  obtain ⟨g, y1, y2, y3, y4, y5, y6⟩ := c4 (cntM M 23 - 1) (by omega)
  have hst := b4.2.2.1 (cntM M 23 - 1) (by omega)
  have hin := vv_in (k := cntM M 23 - 1) (N := 6) (by omega) (by omega)
  rw [y2, vv_clI (k := g) (by omega)]
  refine ⟨hin, v6_hasGlyph_t b1 (by rw [xI_k (by omega)]; exact hS1) y3 (g1 ⟨vv_in (by omega) (by omega), ?_⟩)⟩
  rw [xI_s, vv_clI (k := cntM M 23 - 1) (by omega)]
  refine ⟨⟨hin, hst.2⟩, ?_⟩
  have hG' : GlRel (xI S 2 0 0 (nI (cntM M 23 - 1))) (S.2.2 18 0 (cntM M 23 - 1)) (krow M (cntM M 23 - 1)) := y4.fr y5.2.1.1 y5.2.2.2.1.1 (fun k hk => by rw [xI_k (by omega)]) (fun _ _ => rfl) (fun _ _ k hk => by rw [xI_k (by omega)]) (fun _ _ => rfl)
  refine w1_copy (na := cntM M 0) (gi := g) (by omega) hst.2 (show S.2.2 18 0 (cntM M 23 - 1) ≠ g by omega) hG' y5 ⟨fun j hj => b4.1 g (by omega) j hj, fun i j hi hj q => b4.2.1 g (by omega) i j hi hj q⟩ ⟨fun j hj => b4.1 _ hst.2 j hj, fun i j hi hj q => b4.2.1 _ hst.2 i j hi hj q⟩ (fun S' f1 f2 f3 => ?_)
  refine gf (by rw [nl0, vv_eq (by omega) (by omega)]; omega) (w7_undo (g := g) (d := cntM M 23 - 1) (by omega) (by omega) (xI_s _ _ _ _ _) (by rw [xI_k (by omega)]; exact y1) (fun M' p1 p2 p3 => ge (hK _ _ ?_)))
  have m0 : ∀ j, j ≠ 23 → M'.1 0 0 j = M.1 0 0 j := fun j hj => by rw [p1 0 (by omega), xI_1, if_neg (by omega)]
  have m23 : M'.1 0 0 23 = nI (cntM M 23 - 1) := by rw [p1 0 (by omega), xI_s]
  have mk : ∀ k, k ≠ 0 → k ≠ 11 → M'.1 k = M.1 k := fun k h1 h2 => by rw [p1 k h2, xI_k h1]
  have mz : ∀ z y, z ≠ g → y < 511 → mrow M' z y = mrow M z y := fun z y hz hy => by rw [p2 z y hz hy]; unfold mrow; rw [xI_k (by omega)]
  have mg : ∀ x, x < 511 → mrow M' g x = krow M (cntM M 23 - 1) x := fun x hx => by rw [p3 x hx]; unfold krow; rw [xI_k (by omega)]
  have e0 : cntM M' 0 = cntM M 0 := by unfold cntM; rw [m0 0 (by omega)]
  have e9 : cntM M' 9 = cntM M 9 := by unfold cntM; rw [m0 9 (by omega)]
  have e23 : cntM M' 23 = cntM M 23 - 1 := by
    show (M'.1 0 0 23).toNatClampNeg = _
    rw [m23, vv_clI (by omega)]
  have ek : ∀ k, krow M' k = krow M k := fun k => by unfold krow; rw [mk 26 (by omega) (by omega)]
  have sk : ∀ k, k ≠ 2 → ¬ kG k → S'.1 k = S.1 k := fun k h2 hk => by rw [f1.1 k hk, xI_k h2]
  have nk : ∀ k, k = 0 ∨ k = 3 ∨ k = 6 ∨ k = 10 ∨ k = 11 ∨ k = 17 ∨ k = 19 ∨ k = 30 ∨ k = 33 → S'.1 k = S.1 k := fun k hk => sk k (by omega) (by unfold kG; omega)
  have s2 : S'.1 2 0 0 = nI (cntM M 23 - 1) := by rw [f1.1 2 (by unfold kG; omega), xI_s]
  have s22 : S'.2.2 = S.2.2 := by rw [f2]; rfl
  have s1z : ∀ k z, k = 1 ∨ 12 ≤ k ∧ k ≤ 15 → z ≠ g → S'.1 k z = S.1 k z := fun k z hk hz => by rw [f1.2.1 k z hk hz, xI_k (by omega)]
  have s5z : ∀ k z, k = 5 ∨ 24 ≤ k ∧ k ≤ 28 → z < 5 * g ∨ 5 * g + 5 ≤ z → S'.1 k z = S.1 k z := fun k z hk hz => by rw [f1.2.2.1 k z hk hz, xI_k (by omega)]
  have glf : ∀ {G : Nat} {r r' : Nat → Int32}, G < 12 → G ≠ g → GlRel S G r → rN r ≤ 24 → rT r ≤ 5 → (∀ x, x < 511 → r' x = r x) → GlRel S' G r' := by
    intro G r r' hG12 hne h hn hT hr
    have hid := fun t (ht : t < 5) => b4.1 G hG12 t ht
    exact h.fr hn hT (fun k hk => s1z k G hk hne) (fun t _ => by rw [s22]) (fun t ht k hk => s5z k _ hk (by have := hid t ht; omega)) hr
  have pr : ∀ z, z < cntM M 9 → pre (mrow M' z) (mrow M z) := by
    intro z hz
    by_cases ez : z = g
    · subst ez
      have hN := y5.2.1.1
      refine pre_trans ⟨mg 0 (by omega), Nat.le_of_eq (rN_fr (mg 2 (by omega))), fun c hc => mg _ (by rw [rN_fr (mg 2 (by omega))] at hc; omega)⟩ (a7 _ z (by omega) y1 y3)
    · have hN := (b5 z hz).2.1.2.1.1
      exact ⟨mz z 0 ez (by omega), Nat.le_of_eq (rN_fr (mz z 2 ez (by omega))), fun c hc => mz z _ ez (by rw [rN_fr (mz z 2 ez (by omega))] at hc; omega)⟩
  refine ⟨a1.fr (fun k hk => nk k (by omega)) (by rw [nk 6 (by omega)]) (fun k h1 h2 => mk k (by omega) (by omega)) (m0 0 (by omega)), ⟨⟨by rw [e9]; exact b1, by rw [m0 9 (by omega), e9]; exact b2, by rw [nk 6 (by omega), m0 9 (by omega)]; exact b3⟩, b4.fr (by rw [s22]) (by rw [s22]), fun z hz => ?_, fun z hz hz6 => ?_⟩,
    ⟨⟨by rw [e23]; omega, by rw [m23, e23], by rw [s2, m23]⟩, fun i hi => ?_⟩, a4.fr (by rw [nk 6 (by omega)]) (nk 33 (by omega)) (mk 34 (by omega) (by omega)) (m0 32 (by omega)), a5.fr (by rw [nk 3 (by omega)]) (nk 19 (by omega)) (mk 36 (by omega) (by omega)) (m0 34 (by omega)), ⟨fun z hz => ?_, fun i x hi hx hx9 => ?_, fun i j hij hj q => ?_⟩⟩
  · rw [e9] at hz
    rw [e0]
    by_cases ez : z = g
    · subst ez
      exact ⟨f3.fr y5.2.1.1 y5.2.2.2.1.1 (fun _ _ => rfl) (fun _ _ => rfl) (fun _ _ _ _ => rfl) mg, y5.fr (Nat.le_refl _) mg, y6.fr (PN_le n) y5.2.1.1 y5.2.2.2.1.1 mg⟩
    · obtain ⟨x1, x2, x3⟩ := b5 z hz
      exact ⟨glf (by omega) ez x1 x2.2.1.1 x2.2.2.2.1.1 (fun x hx => mz z x ez hx), x2.fr (Nat.le_refl _) (fun x hx => mz z x ez hx), x3.fr (PN_le n) x2.2.1.1 x2.2.2.2.1.1 (fun x hx => mz z x ez hx)⟩
  · rw [e9] at hz
    have ez : z ≠ g := by omega
    rw [s1z 1 z (by omega) ez, s1z 13 z (by omega) ez, mz z 2 ez (by omega), mz z 3 ez (by omega)]
    exact b6 z hz hz6
  · rw [e23] at hi
    obtain ⟨x, z1, z2, z3, z4, z5, z6⟩ := c4 i (by omega)
    have hst2 := b4.2.2.1 i (by omega)
    refine ⟨x, by rw [mk 25 (by omega) (by omega)]; exact z1, by rw [nk 17 (by omega)]; exact z2, by rw [e9]; exact z3, ?_, by rw [e0, ek]; exact z5, by rw [ek]; exact z6.fr (PN_le n) z5.2.1.1 z5.2.2.2.1.1 (fun _ _ => rfl)⟩
    rw [s22, ek]
    exact glf hst2.2 (by omega) z4 z5.2.1.1 z5.2.2.2.1.1 (fun _ _ => rfl)
  · rw [e9] at hz
    exact Nat.le_trans (ptsOf_pre b1 (fun z hz => (b5 z hz).2.1) pr 6 z hz) (a6 z hz)
  · rw [e23] at hi
    rw [e9] at hx9
    rw [mk 25 (by omega) (by omega)] at hx
    rw [ek]
    by_cases ez : x = g
    · subst ez
      have hN := y5.2.1.1
      refine pre_trans (a8 i (cntM M 23 - 1) hi (by omega) (hx.trans y1.symm)) ⟨(mg 0 (by omega)).symm, Nat.le_of_eq (rN_fr (mg 2 (by omega))).symm, fun c hc => (mg _ (by omega)).symm⟩
    · have hN := (b5 x hx9).2.1.2.1.1
      refine pre_trans (a7 i x (by omega) hx hx9) ⟨(mz x 0 ez (by omega)).symm, Nat.le_of_eq (rN_fr (mz x 2 ez (by omega))).symm, fun c hc => (mz x _ ez (by omega)).symm⟩
  · rw [e23] at hj
    rw [mk 25 (by omega) (by omega)] at q
    rw [ek, ek]
    exact a8 i j hij (by omega) q
