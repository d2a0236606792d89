theorem v6_hasGlyph_t {ng g : Nat} {S : xS} {Q : Int32 → xS → Prop} (hn : ng ≤ 6) (h1 : S.1 6 0 6 = nI ng) (c : g < ng) (k : Q 1 S) : wp_X6_hasGlyph (nI g) S Q := by
  unfold wp_X6_hasGlyph
  rw [h1]
  exact gf (by rw [nl0, vv_lt (by omega) (by omega)]; omega) (gf (by rw [vv_le (by omega) (by omega)]; omega) ⟨Or.inr rfl, k⟩)
theorem v6_hasGlyph_f {ng : Nat} {a : Int32} {S : xS} {Q : Int32 → xS → Prop} (hn : ng ≤ 6) (h1 : S.1 6 0 6 = nI ng) (c : ¬ (0 ≤ a.toInt ∧ a.toInt < ng)) (k : Q 0 S) : wp_X6_hasGlyph a S Q := by
  have e0 : (0 : Int32).toInt = 0 := rfl
  have en := nI_toInt' (n := ng) (by omega)
  unfold wp_X6_hasGlyph
  rw [h1]
  by_cases c1 : a < 0
  · exact gt c1 ⟨Or.inl rfl, k⟩
  · rw [i32_lt, e0] at c1
    exact gf (by rw [i32_lt, e0]; exact c1) (gt (by rw [i32_le, en]; omega) ⟨Or.inl rfl, k⟩)
theorem v7_noGlyph_t {ng g : Nat} {M : xS} {Q : Int32 → xS → Prop} (hn : ng ≤ 6) (h1 : M.1 0 0 9 = nI ng) (c : g < ng) (k : Q 0 M) : wp_X7_noGlyph (nI g) M Q := by
  unfold wp_X7_noGlyph
  rw [h1]
  refine v7_in_t ?_ (g1 ⟨Or.inl rfl, k⟩)
  rw [l64_sub1 (by omega), i2l_toInt, show (0 : Int64).toInt = 0 from rfl, nI_toInt' (by omega)]
  omega
theorem v7_noGlyph_f {ng : Nat} {a : Int32} {M : xS} {Q : Int32 → xS → Prop} (hn : ng ≤ 6) (h1 : M.1 0 0 9 = nI ng) (c : ¬ (0 ≤ a.toInt ∧ a.toInt < ng)) (k : Q 1 M) : wp_X7_noGlyph a M Q := by
  unfold wp_X7_noGlyph
  rw [h1]
  refine v7_in_f ?_ (g0 ⟨Or.inr rfl, k⟩)
  rw [l64_sub1 (by omega), i2l_toInt, show (0 : Int64).toInt = 0 from rfl]
  omega
theorem v7_of {a x : Int32} {g y : Nat} {M : xS} {Q : Int32 → xS → Prop} (ea : a = nI g) (ex : x = nI y) (hg : g < 6) (hy : y < 511) (k : Q (mrow M g y) M) : wp_X7_of a x M Q := by
  unfold wp_X7_of
  subst ea; subst ex
  rw [nl511, vv_mul, nI_add, vv_clI (by omega)]
  exact ⟨vv_in (by omega) (by omega), k⟩
theorem v7_put {a x v : Int32} {g y : Nat} {M : xS} {Q : xS → Prop} (ea : a = nI g) (ex : x = nI y) (hg : g < 6) (hy : y < 511) (k : Q (xI M 11 0 (511 * g + y) v)) : wp_X7_put a x v M Q := by
  unfold wp_X7_put
  subst ea; subst ex
  rw [nl511, vv_mul, nI_add, vv_clI (by omega)]
  exact ⟨vv_in (by omega) (by omega), k⟩
theorem mrow_put (M : xS) (g x : Nat) (v : Int32) (y : Nat) : mrow (xI M 11 0 (511 * g + x) v) g y = if y = x then v else mrow M g y := by
  unfold mrow
  rw [xI_1]
  by_cases c : y = x
  · rw [if_pos c, if_pos (by omega)]
  · rw [if_neg c, if_neg (by omega)]
theorem mrow_put_ne (M : xS) {g g' x y : Nat} (v : Int32) (h : g' ≠ g) (hx : x < 511) (hy : y < 511) : mrow (xI M 11 0 (511 * g + x) v) g' y = mrow M g' y := by
  unfold mrow
  rw [xI_1, if_neg (by omega)]
theorem rN_fr {r r' : Nat → Int32} (h : r' 2 = r 2) : rN r' = rN r := by unfold rN; rw [h]
theorem rT_fr {r r' : Nat → Int32} (h : r' 3 = r 3) : rT r' = rT r := by unfold rT; rw [h]
theorem pre_refl (r : Nat → Int32) : pre r r := ⟨rfl, Nat.le_refl _, fun _ _ => rfl⟩
theorem pre_trans {r r' r'' : Nat → Int32} (h : pre r r') (h2 : pre r' r'') : pre r r'' :=
  ⟨h.1.trans h2.1, Nat.le_trans h.2.1 h2.2.1, fun c hc => (h.2.2 c hc).trans (h2.2.2 c (Nat.lt_of_lt_of_le hc h.2.1))⟩
theorem InvF.pre {M M' : xS} (h : InvF M) (h1 : ∀ g, g < cntM M 9 → ptsOf M' 6 g ≤ 96) (h2 : ∀ g, g < cntM M 9 → pre (mrow M g) (mrow M' g)) (h26 : M'.1 26 = M.1 26) (h25 : M'.1 25 = M.1 25) (h9 : M'.1 0 0 9 = M.1 0 0 9) (h23 : M'.1 0 0 23 = M.1 0 0 23) : InvF M' := by
  obtain ⟨a1, a2, a3⟩ := h
  have e9 : cntM M' 9 = cntM M 9 := by unfold cntM; rw [h9]
  have e23 : cntM M' 23 = cntM M 23 := by unfold cntM; rw [h23]
  have er : ∀ g, krow M' g = krow M g := fun g => by unfold krow; rw [h26]
  refine ⟨by rw [e9]; exact h1, fun k g hk1 hg hg9 => ?_, fun k k' hk1 hk2 hq => ?_⟩
  · rw [e23] at hk1
    rw [h25] at hg
    rw [er]
    rw [e9] at hg9
    exact pre_trans (a2 k g hk1 hg hg9) (h2 g hg9)
  · rw [e23] at hk2
    rw [h25] at hq
    rw [er, er]
    exact a3 k k' hk1 hk2 hq
theorem ptsOf_keep {M M' : xS} {N na : Nat} (hN : N ≤ 6) (hR : ∀ g, g < N → RowOk na g (mrow M g)) (hE : ∀ g, g < N → mrow M' g 0 = mrow M g 0 ∧ rN (mrow M' g) = rN (mrow M g) ∧ ∀ c, c < rN (mrow M g) → mrow M' g (52 + c) = mrow M g (52 + c)) : ∀ f g, g < N → ptsOf M' f g = ptsOf M f g
  | 0, _, _ => rfl
  | f + 1, g, hg => by
    obtain ⟨e1, e2, e3⟩ := hE g hg
    show (if mrow M' g 0 = 1 then ((List.range (rN (mrow M' g))).map (fun c => ptsOf M' f (mrow M' g (52 + c)).toNatClampNeg)).sum else rN (mrow M' g)) = (if mrow M g 0 = 1 then ((List.range (rN (mrow M g))).map (fun c => ptsOf M f (mrow M g (52 + c)).toNatClampNeg)).sum else rN (mrow M g))
    rw [e1, e2]
    by_cases c0 : mrow M g 0 = 1
    · rw [if_pos c0, if_pos c0]
      congr 1
      apply List.map_congr_left
      intro c hc
      have hc2 := List.mem_range.mp hc
      obtain ⟨h, q1, q2⟩ := (hR g hg).2.2.2.2.2.1 c0 c hc2
      rw [e3 c hc2, q1]
      have := (hR g hg).2.1.1
      rw [vv_clI (by omega)]
      exact ptsOf_keep hN hR hE f h (by omega)
    · rw [if_neg c0, if_neg c0]
theorem Inv.row {n : Nat} {S M S' M' : xS} (I : Inv n S M) {g : Nat} (hg : g < cntM M 9)
    (hS : ∀ k, k = 0 ∨ k = 2 ∨ k = 6 ∨ k = 10 ∨ k = 11 ∨ k = 17 ∨ k = 19 ∨ k = 30 ∨ k = 33 → S'.1 k = S.1 k) (hS3 : S'.1 3 0 0 = S.1 3 0 0) (hS1 : ∀ k z, k = 1 ∨ 12 ≤ k ∧ k ≤ 15 → z ≠ g → S'.1 k z = S.1 k z)
    (hS5 : ∀ k z, k = 5 ∨ 24 ≤ k ∧ k ≤ 28 → z < 5 * g ∨ 5 * g + 5 ≤ z → S'.1 k z = S.1 k z) (h16 : ∀ z, z ≠ g → S'.2.2 16 z = S.2.2 16 z) (h18 : S'.2.2 18 = S.2.2 18) (hp : PermOk S')
    (hM : ∀ k, 2 ≤ k ∧ k ≤ 9 ∨ k = 25 ∨ k = 26 ∨ k = 34 ∨ k = 36 → M'.1 k = M.1 k) (hM0 : ∀ j, j = 0 ∨ j = 9 ∨ j = 23 ∨ j = 32 ∨ j = 34 → M'.1 0 0 j = M.1 0 0 j) (hM11 : ∀ z y, z ≠ g → y < 511 → mrow M' z y = mrow M z y)
    (hG : GlRel S' g (mrow M' g)) (hR : RowOk (cntM M 0) g (mrow M' g)) (hB : Bd (PN (n + 1)) (mrow M' g)) (hF : InvF M') : Inv (n + 1) S' M' := by
  obtain ⟨a1, ⟨⟨b1, b2, b3⟩, b4, b5, b6⟩, ⟨⟨c1, c2, c3⟩, c4⟩, a4, a5, a6⟩ := I
  have e0 : cntM M' 0 = cntM M 0 := by unfold cntM; rw [hM0 0 (by omega)]
  have e9 : cntM M' 9 = cntM M 9 := by unfold cntM; rw [hM0 9 (by omega)]
  have e23 : cntM M' 23 = cntM M 23 := by unfold cntM; rw [hM0 23 (by omega)]
  refine ⟨a1.fr (fun k hk => hS k (by omega)) (by rw [hS 6 (by omega)]) (fun k _ _ => hM k (by omega)) (hM0 0 (by omega)), ⟨⟨by rw [e9]; exact b1, by rw [hM0 9 (by omega), e9]; exact b2, by rw [hS 6 (by omega), hM0 9 (by omega)]; exact b3⟩, hp, fun z hz => ?_, fun z hz hz6 => ?_⟩,
    ⟨⟨by rw [e23]; exact c1, by rw [hM0 23 (by omega), e23]; exact c2, by rw [hS 2 (by omega), hM0 23 (by omega)]; exact c3⟩, fun k hk => ?_⟩,
    a4.fr (by rw [hS 6 (by omega)]) (hS 33 (by omega)) (hM 34 (by omega)) (hM0 32 (by omega)), a5.fr hS3 (hS 19 (by omega)) (hM 36 (by omega)) (hM0 34 (by omega)), hF⟩
  · rw [e9] at hz
    rw [e0]
    by_cases ez : z = g
    · subst ez; exact ⟨hG, hR, hB⟩
    · obtain ⟨d1, d2, d3⟩ := b5 z hz
      have ht : ∀ t, t < 5 → 5 * z ≤ S.2.2 16 z t ∧ S.2.2 16 z t < 5 * z + 5 := fun t ht => b4.1 z (by omega) t ht
      exact ⟨d1.fr d2.2.1.1 d2.2.2.2.1.1 (fun k hk => hS1 k z hk ez) (fun t _ => by rw [h16 z ez]) (fun t h5 k hk => hS5 k _ hk (by have := ht t h5; omega)) (fun x hx => hM11 z x ez hx), d2.fr (Nat.le_refl _) (fun x hx => hM11 z x ez hx), d3.fr (PN_le n) d2.2.1.1 d2.2.2.2.1.1 (fun x hx => hM11 z x ez hx)⟩
  · rw [e9] at hz
    have ez : z ≠ g := by omega
    rw [hS1 1 z (by omega) ez, hS1 13 z (by omega) ez, hM11 z 2 ez (by omega), hM11 z 3 ez (by omega)]
    exact b6 z hz hz6
  · rw [e23] at hk
    obtain ⟨x, d1, d2, d3, d4, d5, d6⟩ := c4 k hk
    have hk12 := b4.2.2.1 k (by omega)
    have ek : krow M' k = krow M k := by unfold krow; rw [hM 26 (by omega)]
    have ht : ∀ t, t < 5 → 5 * S.2.2 18 0 k ≤ S.2.2 16 (S.2.2 18 0 k) t ∧ S.2.2 16 (S.2.2 18 0 k) t < 5 * S.2.2 18 0 k + 5 := fun t ht => b4.1 _ (by omega) t ht
    refine ⟨x, by rw [hM 25 (by omega)]; exact d1, by rw [hS 17 (by omega)]; exact d2, by rw [e9]; exact d3, ?_, by rw [e0, ek]; exact d5, ?_⟩
    · rw [h18, ek]
      exact d4.fr d5.2.1.1 d5.2.2.2.1.1 (fun k hk => hS1 k _ hk (by omega)) (fun t _ => by rw [h16 _ (by omega)]) (fun t h5 k hk => hS5 k _ hk (by have := ht t h5; omega)) (fun _ _ => rfl)
    · rw [ek]; exact d6.fr (PN_le n) d5.2.1.1 d5.2.2.2.1.1 (fun _ _ => rfl)
