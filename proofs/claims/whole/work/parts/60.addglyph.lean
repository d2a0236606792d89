section ADDG
variable {n : Nat} {S M : xS} {K : xS → xS → Prop}
theorem op_addGlyph (I : Inv n S M) (a b : Int32) (ha : a = 0 ∨ a = 1) (hK : ∀ S' M', Inv (n + 1) S' M' → K S' M') :
    wp_X6_addGlyph a b S (fun r1 S1 => wp_X7_addGlyph a b M (fun r2 M1 => if r1 = r2 then K S1 M1 else False)) := by
  obtain ⟨a1, ⟨⟨b1, b2, b3⟩, b4, b5, b6⟩, a3, a4, a5, a6⟩ := id I
  have hS1 := b3.trans b2
  have z0 : (0 : Int32).toInt = 0 := rfl
  have z1 : (4000 : Int32).toInt = 4000 := rfl
  have y0 : (0 : Int64).toInt = 0 := rfl
  have y1 : (4000 : Int64).toInt = 4000 := rfl
  unfold wp_X6_addGlyph wp_X7_addGlyph
  by_cases cb : 0 ≤ b.toInt ∧ b.toInt ≤ 4000
  rotate_left
  · exact v6_within_f (by rw [z0, z1]; exact cb) (g0 (v7_in_f (by rw [i2l_toInt, y0, y1]; exact cb) (g0 (ge (hK _ _ I.next)))))
  refine v6_within_t (by rw [z0, z1]; exact cb) (g1 ?_)
  rw [hS1]
  by_cases c6 : cntM M 9 < 6
  rotate_left
  · refine gf (by rw [nl6, vv_lt (by omega) (by omega)]; exact c6) (v7_in_t (by rw [i2l_toInt, y0, y1]; exact cb) (g1 ?_))
    rw [b2]
    exact gt (by rw [show cntM M 9 = 6 by omega]; rfl) (ge (hK _ _ I.next))
  refine gt (by rw [nl6, vv_lt (by omega) (by omega)]; exact c6) ⟨vv_in c6 (by omega), ?_⟩
  unfold wp_X1_begin
  refine ⟨ha, vv_in (k := 0) (by omega) (by omega), ?_⟩
  dsimp only
  rw [xI_s, xI_k (k' := 6) (by omega), xI_k (k' := 6) (by omega), hS1, vv_clI (by omega), show (0 : Int32).toNatClampNeg = 0 from rfl, nI_1]
  refine v7_in_t (by rw [i2l_toInt, y0, y1]; exact cb) (g1 ?_)
  rw [b2]
  refine gf (by rw [nl6, vv_eq (by omega) (by omega)]; omega) ?_
  have fin : Inv (n + 1) (xI (xI (xI S 1 (cntM M 9) 0 a) 12 (cntM M 9) 0 b) 6 0 6 (nI (cntM M 9 + 1))) (xI (xI (xI M 11 0 (511 * cntM M 9 + 0) a) 11 0 (511 * cntM M 9 + 1) b) 0 0 9 (nI (cntM M 9 + 1))) := by
    have m9 : (xI (xI (xI M 11 0 (511 * cntM M 9 + 0) a) 11 0 (511 * cntM M 9 + 1) b) 0 0 9 (nI (cntM M 9 + 1))).1 0 0 9 = nI (cntM M 9 + 1) := xI_s _ _ _ _ _
    have m0 : ∀ j, j ≠ 9 → (xI (xI (xI M 11 0 (511 * cntM M 9 + 0) a) 11 0 (511 * cntM M 9 + 1) b) 0 0 9 (nI (cntM M 9 + 1))).1 0 0 j = M.1 0 0 j := fun j hj => by rw [xI_1, if_neg (by omega), xI_k (by omega), xI_k (by omega)]
    have mk : ∀ k, k ≠ 0 → k ≠ 11 → (xI (xI (xI M 11 0 (511 * cntM M 9 + 0) a) 11 0 (511 * cntM M 9 + 1) b) 0 0 9 (nI (cntM M 9 + 1))).1 k = M.1 k := fun k h1 h2 => by rw [xI_k h1, xI_k h2, xI_k h2]
    have er : mrow (xI (xI (xI M 11 0 (511 * cntM M 9 + 0) a) 11 0 (511 * cntM M 9 + 1) b) 0 0 9 (nI (cntM M 9 + 1))) (cntM M 9) = fun y => if y = 1 then b else if y = 0 then a else mrow M (cntM M 9) y := by
      funext y
      have : mrow (xI (xI (xI M 11 0 (511 * cntM M 9 + 0) a) 11 0 (511 * cntM M 9 + 1) b) 0 0 9 (nI (cntM M 9 + 1))) (cntM M 9) y = mrow (xI (xI M 11 0 (511 * cntM M 9 + 0) a) 11 0 (511 * cntM M 9 + 1) b) (cntM M 9) y := by unfold mrow; rw [xI_k (by omega)]
      rw [this, mrow_put, mrow_put]
    have ez : ∀ z y, z ≠ cntM M 9 → y < 511 → mrow (xI (xI (xI M 11 0 (511 * cntM M 9 + 0) a) 11 0 (511 * cntM M 9 + 1) b) 0 0 9 (nI (cntM M 9 + 1))) z y = mrow M z y := by
      intro z y hz hy
      have : mrow (xI (xI (xI M 11 0 (511 * cntM M 9 + 0) a) 11 0 (511 * cntM M 9 + 1) b) 0 0 9 (nI (cntM M 9 + 1))) z y = mrow (xI (xI M 11 0 (511 * cntM M 9 + 0) a) 11 0 (511 * cntM M 9 + 1) b) z y := by unfold mrow; rw [xI_k (by omega)]
      rw [this, mrow_put_ne _ _ hz (by omega) hy, mrow_put_ne _ _ hz (by omega) hy]
    generalize xI (xI (xI M 11 0 (511 * cntM M 9 + 0) a) 11 0 (511 * cntM M 9 + 1) b) 0 0 9 (nI (cntM M 9 + 1)) = M' at *
    have e9 : cntM M' 9 = cntM M 9 + 1 := by
      show (M'.1 0 0 9).toNatClampNeg = _
      rw [m9, vv_clI (by omega)]
    have e0 : cntM M' 0 = cntM M 0 := by unfold cntM; rw [m0 0 (by omega)]
    have e23 : cntM M' 23 = cntM M 23 := by unfold cntM; rw [m0 23 (by omega)]
    obtain ⟨f1, f2, f3, f4, f5⟩ := b6 (cntM M 9) (Nat.le_refl _) c6
    have r2 : mrow M' (cntM M 9) 2 = 0 := by rw [er]; show (if 2 = 1 then b else if 2 = 0 then a else mrow M (cntM M 9) 2) = 0; rw [if_neg (by omega), if_neg (by omega)]; exact f4
    have r3 : mrow M' (cntM M 9) 3 = 0 := by rw [er]; show (if 3 = 1 then b else if 3 = 0 then a else mrow M (cntM M 9) 3) = 0; rw [if_neg (by omega), if_neg (by omega)]; exact f5
    have r0 : mrow M' (cntM M 9) 0 = a := by rw [er]; rfl
    have r1 : mrow M' (cntM M 9) 1 = b := by rw [er]; rfl
    have rn : rN (mrow M' (cntM M 9)) = 0 := by unfold rN; rw [r2]; rfl
    have rt : rT (mrow M' (cntM M 9)) = 0 := by unfold rT; rw [r3]; rfl
    have sk : ∀ k z, k = 1 ∨ 12 ≤ k ∧ k ≤ 15 → z ≠ cntM M 9 → (xI (xI (xI S 1 (cntM M 9) 0 a) 12 (cntM M 9) 0 b) 6 0 6 (nI (cntM M 9 + 1))).1 k z = S.1 k z := by
      intro k z hk hz
      funext w
      rw [xI_k (by omega), xI_1, if_neg (by omega), xI_1, if_neg (by omega)]
    have sk5 : ∀ k, k = 5 ∨ 24 ≤ k ∧ k ≤ 28 → (xI (xI (xI S 1 (cntM M 9) 0 a) 12 (cntM M 9) 0 b) 6 0 6 (nI (cntM M 9 + 1))).1 k = S.1 k := fun k hk => by rw [xI_k (by omega), xI_k (by omega), xI_k (by omega)]
    have skk : ∀ k, k ≠ 1 → k ≠ 12 → k ≠ 6 → (xI (xI (xI S 1 (cntM M 9) 0 a) 12 (cntM M 9) 0 b) 6 0 6 (nI (cntM M 9 + 1))).1 k = S.1 k := fun k h1 h2 h3 => by rw [xI_k h3, xI_k h2, xI_k h1]
    have s6 : ∀ j, j ≠ 6 → (xI (xI (xI S 1 (cntM M 9) 0 a) 12 (cntM M 9) 0 b) 6 0 6 (nI (cntM M 9 + 1))).1 6 0 j = S.1 6 0 j := fun j hj => by rw [xI_1, if_neg (by omega), xI_k (by omega), xI_k (by omega)]
    have keep : ∀ z, z < cntM M 9 → mrow M' z 0 = mrow M z 0 ∧ rN (mrow M' z) = rN (mrow M z) ∧ ∀ c, c < rN (mrow M z) → mrow M' z (52 + c) = mrow M z (52 + c) := by
      intro z hz
      have := (b5 z hz).2.1.2.1.1
      exact ⟨ez z 0 (by omega) (by omega), rN_fr (ez z 2 (by omega) (by omega)), fun c hc => ez z _ (by omega) (by omega)⟩
    have hgl : ∀ {G : Nat} {r r' : Nat → Int32}, G < 12 → G ≠ cntM M 9 → GlRel S G r → rN r ≤ 24 → rT r ≤ 5 → (∀ x, x < 511 → r' x = r x) → GlRel (xI (xI (xI S 1 (cntM M 9) 0 a) 12 (cntM M 9) 0 b) 6 0 6 (nI (cntM M 9 + 1))) G r' := by
      intro G r r' h12 hne h hn hT hr
      exact h.fr hn hT (fun k hk => sk k G hk hne) (fun _ _ => rfl) (fun t _ k hk => by rw [sk5 k hk]) hr
    refine ⟨a1.fr (fun k hk => skk k (by omega) (by omega) (by omega)) (s6 1 (by omega)) (fun k h1 h2 => mk k (by omega) (by omega)) (m0 0 (by omega)), ⟨⟨by rw [e9]; omega, by rw [m9, e9], by rw [m9, xI_s]⟩, b4, fun z hz => ?_, fun z hz hz6 => ?_⟩,
      ⟨⟨by rw [e23]; exact a3.1.1, by rw [m0 23 (by omega), e23]; exact a3.1.2.1, by rw [skk 2 (by omega) (by omega) (by omega), m0 23 (by omega)]; exact a3.1.2.2⟩, fun k hk => ?_⟩,
      a4.fr (s6 11 (by omega)) (skk 33 (by omega) (by omega) (by omega)) (mk 34 (by omega) (by omega)) (m0 32 (by omega)), a5.fr (by rw [skk 3 (by omega) (by omega) (by omega)]) (skk 19 (by omega) (by omega) (by omega)) (mk 36 (by omega) (by omega)) (m0 34 (by omega)), ⟨fun z hz => ?_, fun k g hk hg hg9 => ?_, fun k k' hk hk' hq => ?_⟩⟩
    · rw [e9] at hz
      rw [e0]
      by_cases e : z = cntM M 9
      · subst e
        refine ⟨⟨?_, ?_, ?_, ?_, ?_, fun p hp => by omega, fun _ p hp => by omega, fun _ p hp => by omega, fun t ht => by omega⟩, ⟨by rw [r0]; exact ha, ⟨by omega, by rw [r2, rn]; rfl⟩, fun _ => by omega, ⟨by omega, by rw [r3, rt]; rfl⟩, fun _ => ⟨fun p hp => by omega, fun hp => by omega⟩, fun _ c hc => by omega, fun t ht => by omega⟩, ⟨4000, fun _ => 0, by omega, fun _ => Int.le_refl 0, by show (4000 : Int) + 0 + 0 + 0 + 0 + 0 ≤ _; unfold PN; omega, by rw [r1]; unfold rng; omega, fun p hp => by omega, fun t ht => by omega⟩⟩
        · rw [r0, xI_k (by omega), xI_k (by omega), xI_s]
        · rw [r2, xI_k (by omega), xI_k (by omega), xI_1, if_neg (by omega)]; exact f1
        · rw [r3, xI_k (by omega), xI_k (by omega), xI_1, if_neg (by omega)]; exact f2
        · rw [r1, xI_k (by omega), xI_s]
        · rw [xI_k (by omega), xI_k (by omega), xI_k (by omega)]; exact f3
      · have hz9 : z < cntM M 9 := by omega
        obtain ⟨d1, d2, d3⟩ := b5 z hz9
        exact ⟨hgl (by omega) e d1 d2.2.1.1 d2.2.2.2.1.1 (fun x hx => ez z x e hx), d2.fr (Nat.le_refl _) (fun x hx => ez z x e hx), d3.fr (PN_le n) d2.2.1.1 d2.2.2.2.1.1 (fun x hx => ez z x e hx)⟩
    · rw [e9] at hz
      have e : z ≠ cntM M 9 := by omega
      rw [sk 1 z (by omega) e, sk 13 z (by omega) e, ez z 2 e (by omega), ez z 3 e (by omega)]
      exact b6 z (by omega) hz6
    · rw [e23] at hk
      obtain ⟨x, d1, d2, d3, d4, d5, d6⟩ := a3.2 k hk
      have hk12 := b4.2.2.1 k (by have := a3.1.1; omega)
      have ek : krow M' k = krow M k := by unfold krow; rw [mk 26 (by omega) (by omega)]
      refine ⟨x, by rw [mk 25 (by omega) (by omega)]; exact d1, by rw [skk 17 (by omega) (by omega) (by omega)]; exact d2, by rw [e9]; omega, ?_, by rw [e0, ek]; exact d5, ?_⟩
      · rw [ek]
        exact hgl hk12.2 (show S.2.2 18 0 k ≠ cntM M 9 by omega) d4 d5.2.1.1 d5.2.2.2.1.1 (fun _ _ => rfl)
      · rw [ek]; exact d6.fr (PN_le n) d5.2.1.1 d5.2.2.2.1.1 (fun _ _ => rfl)
    · rw [e9] at hz
      by_cases e : z = cntM M 9
      · subst e
        show (if mrow M' (cntM M 9) 0 = 1 then ((List.range (rN (mrow M' (cntM M 9)))).map (fun c => ptsOf M' 5 (mrow M' (cntM M 9) (52 + c)).toNatClampNeg)).sum else rN (mrow M' (cntM M 9))) ≤ 96
        rw [rn]
        split
        · show 0 ≤ 96; omega
        · omega
      · rw [ptsOf_keep b1 (fun z hz => (b5 z hz).2.1) keep 6 z (by omega)]; exact a6.1 z (by omega)
    · rw [e23] at hk
      rw [mk 25 (by omega) (by omega)] at hg
      obtain ⟨x, d1, d2, d3, d4, d5, d6⟩ := a3.2 k hk
      rw [d1, vv_eq (by omega) (by omega)] at hg
      subst hg
      have ek : krow M' k = krow M k := by unfold krow; rw [mk 26 (by omega) (by omega)]
      rw [ek]
      obtain ⟨k1, k2, k3⟩ := keep x d3
      exact pre_trans (a6.2.1 k x hk d1 d3) ⟨k1.symm, by omega, fun c hc => (k3 c hc).symm⟩
    · rw [e23] at hk'
      rw [mk 25 (by omega) (by omega)] at hq
      have ek : ∀ k, krow M' k = krow M k := fun k => by unfold krow; rw [mk 26 (by omega) (by omega)]
      rw [ek, ek]
      exact a6.2.2 k k' hk hk' hq
  have q : ∀ a', a' = a → wp_X7_addGlyph_42 b (fun r2 M1 => if nI (cntM M 9 + 1) - 1 = r2 then K (xI (xI (xI S 1 (cntM M 9) 0 a) 12 (cntM M 9) 0 b) 6 0 6 (nI (cntM M 9 + 1))) M1 else False) M (nI (cntM M 9)) 0 a' := by
    intro a' h
    subst h
    unfold wp_X7_addGlyph_42
    refine v7_put rfl nl0 c6 (by omega) ?_
    rw [xI_k (k' := 0) (by omega), b2]
    refine v7_put rfl nl1 c6 (by omega) ?_
    rw [xI_s, xI_k (k' := 0) (by omega), xI_k (k' := 0) (by omega), b2, nI_1]
    exact ge (hK _ _ fin)
  rcases ha with rfl | rfl
  · exact gt rfl (q 0 rfl)
  · exact gf (by decide) (q 1 rfl)
end ADDG
