section FOLD6B
variable {S : xS} {G na gi : Nat} {r : Nat → Int32}
theorem w1_hasFold {pb : Nat} (hG12 : G < 12) (hg : Gd S G na gi r) (hpb : pb < 2 ^ 31) {Q : Int32 → xS → Prop} (k1 : (∃ t, t < rT r ∧ selF r pb t = true) → Q 1 S) (k0 : (∀ t, t < rT r → selF r pb t = false) → Q 0 S) : wp_X1_hasTupleToFold G (nI pb) S Q := by
  obtain ⟨hG, hR, hP⟩ := hg
  have hT5 := hR.2.2.2.1.1
  unfold wp_X1_hasTupleToFold
  refine wl1 (wp_X1_hasTupleToFold_2 G (nI pb) Q) (fun K => wp_X1_hasTupleToFold_2_b G (nI pb) K Q) (fun _ _ _ => rfl) (fun S' v => S' = S ∧ ∃ j, j ≤ rT r ∧ v = nI j ∧ ∀ t, t < j → selF r pb t = false) (fun _ v => 50 - v.toNatClampNeg) ⟨rfl, 0, by omega, rfl, fun t h => by omega⟩ ?_
  rintro S' v K ⟨rfl, j, hj, rfl, h⟩ hK
  unfold wp_X1_hasTupleToFold_2_b
  rw [hG.2.2.1.trans hR.2.2.2.1.2]
  by_cases c : j = rT r
  · subst c
    exact gt (by rw [vv_le (by omega) (by omega)]; omega) ⟨Or.inl rfl, k0 h⟩
  · have hid := hP.1 j (by omega)
    refine gf (by rw [vv_le (by omega) (by omega)]; omega) ⟨⟨vv_in (by omega) (by omega), by rw [vv_clI (by omega)]; omega⟩, ?_⟩
    rw [vv_clI (by omega)]
    refine w5_depends (hG.2.2.2.2.2.2.2.2 j (by omega)) hpb ?_
    show if b2 (selF r pb j) = 0 then _ else _
    cases hs : selF r pb j
    · refine gt rfl ?_
      rw [nI_1]
      refine hK _ _ ⟨rfl, j + 1, by omega, rfl, fun t ht => ?_⟩ (by rw [vv_clI (by omega), vv_clI (by omega)]; omega)
      by_cases e : t = j
      · rw [e]; exact hs
      · exact h t (by omega)
    · exact gf (by decide) ⟨Or.inr rfl, k1 ⟨j, by omega, hs⟩⟩
def r1F (r : Nat → Int32) : Nat → Int32 := if r 0 = 0 then taU r (rT r) else r
theorem r1_low {y : Nat} (h : y < 76) : r1F r y = r y := by
  unfold r1F
  split
  · exact taU_low h _
  · rfl
theorem r1_T : rT (r1F r) = rT r := rT_fr (r1_low (by omega))
theorem r1_N : rN (r1F r) = rN r := rN_fr (r1_low (by omega))
theorem r1_tl (hN : rN r ≤ 24) : tl (r1F r) = (tl r).map (tcF r) := by
  refine tl_ext (by rw [List.length_map, tl_len, r1_T]) (fun j hj => ?_)
  rw [r1_T] at hj
  rw [List.getElem?_map, tl_get hj]
  show some (tcF r (blk r j)) = some (blk (r1F r) j)
  unfold tcF r1F
  by_cases c : r 0 = 0
  · rw [if_pos c, if_pos c, taU_blk hN _ hj]
  · rw [if_neg c, if_neg c]
theorem r1_pl {loc : Nat → Int32} {pb s : Nat} {v : Int32} (hN : rN r ≤ 24) (hs : inS (rN r) s = true) (hv : v = 0 ∨ v = 1) : plV (r1F r) loc s v (selF (r1F r) pb) = plV r loc s v (selF r pb) := by
  unfold r1F
  by_cases c : r 0 = 0
  · rw [if_pos c, pl_ta hN hs hv]
    have e : selF (taU r (rT r)) pb = selF r pb := funext fun t => depB_reg (fun x hx => taU_reg hx _) 4 (by omega)
    rw [e]
  · rw [if_neg c]
theorem w1_fold {pb : Nat} {loc : Nat → Int32} (hG12 : G < 12) (hg : Gd S G na gi r) (hpb : pb < 2 ^ 31) (hl : ∀ a, a < 4 → S.1 30 0 a = loc a) {Q : Int32 → xS → Prop} (k0 : (∀ t, t < rT r → selF r pb t = false) → Q 0 S)
    (k1 : (∃ t, t < rT r ∧ selF r pb t = true) → ∀ S' rc, GFr S S' G → Gd S' G na gi rc → (∀ y, y < 76 → y ≠ 3 → mvR r (mvF r loc pb) (rN r + 1) (rN r + 1) y = rc y) → tl rc = fdL r pb → Q (nI (rT r) - nI (fdL r pb).length) S') : wp_X1_foldTuples G (nI pb) 0 S Q := by
  obtain ⟨hG, hR, hP⟩ := id hg
  have hN := hR.2.1.1
  have hT5 := hR.2.2.2.1.1
  unfold wp_X1_foldTuples
  refine w1_hasFold hG12 hg hpb (fun hex => gf (by decide) ?_) (fun h => gt rfl (k0 h))
  have k1 := k1 hex
  -- what comes behind the touching
  have tail : ∀ S1, GFr S S1 G → (∀ k, k = 30 → S1.1 k = S.1 k) → Gd S1 G na gi (r1F r) → wp_X1_foldTuples_43 G (nI pb) 0 Q S1 := by
    intro S1 fr h30 g1'
    have h24 : mvF r loc pb 24 1 = 0 := by
      unfold mvF
      rw [pl_24 (fun t ht => dY24 (hR.2.2.2.2.2.2 t ht))]
      rfl
    refine w1_bases (F := mvF r loc pb) (loc := loc) hG12 g1' hpb (fun a ha => by rw [h30 30 rfl]; exact hl a ha) (fun t s ht hs => ?_) (fun s v hs hv => ?_) h24 (fun S2 m2 g2 => w1_unfold hG12 g2 hpb (fun S3 rc fr3 g3 low3 tl3 => ?_))
    · rw [r1_N] at hs
      rw [r1_T] at ht
      by_cases c : r 0 = 0
      · left
        unfold r1F
        rw [if_pos c]
        exact taU_fl hN hs _ ht
      · right; right
        rw [r1_low (by omega)]
        exact hR.1.resolve_left c
    · rw [r1_N] at hs
      unfold mvF
      rw [r1_pl hN hs hv]
    · rw [mv_tl, r1_tl hN] at tl3
      rw [mv_T, r1_T, mv_tl, r1_tl hN]
      refine k1 S3 rc (fr.trans (m2.g.trans fr3)) g3 (fun y hy h3 => ?_) tl3
      rw [← low3 y hy h3, r1_N]
      unfold mvR
      rw [r1_low (y := 1) (by omega), r1_low hy]
  refine wl1 (wp_X1_foldTuples_12 G (nI pb) 0 Q) (fun K => wp_X1_foldTuples_12_b G (nI pb) 0 K Q) (fun _ _ _ => rfl)
    (fun S' v => ∃ j, j ≤ rT r ∧ v = nI j ∧ ((r 0 = 0 ∧ Gd S' G na gi (taU r j) ∧ GFr S S' G ∧ S'.2 = S.2) ∨ (r 0 = 1 ∧ S' = S))) (fun _ v => 50 - v.toNatClampNeg) ⟨0, by omega, rfl, ?_⟩ ?_
  · rcases hR.1 with h | h
    · exact Or.inl ⟨h, hg, GFr.refl _ _, rfl⟩
    · exact Or.inr ⟨h, rfl⟩
  rintro S' v K ⟨j, hj, rfl, hs⟩ hK
  unfold wp_X1_foldTuples_12_b
  rcases hs with ⟨h0, gj, fr, f2⟩ | ⟨h1, rfl⟩
  · have e0 : S'.1 1 G 0 = 0 := gj.1.1.trans ((taU_low (by omega) j).trans h0)
    have eT : S'.1 1 G 6 = nI (rT r) := by
      have := gj.1.2.2.1.trans gj.2.1.2.2.2.1.2
      rw [taU_T] at this
      exact this
    rw [eT]
    refine gt e0 ?_
    by_cases c : j = rT r
    · subst c
      refine gt (by rw [vv_le (by omega) (by omega)]; omega) (tail S' fr (fun k hk => fr.1 k (by rw [hk]; unfold kG; omega)) (by unfold r1F; rw [if_pos h0]; exact gj))
    · have hid := hP.1 j (by omega)
      refine gf (by rw [vv_le (by omega) (by omega)]; omega) ⟨⟨vv_in (by omega) (by omega), by rw [vv_clI (by omega), f2]; omega⟩, ?_⟩
      rw [vv_clI (by omega)]
      refine w1_touchAll gj (by rw [taU_T]; omega) (fun S2 fr2 e2 g2 => ?_)
      rw [nI_1]
      exact hK _ _ ⟨j + 1, by omega, rfl, Or.inl ⟨h0, g2, fr.trans fr2, e2.trans f2⟩⟩ (by rw [vv_clI (by omega), vv_clI (by omega)]; omega)
  · have e0 : ¬ S'.1 1 G 0 = 0 := by rw [hG.1, h1]; decide
    refine gf e0 (tail S' (GFr.refl _ _) (fun _ _ => rfl) ?_)
    unfold r1F
    rw [if_neg (by rw [h1]; decide)]
    exact hg
end FOLD6B
