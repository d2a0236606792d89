theorem dnI_le {j : Nat} (h : j < 1000) : dnI j ≤ 0 ↔ j ≤ 1 := by
  unfold dnI
  by_cases c : j = 0
  · rw [if_pos c]; exact ⟨fun _ => by omega, fun _ => by decide⟩
  · rw [if_neg c, nl0, vv_le (by omega) (by omega)]; omega
theorem dn_mu {j : Nat} (h : j < 1000) : (dnI j).toInt.toNat + (if dnI j < 0 then 0 else 1) < (nI j).toInt.toNat + (if nI j < 0 then 0 else 1) := by
  rw [if_neg (show ¬ nI j < 0 by rw [nl0, vv_lt (by omega) (by omega)]; omega), nI_toInt' (by omega)]
  cases j with
  | zero => rw [if_pos ((dnI_lt (by omega)).mpr rfl)]; decide
  | succ j => rw [dnI_s, if_neg (show ¬ nI j < 0 by rw [nl0, vv_lt (by omega) (by omega)]; omega), nI_toInt' (by omega)]; omega
def fin (r : Nat → Int32) : List (Nat → Int32) := foB sameK (jnL r) [] (tl r)
theorem w1_merge {S : xS} {G na gi : Nat} {r : Nat → Int32} (hG12 : G < 12) (hg : Gd S G na gi r) {Q : Int32 → xS → Prop} (k : ∀ S' r', GFr S S' G → Gd S' G na gi r' → (∀ y, y < 76 → y ≠ 3 → r y = r' y) → tl r' = fin r → Q (nI (rT r) - nI (fin r).length) S') : wp_X1_mergeTuples G S Q := by
  have hT5 := hg.2.1.2.2.2.1.1
  have hN := hg.2.1.2.1.1
  have J := jn_ok (b0 := r) hN
  unfold wp_X1_mergeTuples
  rw [hg.1.2.2.1.trans hg.2.1.2.2.2.1.2, dnI_sub (by omega)]
  refine wl2 (wp_X1_mergeTuples_12 G Q) (fun K => wp_X1_mergeTuples_12_b G K Q) (fun _ _ _ _ => rfl)
    (fun S' v1 v2 => v1 = nI (rT r) ∧ ∃ (j : Nat) (r' : Nat → Int32) (p rest : List (Nat → Int32)), v2 = dnI j ∧ p.length = j ∧ tl r' = p ++ rest ∧ foB sameK (jnL r) [] p ++ rest = fin r ∧ (∀ y, y < 76 → y ≠ 3 → r y = r' y) ∧ Gd S' G na gi r' ∧ GFr S S' G)
    (fun _ _ v => v.toInt.toNat + (if v < 0 then 0 else 1)) ⟨rfl, rT r, r, tl r, [], rfl, tl_len r, by rw [List.append_nil], by rw [List.append_nil]; rfl, fun _ _ _ => rfl, hg, GFr.refl _ _⟩ ?_
  rintro S' v1 v2 K ⟨rfl, j, r', p, rest, rfl, hp, htl, hfin, hlow, hgd, hfr⟩ hK
  have hT5' := hgd.2.1.2.2.2.1.1
  have hlen : rT r' = p.length + rest.length := by rw [← tl_len r', htl, List.length_append]
  unfold wp_X1_mergeTuples_12_b wp_X1_mergeTuples_67
  by_cases cj : j ≤ 1
  · refine gt ((dnI_le (by omega)).mpr cj) ?_
    have hpp : foB sameK (jnL r) [] p = p := by
      cases p with
      | nil => rfl
      | cons x p =>
        cases p with
        | nil => rfl
        | cons y p => simp at hp; omega
    rw [hpp] at hfin
    have ht : tl r' = fin r := htl.trans hfin
    rw [hgd.1.2.2.1.trans hgd.2.1.2.2.2.1.2, show rT r' = (fin r).length by rw [← tl_len r', ht]]
    exact k S' r' hfr hgd hlow ht
  · obtain ⟨i, rfl⟩ : ∃ i, j = i + 2 := ⟨j - 2, by omega⟩
    obtain ⟨p1, u, rfl, hp1⟩ := snoc_ex p (i + 1) hp
    have htl2 : tl r' = p1 ++ u :: rest := by rw [htl, List.append_assoc]; rfl
    have hti : i + 1 < rT r' := by omega
    have gp : ∀ z, z < i + 1 → p1[z]? = some (blk r' z) := fun z hz => by
      rw [← tl_get (r := r') (by omega), htl2, List.getElem?_append_left (by omega)]
    have gu : u = blk r' (i + 1) := by
      have := tl_get hti
      rw [htl2, List.getElem?_append_right (by omega), hp1, Nat.sub_self] at this
      exact Option.some.inj this
    rw [show i + 2 = (i + 1) + 1 from rfl, dnI_s] at hK ⊢
    have mu := dn_mu (j := i + 1) (by omega)
    refine gf (by rw [nl0, vv_le (by omega) (by omega)]; omega) (w1_earliest hG12 hgd hti (fun e he hs hf => ?_) (fun hno => ?_))
    · refine gf (by rw [vv_le (by omega) (by omega)]; omega) (w1_join hG12 hgd he hti hlow htl2 hp1 hs hf (fun S2 r2 fr2 g2 low2 tl2 => ?_))
      rw [dnI_dn (by omega)]
      have hm : mtB sameK p1 u = true := mt_of (gp e he) (by rw [gu]; exact hs)
      refine hK _ _ _ ⟨rfl, i + 1, r2, insB sameK (jnL r) p1 u, rest, rfl, ?_, tl2, ?_, low2, g2, hfr.trans fr2⟩ mu
      · have := (ins_at (same := sameK) (jn := jnL r) (u := u) (gp e he) (by rw [gu]; exact hs) (fun z y hz hy => by
          rw [gp z (by omega)] at hy
          rw [← Option.some.inj hy, gu]
          exact hf z hz)).1
        rw [this]; exact hp1
      · rw [← fo_yes J hm]; exact hfin
    · refine gt (by rw [vv_le (by omega) (by omega)]; omega) ?_
      rw [dnI_dn (by omega)]
      have hm : mtB sameK p1 u = false := mt_none (fun z x hz => by
        have hzl : z < i + 1 := by
          by_cases c : z < i + 1
          · exact c
          · rw [List.getElem?_eq_none (by omega)] at hz; exact absurd hz (by simp)
        rw [gp z hzl] at hz
        rw [← Option.some.inj hz, gu]
        exact hno z hzl)
      refine hK _ _ _ ⟨rfl, i + 1, r', p1, u :: rest, rfl, hp1, htl2, ?_, hlow, hgd, hfr⟩ mu
      rw [← hfin, fo_no J hm, List.append_assoc]
      rfl
section MG7
variable {M : xS} {g na gi : Nat}
theorem w7_isSame {t o : Nat} (hg : g < 6) (ht : t < 5) (ho : o < 5) {Q : Int32 → xS → Prop} (k : Q (b2 (sameK (blk (mrow M g) t) (blk (mrow M g) o))) M) : wp_X7_isSameRegion (nI g) (nI t) (nI o) M Q := by
  unfold wp_X7_isSameRegion
  refine wl1 (wp_X7_isSameRegion_3 (nI g) (nI t) (nI o) Q) (fun K => wp_X7_isSameRegion_3_b (nI g) (nI t) (nI o) K Q) (fun _ _ _ => rfl) (fun M' v => M' = M ∧ ∃ j, j ≤ 12 ∧ v = nI j ∧ ∀ x, x < j → blk (mrow M g) t x = blk (mrow M g) o x) (fun _ v => 12 - v.toNatClampNeg) ⟨rfl, 0, by omega, rfl, fun x h => by omega⟩ ?_
  rintro M' v K ⟨rfl, j, hj, rfl, h⟩ hK
  unfold wp_X7_isSameRegion_3_b wp_X7_tupleAt
  by_cases c : j = 12
  · subst c
    rw [sameK_iff.mpr h] at k
    exact gt (by decide) ⟨Or.inr rfl, k⟩
  · refine gf (by rw [nl12, vv_le (by omega) (by omega)]; omega) (v7_of (y := tb t + j) rfl (by simp only [nl76, nl87, vv_mul, nI_add]; rfl) hg (by unfold tb; omega) (v7_of (y := tb o + j) rfl (by simp only [nl76, nl87, vv_mul, nI_add]; rfl) hg (by unfold tb; omega) ?_))
    have e1 := blk_rg (r := mrow M' g) (t := t) (x := j) (by omega)
    have e2 := blk_rg (r := mrow M' g) (t := o) (x := j) (by omega)
    by_cases c1 : mrow M' g (tb t + j) = mrow M' g (tb o + j)
    · refine gt c1 ?_
      rw [nI_1]
      refine hK _ _ ⟨rfl, j + 1, by omega, rfl, fun x hx => ?_⟩ (by rw [vv_clI (by omega), vv_clI (by omega)]; omega)
      by_cases e : x = j
      · rw [e, e1, e2]; exact c1
      · exact h x (by omega)
    · have : sameK (blk (mrow M' g) t) (blk (mrow M' g) o) = false := by
        cases hs : sameK (blk (mrow M' g) t) (blk (mrow M' g) o)
        · rfl
        · have := sameK_iff.mp hs j (by omega)
          rw [e1, e2] at this
          exact absurd this c1
      rw [this] at k
      exact gf c1 ⟨Or.inl rfl, k⟩
theorem w7_joins {e t : Nat} (hg : g < 6) (hR : RowOk na gi (mrow M g)) (hb : BdP (mrow M g)) (he : e < t) (ht : t < rT (mrow M g)) {Q : xS → Prop}
    (k : ∀ M' X Y, MFr M M' g → (∀ s, inS (rN (mrow M g)) s = true → X s = dX (mrow M g) e s + dX (mrow M g) t s ∧ Y s = dY (mrow M g) e s + dY (mrow M g) t s) → mrow M' g = rmR (upT (mrow M g) e (wrB (mrow M g) e X Y)) t (rT (mrow M g)) → Q M') : wp_X7_joins (nI g) (nI e) (nI t) M Q := by
  have hN := hR.2.1.1
  have hT5 := hR.2.2.2.1.1
  unfold wp_X7_joins
  refine w7_layD hg hR hb ht (fun M1 hf hf2 hv => ?_)
  have er1 : mrow M1 g = mrow M g := by unfold mrow; rw [hf 11 (by omega) (by omega)]
  refine wl1 (wp_X7_joins_9 (nI g) (nI e) (nI t) Q) (fun K => wp_X7_joins_9_b (nI g) (nI e) (nI t) K Q) (fun _ _ _ => rfl)
    (fun M' v => ∃ j, j ≤ rN (mrow M g) + 1 ∧ v = nI j ∧ (∀ k, k ≠ 29 → k ≠ 30 → M'.1 k = M1.1 k) ∧ ∀ p, p < j → M'.1 29 0 (sby (rN (mrow M g)) p) = dX (mrow M g) e (sby (rN (mrow M g)) p) + dX (mrow M g) t (sby (rN (mrow M g)) p) ∧ M'.1 30 0 (sby (rN (mrow M g)) p) = dY (mrow M g) e (sby (rN (mrow M g)) p) + dY (mrow M g) t (sby (rN (mrow M g)) p)) (fun _ v => 100 - v.toNatClampNeg) ⟨0, by omega, rfl, fun _ _ _ => rfl, fun p h => by omega⟩ ?_
  rintro M' v K ⟨j, hj, rfl, hf', hs⟩ hK
  have er : ∀ M'' : xS, (∀ k, k ≠ 29 → k ≠ 30 → M''.1 k = M1.1 k) → mrow M'' g = mrow M g := fun M'' h => by rw [← er1]; unfold mrow; rw [h 11 (by omega) (by omega)]
  unfold wp_X7_joins_9_b
  refine v7_of rfl nl2 hg (by omega) ?_
  rw [er M' hf', hR.2.1.2]
  by_cases c : j = rN (mrow M g) + 1
  · subst c
    refine gt (by rw [vv_lt (by omega) (by omega)]; omega) ?_
    refine wl1 (wp_X7_joins_86 (nI g) (nI e) (nI t) Q) (fun K => wp_X7_joins_86_b (nI g) (nI e) (nI t) K Q) (fun _ _ _ => rfl)
      (fun M'' v => ∃ i, i ≤ 25 ∧ v = nI i ∧ (∀ k, k ≠ 27 → k ≠ 28 → M''.1 k = M'.1 k) ∧ ∀ s, s < i → M''.1 27 0 s = M'.1 29 0 s ∧ M''.1 28 0 s = M'.1 30 0 s) (fun _ v => 25 - v.toNatClampNeg) ⟨0, by omega, rfl, fun _ _ _ => rfl, fun s h => by omega⟩ ?_
    rintro M'' v2 K2 ⟨i, hi, rfl, hf'', hs''⟩ hK2
    have er2 : mrow M'' g = mrow M g := by rw [← er M' hf']; unfold mrow; rw [hf'' 11 (by omega) (by omega)]
    unfold wp_X7_joins_86_b
    by_cases c2 : i = 25
    · subst c2
      refine gt (by decide) (w7_touchA hg (by rw [er2]; exact hR) (by rw [er2]; omega) (fun M3 q1 q2 q3 q4 => ?_))
      rw [er2] at q4
      have m3 : mrow M3 g 3 = nI (rT (mrow M g)) := by rw [q4, up_low (by omega)]; exact hR.2.2.2.1.2
      refine w7_remove hg m3 hT5 ht (fun M4 s1 s2 s3 => k M4 _ _ ?_ ?_ (by rw [← q4]; exact funext s3))
      · refine ⟨fun k hk => ?_, fun z y hz hy => ?_⟩
        · have : k ≠ 11 ∧ k ≠ 27 ∧ k ≠ 28 ∧ k ≠ 29 ∧ k ≠ 30 := by unfold kM at hk; omega
          rw [s1 k this.1, q1 k this.1, hf'' k this.2.1 this.2.2.1, hf' k this.2.2.2.1 this.2.2.2.2, hf k this.2.1 this.2.2.1]
        · rw [s2 z y hz hy, q3 z y hz hy]
          unfold mrow
          rw [hf'' 11 (by omega) (by omega), hf' 11 (by omega) (by omega), hf 11 (by omega) (by omega)]
      · intro s hi
        obtain ⟨p, hp, rfl⟩ := sby_of hi
        have h25 := (sby_to hN hp).2
        obtain ⟨a1, a2⟩ := hs'' _ h25
        obtain ⟨b1, b2⟩ := hs p (by omega)
        exact ⟨a1.trans b1, a2.trans b2⟩
    · have hin := vv_in (k := i) (N := 25) (by omega) (by omega)
      refine gf (by rw [nl24, vv_lt (by omega) (by omega)]; omega) ⟨hin, hin, hin, hin, ?_⟩
      rw [vv_clI (by omega), nI_1, xI_k (k' := 30) (by omega), hf'' 29 (by omega) (by omega), hf'' 30 (by omega) (by omega)]
      refine hK2 _ _ ⟨i + 1, by omega, rfl, fun k h1 h2 => by rw [xI_k h2, xI_k h1]; exact hf'' k h1 h2, fun s hsi => ?_⟩ (by rw [vv_clI (by omega), vv_clI (by omega)]; omega)
      rw [xI_k (k := 28) (k' := 27) (by omega), xI_1 _ 27, xI_1 _ 28]
      by_cases es : s = i
      · rw [if_pos ⟨rfl, rfl, es⟩, if_pos ⟨rfl, rfl, es⟩, es]; exact ⟨rfl, rfl⟩
      · rw [if_neg (fun h => es h.2.2), if_neg (fun h => es h.2.2), xI_k (by omega)]; exact hs'' s (by omega)
  · have hsb := sby_to hN (show j ≤ rN (mrow M g) by omega)
    have hin := vv_in (k := sby (rN (mrow M g)) j) (N := 25) hsb.2 (by omega)
    obtain ⟨v1, v2⟩ := hv _ hsb.1
    refine gf (by rw [vv_lt (by omega) (by omega)]; omega) (v7_slotS (N := rN (mrow M g)) hg (by rw [er M' hf']; exact hR.2.1.2) hN (by omega) ⟨hin, w7_delta (na := na) (gi := gi) hg (by rw [er M' hf']; exact hR) (by rw [er M' hf']; exact hb) (by rw [er M' hf']; omega) (by rw [er M' hf']; exact sby_ok hN (by omega)) ⟨hin, hin, ?_⟩⟩)
    rw [er M' hf', vv_clI (k := sby (rN (mrow M g)) j) (by omega), hf' 27 (by omega) (by omega), v1]
    have hf1 : ∀ x : Int32, ∀ k, k ≠ 29 → k ≠ 30 → (xI M' 29 0 (sby (rN (mrow M g)) j) x).1 k = M1.1 k := fun x k h1 h2 => by rw [xI_k h1]; exact hf' k h1 h2
    refine w7_delta (na := na) (gi := gi) hg (by rw [er _ (hf1 _)]; exact hR) (by rw [er _ (hf1 _)]; exact hb) (by rw [er _ (hf1 _)]; omega) (by rw [er _ (hf1 _)]; exact sby_ok hN (by omega)) ⟨hin, ?_⟩
    rw [er _ (hf1 _), nI_1, xI_k (k' := 28) (by omega), hf' 28 (by omega) (by omega), v2]
    refine hK _ _ ⟨j + 1, by omega, rfl, fun k h1 h2 => by rw [xI_k h2, xI_k h1]; exact hf' k h1 h2, fun p hp => ?_⟩ (by rw [vv_clI (by omega), vv_clI (by omega)]; omega)
    rw [xI_k (k := 30) (k' := 29) (by omega), xI_1 _ 29, xI_1 _ 30]
    by_cases ep : p = j
    · rw [if_pos ⟨rfl, rfl, by rw [ep]⟩, if_pos ⟨rfl, rfl, by rw [ep]⟩, ep]
      exact ⟨Int32.add_comm _ _, Int32.add_comm _ _⟩
    · have hne : ¬ sby (rN (mrow M g)) p = sby (rN (mrow M g)) j := by rw [sby_inj hN (by omega) (by omega)]; exact ep
      rw [if_neg (fun h => hne h.2.2), if_neg (fun h => hne h.2.2), xI_k (by omega)]
      exact hs p (by omega)
end MG7
