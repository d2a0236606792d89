theorem w7_remove2 {M : xS} {g t T : Nat} {Q : xS → Prop} (hg : g < 6) (hT : mrow M g 3 = nI T) (hT5 : T ≤ 5) (ht : t < T)
    (k : ∀ M', (∀ k, k ≠ 11 → M'.1 k = M.1 k) → M'.2 = M.2 → (∀ z y, z ≠ g → y < 511 → mrow M' z y = mrow M z y) → (∀ y, mrow M' g y = rmR (mrow M g) t T y) → Q M') : wp_X7_removeTuple (nI g) (nI t) M Q := by
  have tbl : tb T ≤ 511 := by unfold tb; omega
  have t76 : 76 ≤ tb t := by unfold tb; omega
  have tle : tb t ≤ tb (T - 1) := by unfold tb; omega
  have tT : tb (T - 1) + 87 = tb T := by unfold tb; omega
  unfold wp_X7_removeTuple wp_X7_tupleAt
  refine v7_of rfl nl3 hg (by omega) ?_
  rw [hT, nI_s1 (by omega) (by omega)]
  have e0 : (76 : Int32) + 87 * nI t = nI (tb t) := by simp only [nl76, nl87, vv_mul, nI_add]; rfl
  have e1 : (76 : Int32) + 87 * nI (T - 1) = nI (tb (T - 1)) := by simp only [nl76, nl87, vv_mul, nI_add]; rfl
  rw [e0]
  refine wl2 (wp_X7_removeTuple_15 (nI g) Q) (fun K => wp_X7_removeTuple_15_b (nI g) K Q) (fun _ _ _ _ => rfl)
    (fun M' v3 v4 => ∃ j, tb t ≤ j ∧ j ≤ tb (T - 1) ∧ v3 = nI (T - 1) ∧ v4 = nI j ∧ (∀ k, k ≠ 11 → M'.1 k = M.1 k) ∧ M'.2 = M.2 ∧ (∀ z y, z ≠ g → y < 511 → mrow M' z y = mrow M z y) ∧ (∀ y, mrow M' g y = if tb t ≤ y ∧ y < j then mrow M g (y + 87) else mrow M g y))
    (fun _ _ v => 600 - v.toNatClampNeg) ⟨tb t, by omega, tle, rfl, rfl, fun _ _ => rfl, rfl, fun _ _ _ _ => rfl, fun y => by rw [if_neg (by omega)]⟩ ?_
  rintro M' v3 v4 K ⟨j, hj1, hj2, rfl, rfl, h1, hh, h2, h3⟩ hK
  unfold wp_X7_removeTuple_15_b wp_X7_tupleAt
  rw [e1]
  by_cases c : j = tb (T - 1)
  · refine gt (by rw [vv_le (by omega) (by omega)]; omega) (v7_put rfl nl3 hg (by omega) (k _ (fun k hk => by rw [xI_k hk]; exact h1 k hk) hh (fun z y hz hy => by rw [mrow_put_ne M' _ hz (by omega) hy]; exact h2 z y hz hy) (fun y => ?_)))
    rw [mrow_put, h3, c]
    rfl
  · refine gf (by rw [vv_le (by omega) (by omega)]; omega) (v7_of (y := j + 87) rfl (by rw [nl87, nI_add]) hg (by omega) (v7_put rfl rfl hg (by omega) ?_))
    rw [nI_1]
    refine hK _ _ _ ⟨j + 1, by omega, by omega, rfl, rfl, fun k hk => by rw [xI_k hk]; exact h1 k hk, hh, fun z y hz hy => by rw [mrow_put_ne M' _ hz (by omega) hy]; exact h2 z y hz hy, fun y => ?_⟩ (by rw [vv_clI (by omega), vv_clI (by omega)]; omega)
    rw [mrow_put, h3, h3]
    by_cases e : y = j
    · rw [if_pos e, if_neg (by omega), if_pos (by omega), e]
    · rw [if_neg e]
      by_cases c1 : tb t ≤ y ∧ y < j
      · rw [if_pos c1, if_pos (by omega)]
      · rw [if_neg c1, if_neg (by omega)]

def eU (D : Nat → Int) (sel : Nat → Bool) : Nat → Int
  | 0 => 0
  | t + 1 => eU D sel t + (if sel t = true then D t else 0)
theorem eU_nn {D : Nat → Int} {sel : Nat → Bool} (h : ∀ t, 0 ≤ D t) : ∀ k j, j ≤ k → 0 ≤ eU D sel j ∧ eU D sel j ≤ eU D sel k
  | 0, j, hj => by rw [show j = 0 by omega]; exact ⟨Int.le_refl _, Int.le_refl _⟩
  | k + 1, j, hj => by
    have hk := h k
    have ih := eU_nn (sel := sel) h k k (Nat.le_refl _)
    by_cases c : j = k + 1
    · rw [c]
      refine ⟨?_, Int.le_refl _⟩
      show 0 ≤ eU D sel k + (if sel k = true then D k else 0)
      split <;> omega
    · have ih2 := eU_nn (sel := sel) h k j (by omega)
      refine ⟨ih2.1, ?_⟩
      show eU D sel j ≤ eU D sel k + (if sel k = true then D k else 0)
      split <;> omega
def BdF (P E B : Int) (D0 : Nat → Int) (j : Nat) (r : Nat → Int32) : Prop := ∃ D : Nat → Int, (∀ t, 0 ≤ D t) ∧ (∀ i, i < j → D i = D0 i) ∧ B + E + D 0 + D 1 + D 2 + D 3 + D 4 ≤ P ∧ (∀ t, t < rT r → ∀ s, s < 25 → fl r t s = 1 → rng (dlx r t s) (-D t) (D t) ∧ rng (dly r t s) (-D t) (D t))
theorem BdF.rm {P E B : Int} {D0 : Nat → Int} {i : Nat} {r : Nat → Int32} (hT5 : rT r ≤ 5) (hi : i < rT r) (h : BdF P E B D0 (i + 1) r) : BdF P (E + D0 i) B D0 i (rmR r i (rT r)) := by
  obtain ⟨D, h1, h2, h3, h4⟩ := h
  have hi0 := h2 i (by omega)
  refine ⟨fun t => if t < i then D t else if t < 4 then D (t + 1) else 0, fun t => ?_, fun t ht => ?_, ?_, fun t ht s hs hf => ?_⟩
  · have := h1 t
    have := h1 (t + 1)
    show 0 ≤ if t < i then D t else if t < 4 then D (t + 1) else 0
    split
    · omega
    · split <;> omega
  · show (if t < i then D t else if t < 4 then D (t + 1) else 0) = D0 t
    rw [if_pos ht]; exact h2 t (by omega)
  · have a0 := h1 0
    have a1 := h1 1
    have a2 := h1 2
    have a3 := h1 3
    have a4 := h1 4
    have hi5 : i = 0 ∨ i = 1 ∨ i = 2 ∨ i = 3 ∨ i = 4 := by omega
    rcases hi5 with rfl | rfl | rfl | rfl | rfl <;> simp <;> omega
  · rw [rm_T hT5] at ht
    have ef : fl (rmR r i (rT r)) t s = fl r (if t < i then t else t + 1) s := by unfold fl; rw [Nat.add_assoc, rm_tup (by omega) (by omega), ← Nat.add_assoc]
    have ex : dlx (rmR r i (rT r)) t s = dlx r (if t < i then t else t + 1) s := by unfold dlx; rw [Nat.add_assoc, rm_tup (by omega) (by omega), ← Nat.add_assoc]
    have ey : dly (rmR r i (rT r)) t s = dly r (if t < i then t else t + 1) s := by unfold dly; rw [Nat.add_assoc, rm_tup (by omega) (by omega), ← Nat.add_assoc]
    rw [ef] at hf
    rw [ex, ey]
    have := h4 (if t < i then t else t + 1) (by split <;> omega) s hs hf
    show rng _ (-(if t < i then D t else if t < 4 then D (t + 1) else 0)) (if t < i then D t else if t < 4 then D (t + 1) else 0) ∧ rng _ (-(if t < i then D t else if t < 4 then D (t + 1) else 0)) (if t < i then D t else if t < 4 then D (t + 1) else 0)
    have De : (if t < i then D t else if t < 4 then D (t + 1) else 0) = D (if t < i then t else t + 1) := by
      by_cases c : t < i
      · rw [if_pos c, if_pos c]
      · rw [if_neg c, if_neg c, if_pos (by omega)]
    rw [De]
    exact this
theorem BdF.ta {P E B : Int} {D0 : Nat → Int} {i : Nat} {r : Nat → Int32} {na gi : Nat} (hP : P ≤ PP) (hE : 0 ≤ E) (hB4 : 4000 ≤ B) (hR : RowOk na gi r) (hi : i < rT r) (hb : BdP r) {X Y : Nat → Int32} (hX : ∀ s, inS (rN r) s = true → X s = dX r i s ∧ Y s = dY r i s) (h : BdF P E B D0 (i + 1) r) : BdF P E B D0 i (upT r i (wrB r i X Y)) := by
  obtain ⟨D, h1, h2, h3, h4⟩ := h
  have hN := hR.2.1.1
  have hO := hR.2.2.2.2.2.2 i hi
  have hT5 := hR.2.2.2.1.1
  refine ⟨D, h1, fun t ht => h2 t (by omega), h3, fun t ht s hs hf => ?_⟩
  rw [up_T] at ht
  by_cases e : t = i
  · subst e
    rw [wr_fl hs] at hf
    rw [wr_dx hs, wr_dy hs]
    cases hq : inS (rN r) s
    · rw [hq, if_neg (by decide)] at hf
      have hns : ¬ (s < rN r ∨ s = 24) := fun h => by rw [inS_iff.mpr h] at hq; exact absurd hq (by decide)
      rw [hO.2.2.2.1 s (by omega) (by omega)] at hf
      exact absurd hf (by decide)
    · rw [if_pos rfl, if_pos rfl, (hX s hq).1, (hX s hq).2]
      have a0 := h1 0
      have a1 := h1 1
      have a2 := h1 2
      have a3 := h1 3
      have a4 := h1 4
      have ht5 : t = 0 ∨ t = 1 ∨ t = 2 ∨ t = 3 ∨ t = 4 := by omega
      have hD : D t ≤ PP := by rcases ht5 with rfl | rfl | rfl | rfl | rfl <;> omega
      exact ⟨dv_rng hb hN (inS_iff.mp hq) (h1 t) hD (h4 t ht), dv_rng hb hN (inS_iff.mp hq) (h1 t) hD (h4 t ht)⟩
  · have f1 : fl (upT r i (wrB r i X Y)) t s = fl r t s := by unfold fl; rw [Nat.add_assoc, up_ne (by omega) e]
    have f2 : dlx (upT r i (wrB r i X Y)) t s = dlx r t s := by unfold dlx; rw [Nat.add_assoc, up_ne (by omega) e]
    have f3 : dly (upT r i (wrB r i X Y)) t s = dly r t s := by unfold dly; rw [Nat.add_assoc, up_ne (by omega) e]
    rw [f1] at hf
    rw [f2, f3]
    exact h4 t ht s hs hf
theorem kp_tc {r b : Nat → Int32} {pb : Nat} : kpF pb (tcF r b) = kpF pb b := by
  unfold kpF
  rw [dpk_key (c := b) (fun x hx => ?_) 4 (by omega)]
  unfold tcF
  by_cases c : r 0 = 0
  · rw [if_pos c]; exact tcL_key hx
  · rw [if_neg c]
def fd7 (r : Nat → Int32) (pb : Nat) : List (Nat → Int32) := ((tl r).filter (kpF pb)).map (tcF r)
theorem fd7_eq (r : Nat → Int32) (pb : Nat) : fd7 r pb = fdL r pb := by
  unfold fd7 fdL
  rw [List.filter_map]
  congr 1
  congr 1
  funext b
  exact kp_tc.symm
theorem fd_len {r : Nat → Int32} {pb : Nat} : (fdL r pb).length + cS (selF r pb) (rT r) = rT r := by
  rw [← fd7_eq]
  unfold fd7
  rw [List.length_map]
  have key : ∀ k, (((List.range k).map (blk r)).filter (kpF pb)).length + cS (selF r pb) k = k := by
    intro k
    induction k with
    | zero => rfl
    | succ k ih =>
      have e : cS (selF r pb) (k + 1) = cS (selF r pb) k + (if selF r pb k = true then 1 else 0) := rfl
      rw [List.range_succ, List.map_append, List.filter_append, List.length_append, e]
      have ek : kpF pb (blk r k) = !selF r pb k := by unfold kpF selF; rw [dpk_blk 4 (by omega)]
      have e2 : (List.filter (kpF pb) (List.map (blk r) [k])).length + (if selF r pb k = true then 1 else 0) = 1 := by
        show (List.filter (kpF pb) [blk r k]).length + _ = 1
        rw [List.filter_cons, ek]
        cases selF r pb k
        · rfl
        · rfl
      omega
  exact key (rT r)
section FOLD7B
variable {M : xS} {g na gi pb : Nat} {r : Nat → Int32} {P B : Int} {D0 : Nat → Int}
theorem w7_foldDown (hg : g < 6) (hr : mrow M g = r) (hn : na ≤ 4) (h0 : M.1 0 0 0 = nI na) (hPb : ∀ a, pb.testBit a = decide (a < na ∧ ¬ M.1 6 0 a = 0)) (hR : RowOk na gi r) (hP : P ≤ PP) (hB4 : 4000 ≤ B) (hD : ∀ t, 0 ≤ D0 t) (hbase : rng (r 1) (-B) B ∧ ∀ p, p < rN r → rng (r (4 + p)) (-B) B ∧ rng (r (28 + p)) (-B) B) (hBd : BdF P 0 B D0 (rT r) r) {v2 : Int32} {Q : Int32 → xS → Prop}
    (k : ∀ M', MFr M M' g → M'.2 = M.2 → (∀ y, y < 76 → y ≠ 3 → r y = mrow M' g y) → tl (mrow M' g) = fd7 r pb → RowOk na gi (mrow M' g) → BdF P (eU D0 (selF r pb) (rT r)) B D0 0 (mrow M' g) → wp_X7_moveBases (nI g) M' (fun S1 => Q v2 S1)) : ∃ n5, wp_X7_fold_97 (nI g) Q n5 M v2 (dnI (rT r)) := by
  have hN := hR.2.1.1
  have hT5 := hR.2.2.2.1.1
  refine wl2 (wp_X7_fold_97 (nI g) Q) (fun K => wp_X7_fold_97_b (nI g) K Q) (fun _ _ _ _ => rfl)
    (fun M' a b => a = v2 ∧ ∃ (j : Nat) (p rest : List (Nat → Int32)), b = dnI j ∧ j ≤ rT r ∧ p.length = j ∧ tl (mrow M' g) = p ++ rest ∧ (∀ i, i < j → p[i]? = some (blk r i)) ∧ (p.filter (kpF pb)).map (tcF r) ++ rest = fd7 r pb ∧ (∀ y, y < 76 → y ≠ 3 → r y = mrow M' g y) ∧ MFr M M' g ∧ M'.2 = M.2 ∧ RowOk na gi (mrow M' g) ∧ BdF P (eU D0 (selF r pb) (rT r) - eU D0 (selF r pb) j) B D0 j (mrow M' g))
    (fun _ _ v => v.toInt.toNat + (if v < 0 then 0 else 1)) ⟨rfl, rT r, tl r, [], rfl, Nat.le_refl _, tl_len r, by rw [hr, List.append_nil], fun i hi => tl_get hi, by rw [List.append_nil]; rfl, fun _ _ _ => by rw [hr], MFr.refl _ _, rfl, by rw [hr]; exact hR, by rw [hr, Int.sub_self]; exact hBd⟩ ?_
  rintro M' a b K ⟨rfl, j, p, rest, rfl, hjT, hp, htl, hpre, hfin, hlow, hfr, hf2, hR', hBd'⟩ hK
  have hT5' := hR'.2.2.2.1.1
  have hN' := hR'.2.1.1
  have hlen : rT (mrow M' g) = p.length + rest.length := by rw [← tl_len (mrow M' g), htl, List.length_append]
  have eN : rN (mrow M' g) = rN r := rN_fr (hlow 2 (by omega) (by omega)).symm
  unfold wp_X7_fold_97_b wp_X7_fold_140
  cases j with
  | zero =>
    have hpn : p = [] := List.eq_nil_of_length_eq_zero hp
    subst hpn
    refine gt ((dnI_lt (by omega)).mpr rfl) (k M' hfr hf2 hlow (htl.trans hfin) hR' ?_)
    have e : eU D0 (selF r pb) 0 = 0 := rfl
    rw [e, Int.sub_zero] at hBd'
    exact hBd'
  | succ i =>
    obtain ⟨p1, u, rfl, hp1⟩ := snoc_ex p i hp
    have htl2 : tl (mrow M' g) = p1 ++ u :: rest := by rw [htl, List.append_assoc]; rfl
    have hi : i < rT (mrow M' g) := by omega
    have gu : u = blk (mrow M' g) i := by
      have := tl_get hi
      rw [htl2, List.getElem?_append_right (by omega), hp1, Nat.sub_self] at this
      exact Option.some.inj this
    have gu2 : u = blk r i := by
      have := hpre i (by omega)
      rw [List.getElem?_append_right (by omega), hp1, Nat.sub_self] at this
      exact Option.some.inj this
    have hpre1 : ∀ z, z < i → p1[z]? = some (blk r z) := fun z hz => by
      have := hpre z (by omega)
      rw [List.getElem?_append_left (by omega)] at this
      exact this
    have esel : selF (mrow M' g) pb i = selF r pb i := by
      unfold selF
      rw [← dpk_blk 4 (by omega), ← dpk_blk 4 (by omega), ← gu, gu2]
    have eu : eU D0 (selF r pb) (i + 1) = eU D0 (selF r pb) i + (if selF r pb i = true then D0 i else 0) := rfl
    have hEn := eU_nn (sel := selF r pb) hD (rT r) (i + 1) hjT
    have ku : kpF pb u = !selF r pb i := by unfold kpF selF; rw [gu2, dpk_blk 4 (by omega)]
    rw [dnI_s] at hK ⊢
    have mu := dn_mu (j := i) (by omega)
    rw [List.filter_append, List.map_append] at hfin
    refine gf (by rw [nl0, vv_lt (by omega) (by omega)]; omega) (w7_isFolded (pb := pb) (n := rN (mrow M' g)) hg (by omega) hn (by rw [hfr.1 0 (Or.inl rfl)]; exact h0) (by rw [hfr.1 6 (by unfold kM; omega)]; exact hPb) (hR'.2.2.2.2.2.2 i hi) ?_)
    rw [esel, dnI_dn (by omega)]
    cases hs : selF r pb i
    · rw [hs] at eu ku
      rw [if_neg (show ¬ (false = true) by decide)] at eu
      have e1 : List.map (tcF r) (List.filter (kpF pb) [u]) = [tcF r u] := by rw [List.filter_cons, ku]; rfl
      rw [e1, List.append_assoc] at hfin
      refine gt rfl (v7_of rfl nl0 hg (by omega) ?_)
      rw [← hlow 0 (by omega) (by omega)]
      by_cases c0 : r 0 = 0
      · have bp : BdP (mrow M' g) := by
          obtain ⟨D, h1, h2, h3, h4⟩ := hBd'
          have a0 := h1 0
          have a1 := h1 1
          have a2 := h1 2
          have a3 := h1 3
          have a4 := h1 4
          refine ⟨by rw [← hlow 1 (by omega) (by omega)]; exact rng_mono hbase.1 (by omega) (by omega), fun q hq => ?_, fun t ht s hs' hf => ?_⟩
          · rw [eN] at hq
            rw [← hlow (4 + q) (by omega) (by omega), ← hlow (28 + q) (by omega) (by omega)]
            exact ⟨rng_mono (hbase.2 q hq).1 (by omega) (by omega), rng_mono (hbase.2 q hq).2 (by omega) (by omega)⟩
          · have ht5 : t = 0 ∨ t = 1 ∨ t = 2 ∨ t = 3 ∨ t = 4 := by omega
            have hDt : D t ≤ PP := by rcases ht5 with rfl | rfl | rfl | rfl | rfl <;> omega
            obtain ⟨q1, q2⟩ := h4 t ht s hs' hf
            exact ⟨rng_mono q1 (by omega) (by omega), rng_mono q2 (by omega) (by omega)⟩
        refine gt c0 (w7_layD hg hR' bp hi (fun M2 l1 l2 l3 => ?_))
        have er2 : mrow M2 g = mrow M' g := by unfold mrow; rw [l1 11 (by omega) (by omega)]
        refine w7_touchA hg (by rw [er2]; exact hR') (by rw [er2]; exact hi) (fun M3 q1 q2 q3 q4 => ?_)
        rw [er2] at q4
        have hX : ∀ s, inS (rN (mrow M' g)) s = true → M2.1 27 0 s = dX (mrow M' g) i s ∧ M2.1 28 0 s = dY (mrow M' g) i s := l3
        have hblk : blk (mrow M3 g) i = tcF r u := by
          rw [q4, blk_up (fun x hx => wrB_hi hx), wr_tc (b0 := r) hN' (fun y hy h3 => hlow y hy h3) hX, ← gu]
          unfold tcF
          rw [if_pos c0]
        have T3 : rT (mrow M3 g) = rT (mrow M' g) := by rw [q4, up_T]
        have htl3 : tl (mrow M3 g) = p1 ++ tcF r u :: rest := by
          refine tl_ext (by rw [T3, hlen]; simp; omega) (fun z hz => ?_)
          rw [T3] at hz
          by_cases ez : z = i
          · rw [ez, List.getElem?_append_right (by omega), hp1, Nat.sub_self, hblk]; rfl
          · have e4 : blk (mrow M3 g) z = blk (mrow M' g) z := by rw [q4, blk_ne ez]
            rw [e4, ← tl_get hz, htl2]
            by_cases cz : z < i
            · rw [List.getElem?_append_left (by omega), List.getElem?_append_left (by omega)]
            · rw [List.getElem?_append_right (by omega), List.getElem?_append_right (by omega)]
              obtain ⟨d, hd⟩ : ∃ d, z - p1.length = d + 1 := ⟨z - p1.length - 1, by omega⟩
              rw [hd]; rfl
        have hY : dY (mrow M' g) i 24 = 0 := dY24 (hR'.2.2.2.2.2.2 i hi)
        refine hK _ _ _ ⟨rfl, i, p1, tcF r u :: rest, rfl, by omega, hp1, htl3, hpre1, hfin, fun y hy h3 => by rw [q4, up_low hy]; exact hlow y hy h3, hfr.trans ⟨fun k hk => ?_, fun z y hz hy => ?_⟩, ?_, ?_, ?_⟩ mu
        · have : k ≠ 11 ∧ k ≠ 27 ∧ k ≠ 28 := by unfold kM at hk; omega
          rw [q1 k this.1, l1 k this.2.1 this.2.2]
        · rw [q3 z y hz hy]
          unfold mrow
          rw [l1 11 (by omega) (by omega)]
        · rw [q2, l2, hf2]
        · rw [q4]
          exact up_ok hR' hi (wr_tup hN' (hR'.2.2.2.2.2.2 i hi) (by
            show M2.1 28 0 24 = 0
            rw [(hX 24 (inS_iff.mpr (Or.inr rfl))).2]; exact hY))
        · rw [q4]
          rw [eu, Int.add_zero] at hBd'
          exact hBd'.ta hP (by omega) hB4 hR' hi bp hX
      · refine gf c0 (hK _ _ _ ⟨rfl, i, p1, u :: rest, rfl, by omega, hp1, htl2, hpre1, ?_, hlow, hfr, hf2, hR', ?_⟩ mu)
        · have : tcF r u = u := by unfold tcF; rw [if_neg c0]
          rw [this] at hfin
          exact hfin
        · rw [eu, Int.add_zero] at hBd'
          obtain ⟨D, h1, h2, h3, h4⟩ := hBd'
          exact ⟨D, h1, fun z hz => h2 z (by omega), h3, h4⟩
    · rw [hs] at eu ku
      rw [if_pos rfl] at eu
      have e1 : List.map (tcF r) (List.filter (kpF pb) [u]) = [] := by rw [List.filter_cons, ku]; rfl
      rw [e1, List.append_nil] at hfin
      refine gf (by decide) (w7_remove2 hg hR'.2.2.2.1.2 hT5' hi (fun M3 q1 q2 q3 q4 => ?_))
      have er3 : mrow M3 g = rmR (mrow M' g) i (rT (mrow M' g)) := funext q4
      have htl3 : tl (mrow M3 g) = p1 ++ rest := by
        have := rm_tl hT5' htl2
        rw [hp1] at this
        rw [er3]; exact this
      refine hK _ _ _ ⟨rfl, i, p1, rest, rfl, by omega, hp1, htl3, hpre1, hfin, fun y hy h3 => by rw [er3, rm_lo hy h3]; exact hlow y hy h3, hfr.trans (MFr.rm q1 q3), q2.trans hf2, by rw [er3]; exact rm_ok hR' rfl hi, ?_⟩ mu
      rw [er3]
      have := hBd'.rm hT5' hi
      rw [eu] at this
      have e2 : eU D0 (selF r pb) (rT r) - (eU D0 (selF r pb) i + D0 i) + D0 i = eU D0 (selF r pb) (rT r) - eU D0 (selF r pb) i := by omega
      rw [e2] at this
      exact this
end FOLD7B
