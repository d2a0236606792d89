theorem sby_to {N k : Nat} (hN : N ≤ 24) (hk : k ≤ N) : inS N (sby N k) = true ∧ sby N k < 25 := by
  have := sby_ok hN hk
  exact ⟨inS_iff.mpr this, by omega⟩
theorem sby_of {N s : Nat} (h : inS N s = true) : ∃ k, k ≤ N ∧ sby N k = s := by
  rcases inS_iff.mp h with h | h
  · exact ⟨s, by omega, by unfold sby; rw [if_neg (by omega)]⟩
  · exact ⟨N, Nat.le_refl _, by unfold sby; rw [if_pos rfl, h]⟩
theorem sby_inj {N k j : Nat} (hN : N ≤ 24) (hk : k ≤ N) (hj : j ≤ N) : sby N k = sby N j ↔ k = j := by
  unfold sby
  split <;> split <;> omega
theorem v7_slotS {M : xS} {g k N : Nat} {Q : Int32 → xS → Prop} (hg : g < 6) (e : mrow M g 2 = nI N) (hN : N ≤ 24) (hk : k ≤ N) (h : Q (nI (sby N k)) M) : wp_X7_slotBy (nI g) (nI k) M Q := v7_slotBy hg e hN hk h
section LAYD
variable {M : xS} {g t na gi : Nat}
theorem w7_layD (hg : g < 6) (hR : RowOk na gi (mrow M g)) (hb : BdP (mrow M g)) (ht : t < rT (mrow M g)) {Q : xS → Prop}
    (k : ∀ M', (∀ k, k ≠ 27 → k ≠ 28 → M'.1 k = M.1 k) → M'.2 = M.2 → (∀ s, inS (rN (mrow M g)) s = true → M'.1 27 0 s = dX (mrow M g) t s ∧ M'.1 28 0 s = dY (mrow M g) t s) → Q M') : wp_X7_layDeltas (nI g) (nI t) M Q := by
  have hN := hR.2.1.1
  unfold wp_X7_layDeltas
  refine wl1 (wp_X7_layDeltas_2 (nI g) (nI t) Q) (fun K => wp_X7_layDeltas_2_b (nI g) (nI t) K Q) (fun _ _ _ => rfl)
    (fun M' v => ∃ j, j ≤ rN (mrow M g) + 1 ∧ v = nI j ∧ (∀ k, k ≠ 27 → k ≠ 28 → M'.1 k = M.1 k) ∧ M'.2 = M.2 ∧ ∀ p, p < j → M'.1 27 0 (sby (rN (mrow M g)) p) = dX (mrow M g) t (sby (rN (mrow M g)) p) ∧ M'.1 28 0 (sby (rN (mrow M g)) p) = dY (mrow M g) t (sby (rN (mrow M g)) p)) (fun _ v => 100 - v.toNatClampNeg) ⟨0, by omega, rfl, fun _ _ _ => rfl, rfl, fun p h => by omega⟩ ?_
  rintro M' v K ⟨j, hj, rfl, hf, hf2, hv⟩ hK
  have er : ∀ M'' : xS, (∀ k, k ≠ 27 → k ≠ 28 → M''.1 k = M.1 k) → mrow M'' g = mrow M g := fun M'' h => by unfold mrow; rw [h 11 (by omega) (by omega)]
  unfold wp_X7_layDeltas_2_b
  refine v7_of rfl nl2 hg (by omega) ?_
  rw [er M' hf, hR.2.1.2]
  by_cases c : j = rN (mrow M g) + 1
  · subst c
    refine gt (by rw [vv_lt (by omega) (by omega)]; omega) (k M' hf hf2 (fun s hs => ?_))
    obtain ⟨p, hp, rfl⟩ := sby_of hs
    exact hv p (by omega)
  · have hsb := sby_to hN (show j ≤ rN (mrow M g) by omega)
    have hin := vv_in (k := sby (rN (mrow M g)) j) (N := 25) hsb.2 (by omega)
    refine gf (by rw [vv_lt (by omega) (by omega)]; omega) (v7_slotS (N := rN (mrow M g)) hg (by rw [er M' hf]; exact hR.2.1.2) hN (by omega) (w7_delta (na := na) (gi := gi) hg (by rw [er M' hf]; exact hR) (by rw [er M' hf]; exact hb) (by rw [er M' hf]; exact ht) (by rw [er M' hf]; exact sby_ok hN (by omega)) ⟨hin, ?_⟩))
    rw [er M' hf]
    show wp_X7_deltaOf (nI g) (nI t) (nI (sby (rN (mrow M g)) j)) 1 (xI M' 27 0 (nI (sby (rN (mrow M g)) j)).toNatClampNeg (dX (mrow M g) t (sby (rN (mrow M g)) j))) _
    rw [vv_clI (k := sby (rN (mrow M g)) j) (by omega)]
    have hf1 : ∀ k, k ≠ 27 → k ≠ 28 → (xI M' 27 0 (sby (rN (mrow M g)) j) (dX (mrow M g) t (sby (rN (mrow M g)) j))).1 k = M.1 k := fun k h1 h2 => by rw [xI_k h1]; exact hf k h1 h2
    refine w7_delta (na := na) (gi := gi) hg (by rw [er _ hf1]; exact hR) (by rw [er _ hf1]; exact hb) (by rw [er _ hf1]; exact ht) (by rw [er _ hf1]; exact sby_ok hN (by omega)) ⟨hin, ?_⟩
    rw [er _ hf1, nI_1]
    refine hK _ _ ⟨j + 1, by omega, rfl, fun k h1 h2 => by rw [xI_k h2]; exact hf1 k h1 h2, hf2, fun p hp => ?_⟩ (by rw [vv_clI (by omega), vv_clI (by omega)]; omega)
    rw [xI_k (k' := 27) (by omega), xI_1 _ 27, xI_1 _ 28]
    by_cases e : p = j
    · rw [if_pos ⟨rfl, rfl, by rw [e]⟩, if_pos ⟨rfl, rfl, by rw [e]⟩, e]; exact ⟨rfl, rfl⟩
    · have hne : ¬ sby (rN (mrow M g)) p = sby (rN (mrow M g)) j := by rw [sby_inj hN (by omega) (by omega)]; exact e
      rw [if_neg (fun h => hne h.2.2), if_neg (fun h => hne h.2.2), xI_k (by omega)]
      exact hv p (by omega)
theorem row_ext {r r' : Nat → Int32} {t : Nat} {X Y : Nat → Int32} (ho : ∀ w, w < tb t + 12 ∨ tb t + 87 ≤ w → r' w = r w) (hs : ∀ s, s < 25 → fl r' t s = (if inS (rN r) s = true then 1 else fl r t s) ∧ dlx r' t s = (if inS (rN r) s = true then X s else dlx r t s) ∧ dly r' t s = (if inS (rN r) s = true then Y s else dly r t s)) : ∀ w, r' w = upT r t (wrB r t X Y) w := by
  intro w
  by_cases c : tb t ≤ w ∧ w < tb t + 87
  · obtain ⟨d, rfl⟩ : ∃ d, w = tb t + d := ⟨w - tb t, by omega⟩
    by_cases c1 : d < 12
    · rw [ho _ (by omega), wr_rg c1]
    · by_cases c2 : d < 37
      · obtain ⟨s, rfl⟩ : ∃ s, d = 12 + s := ⟨d - 12, by omega⟩
        have h1 := (hs s (by omega)).1
        have h2 := wr_fl (r := r) (t := t) (X := X) (Y := Y) (s := s) (by omega)
        unfold fl at h1 h2
        rw [← Nat.add_assoc, h1, h2]
      · by_cases c3 : d < 62
        · obtain ⟨s, rfl⟩ : ∃ s, d = 37 + s := ⟨d - 37, by omega⟩
          have h1 := (hs s (by omega)).2.1
          have h2 := wr_dx (r := r) (t := t) (X := X) (Y := Y) (s := s) (by omega)
          unfold dlx at h1 h2
          rw [← Nat.add_assoc, h1, h2]
        · obtain ⟨s, rfl⟩ : ∃ s, d = 62 + s := ⟨d - 62, by omega⟩
          have h1 := (hs s (by omega)).2.2
          have h2 := wr_dy (r := r) (t := t) (X := X) (Y := Y) (s := s) (by omega)
          unfold dly at h1 h2
          rw [← Nat.add_assoc, h1, h2]
  · rw [ho w (by omega)]
    unfold upT
    rw [if_neg c]
theorem gv_o {M : xS} {g t s : Nat} {x y : Int32} {z : Nat} (hs : s < 25) (h : z < tb t + 12 ∨ tb t + 87 ≤ z) : mrow (gvM M g t s x y) g z = mrow M g z := by
  rw [gv_row, if_neg (by omega), if_neg (by omega), if_neg (by omega)]
theorem w7_touchA (hg : g < 6) (hR : RowOk na gi (mrow M g)) (ht : t < rT (mrow M g)) {Q : xS → Prop}
    (k : ∀ M', (∀ k, k ≠ 11 → M'.1 k = M.1 k) → M'.2 = M.2 → (∀ z y, z ≠ g → y < 511 → mrow M' z y = mrow M z y) → mrow M' g = upT (mrow M g) t (wrB (mrow M g) t (fun s => M.1 27 0 s) (fun s => M.1 28 0 s)) → Q M') : wp_X7_touchAll (nI g) (nI t) M Q := by
  have hN := hR.2.1.1
  have hT5 := hR.2.2.2.1.1
  have tbl : tb t + 87 ≤ 511 := by unfold tb; omega
  have tb76 : 76 ≤ tb t := by unfold tb; omega
  unfold wp_X7_touchAll
  refine wl1 (wp_X7_touchAll_2 (nI g) (nI t) Q) (fun K => wp_X7_touchAll_2_b (nI g) (nI t) K Q) (fun _ _ _ => rfl)
    (fun M' v => ∃ j, j ≤ rN (mrow M g) + 1 ∧ v = nI j ∧ (∀ k, k ≠ 11 → M'.1 k = M.1 k) ∧ M'.2 = M.2 ∧ (∀ z y, z ≠ g → y < 511 → mrow M' z y = mrow M z y) ∧ (∀ w, w < tb t + 12 ∨ tb t + 87 ≤ w → mrow M' g w = mrow M g w) ∧
      (∀ p, p < j → fl (mrow M' g) t (sby (rN (mrow M g)) p) = 1 ∧ dlx (mrow M' g) t (sby (rN (mrow M g)) p) = M.1 27 0 (sby (rN (mrow M g)) p) ∧ dly (mrow M' g) t (sby (rN (mrow M g)) p) = M.1 28 0 (sby (rN (mrow M g)) p)) ∧
      (∀ s, s < 25 → inS (rN (mrow M g)) s = false → fl (mrow M' g) t s = fl (mrow M g) t s ∧ dlx (mrow M' g) t s = dlx (mrow M g) t s ∧ dly (mrow M' g) t s = dly (mrow M g) t s)) (fun _ v => 100 - v.toNatClampNeg)
    ⟨0, by omega, rfl, fun _ _ => rfl, rfl, fun _ _ _ _ => rfl, fun _ _ => rfl, fun p h => by omega, fun _ _ _ => ⟨rfl, rfl, rfl⟩⟩ ?_
  rintro M' v K ⟨j, hj, rfl, hf, hf2, hz, ho, hv, hu⟩ hK
  unfold wp_X7_touchAll_2_b
  have e2 : mrow M' g 2 = nI (rN (mrow M g)) := by rw [ho 2 (by omega)]; exact hR.2.1.2
  refine v7_of rfl nl2 hg (by omega) ?_
  rw [e2]
  by_cases c : j = rN (mrow M g) + 1
  · subst c
    refine gt (by rw [vv_lt (by omega) (by omega)]; omega) (k M' hf hf2 hz (funext (row_ext ho (fun s hs => ?_))))
    cases hi : inS (rN (mrow M g)) s
    · rw [if_neg (by decide), if_neg (by decide), if_neg (by decide)]; exact hu s hs hi
    · rw [if_pos rfl, if_pos rfl, if_pos rfl]
      obtain ⟨p, hp, rfl⟩ := sby_of hi
      exact hv p (by omega)
  · have hsb := sby_to hN (show j ≤ rN (mrow M g) by omega)
    have hin := vv_in (k := sby (rN (mrow M g)) j) (N := 25) hsb.2 (by omega)
    refine gf (by rw [vv_lt (by omega) (by omega)]; omega) (v7_slotS (N := rN (mrow M g)) hg e2 hN (by omega) ?_)
    show vp_in (nI (sby (rN (mrow M g)) j)) 25 ∧ vp_in (nI (sby (rN (mrow M g)) j)) 25 ∧ wp_X7_gives (nI g) (nI t) (nI (sby (rN (mrow M g)) j)) (M'.1 27 0 (nI (sby (rN (mrow M g)) j)).toNatClampNeg) (M'.1 28 0 (nI (sby (rN (mrow M g)) j)).toNatClampNeg) M' _
    refine ⟨hin, hin, v7_gives hg (by omega) hsb.2 ?_⟩
    rw [vv_clI (k := sby (rN (mrow M g)) j) (by omega), nI_1, hf 27 (by omega), hf 28 (by omega)]
    refine hK _ _ ⟨j + 1, by omega, rfl, fun k hk => by unfold gvM; rw [xI_k hk, xI_k hk, xI_k hk]; exact hf k hk, hf2, fun z y hzg hy => ?_, fun w hw => by rw [gv_o hsb.2 hw]; exact ho w hw, fun p hp => ?_, fun s hs hi => ?_⟩ (by rw [vv_clI (by omega), vv_clI (by omega)]; omega)
    · unfold gvM
      rw [mrow_put_ne _ _ hzg (by omega) hy, mrow_put_ne _ _ hzg (by omega) hy, mrow_put_ne _ _ hzg (by omega) hy]
      exact hz z y hzg hy
    · have hsp := sby_to hN (show p ≤ rN (mrow M g) by omega)
      rw [gv_fl hsb.2 hsp.2, gv_dx hsb.2 hsp.2, gv_dy hsb.2 hsp.2]
      by_cases e : p = j
      · rw [e, if_pos rfl, if_pos rfl, if_pos rfl]; exact ⟨rfl, rfl, rfl⟩
      · have hne : ¬ sby (rN (mrow M g)) p = sby (rN (mrow M g)) j := by rw [sby_inj hN (by omega) (by omega)]; exact e
        rw [if_neg hne, if_neg hne, if_neg hne]
        exact hv p (by omega)
    · have hne : ¬ s = sby (rN (mrow M g)) j := fun e => by
        rw [e, hsb.1] at hi
        exact absurd hi (by decide)
      rw [gv_fl hsb.2 hs, gv_dx hsb.2 hs, gv_dy hsb.2 hs, if_neg hne, if_neg hne, if_neg hne]
      exact hu s hs hi
end LAYD
