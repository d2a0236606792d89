def rfJ (r : Nat → Int32) (t k : Nat) : Nat → Bool := mkB r t (if k ≤ rN r then F0b r t 24 else advB r t) (if k ≤ rN r then k else rN r)
theorem rfJ_sub {r : Nat → Int32} {t k s : Nat} (h : rfJ r t k s = true) : fl r t s = 1 := by
  unfold rfJ at h
  refine mkB_sub (fun hb => ?_) h
  split at hb
  · exact hb
  · exact adv_imp hb
theorem rfJ_0 (r : Nat → Int32) (t : Nat) : rfJ r t 0 = F0b r t := by
  have e : rfJ r t 0 = mkB r t (F0b r t 24) 0 := by unfold rfJ; rw [if_pos (Nat.zero_le _), if_pos (Nat.zero_le _)]
  rw [e]
  funext s
  show (if s = 24 then F0b r t 24 else F0b r t s) = F0b r t s
  by_cases e : s = 24
  · rw [if_pos e, e]
  · rw [if_neg e]
theorem rfJ_end (r : Nat → Int32) (t : Nat) : rfJ r t (rN r + 1) = cpJ r t (rN r + 1) := by
  unfold rfJ cpJ
  rw [if_neg (by omega), if_neg (by omega), if_neg (by omega), Nat.add_sub_cancel]
theorem rfJ_step {r : Nat → Int32} {t na : Nat} (hO : TupOk na (rN r) r t) (hN : rN r ≤ 24) {k : Nat} (hk : k ≤ rN r) :
    (¬ rfJ r t k (sby (rN r) k) = true → rfJ r t (k + 1) = rfJ r t k) ∧ (rfJ r t k (sby (rN r) k) = true → allB r t (updB (rfJ r t k) (sby (rN r) k) false) → rfJ r t (k + 1) = updB (rfJ r t k) (sby (rN r) k) false) ∧ (rfJ r t k (sby (rN r) k) = true → ¬ allB r t (updB (rfJ r t k) (sby (rN r) k) false) → rfJ r t (k + 1) = rfJ r t k) := by
  have e0 : rfJ r t k = mkB r t (F0b r t 24) k := by unfold rfJ; rw [if_pos hk, if_pos hk]
  by_cases c : k = rN r
  · subst c
    obtain ⟨h1, h2, h3⟩ := mkB_adv (r := r) (t := t) hO hN (k := rN r)
    have e1 : rfJ r t (rN r + 1) = mkB r t (advB r t) (rN r) := by unfold rfJ; rw [if_neg (by omega), if_neg (by omega)]
    rw [e1, e0, h3, show sby (rN r) (rN r) = 24 by unfold sby; rw [if_pos rfl], h1]
    exact ⟨fun c => by rw [if_neg c], fun c a => by rw [if_pos c, if_pos (h2.mp a)], fun c a => by rw [if_pos c, if_neg (fun q => a (h2.mpr q))]⟩
  · obtain ⟨h1, h2, h3⟩ := mkB_pt (r := r) (t := t) hO hN (b := F0b r t 24) (Or.inl rfl) (k := k) (by omega)
    have e1 : rfJ r t (k + 1) = mkB r t (F0b r t 24) (k + 1) := by unfold rfJ; rw [if_pos (by omega), if_pos (by omega)]
    rw [e1, e0, h3, show sby (rN r) k = k by unfold sby; rw [if_neg c], h1]
    exact ⟨fun c => by rw [if_neg c], fun c a => by rw [if_pos c, if_pos ((h2 c).mp a)], fun c a => by rw [if_pos c, if_neg (fun q => a ((h2 c).mpr q))]⟩
section CP7
variable {M : xS} {g t na gi : Nat} {r : Nat → Int32} {P : Int}
theorem w7_asLaid {F : Nat → Bool} (hg : g < 6) (er : mrow M g = flR r t F) (hR : RowOk na gi (flR r t F)) (hb : BdP (flR r t F)) (ht : t < rT r) (hv : ∀ s, inS (rN r) s = true → M.1 27 0 s = dX r t s ∧ M.1 28 0 s = dY r t s) {Q : Int32 → xS → Prop} (k1 : allB r t F → Q 1 M) (k0 : ¬ allB r t F → Q 0 M) : wp_X7_isAsLaid (nI g) (nI t) M Q := by
  have hN : rN r ≤ 24 := by have := hR.2.1.1; rw [fr_N] at this; exact this
  have e2 : mrow M g 2 = nI (rN r) := by
    have := hR.2.1.2
    rw [fr_N] at this
    rw [er]; exact this
  have all : allB r t F ↔ ∀ k, k ≤ rN r → dvV (flR r t F) t (sby (rN r) k) 0 = dX r t (sby (rN r) k) ∧ dvV (flR r t F) t (sby (rN r) k) 1 = dY r t (sby (rN r) k) := (sby_all (N := rN r) (P := fun s => dvV (flR r t F) t s 0 = dX r t s ∧ dvV (flR r t F) t s 1 = dY r t s)).symm
  unfold wp_X7_isAsLaid
  refine wl1 (wp_X7_isAsLaid_2 (nI g) (nI t) Q) (fun K => wp_X7_isAsLaid_2_b (nI g) (nI t) K Q) (fun _ _ _ => rfl)
    (fun M' v => M' = M ∧ ∃ j, j ≤ rN r + 1 ∧ v = nI j ∧ ∀ p, p < j → dvV (flR r t F) t (sby (rN r) p) 0 = dX r t (sby (rN r) p) ∧ dvV (flR r t F) t (sby (rN r) p) 1 = dY r t (sby (rN r) p)) (fun _ v => 100 - v.toNatClampNeg) ⟨rfl, 0, by omega, rfl, fun p h => by omega⟩ ?_
  rintro M' v K ⟨rfl, j, hj, rfl, h⟩ hK
  unfold wp_X7_isAsLaid_2_b wp_X7_isAsLaid_58
  refine v7_of rfl nl2 hg (by omega) ?_
  rw [e2]
  by_cases c : j = rN r + 1
  · subst c
    exact gt (by rw [vv_lt (by omega) (by omega)]; omega) ⟨Or.inr rfl, k1 (all.mpr (fun p hp => h p (by omega)))⟩
  · have hsb := sby_to hN (show j ≤ rN r by omega)
    have hin := vv_in (k := sby (rN r) j) (N := 25) hsb.2 (by omega)
    have hT : t < rT (mrow M' g) := by rw [er, fr_T]; exact ht
    have hs : sby (rN r) j < rN (mrow M' g) ∨ sby (rN r) j = 24 := by rw [er, fr_N]; exact sby_ok hN (by omega)
    obtain ⟨v1, v2⟩ := hv _ hsb.1
    refine gf (by rw [vv_lt (by omega) (by omega)]; omega) (v7_slotS (N := rN r) hg e2 hN (by omega) ⟨hin, w7_delta (na := na) (gi := gi) hg (by rw [er]; exact hR) (by rw [er]; exact hb) hT hs ?_⟩)
    rw [er, vv_clI (k := sby (rN r) j) (by omega), v1]
    by_cases c1 : dvV (flR r t F) t (sby (rN r) j) 0 = dX r t (sby (rN r) j)
    · refine gt c1.symm ⟨hin, w7_delta (na := na) (gi := gi) hg (by rw [er]; exact hR) (by rw [er]; exact hb) hT hs ?_⟩
      rw [er, v2]
      by_cases c2 : dvV (flR r t F) t (sby (rN r) j) 1 = dY r t (sby (rN r) j)
      · refine gt c2.symm ?_
        rw [nI_1]
        refine hK _ _ ⟨rfl, j + 1, by omega, rfl, fun p hp => ?_⟩ (by rw [vv_clI (by omega), vv_clI (by omega)]; omega)
        by_cases e : p = j
        · rw [e]; exact ⟨c1, c2⟩
        · exact h p (by omega)
      · exact gf (fun h => c2 h.symm) ⟨Or.inl rfl, k0 (fun ha => c2 (all.mp ha j (by omega)).2)⟩
    · exact gf (fun h => c1 h.symm) ⟨Or.inl rfl, k0 (fun ha => c1 (all.mp ha j (by omega)).1)⟩
theorem w7_compact (hg : g < 6) (hP : P ≤ PP) (hR : RowOk na gi (mrow M g)) (hB : Bd P (mrow M g)) (ht : t < rT (mrow M g)) {Q : Int32 → xS → Prop}
    (k : ∀ M', MFr M M' g → mrow M' g = flR (mrow M g) t (cpJ (mrow M g) t (rN (mrow M g) + 1)) → Q (nI (cntB (F0b (mrow M g) t) 25) - nI (cntB (cpJ (mrow M g) t (rN (mrow M g) + 1)) 25)) M') : wp_X7_layDeltas (nI g) (nI t) M (fun S5 => ∃ n7, wp_X7_compact_30 (nI g) (nI t) Q n7 S5 0 0) := by
  have hN := hR.2.1.1
  have hT5 := hR.2.2.2.1.1
  have hO := hR.2.2.2.2.2.2 t ht
  have tbl : tb t + 87 ≤ 511 := by unfold tb; omega
  refine w7_layD hg hR (hB.p hP hT5) ht (fun M1 hf hf2 hv => ?_)
  generalize hr : mrow M g = r at *
  refine wl2 (wp_X7_compact_30 (nI g) (nI t) Q) (fun K => wp_X7_compact_30_b (nI g) (nI t) K Q) (fun _ _ _ _ => rfl)
    (fun M' a b => ∃ j n, j ≤ rN r + 1 ∧ b = nI j ∧ a = nI n ∧ n + cntB (rfJ r t j) 25 = cntB (F0b r t) 25 ∧ MFr M M' g ∧ mrow M' g = flR r t (rfJ r t j) ∧ (∀ s, inS (rN r) s = true → M'.1 27 0 s = dX r t s ∧ M'.1 28 0 s = dY r t s)) (fun _ _ b => 100 - b.toNatClampNeg)
    ⟨0, 0, by omega, rfl, rfl, ?_, ⟨fun k hk => hf k (by unfold kM at hk; omega) (by unfold kM at hk; omega), fun z y _ _ => by unfold mrow; rw [hf 11 (by omega) (by omega)]⟩, ?_, hv⟩ ?_
  · rw [Nat.zero_add, rfJ_0]
  · have e0 := rfJ_0 r t
    rw [e0, fr_self hO, ← hr]
    unfold mrow
    rw [hf 11 (by omega) (by omega)]
  rintro M' a b K ⟨j, n, hj, rfl, rfl, hn, hfr, er, hv'⟩ hK
  have hcF : cntB (F0b r t) 25 ≤ 25 := cntB_le 25
  have okF : ∀ F : Nat → Bool, (∀ s, s < 25 → F s = true → fl r t s = 1) → RowOk na gi (flR r t F) ∧ BdP (flR r t F) := fun F hF => by
    have h1 := fr_ok hR ht hF
    exact ⟨h1, (fr_bd hB hN hT5 hF).p hP h1.2.2.2.1.1⟩
  have e2 : mrow M' g 2 = nI (rN r) := by rw [er, fr_low (by omega)]; exact hR.2.1.2
  unfold wp_X7_compact_30_b wp_X7_tupleAt wp_X7_compact_99 wp_X7_compact_114 wp_X7_compact_117
  refine v7_of rfl nl2 hg (by omega) ?_
  rw [e2]
  by_cases c : j = rN r + 1
  · subst c
    refine gt (by rw [vv_lt (by omega) (by omega)]; omega) ?_
    rw [rfJ_end] at hn er
    have := k M' hfr er
    rw [vv_sub (by omega) (by omega), show cntB (F0b r t) 25 - cntB (cpJ r t (rN r + 1)) 25 = n by omega] at this
    exact this
  · have hsb := sby_to hN (show j ≤ rN r by omega)
    obtain ⟨s1, s2, s3⟩ := rfJ_step (r := r) (t := t) hO hN (k := j) (by omega)
    have mu : 100 - (nI (j + 1)).toNatClampNeg < 100 - (nI j).toNatClampNeg := by rw [vv_clI (by omega), vv_clI (by omega)]; omega
    refine gf (by rw [vv_lt (by omega) (by omega)]; omega) (v7_slotS (N := rN r) hg e2 hN (by omega) ?_)
    have eat : (76 : Int32) + 87 * nI t + 12 + nI (sby (rN r) j) = nI (tb t + 12 + sby (rN r) j) := by simp only [nl76, nl87, nl12, vv_mul, nI_add]; rfl
    rw [eat]
    refine v7_of (y := tb t + 12 + sby (rN r) j) rfl rfl hg (by omega) ?_
    have efl : mrow M' g (tb t + 12 + sby (rN r) j) = if rfJ r t j (sby (rN r) j) = true then 1 else 0 := by
      have := fr_fl (r := r) (t := t) (F := rfJ r t j) hsb.2
      rw [er]; exact this
    rw [efl, nI_1]
    by_cases cf : rfJ r t j (sby (rN r) j) = true
    rotate_left
    · rw [if_neg cf]
      exact gf (by decide) (hK _ _ _ ⟨j + 1, n, by omega, rfl, rfl, by rw [s1 cf]; exact hn, hfr, by rw [s1 cf]; exact er, hv'⟩ mu)
    rw [if_pos cf]
    refine gt rfl (v7_put (y := tb t + 12 + sby (rN r) j) rfl rfl hg (by omega) ?_)
    have up : ∀ (M0 : xS) (F : Nat → Bool) (b : Bool), mrow M0 g = flR r t F → mrow (xI M0 11 0 (511 * g + (tb t + 12 + sby (rN r) j)) (if b = true then 1 else 0)) g = flR r t (updB F (sby (rN r) j) b) := fun M0 F b h => by
      rw [← fr_up (r := r) (t := t) (F := F) _ hsb.2 b]
      funext y
      rw [mrow_put, h]
    have er1 : mrow (xI M' 11 0 (511 * g + (tb t + 12 + sby (rN r) j)) 0) g = flR r t (updB (rfJ r t j) (sby (rN r) j) false) := up M' _ false er
    have hsub : ∀ s, s < 25 → updB (rfJ r t j) (sby (rN r) j) false s = true → fl r t s = 1 := fun s _ h => by
      unfold updB at h
      by_cases e : s = sby (rN r) j
      · rw [if_pos e] at h; exact absurd h (by decide)
      · rw [if_neg e] at h; exact rfJ_sub h
    obtain ⟨k1, k2⟩ := okF _ hsub
    have fr1 : ∀ (M0 : xS) (v : Int32), MFr M M0 g → MFr M (xI M0 11 0 (511 * g + (tb t + 12 + sby (rN r) j)) v) g := fun M0 v h => h.trans ⟨fun k hk => by rw [xI_k (by unfold kM at hk; omega)], fun z y hz hy => mrow_put_ne _ _ hz (by omega) hy⟩
    refine w7_asLaid hg er1 k1 k2 ht (fun s hs => by rw [xI_k (by omega), xI_k (by omega)]; exact hv' s hs) (fun ha => gf (by decide) (v7_put (y := tb t + 12 + sby (rN r) j) rfl rfl hg (by omega) (gf (by decide) ?_))) (fun ha => gt rfl (v7_put (y := tb t + 12 + sby (rN r) j) rfl rfl hg (by omega) (gt rfl ?_)))
    · rw [nI_1]
      have e3 : mrow (xI (xI M' 11 0 (511 * g + (tb t + 12 + sby (rN r) j)) 0) 11 0 (511 * g + (tb t + 12 + sby (rN r) j)) 0) g = flR r t (updB (rfJ r t j) (sby (rN r) j) false) := by
        have := up _ _ false er1
        have e4 : updB (updB (rfJ r t j) (sby (rN r) j) false) (sby (rN r) j) false = updB (rfJ r t j) (sby (rN r) j) false := by
          funext s
          unfold updB
          by_cases e : s = sby (rN r) j
          · rw [if_pos e, if_pos e]
          · rw [if_neg e, if_neg e]
        rw [e4] at this
        exact this
      have ec := cntB_upd (F := rfJ r t j) (s := sby (rN r) j) cf 25
      rw [if_pos hsb.2] at ec
      exact hK _ _ _ ⟨j + 1, n + 1, by omega, rfl, rfl, by rw [s2 cf ha]; omega, fr1 _ _ (fr1 _ _ hfr), by rw [s2 cf ha]; exact e3, fun s hs => by rw [xI_k (by omega), xI_k (by omega), xI_k (by omega), xI_k (by omega)]; exact hv' s hs⟩ mu
    · rw [nl0, nI_add, Nat.add_zero]
      have e3 : mrow (xI (xI M' 11 0 (511 * g + (tb t + 12 + sby (rN r) j)) 0) 11 0 (511 * g + (tb t + 12 + sby (rN r) j)) 1) g = flR r t (rfJ r t j) := by
        have := up _ _ true er1
        have e4 : updB (updB (rfJ r t j) (sby (rN r) j) false) (sby (rN r) j) true = rfJ r t j := by
          funext s
          unfold updB
          by_cases e : s = sby (rN r) j
          · rw [if_pos e, e]; exact cf.symm
          · rw [if_neg e, if_neg e]
        rw [e4] at this
        exact this
      exact hK _ _ _ ⟨j + 1, n, by omega, rfl, rfl, by rw [s3 cf ha]; exact hn, fr1 _ _ (fr1 _ _ hfr), by rw [s3 cf ha]; exact e3, fun s hs => by rw [xI_k (by omega), xI_k (by omega), xI_k (by omega), xI_k (by omega)]; exact hv' s hs⟩ mu
end CP7
theorem op_compact {n : Nat} {S M : xS} {K : xS → xS → Prop} (I : Inv n S M) (hn : n ≤ 600) (a b : Int32) (hK : ∀ S' M', Inv (n + 1) S' M' → K S' M') :
    wp_X6_compact a b S (fun r1 S1 => wp_X7_compact a b M (fun r2 M1 => if r1 = r2 then K S1 M1 else False)) := by
  rcases tupErr I a b with ⟨e, e1, e2, e3, e4⟩ | ⟨g, t, rfl, rfl, hg, ht, e3, e4⟩
  · exact op_of (w6 := wp_X6_compact a b S) (w7 := wp_X7_compact a b M) (r := e) (fun Q k => e3 _ (gf e1 k)) (fun Q k => e4 _ (gf e2 k)) (hK _ _ I.next)
  obtain ⟨⟨b1, b2, b3⟩, b4, b5, b6⟩ := I.2.1
  obtain ⟨d1, d2, d3⟩ := b5 g hg
  have hT5 := d2.2.2.2.1.1
  have hin := vv_in (k := g) (N := 6) (by omega) (by omega)
  have hP : PN n ≤ PP := by unfold PN PP; omega
  refine e3 _ (g0 ⟨hin, ?_⟩)
  rw [vv_clI (by omega)]
  refine v2_remember I hg (fun S' hR hG hp => ⟨hin, hin, ⟨vv_in (by omega) (by omega), ?_⟩, ?_⟩)
  · rw [vv_clI (by omega)]
    have := hp.1 t (by omega)
    omega
  rw [vv_clI (k := t) (by omega)]
  refine w1_compact (na := cntM M 0) (gi := g) ⟨hG, d2, hp⟩ ht (fun S'' f1 f2 => ?_)
  refine e4 _ (gt (by decide) (v7_keeps I hg (fun M' hM => ?_)))
  have I' := keep_inv I hg hR hM
  have er := hM.row g
  have e0 : cntM M' 0 = cntM M 0 := by unfold cntM; rw [hM.2.1 0 (by omega)]
  have e9 : cntM M' 9 = cntM M 9 := by unfold cntM; rw [hM.2.1 9 (by omega)]
  have fin := w7_compact (M := M') (g := g) (t := t) (na := cntM M 0) (gi := g) (P := PN n) (Q := fun r2 M1 => if nI (cntB (F0b (mrow M g) t) 25) - nI (cntB (cpJ (mrow M g) t (rN (mrow M g) + 1)) 25) = r2 then K S'' M1 else False) (by omega) hP (by rw [er]; exact d2) (by rw [er]; exact d3) (by rw [er]; exact ht)
  rw [er] at fin
  refine fin (fun M'' q1 q2 => gt rfl (hK _ _ ?_))
  have hsub : ∀ s, s < 25 → cpJ (mrow M g) t (rN (mrow M g) + 1) s = true → fl (mrow M g) t s = 1 := fun s _ h => cpJ_sub h
  refine I'.gl (by rw [e9]; exact hg) f1 q1 f2.2.2 (by rw [q2]; exact f2.1) (by rw [e0, q2]; exact f2.2.1) (by rw [q2]; exact (fr_bd (d3.fr (PN_le n) d2.2.1.1 hT5 (fun _ _ => rfl)) d2.2.1.1 hT5 hsub)) ?_ ?_ (fun c hc => ?_)
  · rw [q2, er]; exact fr_low (by omega)
  · rw [q2, er]; exact fr_low (by omega)
  · have := d2.2.1.1
    rw [er] at hc
    rw [q2, er]; exact fr_low (by omega)
