theorem as_up {r r' : Nat → Int32} {t : Nat} (h : ∀ y, ¬ (tb t ≤ y ∧ y < tb t + 87) → r' y = r y) : r' = upT r t (fun x => r' (tb t + x)) := by
  funext y
  unfold upT
  by_cases c : tb t ≤ y ∧ y < tb t + 87
  · rw [if_pos c]
    show r' y = r' (tb t + (y - tb t))
    rw [show tb t + (y - tb t) = y by omega]
  · rw [if_neg c]; exact h y c
theorem fr_out {r : Nat → Int32} {t : Nat} {F : Nat → Bool} (y : Nat) (h : ¬ (tb t ≤ y ∧ y < tb t + 87)) : flR r t F y = r y := by unfold flR; rw [if_neg (by omega)]
def CpF (S S' : xS) (T : Nat) : Prop := (∀ k, k ≠ 5 → k ≠ 27 → k ≠ 28 → S'.1 k = S.1 k) ∧ (∀ k z, z ≠ T → S'.1 k z = S.1 k z) ∧ S'.2 = S.2
theorem CpF.g {S S' : xS} {G t : Nat} (hP : PermG S G) (ht : t < 5) (h : CpF S S' (S.2.2 16 G t)) : GFr S S' G := by
  have := hP.1 t ht
  refine ⟨fun k hk => h.1 k (by unfold kG at hk; omega) (by unfold kG at hk; omega) (by unfold kG at hk; omega), fun k z hk hz => by rw [h.1 k (by omega) (by omega) (by omega)], fun k z hk hz => h.2.1 k z (by omega), by rw [h.2.2], fun k _ => by rw [h.2.2], fun z _ => by rw [h.2.2]⟩
section CPC
variable {S : xS} {G na gi t : Nat} {r : Nat → Int32}
theorem Gd.fl {S' : xS} {F : Nat → Bool} {m : Nat} (hg : Gd S G na gi r) (ht : t < rT r) (hC : CpF S S' (S.2.2 16 G t)) (h5 : S'.1 5 (S.2.2 16 G t) 3 = nI m) (hm : m < 2 ^ 25) (hb : ∀ pl, pl < 25 → m.testBit pl = F (slo pl)) (hF : ∀ s, s < 25 → F s = true → fl r t s = 1) (hv : ∀ pl, pl ≤ rN r → S'.1 27 (S.2.2 16 G t) pl = dX r t (slo pl) ∧ S'.1 28 (S.2.2 16 G t) pl = dY r t (slo pl)) : Gd S' G na gi (flR r t F) := by
  obtain ⟨hG, hR, hP⟩ := hg
  have hN := hR.2.1.1
  have hT5 := hR.2.2.2.1.1
  have hT := hG.2.2.2.2.2.2.2.2 t ht
  have hO := hR.2.2.2.2.2.2 t ht
  refine ⟨?_, fr_ok hR ht hF, fun j hj => by rw [hC.2.2]; exact hP.1 j hj, fun i j hi hj q => by rw [hC.2.2] at q; exact hP.2 i j hi hj q⟩
  have e := as_up (r := r) (r' := flR r t F) (t := t) fr_out
  have hTn : TupRel S' (S.2.2 16 G t) (flR r t F) t := by
    refine ⟨fun a ha => ?_, ⟨m, h5, hm, fun pl hp => ?_⟩, fun pl hp hf => ?_⟩
    · rw [hC.1 24 (by omega) (by omega) (by omega), hC.1 25 (by omega) (by omega) (by omega), hC.1 26 (by omega) (by omega) (by omega), Nat.add_assoc (tb t), Nat.add_assoc (tb t), fr_rg (by omega), fr_rg (by omega), fr_rg (by omega), ← Nat.add_assoc, ← Nat.add_assoc]
      exact hT.1 a ha
    · rw [hb pl hp, fr_fl (slo_lt hp)]
      cases F (slo pl)
      · rw [if_neg (by decide), decide_eq_false (by decide)]
      · rw [if_pos rfl, decide_eq_true rfl]
    · rw [fr_fl (slo_lt hp)] at hf
      rw [fr_dx (slo_lt hp), fr_dy (slo_lt hp)]
      cases hq : F (slo pl)
      · rw [hq, if_neg (by decide)] at hf; exact absurd hf (by decide)
      · have h1 := hF _ (slo_lt hp) hq
        have hpN : pl ≤ rN r := by
          by_cases c : pl ≤ rN r
          · exact c
          · have hs : slo pl = pl - 1 := by unfold slo; rw [if_neg (by omega)]
            rw [hs, hO.2.2.2.1 (pl - 1) (by omega) (by omega)] at h1
            exact absurd h1 (by decide)
        obtain ⟨v1, v2⟩ := hv pl hpN
        rw [v1, v2]
        unfold dX dY dvV
        rw [if_pos h1, if_pos h1]
        exact ⟨rfl, rfl⟩
  rw [e] at hTn ⊢
  exact up_gl hG hN hT5 (by rw [hC.2.2]) hP.2 ht (fun k hk => by rw [hC.1 k (by omega) (by omega) (by omega)]) (fun k z _ hz => hC.2.1 k z hz) hTn
theorem w1_keepsW {S' : xS} {F : Nat → Bool} {T : Nat} (hg : Gd S' G na gi (flR r t F)) (ht : t < rT r) (hT : S'.2.2 16 G t = T) (hv : ∀ pl, pl ≤ rN r → S'.1 27 T pl = dX r t (slo pl) ∧ S'.1 28 T pl = dY r t (slo pl)) {Q : Int32 → xS → Prop} (k1 : allB r t F → Q 1 S') (k0 : ¬ allB r t F → Q 0 S') : wp_X1_keepsWrittenDeltas G T S' Q := by
  obtain ⟨hG, hR, hP⟩ := hg
  have hN : rN r ≤ 24 := by have := hR.2.1.1; rw [fr_N] at this; exact this
  have eN : S'.1 1 G 1 = nI (rN r) := by
    have := hG.2.1.trans hR.2.1.2
    rw [fr_N] at this
    exact this
  have tr := hG.2.2.2.2.2.2.2.2 t (by rw [fr_T]; exact ht)
  rw [hT] at tr
  unfold wp_X1_keepsWrittenDeltas
  refine wl1 (wp_X1_keepsWrittenDeltas_2 G T Q) (fun K => wp_X1_keepsWrittenDeltas_2_b G T K Q) (fun _ _ _ => rfl)
    (fun S'' v => S'' = S' ∧ ∃ j, j ≤ rN r + 1 ∧ v = nI j ∧ ∀ p, p < j → dvV (flR r t F) t (slo p) 0 = dX r t (slo p) ∧ dvV (flR r t F) t (slo p) 1 = dY r t (slo p)) (fun _ v => 100 - v.toNatClampNeg) ⟨rfl, 0, by omega, rfl, fun p h => by omega⟩ ?_
  rintro S'' v K ⟨rfl, j, hj, rfl, h⟩ hK
  unfold wp_X1_keepsWrittenDeltas_2_b wp_X1_keepsWrittenDeltas_42
  rw [eN]
  by_cases c : j = rN r + 1
  · subst c
    exact gt (by rw [vv_lt (by omega) (by omega)]; omega) ⟨Or.inr rfl, k1 (fun p hp => h p (by omega))⟩
  · have hin := vv_in (k := j) (N := 25) (by omega) (by omega)
    obtain ⟨v1, v2⟩ := hv j (by omega)
    refine gf (by rw [vv_lt (by omega) (by omega)]; omega) (w1_delta hG hR tr (by rw [fr_N]; omega) ⟨hin, ?_⟩)
    rw [vv_clI (by omega), v1]
    by_cases c1 : dvV (flR r t F) t (slo j) 0 = dX r t (slo j)
    · refine gt c1 (w1_delta hG hR tr (by rw [fr_N]; omega) ⟨hin, ?_⟩)
      rw [v2]
      by_cases c2 : dvV (flR r t F) t (slo j) 1 = dY r t (slo j)
      · refine gt c2 ?_
        rw [nI_1]
        refine hK _ _ ⟨rfl, j + 1, by omega, rfl, fun p hp => ?_⟩ (by rw [vv_clI (by omega), vv_clI (by omega)]; omega)
        by_cases e : p = j
        · rw [e]; exact ⟨c1, c2⟩
        · exact h p (by omega)
      · exact gf c2 ⟨Or.inl rfl, k0 (fun ha => c2 (ha j (by omega)).2)⟩
    · exact gf c1 ⟨Or.inl rfl, k0 (fun ha => c1 (ha j (by omega)).1)⟩
def cpJ (r : Nat → Int32) (t j : Nat) : Nat → Bool := mkB r t (if j = 0 then F0b r t 24 else advB r t) (j - 1)
theorem adv_ok {r : Nat → Int32} {t : Nat} : advB r t = F0b r t 24 ∨ (advB r t = false ∧ kpA r t = true) := by
  unfold advB
  cases hk : kpA r t
  · rw [Bool.not_false, Bool.and_true]; exact Or.inl rfl
  · rw [Bool.not_true, Bool.and_false]; exact Or.inr ⟨rfl, rfl⟩
theorem adv_imp {r : Nat → Int32} {t : Nat} (h : advB r t = true) : F0b r t 24 = true := by
  unfold advB at h
  rw [Bool.and_eq_true] at h
  exact h.1
theorem cpJ_sub {j s : Nat} (h : cpJ r t j s = true) : fl r t s = 1 := by
  unfold cpJ at h
  refine mkB_sub (fun hb => ?_) h
  split at hb
  · exact hb
  · exact adv_imp hb
/- a step at a place -/
theorem cpJ_step {na : Nat} (hO : TupOk na (rN r) r t) (hN : rN r ≤ 24) {j : Nat} (hj : j ≤ rN r) :
    (¬ cpJ r t j (slo j) = true → cpJ r t (j + 1) = cpJ r t j) ∧ (cpJ r t j (slo j) = true → allB r t (updB (cpJ r t j) (slo j) false) → cpJ r t (j + 1) = updB (cpJ r t j) (slo j) false) ∧ (cpJ r t j (slo j) = true → ¬ allB r t (updB (cpJ r t j) (slo j) false) → cpJ r t (j + 1) = cpJ r t j) := by
  cases j with
  | zero =>
    obtain ⟨h1, h2, h3⟩ := mkB_adv (r := r) (t := t) hO hN (k := 0)
    have e0 : cpJ r t 0 = mkB r t (F0b r t 24) 0 := rfl
    have e1 : cpJ r t (0 + 1) = mkB r t (advB r t) 0 := rfl
    rw [e1, e0, h3, show slo 0 = 24 from rfl, h1]
    refine ⟨fun c => by rw [if_neg c], fun c a => by rw [if_pos c, if_pos (h2.mp a)], fun c a => by rw [if_pos c, if_neg (fun q => a (h2.mpr q))]⟩
  | succ j =>
    obtain ⟨h1, h2, h3⟩ := mkB_pt (r := r) (t := t) hO hN (b := advB r t) adv_ok (k := j) (by omega)
    have e0 : cpJ r t (j + 1) = mkB r t (advB r t) j := by unfold cpJ; rw [if_neg (by omega)]; rfl
    have e1 : cpJ r t (j + 1 + 1) = mkB r t (advB r t) (j + 1) := by unfold cpJ; rw [if_neg (by omega)]; rfl
    rw [e1, e0, h3, show slo (j + 1) = j from rfl, h1]
    refine ⟨fun c => by rw [if_neg c], fun c a => by rw [if_pos c, if_pos ((h2 c).mp a)], fun c a => by rw [if_pos c, if_neg (fun q => a ((h2 c).mpr q))]⟩
theorem bOn_off {m p q : Nat} (hq : q < 25) (h : m.testBit p = true) : (bOn (bOff m p) p).testBit q = m.testBit q := by
  rw [bOn_bit, bOff_bit hq]
  by_cases e : p = q
  · rw [decide_eq_true e, Bool.or_true, ← e, h]
  · rw [decide_eq_false e, Bool.or_false, Bool.not_false, Bool.and_true]
theorem updB_slo {F : Nat → Bool} {j pl : Nat} (hj : j < 25) (hp : pl < 25) : updB F (slo j) false (slo pl) = (F (slo pl) && !decide (j = pl)) := by
  unfold updB
  by_cases e : j = pl
  · rw [if_pos (by rw [e]), decide_eq_true e, Bool.not_true, Bool.and_false]
  · rw [if_neg (by rw [slo_inj hp hj]; omega), decide_eq_false e, Bool.not_false, Bool.and_true]
/- the class's loop -/
theorem w1_compact (hg : Gd S G na gi r) (ht : t < rT r) {Q : Int32 → xS → Prop} (k : ∀ S', GFr S S' G → Gd S' G na gi (flR r t (cpJ r t (rN r + 1))) → Q (nI (cntB (F0b r t) 25) - nI (cntB (cpJ r t (rN r + 1)) 25)) S') : wp_X1_compactTuple G (S.2.2 16 G t) S Q := by
  obtain ⟨hG, hR, hP⟩ := id hg
  have hN := hR.2.1.1
  have hT5 := hR.2.2.2.1.1
  have hO := hR.2.2.2.2.2.2 t ht
  have hT := hG.2.2.2.2.2.2.2.2 t ht
  obtain ⟨m0, u1, u2, u3⟩ := hT.2.1
  unfold wp_X1_compactTuple
  rw [u1]
  refine w_bitCount (by omega) ?_
  rw [bits_fl (S := S) (T := 0) u2 u3]
  refine w1_write hg ht (fun S1 hF hT1 hv => ?_)
  obtain ⟨m1, y1, y2, y3⟩ := hT1.2.1
  refine wl2 (wp_X1_compactTuple_15 G (S.2.2 16 G t) Q) (fun K => wp_X1_compactTuple_15_b G (S.2.2 16 G t) K Q) (fun _ _ _ _ => rfl)
    (fun S' a b => a = nI (cntB (F0b r t) 25) ∧ ∃ j m, j ≤ rN r + 1 ∧ b = nI j ∧ CpF S S' (S.2.2 16 G t) ∧ S'.1 5 (S.2.2 16 G t) 3 = nI m ∧ m < 2 ^ 25 ∧ (∀ pl, pl < 25 → m.testBit pl = cpJ r t j (slo pl)) ∧ (∀ pl, pl ≤ rN r → S'.1 27 (S.2.2 16 G t) pl = dX r t (slo pl) ∧ S'.1 28 (S.2.2 16 G t) pl = dY r t (slo pl))) (fun _ _ b => 100 - b.toNatClampNeg)
    ⟨rfl, 0, m1, by omega, rfl, ⟨fun k _ h2 h3 => hF.1 k h2 h3, hF.2.1, hF.2.2⟩, y1, y2, fun pl hp => ?_, hv⟩ ?_
  · rw [y3 pl hp]
    unfold cpJ mkB F0b
    rw [if_pos rfl]
    by_cases e : slo pl = 24
    · rw [if_pos e, e]
    · rw [if_neg e]; rfl
  rintro S' a b K ⟨rfl, j, m, hj, rfl, hC, h5, hm, hb, hv'⟩ hK
  have hgd : Gd S' G na gi (flR r t (cpJ r t j)) := hg.fl ht hC h5 hm hb (fun s _ h => cpJ_sub h) hv'
  have eN : S'.1 1 G 1 = nI (rN r) := by
    have := hgd.1.2.1.trans hgd.2.1.2.1.2
    rw [fr_N] at this
    exact this
  unfold wp_X1_compactTuple_15_b wp_X1_compactTuple_37
  rw [eN, h5]
  by_cases c : j = rN r + 1
  · subst c
    refine gt (by rw [vv_lt (by omega) (by omega)]; omega) (w_bitCount (by omega) ?_)
    rw [bits_fl (S := S) (T := 0) (t := t) (r := flR r t (cpJ r t (rN r + 1))) hm (fun pl hp => by
      rw [hb pl hp, fr_fl (slo_lt hp)]
      cases cpJ r t (rN r + 1) (slo pl)
      · rw [if_neg (by decide), decide_eq_false (by decide)]
      · rw [if_pos rfl, decide_eq_true rfl])]
    have ef : cntB (fun s => decide (fl (flR r t (cpJ r t (rN r + 1))) t s = 1)) 25 = cntB (cpJ r t (rN r + 1)) 25 := cntB_fr 25 (fun s hs => by
      show decide (fl (flR r t (cpJ r t (rN r + 1))) t s = 1) = cpJ r t (rN r + 1) s
      rw [fr_fl hs]
      cases cpJ r t (rN r + 1) s
      · rw [if_neg (by decide), decide_eq_false (by decide)]
      · rw [if_pos rfl, decide_eq_true rfl])
    rw [ef]
    exact k S' (hC.g hP (by omega)) hgd
  · obtain ⟨s1, s2, s3⟩ := cpJ_step (r := r) (t := t) hO hN (j := j) (by omega)
    have mu : 100 - (nI (j + 1)).toNatClampNeg < 100 - (nI j).toNatClampNeg := by rw [vv_clI (by omega), vv_clI (by omega)]; omega
    refine gf (by rw [vv_lt (by omega) (by omega)]; omega) (v5_touches h5 hm (by omega) ?_)
    rw [hb j (by omega), nI_1]
    by_cases cf : cpJ r t j (slo j) = true
    rotate_left
    · have cf' : cpJ r t j (slo j) = false := by rw [Bool.not_eq_true] at cf; exact cf
      rw [cf']
      exact g0 (hK _ _ _ ⟨rfl, j + 1, m, by omega, rfl, hC, h5, hm, by rw [s1 cf]; exact hb, hv'⟩ mu)
    rw [cf]
    refine g1 ?_
    have bj : m.testBit j = true := by rw [hb j (by omega)]; exact cf
    have hin := vv_in (k := j) (N := 25) (by omega) (by omega)
    unfold wp_X1_releaseIfNeedless wp_X1_releaseIfNeedless_30 wp_X5_dropTouch
    rw [h5, nI_off (by omega)]
    have hC1 : CpF S (xI S' 5 (S.2.2 16 G t) 3 (nI (bOff m j))) (S.2.2 16 G t) := ⟨fun k h1 h2 h3 => by rw [xI_k h1]; exact hC.1 k h1 h2 h3, fun k z hz => by
      funext w
      rw [xI_1, if_neg (by omega), hC.2.1 k z hz], hC.2.2⟩
    have hb1 : ∀ pl, pl < 25 → (bOff m j).testBit pl = updB (cpJ r t j) (slo j) false (slo pl) := fun pl hp => by rw [bOff_bit hp, hb pl hp, updB_slo (by omega) hp]
    have hsub : ∀ s, s < 25 → updB (cpJ r t j) (slo j) false s = true → fl r t s = 1 := fun s _ h => by
      unfold updB at h
      by_cases e : s = slo j
      · rw [if_pos e] at h; exact absurd h (by decide)
      · rw [if_neg e] at h; exact cpJ_sub h
    have hv1 : ∀ pl, pl ≤ rN r → (xI S' 5 (S.2.2 16 G t) 3 (nI (bOff m j))).1 27 (S.2.2 16 G t) pl = dX r t (slo pl) ∧ (xI S' 5 (S.2.2 16 G t) 3 (nI (bOff m j))).1 28 (S.2.2 16 G t) pl = dY r t (slo pl) := fun pl hp => by rw [xI_k (by omega), xI_k (by omega)]; exact hv' pl hp
    have hg1 : Gd (xI S' 5 (S.2.2 16 G t) 3 (nI (bOff m j))) G na gi (flR r t (updB (cpJ r t j) (slo j) false)) := hg.fl ht hC1 (xI_s _ _ _ _ _) (bOff_lt hm) hb1 hsub hv1
    refine w1_keepsW hg1 ht (by show S'.2.2 16 G t = _; rw [hC.2.2]) hv1 (fun ha => gf (by decide) ?_) (fun ha => gt rfl ⟨hin, hin, ?_⟩)
    · exact hK _ _ _ ⟨rfl, j + 1, bOff m j, by omega, rfl, hC1, xI_s _ _ _ _ _, bOff_lt hm, by rw [s2 cf ha]; exact hb1, hv1⟩ mu
    · unfold wp_X5_putDelta
      refine ⟨hin, hin, ?_⟩
      obtain ⟨v1, v2⟩ := hv1 j (by omega)
      rw [vv_clI (k := j) (by omega), v1, v2, xI_s, nI_on (by omega)]
      refine hK _ _ _ ⟨rfl, j + 1, bOn (bOff m j) j, by omega, rfl, ⟨fun k h1 h2 h3 => by rw [xI_k h3, xI_k h2, xI_k h1]; exact hC1.1 k h1 h2 h3, fun k z hz => ?_, hC.2.2⟩, ?_, bOn_lt (bOff_lt hm) (by omega), fun pl hp => ?_, fun pl hp => ?_⟩ mu
      · funext w
        rw [xI_1, if_neg (by omega), xI_1, if_neg (by omega), xI_1, if_neg (by omega)]
        exact congrFun (hC1.2.1 k z hz) w
      · rw [xI_k (by omega), xI_k (by omega), xI_s]
      · rw [s3 cf ha, bOn_off hp bj]; exact hb pl hp
      · rw [xI_k (k' := 27) (by omega), xI_1 _ 27, xI_1 _ 28]
        by_cases e : pl = j
        · rw [if_pos ⟨rfl, rfl, e⟩, if_pos ⟨rfl, rfl, e⟩, e]; exact ⟨rfl, rfl⟩
        · rw [if_neg (fun h => e h.2.2), if_neg (fun h => e h.2.2), xI_k (k := 27) (by omega), xI_k (k := 5) (k' := 27) (by omega), xI_k (k := 5) (k' := 28) (by omega)]
          exact hv1 pl hp
end CPC
