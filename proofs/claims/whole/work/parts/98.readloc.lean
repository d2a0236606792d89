def cb (m : Nat) : Nat → Nat
  | 0 => 0
  | j + 1 => cb m j + (m.testBit j).toNat
theorem cb_on {m a : Nat} (h : m.testBit a = false) : ∀ j, cb (bOn m a) j = cb m j + (if a < j then 1 else 0)
  | 0 => by rw [if_neg (by omega)]; rfl
  | j + 1 => by
    show cb (bOn m a) j + ((bOn m a).testBit j).toNat = cb m j + (m.testBit j).toNat + (if a < j + 1 then 1 else 0)
    rw [cb_on h j, bOn_bit]
    by_cases e : a = j
    · subst e
      rw [h, decide_eq_true rfl, if_neg (by omega), if_pos (by omega)]
      simp
    · rw [decide_eq_false e, Bool.or_false]
      by_cases e2 : a < j
      · rw [if_pos e2, if_pos (by omega)]; omega
      · rw [if_neg e2, if_neg (by omega)]; omega
theorem cb_le (m : Nat) : ∀ j, cb m j ≤ j
  | 0 => Nat.le_refl _
  | j + 1 => by
    have := cb_le m j
    have h := Bool.toNat_le (m.testBit j)
    show cb m j + (m.testBit j).toNat ≤ j + 1
    omega
theorem cb_full (m a : Nat) : ∀ j, cb m j = j → a < j → m.testBit a = true
  | 0, _, h => by omega
  | j + 1, h, ha => by
    have h : cb m j + (m.testBit j).toNat = j + 1 := h
    have := cb_le m j
    have h2 := Bool.toNat_le (m.testBit j)
    by_cases e : a = j
    · rw [e]
      cases hb : m.testBit j
      · rw [hb] at h; simp at h; omega
      · rfl
    · exact cb_full m a j (by omega) (by omega)
theorem cb_na {m na : Nat} (h : ∀ a, a < 4 → m.testBit a = true → a < na) : ∀ k, na + k ≤ 4 → cb m (na + k) = cb m na
  | 0, _ => rfl
  | k + 1, hk => by
    have hb : m.testBit (na + k) = false := by
      cases hb : m.testBit (na + k)
      · rfl
      · have := h (na + k) (by omega) hb; omega
    show cb m (na + k) + (m.testBit (na + k)).toNat = cb m na
    rw [hb, cb_na h k (by omega)]; rfl
theorem RdR.p {S M : xS} {na L p m q : Nat} (R : RdR S M na L p m) (hq : q ≤ L) : RdR S (xI M 0 0 36 (nI q)) na L q m := by
  obtain ⟨⟨e1, e2, h60, hp⟩, ⟨e3, e4, hm⟩, e5, hT, e6, hv⟩ := R
  refine ⟨⟨e1, ?_, h60, hq⟩, ⟨e3, ?_, hm⟩, xI_s _ _ _ _ _, ?_, ?_, ?_⟩
  · rw [xI_1, if_neg (by omega)]; exact e2
  · rw [xI_1, if_neg (by omega)]; exact e4
  · rw [xI_k (by omega)]; exact hT
  · rw [xI_1, if_neg (by omega)]; exact e6
  · rw [xI_k (by omega), xI_k (by omega)]; exact hv
theorem items_both {na L pb : Nat} (hn : na ≤ 4) (hpb : pb < 16) {pn : Nat → Int32} (hP : ∀ a, pb.testBit a = decide (a < na ∧ ¬ pn a = 0)) : ∀ k it p m (S M : xS), it + k = 5 → 1 ≤ it → RdR S M na L p m → cb m 4 + 1 = it → (∀ a, M.1 6 0 a = pn a) →
    ∃ (r : Int32) (M1 : xS), RdM M M1 ∧ (∀ Q : Int32 → xS → Prop, Q r M1 → wp_X7_readsItem M Q) ∧
      ((∃ q S' M', RdS S S' ∧ RdM M1 M' ∧ (∀ Q : Int32 → xS → Prop, Q (-100 - nI q) S' → ∃ n, wp_X3_readItems_10 (nI na) (nI pb) Q n S (nI p) (nI it)) ∧ (∀ Q : Int32 → xS → Prop, Q (-100 - nI q) M' → ∃ n, wp_X7_readLocation_15 Q n M1 r) ∧ q ≤ 100) ∨
       (∃ q S' M' m', RdS S S' ∧ RdM M1 M' ∧ RdR S' M' na L q m' ∧ (∀ Q : Int32 → xS → Prop, Q (nI (cb m' 4)) S' → ∃ n, wp_X3_readItems_10 (nI na) (nI pb) Q n S (nI p) (nI it)) ∧ (∀ Q : Int32 → xS → Prop, (∃ n1, wp_X7_readLocation_88 Q n1 M' 0 0) → ∃ n, wp_X7_readLocation_15 Q n M1 r)))
  | 0, it, p, m, S, M, hk, h1, R, hc, hpn => by
    have h5 : it = 5 := by omega
    have hp60 : p ≤ 60 := by have := R.1; omega
    have hP' : ∀ a, pb.testBit a = decide (a < na ∧ ¬ M.1 6 0 a = 0) := fun a => by rw [hpn]; exact hP a
    rcases item_both hn hpb hP' R with ⟨q, S', M', hq60, hq, fS, fM, e36, c6, c7⟩ | ⟨a, q, S', M', ha, hb, rest⟩
    · have hqp : q = p := by
        rcases hq with h | ⟨a, ha, hb⟩
        · exact h
        · have := cb_full m a 4 (by omega) (by omega)
          rw [hb] at this
          exact absurd this (by decide)
      subst hqp
      refine ⟨0, M', fM, c7, Or.inl ⟨q, S, M', RdS.refl S, RdM.refl M', fun Q k => ⟨1, ?_⟩, fun Q k => ⟨1, ?_⟩, by omega⟩⟩
      · show wp_X3_readItems_10_b (nI na) (nI pb) _ Q S (nI q) (nI it)
        unfold wp_X3_readItems_10_b
        exact gt (by rw [h5]; decide) k
      · show wp_X7_readLocation_15_b _ Q M' 0
        unfold wp_X7_readLocation_15_b wp_X7_readLocation_72
        refine g0 (g0 ?_)
        rw [e36]; exact k
    · have := cb_full m a 4 (by omega) (by omega)
      rw [hb] at this
      exact absurd this (by decide)
  | k + 1, it, p, m, S, M, hk, h1, R, hc, hpn => by
    have h4 : ¬ (4 : Int32) < nI it := by rw [nl4, vv_lt (by omega) (by omega)]; omega
    have hP' : ∀ a, pb.testBit a = decide (a < na ∧ ¬ M.1 6 0 a = 0) := fun a => by rw [hpn]; exact hP a
    have h60 := R.1.2.2.1
    have hp60 : p ≤ 60 := by have := R.1; omega
    rcases item_both hn hpb hP' R with ⟨q, S', M', hq60, hq, fS, fM, e36, c6, c7⟩ | ⟨a, q, S', M', ha, hb, fS, fM, R', c6, c7⟩
    · refine ⟨0, M', fM, c7, Or.inl ⟨q, S', M', fS, RdM.refl M', fun Q k => ⟨1, ?_⟩, fun Q k => ⟨1, ?_⟩, by omega⟩⟩
      · show wp_X3_readItems_10_b (nI na) (nI pb) _ Q S (nI p) (nI it)
        exact c6 _ Q _ h4 k
      · show wp_X7_readLocation_15_b _ Q M' 0
        unfold wp_X7_readLocation_15_b wp_X7_readLocation_72
        refine g0 (g0 ?_)
        rw [e36]; exact k
    · have hL := R'.1.1
      have hL7 := R'.1.2.1
      have hqL := R'.1.2.2.2
      have e36 := R'.2.2.1
      have hT := R'.2.2.2.1
      have hcb : cb (bOn m a) 4 = it := by rw [cb_on hb, if_pos (by omega)]; exact hc
      by_cases cq : q < L
      rotate_left
      · have : q = L := by omega
        subst this
        refine ⟨1, M', fM, c7, Or.inr ⟨q, S', M', bOn m a, fS, RdM.refl M', R', fun Q k => ⟨1, ?_⟩, fun Q k => ⟨1, ?_⟩⟩⟩
        · show wp_X3_readItems_10_b (nI na) (nI pb) _ Q S (nI p) (nI it)
          rw [hcb] at k
          exact c6 _ Q _ h4 (gf (by rw [vv_lt (by omega) (by omega)]; omega) k)
        · show wp_X7_readLocation_15_b _ Q M' 1
          unfold wp_X7_readLocation_15_b wp_X7_readLocation_72
          rw [hL7, e36]
          exact gf (by decide) (gt (by rw [vv_le (by omega) (by omega)]; omega) (gf (by decide) k))
      · have hin := vv_in (k := q) (N := 60) (by omega) (by omega)
        have hltL : nI q < nI L := by rw [vv_lt (by omega) (by omega)]; exact cq
        by_cases cs : M'.1 36 0 q = 59
        · obtain ⟨r, M1, g1', g2, g3⟩ := items_both (L := L) hn hpb hP k (it + 1) (q + 1) (bOn m a) S' (xI M' 0 0 36 (nI (q + 1))) (by omega) (by omega) (R'.p (by omega)) (by omega) (fun z => by rw [xI_k (by omega), fM.1 6 (by omega) (by omega)]; exact hpn z)
          have m15 : ∀ (Q : Int32 → xS → Prop) n, wp_X7_readLocation_15 Q n M1 r → ∃ n, wp_X7_readLocation_15 Q n M' 1 := fun Q n h => by
            refine ⟨n + 1, ?_⟩
            show wp_X7_readLocation_15_b (wp_X7_readLocation_15 Q n) Q M' 1
            unfold wp_X7_readLocation_15_b wp_X7_readLocation_49
            rw [hL7, e36, vv_clI (k := q) (by omega)]
            refine gf (by decide) (gf (by rw [vv_le (by omega) (by omega)]; omega) ⟨hin, gt cs (gf (by decide) ?_)⟩)
            rw [nI_1]
            exact g2 _ h
          have m10 : ∀ (Q : Int32 → xS → Prop) n, wp_X3_readItems_10 (nI na) (nI pb) Q n S' (nI (q + 1)) (nI (it + 1)) → ∃ n, wp_X3_readItems_10 (nI na) (nI pb) Q n S (nI p) (nI it) := fun Q n h => by
            refine ⟨n + 1, ?_⟩
            show wp_X3_readItems_10_b (nI na) (nI pb) (wp_X3_readItems_10 (nI na) (nI pb) Q n) Q S (nI p) (nI it)
            refine c6 _ Q _ h4 (gt hltL (w3_isAt hL h60 (by omega) ?_))
            have e : mnB (S'.1 19 0) L q 59 = true := by unfold mnB; rw [decide_eq_true_eq]; exact ⟨cq, by rw [hT q cq]; exact cs⟩
            rw [e]
            refine gf (by decide) ?_
            rw [nI_1, nI_1]
            exact h
          have fr : RdM M' M1 := (RdM.i (by omega)).trans g1'
          rcases g3 with ⟨x, S2, M2, b1, b2, b3, b4, b5⟩ | ⟨x, S2, M2, m2, b1, b2, b3, b4, b5⟩
          · exact ⟨1, M', fM, c7, Or.inl ⟨x, S2, M2, fS.trans b1, fr.trans b2, fun Q k => (b3 Q k).elim (fun n h => m10 Q n h), fun Q k => (b4 Q k).elim (fun n h => m15 Q n h), b5⟩⟩
          · exact ⟨1, M', fM, c7, Or.inr ⟨x, S2, M2, m2, fS.trans b1, fr.trans b2, b3, fun Q k => (b4 Q k).elim (fun n h => m10 Q n h), fun Q k => (b5 Q k).elim (fun n h => m15 Q n h)⟩⟩
        · refine ⟨1, M', fM, c7, Or.inl ⟨q, S', M', fS, RdM.refl M', fun Q k => ⟨1, ?_⟩, fun Q k => ⟨2, ?_⟩, by omega⟩⟩
          · show wp_X3_readItems_10_b (nI na) (nI pb) _ Q S (nI p) (nI it)
            refine c6 _ Q _ h4 (gt hltL (w3_isAt hL h60 (by omega) ?_))
            have e : mnB (S'.1 19 0) L q 59 = false := by unfold mnB; rw [decide_eq_false_iff_not]; exact fun h => cs (by rw [← hT q cq]; exact h.2)
            rw [e]
            exact gt rfl k
          · show wp_X7_readLocation_15_b (wp_X7_readLocation_15 Q 1) Q M' 1
            unfold wp_X7_readLocation_15_b wp_X7_readLocation_49
            rw [hL7, e36, vv_clI (k := q) (by omega)]
            refine gf (by decide) (gf (by rw [vv_le (by omega) (by omega)]; omega) ⟨hin, gf cs (gt rfl ?_)⟩)
            show wp_X7_readLocation_15_b _ Q M' 0
            unfold wp_X7_readLocation_15_b wp_X7_readLocation_72
            refine g0 (g0 ?_)
            rw [e36]; exact k
def LcF (S S' M M' : xS) : Prop := (∀ k, k ≠ 30 → S'.1 k = S.1 k) ∧ (∀ z a, ¬ (z = 0 ∧ a < 4) → S'.1 30 z a = S.1 30 z a) ∧ S'.2 = S.2 ∧ (∀ k, k ≠ 5 → M'.1 k = M.1 k)
theorem loc_both {na m : Nat} (hn : na ≤ 4) (hm : m < 16) {v1 : Int32} : ∀ k j (S M : xS), j + k = na → S.1 6 0 1 = nI na → M.1 0 0 0 = nI na → S.1 3 0 2 = nI m → M.1 0 0 38 = nI m → (∀ a, a < na → AxRel S M a) → (∀ a, na ≤ a → a < 4 → S.1 30 0 a = 0) → (∀ a, a < 4 → m.testBit a = true → a < na ∧ M.1 6 0 a = 0 ∧ S.1 20 0 a = M.1 40 0 a) →
    ∃ S' M', LcF S S' M M' ∧ (∀ a, a < na → AxRel S' M' a) ∧ (∀ a, na ≤ a → a < 4 → S'.1 30 0 a = 0) ∧ (∀ Q : Int32 → xS → Prop, Q v1 S' → ∃ n, wp_X6_readLocation_24 Q n S v1 (nI j)) ∧ (∀ Q : Int32 → xS → Prop, Q (nI (cb m na)) M' → ∃ n, wp_X7_readLocation_88 Q n M (nI (cb m j)) (nI j))
  | 0, j, S, M, hj, e6, e0, e3, e38, hA, hz, hv => by
    have : j = na := by omega
    subst this
    refine ⟨S, M, ⟨fun _ _ => rfl, fun _ _ _ => rfl, rfl, fun _ _ => rfl⟩, hA, hz, fun Q k => ⟨1, ?_⟩, fun Q k => ⟨1, ?_⟩⟩
    · show wp_X6_readLocation_24_b _ Q S v1 (nI j)
      unfold wp_X6_readLocation_24_b
      rw [e6]
      exact gt (by rw [vv_le (by omega) (by omega)]; omega) k
    · show wp_X7_readLocation_88_b _ Q M (nI (cb m j)) (nI j)
      unfold wp_X7_readLocation_88_b
      rw [e0]
      exact gt (by rw [vv_le (by omega) (by omega)]; omega) k
  | k + 1, j, S, M, hj, e6, e0, e3, e38, hA, hz, hv => by
    have hin := vv_in (k := j) (N := 4) (by omega) (by omega)
    have ec : cb m (j + 1) = cb m j + (m.testBit j).toNat := rfl
    cases hb : m.testBit j
    · rw [hb] at ec
      obtain ⟨S', M', f, a1, a2, b1, b2⟩ := loc_both hn hm (v1 := v1) k (j + 1) S M (by omega) e6 e0 e3 e38 hA hz hv
      refine ⟨S', M', f, a1, a2, fun Q q => (b1 Q q).elim (fun n h => ⟨n + 1, ?_⟩), fun Q q => (b2 Q q).elim (fun n h => ⟨n + 1, ?_⟩)⟩
      · show wp_X6_readLocation_24_b (wp_X6_readLocation_24 Q n) Q S v1 (nI j)
        unfold wp_X6_readLocation_24_b wp_X6_readLocation_70
        rw [e6, e3]
        refine gf (by rw [vv_le (by omega) (by omega)]; omega) (v6_hasBit (by omega) (by omega) ?_)
        rw [hb, nI_1]
        exact gt rfl h
      · show wp_X7_readLocation_88_b (wp_X7_readLocation_88 Q n) Q M (nI (cb m j)) (nI j)
        unfold wp_X7_readLocation_88_b wp_X7_readLocation_123
        rw [e0, e38, nI_1, nI_1]
        refine gf (by rw [vv_le (by omega) (by omega)]; omega) (gf (by rw [bit_sh hm (by omega), hb]; decide) ?_)
        rw [ec] at h
        exact h
    · rw [hb] at ec
      obtain ⟨hja, h6, hv20⟩ := hv j (by omega) hb
      have A := hA j hja
      obtain ⟨r, q1, q2, q3⟩ := coord_both A.map (by omega) (M.1 40 0 j)
      obtain ⟨S', M', f, a1, a2, b1, b2⟩ := loc_both hn hm (v1 := v1) k (j + 1) (xI S 30 0 j r) (xI M 5 0 j r) (by omega) (by rw [xI_k (by omega)]; exact e6) (by rw [xI_k (by omega)]; exact e0) (by rw [xI_k (by omega)]; exact e3) (by rw [xI_k (by omega)]; exact e38) (fun a ha => by
        obtain ⟨c1, c2, c3, c4, c5⟩ := hA a ha
        unfold AxRel
        simp only [xI_1]
        by_cases hji : a = j
        · subst hji
          simp
          exact ⟨c1, c2, c3, q1, c5⟩
        · simp [hji]
          exact ⟨c1, c2, c3, c4, c5⟩) (fun a ha h4 => by rw [xI_1, if_neg (by omega)]; exact hz a ha h4) (fun a ha hab => by rw [xI_k (by omega), xI_k (by omega), xI_k (by omega)]; exact hv a ha hab)
      refine ⟨S', M', ⟨fun k hk => by rw [f.1 k hk, xI_k hk], fun z a hza => by rw [f.2.1 z a hza, xI_1, if_neg (by omega)], f.2.2.1, fun k hk => by rw [f.2.2.2 k hk, xI_k hk]⟩, a1, a2, fun Q q => (b1 Q q).elim (fun n h => ⟨n + 1, ?_⟩), fun Q q => (b2 Q q).elim (fun n h => ⟨n + 1, ?_⟩)⟩
      · show wp_X6_readLocation_24_b (wp_X6_readLocation_24 Q n) Q S v1 (nI j)
        unfold wp_X6_readLocation_24_b wp_X6_readLocation_70
        rw [e6, e3]
        refine gf (by rw [vv_le (by omega) (by omega)]; omega) (v6_hasBit (by omega) (by omega) ?_)
        rw [hb, nI_1]
        refine gf (by decide) ⟨hin, hin, ?_⟩
        rw [vv_clI (k := j) (by omega), hv20]
        exact q2 _ ⟨hin, h⟩
      · show wp_X7_readLocation_88_b (wp_X7_readLocation_88 Q n) Q M (nI (cb m j)) (nI j)
        unfold wp_X7_readLocation_88_b wp_X7_readLocation_123 wp_X7_setUser
        rw [e0, e38, nI_1, nI_1]
        have hcx : 0 ≤ (nI j).toInt ∧ (nI j).toInt < na := by rw [nI_toInt' (by omega)]; omega
        refine gf (by rw [vv_le (by omega) (by omega)]; omega) (gt (by rw [bit_sh hm (by omega)]; exact hb) ⟨hin, v7_noAxis_t hn e0 hcx (g0 ⟨hin, ?_⟩)⟩)
        rw [vv_clI (k := j) (by omega)]
        refine gt h6 (q3 _ ⟨hin, hin, ?_⟩)
        rw [show cb m (j + 1) = cb m j + 1 from ec] at h
        exact h
theorem Inv.rd {n : Nat} {S M S' M' : xS} (I : Inv n S M) (hA : InvA S' M') (hS : ∀ k, k ≠ 3 → k ≠ 20 → k ≠ 30 → S'.1 k = S.1 k) (h3 : S'.1 3 0 0 = S.1 3 0 0) (hS2 : S'.2 = S.2) (hM : ∀ k, k ≠ 0 → k ≠ 5 → k ≠ 40 → M'.1 k = M.1 k) (hM0 : ∀ j, j ≠ 36 → j ≠ 37 → j ≠ 38 → M'.1 0 0 j = M.1 0 0 j) : Inv (n + 1) S' M' := by
  obtain ⟨a1, a2, a3, a4, a5, a6⟩ := I
  have hk : ∀ k, kG k → S'.1 k = S.1 k := fun k hk => by unfold kG at hk; exact hS k (by omega) (by omega) (by omega)
  have e0 : cntM M' 0 = cntM M 0 := by unfold cntM; rw [hM0 0 (by omega) (by omega) (by omega)]
  have e9 : cntM M' 9 = cntM M 9 := by unfold cntM; rw [hM0 9 (by omega) (by omega) (by omega)]
  exact ⟨hA, a2.fr (PN_le n) hk (by rw [hS 6 (by omega) (by omega) (by omega)]) (by rw [hS2]) (by rw [hS2]) (hM 11 (by omega) (by omega) (by omega)) (hM0 9 (by omega) (by omega) (by omega)) (Nat.le_of_eq e0.symm),
    a3.fr a2.2.1 (PN_le n) hk (hS 2 (by omega) (by omega) (by omega)) (hS 17 (by omega) (by omega) (by omega)) (by rw [hS2]) (by rw [hS2]) (hM 26 (by omega) (by omega) (by omega)) (hM 25 (by omega) (by omega) (by omega)) (hM0 23 (by omega) (by omega) (by omega)) (Nat.le_of_eq e0.symm) (Nat.le_of_eq e9.symm),
    a4.fr (by rw [hS 6 (by omega) (by omega) (by omega)]) (hS 33 (by omega) (by omega) (by omega)) (hM 34 (by omega) (by omega) (by omega)) (hM0 32 (by omega) (by omega) (by omega)), a5.fr h3 (hS 19 (by omega) (by omega) (by omega)) (hM 36 (by omega) (by omega) (by omega)) (hM0 34 (by omega) (by omega) (by omega)), a6.fr (hM 11 (by omega) (by omega) (by omega)) (hM 26 (by omega) (by omega) (by omega)) (hM 25 (by omega) (by omega) (by omega)) (hM0 9 (by omega) (by omega) (by omega)) (hM0 23 (by omega) (by omega) (by omega))⟩
theorem op_readLocation {n : Nat} {S M : xS} {K : xS → xS → Prop} (I : Inv n S M) (hK : ∀ S' M', Inv (n + 1) S' M' → K S' M') :
    wp_X6_readLocation S (fun r1 S1 => wp_X7_readLocation M (fun r2 M1 => if r1 = r2 then K S1 M1 else False)) := by
  obtain ⟨⟨a1, a2, a3⟩, a4, a5, a6⟩ := id I.1
  have hA1 := a3.trans a2
  obtain ⟨⟨t1, t2, t3⟩, t4⟩ := I.2.2.2.2.1
  unfold wp_X6_readLocation
  refine w6_pinned a1 hA1 (fun pb hpb hP => ?_)
  have hP2 : ∀ a, pb.testBit a = decide (a < cntM M 0 ∧ ¬ M.1 6 0 a = 0) := fun a => by
    rw [hP a]
    by_cases ca : a < cntM M 0
    · rw [(a4 a ca).2.2.1.1]
    · rw [decide_eq_false (fun h => ca h.1), decide_eq_false (fun h => ca h.1)]
  have R : RdR (xI S 3 0 2 0) (xI (xI M 0 0 36 0) 0 0 38 0) (cntM M 0) (cntM M 34) 0 0 := by
    refine ⟨⟨?_, ?_, t1, Nat.zero_le _⟩, ⟨?_, ?_, by omega⟩, ?_, fun j hj => ?_, ?_, fun a _ h => ?_⟩
    · rw [xI_1, if_neg (by omega)]; exact t3.trans t2
    · rw [xI_1, if_neg (by omega), xI_1, if_neg (by omega)]; exact t2
    · rw [xI_s]; rfl
    · rw [xI_s]; rfl
    · rw [xI_1, if_neg (by omega), xI_s]; rfl
    · rw [xI_k (by omega), xI_k (by omega), xI_k (by omega)]; exact t4 j hj
    · rw [xI_1, if_neg (by omega), xI_1, if_neg (by omega)]; exact a2
    · rw [Nat.zero_testBit] at h; exact absurd h (by decide)
  obtain ⟨r, M1, f1, f2, f3⟩ := items_both a1 hpb hP2 4 1 0 0 _ _ rfl (Nat.le_refl _) R rfl (fun a => by rw [xI_k (by omega), xI_k (by omega)])
  have fM0 : RdM M (xI (xI M 0 0 36 0) 0 0 38 0) := (RdM.i (by omega)).trans (RdM.i (by omega))
  have p7 : ∀ Q : Int32 → xS → Prop, (∃ n, wp_X7_readLocation_15 Q n M1 r) → wp_X7_readLocation M Q := fun Q k => by
    unfold wp_X7_readLocation
    exact f2 _ k
  unfold wp_X3_readItems
  rw [hA1]
  rcases f3 with ⟨q, S', M', s1, m1, c6, c7, hq⟩ | ⟨q, S', M', m', s1, m1, R', c6, c7⟩
  · refine c6 _ ?_
    have hneg : ¬ (0 : Int32) ≤ -100 - nI q := by
      rw [i32_le, i32_sub] <;> rw [nI_toInt' (by omega), show (-100 : Int32).toInt = -100 from rfl]
      · rw [show (0 : Int32).toInt = 0 from rfl]; omega
      · omega
      · omega
    have fS := RdS.b.trans s1
    have fM := fM0.trans (f1.trans m1)
    have fin : Inv (n + 1) S' M' := I.rd (I.1.fr (fun k hk => fS.1 k (by omega) (by omega)) (by rw [fS.1 6 (by omega) (by omega)]) (fun k h1 h2 => fM.1 k (by omega) (by omega)) (fM.2 0 (by omega) (by omega) (by omega))) (fun k h1 h2 _ => fS.1 k h1 h2) (fS.2.1 0 (by omega)) fS.2.2 (fun k h1 _ h2 => fM.1 k h1 h2) fM.2
    generalize -100 - nI q = x at c6 c7 hneg ⊢
    exact gf hneg (p7 _ (c7 _ (gt rfl (hK _ _ fin))))
  · have fS := RdS.b.trans s1
    have fM := fM0.trans (f1.trans m1)
    obtain ⟨⟨e1, e2, h60, hp⟩, ⟨e3, e4, hm⟩, e5, hT, e6, hv⟩ := R'
    have ecb : cb m' 4 = cb m' (cntM M 0) := by
      have := cb_na (m := m') (na := cntM M 0) (fun a ha hab => (hv a ha hab).1) (4 - cntM M 0) (by omega)
      rw [show cntM M 0 + (4 - cntM M 0) = 4 by omega] at this
      exact this
    have c5 := cb_le m' 4
    obtain ⟨S2, M2, g, r1, r2, b1, b2⟩ := loc_both (na := cntM M 0) (v1 := nI (cb m' 4)) a1 hm (cntM M 0) 0 S' M' (by omega) (by rw [fS.1 6 (by omega) (by omega)]; exact hA1) e6 e3 e4 (fun a ha => (a4 a ha).fr (fun k hk => fS.1 k (by omega) (by omega)) (fun k h1 h2 => fM.1 k (by omega) (by omega))) (fun a ha h4 => by rw [fS.1 30 (by omega) (by omega)]; exact (a5 a ha h4).1) hv
    refine c6 _ (gt (by rw [nl0, vv_le (by omega) (by omega)]; omega) (b1 _ (p7 _ (c7 _ (b2 _ (gt (by rw [ecb]) (hK _ _ ?_)))))))
    have m0 : ∀ j, j ≠ 36 → j ≠ 37 → j ≠ 38 → M2.1 0 0 j = M.1 0 0 j := fun j h1 h2 h3 => by rw [g.2.2.2 0 (by omega)]; exact fM.2 j h1 h2 h3
    have e0 : cntM M2 0 = cntM M 0 := by unfold cntM; rw [m0 0 (by omega) (by omega) (by omega)]
    refine I.rd ⟨⟨by rw [e0]; exact a1, by rw [m0 0 (by omega) (by omega) (by omega), e0]; exact a2, by rw [g.1 6 (by omega), fS.1 6 (by omega) (by omega), m0 0 (by omega) (by omega) (by omega)]; exact a3⟩, fun a ha => r1 a (by omega), fun a ha h4 => ?_, fun a ha => ?_⟩ (fun k h1 h2 h3 => by rw [g.1 k h3]; exact fS.1 k h1 h2) (by rw [g.1 3 (by omega)]; exact fS.2.1 0 (by omega)) (g.2.2.1.trans fS.2.2) (fun k h1 h2 h3 => by rw [g.2.2.2 k h2]; exact fM.1 k h1 h3) m0
    · refine ⟨r2 a (by omega) h4, ?_, ?_⟩
      · rw [g.1 0 (by omega), fS.1 0 (by omega) (by omega)]; exact (a5 a (by omega) h4).2.1
      · rw [g.2.2.2 6 (by omega), fM.1 6 (by omega) (by omega)]; exact (a5 a (by omega) h4).2.2
    · rw [g.2.1 1 a (by omega), fS.1 30 (by omega) (by omega)]; exact a6 a ha
