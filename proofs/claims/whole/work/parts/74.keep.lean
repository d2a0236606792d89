theorem w2_forget {S : xS} {Q : xS → Prop} (hid : ∀ j, j < 6 → S.2.2 18 0 j < 12)
    (k : ∀ S', (∀ k, k ≠ 2 → k ≠ 17 → S'.1 k = S.1 k) → S'.2.1 = S.2.1 → (∀ k, k ≠ 18 → S'.2.2 k = S.2.2 k) → S'.1 2 0 0 = nI 5 → (∀ i, i < 5 → S'.1 17 0 i = S.1 17 0 (i + 1)) → (∀ i, i < 5 → S'.2.2 18 0 i = S.2.2 18 0 (i + 1)) → S'.2.2 18 0 5 = S.2.2 18 0 0 → Q S') : wp_X2_forgetOldest S Q := by
  unfold wp_X2_forgetOldest
  rw [show (0 : Int32).toNatClampNeg = 0 from rfl]
  refine ⟨⟨vv_in (k := 0) (by omega) (by omega), hid 0 (by omega)⟩, ?_⟩
  refine wl2 (wp_X2_forgetOldest_9 Q) (fun K => wp_X2_forgetOldest_9_b K Q) (fun _ _ _ _ => rfl)
    (fun S' v1 v2 => ∃ j, j ≤ 5 ∧ v1 = S.2.2 18 0 0 ∧ v2 = nI j ∧ (∀ k, k ≠ 17 → S'.1 k = S.1 k) ∧ S'.2.1 = S.2.1 ∧ (∀ k, k ≠ 18 → S'.2.2 k = S.2.2 k) ∧ (∀ i, S'.1 17 0 i = if i < j then S.1 17 0 (i + 1) else S.1 17 0 i) ∧ (∀ i, S'.2.2 18 0 i = if i < j then S.2.2 18 0 (i + 1) else S.2.2 18 0 i))
    (fun _ _ v => 10 - v.toNatClampNeg) ⟨0, by omega, rfl, rfl, fun _ _ => rfl, rfl, fun _ _ => rfl, fun i => by rw [if_neg (by omega)], fun i => by rw [if_neg (by omega)]⟩ ?_
  rintro S' v1 v2 K ⟨j, hj, rfl, rfl, h1, h2, h3, h4, h5⟩ hK
  unfold wp_X2_forgetOldest_9_b
  rw [nI_1]
  by_cases c : j = 5
  · subst c
    refine gt (by rw [nl6, vv_le (by omega) (by omega)]; omega) ?_
    rw [xI_s, nl5, vv_clI (k := 5) (by omega)]
    refine ⟨vv_in (by omega) (by omega), k _ (fun k a b => ?_) h2 (fun k hk => ?_) ?_ (fun i hi => ?_) (fun i hi => ?_) ?_⟩
    · rw [xR_1, xI_k a]; exact h1 k b
    · rw [xR_k hk]; exact h3 k hk
    · rw [xR_1, xI_s]
    · rw [xR_1, xI_k (by omega), h4, if_pos hi]
    · rw [xR_22, if_neg (by omega)]
      show S'.2.2 18 0 i = _
      rw [h5, if_pos hi]
    · rw [xR_22, if_pos ⟨rfl, rfl, rfl⟩]
  · refine gf (by rw [nl6, vv_le (by omega) (by omega)]; omega) ⟨vv_in (by omega) (by omega), vv_in (by omega) (by omega), ?_⟩
    rw [vv_clI (k := j + 1) (by omega), vv_clI (k := j) (by omega)]
    have e5 : S'.2.2 18 0 (j + 1) = S.2.2 18 0 (j + 1) := by rw [h5, if_neg (by omega)]
    have e4 : S'.1 17 0 (j + 1) = S.1 17 0 (j + 1) := by rw [h4, if_neg (by omega)]
    have e6 : (xI S' 17 0 j (S'.1 17 0 (j + 1))).2.2 18 0 (j + 1) = S.2.2 18 0 (j + 1) := e5
    rw [e6]
    refine ⟨⟨vv_in (by omega) (by omega), hid _ (by omega)⟩, vv_in (by omega) (by omega), hK _ _ _ ⟨j + 1, by omega, rfl, rfl, fun k hk => ?_, h2, fun k hk => ?_, fun i => ?_, fun i => ?_⟩ (by rw [vv_clI (by omega), vv_clI (by omega)]; omega)⟩
    · rw [xR_1, xI_k hk]; exact h1 k hk
    · rw [xR_k hk]; exact h3 k hk
    · rw [xR_1, xI_1]
      by_cases ei : i = j
      · rw [if_pos (by omega), if_pos (by omega), e4, ei]
      · rw [if_neg (by omega), h4]
        by_cases c1 : i < j
        · rw [if_pos c1, if_pos (by omega)]
        · rw [if_neg c1, if_neg (by omega)]
    · rw [xR_22]
      by_cases ei : i = j
      · rw [if_pos (by omega), if_pos (by omega), ei]
      · rw [if_neg (by omega)]
        show S'.2.2 18 0 i = _
        rw [h5]
        by_cases c1 : i < j
        · rw [if_pos c1, if_pos (by omega)]
        · rw [if_neg c1, if_neg (by omega)]
def hS (c : Nat) : Nat := if c = 6 then 1 else 0
def hC (c : Nat) : Nat := if c = 6 then 5 else c
theorem w7_keeps {M : xS} {g c : Nat} {Q : xS → Prop} (hg : g < 6) (h23 : M.1 0 0 23 = nI c) (hc : c ≤ 6)
    (k : ∀ M', (∀ k, k ≠ 0 → k ≠ 25 → k ≠ 26 → M'.1 k = M.1 k) → (∀ j, j ≠ 23 → M'.1 0 0 j = M.1 0 0 j) → M'.1 0 0 23 = nI (hC c + 1) → (∀ i, i < hC c → M'.1 25 0 i = M.1 25 0 (i + hS c) ∧ ∀ x, x < 511 → krow M' i x = krow M (i + hS c) x) → M'.1 25 0 (hC c) = nI g → (∀ x, x < 511 → krow M' (hC c) x = mrow M g x) → Q M') : wp_X7_keeps (nI g) M Q := by
  have last : ∀ M1 : xS, ∀ d, d < 6 → M1.1 0 0 23 = nI d → (∀ k, k ≠ 0 → k ≠ 25 → k ≠ 26 → M1.1 k = M.1 k) → (∀ j, j ≠ 23 → M1.1 0 0 j = M.1 0 0 j) → d = hC c → (∀ i, i < d → M1.1 25 0 i = M.1 25 0 (i + hS c) ∧ ∀ x, x < 511 → krow M1 i x = krow M (i + hS c) x) → wp_X7_keeps_85 (nI g) Q M1 := by
    intro M1 d hd e h1 h2 hdc h3
    unfold wp_X7_keeps_85
    rw [e, vv_clI (by omega)]
    refine ⟨vv_in hd (by omega), ?_⟩
    refine wl1 (wp_X7_keeps_97 (nI g) Q) (fun K => wp_X7_keeps_97_b (nI g) K Q) (fun _ _ _ => rfl)
      (fun M' v => ∃ j, j ≤ 511 ∧ v = nI j ∧ (∀ k, k ≠ 0 → k ≠ 25 → k ≠ 26 → M'.1 k = M.1 k) ∧ M'.1 0 = M1.1 0 ∧ (∀ i, i < d → M'.1 25 0 i = M.1 25 0 (i + hS c) ∧ ∀ x, x < 511 → krow M' i x = krow M (i + hS c) x) ∧ M'.1 25 0 d = nI g ∧ (∀ x, x < j → krow M' d x = mrow M g x))
      (fun _ v => 511 - v.toNatClampNeg) ⟨0, by omega, rfl, fun k a b c => by rw [xI_k b]; exact h1 k a b c, by rw [xI_k (by omega)], fun i hi => ⟨by rw [xI_1, if_neg (by omega)]; exact (h3 i hi).1, fun x hx => by have := (h3 i hi).2 x hx; unfold krow at this ⊢; rw [xI_k (by omega)]; exact this⟩, by rw [xI_s], fun x h => by omega⟩ ?_
    rintro M' v K ⟨j, hj, rfl, p1, p2, p3, p4, p5⟩ hK
    unfold wp_X7_keeps_97_b
    rw [p2, e]
    by_cases cj : j = 511
    · subst cj
      refine gt (by rw [nl511, vv_le (by omega) (by omega)]; omega) ?_
      rw [nI_1]
      subst hdc
      refine k _ (fun k a b c => by rw [xI_k a]; exact p1 k a b c) (fun j hj => by rw [xI_1, if_neg (by omega), p2]; exact h2 j hj) (by rw [xI_s]) (fun i hi => ⟨by rw [xI_k (by omega)]; exact (p3 i hi).1, fun x hx => by have := (p3 i hi).2 x hx; unfold krow at this ⊢; rw [xI_k (by omega)]; exact this⟩) (by rw [xI_k (by omega)]; exact p4) (fun x hx => by have := p5 x hx; unfold krow at this ⊢; rw [xI_k (by omega)]; exact this)
    · refine gf (by rw [nl511, vv_le (by omega) (by omega)]; omega) (v7_of rfl rfl hg (by omega) ?_)
      rw [nl511, vv_mul, nI_add, vv_clI (k := 511 * d + j) (by omega), nI_1]
      refine ⟨vv_in (by omega) (by omega), hK _ _ ⟨j + 1, by omega, rfl, fun k a b c => by rw [xI_k c]; exact p1 k a b c, by rw [xI_k (by omega)]; exact p2, fun i hi => ⟨by rw [xI_k (by omega)]; exact (p3 i hi).1, fun x hx => ?_⟩, by rw [xI_k (by omega)]; exact p4, fun x hx => ?_⟩ (by rw [vv_clI (by omega), vv_clI (by omega)]; omega)⟩
      · have := (p3 i hi).2 x hx
        unfold krow at this ⊢
        rw [xI_1, if_neg (by omega)]
        exact this
      · unfold krow
        rw [xI_1]
        by_cases ex : x = j
        · rw [if_pos (by omega), ex]
          unfold mrow
          rw [p1 11 (by omega) (by omega) (by omega)]
        · rw [if_neg (by omega)]
          exact p5 x (by omega)
  unfold wp_X7_keeps
  rw [h23]
  by_cases c6 : c = 6
  rotate_left
  · refine gf (by rw [nl6, vv_eq (by omega) (by omega)]; exact c6) (last M c (by omega) h23 (fun _ _ _ _ => rfl) (fun _ _ => rfl) (by unfold hC; rw [if_neg c6]) (fun i hi => ?_))
    have : hS c = 0 := by unfold hS; rw [if_neg c6]
    rw [this]
    exact ⟨rfl, fun _ _ => rfl⟩
  subst c6
  have hs1 : hS 6 = 1 := rfl
  have hc5 : hC 6 = 5 := rfl
  refine gt rfl ?_
  rw [show nI 6 - 1 = nI 5 from rfl]
  refine wl1 (wp_X7_keeps_21 (nI g) Q) (fun K => wp_X7_keeps_21_b (nI g) K Q) (fun _ _ _ => rfl)
    (fun M' v => ∃ j, j ≤ 5 ∧ v = nI j ∧ (∀ k, k ≠ 0 → k ≠ 25 → M'.1 k = M.1 k) ∧ (∀ i, i ≠ 23 → M'.1 0 0 i = M.1 0 0 i) ∧ M'.1 0 0 23 = nI 5 ∧ (∀ i, M'.1 25 0 i = if i < j then M.1 25 0 (i + 1) else M.1 25 0 i))
    (fun _ v => 10 - v.toNatClampNeg) ⟨0, by omega, rfl, fun k a b => by rw [xI_k a], fun i hi => by rw [xI_1, if_neg (by omega)], xI_s _ _ _ _ _, fun i => by rw [xI_k (by omega), if_neg (by omega)]⟩ ?_
  rintro M' v K ⟨j, hj, rfl, p1, p2, p3, p4⟩ hK
  unfold wp_X7_keeps_21_b
  rw [p3]
  by_cases cj : j = 5
  rotate_left
  · refine gf (by rw [vv_le (by omega) (by omega)]; omega) ?_
    rw [nI_1, vv_clI (k := j) (by omega), vv_clI (k := j + 1) (by omega)]
    refine ⟨vv_in (by omega) (by omega), vv_in (by omega) (by omega), hK _ _ ⟨j + 1, by omega, rfl, fun k a b => by rw [xI_k b]; exact p1 k a b, fun i hi => by rw [xI_k (by omega)]; exact p2 i hi, by rw [xI_k (by omega)]; exact p3, fun i => ?_⟩ (by rw [vv_clI (by omega), vv_clI (by omega)]; omega)⟩
    rw [xI_1]
    by_cases ei : i = j
    · rw [if_pos (by omega), if_pos (by omega), p4, if_neg (by omega), ei]
    · rw [if_neg (by omega), p4]
      by_cases c1 : i < j
      · rw [if_pos c1, if_pos (by omega)]
      · rw [if_neg c1, if_neg (by omega)]
  subst cj
  refine gt (by rw [vv_le (by omega) (by omega)]; omega) ?_
  refine wl1 (wp_X7_keeps_51 (nI g) Q) (fun K => wp_X7_keeps_51_b (nI g) K Q) (fun _ _ _ => rfl)
    (fun M'' v => ∃ j, j ≤ 2555 ∧ v = nI j ∧ (∀ k, k ≠ 26 → M''.1 k = M'.1 k) ∧ (∀ x, M''.1 26 0 x = if x < j then M.1 26 0 (x + 511) else M.1 26 0 x))
    (fun _ v => 3000 - v.toNatClampNeg) ⟨0, by omega, rfl, fun _ _ => rfl, fun x => by rw [p1 26 (by omega) (by omega), if_neg (by omega)]⟩ ?_
  rintro M'' v K' ⟨j, hj, rfl, q1, q2⟩ hK'
  unfold wp_X7_keeps_51_b
  rw [q1 0 (by omega), p3, nl511, vv_mul]
  by_cases cj : j = 2555
  · subst cj
    refine gt (by rw [vv_le (by omega) (by omega)]; omega) (last M'' 5 (by omega) (by rw [q1 0 (by omega)]; exact p3) (fun k a b c => by rw [q1 k c]; exact p1 k a b) (fun i hi => by rw [q1 0 (by omega)]; exact p2 i hi) hc5.symm (fun i hi => ?_))
    rw [hs1]
    refine ⟨by rw [q1 25 (by omega), p4, if_pos hi], fun x hx => ?_⟩
    unfold krow
    rw [q2, if_pos (by omega), show 511 * i + x + 511 = 511 * (i + 1) + x by omega]
  · refine gf (by rw [vv_le (by omega) (by omega)]; omega) ?_
    rw [nI_add, nI_1, vv_clI (k := j + 511) (by omega), vv_clI (k := j) (by omega)]
    refine ⟨vv_in (by omega) (by omega), vv_in (by omega) (by omega), hK' _ _ ⟨j + 1, by omega, rfl, fun k hk => by rw [xI_k hk]; exact q1 k hk, fun x => ?_⟩ (by rw [vv_clI (by omega), vv_clI (by omega)]; omega)⟩
    rw [xI_1]
    by_cases ei : x = j
    · rw [if_pos (by omega), if_pos (by omega), q2, if_neg (by omega), ei]
    · rw [if_neg (by omega), q2]
      by_cases c1 : x < j
      · rw [if_pos c1, if_pos (by omega)]
      · rw [if_neg c1, if_neg (by omega)]
