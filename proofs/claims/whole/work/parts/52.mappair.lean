theorem ex_pl {f : Nat → Int} {np : Nat} {x : Int} (h0 : f 0 < x) (h1 : x < f (np - 1)) (h2 : 2 ≤ np) : ∃ p, 1 ≤ p ∧ p < np ∧ (∀ j, j < p → f j < x) ∧ x ≤ f p := by
  obtain ⟨i, h3, h4, h5⟩ := ex_ix (f := f) (np := np) (n := x - 1) (by omega) (by omega) h2
  exact ⟨i + 1, by omega, h3, fun j hj => by have := h4 j (by omega); omega, by omega⟩
theorem v6_keepsOrder_t {a np : Nat} {x y : Int32} {S : xS} {Q : Int32 → xS → Prop} (hn : np ≤ 8) (e : S.1 0 a 4 = nI np) (h : ∀ j, j < np → (S.1 10 a j < x → ¬ y < S.1 11 a j) ∧ (x < S.1 10 a j → ¬ S.1 11 a j < y)) (k : Q 1 S) : wp_X0_keepsOrder a x y S Q := by
  unfold wp_X0_keepsOrder
  refine wl1 (wp_X0_keepsOrder_2 a x y Q) (fun K => wp_X0_keepsOrder_2_b a x y K Q) (fun _ _ _ => rfl) (fun S' v => S' = S ∧ ∃ j, j ≤ np ∧ v = nI j) (fun _ v => np - v.toNatClampNeg) ⟨rfl, 0, by omega, rfl⟩ ?_
  rintro S' v K ⟨rfl, j, hj, rfl⟩ hK
  unfold wp_X0_keepsOrder_2_b wp_X0_keepsOrder_30 wp_X0_keepsOrder_52 wp_X0_keepsOrder_50
  rw [e]
  by_cases c : j = np
  · exact gt (by rw [c, vv_le (by omega) (by omega)]; omega) ⟨Or.inr rfl, k⟩
  · have hin := vv_in (k := j) (N := 8) (by omega) (by omega)
    refine gf (by rw [vv_le (by omega) (by omega)]; omega) ⟨hin, ?_⟩
    rw [vv_clI (by omega)]
    obtain ⟨h1, h2⟩ := h j (by omega)
    have kk : K S' (nI j + 1) := hK _ _ ⟨rfl, j + 1, by omega, nI_1 j⟩ (by rw [nI_1, vv_clI (by omega), vv_clI (by omega)]; omega)
    have w30 : (vp_in (nI j) 8 ∧ (if S'.1 10 a j ≤ x then K S' (nI j + 1) else (vp_in (nI j) 8 ∧ (if y ≤ S'.1 11 a j then K S' (nI j + 1) else ((0 : Int32) = 0 ∨ (0 : Int32) = 1) ∧ Q 0 S')))) := by
      refine ⟨hin, ?_⟩
      by_cases c1 : S'.1 10 a j ≤ x
      · exact gt c1 kk
      · refine gf c1 ⟨hin, gt ?_ kk⟩
        have h3 := h2 (by rw [i32_le] at c1; rw [i32_lt]; omega)
        rw [i32_lt] at h3
        rw [i32_le]; omega
    by_cases c1 : x ≤ S'.1 10 a j
    · exact gt c1 w30
    · refine gf c1 ⟨hin, gf ?_ w30⟩
      exact h1 (by rw [i32_le] at c1; rw [i32_lt]; omega)
theorem v6_keepsOrder_f {a np : Nat} {x y : Int32} {S : xS} {Q : Int32 → xS → Prop} (hn : np ≤ 8) (e : S.1 0 a 4 = nI np) {z : Nat} (hz : z < np) (h : (S.1 10 a z < x ∧ y < S.1 11 a z) ∨ (x < S.1 10 a z ∧ S.1 11 a z < y)) (k : Q 0 S) : wp_X0_keepsOrder a x y S Q := by
  unfold wp_X0_keepsOrder
  refine wl1 (wp_X0_keepsOrder_2 a x y Q) (fun K => wp_X0_keepsOrder_2_b a x y K Q) (fun _ _ _ => rfl) (fun S' v => S' = S ∧ ∃ j, j ≤ z ∧ v = nI j) (fun _ v => np - v.toNatClampNeg) ⟨rfl, 0, by omega, rfl⟩ ?_
  rintro S' v K ⟨rfl, j, hj, rfl⟩ hK
  unfold wp_X0_keepsOrder_2_b wp_X0_keepsOrder_30 wp_X0_keepsOrder_52 wp_X0_keepsOrder_50
  rw [e]
  have hin := vv_in (k := j) (N := 8) (by omega) (by omega)
  refine gf (by rw [vv_le (by omega) (by omega)]; omega) ⟨hin, ?_⟩
  rw [vv_clI (by omega)]
  by_cases cz : j = z
  · subst cz
    rcases h with ⟨h1, h2⟩ | ⟨h1, h2⟩
    · exact gf (by rw [i32_lt] at h1; rw [i32_le]; omega) ⟨hin, gt h2 ⟨Or.inl rfl, k⟩⟩
    · refine gt (by rw [i32_lt] at h1; rw [i32_le]; omega) ⟨hin, gf (by rw [i32_lt] at h1; rw [i32_le]; omega) ⟨hin, gf (by rw [i32_lt] at h2; rw [i32_le]; omega) ⟨Or.inl rfl, k⟩⟩⟩
  · have kk : K S' (nI j + 1) := hK _ _ ⟨rfl, j + 1, by omega, nI_1 j⟩ (by rw [nI_1, vv_clI (by omega), vv_clI (by omega)]; omega)
    have kq : ((0 : Int32) = 0 ∨ (0 : Int32) = 1) ∧ Q 0 S' := ⟨Or.inl rfl, k⟩
    have w30 : (vp_in (nI j) 8 ∧ (if S'.1 10 a j ≤ x then K S' (nI j + 1) else (vp_in (nI j) 8 ∧ (if y ≤ S'.1 11 a j then K S' (nI j + 1) else ((0 : Int32) = 0 ∨ (0 : Int32) = 1) ∧ Q 0 S')))) := by
      refine ⟨hin, ?_⟩
      by_cases c1 : S'.1 10 a j ≤ x
      · exact gt c1 kk
      · refine gf c1 ⟨hin, ?_⟩
        by_cases c2 : y ≤ S'.1 11 a j
        · exact gt c2 kk
        · exact gf c2 kq
    by_cases c1 : x ≤ S'.1 10 a j
    · exact gt c1 w30
    · refine gf c1 ⟨hin, ?_⟩
      by_cases c2 : y < S'.1 11 a j
      · exact gt c2 kq
      · exact gf c2 w30
theorem v6_first {a np p : Nat} {x : Int32} {S : xS} {Q : Int32 → xS → Prop} (hn : np ≤ 8) (e : S.1 0 a 4 = nI np) (hp : p < np) (h1 : ∀ j, j < p → S.1 10 a j < x) (h2 : x ≤ S.1 10 a p) (k : Q (nI p) S) : wp_X0_firstPairNotBefore a x S Q := by
  unfold wp_X0_firstPairNotBefore
  refine wl1 (wp_X0_firstPairNotBefore_2 a x Q) (fun K => wp_X0_firstPairNotBefore_2_b a x K Q) (fun _ _ _ => rfl) (fun S' v => S' = S ∧ ∃ j, j ≤ p ∧ v = nI j) (fun _ v => np - v.toNatClampNeg) ⟨rfl, 0, by omega, rfl⟩ ?_
  rintro S' v K ⟨rfl, j, hj, rfl⟩ hK
  unfold wp_X0_firstPairNotBefore_2_b wp_X0_firstPairNotBefore_28
  rw [e, nI_1]
  by_cases c : j = p
  · subst c
    by_cases c2 : np ≤ j + 1
    · exact gt (by rw [vv_le (by omega) (by omega)]; exact c2) k
    · refine gf (by rw [vv_le (by omega) (by omega)]; exact c2) ⟨vv_in (by omega) (by omega), ?_⟩
      rw [vv_clI (by omega)]
      exact gt h2 k
  · refine gf (by rw [vv_le (by omega) (by omega)]; omega) ⟨vv_in (by omega) (by omega), ?_⟩
    rw [vv_clI (by omega)]
    have := h1 j (by omega)
    exact gf (by rw [i32_lt] at this; rw [i32_le]; omega) (hK _ _ ⟨rfl, j + 1, by omega, rfl⟩ (by rw [vv_clI (by omega), vv_clI (by omega)]; omega))
theorem nI_m1 {j : Nat} (h : 1 ≤ j) (h2 : j < 2147483648) : nI j + (-1) = nI (j - 1) := by
  apply Int32.toInt_inj.mp
  rw [Int32.toInt_add, nI_toInt' h2, nI_toInt' (by omega), show (-1 : Int32).toInt = -1 from rfl]
  rw [Int.bmod_eq_of_le (by omega) (by omega)]
  omega
theorem nI_s1 {j : Nat} (h : 1 ≤ j) (h2 : j < 2147483648) : nI j - 1 = nI (j - 1) := vv_sub h h2
def sft (f : Nat → Int32) (j n : Nat) (i : Nat) : Int32 := if j < i ∧ i ≤ n then f (i - 1) else f i
theorem v6_shift {a np p : Nat} {x y : Int32} {S : xS} {Q : xS → Prop} (hn : np < 8) (e : S.1 0 a 4 = nI np) (hp : p < np)
    (k : ∀ S', (∀ k, k ≠ 0 → k ≠ 10 → k ≠ 11 → S'.1 k = S.1 k) → S'.2 = S.2 → (∀ z j, z ≠ a ∨ j ≠ 4 → S'.1 0 z j = S.1 0 z j) → S'.1 0 a 4 = nI (np + 1) → (∀ z j, z ≠ a → S'.1 10 z j = S.1 10 z j ∧ S'.1 11 z j = S.1 11 z j) → (∀ i, i < np + 1 → S'.1 10 a i = (if i = p then x else sft (S.1 10 a) p np i) ∧ S'.1 11 a i = (if i = p then y else sft (S.1 11 a) p np i)) → Q S') :
    ∃ n, wp_X0_putPair_31 a x y Q n S (nI p) (nI np) := by
  refine wl2 (wp_X0_putPair_31 a x y Q) (fun K => wp_X0_putPair_31_b a x y K Q) (fun _ _ _ _ => rfl)
    (fun S' v3 v4 => ∃ j, p ≤ j ∧ j ≤ np ∧ v3 = nI p ∧ v4 = nI j ∧ (∀ k, k ≠ 10 → k ≠ 11 → S'.1 k = S.1 k) ∧ S'.2 = S.2 ∧ (∀ z j, z ≠ a → S'.1 10 z j = S.1 10 z j ∧ S'.1 11 z j = S.1 11 z j) ∧ (∀ i, S'.1 10 a i = sft (S.1 10 a) j np i ∧ S'.1 11 a i = sft (S.1 11 a) j np i))
    (fun _ _ v => v.toNatClampNeg) ⟨np, by omega, by omega, rfl, rfl, fun _ _ _ => rfl, rfl, fun _ _ _ => ⟨rfl, rfl⟩, fun i => by unfold sft; rw [if_neg (by omega), if_neg (by omega)]; exact ⟨rfl, rfl⟩⟩ ?_
  rintro S' v3 v4 K ⟨j, hj, hj2, rfl, rfl, h1, h2, h3, h4⟩ hK
  unfold wp_X0_putPair_31_b wp_X0_putPair_92
  by_cases c : j = p
  · subst c
    refine gt (by rw [vv_le (by omega) (by omega)]; omega) ⟨vv_in (by omega) (by omega), vv_in (by omega) (by omega), ?_⟩
    rw [vv_clI (by omega)]
    have e0 : (xI S' 10 a j x).1 0 a 4 = nI np := by rw [xI_k (by omega), h1 0 (by omega) (by omega)]; exact e
    rw [e0, nI_1]
    refine k _ (fun k q1 q2 q3 => by rw [xI_k q3, xI_k q1, xI_k q2]; exact h1 k q2 q3) h2 (fun z i hz => by rw [xI_k (by omega), xI_1, if_neg (by omega), xI_k (by omega), h1 0 (by omega) (by omega)]) (by rw [xI_k (by omega), xI_s]) (fun z i hz => ?_) (fun i hi => ?_)
    · rw [xI_k (by omega), xI_k (by omega), xI_1, if_neg (by omega), xI_1 _ 11, if_neg (by omega), xI_k (by omega), xI_k (by omega)]; exact h3 z i hz
    · rw [xI_k (by omega), xI_k (by omega), xI_1 _ 10, xI_1 _ 11, xI_k (k' := 11) (by omega), xI_k (k' := 11) (by omega)]
      by_cases ei : i = j
      · subst ei; exact ⟨by rw [if_pos (by omega), if_pos rfl], by rw [if_pos (by omega), if_pos rfl]⟩
      · exact ⟨by rw [if_neg (by omega), if_neg ei]; exact (h4 i).1, by rw [if_neg (by omega), if_neg ei]; exact (h4 i).2⟩
  · refine gf (by rw [vv_le (by omega) (by omega)]; omega) ?_
    rw [nI_s1 (by omega) (by omega)]
    refine ⟨vv_in (by omega) (by omega), vv_in (by omega) (by omega), vv_in (by omega) (by omega), vv_in (by omega) (by omega), ?_⟩
    rw [vv_clI (k := j) (by omega), vv_clI (k := j - 1) (by omega), nI_m1 (by omega) (by omega)]
    refine hK _ _ _ ⟨j - 1, by omega, by omega, rfl, rfl, fun k q1 q2 => by rw [xI_k q2, xI_k q1]; exact h1 k q1 q2, h2, fun z i hz => ?_, fun i => ?_⟩ (by rw [vv_clI (by omega), vv_clI (by omega)]; omega)
    · rw [xI_k (k' := 10) (by omega), xI_1, if_neg (by omega), xI_1 _ 11, if_neg (by omega), xI_k (by omega)]; exact h3 z i hz
    · rw [xI_k (k' := 10) (by omega), xI_1 _ 10, xI_1 _ 11, xI_k (k' := 11) (by omega)]
      by_cases ei : i = j
      · subst ei
        rw [if_pos (by omega), if_pos (by omega), (h4 (i - 1)).1, (h4 (i - 1)).2]
        unfold sft
        rw [if_neg (by omega), if_pos (by omega), if_neg (by omega), if_pos (by omega)]
        exact ⟨rfl, rfl⟩
      · rw [if_neg (by omega), if_neg (by omega), (h4 i).1, (h4 i).2]
        unfold sft
        by_cases c2 : j < i ∧ i ≤ np
        · rw [if_pos c2, if_pos c2, if_pos (by omega), if_pos (by omega)]; exact ⟨rfl, rfl⟩
        · rw [if_neg c2, if_neg c2, if_neg (by omega), if_neg (by omega)]; exact ⟨rfl, rfl⟩
theorem w7_shift {a np p : Nat} {x y : Int32} {M : xS} {Q : Int32 → xS → Prop} (ha : a < 4) (hn : np < 8) (e : M.1 7 0 a = nI np) (hp : p < np)
    (k : ∀ M', (∀ k, k ≠ 7 → k ≠ 8 → k ≠ 9 → M'.1 k = M.1 k) → (∀ z, z ≠ a → M'.1 7 0 z = M.1 7 0 z) → M'.1 7 0 a = nI (np + 1) → (∀ z, z < 8 * a ∨ 8 * a + 8 ≤ z → M'.1 8 0 z = M.1 8 0 z ∧ M'.1 9 0 z = M.1 9 0 z) → (∀ i, i < np + 1 → M'.1 8 0 (8 * a + i) = (if i = p then x else sft (fun i => M.1 8 0 (8 * a + i)) p np i) ∧ M'.1 9 0 (8 * a + i) = (if i = p then y else sft (fun i => M.1 9 0 (8 * a + i)) p np i)) → Q (nI (np + 1)) M') :
    ∃ n, wp_X7_addMapPair_167 (nI a) x y Q n M (nI (8 * a + p)) (nI (8 * a + np)) := by
  have hina := vv_in ha (by omega)
  refine wl2 (wp_X7_addMapPair_167 (nI a) x y Q) (fun K => wp_X7_addMapPair_167_b (nI a) x y K Q) (fun _ _ _ _ => rfl)
    (fun M' v3 v4 => ∃ j, p ≤ j ∧ j ≤ np ∧ v3 = nI (8 * a + p) ∧ v4 = nI (8 * a + j) ∧ (∀ k, k ≠ 8 → k ≠ 9 → M'.1 k = M.1 k) ∧ (∀ z, z < 8 * a ∨ 8 * a + 8 ≤ z → M'.1 8 0 z = M.1 8 0 z ∧ M'.1 9 0 z = M.1 9 0 z) ∧ (∀ i, i < 8 → M'.1 8 0 (8 * a + i) = sft (fun i => M.1 8 0 (8 * a + i)) j np i ∧ M'.1 9 0 (8 * a + i) = sft (fun i => M.1 9 0 (8 * a + i)) j np i))
    (fun _ _ v => v.toNatClampNeg) ⟨np, by omega, by omega, rfl, rfl, fun _ _ _ => rfl, fun _ _ => ⟨rfl, rfl⟩, fun i hi => by unfold sft; rw [if_neg (by omega), if_neg (by omega)]; exact ⟨rfl, rfl⟩⟩ ?_
  rintro M' v3 v4 K ⟨j, hj, hj2, rfl, rfl, h1, h3, h4⟩ hK
  unfold wp_X7_addMapPair_167_b wp_X7_addMapPair_222
  by_cases c : j = p
  · subst c
    refine gt (by rw [vv_le (by omega) (by omega)]; omega) ⟨hina, hina, vv_in (by omega) (by omega), vv_in (by omega) (by omega), hina, ?_⟩
    rw [vv_clI (k := a) (by omega), vv_clI (k := 8 * a + j) (by omega), h1 7 (by omega) (by omega), e, nI_1]
    have e7 : (xI (xI (xI M' 7 0 a (nI (np + 1))) 8 0 (8 * a + j) x) 9 0 (8 * a + j) y).1 7 0 a = nI (np + 1) := by rw [xI_k (by omega), xI_k (by omega), xI_s]
    rw [e7]
    refine k _ (fun k q1 q2 q3 => by rw [xI_k q3, xI_k q2, xI_k q1]; exact h1 k q2 q3) (fun z hz => by rw [xI_k (by omega), xI_k (by omega), xI_1, if_neg (by omega), h1 7 (by omega) (by omega)]) e7 (fun z hz => ?_) (fun i hi => ?_)
    · rw [xI_k (k' := 8) (by omega), xI_1 _ 8, if_neg (by omega), xI_1 _ 9, if_neg (by omega), xI_k (by omega), xI_k (by omega), xI_k (by omega)]; exact h3 z hz
    · rw [xI_k (k' := 8) (by omega), xI_1 _ 8, xI_1 _ 9, xI_k (k' := 9) (by omega), xI_k (k' := 9) (by omega), xI_k (k' := 8) (by omega)]
      by_cases ei : i = j
      · subst ei; exact ⟨by rw [if_pos (by omega), if_pos rfl], by rw [if_pos (by omega), if_pos rfl]⟩
      · exact ⟨by rw [if_neg (by omega), if_neg ei]; exact (h4 i (by omega)).1, by rw [if_neg (by omega), if_neg ei]; exact (h4 i (by omega)).2⟩
  · refine gf (by rw [vv_le (by omega) (by omega)]; omega) ?_
    rw [nI_s1 (by omega) (by omega)]
    refine ⟨vv_in (by omega) (by omega), vv_in (by omega) (by omega), vv_in (by omega) (by omega), vv_in (by omega) (by omega), ?_⟩
    rw [vv_clI (k := 8 * a + j) (by omega), vv_clI (k := 8 * a + j - 1) (by omega), nI_m1 (by omega) (by omega), show 8 * a + j - 1 = 8 * a + (j - 1) by omega]
    refine hK _ _ _ ⟨j - 1, by omega, by omega, rfl, rfl, fun k q1 q2 => by rw [xI_k q2, xI_k q1]; exact h1 k q1 q2, fun z hz => ?_, fun i hi => ?_⟩ (by rw [vv_clI (by omega), vv_clI (by omega)]; omega)
    · rw [xI_k (k' := 8) (by omega), xI_1, if_neg (by omega), xI_1 _ 9, if_neg (by omega), xI_k (by omega)]; exact h3 z hz
    · rw [xI_k (k' := 8) (by omega), xI_1 _ 8, xI_1 _ 9, xI_k (k' := 9) (by omega)]
      by_cases ei : i = j
      · subst ei
        rw [if_pos (by omega), if_pos (by omega), (h4 (i - 1) (by omega)).1, (h4 (i - 1) (by omega)).2]
        unfold sft
        rw [if_neg (by omega), if_pos (by omega), if_neg (by omega), if_pos (by omega)]
        exact ⟨rfl, rfl⟩
      · rw [if_neg (by omega), if_neg (by omega), (h4 i hi).1, (h4 i hi).2]
        unfold sft
        by_cases c2 : j < i ∧ i ≤ np
        · rw [if_pos c2, if_pos c2, if_pos (by omega), if_pos (by omega)]; exact ⟨rfl, rfl⟩
        · rw [if_neg c2, if_neg c2, if_neg (by omega), if_neg (by omega)]; exact ⟨rfl, rfl⟩
theorem w7_find {a np p : Nat} {x y : Int32} {M : xS} {Q : Int32 → xS → Prop} (ha : a < 4) (hn : np ≤ 8) (hp : p < np) (h1 : ∀ j, j < p → M.1 8 0 (8 * a + j) < x) (h2 : x ≤ M.1 8 0 (8 * a + p))
    (k : if M.1 8 0 (8 * a + p) = x then wp_X7_addMapPair_85 (nI a) x y Q M (nI (8 * a + p)) 1 else wp_X7_addMapPair_85 (nI a) x y Q M (nI (8 * a + p)) 0) : ∃ n, wp_X7_addMapPair_52 (nI a) x y Q n M (nI (8 * a)) := by
  refine wl1 (wp_X7_addMapPair_52 (nI a) x y Q) (fun K => wp_X7_addMapPair_52_b (nI a) x y K Q) (fun _ _ _ => rfl) (fun S' v => S' = M ∧ ∃ j, j ≤ p ∧ v = nI (8 * a + j)) (fun _ v => 40 - v.toNatClampNeg) ⟨rfl, 0, by omega, rfl⟩ ?_
  rintro S' v K ⟨rfl, j, hj, rfl⟩ hK
  unfold wp_X7_addMapPair_52_b
  have hin := vv_in (k := 8 * a + j) (N := 32) (by omega) (by omega)
  refine ⟨hin, ?_⟩
  rw [vv_clI (by omega), nI_1]
  by_cases c : j = p
  · subst c
    exact gt h2 ⟨hin, k⟩
  · have := h1 j (by omega)
    exact gf (by rw [i32_lt] at this; rw [i32_le]; omega) (hK _ _ ⟨rfl, j + 1, by omega, by rw [Nat.add_assoc]⟩ (by rw [vv_clI (by omega), vv_clI (by omega)]; omega))
theorem Inv.axis {n : Nat} {S M S' M' : xS} (I : Inv n S M) {i : Nat} (hi : i < cntM M 0) (hS : ∀ k, k ≠ 0 → k ≠ 10 → k ≠ 11 → S'.1 k = S.1 k) (hS2 : S'.2.2 = S.2.2) (hM : ∀ k, k ≠ 7 → k ≠ 8 → k ≠ 9 → M'.1 k = M.1 k)
    (h0 : ∀ z j, z ≠ i → S'.1 0 z j = S.1 0 z j) (h1 : ∀ z j, z ≠ i → S'.1 10 z j = S.1 10 z j ∧ S'.1 11 z j = S.1 11 z j) (h7 : ∀ z, z ≠ i → M'.1 7 0 z = M.1 7 0 z) (h8 : ∀ z, z < 8 * i ∨ 8 * i + 8 ≤ z → M'.1 8 0 z = M.1 8 0 z ∧ M'.1 9 0 z = M.1 9 0 z) (hA : AxRel S' M' i) : Inv (n + 1) S' M' := by
  obtain ⟨⟨a1, a2, a3⟩, hax, hz, hzz⟩ := I.1
  have e0 : M'.1 0 = M.1 0 := hM 0 (by omega) (by omega) (by omega)
  have ec : cntM M' 0 = cntM M 0 := by unfold cntM; rw [e0]
  refine I.ax ⟨⟨by rw [ec]; exact a1, by rw [ec, e0]; exact a2, by rw [hS 6 (by omega) (by omega) (by omega), e0]; exact a3⟩, fun x hx => ?_, fun x hx hx4 => ?_, fun x hx => ?_⟩ (fun k q1 q2 q3 q4 q5 => hS k q1 q3 q4) (fun j _ => by rw [hS 6 (by omega) (by omega) (by omega)]) hS2 (fun k hk => hM k (by omega) (by omega) (by omega)) (fun j _ => by rw [e0]) (Nat.le_of_eq ec.symm)
  · rw [ec] at hx
    by_cases ex : x = i
    · rw [ex]; exact hA
    · obtain ⟨t1, t2, t3, t4, t5, np, t6, t7, t8, t9, t10, t11⟩ := hax x hx
      have q8 : ∀ z, z < np → M'.1 8 0 (8 * x + z) = M.1 8 0 (8 * x + z) ∧ M'.1 9 0 (8 * x + z) = M.1 9 0 (8 * x + z) := fun z hz => h8 (8 * x + z) (by omega)
      unfold AxRel
      rw [h0 x 0 ex, h0 x 1 ex, h0 x 2 ex, h0 x 3 ex, h0 x 4 ex, hS 30 (by omega) (by omega) (by omega), hM 2 (by omega) (by omega) (by omega), hM 3 (by omega) (by omega) (by omega), hM 4 (by omega) (by omega) (by omega), hM 5 (by omega) (by omega) (by omega), hM 6 (by omega) (by omega) (by omega), h7 x ex]
      refine ⟨t1, t2, t3, t4, t5, np, t6, t7, t8, fun z hz => ?_, ?_, fun z hz => ?_⟩
      · rw [(h1 x z ex).1, (h1 x z ex).2, (q8 z hz).1, (q8 z hz).2]; exact t9 z hz
      · have u0 := q8 0 (by omega)
        have u1 := q8 (np - 1) (by omega)
        rw [Nat.add_zero] at u0
        rw [u0.1, u0.2, u1.1, u1.2]; exact t10
      · have u0 := q8 z (by omega)
        have u1 := q8 (z + 1) (by omega)
        rw [u0.1, u0.2, u1.1, u1.2]; exact t11 z hz
  · rw [ec] at hx
    rw [hS 30 (by omega) (by omega) (by omega), h0 x 3 (by omega), hM 6 (by omega) (by omega) (by omega)]
    exact hz x hx hx4
  · rw [hS 30 (by omega) (by omega) (by omega)]
    exact hzz x hx
