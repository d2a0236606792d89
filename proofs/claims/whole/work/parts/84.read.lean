/- reading a location: digits, items, the loops of both sides -/
def dgB (T : Nat → Int32) (L p : Nat) : Bool := decide (p < L ∧ ¬ T p < 48 ∧ ¬ (57 : Int32) < T p)
def dgs (T : Nat → Int32) (L : Nat) : Nat → Nat → Int32 → Nat × Int32
  | 0, p, v => (p, v)
  | k + 1, p, v => if dgB T L p = true then dgs T L k (p + 1) (v * 10 + (T p - 48)) else (p, v)
theorem dgs_le {T : Nat → Int32} {L : Nat} : ∀ k p v, p ≤ (dgs T L k p v).1 ∧ (p ≤ L → (dgs T L k p v).1 ≤ L)
  | 0, p, v => ⟨Nat.le_refl _, fun h => h⟩
  | k + 1, p, v => by
    show p ≤ (if dgB T L p = true then dgs T L k (p + 1) (v * 10 + (T p - 48)) else (p, v)).1 ∧ (p ≤ L → (if dgB T L p = true then dgs T L k (p + 1) (v * 10 + (T p - 48)) else (p, v)).1 ≤ L)
    by_cases c : dgB T L p = true
    · rw [if_pos c]
      have h := dgs_le (T := T) (L := L) k (p + 1) (v * 10 + (T p - 48))
      have c2 : p < L := (of_decide_eq_true c).1
      exact ⟨by omega, fun _ => h.2 (by omega)⟩
    · rw [if_neg c]; exact ⟨Nat.le_refl _, fun h => h⟩
theorem i32_dig (v t : Int32) : (10 : Int32) * v + t - 48 = v * 10 + (t - 48) := by
  rw [Int32.mul_comm, Int32.sub_eq_add_neg, Int32.sub_eq_add_neg, Int32.add_assoc]
theorem w3_digits {S : xS} {L first ax : Nat} {neg : Int32} {Q : Int32 → xS → Prop} (hL : S.1 3 0 0 = nI L) (h60 : L ≤ 60) (hf : first ≤ 60)
    (k : wp_X3_readNumber_72 (nI ax) neg Q S (dgs (S.1 19 0) L 6 first 0).2 (nI (dgs (S.1 19 0) L 6 first 0).1)) : wp_X3_readNumber (nI first) (nI ax) neg S Q := by
  unfold wp_X3_readNumber
  refine wl2 (wp_X3_readNumber_6 (nI first) (nI ax) neg Q) (fun K => wp_X3_readNumber_6_b (nI first) (nI ax) neg K Q) (fun _ _ _ _ => rfl)
    (fun S' v p => S' = S ∧ ∃ i q, i ≤ 6 ∧ p = nI q ∧ q + i = first + 6 ∧ dgs (S.1 19 0) L i q v = dgs (S.1 19 0) L 6 first 0) (fun _ _ p => 100 - p.toNatClampNeg) ⟨rfl, 6, first, by omega, rfl, rfl, rfl⟩ ?_
  rintro S' v p K ⟨rfl, i, q, hi, rfl, hq, he⟩ hK
  unfold wp_X3_readNumber_6_b
  rw [hL, nl6, nI_add]
  have out : (dgs (S'.1 19 0) L 6 first 0) = (q, v) → wp_X3_readNumber_72 (nI ax) neg Q S' v (nI q) := fun h => by rw [h] at k; exact k
  cases i with
  | zero =>
    have h0 : dgs (S'.1 19 0) L 6 first 0 = (q, v) := he.symm
    by_cases c : L ≤ q
    · exact gt (by rw [vv_le (by omega) (by omega)]; exact c) (out h0)
    · exact gf (by rw [vv_le (by omega) (by omega)]; exact c) (gt (by rw [vv_le (by omega) (by omega)]; omega) (out h0))
  | succ i =>
    have he2 : (if dgB (S'.1 19 0) L q = true then dgs (S'.1 19 0) L i (q + 1) (v * 10 + (S'.1 19 0 q - 48)) else (q, v)) = dgs (S'.1 19 0) L 6 first 0 := he
    have no : ¬ dgB (S'.1 19 0) L q = true → wp_X3_readNumber_72 (nI ax) neg Q S' v (nI q) := fun h => by rw [if_neg h] at he2; exact out he2.symm
    by_cases c : L ≤ q
    · exact gt (by rw [vv_le (by omega) (by omega)]; exact c) (no (by unfold dgB; rw [decide_eq_true_eq]; omega))
    · refine gf (by rw [vv_le (by omega) (by omega)]; exact c) (gf (by rw [vv_le (by omega) (by omega)]; omega) ⟨vv_in (by omega) (by omega), ?_⟩)
      rw [vv_clI (by omega)]
      by_cases c1 : S'.1 19 0 q < 48
      · exact gt c1 (no (by unfold dgB; rw [decide_eq_true_eq]; exact fun h => h.2.1 c1))
      · refine gf c1 ⟨vv_in (by omega) (by omega), ?_⟩
        by_cases c2 : (57 : Int32) < S'.1 19 0 q
        · exact gt c2 (no (by unfold dgB; rw [decide_eq_true_eq]; exact fun h => h.2.2 c2))
        · have cy : dgB (S'.1 19 0) L q = true := by unfold dgB; rw [decide_eq_true_eq]; exact ⟨by omega, c1, c2⟩
          rw [if_pos cy] at he2
          refine gf c2 ⟨vv_in (by omega) (by omega), ?_⟩
          rw [nI_1]
          exact hK _ _ _ ⟨rfl, i, q + 1, by omega, rfl, by omega, he2⟩ (by rw [vv_clI (by omega), vv_clI (by omega)]; omega)
theorem w7_isDigit {M : xS} {L p : Nat} {Q : Int32 → xS → Prop} (hL : M.1 0 0 34 = nI L) (hp : M.1 0 0 36 = nI p) (h60 : L ≤ 60) (hp60 : p ≤ 1000) (k : Q (b2 (dgB (M.1 36 0) L p)) M) : wp_X7_isDigit M Q := by
  unfold wp_X7_isDigit
  rw [hL, hp]
  have no : ¬ dgB (M.1 36 0) L p = true → Q 0 M := fun h => by rw [Bool.not_eq_true] at h; rw [h] at k; exact k
  by_cases c : L ≤ p
  · exact gt (by rw [vv_le (by omega) (by omega)]; exact c) ⟨Or.inl rfl, no (by unfold dgB; rw [decide_eq_true_eq]; omega)⟩
  · refine gf (by rw [vv_le (by omega) (by omega)]; exact c) ⟨vv_in (by omega) (by omega), ?_⟩
    rw [vv_clI (by omega)]
    by_cases c1 : M.1 36 0 p < 48
    · exact gt c1 ⟨Or.inl rfl, no (by unfold dgB; rw [decide_eq_true_eq]; exact fun h => h.2.1 c1)⟩
    · refine gf c1 ⟨vv_in (by omega) (by omega), ?_⟩
      by_cases c2 : (57 : Int32) < M.1 36 0 p
      · exact gt c2 ⟨Or.inl rfl, no (by unfold dgB; rw [decide_eq_true_eq]; exact fun h => h.2.2 c2)⟩
      · have cy : dgB (M.1 36 0) L p = true := by unfold dgB; rw [decide_eq_true_eq]; exact ⟨by omega, c1, c2⟩
        rw [cy] at k
        exact gf c2 ⟨Or.inr rfl, k⟩
def RdM (M M' : xS) : Prop := (∀ k, k ≠ 0 → k ≠ 40 → M'.1 k = M.1 k) ∧ (∀ j, j ≠ 36 → j ≠ 37 → j ≠ 38 → M'.1 0 0 j = M.1 0 0 j)
def RdS (S S' : xS) : Prop := (∀ k, k ≠ 3 → k ≠ 20 → S'.1 k = S.1 k) ∧ (∀ j, j ≠ 2 → S'.1 3 0 j = S.1 3 0 j) ∧ S'.2 = S.2
theorem RdM.refl (M : xS) : RdM M M := ⟨fun _ _ _ => rfl, fun _ _ _ _ => rfl⟩
theorem RdS.refl (S : xS) : RdS S S := ⟨fun _ _ _ => rfl, fun _ _ => rfl, rfl⟩
theorem RdM.trans {M M' M'' : xS} (h : RdM M M') (h2 : RdM M' M'') : RdM M M'' := ⟨fun k a b => (h2.1 k a b).trans (h.1 k a b), fun j a b c => (h2.2 j a b c).trans (h.2 j a b c)⟩
theorem RdS.trans {M M' M'' : xS} (h : RdS M M') (h2 : RdS M' M'') : RdS M M'' := ⟨fun k a b => (h2.1 k a b).trans (h.1 k a b), fun j a => (h2.2.1 j a).trans (h.2.1 j a), h2.2.2.trans h.2.2⟩
theorem RdM.i {M : xS} {j : Nat} {v : Int32} (h : j = 36 ∨ j = 37 ∨ j = 38) : RdM M (xI M 0 0 j v) := ⟨fun k h0 _ => xI_k h0, fun z a b c => by rw [xI_1, if_neg (by omega)]⟩
theorem RdM.v {M : xS} {a : Nat} {v : Int32} : RdM M (xI M 40 0 a v) := ⟨fun k _ h => xI_k h, fun z a b c => by rw [xI_1, if_neg (by omega)]⟩
theorem RdS.b {S : xS} {v : Int32} : RdS S (xI S 3 0 2 v) := ⟨fun k h _ => xI_k h, fun z a => by rw [xI_1, if_neg (by omega)], rfl⟩
theorem RdS.v {S : xS} {a : Nat} {v : Int32} : RdS S (xI S 20 0 a v) := ⟨fun k _ h => xI_k h, fun z a => by rw [xI_1, if_neg (by omega)], rfl⟩
/- the digits of the reference -/
theorem w7_digits {M : xS} {L p : Nat} {v1 : Int32} {Q : Int32 → xS → Prop} (hL : M.1 0 0 34 = nI L) (h60 : L ≤ 60) (hp : M.1 0 0 36 = nI p) (hp60 : p ≤ 60) (hv : M.1 0 0 37 = 0)
    (k : ∀ M', RdM M M' → M'.2 = M.2 → M'.1 40 = M.1 40 → M'.1 0 0 38 = M.1 0 0 38 → M'.1 0 0 36 = nI (dgs (M.1 36 0) L 6 p 0).1 → M'.1 0 0 37 = (dgs (M.1 36 0) L 6 p 0).2 → wp_X7_readsNumber_109 Q M' v1 (nI ((dgs (M.1 36 0) L 6 p 0).1 - p))) : ∃ n, wp_X7_readsNumber_56 Q n M v1 0 := by
  refine wl2 (wp_X7_readsNumber_56 Q) (fun K => wp_X7_readsNumber_56_b K Q) (fun _ _ _ _ => rfl)
    (fun M' w d => w = v1 ∧ ∃ i q, i ≤ 6 ∧ d = nI (q - p) ∧ p ≤ q ∧ q + i = p + 6 ∧ RdM M M' ∧ M'.2 = M.2 ∧ M'.1 40 = M.1 40 ∧ M'.1 0 0 38 = M.1 0 0 38 ∧ M'.1 0 0 36 = nI q ∧ dgs (M.1 36 0) L i q (M'.1 0 0 37) = dgs (M.1 36 0) L 6 p 0) (fun _ _ d => 100 - d.toNatClampNeg)
    ⟨rfl, 6, p, by omega, by rw [Nat.sub_self]; rfl, by omega, by omega, RdM.refl _, rfl, rfl, rfl, hp, by rw [hv]⟩ ?_
  rintro M' w d K ⟨rfl, i, q, hi, rfl, hpq, hq, hfr, hf2, hf40, hf38, h36, he⟩ hK
  unfold wp_X7_readsNumber_56_b
  have out : (dgs (M.1 36 0) L 6 p 0) = (q, M'.1 0 0 37) → wp_X7_readsNumber_109 Q M' w (nI (q - p)) := fun h => by
    have := k M' hfr hf2 hf40 hf38 (by rw [h]; exact h36) (by rw [h])
    rw [h] at this
    exact this
  cases i with
  | zero => exact gt (by rw [nl6, vv_le (by omega) (by omega)]; omega) (out he.symm)
  | succ i =>
    have e36 : M'.1 36 = M.1 36 := hfr.1 36 (by omega) (by omega)
    refine gf (by rw [nl6, vv_le (by omega) (by omega)]; omega) (w7_isDigit (by rw [hfr.2 34 (by omega) (by omega) (by omega)]; exact hL) h36 h60 (by omega) ?_)
    rw [e36]
    have he2 : (if dgB (M.1 36 0) L q = true then dgs (M.1 36 0) L i (q + 1) (M'.1 0 0 37 * 10 + (M.1 36 0 q - 48)) else (q, M'.1 0 0 37)) = dgs (M.1 36 0) L 6 p 0 := he
    cases cd : dgB (M.1 36 0) L q
    · rw [cd, if_neg (by decide)] at he2
      exact g0 (out he2.symm)
    · rw [cd, if_pos rfl] at he2
      have hqL : q < L := (of_decide_eq_true cd).1
      refine g1 ?_
      rw [h36, vv_clI (k := q) (by omega), nI_1, xI_1, if_neg (by omega), h36, nI_1]
      refine ⟨vv_in (by omega) (by omega), hK _ _ _ ⟨rfl, i, q + 1, by omega, by rw [show q + 1 - p = q - p + 1 by omega], by omega, by omega, hfr.trans ((RdM.i (by omega)).trans (RdM.i (by omega))), hf2, by rw [xI_k (by omega), xI_k (by omega)]; exact hf40, by rw [xI_1, if_neg (by omega), xI_1, if_neg (by omega)]; exact hf38, xI_s _ _ _ _ _, ?_⟩ (by rw [vv_clI (by omega), vv_clI (by omega)]; omega)⟩
      rw [xI_1, if_neg (by omega), xI_s, i32_dig]
      exact he2
