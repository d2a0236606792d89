def pv (M : xS) (p : Nat) (v : Int32) : xS := xI (xI M 0 0 36 (nI p)) 0 0 37 v
theorem pv_ov (M : xS) (p p' : Nat) (v v' : Int32) : xI (xI (pv M p v) 0 0 37 v') 0 0 36 (nI p') = pv M p' v' := by
  unfold pv
  refine Prod.ext (funext fun i => funext fun j => funext fun z => ?_) rfl
  simp only [xI_1]
  by_cases h : i = 0 ∧ j = 0 ∧ z = 36
  · rw [if_pos h, if_neg (by omega), if_pos h]
  · rw [if_neg h]
    by_cases h2 : i = 0 ∧ j = 0 ∧ z = 37
    · rw [if_pos h2, if_pos h2]
    · rw [if_neg h2, if_neg h2, if_neg h, if_neg h2, if_neg h]
theorem pv_37 (M : xS) (p : Nat) (v v' : Int32) : xI (pv M p v) 0 0 37 v' = pv M p v' := by
  unfold pv
  refine Prod.ext (funext fun i => funext fun j => funext fun z => ?_) rfl
  simp only [xI_1]
  by_cases h2 : i = 0 ∧ j = 0 ∧ z = 37
  · rw [if_pos h2, if_pos h2]
  · rw [if_neg h2, if_neg h2, if_neg h2]
theorem pv_k {M : xS} {p : Nat} {v : Int32} {k : Nat} (h : k ≠ 0) : (pv M p v).1 k = M.1 k := by unfold pv; rw [xI_k h, xI_k h]
theorem pv_0 {M : xS} {p : Nat} {v : Int32} {j : Nat} (h : j ≠ 36) (h2 : j ≠ 37) : (pv M p v).1 0 0 j = M.1 0 0 j := by unfold pv; rw [xI_1, if_neg (by omega), xI_1, if_neg (by omega)]
theorem pv_p {M : xS} {p : Nat} {v : Int32} : (pv M p v).1 0 0 36 = nI p := by unfold pv; rw [xI_1, if_neg (by omega), xI_s]
theorem pv_v {M : xS} {p : Nat} {v : Int32} : (pv M p v).1 0 0 37 = v := by unfold pv; rw [xI_s]
theorem pv_rd (M : xS) (p : Nat) (v : Int32) : RdM M (pv M p v) := (RdM.i (by omega)).trans (RdM.i (by omega))
theorem w7_digs {M : xS} {L p : Nat} {v1 : Int32} {Q : Int32 → xS → Prop} (hL : M.1 0 0 34 = nI L) (h60 : L ≤ 60) (hp60 : p ≤ 60)
    (k : wp_X7_readsNumber_109 Q (pv M (dgs (M.1 36 0) L 6 p 0).1 (dgs (M.1 36 0) L 6 p 0).2) v1 (nI ((dgs (M.1 36 0) L 6 p 0).1 - p))) : ∃ n, wp_X7_readsNumber_56 Q n (pv M p 0) v1 0 := by
  refine wl2 (wp_X7_readsNumber_56 Q) (fun K => wp_X7_readsNumber_56_b K Q) (fun _ _ _ _ => rfl)
    (fun M' w d => w = v1 ∧ ∃ i q v, i ≤ 6 ∧ d = nI (q - p) ∧ p ≤ q ∧ q + i = p + 6 ∧ M' = pv M q v ∧ dgs (M.1 36 0) L i q v = dgs (M.1 36 0) L 6 p 0) (fun _ _ d => 100 - d.toNatClampNeg)
    ⟨rfl, 6, p, 0, by omega, by rw [Nat.sub_self]; rfl, by omega, by omega, rfl, rfl⟩ ?_
  rintro M' w d K ⟨rfl, i, q, v, hi, rfl, hpq, hq, rfl, he⟩ hK
  unfold wp_X7_readsNumber_56_b
  have out : (dgs (M.1 36 0) L 6 p 0) = (q, v) → wp_X7_readsNumber_109 Q (pv M q v) w (nI (q - p)) := fun h => by rw [h] at k; exact k
  cases i with
  | zero => exact gt (by rw [nl6, vv_le (by omega) (by omega)]; omega) (out he.symm)
  | succ i =>
    refine gf (by rw [nl6, vv_le (by omega) (by omega)]; omega) (w7_isDigit (by rw [pv_0 (by omega) (by omega)]; exact hL) pv_p h60 (by omega) ?_)
    rw [pv_k (by omega)]
    have he2 : (if dgB (M.1 36 0) L q = true then dgs (M.1 36 0) L i (q + 1) (v * 10 + (M.1 36 0 q - 48)) else (q, v)) = dgs (M.1 36 0) L 6 p 0 := he
    cases cd : dgB (M.1 36 0) L q
    · rw [cd, if_neg (by decide)] at he2
      exact g0 (out he2.symm)
    · rw [cd, if_pos rfl] at he2
      have hqL : q < L := (of_decide_eq_true cd).1
      refine g1 ?_
      rw [pv_p, pv_v, vv_clI (k := q) (by omega), nI_1, xI_1, if_neg (by omega), pv_p, nI_1, pv_ov, i32_dig]
      exact ⟨vv_in (by omega) (by omega), hK _ _ _ ⟨rfl, i, q + 1, _, by omega, by rw [show q + 1 - p = q - p + 1 by omega], by omega, by omega, rfl, he2⟩ (by rw [vv_clI (by omega), vv_clI (by omega)]; omega)⟩
def mnB (T : Nat → Int32) (L p : Nat) (c : Int32) : Bool := decide (p < L ∧ T p = c)
theorem w3_isAt {S : xS} {L p : Nat} {c : Int32} {Q : Int32 → xS → Prop} (hL : S.1 3 0 0 = nI L) (h60 : L ≤ 60) (hp : p ≤ 1000) (k : Q (b2 (mnB (S.1 19 0) L p c)) S) : wp_X3_isAt (nI p) c S Q := by
  unfold wp_X3_isAt wp_X3_isAt_22 wp_X3_isAt_23
  rw [hL]
  unfold mnB at k
  by_cases h1 : L ≤ p
  · rw [decide_eq_false (show ¬ (p < L ∧ S.1 19 0 p = c) from fun h => by omega)] at k
    exact gt (by rw [vv_le (by omega) (by omega)]; exact h1) ⟨Or.inl rfl, k⟩
  · refine gf (by rw [vv_le (by omega) (by omega)]; exact h1) ⟨vv_in (by omega) (by omega), ?_⟩
    rw [vv_clI (by omega)]
    by_cases h2 : S.1 19 0 p = c
    · rw [decide_eq_true (show p < L ∧ S.1 19 0 p = c from ⟨by omega, h2⟩)] at k
      exact gt h2 ⟨Or.inr rfl, k⟩
    · rw [decide_eq_false (show ¬ (p < L ∧ S.1 19 0 p = c) from fun h => h2 h.2)] at k
      exact gf h2 ⟨Or.inl rfl, k⟩
def q0 (T : Nat → Int32) (L p : Nat) : Nat := if mnB T L p 45 = true then p + 1 else p
def vl0 (T : Nat → Int32) (L p : Nat) : Int32 := if mnB T L p 45 = true then -(dgs T L 6 (q0 T L p) 0).2 else (dgs T L 6 (q0 T L p) 0).2
def dg1 (T : Nat → Int32) (L p : Nat) : Nat := (dgs T L 6 (q0 T L p) 0).1
theorem dg1_le {T : Nat → Int32} {L p : Nat} (h : p ≤ L) : q0 T L p ≤ dg1 T L p ∧ dg1 T L p ≤ L ∧ q0 T L p ≤ L := by
  have hq : q0 T L p ≤ L := by
    unfold q0
    by_cases c : mnB T L p 45 = true
    · rw [if_pos c]; have : p < L := (of_decide_eq_true c).1; omega
    · rw [if_neg c]; exact h
  have := dgs_le (T := T) (L := L) 6 (q0 T L p) 0
  exact ⟨this.1, this.2 hq, hq⟩
theorem dgs_congr {T T' : Nat → Int32} {L : Nat} (h : ∀ j, j < L → T j = T' j) : ∀ k p v, dgs T L k p v = dgs T' L k p v
  | 0, _, _ => rfl
  | k + 1, p, v => by
    show (if dgB T L p = true then dgs T L k (p + 1) (v * 10 + (T p - 48)) else (p, v)) = (if dgB T' L p = true then dgs T' L k (p + 1) (v * 10 + (T' p - 48)) else (p, v))
    by_cases c : p < L
    · have e : dgB T L p = dgB T' L p := by unfold dgB; rw [h p c]
      rw [e, h p c, dgs_congr h k]
    · rw [if_neg (by unfold dgB; rw [decide_eq_true_eq]; exact fun h => c h.1), if_neg (by unfold dgB; rw [decide_eq_true_eq]; exact fun h => c h.1)]
theorem q_congr {T T' : Nat → Int32} {L : Nat} (h : ∀ j, j < L → T j = T' j) (p : Nat) : mnB T L p 45 = mnB T' L p 45 ∧ q0 T L p = q0 T' L p ∧ vl0 T L p = vl0 T' L p ∧ dg1 T L p = dg1 T' L p := by
  have e : mnB T L p 45 = mnB T' L p 45 := by
    unfold mnB
    by_cases c : p < L
    · rw [h p c]
    · rw [decide_eq_false (fun h => c h.1), decide_eq_false (fun h => c h.1)]
  have e2 : q0 T L p = q0 T' L p := by unfold q0; rw [e]
  refine ⟨e, e2, ?_, ?_⟩
  · unfold vl0; rw [e, e2, dgs_congr h]
  · unfold dg1; rw [e2, dgs_congr h]
theorem w7_readsNumber {M : xS} {L p : Nat} {Q : Int32 → xS → Prop} (hL : M.1 0 0 34 = nI L) (h60 : L ≤ 60) (hp : p ≤ L)
    (k : Q (if dg1 (M.1 36 0) L p = q0 (M.1 36 0) L p then 0 else 1) (pv M (dg1 (M.1 36 0) L p) (vl0 (M.1 36 0) L p))) : wp_X7_readsNumber (xI M 0 0 36 (nI p)) Q := by
  have e36 : (xI M 0 0 36 (nI p)).1 36 0 = M.1 36 0 := by rw [xI_k (by omega)]
  obtain ⟨l1, l2, l3⟩ := dg1_le (T := M.1 36 0) hp
  have fin : ∀ (s0 : Int32) (q : Nat) (v : Int32), q = q0 (M.1 36 0) L p → (s0 = 0 → v = (dgs (M.1 36 0) L 6 q 0).2) → (¬ s0 = 0 → v = -(dgs (M.1 36 0) L 6 q 0).2) → v = vl0 (M.1 36 0) L p → ∃ n1, wp_X7_readsNumber_56 Q n1 (pv M q 0) s0 0 := by
    intro s0 q v hq hv0 hv1 hv
    refine w7_digs hL h60 (by omega) ?_
    have hd : (dgs (M.1 36 0) L 6 q 0).1 = dg1 (M.1 36 0) L p := by rw [hq]; rfl
    unfold wp_X7_readsNumber_109 wp_X7_readsNumber_126 wp_X7_readsNumber_138
    rw [pv_v, hd, pv_37, pv_37]
    have tail : ∀ x, x = v → (if nI (dg1 (M.1 36 0) L p - q) ≤ 0 then (((0 : Int32) = 0 ∨ (0 : Int32) = 1) ∧ Q 0 (pv M (dg1 (M.1 36 0) L p) x)) else (((1 : Int32) = 0 ∨ (1 : Int32) = 1) ∧ Q 1 (pv M (dg1 (M.1 36 0) L p) x))) := by
      intro x hx
      rw [hx, hv]
      by_cases c : dg1 (M.1 36 0) L p = q0 (M.1 36 0) L p
      · rw [if_pos c] at k
        exact gt (by rw [hq, nl0, vv_le (by omega) (by omega)]; omega) ⟨Or.inl rfl, k⟩
      · rw [if_neg c] at k
        exact gf (by rw [hq, nl0, vv_le (by omega) (by omega)]; omega) ⟨Or.inr rfl, k⟩
    by_cases c : s0 = 0
    · exact gt c (tail _ (hv0 c).symm)
    · exact gf c (tail _ (hv1 c).symm)
  have st : ∀ q : Nat, xI (xI (xI M 0 0 36 (nI p)) 0 0 36 (nI q)) 0 0 37 0 = pv M q 0 := fun q => by
    unfold pv
    refine Prod.ext (funext fun i => funext fun j => funext fun z => ?_) rfl
    simp only [xI_1]
    by_cases h : i = 0 ∧ j = 0 ∧ z = 36
    · rw [if_neg (by omega), if_pos h, if_neg (by omega), if_pos h]
    · by_cases h2 : i = 0 ∧ j = 0 ∧ z = 37
      · rw [if_pos h2, if_pos h2]
      · rw [if_neg h2, if_neg h, if_neg h, if_neg h2, if_neg h]
  have no : ¬ mnB (M.1 36 0) L p 45 = true → wp_X7_readsNumber_29 Q (xI M 0 0 36 (nI p)) := fun hm => by
    unfold wp_X7_readsNumber_29 wp_X7_readsNumber_30 wp_X7_readsNumber_45
    refine g0 ?_
    have z0 : nI p + 0 = nI p := by rw [nl0, nI_add, Nat.add_zero]
    rw [xI_s, z0, st]
    exact fin 0 p _ (by unfold q0; rw [if_neg hm]) (fun _ => rfl) (fun h => absurd rfl h) (by unfold vl0 q0; rw [if_neg hm, if_neg hm])
  unfold wp_X7_readsNumber
  have e34 : (xI M 0 0 36 (nI p)).1 0 0 34 = nI L := by rw [xI_1, if_neg (by omega)]; exact hL
  rw [e34, xI_s]
  by_cases c : L ≤ p
  · exact gt (by rw [vv_le (by omega) (by omega)]; exact c) (no (by unfold mnB; rw [decide_eq_true_eq]; exact fun h => by omega))
  · refine gf (by rw [vv_le (by omega) (by omega)]; exact c) ⟨vv_in (by omega) (by omega), ?_⟩
    rw [vv_clI (by omega), e36]
    by_cases c2 : M.1 36 0 p = 45
    · have hm : mnB (M.1 36 0) L p 45 = true := by unfold mnB; rw [decide_eq_true_eq]; exact ⟨by omega, c2⟩
      refine gt c2 ?_
      unfold wp_X7_readsNumber_30 wp_X7_readsNumber_45
      refine g1 ?_
      rw [xI_s, nI_1, st]
      exact fin 1 (p + 1) _ (by unfold q0; rw [if_pos hm]) (fun h => absurd h (by decide)) (fun _ => rfl) (by unfold vl0 q0; rw [if_pos hm, if_pos hm])
    · exact gf c2 (no (by unfold mnB; rw [decide_eq_true_eq]; exact fun h => c2 h.2))
theorem w6_pinned {S : xS} {na : Nat} {Q : Int32 → xS → Prop} (hn : na ≤ 4) (h1 : S.1 6 0 1 = nI na) (k : ∀ pb, pb < 16 → (∀ a, pb.testBit a = decide (a < na ∧ ¬ S.1 0 a 3 = 0)) → Q (nI pb) S) : wp_X6_pinnedAxes S Q := by
  unfold wp_X6_pinnedAxes
  refine wl2 (wp_X6_pinnedAxes_4 Q) (fun K => wp_X6_pinnedAxes_4_b K Q) (fun _ _ _ _ => rfl)
    (fun S' v w => S' = S ∧ ∃ j m, j ≤ na ∧ w = nI j ∧ v = nI m ∧ m < 16 ∧ ∀ a, m.testBit a = decide (a < j ∧ ¬ S.1 0 a 3 = 0)) (fun _ _ w => 10 - w.toNatClampNeg) ⟨rfl, 0, 0, by omega, rfl, rfl, by omega, fun a => by rw [Nat.zero_testBit, decide_eq_false (by omega)]⟩ ?_
  rintro S' v w K ⟨rfl, j, m, hj, rfl, rfl, hm, hb⟩ hK
  unfold wp_X6_pinnedAxes_4_b wp_X6_pinnedAxes_30
  rw [h1]
  by_cases c : j = na
  · subst c; exact gt (by rw [vv_le (by omega) (by omega)]; omega) (k m hm hb)
  · refine gf (by rw [vv_le (by omega) (by omega)]; omega) ⟨vv_in (by omega) (by omega), ?_⟩
    rw [vv_clI (by omega), nI_1, nI_on (by omega)]
    by_cases c0 : S'.1 0 j 3 = 0
    · refine gt c0 (hK _ _ _ ⟨rfl, j + 1, m, by omega, rfl, rfl, hm, fun a => ?_⟩ (by rw [vv_clI (by omega), vv_clI (by omega)]; omega))
      rw [hb a]
      by_cases e : a = j
      · rw [decide_eq_false (by omega), decide_eq_false (fun h => h.2 (by rw [e]; exact c0))]
      · congr 1
        exact propext ⟨fun h => ⟨by omega, h.2⟩, fun h => ⟨by omega, h.2⟩⟩
    · refine gf c0 (hK _ _ _ ⟨rfl, j + 1, bOn m j, by omega, rfl, rfl, Nat.or_lt_two_pow (n := 4) hm (Nat.pow_lt_pow_right (by omega) (by omega)), fun a => ?_⟩ (by rw [vv_clI (by omega), vv_clI (by omega)]; omega))
      rw [bOn_bit, hb a]
      by_cases e : a = j
      · rw [decide_eq_true e.symm, Bool.or_true, decide_eq_true ⟨by omega, by rw [e]; exact c0⟩]
      · rw [decide_eq_false (show ¬ j = a by omega), Bool.or_false]
        congr 1
        exact propext ⟨fun h => ⟨by omega, h.2⟩, fun h => ⟨by omega, h.2⟩⟩
