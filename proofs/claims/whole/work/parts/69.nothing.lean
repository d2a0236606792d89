def noB (r : Nat → Int32) (t : Nat) : Nat → Bool
  | 0 => true
  | k + 1 => noB r t k && (decide (dvV r t (slo k) 0 = 0) && decide (dvV r t (slo k) 1 = 0))
theorem noB_iff {r : Nat → Int32} {t : Nat} : ∀ k, noB r t k = true ↔ ∀ p, p < k → dvV r t (slo p) 0 = 0 ∧ dvV r t (slo p) 1 = 0
  | 0 => ⟨fun _ p h => by omega, fun _ => rfl⟩
  | k + 1 => by
    have e : noB r t (k + 1) = (noB r t k && (decide (dvV r t (slo k) 0 = 0) && decide (dvV r t (slo k) 1 = 0))) := rfl
    rw [e, Bool.and_eq_true, Bool.and_eq_true, decide_eq_true_eq, decide_eq_true_eq, noB_iff k]
    constructor
    · rintro ⟨h1, h2⟩ p hp
      by_cases ep : p = k
      · rw [ep]; exact h2
      · exact h1 p (by omega)
    · intro h
      exact ⟨fun p hp => h p (by omega), h k (by omega)⟩
theorem v7_slotBy {M : xS} {g k N : Nat} {Q : Int32 → xS → Prop} (hg : g < 6) (e : mrow M g 2 = nI N) (hN : N ≤ 24) (hk : k ≤ N) (h : Q (nI (if k = N then 24 else k)) M) : wp_X7_slotBy (nI g) (nI k) M Q := by
  unfold wp_X7_slotBy wp_X7_slotBy_16
  refine v7_of rfl nl2 hg (by omega) ?_
  rw [e]
  by_cases c : k = N
  · rw [if_pos c] at h; exact gt (by rw [c]) h
  · rw [if_neg c] at h; exact gf (by rw [vv_eq (by omega) (by omega)]; exact c) h
theorem w1_nothing {S : xS} {G T na gi t : Nat} {r : Nat → Int32} {Q : Int32 → xS → Prop} (hG : GlRel S G r) (hR : RowOk na gi r) (hT : TupRel S T r t) (k : Q (b2 (decide (∀ p, p ≤ rN r → dvV r t (slo p) 0 = 0 ∧ dvV r t (slo p) 1 = 0))) S) : wp_X1_movesNothing G T S Q := by
  have hN := hR.2.1.1
  unfold wp_X1_movesNothing
  refine wl1 (wp_X1_movesNothing_2 G T Q) (fun K => wp_X1_movesNothing_2_b G T K Q) (fun _ _ _ => rfl)
    (fun S' v => S' = S ∧ ∃ j, j ≤ rN r + 1 ∧ v = nI j ∧ ∀ p, p < j → dvV r t (slo p) 0 = 0 ∧ dvV r t (slo p) 1 = 0) (fun _ v => 100 - v.toNatClampNeg) ⟨rfl, 0, by omega, rfl, fun p h => by omega⟩ ?_
  rintro S' v K ⟨rfl, j, hj, rfl, h⟩ hK
  unfold wp_X1_movesNothing_2_b wp_X1_movesNothing_30
  rw [hG.2.1.trans hR.2.1.2]
  by_cases c : j = rN r + 1
  · subst c
    rw [decide_eq_true (show ∀ p, p ≤ rN r → dvV r t (slo p) 0 = 0 ∧ dvV r t (slo p) 1 = 0 from fun p hp => h p (by omega))] at k
    exact gt (by rw [vv_lt (by omega) (by omega)]; omega) ⟨Or.inr rfl, k⟩
  · refine gf (by rw [vv_lt (by omega) (by omega)]; omega) (w1_delta hG hR hT (by omega) ?_)
    have bad : ¬ (dvV r t (slo j) 0 = 0 ∧ dvV r t (slo j) 1 = 0) → (((0 : Int32) = 0 ∨ (0 : Int32) = 1) ∧ Q 0 S') := fun hb => by
      rw [decide_eq_false (show ¬ ∀ p, p ≤ rN r → dvV r t (slo p) 0 = 0 ∧ dvV r t (slo p) 1 = 0 from fun ha => hb (ha j (by omega)))] at k
      exact ⟨Or.inl rfl, k⟩
    by_cases c1 : dvV r t (slo j) 0 = 0
    · refine gt c1 (w1_delta hG hR hT (by omega) ?_)
      by_cases c2 : dvV r t (slo j) 1 = 0
      · refine gt c2 ?_
        rw [nI_1]
        refine hK _ _ ⟨rfl, j + 1, by omega, rfl, fun p hp => ?_⟩ (by rw [vv_clI (by omega), vv_clI (by omega)]; omega)
        by_cases ep : p = j
        · rw [ep]; exact ⟨c1, c2⟩
        · exact h p (by omega)
      · exact gf c2 (bad (fun q => c2 q.2))
    · exact gf c1 (bad (fun q => c1 q.1))
/- slots by number: k < N is itself, N is the advance; places by number: 0 the advance -/
def sby (N k : Nat) : Nat := if k = N then 24 else k
theorem sby_all {N : Nat} {P : Nat → Prop} : (∀ k, k ≤ N → P (sby N k)) ↔ ∀ p, p ≤ N → P (slo p) := by
  constructor
  · intro h p hp
    by_cases c : p = 0
    · have := h N (by omega)
      rw [show sby N N = 24 by unfold sby; rw [if_pos rfl]] at this
      rw [c]; exact this
    · have := h (p - 1) (by omega)
      rw [show sby N (p - 1) = p - 1 by unfold sby; rw [if_neg (by omega)]] at this
      rw [show slo p = p - 1 by unfold slo; rw [if_neg c]]; exact this
  · intro h k hk
    by_cases c : k = N
    · rw [show sby N k = 24 by unfold sby; rw [if_pos c]]; exact h 0 (by omega)
    · rw [show sby N k = k by unfold sby; rw [if_neg c]]; exact h (k + 1) (by omega)
theorem sby_ok {N k : Nat} (hN : N ≤ 24) (hk : k ≤ N) : sby N k < N ∨ sby N k = 24 := by unfold sby; split <;> omega
theorem w7_nothing {M : xS} {g t na gi : Nat} {Q : Int32 → xS → Prop} (hg : g < 6) (hR : RowOk na gi (mrow M g)) (hb : BdP (mrow M g)) (hT : t < rT (mrow M g)) (k : Q (b2 (decide (∀ p, p ≤ rN (mrow M g) → dvV (mrow M g) t (slo p) 0 = 0 ∧ dvV (mrow M g) t (slo p) 1 = 0))) M) : wp_X7_isNothing (nI g) (nI t) M Q := by
  have hN := hR.2.1.1
  have ea := sby_all (N := rN (mrow M g)) (P := fun s => dvV (mrow M g) t s 0 = 0 ∧ dvV (mrow M g) t s 1 = 0)
  unfold wp_X7_isNothing
  refine wl1 (wp_X7_isNothing_2 (nI g) (nI t) Q) (fun K => wp_X7_isNothing_2_b (nI g) (nI t) K Q) (fun _ _ _ => rfl)
    (fun S' v => S' = M ∧ ∃ j, j ≤ rN (mrow M g) + 1 ∧ v = nI j ∧ ∀ p, p < j → dvV (mrow M g) t (sby (rN (mrow M g)) p) 0 = 0 ∧ dvV (mrow M g) t (sby (rN (mrow M g)) p) 1 = 0) (fun _ v => 100 - v.toNatClampNeg) ⟨rfl, 0, by omega, rfl, fun p h => by omega⟩ ?_
  rintro S' v K ⟨rfl, j, hj, rfl, h⟩ hK
  unfold wp_X7_isNothing_2_b wp_X7_isNothing_44
  refine v7_of rfl nl2 hg (by omega) ?_
  rw [hR.2.1.2]
  by_cases c : j = rN (mrow S' g) + 1
  · subst c
    rw [decide_eq_true (show ∀ p, p ≤ rN (mrow S' g) → dvV (mrow S' g) t (slo p) 0 = 0 ∧ dvV (mrow S' g) t (slo p) 1 = 0 from ea.mp (fun p hp => h p (by omega)))] at k
    exact gt (by rw [vv_lt (by omega) (by omega)]; omega) ⟨Or.inr rfl, k⟩
  · refine gf (by rw [vv_lt (by omega) (by omega)]; omega) (v7_slotBy hg hR.2.1.2 hN (by omega) (w7_delta hg hR hb hT (sby_ok hN (by omega)) ?_))
    have bad : ¬ (dvV (mrow S' g) t (sby (rN (mrow S' g)) j) 0 = 0 ∧ dvV (mrow S' g) t (sby (rN (mrow S' g)) j) 1 = 0) → (((0 : Int32) = 0 ∨ (0 : Int32) = 1) ∧ Q 0 S') := fun hb => by
      rw [decide_eq_false (show ¬ ∀ p, p ≤ rN (mrow S' g) → dvV (mrow S' g) t (slo p) 0 = 0 ∧ dvV (mrow S' g) t (slo p) 1 = 0 from fun ha => hb (ea.mpr ha j (by omega)))] at k
      exact ⟨Or.inl rfl, k⟩
    by_cases c1 : dvV (mrow S' g) t (sby (rN (mrow S' g)) j) 0 = 0
    · refine gt c1 (w7_delta hg hR hb hT (sby_ok hN (by omega)) ?_)
      by_cases c2 : dvV (mrow S' g) t (sby (rN (mrow S' g)) j) 1 = 0
      · refine gt c2 ?_
        rw [nI_1]
        refine hK _ _ ⟨rfl, j + 1, by omega, rfl, fun p hp => ?_⟩ (by rw [vv_clI (by omega), vv_clI (by omega)]; omega)
        by_cases ep : p = j
        · rw [ep]; exact ⟨c1, c2⟩
        · exact h p (by omega)
      · exact gf c2 (bad (fun q => c2 q.2))
    · exact gf c1 (bad (fun q => c1 q.1))
