theorem w2_rem13 {S : xS} {g d na gi : Nat} {r : Nat → Int32} {Q : xS → Prop} (hg : g < 6) (hd : d < 6) (e : S.1 2 0 0 = nI d) (hG : GlRel S g r) (hR : RowOk na gi r) (hp : PermOk S)
    (k : ∀ S', (∀ k, k ≠ 2 → k ≠ 17 → ¬ kG k → S'.1 k = S.1 k) → S'.2 = S.2 → S'.1 2 0 0 = nI (d + 1) → (∀ i, i ≠ d → S'.1 17 0 i = S.1 17 0 i) → S'.1 17 0 d = nI g → GlRel S' (S.2.2 18 0 d) r → (∀ k z, k = 1 ∨ 12 ≤ k ∧ k ≤ 15 → z ≠ S.2.2 18 0 d → S'.1 k z = S.1 k z) → (∀ k z, k = 5 ∨ 24 ≤ k ∧ k ≤ 28 → z < 5 * S.2.2 18 0 d ∨ 5 * S.2.2 18 0 d + 5 ≤ z → S'.1 k z = S.1 k z) → Q S') : wp_X2_remember_13 (nI g) g Q S := by
  have hst := hp.2.2.1 d hd
  unfold wp_X2_remember_13
  rw [e, vv_clI (k := d) (by omega), xI_k (k' := 2) (by omega), e, vv_clI (k := d) (by omega)]
  have e18 : (xI S 17 0 d (nI g)).2.2 18 0 d = S.2.2 18 0 d := rfl
  rw [e18]
  refine ⟨vv_in hd (by omega), ⟨vv_in hd (by omega), hst.2⟩, ?_⟩
  have hG' : GlRel (xI S 17 0 d (nI g)) g r := hG.fr hR.2.1.1 hR.2.2.2.1.1 (fun k hk => by rw [xI_k (by omega)]) (fun _ _ => rfl) (fun _ _ k hk => by rw [xI_k (by omega)]) (fun _ _ => rfl)
  refine w1_copy (na := na) (gi := gi) (r := r) hst.2 (by omega) (by omega) hG' hR ⟨fun j hj => hp.1 _ hst.2 j hj, fun i j hi hj q => hp.2.1 _ hst.2 i j hi hj q⟩ ⟨fun j hj => hp.1 g (by omega) j hj, fun i j hi hj q => hp.2.1 g (by omega) i j hi hj q⟩ (fun S4 f1 f2 f3 => ?_)
  have nk2 : ¬ kG 2 := by unfold kG; omega
  have nk17 : ¬ kG 17 := by unfold kG; omega
  have e2 : S4.1 2 0 0 = nI d := by rw [f1.1 2 nk2, xI_k (by omega)]; exact e
  rw [e2, nI_1]
  have s17 : S4.1 17 = (xI S 17 0 d (nI g)).1 17 := f1.1 17 nk17
  refine k _ (fun k h2 h17 hk => by rw [xI_k h2, f1.1 k hk, xI_k h17]) f2 (xI_s _ _ _ _ _) (fun i hi => ?_) ?_ ?_ (fun k z hk hz => ?_) (fun k z hk hz => ?_)
  · rw [xI_k (by omega), s17, xI_1, if_neg (by omega)]
  · rw [xI_k (by omega), s17, xI_s]
  · refine f3.fr hR.2.1.1 hR.2.2.2.1.1 (fun k hk => by rw [xI_k (by omega)]) (fun _ _ => rfl) (fun _ _ k hk => by rw [xI_k (by omega)]) (fun _ _ => rfl)
  · rw [xI_k (by omega), f1.2.1 k z hk hz, xI_k (by omega)]
  · rw [xI_k (by omega), f1.2.2.1 k z hk hz, xI_k (by omega)]
def rot (f : Nat → Nat) (c i : Nat) : Nat := if c = 6 then (if i = 5 then f 0 else f (i + 1)) else f i
theorem w2_remember {S : xS} {g c na gi : Nat} {r : Nat → Int32} {Q : xS → Prop} (hg : g < 6) (hc : c ≤ 6) (e : S.1 2 0 0 = nI c) (hG : GlRel S g r) (hR : RowOk na gi r) (hp : PermOk S)
    (k : ∀ S', (∀ k, k ≠ 2 → k ≠ 17 → ¬ kG k → S'.1 k = S.1 k) → S'.2.1 = S.2.1 → (∀ k, k ≠ 18 → S'.2.2 k = S.2.2 k) → S'.1 2 0 0 = nI (hC c + 1) → (∀ i, i < hC c → S'.1 17 0 i = S.1 17 0 (i + hS c)) → S'.1 17 0 (hC c) = nI g → (∀ i, i < 6 → S'.2.2 18 0 i = rot (S.2.2 18 0) c i) → GlRel S' (rot (S.2.2 18 0) c (hC c)) r → (∀ k z, k = 1 ∨ 12 ≤ k ∧ k ≤ 15 → z ≠ rot (S.2.2 18 0) c (hC c) → S'.1 k z = S.1 k z) → (∀ k z, k = 5 ∨ 24 ≤ k ∧ k ≤ 28 → z < 5 * rot (S.2.2 18 0) c (hC c) ∨ 5 * rot (S.2.2 18 0) c (hC c) + 5 ≤ z → S'.1 k z = S.1 k z) → Q S') : wp_X2_remember (nI g) g S Q := by
  unfold wp_X2_remember
  rw [e]
  by_cases c6 : c = 6
  · subst c6
    have hC6 : hC 6 = 5 := rfl
    have hS6 : hS 6 = 1 := rfl
    refine gf (by decide) (w2_forget (fun j hj => (hp.2.2.1 j hj).2) (fun S1 a1 a2 a3 a4 a5 a6 a7 => ?_))
    have hp1 : PermOk S1 := by
      have e18 : ∀ i, i < 6 → S1.2.2 18 0 i = rot (S.2.2 18 0) 6 i := by
        intro i hi
        unfold rot
        rw [if_pos rfl]
        by_cases e5 : i = 5
        · rw [if_pos e5, e5]; exact a7
        · rw [if_neg e5]; exact a6 i (by omega)
      refine ⟨by rw [a3 16 (by omega)]; exact hp.1, by rw [a3 16 (by omega)]; exact hp.2.1, fun k hk => ?_, fun i j hi hj q => ?_⟩
      · rw [e18 k hk]
        unfold rot
        rw [if_pos rfl]
        split
        · exact hp.2.2.1 0 (by omega)
        · exact hp.2.2.1 (k + 1) (by omega)
      · rw [e18 i hi, e18 j hj] at q
        unfold rot at q
        rw [if_pos rfl, if_pos rfl] at q
        by_cases x1 : i = 5
        · by_cases x2 : j = 5
          · omega
          · rw [if_pos x1, if_neg x2] at q
            have := hp.2.2.2 0 (j + 1) (by omega) (by omega) q
            omega
        · by_cases x2 : j = 5
          · rw [if_neg x1, if_pos x2] at q
            have := hp.2.2.2 (i + 1) 0 (by omega) (by omega) q
            omega
          · rw [if_neg x1, if_neg x2] at q
            have := hp.2.2.2 (i + 1) (j + 1) (by omega) (by omega) q
            omega
    have hG1 : GlRel S1 g r := hG.fr hR.2.1.1 hR.2.2.2.1.1 (fun k hk => by rw [a1 k (by omega) (by omega)]) (fun _ _ => by rw [a3 16 (by omega)]) (fun _ _ k hk => by rw [a1 k (by omega) (by omega)]) (fun _ _ => rfl)
    refine w2_rem13 hg (by omega) a4 hG1 hR hp1 (fun S' b1 b2 b3 b4 b5 b6 b7 b8 => ?_)
    have er : S1.2.2 18 0 5 = rot (S.2.2 18 0) 6 (hC 6) := a7
    rw [er] at b6 b7 b8
    refine k S' (fun k h2 h17 hk => by rw [b1 k h2 h17 hk, a1 k h2 h17]) (by rw [b2, a2]) (fun k hk => by rw [b2, a3 k hk]) b3 (fun i hi => by rw [hC6] at hi; rw [b4 i (by omega), a5 i (by omega), hS6]) b5 (fun i hi => ?_) b6 (fun k z hk hz => by rw [b7 k z hk hz, a1 k (by omega) (by omega)]) (fun k z hk hz => by rw [b8 k z hk hz, a1 k (by omega) (by omega)])
    rw [b2]
    unfold rot
    rw [if_pos rfl]
    by_cases e5 : i = 5
    · rw [if_pos e5, e5]; exact a7
    · rw [if_neg e5]; exact a6 i (by omega)
  · have hCc : hC c = c := by unfold hC; rw [if_neg c6]
    have hSc : hS c = 0 := by unfold hS; rw [if_neg c6]
    have er : ∀ i, rot (S.2.2 18 0) c i = S.2.2 18 0 i := fun i => by unfold rot; rw [if_neg c6]
    refine gt (by rw [nl6, vv_lt (by omega) (by omega)]; omega) (w2_rem13 hg (by omega) e hG hR hp (fun S' b1 b2 b3 b4 b5 b6 b7 b8 => ?_))
    rw [hCc, hSc, er] at k
    exact k S' b1 (by rw [b2]) (fun k hk => by rw [b2]) b3 (fun i hi => b4 i (by omega)) b5 (fun i hi => by rw [b2, er]) b6 b7 b8
theorem rot_ok {f : Nat → Nat} {c : Nat} (h : ∀ i, i < 6 → 6 ≤ f i ∧ f i < 12) (hi : ∀ i j, i < 6 → j < 6 → f i = f j → i = j) : (∀ i, i < 6 → 6 ≤ rot f c i ∧ rot f c i < 12) ∧ (∀ i j, i < 6 → j < 6 → rot f c i = rot f c j → i = j) ∧ (∀ i, i < hC c → c ≤ 6 → rot f c i = f (i + hS c)) := by
  unfold rot hC hS
  by_cases c6 : c = 6
  · simp only [if_pos c6]
    refine ⟨fun i h6 => ?_, fun i j h6 h6' q => ?_, fun i h5 _ => ?_⟩
    · split
      · exact h 0 (by omega)
      · exact h (i + 1) (by omega)
    · by_cases x1 : i = 5
      · by_cases x2 : j = 5
        · omega
        · rw [if_pos x1, if_neg x2] at q
          have := hi 0 (j + 1) (by omega) (by omega) q
          omega
      · by_cases x2 : j = 5
        · rw [if_neg x1, if_pos x2] at q
          have := hi (i + 1) 0 (by omega) (by omega) q
          omega
        · rw [if_neg x1, if_neg x2] at q
          have := hi (i + 1) (j + 1) (by omega) (by omega) q
          omega
    · rw [if_neg (by omega)]
  · simp only [if_neg c6]
    exact ⟨h, hi, fun i _ _ => rfl⟩
