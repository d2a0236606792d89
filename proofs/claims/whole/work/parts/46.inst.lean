section INST
variable {n : Nat} {S M : xS} {K : xS → xS → Prop}
theorem w7_addInstance {na ni : Nat} {M : xS} {Q : Int32 → xS → Prop} (hn : na ≤ 4) (h0 : M.1 0 0 0 = nI na) (hi : ni < 6) (h32 : M.1 0 0 32 = nI ni)
    (k : ∀ M', (∀ k, k ≠ 0 → k ≠ 34 → M'.1 k = M.1 k) → (∀ j, j ≠ 32 → M'.1 0 0 j = M.1 0 0 j) → M'.1 0 0 32 = nI (ni + 1) → (∀ j, j < 4 * ni → M'.1 34 0 j = M.1 34 0 j) → (∀ a, a < 4 → M'.1 34 0 (4 * ni + a) = if a < na then M.1 5 0 a else 0) → Q (nI ni) M') : wp_X7_addInstance M Q := by
  unfold wp_X7_addInstance
  rw [h32]
  refine gf (by rw [nl6, vv_eq (by omega) (by omega)]; omega) ?_
  refine wl1 (wp_X7_addInstance_14 Q) (fun K => wp_X7_addInstance_14_b K Q) (fun _ _ _ => rfl)
    (fun M' v => ∃ j, j ≤ 4 ∧ v = nI j ∧ (∀ k, k ≠ 34 → M'.1 k = M.1 k) ∧ (∀ z, z < 4 * ni → M'.1 34 0 z = M.1 34 0 z) ∧ (∀ a, a < j → M'.1 34 0 (4 * ni + a) = if a < na then M.1 5 0 a else 0))
    (fun _ v => 4 - v.toNatClampNeg) ⟨0, by omega, rfl, fun _ _ => rfl, fun _ _ => rfl, fun a h => by omega⟩ ?_
  rintro M' v K ⟨j, hj, rfl, h1, h2, h3⟩ hK
  have e0 : M'.1 0 0 0 = nI na := by rw [h1 0 (by omega)]; exact h0
  have e32 : M'.1 0 0 32 = nI ni := by rw [h1 0 (by omega)]; exact h32
  unfold wp_X7_addInstance_14_b wp_X7_addInstance_49
  rw [e0, e32]
  by_cases c : j = 4
  · subst c
    refine gt (by rw [nl4, vv_le (by omega) (by omega)]; omega) ?_
    rw [xI_1, if_pos (by omega), nI_1, nl1, vv_sub (by omega) (by omega)]
    refine k _ (fun z h4 h5 => by rw [xI_k h4]; exact h1 z h5) (fun z hz => by rw [xI_1, if_neg (by omega)]; rw [h1 0 (by omega)]) (by rw [xI_1, if_pos (by omega)]) (fun z hz => by rw [xI_k (by omega)]; exact h2 z hz) (fun a ha => by rw [xI_k (by omega)]; exact h3 a ha)
  · refine gf (by rw [nl4, vv_le (by omega) (by omega)]; omega) ?_
    have hcl := vv_clI (k := j) (by omega)
    have step : ∀ x : Int32, (x = if j < na then M.1 5 0 j else 0) → (vp_in ((4 : Int32) * nI ni + nI j) 24 ∧ K (xI M' 34 0 ((4 : Int32) * nI ni + nI j).toNatClampNeg x) (nI j + 1)) := by
      intro x hx
      rw [nl4, vv_mul, nI_add]
      refine ⟨vv_in (by omega) (by omega), ?_⟩
      rw [vv_clI (by omega), nI_1]
      refine hK _ _ ⟨j + 1, by omega, rfl, fun z hz => by rw [xI_k hz]; exact h1 z hz, fun z hz => by rw [xI_1, if_neg (by omega)]; exact h2 z hz, fun a ha => ?_⟩ (by rw [vv_clI (by omega), vv_clI (by omega)]; omega)
      by_cases ea : a = j
      · subst ea; rw [xI_1, if_pos (by omega)]; exact hx
      · rw [xI_1, if_neg (by omega)]; exact h3 a (by omega)
    by_cases c2 : na ≤ j
    · refine gt (by rw [vv_le (by omega) (by omega)]; exact c2) (step 0 (by rw [if_neg (by omega)]))
    · refine gf (by rw [vv_le (by omega) (by omega)]; exact c2) ⟨vv_in (by omega) (by omega), step _ ?_⟩
      rw [hcl, if_pos (by omega), h1 5 (by omega)]
theorem op_addInstance (I : Inv n S M) (hK : ∀ S' M', Inv (n + 1) S' M' → K S' M') :
    wp_X6_addInstance S (fun r1 S1 => wp_X7_addInstance M (fun r2 M1 => if r1 = r2 then K S1 M1 else False)) := by
  obtain ⟨⟨h1, h2, h3⟩, h4⟩ := I.2.2.2.1
  obtain ⟨⟨a1, a2, a3⟩, hax, hz, hzz⟩ := I.1
  have h5 := h3.trans h2
  unfold wp_X6_addInstance
  rw [h5]
  by_cases c : cntM M 32 < 6
  · have hcl := vv_clI (k := cntM M 32) (by omega)
    refine gt (by rw [nl6, vv_lt (by omega) (by omega)]; exact c) ⟨vv_in c (by omega), by decide, ?_⟩
    rw [hcl]
    have e : (xC S 33 (cntM M 32) (va_cpy (S.1 30 0) (S.1 33 (cntM M 32)) (0 : Int32).toNatClampNeg (0 : Int32).toNatClampNeg (4 : Int32).toNatClampNeg)).1 6 0 11 = nI (cntM M 32) := by rw [xC_k (by omega)]; exact h5
    rw [xI_1, if_pos (by omega), e, nI_1]
    rw [nl1, vv_sub (by omega) (by omega)]
    refine w7_addInstance a1 a2 c h2 (fun M' b1 b2 b3 b4 b5 => ?_)
    refine gt rfl ?_
    refine hK _ _ ?_
    refine I.ins ⟨⟨?_, ?_, ?_⟩, ?_⟩ (fun k x y => by rw [xI_k x, xC_k y]) (fun j hj => by rw [xI_1, if_neg (by omega), xC_k (by omega)]) rfl b1 (fun j hj => b2 j (by omega))
    · unfold cntM; rw [b3, vv_clI (by unfold cntM at c; omega)]; exact c
    · unfold cntM; rw [b3, vv_clI (by unfold cntM at c; omega)]
    · rw [xI_1, if_pos (by omega), b3]
    · intro i hi a ha
      unfold cntM at hi
      rw [b3, vv_clI (by unfold cntM at c; omega)] at hi
      have hi : i < cntM M 32 + 1 := hi
      rw [xI_k (by omega), xC_1]
      by_cases ei : i = cntM M 32
      · subst ei
        rw [if_pos (by omega), b5 a ha]
        have hv : va_cpy (S.1 30 0) (S.1 33 (cntM M 32)) (0 : Int32).toNatClampNeg (0 : Int32).toNatClampNeg (4 : Int32).toNatClampNeg a = S.1 30 0 a := by
          unfold va_cpy
          rw [show (0 : Int32).toNatClampNeg = 0 from rfl, show (4 : Int32).toNatClampNeg = 4 from rfl, if_pos (by omega)]
          rw [show 0 + (a - 0) = a by omega]
        rw [hv]
        by_cases ca : a < cntM M 0
        · rw [if_pos ca]; exact (hax a ca).2.2.2.1
        · rw [if_neg ca, (hz a (by omega) ha).1]; exact ⟨rfl, by unfold rng; decide⟩
      · rw [if_neg (by omega), b4 (4 * i + a) (by omega)]
        exact h4 i (by omega) a ha
  · have e6 : cntM M 32 = 6 := by omega
    refine gf (by rw [nl6, vv_lt (by omega) (by omega)]; exact c) ?_
    unfold wp_X7_addInstance
    rw [h2, e6]
    exact gt rfl (gt rfl (hK _ _ I.next))
end INST
