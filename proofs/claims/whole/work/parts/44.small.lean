theorem AxRel.fr {S M S' M' : xS} {a : Nat} (h : AxRel S M a) (hS : ∀ k, k = 0 ∨ k = 10 ∨ k = 11 ∨ k = 30 → S'.1 k = S.1 k) (hM : ∀ k, 2 ≤ k → k ≤ 9 → M'.1 k = M.1 k) : AxRel S' M' a := by
  unfold AxRel
  rw [hS 0 (by omega), hS 10 (by omega), hS 11 (by omega), hS 30 (by omega), hM 2 (by omega) (by omega), hM 3 (by omega) (by omega), hM 4 (by omega) (by omega), hM 5 (by omega) (by omega), hM 6 (by omega) (by omega), hM 7 (by omega) (by omega), hM 8 (by omega) (by omega), hM 9 (by omega) (by omega)]
  exact h
theorem InvA.fr {S M S' M' : xS} (h : InvA S M) (hS : ∀ k, k = 0 ∨ k = 10 ∨ k = 11 ∨ k = 30 → S'.1 k = S.1 k) (h6 : S'.1 6 0 1 = S.1 6 0 1) (hM : ∀ k, 2 ≤ k → k ≤ 9 → M'.1 k = M.1 k) (hM0 : M'.1 0 0 0 = M.1 0 0 0) : InvA S' M' := by
  obtain ⟨⟨h1, h2, h3⟩, h4, h5, h7⟩ := h
  have e : cntM M' 0 = cntM M 0 := by unfold cntM; rw [hM0]
  refine ⟨⟨by rw [e]; exact h1, by rw [hM0, e]; exact h2, by rw [h6, hM0]; exact h3⟩, fun a ha => (h4 a (by rw [e] at ha; exact ha)).fr hS hM, ?_, ?_⟩
  · rw [e, hS 30 (by omega), hS 0 (by omega), hM 6 (by omega) (by omega)]; exact h5
  · rw [hS 30 (by omega)]; exact h7
theorem Inv.tx {n : Nat} {S M S' M' : xS} (h : Inv n S M) (hT : InvT S' M') (hS : ∀ k, k ≠ 3 → k ≠ 19 → k ≠ 20 → S'.1 k = S.1 k) (hS2 : S'.2.2 = S.2.2) (hM : ∀ k, k ≠ 0 → k ≠ 36 → k ≠ 40 → M'.1 k = M.1 k) (hM0 : ∀ j, j = 0 ∨ j = 9 ∨ j = 23 ∨ j = 32 → M'.1 0 0 j = M.1 0 0 j) : Inv (n + 1) S' M' := by
  obtain ⟨a1, a2, a3, a4, a5, a6⟩ := h
  have hk : ∀ k, kG k → S'.1 k = S.1 k := fun k hk => by unfold kG at hk; exact hS k (by omega) (by omega) (by omega)
  have e0 : cntM M' 0 = cntM M 0 := by unfold cntM; rw [hM0 0 (by omega)]
  have e9 : cntM M' 9 = cntM M 9 := by unfold cntM; rw [hM0 9 (by omega)]
  refine ⟨a1.fr (fun k hk => hS k (by omega) (by omega) (by omega)) (by rw [hS 6 (by omega) (by omega) (by omega)]) (fun k _ _ => hM k (by omega) (by omega) (by omega)) (hM0 0 (by omega)), a2.fr (PN_le n) hk (by rw [hS 6 (by omega) (by omega) (by omega)]) (by rw [hS2]) (by rw [hS2]) (hM 11 (by omega) (by omega) (by omega)) (hM0 9 (by omega)) (Nat.le_of_eq e0.symm), a3.fr a2.2.1 (PN_le n) hk (hS 2 (by omega) (by omega) (by omega)) (hS 17 (by omega) (by omega) (by omega)) (by rw [hS2]) (by rw [hS2]) (hM 26 (by omega) (by omega) (by omega)) (hM 25 (by omega) (by omega) (by omega)) (hM0 23 (by omega)) (Nat.le_of_eq e0.symm) (Nat.le_of_eq e9.symm),
    a4.fr (by rw [hS 6 (by omega) (by omega) (by omega)]) (hS 33 (by omega) (by omega) (by omega)) (hM 34 (by omega) (by omega) (by omega)) (hM0 32 (by omega)), hT, a6.fr (hM 11 (by omega) (by omega) (by omega)) (hM 26 (by omega) (by omega) (by omega)) (hM 25 (by omega) (by omega) (by omega)) (hM0 9 (by omega)) (hM0 23 (by omega))⟩
theorem Inv.ins {n : Nat} {S M S' M' : xS} (h : Inv n S M) (hI : InvI S' M') (hS : ∀ k, k ≠ 6 → k ≠ 33 → S'.1 k = S.1 k) (h6 : ∀ j, j ≠ 11 → S'.1 6 0 j = S.1 6 0 j) (hS2 : S'.2.2 = S.2.2) (hM : ∀ k, k ≠ 0 → k ≠ 34 → M'.1 k = M.1 k) (hM0 : ∀ j, j = 0 ∨ j = 9 ∨ j = 23 ∨ j = 34 → M'.1 0 0 j = M.1 0 0 j) : Inv (n + 1) S' M' := by
  obtain ⟨a1, a2, a3, a4, a5, a6⟩ := h
  have hk : ∀ k, kG k → S'.1 k = S.1 k := fun k hk => by unfold kG at hk; exact hS k (by omega) (by omega)
  have e0 : cntM M' 0 = cntM M 0 := by unfold cntM; rw [hM0 0 (by omega)]
  have e9 : cntM M' 9 = cntM M 9 := by unfold cntM; rw [hM0 9 (by omega)]
  refine ⟨a1.fr (fun k hk => hS k (by omega) (by omega)) (h6 1 (by omega)) (fun k _ _ => hM k (by omega) (by omega)) (hM0 0 (by omega)), a2.fr (PN_le n) hk (h6 6 (by omega)) (by rw [hS2]) (by rw [hS2]) (hM 11 (by omega) (by omega)) (hM0 9 (by omega)) (Nat.le_of_eq e0.symm), a3.fr a2.2.1 (PN_le n) hk (hS 2 (by omega) (by omega)) (hS 17 (by omega) (by omega)) (by rw [hS2]) (by rw [hS2]) (hM 26 (by omega) (by omega)) (hM 25 (by omega) (by omega)) (hM0 23 (by omega)) (Nat.le_of_eq e0.symm) (Nat.le_of_eq e9.symm),
    hI, a5.fr (by rw [hS 3 (by omega) (by omega)]) (hS 19 (by omega) (by omega)) (hM 36 (by omega) (by omega)) (hM0 34 (by omega)), a6.fr (hM 11 (by omega) (by omega)) (hM 26 (by omega) (by omega)) (hM 25 (by omega) (by omega)) (hM0 9 (by omega)) (hM0 23 (by omega))⟩
section SMALL
variable {n : Nat} {S M : xS} {K : xS → xS → Prop}
theorem op_count (I : Inv n S M) (a : Int32) (hK : ∀ S' M', Inv (n + 1) S' M' → K S' M') :
    wp_X6_count a S (fun r1 S1 => wp_X7_count a M (fun r2 M1 => if r1 = r2 then K S1 M1 else False)) := by
  unfold wp_X6_count wp_X7_count wp_X7_count_49
  by_cases c0 : a = 0
  · exact gt c0 (gt c0 (gt I.1.1.2.2 (hK _ _ I.next)))
  · refine gf c0 ?_
    by_cases c1 : a = 1
    · exact gt c1 (gf c0 (gt c1 (gt I.2.1.1.2.2 (hK _ _ I.next))))
    · refine gf c1 ?_
      by_cases c2 : a = 2
      · exact gt c2 (gf c0 (gf c1 (gt c2 (gt I.2.2.2.1.1.2.2 (hK _ _ I.next)))))
      · refine gf c2 ?_
        by_cases c3 : a = 3
        · exact gt c3 (gf c0 (gf c1 (gf c2 (gt c3 (gt I.2.2.1.1.2.2 (hK _ _ I.next))))))
        · exact gf c3 (gf c0 (gf c1 (gf c2 (gf c3 (gt rfl (hK _ _ I.next))))))
theorem op_clearText (I : Inv n S M) (hK : ∀ S' M', Inv (n + 1) S' M' → K S' M') :
    wp_X6_clearText S (fun r1 S1 => wp_X7_clearText M (fun r2 M1 => if r1 = r2 then K S1 M1 else False)) := by
  refine gt I.2.2.2.2.1.1.2.2 (hK _ _ (I.tx ⟨⟨?_, ?_, ?_⟩, ?_⟩ (fun k h _ _ => xI_k h) rfl (fun k h _ _ => xI_k h) (fun j hj => by rw [xI_1, if_neg (by omega)])))
  · unfold cntM; rw [xI_1, if_pos (by omega)]; decide
  · unfold cntM; rw [xI_1, if_pos (by omega)]; decide
  · rw [xI_1, xI_1, if_pos (by omega), if_pos (by omega)]
  · intro j hj
    unfold cntM at hj
    rw [xI_1, if_pos (by omega)] at hj
    exact absurd hj (by show ¬ j < (0 : Int32).toNatClampNeg; rw [show (0 : Int32).toNatClampNeg = 0 from rfl]; omega)
theorem op_type (I : Inv n S M) (a : Int32) (hK : ∀ S' M', Inv (n + 1) S' M' → K S' M') :
    wp_X6_type a S (fun r1 S1 => wp_X7_type a M (fun r2 M1 => if r1 = r2 then K S1 M1 else False)) := by
  obtain ⟨⟨h1, h2, h3⟩, h4⟩ := I.2.2.2.2.1
  have h5 := h3.trans h2
  unfold wp_X6_type wp_X3_append wp_X6_type_23 wp_X7_type
  rw [h5, h2]
  by_cases c : cntM M 34 < 60
  · have hcl : (nI (cntM M 34)).toNatClampNeg = cntM M 34 := nI_clamp (by omega)
    have hin : vp_in (nI (cntM M 34)) 60 := vp_in_nI c (by omega)
    refine gt (show nI (cntM M 34) < nI 60 from nI_lt c (by omega)) ⟨hin, Or.inr rfl, g1 ?_⟩
    have hne : ¬ nI (cntM M 34) = 60 := by rw [show (60 : Int32) = nI 60 from rfl, nI_eq (by omega) (by omega)]; omega
    refine gf hne ⟨hin, ?_⟩
    rw [hcl]
    simp only [xI_1]
    simp only [show ¬ (3 = 19) by omega, show ¬ (0 = 36) by omega, false_and, and_true, true_and, if_false, if_true, h5, h2]
    refine hK _ _ ?_
    refine I.tx ⟨⟨?_, ?_, ?_⟩, ?_⟩ (fun k ha hb hc => by rw [xI_k ha, xI_k hb]) rfl (fun k ha hb hc => by rw [xI_k ha, xI_k hb]) (fun j hj => by rw [xI_1, if_neg (by omega), xI_1, if_neg (by omega)])
    · unfold cntM; rw [xI_1, if_pos (by omega), nI_1, nI_clamp (by unfold cntM at c; omega)]; exact c
    · unfold cntM; rw [xI_1, if_pos (by omega), nI_1, nI_clamp (by unfold cntM at c; omega)]
    · rw [xI_1, if_pos (by omega), xI_1, if_pos (by omega)]
    · intro j hj
      unfold cntM at hj
      rw [xI_1, if_pos (by omega), nI_1, nI_clamp (by unfold cntM at c; omega)] at hj
      rw [xI_k (by omega), xI_k (k' := 36) (by omega), xI_1, xI_1]
      by_cases hj2 : j = cntM M 34
      · rw [if_pos (by omega), if_pos (by omega)]
      · rw [if_neg (by omega), if_neg (by omega)]
        exact h4 j (by unfold cntM at hj2 ⊢; omega)
  · have e : cntM M 34 = 60 := by omega
    rw [e]
    refine gf (show ¬ nI 60 < 60 by decide) ⟨Or.inl rfl, g0 ?_⟩
    exact gt rfl (gt rfl (hK _ _ I.next))
theorem vv_narb {b : Int32} (h : b = 0 ∨ b = 1) : vp_nar .boolean b = b := by rcases h with rfl | rfl <;> decide
theorem op_pin (I : Inv n S M) (a b : Int32) (hb : b = 0 ∨ b = 1) (hK : ∀ S' M', Inv (n + 1) S' M' → K S' M') :
    wp_X6_pin a b S (fun r1 S1 => wp_X7_pin a b M (fun r2 M1 => if r1 = r2 then K S1 M1 else False)) := by
  obtain ⟨⟨hn, h0, h1⟩, hax, hz, hzz⟩ := I.1
  have hS1 := h1.trans h0
  unfold wp_X6_pin wp_X7_pin wp_X6_pin_29 wp_X6_pin_49 wp_X7_pin_26
  rw [vv_narb hb]
  by_cases c : 0 ≤ a.toInt ∧ a.toInt < cntM M 0
  · obtain ⟨i, rfl, ei, hi⟩ := vv_nat c.1
    have hia : i < cntM M 0 := by omega
    have hcl : (nI i).toNatClampNeg = i := nI_clamp (by omega)
    have hin : vp_in (nI i) 4 := vp_in_nI (by omega) (by omega)
    have A := hax i hia
    rw [hcl]
    have fin : Inv (n + 1) (xI S 0 i 3 b) (xI M 6 0 i b) := by
      refine I.ax ⟨⟨hn, h0, h1⟩, fun j hj => ?_, fun j hj hj4 => ?_, fun j hj => ?_⟩ (fun k h _ _ _ _ => xI_k h) (fun j _ => by rw [xI_1, if_neg (by omega)]) rfl (fun k hk => xI_k (by omega)) (fun j hj => by rw [xI_1, if_neg (by omega)]) (Nat.le_refl _)
      · obtain ⟨b1, b2, b3, b4, b5⟩ := hax j hj
        unfold AxRel
        simp only [xI_1]
        by_cases hji : j = i
        · subst hji
          simp
          exact ⟨b1, b2, hb, b4, b5⟩
        · simp [hji]
          exact ⟨b1, b2, b3, b4, b5⟩
      · have hj : cntM M 0 ≤ j := hj
        rw [xI_1, if_neg (by omega), xI_1, if_neg (by omega), xI_1, if_neg (by omega)]; exact hz j hj hj4
      · rw [xI_1, if_neg (by omega)]; exact hzz j hj
    refine v6_hasAxis_t hn hS1 c (g1 ⟨hin, ?_⟩)
    by_cases c2 : M.1 6 0 i = b
    · refine gt (A.2.2.1.1.trans c2) ⟨hin, hb, g0 ?_⟩
      exact v7_noAxis_t hn h0 c (g0 ⟨hin, gt c2 ⟨hin, gt rfl (hK _ _ fin)⟩⟩)
    · refine gf (by rw [A.2.2.1.1]; exact c2) ⟨hin, hb, g1 ?_⟩
      exact v7_noAxis_t hn h0 c (g0 ⟨hin, gf c2 ⟨hin, gt rfl (hK _ _ fin)⟩⟩)
  · refine v6_hasAxis_f hn hS1 c (g0 ?_)
    exact v7_noAxis_f hn h0 c (g1 (ge (hK _ _ I.next)))
theorem op_axisValue (I : Inv n S M) (a b : Int32) (hK : ∀ S' M', Inv (n + 1) S' M' → K S' M') :
    wp_X6_axisValue a b S (fun r1 S1 => wp_X7_axisValue a b M (fun r2 M1 => if r1 = r2 then K S1 M1 else False)) := by
  obtain ⟨⟨hn, h0, h1⟩, hax, hz, hzz⟩ := I.1
  have hS1 := h1.trans h0
  unfold wp_X6_axisValue wp_X7_axisValue wp_X6_axisValue_95 wp_X7_axisValue_101
  by_cases c : 0 ≤ a.toInt ∧ a.toInt < cntM M 0
  · obtain ⟨i, rfl, ei, hi⟩ := vv_nat c.1
    have hia : i < cntM M 0 := by omega
    have hcl : (nI i).toNatClampNeg = i := nI_clamp (by omega)
    have hin : vp_in (nI i) 4 := vp_in_nI (by omega) (by omega)
    obtain ⟨⟨A1, A2, A3⟩, A4, ⟨A5, A6⟩, ⟨A7, A8⟩, A9, A10⟩ := hax i hia
    rw [hcl]
    refine v6_hasAxis_t hn hS1 c (g1 ⟨hin, ?_⟩)
    have fin : ∀ {x y : Int32}, x = y → if x = y then K S M else False := fun e => gt e (hK _ _ I.next)
    by_cases c0 : b = 0
    · exact gt c0 ⟨hin, v7_noAxis_t hn h0 c (g0 (gt c0 ⟨hin, fin A7⟩))⟩
    refine gf c0 ?_
    by_cases c1 : b = 1
    · exact gt c1 (v7_noAxis_t hn h0 c (g0 (gf c0 (gt c1 ⟨hin, fin A1⟩))))
    refine gf c1 ?_
    by_cases c2 : b = 2
    · exact gt c2 (v7_noAxis_t hn h0 c (g0 (gf c0 (gf c1 (gt c2 ⟨hin, fin A2⟩)))))
    refine gf c2 ?_
    by_cases c3 : b = 3
    · exact gt c3 (v7_noAxis_t hn h0 c (g0 (gf c0 (gf c1 (gf c2 (gt c3 ⟨hin, fin A3⟩))))))
    refine gf c3 ?_
    by_cases c4 : b = 4
    · exact gt c4 (v7_noAxis_t hn h0 c (g0 (gf c0 (gf c1 (gf c2 (gf c3 (gt c4 ⟨hin, fin A9⟩)))))))
    refine gf c4 ?_
    by_cases c5 : b = 5
    · refine gt c5 ?_
      by_cases c6 : M.1 6 0 i = 0
      · exact gt (A5.trans c6) (v7_noAxis_t hn h0 c (g0 (gf c0 (gf c1 (gf c2 (gf c3 (gf c4 (gt c5 ⟨hin, gt c6 (fin rfl)⟩))))))))
      · exact gf (by rw [A5]; exact c6) (v7_noAxis_t hn h0 c (g0 (gf c0 (gf c1 (gf c2 (gf c3 (gf c4 (gt c5 ⟨hin, gf c6 (fin rfl)⟩))))))))
    exact gf c5 (v7_noAxis_t hn h0 c (g0 (gf c0 (gf c1 (gf c2 (gf c3 (gf c4 (gf c5 (fin rfl)))))))))
  · refine v6_hasAxis_f hn hS1 c (g0 ?_)
    exact v7_noAxis_f hn h0 c (g1 (ge (hK _ _ I.next)))
end SMALL
