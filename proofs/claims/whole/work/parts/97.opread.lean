def RdR (S M : xS) (na L p m : Nat) : Prop :=
  (S.1 3 0 0 = nI L ∧ M.1 0 0 34 = nI L ∧ L ≤ 60 ∧ p ≤ L) ∧ (S.1 3 0 2 = nI m ∧ M.1 0 0 38 = nI m ∧ m < 16) ∧ M.1 0 0 36 = nI p ∧ (∀ j, j < L → S.1 19 0 j = M.1 36 0 j) ∧ M.1 0 0 0 = nI na ∧ (∀ a, a < 4 → m.testBit a = true → a < na ∧ M.1 6 0 a = 0 ∧ S.1 20 0 a = M.1 40 0 a)
theorem bit_sh' : ∀ (m : Fin 16) (a : Fin 4), ((nI m.val >>> (nI a.val &&& 31)) &&& 1 = 1 ↔ m.val.testBit a.val = true) := by decide +kernel
theorem bit_sh {m a : Nat} (hm : m < 16) (ha : a < 4) : ((nI m >>> (nI a &&& 31)) &&& 1 = 1) = (m.testBit a = true) := propext (bit_sh' ⟨m, hm⟩ ⟨a, ha⟩)
theorem bOn16 {m a : Nat} (hm : m < 16) (ha : a < 4) : bOn m a < 16 := Nat.or_lt_two_pow (n := 4) hm (Nat.pow_lt_pow_right (by omega) (by omega))
def FltR (S M : xS) (na L p m pb : Nat) : Prop :=
  (∃ q S' M', q ≤ 60 ∧ (q = p ∨ ∃ a, a < na ∧ m.testBit a = false) ∧ RdS S S' ∧ RdM M M' ∧ M'.1 0 0 36 = nI q ∧ (∀ (K10 : xS → Int32 → Int32 → Prop) (Q : Int32 → xS → Prop) (v4 : Int32), ¬ (4 : Int32) < v4 → Q (-100 - nI q) S' → wp_X3_readItems_10_b (nI na) (nI pb) K10 Q S (nI p) v4) ∧ (∀ Q : Int32 → xS → Prop, Q 0 M' → wp_X7_readsItem M Q))
def GodR (S M : xS) (na L p m pb : Nat) : Prop :=
  (∃ a q S' M', a < na ∧ m.testBit a = false ∧ RdS S S' ∧ RdM M M' ∧ RdR S' M' na L q (bOn m a) ∧ (∀ (K10 : xS → Int32 → Int32 → Prop) (Q : Int32 → xS → Prop) (v4 : Int32), ¬ (4 : Int32) < v4 → (if nI q < nI L then wp_X3_isAt (nI q) 59 S' (fun r4 S3 => if r4 = 0 then Q (-100 - nI q) S3 else K10 S3 (nI q + 1) (v4 + 1)) else Q v4 S') → wp_X3_readItems_10_b (nI na) (nI pb) K10 Q S (nI p) v4) ∧ (∀ Q : Int32 → xS → Prop, Q 1 M' → wp_X7_readsItem M Q))
theorem item_both {S M : xS} {na L p m pb : Nat} (hn : na ≤ 4) (hpb : pb < 16) (hP : ∀ a, pb.testBit a = decide (a < na ∧ ¬ M.1 6 0 a = 0)) (R : RdR S M na L p m) :
    FltR S M na L p m pb ∨ GodR S M na L p m pb := by
  obtain ⟨⟨e1, e2, h60, hp⟩, ⟨e3, e4, hm⟩, e5, hT, e6, hv⟩ := R
  have bad : (∀ Q : Int32 → xS → Prop, Q (-1) S → wp_X3_axisAt (nI p) (nI na) (nI pb) S Q) → (∀ Q : Int32 → xS → Prop, Q 0 M → wp_X7_readsItem M Q) → FltR S M na L p m pb ∨ GodR S M na L p m pb := fun h1 h2 =>
    Or.inl ⟨p, S, M, by omega, Or.inl rfl, RdS.refl S, RdM.refl M, e5, fun K10 Q v4 h4 k => by
      unfold wp_X3_readItems_10_b
      exact gf h4 (h1 _ (gf (by decide) k)), h2⟩
  by_cases cL : p = L
  · subst cL
    refine bad (fun Q k => ?_) (fun Q k => ?_)
    · unfold wp_X3_axisAt
      rw [e1]
      exact gf (by rw [vv_lt (by omega) (by omega)]; omega) k
    · unfold wp_X7_readsItem
      rw [e5, e2]
      exact gt rfl ⟨Or.inl rfl, k⟩
  have hpL : p < L := by omega
  have hin := vv_in (k := p) (N := 60) (by omega) (by omega)
  have z0 : (0 : Int32).toInt = 0 := rfl
  have eT := hT p hpL
  have p6 : ∀ Q : Int32 → xS → Prop, (if (S.1 19 0 p - 97) < 0 then Q (-1) S else if nI na ≤ (S.1 19 0 p - 97) then Q (-1) S else wp_X6_hasBit (nI pb ||| nI m) (S.1 19 0 p - 97) S (fun r3 S2 => if r3 = 0 then Q (S.1 19 0 p - 97) (xI S2 3 0 2 ((S2.1 3 0 2) ||| ((1 : Int32) <<< ((S.1 19 0 p - 97) &&& 31)))) else Q (-1) S2)) → wp_X3_axisAt (nI p) (nI na) (nI pb) S Q := fun Q k => by
    unfold wp_X3_axisAt wp_X3_axisAt_46
    rw [e1, e3, vv_clI (by omega)]
    exact gt (by rw [vv_lt (by omega) (by omega)]; exact hpL) ⟨hin, k⟩
  have neL : ¬ nI p = nI L := by rw [vv_eq (by omega) (by omega)]; exact cL
  by_cases cx : 0 ≤ (S.1 19 0 p - 97).toInt ∧ (S.1 19 0 p - 97).toInt < na
  rotate_left
  · refine bad (fun Q k => p6 Q ?_) (fun Q k => ?_)
    · by_cases c0 : (S.1 19 0 p - 97) < 0
      · exact gt c0 k
      · rw [i32_lt, z0] at c0
        exact gf (by rw [i32_lt, z0]; exact c0) (gt (by rw [i32_le, nI_toInt' (by omega)]; omega) k)
    · unfold wp_X7_readsItem wp_X7_readsItem_55
      rw [e5, e2, vv_clI (by omega), ← eT]
      exact gf neL ⟨hin, v7_noAxis_f hn e6 cx (gf (by decide) ⟨Or.inl rfl, k⟩)⟩
  obtain ⟨i, ei, ei2, hi⟩ := vv_nat cx.1
  have hi4 : i < na := by omega
  have hini := vv_in (k := i) (N := 4) (by omega) (by omega)
  rw [ei] at p6 cx
  have q1 : ¬ nI i < 0 := by rw [nl0, vv_lt (by omega) (by omega)]; omega
  have q2 : ¬ nI na ≤ nI i := by rw [vv_le (by omega) (by omega)]; omega
  have p7 : ∀ Q : Int32 → xS → Prop, (if M.1 6 0 i = 0 then (if m.testBit i = true then Q 0 M else wp_X7_readsNumber (xI M 0 0 36 (nI (p + 1))) (fun r6 S5 => if r6 = 0 then Q 0 S5 else Q 1 (xI (xI S5 0 0 38 ((S5.1 0 0 38) ||| ((1 : Int32) <<< (nI i &&& 31)))) 40 0 i ((xI S5 0 0 38 ((S5.1 0 0 38) ||| ((1 : Int32) <<< (nI i &&& 31)))).1 0 0 37)))) else Q 0 M) → wp_X7_readsItem M Q := fun Q k => by
    unfold wp_X7_readsItem wp_X7_readsItem_55
    rw [e5, e2, vv_clI (k := p) (by omega), ← eT, ei]
    refine gf neL ⟨hin, v7_noAxis_t hn e6 cx (gt rfl ⟨hini, ?_⟩)⟩
    rw [vv_clI (k := i) (by omega), e4, e5, nI_1]
    by_cases c6 : M.1 6 0 i = 0
    · rw [if_pos c6] at k
      refine gt c6 ?_
      by_cases cb : m.testBit i = true
      · rw [if_pos cb] at k
        exact gt (by rw [bit_sh hm (by omega)]; exact cb) ⟨Or.inl rfl, k⟩
      · rw [if_neg cb] at k
        refine gf (by rw [bit_sh hm (by omega)]; exact cb) ?_
        have e : (fun (r6 : Int32) (S5 : xS) => if r6 = 0 then (((0 : Int32) = 0 ∨ (0 : Int32) = 1) ∧ Q 0 S5) else (vp_in (nI i) 4 ∧ (((1 : Int32) = 0 ∨ (1 : Int32) = 1) ∧ Q 1 (xI (xI S5 0 0 38 ((S5.1 0 0 38) ||| ((1 : Int32) <<< (nI i &&& 31)))) 40 0 i ((xI S5 0 0 38 ((S5.1 0 0 38) ||| ((1 : Int32) <<< (nI i &&& 31)))).1 0 0 37))))) = (fun r6 S5 => if r6 = 0 then Q 0 S5 else Q 1 (xI (xI S5 0 0 38 ((S5.1 0 0 38) ||| ((1 : Int32) <<< (nI i &&& 31)))) 40 0 i ((xI S5 0 0 38 ((S5.1 0 0 38) ||| ((1 : Int32) <<< (nI i &&& 31)))).1 0 0 37))) := by
          funext r6 S5
          by_cases c : r6 = 0
          · rw [if_pos c, if_pos c]; exact propext ⟨fun h => h.2, fun h => ⟨Or.inl rfl, h⟩⟩
          · rw [if_neg c, if_neg c]; exact propext ⟨fun h => h.2.2, fun h => ⟨hini, Or.inr rfl, h⟩⟩
        rw [← e] at k
        exact k
    · rw [if_neg c6] at k
      exact gf c6 ⟨Or.inl rfl, k⟩
  have hpi := hP i
  by_cases c6 : M.1 6 0 i = 0
  rotate_left
  · refine bad (fun Q k => p6 Q (gf q1 (gf q2 ?_))) (fun Q k => p7 Q (gf c6 k))
    rw [nI_or]
    refine v6_hasBit (Nat.or_lt_two_pow (n := 31) (by omega) (by omega)) (by omega) ?_
    rw [Nat.testBit_or, hpi, decide_eq_true ⟨hi4, c6⟩, Bool.true_or]
    exact g1 k
  by_cases cb : m.testBit i = true
  · refine bad (fun Q k => p6 Q (gf q1 (gf q2 ?_))) (fun Q k => p7 Q (gt c6 (gt cb k)))
    rw [nI_or]
    refine v6_hasBit (Nat.or_lt_two_pow (n := 31) (by omega) (by omega)) (by omega) ?_
    rw [Nat.testBit_or, cb, Bool.or_true]
    exact g1 k
  have hmi : m.testBit i = false := by cases h : m.testBit i; rfl; exact absurd h cb
  have a6 : ∀ Q : Int32 → xS → Prop, Q (nI i) (xI S 3 0 2 (nI (bOn m i))) → wp_X3_axisAt (nI p) (nI na) (nI pb) S Q := fun Q k => p6 Q (gf q1 (gf q2 (by
    rw [nI_or]
    refine v6_hasBit (Nat.or_lt_two_pow (n := 31) (by omega) (by omega)) (by omega) ?_
    rw [Nat.testBit_or, hpi, hmi, decide_eq_false (fun h => h.2 c6)]
    refine gt rfl ?_
    rw [e3, nI_on (by omega)]
    exact k)))
  obtain ⟨l1, l2, l3⟩ := dg1_le (T := S.1 19 0) (L := L) (p := p + 1) (by omega)
  have ec := q_congr hT (p + 1)
  have eS : (xI S 3 0 2 (nI (bOn m i))).1 19 0 = S.1 19 0 := by rw [xI_k (by omega)]
  have eL1 : (xI S 3 0 2 (nI (bOn m i))).1 3 0 0 = nI L := by rw [xI_1, if_neg (by omega)]; exact e1
  -- the class's number
  have n6 : ∀ (K10 : xS → Int32 → Int32 → Prop) (Q : Int32 → xS → Prop) (v4 : Int32), ¬ (4 : Int32) < v4 → (if nI (dg1 (S.1 19 0) L (p + 1)) = nI (q0 (S.1 19 0) L (p + 1)) then Q (-100 - nI (q0 (S.1 19 0) L (p + 1))) (xI (xI S 3 0 2 (nI (bOn m i))) 20 0 i (vl0 (S.1 19 0) L (p + 1))) else if nI (dg1 (S.1 19 0) L (p + 1)) < nI L then wp_X3_isAt (nI (dg1 (S.1 19 0) L (p + 1))) 59 (xI (xI S 3 0 2 (nI (bOn m i))) 20 0 i (vl0 (S.1 19 0) L (p + 1))) (fun r4 S3 => if r4 = 0 then Q (-100 - nI (dg1 (S.1 19 0) L (p + 1))) S3 else K10 S3 (nI (dg1 (S.1 19 0) L (p + 1)) + 1) (v4 + 1)) else Q v4 (xI (xI S 3 0 2 (nI (bOn m i))) 20 0 i (vl0 (S.1 19 0) L (p + 1)))) → wp_X3_readItems_10_b (nI na) (nI pb) K10 Q S (nI p) v4 := by
    intro K10 Q v4 h4 k
    have b58 : ∀ (neg s1 : Int32), nI (p + 1) + s1 = nI (q0 (S.1 19 0) L (p + 1)) → (if neg = 0 then (dgs (S.1 19 0) L 6 (q0 (S.1 19 0) L (p + 1)) 0).2 else -(dgs (S.1 19 0) L 6 (q0 (S.1 19 0) L (p + 1)) 0).2) = vl0 (S.1 19 0) L (p + 1) → wp_X3_readItems_58 (nI na) (nI pb) K10 Q (xI S 3 0 2 (nI (bOn m i))) v4 (nI i) neg (nI (p + 1)) s1 := by
      intro neg s1 hs hval
      unfold wp_X3_readItems_58
      rw [hs]
      refine w3_digits eL1 h60 (by omega) ?_
      rw [eS]
      unfold wp_X3_readNumber_72 wp_X3_readNumber_89
      have fin : ∀ x, x = vl0 (S.1 19 0) L (p + 1) → (vp_in (nI i) 4 ∧ (if nI (dgs (S.1 19 0) L 6 (q0 (S.1 19 0) L (p + 1)) 0).1 = nI (q0 (S.1 19 0) L (p + 1)) then Q (-100 - nI (q0 (S.1 19 0) L (p + 1))) (xI (xI S 3 0 2 (nI (bOn m i))) 20 0 (nI i).toNatClampNeg x) else if nI (dgs (S.1 19 0) L 6 (q0 (S.1 19 0) L (p + 1)) 0).1 < (xI (xI S 3 0 2 (nI (bOn m i))) 20 0 (nI i).toNatClampNeg x).1 3 0 0 then wp_X3_isAt (nI (dgs (S.1 19 0) L 6 (q0 (S.1 19 0) L (p + 1)) 0).1) 59 (xI (xI S 3 0 2 (nI (bOn m i))) 20 0 (nI i).toNatClampNeg x) (fun r4 S3 => if r4 = 0 then Q (-100 - nI (dgs (S.1 19 0) L 6 (q0 (S.1 19 0) L (p + 1)) 0).1) S3 else K10 S3 (nI (dgs (S.1 19 0) L 6 (q0 (S.1 19 0) L (p + 1)) 0).1 + 1) (v4 + 1)) else Q v4 (xI (xI S 3 0 2 (nI (bOn m i))) 20 0 (nI i).toNatClampNeg x))) := by
        intro x hx
        subst hx
        refine ⟨hini, ?_⟩
        rw [vv_clI (k := i) (by omega), xI_k (by omega), eL1]
        exact k
      by_cases cn : neg = 0
      · rw [if_pos cn] at hval
        exact gt cn (fin _ hval)
      · rw [if_neg cn] at hval
        exact gf cn (fin _ hval)
    unfold wp_X3_readItems_10_b
    refine gf h4 (a6 _ (gt (by rw [nl0, vv_le (by omega) (by omega)]; omega) ?_))
    rw [nI_1]
    refine w3_isAt eL1 h60 (by omega) ?_
    rw [eS]
    cases cm : mnB (S.1 19 0) L (p + 1) 45
    · refine gt rfl (b58 0 0 ?_ ?_)
      · rw [nl0, nI_add]
        unfold q0
        rw [cm, if_neg (by decide)]; try rfl
      · unfold vl0
        rw [cm, if_pos rfl, if_neg (by decide)]
    · refine gf (by decide) (b58 1 1 ?_ ?_)
      · rw [nI_1]
        unfold q0
        rw [cm, if_pos rfl]
      · unfold vl0
        rw [cm, if_neg (by decide), if_pos rfl]
  have fS : RdS S (xI (xI S 3 0 2 (nI (bOn m i))) 20 0 i (vl0 (S.1 19 0) L (p + 1))) := RdS.b.trans RdS.v
  have n7 : ∀ Q : Int32 → xS → Prop, (if dg1 (S.1 19 0) L (p + 1) = q0 (S.1 19 0) L (p + 1) then Q 0 (pv M (dg1 (S.1 19 0) L (p + 1)) (vl0 (S.1 19 0) L (p + 1))) else Q 1 (xI (xI (pv M (dg1 (S.1 19 0) L (p + 1)) (vl0 (S.1 19 0) L (p + 1))) 0 0 38 (nI (bOn m i))) 40 0 i (vl0 (S.1 19 0) L (p + 1)))) → wp_X7_readsItem M Q := fun Q k => p7 Q (gt c6 (gf cb (w7_readsNumber e2 h60 (by omega) (by
    rw [← ec.2.1, ← ec.2.2.1, ← ec.2.2.2]
    by_cases cd : dg1 (S.1 19 0) L (p + 1) = q0 (S.1 19 0) L (p + 1)
    · rw [if_pos cd] at k ⊢
      exact gt rfl k
    · rw [if_neg cd] at k ⊢
      refine gf (by decide) ?_
      rw [pv_0 (by omega) (by omega), e4, nI_on (by omega), xI_1, if_neg (by omega), pv_v]
      exact k))))
  by_cases cd : dg1 (S.1 19 0) L (p + 1) = q0 (S.1 19 0) L (p + 1)
  · refine Or.inl ⟨q0 (S.1 19 0) L (p + 1), _, _, by omega, Or.inr ⟨i, hi4, hmi⟩, fS, pv_rd M (dg1 (S.1 19 0) L (p + 1)) (vl0 (S.1 19 0) L (p + 1)), by rw [pv_p, cd], fun K10 Q v4 h4 k => n6 K10 Q v4 h4 (gt (by rw [cd]) k), fun Q k => n7 Q (gt cd k)⟩
  · refine Or.inr ⟨i, dg1 (S.1 19 0) L (p + 1), _, _, hi4, hmi, fS, (pv_rd M _ _).trans ((RdM.i (by omega)).trans RdM.v), ⟨⟨?_, ?_, h60, l2⟩, ⟨?_, ?_, bOn16 hm (by omega)⟩, ?_, fun j hj => ?_, ?_, fun a ha hab => ?_⟩, fun K10 Q v4 h4 k => n6 K10 Q v4 h4 (gf (by rw [vv_eq (by omega) (by omega)]; exact cd) k), fun Q k => n7 Q (gf cd k)⟩
    · rw [xI_k (by omega)]; exact eL1
    · rw [xI_k (by omega), xI_1, if_neg (by omega), pv_0 (by omega) (by omega)]; exact e2
    · rw [xI_k (by omega), xI_s]
    · rw [xI_k (by omega), xI_s]
    · rw [xI_k (by omega), xI_1, if_neg (by omega), pv_p]
    · rw [xI_k (by omega), xI_k (by omega), xI_k (by omega), xI_k (by omega), pv_k (by omega)]; exact hT j hj
    · rw [xI_k (by omega), xI_1, if_neg (by omega), pv_0 (by omega) (by omega)]; exact e6
    · rw [xI_k (k' := 6) (by omega), xI_k (k' := 6) (by omega), pv_k (by omega), xI_1 _ 20 0 i, xI_1 _ 40 0 i]
      rw [bOn_bit] at hab
      by_cases ea : a = i
      · rw [if_pos ⟨rfl, rfl, ea⟩, if_pos ⟨rfl, rfl, ea⟩, ea]
        exact ⟨hi4, c6, rfl⟩
      · rw [if_neg (by omega), if_neg (by omega), xI_k (by omega), xI_k (by omega), pv_k (by omega)]
        rw [decide_eq_false (show ¬ i = a by omega), Bool.or_false] at hab
        exact hv a ha hab
