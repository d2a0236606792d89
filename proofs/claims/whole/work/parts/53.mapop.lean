set_option maxHeartbeats 1000000 in
theorem op_addMapPair {n : Nat} {S M : xS} {K : xS → xS → Prop} (I : Inv n S M) (a x y : Int32) (hK : ∀ S' M', Inv (n + 1) S' M' → K S' M') :
    wp_X6_addMapPair a x y S (fun r1 S1 => wp_X7_addMapPair a x y M (fun r2 M1 => if r1 = r2 then K S1 M1 else False)) := by
  obtain ⟨⟨hn, h0, h1⟩, hax, hz, hzz⟩ := I.1
  have hS1 := h1.trans h0
  have z1 : (-16383 : Int32).toInt = -16383 := rfl
  have z2 : (16383 : Int32).toInt = 16383 := rfl
  have z3 : (-16384 : Int32).toInt = -16384 := rfl
  have z4 : (16384 : Int32).toInt = 16384 := rfl
  have y1 : (-16383 : Int64).toInt = -16383 := rfl
  have y2 : (16383 : Int64).toInt = 16383 := rfl
  have y3 : (-16384 : Int64).toInt = -16384 := rfl
  have y4 : (16384 : Int64).toInt = 16384 := rfl
  unfold wp_X6_addMapPair wp_X7_addMapPair wp_X6_addMapPair_46 wp_X7_addMapPair_43 wp_X6_addMapPair_71
  by_cases c : 0 ≤ a.toInt ∧ a.toInt < cntM M 0
  rotate_left
  · refine v6_hasAxis_f hn hS1 c (g0 ?_)
    exact v7_noAxis_f hn h0 c (g1 (ge (hK _ _ I.next)))
  refine v6_hasAxis_t hn hS1 c (g1 ?_)
  obtain ⟨i, rfl, ei, hi⟩ := vv_nat c.1
  have hia : i < cntM M 0 := by omega
  have hin := vv_in (k := i) (N := 4) (by omega) (by omega)
  refine ⟨hin, ?_⟩
  rw [vv_clI (k := i) (by omega)]
  by_cases c2 : -16383 ≤ x.toInt ∧ x.toInt ≤ 16383
  rotate_left
  · refine v6_within_f (by rw [z1, z2]; exact c2) (g0 ?_)
    exact v7_noAxis_t hn h0 c (g0 (v7_in_f (by rw [i2l_toInt, y1, y2]; exact c2) (g0 (gt rfl (hK _ _ I.next)))))
  have d2 : (-16383 : Int64).toInt ≤ (Int32.toInt64 x).toInt ∧ (Int32.toInt64 x).toInt ≤ (16383 : Int64).toInt := by rw [i2l_toInt, y1, y2]; exact c2
  refine v6_within_t (by rw [z1, z2]; exact c2) (g1 ?_)
  by_cases c3 : x = 0
  · exact gt c3 (v7_noAxis_t hn h0 c (g0 (v7_in_t d2 (g1 (gt c3 (gt rfl (hK _ _ I.next)))))))
  refine gf c3 ?_
  obtain ⟨t1, t2, t3, t4, t5, np, t6, t7, t8, t9, ⟨t10, t11, t12, t13⟩, t14⟩ := hax i hia
  have eS4 : S.1 0 i 4 = nI np := t5.trans t6
  obtain ⟨p, p1, p2, p3, p4⟩ := ex_pl (f := fun j => (M.1 8 0 (8 * i + j)).toInt) (np := np) (x := x.toInt) (by simp only [Nat.add_zero]; rw [t10, z3]; omega) (by show _ < (M.1 8 0 (8 * i + (np - 1))).toInt; rw [t12, z4]; omega) (by omega)
  have p4 : x.toInt ≤ (M.1 8 0 (8 * i + p)).toInt := p4
  have p3 : ∀ j, j < p → (M.1 8 0 (8 * i + j)).toInt < x.toInt := p3
  have mf : ∀ j z, z < j → j < np → (M.1 8 0 (8 * i + z)).toInt < (M.1 8 0 (8 * i + j)).toInt := by
    intro j
    induction j with
    | zero => intro z hz; omega
    | succ j ih =>
      intro z hz hj
      have q1 := (t14 j hj).1
      by_cases e : z = j
      · rw [e]; exact q1
      · have := ih z (by omega) (by omega); omega
  have mt := mono_le (f := fun j => (M.1 9 0 (8 * i + j)).toInt) (np := np) (fun j hj => (t14 j hj).2)
  have mt : ∀ j z, z ≤ j → j < np → (M.1 9 0 (8 * i + z)).toInt ≤ (M.1 9 0 (8 * i + j)).toInt := mt
  have g1' : ∀ j, j < p → S.1 10 i j < x := fun j hj => by rw [(t9 j (by omega)).1, i32_lt]; exact p3 j hj
  have g2' : x ≤ S.1 10 i p := by rw [(t9 p p2).1, i32_le]; exact p4
  have g3' : ∀ j, j < p → M.1 8 0 (8 * i + j) < x := fun j hj => by rw [i32_lt]; exact p3 j hj
  have g4' : x ≤ M.1 8 0 (8 * i + p) := by rw [i32_le]; exact p4
  obtain ⟨bh, hb1, hb2, hb3⟩ : ∃ bh, bh < np ∧ x.toInt < (M.1 8 0 (8 * i + bh)).toInt ∧ ((M.1 8 0 (8 * i + p) = x ∧ bh = p + 1) ∨ (¬ M.1 8 0 (8 * i + p) = x ∧ bh = p)) := by
    by_cases e : M.1 8 0 (8 * i + p) = x
    · have : p + 1 < np := by
        by_cases e2 : p = np - 1
        · rw [e2, t12] at e
          rw [← e, z4] at c2
          omega
        · omega
      exact ⟨p + 1, this, by have := mf (p + 1) p (by omega) this; rw [e] at this; exact this, Or.inl ⟨e, rfl⟩⟩
    · have : (M.1 8 0 (8 * i + p)).toInt ≠ x.toInt := fun q => e (Int32.toInt_inj.mp q)
      exact ⟨p, p2, by omega, Or.inr ⟨e, rfl⟩⟩
  have model : ∀ Q : Int32 → xS → Prop, (if M.1 8 0 (8 * i + p) = x then wp_X7_addMapPair_85 (nI i) x y Q M (nI (8 * i + p)) 1 else wp_X7_addMapPair_85 (nI i) x y Q M (nI (8 * i + p)) 0) → ∃ n, wp_X7_addMapPair_52 (nI i) x y Q n M ((8 : Int32) * nI i) := fun Q k => by
    rw [nl8, vv_mul]; exact w7_find (by omega) t8 p2 g3' g4' k
  have m85 : ∀ Q : Int32 → xS → Prop, ∀ f : Int32, (f = 1 ∧ M.1 8 0 (8 * i + p) = x) ∨ (f = 0 ∧ ¬ M.1 8 0 (8 * i + p) = x) → wp_X7_addMapPair_101 (nI i) x y Q M (nI (8 * i + p)) f (nI (8 * i + bh)) → wp_X7_addMapPair_85 (nI i) x y Q M (nI (8 * i + p)) f := by
    intro Q f hf k
    unfold wp_X7_addMapPair_85
    rcases hf with ⟨rfl, e⟩ | ⟨rfl, e⟩
    · rcases hb3 with ⟨_, e2⟩ | ⟨e2, _⟩
      · rw [e2, ← Nat.add_assoc, ← nI_1] at k
        exact g1 k
      · exact absurd e e2
    · rcases hb3 with ⟨e2, _⟩ | ⟨_, e2⟩
      · exact absurd e2 e
      · rw [e2] at k
        exact g0 k
  have model2 : ∀ Q : Int32 → xS → Prop, (∀ f : Int32, (f = 1 ∧ M.1 8 0 (8 * i + p) = x) ∨ (f = 0 ∧ ¬ M.1 8 0 (8 * i + p) = x) → wp_X7_addMapPair_101 (nI i) x y Q M (nI (8 * i + p)) f (nI (8 * i + bh))) → ∃ n, wp_X7_addMapPair_52 (nI i) x y Q n M ((8 : Int32) * nI i) := by
    intro Q k
    refine model Q ?_
    by_cases e : M.1 8 0 (8 * i + p) = x
    · exact gt e (m85 Q 1 (Or.inl ⟨rfl, e⟩) (k 1 (Or.inl ⟨rfl, e⟩)))
    · exact gf e (m85 Q 0 (Or.inr ⟨rfl, e⟩) (k 0 (Or.inr ⟨rfl, e⟩)))
  by_cases ok : (M.1 9 0 (8 * i + (p - 1))).toInt ≤ y.toInt ∧ y.toInt ≤ (M.1 9 0 (8 * i + bh)).toInt
  rotate_left
  · have bad : (S.1 10 i (p - 1) < x ∧ y < S.1 11 i (p - 1)) ∨ (x < S.1 10 i bh ∧ S.1 11 i bh < y) := by
      by_cases e : y.toInt < (M.1 9 0 (8 * i + (p - 1))).toInt
      · exact Or.inl ⟨g1' (p - 1) (by omega), by rw [(t9 (p - 1) (by omega)).2, i32_lt]; exact e⟩
      · exact Or.inr ⟨by rw [(t9 bh hb1).1, i32_lt]; exact hb2, by rw [(t9 bh hb1).2, i32_lt]; omega⟩
    have fin : wp_X7_noAxis (nI i) M (fun r2 S1 => (if r2 = 0 then (wp_X7_in (Int32.toInt64 x) (-16383 : Int64) (16383 : Int64) S1 (fun r4 S3 => (if r4 = 0 then (if (-1000005 : Int32) = -1000005 then K S S3 else False) else (if x = 0 then (if (-1000005 : Int32) = -1000005 then K S S3 else False) else (wp_X7_in (Int32.toInt64 y) (-16384 : Int64) (16384 : Int64) S3 (fun r6 S5 => (if r6 = 0 then (if (-1000005 : Int32) = -1000005 then K S S5 else False) else (∃ n7, wp_X7_addMapPair_52 (nI i) x y (fun r2 M1 => if (-1000005 : Int32) = r2 then K S M1 else False) n7 S5 ((8 : Int32) * (nI i)))))))))) else (if (-1000005 : Int32) = -1000001 then K S S1 else False))) := by
      refine v7_noAxis_t hn h0 c (g0 (v7_in_t d2 (g1 (gf c3 ?_))))
      by_cases c5 : -16384 ≤ y.toInt ∧ y.toInt ≤ 16384
      · refine v7_in_t (by rw [i2l_toInt, y3, y4]; exact c5) (g1 ?_)
        refine model2 _ (fun f hf => ?_)
        unfold wp_X7_addMapPair_101 wp_X7_addMapPair_127
        rw [nI_s1 (by omega) (by omega)]
        refine ⟨vv_in (by omega) (by omega), ?_⟩
        rw [vv_clI (by omega), vv_clI (by omega), show 8 * i + p - 1 = 8 * i + (p - 1) by omega]
        by_cases e : y.toInt < (M.1 9 0 (8 * i + (p - 1))).toInt
        · exact gt (by rw [i32_lt]; exact e) (gt rfl (hK _ _ I.next))
        · exact gf (by rw [i32_lt]; exact e) ⟨vv_in (by omega) (by omega), gf (by rw [i32_le]; omega) (gt rfl (hK _ _ I.next))⟩
      · exact v7_in_f (by rw [i2l_toInt, y3, y4]; exact c5) (g0 (gt rfl (hK _ _ I.next)))
    rcases bad with bad | bad
    · exact v6_keepsOrder_f t8 eS4 (z := p - 1) (by omega) (Or.inl bad) (g0 fin)
    · exact v6_keepsOrder_f t8 eS4 (z := bh) hb1 (Or.inr bad) (g0 fin)
  have yr : -16384 ≤ y.toInt ∧ y.toInt ≤ 16384 := by
    have q1 := mt (p - 1) 0 (by omega) (by omega)
    have q2 := mt (np - 1) bh (by omega) (by omega)
    rw [Nat.add_zero, t11, z3] at q1
    rw [t13, z4] at q2
    omega
  have modelOk : ∀ Q : Int32 → xS → Prop, (∀ f : Int32, (f = 1 ∧ M.1 8 0 (8 * i + p) = x) ∨ (f = 0 ∧ ¬ M.1 8 0 (8 * i + p) = x) → if f = 0 then (vp_in (nI i) 4 ∧ if M.1 7 0 i = 8 then Q (-1000006) M else wp_X7_addMapPair_149 (nI i) x y Q M (nI (8 * i + p)) f) else wp_X7_addMapPair_149 (nI i) x y Q M (nI (8 * i + p)) f) → ∃ n, wp_X7_addMapPair_52 (nI i) x y Q n M ((8 : Int32) * nI i) := by
    intro Q k
    refine model2 Q (fun f hf => ?_)
    unfold wp_X7_addMapPair_101
    rw [nI_s1 (by omega) (by omega)]
    refine ⟨vv_in (by omega) (by omega), ?_⟩
    rw [vv_clI (k := 8 * i + p - 1) (by omega), vv_clI (k := 8 * i + bh) (by omega), show 8 * i + p - 1 = 8 * i + (p - 1) by omega, vv_clI (k := i) (by omega)]
    exact gf (by rw [i32_lt]; omega) ⟨vv_in (by omega) (by omega), gt (by rw [i32_le]; omega) (k f hf)⟩
  refine v6_keepsOrder_t t8 eS4 (fun j hj => ⟨fun q => ?_, fun q => ?_⟩) (g1 ?_)
  · rw [(t9 j hj).1, i32_lt] at q
    rw [(t9 j hj).2, i32_lt]
    have : j ≤ p - 1 := by
      apply Nat.not_lt.mp
      intro hc
      by_cases e : p = j
      · subst e; omega
      · have := mf j p (by omega) hj; omega
    have := mt (p - 1) j this (by omega)
    omega
  · rw [(t9 j hj).1, i32_lt] at q
    rw [(t9 j hj).2, i32_lt]
    have : bh ≤ j := by
      apply Nat.not_lt.mp
      intro hc
      rcases hb3 with ⟨e, e2⟩ | ⟨e, e2⟩
      · by_cases e3 : j = p
        · subst e3; rw [e] at q; omega
        · have := p3 j (by omega); omega
      · have := p3 j (by omega); omega
    have := mt j bh this hj
    omega
  by_cases e : M.1 8 0 (8 * i + p) = x
  · have ep : S.1 10 i p = x := (t9 p p2).1.trans e
    have hbh : bh = p + 1 := by
      rcases hb3 with ⟨_, q⟩ | ⟨q, _⟩
      · exact q
      · exact absurd e q
    have fin : wp_X0_putPair i x y S (fun S1 => wp_X7_noAxis (nI i) M (fun r2 S2 => (if r2 = 0 then (wp_X7_in (Int32.toInt64 x) (-16383 : Int64) (16383 : Int64) S2 (fun r4 S3 => (if r4 = 0 then (if S1.1 0 i 4 = -1000005 then K S1 S3 else False) else (if x = 0 then (if S1.1 0 i 4 = -1000005 then K S1 S3 else False) else (wp_X7_in (Int32.toInt64 y) (-16384 : Int64) (16384 : Int64) S3 (fun r6 S5 => (if r6 = 0 then (if S1.1 0 i 4 = -1000005 then K S1 S5 else False) else (∃ n7, wp_X7_addMapPair_52 (nI i) x y (fun r2 M1 => if S1.1 0 i 4 = r2 then K S1 M1 else False) n7 S5 ((8 : Int32) * (nI i)))))))))) else (if S1.1 0 i 4 = -1000001 then K S1 S2 else False)))) := by
      unfold wp_X0_putPair wp_X0_putPair_92
      refine v6_first t8 eS4 p2 g1' g2' ⟨vv_in (by omega) (by omega), ?_⟩
      rw [vv_clI (by omega)]
      refine gt ep ⟨vv_in (by omega) (by omega), ?_⟩
      refine v7_noAxis_t hn h0 c (g0 (v7_in_t d2 (g1 (gf c3 (v7_in_t (by rw [i2l_toInt, y3, y4]; exact yr) (g1 ?_))))))
      refine modelOk _ (fun f hf => ?_)
      rcases hf with ⟨rfl, _⟩ | ⟨_, q⟩
      rotate_left
      · exact absurd e q
      unfold wp_X7_addMapPair_149 wp_X7_addMapPair_222
      refine g1 (g1 ⟨vv_in (by omega) (by omega), vv_in (by omega) (by omega), hin, ?_⟩)
      rw [vv_clI (by omega), vv_clI (by omega)]
      refine gt (by rw [xI_k (by omega), xI_k (by omega), xI_k (by omega)]; exact t5) ?_
      refine hK _ _ ?_
      refine I.axis hia (fun k q1 q2 q3 => xI_k q3) rfl (fun k q1 q2 q3 => by rw [xI_k q3, xI_k q2]) (fun z j q => by rw [xI_k (by omega)]) (fun z j q => by rw [xI_k (by omega), xI_1, if_neg (by omega)]; exact ⟨rfl, rfl⟩) (fun z q => by rw [xI_k (by omega), xI_k (by omega)]) (fun z q => by rw [xI_k (k' := 8) (by omega), xI_1, if_neg (by omega), xI_1 _ 9, if_neg (by omega), xI_k (by omega)]; exact ⟨rfl, rfl⟩) ?_
      have r8 : ∀ z, (xI (xI M 8 0 (8 * i + p) x) 9 0 (8 * i + p) y).1 8 0 z = M.1 8 0 z := by
        intro z
        rw [xI_k (by omega), xI_1]
        by_cases ez : z = 8 * i + p
        · rw [if_pos (by omega), ez, e]
        · rw [if_neg (by omega)]
      have r9 : ∀ z, (xI (xI M 8 0 (8 * i + p) x) 9 0 (8 * i + p) y).1 9 0 z = if z = 8 * i + p then y else M.1 9 0 z := by
        intro z
        rw [xI_1, xI_k (by omega)]
        by_cases ez : z = 8 * i + p
        · rw [if_pos (by omega), if_pos ez]
        · rw [if_neg (by omega), if_neg ez]
      unfold AxRel
      simp only [r8, r9]
      simp (disch := decide) only [xI_k]
      refine ⟨t1, t2, t3, t4, t5, np, t6, t7, t8, fun z hz => ?_, ⟨t10, by rw [if_neg (by omega)]; exact t11, t12, by rw [if_neg (by omega)]; exact t13⟩, fun z hz => ⟨(t14 z hz).1, ?_⟩⟩
      · refine ⟨(t9 z hz).1, ?_⟩
        rw [xI_1]
        by_cases ez : z = p
        · rw [if_pos (by omega), if_pos (by omega)]
        · rw [if_neg (by omega), if_neg (by omega)]; exact (t9 z hz).2
      · have q1 := (t14 z hz).2
        by_cases e1 : z = p
        · rw [if_pos (by omega), if_neg (by omega), e1, ← hbh]; exact ok.2
        · by_cases e2 : z + 1 = p
          · rw [if_neg (by omega), if_pos (by omega), show z = p - 1 by omega]; exact ok.1
          · rw [if_neg (by omega), if_neg (by omega)]; exact q1
    rw [eS4]
    by_cases c8 : np < 8
    · exact gt (by rw [nl8, vv_lt (by omega) (by omega)]; exact c8) fin
    · refine gf (by rw [nl8, vv_lt (by omega) (by omega)]; exact c8) ?_
      unfold wp_X0_hasPair wp_X0_hasPair_19
      refine v6_first t8 eS4 p2 g1' g2' ⟨vv_in (by omega) (by omega), ?_⟩
      rw [vv_clI (by omega)]
      exact gt ep ⟨Or.inr rfl, g1 fin⟩
  · have ep : ¬ S.1 10 i p = x := by rw [(t9 p p2).1]; exact e
    have hbh : bh = p := by
      rcases hb3 with ⟨q, _⟩ | ⟨_, q⟩
      · exact absurd q e
      · exact q
    rw [eS4]
    by_cases c8 : np < 8
    · refine gt (by rw [nl8, vv_lt (by omega) (by omega)]; exact c8) ?_
      unfold wp_X0_putPair
      refine v6_first t8 eS4 p2 g1' g2' ⟨vv_in (by omega) (by omega), ?_⟩
      rw [vv_clI (by omega), eS4]
      refine gf ep (gf (by rw [nl8, vv_le (by omega) (by omega)]; omega) ?_)
      refine v6_shift c8 eS4 p2 (fun S' s1 s2 s3 s4 s5 s6 => ?_)
      rw [s4]
      refine v7_noAxis_t hn h0 c (g0 (v7_in_t d2 (g1 (gf c3 (v7_in_t (by rw [i2l_toInt, y3, y4]; exact yr) (g1 ?_))))))
      refine modelOk _ (fun f hf => ?_)
      rcases hf with ⟨_, q⟩ | ⟨rfl, _⟩
      · exact absurd q e
      refine g0 ⟨hin, gf (by rw [t6, nl8, vv_eq (by omega) (by omega)]; omega) ?_⟩
      unfold wp_X7_addMapPair_149
      refine g0 ⟨hin, ?_⟩
      rw [vv_clI (k := i) (by omega), t6, nl8, vv_mul, nI_add]
      refine w7_shift (by omega) c8 t6 p2 (fun M' m1 m2 m3 m4 m5 => ?_)
      refine gt rfl ?_
      refine hK _ _ ?_
      refine I.axis hia s1 (by rw [s2]) m1 (fun z j q => s3 z j (Or.inl q)) s5 m2 m4 ?_
      unfold AxRel
      rw [s3 i 0 (by omega), s3 i 1 (by omega), s3 i 2 (by omega), s3 i 3 (by omega), s4, s1 30 (by omega) (by omega) (by omega), m1 2 (by omega) (by omega) (by omega), m1 3 (by omega) (by omega) (by omega), m1 4 (by omega) (by omega) (by omega), m1 5 (by omega) (by omega) (by omega), m1 6 (by omega) (by omega) (by omega), m3]
      have v1 : ∀ z, z < np + 1 → M'.1 8 0 (8 * i + z) = (if z = p then x else if p < z then M.1 8 0 (8 * i + (z - 1)) else M.1 8 0 (8 * i + z)) := by
        intro z hz
        rw [(m5 z hz).1]
        by_cases e1 : z = p
        · rw [if_pos e1, if_pos e1]
        · rw [if_neg e1, if_neg e1]
          unfold sft
          by_cases e2 : p < z
          · rw [if_pos (by omega), if_pos e2]
          · rw [if_neg (by omega), if_neg e2]
      have v2 : ∀ z, z < np + 1 → M'.1 9 0 (8 * i + z) = (if z = p then y else if p < z then M.1 9 0 (8 * i + (z - 1)) else M.1 9 0 (8 * i + z)) := by
        intro z hz
        rw [(m5 z hz).2]
        by_cases e1 : z = p
        · rw [if_pos e1, if_pos e1]
        · rw [if_neg e1, if_neg e1]
          unfold sft
          by_cases e2 : p < z
          · rw [if_pos (by omega), if_pos e2]
          · rw [if_neg (by omega), if_neg e2]
      refine ⟨t1, t2, t3, t4, rfl, np + 1, rfl, by omega, by omega, fun z hz => ?_, ⟨?_, ?_, ?_, ?_⟩, fun z hz => ?_⟩
      · rw [(s6 z hz).1, (s6 z hz).2, (m5 z hz).1, (m5 z hz).2]
        by_cases e1 : z = p
        · rw [if_pos e1, if_pos e1, if_pos e1, if_pos e1]; exact ⟨rfl, rfl⟩
        · rw [if_neg e1, if_neg e1, if_neg e1, if_neg e1]
          unfold sft
          by_cases e2 : p < z ∧ z ≤ np
          · rw [if_pos e2, if_pos e2, if_pos e2, if_pos e2]; exact t9 (z - 1) (by omega)
          · rw [if_neg e2, if_neg e2, if_neg e2, if_neg e2]; exact t9 z (by omega)
      · have := v1 0 (by omega)
        rw [if_neg (by omega), if_neg (by omega), Nat.add_zero] at this
        rw [this]; exact t10
      · have := v2 0 (by omega)
        rw [if_neg (by omega), if_neg (by omega), Nat.add_zero] at this
        rw [this]; exact t11
      · rw [show np + 1 - 1 = np by omega, v1 np (by omega), if_neg (by omega), if_pos p2]; exact t12
      · rw [show np + 1 - 1 = np by omega, v2 np (by omega), if_neg (by omega), if_pos p2]; exact t13
      · rw [v1 z (by omega), v1 (z + 1) (by omega), v2 z (by omega), v2 (z + 1) (by omega)]
        by_cases e1 : z = p
        · rw [if_pos e1, if_pos e1, if_neg (by omega), if_pos (by omega), if_neg (by omega), if_pos (by omega), show z + 1 - 1 = p by omega, ← hbh]
          exact ⟨hb2, ok.2⟩
        · rw [if_neg e1, if_neg e1]
          by_cases e2 : z + 1 = p
          · rw [if_pos e2, if_pos e2, if_neg (by omega), if_neg (by omega)]
            have q := p3 z (by omega)
            have q2 := ok.1
            rw [show p - 1 = z by omega] at q2
            exact ⟨q, q2⟩
          · rw [if_neg e2, if_neg e2]
            by_cases e3 : p < z
            · rw [if_pos e3, if_pos e3, if_pos (by omega), if_pos (by omega)]
              have := t14 (z - 1) (by omega)
              rw [show z - 1 + 1 = z by omega] at this
              rw [show z + 1 - 1 = z by omega]
              exact this
            · rw [if_neg e3, if_neg e3, if_neg (by omega), if_neg (by omega)]
              exact t14 z (by omega)
    · refine gf (by rw [nl8, vv_lt (by omega) (by omega)]; exact c8) ?_
      unfold wp_X0_hasPair wp_X0_hasPair_19
      refine v6_first t8 eS4 p2 g1' g2' ⟨vv_in (by omega) (by omega), ?_⟩
      rw [vv_clI (by omega)]
      refine gf ep ⟨Or.inl rfl, g0 ?_⟩
      refine v7_noAxis_t hn h0 c (g0 (v7_in_t d2 (g1 (gf c3 (v7_in_t (by rw [i2l_toInt, y3, y4]; exact yr) (g1 ?_))))))
      refine modelOk _ (fun f hf => ?_)
      rcases hf with ⟨_, q⟩ | ⟨rfl, _⟩
      · exact absurd q e
      exact g0 ⟨hin, gt (by rw [t6, show np = 8 by omega]; rfl) (gt rfl (hK _ _ I.next))⟩
