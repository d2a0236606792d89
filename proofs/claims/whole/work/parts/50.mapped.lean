def AxMap (S M : xS) (a : Nat) : Prop :=
  (S.1 0 a 0 = M.1 2 0 a ∧ S.1 0 a 1 = M.1 3 0 a ∧ S.1 0 a 2 = M.1 4 0 a) ∧
  (-100000 ≤ (M.1 2 0 a).toInt ∧ (M.1 2 0 a).toInt ≤ (M.1 3 0 a).toInt ∧ (M.1 3 0 a).toInt ≤ (M.1 4 0 a).toInt ∧ (M.1 4 0 a).toInt ≤ 100000 ∧ (M.1 2 0 a).toInt < (M.1 4 0 a).toInt) ∧
  S.1 0 a 4 = M.1 7 0 a ∧ ∃ np, M.1 7 0 a = nI np ∧ 3 ≤ np ∧ np ≤ 8 ∧ (∀ i, i < np → S.1 10 a i = M.1 8 0 (8 * a + i) ∧ S.1 11 a i = M.1 9 0 (8 * a + i)) ∧
  (M.1 8 0 (8 * a) = -16384 ∧ M.1 9 0 (8 * a) = -16384 ∧ M.1 8 0 (8 * a + (np - 1)) = 16384 ∧ M.1 9 0 (8 * a + (np - 1)) = 16384) ∧
  (∀ i, i + 1 < np → (M.1 8 0 (8 * a + i)).toInt < (M.1 8 0 (8 * a + (i + 1))).toInt ∧ (M.1 9 0 (8 * a + i)).toInt ≤ (M.1 9 0 (8 * a + (i + 1))).toInt)
theorem AxRel.map {S M : xS} {a : Nat} (h : AxRel S M a) : AxMap S M a := ⟨h.1, h.2.1, h.2.2.2.2⟩
theorem AxMap.fr {S M S' M' : xS} {a : Nat} (h : AxMap S M a) (h0 : S'.1 0 = S.1 0) (h10 : S'.1 10 = S.1 10) (h11 : S'.1 11 = S.1 11) (hM : ∀ k, 2 ≤ k → k ≤ 9 → k ≠ 5 → M'.1 k = M.1 k) : AxMap S' M' a := by
  unfold AxMap
  rw [h0, h10, h11, hM 2 (by omega) (by omega) (by omega), hM 3 (by omega) (by omega) (by omega), hM 4 (by omega) (by omega) (by omega), hM 7 (by omega) (by omega) (by omega), hM 8 (by omega) (by omega) (by omega), hM 9 (by omega) (by omega) (by omega)]
  exact h
theorem ex_ix {f : Nat → Int} {np : Nat} {n : Int} (h0 : f 0 ≤ n) (h1 : n < f (np - 1)) (h2 : 2 ≤ np) : ∃ i, i + 1 < np ∧ (∀ j, j ≤ i → f j ≤ n) ∧ n < f (i + 1) := by
  have key : ∀ k, k < np → (∃ i, i + 1 < np ∧ (∀ j, j ≤ i → f j ≤ n) ∧ n < f (i + 1)) ∨ ∀ j, j ≤ k → f j ≤ n := by
    intro k
    induction k with
    | zero => intro _; exact Or.inr (fun j hj => by rw [show j = 0 by omega]; exact h0)
    | succ k ih =>
      intro hk
      rcases ih (by omega) with h | h
      · exact Or.inl h
      · by_cases c : n < f (k + 1)
        · exact Or.inl ⟨k, hk, h, c⟩
        · refine Or.inr (fun j hj => ?_)
          by_cases e : j = k + 1
          · rw [e]; omega
          · exact h j (by omega)
  rcases key (np - 1) (by omega) with h | h
  · exact h
  · have := h (np - 1) (Nat.le_refl _); omega
theorem mono_le {f : Nat → Int} {np : Nat} (h : ∀ i, i + 1 < np → f i ≤ f (i + 1)) : ∀ j i, i ≤ j → j < np → f i ≤ f j := by
  intro j
  induction j with
  | zero => intro i hi _; rw [show i = 0 by omega]; omega
  | succ j ih =>
    intro i hi hj
    by_cases e : i = j + 1
    · rw [e]; omega
    · have := ih i (by omega) (by omega); have := h j hj; omega
def mpV (f t : Nat → Int32) (i : Nat) (n : Int32) : Int32 := t i + Int64.toInt32 (nearS ((Int32.toInt64 (n - f i)) * (Int32.toInt64 (t (i + 1) - t i))) (Int32.toInt64 (f (i + 1) - f i)))
theorem mpV_rng {f t : Nat → Int32} {i : Nat} {n : Int32} (h1 : (f i).toInt ≤ n.toInt) (h2 : n.toInt < (f (i + 1)).toInt) (h3 : -16384 ≤ (f i).toInt) (h4 : (f (i + 1)).toInt ≤ 16384) (h5 : (t i).toInt ≤ (t (i + 1)).toInt) (h6 : -16384 ≤ (t i).toInt) (h7 : (t (i + 1)).toInt ≤ 16384) :
    rng (mpV f t i n) (-16384) 16384 ∧ 0 < (Int32.toInt64 (f (i + 1) - f i)).toInt ∧ (Int32.toInt64 (f (i + 1) - f i)).toInt < 4611686018427387904 := by
  have e1 := i32_sub (x := n) (y := f i) (by omega) (by omega)
  have e2 := i32_sub (x := t (i + 1)) (y := t i) (by omega) (by omega)
  have e3 := i32_sub (x := f (i + 1)) (y := f i) (by omega) (by omega)
  have p1 : 0 ≤ (n.toInt - (f i).toInt) * ((t (i + 1)).toInt - (t i).toInt) := Int.mul_nonneg (by omega) (by omega)
  have p2 : (n.toInt - (f i).toInt) * ((t (i + 1)).toInt - (t i).toInt) ≤ ((f (i + 1)).toInt - (f i).toInt) * ((t (i + 1)).toInt - (t i).toInt) := Int.mul_le_mul_of_nonneg_right (by omega) (by omega)
  have p3 : ((f (i + 1)).toInt - (f i).toInt) * ((t (i + 1)).toInt - (t i).toInt) ≤ 32768 * 32768 := Int.mul_le_mul (by omega) (by omega) (by omega) (by omega)
  have e4 : ((Int32.toInt64 (n - f i)) * (Int32.toInt64 (t (i + 1) - t i))).toInt = (n.toInt - (f i).toInt) * ((t (i + 1)).toInt - (t i).toInt) := by
    rw [i64_mul, i2l_toInt, i2l_toInt, e1, e2] <;> rw [i2l_toInt, i2l_toInt, e1, e2] <;> omega
  have e5 := near_toInt (a := (Int32.toInt64 (n - f i)) * (Int32.toInt64 (t (i + 1) - t i))) (b := Int32.toInt64 (f (i + 1) - f i)) (by rw [i2l_toInt]; omega) (by rw [i2l_toInt]; omega) (by rw [e4]; omega) (by rw [e4]; omega)
  rw [e4, i2l_toInt, e3] at e5
  have e6 := nearI_rng (a := (n.toInt - (f i).toInt) * ((t (i + 1)).toInt - (t i).toInt)) (b := (f (i + 1)).toInt - (f i).toInt) (lo := 0) (hi := (t (i + 1)).toInt - (t i).toInt) (by omega) (by omega) (by rw [Int.mul_comm (_ - _) ((f (i + 1)).toInt - (f i).toInt)]; omega)
  refine ⟨?_, by rw [i2l_toInt]; omega, by rw [i2l_toInt]; omega⟩
  unfold rng mpV
  have e7 := l2i_toInt (x := nearS ((Int32.toInt64 (n - f i)) * (Int32.toInt64 (t (i + 1) - t i))) (Int32.toInt64 (f (i + 1) - f i))) (by omega) (by omega)
  rw [i32_add (by omega) (by omega)]
  omega
theorem mapped_both {S M : xS} {a : Nat} (A : AxMap S M a) (ha : a < 4) {n : Int32} (hn : rng n (-16384) 16384) : ∃ r, rng r (-16384) 16384 ∧ (∀ Q : Int32 → xS → Prop, Q r S → wp_X0_mapped a n S Q) ∧ (∀ Q : Int32 → xS → Prop, Q r M → wp_X7_mapped (nI a) n M Q) := by
  obtain ⟨-, -, a4, np, a5, a6, a7, a8, ⟨a9, a10, a11, a12⟩, a13⟩ := A
  have z0 : (-16384 : Int32).toInt = -16384 := rfl
  have z1 : (16384 : Int32).toInt = 16384 := rfl
  have mf := mono_le (f := fun i => (M.1 8 0 (8 * a + i)).toInt) (np := np) (fun i hi => by have := (a13 i hi).1; show _ ≤ _; omega)
  have mt := mono_le (f := fun i => (M.1 9 0 (8 * a + i)).toInt) (np := np) (fun i hi => (a13 i hi).2)
  have bf : ∀ i, i < np → -16384 ≤ (M.1 8 0 (8 * a + i)).toInt ∧ (M.1 8 0 (8 * a + i)).toInt ≤ 16384 := by
    intro i hi
    have h1 := mf i 0 (by omega) hi
    have h2 := mf (np - 1) i (by omega) (by omega)
    simp only [Nat.add_zero] at h1
    rw [a9, z0] at h1
    rw [a11, z1] at h2
    exact ⟨h1, h2⟩
  have bt : ∀ i, i < np → -16384 ≤ (M.1 9 0 (8 * a + i)).toInt ∧ (M.1 9 0 (8 * a + i)).toInt ≤ 16384 := by
    intro i hi
    have h1 := mt i 0 (by omega) hi
    have h2 := mt (np - 1) i (by omega) (by omega)
    simp only [Nat.add_zero] at h1
    rw [a10, z0] at h1
    rw [a12, z1] at h2
    exact ⟨h1, h2⟩
  by_cases c : n = 16384
  · refine ⟨16384, by unfold rng; decide, fun Q k => ?_, fun Q k => by unfold wp_X7_mapped; exact gt c k⟩
    subst c
    unfold wp_X0_mapped
    refine wl1 (wp_X0_mapped_2 a 16384 Q) (fun K => wp_X0_mapped_2_b a 16384 K Q) (fun _ _ _ => rfl) (fun S' v => S' = S ∧ ∃ j, j + 1 ≤ np ∧ v = nI j) (fun _ v => 8 - v.toNatClampNeg) ⟨rfl, 0, by omega, rfl⟩ ?_
    rintro S' v K ⟨rfl, j, hj, rfl⟩ hK
    unfold wp_X0_mapped_2_b wp_X0_mapped_90
    rw [a4, a5, nI_1]
    by_cases c2 : j + 1 = np
    · exact gt (by rw [c2, vv_le (by omega) (by omega)]; omega) k
    · refine gf (by rw [vv_le (by omega) (by omega)]; omega) ⟨vv_in (by omega) (by omega), ?_⟩
      rw [vv_clI (k := j) (by omega), vv_clI (k := j + 1) (by omega), (a8 j (by omega)).1, (a8 (j + 1) (by omega)).1]
      have kk : K S' (nI (j + 1)) := hK _ _ ⟨rfl, j + 1, by omega, rfl⟩ (by rw [vv_clI (by omega), vv_clI (by omega)]; omega)
      by_cases c3 : (16384 : Int32) < M.1 8 0 (8 * a + j)
      · exact gt c3 kk
      · refine gf c3 ⟨vv_in (by omega) (by omega), gt ?_ kk⟩
        rw [i32_le, z1]
        exact (bf (j + 1) (by omega)).2
  · have cn : n.toInt < 16384 := by
      have := hn.2
      have h2 : n.toInt ≠ 16384 := fun e => c (Int32.toInt_inj.mp (e.trans z1.symm))
      omega
    obtain ⟨i, hi, h1, h2⟩ := ex_ix (f := fun i => (M.1 8 0 (8 * a + i)).toInt) (np := np) (n := n.toInt) (by simp only [Nat.add_zero]; rw [a9, z0]; exact hn.1) (by show _ < (M.1 8 0 (8 * a + (np - 1))).toInt; rw [a11, z1]; exact cn) (by omega)
    have h2 : n.toInt < (M.1 8 0 (8 * a + (i + 1))).toInt := h2
    have R := mpV_rng (f := fun i => M.1 8 0 (8 * a + i)) (t := fun i => M.1 9 0 (8 * a + i)) (i := i) (n := n) (h1 i (Nat.le_refl _)) h2 (bf i (by omega)).1 (bf (i + 1) (by omega)).2 (a13 i hi).2 (bt i (by omega)).1 (bt (i + 1) (by omega)).2
    refine ⟨mpV (fun i => M.1 8 0 (8 * a + i)) (fun i => M.1 9 0 (8 * a + i)) i n, R.1, fun Q k => ?_, fun Q k => ?_⟩
    · unfold wp_X0_mapped
      refine wl1 (wp_X0_mapped_2 a n Q) (fun K => wp_X0_mapped_2_b a n K Q) (fun _ _ _ => rfl) (fun S' v => S' = S ∧ ∃ j, j ≤ i ∧ v = nI j) (fun _ v => 8 - v.toNatClampNeg) ⟨rfl, 0, by omega, rfl⟩ ?_
      rintro S' v K ⟨rfl, j, hj, rfl⟩ hK
      unfold wp_X0_mapped_2_b wp_X0_mapped_90
      rw [a4, a5, nI_1]
      refine gf (by rw [vv_le (by omega) (by omega)]; omega) ⟨vv_in (by omega) (by omega), ?_⟩
      rw [vv_clI (k := j) (by omega), vv_clI (k := j + 1) (by omega), (a8 j (by omega)).1, (a8 (j + 1) (by omega)).1, (a8 j (by omega)).2, (a8 (j + 1) (by omega)).2]
      have q1 : (M.1 8 0 (8 * a + j)).toInt ≤ n.toInt := h1 j hj
      refine gf (by rw [i32_lt]; omega) ⟨vv_in (by omega) (by omega), ?_⟩
      by_cases c3 : j = i
      · subst c3
        refine gf (by rw [i32_le]; omega) ⟨vv_in (by omega) (by omega), vv_in (by omega) (by omega), vv_in (by omega) (by omega), vv_in (by omega) (by omega), vv_in (by omega) (by omega), vv_in (by omega) (by omega), ?_⟩
        exact v6_rq R.2.1 R.2.2 k
      · have q2 : (M.1 8 0 (8 * a + (j + 1))).toInt ≤ n.toInt := h1 (j + 1) (by omega)
        exact gt (by rw [i32_le]; omega) (hK _ _ ⟨rfl, j + 1, by omega, rfl⟩ (by rw [vv_clI (by omega), vv_clI (by omega)]; omega))
    · unfold wp_X7_mapped
      refine gf c ?_
      rw [nl8, vv_mul]
      refine wl1 (wp_X7_mapped_16 n Q) (fun K => wp_X7_mapped_16_b n K Q) (fun _ _ _ => rfl) (fun S' v => S' = M ∧ ∃ j, j ≤ i ∧ v = nI (8 * a + j)) (fun _ v => 40 - v.toNatClampNeg) ⟨rfl, 0, by omega, rfl⟩ ?_
      rintro S' v K ⟨rfl, j, hj, rfl⟩ hK
      unfold wp_X7_mapped_16_b
      rw [nI_1]
      refine ⟨vv_in (by omega) (by omega), ?_⟩
      rw [vv_clI (k := 8 * a + j) (by omega), vv_clI (k := 8 * a + j + 1) (by omega), Nat.add_assoc]
      by_cases c3 : j = i
      · subst c3
        refine gt (by rw [i32_lt]; omega) ⟨vv_in (by omega) (by omega), vv_in (by omega) (by omega), vv_in (by omega) (by omega), vv_in (by omega) (by omega), vv_in (by omega) (by omega), vv_in (by omega) (by omega), ?_⟩
        exact v7_near (near_ne R.2.1 R.2.2) k
      · have q2 : (S'.1 8 0 (8 * a + (j + 1))).toInt ≤ n.toInt := h1 (j + 1) (by omega)
        exact gf (by rw [i32_lt]; omega) (hK _ _ ⟨rfl, j + 1, by omega, rfl⟩ (by rw [vv_clI (by omega), vv_clI (by omega)]; omega))
theorem coord_both {S M : xS} {a : Nat} (A : AxMap S M a) (ha : a < 4) (v : Int32) : ∃ r, rng r (-16384) 16384 ∧ (∀ Q : Int32 → xS → Prop, Q r S → wp_X0_coordinateFor a v S Q) ∧ (∀ Q : Int32 → xS → Prop, Q r M → wp_X7_normal (nI a) v M (fun r4 S3 => wp_X7_mapped (nI a) r4 S3 Q)) := by
  obtain ⟨⟨b1, b2, b3⟩, ⟨b4, b5, b6, b7, b8⟩, -⟩ := id A
  have hr := cl_rng (v := v) (show (M.1 2 0 a).toInt ≤ (M.1 4 0 a).toInt by omega)
  obtain ⟨r, h1, h2, h3⟩ := mapped_both A ha (n := nmW (M.1 2 0 a) (M.1 3 0 a) (M.1 4 0 a) (clS (M.1 2 0 a) (M.1 4 0 a) v)) (nm_rng b4 b5 b6 b7 hr.1 hr.2)
  exact ⟨r, h1, fun Q k => v6_norm b1 b2 b3 b4 b5 b6 b7 (h2 Q k), fun Q k => v7_normal ha rfl rfl rfl b4 b5 b6 b7 (h3 Q k)⟩
theorem op_normalize {n : Nat} {S M : xS} {K : xS → xS → Prop} (I : Inv n S M) (a b : Int32) (hK : ∀ S' M', Inv (n + 1) S' M' → K S' M') :
    wp_X6_normalize a b S (fun r1 S1 => wp_X7_normalize a b M (fun r2 M1 => if r1 = r2 then K S1 M1 else False)) := by
  obtain ⟨⟨hn, h0, h1⟩, hax, hz, hzz⟩ := I.1
  have hS1 := h1.trans h0
  unfold wp_X6_normalize wp_X7_normalize wp_X6_normalize_23 wp_X7_normalize_24
  by_cases c : 0 ≤ a.toInt ∧ a.toInt < cntM M 0
  · refine v6_hasAxis_t hn hS1 c (g1 ?_)
    obtain ⟨i, rfl, ei, hi⟩ := vv_nat c.1
    obtain ⟨r, q1, q2, q3⟩ := coord_both (hax i (by omega)).map (by omega) b
    refine ⟨vv_in (by omega) (by omega), ?_⟩
    rw [vv_clI (by omega)]
    exact q2 _ (v7_noAxis_t hn h0 c (g0 (q3 _ (gt rfl (hK _ _ I.next)))))
  · refine v6_hasAxis_f hn hS1 c (g0 ?_)
    exact v7_noAxis_f hn h0 c (g1 (ge (hK _ _ I.next)))
theorem Inv.coord {n : Nat} {S M : xS} (I : Inv n S M) {i : Nat} {r : Int32} (hi : i < cntM M 0) (hr : rng r (-16384) 16384) : Inv (n + 1) (xI S 30 0 i r) (xI M 5 0 i r) := by
  obtain ⟨⟨hn, h0, h1⟩, hax, hz, hzz⟩ := I.1
  refine I.ax ⟨⟨hn, h0, h1⟩, fun j hj => ?_, fun j hj hj4 => ?_, fun j hj => ?_⟩ (fun k _ _ _ _ h => xI_k h) (fun j _ => by rw [xI_1, if_neg (by omega)]) rfl (fun k hk => xI_k (by omega)) (fun j hj => by rw [xI_1, if_neg (by omega)]) (Nat.le_refl _)
  · obtain ⟨b1, b2, b3, b4, b5⟩ := hax j hj
    unfold AxRel
    simp only [xI_1]
    by_cases hji : j = i
    · subst hji
      simp
      exact ⟨b1, b2, b3, hr, b5⟩
    · simp [hji]
      exact ⟨b1, b2, b3, b4, b5⟩
  · have hj : cntM M 0 ≤ j := hj
    rw [xI_1, if_neg (by omega), xI_k (by omega), xI_k (by omega)]; exact hz j hj hj4
  · rw [xI_1, if_neg (by omega)]; exact hzz j hj
theorem op_setUser {n : Nat} {S M : xS} {K : xS → xS → Prop} (I : Inv n S M) (a b : Int32) (hK : ∀ S' M', Inv (n + 1) S' M' → K S' M') :
    wp_X6_setUser a b S (fun r1 S1 => wp_X7_setUser a b M (fun r2 M1 => if r1 = r2 then K S1 M1 else False)) := by
  obtain ⟨⟨hn, h0, h1⟩, hax, hz, hzz⟩ := I.1
  have hS1 := h1.trans h0
  unfold wp_X6_setUser wp_X7_setUser
  by_cases c : 0 ≤ a.toInt ∧ a.toInt < cntM M 0
  · refine v6_hasAxis_t hn hS1 c (g1 ?_)
    obtain ⟨i, rfl, ei, hi⟩ := vv_nat c.1
    have hia : i < cntM M 0 := by omega
    have A := hax i hia
    obtain ⟨r, q1, q2, q3⟩ := coord_both A.map (by omega) b
    have hin := vv_in (k := i) (N := 4) (by omega) (by omega)
    refine ⟨hin, ?_⟩
    rw [vv_clI (k := i) (by omega)]
    by_cases c4 : M.1 6 0 i = 0
    · refine gt (A.2.2.1.1.trans c4) ⟨hin, q2 _ ⟨hin, hin, ?_⟩⟩
      refine v7_noAxis_t hn h0 c (g0 ⟨hin, gt c4 (q3 _ ⟨hin, hin, ?_⟩)⟩)
      rw [xI_1, if_pos (by omega), xI_1, if_pos (by omega)]
      exact gt rfl (hK _ _ (I.coord hia q1))
    · refine gf (by rw [A.2.2.1.1]; exact c4) ?_
      exact v7_noAxis_t hn h0 c (g0 ⟨hin, gf c4 (gt rfl (hK _ _ I.next))⟩)
  · refine v6_hasAxis_f hn hS1 c (g0 ?_)
    exact v7_noAxis_f hn h0 c (g1 (ge (hK _ _ I.next)))
