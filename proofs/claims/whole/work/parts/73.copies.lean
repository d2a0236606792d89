theorem c5_k {S : xS} {a b k : Nat} (h : ¬ (k = 5 ∨ 24 ≤ k ∧ k ≤ 28)) : (c5S S a b).1 k = S.1 k := by
  unfold c5S
  rw [cpC_k (by omega), cpC_k (by omega), cpI_k (by omega), cpC_k (by omega), cpC_k (by omega), cpC_k (by omega)]
theorem c5_z {S : xS} {a b k z : Nat} (h : z ≠ a) : (c5S S a b).1 k z = S.1 k z := by
  unfold c5S
  rw [cpC_z h, cpC_z h, cpI_z h, cpC_z h, cpC_z h, cpC_z h]
theorem c5_2 {S : xS} {a b : Nat} : (c5S S a b).2 = S.2 := rfl
theorem c5_24 {S : xS} {a b j : Nat} (hj : j < 4) : (c5S S a b).1 24 a j = S.1 24 b j := by
  unfold c5S
  rw [cpC_k (by omega), cpC_k (by omega), cpI_k (by omega), cpC_k (by omega), cpC_k (by omega), cpC_v nl4 (by omega) hj]
theorem c5_25 {S : xS} {a b j : Nat} (hj : j < 4) : (c5S S a b).1 25 a j = S.1 25 b j := by
  unfold c5S
  rw [cpC_k (by omega), cpC_k (by omega), cpI_k (by omega), cpC_k (by omega), cpC_v nl4 (by omega) hj, cpC_k (by omega)]
theorem c5_26 {S : xS} {a b j : Nat} (hj : j < 4) : (c5S S a b).1 26 a j = S.1 26 b j := by
  unfold c5S
  rw [cpC_k (by omega), cpC_k (by omega), cpI_k (by omega), cpC_v nl4 (by omega) hj, cpC_k (by omega), cpC_k (by omega)]
theorem c5_5 {S : xS} {a b : Nat} : (c5S S a b).1 5 a 3 = S.1 5 b 3 := by
  unfold c5S
  rw [cpC_k (by omega), cpC_k (by omega), cpI_v, cpC_k (by omega), cpC_k (by omega), cpC_k (by omega)]
theorem c5_27 {S : xS} {a b j : Nat} (hj : j < 25) : (c5S S a b).1 27 a j = S.1 27 b j := by
  unfold c5S
  rw [cpC_k (by omega), cpC_v nl25 (by omega) hj, cpI_k (by omega), cpC_k (by omega), cpC_k (by omega), cpC_k (by omega)]
theorem c5_28 {S : xS} {a b j : Nat} (hj : j < 25) : (c5S S a b).1 28 a j = S.1 28 b j := by
  unfold c5S
  rw [cpC_v nl25 (by omega) hj, cpC_k (by omega), cpI_k (by omega), cpC_k (by omega), cpC_k (by omega), cpC_k (by omega)]
theorem TupRel.cp {S S' : xS} {T U t : Nat} {r : Nat → Int32} (h : TupRel S U r t) (h24 : ∀ j, j < 4 → S'.1 24 T j = S.1 24 U j ∧ S'.1 25 T j = S.1 25 U j ∧ S'.1 26 T j = S.1 26 U j) (h5 : S'.1 5 T 3 = S.1 5 U 3) (h27 : ∀ j, j < 25 → S'.1 27 T j = S.1 27 U j ∧ S'.1 28 T j = S.1 28 U j) : TupRel S' T r t := by
  obtain ⟨h1, ⟨m, h2, h3, h4⟩, h6⟩ := h
  refine ⟨fun a ha => ?_, ⟨m, by rw [h5]; exact h2, h3, h4⟩, fun pl hp hq => ?_⟩
  · rw [(h24 a ha).1, (h24 a ha).2.1, (h24 a ha).2.2]; exact h1 a ha
  · rw [(h27 pl hp).1, (h27 pl hp).2]; exact h6 pl hp hq
theorem c1_k {S : xS} {a b k : Nat} (h : ¬ (k = 1 ∨ 12 ≤ k ∧ k ≤ 15)) : (c1S S a b).1 k = S.1 k := by
  unfold c1S
  rw [cpI_k (by omega), cpC_k (by omega), cpC_k (by omega), cpC_k (by omega), cpC_k (by omega), cpI_k (by omega), cpI_k (by omega)]
theorem c1_z {S : xS} {a b k z : Nat} (h : z ≠ a) : (c1S S a b).1 k z = S.1 k z := by
  unfold c1S
  rw [cpI_z h, cpC_z h, cpC_z h, cpC_z h, cpC_z h, cpI_z h, cpI_z h]
theorem c1_1 {S : xS} {a b j : Nat} (hab : b ≠ a) (hj : j = 0 ∨ j = 1 ∨ j = 6) : (c1S S a b).1 1 a j = S.1 1 b j := by
  unfold c1S
  have base : ∀ j, (cpC (cpC (cpC (cpC (cpI (cpI S 1 a b 0) 1 a b 1) 12 a b 25) 13 a b 25) 14 a b 25) 15 a b 5).1 1 a j = (cpI (cpI S 1 a b 0) 1 a b 1).1 1 a j := fun j => by rw [cpC_k (by omega), cpC_k (by omega), cpC_k (by omega), cpC_k (by omega)]
  rcases hj with rfl | rfl | rfl
  · rw [cpI_n (by omega), base, cpI_n (by omega), cpI_v]
  · rw [cpI_n (by omega), base, cpI_v, cpI_z hab]
  · rw [cpI_v, cpC_k (by omega), cpC_k (by omega), cpC_k (by omega), cpC_k (by omega), cpI_z hab, cpI_z hab]
theorem c1_12 {S : xS} {a b j : Nat} (hj : j < 25) : (c1S S a b).1 12 a j = S.1 12 b j ∧ (c1S S a b).1 13 a j = S.1 13 b j ∧ (c1S S a b).1 14 a j = S.1 14 b j := by
  unfold c1S
  refine ⟨?_, ?_, ?_⟩
  · rw [cpI_k (by omega), cpC_k (by omega), cpC_k (by omega), cpC_k (by omega), cpC_v nl25 (by omega) hj, cpI_k (by omega), cpI_k (by omega)]
  · rw [cpI_k (by omega), cpC_k (by omega), cpC_k (by omega), cpC_v nl25 (by omega) hj, cpC_k (by omega), cpI_k (by omega), cpI_k (by omega)]
  · rw [cpI_k (by omega), cpC_k (by omega), cpC_v nl25 (by omega) hj, cpC_k (by omega), cpC_k (by omega), cpI_k (by omega), cpI_k (by omega)]
theorem c1_15 {S : xS} {a b j : Nat} (hj : j < 5) : (c1S S a b).1 15 a j = S.1 15 b j := by
  unfold c1S
  rw [cpI_k (by omega), cpC_v nl5 (by omega) hj, cpC_k (by omega), cpC_k (by omega), cpC_k (by omega), cpI_k (by omega), cpI_k (by omega)]
theorem w1_copy {a b na gi : Nat} {S : xS} {r : Nat → Int32} {Q : xS → Prop} (ha : a < 12) (hb : b < 12) (hab : b ≠ a) (hG : GlRel S b r) (hR : RowOk na gi r) (pa : PermG S a) (pb : PermG S b)
    (k : ∀ S', GFr S S' a → S'.2 = S.2 → GlRel S' a r → Q S') : wp_X1_copyFrom a b S Q := by
  have hN := hR.2.1.1
  have hT5 := hR.2.2.2.1.1
  obtain ⟨e1, e2, e3, e4, e5, e6, e7, e8, e9⟩ := hG
  refine w1_copy0 (by rw [e1]; exact hR.1) ?_
  have eT : (c1S S a b).1 1 a 6 = nI (rT r) := by rw [c1_1 hab (by omega), e3]; exact hR.2.2.2.1.2
  refine wl1 (wp_X1_copyFrom_85 a b Q) (fun K => wp_X1_copyFrom_85_b a b K Q) (fun _ _ _ => rfl)
    (fun S' v => ∃ j, j ≤ rT r ∧ v = nI j ∧ (∀ k, ¬ (k = 5 ∨ 24 ≤ k ∧ k ≤ 28) → S'.1 k = (c1S S a b).1 k) ∧ S'.2 = S.2 ∧ (∀ k z, z < 5 * a ∨ 5 * a + 5 ≤ z → S'.1 k z = (c1S S a b).1 k z) ∧ (∀ i, i < j → TupRel S' (S.2.2 16 a i) r i))
    (fun _ v => 10 - v.toNatClampNeg) ⟨0, by omega, rfl, fun _ _ => rfl, rfl, fun _ _ _ => rfl, fun i h => by omega⟩ ?_
  rintro S' v K ⟨j, hj, rfl, h1, h2, h3, h4⟩ hK
  unfold wp_X1_copyFrom_85_b
  rw [h1 1 (by omega), eT, h2]
  by_cases c : j = rT r
  · subst c
    refine gt (by rw [vv_le (by omega) (by omega)]; omega) (k S' ⟨fun k hk => ?_, fun k z hk hz => ?_, fun k z hk hz => ?_, by rw [h2], fun _ _ => by rw [h2], fun _ _ => by rw [h2]⟩ h2 ⟨?_, ?_, ?_, ?_, ?_, fun p hp => ?_, fun hz p hp => ?_, fun hz p hp => ?_, fun t ht => ?_⟩)
    · unfold kG at hk
      rw [h1 k (by omega), c1_k (by omega)]
    · rw [h1 k (by omega), c1_z hz]
    · rw [h3 k z hz, c1_k (by omega)]
    · rw [h1 1 (by omega), c1_1 hab (by omega)]; exact e1
    · rw [h1 1 (by omega), c1_1 hab (by omega)]; exact e2
    · rw [h1 1 (by omega), c1_1 hab (by omega)]; exact e3
    · rw [h1 12 (by omega), (c1_12 (by omega)).1]; exact e4
    · rw [h1 13 (by omega), (c1_12 (by omega)).2.1]; exact e5
    · rw [h1 12 (by omega), h1 13 (by omega), (c1_12 (by omega)).1, (c1_12 (by omega)).2.1]; exact e6 p hp
    · rw [h1 14 (by omega), (c1_12 (by omega)).2.2]; exact e7 hz p hp
    · have := hR.2.2.1 hz
      rw [h1 15 (by omega), c1_15 (by omega)]; exact e8 hz p hp
    · rw [h2]; exact h4 t ht
  · have i1 := pa.1 j (by omega)
    have i2 := pb.1 j (by omega)
    refine gf (by rw [vv_le (by omega) (by omega)]; omega) ⟨⟨vv_in (by omega) (by omega), by rw [vv_clI (by omega)]; omega⟩, ⟨vv_in (by omega) (by omega), by rw [vv_clI (by omega)]; omega⟩, w5_copy ?_⟩
    rw [vv_clI (by omega), nI_1]
    have hne : S.2.2 16 b j ≠ S.2.2 16 a j := by omega
    refine hK _ _ ⟨j + 1, by omega, rfl, fun k hk => by rw [c5_k hk]; exact h1 k hk, by rw [c5_2]; exact h2, fun k z hz => by rw [c5_z (by omega)]; exact h3 k z hz, fun i hi => ?_⟩ (by rw [vv_clI (by omega), vv_clI (by omega)]; omega)
    by_cases ei : i = j
    · subst ei
      have src : ∀ k, k = 5 ∨ 24 ≤ k ∧ k ≤ 28 → S'.1 k (S.2.2 16 b i) = S.1 k (S.2.2 16 b i) := fun k hk => by rw [h3 k _ (by omega), c1_k (by omega)]
      refine (e9 i (by omega)).cp (fun j hj => ?_) ?_ (fun j hj => ?_)
      · rw [c5_24 hj, c5_25 hj, c5_26 hj, src 24 (by omega), src 25 (by omega), src 26 (by omega)]; exact ⟨rfl, rfl, rfl⟩
      · rw [c5_5, src 5 (by omega)]
      · rw [c5_27 hj, c5_28 hj, src 27 (by omega), src 28 (by omega)]; exact ⟨rfl, rfl⟩
    · have hd : S.2.2 16 a i ≠ S.2.2 16 a j := fun q => ei (pa.2 i j (by omega) (by omega) q)
      exact (h4 i (by omega)).fr2 (fun k _ => c5_z hd) (fun _ _ _ => rfl)
