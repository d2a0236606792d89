def kG (k : Nat) : Prop := k = 1 ∨ k = 5 ∨ 12 ≤ k ∧ k ≤ 15 ∨ 24 ≤ k ∧ k ≤ 28
theorem tIds {S : xS} (h : PermOk S) {G : Nat} (hG : G < 12) {t : Nat} (ht : t < 5) : 5 * G ≤ S.2.2 16 G t ∧ S.2.2 16 G t < 5 * G + 5 := h.1 G hG t ht
theorem InvG.fr {P P' : Int} {S M S' M' : xS} (h : InvG P S M) (hP : P ≤ P') (hS : ∀ k, kG k → S'.1 k = S.1 k) (h6 : S'.1 6 0 6 = S.1 6 0 6) (h16 : S'.2.2 16 = S.2.2 16) (h18 : S'.2.2 18 = S.2.2 18)
    (hM : M'.1 11 = M.1 11) (hM9 : M'.1 0 0 9 = M.1 0 0 9) (hna : cntM M 0 ≤ cntM M' 0) : InvG P' S' M' := by
  obtain ⟨⟨h1, h2, h3⟩, h4, h5, h7⟩ := h
  have e9 : cntM M' 9 = cntM M 9 := by unfold cntM; rw [hM9]
  have er : ∀ g, mrow M' g = mrow M g := fun g => by unfold mrow; rw [hM]
  refine ⟨⟨by rw [e9]; exact h1, by rw [hM9, e9]; exact h2, by rw [h6, hM9]; exact h3⟩, h4.fr h16 h18, fun g hg => ?_, fun g hg hg6 => ?_⟩
  · rw [e9] at hg
    rw [er]
    obtain ⟨a1, a2, a3⟩ := h5 g hg
    refine ⟨a1.fr a2.2.1.1 a2.2.2.2.1.1 (fun k hk => by rw [hS k (by unfold kG; omega)]) (fun t _ => by rw [h16]) (fun t _ k hk => by rw [hS k (by unfold kG; omega)]) (fun _ _ => rfl), a2.fr hna (fun _ _ => rfl), a3.fr hP a2.2.1.1 a2.2.2.2.1.1 (fun _ _ => rfl)⟩
  · rw [e9] at hg
    rw [er, hS 1 (by unfold kG; omega), hS 13 (by unfold kG; omega)]
    exact h7 g hg hg6
theorem InvH.fr {P P' : Int} {S M S' M' : xS} (h : InvH P S M) (hp : PermOk S) (hP : P ≤ P') (hS : ∀ k, kG k → S'.1 k = S.1 k) (h2 : S'.1 2 = S.1 2) (h17 : S'.1 17 = S.1 17) (h16 : S'.2.2 16 = S.2.2 16) (h18 : S'.2.2 18 = S.2.2 18)
    (hM : M'.1 26 = M.1 26) (hM25 : M'.1 25 = M.1 25) (hM23 : M'.1 0 0 23 = M.1 0 0 23) (hna : cntM M 0 ≤ cntM M' 0) (hng : cntM M 9 ≤ cntM M' 9) : InvH P' S' M' := by
  obtain ⟨⟨a1, a2, a3⟩, a4⟩ := h
  have e : cntM M' 23 = cntM M 23 := by unfold cntM; rw [hM23]
  have er : ∀ k, krow M' k = krow M k := fun g => by unfold krow; rw [hM]
  refine ⟨⟨by rw [e]; exact a1, by rw [hM23, e]; exact a2, by rw [h2, hM23]; exact a3⟩, fun k hk => ?_⟩
  rw [e] at hk
  obtain ⟨g, b1, b2, b3, b4, b5, b6⟩ := a4 k hk
  rw [er, hM25, h17, h18]
  exact ⟨g, b1, b2, by omega, b4.fr b5.2.1.1 b5.2.2.2.1.1 (fun k hk => by rw [hS k (by unfold kG; omega)]) (fun t _ => by rw [h16]) (fun t _ k hk => by rw [hS k (by unfold kG; omega)]) (fun _ _ => rfl), b5.fr hna (fun _ _ => rfl), b6.fr hP b5.2.1.1 b5.2.2.2.1.1 (fun _ _ => rfl)⟩
theorem InvI.fr {S M S' M' : xS} (h : InvI S M) (h6 : S'.1 6 0 11 = S.1 6 0 11) (h33 : S'.1 33 = S.1 33) (h34 : M'.1 34 = M.1 34) (h0 : M'.1 0 0 32 = M.1 0 0 32) : InvI S' M' := by
  obtain ⟨⟨a1, a2, a3⟩, a4⟩ := h
  have e : cntM M' 32 = cntM M 32 := by unfold cntM; rw [h0]
  exact ⟨⟨by rw [e]; exact a1, by rw [h0, e]; exact a2, by rw [h6, h0]; exact a3⟩, by rw [e, h33, h34]; exact a4⟩
theorem InvT.fr {S M S' M' : xS} (h : InvT S M) (h3 : S'.1 3 0 0 = S.1 3 0 0) (h19 : S'.1 19 = S.1 19) (h36 : M'.1 36 = M.1 36) (h0 : M'.1 0 0 34 = M.1 0 0 34) : InvT S' M' := by
  obtain ⟨⟨a1, a2, a3⟩, a4⟩ := h
  have e : cntM M' 34 = cntM M 34 := by unfold cntM; rw [h0]
  exact ⟨⟨by rw [e]; exact a1, by rw [h0, e]; exact a2, by rw [h3, h0]; exact a3⟩, by rw [e, h19, h36]; exact a4⟩
theorem ptsOf_fr {M M' : xS} (h : M'.1 11 = M.1 11) : ∀ f g, ptsOf M' f g = ptsOf M f g
  | 0, _ => rfl
  | f + 1, g => by
    have er : mrow M' g = mrow M g := by unfold mrow; rw [h]
    have ih : (fun c => ptsOf M' f (mrow M g (52 + c)).toNatClampNeg) = (fun c => ptsOf M f (mrow M g (52 + c)).toNatClampNeg) := funext fun c => ptsOf_fr h f _
    show (if mrow M' g 0 = 1 then ((List.range (rN (mrow M' g))).map (fun c => ptsOf M' f (mrow M' g (52 + c)).toNatClampNeg)).sum else rN (mrow M' g)) = _
    rw [er, ih]
    rfl
theorem InvF.fr {M M' : xS} (h : InvF M) (hM : M'.1 11 = M.1 11) (hM26 : M'.1 26 = M.1 26) (hM25 : M'.1 25 = M.1 25) (hM9 : M'.1 0 0 9 = M.1 0 0 9) (hM23 : M'.1 0 0 23 = M.1 0 0 23) : InvF M' := by
  obtain ⟨h1, h2, h3⟩ := h
  have e9 : cntM M' 9 = cntM M 9 := by unfold cntM; rw [hM9]
  have e23 : cntM M' 23 = cntM M 23 := by unfold cntM; rw [hM23]
  have er : ∀ g, mrow M' g = mrow M g := fun g => by unfold mrow; rw [hM]
  have ek : ∀ g, krow M' g = krow M g := fun g => by unfold krow; rw [hM26]
  refine ⟨fun g hg => ?_, fun k g hk hg hg9 => ?_, fun k k' hk hk' hq => ?_⟩
  · rw [e9] at hg
    rw [ptsOf_fr hM]
    exact h1 g hg
  · rw [e23] at hk
    rw [hM25] at hg
    rw [er, ek]
    exact h2 k g hk hg (by rw [e9] at hg9; exact hg9)
  · rw [e23] at hk'
    rw [hM25] at hq
    rw [ek, ek]
    exact h3 k k' hk hk' hq
theorem PN_le (n : Nat) : PN n ≤ PN (n + 1) := by unfold PN; omega
/- what changes axes alone -/
theorem Inv.ax {n : Nat} {S M S' M' : xS} (h : Inv n S M) (hA : InvA S' M') (hS : ∀ k, k ≠ 0 → k ≠ 6 → k ≠ 10 → k ≠ 11 → k ≠ 30 → S'.1 k = S.1 k) (h6 : ∀ j, j ≠ 1 → S'.1 6 0 j = S.1 6 0 j) (hS2 : S'.2.2 = S.2.2)
    (hM : ∀ k, k = 11 ∨ k = 25 ∨ k = 26 ∨ k = 34 ∨ k = 36 → M'.1 k = M.1 k) (hM0 : ∀ j, j = 9 ∨ j = 23 ∨ j = 32 ∨ j = 34 → M'.1 0 0 j = M.1 0 0 j) (hna : cntM M 0 ≤ cntM M' 0) : Inv (n + 1) S' M' := by
  obtain ⟨a1, a2, a3, a4, a5, a6⟩ := h
  have hk : ∀ k, kG k → S'.1 k = S.1 k := fun k hk => by unfold kG at hk; exact hS k (by omega) (by omega) (by omega) (by omega) (by omega)
  refine ⟨hA, a2.fr (PN_le n) hk (h6 6 (by omega)) (by rw [hS2]) (by rw [hS2]) (hM 11 (by omega)) (hM0 9 (by omega)) hna, a3.fr a2.2.1 (PN_le n) hk (hS 2 (by omega) (by omega) (by omega) (by omega) (by omega)) (hS 17 (by omega) (by omega) (by omega) (by omega) (by omega)) (by rw [hS2]) (by rw [hS2]) (hM 26 (by omega)) (hM 25 (by omega)) (hM0 23 (by omega)) hna (Nat.le_of_eq (by unfold cntM; rw [hM0 9 (by omega)])),
    a4.fr (h6 11 (by omega)) (hS 33 (by omega) (by omega) (by omega) (by omega) (by omega)) (hM 34 (by omega)) (hM0 32 (by omega)), a5.fr (by rw [hS 3 (by omega) (by omega) (by omega) (by omega) (by omega)]) (hS 19 (by omega) (by omega) (by omega) (by omega) (by omega)) (hM 36 (by omega)) (hM0 34 (by omega)), a6.fr (hM 11 (by omega)) (hM 26 (by omega)) (hM 25 (by omega)) (hM0 9 (by omega)) (hM0 23 (by omega))⟩
theorem Inv.next {n : Nat} {S M : xS} (h : Inv n S M) : Inv (n + 1) S M := h.ax h.1 (fun _ _ _ _ _ _ => rfl) (fun _ _ => rfl) rfl (fun _ _ => rfl) (fun _ _ => rfl) (Nat.le_refl _)
theorem nI_toInt' {n : Nat} (h : n < 2147483648) : (nI n).toInt = (n : Int) := nI_toInt (by omega)
theorem i2l_toInt (x : Int32) : (Int32.toInt64 x).toInt = x.toInt := Int32.toInt_toInt64 x
theorem vv_clamp {x : Int32} {a : Nat} (h : x.toInt = (a : Int)) : x.toNatClampNeg = a := by show x.toInt.toNat = a; omega
theorem v6_hasAxis {na : Nat} {a : Int32} {S : xS} {Q : Int32 → xS → Prop} (hn : na ≤ 4) (h1 : S.1 6 0 1 = nI na) (k : Q (b2 (decide (0 ≤ a.toInt ∧ a.toInt < na))) S) : wp_X6_hasAxis a S Q := by
  have e0 : (0 : Int32).toInt = 0 := rfl
  have en := nI_toInt' (n := na) (by omega)
  unfold wp_X6_hasAxis
  rw [h1]
  by_cases c1 : a < 0
  · rw [if_pos c1]
    rw [i32_lt, e0] at c1
    rw [show decide (0 ≤ a.toInt ∧ a.toInt < na) = false by simp; omega] at k
    exact ⟨Or.inl rfl, k⟩
  · rw [if_neg c1]
    rw [i32_lt, e0] at c1
    by_cases c2 : nI na ≤ a
    · rw [if_pos c2]
      rw [i32_le, en] at c2
      rw [show decide (0 ≤ a.toInt ∧ a.toInt < na) = false by simp; omega] at k
      exact ⟨Or.inl rfl, k⟩
    · rw [if_neg c2]
      rw [i32_le, en] at c2
      rw [show decide (0 ≤ a.toInt ∧ a.toInt < na) = true by simp; omega] at k
      exact ⟨Or.inr rfl, k⟩
theorem l64_sub1 {n : Nat} (h : n < 2147483648) : ((Int32.toInt64 (nI n)) - (1 : Int64)).toInt = (n : Int) - 1 := by
  have e := i2l_toInt (nI n)
  rw [nI_toInt' h] at e
  rw [Int64.toInt_sub, e]
  have e1 : (1 : Int64).toInt = 1 := rfl
  rw [e1]
  apply Int.bmod_eq_of_le <;> omega
theorem v7_noAxis {na : Nat} {a : Int32} {M : xS} {Q : Int32 → xS → Prop} (hn : na ≤ 4) (h1 : M.1 0 0 0 = nI na) (k : Q (b2 (!decide (0 ≤ a.toInt ∧ a.toInt < na))) M) : wp_X7_noAxis a M Q := by
  unfold wp_X7_noAxis
  rw [h1]
  refine v7_in ?_
  rw [l64_sub1 (by omega), i2l_toInt, show (0 : Int64).toInt = 0 from rfl]
  by_cases c : 0 ≤ a.toInt ∧ a.toInt < na
  · rw [show decide (0 ≤ a.toInt ∧ a.toInt ≤ (na : Int) - 1) = true by simp; omega, if_neg (by decide)]
    rw [show decide (0 ≤ a.toInt ∧ a.toInt < na) = true by simp; omega] at k
    exact ⟨Or.inl rfl, k⟩
  · rw [show decide (0 ≤ a.toInt ∧ a.toInt ≤ (na : Int) - 1) = false by simp; omega, if_pos (by decide)]
    rw [show decide (0 ≤ a.toInt ∧ a.toInt < na) = false by simp; omega] at k
    exact ⟨Or.inr rfl, k⟩
