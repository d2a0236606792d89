/- what changes rows that mean nothing between calls -/
theorem Inv.scr {n : Nat} {S M S' M' : xS} (I : Inv n S M) (hS : ∀ k, kG k ∨ k = 0 ∨ k = 2 ∨ k = 6 ∨ k = 10 ∨ k = 11 ∨ k = 17 ∨ k = 19 ∨ k = 33 → S'.1 k = S.1 k) (h3 : S'.1 3 0 0 = S.1 3 0 0) (h30 : ∀ a, S'.1 30 0 a = S.1 30 0 a ∧ S'.1 30 1 a = S.1 30 1 a) (h16 : S'.2.2 16 = S.2.2 16) (h18 : S'.2.2 18 = S.2.2 18)
    (hM : ∀ k, 2 ≤ k ∧ k ≤ 9 ∨ k = 11 ∨ k = 25 ∨ k = 26 ∨ k = 34 ∨ k = 36 → M'.1 k = M.1 k) (hM0 : ∀ j, j = 0 ∨ j = 9 ∨ j = 23 ∨ j = 32 ∨ j = 34 → M'.1 0 0 j = M.1 0 0 j) : Inv (n + 1) S' M' := by
  obtain ⟨⟨⟨a1, a2, a3⟩, a4, a5, a6⟩, b, c, d, e, f⟩ := I
  have e0 : cntM M' 0 = cntM M 0 := by unfold cntM; rw [hM0 0 (by omega)]
  have e9 : cntM M' 9 = cntM M 9 := by unfold cntM; rw [hM0 9 (by omega)]
  have hk : ∀ k, kG k → S'.1 k = S.1 k := fun k hk => hS k (Or.inl hk)
  have ho : ∀ k, k = 0 ∨ k = 2 ∨ k = 6 ∨ k = 10 ∨ k = 11 ∨ k = 17 ∨ k = 19 ∨ k = 33 → S'.1 k = S.1 k := fun k hk => hS k (Or.inr hk)
  refine ⟨⟨⟨by rw [e0]; exact a1, by rw [hM0 0 (by omega), e0]; exact a2, by rw [ho 6 (by omega), hM0 0 (by omega)]; exact a3⟩, fun x hx => ?_, fun x hx hx4 => ?_, fun x hx => ?_⟩, b.fr (PN_le n) hk (by rw [ho 6 (by omega)]) h16 h18 (hM 11 (by omega)) (hM0 9 (by omega)) (Nat.le_of_eq e0.symm),
    c.fr b.2.1 (PN_le n) hk (ho 2 (by omega)) (ho 17 (by omega)) h16 h18 (hM 26 (by omega)) (hM 25 (by omega)) (hM0 23 (by omega)) (Nat.le_of_eq e0.symm) (Nat.le_of_eq e9.symm), d.fr (by rw [ho 6 (by omega)]) (ho 33 (by omega)) (hM 34 (by omega)) (hM0 32 (by omega)), e.fr h3 (ho 19 (by omega)) (hM 36 (by omega)) (hM0 34 (by omega)), f.fr (hM 11 (by omega)) (hM 26 (by omega)) (hM 25 (by omega)) (hM0 9 (by omega)) (hM0 23 (by omega))⟩
  · rw [e0] at hx
    have h := a4 x hx
    unfold AxRel at h ⊢
    rw [ho 0 (by omega), ho 10 (by omega), ho 11 (by omega), (h30 x).1, hM 2 (by omega), hM 3 (by omega), hM 4 (by omega), hM 5 (by omega), hM 6 (by omega), hM 7 (by omega), hM 8 (by omega), hM 9 (by omega)]
    exact h
  · rw [e0] at hx
    rw [(h30 x).1, ho 0 (by omega), hM 6 (by omega)]
    exact a5 x hx hx4
  · rw [(h30 x).2]; exact a6 x hx
