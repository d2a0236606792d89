def acc (p c x : Nat → Int32) : Nat → Int32
  | 0 => 0
  | j + 1 => if p j = 0 ∧ ¬ c j = x j then acc p c x j + 1 else acc p c x j
theorem acc_fr {p c x p' c' x' : Nat → Int32} : ∀ j, (∀ a, a < j → p' a = p a ∧ c' a = c a ∧ x' a = x a) → acc p' c' x' j = acc p c x j
  | 0, _ => rfl
  | j + 1, h => by
    obtain ⟨h1, h2, h3⟩ := h j (by omega)
    show (if p' j = 0 ∧ ¬ c' j = x' j then acc p' c' x' j + 1 else acc p' c' x' j) = (if p j = 0 ∧ ¬ c j = x j then acc p c x j + 1 else acc p c x j)
    rw [acc_fr j (fun a ha => h a (by omega)), h1, h2, h3]
theorem l32_sub1 {n : Nat} (h : n < 2147483648) : (nI n - 1).toInt = (n : Int) - 1 := by
  rw [Int32.toInt_sub, nI_toInt' h, show (1 : Int32).toInt = 1 from rfl]
  apply Int.bmod_eq_of_le <;> omega
theorem w6_applyInstance {na i : Nat} {S : xS} {Q : Int32 → xS → Prop} (hn : na ≤ 4) (h0 : S.1 6 0 1 = nI na) (hi : i < 6)
    (k : ∀ S', (∀ k, k ≠ 30 → S'.1 k = S.1 k) → S'.2 = S.2 → (∀ x a, x ≠ 0 ∨ na ≤ a → S'.1 30 x a = S.1 30 x a) → (∀ a, a < na → S'.1 30 0 a = if S.1 0 a 3 = 0 then S.1 33 i a else S.1 30 0 a) → Q (acc (fun a => S.1 0 a 3) (fun a => S.1 30 0 a) (fun a => S.1 33 i a) na) S') :
    ∃ n, wp_X6_applyInstance_21 (nI i) Q n S 0 0 := by
  refine wl2 (wp_X6_applyInstance_21 (nI i) Q) (fun K => wp_X6_applyInstance_21_b (nI i) K Q) (fun _ _ _ _ => rfl)
    (fun S' v2 v3 => ∃ j, j ≤ na ∧ v3 = nI j ∧ v2 = acc (fun a => S.1 0 a 3) (fun a => S.1 30 0 a) (fun a => S.1 33 i a) j ∧ (∀ k, k ≠ 30 → S'.1 k = S.1 k) ∧ S'.2 = S.2 ∧ (∀ x a, x ≠ 0 ∨ j ≤ a → S'.1 30 x a = S.1 30 x a) ∧ (∀ a, a < j → S'.1 30 0 a = if S.1 0 a 3 = 0 then S.1 33 i a else S.1 30 0 a))
    (fun _ _ v => na - v.toNatClampNeg) ⟨0, by omega, rfl, rfl, fun _ _ => rfl, rfl, fun _ _ _ => rfl, fun a h => by omega⟩ ?_
  rintro S' v2 v3 K ⟨j, hj, rfl, rfl, h1, h2, h3, h4⟩ hK
  unfold wp_X6_applyInstance_21_b wp_X6_applyInstance_73
  rw [h1 6 (by omega), h0]
  by_cases c : j = na
  · subst c
    exact gt (by rw [vv_le (by omega) (by omega)]; omega) (k S' h1 h2 h3 h4)
  · refine gf (by rw [vv_le (by omega) (by omega)]; omega) ⟨vv_in hi (by omega), vv_in (by omega) (by omega), vv_in (by omega) (by omega), ?_⟩
    rw [vv_clI (k := j) (by omega), vv_clI (k := i) (by omega), h1 0 (by omega), h1 33 (by omega), h3 0 j (by omega)]
    by_cases c1 : S.1 0 j 3 = 0
    · refine gt c1 ⟨vv_in (by omega) (by omega), ?_⟩
      by_cases c2 : S.1 30 0 j = S.1 33 i j
      · refine gt c2 (hK _ _ _ ⟨j + 1, by omega, nI_1 j, ?_, h1, h2, fun x a hx => h3 x a (by omega), fun a ha => ?_⟩ (by rw [nI_1, vv_clI (by omega), vv_clI (by omega)]; omega))
        · show _ = if _ then _ else _
          rw [if_neg (by intro ⟨_, q⟩; exact q c2)]
        · by_cases ea : a = j
          · subst ea; rw [if_pos c1, h3 0 a (by omega)]; exact c2
          · exact h4 a (by omega)
      · refine gf c2 ⟨vv_in (by omega) (by omega), hK _ _ _ ⟨j + 1, by omega, nI_1 j, ?_, fun k hk => by rw [xI_k hk]; exact h1 k hk, h2, fun x a hx => ?_, fun a ha => ?_⟩ (by rw [nI_1, vv_clI (by omega), vv_clI (by omega)]; omega)⟩
        · show _ = if _ then _ else _
          rw [if_pos ⟨c1, c2⟩]
        · rw [xI_1, if_neg (by omega)]; exact h3 x a (by omega)
        · by_cases ea : a = j
          · subst ea; rw [xI_1, if_pos (by omega), if_pos c1]
          · rw [xI_1, if_neg (by omega)]; exact h4 a (by omega)
    · refine gf c1 (hK _ _ _ ⟨j + 1, by omega, nI_1 j, ?_, h1, h2, fun x a hx => h3 x a (by omega), fun a ha => ?_⟩ (by rw [nI_1, vv_clI (by omega), vv_clI (by omega)]; omega))
      · show _ = if _ then _ else _
        rw [if_neg (by intro ⟨q, _⟩; exact c1 q)]
      · by_cases ea : a = j
        · subst ea; rw [if_neg c1, h3 0 a (by omega)]
        · exact h4 a (by omega)
theorem w7_applyInstance {na i : Nat} {S : xS} {Q : Int32 → xS → Prop} (hn : na ≤ 4) (h0 : S.1 0 0 0 = nI na) (hi : i < 6)
    (k : ∀ S', (∀ k, k ≠ 5 → S'.1 k = S.1 k) → S'.2 = S.2 → (∀ a, a < na → S'.1 5 0 a = if S.1 6 0 a = 0 then S.1 34 0 (4 * i + a) else S.1 5 0 a) → Q (acc (fun a => S.1 6 0 a) (fun a => S.1 5 0 a) (fun a => S.1 34 0 (4 * i + a)) na) S') :
    ∃ n, wp_X7_applyInstance_23 (nI i) Q n S 0 0 := by
  refine wl2 (wp_X7_applyInstance_23 (nI i) Q) (fun K => wp_X7_applyInstance_23_b (nI i) K Q) (fun _ _ _ _ => rfl)
    (fun S' v2 v3 => ∃ j, j ≤ na ∧ v3 = nI j ∧ v2 = acc (fun a => S.1 6 0 a) (fun a => S.1 5 0 a) (fun a => S.1 34 0 (4 * i + a)) j ∧ (∀ k, k ≠ 5 → S'.1 k = S.1 k) ∧ S'.2 = S.2 ∧ (∀ a, j ≤ a → S'.1 5 0 a = S.1 5 0 a) ∧ (∀ a, a < j → S'.1 5 0 a = if S.1 6 0 a = 0 then S.1 34 0 (4 * i + a) else S.1 5 0 a))
    (fun _ _ v => na - v.toNatClampNeg) ⟨0, by omega, rfl, rfl, fun _ _ => rfl, rfl, fun _ _ => rfl, fun a h => by omega⟩ ?_
  rintro S' v2 v3 K ⟨j, hj, rfl, rfl, h1, h2, h3, h4⟩ hK
  unfold wp_X7_applyInstance_23_b wp_X7_applyInstance_74
  rw [h1 0 (by omega), h0, nl4, vv_mul, nI_add]
  by_cases c : j = na
  · subst c
    exact gt (by rw [vv_le (by omega) (by omega)]; omega) (k S' h1 h2 h4)
  · refine gf (by rw [vv_le (by omega) (by omega)]; omega) ⟨vv_in (by omega) (by omega), vv_in (by omega) (by omega), ?_⟩
    rw [vv_clI (k := j) (by omega), vv_clI (k := 4 * i + j) (by omega), h1 6 (by omega), h1 34 (by omega), h3 j (by omega)]
    by_cases c1 : S.1 6 0 j = 0
    · refine gt c1 ⟨vv_in (by omega) (by omega), ?_⟩
      by_cases c2 : S.1 5 0 j = S.1 34 0 (4 * i + j)
      · refine gt c2 (hK _ _ _ ⟨j + 1, by omega, nI_1 j, ?_, h1, h2, fun a hx => h3 a (by omega), fun a ha => ?_⟩ (by rw [nI_1, vv_clI (by omega), vv_clI (by omega)]; omega))
        · show _ = if _ then _ else _
          rw [if_neg (by intro ⟨_, q⟩; exact q c2)]
        · by_cases ea : a = j
          · subst ea; rw [if_pos c1, h3 a (by omega)]; exact c2
          · exact h4 a (by omega)
      · refine gf c2 ⟨vv_in (by omega) (by omega), hK _ _ _ ⟨j + 1, by omega, nI_1 j, ?_, fun k hk => by rw [xI_k hk]; exact h1 k hk, h2, fun a hx => ?_, fun a ha => ?_⟩ (by rw [nI_1, vv_clI (by omega), vv_clI (by omega)]; omega)⟩
        · show _ = if _ then _ else _
          rw [if_pos ⟨c1, c2⟩]
        · rw [xI_1, if_neg (by omega)]; exact h3 a (by omega)
        · by_cases ea : a = j
          · subst ea; rw [xI_1, if_pos (by omega), if_pos c1]
          · rw [xI_1, if_neg (by omega)]; exact h4 a (by omega)
    · refine gf c1 (hK _ _ _ ⟨j + 1, by omega, nI_1 j, ?_, h1, h2, fun a hx => h3 a (by omega), fun a ha => ?_⟩ (by rw [nI_1, vv_clI (by omega), vv_clI (by omega)]; omega))
      · show _ = if _ then _ else _
        rw [if_neg (by intro ⟨q, _⟩; exact c1 q)]
      · by_cases ea : a = j
        · subst ea; rw [if_neg c1, h3 a (by omega)]
        · exact h4 a (by omega)
theorem op_applyInstance {n : Nat} {S M : xS} {K : xS → xS → Prop} (I : Inv n S M) (a : Int32) (hK : ∀ S' M', Inv (n + 1) S' M' → K S' M') :
    wp_X6_applyInstance a S (fun r1 S1 => wp_X7_applyInstance a M (fun r2 M1 => if r1 = r2 then K S1 M1 else False)) := by
  obtain ⟨⟨i1, i2, i3⟩, i4⟩ := I.2.2.2.1
  obtain ⟨⟨hn, h0, h1⟩, hax, hz, hzz⟩ := I.1
  have hS1 := h1.trans h0
  have e1 := l32_sub1 (n := cntM M 32) (by omega)
  have e2 := l64_sub1 (n := cntM M 32) (by omega)
  have z0 : (0 : Int32).toInt = 0 := rfl
  have z1 : (0 : Int64).toInt = 0 := rfl
  unfold wp_X6_applyInstance wp_X7_applyInstance
  rw [i3.trans i2, i2]
  by_cases c : 0 ≤ a.toInt ∧ a.toInt ≤ (cntM M 32 : Int) - 1
  · obtain ⟨i, rfl, ei, hi⟩ := vv_nat c.1
    refine v6_within_t (by rw [e1, z0]; exact c) (g1 ?_)
    refine w6_applyInstance hn hS1 (by omega) (fun S' b1 b2 b3 b4 => ?_)
    refine v7_in_t (by rw [e2, z1, i2l_toInt]; exact c) (g1 ?_)
    refine w7_applyInstance hn h0 (by omega) (fun M' d1 d2 d3 => ?_)
    have hia : i < cntM M 32 := by omega
    refine gt (acc_fr _ (fun x hx => ⟨(hax x hx).2.2.1.1, (hax x hx).2.2.2.1.1, (i4 i hia x (by omega)).1⟩)) ?_
    refine hK _ _ ?_
    refine I.ax ⟨⟨by unfold cntM; rw [d1 0 (by omega)]; exact hn, by unfold cntM; rw [d1 0 (by omega)]; exact h0, by rw [b1 6 (by omega), d1 0 (by omega)]; exact h1⟩, fun x hx => ?_, fun x hx hx4 => ?_, fun x hx => ?_⟩ (fun k _ _ _ _ h => b1 k h) (fun j _ => by rw [b1 6 (by omega)]) (by rw [b2]) (fun k hk => d1 k (by omega)) (fun j hj => by rw [d1 0 (by omega)]) (Nat.le_of_eq (by unfold cntM; rw [d1 0 (by omega)]))
    · have hx : x < cntM M 0 := by unfold cntM at hx ⊢; rw [d1 0 (by omega)] at hx; exact hx
      obtain ⟨q1, q2, q3, q4, q5⟩ := hax x hx
      unfold AxRel
      rw [b1 0 (by omega), b1 10 (by omega), b1 11 (by omega), b4 x hx, d1 2 (by omega), d1 3 (by omega), d1 4 (by omega), d1 6 (by omega), d1 7 (by omega), d1 8 (by omega), d1 9 (by omega), d3 x hx]
      refine ⟨q1, q2, q3, ?_, q5⟩
      rw [q3.1, q4.1, (i4 i hia x (by omega)).1]
      refine ⟨rfl, ?_⟩
      by_cases c6 : M.1 6 0 x = 0
      · rw [if_pos c6]; exact (i4 i hia x (by omega)).2
      · rw [if_neg c6]; exact q4.2
    · have hx : cntM M 0 ≤ x := by unfold cntM at hx ⊢; rw [d1 0 (by omega)] at hx; exact hx
      rw [b3 0 x (by omega), b1 0 (by omega), d1 6 (by omega)]; exact hz x hx hx4
    · rw [b3 1 x (by omega)]; exact hzz x hx
  · refine v6_within_f (by rw [e1, z0]; exact c) (g0 ?_)
    exact v7_in_f (by rw [e2, z1, i2l_toInt]; exact c) (g0 (gt rfl (hK _ _ I.next)))
