theorem g1 {A B : Prop} (h : B) : if (1 : Int32) = 0 then A else B := by rw [if_neg (by decide)]; exact h
theorem g0 {A B : Prop} (h : A) : if (0 : Int32) = 0 then A else B := by rw [if_pos rfl]; exact h
theorem gt {c A B : Prop} {_ : Decidable c} (hc : c) (h : A) : if c then A else B := by rw [if_pos hc]; exact h
theorem gf {c A B : Prop} {_ : Decidable c} (hc : ¬ c) (h : B) : if c then A else B := by rw [if_neg hc]; exact h
theorem ge {A B : Prop} {r : Int32} (h : A) : if r = r then A else B := gt rfl h
theorem vv_nat {a : Int32} (h : 0 ≤ a.toInt) : ∃ i : Nat, a = nI i ∧ a.toInt = i ∧ i < 2147483648 := by
  have h2 : a.toInt < 2147483648 := by have := Int32.toInt_lt a; omega
  refine ⟨a.toInt.toNat, ?_, by omega, by omega⟩
  apply Int32.toInt_inj.mp
  rw [nI_toInt' (by omega)]
  omega
theorem v6_hasAxis_t {na : Nat} {a : Int32} {S : xS} {Q : Int32 → xS → Prop} (hn : na ≤ 4) (h1 : S.1 6 0 1 = nI na) (c : 0 ≤ a.toInt ∧ a.toInt < na) (k : Q 1 S) : wp_X6_hasAxis a S Q := v6_hasAxis hn h1 (by rw [decide_eq_true c]; exact k)
theorem v6_hasAxis_f {na : Nat} {a : Int32} {S : xS} {Q : Int32 → xS → Prop} (hn : na ≤ 4) (h1 : S.1 6 0 1 = nI na) (c : ¬ (0 ≤ a.toInt ∧ a.toInt < na)) (k : Q 0 S) : wp_X6_hasAxis a S Q := v6_hasAxis hn h1 (by rw [decide_eq_false c]; exact k)
theorem v7_noAxis_t {na : Nat} {a : Int32} {S : xS} {Q : Int32 → xS → Prop} (hn : na ≤ 4) (h1 : S.1 0 0 0 = nI na) (c : 0 ≤ a.toInt ∧ a.toInt < na) (k : Q 0 S) : wp_X7_noAxis a S Q := v7_noAxis hn h1 (by rw [decide_eq_true c]; exact k)
theorem v7_noAxis_f {na : Nat} {a : Int32} {S : xS} {Q : Int32 → xS → Prop} (hn : na ≤ 4) (h1 : S.1 0 0 0 = nI na) (c : ¬ (0 ≤ a.toInt ∧ a.toInt < na)) (k : Q 1 S) : wp_X7_noAxis a S Q := v7_noAxis hn h1 (by rw [decide_eq_false c]; exact k)
theorem v6_within_t {x l h : Int32} {S : xS} {Q : Int32 → xS → Prop} (c : l.toInt ≤ x.toInt ∧ x.toInt ≤ h.toInt) (k : Q 1 S) : wp_X6_within x l h S Q := v6_within (by rw [decide_eq_true c]; exact k)
theorem v6_within_f {x l h : Int32} {S : xS} {Q : Int32 → xS → Prop} (c : ¬ (l.toInt ≤ x.toInt ∧ x.toInt ≤ h.toInt)) (k : Q 0 S) : wp_X6_within x l h S Q := v6_within (by rw [decide_eq_false c]; exact k)
theorem v7_in_t {x l h : Int64} {S : xS} {Q : Int32 → xS → Prop} (c : l.toInt ≤ x.toInt ∧ x.toInt ≤ h.toInt) (k : Q 1 S) : wp_X7_in x l h S Q := v7_in (by rw [decide_eq_true c]; exact k)
theorem v7_in_f {x l h : Int64} {S : xS} {Q : Int32 → xS → Prop} (c : ¬ (l.toInt ≤ x.toInt ∧ x.toInt ≤ h.toInt)) (k : Q 0 S) : wp_X7_in x l h S Q := v7_in (by rw [decide_eq_false c]; exact k)
theorem op_setCoordinate {n : Nat} {S M : xS} (I : Inv n S M) (a b : Int32) {K : xS → xS → Prop} (hK : ∀ S' M', Inv (n + 1) S' M' → K S' M') :
    wp_X6_setCoordinate a b S (fun r1 S1 => wp_X7_setCoordinate a b M (fun r2 M1 => if r1 = r2 then K S1 M1 else False)) := by
  obtain ⟨⟨hn, h0, h1⟩, hax, hz, hzz⟩ := I.1
  have hS1 := h1.trans h0
  unfold wp_X6_setCoordinate wp_X7_setCoordinate
  by_cases c : 0 ≤ a.toInt ∧ a.toInt < cntM M 0
  · refine v6_hasAxis_t hn hS1 c (g1 ?_)
    obtain ⟨i, rfl, ei, hi⟩ := vv_nat c.1
    have hia : i < cntM M 0 := by omega
    have hcl : (nI i).toNatClampNeg = i := nI_clamp (by omega)
    have hin : vp_in (nI i) 4 := vp_in_nI (by omega) (by omega)
    have A := hax i hia
    by_cases c2 : (-16384 : Int32).toInt ≤ b.toInt ∧ b.toInt ≤ (16384 : Int32).toInt
    · refine v6_within_t c2 (g1 ⟨hin, ?_⟩)
      rw [hcl]
      have c3 : (-16384 : Int64).toInt ≤ (Int32.toInt64 b).toInt ∧ (Int32.toInt64 b).toInt ≤ (16384 : Int64).toInt := by rw [i2l_toInt]; exact c2
      by_cases c4 : M.1 6 0 i = 0
      · refine gt (A.2.2.1.1.trans c4) ⟨hin, hin, ?_⟩
        refine v7_noAxis_t hn h0 c (g0 (v7_in_t c3 (g1 ⟨hin, ?_⟩)))
        refine gt c4 ⟨hin, hin, ?_⟩
        rw [A.2.2.2.1.1]
        refine ge (hK _ _ ?_)
        refine I.ax ⟨⟨hn, h0, h1⟩, fun j hj => ?_, fun j hj hj4 => ?_, fun j hj => ?_⟩ (fun k _ _ _ _ h => xI_k h) (fun j _ => by rw [xI_1, if_neg (by omega)]) rfl (fun k hk => xI_k (by omega)) (fun j hj => by rw [xI_1, if_neg (by omega)]) (Nat.le_refl _)
        · obtain ⟨b1, b2, b3, b4, b5⟩ := hax j hj
          unfold AxRel
          simp only [xI_1]
          by_cases hji : j = i
          · subst hji
            simp
            exact ⟨b1, b2, b3, by unfold rng; exact c2, b5⟩
          · simp [hji]
            exact ⟨b1, b2, b3, b4, b5⟩
        · have hj : cntM M 0 ≤ j := hj
          rw [xI_1, if_neg (by omega), xI_k (by omega), xI_k (by omega)]
          exact hz j hj hj4
        · show (xI S 30 0 i b).1 30 1 j = 0
          rw [xI_1, if_neg (by omega)]
          exact hzz j hj
      · refine gf (by rw [A.2.2.1.1]; exact c4) ?_
        refine v7_noAxis_t hn h0 c (g0 (v7_in_t c3 (g1 ⟨hin, ?_⟩)))
        exact gf c4 (ge (hK _ _ I.next))
    · refine v6_within_f c2 (g0 ?_)
      have c3 : ¬ ((-16384 : Int64).toInt ≤ (Int32.toInt64 b).toInt ∧ (Int32.toInt64 b).toInt ≤ (16384 : Int64).toInt) := by rw [i2l_toInt]; exact c2
      exact v7_noAxis_t hn h0 c (g0 (v7_in_f c3 (g0 (ge (hK _ _ I.next)))))
  · refine v6_hasAxis_f hn hS1 c (g0 ?_)
    exact v7_noAxis_f hn h0 c (g1 (ge (hK _ _ I.next)))
