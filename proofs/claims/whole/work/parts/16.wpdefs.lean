theorem xEnv_mk {g : xG} {D : va_G} {tys : List (ClassId × FieldType)} {sh : xSh} {ad : Nat → Nat → Nat} {own : String} {cc : ByteArray} {ret : Option FieldType} {fr lo maxL : Nat} {QQ : Option Value → xS → Prop} (X : xOK g own cc ret) (K : xKK g D tys) (hi : xInj sh ad) (hA : xHA g sh ad) (hR : xRoom g fr lo) (E : xEnd g D sh ad QQ) (hN : g.2.2.2.2.2.2.2.2.2.2.2.2.2.1 = maxL) : xEnv g D tys sh ad own cc ret fr lo maxL QQ := ⟨X, K, hi, hA, hR, E, hN⟩
theorem x_ite {c a b G : Prop} {_ : Decidable c} (h : if c then a else b) (ka : c → a → G) (kb : ¬ c → b → G) : G := by
  by_cases hc : c
  · rw [if_pos hc] at h; exact ka hc h
  · rw [if_neg hc] at h; exact kb hc h
theorem xSw_ne {x k : Int32} {a : Int} (h : ¬ x = k) (hk : k.toInt = a) : x.toInt ≠ a := fun e => h (Int32.toInt_inj.mp (e.trans hk.symm))
theorem xSw_0_3 {x : Int32} (h0 : ¬ x = 0) (h1 : ¬ x = 1) (h2 : ¬ x = 2) (h3 : ¬ x = 3) : x.toInt < 0 ∨ 3 < x.toInt := by
  have g0 := xSw_ne h0 (a := 0) (by decide)
  have g1 := xSw_ne h1 (a := 1) (by decide)
  have g2 := xSw_ne h2 (a := 2) (by decide)
  have g3 := xSw_ne h3 (a := 3) (by decide)
  omega
theorem xSw_0_5 {x : Int32} (h0 : ¬ x = 0) (h1 : ¬ x = 1) (h2 : ¬ x = 2) (h3 : ¬ x = 3) (h4 : ¬ x = 4) (h5 : ¬ x = 5) : x.toInt < 0 ∨ 5 < x.toInt := by
  have g0 := xSw_ne h0 (a := 0) (by decide)
  have g1 := xSw_ne h1 (a := 1) (by decide)
  have g2 := xSw_ne h2 (a := 2) (by decide)
  have g3 := xSw_ne h3 (a := 3) (by decide)
  have g4 := xSw_ne h4 (a := 4) (by decide)
  have g5 := xSw_ne h5 (a := 5) (by decide)
  omega
def wp_X0_begin_18_b (a0 : Nat) (K18 : xS → Int32 → Prop) (Q : xS → Prop) (S : xS) (v4 : Int32) : Prop :=
  (if (3 : Int32) ≤ v4 then (Q (xI S 0 a0 4 (3 : Int32))) else (vp_in v4 8 ∧ (vp_in v4 8 ∧ (vp_in v4 8 ∧ (K18 (xI (xI S 10 a0 v4.toNatClampNeg ((v4 - (1 : Int32)) * (16384 : Int32))) 11 a0 v4.toNatClampNeg ((xI S 10 a0 v4.toNatClampNeg ((v4 - (1 : Int32)) * (16384 : Int32))).1 10 a0 v4.toNatClampNeg)) (v4 + (1 : Int32)))))))
def wp_X0_begin_18 (a0 : Nat) (Q : xS → Prop) : Nat → xS → Int32 → Prop
  | 0 => fun _ _ => False
  | n + 1 => fun S v4 => wp_X0_begin_18_b a0 (wp_X0_begin_18 a0 Q n) Q S v4
def wp_X0_begin (a0 : Nat) (a1 : Int32) (a2 : Int32) (a3 : Int32) (S : xS) (Q : xS → Prop) : Prop :=
  (∃ n1, wp_X0_begin_18 a0 Q n1 (xI (xI (xI S 0 a0 0 a1) 0 a0 1 a2) 0 a0 2 a3) (0 : Int32))
def wp_J9_min_7cf53_10 (Q : Int32 → xS → Prop) (S : xS) (s0 : Int32) : Prop :=
  (Q s0 S)
def wp_J9_min_7cf53 (a0 : Int32) (a1 : Int32) (S : xS) (Q : Int32 → xS → Prop) : Prop :=
  (if a1 < a0 then (wp_J9_min_7cf53_10 Q S a1) else (wp_J9_min_7cf53_10 Q S a0))
def wp_J9_max_7cf53_10 (Q : Int32 → xS → Prop) (S : xS) (s0 : Int32) : Prop :=
  (Q s0 S)
def wp_J9_max_7cf53 (a0 : Int32) (a1 : Int32) (S : xS) (Q : Int32 → xS → Prop) : Prop :=
  (if a0 < a1 then (wp_J9_max_7cf53_10 Q S a1) else (wp_J9_max_7cf53_10 Q S a0))
def wp_J9_floorDiv_f86c9_27 (Q : Int64 → xS → Prop) (S : xS) (v4 : Int64) : Prop :=
  (Q v4 S)
def wp_J9_floorDiv_f86c9 (a0 : Int64) (a2 : Int64) (S : xS) (Q : Int64 → xS → Prop) : Prop :=
  (¬ a2 = 0 ∧ (if 0 ≤ (lg_cmp (a0 ^^^ a2) (0 : Int64)) then (wp_J9_floorDiv_f86c9_27 Q S (a0 / a2)) else (if (lg_cmp ((a0 / a2) * a2) a0) = 0 then (wp_J9_floorDiv_f86c9_27 Q S (a0 / a2)) else (Q ((a0 / a2) - (1 : Int64)) S))))
def wp_X6_roundedQuotient (a0 : Int64) (a2 : Int64) (S : xS) (Q : Int64 → xS → Prop) : Prop :=
  (if 0 < (lg_cmp a2 (0 : Int64)) then (wp_J9_floorDiv_f86c9 (((2 : Int64) * a0) + a2) ((2 : Int64) * a2) S (fun r2 S1 => (Q r2 S1))) else (Q (0 : Int64) S))
def wp_X0_unmapped (a0 : Nat) (a1 : Int32) (S : xS) (Q : Int32 → xS → Prop) : Prop :=
  (if (S.1 0 a0 1) ≤ a1 then (if a1 ≤ (S.1 0 a0 1) then (Q (0 : Int32) S) else (wp_X6_roundedQuotient ((Int32.toInt64 (a1 - (S.1 0 a0 1))) * (16384 : Int64)) (Int32.toInt64 ((S.1 0 a0 2) - (S.1 0 a0 1))) S (fun r2 S1 => (Q (Int64.toInt32 r2) S1)))) else (wp_X6_roundedQuotient ((Int32.toInt64 ((S.1 0 a0 1) - a1)) * (16384 : Int64)) (Int32.toInt64 ((S.1 0 a0 1) - (S.1 0 a0 0))) S (fun r4 S3 => (Q (-(Int64.toInt32 r4)) S3))))
def wp_X0_mapped_90 (a0 : Nat) (a1 : Int32) (K2 : xS → Int32 → Prop) (Q : Int32 → xS → Prop) (S : xS) (v2 : Int32) : Prop :=
  (K2 S (v2 + (1 : Int32)))
def wp_X0_mapped_2_b (a0 : Nat) (a1 : Int32) (K2 : xS → Int32 → Prop) (Q : Int32 → xS → Prop) (S : xS) (v2 : Int32) : Prop :=
  (if (S.1 0 a0 4) ≤ (v2 + (1 : Int32)) then (Q (16384 : Int32) S) else (vp_in v2 8 ∧ (if a1 < (S.1 10 a0 v2.toNatClampNeg) then (wp_X0_mapped_90 a0 a1 K2 Q S v2) else (vp_in (v2 + (1 : Int32)) 8 ∧ (if (S.1 10 a0 (v2 + (1 : Int32)).toNatClampNeg) ≤ a1 then (wp_X0_mapped_90 a0 a1 K2 Q S v2) else (vp_in v2 8 ∧ (vp_in (v2 + (1 : Int32)) 8 ∧ (vp_in v2 8 ∧ (vp_in v2 8 ∧ (vp_in (v2 + (1 : Int32)) 8 ∧ (vp_in v2 8 ∧ (wp_X6_roundedQuotient ((Int32.toInt64 (a1 - (S.1 10 a0 v2.toNatClampNeg))) * (Int32.toInt64 ((S.1 11 a0 (v2 + (1 : Int32)).toNatClampNeg) - (S.1 11 a0 v2.toNatClampNeg)))) (Int32.toInt64 ((S.1 10 a0 (v2 + (1 : Int32)).toNatClampNeg) - (S.1 10 a0 v2.toNatClampNeg))) S (fun r10 S9 => (Q ((S.1 11 a0 v2.toNatClampNeg) + (Int64.toInt32 r10)) S9))))))))))))))
def wp_X0_mapped_2 (a0 : Nat) (a1 : Int32) (Q : Int32 → xS → Prop) : Nat → xS → Int32 → Prop
  | 0 => fun _ _ => False
  | n + 1 => fun S v2 => wp_X0_mapped_2_b a0 a1 (wp_X0_mapped_2 a0 a1 Q n) Q S v2
def wp_X0_mapped (a0 : Nat) (a1 : Int32) (S : xS) (Q : Int32 → xS → Prop) : Prop :=
  (∃ n1, wp_X0_mapped_2 a0 a1 Q n1 S (0 : Int32))
def wp_X0_coordinateFor (a0 : Nat) (a1 : Int32) (S : xS) (Q : Int32 → xS → Prop) : Prop :=
  (wp_J9_min_7cf53 a1 (S.1 0 a0 2) S (fun r2 S1 => (wp_J9_max_7cf53 (S.1 0 a0 0) r2 S1 (fun r4 S3 => (wp_X0_unmapped a0 r4 S3 (fun r6 S5 => (wp_X0_mapped a0 r6 S5 (fun r8 S7 => (Q r8 S7)))))))))
def wp_X0_firstPairNotBefore_28 (Q : Int32 → xS → Prop) (S : xS) (v2 : Int32) : Prop :=
  (Q v2 S)
def wp_X0_firstPairNotBefore_2_b (a0 : Nat) (a1 : Int32) (K2 : xS → Int32 → Prop) (Q : Int32 → xS → Prop) (S : xS) (v2 : Int32) : Prop :=
  (if (S.1 0 a0 4) ≤ (v2 + (1 : Int32)) then (wp_X0_firstPairNotBefore_28 Q S v2) else (vp_in v2 8 ∧ (if a1 ≤ (S.1 10 a0 v2.toNatClampNeg) then (wp_X0_firstPairNotBefore_28 Q S v2) else (K2 S (v2 + (1 : Int32))))))
def wp_X0_firstPairNotBefore_2 (a0 : Nat) (a1 : Int32) (Q : Int32 → xS → Prop) : Nat → xS → Int32 → Prop
  | 0 => fun _ _ => False
  | n + 1 => fun S v2 => wp_X0_firstPairNotBefore_2_b a0 a1 (wp_X0_firstPairNotBefore_2 a0 a1 Q n) Q S v2
def wp_X0_firstPairNotBefore (a0 : Nat) (a1 : Int32) (S : xS) (Q : Int32 → xS → Prop) : Prop :=
  (∃ n1, wp_X0_firstPairNotBefore_2 a0 a1 Q n1 S (0 : Int32))
def wp_X0_hasPair_19 (Q : Int32 → xS → Prop) (S : xS) (s0 : Int32) : Prop :=
  ((s0 = 0 ∨ s0 = 1) ∧ Q s0 S)
def wp_X0_hasPair (a0 : Nat) (a1 : Int32) (S : xS) (Q : Int32 → xS → Prop) : Prop :=
  (wp_X0_firstPairNotBefore a0 a1 S (fun r2 S1 => (vp_in r2 8 ∧ (if (S1.1 10 a0 r2.toNatClampNeg) = a1 then (wp_X0_hasPair_19 Q S1 (1 : Int32)) else (wp_X0_hasPair_19 Q S1 (0 : Int32))))))
def wp_X0_keepsOrder_52 (a0 : Nat) (a1 : Int32) (a2 : Int32) (K2 : xS → Int32 → Prop) (Q : Int32 → xS → Prop) (S : xS) (v3 : Int32) : Prop :=
  (K2 S (v3 + (1 : Int32)))
def wp_X0_keepsOrder_50 (Q : Int32 → xS → Prop) (S : xS) : Prop :=
  (((0 : Int32) = 0 ∨ (0 : Int32) = 1) ∧ Q (0 : Int32) S)
def wp_X0_keepsOrder_30 (a0 : Nat) (a1 : Int32) (a2 : Int32) (K2 : xS → Int32 → Prop) (Q : Int32 → xS → Prop) (S : xS) (v3 : Int32) : Prop :=
  (vp_in v3 8 ∧ (if (S.1 10 a0 v3.toNatClampNeg) ≤ a1 then (wp_X0_keepsOrder_52 a0 a1 a2 K2 Q S v3) else (vp_in v3 8 ∧ (if a2 ≤ (S.1 11 a0 v3.toNatClampNeg) then (wp_X0_keepsOrder_52 a0 a1 a2 K2 Q S v3) else (wp_X0_keepsOrder_50 Q S)))))
def wp_X0_keepsOrder_2_b (a0 : Nat) (a1 : Int32) (a2 : Int32) (K2 : xS → Int32 → Prop) (Q : Int32 → xS → Prop) (S : xS) (v3 : Int32) : Prop :=
  (if (S.1 0 a0 4) ≤ v3 then (((1 : Int32) = 0 ∨ (1 : Int32) = 1) ∧ Q (1 : Int32) S) else (vp_in v3 8 ∧ (if a1 ≤ (S.1 10 a0 v3.toNatClampNeg) then (wp_X0_keepsOrder_30 a0 a1 a2 K2 Q S v3) else (vp_in v3 8 ∧ (if a2 < (S.1 11 a0 v3.toNatClampNeg) then (wp_X0_keepsOrder_50 Q S) else (wp_X0_keepsOrder_30 a0 a1 a2 K2 Q S v3))))))
def wp_X0_keepsOrder_2 (a0 : Nat) (a1 : Int32) (a2 : Int32) (Q : Int32 → xS → Prop) : Nat → xS → Int32 → Prop
  | 0 => fun _ _ => False
  | n + 1 => fun S v3 => wp_X0_keepsOrder_2_b a0 a1 a2 (wp_X0_keepsOrder_2 a0 a1 a2 Q n) Q S v3
def wp_X0_keepsOrder (a0 : Nat) (a1 : Int32) (a2 : Int32) (S : xS) (Q : Int32 → xS → Prop) : Prop :=
  (∃ n1, wp_X0_keepsOrder_2 a0 a1 a2 Q n1 S (0 : Int32))
def wp_X0_putPair_92 (a0 : Nat) (a2 : Int32) (Q : xS → Prop) (S : xS) (v3 : Int32) : Prop :=
  (vp_in v3 8 ∧ (Q (xI S 11 a0 v3.toNatClampNeg a2)))
def wp_X0_putPair_31_b (a0 : Nat) (a1 : Int32) (a2 : Int32) (K31 : xS → Int32 → Int32 → Prop) (Q : xS → Prop) (S : xS) (v3 : Int32) (v4 : Int32) : Prop :=
  (if v4 ≤ v3 then (vp_in v3 8 ∧ (wp_X0_putPair_92 a0 a2 Q (xI (xI S 10 a0 v3.toNatClampNeg a1) 0 a0 4 (((xI S 10 a0 v3.toNatClampNeg a1).1 0 a0 4) + (1 : Int32))) v3)) else (vp_in (v4 - (1 : Int32)) 8 ∧ (vp_in v4 8 ∧ (vp_in (v4 - (1 : Int32)) 8 ∧ (vp_in v4 8 ∧ (K31 (xI (xI S 10 a0 v4.toNatClampNeg (S.1 10 a0 (v4 - (1 : Int32)).toNatClampNeg)) 11 a0 v4.toNatClampNeg ((xI S 10 a0 v4.toNatClampNeg (S.1 10 a0 (v4 - (1 : Int32)).toNatClampNeg)).1 11 a0 (v4 - (1 : Int32)).toNatClampNeg)) v3 (v4 + (-1 : Int32))))))))
def wp_X0_putPair_31 (a0 : Nat) (a1 : Int32) (a2 : Int32) (Q : xS → Prop) : Nat → xS → Int32 → Int32 → Prop
  | 0 => fun _ _ _ => False
  | n + 1 => fun S v3 v4 => wp_X0_putPair_31_b a0 a1 a2 (wp_X0_putPair_31 a0 a1 a2 Q n) Q S v3 v4
def wp_X0_putPair (a0 : Nat) (a1 : Int32) (a2 : Int32) (S : xS) (Q : xS → Prop) : Prop :=
  (wp_X0_firstPairNotBefore a0 a1 S (fun r2 S1 => (vp_in r2 8 ∧ (if (S1.1 10 a0 r2.toNatClampNeg) = a1 then (wp_X0_putPair_92 a0 a2 Q S1 r2) else (if (8 : Int32) ≤ (S1.1 0 a0 4) then (wp_X0_putPair_92 a0 a2 Q S1 r2) else (∃ n4, wp_X0_putPair_31 a0 a1 a2 Q n4 S1 r2 (S1.1 0 a0 4)))))))
def wp_X1_begin (a0 : Nat) (a1 : Int32) (a2 : Int32) (S : xS) (Q : xS → Prop) : Prop :=
  ((a1 = 0 ∨ a1 = 1) ∧ (vp_in (0 : Int32) 25 ∧ (Q (xI (xI S 1 a0 0 a1) 12 a0 (0 : Int32).toNatClampNeg a2))))
def wp_X5_copyFrom (a0 : Nat) (a1 : Nat) (S : xS) (Q : xS → Prop) : Prop :=
  ((¬ (0 : Int32) < 0 ∧ ¬ (0 : Int32) < 0 ∧ ¬ (4 : Int32) < 0 ∧ (0 : Int32).toNatClampNeg + (4 : Int32).toNatClampNeg ≤ 4 ∧ (0 : Int32).toNatClampNeg + (4 : Int32).toNatClampNeg ≤ 4) ∧ ((¬ (0 : Int32) < 0 ∧ ¬ (0 : Int32) < 0 ∧ ¬ (4 : Int32) < 0 ∧ (0 : Int32).toNatClampNeg + (4 : Int32).toNatClampNeg ≤ 4 ∧ (0 : Int32).toNatClampNeg + (4 : Int32).toNatClampNeg ≤ 4) ∧ ((¬ (0 : Int32) < 0 ∧ ¬ (0 : Int32) < 0 ∧ ¬ (4 : Int32) < 0 ∧ (0 : Int32).toNatClampNeg + (4 : Int32).toNatClampNeg ≤ 4 ∧ (0 : Int32).toNatClampNeg + (4 : Int32).toNatClampNeg ≤ 4) ∧ ((¬ (0 : Int32) < 0 ∧ ¬ (0 : Int32) < 0 ∧ ¬ (25 : Int32) < 0 ∧ (0 : Int32).toNatClampNeg + (25 : Int32).toNatClampNeg ≤ 25 ∧ (0 : Int32).toNatClampNeg + (25 : Int32).toNatClampNeg ≤ 25) ∧ ((¬ (0 : Int32) < 0 ∧ ¬ (0 : Int32) < 0 ∧ ¬ (25 : Int32) < 0 ∧ (0 : Int32).toNatClampNeg + (25 : Int32).toNatClampNeg ≤ 25 ∧ (0 : Int32).toNatClampNeg + (25 : Int32).toNatClampNeg ≤ 25) ∧ (Q (xC (xC (xI (xC (xC (xC S 24 a0 (va_cpy (S.1 24 a1) (S.1 24 a0) (0 : Int32).toNatClampNeg (0 : Int32).toNatClampNeg (4 : Int32).toNatClampNeg)) 25 a0 (va_cpy ((xC S 24 a0 (va_cpy (S.1 24 a1) (S.1 24 a0) (0 : Int32).toNatClampNeg (0 : Int32).toNatClampNeg (4 : Int32).toNatClampNeg)).1 25 a1) ((xC S 24 a0 (va_cpy (S.1 24 a1) (S.1 24 a0) (0 : Int32).toNatClampNeg (0 : Int32).toNatClampNeg (4 : Int32).toNatClampNeg)).1 25 a0) (0 : Int32).toNatClampNeg (0 : Int32).toNatClampNeg (4 : Int32).toNatClampNeg)) 26 a0 (va_cpy ((xC (xC S 24 a0 (va_cpy (S.1 24 a1) (S.1 24 a0) (0 : Int32).toNatClampNeg (0 : Int32).toNatClampNeg (4 : Int32).toNatClampNeg)) 25 a0 (va_cpy ((xC S 24 a0 (va_cpy (S.1 24 a1) (S.1 24 a0) (0 : Int32).toNatClampNeg (0 : Int32).toNatClampNeg (4 : Int32).toNatClampNeg)).1 25 a1) ((xC S 24 a0 (va_cpy (S.1 24 a1) (S.1 24 a0) (0 : Int32).toNatClampNeg (0 : Int32).toNatClampNeg (4 : Int32).toNatClampNeg)).1 25 a0) (0 : Int32).toNatClampNeg (0 : Int32).toNatClampNeg (4 : Int32).toNatClampNeg)).1 26 a1) ((xC (xC S 24 a0 (va_cpy (S.1 24 a1) (S.1 24 a0) (0 : Int32).toNatClampNeg (0 : Int32).toNatClampNeg (4 : Int32).toNatClampNeg)) 25 a0 (va_cpy ((xC S 24 a0 (va_cpy (S.1 24 a1) (S.1 24 a0) (0 : Int32).toNatClampNeg (0 : Int32).toNatClampNeg (4 : Int32).toNatClampNeg)).1 25 a1) ((xC S 24 a0 (va_cpy (S.1 24 a1) (S.1 24 a0) (0 : Int32).toNatClampNeg (0 : Int32).toNatClampNeg (4 : Int32).toNatClampNeg)).1 25 a0) (0 : Int32).toNatClampNeg (0 : Int32).toNatClampNeg (4 : Int32).toNatClampNeg)).1 26 a0) (0 : Int32).toNatClampNeg (0 : Int32).toNatClampNeg (4 : Int32).toNatClampNeg)) 5 a0 3 ((xC (xC (xC S 24 a0 (va_cpy (S.1 24 a1) (S.1 24 a0) (0 : Int32).toNatClampNeg (0 : Int32).toNatClampNeg (4 : Int32).toNatClampNeg)) 25 a0 (va_cpy ((xC S 24 a0 (va_cpy (S.1 24 a1) (S.1 24 a0) (0 : Int32).toNatClampNeg (0 : Int32).toNatClampNeg (4 : Int32).toNatClampNeg)).1 25 a1) ((xC S 24 a0 (va_cpy (S.1 24 a1) (S.1 24 a0) (0 : Int32).toNatClampNeg (0 : Int32).toNatClampNeg (4 : Int32).toNatClampNeg)).1 25 a0) (0 : Int32).toNatClampNeg (0 : Int32).toNatClampNeg (4 : Int32).toNatClampNeg)) 26 a0 (va_cpy ((xC (xC S 24 a0 (va_cpy (S.1 24 a1) (S.1 24 a0) (0 : Int32).toNatClampNeg (0 : Int32).toNatClampNeg (4 : Int32).toNatClampNeg)) 25 a0 (va_cpy ((xC S 24 a0 (va_cpy (S.1 24 a1) (S.1 24 a0) (0 : Int32).toNatClampNeg (0 : Int32).toNatClampNeg (4 : Int32).toNatClampNeg)).1 25 a1) ((xC S 24 a0 (va_cpy (S.1 24 a1) (S.1 24 a0) (0 : Int32).toNatClampNeg (0 : Int32).toNatClampNeg (4 : Int32).toNatClampNeg)).1 25 a0) (0 : Int32).toNatClampNeg (0 : Int32).toNatClampNeg (4 : Int32).toNatClampNeg)).1 26 a1) ((xC (xC S 24 a0 (va_cpy (S.1 24 a1) (S.1 24 a0) (0 : Int32).toNatClampNeg (0 : Int32).toNatClampNeg (4 : Int32).toNatClampNeg)) 25 a0 (va_cpy ((xC S 24 a0 (va_cpy (S.1 24 a1) (S.1 24 a0) (0 : Int32).toNatClampNeg (0 : Int32).toNatClampNeg (4 : Int32).toNatClampNeg)).1 25 a1) ((xC S 24 a0 (va_cpy (S.1 24 a1) (S.1 24 a0) (0 : Int32).toNatClampNeg (0 : Int32).toNatClampNeg (4 : Int32).toNatClampNeg)).1 25 a0) (0 : Int32).toNatClampNeg (0 : Int32).toNatClampNeg (4 : Int32).toNatClampNeg)).1 26 a0) (0 : Int32).toNatClampNeg (0 : Int32).toNatClampNeg (4 : Int32).toNatClampNeg)).1 5 a1 3)) 27 a0 (va_cpy ((xI (xC (xC (xC S 24 a0 (va_cpy (S.1 24 a1) (S.1 24 a0) (0 : Int32).toNatClampNeg (0 : Int32).toNatClampNeg (4 : Int32).toNatClampNeg)) 25 a0 (va_cpy ((xC S 24 a0 (va_cpy (S.1 24 a1) (S.1 24 a0) (0 : Int32).toNatClampNeg (0 : Int32).toNatClampNeg (4 : Int32).toNatClampNeg)).1 25 a1) ((xC S 24 a0 (va_cpy (S.1 24 a1) (S.1 24 a0) (0 : Int32).toNatClampNeg (0 : Int32).toNatClampNeg (4 : Int32).toNatClampNeg)).1 25 a0) (0 : Int32).toNatClampNeg (0 : Int32).toNatClampNeg (4 : Int32).toNatClampNeg)) 26 a0 (va_cpy ((xC (xC S 24 a0 (va_cpy (S.1 24 a1) (S.1 24 a0) (0 : Int32).toNatClampNeg (0 : Int32).toNatClampNeg (4 : Int32).toNatClampNeg)) 25 a0 (va_cpy ((xC S 24 a0 (va_cpy (S.1 24 a1) (S.1 24 a0) (0 : Int32).toNatClampNeg (0 : Int32).toNatClampNeg (4 : Int32).toNatClampNeg)).1 25 a1) ((xC S 24 a0 (va_cpy (S.1 24 a1) (S.1 24 a0) (0 : Int32).toNatClampNeg (0 : Int32).toNatClampNeg (4 : Int32).toNatClampNeg)).1 25 a0) (0 : Int32).toNatClampNeg (0 : Int32).toNatClampNeg (4 : Int32).toNatClampNeg)).1 26 a1) ((xC (xC S 24 a0 (va_cpy (S.1 24 a1) (S.1 24 a0) (0 : Int32).toNatClampNeg (0 : Int32).toNatClampNeg (4 : Int32).toNatClampNeg)) 25 a0 (va_cpy ((xC S 24 a0 (va_cpy (S.1 24 a1) (S.1 24 a0) (0 : Int32).toNatClampNeg (0 : Int32).toNatClampNeg (4 : Int32).toNatClampNeg)).1 25 a1) ((xC S 24 a0 (va_cpy (S.1 24 a1) (S.1 24 a0) (0 : Int32).toNatClampNeg (0 : Int32).toNatClampNeg (4 : Int32).toNatClampNeg)).1 25 a0) (0 : Int32).toNatClampNeg (0 : Int32).toNatClampNeg (4 : Int32).toNatClampNeg)).1 26 a0) (0 : Int32).toNatClampNeg (0 : Int32).toNatClampNeg (4 : Int32).toNatClampNeg)) 5 a0 3 ((xC (xC (xC S 24 a0 (va_cpy (S.1 24 a1) (S.1 24 a0) (0 : Int32).toNatClampNeg (0 : Int32).toNatClampNeg (4 : Int32).toNatClampNeg)) 25 a0 (va_cpy ((xC S 24 a0 (va_cpy (S.1 24 a1) (S.1 24 a0) (0 : Int32).toNatClampNeg (0 : Int32).toNatClampNeg (4 : Int32).toNatClampNeg)).1 25 a1) ((xC S 24 a0 (va_cpy (S.1 24 a1) (S.1 24 a0) (0 : Int32).toNatClampNeg (0 : Int32).toNatClampNeg (4 : Int32).toNatClampNeg)).1 25 a0) (0 : Int32).toNatClampNeg (0 : Int32).toNatClampNeg (4 : Int32).toNatClampNeg)) 26 a0 (va_cpy ((xC (xC S 24 a0 (va_cpy (S.1 24 a1) (S.1 24 a0) (0 : Int32).toNatClampNeg (0 : Int32).toNatClampNeg (4 : Int32).toNatClampNeg)) 25 a0 (va_cpy ((xC S 24 a0 (va_cpy (S.1 24 a1) (S.1 24 a0) (0 : Int32).toNatClampNeg (0 : Int32).toNatClampNeg (4 : Int32).toNatClampNeg)).1 25 a1) ((xC S 24 a0 (va_cpy (S.1 24 a1) (S.1 24 a0) (0 : Int32).toNatClampNeg (0 : Int32).toNatClampNeg (4 : Int32).toNatClampNeg)).1 25 a0) (0 : Int32).toNatClampNeg (0 : Int32).toNatClampNeg (4 : Int32).toNatClampNeg)).1 26 a1) ((xC (xC S 24 a0 (va_cpy (S.1 24 a1) (S.1 24 a0) (0 : Int32).toNatClampNeg (0 : Int32).toNatClampNeg (4 : Int32).toNatClampNeg)) 25 a0 (va_cpy ((xC S 24 a0 (va_cpy (S.1 24 a1) (S.1 24 a0) (0 : Int32).toNatClampNeg (0 : Int32).toNatClampNeg (4 : Int32).toNatClampNeg)).1 25 a1) ((xC S 24 a0 (va_cpy (S.1 24 a1) (S.1 24 a0) (0 : Int32).toNatClampNeg (0 : Int32).toNatClampNeg (4 : Int32).toNatClampNeg)).1 25 a0) (0 : Int32).toNatClampNeg (0 : Int32).toNatClampNeg (4 : Int32).toNatClampNeg)).1 26 a0) (0 : Int32).toNatClampNeg (0 : Int32).toNatClampNeg (4 : Int32).toNatClampNeg)).1 5 a1 3)).1 27 a1) ((xI (xC (xC (xC S 24 a0 (va_cpy (S.1 24 a1) (S.1 24 a0) (0 : Int32).toNatClampNeg (0 : Int32).toNatClampNeg (4 : Int32).toNatClampNeg)) 25 a0 (va_cpy ((xC S 24 a0 (va_cpy (S.1 24 a1) (S.1 24 a0) (0 : Int32).toNatClampNeg (0 : Int32).toNatClampNeg (4 : Int32).toNatClampNeg)).1 25 a1) ((xC S 24 a0 (va_cpy (S.1 24 a1) (S.1 24 a0) (0 : Int32).toNatClampNeg (0 : Int32).toNatClampNeg (4 : Int32).toNatClampNeg)).1 25 a0) (0 : Int32).toNatClampNeg (0 : Int32).toNatClampNeg (4 : Int32).toNatClampNeg)) 26 a0 (va_cpy ((xC (xC S 24 a0 (va_cpy (S.1 24 a1) (S.1 24 a0) (0 : Int32).toNatClampNeg (0 : Int32).toNatClampNeg (4 : Int32).toNatClampNeg)) 25 a0 (va_cpy ((xC S 24 a0 (va_cpy (S.1 24 a1) (S.1 24 a0) (0 : Int32).toNatClampNeg (0 : Int32).toNatClampNeg (4 : Int32).toNatClampNeg)).1 25 a1) ((xC S 24 a0 (va_cpy (S.1 24 a1) (S.1 24 a0) (0 : Int32).toNatClampNeg (0 : Int32).toNatClampNeg (4 : Int32).toNatClampNeg)).1 25 a0) (0 : Int32).toNatClampNeg (0 : Int32).toNatClampNeg (4 : Int32).toNatClampNeg)).1 26 a1) ((xC (xC S 24 a0 (va_cpy (S.1 24 a1) (S.1 24 a0) (0 : Int32).toNatClampNeg (0 : Int32).toNatClampNeg (4 : Int32).toNatClampNeg)) 25 a0 (va_cpy ((xC S 24 a0 (va_cpy (S.1 24 a1) (S.1 24 a0) (0 : Int32).toNatClampNeg (0 : Int32).toNatClampNeg (4 : Int32).toNatClampNeg)).1 25 a1) ((xC S 24 a0 (va_cpy (S.1 24 a1) (S.1 24 a0) (0 : Int32).toNatClampNeg (0 : Int32).toNatClampNeg (4 : Int32).toNatClampNeg)).1 25 a0) (0 : Int32).toNatClampNeg (0 : Int32).toNatClampNeg (4 : Int32).toNatClampNeg)).1 26 a0) (0 : Int32).toNatClampNeg (0 : Int32).toNatClampNeg (4 : Int32).toNatClampNeg)) 5 a0 3 ((xC (xC (xC S 24 a0 (va_cpy (S.1 24 a1) (S.1 24 a0) (0 : Int32).toNatClampNeg (0 : Int32).toNatClampNeg (4 : Int32).toNatClampNeg)) 25 a0 (va_cpy ((xC S 24 a0 (va_cpy (S.1 24 a1) (S.1 24 a0) (0 : Int32).toNatClampNeg (0 : Int32).toNatClampNeg (4 : Int32).toNatClampNeg)).1 25 a1) ((xC S 24 a0 (va_cpy (S.1 24 a1) (S.1 24 a0) (0 : Int32).toNatClampNeg (0 : Int32).toNatClampNeg (4 : Int32).toNatClampNeg)).1 25 a0) (0 : Int32).toNatClampNeg (0 : Int32).toNatClampNeg (4 : Int32).toNatClampNeg)) 26 a0 (va_cpy ((xC (xC S 24 a0 (va_cpy (S.1 24 a1) (S.1 24 a0) (0 : Int32).toNatClampNeg (0 : Int32).toNatClampNeg (4 : Int32).toNatClampNeg)) 25 a0 (va_cpy ((xC S 24 a0 (va_cpy (S.1 24 a1) (S.1 24 a0) (0 : Int32).toNatClampNeg (0 : Int32).toNatClampNeg (4 : Int32).toNatClampNeg)).1 25 a1) ((xC S 24 a0 (va_cpy (S.1 24 a1) (S.1 24 a0) (0 : Int32).toNatClampNeg (0 : Int32).toNatClampNeg (4 : Int32).toNatClampNeg)).1 25 a0) (0 : Int32).toNatClampNeg (0 : Int32).toNatClampNeg (4 : Int32).toNatClampNeg)).1 26 a1) ((xC (xC S 24 a0 (va_cpy (S.1 24 a1) (S.1 24 a0) (0 : Int32).toNatClampNeg (0 : Int32).toNatClampNeg (4 : Int32).toNatClampNeg)) 25 a0 (va_cpy ((xC S 24 a0 (va_cpy (S.1 24 a1) (S.1 24 a0) (0 : Int32).toNatClampNeg (0 : Int32).toNatClampNeg (4 : Int32).toNatClampNeg)).1 25 a1) ((xC S 24 a0 (va_cpy (S.1 24 a1) (S.1 24 a0) (0 : Int32).toNatClampNeg (0 : Int32).toNatClampNeg (4 : Int32).toNatClampNeg)).1 25 a0) (0 : Int32).toNatClampNeg (0 : Int32).toNatClampNeg (4 : Int32).toNatClampNeg)).1 26 a0) (0 : Int32).toNatClampNeg (0 : Int32).toNatClampNeg (4 : Int32).toNatClampNeg)).1 5 a1 3)).1 27 a0) (0 : Int32).toNatClampNeg (0 : Int32).toNatClampNeg (25 : Int32).toNatClampNeg)) 28 a0 (va_cpy ((xC (xI (xC (xC (xC S 24 a0 (va_cpy (S.1 24 a1) (S.1 24 a0) (0 : Int32).toNatClampNeg (0 : Int32).toNatClampNeg (4 : Int32).toNatClampNeg)) 25 a0 (va_cpy ((xC S 24 a0 (va_cpy (S.1 24 a1) (S.1 24 a0) (0 : Int32).toNatClampNeg (0 : Int32).toNatClampNeg (4 : Int32).toNatClampNeg)).1 25 a1) ((xC S 24 a0 (va_cpy (S.1 24 a1) (S.1 24 a0) (0 : Int32).toNatClampNeg (0 : Int32).toNatClampNeg (4 : Int32).toNatClampNeg)).1 25 a0) (0 : Int32).toNatClampNeg (0 : Int32).toNatClampNeg (4 : Int32).toNatClampNeg)) 26 a0 (va_cpy ((xC (xC S 24 a0 (va_cpy (S.1 24 a1) (S.1 24 a0) (0 : Int32).toNatClampNeg (0 : Int32).toNatClampNeg (4 : Int32).toNatClampNeg)) 25 a0 (va_cpy ((xC S 24 a0 (va_cpy (S.1 24 a1) (S.1 24 a0) (0 : Int32).toNatClampNeg (0 : Int32).toNatClampNeg (4 : Int32).toNatClampNeg)).1 25 a1) ((xC S 24 a0 (va_cpy (S.1 24 a1) (S.1 24 a0) (0 : Int32).toNatClampNeg (0 : Int32).toNatClampNeg (4 : Int32).toNatClampNeg)).1 25 a0) (0 : Int32).toNatClampNeg (0 : Int32).toNatClampNeg (4 : Int32).toNatClampNeg)).1 26 a1) ((xC (xC S 24 a0 (va_cpy (S.1 24 a1) (S.1 24 a0) (0 : Int32).toNatClampNeg (0 : Int32).toNatClampNeg (4 : Int32).toNatClampNeg)) 25 a0 (va_cpy ((xC S 24 a0 (va_cpy (S.1 24 a1) (S.1 24 a0) (0 : Int32).toNatClampNeg (0 : Int32).toNatClampNeg (4 : Int32).toNatClampNeg)).1 25 a1) ((xC S 24 a0 (va_cpy (S.1 24 a1) (S.1 24 a0) (0 : Int32).toNatClampNeg (0 : Int32).toNatClampNeg (4 : Int32).toNatClampNeg)).1 25 a0) (0 : Int32).toNatClampNeg (0 : Int32).toNatClampNeg (4 : Int32).toNatClampNeg)).1 26 a0) (0 : Int32).toNatClampNeg (0 : Int32).toNatClampNeg (4 : Int32).toNatClampNeg)) 5 a0 3 ((xC (xC (xC S 24 a0 (va_cpy (S.1 24 a1) (S.1 24 a0) (0 : Int32).toNatClampNeg (0 : Int32).toNatClampNeg (4 : Int32).toNatClampNeg)) 25 a0 (va_cpy ((xC S 24 a0 (va_cpy (S.1 24 a1) (S.1 24 a0) (0 : Int32).toNatClampNeg (0 : Int32).toNatClampNeg (4 : Int32).toNatClampNeg)).1 25 a1) ((xC S 24 a0 (va_cpy (S.1 24 a1) (S.1 24 a0) (0 : Int32).toNatClampNeg (0 : Int32).toNatClampNeg (4 : Int32).toNatClampNeg)).1 25 a0) (0 : Int32).toNatClampNeg (0 : Int32).toNatClampNeg (4 : Int32).toNatClampNeg)) 26 a0 (va_cpy ((xC (xC S 24 a0 (va_cpy (S.1 24 a1) (S.1 24 a0) (0 : Int32).toNatClampNeg (0 : Int32).toNatClampNeg (4 : Int32).toNatClampNeg)) 25 a0 (va_cpy ((xC S 24 a0 (va_cpy (S.1 24 a1) (S.1 24 a0) (0 : Int32).toNatClampNeg (0 : Int32).toNatClampNeg (4 : Int32).toNatClampNeg)).1 25 a1) ((xC S 24 a0 (va_cpy (S.1 24 a1) (S.1 24 a0) (0 : Int32).toNatClampNeg (0 : Int32).toNatClampNeg (4 : Int32).toNatClampNeg)).1 25 a0) (0 : Int32).toNatClampNeg (0 : Int32).toNatClampNeg (4 : Int32).toNatClampNeg)).1 26 a1) ((xC (xC S 24 a0 (va_cpy (S.1 24 a1) (S.1 24 a0) (0 : Int32).toNatClampNeg (0 : Int32).toNatClampNeg (4 : Int32).toNatClampNeg)) 25 a0 (va_cpy ((xC S 24 a0 (va_cpy (S.1 24 a1) (S.1 24 a0) (0 : Int32).toNatClampNeg (0 : Int32).toNatClampNeg (4 : Int32).toNatClampNeg)).1 25 a1) ((xC S 24 a0 (va_cpy (S.1 24 a1) (S.1 24 a0) (0 : Int32).toNatClampNeg (0 : Int32).toNatClampNeg (4 : Int32).toNatClampNeg)).1 25 a0) (0 : Int32).toNatClampNeg (0 : Int32).toNatClampNeg (4 : Int32).toNatClampNeg)).1 26 a0) (0 : Int32).toNatClampNeg (0 : Int32).toNatClampNeg (4 : Int32).toNatClampNeg)).1 5 a1 3)) 27 a0 (va_cpy ((xI (xC (xC (xC S 24 a0 (va_cpy (S.1 24 a1) (S.1 24 a0) (0 : Int32).toNatClampNeg (0 : Int32).toNatClampNeg (4 : Int32).toNatClampNeg)) 25 a0 (va_cpy ((xC S 24 a0 (va_cpy (S.1 24 a1) (S.1 24 a0) (0 : Int32).toNatClampNeg (0 : Int32).toNatClampNeg (4 : Int32).toNatClampNeg)).1 25 a1) ((xC S 24 a0 (va_cpy (S.1 24 a1) (S.1 24 a0) (0 : Int32).toNatClampNeg (0 : Int32).toNatClampNeg (4 : Int32).toNatClampNeg)).1 25 a0) (0 : Int32).toNatClampNeg (0 : Int32).toNatClampNeg (4 : Int32).toNatClampNeg)) 26 a0 (va_cpy ((xC (xC S 24 a0 (va_cpy (S.1 24 a1) (S.1 24 a0) (0 : Int32).toNatClampNeg (0 : Int32).toNatClampNeg (4 : Int32).toNatClampNeg)) 25 a0 (va_cpy ((xC S 24 a0 (va_cpy (S.1 24 a1) (S.1 24 a0) (0 : Int32).toNatClampNeg (0 : Int32).toNatClampNeg (4 : Int32).toNatClampNeg)).1 25 a1) ((xC S 24 a0 (va_cpy (S.1 24 a1) (S.1 24 a0) (0 : Int32).toNatClampNeg (0 : Int32).toNatClampNeg (4 : Int32).toNatClampNeg)).1 25 a0) (0 : Int32).toNatClampNeg (0 : Int32).toNatClampNeg (4 : Int32).toNatClampNeg)).1 26 a1) ((xC (xC S 24 a0 (va_cpy (S.1 24 a1) (S.1 24 a0) (0 : Int32).toNatClampNeg (0 : Int32).toNatClampNeg (4 : Int32).toNatClampNeg)) 25 a0 (va_cpy ((xC S 24 a0 (va_cpy (S.1 24 a1) (S.1 24 a0) (0 : Int32).toNatClampNeg (0 : Int32).toNatClampNeg (4 : Int32).toNatClampNeg)).1 25 a1) ((xC S 24 a0 (va_cpy (S.1 24 a1) (S.1 24 a0) (0 : Int32).toNatClampNeg (0 : Int32).toNatClampNeg (4 : Int32).toNatClampNeg)).1 25 a0) (0 : Int32).toNatClampNeg (0 : Int32).toNatClampNeg (4 : Int32).toNatClampNeg)).1 26 a0) (0 : Int32).toNatClampNeg (0 : Int32).toNatClampNeg (4 : Int32).toNatClampNeg)) 5 a0 3 ((xC (xC (xC S 24 a0 (va_cpy (S.1 24 a1) (S.1 24 a0) (0 : Int32).toNatClampNeg (0 : Int32).toNatClampNeg (4 : Int32).toNatClampNeg)) 25 a0 (va_cpy ((xC S 24 a0 (va_cpy (S.1 24 a1) (S.1 24 a0) (0 : Int32).toNatClampNeg (0 : Int32).toNatClampNeg (4 : Int32).toNatClampNeg)).1 25 a1) ((xC S 24 a0 (va_cpy (S.1 24 a1) (S.1 24 a0) (0 : Int32).toNatClampNeg (0 : Int32).toNatClampNeg (4 : Int32).toNatClampNeg)).1 25 a0) (0 : Int32).toNatClampNeg (0 : Int32).toNatClampNeg (4 : Int32).toNatClampNeg)) 26 a0 (va_cpy ((xC (xC S 24 a0 (va_cpy (S.1 24 a1) (S.1 24 a0) (0 : Int32).toNatClampNeg (0 : Int32).toNatClampNeg (4 : Int32).toNatClampNeg)) 25 a0 (va_cpy ((xC S 24 a0 (va_cpy (S.1 24 a1) (S.1 24 a0) (0 : Int32).toNatClampNeg (0 : Int32).toNatClampNeg (4 : Int32).toNatClampNeg)).1 25 a1) ((xC S 24 a0 (va_cpy (S.1 24 a1) (S.1 24 a0) (0 : Int32).toNatClampNeg (0 : Int32).toNatClampNeg (4 : Int32).toNatClampNeg)).1 25 a0) (0 : Int32).toNatClampNeg (0 : Int32).toNatClampNeg (4 : Int32).toNatClampNeg)).1 26 a1) ((xC (xC S 24 a0 (va_cpy (S.1 24 a1) (S.1 24 a0) (0 : Int32).toNatClampNeg (0 : Int32).toNatClampNeg (4 : Int32).toNatClampNeg)) 25 a0 (va_cpy ((xC S 24 a0 (va_cpy (S.1 24 a1) (S.1 24 a0) (0 : Int32).toNatClampNeg (0 : Int32).toNatClampNeg (4 : Int32).toNatClampNeg)).1 25 a1) ((xC S 24 a0 (va_cpy (S.1 24 a1) (S.1 24 a0) (0 : Int32).toNatClampNeg (0 : Int32).toNatClampNeg (4 : Int32).toNatClampNeg)).1 25 a0) (0 : Int32).toNatClampNeg (0 : Int32).toNatClampNeg (4 : Int32).toNatClampNeg)).1 26 a0) (0 : Int32).toNatClampNeg (0 : Int32).toNatClampNeg (4 : Int32).toNatClampNeg)).1 5 a1 3)).1 27 a1) ((xI (xC (xC (xC S 24 a0 (va_cpy (S.1 24 a1) (S.1 24 a0) (0 : Int32).toNatClampNeg (0 : Int32).toNatClampNeg (4 : Int32).toNatClampNeg)) 25 a0 (va_cpy ((xC S 24 a0 (va_cpy (S.1 24 a1) (S.1 24 a0) (0 : Int32).toNatClampNeg (0 : Int32).toNatClampNeg (4 : Int32).toNatClampNeg)).1 25 a1) ((xC S 24 a0 (va_cpy (S.1 24 a1) (S.1 24 a0) (0 : Int32).toNatClampNeg (0 : Int32).toNatClampNeg (4 : Int32).toNatClampNeg)).1 25 a0) (0 : Int32).toNatClampNeg (0 : Int32).toNatClampNeg (4 : Int32).toNatClampNeg)) 26 a0 (va_cpy ((xC (xC S 24 a0 (va_cpy (S.1 24 a1) (S.1 24 a0) (0 : Int32).toNatClampNeg (0 : Int32).toNatClampNeg (4 : Int32).toNatClampNeg)) 25 a0 (va_cpy ((xC S 24 a0 (va_cpy (S.1 24 a1) (S.1 24 a0) (0 : Int32).toNatClampNeg (0 : Int32).toNatClampNeg (4 : Int32).toNatClampNeg)).1 25 a1) ((xC S 24 a0 (va_cpy (S.1 24 a1) (S.1 24 a0) (0 : Int32).toNatClampNeg (0 : Int32).toNatClampNeg (4 : Int32).toNatClampNeg)).1 25 a0) (0 : Int32).toNatClampNeg (0 : Int32).toNatClampNeg (4 : Int32).toNatClampNeg)).1 26 a1) ((xC (xC S 24 a0 (va_cpy (S.1 24 a1) (S.1 24 a0) (0 : Int32).toNatClampNeg (0 : Int32).toNatClampNeg (4 : Int32).toNatClampNeg)) 25 a0 (va_cpy ((xC S 24 a0 (va_cpy (S.1 24 a1) (S.1 24 a0) (0 : Int32).toNatClampNeg (0 : Int32).toNatClampNeg (4 : Int32).toNatClampNeg)).1 25 a1) ((xC S 24 a0 (va_cpy (S.1 24 a1) (S.1 24 a0) (0 : Int32).toNatClampNeg (0 : Int32).toNatClampNeg (4 : Int32).toNatClampNeg)).1 25 a0) (0 : Int32).toNatClampNeg (0 : Int32).toNatClampNeg (4 : Int32).toNatClampNeg)).1 26 a0) (0 : Int32).toNatClampNeg (0 : Int32).toNatClampNeg (4 : Int32).toNatClampNeg)) 5 a0 3 ((xC (xC (xC S 24 a0 (va_cpy (S.1 24 a1) (S.1 24 a0) (0 : Int32).toNatClampNeg (0 : Int32).toNatClampNeg (4 : Int32).toNatClampNeg)) 25 a0 (va_cpy ((xC S 24 a0 (va_cpy (S.1 24 a1) (S.1 24 a0) (0 : Int32).toNatClampNeg (0 : Int32).toNatClampNeg (4 : Int32).toNatClampNeg)).1 25 a1) ((xC S 24 a0 (va_cpy (S.1 24 a1) (S.1 24 a0) (0 : Int32).toNatClampNeg (0 : Int32).toNatClampNeg (4 : Int32).toNatClampNeg)).1 25 a0) (0 : Int32).toNatClampNeg (0 : Int32).toNatClampNeg (4 : Int32).toNatClampNeg)) 26 a0 (va_cpy ((xC (xC S 24 a0 (va_cpy (S.1 24 a1) (S.1 24 a0) (0 : Int32).toNatClampNeg (0 : Int32).toNatClampNeg (4 : Int32).toNatClampNeg)) 25 a0 (va_cpy ((xC S 24 a0 (va_cpy (S.1 24 a1) (S.1 24 a0) (0 : Int32).toNatClampNeg (0 : Int32).toNatClampNeg (4 : Int32).toNatClampNeg)).1 25 a1) ((xC S 24 a0 (va_cpy (S.1 24 a1) (S.1 24 a0) (0 : Int32).toNatClampNeg (0 : Int32).toNatClampNeg (4 : Int32).toNatClampNeg)).1 25 a0) (0 : Int32).toNatClampNeg (0 : Int32).toNatClampNeg (4 : Int32).toNatClampNeg)).1 26 a1) ((xC (xC S 24 a0 (va_cpy (S.1 24 a1) (S.1 24 a0) (0 : Int32).toNatClampNeg (0 : Int32).toNatClampNeg (4 : Int32).toNatClampNeg)) 25 a0 (va_cpy ((xC S 24 a0 (va_cpy (S.1 24 a1) (S.1 24 a0) (0 : Int32).toNatClampNeg (0 : Int32).toNatClampNeg (4 : Int32).toNatClampNeg)).1 25 a1) ((xC S 24 a0 (va_cpy (S.1 24 a1) (S.1 24 a0) (0 : Int32).toNatClampNeg (0 : Int32).toNatClampNeg (4 : Int32).toNatClampNeg)).1 25 a0) (0 : Int32).toNatClampNeg (0 : Int32).toNatClampNeg (4 : Int32).toNatClampNeg)).1 26 a0) (0 : Int32).toNatClampNeg (0 : Int32).toNatClampNeg (4 : Int32).toNatClampNeg)).1 5 a1 3)).1 27 a0) (0 : Int32).toNatClampNeg (0 : Int32).toNatClampNeg (25 : Int32).toNatClampNeg)).1 28 a1) ((xC (xI (xC (xC (xC S 24 a0 (va_cpy (S.1 24 a1) (S.1 24 a0) (0 : Int32).toNatClampNeg (0 : Int32).toNatClampNeg (4 : Int32).toNatClampNeg)) 25 a0 (va_cpy ((xC S 24 a0 (va_cpy (S.1 24 a1) (S.1 24 a0) (0 : Int32).toNatClampNeg (0 : Int32).toNatClampNeg (4 : Int32).toNatClampNeg)).1 25 a1) ((xC S 24 a0 (va_cpy (S.1 24 a1) (S.1 24 a0) (0 : Int32).toNatClampNeg (0 : Int32).toNatClampNeg (4 : Int32).toNatClampNeg)).1 25 a0) (0 : Int32).toNatClampNeg (0 : Int32).toNatClampNeg (4 : Int32).toNatClampNeg)) 26 a0 (va_cpy ((xC (xC S 24 a0 (va_cpy (S.1 24 a1) (S.1 24 a0) (0 : Int32).toNatClampNeg (0 : Int32).toNatClampNeg (4 : Int32).toNatClampNeg)) 25 a0 (va_cpy ((xC S 24 a0 (va_cpy (S.1 24 a1) (S.1 24 a0) (0 : Int32).toNatClampNeg (0 : Int32).toNatClampNeg (4 : Int32).toNatClampNeg)).1 25 a1) ((xC S 24 a0 (va_cpy (S.1 24 a1) (S.1 24 a0) (0 : Int32).toNatClampNeg (0 : Int32).toNatClampNeg (4 : Int32).toNatClampNeg)).1 25 a0) (0 : Int32).toNatClampNeg (0 : Int32).toNatClampNeg (4 : Int32).toNatClampNeg)).1 26 a1) ((xC (xC S 24 a0 (va_cpy (S.1 24 a1) (S.1 24 a0) (0 : Int32).toNatClampNeg (0 : Int32).toNatClampNeg (4 : Int32).toNatClampNeg)) 25 a0 (va_cpy ((xC S 24 a0 (va_cpy (S.1 24 a1) (S.1 24 a0) (0 : Int32).toNatClampNeg (0 : Int32).toNatClampNeg (4 : Int32).toNatClampNeg)).1 25 a1) ((xC S 24 a0 (va_cpy (S.1 24 a1) (S.1 24 a0) (0 : Int32).toNatClampNeg (0 : Int32).toNatClampNeg (4 : Int32).toNatClampNeg)).1 25 a0) (0 : Int32).toNatClampNeg (0 : Int32).toNatClampNeg (4 : Int32).toNatClampNeg)).1 26 a0) (0 : Int32).toNatClampNeg (0 : Int32).toNatClampNeg (4 : Int32).toNatClampNeg)) 5 a0 3 ((xC (xC (xC S 24 a0 (va_cpy (S.1 24 a1) (S.1 24 a0) (0 : Int32).toNatClampNeg (0 : Int32).toNatClampNeg (4 : Int32).toNatClampNeg)) 25 a0 (va_cpy ((xC S 24 a0 (va_cpy (S.1 24 a1) (S.1 24 a0) (0 : Int32).toNatClampNeg (0 : Int32).toNatClampNeg (4 : Int32).toNatClampNeg)).1 25 a1) ((xC S 24 a0 (va_cpy (S.1 24 a1) (S.1 24 a0) (0 : Int32).toNatClampNeg (0 : Int32).toNatClampNeg (4 : Int32).toNatClampNeg)).1 25 a0) (0 : Int32).toNatClampNeg (0 : Int32).toNatClampNeg (4 : Int32).toNatClampNeg)) 26 a0 (va_cpy ((xC (xC S 24 a0 (va_cpy (S.1 24 a1) (S.1 24 a0) (0 : Int32).toNatClampNeg (0 : Int32).toNatClampNeg (4 : Int32).toNatClampNeg)) 25 a0 (va_cpy ((xC S 24 a0 (va_cpy (S.1 24 a1) (S.1 24 a0) (0 : Int32).toNatClampNeg (0 : Int32).toNatClampNeg (4 : Int32).toNatClampNeg)).1 25 a1) ((xC S 24 a0 (va_cpy (S.1 24 a1) (S.1 24 a0) (0 : Int32).toNatClampNeg (0 : Int32).toNatClampNeg (4 : Int32).toNatClampNeg)).1 25 a0) (0 : Int32).toNatClampNeg (0 : Int32).toNatClampNeg (4 : Int32).toNatClampNeg)).1 26 a1) ((xC (xC S 24 a0 (va_cpy (S.1 24 a1) (S.1 24 a0) (0 : Int32).toNatClampNeg (0 : Int32).toNatClampNeg (4 : Int32).toNatClampNeg)) 25 a0 (va_cpy ((xC S 24 a0 (va_cpy (S.1 24 a1) (S.1 24 a0) (0 : Int32).toNatClampNeg (0 : Int32).toNatClampNeg (4 : Int32).toNatClampNeg)).1 25 a1) ((xC S 24 a0 (va_cpy (S.1 24 a1) (S.1 24 a0) (0 : Int32).toNatClampNeg (0 : Int32).toNatClampNeg (4 : Int32).toNatClampNeg)).1 25 a0) (0 : Int32).toNatClampNeg (0 : Int32).toNatClampNeg (4 : Int32).toNatClampNeg)).1 26 a0) (0 : Int32).toNatClampNeg (0 : Int32).toNatClampNeg (4 : Int32).toNatClampNeg)).1 5 a1 3)) 27 a0 (va_cpy ((xI (xC (xC (xC S 24 a0 (va_cpy (S.1 24 a1) (S.1 24 a0) (0 : Int32).toNatClampNeg (0 : Int32).toNatClampNeg (4 : Int32).toNatClampNeg)) 25 a0 (va_cpy ((xC S 24 a0 (va_cpy (S.1 24 a1) (S.1 24 a0) (0 : Int32).toNatClampNeg (0 : Int32).toNatClampNeg (4 : Int32).toNatClampNeg)).1 25 a1) ((xC S 24 a0 (va_cpy (S.1 24 a1) (S.1 24 a0) (0 : Int32).toNatClampNeg (0 : Int32).toNatClampNeg (4 : Int32).toNatClampNeg)).1 25 a0) (0 : Int32).toNatClampNeg (0 : Int32).toNatClampNeg (4 : Int32).toNatClampNeg)) 26 a0 (va_cpy ((xC (xC S 24 a0 (va_cpy (S.1 24 a1) (S.1 24 a0) (0 : Int32).toNatClampNeg (0 : Int32).toNatClampNeg (4 : Int32).toNatClampNeg)) 25 a0 (va_cpy ((xC S 24 a0 (va_cpy (S.1 24 a1) (S.1 24 a0) (0 : Int32).toNatClampNeg (0 : Int32).toNatClampNeg (4 : Int32).toNatClampNeg)).1 25 a1) ((xC S 24 a0 (va_cpy (S.1 24 a1) (S.1 24 a0) (0 : Int32).toNatClampNeg (0 : Int32).toNatClampNeg (4 : Int32).toNatClampNeg)).1 25 a0) (0 : Int32).toNatClampNeg (0 : Int32).toNatClampNeg (4 : Int32).toNatClampNeg)).1 26 a1) ((xC (xC S 24 a0 (va_cpy (S.1 24 a1) (S.1 24 a0) (0 : Int32).toNatClampNeg (0 : Int32).toNatClampNeg (4 : Int32).toNatClampNeg)) 25 a0 (va_cpy ((xC S 24 a0 (va_cpy (S.1 24 a1) (S.1 24 a0) (0 : Int32).toNatClampNeg (0 : Int32).toNatClampNeg (4 : Int32).toNatClampNeg)).1 25 a1) ((xC S 24 a0 (va_cpy (S.1 24 a1) (S.1 24 a0) (0 : Int32).toNatClampNeg (0 : Int32).toNatClampNeg (4 : Int32).toNatClampNeg)).1 25 a0) (0 : Int32).toNatClampNeg (0 : Int32).toNatClampNeg (4 : Int32).toNatClampNeg)).1 26 a0) (0 : Int32).toNatClampNeg (0 : Int32).toNatClampNeg (4 : Int32).toNatClampNeg)) 5 a0 3 ((xC (xC (xC S 24 a0 (va_cpy (S.1 24 a1) (S.1 24 a0) (0 : Int32).toNatClampNeg (0 : Int32).toNatClampNeg (4 : Int32).toNatClampNeg)) 25 a0 (va_cpy ((xC S 24 a0 (va_cpy (S.1 24 a1) (S.1 24 a0) (0 : Int32).toNatClampNeg (0 : Int32).toNatClampNeg (4 : Int32).toNatClampNeg)).1 25 a1) ((xC S 24 a0 (va_cpy (S.1 24 a1) (S.1 24 a0) (0 : Int32).toNatClampNeg (0 : Int32).toNatClampNeg (4 : Int32).toNatClampNeg)).1 25 a0) (0 : Int32).toNatClampNeg (0 : Int32).toNatClampNeg (4 : Int32).toNatClampNeg)) 26 a0 (va_cpy ((xC (xC S 24 a0 (va_cpy (S.1 24 a1) (S.1 24 a0) (0 : Int32).toNatClampNeg (0 : Int32).toNatClampNeg (4 : Int32).toNatClampNeg)) 25 a0 (va_cpy ((xC S 24 a0 (va_cpy (S.1 24 a1) (S.1 24 a0) (0 : Int32).toNatClampNeg (0 : Int32).toNatClampNeg (4 : Int32).toNatClampNeg)).1 25 a1) ((xC S 24 a0 (va_cpy (S.1 24 a1) (S.1 24 a0) (0 : Int32).toNatClampNeg (0 : Int32).toNatClampNeg (4 : Int32).toNatClampNeg)).1 25 a0) (0 : Int32).toNatClampNeg (0 : Int32).toNatClampNeg (4 : Int32).toNatClampNeg)).1 26 a1) ((xC (xC S 24 a0 (va_cpy (S.1 24 a1) (S.1 24 a0) (0 : Int32).toNatClampNeg (0 : Int32).toNatClampNeg (4 : Int32).toNatClampNeg)) 25 a0 (va_cpy ((xC S 24 a0 (va_cpy (S.1 24 a1) (S.1 24 a0) (0 : Int32).toNatClampNeg (0 : Int32).toNatClampNeg (4 : Int32).toNatClampNeg)).1 25 a1) ((xC S 24 a0 (va_cpy (S.1 24 a1) (S.1 24 a0) (0 : Int32).toNatClampNeg (0 : Int32).toNatClampNeg (4 : Int32).toNatClampNeg)).1 25 a0) (0 : Int32).toNatClampNeg (0 : Int32).toNatClampNeg (4 : Int32).toNatClampNeg)).1 26 a0) (0 : Int32).toNatClampNeg (0 : Int32).toNatClampNeg (4 : Int32).toNatClampNeg)).1 5 a1 3)).1 27 a1) ((xI (xC (xC (xC S 24 a0 (va_cpy (S.1 24 a1) (S.1 24 a0) (0 : Int32).toNatClampNeg (0 : Int32).toNatClampNeg (4 : Int32).toNatClampNeg)) 25 a0 (va_cpy ((xC S 24 a0 (va_cpy (S.1 24 a1) (S.1 24 a0) (0 : Int32).toNatClampNeg (0 : Int32).toNatClampNeg (4 : Int32).toNatClampNeg)).1 25 a1) ((xC S 24 a0 (va_cpy (S.1 24 a1) (S.1 24 a0) (0 : Int32).toNatClampNeg (0 : Int32).toNatClampNeg (4 : Int32).toNatClampNeg)).1 25 a0) (0 : Int32).toNatClampNeg (0 : Int32).toNatClampNeg (4 : Int32).toNatClampNeg)) 26 a0 (va_cpy ((xC (xC S 24 a0 (va_cpy (S.1 24 a1) (S.1 24 a0) (0 : Int32).toNatClampNeg (0 : Int32).toNatClampNeg (4 : Int32).toNatClampNeg)) 25 a0 (va_cpy ((xC S 24 a0 (va_cpy (S.1 24 a1) (S.1 24 a0) (0 : Int32).toNatClampNeg (0 : Int32).toNatClampNeg (4 : Int32).toNatClampNeg)).1 25 a1) ((xC S 24 a0 (va_cpy (S.1 24 a1) (S.1 24 a0) (0 : Int32).toNatClampNeg (0 : Int32).toNatClampNeg (4 : Int32).toNatClampNeg)).1 25 a0) (0 : Int32).toNatClampNeg (0 : Int32).toNatClampNeg (4 : Int32).toNatClampNeg)).1 26 a1) ((xC (xC S 24 a0 (va_cpy (S.1 24 a1) (S.1 24 a0) (0 : Int32).toNatClampNeg (0 : Int32).toNatClampNeg (4 : Int32).toNatClampNeg)) 25 a0 (va_cpy ((xC S 24 a0 (va_cpy (S.1 24 a1) (S.1 24 a0) (0 : Int32).toNatClampNeg (0 : Int32).toNatClampNeg (4 : Int32).toNatClampNeg)).1 25 a1) ((xC S 24 a0 (va_cpy (S.1 24 a1) (S.1 24 a0) (0 : Int32).toNatClampNeg (0 : Int32).toNatClampNeg (4 : Int32).toNatClampNeg)).1 25 a0) (0 : Int32).toNatClampNeg (0 : Int32).toNatClampNeg (4 : Int32).toNatClampNeg)).1 26 a0) (0 : Int32).toNatClampNeg (0 : Int32).toNatClampNeg (4 : Int32).toNatClampNeg)) 5 a0 3 ((xC (xC (xC S 24 a0 (va_cpy (S.1 24 a1) (S.1 24 a0) (0 : Int32).toNatClampNeg (0 : Int32).toNatClampNeg (4 : Int32).toNatClampNeg)) 25 a0 (va_cpy ((xC S 24 a0 (va_cpy (S.1 24 a1) (S.1 24 a0) (0 : Int32).toNatClampNeg (0 : Int32).toNatClampNeg (4 : Int32).toNatClampNeg)).1 25 a1) ((xC S 24 a0 (va_cpy (S.1 24 a1) (S.1 24 a0) (0 : Int32).toNatClampNeg (0 : Int32).toNatClampNeg (4 : Int32).toNatClampNeg)).1 25 a0) (0 : Int32).toNatClampNeg (0 : Int32).toNatClampNeg (4 : Int32).toNatClampNeg)) 26 a0 (va_cpy ((xC (xC S 24 a0 (va_cpy (S.1 24 a1) (S.1 24 a0) (0 : Int32).toNatClampNeg (0 : Int32).toNatClampNeg (4 : Int32).toNatClampNeg)) 25 a0 (va_cpy ((xC S 24 a0 (va_cpy (S.1 24 a1) (S.1 24 a0) (0 : Int32).toNatClampNeg (0 : Int32).toNatClampNeg (4 : Int32).toNatClampNeg)).1 25 a1) ((xC S 24 a0 (va_cpy (S.1 24 a1) (S.1 24 a0) (0 : Int32).toNatClampNeg (0 : Int32).toNatClampNeg (4 : Int32).toNatClampNeg)).1 25 a0) (0 : Int32).toNatClampNeg (0 : Int32).toNatClampNeg (4 : Int32).toNatClampNeg)).1 26 a1) ((xC (xC S 24 a0 (va_cpy (S.1 24 a1) (S.1 24 a0) (0 : Int32).toNatClampNeg (0 : Int32).toNatClampNeg (4 : Int32).toNatClampNeg)) 25 a0 (va_cpy ((xC S 24 a0 (va_cpy (S.1 24 a1) (S.1 24 a0) (0 : Int32).toNatClampNeg (0 : Int32).toNatClampNeg (4 : Int32).toNatClampNeg)).1 25 a1) ((xC S 24 a0 (va_cpy (S.1 24 a1) (S.1 24 a0) (0 : Int32).toNatClampNeg (0 : Int32).toNatClampNeg (4 : Int32).toNatClampNeg)).1 25 a0) (0 : Int32).toNatClampNeg (0 : Int32).toNatClampNeg (4 : Int32).toNatClampNeg)).1 26 a0) (0 : Int32).toNatClampNeg (0 : Int32).toNatClampNeg (4 : Int32).toNatClampNeg)).1 5 a1 3)).1 27 a0) (0 : Int32).toNatClampNeg (0 : Int32).toNatClampNeg (25 : Int32).toNatClampNeg)).1 28 a0) (0 : Int32).toNatClampNeg (0 : Int32).toNatClampNeg (25 : Int32).toNatClampNeg))))))))
def wp_X1_copyFrom_85_b (a0 : Nat) (a1 : Nat) (K85 : xS → Int32 → Prop) (Q : xS → Prop) (S : xS) (v2 : Int32) : Prop :=
  (if (S.1 1 a0 6) ≤ v2 then (Q S) else ((vp_in v2 5 ∧ (S.2.2 16 a0 v2.toNatClampNeg) < 60) ∧ ((vp_in v2 5 ∧ (S.2.2 16 a1 v2.toNatClampNeg) < 60) ∧ (wp_X5_copyFrom (S.2.2 16 a0 v2.toNatClampNeg) (S.2.2 16 a1 v2.toNatClampNeg) S (fun S5 => (K85 S5 (v2 + (1 : Int32))))))))
def wp_X1_copyFrom_85 (a0 : Nat) (a1 : Nat) (Q : xS → Prop) : Nat → xS → Int32 → Prop
  | 0 => fun _ _ => False
  | n + 1 => fun S v2 => wp_X1_copyFrom_85_b a0 a1 (wp_X1_copyFrom_85 a0 a1 Q n) Q S v2
def wp_X1_copyFrom (a0 : Nat) (a1 : Nat) (S : xS) (Q : xS → Prop) : Prop :=
  (((S.1 1 a1 0) = 0 ∨ (S.1 1 a1 0) = 1) ∧ ((¬ (0 : Int32) < 0 ∧ ¬ (0 : Int32) < 0 ∧ ¬ (25 : Int32) < 0 ∧ (0 : Int32).toNatClampNeg + (25 : Int32).toNatClampNeg ≤ 25 ∧ (0 : Int32).toNatClampNeg + (25 : Int32).toNatClampNeg ≤ 25) ∧ ((¬ (0 : Int32) < 0 ∧ ¬ (0 : Int32) < 0 ∧ ¬ (25 : Int32) < 0 ∧ (0 : Int32).toNatClampNeg + (25 : Int32).toNatClampNeg ≤ 25 ∧ (0 : Int32).toNatClampNeg + (25 : Int32).toNatClampNeg ≤ 25) ∧ ((¬ (0 : Int32) < 0 ∧ ¬ (0 : Int32) < 0 ∧ ¬ (25 : Int32) < 0 ∧ (0 : Int32).toNatClampNeg + (25 : Int32).toNatClampNeg ≤ 25 ∧ (0 : Int32).toNatClampNeg + (25 : Int32).toNatClampNeg ≤ 25) ∧ ((¬ (0 : Int32) < 0 ∧ ¬ (0 : Int32) < 0 ∧ ¬ (5 : Int32) < 0 ∧ (0 : Int32).toNatClampNeg + (5 : Int32).toNatClampNeg ≤ 5 ∧ (0 : Int32).toNatClampNeg + (5 : Int32).toNatClampNeg ≤ 5) ∧ (∃ n6, wp_X1_copyFrom_85 a0 a1 Q n6 (xI (xC (xC (xC (xC (xI (xI S 1 a0 0 (S.1 1 a1 0)) 1 a0 1 ((xI S 1 a0 0 (S.1 1 a1 0)).1 1 a1 1)) 12 a0 (va_cpy ((xI (xI S 1 a0 0 (S.1 1 a1 0)) 1 a0 1 ((xI S 1 a0 0 (S.1 1 a1 0)).1 1 a1 1)).1 12 a1) ((xI (xI S 1 a0 0 (S.1 1 a1 0)) 1 a0 1 ((xI S 1 a0 0 (S.1 1 a1 0)).1 1 a1 1)).1 12 a0) (0 : Int32).toNatClampNeg (0 : Int32).toNatClampNeg (25 : Int32).toNatClampNeg)) 13 a0 (va_cpy ((xC (xI (xI S 1 a0 0 (S.1 1 a1 0)) 1 a0 1 ((xI S 1 a0 0 (S.1 1 a1 0)).1 1 a1 1)) 12 a0 (va_cpy ((xI (xI S 1 a0 0 (S.1 1 a1 0)) 1 a0 1 ((xI S 1 a0 0 (S.1 1 a1 0)).1 1 a1 1)).1 12 a1) ((xI (xI S 1 a0 0 (S.1 1 a1 0)) 1 a0 1 ((xI S 1 a0 0 (S.1 1 a1 0)).1 1 a1 1)).1 12 a0) (0 : Int32).toNatClampNeg (0 : Int32).toNatClampNeg (25 : Int32).toNatClampNeg)).1 13 a1) ((xC (xI (xI S 1 a0 0 (S.1 1 a1 0)) 1 a0 1 ((xI S 1 a0 0 (S.1 1 a1 0)).1 1 a1 1)) 12 a0 (va_cpy ((xI (xI S 1 a0 0 (S.1 1 a1 0)) 1 a0 1 ((xI S 1 a0 0 (S.1 1 a1 0)).1 1 a1 1)).1 12 a1) ((xI (xI S 1 a0 0 (S.1 1 a1 0)) 1 a0 1 ((xI S 1 a0 0 (S.1 1 a1 0)).1 1 a1 1)).1 12 a0) (0 : Int32).toNatClampNeg (0 : Int32).toNatClampNeg (25 : Int32).toNatClampNeg)).1 13 a0) (0 : Int32).toNatClampNeg (0 : Int32).toNatClampNeg (25 : Int32).toNatClampNeg)) 14 a0 (va_cpy ((xC (xC (xI (xI S 1 a0 0 (S.1 1 a1 0)) 1 a0 1 ((xI S 1 a0 0 (S.1 1 a1 0)).1 1 a1 1)) 12 a0 (va_cpy ((xI (xI S 1 a0 0 (S.1 1 a1 0)) 1 a0 1 ((xI S 1 a0 0 (S.1 1 a1 0)).1 1 a1 1)).1 12 a1) ((xI (xI S 1 a0 0 (S.1 1 a1 0)) 1 a0 1 ((xI S 1 a0 0 (S.1 1 a1 0)).1 1 a1 1)).1 12 a0) (0 : Int32).toNatClampNeg (0 : Int32).toNatClampNeg (25 : Int32).toNatClampNeg)) 13 a0 (va_cpy ((xC (xI (xI S 1 a0 0 (S.1 1 a1 0)) 1 a0 1 ((xI S 1 a0 0 (S.1 1 a1 0)).1 1 a1 1)) 12 a0 (va_cpy ((xI (xI S 1 a0 0 (S.1 1 a1 0)) 1 a0 1 ((xI S 1 a0 0 (S.1 1 a1 0)).1 1 a1 1)).1 12 a1) ((xI (xI S 1 a0 0 (S.1 1 a1 0)) 1 a0 1 ((xI S 1 a0 0 (S.1 1 a1 0)).1 1 a1 1)).1 12 a0) (0 : Int32).toNatClampNeg (0 : Int32).toNatClampNeg (25 : Int32).toNatClampNeg)).1 13 a1) ((xC (xI (xI S 1 a0 0 (S.1 1 a1 0)) 1 a0 1 ((xI S 1 a0 0 (S.1 1 a1 0)).1 1 a1 1)) 12 a0 (va_cpy ((xI (xI S 1 a0 0 (S.1 1 a1 0)) 1 a0 1 ((xI S 1 a0 0 (S.1 1 a1 0)).1 1 a1 1)).1 12 a1) ((xI (xI S 1 a0 0 (S.1 1 a1 0)) 1 a0 1 ((xI S 1 a0 0 (S.1 1 a1 0)).1 1 a1 1)).1 12 a0) (0 : Int32).toNatClampNeg (0 : Int32).toNatClampNeg (25 : Int32).toNatClampNeg)).1 13 a0) (0 : Int32).toNatClampNeg (0 : Int32).toNatClampNeg (25 : Int32).toNatClampNeg)).1 14 a1) ((xC (xC (xI (xI S 1 a0 0 (S.1 1 a1 0)) 1 a0 1 ((xI S 1 a0 0 (S.1 1 a1 0)).1 1 a1 1)) 12 a0 (va_cpy ((xI (xI S 1 a0 0 (S.1 1 a1 0)) 1 a0 1 ((xI S 1 a0 0 (S.1 1 a1 0)).1 1 a1 1)).1 12 a1) ((xI (xI S 1 a0 0 (S.1 1 a1 0)) 1 a0 1 ((xI S 1 a0 0 (S.1 1 a1 0)).1 1 a1 1)).1 12 a0) (0 : Int32).toNatClampNeg (0 : Int32).toNatClampNeg (25 : Int32).toNatClampNeg)) 13 a0 (va_cpy ((xC (xI (xI S 1 a0 0 (S.1 1 a1 0)) 1 a0 1 ((xI S 1 a0 0 (S.1 1 a1 0)).1 1 a1 1)) 12 a0 (va_cpy ((xI (xI S 1 a0 0 (S.1 1 a1 0)) 1 a0 1 ((xI S 1 a0 0 (S.1 1 a1 0)).1 1 a1 1)).1 12 a1) ((xI (xI S 1 a0 0 (S.1 1 a1 0)) 1 a0 1 ((xI S 1 a0 0 (S.1 1 a1 0)).1 1 a1 1)).1 12 a0) (0 : Int32).toNatClampNeg (0 : Int32).toNatClampNeg (25 : Int32).toNatClampNeg)).1 13 a1) ((xC (xI (xI S 1 a0 0 (S.1 1 a1 0)) 1 a0 1 ((xI S 1 a0 0 (S.1 1 a1 0)).1 1 a1 1)) 12 a0 (va_cpy ((xI (xI S 1 a0 0 (S.1 1 a1 0)) 1 a0 1 ((xI S 1 a0 0 (S.1 1 a1 0)).1 1 a1 1)).1 12 a1) ((xI (xI S 1 a0 0 (S.1 1 a1 0)) 1 a0 1 ((xI S 1 a0 0 (S.1 1 a1 0)).1 1 a1 1)).1 12 a0) (0 : Int32).toNatClampNeg (0 : Int32).toNatClampNeg (25 : Int32).toNatClampNeg)).1 13 a0) (0 : Int32).toNatClampNeg (0 : Int32).toNatClampNeg (25 : Int32).toNatClampNeg)).1 14 a0) (0 : Int32).toNatClampNeg (0 : Int32).toNatClampNeg (25 : Int32).toNatClampNeg)) 15 a0 (va_cpy ((xC (xC (xC (xI (xI S 1 a0 0 (S.1 1 a1 0)) 1 a0 1 ((xI S 1 a0 0 (S.1 1 a1 0)).1 1 a1 1)) 12 a0 (va_cpy ((xI (xI S 1 a0 0 (S.1 1 a1 0)) 1 a0 1 ((xI S 1 a0 0 (S.1 1 a1 0)).1 1 a1 1)).1 12 a1) ((xI (xI S 1 a0 0 (S.1 1 a1 0)) 1 a0 1 ((xI S 1 a0 0 (S.1 1 a1 0)).1 1 a1 1)).1 12 a0) (0 : Int32).toNatClampNeg (0 : Int32).toNatClampNeg (25 : Int32).toNatClampNeg)) 13 a0 (va_cpy ((xC (xI (xI S 1 a0 0 (S.1 1 a1 0)) 1 a0 1 ((xI S 1 a0 0 (S.1 1 a1 0)).1 1 a1 1)) 12 a0 (va_cpy ((xI (xI S 1 a0 0 (S.1 1 a1 0)) 1 a0 1 ((xI S 1 a0 0 (S.1 1 a1 0)).1 1 a1 1)).1 12 a1) ((xI (xI S 1 a0 0 (S.1 1 a1 0)) 1 a0 1 ((xI S 1 a0 0 (S.1 1 a1 0)).1 1 a1 1)).1 12 a0) (0 : Int32).toNatClampNeg (0 : Int32).toNatClampNeg (25 : Int32).toNatClampNeg)).1 13 a1) ((xC (xI (xI S 1 a0 0 (S.1 1 a1 0)) 1 a0 1 ((xI S 1 a0 0 (S.1 1 a1 0)).1 1 a1 1)) 12 a0 (va_cpy ((xI (xI S 1 a0 0 (S.1 1 a1 0)) 1 a0 1 ((xI S 1 a0 0 (S.1 1 a1 0)).1 1 a1 1)).1 12 a1) ((xI (xI S 1 a0 0 (S.1 1 a1 0)) 1 a0 1 ((xI S 1 a0 0 (S.1 1 a1 0)).1 1 a1 1)).1 12 a0) (0 : Int32).toNatClampNeg (0 : Int32).toNatClampNeg (25 : Int32).toNatClampNeg)).1 13 a0) (0 : Int32).toNatClampNeg (0 : Int32).toNatClampNeg (25 : Int32).toNatClampNeg)) 14 a0 (va_cpy ((xC (xC (xI (xI S 1 a0 0 (S.1 1 a1 0)) 1 a0 1 ((xI S 1 a0 0 (S.1 1 a1 0)).1 1 a1 1)) 12 a0 (va_cpy ((xI (xI S 1 a0 0 (S.1 1 a1 0)) 1 a0 1 ((xI S 1 a0 0 (S.1 1 a1 0)).1 1 a1 1)).1 12 a1) ((xI (xI S 1 a0 0 (S.1 1 a1 0)) 1 a0 1 ((xI S 1 a0 0 (S.1 1 a1 0)).1 1 a1 1)).1 12 a0) (0 : Int32).toNatClampNeg (0 : Int32).toNatClampNeg (25 : Int32).toNatClampNeg)) 13 a0 (va_cpy ((xC (xI (xI S 1 a0 0 (S.1 1 a1 0)) 1 a0 1 ((xI S 1 a0 0 (S.1 1 a1 0)).1 1 a1 1)) 12 a0 (va_cpy ((xI (xI S 1 a0 0 (S.1 1 a1 0)) 1 a0 1 ((xI S 1 a0 0 (S.1 1 a1 0)).1 1 a1 1)).1 12 a1) ((xI (xI S 1 a0 0 (S.1 1 a1 0)) 1 a0 1 ((xI S 1 a0 0 (S.1 1 a1 0)).1 1 a1 1)).1 12 a0) (0 : Int32).toNatClampNeg (0 : Int32).toNatClampNeg (25 : Int32).toNatClampNeg)).1 13 a1) ((xC (xI (xI S 1 a0 0 (S.1 1 a1 0)) 1 a0 1 ((xI S 1 a0 0 (S.1 1 a1 0)).1 1 a1 1)) 12 a0 (va_cpy ((xI (xI S 1 a0 0 (S.1 1 a1 0)) 1 a0 1 ((xI S 1 a0 0 (S.1 1 a1 0)).1 1 a1 1)).1 12 a1) ((xI (xI S 1 a0 0 (S.1 1 a1 0)) 1 a0 1 ((xI S 1 a0 0 (S.1 1 a1 0)).1 1 a1 1)).1 12 a0) (0 : Int32).toNatClampNeg (0 : Int32).toNatClampNeg (25 : Int32).toNatClampNeg)).1 13 a0) (0 : Int32).toNatClampNeg (0 : Int32).toNatClampNeg (25 : Int32).toNatClampNeg)).1 14 a1) ((xC (xC (xI (xI S 1 a0 0 (S.1 1 a1 0)) 1 a0 1 ((xI S 1 a0 0 (S.1 1 a1 0)).1 1 a1 1)) 12 a0 (va_cpy ((xI (xI S 1 a0 0 (S.1 1 a1 0)) 1 a0 1 ((xI S 1 a0 0 (S.1 1 a1 0)).1 1 a1 1)).1 12 a1) ((xI (xI S 1 a0 0 (S.1 1 a1 0)) 1 a0 1 ((xI S 1 a0 0 (S.1 1 a1 0)).1 1 a1 1)).1 12 a0) (0 : Int32).toNatClampNeg (0 : Int32).toNatClampNeg (25 : Int32).toNatClampNeg)) 13 a0 (va_cpy ((xC (xI (xI S 1 a0 0 (S.1 1 a1 0)) 1 a0 1 ((xI S 1 a0 0 (S.1 1 a1 0)).1 1 a1 1)) 12 a0 (va_cpy ((xI (xI S 1 a0 0 (S.1 1 a1 0)) 1 a0 1 ((xI S 1 a0 0 (S.1 1 a1 0)).1 1 a1 1)).1 12 a1) ((xI (xI S 1 a0 0 (S.1 1 a1 0)) 1 a0 1 ((xI S 1 a0 0 (S.1 1 a1 0)).1 1 a1 1)).1 12 a0) (0 : Int32).toNatClampNeg (0 : Int32).toNatClampNeg (25 : Int32).toNatClampNeg)).1 13 a1) ((xC (xI (xI S 1 a0 0 (S.1 1 a1 0)) 1 a0 1 ((xI S 1 a0 0 (S.1 1 a1 0)).1 1 a1 1)) 12 a0 (va_cpy ((xI (xI S 1 a0 0 (S.1 1 a1 0)) 1 a0 1 ((xI S 1 a0 0 (S.1 1 a1 0)).1 1 a1 1)).1 12 a1) ((xI (xI S 1 a0 0 (S.1 1 a1 0)) 1 a0 1 ((xI S 1 a0 0 (S.1 1 a1 0)).1 1 a1 1)).1 12 a0) (0 : Int32).toNatClampNeg (0 : Int32).toNatClampNeg (25 : Int32).toNatClampNeg)).1 13 a0) (0 : Int32).toNatClampNeg (0 : Int32).toNatClampNeg (25 : Int32).toNatClampNeg)).1 14 a0) (0 : Int32).toNatClampNeg (0 : Int32).toNatClampNeg (25 : Int32).toNatClampNeg)).1 15 a1) ((xC (xC (xC (xI (xI S 1 a0 0 (S.1 1 a1 0)) 1 a0 1 ((xI S 1 a0 0 (S.1 1 a1 0)).1 1 a1 1)) 12 a0 (va_cpy ((xI (xI S 1 a0 0 (S.1 1 a1 0)) 1 a0 1 ((xI S 1 a0 0 (S.1 1 a1 0)).1 1 a1 1)).1 12 a1) ((xI (xI S 1 a0 0 (S.1 1 a1 0)) 1 a0 1 ((xI S 1 a0 0 (S.1 1 a1 0)).1 1 a1 1)).1 12 a0) (0 : Int32).toNatClampNeg (0 : Int32).toNatClampNeg (25 : Int32).toNatClampNeg)) 13 a0 (va_cpy ((xC (xI (xI S 1 a0 0 (S.1 1 a1 0)) 1 a0 1 ((xI S 1 a0 0 (S.1 1 a1 0)).1 1 a1 1)) 12 a0 (va_cpy ((xI (xI S 1 a0 0 (S.1 1 a1 0)) 1 a0 1 ((xI S 1 a0 0 (S.1 1 a1 0)).1 1 a1 1)).1 12 a1) ((xI (xI S 1 a0 0 (S.1 1 a1 0)) 1 a0 1 ((xI S 1 a0 0 (S.1 1 a1 0)).1 1 a1 1)).1 12 a0) (0 : Int32).toNatClampNeg (0 : Int32).toNatClampNeg (25 : Int32).toNatClampNeg)).1 13 a1) ((xC (xI (xI S 1 a0 0 (S.1 1 a1 0)) 1 a0 1 ((xI S 1 a0 0 (S.1 1 a1 0)).1 1 a1 1)) 12 a0 (va_cpy ((xI (xI S 1 a0 0 (S.1 1 a1 0)) 1 a0 1 ((xI S 1 a0 0 (S.1 1 a1 0)).1 1 a1 1)).1 12 a1) ((xI (xI S 1 a0 0 (S.1 1 a1 0)) 1 a0 1 ((xI S 1 a0 0 (S.1 1 a1 0)).1 1 a1 1)).1 12 a0) (0 : Int32).toNatClampNeg (0 : Int32).toNatClampNeg (25 : Int32).toNatClampNeg)).1 13 a0) (0 : Int32).toNatClampNeg (0 : Int32).toNatClampNeg (25 : Int32).toNatClampNeg)) 14 a0 (va_cpy ((xC (xC (xI (xI S 1 a0 0 (S.1 1 a1 0)) 1 a0 1 ((xI S 1 a0 0 (S.1 1 a1 0)).1 1 a1 1)) 12 a0 (va_cpy ((xI (xI S 1 a0 0 (S.1 1 a1 0)) 1 a0 1 ((xI S 1 a0 0 (S.1 1 a1 0)).1 1 a1 1)).1 12 a1) ((xI (xI S 1 a0 0 (S.1 1 a1 0)) 1 a0 1 ((xI S 1 a0 0 (S.1 1 a1 0)).1 1 a1 1)).1 12 a0) (0 : Int32).toNatClampNeg (0 : Int32).toNatClampNeg (25 : Int32).toNatClampNeg)) 13 a0 (va_cpy ((xC (xI (xI S 1 a0 0 (S.1 1 a1 0)) 1 a0 1 ((xI S 1 a0 0 (S.1 1 a1 0)).1 1 a1 1)) 12 a0 (va_cpy ((xI (xI S 1 a0 0 (S.1 1 a1 0)) 1 a0 1 ((xI S 1 a0 0 (S.1 1 a1 0)).1 1 a1 1)).1 12 a1) ((xI (xI S 1 a0 0 (S.1 1 a1 0)) 1 a0 1 ((xI S 1 a0 0 (S.1 1 a1 0)).1 1 a1 1)).1 12 a0) (0 : Int32).toNatClampNeg (0 : Int32).toNatClampNeg (25 : Int32).toNatClampNeg)).1 13 a1) ((xC (xI (xI S 1 a0 0 (S.1 1 a1 0)) 1 a0 1 ((xI S 1 a0 0 (S.1 1 a1 0)).1 1 a1 1)) 12 a0 (va_cpy ((xI (xI S 1 a0 0 (S.1 1 a1 0)) 1 a0 1 ((xI S 1 a0 0 (S.1 1 a1 0)).1 1 a1 1)).1 12 a1) ((xI (xI S 1 a0 0 (S.1 1 a1 0)) 1 a0 1 ((xI S 1 a0 0 (S.1 1 a1 0)).1 1 a1 1)).1 12 a0) (0 : Int32).toNatClampNeg (0 : Int32).toNatClampNeg (25 : Int32).toNatClampNeg)).1 13 a0) (0 : Int32).toNatClampNeg (0 : Int32).toNatClampNeg (25 : Int32).toNatClampNeg)).1 14 a1) ((xC (xC (xI (xI S 1 a0 0 (S.1 1 a1 0)) 1 a0 1 ((xI S 1 a0 0 (S.1 1 a1 0)).1 1 a1 1)) 12 a0 (va_cpy ((xI (xI S 1 a0 0 (S.1 1 a1 0)) 1 a0 1 ((xI S 1 a0 0 (S.1 1 a1 0)).1 1 a1 1)).1 12 a1) ((xI (xI S 1 a0 0 (S.1 1 a1 0)) 1 a0 1 ((xI S 1 a0 0 (S.1 1 a1 0)).1 1 a1 1)).1 12 a0) (0 : Int32).toNatClampNeg (0 : Int32).toNatClampNeg (25 : Int32).toNatClampNeg)) 13 a0 (va_cpy ((xC (xI (xI S 1 a0 0 (S.1 1 a1 0)) 1 a0 1 ((xI S 1 a0 0 (S.1 1 a1 0)).1 1 a1 1)) 12 a0 (va_cpy ((xI (xI S 1 a0 0 (S.1 1 a1 0)) 1 a0 1 ((xI S 1 a0 0 (S.1 1 a1 0)).1 1 a1 1)).1 12 a1) ((xI (xI S 1 a0 0 (S.1 1 a1 0)) 1 a0 1 ((xI S 1 a0 0 (S.1 1 a1 0)).1 1 a1 1)).1 12 a0) (0 : Int32).toNatClampNeg (0 : Int32).toNatClampNeg (25 : Int32).toNatClampNeg)).1 13 a1) ((xC (xI (xI S 1 a0 0 (S.1 1 a1 0)) 1 a0 1 ((xI S 1 a0 0 (S.1 1 a1 0)).1 1 a1 1)) 12 a0 (va_cpy ((xI (xI S 1 a0 0 (S.1 1 a1 0)) 1 a0 1 ((xI S 1 a0 0 (S.1 1 a1 0)).1 1 a1 1)).1 12 a1) ((xI (xI S 1 a0 0 (S.1 1 a1 0)) 1 a0 1 ((xI S 1 a0 0 (S.1 1 a1 0)).1 1 a1 1)).1 12 a0) (0 : Int32).toNatClampNeg (0 : Int32).toNatClampNeg (25 : Int32).toNatClampNeg)).1 13 a0) (0 : Int32).toNatClampNeg (0 : Int32).toNatClampNeg (25 : Int32).toNatClampNeg)).1 14 a0) (0 : Int32).toNatClampNeg (0 : Int32).toNatClampNeg (25 : Int32).toNatClampNeg)).1 15 a0) (0 : Int32).toNatClampNeg (0 : Int32).toNatClampNeg (5 : Int32).toNatClampNeg)) 1 a0 6 ((xC (xC (xC (xC (xI (xI S 1 a0 0 (S.1 1 a1 0)) 1 a0 1 ((xI S 1 a0 0 (S.1 1 a1 0)).1 1 a1 1)) 12 a0 (va_cpy ((xI (xI S 1 a0 0 (S.1 1 a1 0)) 1 a0 1 ((xI S 1 a0 0 (S.1 1 a1 0)).1 1 a1 1)).1 12 a1) ((xI (xI S 1 a0 0 (S.1 1 a1 0)) 1 a0 1 ((xI S 1 a0 0 (S.1 1 a1 0)).1 1 a1 1)).1 12 a0) (0 : Int32).toNatClampNeg (0 : Int32).toNatClampNeg (25 : Int32).toNatClampNeg)) 13 a0 (va_cpy ((xC (xI (xI S 1 a0 0 (S.1 1 a1 0)) 1 a0 1 ((xI S 1 a0 0 (S.1 1 a1 0)).1 1 a1 1)) 12 a0 (va_cpy ((xI (xI S 1 a0 0 (S.1 1 a1 0)) 1 a0 1 ((xI S 1 a0 0 (S.1 1 a1 0)).1 1 a1 1)).1 12 a1) ((xI (xI S 1 a0 0 (S.1 1 a1 0)) 1 a0 1 ((xI S 1 a0 0 (S.1 1 a1 0)).1 1 a1 1)).1 12 a0) (0 : Int32).toNatClampNeg (0 : Int32).toNatClampNeg (25 : Int32).toNatClampNeg)).1 13 a1) ((xC (xI (xI S 1 a0 0 (S.1 1 a1 0)) 1 a0 1 ((xI S 1 a0 0 (S.1 1 a1 0)).1 1 a1 1)) 12 a0 (va_cpy ((xI (xI S 1 a0 0 (S.1 1 a1 0)) 1 a0 1 ((xI S 1 a0 0 (S.1 1 a1 0)).1 1 a1 1)).1 12 a1) ((xI (xI S 1 a0 0 (S.1 1 a1 0)) 1 a0 1 ((xI S 1 a0 0 (S.1 1 a1 0)).1 1 a1 1)).1 12 a0) (0 : Int32).toNatClampNeg (0 : Int32).toNatClampNeg (25 : Int32).toNatClampNeg)).1 13 a0) (0 : Int32).toNatClampNeg (0 : Int32).toNatClampNeg (25 : Int32).toNatClampNeg)) 14 a0 (va_cpy ((xC (xC (xI (xI S 1 a0 0 (S.1 1 a1 0)) 1 a0 1 ((xI S 1 a0 0 (S.1 1 a1 0)).1 1 a1 1)) 12 a0 (va_cpy ((xI (xI S 1 a0 0 (S.1 1 a1 0)) 1 a0 1 ((xI S 1 a0 0 (S.1 1 a1 0)).1 1 a1 1)).1 12 a1) ((xI (xI S 1 a0 0 (S.1 1 a1 0)) 1 a0 1 ((xI S 1 a0 0 (S.1 1 a1 0)).1 1 a1 1)).1 12 a0) (0 : Int32).toNatClampNeg (0 : Int32).toNatClampNeg (25 : Int32).toNatClampNeg)) 13 a0 (va_cpy ((xC (xI (xI S 1 a0 0 (S.1 1 a1 0)) 1 a0 1 ((xI S 1 a0 0 (S.1 1 a1 0)).1 1 a1 1)) 12 a0 (va_cpy ((xI (xI S 1 a0 0 (S.1 1 a1 0)) 1 a0 1 ((xI S 1 a0 0 (S.1 1 a1 0)).1 1 a1 1)).1 12 a1) ((xI (xI S 1 a0 0 (S.1 1 a1 0)) 1 a0 1 ((xI S 1 a0 0 (S.1 1 a1 0)).1 1 a1 1)).1 12 a0) (0 : Int32).toNatClampNeg (0 : Int32).toNatClampNeg (25 : Int32).toNatClampNeg)).1 13 a1) ((xC (xI (xI S 1 a0 0 (S.1 1 a1 0)) 1 a0 1 ((xI S 1 a0 0 (S.1 1 a1 0)).1 1 a1 1)) 12 a0 (va_cpy ((xI (xI S 1 a0 0 (S.1 1 a1 0)) 1 a0 1 ((xI S 1 a0 0 (S.1 1 a1 0)).1 1 a1 1)).1 12 a1) ((xI (xI S 1 a0 0 (S.1 1 a1 0)) 1 a0 1 ((xI S 1 a0 0 (S.1 1 a1 0)).1 1 a1 1)).1 12 a0) (0 : Int32).toNatClampNeg (0 : Int32).toNatClampNeg (25 : Int32).toNatClampNeg)).1 13 a0) (0 : Int32).toNatClampNeg (0 : Int32).toNatClampNeg (25 : Int32).toNatClampNeg)).1 14 a1) ((xC (xC (xI (xI S 1 a0 0 (S.1 1 a1 0)) 1 a0 1 ((xI S 1 a0 0 (S.1 1 a1 0)).1 1 a1 1)) 12 a0 (va_cpy ((xI (xI S 1 a0 0 (S.1 1 a1 0)) 1 a0 1 ((xI S 1 a0 0 (S.1 1 a1 0)).1 1 a1 1)).1 12 a1) ((xI (xI S 1 a0 0 (S.1 1 a1 0)) 1 a0 1 ((xI S 1 a0 0 (S.1 1 a1 0)).1 1 a1 1)).1 12 a0) (0 : Int32).toNatClampNeg (0 : Int32).toNatClampNeg (25 : Int32).toNatClampNeg)) 13 a0 (va_cpy ((xC (xI (xI S 1 a0 0 (S.1 1 a1 0)) 1 a0 1 ((xI S 1 a0 0 (S.1 1 a1 0)).1 1 a1 1)) 12 a0 (va_cpy ((xI (xI S 1 a0 0 (S.1 1 a1 0)) 1 a0 1 ((xI S 1 a0 0 (S.1 1 a1 0)).1 1 a1 1)).1 12 a1) ((xI (xI S 1 a0 0 (S.1 1 a1 0)) 1 a0 1 ((xI S 1 a0 0 (S.1 1 a1 0)).1 1 a1 1)).1 12 a0) (0 : Int32).toNatClampNeg (0 : Int32).toNatClampNeg (25 : Int32).toNatClampNeg)).1 13 a1) ((xC (xI (xI S 1 a0 0 (S.1 1 a1 0)) 1 a0 1 ((xI S 1 a0 0 (S.1 1 a1 0)).1 1 a1 1)) 12 a0 (va_cpy ((xI (xI S 1 a0 0 (S.1 1 a1 0)) 1 a0 1 ((xI S 1 a0 0 (S.1 1 a1 0)).1 1 a1 1)).1 12 a1) ((xI (xI S 1 a0 0 (S.1 1 a1 0)) 1 a0 1 ((xI S 1 a0 0 (S.1 1 a1 0)).1 1 a1 1)).1 12 a0) (0 : Int32).toNatClampNeg (0 : Int32).toNatClampNeg (25 : Int32).toNatClampNeg)).1 13 a0) (0 : Int32).toNatClampNeg (0 : Int32).toNatClampNeg (25 : Int32).toNatClampNeg)).1 14 a0) (0 : Int32).toNatClampNeg (0 : Int32).toNatClampNeg (25 : Int32).toNatClampNeg)) 15 a0 (va_cpy ((xC (xC (xC (xI (xI S 1 a0 0 (S.1 1 a1 0)) 1 a0 1 ((xI S 1 a0 0 (S.1 1 a1 0)).1 1 a1 1)) 12 a0 (va_cpy ((xI (xI S 1 a0 0 (S.1 1 a1 0)) 1 a0 1 ((xI S 1 a0 0 (S.1 1 a1 0)).1 1 a1 1)).1 12 a1) ((xI (xI S 1 a0 0 (S.1 1 a1 0)) 1 a0 1 ((xI S 1 a0 0 (S.1 1 a1 0)).1 1 a1 1)).1 12 a0) (0 : Int32).toNatClampNeg (0 : Int32).toNatClampNeg (25 : Int32).toNatClampNeg)) 13 a0 (va_cpy ((xC (xI (xI S 1 a0 0 (S.1 1 a1 0)) 1 a0 1 ((xI S 1 a0 0 (S.1 1 a1 0)).1 1 a1 1)) 12 a0 (va_cpy ((xI (xI S 1 a0 0 (S.1 1 a1 0)) 1 a0 1 ((xI S 1 a0 0 (S.1 1 a1 0)).1 1 a1 1)).1 12 a1) ((xI (xI S 1 a0 0 (S.1 1 a1 0)) 1 a0 1 ((xI S 1 a0 0 (S.1 1 a1 0)).1 1 a1 1)).1 12 a0) (0 : Int32).toNatClampNeg (0 : Int32).toNatClampNeg (25 : Int32).toNatClampNeg)).1 13 a1) ((xC (xI (xI S 1 a0 0 (S.1 1 a1 0)) 1 a0 1 ((xI S 1 a0 0 (S.1 1 a1 0)).1 1 a1 1)) 12 a0 (va_cpy ((xI (xI S 1 a0 0 (S.1 1 a1 0)) 1 a0 1 ((xI S 1 a0 0 (S.1 1 a1 0)).1 1 a1 1)).1 12 a1) ((xI (xI S 1 a0 0 (S.1 1 a1 0)) 1 a0 1 ((xI S 1 a0 0 (S.1 1 a1 0)).1 1 a1 1)).1 12 a0) (0 : Int32).toNatClampNeg (0 : Int32).toNatClampNeg (25 : Int32).toNatClampNeg)).1 13 a0) (0 : Int32).toNatClampNeg (0 : Int32).toNatClampNeg (25 : Int32).toNatClampNeg)) 14 a0 (va_cpy ((xC (xC (xI (xI S 1 a0 0 (S.1 1 a1 0)) 1 a0 1 ((xI S 1 a0 0 (S.1 1 a1 0)).1 1 a1 1)) 12 a0 (va_cpy ((xI (xI S 1 a0 0 (S.1 1 a1 0)) 1 a0 1 ((xI S 1 a0 0 (S.1 1 a1 0)).1 1 a1 1)).1 12 a1) ((xI (xI S 1 a0 0 (S.1 1 a1 0)) 1 a0 1 ((xI S 1 a0 0 (S.1 1 a1 0)).1 1 a1 1)).1 12 a0) (0 : Int32).toNatClampNeg (0 : Int32).toNatClampNeg (25 : Int32).toNatClampNeg)) 13 a0 (va_cpy ((xC (xI (xI S 1 a0 0 (S.1 1 a1 0)) 1 a0 1 ((xI S 1 a0 0 (S.1 1 a1 0)).1 1 a1 1)) 12 a0 (va_cpy ((xI (xI S 1 a0 0 (S.1 1 a1 0)) 1 a0 1 ((xI S 1 a0 0 (S.1 1 a1 0)).1 1 a1 1)).1 12 a1) ((xI (xI S 1 a0 0 (S.1 1 a1 0)) 1 a0 1 ((xI S 1 a0 0 (S.1 1 a1 0)).1 1 a1 1)).1 12 a0) (0 : Int32).toNatClampNeg (0 : Int32).toNatClampNeg (25 : Int32).toNatClampNeg)).1 13 a1) ((xC (xI (xI S 1 a0 0 (S.1 1 a1 0)) 1 a0 1 ((xI S 1 a0 0 (S.1 1 a1 0)).1 1 a1 1)) 12 a0 (va_cpy ((xI (xI S 1 a0 0 (S.1 1 a1 0)) 1 a0 1 ((xI S 1 a0 0 (S.1 1 a1 0)).1 1 a1 1)).1 12 a1) ((xI (xI S 1 a0 0 (S.1 1 a1 0)) 1 a0 1 ((xI S 1 a0 0 (S.1 1 a1 0)).1 1 a1 1)).1 12 a0) (0 : Int32).toNatClampNeg (0 : Int32).toNatClampNeg (25 : Int32).toNatClampNeg)).1 13 a0) (0 : Int32).toNatClampNeg (0 : Int32).toNatClampNeg (25 : Int32).toNatClampNeg)).1 14 a1) ((xC (xC (xI (xI S 1 a0 0 (S.1 1 a1 0)) 1 a0 1 ((xI S 1 a0 0 (S.1 1 a1 0)).1 1 a1 1)) 12 a0 (va_cpy ((xI (xI S 1 a0 0 (S.1 1 a1 0)) 1 a0 1 ((xI S 1 a0 0 (S.1 1 a1 0)).1 1 a1 1)).1 12 a1) ((xI (xI S 1 a0 0 (S.1 1 a1 0)) 1 a0 1 ((xI S 1 a0 0 (S.1 1 a1 0)).1 1 a1 1)).1 12 a0) (0 : Int32).toNatClampNeg (0 : Int32).toNatClampNeg (25 : Int32).toNatClampNeg)) 13 a0 (va_cpy ((xC (xI (xI S 1 a0 0 (S.1 1 a1 0)) 1 a0 1 ((xI S 1 a0 0 (S.1 1 a1 0)).1 1 a1 1)) 12 a0 (va_cpy ((xI (xI S 1 a0 0 (S.1 1 a1 0)) 1 a0 1 ((xI S 1 a0 0 (S.1 1 a1 0)).1 1 a1 1)).1 12 a1) ((xI (xI S 1 a0 0 (S.1 1 a1 0)) 1 a0 1 ((xI S 1 a0 0 (S.1 1 a1 0)).1 1 a1 1)).1 12 a0) (0 : Int32).toNatClampNeg (0 : Int32).toNatClampNeg (25 : Int32).toNatClampNeg)).1 13 a1) ((xC (xI (xI S 1 a0 0 (S.1 1 a1 0)) 1 a0 1 ((xI S 1 a0 0 (S.1 1 a1 0)).1 1 a1 1)) 12 a0 (va_cpy ((xI (xI S 1 a0 0 (S.1 1 a1 0)) 1 a0 1 ((xI S 1 a0 0 (S.1 1 a1 0)).1 1 a1 1)).1 12 a1) ((xI (xI S 1 a0 0 (S.1 1 a1 0)) 1 a0 1 ((xI S 1 a0 0 (S.1 1 a1 0)).1 1 a1 1)).1 12 a0) (0 : Int32).toNatClampNeg (0 : Int32).toNatClampNeg (25 : Int32).toNatClampNeg)).1 13 a0) (0 : Int32).toNatClampNeg (0 : Int32).toNatClampNeg (25 : Int32).toNatClampNeg)).1 14 a0) (0 : Int32).toNatClampNeg (0 : Int32).toNatClampNeg (25 : Int32).toNatClampNeg)).1 15 a1) ((xC (xC (xC (xI (xI S 1 a0 0 (S.1 1 a1 0)) 1 a0 1 ((xI S 1 a0 0 (S.1 1 a1 0)).1 1 a1 1)) 12 a0 (va_cpy ((xI (xI S 1 a0 0 (S.1 1 a1 0)) 1 a0 1 ((xI S 1 a0 0 (S.1 1 a1 0)).1 1 a1 1)).1 12 a1) ((xI (xI S 1 a0 0 (S.1 1 a1 0)) 1 a0 1 ((xI S 1 a0 0 (S.1 1 a1 0)).1 1 a1 1)).1 12 a0) (0 : Int32).toNatClampNeg (0 : Int32).toNatClampNeg (25 : Int32).toNatClampNeg)) 13 a0 (va_cpy ((xC (xI (xI S 1 a0 0 (S.1 1 a1 0)) 1 a0 1 ((xI S 1 a0 0 (S.1 1 a1 0)).1 1 a1 1)) 12 a0 (va_cpy ((xI (xI S 1 a0 0 (S.1 1 a1 0)) 1 a0 1 ((xI S 1 a0 0 (S.1 1 a1 0)).1 1 a1 1)).1 12 a1) ((xI (xI S 1 a0 0 (S.1 1 a1 0)) 1 a0 1 ((xI S 1 a0 0 (S.1 1 a1 0)).1 1 a1 1)).1 12 a0) (0 : Int32).toNatClampNeg (0 : Int32).toNatClampNeg (25 : Int32).toNatClampNeg)).1 13 a1) ((xC (xI (xI S 1 a0 0 (S.1 1 a1 0)) 1 a0 1 ((xI S 1 a0 0 (S.1 1 a1 0)).1 1 a1 1)) 12 a0 (va_cpy ((xI (xI S 1 a0 0 (S.1 1 a1 0)) 1 a0 1 ((xI S 1 a0 0 (S.1 1 a1 0)).1 1 a1 1)).1 12 a1) ((xI (xI S 1 a0 0 (S.1 1 a1 0)) 1 a0 1 ((xI S 1 a0 0 (S.1 1 a1 0)).1 1 a1 1)).1 12 a0) (0 : Int32).toNatClampNeg (0 : Int32).toNatClampNeg (25 : Int32).toNatClampNeg)).1 13 a0) (0 : Int32).toNatClampNeg (0 : Int32).toNatClampNeg (25 : Int32).toNatClampNeg)) 14 a0 (va_cpy ((xC (xC (xI (xI S 1 a0 0 (S.1 1 a1 0)) 1 a0 1 ((xI S 1 a0 0 (S.1 1 a1 0)).1 1 a1 1)) 12 a0 (va_cpy ((xI (xI S 1 a0 0 (S.1 1 a1 0)) 1 a0 1 ((xI S 1 a0 0 (S.1 1 a1 0)).1 1 a1 1)).1 12 a1) ((xI (xI S 1 a0 0 (S.1 1 a1 0)) 1 a0 1 ((xI S 1 a0 0 (S.1 1 a1 0)).1 1 a1 1)).1 12 a0) (0 : Int32).toNatClampNeg (0 : Int32).toNatClampNeg (25 : Int32).toNatClampNeg)) 13 a0 (va_cpy ((xC (xI (xI S 1 a0 0 (S.1 1 a1 0)) 1 a0 1 ((xI S 1 a0 0 (S.1 1 a1 0)).1 1 a1 1)) 12 a0 (va_cpy ((xI (xI S 1 a0 0 (S.1 1 a1 0)) 1 a0 1 ((xI S 1 a0 0 (S.1 1 a1 0)).1 1 a1 1)).1 12 a1) ((xI (xI S 1 a0 0 (S.1 1 a1 0)) 1 a0 1 ((xI S 1 a0 0 (S.1 1 a1 0)).1 1 a1 1)).1 12 a0) (0 : Int32).toNatClampNeg (0 : Int32).toNatClampNeg (25 : Int32).toNatClampNeg)).1 13 a1) ((xC (xI (xI S 1 a0 0 (S.1 1 a1 0)) 1 a0 1 ((xI S 1 a0 0 (S.1 1 a1 0)).1 1 a1 1)) 12 a0 (va_cpy ((xI (xI S 1 a0 0 (S.1 1 a1 0)) 1 a0 1 ((xI S 1 a0 0 (S.1 1 a1 0)).1 1 a1 1)).1 12 a1) ((xI (xI S 1 a0 0 (S.1 1 a1 0)) 1 a0 1 ((xI S 1 a0 0 (S.1 1 a1 0)).1 1 a1 1)).1 12 a0) (0 : Int32).toNatClampNeg (0 : Int32).toNatClampNeg (25 : Int32).toNatClampNeg)).1 13 a0) (0 : Int32).toNatClampNeg (0 : Int32).toNatClampNeg (25 : Int32).toNatClampNeg)).1 14 a1) ((xC (xC (xI (xI S 1 a0 0 (S.1 1 a1 0)) 1 a0 1 ((xI S 1 a0 0 (S.1 1 a1 0)).1 1 a1 1)) 12 a0 (va_cpy ((xI (xI S 1 a0 0 (S.1 1 a1 0)) 1 a0 1 ((xI S 1 a0 0 (S.1 1 a1 0)).1 1 a1 1)).1 12 a1) ((xI (xI S 1 a0 0 (S.1 1 a1 0)) 1 a0 1 ((xI S 1 a0 0 (S.1 1 a1 0)).1 1 a1 1)).1 12 a0) (0 : Int32).toNatClampNeg (0 : Int32).toNatClampNeg (25 : Int32).toNatClampNeg)) 13 a0 (va_cpy ((xC (xI (xI S 1 a0 0 (S.1 1 a1 0)) 1 a0 1 ((xI S 1 a0 0 (S.1 1 a1 0)).1 1 a1 1)) 12 a0 (va_cpy ((xI (xI S 1 a0 0 (S.1 1 a1 0)) 1 a0 1 ((xI S 1 a0 0 (S.1 1 a1 0)).1 1 a1 1)).1 12 a1) ((xI (xI S 1 a0 0 (S.1 1 a1 0)) 1 a0 1 ((xI S 1 a0 0 (S.1 1 a1 0)).1 1 a1 1)).1 12 a0) (0 : Int32).toNatClampNeg (0 : Int32).toNatClampNeg (25 : Int32).toNatClampNeg)).1 13 a1) ((xC (xI (xI S 1 a0 0 (S.1 1 a1 0)) 1 a0 1 ((xI S 1 a0 0 (S.1 1 a1 0)).1 1 a1 1)) 12 a0 (va_cpy ((xI (xI S 1 a0 0 (S.1 1 a1 0)) 1 a0 1 ((xI S 1 a0 0 (S.1 1 a1 0)).1 1 a1 1)).1 12 a1) ((xI (xI S 1 a0 0 (S.1 1 a1 0)) 1 a0 1 ((xI S 1 a0 0 (S.1 1 a1 0)).1 1 a1 1)).1 12 a0) (0 : Int32).toNatClampNeg (0 : Int32).toNatClampNeg (25 : Int32).toNatClampNeg)).1 13 a0) (0 : Int32).toNatClampNeg (0 : Int32).toNatClampNeg (25 : Int32).toNatClampNeg)).1 14 a0) (0 : Int32).toNatClampNeg (0 : Int32).toNatClampNeg (25 : Int32).toNatClampNeg)).1 15 a0) (0 : Int32).toNatClampNeg (0 : Int32).toNatClampNeg (5 : Int32).toNatClampNeg)).1 1 a1 6)) (0 : Int32)))))))
def wp_X1_appendPlace (a0 : Nat) (a1 : Int32) (a2 : Int32) (S : xS) (Q : xS → Prop) : Prop :=
  (vp_in ((xI S 1 a0 1 ((S.1 1 a0 1) + (1 : Int32))).1 1 a0 1) 25 ∧ (vp_in ((xI (xI S 1 a0 1 ((S.1 1 a0 1) + (1 : Int32))) 12 a0 ((xI S 1 a0 1 ((S.1 1 a0 1) + (1 : Int32))).1 1 a0 1).toNatClampNeg a1).1 1 a0 1) 25 ∧ (Q (xI (xI (xI S 1 a0 1 ((S.1 1 a0 1) + (1 : Int32))) 12 a0 ((xI S 1 a0 1 ((S.1 1 a0 1) + (1 : Int32))).1 1 a0 1).toNatClampNeg a1) 13 a0 ((xI (xI S 1 a0 1 ((S.1 1 a0 1) + (1 : Int32))) 12 a0 ((xI S 1 a0 1 ((S.1 1 a0 1) + (1 : Int32))).1 1 a0 1).toNatClampNeg a1).1 1 a0 1).toNatClampNeg a2))))
def wp_X1_appendPoint_47 (a0 : Nat) (Q : Int32 → xS → Prop) (S : xS) (s0 : Nat) (s1 : Int32) (s2 : Int32) : Prop :=
  (vp_in s1 25 ∧ (Q (((xI S 14 s0 s1.toNatClampNeg s2).1 1 a0 1) - (1 : Int32)) (xI S 14 s0 s1.toNatClampNeg s2)))
def wp_X1_appendPoint_46 (a0 : Nat) (Q : Int32 → xS → Prop) (S : xS) (s0 : Nat) (s1 : Int32) (s2 : Int32) (s3 : Int32) : Prop :=
  (wp_X1_appendPoint_47 a0 Q S s0 s1 (s2 + s3))
def wp_X1_appendPoint (a0 : Nat) (a1 : Int32) (a2 : Int32) (a3 : Int32) (S : xS) (Q : Int32 → xS → Prop) : Prop :=
  (wp_X1_appendPlace a0 a1 a2 S (fun S1 => (if (S1.1 1 a0 1) = (1 : Int32) then (wp_X1_appendPoint_47 a0 Q S1 a0 (S1.1 1 a0 1) (0 : Int32)) else (vp_in ((S1.1 1 a0 1) - (1 : Int32)) 25 ∧ (if a3 = 0 then (wp_X1_appendPoint_46 a0 Q S1 a0 (S1.1 1 a0 1) (S1.1 14 a0 ((S1.1 1 a0 1) - (1 : Int32)).toNatClampNeg) (0 : Int32)) else (wp_X1_appendPoint_46 a0 Q S1 a0 (S1.1 1 a0 1) (S1.1 14 a0 ((S1.1 1 a0 1) - (1 : Int32)).toNatClampNeg) (1 : Int32)))))))
def wp_X1_appendComponent (a0 : Nat) (a1 : Int32) (a2 : Int32) (a3 : Int32) (S : xS) (Q : Int32 → xS → Prop) : Prop :=
  (wp_X1_appendPlace a0 a2 a3 S (fun S1 => (vp_in (S1.1 1 a0 1) 5 ∧ (Q (((xI S1 15 a0 (S1.1 1 a0 1).toNatClampNeg a1).1 1 a0 1) - (1 : Int32)) (xI S1 15 a0 (S1.1 1 a0 1).toNatClampNeg a1)))))
def wp_X1_hasChild_35 (Q : Int32 → xS → Prop) (S : xS) : Prop :=
  (((0 : Int32) = 0 ∨ (0 : Int32) = 1) ∧ Q (0 : Int32) S)
def wp_X1_hasChild_2_b (a0 : Nat) (a1 : Int32) (K2 : xS → Int32 → Prop) (Q : Int32 → xS → Prop) (S : xS) (v2 : Int32) : Prop :=
  (if (S.1 1 a0 0) = 0 then (wp_X1_hasChild_35 Q S) else (if (S.1 1 a0 1) < v2 then (wp_X1_hasChild_35 Q S) else (vp_in v2 5 ∧ (if (S.1 15 a0 v2.toNatClampNeg) = a1 then (((1 : Int32) = 0 ∨ (1 : Int32) = 1) ∧ Q (1 : Int32) S) else (K2 S (v2 + (1 : Int32)))))))
def wp_X1_hasChild_2 (a0 : Nat) (a1 : Int32) (Q : Int32 → xS → Prop) : Nat → xS → Int32 → Prop
  | 0 => fun _ _ => False
  | n + 1 => fun S v2 => wp_X1_hasChild_2_b a0 a1 (wp_X1_hasChild_2 a0 a1 Q n) Q S v2
def wp_X1_hasChild (a0 : Nat) (a1 : Int32) (S : xS) (Q : Int32 → xS → Prop) : Prop :=
  (∃ n1, wp_X1_hasChild_2 a0 a1 Q n1 S (1 : Int32))
def wp_X6_hasBit_13 (Q : Int32 → xS → Prop) (S : xS) (s0 : Int32) : Prop :=
  ((s0 = 0 ∨ s0 = 1) ∧ Q s0 S)
def wp_X6_hasBit (a0 : Int32) (a1 : Int32) (S : xS) (Q : Int32 → xS → Prop) : Prop :=
  (if (a0 &&& ((1 : Int32) <<< (a1 &&& 31))) = 0 then (wp_X6_hasBit_13 Q S (0 : Int32)) else (wp_X6_hasBit_13 Q S (1 : Int32)))
def wp_X5_dependsOnlyOn_26 (a0 : Nat) (a1 : Int32) (K2 : xS → Int32 → Prop) (Q : Int32 → xS → Prop) (S : xS) (v2 : Int32) : Prop :=
  (K2 S (v2 + (1 : Int32)))
def wp_X5_dependsOnlyOn_2_b (a0 : Nat) (a1 : Int32) (K2 : xS → Int32 → Prop) (Q : Int32 → xS → Prop) (S : xS) (v2 : Int32) : Prop :=
  (if (4 : Int32) ≤ v2 then (((1 : Int32) = 0 ∨ (1 : Int32) = 1) ∧ Q (1 : Int32) S) else (vp_in v2 4 ∧ (if (S.1 25 a0 v2.toNatClampNeg) = 0 then (wp_X5_dependsOnlyOn_26 a0 a1 K2 Q S v2) else (wp_X6_hasBit a1 v2 S (fun r3 S2 => (if r3 = 0 then (((0 : Int32) = 0 ∨ (0 : Int32) = 1) ∧ Q (0 : Int32) S2) else (wp_X5_dependsOnlyOn_26 a0 a1 K2 Q S2 v2)))))))
def wp_X5_dependsOnlyOn_2 (a0 : Nat) (a1 : Int32) (Q : Int32 → xS → Prop) : Nat → xS → Int32 → Prop
  | 0 => fun _ _ => False
  | n + 1 => fun S v2 => wp_X5_dependsOnlyOn_2_b a0 a1 (wp_X5_dependsOnlyOn_2 a0 a1 Q n) Q S v2
def wp_X5_dependsOnlyOn (a0 : Nat) (a1 : Int32) (S : xS) (Q : Int32 → xS → Prop) : Prop :=
  (∃ n1, wp_X5_dependsOnlyOn_2 a0 a1 Q n1 S (0 : Int32))
def wp_X5_timesFactor_33 (Q : Int64 → xS → Prop) (S : xS) : Prop :=
  (Q (0 : Int64) S)
def wp_X5_timesFactor_120 (Q : Int64 → xS → Prop) (S : xS) (s0 : Int64) : Prop :=
  (Q s0 S)
def wp_X5_timesFactor (a0 : Nat) (a1 : Int64) (a3 : Int32) (a4 : Int32) (S : xS) (Q : Int64 → xS → Prop) : Prop :=
  (vp_in a3 4 ∧ (if (S.1 25 a0 a3.toNatClampNeg) = 0 then (Q a1 S) else (vp_in a3 4 ∧ (if a4 < (S.1 24 a0 a3.toNatClampNeg) then (wp_X5_timesFactor_33 Q S) else (vp_in a3 4 ∧ (if a4 ≤ (S.1 26 a0 a3.toNatClampNeg) then (vp_in a3 4 ∧ (if a4 = (S.1 25 a0 a3.toNatClampNeg) then (Q a1 S) else (vp_in a3 4 ∧ (if (S.1 25 a0 a3.toNatClampNeg) ≤ a4 then (vp_in a3 4 ∧ (vp_in a3 4 ∧ (vp_in a3 4 ∧ (wp_X6_roundedQuotient (a1 * (Int32.toInt64 ((S.1 26 a0 a3.toNatClampNeg) - a4))) (Int32.toInt64 ((S.1 26 a0 a3.toNatClampNeg) - (S.1 25 a0 a3.toNatClampNeg))) S (fun r10 S9 => (wp_X5_timesFactor_120 Q S9 r10)))))) else (vp_in a3 4 ∧ (vp_in a3 4 ∧ (vp_in a3 4 ∧ (wp_X6_roundedQuotient (a1 * (Int32.toInt64 (a4 - (S.1 24 a0 a3.toNatClampNeg)))) (Int32.toInt64 ((S.1 25 a0 a3.toNatClampNeg) - (S.1 24 a0 a3.toNatClampNeg))) S (fun r15 S14 => (wp_X5_timesFactor_120 Q S14 r15)))))))))) else (wp_X5_timesFactor_33 Q S)))))))
def wp_X5_scalarAt_7_b (a0 : Nat) (a1 : Nat) (K7 : xS → Int64 → Int32 → Prop) (Q : Int32 → xS → Prop) (S : xS) (v2 : Int64) (v4 : Int32) : Prop :=
  (if (4 : Int32) ≤ v4 then (Q (Int64.toInt32 v2) S) else (vp_in v4 4 ∧ (wp_X5_timesFactor a0 v2 v4 (S.1 30 a1 v4.toNatClampNeg) S (fun r3 S2 => (K7 S2 r3 (v4 + (1 : Int32)))))))
def wp_X5_scalarAt_7 (a0 : Nat) (a1 : Nat) (Q : Int32 → xS → Prop) : Nat → xS → Int64 → Int32 → Prop
  | 0 => fun _ _ _ => False
  | n + 1 => fun S v2 v4 => wp_X5_scalarAt_7_b a0 a1 (wp_X5_scalarAt_7 a0 a1 Q n) Q S v2 v4
def wp_X5_scalarAt (a0 : Nat) (a1 : Nat) (S : xS) (Q : Int32 → xS → Prop) : Prop :=
  (∃ n1, wp_X5_scalarAt_7 a0 a1 Q n1 S (268435456 : Int64) (0 : Int32))
def wp_X5_touches (a0 : Nat) (a1 : Int32) (S : xS) (Q : Int32 → xS → Prop) : Prop :=
  (wp_X6_hasBit (S.1 5 a0 3) a1 S (fun r2 S1 => ((r2 = 0 ∨ r2 = 1) ∧ Q r2 S1)))
def wp_X1_touchedNear_88 (a0 : Nat) (a1 : Nat) (a2 : Int32) (a3 : Int32) (K6 : xS → Int32 → Int32 → Prop) (Q : Int32 → xS → Prop) (S : xS) (v4 : Int32) (v5 : Int32) : Prop :=
  (K6 S v4 (v5 + (1 : Int32)))
def wp_X1_touchedNear_60 (a0 : Nat) (a1 : Nat) (a2 : Int32) (a3 : Int32) (K6 : xS → Int32 → Int32 → Prop) (Q : Int32 → xS → Prop) (S : xS) (v4 : Int32) (v5 : Int32) : Prop :=
  (vp_in v4 25 ∧ (vp_in a2 25 ∧ (if (S.1 14 a0 v4.toNatClampNeg) = (S.1 14 a0 a2.toNatClampNeg) then (wp_X5_touches a1 v4 S (fun r4 S3 => (if r4 = 0 then (wp_X1_touchedNear_88 a0 a1 a2 a3 K6 Q S3 v4 v5) else (Q v4 S3)))) else (wp_X1_touchedNear_88 a0 a1 a2 a3 K6 Q S v4 v5))))
def wp_X1_touchedNear_58 (a0 : Nat) (a1 : Nat) (a2 : Int32) (a3 : Int32) (K6 : xS → Int32 → Int32 → Prop) (Q : Int32 → xS → Prop) (S : xS) (v5 : Int32) (s0 : Int32) : Prop :=
  (wp_X1_touchedNear_60 a0 a1 a2 a3 K6 Q S s0 v5)
def wp_X1_touchedNear_36 (a0 : Nat) (a1 : Nat) (a2 : Int32) (a3 : Int32) (K6 : xS → Int32 → Int32 → Prop) (Q : Int32 → xS → Prop) (S : xS) (v5 : Int32) (s0 : Int32) : Prop :=
  (wp_X1_touchedNear_60 a0 a1 a2 a3 K6 Q S s0 v5)
def wp_X1_touchedNear_6_b (a0 : Nat) (a1 : Nat) (a2 : Int32) (a3 : Int32) (K6 : xS → Int32 → Int32 → Prop) (Q : Int32 → xS → Prop) (S : xS) (v4 : Int32) (v5 : Int32) : Prop :=
  (if (S.1 1 a0 1) ≤ v5 then (Q (0 : Int32) S) else (if a3 = 0 then (if v4 ≤ (1 : Int32) then (wp_X1_touchedNear_58 a0 a1 a2 a3 K6 Q S v5 (S.1 1 a0 1)) else (wp_X1_touchedNear_58 a0 a1 a2 a3 K6 Q S v5 (v4 - (1 : Int32)))) else (if (S.1 1 a0 1) ≤ v4 then (wp_X1_touchedNear_36 a0 a1 a2 a3 K6 Q S v5 (1 : Int32)) else (wp_X1_touchedNear_36 a0 a1 a2 a3 K6 Q S v5 (v4 + (1 : Int32))))))
def wp_X1_touchedNear_6 (a0 : Nat) (a1 : Nat) (a2 : Int32) (a3 : Int32) (Q : Int32 → xS → Prop) : Nat → xS → Int32 → Int32 → Prop
  | 0 => fun _ _ _ => False
  | n + 1 => fun S v4 v5 => wp_X1_touchedNear_6_b a0 a1 a2 a3 (wp_X1_touchedNear_6 a0 a1 a2 a3 Q n) Q S v4 v5
def wp_X1_touchedNear (a0 : Nat) (a1 : Nat) (a2 : Int32) (a3 : Int32) (S : xS) (Q : Int32 → xS → Prop) : Prop :=
  (∃ n1, wp_X1_touchedNear_6 a0 a1 a2 a3 Q n1 S a2 (1 : Int32))
def wp_X1_inferredDelta_16 (Q : Int32 → xS → Prop) (S : xS) (s0 : Int32) : Prop :=
  (Q s0 S)
def wp_X1_inferredDelta_55 (a0 : Int32) (Q : Int32 → xS → Prop) (S : xS) (v5 : Int32) (v6 : Int32) (v7 : Int32) (s0 : Int32) : Prop :=
  (if v5 < a0 then (if a0 < v6 then (wp_X6_roundedQuotient (((Int32.toInt64 a0) - (Int32.toInt64 v5)) * ((Int32.toInt64 s0) - (Int32.toInt64 v7))) ((Int32.toInt64 v6) - (Int32.toInt64 v5)) S (fun r2 S1 => (Q (v7 + (Int64.toInt32 r2)) S1))) else (Q s0 S)) else (Q v7 S))
def wp_X1_inferredDelta_42 (a0 : Int32) (a1 : Int32) (a2 : Int32) (a3 : Int32) (a4 : Int32) (Q : Int32 → xS → Prop) (S : xS) (v5 : Int32) (v6 : Int32) (s0 : Int32) : Prop :=
  (if a2 ≤ a1 then (wp_X1_inferredDelta_55 a0 Q S v5 v6 s0 a3) else (wp_X1_inferredDelta_55 a0 Q S v5 v6 s0 a4))
def wp_X1_inferredDelta (a0 : Int32) (a1 : Int32) (a2 : Int32) (a3 : Int32) (a4 : Int32) (S : xS) (Q : Int32 → xS → Prop) : Prop :=
  (if a1 = a2 then (if a3 = a4 then (wp_X1_inferredDelta_16 Q S a3) else (wp_X1_inferredDelta_16 Q S (0 : Int32))) else (wp_J9_min_7cf53 a1 a2 S (fun r2 S1 => (wp_J9_max_7cf53 a1 a2 S1 (fun r4 S3 => (if a2 ≤ a1 then (wp_X1_inferredDelta_42 a0 a1 a2 a3 a4 Q S3 r2 r4 a4) else (wp_X1_inferredDelta_42 a0 a1 a2 a3 a4 Q S3 r2 r4 a3)))))))
def wp_X1_deltaAt_39 (Q : Int32 → xS → Prop) (S : xS) : Prop :=
  (Q (0 : Int32) S)
def wp_X1_deltaAt_69 (Q : Int32 → xS → Prop) (S : xS) : Prop :=
  (Q (0 : Int32) S)
def wp_X1_deltaAt_152 (Q : Int32 → xS → Prop) (S : xS) (s0 : Int32) : Prop :=
  (Q s0 S)
def wp_X1_deltaAt_27 (Q : Int32 → xS → Prop) (S : xS) (s0 : Int32) : Prop :=
  (Q s0 S)
def wp_X1_deltaAt (a0 : Nat) (a1 : Nat) (a2 : Int32) (a3 : Int32) (S : xS) (Q : Int32 → xS → Prop) : Prop :=
  (wp_X5_touches a1 a2 S (fun r2 S1 => (if r2 = 0 then (if (S1.1 1 a0 0) = 0 then (if a2 = 0 then (wp_X1_deltaAt_39 Q S1) else (wp_X1_touchedNear a0 a1 a2 (0 : Int32) S1 (fun r4 S3 => (wp_X1_touchedNear a0 a1 a2 (1 : Int32) S3 (fun r6 S5 => (if r4 = 0 then (wp_X1_deltaAt_69 Q S5) else (if r6 = 0 then (wp_X1_deltaAt_69 Q S5) else (if a3 = 0 then (vp_in a2 25 ∧ (vp_in r4 25 ∧ (vp_in r6 25 ∧ (vp_in r4 25 ∧ (vp_in r6 25 ∧ (wp_X1_inferredDelta (S5.1 12 a0 a2.toNatClampNeg) (S5.1 12 a0 r4.toNatClampNeg) (S5.1 12 a0 r6.toNatClampNeg) (S5.1 27 a1 r4.toNatClampNeg) (S5.1 27 a1 r6.toNatClampNeg) S5 (fun r13 S12 => (wp_X1_deltaAt_152 Q S12 r13)))))))) else (vp_in a2 25 ∧ (vp_in r4 25 ∧ (vp_in r6 25 ∧ (vp_in r4 25 ∧ (vp_in r6 25 ∧ (wp_X1_inferredDelta (S5.1 13 a0 a2.toNatClampNeg) (S5.1 13 a0 r4.toNatClampNeg) (S5.1 13 a0 r6.toNatClampNeg) (S5.1 28 a1 r4.toNatClampNeg) (S5.1 28 a1 r6.toNatClampNeg) S5 (fun r20 S19 => (wp_X1_deltaAt_152 Q S19 r20)))))))))))))))) else (wp_X1_deltaAt_39 Q S1)) else (if a3 = 0 then (vp_in a2 25 ∧ (wp_X1_deltaAt_27 Q S1 (S1.1 27 a1 a2.toNatClampNeg))) else (vp_in a2 25 ∧ (wp_X1_deltaAt_27 Q S1 (S1.1 28 a1 a2.toNatClampNeg)))))))
def wp_X1_placeAt_102 (Q : Int64 → xS → Prop) (S : xS) (v5 : Int64) (s0 : Int32) : Prop :=
  (wp_X6_roundedQuotient v5 (268435456 : Int64) S (fun r2 S1 => (Q ((Int32.toInt64 s0) + r2) S1)))
def wp_X1_placeAt_77 (a0 : Nat) (a1 : Int32) (a2 : Int32) (a3 : Nat) (a4 : Int32) (K6 : xS → Int64 → Int32 → Prop) (Q : Int64 → xS → Prop) (S : xS) (v5 : Int64) (v7 : Int32) : Prop :=
  (K6 S v5 (v7 + (1 : Int32)))
def wp_X1_placeAt_46 (a0 : Nat) (a1 : Int32) (a2 : Int32) (a3 : Nat) (a4 : Int32) (K6 : xS → Int64 → Int32 → Prop) (Q : Int64 → xS → Prop) (S : xS) (v5 : Int64) (v7 : Int32) (s0 : Int64) : Prop :=
  (if (lg_cmp s0 (0 : Int64)) = 0 then (wp_X1_placeAt_77 a0 a1 a2 a3 a4 K6 Q S v5 v7) else ((vp_in v7 5 ∧ (S.2.2 16 a0 v7.toNatClampNeg) < 60) ∧ (wp_X1_deltaAt a0 (S.2.2 16 a0 v7.toNatClampNeg) a1 a2 S (fun r4 S3 => (wp_X1_placeAt_77 a0 a1 a2 a3 a4 K6 Q S3 (v5 + (s0 * (Int32.toInt64 r4))) v7)))))
def wp_X1_placeAt_6_b (a0 : Nat) (a1 : Int32) (a2 : Int32) (a3 : Nat) (a4 : Int32) (K6 : xS → Int64 → Int32 → Prop) (Q : Int64 → xS → Prop) (S : xS) (v5 : Int64) (v7 : Int32) : Prop :=
  (if (S.1 1 a0 6) ≤ v7 then (if a2 = 0 then (vp_in a1 25 ∧ (wp_X1_placeAt_102 Q S v5 (S.1 12 a0 a1.toNatClampNeg))) else (vp_in a1 25 ∧ (wp_X1_placeAt_102 Q S v5 (S.1 13 a0 a1.toNatClampNeg)))) else ((vp_in v7 5 ∧ (S.2.2 16 a0 v7.toNatClampNeg) < 60) ∧ (wp_X5_dependsOnlyOn (S.2.2 16 a0 v7.toNatClampNeg) a4 S (fun r6 S5 => (if r6 = 0 then (wp_X1_placeAt_46 a0 a1 a2 a3 a4 K6 Q S5 v5 v7 (0 : Int64)) else ((vp_in v7 5 ∧ (S5.2.2 16 a0 v7.toNatClampNeg) < 60) ∧ (wp_X5_scalarAt (S5.2.2 16 a0 v7.toNatClampNeg) a3 S5 (fun r10 S9 => (wp_X1_placeAt_46 a0 a1 a2 a3 a4 K6 Q S9 v5 v7 (Int32.toInt64 r10))))))))))
def wp_X1_placeAt_6 (a0 : Nat) (a1 : Int32) (a2 : Int32) (a3 : Nat) (a4 : Int32) (Q : Int64 → xS → Prop) : Nat → xS → Int64 → Int32 → Prop
  | 0 => fun _ _ _ => False
  | n + 1 => fun S v5 v7 => wp_X1_placeAt_6_b a0 a1 a2 a3 a4 (wp_X1_placeAt_6 a0 a1 a2 a3 a4 Q n) Q S v5 v7
def wp_X1_placeAt (a0 : Nat) (a1 : Int32) (a2 : Int32) (a3 : Nat) (a4 : Int32) (S : xS) (Q : Int64 → xS → Prop) : Prop :=
  (∃ n1, wp_X1_placeAt_6 a0 a1 a2 a3 a4 Q n1 S (0 : Int64) (0 : Int32))
def wp_X1_writeInferred_44 (a0 : Nat) (a1 : Nat) (K2 : xS → Int32 → Prop) (Q : xS → Prop) (S : xS) (v2 : Int32) : Prop :=
  (K2 S (v2 + (1 : Int32)))
def wp_X1_writeInferred_2_b (a0 : Nat) (a1 : Nat) (K2 : xS → Int32 → Prop) (Q : xS → Prop) (S : xS) (v2 : Int32) : Prop :=
  (if (S.1 1 a0 1) < v2 then (Q S) else (wp_X5_touches a1 v2 S (fun r2 S1 => (if r2 = 0 then (wp_X1_deltaAt a0 a1 v2 (0 : Int32) S1 (fun r4 S3 => (vp_in v2 25 ∧ (wp_X1_deltaAt a0 a1 v2 (1 : Int32) (xI S3 27 a1 v2.toNatClampNeg r4) (fun r7 S6 => (vp_in v2 25 ∧ (wp_X1_writeInferred_44 a0 a1 K2 Q (xI S6 28 a1 v2.toNatClampNeg r7) v2))))))) else (wp_X1_writeInferred_44 a0 a1 K2 Q S1 v2)))))
def wp_X1_writeInferred_2 (a0 : Nat) (a1 : Nat) (Q : xS → Prop) : Nat → xS → Int32 → Prop
  | 0 => fun _ _ => False
  | n + 1 => fun S v2 => wp_X1_writeInferred_2_b a0 a1 (wp_X1_writeInferred_2 a0 a1 Q n) Q S v2
def wp_X1_writeInferred (a0 : Nat) (a1 : Nat) (S : xS) (Q : xS → Prop) : Prop :=
  (∃ n1, wp_X1_writeInferred_2 a0 a1 Q n1 S (0 : Int32))
def wp_X1_touchAll (a0 : Nat) (a1 : Nat) (S : xS) (Q : xS → Prop) : Prop :=
  (wp_X1_writeInferred a0 a1 S (fun S1 => (Q (xI S1 5 a1 3 (((1 : Int32) <<< (((S1.1 1 a0 1) + (1 : Int32)) &&& 31)) - (1 : Int32))))))
def wp_X1_removeTuple_9_b (a0 : Nat) (K9 : xS → Nat → Int32 → Prop) (Q : xS → Prop) (S : xS) (v2 : Nat) (v3 : Int32) : Prop :=
  (if (S.1 1 a0 6) ≤ (v3 + (1 : Int32)) then (vp_in ((xI S 1 a0 6 ((S.1 1 a0 6) - (1 : Int32))).1 1 a0 6) 5 ∧ (Q (xR (xI S 1 a0 6 ((S.1 1 a0 6) - (1 : Int32))) 16 a0 ((xI S 1 a0 6 ((S.1 1 a0 6) - (1 : Int32))).1 1 a0 6).toNatClampNeg v2))) else ((vp_in (v3 + (1 : Int32)) 5 ∧ (S.2.2 16 a0 (v3 + (1 : Int32)).toNatClampNeg) < 60) ∧ (vp_in v3 5 ∧ (K9 (xR S 16 a0 v3.toNatClampNeg (S.2.2 16 a0 (v3 + (1 : Int32)).toNatClampNeg)) v2 (v3 + (1 : Int32))))))
def wp_X1_removeTuple_9 (a0 : Nat) (Q : xS → Prop) : Nat → xS → Nat → Int32 → Prop
  | 0 => fun _ _ _ => False
  | n + 1 => fun S v2 v3 => wp_X1_removeTuple_9_b a0 (wp_X1_removeTuple_9 a0 Q n) Q S v2 v3
def wp_X1_removeTuple (a0 : Nat) (a1 : Int32) (S : xS) (Q : xS → Prop) : Prop :=
  ((vp_in a1 5 ∧ (S.2.2 16 a0 a1.toNatClampNeg) < 60) ∧ (∃ n3, wp_X1_removeTuple_9 a0 Q n3 S (S.2.2 16 a0 a1.toNatClampNeg) a1))
def wp_X5_hasRegionOf_52 (Q : Int32 → xS → Prop) (S : xS) : Prop :=
  (((0 : Int32) = 0 ∨ (0 : Int32) = 1) ∧ Q (0 : Int32) S)
def wp_X5_hasRegionOf_2_b (a0 : Nat) (a1 : Nat) (K2 : xS → Int32 → Prop) (Q : Int32 → xS → Prop) (S : xS) (v2 : Int32) : Prop :=
  (if (4 : Int32) ≤ v2 then (((1 : Int32) = 0 ∨ (1 : Int32) = 1) ∧ Q (1 : Int32) S) else (vp_in v2 4 ∧ (vp_in v2 4 ∧ (if (S.1 24 a0 v2.toNatClampNeg) = (S.1 24 a1 v2.toNatClampNeg) then (vp_in v2 4 ∧ (vp_in v2 4 ∧ (if (S.1 25 a0 v2.toNatClampNeg) = (S.1 25 a1 v2.toNatClampNeg) then (vp_in v2 4 ∧ (vp_in v2 4 ∧ (if (S.1 26 a0 v2.toNatClampNeg) = (S.1 26 a1 v2.toNatClampNeg) then (K2 S (v2 + (1 : Int32))) else (wp_X5_hasRegionOf_52 Q S)))) else (wp_X5_hasRegionOf_52 Q S)))) else (wp_X5_hasRegionOf_52 Q S)))))
def wp_X5_hasRegionOf_2 (a0 : Nat) (a1 : Nat) (Q : Int32 → xS → Prop) : Nat → xS → Int32 → Prop
  | 0 => fun _ _ => False
  | n + 1 => fun S v2 => wp_X5_hasRegionOf_2_b a0 a1 (wp_X5_hasRegionOf_2 a0 a1 Q n) Q S v2
def wp_X5_hasRegionOf (a0 : Nat) (a1 : Nat) (S : xS) (Q : Int32 → xS → Prop) : Prop :=
  (∃ n1, wp_X5_hasRegionOf_2 a0 a1 Q n1 S (0 : Int32))
def wp_X1_earliestWithRegionOf_2_b (a0 : Nat) (a1 : Int32) (K2 : xS → Int32 → Prop) (Q : Int32 → xS → Prop) (S : xS) (v2 : Int32) : Prop :=
  (if a1 ≤ v2 then (Q a1 S) else ((vp_in v2 5 ∧ (S.2.2 16 a0 v2.toNatClampNeg) < 60) ∧ ((vp_in a1 5 ∧ (S.2.2 16 a0 a1.toNatClampNeg) < 60) ∧ (wp_X5_hasRegionOf (S.2.2 16 a0 v2.toNatClampNeg) (S.2.2 16 a0 a1.toNatClampNeg) S (fun r6 S5 => (if r6 = 0 then (K2 S5 (v2 + (1 : Int32))) else (Q v2 S5)))))))
def wp_X1_earliestWithRegionOf_2 (a0 : Nat) (a1 : Int32) (Q : Int32 → xS → Prop) : Nat → xS → Int32 → Prop
  | 0 => fun _ _ => False
  | n + 1 => fun S v2 => wp_X1_earliestWithRegionOf_2_b a0 a1 (wp_X1_earliestWithRegionOf_2 a0 a1 Q n) Q S v2
def wp_X1_earliestWithRegionOf (a0 : Nat) (a1 : Int32) (S : xS) (Q : Int32 → xS → Prop) : Prop :=
  (∃ n1, wp_X1_earliestWithRegionOf_2 a0 a1 Q n1 S (0 : Int32))
def wp_X5_addDeltas_46 (a0 : Nat) (a1 : Nat) (K2 : xS → Int32 → Prop) (Q : xS → Prop) (S : xS) (v2 : Int32) : Prop :=
  (K2 S (v2 + (1 : Int32)))
def wp_X5_addDeltas_2_b (a0 : Nat) (a1 : Nat) (K2 : xS → Int32 → Prop) (Q : xS → Prop) (S : xS) (v2 : Int32) : Prop :=
  (if (25 : Int32) ≤ v2 then (Q S) else (wp_X5_touches a0 v2 S (fun r2 S1 => (if r2 = 0 then (wp_X5_addDeltas_46 a0 a1 K2 Q S1 v2) else (vp_in v2 25 ∧ (vp_in v2 25 ∧ (vp_in v2 25 ∧ (vp_in v2 25 ∧ (vp_in v2 25 ∧ (vp_in v2 25 ∧ (wp_X5_addDeltas_46 a0 a1 K2 Q (xI (xI S1 27 a0 v2.toNatClampNeg ((S1.1 27 a0 v2.toNatClampNeg) + (S1.1 27 a1 v2.toNatClampNeg))) 28 a0 v2.toNatClampNeg (((xI S1 27 a0 v2.toNatClampNeg ((S1.1 27 a0 v2.toNatClampNeg) + (S1.1 27 a1 v2.toNatClampNeg))).1 28 a0 v2.toNatClampNeg) + ((xI S1 27 a0 v2.toNatClampNeg ((S1.1 27 a0 v2.toNatClampNeg) + (S1.1 27 a1 v2.toNatClampNeg))).1 28 a1 v2.toNatClampNeg))) v2)))))))))))
def wp_X5_addDeltas_2 (a0 : Nat) (a1 : Nat) (Q : xS → Prop) : Nat → xS → Int32 → Prop
  | 0 => fun _ _ => False
  | n + 1 => fun S v2 => wp_X5_addDeltas_2_b a0 a1 (wp_X5_addDeltas_2 a0 a1 Q n) Q S v2
def wp_X5_addDeltas (a0 : Nat) (a1 : Nat) (S : xS) (Q : xS → Prop) : Prop :=
  (∃ n1, wp_X5_addDeltas_2 a0 a1 Q n1 S (0 : Int32))
def wp_X1_mergeTuples_67 (a0 : Nat) (K12 : xS → Int32 → Int32 → Prop) (Q : Int32 → xS → Prop) (S : xS) (v1 : Int32) (v2 : Int32) : Prop :=
  (K12 S v1 (v2 + (-1 : Int32)))
def wp_X1_mergeTuples_12_b (a0 : Nat) (K12 : xS → Int32 → Int32 → Prop) (Q : Int32 → xS → Prop) (S : xS) (v1 : Int32) (v2 : Int32) : Prop :=
  (if v2 ≤ 0 then (Q (v1 - (S.1 1 a0 6)) S) else (wp_X1_earliestWithRegionOf a0 v2 S (fun r2 S1 => (if v2 ≤ r2 then (wp_X1_mergeTuples_67 a0 K12 Q S1 v1 v2) else ((vp_in r2 5 ∧ (S1.2.2 16 a0 r2.toNatClampNeg) < 60) ∧ (wp_X1_touchAll a0 (S1.2.2 16 a0 r2.toNatClampNeg) S1 (fun S5 => ((vp_in v2 5 ∧ (S5.2.2 16 a0 v2.toNatClampNeg) < 60) ∧ (wp_X1_touchAll a0 (S5.2.2 16 a0 v2.toNatClampNeg) S5 (fun S9 => ((vp_in r2 5 ∧ (S9.2.2 16 a0 r2.toNatClampNeg) < 60) ∧ ((vp_in v2 5 ∧ (S9.2.2 16 a0 v2.toNatClampNeg) < 60) ∧ (wp_X5_addDeltas (S9.2.2 16 a0 r2.toNatClampNeg) (S9.2.2 16 a0 v2.toNatClampNeg) S9 (fun S15 => (wp_X1_removeTuple a0 v2 S15 (fun S17 => (wp_X1_mergeTuples_67 a0 K12 Q S17 v1 v2)))))))))))))))))
def wp_X1_mergeTuples_12 (a0 : Nat) (Q : Int32 → xS → Prop) : Nat → xS → Int32 → Int32 → Prop
  | 0 => fun _ _ _ => False
  | n + 1 => fun S v1 v2 => wp_X1_mergeTuples_12_b a0 (wp_X1_mergeTuples_12 a0 Q n) Q S v1 v2
def wp_X1_mergeTuples (a0 : Nat) (S : xS) (Q : Int32 → xS → Prop) : Prop :=
  (∃ n1, wp_X1_mergeTuples_12 a0 Q n1 S (S.1 1 a0 6) ((S.1 1 a0 6) - (1 : Int32)))
def wp_J6_bitCount_0f7a4 (a0 : Int32) (S : xS) (Q : Int32 → xS → Prop) : Prop :=
  (Q ((((((((a0 - (((Int32.toUInt32 a0 >>> (Int32.toUInt32 (1 : Int32) &&& Int32.toUInt32 31)).toInt32) &&& (1431655765 : Int32))) &&& (858993459 : Int32)) + (((Int32.toUInt32 (a0 - (((Int32.toUInt32 a0 >>> (Int32.toUInt32 (1 : Int32) &&& Int32.toUInt32 31)).toInt32) &&& (1431655765 : Int32))) >>> (Int32.toUInt32 (2 : Int32) &&& Int32.toUInt32 31)).toInt32) &&& (858993459 : Int32))) + ((Int32.toUInt32 (((a0 - (((Int32.toUInt32 a0 >>> (Int32.toUInt32 (1 : Int32) &&& Int32.toUInt32 31)).toInt32) &&& (1431655765 : Int32))) &&& (858993459 : Int32)) + (((Int32.toUInt32 (a0 - (((Int32.toUInt32 a0 >>> (Int32.toUInt32 (1 : Int32) &&& Int32.toUInt32 31)).toInt32) &&& (1431655765 : Int32))) >>> (Int32.toUInt32 (2 : Int32) &&& Int32.toUInt32 31)).toInt32) &&& (858993459 : Int32))) >>> (Int32.toUInt32 (4 : Int32) &&& Int32.toUInt32 31)).toInt32)) &&& (252645135 : Int32)) + ((Int32.toUInt32 (((((a0 - (((Int32.toUInt32 a0 >>> (Int32.toUInt32 (1 : Int32) &&& Int32.toUInt32 31)).toInt32) &&& (1431655765 : Int32))) &&& (858993459 : Int32)) + (((Int32.toUInt32 (a0 - (((Int32.toUInt32 a0 >>> (Int32.toUInt32 (1 : Int32) &&& Int32.toUInt32 31)).toInt32) &&& (1431655765 : Int32))) >>> (Int32.toUInt32 (2 : Int32) &&& Int32.toUInt32 31)).toInt32) &&& (858993459 : Int32))) + ((Int32.toUInt32 (((a0 - (((Int32.toUInt32 a0 >>> (Int32.toUInt32 (1 : Int32) &&& Int32.toUInt32 31)).toInt32) &&& (1431655765 : Int32))) &&& (858993459 : Int32)) + (((Int32.toUInt32 (a0 - (((Int32.toUInt32 a0 >>> (Int32.toUInt32 (1 : Int32) &&& Int32.toUInt32 31)).toInt32) &&& (1431655765 : Int32))) >>> (Int32.toUInt32 (2 : Int32) &&& Int32.toUInt32 31)).toInt32) &&& (858993459 : Int32))) >>> (Int32.toUInt32 (4 : Int32) &&& Int32.toUInt32 31)).toInt32)) &&& (252645135 : Int32)) >>> (Int32.toUInt32 (8 : Int32) &&& Int32.toUInt32 31)).toInt32)) + ((Int32.toUInt32 ((((((a0 - (((Int32.toUInt32 a0 >>> (Int32.toUInt32 (1 : Int32) &&& Int32.toUInt32 31)).toInt32) &&& (1431655765 : Int32))) &&& (858993459 : Int32)) + (((Int32.toUInt32 (a0 - (((Int32.toUInt32 a0 >>> (Int32.toUInt32 (1 : Int32) &&& Int32.toUInt32 31)).toInt32) &&& (1431655765 : Int32))) >>> (Int32.toUInt32 (2 : Int32) &&& Int32.toUInt32 31)).toInt32) &&& (858993459 : Int32))) + ((Int32.toUInt32 (((a0 - (((Int32.toUInt32 a0 >>> (Int32.toUInt32 (1 : Int32) &&& Int32.toUInt32 31)).toInt32) &&& (1431655765 : Int32))) &&& (858993459 : Int32)) + (((Int32.toUInt32 (a0 - (((Int32.toUInt32 a0 >>> (Int32.toUInt32 (1 : Int32) &&& Int32.toUInt32 31)).toInt32) &&& (1431655765 : Int32))) >>> (Int32.toUInt32 (2 : Int32) &&& Int32.toUInt32 31)).toInt32) &&& (858993459 : Int32))) >>> (Int32.toUInt32 (4 : Int32) &&& Int32.toUInt32 31)).toInt32)) &&& (252645135 : Int32)) + ((Int32.toUInt32 (((((a0 - (((Int32.toUInt32 a0 >>> (Int32.toUInt32 (1 : Int32) &&& Int32.toUInt32 31)).toInt32) &&& (1431655765 : Int32))) &&& (858993459 : Int32)) + (((Int32.toUInt32 (a0 - (((Int32.toUInt32 a0 >>> (Int32.toUInt32 (1 : Int32) &&& Int32.toUInt32 31)).toInt32) &&& (1431655765 : Int32))) >>> (Int32.toUInt32 (2 : Int32) &&& Int32.toUInt32 31)).toInt32) &&& (858993459 : Int32))) + ((Int32.toUInt32 (((a0 - (((Int32.toUInt32 a0 >>> (Int32.toUInt32 (1 : Int32) &&& Int32.toUInt32 31)).toInt32) &&& (1431655765 : Int32))) &&& (858993459 : Int32)) + (((Int32.toUInt32 (a0 - (((Int32.toUInt32 a0 >>> (Int32.toUInt32 (1 : Int32) &&& Int32.toUInt32 31)).toInt32) &&& (1431655765 : Int32))) >>> (Int32.toUInt32 (2 : Int32) &&& Int32.toUInt32 31)).toInt32) &&& (858993459 : Int32))) >>> (Int32.toUInt32 (4 : Int32) &&& Int32.toUInt32 31)).toInt32)) &&& (252645135 : Int32)) >>> (Int32.toUInt32 (8 : Int32) &&& Int32.toUInt32 31)).toInt32)) >>> (Int32.toUInt32 (16 : Int32) &&& Int32.toUInt32 31)).toInt32)) &&& (63 : Int32)) S)
def wp_X5_dropTouch (a0 : Nat) (a1 : Int32) (S : xS) (Q : xS → Prop) : Prop :=
  (Q (xI S 5 a0 3 ((S.1 5 a0 3) &&& (((1 : Int32) <<< (a1 &&& 31)) ^^^ (-1 : Int32)))))
def wp_X1_keepsWrittenDeltas_42 (Q : Int32 → xS → Prop) (S : xS) : Prop :=
  (((0 : Int32) = 0 ∨ (0 : Int32) = 1) ∧ Q (0 : Int32) S)
def wp_X1_keepsWrittenDeltas_2_b (a0 : Nat) (a1 : Nat) (K2 : xS → Int32 → Prop) (Q : Int32 → xS → Prop) (S : xS) (v2 : Int32) : Prop :=
  (if (S.1 1 a0 1) < v2 then (((1 : Int32) = 0 ∨ (1 : Int32) = 1) ∧ Q (1 : Int32) S) else (wp_X1_deltaAt a0 a1 v2 (0 : Int32) S (fun r2 S1 => (vp_in v2 25 ∧ (if r2 = (S1.1 27 a1 v2.toNatClampNeg) then (wp_X1_deltaAt a0 a1 v2 (1 : Int32) S1 (fun r5 S4 => (vp_in v2 25 ∧ (if r5 = (S4.1 28 a1 v2.toNatClampNeg) then (K2 S4 (v2 + (1 : Int32))) else (wp_X1_keepsWrittenDeltas_42 Q S4))))) else (wp_X1_keepsWrittenDeltas_42 Q S1))))))
def wp_X1_keepsWrittenDeltas_2 (a0 : Nat) (a1 : Nat) (Q : Int32 → xS → Prop) : Nat → xS → Int32 → Prop
  | 0 => fun _ _ => False
  | n + 1 => fun S v2 => wp_X1_keepsWrittenDeltas_2_b a0 a1 (wp_X1_keepsWrittenDeltas_2 a0 a1 Q n) Q S v2
def wp_X1_keepsWrittenDeltas (a0 : Nat) (a1 : Nat) (S : xS) (Q : Int32 → xS → Prop) : Prop :=
  (∃ n1, wp_X1_keepsWrittenDeltas_2 a0 a1 Q n1 S (0 : Int32))
def wp_X5_putDelta (a0 : Nat) (a1 : Int32) (a2 : Int32) (a3 : Int32) (S : xS) (Q : xS → Prop) : Prop :=
  (vp_in a1 25 ∧ (vp_in a1 25 ∧ (Q (xI (xI (xI S 5 a0 3 ((S.1 5 a0 3) ||| ((1 : Int32) <<< (a1 &&& 31)))) 27 a0 a1.toNatClampNeg a2) 28 a0 a1.toNatClampNeg a3))))
def wp_X1_releaseIfNeedless_30 (Q : xS → Prop) (S : xS) : Prop :=
  (Q S)
def wp_X1_releaseIfNeedless (a0 : Nat) (a1 : Nat) (a2 : Int32) (S : xS) (Q : xS → Prop) : Prop :=
  (wp_X5_dropTouch a1 a2 S (fun S1 => (wp_X1_keepsWrittenDeltas a0 a1 S1 (fun r4 S3 => (if r4 = 0 then (vp_in a2 25 ∧ (vp_in a2 25 ∧ (wp_X5_putDelta a1 a2 (S3.1 27 a1 a2.toNatClampNeg) (S3.1 28 a1 a2.toNatClampNeg) S3 (fun S7 => (wp_X1_releaseIfNeedless_30 Q S7))))) else (wp_X1_releaseIfNeedless_30 Q S3))))))
def wp_X1_compactTuple_37 (a0 : Nat) (a1 : Nat) (K15 : xS → Int32 → Int32 → Prop) (Q : Int32 → xS → Prop) (S : xS) (v2 : Int32) (v3 : Int32) : Prop :=
  (K15 S v2 (v3 + (1 : Int32)))
def wp_X1_compactTuple_15_b (a0 : Nat) (a1 : Nat) (K15 : xS → Int32 → Int32 → Prop) (Q : Int32 → xS → Prop) (S : xS) (v2 : Int32) (v3 : Int32) : Prop :=
  (if (S.1 1 a0 1) < v3 then (wp_J6_bitCount_0f7a4 (S.1 5 a1 3) S (fun r2 S1 => (Q (v2 - r2) S1))) else (wp_X5_touches a1 v3 S (fun r4 S3 => (if r4 = 0 then (wp_X1_compactTuple_37 a0 a1 K15 Q S3 v2 v3) else (wp_X1_releaseIfNeedless a0 a1 v3 S3 (fun S5 => (wp_X1_compactTuple_37 a0 a1 K15 Q S5 v2 v3)))))))
def wp_X1_compactTuple_15 (a0 : Nat) (a1 : Nat) (Q : Int32 → xS → Prop) : Nat → xS → Int32 → Int32 → Prop
  | 0 => fun _ _ _ => False
  | n + 1 => fun S v2 v3 => wp_X1_compactTuple_15_b a0 a1 (wp_X1_compactTuple_15 a0 a1 Q n) Q S v2 v3
def wp_X1_compactTuple (a0 : Nat) (a1 : Nat) (S : xS) (Q : Int32 → xS → Prop) : Prop :=
  (wp_J6_bitCount_0f7a4 (S.1 5 a1 3) S (fun r2 S1 => (wp_X1_writeInferred a0 a1 S1 (fun S3 => (∃ n5, wp_X1_compactTuple_15 a0 a1 Q n5 S3 r2 (0 : Int32))))))
def wp_X1_hasTupleToFold_2_b (a0 : Nat) (a1 : Int32) (K2 : xS → Int32 → Prop) (Q : Int32 → xS → Prop) (S : xS) (v2 : Int32) : Prop :=
  (if (S.1 1 a0 6) ≤ v2 then (((0 : Int32) = 0 ∨ (0 : Int32) = 1) ∧ Q (0 : Int32) S) else ((vp_in v2 5 ∧ (S.2.2 16 a0 v2.toNatClampNeg) < 60) ∧ (wp_X5_dependsOnlyOn (S.2.2 16 a0 v2.toNatClampNeg) a1 S (fun r4 S3 => (if r4 = 0 then (K2 S3 (v2 + (1 : Int32))) else (((1 : Int32) = 0 ∨ (1 : Int32) = 1) ∧ Q (1 : Int32) S3))))))
def wp_X1_hasTupleToFold_2 (a0 : Nat) (a1 : Int32) (Q : Int32 → xS → Prop) : Nat → xS → Int32 → Prop
  | 0 => fun _ _ => False
  | n + 1 => fun S v2 => wp_X1_hasTupleToFold_2_b a0 a1 (wp_X1_hasTupleToFold_2 a0 a1 Q n) Q S v2
def wp_X1_hasTupleToFold (a0 : Nat) (a1 : Int32) (S : xS) (Q : Int32 → xS → Prop) : Prop :=
  (∃ n1, wp_X1_hasTupleToFold_2 a0 a1 Q n1 S (0 : Int32))
def wp_X1_foldTuples_127 (a0 : Nat) (a1 : Int32) (K102 : xS → Int32 → Int32 → Prop) (Q : Int32 → xS → Prop) (S : xS) (v3 : Int32) (v4 : Int32) : Prop :=
  (K102 S v3 (v4 + (-1 : Int32)))
def wp_X1_foldTuples_102_b (a0 : Nat) (a1 : Int32) (K102 : xS → Int32 → Int32 → Prop) (Q : Int32 → xS → Prop) (S : xS) (v3 : Int32) (v4 : Int32) : Prop :=
  (if v4 < 0 then (Q (v3 - (S.1 1 a0 6)) S) else ((vp_in v4 5 ∧ (S.2.2 16 a0 v4.toNatClampNeg) < 60) ∧ (wp_X5_dependsOnlyOn (S.2.2 16 a0 v4.toNatClampNeg) a1 S (fun r4 S3 => (if r4 = 0 then (wp_X1_foldTuples_127 a0 a1 K102 Q S3 v3 v4) else (wp_X1_removeTuple a0 v4 S3 (fun S5 => (wp_X1_foldTuples_127 a0 a1 K102 Q S5 v3 v4))))))))
def wp_X1_foldTuples_102 (a0 : Nat) (a1 : Int32) (Q : Int32 → xS → Prop) : Nat → xS → Int32 → Int32 → Prop
  | 0 => fun _ _ _ => False
  | n + 1 => fun S v3 v4 => wp_X1_foldTuples_102_b a0 a1 (wp_X1_foldTuples_102 a0 a1 Q n) Q S v3 v4
def wp_X1_foldTuples_45_b (a0 : Nat) (a1 : Int32) (a2 : Nat) (K45 : xS → Int32 → Prop) (Q : Int32 → xS → Prop) (S : xS) (v3 : Int32) : Prop :=
  (if (S.1 1 a0 1) < v3 then (∃ n1, wp_X1_foldTuples_102 a0 a1 Q n1 S (S.1 1 a0 6) ((S.1 1 a0 6) - (1 : Int32))) else (wp_X1_placeAt a0 v3 (0 : Int32) a2 a1 S (fun r3 S2 => (vp_in v3 25 ∧ (wp_X1_placeAt a0 v3 (1 : Int32) a2 a1 (xI S2 12 a0 v3.toNatClampNeg (Int64.toInt32 r3)) (fun r6 S5 => (vp_in v3 25 ∧ (K45 (xI S5 13 a0 v3.toNatClampNeg (Int64.toInt32 r6)) (v3 + (1 : Int32))))))))))
def wp_X1_foldTuples_45 (a0 : Nat) (a1 : Int32) (a2 : Nat) (Q : Int32 → xS → Prop) : Nat → xS → Int32 → Prop
  | 0 => fun _ _ => False
  | n + 1 => fun S v3 => wp_X1_foldTuples_45_b a0 a1 a2 (wp_X1_foldTuples_45 a0 a1 a2 Q n) Q S v3
def wp_X1_foldTuples_43 (a0 : Nat) (a1 : Int32) (a2 : Nat) (Q : Int32 → xS → Prop) (S : xS) : Prop :=
  (∃ n1, wp_X1_foldTuples_45 a0 a1 a2 Q n1 S (0 : Int32))
def wp_X1_foldTuples_12_b (a0 : Nat) (a1 : Int32) (a2 : Nat) (K12 : xS → Int32 → Prop) (Q : Int32 → xS → Prop) (S : xS) (v3 : Int32) : Prop :=
  (if (S.1 1 a0 0) = 0 then (if (S.1 1 a0 6) ≤ v3 then (wp_X1_foldTuples_43 a0 a1 a2 Q S) else ((vp_in v3 5 ∧ (S.2.2 16 a0 v3.toNatClampNeg) < 60) ∧ (wp_X1_touchAll a0 (S.2.2 16 a0 v3.toNatClampNeg) S (fun S3 => (K12 S3 (v3 + (1 : Int32))))))) else (wp_X1_foldTuples_43 a0 a1 a2 Q S))
def wp_X1_foldTuples_12 (a0 : Nat) (a1 : Int32) (a2 : Nat) (Q : Int32 → xS → Prop) : Nat → xS → Int32 → Prop
  | 0 => fun _ _ => False
  | n + 1 => fun S v3 => wp_X1_foldTuples_12_b a0 a1 a2 (wp_X1_foldTuples_12 a0 a1 a2 Q n) Q S v3
def wp_X1_foldTuples (a0 : Nat) (a1 : Int32) (a2 : Nat) (S : xS) (Q : Int32 → xS → Prop) : Prop :=
  (wp_X1_hasTupleToFold a0 a1 S (fun r2 S1 => (if r2 = 0 then (Q (0 : Int32) S1) else (∃ n3, wp_X1_foldTuples_12 a0 a1 a2 Q n3 S1 (0 : Int32)))))
def wp_X1_movesNothing_30 (Q : Int32 → xS → Prop) (S : xS) : Prop :=
  (((0 : Int32) = 0 ∨ (0 : Int32) = 1) ∧ Q (0 : Int32) S)
def wp_X1_movesNothing_2_b (a0 : Nat) (a1 : Nat) (K2 : xS → Int32 → Prop) (Q : Int32 → xS → Prop) (S : xS) (v2 : Int32) : Prop :=
  (if (S.1 1 a0 1) < v2 then (((1 : Int32) = 0 ∨ (1 : Int32) = 1) ∧ Q (1 : Int32) S) else (wp_X1_deltaAt a0 a1 v2 (0 : Int32) S (fun r2 S1 => (if r2 = 0 then (wp_X1_deltaAt a0 a1 v2 (1 : Int32) S1 (fun r4 S3 => (if r4 = 0 then (K2 S3 (v2 + (1 : Int32))) else (wp_X1_movesNothing_30 Q S3)))) else (wp_X1_movesNothing_30 Q S1)))))
def wp_X1_movesNothing_2 (a0 : Nat) (a1 : Nat) (Q : Int32 → xS → Prop) : Nat → xS → Int32 → Prop
  | 0 => fun _ _ => False
  | n + 1 => fun S v2 => wp_X1_movesNothing_2_b a0 a1 (wp_X1_movesNothing_2 a0 a1 Q n) Q S v2
def wp_X1_movesNothing (a0 : Nat) (a1 : Nat) (S : xS) (Q : Int32 → xS → Prop) : Prop :=
  (∃ n1, wp_X1_movesNothing_2 a0 a1 Q n1 S (0 : Int32))
def wp_X1_pruneTuples_34 (a0 : Nat) (K12 : xS → Int32 → Int32 → Prop) (Q : Int32 → xS → Prop) (S : xS) (v1 : Int32) (v2 : Int32) : Prop :=
  (K12 S v1 (v2 + (-1 : Int32)))
def wp_X1_pruneTuples_12_b (a0 : Nat) (K12 : xS → Int32 → Int32 → Prop) (Q : Int32 → xS → Prop) (S : xS) (v1 : Int32) (v2 : Int32) : Prop :=
  (if v2 < 0 then (Q (v1 - (S.1 1 a0 6)) S) else ((vp_in v2 5 ∧ (S.2.2 16 a0 v2.toNatClampNeg) < 60) ∧ (wp_X1_movesNothing a0 (S.2.2 16 a0 v2.toNatClampNeg) S (fun r4 S3 => (if r4 = 0 then (wp_X1_pruneTuples_34 a0 K12 Q S3 v1 v2) else (wp_X1_removeTuple a0 v2 S3 (fun S5 => (wp_X1_pruneTuples_34 a0 K12 Q S5 v1 v2))))))))
def wp_X1_pruneTuples_12 (a0 : Nat) (Q : Int32 → xS → Prop) : Nat → xS → Int32 → Int32 → Prop
  | 0 => fun _ _ _ => False
  | n + 1 => fun S v1 v2 => wp_X1_pruneTuples_12_b a0 (wp_X1_pruneTuples_12 a0 Q n) Q S v1 v2
def wp_X1_pruneTuples (a0 : Nat) (S : xS) (Q : Int32 → xS → Prop) : Prop :=
  (∃ n1, wp_X1_pruneTuples_12 a0 Q n1 S (S.1 1 a0 6) ((S.1 1 a0 6) - (1 : Int32)))
def wp_X2_forgetOldest_9_b (K9 : xS → Nat → Int32 → Prop) (Q : xS → Prop) (S : xS) (v1 : Nat) (v2 : Int32) : Prop :=
  (if (6 : Int32) ≤ (v2 + (1 : Int32)) then (vp_in ((xI S 2 0 0 (5 : Int32)).1 2 0 0) 6 ∧ (Q (xR (xI S 2 0 0 (5 : Int32)) 18 0 ((xI S 2 0 0 (5 : Int32)).1 2 0 0).toNatClampNeg v1))) else (vp_in (v2 + (1 : Int32)) 6 ∧ (vp_in v2 6 ∧ ((vp_in (v2 + (1 : Int32)) 6 ∧ ((xI S 17 0 v2.toNatClampNeg (S.1 17 0 (v2 + (1 : Int32)).toNatClampNeg)).2.2 18 0 (v2 + (1 : Int32)).toNatClampNeg) < 12) ∧ (vp_in v2 6 ∧ (K9 (xR (xI S 17 0 v2.toNatClampNeg (S.1 17 0 (v2 + (1 : Int32)).toNatClampNeg)) 18 0 v2.toNatClampNeg ((xI S 17 0 v2.toNatClampNeg (S.1 17 0 (v2 + (1 : Int32)).toNatClampNeg)).2.2 18 0 (v2 + (1 : Int32)).toNatClampNeg)) v1 (v2 + (1 : Int32))))))))
def wp_X2_forgetOldest_9 (Q : xS → Prop) : Nat → xS → Nat → Int32 → Prop
  | 0 => fun _ _ _ => False
  | n + 1 => fun S v1 v2 => wp_X2_forgetOldest_9_b (wp_X2_forgetOldest_9 Q n) Q S v1 v2
def wp_X2_forgetOldest (S : xS) (Q : xS → Prop) : Prop :=
  ((vp_in (0 : Int32) 6 ∧ (S.2.2 18 0 (0 : Int32).toNatClampNeg) < 12) ∧ (∃ n3, wp_X2_forgetOldest_9 Q n3 S (S.2.2 18 0 (0 : Int32).toNatClampNeg) (0 : Int32)))
def wp_X2_remember_13 (a1 : Int32) (a2 : Nat) (Q : xS → Prop) (S : xS) : Prop :=
  (vp_in (S.1 2 0 0) 6 ∧ ((vp_in ((xI S 17 0 (S.1 2 0 0).toNatClampNeg a1).1 2 0 0) 6 ∧ ((xI S 17 0 (S.1 2 0 0).toNatClampNeg a1).2.2 18 0 ((xI S 17 0 (S.1 2 0 0).toNatClampNeg a1).1 2 0 0).toNatClampNeg) < 12) ∧ (wp_X1_copyFrom ((xI S 17 0 (S.1 2 0 0).toNatClampNeg a1).2.2 18 0 ((xI S 17 0 (S.1 2 0 0).toNatClampNeg a1).1 2 0 0).toNatClampNeg) a2 (xI S 17 0 (S.1 2 0 0).toNatClampNeg a1) (fun S4 => (Q (xI S4 2 0 0 ((S4.1 2 0 0) + (1 : Int32))))))))
def wp_X2_remember (a1 : Int32) (a2 : Nat) (S : xS) (Q : xS → Prop) : Prop :=
  (if (S.1 2 0 0) < (6 : Int32) then (wp_X2_remember_13 a1 a2 Q S) else (wp_X2_forgetOldest S (fun S1 => (wp_X2_remember_13 a1 a2 Q S1))))
def wp_X3_append (a1 : Int32) (S : xS) (Q : Int32 → xS → Prop) : Prop :=
  (if (S.1 3 0 0) < (60 : Int32) then (vp_in (S.1 3 0 0) 60 ∧ (((1 : Int32) = 0 ∨ (1 : Int32) = 1) ∧ Q (1 : Int32) (xI (xI S 19 0 (S.1 3 0 0).toNatClampNeg (vp_nar .char a1)) 3 0 0 (((xI S 19 0 (S.1 3 0 0).toNatClampNeg (vp_nar .char a1)).1 3 0 0) + (1 : Int32))))) else (((0 : Int32) = 0 ∨ (0 : Int32) = 1) ∧ Q (0 : Int32) S))
def wp_X3_axisAt_46 (Q : Int32 → xS → Prop) (S : xS) : Prop :=
  (Q (-1 : Int32) S)
def wp_X3_axisAt (a1 : Int32) (a2 : Int32) (a3 : Int32) (S : xS) (Q : Int32 → xS → Prop) : Prop :=
  (if a1 < (S.1 3 0 0) then (vp_in a1 60 ∧ (if ((S.1 19 0 a1.toNatClampNeg) - (97 : Int32)) < 0 then (wp_X3_axisAt_46 Q S) else (if a2 ≤ ((S.1 19 0 a1.toNatClampNeg) - (97 : Int32)) then (wp_X3_axisAt_46 Q S) else (wp_X6_hasBit (a3 ||| (S.1 3 0 2)) ((S.1 19 0 a1.toNatClampNeg) - (97 : Int32)) S (fun r3 S2 => (if r3 = 0 then (Q ((S.1 19 0 a1.toNatClampNeg) - (97 : Int32)) (xI S2 3 0 2 ((S2.1 3 0 2) ||| ((1 : Int32) <<< (((S.1 19 0 a1.toNatClampNeg) - (97 : Int32)) &&& 31))))) else (wp_X3_axisAt_46 Q S2))))))) else (Q (-1 : Int32) S))
def wp_X3_isAt_23 (Q : Int32 → xS → Prop) (S : xS) (s0 : Int32) : Prop :=
  ((s0 = 0 ∨ s0 = 1) ∧ Q s0 S)
def wp_X3_isAt_22 (Q : Int32 → xS → Prop) (S : xS) : Prop :=
  (wp_X3_isAt_23 Q S (0 : Int32))
def wp_X3_isAt (a1 : Int32) (a2 : Int32) (S : xS) (Q : Int32 → xS → Prop) : Prop :=
  (if (S.1 3 0 0) ≤ a1 then (wp_X3_isAt_22 Q S) else (vp_in a1 60 ∧ (if (S.1 19 0 a1.toNatClampNeg) = a2 then (wp_X3_isAt_23 Q S (1 : Int32)) else (wp_X3_isAt_22 Q S))))
def wp_X3_readNumber_89 (Q : Int32 → xS → Prop) (S : xS) (v5 : Int32) (s1 : Int32) (s2 : Int32) : Prop :=
  (vp_in s1 4 ∧ (Q v5 (xI S 20 0 s1.toNatClampNeg s2)))
def wp_X3_readNumber_72 (a2 : Int32) (a3 : Int32) (Q : Int32 → xS → Prop) (S : xS) (v4 : Int32) (v5 : Int32) : Prop :=
  (if a3 = 0 then (wp_X3_readNumber_89 Q S v5 a2 v4) else (wp_X3_readNumber_89 Q S v5 a2 (-v4)))
def wp_X3_readNumber_6_b (a1 : Int32) (a2 : Int32) (a3 : Int32) (K6 : xS → Int32 → Int32 → Prop) (Q : Int32 → xS → Prop) (S : xS) (v4 : Int32) (v5 : Int32) : Prop :=
  (if (S.1 3 0 0) ≤ v5 then (wp_X3_readNumber_72 a2 a3 Q S v4 v5) else (if (a1 + (6 : Int32)) ≤ v5 then (wp_X3_readNumber_72 a2 a3 Q S v4 v5) else (vp_in v5 60 ∧ (if (S.1 19 0 v5.toNatClampNeg) < (48 : Int32) then (wp_X3_readNumber_72 a2 a3 Q S v4 v5) else (vp_in v5 60 ∧ (if (57 : Int32) < (S.1 19 0 v5.toNatClampNeg) then (wp_X3_readNumber_72 a2 a3 Q S v4 v5) else (vp_in v5 60 ∧ (K6 S ((v4 * (10 : Int32)) + ((S.1 19 0 v5.toNatClampNeg) - (48 : Int32))) (v5 + (1 : Int32))))))))))
def wp_X3_readNumber_6 (a1 : Int32) (a2 : Int32) (a3 : Int32) (Q : Int32 → xS → Prop) : Nat → xS → Int32 → Int32 → Prop
  | 0 => fun _ _ _ => False
  | n + 1 => fun S v4 v5 => wp_X3_readNumber_6_b a1 a2 a3 (wp_X3_readNumber_6 a1 a2 a3 Q n) Q S v4 v5
def wp_X3_readNumber (a1 : Int32) (a2 : Int32) (a3 : Int32) (S : xS) (Q : Int32 → xS → Prop) : Prop :=
  (∃ n1, wp_X3_readNumber_6 a1 a2 a3 Q n1 S (0 : Int32) a1)
def wp_X3_readItems_58 (a1 : Int32) (a2 : Int32) (K10 : xS → Int32 → Int32 → Prop) (Q : Int32 → xS → Prop) (S : xS) (v4 : Int32) (v5 : Int32) (v6 : Int32) (s0 : Int32) (s1 : Int32) : Prop :=
  (wp_X3_readNumber (s0 + s1) v5 v6 S (fun r2 S1 => (if r2 = (s0 + s1) then (Q ((-100 : Int32) - (s0 + s1)) S1) else (if r2 < (S1.1 3 0 0) then (wp_X3_isAt r2 (59 : Int32) S1 (fun r4 S3 => (if r4 = 0 then (Q ((-100 : Int32) - r2) S3) else (K10 S3 (r2 + (1 : Int32)) (v4 + (1 : Int32)))))) else (Q v4 S1)))))
def wp_X3_readItems_10_b (a1 : Int32) (a2 : Int32) (K10 : xS → Int32 → Int32 → Prop) (Q : Int32 → xS → Prop) (S : xS) (v3 : Int32) (v4 : Int32) : Prop :=
  (if (4 : Int32) < v4 then (Q ((-100 : Int32) - v3) S) else (wp_X3_axisAt v3 a1 a2 S (fun r2 S1 => (if 0 ≤ r2 then (wp_X3_isAt (v3 + (1 : Int32)) (45 : Int32) S1 (fun r4 S3 => (if r4 = 0 then (wp_X3_readItems_58 a1 a2 K10 Q S3 v4 r2 r4 (v3 + (1 : Int32)) (0 : Int32)) else (wp_X3_readItems_58 a1 a2 K10 Q S3 v4 r2 r4 (v3 + (1 : Int32)) (1 : Int32))))) else (Q ((-100 : Int32) - v3) S1)))))
def wp_X3_readItems_10 (a1 : Int32) (a2 : Int32) (Q : Int32 → xS → Prop) : Nat → xS → Int32 → Int32 → Prop
  | 0 => fun _ _ _ => False
  | n + 1 => fun S v3 v4 => wp_X3_readItems_10_b a1 a2 (wp_X3_readItems_10 a1 a2 Q n) Q S v3 v4
def wp_X3_readItems (a1 : Int32) (a2 : Int32) (S : xS) (Q : Int32 → xS → Prop) : Prop :=
  (∃ n1, wp_X3_readItems_10 a1 a2 Q n1 (xI S 3 0 2 (0 : Int32)) (0 : Int32) (1 : Int32))
def wp_X4_clear (a0 : Nat) (S : xS) (Q : xS → Prop) : Prop :=
  (Q (xI (xI S 4 a0 0 (0 : Int32)) 4 a0 1 (0 : Int32)))
def wp_X4_append (a0 : Nat) (a1 : Int64) (a3 : Int64) (a5 : Int32) (S : xS) (Q : xS → Prop) : Prop :=
  (if (S.1 4 a0 0) < (96 : Int32) then (vp_in (S.1 4 a0 0) 96 ∧ (vp_in ((xJ S 21 a0 (S.1 4 a0 0).toNatClampNeg a1).1 4 a0 0) 96 ∧ (vp_in ((xJ (xJ S 21 a0 (S.1 4 a0 0).toNatClampNeg a1) 22 a0 ((xJ S 21 a0 (S.1 4 a0 0).toNatClampNeg a1).1 4 a0 0).toNatClampNeg a3).1 4 a0 0) 96 ∧ (Q (xI (xI (xI (xJ (xJ S 21 a0 (S.1 4 a0 0).toNatClampNeg a1) 22 a0 ((xJ S 21 a0 (S.1 4 a0 0).toNatClampNeg a1).1 4 a0 0).toNatClampNeg a3) 23 a0 ((xJ (xJ S 21 a0 (S.1 4 a0 0).toNatClampNeg a1) 22 a0 ((xJ S 21 a0 (S.1 4 a0 0).toNatClampNeg a1).1 4 a0 0).toNatClampNeg a3).1 4 a0 0).toNatClampNeg a5) 4 a0 0 (((xI (xJ (xJ S 21 a0 (S.1 4 a0 0).toNatClampNeg a1) 22 a0 ((xJ S 21 a0 (S.1 4 a0 0).toNatClampNeg a1).1 4 a0 0).toNatClampNeg a3) 23 a0 ((xJ (xJ S 21 a0 (S.1 4 a0 0).toNatClampNeg a1) 22 a0 ((xJ S 21 a0 (S.1 4 a0 0).toNatClampNeg a1).1 4 a0 0).toNatClampNeg a3).1 4 a0 0).toNatClampNeg a5).1 4 a0 0) + (1 : Int32))) 4 a0 1 (a5 + (1 : Int32))))))) else (Q S))
def wp_J9_min_f86c9_11 (Q : Int64 → xS → Prop) (S : xS) (s0 : Int64) : Prop :=
  (Q s0 S)
def wp_J9_min_f86c9 (a0 : Int64) (a2 : Int64) (S : xS) (Q : Int64 → xS → Prop) : Prop :=
  (if 0 < (lg_cmp a0 a2) then (wp_J9_min_f86c9_11 Q S a2) else (wp_J9_min_f86c9_11 Q S a0))
def wp_X4_leastOf_38 (a0 : Nat) (a1 : Int32) (K7 : xS → Int64 → Int32 → Prop) (Q : Int64 → xS → Prop) (S : xS) (v4 : Int32) (s0 : Int64) (s1 : Int64) : Prop :=
  (wp_J9_min_f86c9 s0 s1 S (fun r2 S1 => (K7 S1 r2 (v4 + (1 : Int32)))))
def wp_X4_leastOf_7_b (a0 : Nat) (a1 : Int32) (K7 : xS → Int64 → Int32 → Prop) (Q : Int64 → xS → Prop) (S : xS) (v2 : Int64) (v4 : Int32) : Prop :=
  (if (S.1 4 a0 0) ≤ v4 then (Q v2 S) else (if a1 = 0 then (vp_in v4 96 ∧ (wp_X4_leastOf_38 a0 a1 K7 Q S v4 v2 (S.2.1 21 a0 v4.toNatClampNeg))) else (vp_in v4 96 ∧ (wp_X4_leastOf_38 a0 a1 K7 Q S v4 v2 (S.2.1 22 a0 v4.toNatClampNeg)))))
def wp_X4_leastOf_7 (a0 : Nat) (a1 : Int32) (Q : Int64 → xS → Prop) : Nat → xS → Int64 → Int32 → Prop
  | 0 => fun _ _ _ => False
  | n + 1 => fun S v2 v4 => wp_X4_leastOf_7_b a0 a1 (wp_X4_leastOf_7 a0 a1 Q n) Q S v2 v4
def wp_X4_leastOf (a0 : Nat) (a1 : Int32) (S : xS) (Q : Int64 → xS → Prop) : Prop :=
  (∃ n1, wp_X4_leastOf_7 a0 a1 Q n1 S (9223372036854775807 : Int64) (0 : Int32))
def wp_J9_max_f86c9_11 (Q : Int64 → xS → Prop) (S : xS) (s0 : Int64) : Prop :=
  (Q s0 S)
def wp_J9_max_f86c9 (a0 : Int64) (a2 : Int64) (S : xS) (Q : Int64 → xS → Prop) : Prop :=
  (if (lg_cmp a0 a2) < 0 then (wp_J9_max_f86c9_11 Q S a2) else (wp_J9_max_f86c9_11 Q S a0))
def wp_X4_greatestOf_38 (a0 : Nat) (a1 : Int32) (K7 : xS → Int64 → Int32 → Prop) (Q : Int64 → xS → Prop) (S : xS) (v4 : Int32) (s0 : Int64) (s1 : Int64) : Prop :=
  (wp_J9_max_f86c9 s0 s1 S (fun r2 S1 => (K7 S1 r2 (v4 + (1 : Int32)))))
def wp_X4_greatestOf_7_b (a0 : Nat) (a1 : Int32) (K7 : xS → Int64 → Int32 → Prop) (Q : Int64 → xS → Prop) (S : xS) (v2 : Int64) (v4 : Int32) : Prop :=
  (if (S.1 4 a0 0) ≤ v4 then (Q v2 S) else (if a1 = 0 then (vp_in v4 96 ∧ (wp_X4_greatestOf_38 a0 a1 K7 Q S v4 v2 (S.2.1 21 a0 v4.toNatClampNeg))) else (vp_in v4 96 ∧ (wp_X4_greatestOf_38 a0 a1 K7 Q S v4 v2 (S.2.1 22 a0 v4.toNatClampNeg)))))
def wp_X4_greatestOf_7 (a0 : Nat) (a1 : Int32) (Q : Int64 → xS → Prop) : Nat → xS → Int64 → Int32 → Prop
  | 0 => fun _ _ _ => False
  | n + 1 => fun S v2 v4 => wp_X4_greatestOf_7_b a0 a1 (wp_X4_greatestOf_7 a0 a1 Q n) Q S v2 v4
def wp_X4_greatestOf (a0 : Nat) (a1 : Int32) (S : xS) (Q : Int64 → xS → Prop) : Prop :=
  (∃ n1, wp_X4_greatestOf_7 a0 a1 Q n1 S (-9223372036854775808 : Int64) (0 : Int32))
def wp_X4_contourArea_125 (a0 : Nat) (a1 : Int32) (K8 : xS → Int64 → Int32 → Int32 → Prop) (Q : Int64 → xS → Prop) (S : xS) (v2 : Int64) (v4 : Int32) (v5 : Int32) : Prop :=
  (K8 S v2 v4 (v5 + (1 : Int32)))
def wp_X4_contourArea_89 (a0 : Nat) (a1 : Int32) (K8 : xS → Int64 → Int32 → Int32 → Prop) (Q : Int64 → xS → Prop) (S : xS) (v2 : Int64) (v4 : Int32) (v5 : Int32) (s0 : Int32) : Prop :=
  (vp_in v5 96 ∧ (vp_in s0 96 ∧ (vp_in s0 96 ∧ (vp_in v5 96 ∧ (wp_X4_contourArea_125 a0 a1 K8 Q S (v2 + (((S.2.1 21 a0 v5.toNatClampNeg) * (S.2.1 22 a0 s0.toNatClampNeg)) - ((S.2.1 21 a0 s0.toNatClampNeg) * (S.2.1 22 a0 v5.toNatClampNeg)))) v4 v5)))))
def wp_X4_contourArea_87 (a0 : Nat) (a1 : Int32) (K8 : xS → Int64 → Int32 → Int32 → Prop) (Q : Int64 → xS → Prop) (S : xS) (v2 : Int64) (v4 : Int32) (v5 : Int32) : Prop :=
  (wp_X4_contourArea_89 a0 a1 K8 Q S v2 v4 v5 v4)
def wp_X4_contourArea_45 (a0 : Nat) (a1 : Int32) (K8 : xS → Int64 → Int32 → Int32 → Prop) (Q : Int64 → xS → Prop) (S : xS) (v2 : Int64) (v4 : Int32) (v5 : Int32) : Prop :=
  (vp_in v5 96 ∧ (if (S.1 23 a0 v5.toNatClampNeg) = a1 then (if (S.1 4 a0 0) ≤ (v5 + (1 : Int32)) then (wp_X4_contourArea_87 a0 a1 K8 Q S v2 v4 v5) else (vp_in (v5 + (1 : Int32)) 96 ∧ (if (S.1 23 a0 (v5 + (1 : Int32)).toNatClampNeg) = a1 then (wp_X4_contourArea_89 a0 a1 K8 Q S v2 v4 v5 (v5 + (1 : Int32))) else (wp_X4_contourArea_87 a0 a1 K8 Q S v2 v4 v5)))) else (wp_X4_contourArea_125 a0 a1 K8 Q S v2 v4 v5)))
def wp_X4_contourArea_8_b (a0 : Nat) (a1 : Int32) (K8 : xS → Int64 → Int32 → Int32 → Prop) (Q : Int64 → xS → Prop) (S : xS) (v2 : Int64) (v4 : Int32) (v5 : Int32) : Prop :=
  (if (S.1 4 a0 0) ≤ v5 then (Q v2 S) else (if v5 ≤ 0 then (wp_X4_contourArea_45 a0 a1 K8 Q S v2 v4 v5) else (vp_in v5 96 ∧ (vp_in (v5 - (1 : Int32)) 96 ∧ (if (S.1 23 a0 v5.toNatClampNeg) = (S.1 23 a0 (v5 - (1 : Int32)).toNatClampNeg) then (wp_X4_contourArea_45 a0 a1 K8 Q S v2 v4 v5) else (wp_X4_contourArea_45 a0 a1 K8 Q S v2 v5 v5))))))
def wp_X4_contourArea_8 (a0 : Nat) (a1 : Int32) (Q : Int64 → xS → Prop) : Nat → xS → Int64 → Int32 → Int32 → Prop
  | 0 => fun _ _ _ _ => False
  | n + 1 => fun S v2 v4 v5 => wp_X4_contourArea_8_b a0 a1 (wp_X4_contourArea_8 a0 a1 Q n) Q S v2 v4 v5
def wp_X4_contourArea (a0 : Nat) (a1 : Int32) (S : xS) (Q : Int64 → xS → Prop) : Prop :=
  (∃ n1, wp_X4_contourArea_8 a0 a1 Q n1 S (0 : Int64) (0 : Int32) (0 : Int32))
def wp_X4_wholeArea_4_b (a0 : Nat) (K4 : xS → Int64 → Int32 → Prop) (Q : Int64 → xS → Prop) (S : xS) (v1 : Int64) (v3 : Int32) : Prop :=
  (if (S.1 4 a0 1) ≤ v3 then (Q v1 S) else (wp_X4_contourArea a0 v3 S (fun r2 S1 => (K4 S1 (v1 + r2) (v3 + (1 : Int32))))))
def wp_X4_wholeArea_4 (a0 : Nat) (Q : Int64 → xS → Prop) : Nat → xS → Int64 → Int32 → Prop
  | 0 => fun _ _ _ => False
  | n + 1 => fun S v1 v3 => wp_X4_wholeArea_4_b a0 (wp_X4_wholeArea_4 a0 Q n) Q S v1 v3
def wp_X4_wholeArea (a0 : Nat) (S : xS) (Q : Int64 → xS → Prop) : Prop :=
  (∃ n1, wp_X4_wholeArea_4 a0 Q n1 S (0 : Int64) (0 : Int32))
def wp_X5_begin_7_b (a0 : Nat) (K7 : xS → Int32 → Prop) (Q : xS → Prop) (S : xS) (v1 : Int32) : Prop :=
  (if (4 : Int32) ≤ v1 then (Q S) else (vp_in v1 4 ∧ (vp_in v1 4 ∧ (vp_in v1 4 ∧ (K7 (xI (xI (xI S 24 a0 v1.toNatClampNeg (0 : Int32)) 25 a0 v1.toNatClampNeg (0 : Int32)) 26 a0 v1.toNatClampNeg (0 : Int32)) (v1 + (1 : Int32)))))))
def wp_X5_begin_7 (a0 : Nat) (Q : xS → Prop) : Nat → xS → Int32 → Prop
  | 0 => fun _ _ => False
  | n + 1 => fun S v1 => wp_X5_begin_7_b a0 (wp_X5_begin_7 a0 Q n) Q S v1
def wp_X5_begin (a0 : Nat) (S : xS) (Q : xS → Prop) : Prop :=
  (∃ n1, wp_X5_begin_7 a0 Q n1 (xI S 5 a0 3 (0 : Int32)) (0 : Int32))
def wp_X5_putRegion_36 (a0 : Nat) (a1 : Int32) (a2 : Int32) (a3 : Int32) (a4 : Int32) (Q : Int32 → xS → Prop) (S : xS) (s0 : Int32) : Prop :=
  (vp_in a1 4 ∧ (vp_in a1 4 ∧ (vp_in a1 4 ∧ ((s0 = 0 ∨ s0 = 1) ∧ Q s0 (xI (xI (xI S 24 a0 a1.toNatClampNeg a2) 25 a0 a1.toNatClampNeg a3) 26 a0 a1.toNatClampNeg a4)))))
def wp_X5_putRegion_31 (a0 : Nat) (a1 : Int32) (a2 : Int32) (a3 : Int32) (a4 : Int32) (Q : Int32 → xS → Prop) (S : xS) : Prop :=
  (wp_X5_putRegion_36 a0 a1 a2 a3 a4 Q S (1 : Int32))
def wp_X5_putRegion (a0 : Nat) (a1 : Int32) (a2 : Int32) (a3 : Int32) (a4 : Int32) (S : xS) (Q : Int32 → xS → Prop) : Prop :=
  (vp_in a1 4 ∧ (if (S.1 24 a0 a1.toNatClampNeg) = a2 then (vp_in a1 4 ∧ (if (S.1 25 a0 a1.toNatClampNeg) = a3 then (vp_in a1 4 ∧ (if (S.1 26 a0 a1.toNatClampNeg) = a4 then (wp_X5_putRegion_36 a0 a1 a2 a3 a4 Q S (0 : Int32)) else (wp_X5_putRegion_31 a0 a1 a2 a3 a4 Q S))) else (wp_X5_putRegion_31 a0 a1 a2 a3 a4 Q S))) else (wp_X5_putRegion_31 a0 a1 a2 a3 a4 Q S)))
def wp_X6_within_15 (Q : Int32 → xS → Prop) (S : xS) (s0 : Int32) : Prop :=
  ((s0 = 0 ∨ s0 = 1) ∧ Q s0 S)
def wp_X6_within_14 (Q : Int32 → xS → Prop) (S : xS) : Prop :=
  (wp_X6_within_15 Q S (0 : Int32))
def wp_X6_within (a0 : Int32) (a1 : Int32) (a2 : Int32) (S : xS) (Q : Int32 → xS → Prop) : Prop :=
  (if a0 < a1 then (wp_X6_within_14 Q S) else (if a2 < a0 then (wp_X6_within_14 Q S) else (wp_X6_within_15 Q S (1 : Int32))))
def wp_X6_addAxis_36 (Q : Int32 → xS → Prop) (S : xS) : Prop :=
  (Q (-1000005 : Int32) S)
def wp_X6_addAxis (a1 : Int32) (a2 : Int32) (a3 : Int32) (S : xS) (Q : Int32 → xS → Prop) : Prop :=
  (wp_X6_within a1 (-100000 : Int32) (100000 : Int32) S (fun r2 S1 => (if r2 = 0 then (wp_X6_addAxis_36 Q S1) else (wp_X6_within a2 a1 (100000 : Int32) S1 (fun r4 S3 => (if r4 = 0 then (wp_X6_addAxis_36 Q S3) else (wp_X6_within a3 a2 (100000 : Int32) S3 (fun r6 S5 => (if r6 = 0 then (wp_X6_addAxis_36 Q S5) else (if a3 = a1 then (wp_X6_addAxis_36 Q S5) else (if (S5.1 6 0 1) < (4 : Int32) then (vp_in (S5.1 6 0 1) 4 ∧ (wp_X0_begin ((S5.1 6 0 1).toNatClampNeg) a1 a2 a3 S5 (fun S8 => (Q (((xI S8 6 0 1 ((S8.1 6 0 1) + (1 : Int32))).1 6 0 1) - (1 : Int32)) (xI S8 6 0 1 ((S8.1 6 0 1) + (1 : Int32))))))) else (Q (-1000006 : Int32) S5))))))))))))
def wp_X6_hasAxis_17 (Q : Int32 → xS → Prop) (S : xS) (s0 : Int32) : Prop :=
  ((s0 = 0 ∨ s0 = 1) ∧ Q s0 S)
def wp_X6_hasAxis_16 (Q : Int32 → xS → Prop) (S : xS) : Prop :=
  (wp_X6_hasAxis_17 Q S (0 : Int32))
def wp_X6_hasAxis (a1 : Int32) (S : xS) (Q : Int32 → xS → Prop) : Prop :=
  (if a1 < 0 then (wp_X6_hasAxis_16 Q S) else (if (S.1 6 0 1) ≤ a1 then (wp_X6_hasAxis_16 Q S) else (wp_X6_hasAxis_17 Q S (1 : Int32))))
def wp_X6_addMapPair_46 (Q : Int32 → xS → Prop) (S : xS) : Prop :=
  (Q (-1000005 : Int32) S)
def wp_X6_addMapPair_71 (a2 : Int32) (a3 : Int32) (Q : Int32 → xS → Prop) (S : xS) (v4 : Nat) : Prop :=
  (wp_X0_putPair v4 a2 a3 S (fun S1 => (Q (S1.1 0 v4 4) S1)))
def wp_X6_addMapPair (a1 : Int32) (a2 : Int32) (a3 : Int32) (S : xS) (Q : Int32 → xS → Prop) : Prop :=
  (wp_X6_hasAxis a1 S (fun r2 S1 => (if r2 = 0 then (Q (-1000001 : Int32) S1) else (vp_in a1 4 ∧ (wp_X6_within a2 (-16383 : Int32) (16383 : Int32) S1 (fun r5 S4 => (if r5 = 0 then (wp_X6_addMapPair_46 Q S4) else (if a2 = 0 then (wp_X6_addMapPair_46 Q S4) else (wp_X0_keepsOrder a1.toNatClampNeg a2 a3 S4 (fun r7 S6 => (if r7 = 0 then (wp_X6_addMapPair_46 Q S6) else (if (S6.1 0 a1.toNatClampNeg 4) < (8 : Int32) then (wp_X6_addMapPair_71 a2 a3 Q S6 a1.toNatClampNeg) else (wp_X0_hasPair a1.toNatClampNeg a2 S6 (fun r9 S8 => (if r9 = 0 then (Q (-1000006 : Int32) S8) else (wp_X6_addMapPair_71 a2 a3 Q S8 a1.toNatClampNeg))))))))))))))))
def wp_X6_normalize_23 (Q : Int32 → xS → Prop) (S : xS) (s0 : Int32) : Prop :=
  (Q s0 S)
def wp_X6_normalize (a1 : Int32) (a2 : Int32) (S : xS) (Q : Int32 → xS → Prop) : Prop :=
  (wp_X6_hasAxis a1 S (fun r2 S1 => (if r2 = 0 then (wp_X6_normalize_23 Q S1 (-1000001 : Int32)) else (vp_in a1 4 ∧ (wp_X0_coordinateFor a1.toNatClampNeg a2 S1 (fun r5 S4 => (wp_X6_normalize_23 Q S4 r5)))))))
def wp_X6_setUser (a1 : Int32) (a2 : Int32) (S : xS) (Q : Int32 → xS → Prop) : Prop :=
  (wp_X6_hasAxis a1 S (fun r2 S1 => (if r2 = 0 then (Q (-1000001 : Int32) S1) else (vp_in a1 4 ∧ (if (S1.1 0 a1.toNatClampNeg 3) = 0 then (vp_in a1 4 ∧ (wp_X0_coordinateFor a1.toNatClampNeg a2 S1 (fun r6 S5 => (vp_in a1 4 ∧ (vp_in a1 4 ∧ (Q ((xI S5 30 0 a1.toNatClampNeg r6).1 30 0 a1.toNatClampNeg) (xI S5 30 0 a1.toNatClampNeg r6))))))) else (Q (-1000007 : Int32) S1))))))
def wp_X6_setCoordinate (a1 : Int32) (a2 : Int32) (S : xS) (Q : Int32 → xS → Prop) : Prop :=
  (wp_X6_hasAxis a1 S (fun r2 S1 => (if r2 = 0 then (Q (-1000001 : Int32) S1) else (wp_X6_within a2 (-16384 : Int32) (16384 : Int32) S1 (fun r4 S3 => (if r4 = 0 then (Q (-1000005 : Int32) S3) else (vp_in a1 4 ∧ (if (S3.1 0 a1.toNatClampNeg 3) = 0 then (vp_in a1 4 ∧ (vp_in a1 4 ∧ (Q (S3.1 30 0 a1.toNatClampNeg) (xI S3 30 0 a1.toNatClampNeg a2)))) else (Q (-1000007 : Int32) S3)))))))))
def wp_X6_pin_49 (Q : Int32 → xS → Prop) (S : xS) (s0 : Int32) : Prop :=
  (Q s0 S)
def wp_X6_pin_29 (a1 : Int32) (a2 : Int32) (Q : Int32 → xS → Prop) (S : xS) (s0 : Int32) : Prop :=
  (vp_in a1 4 ∧ ((a2 = 0 ∨ a2 = 1) ∧ (if s0 = 0 then (wp_X6_pin_49 Q (xI S 0 a1.toNatClampNeg 3 a2) (0 : Int32)) else (wp_X6_pin_49 Q (xI S 0 a1.toNatClampNeg 3 a2) (1 : Int32)))))
def wp_X6_pin (a1 : Int32) (a2 : Int32) (S : xS) (Q : Int32 → xS → Prop) : Prop :=
  (wp_X6_hasAxis a1 S (fun r2 S1 => (if r2 = 0 then (Q (-1000001 : Int32) S1) else (vp_in a1 4 ∧ (if (S1.1 0 a1.toNatClampNeg 3) = a2 then (wp_X6_pin_29 a1 a2 Q S1 (0 : Int32)) else (wp_X6_pin_29 a1 a2 Q S1 (1 : Int32)))))))
def wp_X6_axisValue_95 (Q : Int32 → xS → Prop) (S : xS) (s0 : Int32) : Prop :=
  (Q s0 S)
def wp_X6_axisValue (a1 : Int32) (a2 : Int32) (S : xS) (Q : Int32 → xS → Prop) : Prop :=
  (wp_X6_hasAxis a1 S (fun r2 S1 => (if r2 = 0 then (Q (-1000001 : Int32) S1) else (vp_in a1 4 ∧ (if a2 = 0 then (vp_in a1 4 ∧ (Q (S1.1 30 0 a1.toNatClampNeg) S1)) else (if a2 = 1 then (Q (S1.1 0 a1.toNatClampNeg 0) S1) else (if a2 = 2 then (Q (S1.1 0 a1.toNatClampNeg 1) S1) else (if a2 = 3 then (Q (S1.1 0 a1.toNatClampNeg 2) S1) else (if a2 = 4 then (Q (S1.1 0 a1.toNatClampNeg 4) S1) else (if a2 = 5 then (if (S1.1 0 a1.toNatClampNeg 3) = 0 then (wp_X6_axisValue_95 Q S1 (0 : Int32)) else (wp_X6_axisValue_95 Q S1 (1 : Int32))) else (Q (-1000005 : Int32) S1)))))))))))
def wp_X6_addGlyph (a1 : Int32) (a2 : Int32) (S : xS) (Q : Int32 → xS → Prop) : Prop :=
  (wp_X6_within a2 (0 : Int32) (4000 : Int32) S (fun r2 S1 => (if r2 = 0 then (Q (-1000005 : Int32) S1) else (if (S1.1 6 0 6) < (6 : Int32) then (vp_in (S1.1 6 0 6) 6 ∧ (wp_X1_begin ((S1.1 6 0 6).toNatClampNeg) a1 a2 S1 (fun S4 => (Q (((xI S4 6 0 6 ((S4.1 6 0 6) + (1 : Int32))).1 6 0 6) - (1 : Int32)) (xI S4 6 0 6 ((S4.1 6 0 6) + (1 : Int32))))))) else (Q (-1000006 : Int32) S1)))))
def wp_X6_hasGlyph_17 (Q : Int32 → xS → Prop) (S : xS) (s0 : Int32) : Prop :=
  ((s0 = 0 ∨ s0 = 1) ∧ Q s0 S)
def wp_X6_hasGlyph_16 (Q : Int32 → xS → Prop) (S : xS) : Prop :=
  (wp_X6_hasGlyph_17 Q S (0 : Int32))
def wp_X6_hasGlyph (a1 : Int32) (S : xS) (Q : Int32 → xS → Prop) : Prop :=
  (if a1 < 0 then (wp_X6_hasGlyph_16 Q S) else (if (S.1 6 0 6) ≤ a1 then (wp_X6_hasGlyph_16 Q S) else (wp_X6_hasGlyph_17 Q S (1 : Int32))))
def wp_X6_isPosition_31 (Q : Int32 → xS → Prop) (S : xS) (s0 : Int32) : Prop :=
  ((s0 = 0 ∨ s0 = 1) ∧ Q s0 S)
def wp_X6_isPosition_30 (Q : Int32 → xS → Prop) (S : xS) : Prop :=
  (wp_X6_isPosition_31 Q S (0 : Int32))
def wp_X6_isPosition (a0 : Int32) (a1 : Int32) (S : xS) (Q : Int32 → xS → Prop) : Prop :=
  (wp_X6_within a0 (-4000 : Int32) (4000 : Int32) S (fun r2 S1 => (if r2 = 0 then (wp_X6_isPosition_30 Q S1) else (wp_X6_within a1 (-4000 : Int32) (4000 : Int32) S1 (fun r4 S3 => (if r4 = 0 then (wp_X6_isPosition_30 Q S3) else (wp_X6_isPosition_31 Q S3 (1 : Int32))))))))
def wp_X6_isComponent_4_b (a1 : Int32) (K4 : xS → Int32 → Prop) (Q : Int32 → xS → Prop) (S : xS) (v2 : Int32) : Prop :=
  (if (S.1 6 0 6) ≤ v2 then (((0 : Int32) = 0 ∨ (0 : Int32) = 1) ∧ Q (0 : Int32) S) else (vp_in v2 6 ∧ (wp_X1_hasChild v2.toNatClampNeg a1 S (fun r3 S2 => (if r3 = 0 then (K4 S2 (v2 + (1 : Int32))) else (((1 : Int32) = 0 ∨ (1 : Int32) = 1) ∧ Q (1 : Int32) S2))))))
def wp_X6_isComponent_4 (a1 : Int32) (Q : Int32 → xS → Prop) : Nat → xS → Int32 → Prop
  | 0 => fun _ _ => False
  | n + 1 => fun S v2 => wp_X6_isComponent_4_b a1 (wp_X6_isComponent_4 a1 Q n) Q S v2
def wp_X6_isComponent (a1 : Int32) (S : xS) (Q : Int32 → xS → Prop) : Prop :=
  (∃ n1, wp_X6_isComponent_4 a1 Q n1 S (a1 + (1 : Int32)))
def wp_X6_addPoint_42 (Q : Int32 → xS → Prop) (S : xS) : Prop :=
  (Q (-1000007 : Int32) S)
def wp_X6_addPoint (a1 : Int32) (a2 : Int32) (a3 : Int32) (a4 : Int32) (S : xS) (Q : Int32 → xS → Prop) : Prop :=
  (wp_X6_hasGlyph a1 S (fun r2 S1 => (if r2 = 0 then (Q (-1000002 : Int32) S1) else (wp_X6_isPosition a2 a3 S1 (fun r4 S3 => (if r4 = 0 then (Q (-1000005 : Int32) S3) else (vp_in a1 6 ∧ (if (S3.1 1 a1.toNatClampNeg 0) = 0 then (wp_X6_isComponent a1 S3 (fun r7 S6 => (if r7 = 0 then (vp_in a1 6 ∧ (if (S6.1 1 a1.toNatClampNeg 1) < (24 : Int32) then (vp_in a1 6 ∧ (wp_X1_appendPoint a1.toNatClampNeg a2 a3 a4 S6 (fun r11 S10 => (Q r11 S10)))) else (Q (-1000006 : Int32) S6))) else (wp_X6_addPoint_42 Q S6)))) else (wp_X6_addPoint_42 Q S3)))))))))
def wp_X6_draw_17 (REC : Int32 → Nat → Nat → Int64 → Int64 → Int32 → xS → (xS → Prop) → Prop) (Q : xS → Prop) (S : xS) : Prop :=
  (Q S)
def wp_X6_draw_126 (a2 : Nat) (a3 : Nat) (a4 : Int64) (a6 : Int64) (a8 : Int32) (REC : Int32 → Nat → Nat → Int64 → Int64 → Int32 → xS → (xS → Prop) → Prop) (K32 : xS → Nat → Int32 → Int32 → Prop) (Q : xS → Prop) (S : xS) (v9 : Nat) (v10 : Int32) (v11 : Int32) : Prop :=
  (K32 S v9 v10 (v11 + (1 : Int32)))
def wp_X6_draw_32_b (a2 : Nat) (a3 : Nat) (a4 : Int64) (a6 : Int64) (a8 : Int32) (REC : Int32 → Nat → Nat → Int64 → Int64 → Int32 → xS → (xS → Prop) → Prop) (K32 : xS → Nat → Int32 → Int32 → Prop) (Q : xS → Prop) (S : xS) (v9 : Nat) (v10 : Int32) (v11 : Int32) : Prop :=
  (if (S.1 1 v9 1) < v11 then (Q S) else (wp_X1_placeAt v9 v11 (0 : Int32) a2 (15 : Int32) S (fun r2 S1 => (wp_X1_placeAt v9 v11 (1 : Int32) a2 (15 : Int32) S1 (fun r4 S3 => (if (S3.1 1 v9 0) = 0 then (vp_in v11 25 ∧ (wp_X4_append a3 (a4 + r2) (a6 + r4) (v10 + (S3.1 14 v9 v11.toNatClampNeg)) S3 (fun S6 => (wp_X6_draw_126 a2 a3 a4 a6 a8 REC K32 Q S6 v9 v10 v11)))) else (vp_in v11 5 ∧ (REC (S3.1 15 v9 v11.toNatClampNeg) a2 a3 (a4 + r2) (a6 + r4) (a8 + (1 : Int32)) S3 (fun S9 => (wp_X6_draw_126 a2 a3 a4 a6 a8 REC K32 Q S9 v9 v10 v11))))))))))
def wp_X6_draw_32 (a2 : Nat) (a3 : Nat) (a4 : Int64) (a6 : Int64) (a8 : Int32) (REC : Int32 → Nat → Nat → Int64 → Int64 → Int32 → xS → (xS → Prop) → Prop) (Q : xS → Prop) : Nat → xS → Nat → Int32 → Int32 → Prop
  | 0 => fun _ _ _ _ => False
  | n + 1 => fun S v9 v10 v11 => wp_X6_draw_32_b a2 a3 a4 a6 a8 REC (wp_X6_draw_32 a2 a3 a4 a6 a8 REC Q n) Q S v9 v10 v11
def wp_X6_draw_b (REC : Int32 → Nat → Nat → Int64 → Int64 → Int32 → xS → (xS → Prop) → Prop) (a1 : Int32) (a2 : Nat) (a3 : Nat) (a4 : Int64) (a6 : Int64) (a8 : Int32) (S : xS) (Q : xS → Prop) : Prop :=
  (if a1 < 0 then (wp_X6_draw_17 REC Q S) else (if (6 : Int32) ≤ a1 then (wp_X6_draw_17 REC Q S) else (if a8 < (6 : Int32) then (vp_in a1 6 ∧ (∃ n2, wp_X6_draw_32 a2 a3 a4 a6 a8 REC Q n2 S a1.toNatClampNeg (S.1 4 a3 1) (1 : Int32))) else (wp_X6_draw_17 REC Q S))))
def wp_X6_draw_r : Nat → Int32 → Nat → Nat → Int64 → Int64 → Int32 → xS → (xS → Prop) → Prop
  | 0 => fun _ _ _ _ _ _ _ _ => False
  | n + 1 => fun a1 a2 a3 a4 a6 a8 S Q => wp_X6_draw_b (wp_X6_draw_r n) a1 a2 a3 a4 a6 a8 S Q
def wp_X6_draw (a1 : Int32) (a2 : Nat) (a3 : Nat) (a4 : Int64) (a6 : Int64) (a8 : Int32) (S : xS) (Q : xS → Prop) : Prop := wp_X6_draw_r 7 a1 a2 a3 a4 a6 a8 S Q
def wp_X6_drawnPresent (a1 : Int32) (S : xS) (Q : Nat → xS → Prop) : Prop :=
  (wp_X4_clear 0 S (fun S1 => (wp_X6_draw a1 0 0 (0 : Int64) (0 : Int64) (0 : Int32) S1 (fun S3 => (Q 0 S3)))))
def wp_X6_addComponent_17 (Q : Int32 → xS → Prop) (S : xS) : Prop :=
  (Q (-1000002 : Int32) S)
def wp_X6_addComponent_52 (Q : Int32 → xS → Prop) (S : xS) : Prop :=
  (Q (-1000007 : Int32) S)
def wp_X6_addComponent_98 (Q : Int32 → xS → Prop) (S : xS) : Prop :=
  (Q (-1000006 : Int32) S)
def wp_X6_addComponent (a1 : Int32) (a2 : Int32) (a3 : Int32) (a4 : Int32) (S : xS) (Q : Int32 → xS → Prop) : Prop :=
  (wp_X6_hasGlyph a1 S (fun r2 S1 => (if r2 = 0 then (wp_X6_addComponent_17 Q S1) else (if a2 < 0 then (wp_X6_addComponent_17 Q S1) else (if a2 < a1 then (wp_X6_isPosition a3 a4 S1 (fun r4 S3 => (if r4 = 0 then (Q (-1000005 : Int32) S3) else (vp_in a1 6 ∧ (if (S3.1 1 a1.toNatClampNeg 0) = 0 then (wp_X6_addComponent_52 Q S3) else (wp_X6_isComponent a1 S3 (fun r7 S6 => (if r7 = 0 then (wp_X6_drawnPresent a1 S6 (fun r9 S8 => r9 < 2 → (wp_X6_drawnPresent a2 S8 (fun r12 S11 => r12 < 2 → (vp_in a1 6 ∧ (if (4 : Int32) ≤ (S11.1 1 a1.toNatClampNeg 1) then (wp_X6_addComponent_98 Q S11) else (if ((S8.1 4 r9 0) + (S11.1 4 r12 0)) ≤ (96 : Int32) then (vp_in a1 6 ∧ (wp_X1_appendComponent a1.toNatClampNeg a2 a3 a4 S11 (fun r17 S16 => (Q r17 S16)))) else (wp_X6_addComponent_98 Q S11)))))))) else (wp_X6_addComponent_52 Q S6))))))))) else (wp_X6_addComponent_17 Q S1))))))
def wp_X6_glyphValue_68 (Q : Int32 → xS → Prop) (S : xS) (s0 : Int32) : Prop :=
  (Q s0 S)
def wp_X6_glyphValue (a1 : Int32) (a2 : Int32) (S : xS) (Q : Int32 → xS → Prop) : Prop :=
  (wp_X6_hasGlyph a1 S (fun r2 S1 => (if r2 = 0 then (Q (-1000002 : Int32) S1) else (vp_in a1 6 ∧ (if a2 = 0 then (if (S1.1 1 a1.toNatClampNeg 0) = 0 then (wp_X6_glyphValue_68 Q S1 (0 : Int32)) else (wp_X6_glyphValue_68 Q S1 (1 : Int32))) else (if a2 = 1 then (Q (S1.1 1 a1.toNatClampNeg 1) S1) else (if a2 = 2 then (wp_X6_drawnPresent a1 S1 (fun r5 S4 => r5 < 2 → (Q (S4.1 4 r5 1) S4))) else (if a2 = 3 then (wp_X6_drawnPresent a1 S1 (fun r8 S7 => r8 < 2 → (Q (S7.1 4 r8 0) S7))) else (if a2 = 4 then (Q (S1.1 1 a1.toNatClampNeg 6) S1) else (if a2 = 5 then (vp_in (0 : Int32) 25 ∧ (Q (S1.1 12 a1.toNatClampNeg (0 : Int32).toNatClampNeg) S1)) else (Q (-1000005 : Int32) S1)))))))))))
def wp_X6_addTuple (a1 : Int32) (S : xS) (Q : Int32 → xS → Prop) : Prop :=
  (wp_X6_hasGlyph a1 S (fun r2 S1 => (if r2 = 0 then (Q (-1000002 : Int32) S1) else (vp_in a1 6 ∧ (if (S1.1 1 a1.toNatClampNeg 6) < (5 : Int32) then ((vp_in (S1.1 1 a1.toNatClampNeg 6) 5 ∧ (S1.2.2 16 a1.toNatClampNeg (S1.1 1 a1.toNatClampNeg 6).toNatClampNeg) < 60) ∧ (wp_X5_begin (S1.2.2 16 a1.toNatClampNeg (S1.1 1 a1.toNatClampNeg 6).toNatClampNeg) S1 (fun S6 => (Q (((xI S6 1 a1.toNatClampNeg 6 ((S6.1 1 a1.toNatClampNeg 6) + (1 : Int32))).1 1 a1.toNatClampNeg 6) - (1 : Int32)) (xI S6 1 a1.toNatClampNeg 6 ((S6.1 1 a1.toNatClampNeg 6) + (1 : Int32))))))) else (Q (-1000006 : Int32) S1))))))
def wp_X6_tupleError_37 (Q : Int32 → xS → Prop) (S : xS) (s0 : Int32) : Prop :=
  (Q s0 S)
def wp_X6_tupleError (a1 : Int32) (a2 : Int32) (S : xS) (Q : Int32 → xS → Prop) : Prop :=
  (wp_X6_hasGlyph a1 S (fun r2 S1 => (if r2 = 0 then (Q (-1000002 : Int32) S1) else (vp_in a1 6 ∧ (wp_X6_within a2 (0 : Int32) ((S1.1 1 a1.toNatClampNeg 6) - (1 : Int32)) S1 (fun r5 S4 => (if r5 = 0 then (wp_X6_tupleError_37 Q S4 (-1000003 : Int32)) else (wp_X6_tupleError_37 Q S4 (0 : Int32)))))))))
def wp_X6_setRegion_82 (Q : Int32 → xS → Prop) (S : xS) : Prop :=
  (Q (-1000005 : Int32) S)
def wp_X6_setRegion_114 (Q : Int32 → xS → Prop) (S : xS) (s0 : Int32) : Prop :=
  (Q s0 S)
def wp_X6_setRegion_85 (a1 : Int32) (a2 : Int32) (a3 : Int32) (a4 : Int32) (a5 : Int32) (a6 : Int32) (Q : Int32 → xS → Prop) (S : xS) : Prop :=
  (vp_in a1 6 ∧ ((vp_in a2 5 ∧ (S.2.2 16 a1.toNatClampNeg a2.toNatClampNeg) < 60) ∧ (wp_X5_putRegion (S.2.2 16 a1.toNatClampNeg a2.toNatClampNeg) a3 a4 a5 a6 S (fun r5 S4 => (if r5 = 0 then (wp_X6_setRegion_114 Q S4 (0 : Int32)) else (wp_X6_setRegion_114 Q S4 (1 : Int32)))))))
def wp_X6_setRegion (a1 : Int32) (a2 : Int32) (a3 : Int32) (a4 : Int32) (a5 : Int32) (a6 : Int32) (S : xS) (Q : Int32 → xS → Prop) : Prop :=
  (wp_X6_tupleError a1 a2 S (fun r2 S1 => (if r2 = 0 then (wp_X6_hasAxis a3 S1 (fun r4 S3 => (if r4 = 0 then (Q (-1000001 : Int32) S3) else (wp_X6_within a5 (-16384 : Int32) (16384 : Int32) S3 (fun r6 S5 => (if r6 = 0 then (wp_X6_setRegion_82 Q S5) else (wp_X6_within a4 (-16384 : Int32) a5 S5 (fun r8 S7 => (if r8 = 0 then (wp_X6_setRegion_82 Q S7) else (wp_X6_within a6 a5 (16384 : Int32) S7 (fun r10 S9 => (if r10 = 0 then (wp_X6_setRegion_82 Q S9) else (if a5 = 0 then (wp_X6_setRegion_85 a1 a2 a3 a4 a5 a6 Q S9) else (if 0 ≤ a4 then (wp_X6_setRegion_85 a1 a2 a3 a4 a5 a6 Q S9) else (if a6 ≤ 0 then (wp_X6_setRegion_85 a1 a2 a3 a4 a5 a6 Q S9) else (wp_X6_setRegion_82 Q S9)))))))))))))))) else (Q r2 S1))))
def wp_X6_hasPlace_23 (Q : Int32 → xS → Prop) (S : xS) (s0 : Int32) : Prop :=
  ((s0 = 0 ∨ s0 = 1) ∧ Q s0 S)
def wp_X6_hasPlace_22 (Q : Int32 → xS → Prop) (S : xS) : Prop :=
  (wp_X6_hasPlace_23 Q S (0 : Int32))
def wp_X6_hasPlace (a1 : Int32) (a2 : Int32) (S : xS) (Q : Int32 → xS → Prop) : Prop :=
  (if a2 < (-1 : Int32) then (wp_X6_hasPlace_22 Q S) else (vp_in a1 6 ∧ (if (S.1 1 a1.toNatClampNeg 1) ≤ a2 then (wp_X6_hasPlace_22 Q S) else (wp_X6_hasPlace_23 Q S (1 : Int32)))))
def wp_X6_pointError_32 (Q : Int32 → xS → Prop) (S : xS) (s0 : Int32) : Prop :=
  (Q s0 S)
def wp_X6_pointError (a1 : Int32) (a2 : Int32) (a3 : Int32) (S : xS) (Q : Int32 → xS → Prop) : Prop :=
  (wp_X6_tupleError a1 a2 S (fun r2 S1 => (if r2 = 0 then (wp_X6_hasPlace a1 a3 S1 (fun r4 S3 => (if r4 = 0 then (wp_X6_pointError_32 Q S3 (-1000004 : Int32)) else (wp_X6_pointError_32 Q S3 (0 : Int32))))) else (Q r2 S1))))
def wp_X6_touch_59 (Q : Int32 → xS → Prop) (S : xS) : Prop :=
  (Q (-1000005 : Int32) S)
def wp_X6_touch_107 (Q : Int32 → xS → Prop) (S : xS) (s0 : Int32) : Prop :=
  (Q s0 S)
def wp_X6_touch_30 (a1 : Int32) (a2 : Int32) (a3 : Int32) (a4 : Int32) (a5 : Int32) (Q : Int32 → xS → Prop) (S : xS) (s0 : Int32) : Prop :=
  (wp_X6_within a4 (-2000 : Int32) (2000 : Int32) S (fun r2 S1 => (if r2 = 0 then (wp_X6_touch_59 Q S1) else (wp_X6_within a5 (-s0) s0 S1 (fun r4 S3 => (if r4 = 0 then (wp_X6_touch_59 Q S3) else (vp_in a1 6 ∧ ((vp_in a2 5 ∧ (S3.2.2 16 a1.toNatClampNeg a2.toNatClampNeg) < 60) ∧ (wp_X5_touches (S3.2.2 16 a1.toNatClampNeg a2.toNatClampNeg) (a3 + (1 : Int32)) S3 (fun r9 S8 => (wp_X5_putDelta (S3.2.2 16 a1.toNatClampNeg a2.toNatClampNeg) (a3 + (1 : Int32)) a4 a5 S8 (fun S10 => (if r9 = 0 then (wp_X6_touch_107 Q S10 (1 : Int32)) else (wp_X6_touch_107 Q S10 (0 : Int32)))))))))))))))
def wp_X6_touch (a1 : Int32) (a2 : Int32) (a3 : Int32) (a4 : Int32) (a5 : Int32) (S : xS) (Q : Int32 → xS → Prop) : Prop :=
  (wp_X6_pointError a1 a2 a3 S (fun r2 S1 => (if r2 = 0 then (if (a3 + (1 : Int32)) = 0 then (wp_X6_touch_30 a1 a2 a3 a4 a5 Q S1 (0 : Int32)) else (wp_X6_touch_30 a1 a2 a3 a4 a5 Q S1 (2000 : Int32))) else (Q r2 S1))))
def wp_X6_release_58 (Q : Int32 → xS → Prop) (S : xS) (s0 : Int32) : Prop :=
  (Q s0 S)
def wp_X6_release (a1 : Int32) (a2 : Int32) (a3 : Int32) (S : xS) (Q : Int32 → xS → Prop) : Prop :=
  (wp_X6_pointError a1 a2 a3 S (fun r2 S1 => (if r2 = 0 then (vp_in a1 6 ∧ ((vp_in a2 5 ∧ (S1.2.2 16 a1.toNatClampNeg a2.toNatClampNeg) < 60) ∧ (wp_X5_touches (S1.2.2 16 a1.toNatClampNeg a2.toNatClampNeg) (a3 + (1 : Int32)) S1 (fun r7 S6 => (wp_X5_dropTouch (S1.2.2 16 a1.toNatClampNeg a2.toNatClampNeg) (a3 + (1 : Int32)) S6 (fun S8 => (if r7 = 0 then (wp_X6_release_58 Q S8 (0 : Int32)) else (wp_X6_release_58 Q S8 (1 : Int32))))))))) else (Q r2 S1))))
def wp_X6_delta (a1 : Int32) (a2 : Int32) (a3 : Int32) (a4 : Int32) (S : xS) (Q : Int32 → xS → Prop) : Prop :=
  (wp_X6_pointError a1 a2 a3 S (fun r2 S1 => (if r2 = 0 then (vp_in a1 6 ∧ ((vp_in a2 5 ∧ (S1.2.2 16 a1.toNatClampNeg a2.toNatClampNeg) < 60) ∧ (wp_X1_deltaAt a1.toNatClampNeg (S1.2.2 16 a1.toNatClampNeg a2.toNatClampNeg) (a3 + (1 : Int32)) a4 S1 (fun r7 S6 => (Q r7 S6))))) else (Q r2 S1))))
def wp_X6_touchedCount_32 (Q : Int32 → xS → Prop) (S : xS) (s0 : Int32) : Prop :=
  (Q s0 S)
def wp_X6_touchedCount (a1 : Int32) (a2 : Int32) (S : xS) (Q : Int32 → xS → Prop) : Prop :=
  (wp_X6_tupleError a1 a2 S (fun r2 S1 => (if r2 = 0 then (vp_in a1 6 ∧ ((vp_in a2 5 ∧ (S1.2.2 16 a1.toNatClampNeg a2.toNatClampNeg) < 60) ∧ (wp_J6_bitCount_0f7a4 (S1.1 5 (S1.2.2 16 a1.toNatClampNeg a2.toNatClampNeg) 3) S1 (fun r7 S6 => (wp_X6_touchedCount_32 Q S6 r7))))) else (wp_X6_touchedCount_32 Q S1 r2))))
def wp_X6_scalar_33 (Q : Int32 → xS → Prop) (S : xS) (s0 : Int32) : Prop :=
  (Q s0 S)
def wp_X6_scalar (a1 : Int32) (a2 : Int32) (S : xS) (Q : Int32 → xS → Prop) : Prop :=
  (wp_X6_tupleError a1 a2 S (fun r2 S1 => (if r2 = 0 then (vp_in a1 6 ∧ ((vp_in a2 5 ∧ (S1.2.2 16 a1.toNatClampNeg a2.toNatClampNeg) < 60) ∧ (wp_X5_scalarAt (S1.2.2 16 a1.toNatClampNeg a2.toNatClampNeg) 0 S1 (fun r7 S6 => (wp_X6_scalar_33 Q S6 r7))))) else (wp_X6_scalar_33 Q S1 r2))))
def wp_X6_share (a1 : Int32) (a2 : Int32) (S : xS) (Q : UInt64 → xS → Prop) : Prop :=
  (wp_X6_tupleError a1 a2 S (fun r2 S1 => (if r2 = 0 then (vp_in a1 6 ∧ ((vp_in a2 5 ∧ (S1.2.2 16 a1.toNatClampNeg a2.toNatClampNeg) < 60) ∧ (wp_X5_scalarAt (S1.2.2 16 a1.toNatClampNeg a2.toNatClampNeg) 0 S1 (fun r7 S6 => (∀ r8 : UInt64, alike64 r8 (FP.ddiv (FP.i2d r7) (4733283208366391296 : UInt64)) = true → (Q r8 S6)))))) else (Q (13830554455654793216 : UInt64) S1))))
def wp_X6_position_26 (Q : Int64 → xS → Prop) (S : xS) : Prop :=
  (Q (-9223372036854775808 : Int64) S)
def wp_X6_position_88 (Q : Int64 → xS → Prop) (S : xS) (s0 : Int64) : Prop :=
  (Q s0 S)
def wp_X6_position_53 (a2 : Int32) (a3 : Int32) (Q : Int64 → xS → Prop) (S : xS) (v4 : Nat) (s0 : Int32) : Prop :=
  (if (2 : Int32) ≤ a3 then (wp_X1_placeAt v4 (a2 + (1 : Int32)) s0 0 (15 : Int32) S (fun r2 S1 => (Q r2 S1))) else (if s0 = 0 then (vp_in (a2 + (1 : Int32)) 25 ∧ (wp_X6_position_88 Q S (Int32.toInt64 (S.1 12 v4 (a2 + (1 : Int32)).toNatClampNeg)))) else (vp_in (a2 + (1 : Int32)) 25 ∧ (wp_X6_position_88 Q S (Int32.toInt64 (S.1 13 v4 (a2 + (1 : Int32)).toNatClampNeg))))))
def wp_X6_position_48 (a2 : Int32) (a3 : Int32) (Q : Int64 → xS → Prop) (S : xS) (v4 : Nat) : Prop :=
  (wp_X6_position_53 a2 a3 Q S v4 (1 : Int32))
def wp_X6_position (a1 : Int32) (a2 : Int32) (a3 : Int32) (S : xS) (Q : Int64 → xS → Prop) : Prop :=
  (wp_X6_hasGlyph a1 S (fun r2 S1 => (if r2 = 0 then (wp_X6_position_26 Q S1) else (wp_X6_hasPlace a1 a2 S1 (fun r4 S3 => (if r4 = 0 then (wp_X6_position_26 Q S3) else (wp_X6_within a3 (0 : Int32) (3 : Int32) S3 (fun r6 S5 => (if r6 = 0 then (wp_X6_position_26 Q S5) else (vp_in a1 6 ∧ (if a3 = (1 : Int32) then (wp_X6_position_48 a2 a3 Q S5 a1.toNatClampNeg) else (if a3 = (3 : Int32) then (wp_X6_position_48 a2 a3 Q S5 a1.toNatClampNeg) else (wp_X6_position_53 a2 a3 Q S5 a1.toNatClampNeg (0 : Int32))))))))))))))
def wp_X6_outline_17 (Q : Int64 → xS → Prop) (S : xS) : Prop :=
  (Q (-9223372036854775808 : Int64) S)
def wp_X6_outline (a1 : Int32) (a2 : Int32) (a3 : Int32) (S : xS) (Q : Int64 → xS → Prop) : Prop :=
  (wp_X6_hasGlyph a1 S (fun r2 S1 => (if r2 = 0 then (wp_X6_outline_17 Q S1) else (wp_X6_within a3 (0 : Int32) (2 : Int32) S1 (fun r4 S3 => (if r4 = 0 then (wp_X6_outline_17 Q S3) else (wp_X6_drawnPresent a1 S3 (fun r6 S5 => r6 < 2 → (wp_X6_within a2 (0 : Int32) ((S5.1 4 r6 0) - (1 : Int32)) S5 (fun r9 S8 => (if r9 = 0 then (Q (-9223372036854775808 : Int64) S8) else (if a3 = 0 then (vp_in a2 96 ∧ (Q (S8.2.1 21 r6 a2.toNatClampNeg) S8)) else (if a3 = 1 then (vp_in a2 96 ∧ (Q (S8.2.1 22 r6 a2.toNatClampNeg) S8)) else (vp_in a2 96 ∧ (Q (Int32.toInt64 (S8.1 23 r6 a2.toNatClampNeg)) S8)))))))))))))))
def wp_X6_box_17 (Q : Int64 → xS → Prop) (S : xS) : Prop :=
  (Q (-9223372036854775808 : Int64) S)
def wp_X6_box_71 (Q : Int64 → xS → Prop) (S : xS) (s0 : Int64) : Prop :=
  (Q s0 S)
def wp_X6_box_48 (a2 : Int32) (Q : Int64 → xS → Prop) (S : xS) (v3 : Nat) (s0 : Int32) : Prop :=
  (¬ (2 : Int32) = 0 ∧ (if (a2 - a2 / (2 : Int32) * (2 : Int32)) = 0 then (wp_X4_leastOf v3 s0 S (fun r3 S2 => (wp_X6_box_71 Q S2 r3))) else (wp_X4_greatestOf v3 s0 S (fun r5 S4 => (wp_X6_box_71 Q S4 r5)))))
def wp_X6_box (a1 : Int32) (a2 : Int32) (S : xS) (Q : Int64 → xS → Prop) : Prop :=
  (wp_X6_hasGlyph a1 S (fun r2 S1 => (if r2 = 0 then (wp_X6_box_17 Q S1) else (wp_X6_within a2 (0 : Int32) (3 : Int32) S1 (fun r4 S3 => (if r4 = 0 then (wp_X6_box_17 Q S3) else (wp_X6_drawnPresent a1 S3 (fun r6 S5 => r6 < 2 → (if (S5.1 4 r6 0) = 0 then (Q (-9223372036854775808 : Int64) S5) else (if a2 < (2 : Int32) then (wp_X6_box_48 a2 Q S5 r6 (0 : Int32)) else (wp_X6_box_48 a2 Q S5 r6 (1 : Int32))))))))))))
def wp_X6_middle (a1 : Int32) (a2 : Int32) (S : xS) (Q : UInt32 → xS → Prop) : Prop :=
  (wp_X6_hasGlyph a1 S (fun r2 S1 => (if r2 = 0 then (Q FP.fconst0 S1) else (wp_X6_drawnPresent a1 S1 (fun r4 S3 => r4 < 2 → (if (S3.1 4 r4 0) = 0 then (Q FP.fconst0 S3) else (wp_X4_leastOf r4 a2 S3 (fun r7 S6 => (wp_X4_greatestOf r4 a2 S6 (fun r9 S8 => (∀ r10 : UInt64, alike64 r10 (FP.ddiv (FP.l2d (r7 + r9)) (4611686018427387904 : UInt64)) = true → (∀ r11 : UInt32, alike32 r11 (FP.d2f r10) = true → (Q r11 S8)))))))))))))
def wp_X6_area_53 (Q : Int64 → xS → Prop) (S : xS) (s0 : Int64) : Prop :=
  (Q s0 S)
def wp_X6_area (a1 : Int32) (a2 : Int32) (S : xS) (Q : Int64 → xS → Prop) : Prop :=
  (wp_X6_hasGlyph a1 S (fun r2 S1 => (if r2 = 0 then (Q (-9223372036854775808 : Int64) S1) else (wp_X6_drawnPresent a1 S1 (fun r4 S3 => r4 < 2 → (wp_X6_within a2 (-1 : Int32) ((S3.1 4 r4 1) - (1 : Int32)) S3 (fun r7 S6 => (if r7 = 0 then (Q (-9223372036854775808 : Int64) S6) else (if a2 = (-1 : Int32) then (wp_X4_wholeArea r4 S6 (fun r9 S8 => (wp_X6_area_53 Q S8 r9))) else (wp_X4_contourArea r4 a2 S6 (fun r11 S10 => (wp_X6_area_53 Q S10 r11))))))))))))
def wp_X6_haveSameSign_55 (Q : Int32 → xS → Prop) (S : xS) (s0 : Int32) : Prop :=
  ((s0 = 0 ∨ s0 = 1) ∧ Q s0 S)
def wp_X6_haveSameSign_54 (Q : Int32 → xS → Prop) (S : xS) : Prop :=
  (wp_X6_haveSameSign_55 Q S (0 : Int32))
def wp_X6_haveSameSign_47 (Q : Int32 → xS → Prop) (S : xS) (s0 : Int32) (s1 : Int32) : Prop :=
  (if s0 = s1 then (wp_X6_haveSameSign_55 Q S (1 : Int32)) else (wp_X6_haveSameSign_54 Q S))
def wp_X6_haveSameSign_36 (a2 : Int64) (Q : Int32 → xS → Prop) (S : xS) (s0 : Int32) : Prop :=
  (if 0 ≤ (lg_cmp a2 (0 : Int64)) then (wp_X6_haveSameSign_47 Q S s0 (0 : Int32)) else (wp_X6_haveSameSign_47 Q S s0 (1 : Int32)))
def wp_X6_haveSameSign_22 (a0 : Int64) (a2 : Int64) (Q : Int32 → xS → Prop) (S : xS) (s0 : Int32) (s1 : Int32) : Prop :=
  (if s0 = s1 then (if 0 ≤ (lg_cmp a0 (0 : Int64)) then (wp_X6_haveSameSign_36 a2 Q S (0 : Int32)) else (wp_X6_haveSameSign_36 a2 Q S (1 : Int32))) else (wp_X6_haveSameSign_54 Q S))
def wp_X6_haveSameSign_11 (a0 : Int64) (a2 : Int64) (Q : Int32 → xS → Prop) (S : xS) (s0 : Int32) : Prop :=
  (if (lg_cmp a2 (0 : Int64)) ≤ 0 then (wp_X6_haveSameSign_22 a0 a2 Q S s0 (0 : Int32)) else (wp_X6_haveSameSign_22 a0 a2 Q S s0 (1 : Int32)))
def wp_X6_haveSameSign (a0 : Int64) (a2 : Int64) (S : xS) (Q : Int32 → xS → Prop) : Prop :=
  (if (lg_cmp a0 (0 : Int64)) ≤ 0 then (wp_X6_haveSameSign_11 a0 a2 Q S (0 : Int32)) else (wp_X6_haveSameSign_11 a0 a2 Q S (1 : Int32)))
def wp_X6_flips_81 (K48 : xS → Nat → Int32 → Int32 → Prop) (Q : Int32 → xS → Prop) (S : xS) (v2 : Nat) (v3 : Int32) (v4 : Int32) : Prop :=
  (K48 S v2 v3 (v4 + (1 : Int32)))
def wp_X6_flips_48_b (K48 : xS → Nat → Int32 → Int32 → Prop) (Q : Int32 → xS → Prop) (S : xS) (v2 : Nat) (v3 : Int32) (v4 : Int32) : Prop :=
  (if (S.1 4 v2 1) ≤ v4 then (Q v3 S) else (wp_X4_contourArea v2 v4 S (fun r2 S1 => (wp_X4_contourArea 1 v4 S1 (fun r4 S3 => (wp_X6_haveSameSign r2 r4 S3 (fun r6 S5 => (if r6 = 0 then (wp_X6_flips_81 K48 Q S5 v2 (v3 + (1 : Int32)) v4) else (wp_X6_flips_81 K48 Q S5 v2 v3 v4)))))))))
def wp_X6_flips_48 (Q : Int32 → xS → Prop) : Nat → xS → Nat → Int32 → Int32 → Prop
  | 0 => fun _ _ _ _ => False
  | n + 1 => fun S v2 v3 v4 => wp_X6_flips_48_b (wp_X6_flips_48 Q n) Q S v2 v3 v4
def wp_X6_flips (a1 : Int32) (S : xS) (Q : Int32 → xS → Prop) : Prop :=
  (wp_X6_hasGlyph a1 S (fun r2 S1 => (if r2 = 0 then (Q (-1000002 : Int32) S1) else (wp_X6_drawnPresent a1 S1 (fun r4 S3 => r4 < 2 → (wp_X4_clear 1 S3 (fun S6 => (wp_X6_draw a1 1 1 (0 : Int64) (0 : Int64) (0 : Int32) S6 (fun S8 => (∃ n10, wp_X6_flips_48 Q n10 S8 r4 (0 : Int32) (0 : Int32)))))))))))
def wp_X6_widest_100 (a1 : Int32) (a2 : Int32) (K50 : xS → Int32 → Int64 → Int32 → Prop) (Q : Int32 → xS → Prop) (S : xS) (v3 : Int32) (v4 : Int64) (v6 : Int32) : Prop :=
  (K50 S v3 v4 (v6 + (2048 : Int32)))
def wp_X6_widest_50_b (a1 : Int32) (a2 : Int32) (K50 : xS → Int32 → Int64 → Int32 → Prop) (Q : Int32 → xS → Prop) (S : xS) (v3 : Int32) (v4 : Int64) (v6 : Int32) : Prop :=
  (if (16384 : Int32) < v6 then (Q v3 S) else (vp_in a2 4 ∧ (vp_in a1 6 ∧ (wp_X1_placeAt a1.toNatClampNeg (0 : Int32) (0 : Int32) 2 (15 : Int32) (xI S 30 2 a2.toNatClampNeg v6) (fun r4 S3 => (if (lg_cmp r4 v4) ≤ 0 then (wp_X6_widest_100 a1 a2 K50 Q S3 v3 v4 v6) else (wp_X6_widest_100 a1 a2 K50 Q S3 v6 r4 v6)))))))
def wp_X6_widest_50 (a1 : Int32) (a2 : Int32) (Q : Int32 → xS → Prop) : Nat → xS → Int32 → Int64 → Int32 → Prop
  | 0 => fun _ _ _ _ => False
  | n + 1 => fun S v3 v4 v6 => wp_X6_widest_50_b a1 a2 (wp_X6_widest_50 a1 a2 Q n) Q S v3 v4 v6
def wp_X6_widest (a1 : Int32) (a2 : Int32) (S : xS) (Q : Int32 → xS → Prop) : Prop :=
  (wp_X6_hasGlyph a1 S (fun r2 S1 => (if r2 = 0 then (Q (-1000002 : Int32) S1) else (wp_X6_hasAxis a2 S1 (fun r4 S3 => (if r4 = 0 then (Q (-1000001 : Int32) S3) else ((¬ (0 : Int32) < 0 ∧ ¬ (0 : Int32) < 0 ∧ ¬ (4 : Int32) < 0 ∧ (0 : Int32).toNatClampNeg + (4 : Int32).toNatClampNeg ≤ 4 ∧ (0 : Int32).toNatClampNeg + (4 : Int32).toNatClampNeg ≤ 4) ∧ (∃ n6, wp_X6_widest_50 a1 a2 Q n6 (xC S3 30 2 (va_cpy (S3.1 30 0) (S3.1 30 2) (0 : Int32).toNatClampNeg (0 : Int32).toNatClampNeg (4 : Int32).toNatClampNeg)) (-16384 : Int32) (-9223372036854775808 : Int64) (-16384 : Int32)))))))))
def wp_X6_merge (a1 : Int32) (S : xS) (Q : Int32 → xS → Prop) : Prop :=
  (wp_X6_hasGlyph a1 S (fun r2 S1 => (if r2 = 0 then (Q (-1000002 : Int32) S1) else (vp_in a1 6 ∧ (wp_X2_remember a1 a1.toNatClampNeg S1 (fun S4 => (vp_in a1 6 ∧ (wp_X1_mergeTuples a1.toNatClampNeg S4 (fun r8 S7 => (Q r8 S7))))))))))
def wp_X6_compact (a1 : Int32) (a2 : Int32) (S : xS) (Q : Int32 → xS → Prop) : Prop :=
  (wp_X6_tupleError a1 a2 S (fun r2 S1 => (if r2 = 0 then (vp_in a1 6 ∧ (wp_X2_remember a1 a1.toNatClampNeg S1 (fun S4 => (vp_in a1 6 ∧ (vp_in a1 6 ∧ ((vp_in a2 5 ∧ (S4.2.2 16 a1.toNatClampNeg a2.toNatClampNeg) < 60) ∧ (wp_X1_compactTuple a1.toNatClampNeg (S4.2.2 16 a1.toNatClampNeg a2.toNatClampNeg) S4 (fun r11 S10 => (Q r11 S10))))))))) else (Q r2 S1))))
def wp_X6_pinnedAxes_30 (K4 : xS → Int32 → Int32 → Prop) (Q : Int32 → xS → Prop) (S : xS) (v1 : Int32) (v2 : Int32) : Prop :=
  (K4 S v1 (v2 + (1 : Int32)))
def wp_X6_pinnedAxes_4_b (K4 : xS → Int32 → Int32 → Prop) (Q : Int32 → xS → Prop) (S : xS) (v1 : Int32) (v2 : Int32) : Prop :=
  (if (S.1 6 0 1) ≤ v2 then (Q v1 S) else (vp_in v2 4 ∧ (if (S.1 0 v2.toNatClampNeg 3) = 0 then (wp_X6_pinnedAxes_30 K4 Q S v1 v2) else (wp_X6_pinnedAxes_30 K4 Q S (v1 ||| ((1 : Int32) <<< (v2 &&& 31))) v2))))
def wp_X6_pinnedAxes_4 (Q : Int32 → xS → Prop) : Nat → xS → Int32 → Int32 → Prop
  | 0 => fun _ _ _ => False
  | n + 1 => fun S v1 v2 => wp_X6_pinnedAxes_4_b (wp_X6_pinnedAxes_4 Q n) Q S v1 v2
def wp_X6_pinnedAxes (S : xS) (Q : Int32 → xS → Prop) : Prop :=
  (∃ n1, wp_X6_pinnedAxes_4 Q n1 S (0 : Int32) (0 : Int32))
def wp_X6_fold (a1 : Int32) (S : xS) (Q : Int32 → xS → Prop) : Prop :=
  (wp_X6_hasGlyph a1 S (fun r2 S1 => (if r2 = 0 then (Q (-1000002 : Int32) S1) else (vp_in a1 6 ∧ (wp_X2_remember a1 a1.toNatClampNeg S1 (fun S4 => (vp_in a1 6 ∧ (wp_X6_pinnedAxes S4 (fun r8 S7 => (wp_X1_foldTuples a1.toNatClampNeg r8 0 S7 (fun r10 S9 => (Q r10 S9))))))))))))
def wp_X6_prune (a1 : Int32) (S : xS) (Q : Int32 → xS → Prop) : Prop :=
  (wp_X6_hasGlyph a1 S (fun r2 S1 => (if r2 = 0 then (Q (-1000002 : Int32) S1) else (vp_in a1 6 ∧ (wp_X2_remember a1 a1.toNatClampNeg S1 (fun S4 => (vp_in a1 6 ∧ (wp_X1_pruneTuples a1.toNatClampNeg S4 (fun r8 S7 => (Q r8 S7))))))))))
def wp_X6_undo_75 (Q : Int32 → xS → Prop) (S : xS) (v1 : Int32) : Prop :=
  (Q v1 S)
def wp_X6_undo (S : xS) (Q : Int32 → xS → Prop) : Prop :=
  (if 0 < (S.1 2 0 0) then (vp_in ((xI S 2 0 0 ((S.1 2 0 0) - (1 : Int32))).1 2 0 0) 6 ∧ (wp_X6_hasGlyph ((xI S 2 0 0 ((S.1 2 0 0) - (1 : Int32))).1 17 0 ((xI S 2 0 0 ((S.1 2 0 0) - (1 : Int32))).1 2 0 0).toNatClampNeg) (xI S 2 0 0 ((S.1 2 0 0) - (1 : Int32))) (fun r3 S2 => (if r3 = 0 then (wp_X6_undo_75 Q S2 ((xI S 2 0 0 ((S.1 2 0 0) - (1 : Int32))).1 17 0 ((xI S 2 0 0 ((S.1 2 0 0) - (1 : Int32))).1 2 0 0).toNatClampNeg)) else (vp_in ((xI S 2 0 0 ((S.1 2 0 0) - (1 : Int32))).1 17 0 ((xI S 2 0 0 ((S.1 2 0 0) - (1 : Int32))).1 2 0 0).toNatClampNeg) 6 ∧ ((vp_in (S2.1 2 0 0) 6 ∧ (S2.2.2 18 0 (S2.1 2 0 0).toNatClampNeg) < 12) ∧ (wp_X1_copyFrom (((xI S 2 0 0 ((S.1 2 0 0) - (1 : Int32))).1 17 0 ((xI S 2 0 0 ((S.1 2 0 0) - (1 : Int32))).1 2 0 0).toNatClampNeg).toNatClampNeg) (S2.2.2 18 0 (S2.1 2 0 0).toNatClampNeg) S2 (fun S7 => (wp_X6_undo_75 Q S7 ((xI S 2 0 0 ((S.1 2 0 0) - (1 : Int32))).1 17 0 ((xI S 2 0 0 ((S.1 2 0 0) - (1 : Int32))).1 2 0 0).toNatClampNeg)))))))))) else (Q (-1000008 : Int32) S))
def wp_X6_addInstance (S : xS) (Q : Int32 → xS → Prop) : Prop :=
  (if (S.1 6 0 11) < (6 : Int32) then (vp_in (S.1 6 0 11) 6 ∧ ((¬ (0 : Int32) < 0 ∧ ¬ (0 : Int32) < 0 ∧ ¬ (4 : Int32) < 0 ∧ (0 : Int32).toNatClampNeg + (4 : Int32).toNatClampNeg ≤ 4 ∧ (0 : Int32).toNatClampNeg + (4 : Int32).toNatClampNeg ≤ 4) ∧ (Q (((xI (xC S 33 (S.1 6 0 11).toNatClampNeg (va_cpy (S.1 30 0) (S.1 33 (S.1 6 0 11).toNatClampNeg) (0 : Int32).toNatClampNeg (0 : Int32).toNatClampNeg (4 : Int32).toNatClampNeg)) 6 0 11 (((xC S 33 (S.1 6 0 11).toNatClampNeg (va_cpy (S.1 30 0) (S.1 33 (S.1 6 0 11).toNatClampNeg) (0 : Int32).toNatClampNeg (0 : Int32).toNatClampNeg (4 : Int32).toNatClampNeg)).1 6 0 11) + (1 : Int32))).1 6 0 11) - (1 : Int32)) (xI (xC S 33 (S.1 6 0 11).toNatClampNeg (va_cpy (S.1 30 0) (S.1 33 (S.1 6 0 11).toNatClampNeg) (0 : Int32).toNatClampNeg (0 : Int32).toNatClampNeg (4 : Int32).toNatClampNeg)) 6 0 11 (((xC S 33 (S.1 6 0 11).toNatClampNeg (va_cpy (S.1 30 0) (S.1 33 (S.1 6 0 11).toNatClampNeg) (0 : Int32).toNatClampNeg (0 : Int32).toNatClampNeg (4 : Int32).toNatClampNeg)).1 6 0 11) + (1 : Int32)))))) else (Q (-1000006 : Int32) S))
def wp_X6_applyInstance_73 (a1 : Int32) (K21 : xS → Int32 → Int32 → Prop) (Q : Int32 → xS → Prop) (S : xS) (v2 : Int32) (v3 : Int32) : Prop :=
  (K21 S v2 (v3 + (1 : Int32)))
def wp_X6_applyInstance_21_b (a1 : Int32) (K21 : xS → Int32 → Int32 → Prop) (Q : Int32 → xS → Prop) (S : xS) (v2 : Int32) (v3 : Int32) : Prop :=
  (if (S.1 6 0 1) ≤ v3 then (Q v2 S) else (vp_in a1 6 ∧ (vp_in v3 4 ∧ (vp_in v3 4 ∧ (if (S.1 0 v3.toNatClampNeg 3) = 0 then (vp_in v3 4 ∧ (if (S.1 30 0 v3.toNatClampNeg) = (S.1 33 a1.toNatClampNeg v3.toNatClampNeg) then (wp_X6_applyInstance_73 a1 K21 Q S v2 v3) else (vp_in v3 4 ∧ (wp_X6_applyInstance_73 a1 K21 Q (xI S 30 0 v3.toNatClampNeg (S.1 33 a1.toNatClampNeg v3.toNatClampNeg)) (v2 + (1 : Int32)) v3)))) else (wp_X6_applyInstance_73 a1 K21 Q S v2 v3))))))
def wp_X6_applyInstance_21 (a1 : Int32) (Q : Int32 → xS → Prop) : Nat → xS → Int32 → Int32 → Prop
  | 0 => fun _ _ _ => False
  | n + 1 => fun S v2 v3 => wp_X6_applyInstance_21_b a1 (wp_X6_applyInstance_21 a1 Q n) Q S v2 v3
def wp_X6_applyInstance (a1 : Int32) (S : xS) (Q : Int32 → xS → Prop) : Prop :=
  (wp_X6_within a1 (0 : Int32) ((S.1 6 0 11) - (1 : Int32)) S (fun r2 S1 => (if r2 = 0 then (Q (-1000005 : Int32) S1) else (∃ n3, wp_X6_applyInstance_21 a1 Q n3 S1 (0 : Int32) (0 : Int32)))))
def wp_J9_abs_0f7a4_10 (Q : Int32 → xS → Prop) (S : xS) (s0 : Int32) : Prop :=
  (Q s0 S)
def wp_J9_abs_0f7a4 (a0 : Int32) (S : xS) (Q : Int32 → xS → Prop) : Prop :=
  (if 0 ≤ a0 then (wp_J9_abs_0f7a4_10 Q S a0) else (wp_J9_abs_0f7a4_10 Q S (-a0)))
def wp_X6_nearestInstance_75 (K10 : xS → Int32 → Int32 → Int32 → Prop) (Q : Int32 → xS → Prop) (S : xS) (v1 : Int32) (v2 : Int32) (v3 : Int32) : Prop :=
  (K10 S v1 v2 (v3 + (1 : Int32)))
def wp_X6_nearestInstance_24_b (K10 : xS → Int32 → Int32 → Int32 → Prop) (K24 : xS → Int32 → Int32 → Int32 → Int32 → Int32 → Prop) (Q : Int32 → xS → Prop) (S : xS) (v1 : Int32) (v2 : Int32) (v3 : Int32) (v4 : Int32) (v5 : Int32) : Prop :=
  (if (S.1 6 0 1) ≤ v5 then (if v2 ≤ v4 then (wp_X6_nearestInstance_75 K10 Q S v1 v2 v3) else (wp_X6_nearestInstance_75 K10 Q S v3 v4 v3)) else (vp_in v3 6 ∧ (vp_in v5 4 ∧ (vp_in v5 4 ∧ (wp_J9_abs_0f7a4 ((S.1 33 v3.toNatClampNeg v5.toNatClampNeg) - (S.1 30 0 v5.toNatClampNeg)) S (fun r5 S4 => (K24 S4 v1 v2 v3 (v4 + r5) (v5 + (1 : Int32)))))))))
def wp_X6_nearestInstance_24 (K10 : xS → Int32 → Int32 → Int32 → Prop) (Q : Int32 → xS → Prop) : Nat → xS → Int32 → Int32 → Int32 → Int32 → Int32 → Prop
  | 0 => fun _ _ _ _ _ _ => False
  | n + 1 => fun S v1 v2 v3 v4 v5 => wp_X6_nearestInstance_24_b K10 (wp_X6_nearestInstance_24 K10 Q n) Q S v1 v2 v3 v4 v5
def wp_X6_nearestInstance_10_b (K10 : xS → Int32 → Int32 → Int32 → Prop) (Q : Int32 → xS → Prop) (S : xS) (v1 : Int32) (v2 : Int32) (v3 : Int32) : Prop :=
  (if (S.1 6 0 11) ≤ v3 then (Q v1 S) else (∃ n1, wp_X6_nearestInstance_24 K10 Q n1 S v1 v2 v3 (0 : Int32) (0 : Int32)))
def wp_X6_nearestInstance_10 (Q : Int32 → xS → Prop) : Nat → xS → Int32 → Int32 → Int32 → Prop
  | 0 => fun _ _ _ _ => False
  | n + 1 => fun S v1 v2 v3 => wp_X6_nearestInstance_10_b (wp_X6_nearestInstance_10 Q n) Q S v1 v2 v3
def wp_X6_nearestInstance (S : xS) (Q : Int32 → xS → Prop) : Prop :=
  (∃ n1, wp_X6_nearestInstance_10 Q n1 S (-1000008 : Int32) (2147483647 : Int32) (0 : Int32))
def wp_X6_type_23 (Q : Int32 → xS → Prop) (S : xS) (s0 : Int32) : Prop :=
  (Q s0 S)
def wp_X6_type (a1 : Int32) (S : xS) (Q : Int32 → xS → Prop) : Prop :=
  (wp_X3_append a1 S (fun r2 S1 => (if r2 = 0 then (wp_X6_type_23 Q S1 (-1000006 : Int32)) else (wp_X6_type_23 Q S1 (S1.1 3 0 0)))))
def wp_X6_clearText (S : xS) (Q : Int32 → xS → Prop) : Prop :=
  (Q (S.1 3 0 0) (xI S 3 0 0 (0 : Int32)))
def wp_X6_readLocation_70 (K24 : xS → Int32 → Int32 → Prop) (Q : Int32 → xS → Prop) (S : xS) (v1 : Int32) (v2 : Int32) : Prop :=
  (K24 S v1 (v2 + (1 : Int32)))
def wp_X6_readLocation_24_b (K24 : xS → Int32 → Int32 → Prop) (Q : Int32 → xS → Prop) (S : xS) (v1 : Int32) (v2 : Int32) : Prop :=
  (if (S.1 6 0 1) ≤ v2 then (Q v1 S) else (wp_X6_hasBit (S.1 3 0 2) v2 S (fun r2 S1 => (if r2 = 0 then (wp_X6_readLocation_70 K24 Q S1 v1 v2) else (vp_in v2 4 ∧ (vp_in v2 4 ∧ (wp_X0_coordinateFor v2.toNatClampNeg (S1.1 20 0 v2.toNatClampNeg) S1 (fun r6 S5 => (vp_in v2 4 ∧ (wp_X6_readLocation_70 K24 Q (xI S5 30 0 v2.toNatClampNeg r6) v1 v2))))))))))
def wp_X6_readLocation_24 (Q : Int32 → xS → Prop) : Nat → xS → Int32 → Int32 → Prop
  | 0 => fun _ _ _ => False
  | n + 1 => fun S v1 v2 => wp_X6_readLocation_24_b (wp_X6_readLocation_24 Q n) Q S v1 v2
def wp_X6_readLocation (S : xS) (Q : Int32 → xS → Prop) : Prop :=
  (wp_X6_pinnedAxes S (fun r2 S1 => (wp_X3_readItems (S.1 6 0 1) r2 S1 (fun r4 S3 => (if 0 ≤ r4 then (∃ n5, wp_X6_readLocation_24 Q n5 S3 r4 (0 : Int32)) else (Q r4 S3))))))
def wp_X6_count (a1 : Int32) (S : xS) (Q : Int32 → xS → Prop) : Prop :=
  (if a1 = 0 then (Q (S.1 6 0 1) S) else (if a1 = 1 then (Q (S.1 6 0 6) S) else (if a1 = 2 then (Q (S.1 6 0 11) S) else (if a1 = 3 then (Q (S.1 2 0 0) S) else (Q (-1000005 : Int32) S)))))
def wp_X7_in_18 (Q : Int32 → xS → Prop) (S : xS) (s0 : Int32) : Prop :=
  ((s0 = 0 ∨ s0 = 1) ∧ Q s0 S)
def wp_X7_in_17 (Q : Int32 → xS → Prop) (S : xS) : Prop :=
  (wp_X7_in_18 Q S (0 : Int32))
def wp_X7_in (a0 : Int64) (a2 : Int64) (a4 : Int64) (S : xS) (Q : Int32 → xS → Prop) : Prop :=
  (if (lg_cmp a0 a2) < 0 then (wp_X7_in_17 Q S) else (if 0 < (lg_cmp a0 a4) then (wp_X7_in_17 Q S) else (wp_X7_in_18 Q S (1 : Int32))))
def wp_X7_lost (S : xS) (Q : Int64 → xS → Prop) : Prop :=
  (Q (-9223372036854775808 : Int64) S)
def wp_X7_near_42 (Q : Int64 → xS → Prop) (S : xS) (s0 : Int64) : Prop :=
  (Q s0 S)
def wp_X7_near (a0 : Int64) (a2 : Int64) (S : xS) (Q : Int64 → xS → Prop) : Prop :=
  (¬ ((2 : Int64) * a2) = 0 ∧ (if (lg_cmp ((((((2 : Int64) * a0) + a2) / ((2 : Int64) * a2)) * (2 : Int64)) * a2) (((2 : Int64) * a0) + a2)) ≤ 0 then (wp_X7_near_42 Q S ((((2 : Int64) * a0) + a2) / ((2 : Int64) * a2))) else (wp_X7_near_42 Q S (((((2 : Int64) * a0) + a2) / ((2 : Int64) * a2)) - (1 : Int64)))))
def wp_X7_noAxis_21 (Q : Int32 → xS → Prop) (S : xS) (s0 : Int32) : Prop :=
  ((s0 = 0 ∨ s0 = 1) ∧ Q s0 S)
def wp_X7_noAxis (a1 : Int32) (S : xS) (Q : Int32 → xS → Prop) : Prop :=
  (wp_X7_in (Int32.toInt64 a1) (0 : Int64) ((Int32.toInt64 (S.1 0 0 0)) - (1 : Int64)) S (fun r2 S1 => (if r2 = 0 then (wp_X7_noAxis_21 Q S1 (1 : Int32)) else (wp_X7_noAxis_21 Q S1 (0 : Int32)))))
def wp_X7_addAxis_45 (Q : Int32 → xS → Prop) (S : xS) : Prop :=
  (Q (-1000005 : Int32) S)
def wp_X7_addAxis_112_b (K112 : xS → Int32 → Prop) (Q : Int32 → xS → Prop) (S : xS) (v4 : Int32) : Prop :=
  (if (3 : Int32) ≤ v4 then (Q (((xI S 0 0 0 ((S.1 0 0 0) + (1 : Int32))).1 0 0 0) - (1 : Int32)) (xI S 0 0 0 ((S.1 0 0 0) + (1 : Int32)))) else (vp_in (((8 : Int32) * (S.1 0 0 0)) + v4) 32 ∧ (vp_in (((8 : Int32) * ((xI S 8 0 (((8 : Int32) * (S.1 0 0 0)) + v4).toNatClampNeg ((16384 : Int32) * (v4 - (1 : Int32)))).1 0 0 0)) + v4) 32 ∧ (K112 (xI (xI S 8 0 (((8 : Int32) * (S.1 0 0 0)) + v4).toNatClampNeg ((16384 : Int32) * (v4 - (1 : Int32)))) 9 0 (((8 : Int32) * ((xI S 8 0 (((8 : Int32) * (S.1 0 0 0)) + v4).toNatClampNeg ((16384 : Int32) * (v4 - (1 : Int32)))).1 0 0 0)) + v4).toNatClampNeg ((16384 : Int32) * (v4 - (1 : Int32)))) (v4 + (1 : Int32))))))
def wp_X7_addAxis_112 (Q : Int32 → xS → Prop) : Nat → xS → Int32 → Prop
  | 0 => fun _ _ => False
  | n + 1 => fun S v4 => wp_X7_addAxis_112_b (wp_X7_addAxis_112 Q n) Q S v4
def wp_X7_addAxis (a1 : Int32) (a2 : Int32) (a3 : Int32) (S : xS) (Q : Int32 → xS → Prop) : Prop :=
  (wp_X7_in (Int32.toInt64 a1) (-100000 : Int64) (100000 : Int64) S (fun r2 S1 => (if r2 = 0 then (wp_X7_addAxis_45 Q S1) else (wp_X7_in (Int32.toInt64 a2) (Int32.toInt64 a1) (100000 : Int64) S1 (fun r4 S3 => (if r4 = 0 then (wp_X7_addAxis_45 Q S3) else (wp_X7_in (Int32.toInt64 a3) (Int32.toInt64 a2) (100000 : Int64) S3 (fun r6 S5 => (if r6 = 0 then (wp_X7_addAxis_45 Q S5) else (if a3 = a1 then (wp_X7_addAxis_45 Q S5) else (if (S5.1 0 0 0) = (4 : Int32) then (Q (-1000006 : Int32) S5) else (vp_in (S5.1 0 0 0) 4 ∧ (vp_in ((xI S5 2 0 (S5.1 0 0 0).toNatClampNeg a1).1 0 0 0) 4 ∧ (vp_in ((xI (xI S5 2 0 (S5.1 0 0 0).toNatClampNeg a1) 3 0 ((xI S5 2 0 (S5.1 0 0 0).toNatClampNeg a1).1 0 0 0).toNatClampNeg a2).1 0 0 0) 4 ∧ (vp_in ((xI (xI (xI S5 2 0 (S5.1 0 0 0).toNatClampNeg a1) 3 0 ((xI S5 2 0 (S5.1 0 0 0).toNatClampNeg a1).1 0 0 0).toNatClampNeg a2) 4 0 ((xI (xI S5 2 0 (S5.1 0 0 0).toNatClampNeg a1) 3 0 ((xI S5 2 0 (S5.1 0 0 0).toNatClampNeg a1).1 0 0 0).toNatClampNeg a2).1 0 0 0).toNatClampNeg a3).1 0 0 0) 4 ∧ (vp_in ((xI (xI (xI (xI S5 2 0 (S5.1 0 0 0).toNatClampNeg a1) 3 0 ((xI S5 2 0 (S5.1 0 0 0).toNatClampNeg a1).1 0 0 0).toNatClampNeg a2) 4 0 ((xI (xI S5 2 0 (S5.1 0 0 0).toNatClampNeg a1) 3 0 ((xI S5 2 0 (S5.1 0 0 0).toNatClampNeg a1).1 0 0 0).toNatClampNeg a2).1 0 0 0).toNatClampNeg a3) 5 0 ((xI (xI (xI S5 2 0 (S5.1 0 0 0).toNatClampNeg a1) 3 0 ((xI S5 2 0 (S5.1 0 0 0).toNatClampNeg a1).1 0 0 0).toNatClampNeg a2) 4 0 ((xI (xI S5 2 0 (S5.1 0 0 0).toNatClampNeg a1) 3 0 ((xI S5 2 0 (S5.1 0 0 0).toNatClampNeg a1).1 0 0 0).toNatClampNeg a2).1 0 0 0).toNatClampNeg a3).1 0 0 0).toNatClampNeg (0 : Int32)).1 0 0 0) 4 ∧ (∃ n12, wp_X7_addAxis_112 Q n12 (xI (xI (xI (xI (xI S5 2 0 (S5.1 0 0 0).toNatClampNeg a1) 3 0 ((xI S5 2 0 (S5.1 0 0 0).toNatClampNeg a1).1 0 0 0).toNatClampNeg a2) 4 0 ((xI (xI S5 2 0 (S5.1 0 0 0).toNatClampNeg a1) 3 0 ((xI S5 2 0 (S5.1 0 0 0).toNatClampNeg a1).1 0 0 0).toNatClampNeg a2).1 0 0 0).toNatClampNeg a3) 5 0 ((xI (xI (xI S5 2 0 (S5.1 0 0 0).toNatClampNeg a1) 3 0 ((xI S5 2 0 (S5.1 0 0 0).toNatClampNeg a1).1 0 0 0).toNatClampNeg a2) 4 0 ((xI (xI S5 2 0 (S5.1 0 0 0).toNatClampNeg a1) 3 0 ((xI S5 2 0 (S5.1 0 0 0).toNatClampNeg a1).1 0 0 0).toNatClampNeg a2).1 0 0 0).toNatClampNeg a3).1 0 0 0).toNatClampNeg (0 : Int32)) 7 0 ((xI (xI (xI (xI S5 2 0 (S5.1 0 0 0).toNatClampNeg a1) 3 0 ((xI S5 2 0 (S5.1 0 0 0).toNatClampNeg a1).1 0 0 0).toNatClampNeg a2) 4 0 ((xI (xI S5 2 0 (S5.1 0 0 0).toNatClampNeg a1) 3 0 ((xI S5 2 0 (S5.1 0 0 0).toNatClampNeg a1).1 0 0 0).toNatClampNeg a2).1 0 0 0).toNatClampNeg a3) 5 0 ((xI (xI (xI S5 2 0 (S5.1 0 0 0).toNatClampNeg a1) 3 0 ((xI S5 2 0 (S5.1 0 0 0).toNatClampNeg a1).1 0 0 0).toNatClampNeg a2) 4 0 ((xI (xI S5 2 0 (S5.1 0 0 0).toNatClampNeg a1) 3 0 ((xI S5 2 0 (S5.1 0 0 0).toNatClampNeg a1).1 0 0 0).toNatClampNeg a2).1 0 0 0).toNatClampNeg a3).1 0 0 0).toNatClampNeg (0 : Int32)).1 0 0 0).toNatClampNeg (3 : Int32)) (0 : Int32))))))))))))))))))
def wp_X7_addMapPair_43 (Q : Int32 → xS → Prop) (S : xS) : Prop :=
  (Q (-1000005 : Int32) S)
def wp_X7_addMapPair_127 (Q : Int32 → xS → Prop) (S : xS) : Prop :=
  (Q (-1000005 : Int32) S)
def wp_X7_addMapPair_222 (a1 : Int32) (a2 : Int32) (a3 : Int32) (Q : Int32 → xS → Prop) (S : xS) (v4 : Int32) : Prop :=
  (vp_in v4 32 ∧ (vp_in v4 32 ∧ (vp_in a1 4 ∧ (Q ((xI (xI S 8 0 v4.toNatClampNeg a2) 9 0 v4.toNatClampNeg a3).1 7 0 a1.toNatClampNeg) (xI (xI S 8 0 v4.toNatClampNeg a2) 9 0 v4.toNatClampNeg a3)))))
def wp_X7_addMapPair_167_b (a1 : Int32) (a2 : Int32) (a3 : Int32) (K167 : xS → Int32 → Int32 → Prop) (Q : Int32 → xS → Prop) (S : xS) (v4 : Int32) (v7 : Int32) : Prop :=
  (if v7 ≤ v4 then (vp_in a1 4 ∧ (vp_in a1 4 ∧ (wp_X7_addMapPair_222 a1 a2 a3 Q (xI S 7 0 a1.toNatClampNeg ((S.1 7 0 a1.toNatClampNeg) + (1 : Int32))) v4))) else (vp_in (v7 - (1 : Int32)) 32 ∧ (vp_in v7 32 ∧ (vp_in (v7 - (1 : Int32)) 32 ∧ (vp_in v7 32 ∧ (K167 (xI (xI S 8 0 v7.toNatClampNeg (S.1 8 0 (v7 - (1 : Int32)).toNatClampNeg)) 9 0 v7.toNatClampNeg ((xI S 8 0 v7.toNatClampNeg (S.1 8 0 (v7 - (1 : Int32)).toNatClampNeg)).1 9 0 (v7 - (1 : Int32)).toNatClampNeg)) v4 (v7 + (-1 : Int32))))))))
def wp_X7_addMapPair_167 (a1 : Int32) (a2 : Int32) (a3 : Int32) (Q : Int32 → xS → Prop) : Nat → xS → Int32 → Int32 → Prop
  | 0 => fun _ _ _ => False
  | n + 1 => fun S v4 v7 => wp_X7_addMapPair_167_b a1 a2 a3 (wp_X7_addMapPair_167 a1 a2 a3 Q n) Q S v4 v7
def wp_X7_addMapPair_149 (a1 : Int32) (a2 : Int32) (a3 : Int32) (Q : Int32 → xS → Prop) (S : xS) (v4 : Int32) (v5 : Int32) : Prop :=
  (if v5 = 0 then (vp_in a1 4 ∧ (∃ n2, wp_X7_addMapPair_167 a1 a2 a3 Q n2 S v4 (((8 : Int32) * a1) + (S.1 7 0 a1.toNatClampNeg)))) else (wp_X7_addMapPair_222 a1 a2 a3 Q S v4))
def wp_X7_addMapPair_101 (a1 : Int32) (a2 : Int32) (a3 : Int32) (Q : Int32 → xS → Prop) (S : xS) (v4 : Int32) (v5 : Int32) (s0 : Int32) : Prop :=
  (vp_in (v4 - (1 : Int32)) 32 ∧ (if a3 < (S.1 9 0 (v4 - (1 : Int32)).toNatClampNeg) then (wp_X7_addMapPair_127 Q S) else (vp_in s0 32 ∧ (if a3 ≤ (S.1 9 0 s0.toNatClampNeg) then (if v5 = 0 then (vp_in a1 4 ∧ (if (S.1 7 0 a1.toNatClampNeg) = (8 : Int32) then (Q (-1000006 : Int32) S) else (wp_X7_addMapPair_149 a1 a2 a3 Q S v4 v5))) else (wp_X7_addMapPair_149 a1 a2 a3 Q S v4 v5)) else (wp_X7_addMapPair_127 Q S)))))
def wp_X7_addMapPair_85 (a1 : Int32) (a2 : Int32) (a3 : Int32) (Q : Int32 → xS → Prop) (S : xS) (v4 : Int32) (s0 : Int32) : Prop :=
  (if s0 = 0 then (wp_X7_addMapPair_101 a1 a2 a3 Q S v4 s0 v4) else (wp_X7_addMapPair_101 a1 a2 a3 Q S v4 s0 (v4 + (1 : Int32))))
def wp_X7_addMapPair_52_b (a1 : Int32) (a2 : Int32) (a3 : Int32) (K52 : xS → Int32 → Prop) (Q : Int32 → xS → Prop) (S : xS) (v4 : Int32) : Prop :=
  (vp_in v4 32 ∧ (if a2 ≤ (S.1 8 0 v4.toNatClampNeg) then (vp_in v4 32 ∧ (if (S.1 8 0 v4.toNatClampNeg) = a2 then (wp_X7_addMapPair_85 a1 a2 a3 Q S v4 (1 : Int32)) else (wp_X7_addMapPair_85 a1 a2 a3 Q S v4 (0 : Int32)))) else (K52 S (v4 + (1 : Int32)))))
def wp_X7_addMapPair_52 (a1 : Int32) (a2 : Int32) (a3 : Int32) (Q : Int32 → xS → Prop) : Nat → xS → Int32 → Prop
  | 0 => fun _ _ => False
  | n + 1 => fun S v4 => wp_X7_addMapPair_52_b a1 a2 a3 (wp_X7_addMapPair_52 a1 a2 a3 Q n) Q S v4
def wp_X7_addMapPair (a1 : Int32) (a2 : Int32) (a3 : Int32) (S : xS) (Q : Int32 → xS → Prop) : Prop :=
  (wp_X7_noAxis a1 S (fun r2 S1 => (if r2 = 0 then (wp_X7_in (Int32.toInt64 a2) (-16383 : Int64) (16383 : Int64) S1 (fun r4 S3 => (if r4 = 0 then (wp_X7_addMapPair_43 Q S3) else (if a2 = 0 then (wp_X7_addMapPair_43 Q S3) else (wp_X7_in (Int32.toInt64 a3) (-16384 : Int64) (16384 : Int64) S3 (fun r6 S5 => (if r6 = 0 then (wp_X7_addMapPair_43 Q S5) else (∃ n7, wp_X7_addMapPair_52 a1 a2 a3 Q n7 S5 ((8 : Int32) * a1))))))))) else (Q (-1000001 : Int32) S1))))
def wp_X7_normal_112 (Q : Int32 → xS → Prop) (S : xS) (s0 : Int32) : Prop :=
  (Q s0 S)
def wp_X7_normal_39 (a1 : Int32) (Q : Int32 → xS → Prop) (S : xS) (s0 : Int32) : Prop :=
  (vp_in a1 4 ∧ (if s0 = (S.1 3 0 a1.toNatClampNeg) then (Q (0 : Int32) S) else (if (S.1 3 0 a1.toNatClampNeg) ≤ s0 then (vp_in a1 4 ∧ (wp_X7_near ((Int32.toInt64 (s0 - (S.1 3 0 a1.toNatClampNeg))) * (16384 : Int64)) (Int32.toInt64 ((S.1 4 0 a1.toNatClampNeg) - (S.1 3 0 a1.toNatClampNeg))) S (fun r4 S3 => (wp_X7_normal_112 Q S3 (Int64.toInt32 r4))))) else (vp_in a1 4 ∧ (wp_X7_near ((Int32.toInt64 ((S.1 3 0 a1.toNatClampNeg) - s0)) * (16384 : Int64)) (Int32.toInt64 ((S.1 3 0 a1.toNatClampNeg) - (S.1 2 0 a1.toNatClampNeg))) S (fun r7 S6 => (wp_X7_normal_112 Q S6 (-(Int64.toInt32 r7)))))))))
def wp_X7_normal (a1 : Int32) (a2 : Int32) (S : xS) (Q : Int32 → xS → Prop) : Prop :=
  (vp_in a1 4 ∧ (if (S.1 2 0 a1.toNatClampNeg) ≤ a2 then (vp_in a1 4 ∧ (if a2 ≤ (S.1 4 0 a1.toNatClampNeg) then (wp_X7_normal_39 a1 Q S a2) else (vp_in a1 4 ∧ (wp_X7_normal_39 a1 Q S (S.1 4 0 a1.toNatClampNeg))))) else (vp_in a1 4 ∧ (wp_X7_normal_39 a1 Q S (S.1 2 0 a1.toNatClampNeg)))))
def wp_X7_mapped_16_b (a2 : Int32) (K16 : xS → Int32 → Prop) (Q : Int32 → xS → Prop) (S : xS) (v3 : Int32) : Prop :=
  (vp_in (v3 + (1 : Int32)) 32 ∧ (if a2 < (S.1 8 0 (v3 + (1 : Int32)).toNatClampNeg) then (vp_in v3 32 ∧ (vp_in v3 32 ∧ (vp_in (v3 + (1 : Int32)) 32 ∧ (vp_in v3 32 ∧ (vp_in (v3 + (1 : Int32)) 32 ∧ (vp_in v3 32 ∧ (wp_X7_near ((Int32.toInt64 (a2 - (S.1 8 0 v3.toNatClampNeg))) * (Int32.toInt64 ((S.1 9 0 (v3 + (1 : Int32)).toNatClampNeg) - (S.1 9 0 v3.toNatClampNeg)))) (Int32.toInt64 ((S.1 8 0 (v3 + (1 : Int32)).toNatClampNeg) - (S.1 8 0 v3.toNatClampNeg))) S (fun r9 S8 => (Q ((S.1 9 0 v3.toNatClampNeg) + (Int64.toInt32 r9)) S8))))))))) else (K16 S (v3 + (1 : Int32)))))
def wp_X7_mapped_16 (a2 : Int32) (Q : Int32 → xS → Prop) : Nat → xS → Int32 → Prop
  | 0 => fun _ _ => False
  | n + 1 => fun S v3 => wp_X7_mapped_16_b a2 (wp_X7_mapped_16 a2 Q n) Q S v3
def wp_X7_mapped (a1 : Int32) (a2 : Int32) (S : xS) (Q : Int32 → xS → Prop) : Prop :=
  (if a2 = (16384 : Int32) then (Q (16384 : Int32) S) else (∃ n1, wp_X7_mapped_16 a2 Q n1 S ((8 : Int32) * a1)))
def wp_X7_normalize_24 (Q : Int32 → xS → Prop) (S : xS) (s0 : Int32) : Prop :=
  (Q s0 S)
def wp_X7_normalize (a1 : Int32) (a2 : Int32) (S : xS) (Q : Int32 → xS → Prop) : Prop :=
  (wp_X7_noAxis a1 S (fun r2 S1 => (if r2 = 0 then (wp_X7_normal a1 a2 S1 (fun r4 S3 => (wp_X7_mapped a1 r4 S3 (fun r6 S5 => (wp_X7_normalize_24 Q S5 r6))))) else (wp_X7_normalize_24 Q S1 (-1000001 : Int32)))))
def wp_X7_setUser (a1 : Int32) (a2 : Int32) (S : xS) (Q : Int32 → xS → Prop) : Prop :=
  (wp_X7_noAxis a1 S (fun r2 S1 => (if r2 = 0 then (vp_in a1 4 ∧ (if (S1.1 6 0 a1.toNatClampNeg) = 0 then (wp_X7_normal a1 a2 S1 (fun r5 S4 => (wp_X7_mapped a1 r5 S4 (fun r7 S6 => (vp_in a1 4 ∧ (vp_in a1 4 ∧ (Q ((xI S6 5 0 a1.toNatClampNeg r7).1 5 0 a1.toNatClampNeg) (xI S6 5 0 a1.toNatClampNeg r7)))))))) else (Q (-1000007 : Int32) S1))) else (Q (-1000001 : Int32) S1))))
def wp_X7_setCoordinate (a1 : Int32) (a2 : Int32) (S : xS) (Q : Int32 → xS → Prop) : Prop :=
  (wp_X7_noAxis a1 S (fun r2 S1 => (if r2 = 0 then (wp_X7_in (Int32.toInt64 a2) (-16384 : Int64) (16384 : Int64) S1 (fun r4 S3 => (if r4 = 0 then (Q (-1000005 : Int32) S3) else (vp_in a1 4 ∧ (if (S3.1 6 0 a1.toNatClampNeg) = 0 then (vp_in a1 4 ∧ (vp_in a1 4 ∧ (Q (S3.1 5 0 a1.toNatClampNeg) (xI S3 5 0 a1.toNatClampNeg a2)))) else (Q (-1000007 : Int32) S3)))))) else (Q (-1000001 : Int32) S1))))
def wp_X7_pin_26 (a1 : Int32) (a2 : Int32) (Q : Int32 → xS → Prop) (S : xS) (s0 : Int32) : Prop :=
  (vp_in a1 4 ∧ (Q s0 (xI S 6 0 a1.toNatClampNeg (vp_nar .boolean a2))))
def wp_X7_pin (a1 : Int32) (a2 : Int32) (S : xS) (Q : Int32 → xS → Prop) : Prop :=
  (wp_X7_noAxis a1 S (fun r2 S1 => (if r2 = 0 then (vp_in a1 4 ∧ (if (S1.1 6 0 a1.toNatClampNeg) = a2 then (wp_X7_pin_26 a1 a2 Q S1 (0 : Int32)) else (wp_X7_pin_26 a1 a2 Q S1 (1 : Int32)))) else (Q (-1000001 : Int32) S1))))
def wp_X7_axisValue_101 (Q : Int32 → xS → Prop) (S : xS) (s0 : Int32) : Prop :=
  (Q s0 S)
def wp_X7_axisValue (a1 : Int32) (a2 : Int32) (S : xS) (Q : Int32 → xS → Prop) : Prop :=
  (wp_X7_noAxis a1 S (fun r2 S1 => (if r2 = 0 then (if a2 = 0 then (vp_in a1 4 ∧ (Q (S1.1 5 0 a1.toNatClampNeg) S1)) else (if a2 = 1 then (vp_in a1 4 ∧ (Q (S1.1 2 0 a1.toNatClampNeg) S1)) else (if a2 = 2 then (vp_in a1 4 ∧ (Q (S1.1 3 0 a1.toNatClampNeg) S1)) else (if a2 = 3 then (vp_in a1 4 ∧ (Q (S1.1 4 0 a1.toNatClampNeg) S1)) else (if a2 = 4 then (vp_in a1 4 ∧ (Q (S1.1 7 0 a1.toNatClampNeg) S1)) else (if a2 = 5 then (vp_in a1 4 ∧ (if (S1.1 6 0 a1.toNatClampNeg) = 0 then (wp_X7_axisValue_101 Q S1 (0 : Int32)) else (wp_X7_axisValue_101 Q S1 (1 : Int32)))) else (Q (-1000005 : Int32) S1))))))) else (Q (-1000001 : Int32) S1))))
def wp_X7_of (a1 : Int32) (a2 : Int32) (S : xS) (Q : Int32 → xS → Prop) : Prop :=
  (vp_in (((511 : Int32) * a1) + a2) 3066 ∧ (Q (S.1 11 0 (((511 : Int32) * a1) + a2).toNatClampNeg) S))
def wp_X7_put (a1 : Int32) (a2 : Int32) (a3 : Int32) (S : xS) (Q : xS → Prop) : Prop :=
  (vp_in (((511 : Int32) * a1) + a2) 3066 ∧ (Q (xI S 11 0 (((511 : Int32) * a1) + a2).toNatClampNeg a3)))
def wp_X7_noGlyph_21 (Q : Int32 → xS → Prop) (S : xS) (s0 : Int32) : Prop :=
  ((s0 = 0 ∨ s0 = 1) ∧ Q s0 S)
def wp_X7_noGlyph (a1 : Int32) (S : xS) (Q : Int32 → xS → Prop) : Prop :=
  (wp_X7_in (Int32.toInt64 a1) (0 : Int64) ((Int32.toInt64 (S.1 0 0 9)) - (1 : Int64)) S (fun r2 S1 => (if r2 = 0 then (wp_X7_noGlyph_21 Q S1 (1 : Int32)) else (wp_X7_noGlyph_21 Q S1 (0 : Int32)))))
def wp_X7_addGlyph_42 (a2 : Int32) (Q : Int32 → xS → Prop) (S : xS) (s1 : Int32) (s2 : Int32) (s3 : Int32) : Prop :=
  (wp_X7_put s1 s2 s3 S (fun S1 => (wp_X7_put (S1.1 0 0 9) (1 : Int32) a2 S1 (fun S3 => (Q (((xI S3 0 0 9 ((S3.1 0 0 9) + (1 : Int32))).1 0 0 9) - (1 : Int32)) (xI S3 0 0 9 ((S3.1 0 0 9) + (1 : Int32))))))))
def wp_X7_addGlyph (a1 : Int32) (a2 : Int32) (S : xS) (Q : Int32 → xS → Prop) : Prop :=
  (wp_X7_in (Int32.toInt64 a2) (0 : Int64) (4000 : Int64) S (fun r2 S1 => (if r2 = 0 then (Q (-1000005 : Int32) S1) else (if (S1.1 0 0 9) = (6 : Int32) then (Q (-1000006 : Int32) S1) else (if a1 = 0 then (wp_X7_addGlyph_42 a2 Q S1 (S1.1 0 0 9) (0 : Int32) (0 : Int32)) else (wp_X7_addGlyph_42 a2 Q S1 (S1.1 0 0 9) (0 : Int32) (1 : Int32)))))))
def wp_X7_isPart_68 (a1 : Int32) (K6 : xS → Int32 → Int32 → Prop) (Q : Int32 → xS → Prop) (S : xS) (v2 : Int32) (v3 : Int32) : Prop :=
  (K6 S v2 (v3 + (1 : Int32)))
def wp_X7_isPart_61 (a1 : Int32) (K6 : xS → Int32 → Int32 → Prop) (K17 : xS → Int32 → Int32 → Int32 → Prop) (Q : Int32 → xS → Prop) (S : xS) (v3 : Int32) (v4 : Int32) (s0 : Int32) : Prop :=
  (K17 S s0 v3 (v4 + (1 : Int32)))
def wp_X7_isPart_56 (a1 : Int32) (K6 : xS → Int32 → Int32 → Prop) (K17 : xS → Int32 → Int32 → Int32 → Prop) (Q : Int32 → xS → Prop) (S : xS) (v3 : Int32) (v4 : Int32) : Prop :=
  (wp_X7_isPart_61 a1 K6 K17 Q S v3 v4 (1 : Int32))
def wp_X7_isPart_17_b (a1 : Int32) (K6 : xS → Int32 → Int32 → Prop) (K17 : xS → Int32 → Int32 → Int32 → Prop) (Q : Int32 → xS → Prop) (S : xS) (v2 : Int32) (v3 : Int32) (v4 : Int32) : Prop :=
  (wp_X7_of v3 (2 : Int32) S (fun r2 S1 => (if r2 ≤ v4 then (wp_X7_isPart_68 a1 K6 Q S1 v2 v3) else (wp_X7_of v3 (0 : Int32) S1 (fun r4 S3 => (if r4 = (1 : Int32) then (if v2 = 0 then (wp_X7_of v3 ((52 : Int32) + v4) S3 (fun r6 S5 => (if r6 = a1 then (wp_X7_isPart_56 a1 K6 K17 Q S5 v3 v4) else (wp_X7_isPart_61 a1 K6 K17 Q S5 v3 v4 (0 : Int32))))) else (wp_X7_isPart_56 a1 K6 K17 Q S3 v3 v4)) else (wp_X7_isPart_68 a1 K6 Q S3 v2 v3)))))))
def wp_X7_isPart_17 (a1 : Int32) (K6 : xS → Int32 → Int32 → Prop) (Q : Int32 → xS → Prop) : Nat → xS → Int32 → Int32 → Int32 → Prop
  | 0 => fun _ _ _ _ => False
  | n + 1 => fun S v2 v3 v4 => wp_X7_isPart_17_b a1 K6 (wp_X7_isPart_17 a1 K6 Q n) Q S v2 v3 v4
def wp_X7_isPart_6_b (a1 : Int32) (K6 : xS → Int32 → Int32 → Prop) (Q : Int32 → xS → Prop) (S : xS) (v2 : Int32) (v3 : Int32) : Prop :=
  (if (S.1 0 0 9) ≤ v3 then ((v2 = 0 ∨ v2 = 1) ∧ Q v2 S) else (∃ n1, wp_X7_isPart_17 a1 K6 Q n1 S v2 v3 (0 : Int32)))
def wp_X7_isPart_6 (a1 : Int32) (Q : Int32 → xS → Prop) : Nat → xS → Int32 → Int32 → Prop
  | 0 => fun _ _ _ => False
  | n + 1 => fun S v2 v3 => wp_X7_isPart_6_b a1 (wp_X7_isPart_6 a1 Q n) Q S v2 v3
def wp_X7_isPart (a1 : Int32) (S : xS) (Q : Int32 → xS → Prop) : Prop :=
  (∃ n1, wp_X7_isPart_6 a1 Q n1 S (0 : Int32) (a1 + (1 : Int32)))
def wp_X7_isPlace_33 (Q : Int32 → xS → Prop) (S : xS) (s0 : Int32) : Prop :=
  ((s0 = 0 ∨ s0 = 1) ∧ Q s0 S)
def wp_X7_isPlace_32 (Q : Int32 → xS → Prop) (S : xS) : Prop :=
  (wp_X7_isPlace_33 Q S (0 : Int32))
def wp_X7_isPlace (a0 : Int32) (a1 : Int32) (S : xS) (Q : Int32 → xS → Prop) : Prop :=
  (wp_X7_in (Int32.toInt64 a0) (-4000 : Int64) (4000 : Int64) S (fun r2 S1 => (if r2 = 0 then (wp_X7_isPlace_32 Q S1) else (wp_X7_in (Int32.toInt64 a1) (-4000 : Int64) (4000 : Int64) S1 (fun r4 S3 => (if r4 = 0 then (wp_X7_isPlace_32 Q S3) else (wp_X7_isPlace_33 Q S3 (1 : Int32))))))))
def wp_X7_addPlace_44_b (a1 : Int32) (K44 : xS → Int32 → Int32 → Prop) (Q : Int32 → xS → Prop) (S : xS) (v5 : Int32) (v6 : Int32) : Prop :=
  (wp_X7_of a1 (3 : Int32) S (fun r2 S1 => (if r2 ≤ v6 then (wp_X7_put a1 (2 : Int32) (v5 + (1 : Int32)) S1 (fun S3 => (Q v5 S3))) else (wp_X7_put a1 ((((76 : Int32) + ((87 : Int32) * v6)) + (12 : Int32)) + v5) (0 : Int32) S1 (fun S5 => (K44 S5 v5 (v6 + (1 : Int32))))))))
def wp_X7_addPlace_44 (a1 : Int32) (Q : Int32 → xS → Prop) : Nat → xS → Int32 → Int32 → Prop
  | 0 => fun _ _ _ => False
  | n + 1 => fun S v5 v6 => wp_X7_addPlace_44_b a1 (wp_X7_addPlace_44 a1 Q n) Q S v5 v6
def wp_X7_addPlace (a1 : Int32) (a2 : Int32) (a3 : Int32) (a4 : Int32) (S : xS) (Q : Int32 → xS → Prop) : Prop :=
  (wp_X7_of a1 (2 : Int32) S (fun r2 S1 => (wp_X7_put a1 ((4 : Int32) + r2) a2 S1 (fun S3 => (wp_X7_put a1 ((28 : Int32) + r2) a3 S3 (fun S5 => (wp_X7_put a1 ((52 : Int32) + r2) a4 S5 (fun S7 => (∃ n9, wp_X7_addPlace_44 a1 Q n9 S7 r2 (0 : Int32))))))))))
def wp_X7_addPoint_40 (Q : Int32 → xS → Prop) (S : xS) : Prop :=
  (Q (-1000007 : Int32) S)
def wp_X7_addPoint_80 (Q : Int32 → xS → Prop) (S : xS) (s1 : Int32) (s2 : Int32) (s3 : Int32) (s4 : Int32) : Prop :=
  (wp_X7_addPlace s1 s2 s3 s4 S (fun r2 S1 => (Q r2 S1)))
def wp_X7_addPoint_75 (Q : Int32 → xS → Prop) (S : xS) (s1 : Int32) (s2 : Int32) (s3 : Int32) : Prop :=
  (wp_X7_addPoint_80 Q S s1 s2 s3 (1 : Int32))
def wp_X7_addPoint (a1 : Int32) (a2 : Int32) (a3 : Int32) (a4 : Int32) (S : xS) (Q : Int32 → xS → Prop) : Prop :=
  (wp_X7_noGlyph a1 S (fun r2 S1 => (if r2 = 0 then (wp_X7_isPlace a2 a3 S1 (fun r4 S3 => (if r4 = 0 then (Q (-1000005 : Int32) S3) else (wp_X7_of a1 (0 : Int32) S3 (fun r6 S5 => (if r6 = (1 : Int32) then (wp_X7_addPoint_40 Q S5) else (wp_X7_isPart a1 S5 (fun r8 S7 => (if r8 = 0 then (wp_X7_of a1 (2 : Int32) S7 (fun r10 S9 => (if r10 = (24 : Int32) then (Q (-1000006 : Int32) S9) else (if a4 = 0 then (wp_X7_of a1 (2 : Int32) S9 (fun r12 S11 => (if r12 = 0 then (wp_X7_addPoint_75 Q S11 a1 a2 a3) else (wp_X7_addPoint_80 Q S11 a1 a2 a3 (0 : Int32))))) else (wp_X7_addPoint_75 Q S9 a1 a2 a3))))) else (wp_X7_addPoint_40 Q S7)))))))))) else (Q (-1000002 : Int32) S1))))
def wp_X7_countOutlines_132 (K2 : xS → Int32 → Prop) (K54 : xS → Int32 → Int32 → Int32 → Prop) (Q : xS → Prop) (S : xS) (v1 : Int32) (v2 : Int32) (v3 : Int32) (s1 : Int32) (s2 : Int32) (s3 : Int32) : Prop :=
  (vp_in s1 6 ∧ (K54 (xI S 13 0 s1.toNatClampNeg (s2 + s3)) v1 v2 (v3 + (1 : Int32))))
def wp_X7_countOutlines_93 (K2 : xS → Int32 → Prop) (K54 : xS → Int32 → Int32 → Int32 → Prop) (Q : xS → Prop) (S : xS) (v1 : Int32) (v2 : Int32) (v3 : Int32) (s1 : Int32) (s2 : Int32) (s3 : Int32) : Prop :=
  (vp_in s1 6 ∧ (vp_in v1 6 ∧ (if v2 = 0 then (wp_X7_of v1 ((52 : Int32) + v3) (xI S 12 0 s1.toNatClampNeg (s2 + s3)) (fun r4 S3 => (vp_in r4 6 ∧ (wp_X7_countOutlines_132 K2 K54 Q S3 v1 v2 v3 v1 ((xI S 12 0 s1.toNatClampNeg (s2 + s3)).1 13 0 v1.toNatClampNeg) (S3.1 13 0 r4.toNatClampNeg))))) else (wp_X7_of v1 ((52 : Int32) + v3) (xI S 12 0 s1.toNatClampNeg (s2 + s3)) (fun r7 S6 => (wp_X7_countOutlines_132 K2 K54 Q S6 v1 v2 v3 v1 ((xI S 12 0 s1.toNatClampNeg (s2 + s3)).1 13 0 v1.toNatClampNeg) r7))))))
def wp_X7_countOutlines_54_b (K2 : xS → Int32 → Prop) (K54 : xS → Int32 → Int32 → Int32 → Prop) (Q : xS → Prop) (S : xS) (v1 : Int32) (v2 : Int32) (v3 : Int32) : Prop :=
  (wp_X7_of v1 (2 : Int32) S (fun r2 S1 => (if r2 ≤ v3 then (K2 S1 (v1 + (1 : Int32))) else (vp_in v1 6 ∧ (if v2 = 0 then (wp_X7_of v1 ((52 : Int32) + v3) S1 (fun r5 S4 => (vp_in r5 6 ∧ (wp_X7_countOutlines_93 K2 K54 Q S4 v1 v2 v3 v1 (S1.1 12 0 v1.toNatClampNeg) (S4.1 12 0 r5.toNatClampNeg))))) else (wp_X7_countOutlines_93 K2 K54 Q S1 v1 v2 v3 v1 (S1.1 12 0 v1.toNatClampNeg) (0 : Int32)))))))
def wp_X7_countOutlines_54 (K2 : xS → Int32 → Prop) (Q : xS → Prop) : Nat → xS → Int32 → Int32 → Int32 → Prop
  | 0 => fun _ _ _ _ => False
  | n + 1 => fun S v1 v2 v3 => wp_X7_countOutlines_54_b K2 (wp_X7_countOutlines_54 K2 Q n) Q S v1 v2 v3
def wp_X7_countOutlines_44 (K2 : xS → Int32 → Prop) (Q : xS → Prop) (S : xS) (v1 : Int32) (v2 : Int32) (s1 : Int32) (s2 : Int32) : Prop :=
  (vp_in s1 6 ∧ (vp_in v1 6 ∧ (∃ n3, wp_X7_countOutlines_54 K2 Q n3 (xI (xI S 12 0 s1.toNatClampNeg s2) 13 0 v1.toNatClampNeg (0 : Int32)) v1 v2 (0 : Int32))))
def wp_X7_countOutlines_24 (K2 : xS → Int32 → Prop) (Q : xS → Prop) (S : xS) (v1 : Int32) (s0 : Int32) : Prop :=
  (if s0 = 0 then (wp_X7_countOutlines_44 K2 Q S v1 s0 v1 (0 : Int32)) else (wp_X7_of v1 (2 : Int32) S (fun r2 S1 => (wp_X7_countOutlines_44 K2 Q S1 v1 s0 v1 r2))))
def wp_X7_countOutlines_2_b (K2 : xS → Int32 → Prop) (Q : xS → Prop) (S : xS) (v1 : Int32) : Prop :=
  (if (S.1 0 0 9) ≤ v1 then (Q S) else (wp_X7_of v1 (0 : Int32) S (fun r2 S1 => (if r2 = 0 then (wp_X7_countOutlines_24 K2 Q S1 v1 (1 : Int32)) else (wp_X7_countOutlines_24 K2 Q S1 v1 (0 : Int32))))))
def wp_X7_countOutlines_2 (Q : xS → Prop) : Nat → xS → Int32 → Prop
  | 0 => fun _ _ => False
  | n + 1 => fun S v1 => wp_X7_countOutlines_2_b (wp_X7_countOutlines_2 Q n) Q S v1
def wp_X7_countOutlines (S : xS) (Q : xS → Prop) : Prop :=
  (∃ n1, wp_X7_countOutlines_2 Q n1 S (0 : Int32))
def wp_X7_addComponent_21 (Q : Int32 → xS → Prop) (S : xS) : Prop :=
  (Q (-1000002 : Int32) S)
def wp_X7_addComponent_53 (Q : Int32 → xS → Prop) (S : xS) : Prop :=
  (Q (-1000007 : Int32) S)
def wp_X7_addComponent_88 (Q : Int32 → xS → Prop) (S : xS) : Prop :=
  (Q (-1000006 : Int32) S)
def wp_X7_addComponent (a1 : Int32) (a2 : Int32) (a3 : Int32) (a4 : Int32) (S : xS) (Q : Int32 → xS → Prop) : Prop :=
  (wp_X7_noGlyph a1 S (fun r2 S1 => (if r2 = 0 then (wp_X7_in (Int32.toInt64 a2) (0 : Int64) ((Int32.toInt64 a1) - (1 : Int64)) S1 (fun r4 S3 => (if r4 = 0 then (wp_X7_addComponent_21 Q S3) else (wp_X7_isPlace a3 a4 S3 (fun r6 S5 => (if r6 = 0 then (Q (-1000005 : Int32) S5) else (wp_X7_of a1 (0 : Int32) S5 (fun r8 S7 => (if r8 = 0 then (wp_X7_addComponent_53 Q S7) else (wp_X7_isPart a1 S7 (fun r10 S9 => (if r10 = 0 then (wp_X7_countOutlines S9 (fun S11 => (wp_X7_of a1 (2 : Int32) S11 (fun r14 S13 => (if r14 = (4 : Int32) then (wp_X7_addComponent_88 Q S13) else (vp_in a1 6 ∧ (vp_in a2 6 ∧ (if ((S13.1 12 0 a1.toNatClampNeg) + (S13.1 12 0 a2.toNatClampNeg)) ≤ (96 : Int32) then (wp_X7_addPlace a1 a3 a4 a2 S13 (fun r18 S17 => (Q r18 S17))) else (wp_X7_addComponent_88 Q S13))))))))) else (wp_X7_addComponent_53 Q S9))))))))))))) else (wp_X7_addComponent_21 Q S1))))
def wp_X7_glyphValue (a1 : Int32) (a2 : Int32) (S : xS) (Q : Int32 → xS → Prop) : Prop :=
  (wp_X7_noGlyph a1 S (fun r2 S1 => (if r2 = 0 then (wp_X7_countOutlines S1 (fun S3 => (if a2 = 0 then (wp_X7_of a1 (0 : Int32) S3 (fun r6 S5 => (Q r6 S5))) else (if a2 = 1 then (wp_X7_of a1 (2 : Int32) S3 (fun r8 S7 => (Q r8 S7))) else (if a2 = 2 then (vp_in a1 6 ∧ (Q (S3.1 13 0 a1.toNatClampNeg) S3)) else (if a2 = 3 then (vp_in a1 6 ∧ (Q (S3.1 12 0 a1.toNatClampNeg) S3)) else (if a2 = 4 then (wp_X7_of a1 (3 : Int32) S3 (fun r12 S11 => (Q r12 S11))) else (if a2 = 5 then (wp_X7_of a1 (1 : Int32) S3 (fun r14 S13 => (Q r14 S13))) else (Q (-1000005 : Int32) S3))))))))) else (Q (-1000002 : Int32) S1))))
def wp_X7_tupleAt (a0 : Int32) (S : xS) (Q : Int32 → xS → Prop) : Prop :=
  (Q ((76 : Int32) + ((87 : Int32) * a0)) S)
def wp_X7_slot_10 (Q : Int32 → xS → Prop) (S : xS) (s0 : Int32) : Prop :=
  (Q s0 S)
def wp_X7_slot (a0 : Int32) (S : xS) (Q : Int32 → xS → Prop) : Prop :=
  (if 0 ≤ a0 then (wp_X7_slot_10 Q S a0) else (wp_X7_slot_10 Q S (24 : Int32)))
def wp_X7_touches_23 (Q : Int32 → xS → Prop) (S : xS) (s0 : Int32) : Prop :=
  ((s0 = 0 ∨ s0 = 1) ∧ Q s0 S)
def wp_X7_touches (a1 : Int32) (a2 : Int32) (a3 : Int32) (S : xS) (Q : Int32 → xS → Prop) : Prop :=
  (wp_X7_tupleAt a2 S (fun r2 S1 => (wp_X7_of a1 ((r2 + (12 : Int32)) + a3) S1 (fun r4 S3 => (if r4 = (1 : Int32) then (wp_X7_touches_23 Q S3 (1 : Int32)) else (wp_X7_touches_23 Q S3 (0 : Int32)))))))
def wp_X7_given_18 (a3 : Int32) (Q : Int32 → xS → Prop) (S : xS) (s1 : Int32) (s2 : Int32) (s3 : Int32) : Prop :=
  (wp_X7_of s1 ((s2 + s3) + a3) S (fun r2 S1 => (Q r2 S1)))
def wp_X7_given (a1 : Int32) (a2 : Int32) (a3 : Int32) (a4 : Int32) (S : xS) (Q : Int32 → xS → Prop) : Prop :=
  (wp_X7_tupleAt a2 S (fun r2 S1 => (if a4 = 0 then (wp_X7_given_18 a3 Q S1 a1 r2 (37 : Int32)) else (wp_X7_given_18 a3 Q S1 a1 r2 (62 : Int32)))))
def wp_X7_gives (a1 : Int32) (a2 : Int32) (a3 : Int32) (a4 : Int32) (a5 : Int32) (S : xS) (Q : xS → Prop) : Prop :=
  (wp_X7_tupleAt a2 S (fun r2 S1 => (wp_X7_put a1 ((r2 + (12 : Int32)) + a3) (1 : Int32) S1 (fun S3 => (wp_X7_tupleAt a2 S3 (fun r6 S5 => (wp_X7_put a1 ((r6 + (37 : Int32)) + a3) a4 S5 (fun S7 => (wp_X7_tupleAt a2 S7 (fun r10 S9 => (wp_X7_put a1 ((r10 + (62 : Int32)) + a3) a5 S9 (fun S11 => (Q S11)))))))))))))
def wp_X7_addTuple_28_b (a1 : Int32) (K28 : xS → Int32 → Int32 → Prop) (Q : Int32 → xS → Prop) (S : xS) (v2 : Int32) (v3 : Int32) : Prop :=
  (if (87 : Int32) ≤ v3 then (wp_X7_put a1 (3 : Int32) (v2 + (1 : Int32)) S (fun S1 => (Q v2 S1))) else (wp_X7_tupleAt v2 S (fun r4 S3 => (wp_X7_put a1 (r4 + v3) (0 : Int32) S3 (fun S5 => (K28 S5 v2 (v3 + (1 : Int32))))))))
def wp_X7_addTuple_28 (a1 : Int32) (Q : Int32 → xS → Prop) : Nat → xS → Int32 → Int32 → Prop
  | 0 => fun _ _ _ => False
  | n + 1 => fun S v2 v3 => wp_X7_addTuple_28_b a1 (wp_X7_addTuple_28 a1 Q n) Q S v2 v3
def wp_X7_addTuple (a1 : Int32) (S : xS) (Q : Int32 → xS → Prop) : Prop :=
  (wp_X7_noGlyph a1 S (fun r2 S1 => (if r2 = 0 then (wp_X7_of a1 (3 : Int32) S1 (fun r4 S3 => (if r4 = (5 : Int32) then (Q (-1000006 : Int32) S3) else (∃ n5, wp_X7_addTuple_28 a1 Q n5 S3 r4 (0 : Int32))))) else (Q (-1000002 : Int32) S1))))
def wp_X7_noTuple_23 (Q : Int32 → xS → Prop) (S : xS) (s0 : Int32) : Prop :=
  ((s0 = 0 ∨ s0 = 1) ∧ Q s0 S)
def wp_X7_noTuple (a1 : Int32) (a2 : Int32) (S : xS) (Q : Int32 → xS → Prop) : Prop :=
  (wp_X7_of a1 (3 : Int32) S (fun r2 S1 => (wp_X7_in (Int32.toInt64 a2) (0 : Int64) ((Int32.toInt64 r2) - (1 : Int64)) S1 (fun r4 S3 => (if r4 = 0 then (wp_X7_noTuple_23 Q S3 (1 : Int32)) else (wp_X7_noTuple_23 Q S3 (0 : Int32)))))))
def wp_X7_noPoint_25 (Q : Int32 → xS → Prop) (S : xS) (s0 : Int32) : Prop :=
  ((s0 = 0 ∨ s0 = 1) ∧ Q s0 S)
def wp_X7_noPoint (a1 : Int32) (a2 : Int32) (S : xS) (Q : Int32 → xS → Prop) : Prop :=
  (wp_X7_of a1 (2 : Int32) S (fun r2 S1 => (wp_X7_in (Int32.toInt64 a2) (-1 : Int64) ((Int32.toInt64 r2) - (1 : Int64)) S1 (fun r4 S3 => (if r4 = 0 then (wp_X7_noPoint_25 Q S3 (1 : Int32)) else (wp_X7_noPoint_25 Q S3 (0 : Int32)))))))
def wp_X7_tupleBarred_28 (Q : Int32 → xS → Prop) (S : xS) (s0 : Int32) : Prop :=
  (Q s0 S)
def wp_X7_tupleBarred (a1 : Int32) (a2 : Int32) (S : xS) (Q : Int32 → xS → Prop) : Prop :=
  (wp_X7_noGlyph a1 S (fun r2 S1 => (if r2 = 0 then (wp_X7_noTuple a1 a2 S1 (fun r4 S3 => (if r4 = 0 then (wp_X7_tupleBarred_28 Q S3 (0 : Int32)) else (wp_X7_tupleBarred_28 Q S3 (-1000003 : Int32))))) else (wp_X7_tupleBarred_28 Q S1 (-1000002 : Int32)))))
def wp_X7_pointBarred_33 (Q : Int32 → xS → Prop) (S : xS) (s0 : Int32) : Prop :=
  (Q s0 S)
def wp_X7_pointBarred (a1 : Int32) (a2 : Int32) (a3 : Int32) (S : xS) (Q : Int32 → xS → Prop) : Prop :=
  (wp_X7_tupleBarred a1 a2 S (fun r2 S1 => (if 0 ≤ r2 then (wp_X7_noPoint a1 a3 S1 (fun r4 S3 => (if r4 = 0 then (wp_X7_pointBarred_33 Q S3 (0 : Int32)) else (wp_X7_pointBarred_33 Q S3 (-1000004 : Int32))))) else (wp_X7_pointBarred_33 Q S1 r2))))
def wp_X7_setRegion_87 (Q : Int32 → xS → Prop) (S : xS) : Prop :=
  (Q (-1000005 : Int32) S)
def wp_X7_setRegion_145 (a1 : Int32) (a4 : Int32) (a5 : Int32) (a6 : Int32) (Q : Int32 → xS → Prop) (S : xS) (v8 : Int32) (s0 : Int32) : Prop :=
  (wp_X7_put a1 v8 a4 S (fun S1 => (wp_X7_put a1 (v8 + (1 : Int32)) a5 S1 (fun S3 => (wp_X7_put a1 (v8 + (2 : Int32)) a6 S3 (fun S5 => (Q s0 S5)))))))
def wp_X7_setRegion_140 (a1 : Int32) (a4 : Int32) (a5 : Int32) (a6 : Int32) (Q : Int32 → xS → Prop) (S : xS) (v8 : Int32) : Prop :=
  (wp_X7_setRegion_145 a1 a4 a5 a6 Q S v8 (1 : Int32))
def wp_X7_setRegion_90 (a1 : Int32) (a2 : Int32) (a3 : Int32) (a4 : Int32) (a5 : Int32) (a6 : Int32) (Q : Int32 → xS → Prop) (S : xS) : Prop :=
  (wp_X7_tupleAt a2 S (fun r2 S1 => (wp_X7_of a1 (r2 + ((3 : Int32) * a3)) S1 (fun r4 S3 => (if r4 = a4 then (wp_X7_of a1 ((r2 + ((3 : Int32) * a3)) + (1 : Int32)) S3 (fun r6 S5 => (if r6 = a5 then (wp_X7_of a1 ((r2 + ((3 : Int32) * a3)) + (2 : Int32)) S5 (fun r8 S7 => (if r8 = a6 then (wp_X7_setRegion_145 a1 a4 a5 a6 Q S7 (r2 + ((3 : Int32) * a3)) (0 : Int32)) else (wp_X7_setRegion_140 a1 a4 a5 a6 Q S7 (r2 + ((3 : Int32) * a3)))))) else (wp_X7_setRegion_140 a1 a4 a5 a6 Q S5 (r2 + ((3 : Int32) * a3)))))) else (wp_X7_setRegion_140 a1 a4 a5 a6 Q S3 (r2 + ((3 : Int32) * a3))))))))
def wp_X7_setRegion (a1 : Int32) (a2 : Int32) (a3 : Int32) (a4 : Int32) (a5 : Int32) (a6 : Int32) (S : xS) (Q : Int32 → xS → Prop) : Prop :=
  (wp_X7_tupleBarred a1 a2 S (fun r2 S1 => (if 0 ≤ r2 then (wp_X7_noAxis a3 S1 (fun r4 S3 => (if r4 = 0 then (wp_X7_in (Int32.toInt64 a5) (-16384 : Int64) (16384 : Int64) S3 (fun r6 S5 => (if r6 = 0 then (wp_X7_setRegion_87 Q S5) else (wp_X7_in (Int32.toInt64 a4) (-16384 : Int64) (Int32.toInt64 a5) S5 (fun r8 S7 => (if r8 = 0 then (wp_X7_setRegion_87 Q S7) else (wp_X7_in (Int32.toInt64 a6) (Int32.toInt64 a5) (16384 : Int64) S7 (fun r10 S9 => (if r10 = 0 then (wp_X7_setRegion_87 Q S9) else (if a5 = 0 then (wp_X7_setRegion_90 a1 a2 a3 a4 a5 a6 Q S9) else (if 0 ≤ a4 then (wp_X7_setRegion_90 a1 a2 a3 a4 a5 a6 Q S9) else (if a6 ≤ 0 then (wp_X7_setRegion_90 a1 a2 a3 a4 a5 a6 Q S9) else (wp_X7_setRegion_87 Q S9))))))))))))) else (Q (-1000001 : Int32) S3)))) else (Q r2 S1))))
def wp_X7_touch_56 (Q : Int32 → xS → Prop) (S : xS) : Prop :=
  (Q (-1000005 : Int32) S)
def wp_X7_touch_77 (a1 : Int32) (a2 : Int32) (a3 : Int32) (a4 : Int32) (a5 : Int32) (Q : Int32 → xS → Prop) (S : xS) (s0 : Int32) : Prop :=
  (wp_X7_slot a3 S (fun r2 S1 => (wp_X7_gives a1 a2 r2 a4 a5 S1 (fun S3 => (Q s0 S3)))))
def wp_X7_touch_59 (a1 : Int32) (a2 : Int32) (a3 : Int32) (a4 : Int32) (a5 : Int32) (Q : Int32 → xS → Prop) (S : xS) : Prop :=
  (wp_X7_slot a3 S (fun r2 S1 => (wp_X7_touches a1 a2 r2 S1 (fun r4 S3 => (if r4 = 0 then (wp_X7_touch_77 a1 a2 a3 a4 a5 Q S3 (1 : Int32)) else (wp_X7_touch_77 a1 a2 a3 a4 a5 Q S3 (0 : Int32)))))))
def wp_X7_touch (a1 : Int32) (a2 : Int32) (a3 : Int32) (a4 : Int32) (a5 : Int32) (S : xS) (Q : Int32 → xS → Prop) : Prop :=
  (wp_X7_pointBarred a1 a2 a3 S (fun r2 S1 => (if 0 ≤ r2 then (wp_X7_in (Int32.toInt64 a4) (-2000 : Int64) (2000 : Int64) S1 (fun r4 S3 => (if r4 = 0 then (wp_X7_touch_56 Q S3) else (wp_X7_in (Int32.toInt64 a5) (-2000 : Int64) (2000 : Int64) S3 (fun r6 S5 => (if r6 = 0 then (wp_X7_touch_56 Q S5) else (if 0 ≤ a3 then (wp_X7_touch_59 a1 a2 a3 a4 a5 Q S5) else (if a5 = 0 then (wp_X7_touch_59 a1 a2 a3 a4 a5 Q S5) else (wp_X7_touch_56 Q S5))))))))) else (Q r2 S1))))
def wp_X7_release (a1 : Int32) (a2 : Int32) (a3 : Int32) (S : xS) (Q : Int32 → xS → Prop) : Prop :=
  (wp_X7_pointBarred a1 a2 a3 S (fun r2 S1 => (if 0 ≤ r2 then (wp_X7_tupleAt a2 S1 (fun r4 S3 => (wp_X7_slot a3 S3 (fun r6 S5 => (wp_X7_of a1 ((r4 + (12 : Int32)) + r6) S5 (fun r8 S7 => (wp_X7_tupleAt a2 S7 (fun r10 S9 => (wp_X7_slot a3 S9 (fun r12 S11 => (wp_X7_put a1 ((r10 + (12 : Int32)) + r12) (0 : Int32) S11 (fun S13 => (Q r8 S13))))))))))))) else (Q r2 S1))))
def wp_X7_beside_90 (Q : Int32 → xS → Prop) (S : xS) (s0 : Int32) : Prop :=
  (Q s0 S)
def wp_X7_beside_59 (a2 : Int32) (a3 : Int32) (Q : Int32 → xS → Prop) (S : xS) (v4 : Int32) (v5 : Int32) : Prop :=
  (if v4 ≤ (a2 + a3) then (if (a2 + a3) ≤ v5 then (wp_X7_beside_90 Q S (a2 + a3)) else (wp_X7_beside_90 Q S v4)) else (wp_X7_beside_90 Q S v5))
def wp_X7_beside_25_b (a1 : Int32) (a2 : Int32) (a3 : Int32) (K25 : xS → Int32 → Int32 → Prop) (Q : Int32 → xS → Prop) (S : xS) (v4 : Int32) (v5 : Int32) : Prop :=
  (wp_X7_of a1 (2 : Int32) S (fun r2 S1 => (if r2 ≤ (v5 + (1 : Int32)) then (wp_X7_beside_59 a2 a3 Q S1 v4 v5) else (wp_X7_of a1 (((52 : Int32) + v5) + (1 : Int32)) S1 (fun r4 S3 => (if r4 = 0 then (K25 S3 v4 (v5 + (1 : Int32))) else (wp_X7_beside_59 a2 a3 Q S3 v4 v5)))))))
def wp_X7_beside_25 (a1 : Int32) (a2 : Int32) (a3 : Int32) (Q : Int32 → xS → Prop) : Nat → xS → Int32 → Int32 → Prop
  | 0 => fun _ _ _ => False
  | n + 1 => fun S v4 v5 => wp_X7_beside_25_b a1 a2 a3 (wp_X7_beside_25 a1 a2 a3 Q n) Q S v4 v5
def wp_X7_beside_3_b (a1 : Int32) (a2 : Int32) (a3 : Int32) (K3 : xS → Int32 → Prop) (Q : Int32 → xS → Prop) (S : xS) (v4 : Int32) : Prop :=
  (wp_X7_of a1 ((52 : Int32) + v4) S (fun r2 S1 => (if r2 = 0 then (K3 S1 (v4 + (-1 : Int32))) else (∃ n3, wp_X7_beside_25 a1 a2 a3 Q n3 S1 v4 a2))))
def wp_X7_beside_3 (a1 : Int32) (a2 : Int32) (a3 : Int32) (Q : Int32 → xS → Prop) : Nat → xS → Int32 → Prop
  | 0 => fun _ _ => False
  | n + 1 => fun S v4 => wp_X7_beside_3_b a1 a2 a3 (wp_X7_beside_3 a1 a2 a3 Q n) Q S v4
def wp_X7_beside (a1 : Int32) (a2 : Int32) (a3 : Int32) (S : xS) (Q : Int32 → xS → Prop) : Prop :=
  (∃ n1, wp_X7_beside_3 a1 a2 a3 Q n1 S a2)
def wp_X7_touchedFrom_58 (Q : Int32 → xS → Prop) (S : xS) (s0 : Int32) : Prop :=
  (Q s0 S)
def wp_X7_touchedFrom_41 (a1 : Int32) (a2 : Int32) (Q : Int32 → xS → Prop) (S : xS) (v5 : Int32) : Prop :=
  (wp_X7_touches a1 a2 v5 S (fun r2 S1 => (if r2 = 0 then (wp_X7_touchedFrom_58 Q S1 (-1 : Int32)) else (wp_X7_touchedFrom_58 Q S1 v5))))
def wp_X7_touchedFrom_10_b (a1 : Int32) (a2 : Int32) (a3 : Int32) (a4 : Int32) (K10 : xS → Int32 → Prop) (Q : Int32 → xS → Prop) (S : xS) (v5 : Int32) : Prop :=
  (if v5 = a3 then (wp_X7_touchedFrom_41 a1 a2 Q S v5) else (wp_X7_touches a1 a2 v5 S (fun r2 S1 => (if r2 = 0 then (wp_X7_beside a1 v5 a4 S1 (fun r4 S3 => (K10 S3 r4))) else (wp_X7_touchedFrom_41 a1 a2 Q S1 v5)))))
def wp_X7_touchedFrom_10 (a1 : Int32) (a2 : Int32) (a3 : Int32) (a4 : Int32) (Q : Int32 → xS → Prop) : Nat → xS → Int32 → Prop
  | 0 => fun _ _ => False
  | n + 1 => fun S v5 => wp_X7_touchedFrom_10_b a1 a2 a3 a4 (wp_X7_touchedFrom_10 a1 a2 a3 a4 Q n) Q S v5
def wp_X7_touchedFrom (a1 : Int32) (a2 : Int32) (a3 : Int32) (a4 : Int32) (S : xS) (Q : Int32 → xS → Prop) : Prop :=
  (wp_X7_beside a1 a3 a4 S (fun r2 S1 => (∃ n3, wp_X7_touchedFrom_10 a1 a2 a3 a4 Q n3 S1 r2)))
def wp_X7_deltaOf_36 (Q : Int32 → xS → Prop) (S : xS) : Prop :=
  (Q (0 : Int32) S)
def wp_X7_deltaOf_138 (Q : Int32 → xS → Prop) (S : xS) (s0 : Int32) : Prop :=
  (Q s0 S)
def wp_X7_deltaOf_302 (Q : Int32 → xS → Prop) (S : xS) (s0 : Int32) : Prop :=
  (Q s0 S)
def wp_X7_deltaOf_239 (a1 : Int32) (a3 : Int32) (Q : Int32 → xS → Prop) (S : xS) (v7 : Int32) (v11 : Int32) (v12 : Int32) (v13 : Int32) (s0 : Int32) : Prop :=
  (wp_X7_of a1 (v7 + a3) S (fun r2 S1 => (if v11 < r2 then (if r2 < v12 then (wp_X7_near ((Int32.toInt64 (r2 - v11)) * (Int32.toInt64 (s0 - v13))) (Int32.toInt64 (v12 - v11)) S1 (fun r4 S3 => (wp_X7_deltaOf_302 Q S3 (v13 + (Int64.toInt32 r4))))) else (wp_X7_deltaOf_302 Q S1 s0)) else (wp_X7_deltaOf_302 Q S1 v13))))
def wp_X7_deltaOf_225 (a1 : Int32) (a3 : Int32) (Q : Int32 → xS → Prop) (S : xS) (v7 : Int32) (v8 : Int32) (v9 : Int32) (v10 : Int32) (v11 : Int32) (v12 : Int32) (s0 : Int32) : Prop :=
  (if v10 = 0 then (wp_X7_deltaOf_239 a1 a3 Q S v7 v11 v12 s0 v8) else (wp_X7_deltaOf_239 a1 a3 Q S v7 v11 v12 s0 v9))
def wp_X7_deltaOf_207 (a1 : Int32) (a3 : Int32) (Q : Int32 → xS → Prop) (S : xS) (v7 : Int32) (v8 : Int32) (v9 : Int32) (v10 : Int32) (v11 : Int32) (s1 : Int32) (s2 : Int32) (s3 : Int32) : Prop :=
  (wp_X7_of s1 (s2 + s3) S (fun r2 S1 => (if v10 = 0 then (wp_X7_deltaOf_225 a1 a3 Q S1 v7 v8 v9 v10 v11 r2 v9) else (wp_X7_deltaOf_225 a1 a3 Q S1 v7 v8 v9 v10 v11 r2 v8))))
def wp_X7_deltaOf_185 (a1 : Int32) (a3 : Int32) (Q : Int32 → xS → Prop) (S : xS) (v5 : Int32) (v6 : Int32) (v7 : Int32) (v8 : Int32) (v9 : Int32) (v10 : Int32) (s1 : Int32) (s2 : Int32) (s3 : Int32) : Prop :=
  (wp_X7_of s1 (s2 + s3) S (fun r2 S1 => (if v10 = 0 then (wp_X7_deltaOf_207 a1 a3 Q S1 v7 v8 v9 v10 r2 a1 v7 v5) else (wp_X7_deltaOf_207 a1 a3 Q S1 v7 v8 v9 v10 r2 a1 v7 v6))))
def wp_X7_deltaOf_167 (a1 : Int32) (a3 : Int32) (Q : Int32 → xS → Prop) (S : xS) (v5 : Int32) (v6 : Int32) (v7 : Int32) (v8 : Int32) (v9 : Int32) (s0 : Int32) : Prop :=
  (if s0 = 0 then (wp_X7_deltaOf_185 a1 a3 Q S v5 v6 v7 v8 v9 s0 a1 v7 v6) else (wp_X7_deltaOf_185 a1 a3 Q S v5 v6 v7 v8 v9 s0 a1 v7 v5))
def wp_X7_deltaOf_76 (a1 : Int32) (a2 : Int32) (a3 : Int32) (a4 : Int32) (Q : Int32 → xS → Prop) (S : xS) (v5 : Int32) (v6 : Int32) (s0 : Int32) : Prop :=
  (wp_X7_given a1 a2 v5 a4 S (fun r2 S1 => (wp_X7_given a1 a2 v6 a4 S1 (fun r4 S3 => (wp_X7_of a1 (s0 + v5) S3 (fun r6 S5 => (wp_X7_of a1 (s0 + v6) S5 (fun r8 S7 => (if r6 = r8 then (if r2 = r4 then (wp_X7_deltaOf_138 Q S7 r2) else (wp_X7_deltaOf_138 Q S7 (0 : Int32))) else (wp_X7_of a1 (s0 + v5) S7 (fun r10 S9 => (wp_X7_of a1 (s0 + v6) S9 (fun r12 S11 => (if r12 ≤ r10 then (wp_X7_deltaOf_167 a1 a3 Q S11 v5 v6 s0 r2 r4 (0 : Int32)) else (wp_X7_deltaOf_167 a1 a3 Q S11 v5 v6 s0 r2 r4 (1 : Int32))))))))))))))))
def wp_X7_deltaOf (a1 : Int32) (a2 : Int32) (a3 : Int32) (a4 : Int32) (S : xS) (Q : Int32 → xS → Prop) : Prop :=
  (wp_X7_touches a1 a2 a3 S (fun r2 S1 => (if r2 = 0 then (if a3 = (24 : Int32) then (wp_X7_deltaOf_36 Q S1) else (wp_X7_of a1 (0 : Int32) S1 (fun r4 S3 => (if r4 = (1 : Int32) then (wp_X7_deltaOf_36 Q S3) else (wp_X7_touchedFrom a1 a2 a3 (-1 : Int32) S3 (fun r6 S5 => (if 0 ≤ r6 then (wp_X7_touchedFrom a1 a2 a3 (1 : Int32) S5 (fun r8 S7 => (if a4 = 0 then (wp_X7_deltaOf_76 a1 a2 a3 a4 Q S7 r6 r8 (4 : Int32)) else (wp_X7_deltaOf_76 a1 a2 a3 a4 Q S7 r6 r8 (28 : Int32))))) else (Q (0 : Int32) S5)))))))) else (wp_X7_given a1 a2 a3 a4 S1 (fun r10 S9 => (Q r10 S9))))))
def wp_X7_delta_31 (Q : Int32 → xS → Prop) (S : xS) (s0 : Int32) : Prop :=
  (Q s0 S)
def wp_X7_delta (a1 : Int32) (a2 : Int32) (a3 : Int32) (a4 : Int32) (S : xS) (Q : Int32 → xS → Prop) : Prop :=
  (wp_X7_pointBarred a1 a2 a3 S (fun r2 S1 => (if 0 ≤ r2 then (wp_X7_slot a3 S1 (fun r4 S3 => (wp_X7_deltaOf a1 a2 r4 a4 S3 (fun r6 S5 => (wp_X7_delta_31 Q S5 r6))))) else (wp_X7_delta_31 Q S1 r2))))
def wp_X7_touchedCount_44 (a1 : Int32) (a2 : Int32) (K19 : xS → Int32 → Int32 → Prop) (Q : Int32 → xS → Prop) (S : xS) (v5 : Int32) (s0 : Int32) (s1 : Int32) : Prop :=
  (K19 S (s0 + s1) (v5 + (1 : Int32)))
def wp_X7_touchedCount_19_b (a1 : Int32) (a2 : Int32) (K19 : xS → Int32 → Int32 → Prop) (Q : Int32 → xS → Prop) (S : xS) (v4 : Int32) (v5 : Int32) : Prop :=
  (if (24 : Int32) < v5 then (Q v4 S) else (wp_X7_touches a1 a2 v5 S (fun r2 S1 => (if r2 = 0 then (wp_X7_touchedCount_44 a1 a2 K19 Q S1 v5 v4 (0 : Int32)) else (wp_X7_touchedCount_44 a1 a2 K19 Q S1 v5 v4 (1 : Int32))))))
def wp_X7_touchedCount_19 (a1 : Int32) (a2 : Int32) (Q : Int32 → xS → Prop) : Nat → xS → Int32 → Int32 → Prop
  | 0 => fun _ _ _ => False
  | n + 1 => fun S v4 v5 => wp_X7_touchedCount_19_b a1 a2 (wp_X7_touchedCount_19 a1 a2 Q n) Q S v4 v5
def wp_X7_touchedCount (a1 : Int32) (a2 : Int32) (S : xS) (Q : Int32 → xS → Prop) : Prop :=
  (wp_X7_tupleBarred a1 a2 S (fun r2 S1 => (if 0 ≤ r2 then (∃ n3, wp_X7_touchedCount_19 a1 a2 Q n3 S1 (0 : Int32) (0 : Int32)) else (Q r2 S1))))
def wp_X7_scalarOf_156 (a1 : Int32) (a2 : Int32) (K7 : xS → Int64 → Int32 → Prop) (Q : Int64 → xS → Prop) (S : xS) (v3 : Int64) (v5 : Int32) : Prop :=
  (K7 S v3 (v5 + (1 : Int32)))
def wp_X7_scalarOf_155 (a1 : Int32) (a2 : Int32) (K7 : xS → Int64 → Int32 → Prop) (Q : Int64 → xS → Prop) (S : xS) (v5 : Int32) (s0 : Int64) : Prop :=
  (wp_X7_scalarOf_156 a1 a2 K7 Q S s0 v5)
def wp_X7_scalarOf_96 (a1 : Int32) (a2 : Int32) (K7 : xS → Int64 → Int32 → Prop) (Q : Int64 → xS → Prop) (S : xS) (v5 : Int32) : Prop :=
  (wp_X7_scalarOf_155 a1 a2 K7 Q S v5 (0 : Int64))
def wp_X7_scalarOf_7_b (a1 : Int32) (a2 : Int32) (K7 : xS → Int64 → Int32 → Prop) (Q : Int64 → xS → Prop) (S : xS) (v3 : Int64) (v5 : Int32) : Prop :=
  (if (S.1 0 0 0) ≤ v5 then (Q v3 S) else (wp_X7_tupleAt a2 S (fun r2 S1 => (wp_X7_of a1 (r2 + ((3 : Int32) * v5)) S1 (fun r4 S3 => (wp_X7_tupleAt a2 S3 (fun r6 S5 => (wp_X7_of a1 ((r6 + ((3 : Int32) * v5)) + (1 : Int32)) S5 (fun r8 S7 => (wp_X7_tupleAt a2 S7 (fun r10 S9 => (wp_X7_of a1 ((r10 + ((3 : Int32) * v5)) + (2 : Int32)) S9 (fun r12 S11 => (vp_in v5 4 ∧ (if r8 = 0 then (wp_X7_scalarOf_156 a1 a2 K7 Q S11 v3 v5) else (if (S11.1 5 0 v5.toNatClampNeg) < r4 then (wp_X7_scalarOf_96 a1 a2 K7 Q S11 v5) else (if (S11.1 5 0 v5.toNatClampNeg) ≤ r12 then (if (S11.1 5 0 v5.toNatClampNeg) = r8 then (wp_X7_scalarOf_155 a1 a2 K7 Q S11 v5 v3) else (if r8 ≤ (S11.1 5 0 v5.toNatClampNeg) then (wp_X7_near (v3 * (Int32.toInt64 (r12 - (S11.1 5 0 v5.toNatClampNeg)))) (Int32.toInt64 (r12 - r8)) S11 (fun r15 S14 => (wp_X7_scalarOf_155 a1 a2 K7 Q S14 v5 r15))) else (wp_X7_near (v3 * (Int32.toInt64 ((S11.1 5 0 v5.toNatClampNeg) - r4))) (Int32.toInt64 (r8 - r4)) S11 (fun r17 S16 => (wp_X7_scalarOf_155 a1 a2 K7 Q S16 v5 r17))))) else (wp_X7_scalarOf_96 a1 a2 K7 Q S11 v5))))))))))))))))))
def wp_X7_scalarOf_7 (a1 : Int32) (a2 : Int32) (Q : Int64 → xS → Prop) : Nat → xS → Int64 → Int32 → Prop
  | 0 => fun _ _ _ => False
  | n + 1 => fun S v3 v5 => wp_X7_scalarOf_7_b a1 a2 (wp_X7_scalarOf_7 a1 a2 Q n) Q S v3 v5
def wp_X7_scalarOf (a1 : Int32) (a2 : Int32) (S : xS) (Q : Int64 → xS → Prop) : Prop :=
  (∃ n1, wp_X7_scalarOf_7 a1 a2 Q n1 S (268435456 : Int64) (0 : Int32))
def wp_X7_scalar_22 (Q : Int32 → xS → Prop) (S : xS) (s0 : Int32) : Prop :=
  (Q s0 S)
def wp_X7_scalar (a1 : Int32) (a2 : Int32) (S : xS) (Q : Int32 → xS → Prop) : Prop :=
  (wp_X7_tupleBarred a1 a2 S (fun r2 S1 => (if 0 ≤ r2 then (wp_X7_scalarOf a1 a2 S1 (fun r4 S3 => (wp_X7_scalar_22 Q S3 (Int64.toInt32 r4)))) else (wp_X7_scalar_22 Q S1 r2))))
def wp_X7_share_26 (Q : UInt64 → xS → Prop) (S : xS) (s0 : UInt64) : Prop :=
  (Q s0 S)
def wp_X7_share (a1 : Int32) (a2 : Int32) (S : xS) (Q : UInt64 → xS → Prop) : Prop :=
  (wp_X7_tupleBarred a1 a2 S (fun r2 S1 => (if 0 ≤ r2 then (wp_X7_scalarOf a1 a2 S1 (fun r4 S3 => (∀ r5 : UInt64, alike64 r5 (FP.ddiv (FP.l2d r4) (4733283208366391296 : UInt64)) = true → (wp_X7_share_26 Q S3 r5)))) else (wp_X7_share_26 Q S1 (13830554455654793216 : UInt64)))))
def wp_X7_base_40 (Q : Int32 → xS → Prop) (S : xS) (s0 : Int32) : Prop :=
  (Q s0 S)
def wp_X7_base_35 (a2 : Int32) (Q : Int32 → xS → Prop) (S : xS) (s1 : Int32) (s2 : Int32) : Prop :=
  (wp_X7_of s1 (s2 + a2) S (fun r2 S1 => (wp_X7_base_40 Q S1 r2)))
def wp_X7_base (a1 : Int32) (a2 : Int32) (a3 : Int32) (S : xS) (Q : Int32 → xS → Prop) : Prop :=
  (if a2 = (24 : Int32) then (if a3 = 0 then (wp_X7_of a1 (1 : Int32) S (fun r2 S1 => (wp_X7_base_40 Q S1 r2))) else (wp_X7_base_40 Q S (0 : Int32))) else (if a3 = 0 then (wp_X7_base_35 a2 Q S a1 (4 : Int32)) else (wp_X7_base_35 a2 Q S a1 (28 : Int32))))
def wp_X7_placeNow_6_b (a1 : Int32) (a2 : Int32) (a3 : Int32) (K6 : xS → Int64 → Int32 → Prop) (Q : Int64 → xS → Prop) (S : xS) (v4 : Int64) (v6 : Int32) : Prop :=
  (wp_X7_of a1 (3 : Int32) S (fun r2 S1 => (if r2 ≤ v6 then (wp_X7_base a1 a2 a3 S1 (fun r4 S3 => (wp_X7_near v4 (268435456 : Int64) S3 (fun r6 S5 => (Q ((Int32.toInt64 r4) + r6) S5))))) else (wp_X7_scalarOf a1 v6 S1 (fun r8 S7 => (wp_X7_deltaOf a1 v6 a2 a3 S7 (fun r10 S9 => (K6 S9 (v4 + (r8 * (Int32.toInt64 r10))) (v6 + (1 : Int32))))))))))
def wp_X7_placeNow_6 (a1 : Int32) (a2 : Int32) (a3 : Int32) (Q : Int64 → xS → Prop) : Nat → xS → Int64 → Int32 → Prop
  | 0 => fun _ _ _ => False
  | n + 1 => fun S v4 v6 => wp_X7_placeNow_6_b a1 a2 a3 (wp_X7_placeNow_6 a1 a2 a3 Q n) Q S v4 v6
def wp_X7_placeNow (a1 : Int32) (a2 : Int32) (a3 : Int32) (S : xS) (Q : Int64 → xS → Prop) : Prop :=
  (∃ n1, wp_X7_placeNow_6 a1 a2 a3 Q n1 S (0 : Int64) (0 : Int32))
def wp_X7_position_29 (Q : Int64 → xS → Prop) (S : xS) : Prop :=
  (wp_X7_lost S (fun r2 S1 => (Q r2 S1)))
def wp_X7_position_80 (Q : Int64 → xS → Prop) (S : xS) (s0 : Int64) : Prop :=
  (Q s0 S)
def wp_X7_position_77 (Q : Int64 → xS → Prop) (S : xS) (s1 : Int32) (s2 : Int32) (s3 : Int32) : Prop :=
  (wp_X7_placeNow s1 s2 s3 S (fun r2 S1 => (wp_X7_position_80 Q S1 r2)))
def wp_X7_position_54 (Q : Int64 → xS → Prop) (S : xS) (s1 : Int32) (s2 : Int32) (s3 : Int32) : Prop :=
  (wp_X7_base s1 s2 s3 S (fun r2 S1 => (wp_X7_position_80 Q S1 (Int32.toInt64 r2))))
def wp_X7_position (a1 : Int32) (a2 : Int32) (a3 : Int32) (S : xS) (Q : Int64 → xS → Prop) : Prop :=
  (wp_X7_noGlyph a1 S (fun r2 S1 => (if r2 = 0 then (wp_X7_noPoint a1 a2 S1 (fun r4 S3 => (if r4 = 0 then (wp_X7_in (Int32.toInt64 a3) (0 : Int64) (3 : Int64) S3 (fun r6 S5 => (if r6 = 0 then (wp_X7_position_29 Q S5) else (if (2 : Int32) ≤ a3 then (wp_X7_slot a2 S5 (fun r8 S7 => (if a3 = (3 : Int32) then (wp_X7_position_77 Q S7 a1 r8 (1 : Int32)) else (wp_X7_position_77 Q S7 a1 r8 (0 : Int32))))) else (wp_X7_slot a2 S5 (fun r10 S9 => (if a3 = (1 : Int32) then (wp_X7_position_54 Q S9 a1 r10 (1 : Int32)) else (wp_X7_position_54 Q S9 a1 r10 (0 : Int32))))))))) else (wp_X7_position_29 Q S3)))) else (wp_X7_position_29 Q S1))))
def wp_X7_layOutline_267 (K33 : xS → Int32 → Prop) (Q : xS → Prop) (S : xS) (v2 : Int32) : Prop :=
  (K33 S v2)
def wp_X7_layOutline_198_b (K33 : xS → Int32 → Prop) (K198 : xS → Int32 → Int32 → Int64 → Int64 → Int32 → Int32 → Prop) (Q : xS → Prop) (S : xS) (v2 : Int32) (v3 : Int32) (v4 : Int64) (v6 : Int64) (v8 : Int32) (v9 : Int32) : Prop :=
  (if v9 < 0 then (wp_X7_layOutline_267 K33 Q S v2) else (if v8 = 0 then (wp_X7_of v3 ((52 : Int32) + v9) S (fun r2 S1 => (vp_in v2 64 ∧ (wp_X7_placeNow v3 v9 (0 : Int32) (xI S1 19 0 v2.toNatClampNeg r2) (fun r5 S4 => (vp_in v2 64 ∧ (wp_X7_placeNow v3 v9 (1 : Int32) (xJ S4 20 0 v2.toNatClampNeg (v4 + r5)) (fun r8 S7 => (vp_in v2 64 ∧ (K198 (xJ S7 21 0 v2.toNatClampNeg (v6 + r8)) (v2 + (1 : Int32)) v3 v4 v6 v8 (v9 + (-1 : Int32)))))))))))) else (wp_X7_layOutline_267 K33 Q S v2)))
def wp_X7_layOutline_198 (K33 : xS → Int32 → Prop) (Q : xS → Prop) : Nat → xS → Int32 → Int32 → Int64 → Int64 → Int32 → Int32 → Prop
  | 0 => fun _ _ _ _ _ _ _ => False
  | n + 1 => fun S v2 v3 v4 v6 v8 v9 => wp_X7_layOutline_198_b K33 (wp_X7_layOutline_198 K33 Q n) Q S v2 v3 v4 v6 v8 v9
def wp_X7_layOutline_188 (K33 : xS → Int32 → Prop) (Q : xS → Prop) (S : xS) (v2 : Int32) (v3 : Int32) (v4 : Int64) (v6 : Int64) (v8 : Int32) : Prop :=
  (wp_X7_of v3 (2 : Int32) S (fun r2 S1 => (∃ n3, wp_X7_layOutline_198 K33 Q n3 S1 v2 v3 v4 v6 v8 (r2 - (1 : Int32)))))
def wp_X7_layOutline_82_b (K33 : xS → Int32 → Prop) (K82 : xS → Int32 → Int32 → Int64 → Int64 → Int32 → Int32 → Prop) (Q : xS → Prop) (S : xS) (v2 : Int32) (v3 : Int32) (v4 : Int64) (v6 : Int64) (v8 : Int32) (v9 : Int32) : Prop :=
  (wp_X7_of v3 (2 : Int32) S (fun r2 S1 => (if r2 ≤ v9 then (wp_X7_layOutline_188 K33 Q S1 v2 v3 v4 v6 v8) else (if v8 = 0 then (wp_X7_layOutline_188 K33 Q S1 v2 v3 v4 v6 v8) else (wp_X7_of v3 ((52 : Int32) + v9) S1 (fun r4 S3 => (wp_X7_placeNow v3 v9 (0 : Int32) (xI S3 0 0 14 ((S1.1 0 0 14) + r4)) (fun r6 S5 => (vp_in ((xI S3 0 0 14 ((S1.1 0 0 14) + r4)).1 0 0 13) 96 ∧ (wp_X7_placeNow v3 v9 (1 : Int32) (xJ S5 16 0 ((xI S3 0 0 14 ((S1.1 0 0 14) + r4)).1 0 0 13).toNatClampNeg (v4 + r6)) (fun r9 S8 => (vp_in ((xJ S5 16 0 ((xI S3 0 0 14 ((S1.1 0 0 14) + r4)).1 0 0 13).toNatClampNeg (v4 + r6)).1 0 0 13) 96 ∧ (vp_in ((xJ S8 17 0 ((xJ S5 16 0 ((xI S3 0 0 14 ((S1.1 0 0 14) + r4)).1 0 0 13).toNatClampNeg (v4 + r6)).1 0 0 13).toNatClampNeg (v6 + r9)).1 0 0 13) 96 ∧ (K82 (xI (xI (xJ S8 17 0 ((xJ S5 16 0 ((xI S3 0 0 14 ((S1.1 0 0 14) + r4)).1 0 0 13).toNatClampNeg (v4 + r6)).1 0 0 13).toNatClampNeg (v6 + r9)) 18 0 ((xJ S8 17 0 ((xJ S5 16 0 ((xI S3 0 0 14 ((S1.1 0 0 14) + r4)).1 0 0 13).toNatClampNeg (v4 + r6)).1 0 0 13).toNatClampNeg (v6 + r9)).1 0 0 13).toNatClampNeg (((xJ S8 17 0 ((xJ S5 16 0 ((xI S3 0 0 14 ((S1.1 0 0 14) + r4)).1 0 0 13).toNatClampNeg (v4 + r6)).1 0 0 13).toNatClampNeg (v6 + r9)).1 0 0 14) - (1 : Int32))) 0 0 13 (((xI (xJ S8 17 0 ((xJ S5 16 0 ((xI S3 0 0 14 ((S1.1 0 0 14) + r4)).1 0 0 13).toNatClampNeg (v4 + r6)).1 0 0 13).toNatClampNeg (v6 + r9)) 18 0 ((xJ S8 17 0 ((xJ S5 16 0 ((xI S3 0 0 14 ((S1.1 0 0 14) + r4)).1 0 0 13).toNatClampNeg (v4 + r6)).1 0 0 13).toNatClampNeg (v6 + r9)).1 0 0 13).toNatClampNeg (((xJ S8 17 0 ((xJ S5 16 0 ((xI S3 0 0 14 ((S1.1 0 0 14) + r4)).1 0 0 13).toNatClampNeg (v4 + r6)).1 0 0 13).toNatClampNeg (v6 + r9)).1 0 0 14) - (1 : Int32))).1 0 0 13) + (1 : Int32))) v2 v3 v4 v6 v8 (v9 + (1 : Int32))))))))))))))))
def wp_X7_layOutline_82 (K33 : xS → Int32 → Prop) (Q : xS → Prop) : Nat → xS → Int32 → Int32 → Int64 → Int64 → Int32 → Int32 → Prop
  | 0 => fun _ _ _ _ _ _ _ => False
  | n + 1 => fun S v2 v3 v4 v6 v8 v9 => wp_X7_layOutline_82_b K33 (wp_X7_layOutline_82 K33 Q n) Q S v2 v3 v4 v6 v8 v9
def wp_X7_layOutline_77 (K33 : xS → Int32 → Prop) (Q : xS → Prop) (S : xS) (v2 : Int32) (v3 : Int32) (v4 : Int64) (v6 : Int64) (s0 : Int32) : Prop :=
  (∃ n1, wp_X7_layOutline_82 K33 Q n1 S v2 v3 v4 v6 s0 (0 : Int32))
def wp_X7_layOutline_33_b (K33 : xS → Int32 → Prop) (Q : xS → Prop) (S : xS) (v2 : Int32) : Prop :=
  (if v2 ≤ 0 then (Q S) else (vp_in (v2 + (-1 : Int32)) 64 ∧ (vp_in (v2 + (-1 : Int32)) 64 ∧ (vp_in (v2 + (-1 : Int32)) 64 ∧ (wp_X7_of (S.1 19 0 (v2 + (-1 : Int32)).toNatClampNeg) (0 : Int32) S (fun r5 S4 => (if r5 = 0 then (wp_X7_layOutline_77 K33 Q S4 (v2 + (-1 : Int32)) (S.1 19 0 (v2 + (-1 : Int32)).toNatClampNeg) (S.2.1 20 0 (v2 + (-1 : Int32)).toNatClampNeg) (S.2.1 21 0 (v2 + (-1 : Int32)).toNatClampNeg) (1 : Int32)) else (wp_X7_layOutline_77 K33 Q S4 (v2 + (-1 : Int32)) (S.1 19 0 (v2 + (-1 : Int32)).toNatClampNeg) (S.2.1 20 0 (v2 + (-1 : Int32)).toNatClampNeg) (S.2.1 21 0 (v2 + (-1 : Int32)).toNatClampNeg) (0 : Int32)))))))))
def wp_X7_layOutline_33 (Q : xS → Prop) : Nat → xS → Int32 → Prop
  | 0 => fun _ _ => False
  | n + 1 => fun S v2 => wp_X7_layOutline_33_b (wp_X7_layOutline_33 Q n) Q S v2
def wp_X7_layOutline (a1 : Int32) (S : xS) (Q : xS → Prop) : Prop :=
  (vp_in (0 : Int32) 64 ∧ (vp_in (0 : Int32) 64 ∧ (vp_in (0 : Int32) 64 ∧ (∃ n4, wp_X7_layOutline_33 Q n4 (xJ (xJ (xI (xI (xI S 0 0 13 (0 : Int32)) 0 0 14 (0 : Int32)) 19 0 (0 : Int32).toNatClampNeg a1) 20 0 (0 : Int32).toNatClampNeg (0 : Int64)) 21 0 (0 : Int32).toNatClampNeg (0 : Int64)) (1 : Int32)))))
def wp_X7_outline_20 (Q : Int64 → xS → Prop) (S : xS) : Prop :=
  (wp_X7_lost S (fun r2 S1 => (Q r2 S1)))
def wp_X7_outline_83 (Q : Int64 → xS → Prop) (S : xS) (s0 : Int64) : Prop :=
  (Q s0 S)
def wp_X7_outline (a1 : Int32) (a2 : Int32) (a3 : Int32) (S : xS) (Q : Int64 → xS → Prop) : Prop :=
  (wp_X7_noGlyph a1 S (fun r2 S1 => (if r2 = 0 then (wp_X7_in (Int32.toInt64 a3) (0 : Int64) (2 : Int64) S1 (fun r4 S3 => (if r4 = 0 then (wp_X7_outline_20 Q S3) else (wp_X7_layOutline a1 S3 (fun S5 => (wp_X7_in (Int32.toInt64 a2) (0 : Int64) ((Int32.toInt64 (S5.1 0 0 13)) - (1 : Int64)) S5 (fun r8 S7 => (if r8 = 0 then (wp_X7_lost S7 (fun r10 S9 => (Q r10 S9))) else (if a3 = 0 then (vp_in a2 96 ∧ (wp_X7_outline_83 Q S7 (S7.2.1 16 0 a2.toNatClampNeg))) else (if a3 = (1 : Int32) then (vp_in a2 96 ∧ (wp_X7_outline_83 Q S7 (S7.2.1 17 0 a2.toNatClampNeg))) else (vp_in a2 96 ∧ (wp_X7_outline_83 Q S7 (Int32.toInt64 (S7.1 18 0 a2.toNatClampNeg)))))))))))))) else (wp_X7_outline_20 Q S1))))
def wp_X7_endOf_88 (a1 : Int32) (a2 : Int32) (K23 : xS → Int64 → Int32 → Prop) (Q : Int64 → xS → Prop) (S : xS) (v5 : Int32) (s0 : Int64) : Prop :=
  (K23 S s0 (v5 + (1 : Int32)))
def wp_X7_endOf_53 (a1 : Int32) (a2 : Int32) (K23 : xS → Int64 → Int32 → Prop) (Q : Int64 → xS → Prop) (S : xS) (v3 : Int64) (v5 : Int32) (s0 : Int64) : Prop :=
  (if a2 = 0 then (if 0 ≤ (lg_cmp s0 v3) then (wp_X7_endOf_88 a1 a2 K23 Q S v5 v3) else (wp_X7_endOf_88 a1 a2 K23 Q S v5 s0)) else (if (lg_cmp s0 v3) ≤ 0 then (wp_X7_endOf_88 a1 a2 K23 Q S v5 v3) else (wp_X7_endOf_88 a1 a2 K23 Q S v5 s0)))
def wp_X7_endOf_23_b (a1 : Int32) (a2 : Int32) (K23 : xS → Int64 → Int32 → Prop) (Q : Int64 → xS → Prop) (S : xS) (v3 : Int64) (v5 : Int32) : Prop :=
  (if (S.1 0 0 13) ≤ v5 then (Q v3 S) else (if a1 = 0 then (vp_in v5 96 ∧ (wp_X7_endOf_53 a1 a2 K23 Q S v3 v5 (S.2.1 16 0 v5.toNatClampNeg))) else (vp_in v5 96 ∧ (wp_X7_endOf_53 a1 a2 K23 Q S v3 v5 (S.2.1 17 0 v5.toNatClampNeg)))))
def wp_X7_endOf_23 (a1 : Int32) (a2 : Int32) (Q : Int64 → xS → Prop) : Nat → xS → Int64 → Int32 → Prop
  | 0 => fun _ _ _ => False
  | n + 1 => fun S v3 v5 => wp_X7_endOf_23_b a1 a2 (wp_X7_endOf_23 a1 a2 Q n) Q S v3 v5
def wp_X7_endOf_19 (a1 : Int32) (a2 : Int32) (Q : Int64 → xS → Prop) (S : xS) (s0 : Int64) : Prop :=
  (∃ n1, wp_X7_endOf_23 a1 a2 Q n1 S s0 (1 : Int32))
def wp_X7_endOf (a1 : Int32) (a2 : Int32) (S : xS) (Q : Int64 → xS → Prop) : Prop :=
  (if a1 = 0 then (vp_in (0 : Int32) 96 ∧ (wp_X7_endOf_19 a1 a2 Q S (S.2.1 16 0 (0 : Int32).toNatClampNeg))) else (vp_in (0 : Int32) 96 ∧ (wp_X7_endOf_19 a1 a2 Q S (S.2.1 17 0 (0 : Int32).toNatClampNeg))))
def wp_X7_box_20 (Q : Int64 → xS → Prop) (S : xS) : Prop :=
  (wp_X7_lost S (fun r2 S1 => (Q r2 S1)))
def wp_X7_box_68 (Q : Int64 → xS → Prop) (S : xS) (s0 : Int64) : Prop :=
  (Q s0 S)
def wp_X7_box_65 (Q : Int64 → xS → Prop) (S : xS) (s1 : Int32) (s2 : Int32) : Prop :=
  (wp_X7_endOf s1 s2 S (fun r2 S1 => (wp_X7_box_68 Q S1 r2)))
def wp_X7_box_53 (a2 : Int32) (Q : Int64 → xS → Prop) (S : xS) (s1 : Int32) : Prop :=
  (¬ (2 : Int32) = 0 ∧ (if (a2 - a2 / (2 : Int32) * (2 : Int32)) = (1 : Int32) then (wp_X7_box_65 Q S s1 (1 : Int32)) else (wp_X7_box_65 Q S s1 (0 : Int32))))
def wp_X7_box (a1 : Int32) (a2 : Int32) (S : xS) (Q : Int64 → xS → Prop) : Prop :=
  (wp_X7_noGlyph a1 S (fun r2 S1 => (if r2 = 0 then (wp_X7_in (Int32.toInt64 a2) (0 : Int64) (3 : Int64) S1 (fun r4 S3 => (if r4 = 0 then (wp_X7_box_20 Q S3) else (wp_X7_layOutline a1 S3 (fun S5 => (if (S5.1 0 0 13) = 0 then (wp_X7_lost S5 (fun r8 S7 => (wp_X7_box_68 Q S7 r8))) else (if a2 ≤ (1 : Int32) then (wp_X7_box_53 a2 Q S5 (0 : Int32)) else (wp_X7_box_53 a2 Q S5 (1 : Int32))))))))) else (wp_X7_box_20 Q S1))))
def wp_X7_middle_45 (Q : UInt32 → xS → Prop) (S : xS) (s0 : UInt32) : Prop :=
  (Q s0 S)
def wp_X7_middle (a1 : Int32) (a2 : Int32) (S : xS) (Q : UInt32 → xS → Prop) : Prop :=
  (wp_X7_noGlyph a1 S (fun r2 S1 => (if r2 = 0 then (wp_X7_layOutline a1 S1 (fun S3 => (if (S3.1 0 0 13) = 0 then (wp_X7_middle_45 Q S3 FP.fconst0) else (wp_X7_endOf a2 (0 : Int32) S3 (fun r6 S5 => (wp_X7_endOf a2 (1 : Int32) S5 (fun r8 S7 => (∀ r9 : UInt64, alike64 r9 (FP.ddiv (FP.l2d (r6 + r8)) (4611686018427387904 : UInt64)) = true → (∀ r10 : UInt32, alike32 r10 (FP.d2f r9) = true → (wp_X7_middle_45 Q S7 r10)))))))))) else (Q FP.fconst0 S1))))
def wp_X7_areaOf_135 (a1 : Int32) (K8 : xS → Int64 → Int32 → Int32 → Prop) (Q : Int64 → xS → Prop) (S : xS) (v4 : Int32) (v5 : Int32) (s0 : Int64) (s1 : Int64) : Prop :=
  (K8 S (s0 + s1) v4 (v5 + (1 : Int32)))
def wp_X7_areaOf_100 (a1 : Int32) (K8 : xS → Int64 → Int32 → Int32 → Prop) (Q : Int64 → xS → Prop) (S : xS) (v4 : Int32) (v5 : Int32) (v6 : Int32) (s0 : Int64) : Prop :=
  (vp_in v5 96 ∧ (vp_in v6 96 ∧ (vp_in v6 96 ∧ (vp_in v5 96 ∧ (wp_X7_areaOf_135 a1 K8 Q S v4 v5 s0 (((S.2.1 16 0 v5.toNatClampNeg) * (S.2.1 17 0 v6.toNatClampNeg)) - ((S.2.1 16 0 v6.toNatClampNeg) * (S.2.1 17 0 v5.toNatClampNeg))))))))
def wp_X7_areaOf_82 (a1 : Int32) (K8 : xS → Int64 → Int32 → Int32 → Prop) (Q : Int64 → xS → Prop) (S : xS) (v2 : Int64) (v4 : Int32) (v5 : Int32) (s0 : Int32) : Prop :=
  (if a1 < 0 then (wp_X7_areaOf_100 a1 K8 Q S v4 v5 s0 v2) else (vp_in v5 96 ∧ (if (S.1 18 0 v5.toNatClampNeg) = a1 then (wp_X7_areaOf_100 a1 K8 Q S v4 v5 s0 v2) else (wp_X7_areaOf_135 a1 K8 Q S v4 v5 v2 (0 : Int64)))))
def wp_X7_areaOf_80 (a1 : Int32) (K8 : xS → Int64 → Int32 → Int32 → Prop) (Q : Int64 → xS → Prop) (S : xS) (v2 : Int64) (v4 : Int32) (v5 : Int32) : Prop :=
  (wp_X7_areaOf_82 a1 K8 Q S v2 v4 v5 v4)
def wp_X7_areaOf_41 (a1 : Int32) (K8 : xS → Int64 → Int32 → Int32 → Prop) (Q : Int64 → xS → Prop) (S : xS) (v2 : Int64) (v5 : Int32) (s0 : Int32) : Prop :=
  (if (S.1 0 0 13) ≤ (v5 + (1 : Int32)) then (wp_X7_areaOf_80 a1 K8 Q S v2 s0 v5) else (vp_in (v5 + (1 : Int32)) 96 ∧ (vp_in v5 96 ∧ (if (S.1 18 0 (v5 + (1 : Int32)).toNatClampNeg) = (S.1 18 0 v5.toNatClampNeg) then (wp_X7_areaOf_82 a1 K8 Q S v2 s0 v5 (v5 + (1 : Int32))) else (wp_X7_areaOf_80 a1 K8 Q S v2 s0 v5)))))
def wp_X7_areaOf_8_b (a1 : Int32) (K8 : xS → Int64 → Int32 → Int32 → Prop) (Q : Int64 → xS → Prop) (S : xS) (v2 : Int64) (v4 : Int32) (v5 : Int32) : Prop :=
  (if (S.1 0 0 13) ≤ v5 then (Q v2 S) else (vp_in v5 96 ∧ (vp_in v4 96 ∧ (if (S.1 18 0 v5.toNatClampNeg) = (S.1 18 0 v4.toNatClampNeg) then (wp_X7_areaOf_41 a1 K8 Q S v2 v5 v4) else (wp_X7_areaOf_41 a1 K8 Q S v2 v5 v5)))))
def wp_X7_areaOf_8 (a1 : Int32) (Q : Int64 → xS → Prop) : Nat → xS → Int64 → Int32 → Int32 → Prop
  | 0 => fun _ _ _ _ => False
  | n + 1 => fun S v2 v4 v5 => wp_X7_areaOf_8_b a1 (wp_X7_areaOf_8 a1 Q n) Q S v2 v4 v5
def wp_X7_areaOf (a1 : Int32) (S : xS) (Q : Int64 → xS → Prop) : Prop :=
  (∃ n1, wp_X7_areaOf_8 a1 Q n1 S (0 : Int64) (0 : Int32) (0 : Int32))
def wp_X7_area_46 (Q : Int64 → xS → Prop) (S : xS) (s0 : Int64) : Prop :=
  (Q s0 S)
def wp_X7_area (a1 : Int32) (a2 : Int32) (S : xS) (Q : Int64 → xS → Prop) : Prop :=
  (wp_X7_noGlyph a1 S (fun r2 S1 => (if r2 = 0 then (wp_X7_layOutline a1 S1 (fun S3 => (wp_X7_in (Int32.toInt64 a2) (-1 : Int64) ((Int32.toInt64 (S3.1 0 0 14)) - (1 : Int64)) S3 (fun r6 S5 => (if r6 = 0 then (wp_X7_lost S5 (fun r8 S7 => (wp_X7_area_46 Q S7 r8))) else (wp_X7_areaOf a2 S5 (fun r10 S9 => (wp_X7_area_46 Q S9 r10)))))))) else (wp_X7_lost S1 (fun r12 S11 => (Q r12 S11))))))
def wp_X7_sign_21 (Q : Int32 → xS → Prop) (S : xS) (s0 : Int32) : Prop :=
  (Q s0 S)
def wp_X7_sign (a0 : Int64) (S : xS) (Q : Int32 → xS → Prop) : Prop :=
  (if (lg_cmp a0 (0 : Int64)) ≤ 0 then (if 0 ≤ (lg_cmp a0 (0 : Int64)) then (wp_X7_sign_21 Q S (0 : Int32)) else (wp_X7_sign_21 Q S (-1 : Int32))) else (wp_X7_sign_21 Q S (1 : Int32)))
def wp_X7_keepCoordinates_2_b (K2 : xS → Int32 → Prop) (Q : xS → Prop) (S : xS) (v1 : Int32) : Prop :=
  (if (4 : Int32) ≤ v1 then (Q S) else (vp_in v1 4 ∧ (vp_in v1 4 ∧ (K2 (xI S 23 0 v1.toNatClampNeg (S.1 5 0 v1.toNatClampNeg)) (v1 + (1 : Int32))))))
def wp_X7_keepCoordinates_2 (Q : xS → Prop) : Nat → xS → Int32 → Prop
  | 0 => fun _ _ => False
  | n + 1 => fun S v1 => wp_X7_keepCoordinates_2_b (wp_X7_keepCoordinates_2 Q n) Q S v1
def wp_X7_keepCoordinates (S : xS) (Q : xS → Prop) : Prop :=
  (∃ n1, wp_X7_keepCoordinates_2 Q n1 S (0 : Int32))
def wp_X7_takeCoordinates_2_b (K2 : xS → Int32 → Prop) (Q : xS → Prop) (S : xS) (v1 : Int32) : Prop :=
  (if (4 : Int32) ≤ v1 then (Q S) else (vp_in v1 4 ∧ (vp_in v1 4 ∧ (K2 (xI S 5 0 v1.toNatClampNeg (S.1 23 0 v1.toNatClampNeg)) (v1 + (1 : Int32))))))
def wp_X7_takeCoordinates_2 (Q : xS → Prop) : Nat → xS → Int32 → Prop
  | 0 => fun _ _ => False
  | n + 1 => fun S v1 => wp_X7_takeCoordinates_2_b (wp_X7_takeCoordinates_2 Q n) Q S v1
def wp_X7_takeCoordinates (S : xS) (Q : xS → Prop) : Prop :=
  (∃ n1, wp_X7_takeCoordinates_2 Q n1 S (0 : Int32))
def wp_X7_flips_113 (K82 : xS → Int32 → Int32 → Prop) (Q : Int32 → xS → Prop) (S : xS) (v3 : Int32) (s0 : Int32) (s1 : Int32) : Prop :=
  (K82 S (s0 + s1) (v3 + (1 : Int32)))
def wp_X7_flips_82_b (K82 : xS → Int32 → Int32 → Prop) (Q : Int32 → xS → Prop) (S : xS) (v2 : Int32) (v3 : Int32) : Prop :=
  (if (S.1 0 0 14) ≤ v3 then (wp_X7_takeCoordinates S (fun S1 => (Q v2 S1))) else (vp_in v3 96 ∧ (wp_X7_areaOf v3 S (fun r5 S4 => (wp_X7_sign r5 S4 (fun r7 S6 => (if (S.1 22 0 v3.toNatClampNeg) = r7 then (wp_X7_flips_113 K82 Q S6 v3 v2 (0 : Int32)) else (wp_X7_flips_113 K82 Q S6 v3 v2 (1 : Int32)))))))))
def wp_X7_flips_82 (Q : Int32 → xS → Prop) : Nat → xS → Int32 → Int32 → Prop
  | 0 => fun _ _ _ => False
  | n + 1 => fun S v2 v3 => wp_X7_flips_82_b (wp_X7_flips_82 Q n) Q S v2 v3
def wp_X7_flips_52_b (a1 : Int32) (K52 : xS → Int32 → Prop) (Q : Int32 → xS → Prop) (S : xS) (v2 : Int32) : Prop :=
  (if (S.1 0 0 0) ≤ v2 then (wp_X7_layOutline a1 S (fun S1 => (∃ n3, wp_X7_flips_82 Q n3 S1 (0 : Int32) (0 : Int32)))) else (vp_in v2 4 ∧ (K52 (xI S 5 0 v2.toNatClampNeg (0 : Int32)) (v2 + (1 : Int32)))))
def wp_X7_flips_52 (a1 : Int32) (Q : Int32 → xS → Prop) : Nat → xS → Int32 → Prop
  | 0 => fun _ _ => False
  | n + 1 => fun S v2 => wp_X7_flips_52_b a1 (wp_X7_flips_52 a1 Q n) Q S v2
def wp_X7_flips_18_b (a1 : Int32) (K18 : xS → Int32 → Prop) (Q : Int32 → xS → Prop) (S : xS) (v2 : Int32) : Prop :=
  (if (S.1 0 0 14) ≤ v2 then (wp_X7_keepCoordinates S (fun S1 => (∃ n3, wp_X7_flips_52 a1 Q n3 S1 (0 : Int32)))) else (wp_X7_areaOf v2 S (fun r5 S4 => (wp_X7_sign r5 S4 (fun r7 S6 => (vp_in v2 96 ∧ (K18 (xI S6 22 0 v2.toNatClampNeg r7) (v2 + (1 : Int32)))))))))
def wp_X7_flips_18 (a1 : Int32) (Q : Int32 → xS → Prop) : Nat → xS → Int32 → Prop
  | 0 => fun _ _ => False
  | n + 1 => fun S v2 => wp_X7_flips_18_b a1 (wp_X7_flips_18 a1 Q n) Q S v2
def wp_X7_flips (a1 : Int32) (S : xS) (Q : Int32 → xS → Prop) : Prop :=
  (wp_X7_noGlyph a1 S (fun r2 S1 => (if r2 = 0 then (wp_X7_layOutline a1 S1 (fun S3 => (∃ n5, wp_X7_flips_18 a1 Q n5 S3 (0 : Int32)))) else (Q (-1000002 : Int32) S1))))
def wp_X7_widest_110 (a1 : Int32) (a2 : Int32) (K38 : xS → Int32 → Int64 → Int32 → Prop) (Q : Int32 → xS → Prop) (S : xS) (v3 : Int32) (v6 : Int32) (s0 : Int64) : Prop :=
  (K38 S v3 s0 (v6 + (2048 : Int32)))
def wp_X7_widest_103 (a1 : Int32) (a2 : Int32) (K38 : xS → Int32 → Int64 → Int32 → Prop) (Q : Int32 → xS → Prop) (S : xS) (v3 : Int32) (v6 : Int32) (v7 : Int64) : Prop :=
  (wp_X7_widest_110 a1 a2 K38 Q S v3 v6 v7)
def wp_X7_widest_86 (a1 : Int32) (a2 : Int32) (K38 : xS → Int32 → Int64 → Int32 → Prop) (Q : Int32 → xS → Prop) (S : xS) (v4 : Int64) (v6 : Int32) (v7 : Int64) (s0 : Int32) : Prop :=
  (if v6 = (-16384 : Int32) then (wp_X7_widest_103 a1 a2 K38 Q S s0 v6 v7) else (if (lg_cmp v7 v4) ≤ 0 then (wp_X7_widest_110 a1 a2 K38 Q S s0 v6 v4) else (wp_X7_widest_103 a1 a2 K38 Q S s0 v6 v7)))
def wp_X7_widest_80 (a1 : Int32) (a2 : Int32) (K38 : xS → Int32 → Int64 → Int32 → Prop) (Q : Int32 → xS → Prop) (S : xS) (v4 : Int64) (v6 : Int32) (v7 : Int64) : Prop :=
  (wp_X7_widest_86 a1 a2 K38 Q S v4 v6 v7 v6)
def wp_X7_widest_38_b (a1 : Int32) (a2 : Int32) (K38 : xS → Int32 → Int64 → Int32 → Prop) (Q : Int32 → xS → Prop) (S : xS) (v3 : Int32) (v4 : Int64) (v6 : Int32) : Prop :=
  (if (16384 : Int32) < v6 then (wp_X7_takeCoordinates S (fun S1 => (Q v3 S1))) else (vp_in a2 4 ∧ (wp_X7_placeNow a1 (24 : Int32) (0 : Int32) (xI S 5 0 a2.toNatClampNeg v6) (fun r5 S4 => (if v6 = (-16384 : Int32) then (wp_X7_widest_80 a1 a2 K38 Q S4 v4 v6 r5) else (if (lg_cmp r5 v4) ≤ 0 then (wp_X7_widest_86 a1 a2 K38 Q S4 v4 v6 r5 v3) else (wp_X7_widest_80 a1 a2 K38 Q S4 v4 v6 r5)))))))
def wp_X7_widest_38 (a1 : Int32) (a2 : Int32) (Q : Int32 → xS → Prop) : Nat → xS → Int32 → Int64 → Int32 → Prop
  | 0 => fun _ _ _ _ => False
  | n + 1 => fun S v3 v4 v6 => wp_X7_widest_38_b a1 a2 (wp_X7_widest_38 a1 a2 Q n) Q S v3 v4 v6
def wp_X7_widest (a1 : Int32) (a2 : Int32) (S : xS) (Q : Int32 → xS → Prop) : Prop :=
  (wp_X7_noGlyph a1 S (fun r2 S1 => (if r2 = 0 then (wp_X7_noAxis a2 S1 (fun r4 S3 => (if r4 = 0 then (wp_X7_keepCoordinates S3 (fun S5 => (∃ n7, wp_X7_widest_38 a1 a2 Q n7 S5 (-16384 : Int32) (0 : Int64) (-16384 : Int32)))) else (Q (-1000001 : Int32) S3)))) else (Q (-1000002 : Int32) S1))))
def wp_X7_keeps_97_b (a1 : Int32) (K97 : xS → Int32 → Prop) (Q : xS → Prop) (S : xS) (v2 : Int32) : Prop :=
  (if (511 : Int32) ≤ v2 then (Q (xI S 0 0 23 ((S.1 0 0 23) + (1 : Int32)))) else (wp_X7_of a1 v2 S (fun r2 S1 => (vp_in (((511 : Int32) * (S.1 0 0 23)) + v2) 3066 ∧ (K97 (xI S1 26 0 (((511 : Int32) * (S.1 0 0 23)) + v2).toNatClampNeg r2) (v2 + (1 : Int32)))))))
def wp_X7_keeps_97 (a1 : Int32) (Q : xS → Prop) : Nat → xS → Int32 → Prop
  | 0 => fun _ _ => False
  | n + 1 => fun S v2 => wp_X7_keeps_97_b a1 (wp_X7_keeps_97 a1 Q n) Q S v2
def wp_X7_keeps_85 (a1 : Int32) (Q : xS → Prop) (S : xS) : Prop :=
  (vp_in (S.1 0 0 23) 6 ∧ (∃ n2, wp_X7_keeps_97 a1 Q n2 (xI S 25 0 (S.1 0 0 23).toNatClampNeg a1) (0 : Int32)))
def wp_X7_keeps_51_b (a1 : Int32) (K51 : xS → Int32 → Prop) (Q : xS → Prop) (S : xS) (v2 : Int32) : Prop :=
  (if ((511 : Int32) * (S.1 0 0 23)) ≤ v2 then (wp_X7_keeps_85 a1 Q S) else (vp_in (v2 + (511 : Int32)) 3066 ∧ (vp_in v2 3066 ∧ (K51 (xI S 26 0 v2.toNatClampNeg (S.1 26 0 (v2 + (511 : Int32)).toNatClampNeg)) (v2 + (1 : Int32))))))
def wp_X7_keeps_51 (a1 : Int32) (Q : xS → Prop) : Nat → xS → Int32 → Prop
  | 0 => fun _ _ => False
  | n + 1 => fun S v2 => wp_X7_keeps_51_b a1 (wp_X7_keeps_51 a1 Q n) Q S v2
def wp_X7_keeps_21_b (a1 : Int32) (K21 : xS → Int32 → Prop) (Q : xS → Prop) (S : xS) (v2 : Int32) : Prop :=
  (if (S.1 0 0 23) ≤ v2 then (∃ n1, wp_X7_keeps_51 a1 Q n1 S (0 : Int32)) else (vp_in (v2 + (1 : Int32)) 6 ∧ (vp_in v2 6 ∧ (K21 (xI S 25 0 v2.toNatClampNeg (S.1 25 0 (v2 + (1 : Int32)).toNatClampNeg)) (v2 + (1 : Int32))))))
def wp_X7_keeps_21 (a1 : Int32) (Q : xS → Prop) : Nat → xS → Int32 → Prop
  | 0 => fun _ _ => False
  | n + 1 => fun S v2 => wp_X7_keeps_21_b a1 (wp_X7_keeps_21 a1 Q n) Q S v2
def wp_X7_keeps (a1 : Int32) (S : xS) (Q : xS → Prop) : Prop :=
  (if (S.1 0 0 23) = (6 : Int32) then (∃ n1, wp_X7_keeps_21 a1 Q n1 (xI S 0 0 23 ((S.1 0 0 23) - (1 : Int32))) (0 : Int32)) else (wp_X7_keeps_85 a1 Q S))
def wp_X7_undo_23_b (K23 : xS → Int32 → Prop) (Q : Int32 → xS → Prop) (S : xS) (v1 : Int32) : Prop :=
  (if (511 : Int32) ≤ v1 then (vp_in (S.1 0 0 23) 6 ∧ (Q (S.1 25 0 (S.1 0 0 23).toNatClampNeg) S)) else (vp_in (S.1 0 0 23) 6 ∧ (vp_in (((511 : Int32) * (S.1 0 0 23)) + v1) 3066 ∧ (wp_X7_put (S.1 25 0 (S.1 0 0 23).toNatClampNeg) v1 (S.1 26 0 (((511 : Int32) * (S.1 0 0 23)) + v1).toNatClampNeg) S (fun S4 => (K23 S4 (v1 + (1 : Int32))))))))
def wp_X7_undo_23 (Q : Int32 → xS → Prop) : Nat → xS → Int32 → Prop
  | 0 => fun _ _ => False
  | n + 1 => fun S v1 => wp_X7_undo_23_b (wp_X7_undo_23 Q n) Q S v1
def wp_X7_undo (S : xS) (Q : Int32 → xS → Prop) : Prop :=
  (if (S.1 0 0 23) = 0 then (Q (-1000008 : Int32) S) else (∃ n1, wp_X7_undo_23 Q n1 (xI S 0 0 23 ((S.1 0 0 23) - (1 : Int32))) (0 : Int32)))
def wp_X7_removeTuple_15_b (a1 : Int32) (K15 : xS → Int32 → Int32 → Prop) (Q : xS → Prop) (S : xS) (v3 : Int32) (v4 : Int32) : Prop :=
  (wp_X7_tupleAt v3 S (fun r2 S1 => (if r2 ≤ v4 then (wp_X7_put a1 (3 : Int32) v3 S1 (fun S3 => (Q S3))) else (wp_X7_of a1 (v4 + (87 : Int32)) S1 (fun r6 S5 => (wp_X7_put a1 v4 r6 S5 (fun S7 => (K15 S7 v3 (v4 + (1 : Int32))))))))))
def wp_X7_removeTuple_15 (a1 : Int32) (Q : xS → Prop) : Nat → xS → Int32 → Int32 → Prop
  | 0 => fun _ _ _ => False
  | n + 1 => fun S v3 v4 => wp_X7_removeTuple_15_b a1 (wp_X7_removeTuple_15 a1 Q n) Q S v3 v4
def wp_X7_removeTuple (a1 : Int32) (a2 : Int32) (S : xS) (Q : xS → Prop) : Prop :=
  (wp_X7_of a1 (3 : Int32) S (fun r2 S1 => (wp_X7_tupleAt a2 S1 (fun r4 S3 => (∃ n5, wp_X7_removeTuple_15 a1 Q n5 S3 (r2 - (1 : Int32)) r4)))))
def wp_X7_slotBy_16 (Q : Int32 → xS → Prop) (S : xS) (s0 : Int32) : Prop :=
  (Q s0 S)
def wp_X7_slotBy (a1 : Int32) (a2 : Int32) (S : xS) (Q : Int32 → xS → Prop) : Prop :=
  (wp_X7_of a1 (2 : Int32) S (fun r2 S1 => (if a2 = r2 then (wp_X7_slotBy_16 Q S1 (24 : Int32)) else (wp_X7_slotBy_16 Q S1 a2))))
def wp_X7_layDeltas_2_b (a1 : Int32) (a2 : Int32) (K2 : xS → Int32 → Prop) (Q : xS → Prop) (S : xS) (v3 : Int32) : Prop :=
  (wp_X7_of a1 (2 : Int32) S (fun r2 S1 => (if r2 < v3 then (Q S1) else (wp_X7_slotBy a1 v3 S1 (fun r4 S3 => (wp_X7_deltaOf a1 a2 r4 (0 : Int32) S3 (fun r6 S5 => (vp_in r4 25 ∧ (wp_X7_deltaOf a1 a2 r4 (1 : Int32) (xI S5 27 0 r4.toNatClampNeg r6) (fun r9 S8 => (vp_in r4 25 ∧ (K2 (xI S8 28 0 r4.toNatClampNeg r9) (v3 + (1 : Int32))))))))))))))
def wp_X7_layDeltas_2 (a1 : Int32) (a2 : Int32) (Q : xS → Prop) : Nat → xS → Int32 → Prop
  | 0 => fun _ _ => False
  | n + 1 => fun S v3 => wp_X7_layDeltas_2_b a1 a2 (wp_X7_layDeltas_2 a1 a2 Q n) Q S v3
def wp_X7_layDeltas (a1 : Int32) (a2 : Int32) (S : xS) (Q : xS → Prop) : Prop :=
  (∃ n1, wp_X7_layDeltas_2 a1 a2 Q n1 S (0 : Int32))
def wp_X7_touchAll_2_b (a1 : Int32) (a2 : Int32) (K2 : xS → Int32 → Prop) (Q : xS → Prop) (S : xS) (v3 : Int32) : Prop :=
  (wp_X7_of a1 (2 : Int32) S (fun r2 S1 => (if r2 < v3 then (Q S1) else (wp_X7_slotBy a1 v3 S1 (fun r4 S3 => (vp_in r4 25 ∧ (vp_in r4 25 ∧ (wp_X7_gives a1 a2 r4 (S3.1 27 0 r4.toNatClampNeg) (S3.1 28 0 r4.toNatClampNeg) S3 (fun S7 => (K2 S7 (v3 + (1 : Int32))))))))))))
def wp_X7_touchAll_2 (a1 : Int32) (a2 : Int32) (Q : xS → Prop) : Nat → xS → Int32 → Prop
  | 0 => fun _ _ => False
  | n + 1 => fun S v3 => wp_X7_touchAll_2_b a1 a2 (wp_X7_touchAll_2 a1 a2 Q n) Q S v3
def wp_X7_touchAll (a1 : Int32) (a2 : Int32) (S : xS) (Q : xS → Prop) : Prop :=
  (∃ n1, wp_X7_touchAll_2 a1 a2 Q n1 S (0 : Int32))
def wp_X7_isSameRegion_3_b (a1 : Int32) (a2 : Int32) (a3 : Int32) (K3 : xS → Int32 → Prop) (Q : Int32 → xS → Prop) (S : xS) (v4 : Int32) : Prop :=
  (if (12 : Int32) ≤ v4 then (((1 : Int32) = 0 ∨ (1 : Int32) = 1) ∧ Q (1 : Int32) S) else (wp_X7_tupleAt a2 S (fun r2 S1 => (wp_X7_of a1 (r2 + v4) S1 (fun r4 S3 => (wp_X7_tupleAt a3 S3 (fun r6 S5 => (wp_X7_of a1 (r6 + v4) S5 (fun r8 S7 => (if r4 = r8 then (K3 S7 (v4 + (1 : Int32))) else (((0 : Int32) = 0 ∨ (0 : Int32) = 1) ∧ Q (0 : Int32) S7)))))))))))
def wp_X7_isSameRegion_3 (a1 : Int32) (a2 : Int32) (a3 : Int32) (Q : Int32 → xS → Prop) : Nat → xS → Int32 → Prop
  | 0 => fun _ _ => False
  | n + 1 => fun S v4 => wp_X7_isSameRegion_3_b a1 a2 a3 (wp_X7_isSameRegion_3 a1 a2 a3 Q n) Q S v4
def wp_X7_isSameRegion (a1 : Int32) (a2 : Int32) (a3 : Int32) (S : xS) (Q : Int32 → xS → Prop) : Prop :=
  (∃ n1, wp_X7_isSameRegion_3 a1 a2 a3 Q n1 S (0 : Int32))
def wp_X7_joins_86_b (a1 : Int32) (a2 : Int32) (a3 : Int32) (K86 : xS → Int32 → Prop) (Q : xS → Prop) (S : xS) (v4 : Int32) : Prop :=
  (if (24 : Int32) < v4 then (wp_X7_touchAll a1 a2 S (fun S1 => (wp_X7_removeTuple a1 a3 S1 (fun S3 => (Q S3))))) else (vp_in v4 25 ∧ (vp_in v4 25 ∧ (vp_in v4 25 ∧ (vp_in v4 25 ∧ (K86 (xI (xI S 27 0 v4.toNatClampNeg (S.1 29 0 v4.toNatClampNeg)) 28 0 v4.toNatClampNeg ((xI S 27 0 v4.toNatClampNeg (S.1 29 0 v4.toNatClampNeg)).1 30 0 v4.toNatClampNeg)) (v4 + (1 : Int32))))))))
def wp_X7_joins_86 (a1 : Int32) (a2 : Int32) (a3 : Int32) (Q : xS → Prop) : Nat → xS → Int32 → Prop
  | 0 => fun _ _ => False
  | n + 1 => fun S v4 => wp_X7_joins_86_b a1 a2 a3 (wp_X7_joins_86 a1 a2 a3 Q n) Q S v4
def wp_X7_joins_9_b (a1 : Int32) (a2 : Int32) (a3 : Int32) (K9 : xS → Int32 → Prop) (Q : xS → Prop) (S : xS) (v4 : Int32) : Prop :=
  (wp_X7_of a1 (2 : Int32) S (fun r2 S1 => (if r2 < v4 then (∃ n3, wp_X7_joins_86 a1 a2 a3 Q n3 S1 (0 : Int32)) else (wp_X7_slotBy a1 v4 S1 (fun r5 S4 => (vp_in r5 25 ∧ (wp_X7_deltaOf a1 a2 r5 (0 : Int32) S4 (fun r8 S7 => (vp_in r5 25 ∧ (vp_in r5 25 ∧ (wp_X7_deltaOf a1 a2 r5 (1 : Int32) (xI S7 29 0 r5.toNatClampNeg ((S4.1 27 0 r5.toNatClampNeg) + r8)) (fun r12 S11 => (vp_in r5 25 ∧ (K9 (xI S11 30 0 r5.toNatClampNeg (((xI S7 29 0 r5.toNatClampNeg ((S4.1 27 0 r5.toNatClampNeg) + r8)).1 28 0 r5.toNatClampNeg) + r12)) (v4 + (1 : Int32))))))))))))))))
def wp_X7_joins_9 (a1 : Int32) (a2 : Int32) (a3 : Int32) (Q : xS → Prop) : Nat → xS → Int32 → Prop
  | 0 => fun _ _ => False
  | n + 1 => fun S v4 => wp_X7_joins_9_b a1 a2 a3 (wp_X7_joins_9 a1 a2 a3 Q n) Q S v4
def wp_X7_joins (a1 : Int32) (a2 : Int32) (a3 : Int32) (S : xS) (Q : xS → Prop) : Prop :=
  (wp_X7_layDeltas a1 a3 S (fun S1 => (∃ n3, wp_X7_joins_9 a1 a2 a3 Q n3 S1 (0 : Int32))))
def wp_X7_merge_79 (a1 : Int32) (K20 : xS → Int32 → Int32 → Prop) (Q : Int32 → xS → Prop) (S : xS) (v2 : Int32) (v3 : Int32) : Prop :=
  (K20 S v2 v3)
def wp_X7_merge_56 (a1 : Int32) (K20 : xS → Int32 → Int32 → Prop) (Q : Int32 → xS → Prop) (S : xS) (v2 : Int32) (v3 : Int32) (v4 : Int32) : Prop :=
  (if v3 ≤ v4 then (wp_X7_merge_79 a1 K20 Q S v2 (v3 + (1 : Int32))) else (wp_X7_joins a1 v4 v3 S (fun S1 => (wp_X7_merge_79 a1 K20 Q S1 (v2 + (1 : Int32)) v3))))
def wp_X7_merge_33_b (a1 : Int32) (K20 : xS → Int32 → Int32 → Prop) (K33 : xS → Int32 → Int32 → Int32 → Prop) (Q : Int32 → xS → Prop) (S : xS) (v2 : Int32) (v3 : Int32) (v4 : Int32) : Prop :=
  (if v3 ≤ v4 then (wp_X7_merge_56 a1 K20 Q S v2 v3 v4) else (wp_X7_isSameRegion a1 v3 v4 S (fun r2 S1 => (if r2 = 0 then (K33 S1 v2 v3 (v4 + (1 : Int32))) else (wp_X7_merge_56 a1 K20 Q S1 v2 v3 v4)))))
def wp_X7_merge_33 (a1 : Int32) (K20 : xS → Int32 → Int32 → Prop) (Q : Int32 → xS → Prop) : Nat → xS → Int32 → Int32 → Int32 → Prop
  | 0 => fun _ _ _ _ => False
  | n + 1 => fun S v2 v3 v4 => wp_X7_merge_33_b a1 K20 (wp_X7_merge_33 a1 K20 Q n) Q S v2 v3 v4
def wp_X7_merge_20_b (a1 : Int32) (K20 : xS → Int32 → Int32 → Prop) (Q : Int32 → xS → Prop) (S : xS) (v2 : Int32) (v3 : Int32) : Prop :=
  (wp_X7_of a1 (3 : Int32) S (fun r2 S1 => (if r2 ≤ v3 then (Q v2 S1) else (∃ n3, wp_X7_merge_33 a1 K20 Q n3 S1 v2 v3 (0 : Int32)))))
def wp_X7_merge_20 (a1 : Int32) (Q : Int32 → xS → Prop) : Nat → xS → Int32 → Int32 → Prop
  | 0 => fun _ _ _ => False
  | n + 1 => fun S v2 v3 => wp_X7_merge_20_b a1 (wp_X7_merge_20 a1 Q n) Q S v2 v3
def wp_X7_merge (a1 : Int32) (S : xS) (Q : Int32 → xS → Prop) : Prop :=
  (wp_X7_noGlyph a1 S (fun r2 S1 => (if r2 = 0 then (wp_X7_keeps a1 S1 (fun S3 => (∃ n5, wp_X7_merge_20 a1 Q n5 S3 (0 : Int32) (1 : Int32)))) else (Q (-1000002 : Int32) S1))))
def wp_X7_isAsLaid_58 (Q : Int32 → xS → Prop) (S : xS) : Prop :=
  (((0 : Int32) = 0 ∨ (0 : Int32) = 1) ∧ Q (0 : Int32) S)
def wp_X7_isAsLaid_2_b (a1 : Int32) (a2 : Int32) (K2 : xS → Int32 → Prop) (Q : Int32 → xS → Prop) (S : xS) (v3 : Int32) : Prop :=
  (wp_X7_of a1 (2 : Int32) S (fun r2 S1 => (if r2 < v3 then (((1 : Int32) = 0 ∨ (1 : Int32) = 1) ∧ Q (1 : Int32) S1) else (wp_X7_slotBy a1 v3 S1 (fun r4 S3 => (vp_in r4 25 ∧ (wp_X7_deltaOf a1 a2 r4 (0 : Int32) S3 (fun r7 S6 => (if (S3.1 27 0 r4.toNatClampNeg) = r7 then (vp_in r4 25 ∧ (wp_X7_deltaOf a1 a2 r4 (1 : Int32) S6 (fun r10 S9 => (if (S6.1 28 0 r4.toNatClampNeg) = r10 then (K2 S9 (v3 + (1 : Int32))) else (wp_X7_isAsLaid_58 Q S9))))) else (wp_X7_isAsLaid_58 Q S6))))))))))
def wp_X7_isAsLaid_2 (a1 : Int32) (a2 : Int32) (Q : Int32 → xS → Prop) : Nat → xS → Int32 → Prop
  | 0 => fun _ _ => False
  | n + 1 => fun S v3 => wp_X7_isAsLaid_2_b a1 a2 (wp_X7_isAsLaid_2 a1 a2 Q n) Q S v3
def wp_X7_isAsLaid (a1 : Int32) (a2 : Int32) (S : xS) (Q : Int32 → xS → Prop) : Prop :=
  (∃ n1, wp_X7_isAsLaid_2 a1 a2 Q n1 S (0 : Int32))
def wp_X7_compact_117 (a1 : Int32) (a2 : Int32) (K30 : xS → Int32 → Int32 → Prop) (Q : Int32 → xS → Prop) (S : xS) (v4 : Int32) (v5 : Int32) : Prop :=
  (K30 S v4 (v5 + (1 : Int32)))
def wp_X7_compact_114 (a1 : Int32) (a2 : Int32) (K30 : xS → Int32 → Int32 → Prop) (Q : Int32 → xS → Prop) (S : xS) (v5 : Int32) (s0 : Int32) (s1 : Int32) : Prop :=
  (wp_X7_compact_117 a1 a2 K30 Q S (s0 + s1) v5)
def wp_X7_compact_99 (a1 : Int32) (a2 : Int32) (K30 : xS → Int32 → Int32 → Prop) (Q : Int32 → xS → Prop) (S : xS) (v4 : Int32) (v5 : Int32) (v7 : Int32) (s1 : Int32) (s2 : Int32) (s3 : Int32) : Prop :=
  (wp_X7_put s1 s2 s3 S (fun S1 => (if v7 = 0 then (wp_X7_compact_114 a1 a2 K30 Q S1 v5 v4 (0 : Int32)) else (wp_X7_compact_114 a1 a2 K30 Q S1 v5 v4 (1 : Int32)))))
def wp_X7_compact_30_b (a1 : Int32) (a2 : Int32) (K30 : xS → Int32 → Int32 → Prop) (Q : Int32 → xS → Prop) (S : xS) (v4 : Int32) (v5 : Int32) : Prop :=
  (wp_X7_of a1 (2 : Int32) S (fun r2 S1 => (if r2 < v5 then (Q v4 S1) else (wp_X7_tupleAt a2 S1 (fun r4 S3 => (wp_X7_slotBy a1 v5 S3 (fun r6 S5 => (wp_X7_of a1 ((r4 + (12 : Int32)) + r6) S5 (fun r8 S7 => (if r8 = (1 : Int32) then (wp_X7_put a1 ((r4 + (12 : Int32)) + r6) (0 : Int32) S7 (fun S9 => (wp_X7_isAsLaid a1 a2 S9 (fun r12 S11 => (if r12 = 0 then (wp_X7_compact_99 a1 a2 K30 Q S11 v4 v5 r12 a1 ((r4 + (12 : Int32)) + r6) (1 : Int32)) else (wp_X7_compact_99 a1 a2 K30 Q S11 v4 v5 r12 a1 ((r4 + (12 : Int32)) + r6) (0 : Int32))))))) else (wp_X7_compact_117 a1 a2 K30 Q S7 v4 v5)))))))))))
def wp_X7_compact_30 (a1 : Int32) (a2 : Int32) (Q : Int32 → xS → Prop) : Nat → xS → Int32 → Int32 → Prop
  | 0 => fun _ _ _ => False
  | n + 1 => fun S v4 v5 => wp_X7_compact_30_b a1 a2 (wp_X7_compact_30 a1 a2 Q n) Q S v4 v5
def wp_X7_compact (a1 : Int32) (a2 : Int32) (S : xS) (Q : Int32 → xS → Prop) : Prop :=
  (wp_X7_tupleBarred a1 a2 S (fun r2 S1 => (if 0 ≤ r2 then (wp_X7_keeps a1 S1 (fun S3 => (wp_X7_layDeltas a1 a2 S3 (fun S5 => (∃ n7, wp_X7_compact_30 a1 a2 Q n7 S5 (0 : Int32) (0 : Int32)))))) else (Q r2 S1))))
def wp_X7_isFolded_52 (a1 : Int32) (a2 : Int32) (K5 : xS → Int32 → Int32 → Prop) (Q : Int32 → xS → Prop) (S : xS) (v4 : Int32) (s0 : Int32) : Prop :=
  (K5 S s0 (v4 + (1 : Int32)))
def wp_X7_isFolded_51 (a1 : Int32) (a2 : Int32) (K5 : xS → Int32 → Int32 → Prop) (Q : Int32 → xS → Prop) (S : xS) (v4 : Int32) : Prop :=
  (wp_X7_isFolded_52 a1 a2 K5 Q S v4 (0 : Int32))
def wp_X7_isFolded_47 (a1 : Int32) (a2 : Int32) (K5 : xS → Int32 → Int32 → Prop) (Q : Int32 → xS → Prop) (S : xS) (v4 : Int32) : Prop :=
  (wp_X7_isFolded_52 a1 a2 K5 Q S v4 (1 : Int32))
def wp_X7_isFolded_5_b (a1 : Int32) (a2 : Int32) (K5 : xS → Int32 → Int32 → Prop) (Q : Int32 → xS → Prop) (S : xS) (v3 : Int32) (v4 : Int32) : Prop :=
  (if (S.1 0 0 0) ≤ v4 then ((v3 = 0 ∨ v3 = 1) ∧ Q v3 S) else (if v3 = 0 then (wp_X7_isFolded_51 a1 a2 K5 Q S v4) else (wp_X7_tupleAt a2 S (fun r2 S1 => (wp_X7_of a1 ((r2 + ((3 : Int32) * v4)) + (1 : Int32)) S1 (fun r4 S3 => (if r4 = 0 then (wp_X7_isFolded_47 a1 a2 K5 Q S3 v4) else (vp_in v4 4 ∧ (if (S3.1 6 0 v4.toNatClampNeg) = 0 then (wp_X7_isFolded_51 a1 a2 K5 Q S3 v4) else (wp_X7_isFolded_47 a1 a2 K5 Q S3 v4))))))))))
def wp_X7_isFolded_5 (a1 : Int32) (a2 : Int32) (Q : Int32 → xS → Prop) : Nat → xS → Int32 → Int32 → Prop
  | 0 => fun _ _ _ => False
  | n + 1 => fun S v3 v4 => wp_X7_isFolded_5_b a1 a2 (wp_X7_isFolded_5 a1 a2 Q n) Q S v3 v4
def wp_X7_isFolded (a1 : Int32) (a2 : Int32) (S : xS) (Q : Int32 → xS → Prop) : Prop :=
  (∃ n1, wp_X7_isFolded_5 a1 a2 Q n1 S (1 : Int32) (0 : Int32))
def wp_X7_addMoves_10_b (a1 : Int32) (a2 : Int32) (K10 : xS → Int64 → Int32 → Prop) (Q : xS → Prop) (S : xS) (v3 : Int64) (v5 : Int32) : Prop :=
  (wp_X7_of a1 (2 : Int32) S (fun r2 S1 => (if r2 < v5 then (Q S1) else (wp_X7_slotBy a1 v5 S1 (fun r4 S3 => (vp_in r4 25 ∧ (wp_X7_deltaOf a1 a2 r4 (0 : Int32) S3 (fun r7 S6 => (vp_in r4 25 ∧ (vp_in r4 25 ∧ (wp_X7_deltaOf a1 a2 r4 (1 : Int32) (xJ S6 31 0 r4.toNatClampNeg ((S3.2.1 31 0 r4.toNatClampNeg) + (v3 * (Int32.toInt64 r7)))) (fun r11 S10 => (vp_in r4 25 ∧ (K10 (xJ S10 32 0 r4.toNatClampNeg (((xJ S6 31 0 r4.toNatClampNeg ((S3.2.1 31 0 r4.toNatClampNeg) + (v3 * (Int32.toInt64 r7)))).2.1 32 0 r4.toNatClampNeg) + (v3 * (Int32.toInt64 r11)))) v3 (v5 + (1 : Int32))))))))))))))))
def wp_X7_addMoves_10 (a1 : Int32) (a2 : Int32) (Q : xS → Prop) : Nat → xS → Int64 → Int32 → Prop
  | 0 => fun _ _ _ => False
  | n + 1 => fun S v3 v5 => wp_X7_addMoves_10_b a1 a2 (wp_X7_addMoves_10 a1 a2 Q n) Q S v3 v5
def wp_X7_addMoves (a1 : Int32) (a2 : Int32) (S : xS) (Q : xS → Prop) : Prop :=
  (wp_X7_scalarOf a1 a2 S (fun r2 S1 => (∃ n3, wp_X7_addMoves_10 a1 a2 Q n3 S1 r2 (0 : Int32))))
def wp_X7_moveBases_2_b (a1 : Int32) (K2 : xS → Int32 → Prop) (Q : xS → Prop) (S : xS) (v2 : Int32) : Prop :=
  (wp_X7_of a1 (2 : Int32) S (fun r2 S1 => (if r2 ≤ v2 then (wp_X7_of a1 (1 : Int32) S1 (fun r4 S3 => (vp_in (24 : Int32) 25 ∧ (wp_X7_near (S3.2.1 31 0 (24 : Int32).toNatClampNeg) (268435456 : Int64) S3 (fun r7 S6 => (wp_X7_put a1 (1 : Int32) (r4 + (Int64.toInt32 r7)) S6 (fun S8 => (Q S8)))))))) else (wp_X7_of a1 ((4 : Int32) + v2) S1 (fun r11 S10 => (vp_in v2 25 ∧ (wp_X7_near (S10.2.1 31 0 v2.toNatClampNeg) (268435456 : Int64) S10 (fun r14 S13 => (wp_X7_put a1 ((4 : Int32) + v2) (r11 + (Int64.toInt32 r14)) S13 (fun S15 => (wp_X7_of a1 ((28 : Int32) + v2) S15 (fun r18 S17 => (vp_in v2 25 ∧ (wp_X7_near (S17.2.1 32 0 v2.toNatClampNeg) (268435456 : Int64) S17 (fun r21 S20 => (wp_X7_put a1 ((28 : Int32) + v2) (r18 + (Int64.toInt32 r21)) S20 (fun S22 => (K2 S22 (v2 + (1 : Int32))))))))))))))))))))
def wp_X7_moveBases_2 (a1 : Int32) (Q : xS → Prop) : Nat → xS → Int32 → Prop
  | 0 => fun _ _ => False
  | n + 1 => fun S v2 => wp_X7_moveBases_2_b a1 (wp_X7_moveBases_2 a1 Q n) Q S v2
def wp_X7_moveBases (a1 : Int32) (S : xS) (Q : xS → Prop) : Prop :=
  (∃ n1, wp_X7_moveBases_2 a1 Q n1 S (0 : Int32))
def wp_X7_fold_140 (a1 : Int32) (K97 : xS → Int32 → Int32 → Prop) (Q : Int32 → xS → Prop) (S : xS) (v2 : Int32) (v3 : Int32) : Prop :=
  (K97 S v2 (v3 + (-1 : Int32)))
def wp_X7_fold_97_b (a1 : Int32) (K97 : xS → Int32 → Int32 → Prop) (Q : Int32 → xS → Prop) (S : xS) (v2 : Int32) (v3 : Int32) : Prop :=
  (if v3 < 0 then (wp_X7_moveBases a1 S (fun S1 => (Q v2 S1))) else (wp_X7_isFolded a1 v3 S (fun r4 S3 => (if r4 = 0 then (wp_X7_of a1 (0 : Int32) S3 (fun r6 S5 => (if r6 = 0 then (wp_X7_layDeltas a1 v3 S5 (fun S7 => (wp_X7_touchAll a1 v3 S7 (fun S9 => (wp_X7_fold_140 a1 K97 Q S9 v2 v3))))) else (wp_X7_fold_140 a1 K97 Q S5 v2 v3)))) else (wp_X7_removeTuple a1 v3 S3 (fun S11 => (wp_X7_fold_140 a1 K97 Q S11 v2 v3)))))))
def wp_X7_fold_97 (a1 : Int32) (Q : Int32 → xS → Prop) : Nat → xS → Int32 → Int32 → Prop
  | 0 => fun _ _ _ => False
  | n + 1 => fun S v2 v3 => wp_X7_fold_97_b a1 (wp_X7_fold_97 a1 Q n) Q S v2 v3
def wp_X7_fold_76 (a1 : Int32) (K48 : xS → Int32 → Int32 → Prop) (Q : Int32 → xS → Prop) (S : xS) (v2 : Int32) (v3 : Int32) : Prop :=
  (K48 S v2 (v3 + (1 : Int32)))
def wp_X7_fold_48_b (a1 : Int32) (K48 : xS → Int32 → Int32 → Prop) (Q : Int32 → xS → Prop) (S : xS) (v2 : Int32) (v3 : Int32) : Prop :=
  (wp_X7_of a1 (3 : Int32) S (fun r2 S1 => (if r2 ≤ v3 then (if v2 = 0 then (Q (0 : Int32) S1) else (wp_X7_of a1 (3 : Int32) S1 (fun r4 S3 => (∃ n5, wp_X7_fold_97 a1 Q n5 S3 v2 (r4 - (1 : Int32)))))) else (wp_X7_isFolded a1 v3 S1 (fun r7 S6 => (if r7 = 0 then (wp_X7_fold_76 a1 K48 Q S6 v2 v3) else (wp_X7_addMoves a1 v3 S6 (fun S8 => (wp_X7_fold_76 a1 K48 Q S8 (v2 + (1 : Int32)) v3)))))))))
def wp_X7_fold_48 (a1 : Int32) (Q : Int32 → xS → Prop) : Nat → xS → Int32 → Int32 → Prop
  | 0 => fun _ _ _ => False
  | n + 1 => fun S v2 v3 => wp_X7_fold_48_b a1 (wp_X7_fold_48 a1 Q n) Q S v2 v3
def wp_X7_fold_20_b (a1 : Int32) (K20 : xS → Int32 → Int32 → Prop) (Q : Int32 → xS → Prop) (S : xS) (v2 : Int32) (v3 : Int32) : Prop :=
  (if (24 : Int32) < v3 then (∃ n1, wp_X7_fold_48 a1 Q n1 S v2 (0 : Int32)) else (vp_in v3 25 ∧ (vp_in v3 25 ∧ (K20 (xJ (xJ S 31 0 v3.toNatClampNeg (0 : Int64)) 32 0 v3.toNatClampNeg (0 : Int64)) v2 (v3 + (1 : Int32))))))
def wp_X7_fold_20 (a1 : Int32) (Q : Int32 → xS → Prop) : Nat → xS → Int32 → Int32 → Prop
  | 0 => fun _ _ _ => False
  | n + 1 => fun S v2 v3 => wp_X7_fold_20_b a1 (wp_X7_fold_20 a1 Q n) Q S v2 v3
def wp_X7_fold (a1 : Int32) (S : xS) (Q : Int32 → xS → Prop) : Prop :=
  (wp_X7_noGlyph a1 S (fun r2 S1 => (if r2 = 0 then (wp_X7_keeps a1 S1 (fun S3 => (∃ n5, wp_X7_fold_20 a1 Q n5 S3 (0 : Int32) (0 : Int32)))) else (Q (-1000002 : Int32) S1))))
def wp_X7_isNothing_44 (Q : Int32 → xS → Prop) (S : xS) : Prop :=
  (((0 : Int32) = 0 ∨ (0 : Int32) = 1) ∧ Q (0 : Int32) S)
def wp_X7_isNothing_2_b (a1 : Int32) (a2 : Int32) (K2 : xS → Int32 → Prop) (Q : Int32 → xS → Prop) (S : xS) (v3 : Int32) : Prop :=
  (wp_X7_of a1 (2 : Int32) S (fun r2 S1 => (if r2 < v3 then (((1 : Int32) = 0 ∨ (1 : Int32) = 1) ∧ Q (1 : Int32) S1) else (wp_X7_slotBy a1 v3 S1 (fun r4 S3 => (wp_X7_deltaOf a1 a2 r4 (0 : Int32) S3 (fun r6 S5 => (if r6 = 0 then (wp_X7_deltaOf a1 a2 r4 (1 : Int32) S5 (fun r8 S7 => (if r8 = 0 then (K2 S7 (v3 + (1 : Int32))) else (wp_X7_isNothing_44 Q S7)))) else (wp_X7_isNothing_44 Q S5)))))))))
def wp_X7_isNothing_2 (a1 : Int32) (a2 : Int32) (Q : Int32 → xS → Prop) : Nat → xS → Int32 → Prop
  | 0 => fun _ _ => False
  | n + 1 => fun S v3 => wp_X7_isNothing_2_b a1 a2 (wp_X7_isNothing_2 a1 a2 Q n) Q S v3
def wp_X7_isNothing (a1 : Int32) (a2 : Int32) (S : xS) (Q : Int32 → xS → Prop) : Prop :=
  (∃ n1, wp_X7_isNothing_2 a1 a2 Q n1 S (0 : Int32))
def wp_X7_prune_49 (a1 : Int32) (K27 : xS → Int32 → Int32 → Prop) (Q : Int32 → xS → Prop) (S : xS) (v2 : Int32) (v3 : Int32) : Prop :=
  (K27 S v2 (v3 + (-1 : Int32)))
def wp_X7_prune_27_b (a1 : Int32) (K27 : xS → Int32 → Int32 → Prop) (Q : Int32 → xS → Prop) (S : xS) (v2 : Int32) (v3 : Int32) : Prop :=
  (if v3 < 0 then (Q v2 S) else (wp_X7_isNothing a1 v3 S (fun r2 S1 => (if r2 = 0 then (wp_X7_prune_49 a1 K27 Q S1 v2 v3) else (wp_X7_removeTuple a1 v3 S1 (fun S3 => (wp_X7_prune_49 a1 K27 Q S3 (v2 + (1 : Int32)) v3)))))))
def wp_X7_prune_27 (a1 : Int32) (Q : Int32 → xS → Prop) : Nat → xS → Int32 → Int32 → Prop
  | 0 => fun _ _ _ => False
  | n + 1 => fun S v2 v3 => wp_X7_prune_27_b a1 (wp_X7_prune_27 a1 Q n) Q S v2 v3
def wp_X7_prune (a1 : Int32) (S : xS) (Q : Int32 → xS → Prop) : Prop :=
  (wp_X7_noGlyph a1 S (fun r2 S1 => (if r2 = 0 then (wp_X7_keeps a1 S1 (fun S3 => (wp_X7_of a1 (3 : Int32) S3 (fun r6 S5 => (∃ n7, wp_X7_prune_27 a1 Q n7 S5 (0 : Int32) (r6 - (1 : Int32))))))) else (Q (-1000002 : Int32) S1))))
def wp_X7_addInstance_49 (K14 : xS → Int32 → Prop) (Q : Int32 → xS → Prop) (S : xS) (v1 : Int32) (s1 : Int32) (s2 : Int32) : Prop :=
  (vp_in s1 24 ∧ (K14 (xI S 34 0 s1.toNatClampNeg s2) (v1 + (1 : Int32))))
def wp_X7_addInstance_14_b (K14 : xS → Int32 → Prop) (Q : Int32 → xS → Prop) (S : xS) (v1 : Int32) : Prop :=
  (if (4 : Int32) ≤ v1 then (Q (((xI S 0 0 32 ((S.1 0 0 32) + (1 : Int32))).1 0 0 32) - (1 : Int32)) (xI S 0 0 32 ((S.1 0 0 32) + (1 : Int32)))) else (if (S.1 0 0 0) ≤ v1 then (wp_X7_addInstance_49 K14 Q S v1 (((4 : Int32) * (S.1 0 0 32)) + v1) (0 : Int32)) else (vp_in v1 4 ∧ (wp_X7_addInstance_49 K14 Q S v1 (((4 : Int32) * (S.1 0 0 32)) + v1) (S.1 5 0 v1.toNatClampNeg)))))
def wp_X7_addInstance_14 (Q : Int32 → xS → Prop) : Nat → xS → Int32 → Prop
  | 0 => fun _ _ => False
  | n + 1 => fun S v1 => wp_X7_addInstance_14_b (wp_X7_addInstance_14 Q n) Q S v1
def wp_X7_addInstance (S : xS) (Q : Int32 → xS → Prop) : Prop :=
  (if (S.1 0 0 32) = (6 : Int32) then (Q (-1000006 : Int32) S) else (∃ n1, wp_X7_addInstance_14 Q n1 S (0 : Int32)))
def wp_X7_applyInstance_74 (a1 : Int32) (K23 : xS → Int32 → Int32 → Prop) (Q : Int32 → xS → Prop) (S : xS) (v2 : Int32) (v3 : Int32) : Prop :=
  (K23 S v2 (v3 + (1 : Int32)))
def wp_X7_applyInstance_23_b (a1 : Int32) (K23 : xS → Int32 → Int32 → Prop) (Q : Int32 → xS → Prop) (S : xS) (v2 : Int32) (v3 : Int32) : Prop :=
  (if (S.1 0 0 0) ≤ v3 then (Q v2 S) else (vp_in (((4 : Int32) * a1) + v3) 24 ∧ (vp_in v3 4 ∧ (if (S.1 6 0 v3.toNatClampNeg) = 0 then (vp_in v3 4 ∧ (if (S.1 5 0 v3.toNatClampNeg) = (S.1 34 0 (((4 : Int32) * a1) + v3).toNatClampNeg) then (wp_X7_applyInstance_74 a1 K23 Q S v2 v3) else (vp_in v3 4 ∧ (wp_X7_applyInstance_74 a1 K23 Q (xI S 5 0 v3.toNatClampNeg (S.1 34 0 (((4 : Int32) * a1) + v3).toNatClampNeg)) (v2 + (1 : Int32)) v3)))) else (wp_X7_applyInstance_74 a1 K23 Q S v2 v3)))))
def wp_X7_applyInstance_23 (a1 : Int32) (Q : Int32 → xS → Prop) : Nat → xS → Int32 → Int32 → Prop
  | 0 => fun _ _ _ => False
  | n + 1 => fun S v2 v3 => wp_X7_applyInstance_23_b a1 (wp_X7_applyInstance_23 a1 Q n) Q S v2 v3
def wp_X7_applyInstance (a1 : Int32) (S : xS) (Q : Int32 → xS → Prop) : Prop :=
  (wp_X7_in (Int32.toInt64 a1) (0 : Int64) ((Int32.toInt64 (S.1 0 0 32)) - (1 : Int64)) S (fun r2 S1 => (if r2 = 0 then (Q (-1000005 : Int32) S1) else (∃ n3, wp_X7_applyInstance_23 a1 Q n3 S1 (0 : Int32) (0 : Int32)))))
def wp_X7_farFrom_45 (a1 : Int32) (K4 : xS → Int32 → Int32 → Prop) (Q : Int32 → xS → Prop) (S : xS) (v3 : Int32) (s0 : Int32) (s1 : Int32) : Prop :=
  (K4 S (s0 + s1) (v3 + (1 : Int32)))
def wp_X7_farFrom_4_b (a1 : Int32) (K4 : xS → Int32 → Int32 → Prop) (Q : Int32 → xS → Prop) (S : xS) (v2 : Int32) (v3 : Int32) : Prop :=
  (if (S.1 0 0 0) ≤ v3 then (Q v2 S) else (vp_in (((4 : Int32) * a1) + v3) 24 ∧ (vp_in v3 4 ∧ (if 0 ≤ ((S.1 34 0 (((4 : Int32) * a1) + v3).toNatClampNeg) - (S.1 5 0 v3.toNatClampNeg)) then (wp_X7_farFrom_45 a1 K4 Q S v3 v2 ((S.1 34 0 (((4 : Int32) * a1) + v3).toNatClampNeg) - (S.1 5 0 v3.toNatClampNeg))) else (wp_X7_farFrom_45 a1 K4 Q S v3 v2 (-((S.1 34 0 (((4 : Int32) * a1) + v3).toNatClampNeg) - (S.1 5 0 v3.toNatClampNeg))))))))
def wp_X7_farFrom_4 (a1 : Int32) (Q : Int32 → xS → Prop) : Nat → xS → Int32 → Int32 → Prop
  | 0 => fun _ _ _ => False
  | n + 1 => fun S v2 v3 => wp_X7_farFrom_4_b a1 (wp_X7_farFrom_4 a1 Q n) Q S v2 v3
def wp_X7_farFrom (a1 : Int32) (S : xS) (Q : Int32 → xS → Prop) : Prop :=
  (∃ n1, wp_X7_farFrom_4 a1 Q n1 S (0 : Int32) (0 : Int32))
def wp_X7_nearestInstance_43 (K17 : xS → Int32 → Int32 → Prop) (Q : Int32 → xS → Prop) (S : xS) (v2 : Int32) (s0 : Int32) : Prop :=
  (K17 S s0 (v2 + (1 : Int32)))
def wp_X7_nearestInstance_17_b (K17 : xS → Int32 → Int32 → Prop) (Q : Int32 → xS → Prop) (S : xS) (v1 : Int32) (v2 : Int32) : Prop :=
  (if (S.1 0 0 32) ≤ v2 then (Q v1 S) else (wp_X7_farFrom v2 S (fun r2 S1 => (wp_X7_farFrom v1 S1 (fun r4 S3 => (if r4 ≤ r2 then (wp_X7_nearestInstance_43 K17 Q S3 v2 v1) else (wp_X7_nearestInstance_43 K17 Q S3 v2 v2)))))))
def wp_X7_nearestInstance_17 (Q : Int32 → xS → Prop) : Nat → xS → Int32 → Int32 → Prop
  | 0 => fun _ _ _ => False
  | n + 1 => fun S v1 v2 => wp_X7_nearestInstance_17_b (wp_X7_nearestInstance_17 Q n) Q S v1 v2
def wp_X7_nearestInstance_14 (Q : Int32 → xS → Prop) (S : xS) (s0 : Int32) : Prop :=
  (∃ n1, wp_X7_nearestInstance_17 Q n1 S s0 (1 : Int32))
def wp_X7_nearestInstance (S : xS) (Q : Int32 → xS → Prop) : Prop :=
  (if (S.1 0 0 32) = 0 then (wp_X7_nearestInstance_14 Q S (-1000008 : Int32)) else (wp_X7_nearestInstance_14 Q S (0 : Int32)))
def wp_X7_type (a1 : Int32) (S : xS) (Q : Int32 → xS → Prop) : Prop :=
  (if (S.1 0 0 34) = (60 : Int32) then (Q (-1000006 : Int32) S) else (vp_in (S.1 0 0 34) 60 ∧ (Q ((xI (xI S 36 0 (S.1 0 0 34).toNatClampNeg (vp_nar .char a1)) 0 0 34 (((xI S 36 0 (S.1 0 0 34).toNatClampNeg (vp_nar .char a1)).1 0 0 34) + (1 : Int32))).1 0 0 34) (xI (xI S 36 0 (S.1 0 0 34).toNatClampNeg (vp_nar .char a1)) 0 0 34 (((xI S 36 0 (S.1 0 0 34).toNatClampNeg (vp_nar .char a1)).1 0 0 34) + (1 : Int32))))))
def wp_X7_clearText (S : xS) (Q : Int32 → xS → Prop) : Prop :=
  (Q (S.1 0 0 34) (xI S 0 0 34 (0 : Int32)))
def wp_X7_isDigit_44 (Q : Int32 → xS → Prop) (S : xS) (s0 : Int32) : Prop :=
  ((s0 = 0 ∨ s0 = 1) ∧ Q s0 S)
def wp_X7_isDigit_43 (Q : Int32 → xS → Prop) (S : xS) : Prop :=
  (wp_X7_isDigit_44 Q S (0 : Int32))
def wp_X7_isDigit (S : xS) (Q : Int32 → xS → Prop) : Prop :=
  (if (S.1 0 0 34) ≤ (S.1 0 0 36) then (wp_X7_isDigit_43 Q S) else (vp_in (S.1 0 0 36) 60 ∧ (if (S.1 36 0 (S.1 0 0 36).toNatClampNeg) < (48 : Int32) then (wp_X7_isDigit_43 Q S) else (vp_in (S.1 0 0 36) 60 ∧ (if (57 : Int32) < (S.1 36 0 (S.1 0 0 36).toNatClampNeg) then (wp_X7_isDigit_43 Q S) else (wp_X7_isDigit_44 Q S (1 : Int32)))))))
def wp_X7_readsNumber_138 (Q : Int32 → xS → Prop) (S : xS) (s0 : Int32) : Prop :=
  ((s0 = 0 ∨ s0 = 1) ∧ Q s0 S)
def wp_X7_readsNumber_126 (Q : Int32 → xS → Prop) (S : xS) (v2 : Int32) (s1 : Int32) : Prop :=
  (if v2 ≤ 0 then (wp_X7_readsNumber_138 Q (xI S 0 0 37 s1) (0 : Int32)) else (wp_X7_readsNumber_138 Q (xI S 0 0 37 s1) (1 : Int32)))
def wp_X7_readsNumber_109 (Q : Int32 → xS → Prop) (S : xS) (v1 : Int32) (v2 : Int32) : Prop :=
  (if v1 = 0 then (wp_X7_readsNumber_126 Q S v2 (S.1 0 0 37)) else (wp_X7_readsNumber_126 Q S v2 (-(S.1 0 0 37))))
def wp_X7_readsNumber_56_b (K56 : xS → Int32 → Int32 → Prop) (Q : Int32 → xS → Prop) (S : xS) (v1 : Int32) (v2 : Int32) : Prop :=
  (if (6 : Int32) ≤ v2 then (wp_X7_readsNumber_109 Q S v1 v2) else (wp_X7_isDigit S (fun r2 S1 => (if r2 = 0 then (wp_X7_readsNumber_109 Q S1 v1 v2) else (vp_in (S1.1 0 0 36) 60 ∧ (K56 (xI (xI S1 0 0 37 ((((10 : Int32) * (S1.1 0 0 37)) + (S1.1 36 0 (S1.1 0 0 36).toNatClampNeg)) - (48 : Int32))) 0 0 36 (((xI S1 0 0 37 ((((10 : Int32) * (S1.1 0 0 37)) + (S1.1 36 0 (S1.1 0 0 36).toNatClampNeg)) - (48 : Int32))).1 0 0 36) + (1 : Int32))) v1 (v2 + (1 : Int32))))))))
def wp_X7_readsNumber_56 (Q : Int32 → xS → Prop) : Nat → xS → Int32 → Int32 → Prop
  | 0 => fun _ _ _ => False
  | n + 1 => fun S v1 v2 => wp_X7_readsNumber_56_b (wp_X7_readsNumber_56 Q n) Q S v1 v2
def wp_X7_readsNumber_45 (Q : Int32 → xS → Prop) (S : xS) (v1 : Int32) (s1 : Int32) (s2 : Int32) : Prop :=
  (∃ n1, wp_X7_readsNumber_56 Q n1 (xI (xI S 0 0 36 (s1 + s2)) 0 0 37 (0 : Int32)) v1 (0 : Int32))
def wp_X7_readsNumber_30 (Q : Int32 → xS → Prop) (S : xS) (s0 : Int32) : Prop :=
  (if s0 = 0 then (wp_X7_readsNumber_45 Q S s0 (S.1 0 0 36) (0 : Int32)) else (wp_X7_readsNumber_45 Q S s0 (S.1 0 0 36) (1 : Int32)))
def wp_X7_readsNumber_29 (Q : Int32 → xS → Prop) (S : xS) : Prop :=
  (wp_X7_readsNumber_30 Q S (0 : Int32))
def wp_X7_readsNumber (S : xS) (Q : Int32 → xS → Prop) : Prop :=
  (if (S.1 0 0 34) ≤ (S.1 0 0 36) then (wp_X7_readsNumber_29 Q S) else (vp_in (S.1 0 0 36) 60 ∧ (if (S.1 36 0 (S.1 0 0 36).toNatClampNeg) = (45 : Int32) then (wp_X7_readsNumber_30 Q S (1 : Int32)) else (wp_X7_readsNumber_29 Q S))))
def wp_X7_readsItem_55 (Q : Int32 → xS → Prop) (S : xS) : Prop :=
  (((0 : Int32) = 0 ∨ (0 : Int32) = 1) ∧ Q (0 : Int32) S)
def wp_X7_readsItem (S : xS) (Q : Int32 → xS → Prop) : Prop :=
  (if (S.1 0 0 36) = (S.1 0 0 34) then (((0 : Int32) = 0 ∨ (0 : Int32) = 1) ∧ Q (0 : Int32) S) else (vp_in (S.1 0 0 36) 60 ∧ (wp_X7_noAxis ((S.1 36 0 (S.1 0 0 36).toNatClampNeg) - (97 : Int32)) S (fun r3 S2 => (if r3 = 0 then (vp_in ((S.1 36 0 (S.1 0 0 36).toNatClampNeg) - (97 : Int32)) 4 ∧ (if (S2.1 6 0 ((S.1 36 0 (S.1 0 0 36).toNatClampNeg) - (97 : Int32)).toNatClampNeg) = 0 then (if (((S2.1 0 0 38) >>> (((S.1 36 0 (S.1 0 0 36).toNatClampNeg) - (97 : Int32)) &&& 31)) &&& (1 : Int32)) = (1 : Int32) then (wp_X7_readsItem_55 Q S2) else (wp_X7_readsNumber (xI S2 0 0 36 ((S2.1 0 0 36) + (1 : Int32))) (fun r6 S5 => (if r6 = 0 then (((0 : Int32) = 0 ∨ (0 : Int32) = 1) ∧ Q (0 : Int32) S5) else (vp_in ((S.1 36 0 (S.1 0 0 36).toNatClampNeg) - (97 : Int32)) 4 ∧ (((1 : Int32) = 0 ∨ (1 : Int32) = 1) ∧ Q (1 : Int32) (xI (xI S5 0 0 38 ((S5.1 0 0 38) ||| ((1 : Int32) <<< (((S.1 36 0 (S.1 0 0 36).toNatClampNeg) - (97 : Int32)) &&& 31)))) 40 0 ((S.1 36 0 (S.1 0 0 36).toNatClampNeg) - (97 : Int32)).toNatClampNeg ((xI S5 0 0 38 ((S5.1 0 0 38) ||| ((1 : Int32) <<< (((S.1 36 0 (S.1 0 0 36).toNatClampNeg) - (97 : Int32)) &&& 31)))).1 0 0 37)))))))) else (wp_X7_readsItem_55 Q S2))) else (wp_X7_readsItem_55 Q S2))))))
def wp_X7_readLocation_123 (K88 : xS → Int32 → Int32 → Prop) (Q : Int32 → xS → Prop) (S : xS) (v2 : Int32) (v3 : Int32) : Prop :=
  (K88 S v2 (v3 + (1 : Int32)))
def wp_X7_readLocation_88_b (K88 : xS → Int32 → Int32 → Prop) (Q : Int32 → xS → Prop) (S : xS) (v2 : Int32) (v3 : Int32) : Prop :=
  (if (S.1 0 0 0) ≤ v3 then (Q v2 S) else (if (((S.1 0 0 38) >>> (v3 &&& 31)) &&& (1 : Int32)) = (1 : Int32) then (vp_in v3 4 ∧ (wp_X7_setUser v3 (S.1 40 0 v3.toNatClampNeg) S (fun r3 S2 => (wp_X7_readLocation_123 K88 Q S2 (v2 + (1 : Int32)) v3)))) else (wp_X7_readLocation_123 K88 Q S v2 v3)))
def wp_X7_readLocation_88 (Q : Int32 → xS → Prop) : Nat → xS → Int32 → Int32 → Prop
  | 0 => fun _ _ _ => False
  | n + 1 => fun S v2 v3 => wp_X7_readLocation_88_b (wp_X7_readLocation_88 Q n) Q S v2 v3
def wp_X7_readLocation_72 (Q : Int32 → xS → Prop) (S : xS) (v1 : Int32) : Prop :=
  (if v1 = 0 then (Q ((-100 : Int32) - (S.1 0 0 36)) S) else (∃ n1, wp_X7_readLocation_88 Q n1 S (0 : Int32) (0 : Int32)))
def wp_X7_readLocation_49 (K15 : xS → Int32 → Prop) (Q : Int32 → xS → Prop) (S : xS) (s0 : Int32) : Prop :=
  (if s0 = 0 then (K15 S s0) else (wp_X7_readsItem (xI S 0 0 36 ((S.1 0 0 36) + (1 : Int32))) (fun r2 S1 => (K15 S1 r2))))
def wp_X7_readLocation_15_b (K15 : xS → Int32 → Prop) (Q : Int32 → xS → Prop) (S : xS) (v1 : Int32) : Prop :=
  (if v1 = 0 then (wp_X7_readLocation_72 Q S v1) else (if (S.1 0 0 34) ≤ (S.1 0 0 36) then (wp_X7_readLocation_72 Q S v1) else (vp_in (S.1 0 0 36) 60 ∧ (if (S.1 36 0 (S.1 0 0 36).toNatClampNeg) = (59 : Int32) then (wp_X7_readLocation_49 K15 Q S (1 : Int32)) else (wp_X7_readLocation_49 K15 Q S (0 : Int32))))))
def wp_X7_readLocation_15 (Q : Int32 → xS → Prop) : Nat → xS → Int32 → Prop
  | 0 => fun _ _ => False
  | n + 1 => fun S v1 => wp_X7_readLocation_15_b (wp_X7_readLocation_15 Q n) Q S v1
def wp_X7_readLocation (S : xS) (Q : Int32 → xS → Prop) : Prop :=
  (wp_X7_readsItem (xI (xI S 0 0 36 (0 : Int32)) 0 0 38 (0 : Int32)) (fun r2 S1 => (∃ n3, wp_X7_readLocation_15 Q n3 S1 r2)))
def wp_X7_count_49 (Q : Int32 → xS → Prop) (S : xS) (s0 : Int32) : Prop :=
  (Q s0 S)
def wp_X7_count (a1 : Int32) (S : xS) (Q : Int32 → xS → Prop) : Prop :=
  (if a1 = 0 then (wp_X7_count_49 Q S (S.1 0 0 0)) else (if a1 = (1 : Int32) then (wp_X7_count_49 Q S (S.1 0 0 9)) else (if a1 = (2 : Int32) then (wp_X7_count_49 Q S (S.1 0 0 32)) else (if a1 = (3 : Int32) then (wp_X7_count_49 Q S (S.1 0 0 23)) else (wp_X7_count_49 Q S (-1000005 : Int32))))))
