theorem nI_and (a b : Nat) : nI a &&& nI b = nI (a &&& b) := by
  apply Int32.toBitVec_inj.mp
  show (nI a).toBitVec &&& (nI b).toBitVec = _
  simp [nI, BitVec.ofNat_and]
theorem nI_or (a b : Nat) : nI a ||| nI b = nI (a ||| b) := by
  apply Int32.toBitVec_inj.mp
  show (nI a).toBitVec ||| (nI b).toBitVec = _
  simp [nI, BitVec.ofNat_or]
theorem nI_xor (a b : Nat) : nI a ^^^ nI b = nI (a ^^^ b) := by
  apply Int32.toBitVec_inj.mp
  show (nI a).toBitVec ^^^ (nI b).toBitVec = _
  simp [nI, BitVec.ofNat_xor]
theorem nI_bit : ∀ p : Fin 31, (1 : Int32) <<< (nI p.val &&& 31) = nI (2 ^ p.val) := by decide +kernel
theorem nI_bit' {p : Nat} (h : p < 25) : (1 : Int32) <<< (nI p &&& 31) = nI (2 ^ p) := nI_bit ⟨p, by omega⟩
theorem nI_m1' : (-1 : Int32) = nI (2 ^ 32 - 1) := by decide +kernel
theorem bit_and {m p : Nat} : (m &&& 2 ^ p = 0) ↔ m.testBit p = false := by
  constructor
  · intro h
    have e : (m &&& 2 ^ p).testBit p = (0 : Nat).testBit p := by rw [h]
    rw [Nat.testBit_and, Nat.testBit_two_pow, Nat.zero_testBit, decide_eq_true rfl, Bool.and_true] at e
    exact e
  · intro h
    apply Nat.eq_of_testBit_eq
    intro i
    rw [Nat.testBit_and, Nat.testBit_two_pow, Nat.zero_testBit]
    by_cases e : p = i
    · subst e; rw [h]; rfl
    · rw [decide_eq_false e, Bool.and_false]
theorem v6_hasBit {m p : Nat} {S : xS} {Q : Int32 → xS → Prop} (hm : m < 2 ^ 31) (hp : p < 25) (k : Q (b2 (m.testBit p)) S) : wp_X6_hasBit (nI m) (nI p) S Q := by
  unfold wp_X6_hasBit
  have iff : (nI m &&& ((1 : Int32) <<< (nI p &&& 31)) = 0) ↔ m.testBit p = false := by
    rw [nI_bit' hp, nI_and, nl0, vv_eq (by have := @Nat.and_le_left m (2 ^ p); omega) (by omega), bit_and]
  cases h : m.testBit p
  · rw [h] at k; exact gt (iff.mpr h) ⟨Or.inl rfl, k⟩
  · rw [h] at k; exact gf (by rw [iff, h]; simp) ⟨Or.inr rfl, k⟩
theorem v5_touches {T m p : Nat} {S : xS} {Q : Int32 → xS → Prop} (e : S.1 5 T 3 = nI m) (hm : m < 2 ^ 25) (hp : p < 25) (k : Q (b2 (m.testBit p)) S) : wp_X5_touches T (nI p) S Q := by
  unfold wp_X5_touches
  rw [e]
  exact v6_hasBit (by omega) hp ⟨b2_01 _, k⟩
def bOn (m p : Nat) : Nat := m ||| 2 ^ p
def bOff (m p : Nat) : Nat := m &&& (2 ^ p ^^^ (2 ^ 32 - 1))
theorem bOn_lt {m p : Nat} (hm : m < 2 ^ 25) (hp : p < 25) : bOn m p < 2 ^ 25 := Nat.or_lt_two_pow hm (Nat.pow_lt_pow_right (by omega) hp)
theorem bOff_lt {m p : Nat} (hm : m < 2 ^ 25) : bOff m p < 2 ^ 25 := Nat.lt_of_le_of_lt Nat.and_le_left hm
theorem bOn_bit {m p q : Nat} : (bOn m p).testBit q = (m.testBit q || decide (p = q)) := by
  unfold bOn; rw [Nat.testBit_or, Nat.testBit_two_pow]
theorem bOff_bit {m p q : Nat} (hq : q < 25) : (bOff m p).testBit q = (m.testBit q && !decide (p = q)) := by
  unfold bOff
  rw [Nat.testBit_and, Nat.testBit_xor, Nat.testBit_two_pow, Nat.testBit_two_pow_sub_one, decide_eq_true (show q < 32 by omega)]
  cases m.testBit q <;> by_cases h : p = q <;> simp [h]
theorem nI_on {m p : Nat} (hp : p < 25) : nI m ||| ((1 : Int32) <<< (nI p &&& 31)) = nI (bOn m p) := by rw [nI_bit' hp, nI_or]; rfl
theorem nI_off {m p : Nat} (hp : p < 25) : nI m &&& (((1 : Int32) <<< (nI p &&& 31)) ^^^ (-1)) = nI (bOff m p) := by rw [nI_bit' hp, nI_m1', nI_xor, nI_and]; rfl
section ERR
variable {n : Nat} {S M : xS}
theorem tupErr (I : Inv n S M) (a b : Int32) :
    (∃ e : Int32, e ≠ 0 ∧ ¬ 0 ≤ e ∧ (∀ Q, Q e S → wp_X6_tupleError a b S Q) ∧ (∀ Q, Q e M → wp_X7_tupleBarred a b M Q)) ∨
    (∃ g t, a = nI g ∧ b = nI t ∧ g < cntM M 9 ∧ t < rT (mrow M g) ∧ (∀ Q, Q 0 S → wp_X6_tupleError a b S Q) ∧ (∀ Q, Q 0 M → wp_X7_tupleBarred a b M Q)) := by
  obtain ⟨⟨h1, h2, h3⟩, h4, h5, h6⟩ := I.2.1
  have hS := h3.trans h2
  unfold wp_X6_tupleError wp_X7_tupleBarred wp_X6_tupleError_37 wp_X7_tupleBarred_28
  by_cases c : 0 ≤ a.toInt ∧ a.toInt < cntM M 9
  · obtain ⟨g, rfl, eg, hg⟩ := vv_nat c.1
    have hg9 : g < cntM M 9 := by omega
    obtain ⟨d1, d2, d3⟩ := h5 g hg9
    have eT : S.1 1 g 6 = nI (rT (mrow M g)) := d1.2.2.1.trans d2.2.2.2.1.2
    have hT := d2.2.2.2.1.1
    have z0 : (0 : Int32).toInt = 0 := rfl
    have z1 : (0 : Int64).toInt = 0 := rfl
    by_cases c2 : 0 ≤ b.toInt ∧ b.toInt ≤ (rT (mrow M g) : Int) - 1
    · refine Or.inr ?_
      obtain ⟨t, rfl, et, ht⟩ := vv_nat c2.1
      refine ⟨g, t, rfl, rfl, hg9, by omega, fun Q k => ?_, fun Q k => ?_⟩
      · refine v6_hasGlyph_t h1 hS hg9 (g1 ⟨vv_in (by omega) (by omega), ?_⟩)
        rw [vv_clI (by omega), eT]
        exact v6_within_t (by rw [l32_sub1 (by omega), z0]; exact c2) (g1 k)
      · refine v7_noGlyph_t h1 h2 hg9 (g0 ?_)
        unfold wp_X7_noTuple
        refine v7_of rfl nl3 (by omega) (by omega) ?_
        rw [d2.2.2.2.1.2]
        exact v7_in_t (by rw [l64_sub1 (by omega), z1, i2l_toInt]; exact c2) (g1 ⟨Or.inl rfl, g0 k⟩)
    · refine Or.inl ⟨-1000003, by decide, by decide, fun Q k => ?_, fun Q k => ?_⟩
      · refine v6_hasGlyph_t h1 hS hg9 (g1 ⟨vv_in (by omega) (by omega), ?_⟩)
        rw [vv_clI (by omega), eT]
        exact v6_within_f (by rw [l32_sub1 (by omega), z0]; exact c2) (g0 k)
      · refine v7_noGlyph_t h1 h2 hg9 (g0 ?_)
        unfold wp_X7_noTuple
        refine v7_of rfl nl3 (by omega) (by omega) ?_
        rw [d2.2.2.2.1.2]
        exact v7_in_f (by rw [l64_sub1 (by omega), z1, i2l_toInt]; exact c2) (g0 ⟨Or.inr rfl, g1 k⟩)
  · refine Or.inl ⟨-1000002, by decide, by decide, fun Q k => ?_, fun Q k => ?_⟩
    · exact v6_hasGlyph_f h1 hS c (g0 k)
    · exact v7_noGlyph_f h1 h2 c (g1 k)
theorem l32_add1 {x : Int32} (h : -1 ≤ x.toInt) (h2 : x.toInt < 100) : (x + 1).toInt = x.toInt + 1 := by
  rw [Int32.toInt_add, show (1 : Int32).toInt = 1 from rfl]
  apply Int.bmod_eq_of_le <;> omega
theorem ptErr (I : Inv n S M) (a b c : Int32) :
    (∃ e : Int32, e ≠ 0 ∧ ¬ 0 ≤ e ∧ (∀ Q, Q e S → wp_X6_pointError a b c S Q) ∧ (∀ Q, Q e M → wp_X7_pointBarred a b c M Q)) ∨
    (∃ g t pl, a = nI g ∧ b = nI t ∧ c + 1 = nI pl ∧ c.toInt = (pl : Int) - 1 ∧ g < cntM M 9 ∧ t < rT (mrow M g) ∧ pl ≤ rN (mrow M g) ∧ (∀ Q, Q 0 S → wp_X6_pointError a b c S Q) ∧ (∀ Q, Q 0 M → wp_X7_pointBarred a b c M Q)) := by
  unfold wp_X6_pointError wp_X7_pointBarred wp_X6_pointError_32 wp_X7_pointBarred_33
  rcases tupErr I a b with ⟨e, e1, e2, e3, e4⟩ | ⟨g, t, rfl, rfl, hg, ht, e3, e4⟩
  · exact Or.inl ⟨e, e1, e2, fun Q k => e3 _ (gf e1 k), fun Q k => e4 _ (gf e2 k)⟩
  · obtain ⟨⟨h1, h2, h3⟩, h4, h5, h6⟩ := I.2.1
    obtain ⟨d1, d2, d3⟩ := h5 g hg
    have eN : S.1 1 g 1 = nI (rN (mrow M g)) := d1.2.1.trans d2.2.1.2
    have hN := d2.2.1.1
    have z1 : (-1 : Int32).toInt = -1 := rfl
    have z2 : (-1 : Int64).toInt = -1 := rfl
    by_cases c2 : -1 ≤ c.toInt ∧ c.toInt ≤ (rN (mrow M g) : Int) - 1
    · refine Or.inr ⟨g, t, (c.toInt + 1).toNat, rfl, rfl, ?_, by omega, hg, ht, by omega, fun Q k => e3 _ (g0 ?_), fun Q k => e4 _ (gt (by decide) ?_)⟩
      · apply Int32.toInt_inj.mp
        rw [l32_add1 (by omega) (by omega), nI_toInt' (by omega)]
        omega
      · unfold wp_X6_hasPlace
        refine gf (by rw [i32_lt, z1]; omega) ⟨vv_in (by omega) (by omega), gf ?_ ⟨Or.inr rfl, g1 k⟩⟩
        rw [vv_clI (by omega), eN, i32_le, nI_toInt' (by omega)]; omega
      · unfold wp_X7_noPoint
        refine v7_of rfl nl2 (by omega) (by omega) ?_
        rw [d2.2.1.2]
        exact v7_in_t (by rw [l64_sub1 (by omega), z2, i2l_toInt]; exact c2) (g1 ⟨Or.inl rfl, g0 k⟩)
    · refine Or.inl ⟨-1000004, by decide, by decide, fun Q k => e3 _ (g0 ?_), fun Q k => e4 _ (gt (by decide) ?_)⟩
      · unfold wp_X6_hasPlace
        by_cases c3 : c < -1
        · exact gt c3 ⟨Or.inl rfl, g0 k⟩
        · rw [i32_lt, z1] at c3
          refine gf (by rw [i32_lt, z1]; exact c3) ⟨vv_in (by omega) (by omega), gt ?_ ⟨Or.inl rfl, g0 k⟩⟩
          rw [vv_clI (by omega), eN, i32_le, nI_toInt' (by omega)]; omega
      · unfold wp_X7_noPoint
        refine v7_of rfl nl2 (by omega) (by omega) ?_
        rw [d2.2.1.2]
        exact v7_in_f (by rw [l64_sub1 (by omega), z2, i2l_toInt]; exact c2) (g0 ⟨Or.inr rfl, g1 k⟩)
theorem v7_slot {c : Int32} {pl : Nat} {M : xS} {Q : Int32 → xS → Prop} (hc : c.toInt = (pl : Int) - 1) (hp : pl < 25) (k : Q (nI (slo pl)) M) : wp_X7_slot c M Q := by
  unfold wp_X7_slot wp_X7_slot_10
  unfold slo at k
  have z0 : (0 : Int32).toInt = 0 := rfl
  by_cases e : pl = 0
  · rw [if_pos e] at k
    exact gf (by rw [i32_le, z0]; omega) k
  · rw [if_neg e] at k
    have : c = nI (pl - 1) := by apply Int32.toInt_inj.mp; rw [nI_toInt' (by omega)]; omega
    exact gt (by rw [i32_le, z0]; omega) (by rw [this]; exact k)
theorem v7_touches {g t s : Nat} {M : xS} {Q : Int32 → xS → Prop} (hg : g < 6) (ht : t < 5) (hs : s < 25) (k : Q (b2 (decide (fl (mrow M g) t s = 1))) M) : wp_X7_touches (nI g) (nI t) (nI s) M Q := by
  unfold wp_X7_touches wp_X7_tupleAt wp_X7_touches_23
  refine v7_of (y := tb t + 12 + s) rfl (by simp only [nl76, nl87, nl12, vv_mul, nI_add]; rfl) hg (by unfold tb; omega) ?_
  show if fl (mrow M g) t s = 1 then _ else _
  by_cases c : fl (mrow M g) t s = 1
  · rw [decide_eq_true c] at k
    exact gt c ⟨Or.inr rfl, k⟩
  · rw [decide_eq_false c] at k
    exact gf c ⟨Or.inl rfl, k⟩
end ERR
