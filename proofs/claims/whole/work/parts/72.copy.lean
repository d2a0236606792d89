def cpC (S : xS) (k a b : Nat) (N : Int32) : xS := xC S k a (va_cpy (S.1 k b) (S.1 k a) (0 : Int32).toNatClampNeg (0 : Int32).toNatClampNeg N.toNatClampNeg)
def cpI (S : xS) (k a b j : Nat) : xS := xI S k a j (S.1 k b j)
theorem cpC_k {S : xS} {k a b k' : Nat} {N : Int32} (h : k' ≠ k) : (cpC S k a b N).1 k' = S.1 k' := xC_k h
theorem cpC_z {S : xS} {k a b k' z : Nat} {N : Int32} (h : z ≠ a) : (cpC S k a b N).1 k' z = S.1 k' z := by
  funext j
  unfold cpC
  rw [xC_1, if_neg (by omega)]
theorem cpC_v {S : xS} {k a b j n : Nat} {N : Int32} (hN : N = nI n) (hn : n < 1000) (hj : j < n) : (cpC S k a b N).1 k a j = S.1 k b j := by
  subst hN
  unfold cpC
  rw [xC_1, if_pos ⟨rfl, rfl⟩]
  unfold va_cpy
  rw [show (0 : Int32).toNatClampNeg = 0 from rfl, vv_clI (by omega), if_pos (by omega)]
  rw [show 0 + (j - 0) = j by omega]
theorem cpI_k {S : xS} {k a b j k' : Nat} (h : k' ≠ k) : (cpI S k a b j).1 k' = S.1 k' := xI_k h
theorem cpI_z {S : xS} {k a b j k' z : Nat} (h : z ≠ a) : (cpI S k a b j).1 k' z = S.1 k' z := by
  funext w
  unfold cpI
  rw [xI_1, if_neg (by omega)]
theorem cpI_v {S : xS} {k a b j : Nat} : (cpI S k a b j).1 k a j = S.1 k b j := xI_s _ _ _ _ _
theorem cpI_n {S : xS} {k a b j w : Nat} (h : w ≠ j) : (cpI S k a b j).1 k a w = S.1 k a w := by
  unfold cpI
  rw [xI_1, if_neg (by omega)]
def c5S (S : xS) (a b : Nat) : xS := cpC (cpC (cpI (cpC (cpC (cpC S 24 a b 4) 25 a b 4) 26 a b 4) 5 a b 3) 27 a b 25) 28 a b 25
def cOk (N : Int32) (n : Nat) : Prop := ¬ (0 : Int32) < 0 ∧ ¬ (0 : Int32) < 0 ∧ ¬ N < 0 ∧ (0 : Int32).toNatClampNeg + N.toNatClampNeg ≤ n ∧ (0 : Int32).toNatClampNeg + N.toNatClampNeg ≤ n
theorem cOk_i {n : Nat} (h : n < 1000) : cOk (nI n) n := by
  have z : (0 : Int32).toNatClampNeg = 0 := rfl
  refine ⟨by decide, by decide, by rw [nl0, vv_lt (by omega) (by omega)]; omega, ?_, ?_⟩ <;> rw [z, vv_clI (by omega)] <;> omega
theorem w5_copy {a b : Nat} {S : xS} {Q : xS → Prop} (k : Q (c5S S a b)) : wp_X5_copyFrom a b S Q := by
  show cOk 4 4 ∧ cOk 4 4 ∧ cOk 4 4 ∧ cOk 25 25 ∧ cOk 25 25 ∧ Q (c5S S a b)
  exact ⟨cOk_i (n := 4) (by omega), cOk_i (n := 4) (by omega), cOk_i (n := 4) (by omega), cOk_i (n := 25) (by omega), cOk_i (n := 25) (by omega), k⟩
def c1S (S : xS) (a b : Nat) : xS := cpI (cpC (cpC (cpC (cpC (cpI (cpI S 1 a b 0) 1 a b 1) 12 a b 25) 13 a b 25) 14 a b 25) 15 a b 5) 1 a b 6
theorem w1_copy0 {a b : Nat} {S : xS} {Q : xS → Prop} (h : S.1 1 b 0 = 0 ∨ S.1 1 b 0 = 1) (k : ∃ n, wp_X1_copyFrom_85 a b Q n (c1S S a b) 0) : wp_X1_copyFrom a b S Q := by
  show (S.1 1 b 0 = 0 ∨ S.1 1 b 0 = 1) ∧ cOk 25 25 ∧ cOk 25 25 ∧ cOk 25 25 ∧ cOk 5 5 ∧ (∃ n, wp_X1_copyFrom_85 a b Q n (c1S S a b) 0)
  exact ⟨h, cOk_i (n := 25) (by omega), cOk_i (n := 25) (by omega), cOk_i (n := 25) (by omega), cOk_i (n := 5) (by omega), k⟩
