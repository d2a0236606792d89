theorem xI_1 (S : xS) (k i j : Nat) (v : Int32) (k' i' j' : Nat) : (xI S k i j v).1 k' i' j' = if k' = k ∧ i' = i ∧ j' = j then v else S.1 k' i' j' := by
  simp only [xI, xRow, xU]
  by_cases h1 : k' = k
  · subst h1
    by_cases h2 : i' = i
    · subst h2
      by_cases h3 : j' = j <;> simp [h3, xU]
    · simp [h2]
  · simp [h1]
theorem xI_2 (S : xS) (k i j : Nat) (v : Int32) : (xI S k i j v).2 = S.2 := rfl
theorem xJ_1 (S : xS) (k i j : Nat) (v : Int64) : (xJ S k i j v).1 = S.1 := rfl
theorem xJ_21 (S : xS) (k i j : Nat) (v : Int64) (k' i' j' : Nat) : (xJ S k i j v).2.1 k' i' j' = if k' = k ∧ i' = i ∧ j' = j then v else S.2.1 k' i' j' := by
  simp only [xJ, xRow, xU]
  by_cases h1 : k' = k
  · subst h1
    by_cases h2 : i' = i
    · subst h2
      by_cases h3 : j' = j <;> simp [h3, xU]
    · simp [h2]
  · simp [h1]
theorem xJ_22 (S : xS) (k i j : Nat) (v : Int64) : (xJ S k i j v).2.2 = S.2.2 := rfl
theorem xR_1 (S : xS) (k i j v : Nat) : (xR S k i j v).1 = S.1 := rfl
theorem xR_21 (S : xS) (k i j v : Nat) : (xR S k i j v).2.1 = S.2.1 := rfl
theorem xR_22 (S : xS) (k i j v k' i' j' : Nat) : (xR S k i j v).2.2 k' i' j' = if k' = k ∧ i' = i ∧ j' = j then v else S.2.2 k' i' j' := by
  simp only [xR, xRow, xU]
  by_cases h1 : k' = k
  · subst h1
    by_cases h2 : i' = i
    · subst h2
      by_cases h3 : j' = j <;> simp [h3, xU]
    · simp [h2]
  · simp [h1]
theorem xC_1 (S : xS) (k i : Nat) (r : Nat → Int32) (k' i' j' : Nat) : (xC S k i r).1 k' i' j' = if k' = k ∧ i' = i then r j' else S.1 k' i' j' := by
  simp only [xC, xRow]
  by_cases h1 : k' = k
  · subst h1
    by_cases h2 : i' = i <;> simp [h2]
  · simp [h1]
theorem xC_2 (S : xS) (k i : Nat) (r : Nat → Int32) : (xC S k i r).2 = S.2 := rfl
theorem wl0 (L : Nat → xS → Prop) (B : (xS → Prop) → xS → Prop) (hL : ∀ n S, L (n + 1) S = B (L n) S) (I : xS → Prop) (μ : xS → Nat) {S : xS} (h : I S)
    (step : ∀ S K, I S → (∀ S', I S' → μ S' < μ S → K S') → B K S) : ∃ n, L n S := by
  refine ⟨μ S + 1, ?_⟩
  have key : ∀ n S, I S → μ S < n → L n S := by
    intro n
    induction n with
    | zero => intro S _ h; omega
    | succ n ih => intro S h1 h2; rw [hL]; exact step S _ h1 (fun S' h3 h4 => ih S' h3 (by omega))
  exact key _ S h (by omega)
theorem wl1 {α : Type} (L : Nat → xS → α → Prop) (B : (xS → α → Prop) → xS → α → Prop) (hL : ∀ n S a, L (n + 1) S a = B (L n) S a) (I : xS → α → Prop) (μ : xS → α → Nat) {S : xS} {a : α} (h : I S a)
    (step : ∀ S a K, I S a → (∀ S' a', I S' a' → μ S' a' < μ S a → K S' a') → B K S a) : ∃ n, L n S a := by
  refine ⟨μ S a + 1, ?_⟩
  have key : ∀ n S a, I S a → μ S a < n → L n S a := by
    intro n
    induction n with
    | zero => intro S a _ h; omega
    | succ n ih => intro S a h1 h2; rw [hL]; exact step S a _ h1 (fun S' a' h3 h4 => ih S' a' h3 (by omega))
  exact key _ S a h (by omega)
theorem wl2 {α β : Type} (L : Nat → xS → α → β → Prop) (B : (xS → α → β → Prop) → xS → α → β → Prop) (hL : ∀ n S a b, L (n + 1) S a b = B (L n) S a b) (I : xS → α → β → Prop) (μ : xS → α → β → Nat) {S : xS} {a : α} {b : β} (h : I S a b)
    (step : ∀ S a b K, I S a b → (∀ S' a' b', I S' a' b' → μ S' a' b' < μ S a b → K S' a' b') → B K S a b) : ∃ n, L n S a b := by
  refine ⟨μ S a b + 1, ?_⟩
  have key : ∀ n S a b, I S a b → μ S a b < n → L n S a b := by
    intro n
    induction n with
    | zero => intro S a b _ h; omega
    | succ n ih => intro S a b h1 h2; rw [hL]; exact step S a b _ h1 (fun S' a' b' h3 h4 => ih S' a' b' h3 (by omega))
  exact key _ S a b h (by omega)
theorem wl3 {α β γ : Type} (L : Nat → xS → α → β → γ → Prop) (B : (xS → α → β → γ → Prop) → xS → α → β → γ → Prop) (hL : ∀ n S a b c, L (n + 1) S a b c = B (L n) S a b c) (I : xS → α → β → γ → Prop) (μ : xS → α → β → γ → Nat) {S : xS} {a : α} {b : β} {c : γ} (h : I S a b c)
    (step : ∀ S a b c K, I S a b c → (∀ S' a' b' c', I S' a' b' c' → μ S' a' b' c' < μ S a b c → K S' a' b' c') → B K S a b c) : ∃ n, L n S a b c := by
  refine ⟨μ S a b c + 1, ?_⟩
  have key : ∀ n S a b c, I S a b c → μ S a b c < n → L n S a b c := by
    intro n
    induction n with
    | zero => intro S a b c _ h; omega
    | succ n ih => intro S a b c h1 h2; rw [hL]; exact step S a b c _ h1 (fun S' a' b' c' h3 h4 => ih S' a' b' c' h3 (by omega))
  exact key _ S a b c h (by omega)
def b2 (b : Bool) : Int32 := if b then 1 else 0
theorem b2_0 (b : Bool) : (b2 b = 0) = (b = false) := by cases b <;> simp [b2]
theorem b2_01 (b : Bool) : b2 b = 0 ∨ b2 b = 1 := by cases b <;> simp [b2]
theorem i32_lt {x y : Int32} : x < y ↔ x.toInt < y.toInt := Int32.lt_iff_toInt_lt
theorem i32_le {x y : Int32} : x ≤ y ↔ x.toInt ≤ y.toInt := Int32.le_iff_toInt_le
theorem i64_lt {x y : Int64} : x < y ↔ x.toInt < y.toInt := Int64.lt_iff_toInt_lt
theorem i64_le {x y : Int64} : x ≤ y ↔ x.toInt ≤ y.toInt := Int64.le_iff_toInt_le
theorem cmp_lt0 (x y : Int64) : (lg_cmp x y < 0) = (x < y) := by
  unfold lg_cmp
  by_cases h1 : y < x
  · have : ¬ x < y := by rw [i64_lt] at *; omega
    simp [h1, this]
  · by_cases h2 : x = y
    · subst h2; simp [h1]
    · have : x < y := by
        have h3 : x.toInt ≠ y.toInt := fun e => h2 (Int64.toInt_inj.mp e)
        rw [i64_lt] at *; omega
      simp [h1, h2, this]
theorem cmp_gt0 (x y : Int64) : (0 < lg_cmp x y) = (y < x) := by
  unfold lg_cmp
  by_cases h1 : y < x
  · simp [h1]
  · by_cases h2 : x = y
    · subst h2; simp [h1]
    · simp [h1, h2]
theorem cmp_le0 (x y : Int64) : (lg_cmp x y ≤ 0) = ¬ (y < x) := by
  unfold lg_cmp
  by_cases h1 : y < x
  · simp [h1]
  · by_cases h2 : x = y
    · subst h2; simp [h1]
    · simp [h1, h2]
theorem cmp_ge0 (x y : Int64) : (0 ≤ lg_cmp x y) = ¬ (x < y) := by
  unfold lg_cmp
  by_cases h1 : y < x
  · have : ¬ x < y := by rw [i64_lt] at *; omega
    simp [h1, this]
  · by_cases h2 : x = y
    · subst h2; simp [h1]
    · have : x < y := by
        have h3 : x.toInt ≠ y.toInt := fun e => h2 (Int64.toInt_inj.mp e)
        rw [i64_lt] at *; omega
      simp [h1, h2, this]
theorem cmp_eq0 (x y : Int64) : (lg_cmp x y = 0) = (x = y) := by
  unfold lg_cmp
  by_cases h1 : y < x
  · have : ¬ x = y := by intro e; subst e; rw [i64_lt] at h1; omega
    simp [h1, this]
  · by_cases h2 : x = y
    · simp [h2]
    · simp [h1, h2]
theorem vin_iff {x : Int32} {n : Nat} : vp_in x n ↔ 0 ≤ x.toInt ∧ x.toInt < n := vp_in_iff
theorem v6_within {x l h : Int32} {S : xS} {Q : Int32 → xS → Prop} (k : Q (b2 (decide (l.toInt ≤ x.toInt ∧ x.toInt ≤ h.toInt))) S) : wp_X6_within x l h S Q := by
  unfold wp_X6_within
  by_cases h1 : x < l
  · rw [if_pos h1]
    rw [i32_lt] at h1
    rw [show decide (l.toInt ≤ x.toInt ∧ x.toInt ≤ h.toInt) = false by simp; omega] at k
    exact ⟨Or.inl rfl, k⟩
  · rw [if_neg h1]
    by_cases h2 : h < x
    · rw [if_pos h2]
      rw [i32_lt] at h2
      rw [show decide (l.toInt ≤ x.toInt ∧ x.toInt ≤ h.toInt) = false by simp; omega] at k
      exact ⟨Or.inl rfl, k⟩
    · rw [if_neg h2]
      rw [i32_lt] at h1 h2
      rw [show decide (l.toInt ≤ x.toInt ∧ x.toInt ≤ h.toInt) = true by simp; omega] at k
      exact ⟨Or.inr rfl, k⟩
theorem v7_in {x l h : Int64} {S : xS} {Q : Int32 → xS → Prop} (k : Q (b2 (decide (l.toInt ≤ x.toInt ∧ x.toInt ≤ h.toInt))) S) : wp_X7_in x l h S Q := by
  unfold wp_X7_in
  simp only [cmp_lt0, cmp_gt0]
  by_cases h1 : x < l
  · rw [if_pos h1]
    rw [i64_lt] at h1
    rw [show decide (l.toInt ≤ x.toInt ∧ x.toInt ≤ h.toInt) = false by simp; omega] at k
    exact ⟨Or.inl rfl, k⟩
  · rw [if_neg h1]
    by_cases h2 : h < x
    · rw [if_pos h2]
      rw [i64_lt] at h2
      rw [show decide (l.toInt ≤ x.toInt ∧ x.toInt ≤ h.toInt) = false by simp; omega] at k
      exact ⟨Or.inl rfl, k⟩
    · rw [if_neg h2]
      rw [i64_lt] at h1 h2
      rw [show decide (l.toInt ≤ x.toInt ∧ x.toInt ≤ h.toInt) = true by simp; omega] at k
      exact ⟨Or.inr rfl, k⟩
