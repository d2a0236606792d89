theorem lc_200 {n L : Nat} {xs : Nat → Int32} {K : xS → xS → Int32 → Prop} {S M : xS} {v3 : Int32} (I : Inv n S M) (hn : n ≤ 600) (e1 : vp_in (v3 + 1) L = True) (e2 : vp_in (v3 + 2) L = True) (e3 : vp_in (v3 + 3) L = True) (e4 : vp_in (v3 + 4) L = True) (e5 : vp_in (v3 + 5) L = True) (e6 : vp_in (v3 + 6) L = True) (hK : ∀ S' M', Inv (n + 1) S' M' → K S' M' (v3 + 7)) : wl_200 L xs K S M v3 := by
  unfold wl_200 wl_1600
  simp only [e1, e2, e3, e4, e5, e6, true_and]
  exact op_addAxis (K := fun S' M' => K S' M' (v3 + 7)) I _ _ _ hK
theorem lc_243 {n L : Nat} {xs : Nat → Int32} {K : xS → xS → Int32 → Prop} {S M : xS} {v3 : Int32} (I : Inv n S M) (hn : n ≤ 600) (e1 : vp_in (v3 + 1) L = True) (e2 : vp_in (v3 + 2) L = True) (e3 : vp_in (v3 + 3) L = True) (e4 : vp_in (v3 + 4) L = True) (e5 : vp_in (v3 + 5) L = True) (e6 : vp_in (v3 + 6) L = True) (hK : ∀ S' M', Inv (n + 1) S' M' → K S' M' (v3 + 7)) : wl_243 L xs K S M v3 := by
  unfold wl_243 wl_1600
  simp only [e1, e2, e3, e4, e5, e6, true_and]
  exact op_addMapPair (K := fun S' M' => K S' M' (v3 + 7)) I _ _ _ hK
theorem lc_286 {n L : Nat} {xs : Nat → Int32} {K : xS → xS → Int32 → Prop} {S M : xS} {v3 : Int32} (I : Inv n S M) (hn : n ≤ 600) (e1 : vp_in (v3 + 1) L = True) (e2 : vp_in (v3 + 2) L = True) (e3 : vp_in (v3 + 3) L = True) (e4 : vp_in (v3 + 4) L = True) (e5 : vp_in (v3 + 5) L = True) (e6 : vp_in (v3 + 6) L = True) (hK : ∀ S' M', Inv (n + 1) S' M' → K S' M' (v3 + 7)) : wl_286 L xs K S M v3 := by
  unfold wl_286 wl_1600
  simp only [e1, e2, e3, e4, e5, e6, true_and]
  exact op_normalize (K := fun S' M' => K S' M' (v3 + 7)) I _ _ hK
theorem lc_319 {n L : Nat} {xs : Nat → Int32} {K : xS → xS → Int32 → Prop} {S M : xS} {v3 : Int32} (I : Inv n S M) (hn : n ≤ 600) (e1 : vp_in (v3 + 1) L = True) (e2 : vp_in (v3 + 2) L = True) (e3 : vp_in (v3 + 3) L = True) (e4 : vp_in (v3 + 4) L = True) (e5 : vp_in (v3 + 5) L = True) (e6 : vp_in (v3 + 6) L = True) (hK : ∀ S' M', Inv (n + 1) S' M' → K S' M' (v3 + 7)) : wl_319 L xs K S M v3 := by
  unfold wl_319 wl_1600
  simp only [e1, e2, e3, e4, e5, e6, true_and]
  exact op_setUser (K := fun S' M' => K S' M' (v3 + 7)) I _ _ hK
theorem lc_352 {n L : Nat} {xs : Nat → Int32} {K : xS → xS → Int32 → Prop} {S M : xS} {v3 : Int32} (I : Inv n S M) (hn : n ≤ 600) (e1 : vp_in (v3 + 1) L = True) (e2 : vp_in (v3 + 2) L = True) (e3 : vp_in (v3 + 3) L = True) (e4 : vp_in (v3 + 4) L = True) (e5 : vp_in (v3 + 5) L = True) (e6 : vp_in (v3 + 6) L = True) (hK : ∀ S' M', Inv (n + 1) S' M' → K S' M' (v3 + 7)) : wl_352 L xs K S M v3 := by
  unfold wl_352 wl_1600
  simp only [e1, e2, e3, e4, e5, e6, true_and]
  exact op_setCoordinate (K := fun S' M' => K S' M' (v3 + 7)) I _ _ hK
theorem lc_385 {n L : Nat} {xs : Nat → Int32} {K : xS → xS → Int32 → Prop} {S M : xS} {v3 : Int32} (I : Inv n S M) (hn : n ≤ 600) (e1 : vp_in (v3 + 1) L = True) (e2 : vp_in (v3 + 2) L = True) (e3 : vp_in (v3 + 3) L = True) (e4 : vp_in (v3 + 4) L = True) (e5 : vp_in (v3 + 5) L = True) (e6 : vp_in (v3 + 6) L = True) (hK : ∀ S' M', Inv (n + 1) S' M' → K S' M' (v3 + 7)) : wl_385 L xs K S M v3 := by
  unfold wl_385 wl_404 wl_426 wl_1600
  simp only [e1, e2, e3, e4, e5, e6, true_and]
  by_cases c : xs (v3 + 2).toNatClampNeg = 0
  · simp only [if_pos c]
    exact op_pin (K := fun S' M' => K S' M' (v3 + 7)) I _ 0 (Or.inl rfl) hK
  · simp only [if_neg c]
    exact op_pin (K := fun S' M' => K S' M' (v3 + 7)) I _ 1 (Or.inr rfl) hK
theorem lc_434 {n L : Nat} {xs : Nat → Int32} {K : xS → xS → Int32 → Prop} {S M : xS} {v3 : Int32} (I : Inv n S M) (hn : n ≤ 600) (e1 : vp_in (v3 + 1) L = True) (e2 : vp_in (v3 + 2) L = True) (e3 : vp_in (v3 + 3) L = True) (e4 : vp_in (v3 + 4) L = True) (e5 : vp_in (v3 + 5) L = True) (e6 : vp_in (v3 + 6) L = True) (hK : ∀ S' M', Inv (n + 1) S' M' → K S' M' (v3 + 7)) : wl_434 L xs K S M v3 := by
  unfold wl_434 wl_1600
  simp only [e1, e2, e3, e4, e5, e6, true_and]
  exact op_axisValue (K := fun S' M' => K S' M' (v3 + 7)) I _ _ hK
theorem lc_467 {n L : Nat} {xs : Nat → Int32} {K : xS → xS → Int32 → Prop} {S M : xS} {v3 : Int32} (I : Inv n S M) (hn : n ≤ 600) (e1 : vp_in (v3 + 1) L = True) (e2 : vp_in (v3 + 2) L = True) (e3 : vp_in (v3 + 3) L = True) (e4 : vp_in (v3 + 4) L = True) (e5 : vp_in (v3 + 5) L = True) (e6 : vp_in (v3 + 6) L = True) (hK : ∀ S' M', Inv (n + 1) S' M' → K S' M' (v3 + 7)) : wl_467 L xs K S M v3 := by
  unfold wl_467 wl_481 wl_503 wl_1600
  simp only [e1, e2, e3, e4, e5, e6, true_and]
  by_cases c : xs (v3 + 1).toNatClampNeg = 0
  · simp only [if_pos c]
    exact op_addGlyph (K := fun S' M' => K S' M' (v3 + 7)) I 0 _ (Or.inl rfl) hK
  · simp only [if_neg c]
    exact op_addGlyph (K := fun S' M' => K S' M' (v3 + 7)) I 1 _ (Or.inr rfl) hK
theorem lc_516 {n L : Nat} {xs : Nat → Int32} {K : xS → xS → Int32 → Prop} {S M : xS} {v3 : Int32} (I : Inv n S M) (hn : n ≤ 600) (e1 : vp_in (v3 + 1) L = True) (e2 : vp_in (v3 + 2) L = True) (e3 : vp_in (v3 + 3) L = True) (e4 : vp_in (v3 + 4) L = True) (e5 : vp_in (v3 + 5) L = True) (e6 : vp_in (v3 + 6) L = True) (hK : ∀ S' M', Inv (n + 1) S' M' → K S' M' (v3 + 7)) : wl_516 L xs K S M v3 := by
  unfold wl_516 wl_545 wl_577 wl_1600
  simp only [e1, e2, e3, e4, e5, e6, true_and]
  by_cases c : xs (v3 + 4).toNatClampNeg = 0
  · simp only [if_pos c]
    exact op_addPoint (K := fun S' M' => K S' M' (v3 + 7)) I _ _ _ 0 (Or.inl rfl) hK
  · simp only [if_neg c]
    exact op_addPoint (K := fun S' M' => K S' M' (v3 + 7)) I _ _ _ 1 (Or.inr rfl) hK
theorem lc_585 {n L : Nat} {xs : Nat → Int32} {K : xS → xS → Int32 → Prop} {S M : xS} {v3 : Int32} (I : Inv n S M) (hn : n ≤ 600) (e1 : vp_in (v3 + 1) L = True) (e2 : vp_in (v3 + 2) L = True) (e3 : vp_in (v3 + 3) L = True) (e4 : vp_in (v3 + 4) L = True) (e5 : vp_in (v3 + 5) L = True) (e6 : vp_in (v3 + 6) L = True) (hK : ∀ S' M', Inv (n + 1) S' M' → K S' M' (v3 + 7)) : wl_585 L xs K S M v3 := by
  unfold wl_585 wl_1600
  simp only [e1, e2, e3, e4, e5, e6, true_and]
  exact op_addComponent (K := fun S' M' => K S' M' (v3 + 7)) I hn _ _ _ _ hK
theorem lc_638 {n L : Nat} {xs : Nat → Int32} {K : xS → xS → Int32 → Prop} {S M : xS} {v3 : Int32} (I : Inv n S M) (hn : n ≤ 600) (e1 : vp_in (v3 + 1) L = True) (e2 : vp_in (v3 + 2) L = True) (e3 : vp_in (v3 + 3) L = True) (e4 : vp_in (v3 + 4) L = True) (e5 : vp_in (v3 + 5) L = True) (e6 : vp_in (v3 + 6) L = True) (hK : ∀ S' M', Inv (n + 1) S' M' → K S' M' (v3 + 7)) : wl_638 L xs K S M v3 := by
  unfold wl_638 wl_1600
  simp only [e1, e2, e3, e4, e5, e6, true_and]
  exact op_glyphValue (K := fun S' M' => K S' M' (v3 + 7)) I hn _ _ hK
theorem lc_671 {n L : Nat} {xs : Nat → Int32} {K : xS → xS → Int32 → Prop} {S M : xS} {v3 : Int32} (I : Inv n S M) (hn : n ≤ 600) (e1 : vp_in (v3 + 1) L = True) (e2 : vp_in (v3 + 2) L = True) (e3 : vp_in (v3 + 3) L = True) (e4 : vp_in (v3 + 4) L = True) (e5 : vp_in (v3 + 5) L = True) (e6 : vp_in (v3 + 6) L = True) (hK : ∀ S' M', Inv (n + 1) S' M' → K S' M' (v3 + 7)) : wl_671 L xs K S M v3 := by
  unfold wl_671 wl_1600
  simp only [e1, e2, e3, e4, e5, e6, true_and]
  exact op_addTuple (K := fun S' M' => K S' M' (v3 + 7)) I _ hK
theorem lc_694 {n L : Nat} {xs : Nat → Int32} {K : xS → xS → Int32 → Prop} {S M : xS} {v3 : Int32} (I : Inv n S M) (hn : n ≤ 600) (e1 : vp_in (v3 + 1) L = True) (e2 : vp_in (v3 + 2) L = True) (e3 : vp_in (v3 + 3) L = True) (e4 : vp_in (v3 + 4) L = True) (e5 : vp_in (v3 + 5) L = True) (e6 : vp_in (v3 + 6) L = True) (hK : ∀ S' M', Inv (n + 1) S' M' → K S' M' (v3 + 7)) : wl_694 L xs K S M v3 := by
  unfold wl_694 wl_1600
  simp only [e1, e2, e3, e4, e5, e6, true_and]
  exact op_setRegion (K := fun S' M' => K S' M' (v3 + 7)) I _ _ _ _ _ _ hK
theorem lc_769 {n L : Nat} {xs : Nat → Int32} {K : xS → xS → Int32 → Prop} {S M : xS} {v3 : Int32} (I : Inv n S M) (hn : n ≤ 600) (e1 : vp_in (v3 + 1) L = True) (e2 : vp_in (v3 + 2) L = True) (e3 : vp_in (v3 + 3) L = True) (e4 : vp_in (v3 + 4) L = True) (e5 : vp_in (v3 + 5) L = True) (e6 : vp_in (v3 + 6) L = True) (hK : ∀ S' M', Inv (n + 1) S' M' → K S' M' (v3 + 7)) : wl_769 L xs K S M v3 := by
  unfold wl_769 wl_1600
  simp only [e1, e2, e3, e4, e5, e6, true_and]
  exact op_touch (K := fun S' M' => K S' M' (v3 + 7)) I _ _ _ _ _ hK
theorem lc_832 {n L : Nat} {xs : Nat → Int32} {K : xS → xS → Int32 → Prop} {S M : xS} {v3 : Int32} (I : Inv n S M) (hn : n ≤ 600) (e1 : vp_in (v3 + 1) L = True) (e2 : vp_in (v3 + 2) L = True) (e3 : vp_in (v3 + 3) L = True) (e4 : vp_in (v3 + 4) L = True) (e5 : vp_in (v3 + 5) L = True) (e6 : vp_in (v3 + 6) L = True) (hK : ∀ S' M', Inv (n + 1) S' M' → K S' M' (v3 + 7)) : wl_832 L xs K S M v3 := by
  unfold wl_832 wl_1600
  simp only [e1, e2, e3, e4, e5, e6, true_and]
  exact op_release (K := fun S' M' => K S' M' (v3 + 7)) I _ _ _ hK
theorem lc_875 {n L : Nat} {xs : Nat → Int32} {K : xS → xS → Int32 → Prop} {S M : xS} {v3 : Int32} (I : Inv n S M) (hn : n ≤ 600) (e1 : vp_in (v3 + 1) L = True) (e2 : vp_in (v3 + 2) L = True) (e3 : vp_in (v3 + 3) L = True) (e4 : vp_in (v3 + 4) L = True) (e5 : vp_in (v3 + 5) L = True) (e6 : vp_in (v3 + 6) L = True) (hK : ∀ S' M', Inv (n + 1) S' M' → K S' M' (v3 + 7)) : wl_875 L xs K S M v3 := by
  unfold wl_875 wl_904 wl_936 wl_1600
  simp only [e1, e2, e3, e4, e5, e6, true_and]
  by_cases c : xs (v3 + 4).toNatClampNeg = 0
  · simp only [if_pos c]
    exact op_delta (K := fun S' M' => K S' M' (v3 + 7)) I hn _ _ _ 0 hK
  · simp only [if_neg c]
    exact op_delta (K := fun S' M' => K S' M' (v3 + 7)) I hn _ _ _ 1 hK
theorem lc_944 {n L : Nat} {xs : Nat → Int32} {K : xS → xS → Int32 → Prop} {S M : xS} {v3 : Int32} (I : Inv n S M) (hn : n ≤ 600) (e1 : vp_in (v3 + 1) L = True) (e2 : vp_in (v3 + 2) L = True) (e3 : vp_in (v3 + 3) L = True) (e4 : vp_in (v3 + 4) L = True) (e5 : vp_in (v3 + 5) L = True) (e6 : vp_in (v3 + 6) L = True) (hK : ∀ S' M', Inv (n + 1) S' M' → K S' M' (v3 + 7)) : wl_944 L xs K S M v3 := by
  unfold wl_944 wl_1600
  simp only [e1, e2, e3, e4, e5, e6, true_and]
  exact op_touchedCount (K := fun S' M' => K S' M' (v3 + 7)) I _ _ hK
theorem lc_977 {n L : Nat} {xs : Nat → Int32} {K : xS → xS → Int32 → Prop} {S M : xS} {v3 : Int32} (I : Inv n S M) (hn : n ≤ 600) (e1 : vp_in (v3 + 1) L = True) (e2 : vp_in (v3 + 2) L = True) (e3 : vp_in (v3 + 3) L = True) (e4 : vp_in (v3 + 4) L = True) (e5 : vp_in (v3 + 5) L = True) (e6 : vp_in (v3 + 6) L = True) (hK : ∀ S' M', Inv (n + 1) S' M' → K S' M' (v3 + 7)) : wl_977 L xs K S M v3 := by
  unfold wl_977 wl_1600
  simp only [e1, e2, e3, e4, e5, e6, true_and]
  exact op_scalar (K := fun S' M' => K S' M' (v3 + 7)) I _ _ hK
theorem lc_1010 {n L : Nat} {xs : Nat → Int32} {K : xS → xS → Int32 → Prop} {S M : xS} {v3 : Int32} (I : Inv n S M) (hn : n ≤ 600) (e1 : vp_in (v3 + 1) L = True) (e2 : vp_in (v3 + 2) L = True) (e3 : vp_in (v3 + 3) L = True) (e4 : vp_in (v3 + 4) L = True) (e5 : vp_in (v3 + 5) L = True) (e6 : vp_in (v3 + 6) L = True) (hK : ∀ S' M', Inv (n + 1) S' M' → K S' M' (v3 + 7)) : wl_1010 L xs K S M v3 := by
  unfold wl_1010 wl_1068 wl_1066 wl_1600
  simp only [e1, e2, e3, e4, e5, e6, true_and]
  exact op_share (K := fun S' M' => K S' M' (v3 + 7)) I _ _ hK
theorem lc_1071 {n L : Nat} {xs : Nat → Int32} {K : xS → xS → Int32 → Prop} {S M : xS} {v3 : Int32} (I : Inv n S M) (hn : n ≤ 600) (e1 : vp_in (v3 + 1) L = True) (e2 : vp_in (v3 + 2) L = True) (e3 : vp_in (v3 + 3) L = True) (e4 : vp_in (v3 + 4) L = True) (e5 : vp_in (v3 + 5) L = True) (e6 : vp_in (v3 + 6) L = True) (hK : ∀ S' M', Inv (n + 1) S' M' → K S' M' (v3 + 7)) : wl_1071 L xs K S M v3 := by
  unfold wl_1071 wl_1600
  simp only [e1, e2, e3, e4, e5, e6, true_and]
  exact op_position (K := fun S' M' => K S' M' (v3 + 7)) I hn _ _ _ hK
theorem lc_1115 {n L : Nat} {xs : Nat → Int32} {K : xS → xS → Int32 → Prop} {S M : xS} {v3 : Int32} (I : Inv n S M) (hn : n ≤ 600) (e1 : vp_in (v3 + 1) L = True) (e2 : vp_in (v3 + 2) L = True) (e3 : vp_in (v3 + 3) L = True) (e4 : vp_in (v3 + 4) L = True) (e5 : vp_in (v3 + 5) L = True) (e6 : vp_in (v3 + 6) L = True) (hK : ∀ S' M', Inv (n + 1) S' M' → K S' M' (v3 + 7)) : wl_1115 L xs K S M v3 := by
  unfold wl_1115 wl_1600
  simp only [e1, e2, e3, e4, e5, e6, true_and]
  exact op_outline (K := fun S' M' => K S' M' (v3 + 7)) I hn _ _ _ hK
theorem lc_1159 {n L : Nat} {xs : Nat → Int32} {K : xS → xS → Int32 → Prop} {S M : xS} {v3 : Int32} (I : Inv n S M) (hn : n ≤ 600) (e1 : vp_in (v3 + 1) L = True) (e2 : vp_in (v3 + 2) L = True) (e3 : vp_in (v3 + 3) L = True) (e4 : vp_in (v3 + 4) L = True) (e5 : vp_in (v3 + 5) L = True) (e6 : vp_in (v3 + 6) L = True) (hK : ∀ S' M', Inv (n + 1) S' M' → K S' M' (v3 + 7)) : wl_1159 L xs K S M v3 := by
  unfold wl_1159 wl_1600
  simp only [e1, e2, e3, e4, e5, e6, true_and]
  exact op_box (K := fun S' M' => K S' M' (v3 + 7)) I hn _ _ hK
theorem lc_1193 {n L : Nat} {xs : Nat → Int32} {K : xS → xS → Int32 → Prop} {S M : xS} {v3 : Int32} (I : Inv n S M) (hn : n ≤ 600) (e1 : vp_in (v3 + 1) L = True) (e2 : vp_in (v3 + 2) L = True) (e3 : vp_in (v3 + 3) L = True) (e4 : vp_in (v3 + 4) L = True) (e5 : vp_in (v3 + 5) L = True) (e6 : vp_in (v3 + 6) L = True) (hK : ∀ S' M', Inv (n + 1) S' M' → K S' M' (v3 + 7)) : wl_1193 L xs K S M v3 := by
  unfold wl_1193 wl_1212 wl_1237 wl_1269 wl_1267 wl_1600
  simp only [e1, e2, e3, e4, e5, e6, true_and]
  by_cases c : xs (v3 + 2).toNatClampNeg = 0
  · simp only [if_pos c]
    exact op_middle (K := fun S' M' => K S' M' (v3 + 7)) I hn _ 0 hK
  · simp only [if_neg c]
    exact op_middle (K := fun S' M' => K S' M' (v3 + 7)) I hn _ 1 hK
theorem lc_1272 {n L : Nat} {xs : Nat → Int32} {K : xS → xS → Int32 → Prop} {S M : xS} {v3 : Int32} (I : Inv n S M) (hn : n ≤ 600) (e1 : vp_in (v3 + 1) L = True) (e2 : vp_in (v3 + 2) L = True) (e3 : vp_in (v3 + 3) L = True) (e4 : vp_in (v3 + 4) L = True) (e5 : vp_in (v3 + 5) L = True) (e6 : vp_in (v3 + 6) L = True) (hK : ∀ S' M', Inv (n + 1) S' M' → K S' M' (v3 + 7)) : wl_1272 L xs K S M v3 := by
  unfold wl_1272 wl_1600
  simp only [e1, e2, e3, e4, e5, e6, true_and]
  exact op_area (K := fun S' M' => K S' M' (v3 + 7)) I hn _ _ hK
theorem lc_1306 {n L : Nat} {xs : Nat → Int32} {K : xS → xS → Int32 → Prop} {S M : xS} {v3 : Int32} (I : Inv n S M) (hn : n ≤ 600) (e1 : vp_in (v3 + 1) L = True) (e2 : vp_in (v3 + 2) L = True) (e3 : vp_in (v3 + 3) L = True) (e4 : vp_in (v3 + 4) L = True) (e5 : vp_in (v3 + 5) L = True) (e6 : vp_in (v3 + 6) L = True) (hK : ∀ S' M', Inv (n + 1) S' M' → K S' M' (v3 + 7)) : wl_1306 L xs K S M v3 := by
  unfold wl_1306 wl_1600
  simp only [e1, e2, e3, e4, e5, e6, true_and]
  exact op_flips (K := fun S' M' => K S' M' (v3 + 7)) I hn _ hK
theorem lc_1329 {n L : Nat} {xs : Nat → Int32} {K : xS → xS → Int32 → Prop} {S M : xS} {v3 : Int32} (I : Inv n S M) (hn : n ≤ 600) (e1 : vp_in (v3 + 1) L = True) (e2 : vp_in (v3 + 2) L = True) (e3 : vp_in (v3 + 3) L = True) (e4 : vp_in (v3 + 4) L = True) (e5 : vp_in (v3 + 5) L = True) (e6 : vp_in (v3 + 6) L = True) (hK : ∀ S' M', Inv (n + 1) S' M' → K S' M' (v3 + 7)) : wl_1329 L xs K S M v3 := by
  unfold wl_1329 wl_1600
  simp only [e1, e2, e3, e4, e5, e6, true_and]
  exact op_widest (K := fun S' M' => K S' M' (v3 + 7)) I hn _ _ hK
theorem lc_1362 {n L : Nat} {xs : Nat → Int32} {K : xS → xS → Int32 → Prop} {S M : xS} {v3 : Int32} (I : Inv n S M) (hn : n ≤ 600) (e1 : vp_in (v3 + 1) L = True) (e2 : vp_in (v3 + 2) L = True) (e3 : vp_in (v3 + 3) L = True) (e4 : vp_in (v3 + 4) L = True) (e5 : vp_in (v3 + 5) L = True) (e6 : vp_in (v3 + 6) L = True) (hK : ∀ S' M', Inv (n + 1) S' M' → K S' M' (v3 + 7)) : wl_1362 L xs K S M v3 := by
  unfold wl_1362 wl_1600
  simp only [e1, e2, e3, e4, e5, e6, true_and]
  exact op_merge (K := fun S' M' => K S' M' (v3 + 7)) I hn _ hK
theorem lc_1385 {n L : Nat} {xs : Nat → Int32} {K : xS → xS → Int32 → Prop} {S M : xS} {v3 : Int32} (I : Inv n S M) (hn : n ≤ 600) (e1 : vp_in (v3 + 1) L = True) (e2 : vp_in (v3 + 2) L = True) (e3 : vp_in (v3 + 3) L = True) (e4 : vp_in (v3 + 4) L = True) (e5 : vp_in (v3 + 5) L = True) (e6 : vp_in (v3 + 6) L = True) (hK : ∀ S' M', Inv (n + 1) S' M' → K S' M' (v3 + 7)) : wl_1385 L xs K S M v3 := by
  unfold wl_1385 wl_1600
  simp only [e1, e2, e3, e4, e5, e6, true_and]
  exact op_compact (K := fun S' M' => K S' M' (v3 + 7)) I hn _ _ hK
theorem lc_1418 {n L : Nat} {xs : Nat → Int32} {K : xS → xS → Int32 → Prop} {S M : xS} {v3 : Int32} (I : Inv n S M) (hn : n ≤ 600) (e1 : vp_in (v3 + 1) L = True) (e2 : vp_in (v3 + 2) L = True) (e3 : vp_in (v3 + 3) L = True) (e4 : vp_in (v3 + 4) L = True) (e5 : vp_in (v3 + 5) L = True) (e6 : vp_in (v3 + 6) L = True) (hK : ∀ S' M', Inv (n + 1) S' M' → K S' M' (v3 + 7)) : wl_1418 L xs K S M v3 := by
  unfold wl_1418 wl_1600
  simp only [e1, e2, e3, e4, e5, e6, true_and]
  exact op_fold (K := fun S' M' => K S' M' (v3 + 7)) I hn _ hK
theorem lc_1441 {n L : Nat} {xs : Nat → Int32} {K : xS → xS → Int32 → Prop} {S M : xS} {v3 : Int32} (I : Inv n S M) (hn : n ≤ 600) (e1 : vp_in (v3 + 1) L = True) (e2 : vp_in (v3 + 2) L = True) (e3 : vp_in (v3 + 3) L = True) (e4 : vp_in (v3 + 4) L = True) (e5 : vp_in (v3 + 5) L = True) (e6 : vp_in (v3 + 6) L = True) (hK : ∀ S' M', Inv (n + 1) S' M' → K S' M' (v3 + 7)) : wl_1441 L xs K S M v3 := by
  unfold wl_1441 wl_1600
  simp only [e1, e2, e3, e4, e5, e6, true_and]
  exact op_prune (K := fun S' M' => K S' M' (v3 + 7)) I hn _ hK
theorem lc_1464 {n L : Nat} {xs : Nat → Int32} {K : xS → xS → Int32 → Prop} {S M : xS} {v3 : Int32} (I : Inv n S M) (hn : n ≤ 600) (e1 : vp_in (v3 + 1) L = True) (e2 : vp_in (v3 + 2) L = True) (e3 : vp_in (v3 + 3) L = True) (e4 : vp_in (v3 + 4) L = True) (e5 : vp_in (v3 + 5) L = True) (e6 : vp_in (v3 + 6) L = True) (hK : ∀ S' M', Inv (n + 1) S' M' → K S' M' (v3 + 7)) : wl_1464 L xs K S M v3 := by
  unfold wl_1464 wl_1600
  exact op_undo (K := fun S' M' => K S' M' (v3 + 7)) I hK
theorem lc_1477 {n L : Nat} {xs : Nat → Int32} {K : xS → xS → Int32 → Prop} {S M : xS} {v3 : Int32} (I : Inv n S M) (hn : n ≤ 600) (e1 : vp_in (v3 + 1) L = True) (e2 : vp_in (v3 + 2) L = True) (e3 : vp_in (v3 + 3) L = True) (e4 : vp_in (v3 + 4) L = True) (e5 : vp_in (v3 + 5) L = True) (e6 : vp_in (v3 + 6) L = True) (hK : ∀ S' M', Inv (n + 1) S' M' → K S' M' (v3 + 7)) : wl_1477 L xs K S M v3 := by
  unfold wl_1477 wl_1600
  exact op_addInstance (K := fun S' M' => K S' M' (v3 + 7)) I hK
theorem lc_1490 {n L : Nat} {xs : Nat → Int32} {K : xS → xS → Int32 → Prop} {S M : xS} {v3 : Int32} (I : Inv n S M) (hn : n ≤ 600) (e1 : vp_in (v3 + 1) L = True) (e2 : vp_in (v3 + 2) L = True) (e3 : vp_in (v3 + 3) L = True) (e4 : vp_in (v3 + 4) L = True) (e5 : vp_in (v3 + 5) L = True) (e6 : vp_in (v3 + 6) L = True) (hK : ∀ S' M', Inv (n + 1) S' M' → K S' M' (v3 + 7)) : wl_1490 L xs K S M v3 := by
  unfold wl_1490 wl_1600
  simp only [e1, e2, e3, e4, e5, e6, true_and]
  exact op_applyInstance (K := fun S' M' => K S' M' (v3 + 7)) I _ hK
theorem lc_1513 {n L : Nat} {xs : Nat → Int32} {K : xS → xS → Int32 → Prop} {S M : xS} {v3 : Int32} (I : Inv n S M) (hn : n ≤ 600) (e1 : vp_in (v3 + 1) L = True) (e2 : vp_in (v3 + 2) L = True) (e3 : vp_in (v3 + 3) L = True) (e4 : vp_in (v3 + 4) L = True) (e5 : vp_in (v3 + 5) L = True) (e6 : vp_in (v3 + 6) L = True) (hK : ∀ S' M', Inv (n + 1) S' M' → K S' M' (v3 + 7)) : wl_1513 L xs K S M v3 := by
  unfold wl_1513 wl_1600
  exact op_nearestInstance (K := fun S' M' => K S' M' (v3 + 7)) I hK
theorem lc_1526 {n L : Nat} {xs : Nat → Int32} {K : xS → xS → Int32 → Prop} {S M : xS} {v3 : Int32} (I : Inv n S M) (hn : n ≤ 600) (e1 : vp_in (v3 + 1) L = True) (e2 : vp_in (v3 + 2) L = True) (e3 : vp_in (v3 + 3) L = True) (e4 : vp_in (v3 + 4) L = True) (e5 : vp_in (v3 + 5) L = True) (e6 : vp_in (v3 + 6) L = True) (hK : ∀ S' M', Inv (n + 1) S' M' → K S' M' (v3 + 7)) : wl_1526 L xs K S M v3 := by
  unfold wl_1526 wl_1600
  simp only [e1, e2, e3, e4, e5, e6, true_and]
  exact op_type (K := fun S' M' => K S' M' (v3 + 7)) I _ hK
theorem lc_1551 {n L : Nat} {xs : Nat → Int32} {K : xS → xS → Int32 → Prop} {S M : xS} {v3 : Int32} (I : Inv n S M) (hn : n ≤ 600) (e1 : vp_in (v3 + 1) L = True) (e2 : vp_in (v3 + 2) L = True) (e3 : vp_in (v3 + 3) L = True) (e4 : vp_in (v3 + 4) L = True) (e5 : vp_in (v3 + 5) L = True) (e6 : vp_in (v3 + 6) L = True) (hK : ∀ S' M', Inv (n + 1) S' M' → K S' M' (v3 + 7)) : wl_1551 L xs K S M v3 := by
  unfold wl_1551 wl_1600
  exact op_clearText (K := fun S' M' => K S' M' (v3 + 7)) I hK
theorem lc_1564 {n L : Nat} {xs : Nat → Int32} {K : xS → xS → Int32 → Prop} {S M : xS} {v3 : Int32} (I : Inv n S M) (hn : n ≤ 600) (e1 : vp_in (v3 + 1) L = True) (e2 : vp_in (v3 + 2) L = True) (e3 : vp_in (v3 + 3) L = True) (e4 : vp_in (v3 + 4) L = True) (e5 : vp_in (v3 + 5) L = True) (e6 : vp_in (v3 + 6) L = True) (hK : ∀ S' M', Inv (n + 1) S' M' → K S' M' (v3 + 7)) : wl_1564 L xs K S M v3 := by
  unfold wl_1564 wl_1600
  exact op_readLocation (K := fun S' M' => K S' M' (v3 + 7)) I hK
theorem lc_1577 {n L : Nat} {xs : Nat → Int32} {K : xS → xS → Int32 → Prop} {S M : xS} {v3 : Int32} (I : Inv n S M) (hn : n ≤ 600) (e1 : vp_in (v3 + 1) L = True) (e2 : vp_in (v3 + 2) L = True) (e3 : vp_in (v3 + 3) L = True) (e4 : vp_in (v3 + 4) L = True) (e5 : vp_in (v3 + 5) L = True) (e6 : vp_in (v3 + 6) L = True) (hK : ∀ S' M', Inv (n + 1) S' M' → K S' M' (v3 + 7)) : wl_1577 L xs K S M v3 := by
  unfold wl_1577 wl_1600
  simp only [e1, e2, e3, e4, e5, e6, true_and]
  exact op_count (K := fun S' M' => K S' M' (v3 + 7)) I _ hK
set_option maxHeartbeats 4000000 in
set_option maxRecDepth 20000 in
theorem wl_step {n L j : Nat} {xs : Nat → Int32} {K : xS → xS → Int32 → Prop} {S M : xS} (hL : L ≤ 3584) (I : Inv n S M) (hn : n ≤ 600) (hj : 7 * j ≤ 3584) (hK : 7 * j + 7 ≤ L → ∀ S' M', Inv (n + 1) S' M' → K S' M' (nI (7 * (j + 1)))) : wl_18_b L xs K S M (nI (7 * j)) := by
  unfold wl_18_b
  have e7 : (nI L - 7).toInt = (L : Int) - 7 := by
    have h1 := nI_toInt' (n := L) (by omega)
    have h2 : (7 : Int32).toInt = 7 := rfl
    rw [i32_sub (by rw [h1, h2]; omega) (by rw [h1, h2]; omega), h1, h2]
  by_cases c : L < 7 * j + 7
  · exact gt (by rw [i32_lt, e7, nI_toInt' (by omega)]; omega) trivial
  refine gf (by rw [i32_lt, e7, nI_toInt' (by omega)]; omega) ⟨vv_in (by omega) (by omega), ?_⟩
  have hK := hK (by omega)
  have q7 : nI (7 * j) + 7 = nI (7 * (j + 1)) := by rw [nl7, nI_add]; rfl
  have hK' : ∀ S' M', Inv (n + 1) S' M' → K S' M' (nI (7 * j) + 7) := fun S' M' h => by rw [q7]; exact hK S' M' h
  have e1 : vp_in (nI (7 * j) + 1) L = True := eq_true (by rw [nl1, nI_add]; exact vv_in (by omega) (by omega))
  have e2 : vp_in (nI (7 * j) + 2) L = True := eq_true (by rw [nl2, nI_add]; exact vv_in (by omega) (by omega))
  have e3 : vp_in (nI (7 * j) + 3) L = True := eq_true (by rw [nl3, nI_add]; exact vv_in (by omega) (by omega))
  have e4 : vp_in (nI (7 * j) + 4) L = True := eq_true (by rw [nl4, nI_add]; exact vv_in (by omega) (by omega))
  have e5 : vp_in (nI (7 * j) + 5) L = True := eq_true (by rw [nl5, nI_add]; exact vv_in (by omega) (by omega))
  have e6 : vp_in (nI (7 * j) + 6) L = True := eq_true (by rw [nl6, nI_add]; exact vv_in (by omega) (by omega))
  generalize nI (7 * j) = v3 at *
  by_cases c0 : xs v3.toNatClampNeg &&& 63 = 0
  · exact gt c0 (lc_200 I hn e1 e2 e3 e4 e5 e6 hK')
  refine gf c0 ?_
  by_cases c1 : xs v3.toNatClampNeg &&& 63 = 1
  · exact gt c1 (lc_243 I hn e1 e2 e3 e4 e5 e6 hK')
  refine gf c1 ?_
  by_cases c2 : xs v3.toNatClampNeg &&& 63 = 2
  · exact gt c2 (lc_286 I hn e1 e2 e3 e4 e5 e6 hK')
  refine gf c2 ?_
  by_cases c3 : xs v3.toNatClampNeg &&& 63 = 3
  · exact gt c3 (lc_319 I hn e1 e2 e3 e4 e5 e6 hK')
  refine gf c3 ?_
  by_cases c4 : xs v3.toNatClampNeg &&& 63 = 4
  · exact gt c4 (lc_352 I hn e1 e2 e3 e4 e5 e6 hK')
  refine gf c4 ?_
  by_cases c5 : xs v3.toNatClampNeg &&& 63 = 5
  · exact gt c5 (lc_385 I hn e1 e2 e3 e4 e5 e6 hK')
  refine gf c5 ?_
  by_cases c6 : xs v3.toNatClampNeg &&& 63 = 6
  · exact gt c6 (lc_434 I hn e1 e2 e3 e4 e5 e6 hK')
  refine gf c6 ?_
  by_cases c7 : xs v3.toNatClampNeg &&& 63 = 7
  · exact gt c7 (lc_467 I hn e1 e2 e3 e4 e5 e6 hK')
  refine gf c7 ?_
  by_cases c8 : xs v3.toNatClampNeg &&& 63 = 8
  · exact gt c8 (lc_516 I hn e1 e2 e3 e4 e5 e6 hK')
  refine gf c8 ?_
  by_cases c9 : xs v3.toNatClampNeg &&& 63 = 9
  · exact gt c9 (lc_585 I hn e1 e2 e3 e4 e5 e6 hK')
  refine gf c9 ?_
  by_cases c10 : xs v3.toNatClampNeg &&& 63 = 10
  · exact gt c10 (lc_638 I hn e1 e2 e3 e4 e5 e6 hK')
  refine gf c10 ?_
  by_cases c11 : xs v3.toNatClampNeg &&& 63 = 11
  · exact gt c11 (lc_671 I hn e1 e2 e3 e4 e5 e6 hK')
  refine gf c11 ?_
  by_cases c12 : xs v3.toNatClampNeg &&& 63 = 12
  · exact gt c12 (lc_694 I hn e1 e2 e3 e4 e5 e6 hK')
  refine gf c12 ?_
  by_cases c13 : xs v3.toNatClampNeg &&& 63 = 13
  · exact gt c13 (lc_769 I hn e1 e2 e3 e4 e5 e6 hK')
  refine gf c13 ?_
  by_cases c14 : xs v3.toNatClampNeg &&& 63 = 14
  · exact gt c14 (lc_832 I hn e1 e2 e3 e4 e5 e6 hK')
  refine gf c14 ?_
  by_cases c15 : xs v3.toNatClampNeg &&& 63 = 15
  · exact gt c15 (lc_875 I hn e1 e2 e3 e4 e5 e6 hK')
  refine gf c15 ?_
  by_cases c16 : xs v3.toNatClampNeg &&& 63 = 16
  · exact gt c16 (lc_944 I hn e1 e2 e3 e4 e5 e6 hK')
  refine gf c16 ?_
  by_cases c17 : xs v3.toNatClampNeg &&& 63 = 17
  · exact gt c17 (lc_977 I hn e1 e2 e3 e4 e5 e6 hK')
  refine gf c17 ?_
  by_cases c18 : xs v3.toNatClampNeg &&& 63 = 18
  · exact gt c18 (lc_1010 I hn e1 e2 e3 e4 e5 e6 hK')
  refine gf c18 ?_
  by_cases c19 : xs v3.toNatClampNeg &&& 63 = 19
  · exact gt c19 (lc_1071 I hn e1 e2 e3 e4 e5 e6 hK')
  refine gf c19 ?_
  by_cases c20 : xs v3.toNatClampNeg &&& 63 = 20
  · exact gt c20 (lc_1115 I hn e1 e2 e3 e4 e5 e6 hK')
  refine gf c20 ?_
  by_cases c21 : xs v3.toNatClampNeg &&& 63 = 21
  · exact gt c21 (lc_1159 I hn e1 e2 e3 e4 e5 e6 hK')
  refine gf c21 ?_
  by_cases c22 : xs v3.toNatClampNeg &&& 63 = 22
  · exact gt c22 (lc_1193 I hn e1 e2 e3 e4 e5 e6 hK')
  refine gf c22 ?_
  by_cases c23 : xs v3.toNatClampNeg &&& 63 = 23
  · exact gt c23 (lc_1272 I hn e1 e2 e3 e4 e5 e6 hK')
  refine gf c23 ?_
  by_cases c24 : xs v3.toNatClampNeg &&& 63 = 24
  · exact gt c24 (lc_1306 I hn e1 e2 e3 e4 e5 e6 hK')
  refine gf c24 ?_
  by_cases c25 : xs v3.toNatClampNeg &&& 63 = 25
  · exact gt c25 (lc_1329 I hn e1 e2 e3 e4 e5 e6 hK')
  refine gf c25 ?_
  by_cases c26 : xs v3.toNatClampNeg &&& 63 = 26
  · exact gt c26 (lc_1362 I hn e1 e2 e3 e4 e5 e6 hK')
  refine gf c26 ?_
  by_cases c27 : xs v3.toNatClampNeg &&& 63 = 27
  · exact gt c27 (lc_1385 I hn e1 e2 e3 e4 e5 e6 hK')
  refine gf c27 ?_
  by_cases c28 : xs v3.toNatClampNeg &&& 63 = 28
  · exact gt c28 (lc_1418 I hn e1 e2 e3 e4 e5 e6 hK')
  refine gf c28 ?_
  by_cases c29 : xs v3.toNatClampNeg &&& 63 = 29
  · exact gt c29 (lc_1441 I hn e1 e2 e3 e4 e5 e6 hK')
  refine gf c29 ?_
  by_cases c30 : xs v3.toNatClampNeg &&& 63 = 30
  · exact gt c30 (lc_1464 I hn e1 e2 e3 e4 e5 e6 hK')
  refine gf c30 ?_
  by_cases c31 : xs v3.toNatClampNeg &&& 63 = 31
  · exact gt c31 (lc_1477 I hn e1 e2 e3 e4 e5 e6 hK')
  refine gf c31 ?_
  by_cases c32 : xs v3.toNatClampNeg &&& 63 = 32
  · exact gt c32 (lc_1490 I hn e1 e2 e3 e4 e5 e6 hK')
  refine gf c32 ?_
  by_cases c33 : xs v3.toNatClampNeg &&& 63 = 33
  · exact gt c33 (lc_1513 I hn e1 e2 e3 e4 e5 e6 hK')
  refine gf c33 ?_
  by_cases c34 : xs v3.toNatClampNeg &&& 63 = 34
  · exact gt c34 (lc_1526 I hn e1 e2 e3 e4 e5 e6 hK')
  refine gf c34 ?_
  by_cases c35 : xs v3.toNatClampNeg &&& 63 = 35
  · exact gt c35 (lc_1551 I hn e1 e2 e3 e4 e5 e6 hK')
  refine gf c35 ?_
  by_cases c36 : xs v3.toNatClampNeg &&& 63 = 36
  · exact gt c36 (lc_1564 I hn e1 e2 e3 e4 e5 e6 hK')
  refine gf c36 ?_
  by_cases c37 : xs v3.toNatClampNeg &&& 63 = 37
  · exact gt c37 (lc_1577 I hn e1 e2 e3 e4 e5 e6 hK')
  refine gf c37 ?_
  exact hK' S M I.next
theorem wl_all {L : Nat} {xs : Nat → Int32} (hL : L ≤ 3584) : ∀ k j (S M : xS), Inv j S M → L < 7 * (j + k) + 7 → 7 * j ≤ 3584 → wl_18 L xs (k + 1) S M (nI (7 * j))
  | 0, j, S, M, I, h, hj => by
    show wl_18_b L xs _ S M (nI (7 * j))
    exact wl_step hL I (by omega) hj (fun h2 => by omega)
  | k + 1, j, S, M, I, h, hj => by
    show wl_18_b L xs (wl_18 L xs (k + 1)) S M (nI (7 * j))
    exact wl_step hL I (by omega) hj (fun h2 S' M' I' => wl_all hL k (j + 1) S' M' I' (by omega) (by omega))
