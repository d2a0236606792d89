def PP : Int := 4000000
def infW (c lo hi dl dg : Int32) : Int32 := if c ≤ lo then dl else if hi ≤ c then dg else dl + Int64.toInt32 (nearS ((Int32.toInt64 c - Int32.toInt64 lo) * (Int32.toInt64 dg - Int32.toInt64 dl)) (Int32.toInt64 hi - Int32.toInt64 lo))
def infV (c ca cb da db : Int32) : Int32 := if ca = cb then (if da = db then da else 0) else if ca < cb then infW c ca cb da db else infW c cb ca db da
theorem near_btw {c lo hi dl dg : Int} (h1 : lo < c) (h2 : c < hi) {L H : Int} (l1 : L ≤ dl) (l2 : dl ≤ H) (g1 : L ≤ dg) (g2 : dg ≤ H) : L ≤ dl + nearI ((c - lo) * (dg - dl)) (hi - lo) ∧ dl + nearI ((c - lo) * (dg - dl)) (hi - lo) ≤ H := by
  have hb : 0 < hi - lo := by omega
  have key : L - dl ≤ nearI ((c - lo) * (dg - dl)) (hi - lo) ∧ nearI ((c - lo) * (dg - dl)) (hi - lo) ≤ H - dl := by
    apply nearI_rng hb
    · by_cases s : 0 ≤ dg - dl
      · have a1 : (L - dl) * (hi - lo) ≤ 0 := Int.mul_nonpos_of_nonpos_of_nonneg (by omega) (by omega)
        have a2 : 0 ≤ (c - lo) * (dg - dl) := Int.mul_nonneg (by omega) s
        omega
      · have a1 : (hi - lo) * (dg - dl) ≤ (c - lo) * (dg - dl) := Int.mul_le_mul_of_nonpos_right (by omega) (by omega)
        have a2 : (L - dl) * (hi - lo) ≤ (dg - dl) * (hi - lo) := Int.mul_le_mul_of_nonneg_right (by omega) (by omega)
        rw [Int.mul_comm (dg - dl)] at a2
        omega
    · by_cases s : 0 ≤ dg - dl
      · have a1 : (c - lo) * (dg - dl) ≤ (hi - lo) * (dg - dl) := Int.mul_le_mul_of_nonneg_right (by omega) s
        have a2 : (dg - dl) * (hi - lo) ≤ (H - dl) * (hi - lo) := Int.mul_le_mul_of_nonneg_right (by omega) (by omega)
        rw [Int.mul_comm (dg - dl)] at a2
        omega
      · have a1 : 0 ≤ (H - dl) * (hi - lo) := Int.mul_nonneg (by omega) (by omega)
        have a2 : (c - lo) * (dg - dl) ≤ 0 := Int.mul_nonpos_of_nonneg_of_nonpos (by omega) (by omega)
        omega
  omega
theorem mul_rng {a b A B : Int} (h1 : 0 ≤ a) (h2 : a ≤ A) (h3 : -B ≤ b) (h4 : b ≤ B) : -(A * B) ≤ a * b ∧ a * b ≤ A * B := by
  have hB : 0 ≤ B := by omega
  have u : a * B ≤ A * B := Int.mul_le_mul_of_nonneg_right h2 hB
  have v : a * b ≤ a * B := Int.mul_le_mul_of_nonneg_left h4 h1
  have w : a * (-B) ≤ a * b := Int.mul_le_mul_of_nonneg_left h3 h1
  rw [Int.mul_neg] at w
  omega
section INF
variable {c lo hi dl dg : Int32} (hc : rng c (-PP) PP) (hl : rng lo (-PP) PP) (hh : rng hi (-PP) PP) (hdl : rng dl (-PP) PP) (hdg : rng dg (-PP) PP)
theorem i64_sub32 {x y : Int32} : (Int32.toInt64 x - Int32.toInt64 y).toInt = x.toInt - y.toInt := by
  have a1 := Int32.toInt_lt x
  have a2 := Int32.le_toInt x
  have b1 := Int32.toInt_lt y
  have b2 := Int32.le_toInt y
  rw [i64_sub] <;> rw [i2l_toInt, i2l_toInt] <;> omega
theorem infW_near (h1 : lo.toInt < c.toInt) (h2 : c.toInt < hi.toInt) (hc : rng c (-PP) PP) (hl : rng lo (-PP) PP) (hh : rng hi (-PP) PP) (hdl : rng dl (-PP) PP) (hdg : rng dg (-PP) PP) : (nearS ((Int32.toInt64 c - Int32.toInt64 lo) * (Int32.toInt64 dg - Int32.toInt64 dl)) (Int32.toInt64 hi - Int32.toInt64 lo)).toInt = nearI ((c.toInt - lo.toInt) * (dg.toInt - dl.toInt)) (hi.toInt - lo.toInt) := by
  unfold rng PP at *
  have m := mul_rng (a := c.toInt - lo.toInt) (b := dg.toInt - dl.toInt) (A := 8000000) (B := 8000000) (by omega) (by omega) (by omega) (by omega)
  have e : ((Int32.toInt64 c - Int32.toInt64 lo) * (Int32.toInt64 dg - Int32.toInt64 dl)).toInt = (c.toInt - lo.toInt) * (dg.toInt - dl.toInt) := by
    rw [i64_mul] <;> rw [i64_sub32, i64_sub32] <;> omega
  rw [near_toInt, e, i64_sub32]
  · rw [i64_sub32]; omega
  · rw [i64_sub32]; omega
  · rw [e]; omega
  · rw [e]; omega
theorem infW_rng {L H : Int} (hc : rng c (-PP) PP) (hl : rng lo (-PP) PP) (hh : rng hi (-PP) PP) (hL : -PP ≤ L) (hH : H ≤ PP) (hdl : rng dl L H) (hdg : rng dg L H) : rng (infW c lo hi dl dg) L H := by
  unfold infW
  by_cases c1 : c ≤ lo
  · rw [if_pos c1]; exact hdl
  · rw [if_neg c1]
    by_cases c2 : hi ≤ c
    · rw [if_pos c2]; exact hdg
    · rw [if_neg c2]
      rw [i32_le] at c1 c2
      have hdl' : rng dl (-PP) PP := by unfold rng at *; omega
      have hdg' : rng dg (-PP) PP := by unfold rng at *; omega
      have e := infW_near (by omega) (by omega) hc hl hh hdl' hdg'
      have b := near_btw (c := c.toInt) (lo := lo.toInt) (hi := hi.toInt) (dl := dl.toInt) (dg := dg.toInt) (by omega) (by omega) hdl.1 hdl.2 hdg.1 hdg.2
      generalize nearI ((c.toInt - lo.toInt) * (dg.toInt - dl.toInt)) (hi.toInt - lo.toInt) = z at *
      generalize nearS ((Int32.toInt64 c - Int32.toInt64 lo) * (Int32.toInt64 dg - Int32.toInt64 dl)) (Int32.toInt64 hi - Int32.toInt64 lo) = w at *
      unfold rng PP at *
      have e2 : (Int64.toInt32 w).toInt = z := by rw [l2i_toInt] <;> omega
      rw [i32_add, e2]
      · omega
      · rw [e2]; omega
      · rw [e2]; omega
end INF
theorem infV_rng {c ca cb da db : Int32} {D : Int} (hc : rng c (-PP) PP) (ha : rng ca (-PP) PP) (hb : rng cb (-PP) PP) (hD : 0 ≤ D) (hDP : D ≤ PP) (hda : rng da (-D) D) (hdb : rng db (-D) D) : rng (infV c ca cb da db) (-D) D := by
  unfold infV
  by_cases c1 : ca = cb
  · rw [if_pos c1]
    by_cases c2 : da = db
    · rw [if_pos c2]; exact hda
    · rw [if_neg c2]; unfold rng; rw [show (0 : Int32).toInt = 0 from rfl]; omega
  · rw [if_neg c1]
    by_cases c2 : ca < cb
    · rw [if_pos c2]; exact infW_rng hc ha hb (by omega) hDP hda hdb
    · rw [if_neg c2]; exact infW_rng hc hb ha (by omega) hDP hdb hda
theorem w1_inferred {c ca cb da db : Int32} {S : xS} {Q : Int32 → xS → Prop} (k : Q (infV c ca cb da db) S) : wp_X1_inferredDelta c ca cb da db S Q := by
  unfold infV infW at k
  unfold wp_X1_inferredDelta wp_X1_inferredDelta_16 wp_X1_inferredDelta_42 wp_X1_inferredDelta_55 wp_J9_min_7cf53 wp_J9_max_7cf53 wp_J9_min_7cf53_10 wp_J9_max_7cf53_10
  by_cases c1 : ca = cb
  · rw [if_pos c1] at k
    refine gt c1 ?_
    by_cases c2 : da = db
    · rw [if_pos c2] at k; exact gt c2 k
    · rw [if_neg c2] at k; exact gf c2 k
  · rw [if_neg c1] at k
    refine gf c1 ?_
    have key : ∀ lo hi dl dg : Int32, lo < hi → Q (if c ≤ lo then dl else if hi ≤ c then dg else dl + Int64.toInt32 (nearS ((Int32.toInt64 c - Int32.toInt64 lo) * (Int32.toInt64 dg - Int32.toInt64 dl)) (Int32.toInt64 hi - Int32.toInt64 lo))) S → (if lo < c then (if c < hi then (wp_X6_roundedQuotient (((Int32.toInt64 c) - (Int32.toInt64 lo)) * ((Int32.toInt64 dg) - (Int32.toInt64 dl))) ((Int32.toInt64 hi) - (Int32.toInt64 lo)) S (fun r2 S1 => (Q (dl + (Int64.toInt32 r2)) S1))) else (Q dg S)) else (Q dl S)) := by
      intro lo hi dl dg hlt k
      rw [i32_lt] at hlt
      by_cases d1 : c ≤ lo
      · rw [if_pos d1] at k
        exact gf (by rw [i32_lt]; rw [i32_le] at d1; omega) k
      · rw [if_neg d1] at k
        refine gt (by rw [i32_lt]; rw [i32_le] at d1; omega) ?_
        by_cases d2 : hi ≤ c
        · rw [if_pos d2] at k
          exact gf (by rw [i32_lt]; rw [i32_le] at d2; omega) k
        · rw [if_neg d2] at k
          refine gt (by rw [i32_lt]; rw [i32_le] at d2; omega) (v6_rq ?_ ?_ k)
          · rw [i64_sub32]; omega
          · have := Int32.toInt_lt hi
            have := Int32.le_toInt lo
            rw [i64_sub32]; omega
    by_cases c2 : ca < cb
    · rw [if_pos c2] at k
      have c3 : ¬ cb < ca := by rw [i32_lt] at *; omega
      have c4 : ¬ cb ≤ ca := by rw [i32_lt] at c2; rw [i32_le]; omega
      exact gf c3 (gt c2 (gf c4 (gf c4 (key _ _ _ _ c2 k))))
    · rw [if_neg c2] at k
      have c5 : ca.toInt ≠ cb.toInt := fun h => c1 (Int32.toInt_inj.mp h)
      have c3 : cb < ca := by rw [i32_lt] at *; omega
      have c4 : cb ≤ ca := by rw [i32_lt] at c3; rw [i32_le]; omega
      exact gt c3 (gf c2 (gt c4 (gt c4 (key _ _ _ _ c3 k))))
def gvn (r : Nat → Int32) (t s : Nat) (v : Int32) : Int32 := if v = 0 then dlx r t s else dly r t s
def bsp (r : Nat → Int32) (s : Nat) (v : Int32) : Int32 := if v = 0 then r (4 + s) else r (28 + s)
def dvV (r : Nat → Int32) (t s : Nat) (v : Int32) : Int32 :=
  if fl r t s = 1 then gvn r t s v else if s = 24 ∨ r 0 = 1 then 0 else if bkF (FF r t s) (rN r) s = 0 then 0
  else infV (bsp r s v) (bsp r (bkF (FF r t s) (rN r) s - 1) v) (bsp r (fwF (FF r t s) (rN r) s - 1) v) (gvn r t (bkF (FF r t s) (rN r) s - 1) v) (gvn r t (fwF (FF r t s) (rN r) s - 1) v)
theorem dnF_spec {F : Nat → Bool} : ∀ k, (dnF F k = 0 ∧ ∀ z, z < k → F z = false) ∨ ∃ i, i < k ∧ dnF F k = i + 1 ∧ F i = true
  | 0 => Or.inl ⟨rfl, fun z h => by omega⟩
  | k + 1 => by
    have e : dnF F (k + 1) = if F k then k + 1 else dnF F k := rfl
    rw [e]
    cases h : F k
    · rcases dnF_spec (F := F) k with ⟨h1, h2⟩ | ⟨i, h1, h2, h3⟩
      · refine Or.inl ⟨h1, fun z hz => ?_⟩
        by_cases ez : z = k
        · rw [ez]; exact h
        · exact h2 z (by omega)
      · exact Or.inr ⟨i, by omega, h2, h3⟩
    · exact Or.inr ⟨k, by omega, rfl, h⟩
theorem upF_spec {F : Nat → Bool} : ∀ n k, (upF F k n = 0 ∧ ∀ z, k ≤ z → z < k + n → F z = false) ∨ ∃ i, i < k + n ∧ upF F k n = i + 1 ∧ F i = true
  | 0, k => Or.inl ⟨rfl, fun z h h2 => by omega⟩
  | n + 1, k => by
    have e : upF F k (n + 1) = if F k then k + 1 else upF F (k + 1) n := rfl
    rw [e]
    cases h : F k
    · rcases upF_spec (F := F) n (k + 1) with ⟨h1, h2⟩ | ⟨i, h1, h2, h3⟩
      · refine Or.inl ⟨h1, fun z hz hz2 => ?_⟩
        by_cases ez : z = k
        · rw [ez]; exact h
        · exact h2 z (by omega) (by omega)
      · exact Or.inr ⟨i, by omega, h2, h3⟩
    · exact Or.inr ⟨k, by omega, rfl, h⟩
theorem bkF_spec {F : Nat → Bool} {N p : Nat} (hp : p < N) : (bkF F N p = 0 ∧ ∀ z, z < N → F z = false) ∨ ∃ i, i < N ∧ bkF F N p = i + 1 ∧ F i = true := by
  unfold bkF
  rcases dnF_spec (F := F) p with ⟨h1, h2⟩ | ⟨i, h1, h2, h3⟩
  · rw [if_pos h1]
    exact dnF_spec N
  · rw [if_neg (by omega)]
    exact Or.inr ⟨i, by omega, h2, h3⟩
theorem fwF_spec {F : Nat → Bool} {N p : Nat} (hp : p < N) : (fwF F N p = 0 ∧ ∀ z, z < N → F z = false) ∨ ∃ i, i < N ∧ fwF F N p = i + 1 ∧ F i = true := by
  unfold fwF
  rcases upF_spec (F := F) (N - (p + 1)) (p + 1) with ⟨h1, h2⟩ | ⟨i, h1, h2, h3⟩
  · rw [if_pos h1]
    rcases upF_spec (F := F) N 0 with ⟨h1, h2⟩ | ⟨i, h1, h2, h3⟩
    · exact Or.inl ⟨h1, fun z hz => h2 z (by omega) (by omega)⟩
    · exact Or.inr ⟨i, by omega, h2, h3⟩
  · rw [if_neg (by omega)]
    exact Or.inr ⟨i, by omega, h2, h3⟩
theorem FF_fl {r : Nat → Int32} {t p z : Nat} (h : FF r t p z = true) : fl r t z = 1 := (of_decide_eq_true h).2
theorem nearby {r : Nat → Int32} {t p : Nat} (hp : p < rN r) : (bkF (FF r t p) (rN r) p = 0 ∧ fwF (FF r t p) (rN r) p = 0) ∨ ∃ i j, i < rN r ∧ j < rN r ∧ bkF (FF r t p) (rN r) p = i + 1 ∧ fwF (FF r t p) (rN r) p = j + 1 ∧ fl r t i = 1 ∧ fl r t j = 1 := by
  rcases bkF_spec (F := FF r t p) hp with ⟨h1, h2⟩ | ⟨i, h1, h2, h3⟩
  · rcases fwF_spec (F := FF r t p) hp with ⟨g1, g2⟩ | ⟨j, g1, g2, g3⟩
    · exact Or.inl ⟨h1, g1⟩
    · rw [h2 j g1] at g3; exact absurd g3 (by decide)
  · rcases fwF_spec (F := FF r t p) hp with ⟨g1, g2⟩ | ⟨j, g1, g2, g3⟩
    · rw [g2 i h1] at h3; exact absurd h3 (by decide)
    · exact Or.inr ⟨i, j, h1, g1, h2, g2, FF_fl h3, FF_fl g3⟩
