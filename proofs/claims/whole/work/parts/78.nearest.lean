def farV (f c : Nat → Int32) : Nat → Int32
  | 0 => 0
  | a + 1 => farV f c a + (if 0 ≤ f a - c a then f a - c a else -(f a - c a))
theorem farV_fr {f c f' c' : Nat → Int32} : ∀ j, (∀ a, a < j → f' a = f a ∧ c' a = c a) → farV f' c' j = farV f c j
  | 0, _ => rfl
  | j + 1, h => by
    obtain ⟨h1, h2⟩ := h j (by omega)
    show farV f' c' j + _ = farV f c j + _
    rw [farV_fr j (fun a ha => h a (by omega)), h1, h2]
theorem farV_rng {f c : Nat → Int32} : ∀ j, j ≤ 4 → (∀ a, a < j → rng (f a) (-16384) 16384 ∧ rng (c a) (-16384) 16384) → 0 ≤ (farV f c j).toInt ∧ (farV f c j).toInt ≤ 32768 * j
  | 0, _, _ => ⟨Int.le_refl 0, by show (0 : Int) ≤ 32768 * 0; omega⟩
  | j + 1, hj, h => by
    obtain ⟨h1, h2⟩ := farV_rng j (by omega) (fun a ha => h a (by omega))
    obtain ⟨h3, h4⟩ := h j (by omega)
    unfold rng at h3 h4
    have e : (f j - c j).toInt = (f j).toInt - (c j).toInt := i32_sub (by omega) (by omega)
    have z : (0 : Int32).toInt = 0 := rfl
    show 0 ≤ (farV f c j + (if 0 ≤ f j - c j then f j - c j else -(f j - c j))).toInt ∧ (farV f c j + (if 0 ≤ f j - c j then f j - c j else -(f j - c j))).toInt ≤ 32768 * ((j + 1 : Nat) : Int)
    have q : 0 ≤ (if 0 ≤ f j - c j then f j - c j else -(f j - c j)).toInt ∧ (if 0 ≤ f j - c j then f j - c j else -(f j - c j)).toInt ≤ 32768 := by
      by_cases s : 0 ≤ f j - c j
      · rw [if_pos s]; rw [i32_le, z] at s; omega
      · rw [if_neg s]; rw [i32_le, z] at s; rw [i32_neg (by omega)]; omega
    generalize (if 0 ≤ f j - c j then f j - c j else -(f j - c j)) = w at *
    rw [i32_add (by omega) (by omega)]
    omega
def bestV (d : Nat → Int32) : Nat → Nat
  | 0 => 0
  | i + 1 => if d (i + 1) < d (bestV d i) then i + 1 else bestV d i
theorem bestV_le {d : Nat → Int32} : ∀ i, bestV d i ≤ i
  | 0 => Nat.le_refl 0
  | i + 1 => by
    have := bestV_le (d := d) i
    show (if d (i + 1) < d (bestV d i) then i + 1 else bestV d i) ≤ i + 1
    split <;> omega
section NEAREST
variable {n : Nat} {S M : xS}
theorem w7_far {na i : Nat} {Q : Int32 → xS → Prop} (hn : na ≤ 4) (h0 : M.1 0 0 0 = nI na) (hi : i < 6) (k : Q (farV (fun a => M.1 34 0 (4 * i + a)) (fun a => M.1 5 0 a) na) M) : wp_X7_farFrom (nI i) M Q := by
  unfold wp_X7_farFrom
  refine wl2 (wp_X7_farFrom_4 (nI i) Q) (fun K => wp_X7_farFrom_4_b (nI i) K Q) (fun _ _ _ _ => rfl)
    (fun M' v w => M' = M ∧ ∃ j, j ≤ na ∧ w = nI j ∧ v = farV (fun a => M.1 34 0 (4 * i + a)) (fun a => M.1 5 0 a) j) (fun _ _ w => 4 - w.toNatClampNeg) ⟨rfl, 0, by omega, rfl, rfl⟩ ?_
  rintro M' v w K ⟨rfl, j, hj, rfl, rfl⟩ hK
  unfold wp_X7_farFrom_4_b wp_X7_farFrom_45
  rw [h0]
  by_cases c : j = na
  · subst c
    exact gt (by rw [vv_le (by omega) (by omega)]; omega) k
  · refine gf (by rw [vv_le (by omega) (by omega)]; omega) ?_
    rw [nl4, vv_mul, nI_add, vv_clI (k := 4 * i + j) (by omega), vv_clI (k := j) (by omega), nI_1]
    refine ⟨vv_in (by omega) (by omega), vv_in (by omega) (by omega), ?_⟩
    have es : farV (fun a => M'.1 34 0 (4 * i + a)) (fun a => M'.1 5 0 a) (j + 1) = farV (fun a => M'.1 34 0 (4 * i + a)) (fun a => M'.1 5 0 a) j + (if 0 ≤ M'.1 34 0 (4 * i + j) - M'.1 5 0 j then M'.1 34 0 (4 * i + j) - M'.1 5 0 j else -(M'.1 34 0 (4 * i + j) - M'.1 5 0 j)) := rfl
    have mu : 4 - (nI (j + 1)).toNatClampNeg < 4 - (nI j).toNatClampNeg := by rw [vv_clI (by omega), vv_clI (by omega)]; omega
    by_cases s : 0 ≤ M'.1 34 0 (4 * i + j) - M'.1 5 0 j
    · exact gt s (hK _ _ _ ⟨rfl, j + 1, by omega, rfl, by rw [es, if_pos s]⟩ mu)
    · exact gf s (hK _ _ _ ⟨rfl, j + 1, by omega, rfl, by rw [es, if_neg s]⟩ mu)
theorem w7_nearest {na ni : Nat} {Q : Int32 → xS → Prop} (hn : na ≤ 4) (h0 : M.1 0 0 0 = nI na) (hi : ni < 6) (h32 : M.1 0 0 32 = nI (ni + 1)) (k : Q (nI (bestV (fun i => farV (fun a => M.1 34 0 (4 * i + a)) (fun a => M.1 5 0 a) na) ni)) M) : wp_X7_nearestInstance M Q := by
  unfold wp_X7_nearestInstance wp_X7_nearestInstance_14
  rw [h32]
  refine gf (by rw [nl0, vv_eq (by omega) (by omega)]; omega) ?_
  refine wl2 (wp_X7_nearestInstance_17 Q) (fun K => wp_X7_nearestInstance_17_b K Q) (fun _ _ _ _ => rfl)
    (fun M' v w => M' = M ∧ ∃ j, j ≤ ni ∧ w = nI (j + 1) ∧ v = nI (bestV (fun i => farV (fun a => M.1 34 0 (4 * i + a)) (fun a => M.1 5 0 a) na) j)) (fun _ _ w => 10 - w.toNatClampNeg) ⟨rfl, 0, by omega, rfl, rfl⟩ ?_
  rintro M' v w K ⟨rfl, j, hj, rfl, rfl⟩ hK
  have hb := bestV_le (d := fun i => farV (fun a => M'.1 34 0 (4 * i + a)) (fun a => M'.1 5 0 a) na) j
  unfold wp_X7_nearestInstance_17_b wp_X7_nearestInstance_43
  rw [h32]
  by_cases c : j = ni
  · subst c
    exact gt (by rw [vv_le (by omega) (by omega)]; omega) k
  · refine gf (by rw [vv_le (by omega) (by omega)]; omega) (w7_far hn h0 (by omega) (w7_far hn h0 (by omega) ?_))
    rw [nI_1]
    have mu : 10 - (nI (j + 1 + 1)).toNatClampNeg < 10 - (nI (j + 1)).toNatClampNeg := by rw [vv_clI (by omega), vv_clI (by omega)]; omega
    have es : bestV (fun i => farV (fun a => M'.1 34 0 (4 * i + a)) (fun a => M'.1 5 0 a) na) (j + 1) = if farV (fun a => M'.1 34 0 (4 * (j + 1) + a)) (fun a => M'.1 5 0 a) na < farV (fun a => M'.1 34 0 (4 * (bestV (fun i => farV (fun a => M'.1 34 0 (4 * i + a)) (fun a => M'.1 5 0 a) na) j) + a)) (fun a => M'.1 5 0 a) na then j + 1 else bestV (fun i => farV (fun a => M'.1 34 0 (4 * i + a)) (fun a => M'.1 5 0 a) na) j := rfl
    by_cases s : farV (fun a => M'.1 34 0 (4 * (j + 1) + a)) (fun a => M'.1 5 0 a) na < farV (fun a => M'.1 34 0 (4 * (bestV (fun i => farV (fun a => M'.1 34 0 (4 * i + a)) (fun a => M'.1 5 0 a) na) j) + a)) (fun a => M'.1 5 0 a) na
    · refine gf (by rw [i32_le]; rw [i32_lt] at s; omega) (hK _ _ _ ⟨rfl, j + 1, by omega, rfl, by rw [es, if_pos s]⟩ mu)
    · refine gt (by rw [i32_le]; rw [i32_lt] at s; omega) (hK _ _ _ ⟨rfl, j + 1, by omega, rfl, by rw [es, if_neg s]⟩ mu)
theorem w6_nearest {na ni : Nat} {Q : Int32 → xS → Prop} (hn : na ≤ 4) (h0 : S.1 6 0 1 = nI na) (hi : ni < 6) (h11 : S.1 6 0 11 = nI (ni + 1)) (hr : ∀ i, i ≤ ni → 0 ≤ (farV (fun a => S.1 33 i a) (fun a => S.1 30 0 a) na).toInt ∧ (farV (fun a => S.1 33 i a) (fun a => S.1 30 0 a) na).toInt < 2147483647) (k : Q (nI (bestV (fun i => farV (fun a => S.1 33 i a) (fun a => S.1 30 0 a) na) ni)) S) : wp_X6_nearestInstance S Q := by
  unfold wp_X6_nearestInstance
  refine wl3 (wp_X6_nearestInstance_10 Q) (fun K => wp_X6_nearestInstance_10_b K Q) (fun _ _ _ _ _ => rfl)
    (fun S' v1 v2 v3 => S' = S ∧ ((v1 = -1000008 ∧ v2 = 2147483647 ∧ v3 = 0) ∨ ∃ j, j ≤ ni ∧ v3 = nI (j + 1) ∧ v1 = nI (bestV (fun i => farV (fun a => S.1 33 i a) (fun a => S.1 30 0 a) na) j) ∧ v2 = farV (fun a => S.1 33 (bestV (fun i => farV (fun a => S.1 33 i a) (fun a => S.1 30 0 a) na) j) a) (fun a => S.1 30 0 a) na)) (fun _ _ _ w => 10 - w.toNatClampNeg) ⟨rfl, Or.inl ⟨rfl, rfl, rfl⟩⟩ ?_
  rintro S' v1 v2 v3 K ⟨rfl, hh⟩ hK
  unfold wp_X6_nearestInstance_10_b
  have inner : ∀ j, j ≤ ni → v3 = nI j → (farV (fun a => S'.1 33 j a) (fun a => S'.1 30 0 a) na < v2 → K S' (nI j) (farV (fun a => S'.1 33 j a) (fun a => S'.1 30 0 a) na) (nI (j + 1))) → (¬ farV (fun a => S'.1 33 j a) (fun a => S'.1 30 0 a) na < v2 → K S' v1 v2 (nI (j + 1))) → ∃ n, wp_X6_nearestInstance_24 K Q n S' v1 v2 v3 0 0 := by
    intro j hj e k1 k2
    subst e
    refine wl2 (fun n S a b => wp_X6_nearestInstance_24 K Q n S v1 v2 (nI j) a b) (fun K24 S a b => wp_X6_nearestInstance_24_b K (fun S _ _ _ a b => K24 S a b) Q S v1 v2 (nI j) a b) (fun _ _ _ _ => rfl)
      (fun S'' v w => S'' = S' ∧ ∃ a, a ≤ na ∧ w = nI a ∧ v = farV (fun a => S'.1 33 j a) (fun a => S'.1 30 0 a) a) (fun _ _ w => 4 - w.toNatClampNeg) ⟨rfl, 0, by omega, rfl, rfl⟩ ?_
    rintro S'' v w K24 ⟨rfl, a, ha, rfl, rfl⟩ hK24
    unfold wp_X6_nearestInstance_24_b wp_X6_nearestInstance_75
    rw [h0]
    by_cases c : a = na
    · subst c
      refine gt (by rw [vv_le (by omega) (by omega)]; omega) ?_
      rw [nI_1]
      by_cases s : farV (fun a => S''.1 33 j a) (fun a => S''.1 30 0 a) a < v2
      · exact gf (by rw [i32_le]; rw [i32_lt] at s; omega) (k1 s)
      · exact gt (by rw [i32_le]; rw [i32_lt] at s; omega) (k2 s)
    · refine gf (by rw [vv_le (by omega) (by omega)]; omega) ⟨vv_in (by omega) (by omega), vv_in (by omega) (by omega), vv_in (by omega) (by omega), ?_⟩
      rw [vv_clI (k := a) (by omega), vv_clI (k := j) (by omega), nI_1]
      unfold wp_J9_abs_0f7a4 wp_J9_abs_0f7a4_10
      have es : farV (fun a => S''.1 33 j a) (fun a => S''.1 30 0 a) (a + 1) = farV (fun a => S''.1 33 j a) (fun a => S''.1 30 0 a) a + (if 0 ≤ S''.1 33 j a - S''.1 30 0 a then S''.1 33 j a - S''.1 30 0 a else -(S''.1 33 j a - S''.1 30 0 a)) := rfl
      have mu : 4 - (nI (a + 1)).toNatClampNeg < 4 - (nI a).toNatClampNeg := by rw [vv_clI (by omega), vv_clI (by omega)]; omega
      by_cases s : 0 ≤ S''.1 33 j a - S''.1 30 0 a
      · exact gt s (hK24 _ _ _ ⟨rfl, a + 1, by omega, rfl, by rw [es, if_pos s]⟩ mu)
      · exact gf s (hK24 _ _ _ ⟨rfl, a + 1, by omega, rfl, by rw [es, if_neg s]⟩ mu)
  rw [h11]
  rcases hh with ⟨rfl, rfl, rfl⟩ | ⟨j, hj, rfl, rfl, rfl⟩
  · refine gf (by rw [nl0, vv_le (by omega) (by omega)]; omega) (inner 0 (by omega) rfl (fun _ => hK _ _ _ _ ⟨rfl, Or.inr ⟨0, by omega, rfl, rfl, rfl⟩⟩ (by rw [nl0, vv_clI (by omega), vv_clI (by omega)]; omega)) (fun s => ?_))
    have := hr 0 (by omega)
    rw [i32_lt, show (2147483647 : Int32).toInt = 2147483647 from rfl] at s
    omega
  · have hb := bestV_le (d := fun i => farV (fun a => S'.1 33 i a) (fun a => S'.1 30 0 a) na) j
    by_cases c : j = ni
    · subst c
      exact gt (by rw [vv_le (by omega) (by omega)]; omega) k
    · have mu : 10 - (nI (j + 1 + 1)).toNatClampNeg < 10 - (nI (j + 1)).toNatClampNeg := by rw [vv_clI (by omega), vv_clI (by omega)]; omega
      have es : bestV (fun i => farV (fun a => S'.1 33 i a) (fun a => S'.1 30 0 a) na) (j + 1) = if farV (fun a => S'.1 33 (j + 1) a) (fun a => S'.1 30 0 a) na < farV (fun a => S'.1 33 (bestV (fun i => farV (fun a => S'.1 33 i a) (fun a => S'.1 30 0 a) na) j) a) (fun a => S'.1 30 0 a) na then j + 1 else bestV (fun i => farV (fun a => S'.1 33 i a) (fun a => S'.1 30 0 a) na) j := rfl
      refine gf (by rw [vv_le (by omega) (by omega)]; omega) (inner (j + 1) (by omega) rfl (fun s => hK _ _ _ _ ⟨rfl, Or.inr ⟨j + 1, by omega, rfl, by rw [es, if_pos s], by rw [es, if_pos s]⟩⟩ mu) (fun s => hK _ _ _ _ ⟨rfl, Or.inr ⟨j + 1, by omega, rfl, by rw [es, if_neg s], by rw [es, if_neg s]⟩⟩ mu))
theorem bestV_fr {d d' : Nat → Int32} : ∀ i, (∀ j, j ≤ i → d' j = d j) → bestV d' i = bestV d i
  | 0, _ => rfl
  | i + 1, h => by
    have hb := bestV_le (d := d) i
    show (if d' (i + 1) < d' (bestV d' i) then i + 1 else bestV d' i) = (if d (i + 1) < d (bestV d i) then i + 1 else bestV d i)
    rw [bestV_fr i (fun j hj => h j (by omega)), h (i + 1) (Nat.le_refl _), h (bestV d i) (by omega)]
theorem op_nearestInstance {K : xS → xS → Prop} (I : Inv n S M) (hK : ∀ S' M', Inv (n + 1) S' M' → K S' M') :
    wp_X6_nearestInstance S (fun r1 S1 => wp_X7_nearestInstance M (fun r2 M1 => if r1 = r2 then K S1 M1 else False)) := by
  obtain ⟨⟨i1, i2, i3⟩, i4⟩ := I.2.2.2.1
  obtain ⟨⟨hn, h0, h1⟩, hax, hz, hzz⟩ := I.1
  by_cases c0 : cntM M 32 = 0
  · refine op_of (w6 := wp_X6_nearestInstance S) (w7 := wp_X7_nearestInstance M) (r := -1000008) (fun Q k => ?_) (fun Q k => ?_) (hK _ _ I.next)
    · unfold wp_X6_nearestInstance
      refine ⟨1, ?_⟩
      show wp_X6_nearestInstance_10_b _ Q S _ _ _
      unfold wp_X6_nearestInstance_10_b
      rw [i3, i2, c0]
      exact gt (by decide) k
    · unfold wp_X7_nearestInstance wp_X7_nearestInstance_14
      rw [i2, c0]
      refine gt rfl ⟨1, ?_⟩
      show wp_X7_nearestInstance_17_b _ Q M _ _
      unfold wp_X7_nearestInstance_17_b
      rw [i2, c0]
      exact gt (by decide) k
  · have e1 : cntM M 32 - 1 + 1 = cntM M 32 := by omega
    have ed : ∀ i, i ≤ cntM M 32 - 1 → farV (fun a => S.1 33 i a) (fun a => S.1 30 0 a) (cntM M 0) = farV (fun a => M.1 34 0 (4 * i + a)) (fun a => M.1 5 0 a) (cntM M 0) := fun i hi => farV_fr _ (fun a ha => ⟨(i4 i (by omega) a (by omega)).1, (hax a ha).2.2.2.1.1⟩)
    refine op_of (w6 := wp_X6_nearestInstance S) (w7 := wp_X7_nearestInstance M) (fun Q k => w6_nearest (ni := cntM M 32 - 1) hn (h1.trans h0) (by omega) (by rw [e1]; exact i3.trans i2) (fun i hi => ?_) k) (fun Q k => w7_nearest (ni := cntM M 32 - 1) hn h0 (by omega) (by rw [e1]; exact i2) (by rw [← bestV_fr (cntM M 32 - 1) ed]; exact k)) (hK _ _ I.next)
    have q := farV_rng (f := fun a => M.1 34 0 (4 * i + a)) (c := fun a => M.1 5 0 a) (cntM M 0) hn (fun a ha => ⟨(i4 i (by omega) a (by omega)).2, (hax a ha).2.2.2.1.2⟩)
    rw [ed i hi]
    omega
end NEAREST
