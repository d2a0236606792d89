def sgn (v : Int64) : Int32 := if 0 < v then 1 else if v < 0 then -1 else 0
theorem w7_sign {v : Int64} {M : xS} {Q : Int32 → xS → Prop} (k : Q (sgn v) M) : wp_X7_sign v M Q := by
  unfold wp_X7_sign wp_X7_sign_21
  unfold sgn at k
  by_cases c : 0 < v
  · rw [if_pos c] at k
    exact gf (by rw [cmp_le0]; exact not_not_intro c) k
  · rw [if_neg c] at k
    refine gt (by rw [cmp_le0]; exact c) ?_
    by_cases c2 : v < 0
    · rw [if_pos c2] at k
      exact gf (by rw [cmp_ge0]; exact not_not_intro c2) k
    · rw [if_neg c2] at k
      exact gt (by rw [cmp_ge0]; exact c2) k
theorem i64_tri (v : Int64) : (0 < v ∧ ¬ v < 0) ∨ (¬ 0 < v ∧ v < 0) ∨ (¬ 0 < v ∧ ¬ v < 0) := by
  rw [i64_lt, i64_lt, show (0 : Int64).toInt = 0 from rfl]; omega
theorem w6_same {a b : Int64} {S : xS} {Q : Int32 → xS → Prop} (k : Q (if sgn a = sgn b then 1 else 0) S) : wp_X6_haveSameSign a b S Q := by
  unfold wp_X6_haveSameSign wp_X6_haveSameSign_11 wp_X6_haveSameSign_22 wp_X6_haveSameSign_36 wp_X6_haveSameSign_47 wp_X6_haveSameSign_54 wp_X6_haveSameSign_55
  unfold sgn at k
  simp only [cmp_le0, cmp_ge0]
  have q1 : ((0 : Int32) = 0 ∨ (0 : Int32) = 1) := Or.inl rfl
  have q2 : ((1 : Int32) = 0 ∨ (1 : Int32) = 1) := Or.inr rfl
  rcases i64_tri a with ⟨a1, a2⟩ | ⟨a1, a2⟩ | ⟨a1, a2⟩ <;> rcases i64_tri b with ⟨c1, c2⟩ | ⟨c1, c2⟩ | ⟨c1, c2⟩ <;> simp [a1, a2, c1, c2] at k ⊢ <;> exact k
def fpN (A B : Nat → Int64) : Nat → Nat
  | 0 => 0
  | c + 1 => fpN A B c + (if sgn (A c) = sgn (B c) then 0 else 1)
theorem fpN_le (A B : Nat → Int64) : ∀ c, fpN A B c ≤ c
  | 0 => Nat.le_refl _
  | c + 1 => by
    have := fpN_le A B c
    show fpN A B c + (if sgn (A c) = sgn (B c) then 0 else 1) ≤ c + 1
    split <;> omega
theorem otD_fr {M M' : xS} {loc : Nat → Int32} (h : M'.1 11 = M.1 11) : ∀ f, otD M' loc f = otD M loc f
  | 0 => rfl
  | f + 1 => by
    have er : ∀ g, mrow M' g = mrow M g := fun g => by unfold mrow; rw [h]
    funext g x y a
    show (if mrow M' g 0 = 1 then otC (otD M' loc f) (mrow M' g) loc x y (rN (mrow M' g)) a else ptA (mrow M' g) loc x y (rN (mrow M' g)) a) = _
    rw [er, otD_fr h f]
    rfl
def ar1 (a : xOS) (c : Nat) : Int64 := arL a.1 (fun i => decide (i = c))
theorem w7_keep {M : xS} {Q : xS → Prop} (k : ∀ M', (∀ k, k ≠ 23 → M'.1 k = M.1 k) → (∀ a, a < 4 → M'.1 23 0 a = M.1 5 0 a) → M'.2 = M.2 → Q M') : wp_X7_keepCoordinates M Q := by
  unfold wp_X7_keepCoordinates
  refine wl1 (wp_X7_keepCoordinates_2 Q) (fun K => wp_X7_keepCoordinates_2_b K Q) (fun _ _ _ => rfl) (fun M' v => ∃ j, j ≤ 4 ∧ v = nI j ∧ (∀ k, k ≠ 23 → M'.1 k = M.1 k) ∧ (∀ a, a < j → M'.1 23 0 a = M.1 5 0 a) ∧ M'.2 = M.2) (fun _ v => 4 - v.toNatClampNeg) ⟨0, by omega, rfl, fun _ _ => rfl, fun a h => by omega, rfl⟩ ?_
  rintro M' v K ⟨j, hj, rfl, h1, h2, h3⟩ hK
  unfold wp_X7_keepCoordinates_2_b
  by_cases c : j = 4
  · subst c; exact gt (by decide) (k M' h1 h2 h3)
  · have hin := vv_in (k := j) (N := 4) (by omega) (by omega)
    refine gf (by rw [nl4, vv_le (by omega) (by omega)]; omega) ⟨hin, hin, ?_⟩
    rw [vv_clI (by omega), nI_1]
    refine hK _ _ ⟨j + 1, by omega, rfl, fun k hk => by rw [xI_k hk]; exact h1 k hk, fun a ha => ?_, h3⟩ (by rw [vv_clI (by omega), vv_clI (by omega)]; omega)
    rw [xI_1]
    by_cases e : a = j
    · rw [if_pos ⟨rfl, rfl, e⟩, e, h1 5 (by omega)]
    · rw [if_neg (by omega)]; exact h2 a (by omega)
theorem w7_take {M : xS} {Q : xS → Prop} (k : ∀ M', (∀ k, k ≠ 5 → M'.1 k = M.1 k) → (∀ i j, i = 0 ∧ j < 4 ∨ M'.1 5 i j = M.1 5 i j) → (∀ a, a < 4 → M'.1 5 0 a = M.1 23 0 a) → Q M') : wp_X7_takeCoordinates M Q := by
  unfold wp_X7_takeCoordinates
  refine wl1 (wp_X7_takeCoordinates_2 Q) (fun K => wp_X7_takeCoordinates_2_b K Q) (fun _ _ _ => rfl) (fun M' v => ∃ j, j ≤ 4 ∧ v = nI j ∧ (∀ k, k ≠ 5 → M'.1 k = M.1 k) ∧ (∀ i z, i = 0 ∧ z < 4 ∨ M'.1 5 i z = M.1 5 i z) ∧ (∀ a, a < j → M'.1 5 0 a = M.1 23 0 a)) (fun _ v => 4 - v.toNatClampNeg) ⟨0, by omega, rfl, fun _ _ => rfl, fun _ _ => Or.inr rfl, fun a h => by omega⟩ ?_
  rintro M' v K ⟨j, hj, rfl, h1, h2, h3⟩ hK
  unfold wp_X7_takeCoordinates_2_b
  by_cases c : j = 4
  · subst c; exact gt (by decide) (k M' h1 h2 h3)
  · have hin := vv_in (k := j) (N := 4) (by omega) (by omega)
    refine gf (by rw [nl4, vv_le (by omega) (by omega)]; omega) ⟨hin, hin, ?_⟩
    rw [vv_clI (by omega), nI_1]
    refine hK _ _ ⟨j + 1, by omega, rfl, fun k hk => by rw [xI_k hk]; exact h1 k hk, fun i z => ?_, fun a ha => ?_⟩ (by rw [vv_clI (by omega), vv_clI (by omega)]; omega)
    · rw [xI_1]
      by_cases e : i = 0 ∧ z < 4
      · exact Or.inl e
      · rw [if_neg (by omega)]; exact h2 i z
    · rw [xI_1]
      by_cases e : a = j
      · rw [if_pos ⟨rfl, rfl, e⟩, e, h1 23 (by omega)]
      · rw [if_neg (by omega)]; exact h3 a (by omega)
def OutFr (M M' : xS) : Prop := (∀ k, k ≠ 22 → M'.1 k = M.1 k) ∧ M'.2 = M.2
theorem w7_fl18 {M : xS} {g : Int32} {a : xOS} {Q : Int32 → xS → Prop} (h13 : M.1 0 0 13 = nI a.1.length) (h14 : M.1 0 0 14 = nI a.2) (hA : OutA (M.2.1 16 0) (M.2.1 17 0) (M.1 18 0) a.1) (hl : a.1.length ≤ 96) (hc : CtB a) (h2 : a.2 ≤ 96)
    (k : ∀ M', OutFr M M' → (∀ c, c < a.2 → M'.1 22 0 c = sgn (ar1 a c)) → wp_X7_keepCoordinates M' (fun S1 => ∃ n3, wp_X7_flips_52 g Q n3 S1 0)) : ∃ n, wp_X7_flips_18 g Q n M 0 := by
  refine wl1 (wp_X7_flips_18 g Q) (fun K => wp_X7_flips_18_b g K Q) (fun _ _ _ => rfl) (fun M' v => ∃ j, j ≤ a.2 ∧ v = nI j ∧ OutFr M M' ∧ (∀ c, c < j → M'.1 22 0 c = sgn (ar1 a c))) (fun _ v => 100 - v.toNatClampNeg) ⟨0, by omega, rfl, ⟨fun _ _ => rfl, rfl⟩, fun c h => by omega⟩ ?_
  rintro M' v K ⟨j, hj, rfl, hf, hs⟩ hK
  unfold wp_X7_flips_18_b
  rw [hf.1 0 (by omega), h14]
  by_cases c : j = a.2
  · subst c; exact gt (by rw [vv_le (by omega) (by omega)]; omega) (k M' hf hs)
  · refine gf (by rw [vv_le (by omega) (by omega)]; omega) (w7_areaOf (sel := fun i => decide (i = j)) (by rw [hf.1 0 (by omega)]; exact h13) (by rw [hf.1 18 (by omega), hf.2]; exact hA) hl hc (by omega) (fun c hc => ?_) (w7_sign ⟨vv_in (by omega) (by omega), ?_⟩))
    · have : ¬ nI j < 0 := by rw [nl0, vv_lt (by omega) (by omega)]; omega
      rw [vv_eq (by omega) (by omega), decide_eq_true_eq]
      exact propext ⟨fun h => h.resolve_left this, Or.inr⟩
    · rw [vv_clI (by omega), nI_1]
      refine hK _ _ ⟨j + 1, by omega, rfl, ⟨fun k hk => by rw [xI_k hk]; exact hf.1 k hk, hf.2⟩, fun c hc => ?_⟩ (by rw [vv_clI (by omega), vv_clI (by omega)]; omega)
      rw [xI_1]
      by_cases e : c = j
      · rw [if_pos ⟨rfl, rfl, e⟩, e]; rfl
      · rw [if_neg (by omega)]; exact hs c (by omega)
theorem w7_fl82 {M : xS} {a : xOS} {A : Nat → Int64} {Q : Int32 → xS → Prop} (h13 : M.1 0 0 13 = nI a.1.length) (h14 : M.1 0 0 14 = nI a.2) (hA : OutA (M.2.1 16 0) (M.2.1 17 0) (M.1 18 0) a.1) (hl : a.1.length ≤ 96) (hc : CtB a) (h2 : a.2 ≤ 96) (hs : ∀ c, c < a.2 → M.1 22 0 c = sgn (A c))
    (k : wp_X7_takeCoordinates M (fun S1 => Q (nI (fpN A (ar1 a) a.2)) S1)) : ∃ n, wp_X7_flips_82 Q n M 0 0 := by
  refine wl2 (wp_X7_flips_82 Q) (fun K => wp_X7_flips_82_b K Q) (fun _ _ _ _ => rfl) (fun M' w v => M' = M ∧ ∃ j, j ≤ a.2 ∧ v = nI j ∧ w = nI (fpN A (ar1 a) j)) (fun _ _ v => 100 - v.toNatClampNeg) ⟨rfl, 0, by omega, rfl, rfl⟩ ?_
  rintro M' w v K ⟨rfl, j, hj, rfl, rfl⟩ hK
  unfold wp_X7_flips_82_b wp_X7_flips_113
  rw [h14]
  by_cases c : j = a.2
  · subst c; exact gt (by rw [vv_le (by omega) (by omega)]; omega) k
  · refine gf (by rw [vv_le (by omega) (by omega)]; omega) ⟨vv_in (by omega) (by omega), w7_areaOf (sel := fun i => decide (i = j)) h13 hA hl hc (by omega) (fun c hc => ?_) (w7_sign ?_)⟩
    · have : ¬ nI j < 0 := by rw [nl0, vv_lt (by omega) (by omega)]; omega
      rw [vv_eq (by omega) (by omega), decide_eq_true_eq]
      exact propext ⟨fun h => h.resolve_left this, Or.inr⟩
    · rw [vv_clI (by omega), hs j (by omega), nI_1, nl0, nl1, nI_add, nI_add]
      have es : fpN A (ar1 a) (j + 1) = fpN A (ar1 a) j + (if sgn (A j) = sgn (ar1 a j) then 0 else 1) := rfl
      by_cases e : sgn (A j) = sgn (ar1 a j)
      · rw [if_pos e] at es
        exact gt e (hK _ _ _ ⟨rfl, j + 1, by omega, rfl, by rw [es]⟩ (by rw [vv_clI (by omega), vv_clI (by omega)]; omega))
      · rw [if_neg e] at es
        exact gf e (hK _ _ _ ⟨rfl, j + 1, by omega, rfl, by rw [es]⟩ (by rw [vv_clI (by omega), vv_clI (by omega)]; omega))
theorem w6_fl48 {S : xS} {a a0 : xOS} {Q : Int32 → xS → Prop} (h4 : S.1 4 0 0 = nI a.1.length) (h5 : S.1 4 0 1 = nI a.2) (hA : OutA (S.2.1 21 0) (S.2.1 22 0) (S.1 23 0) a.1) (hl : a.1.length ≤ 96) (hc : CtB a) (h2 : a.2 ≤ 96) (h4' : S.1 4 1 0 = nI a0.1.length) (hA' : OutA (S.2.1 21 1) (S.2.1 22 1) (S.1 23 1) a0.1) (hl' : a0.1.length ≤ 96) (hc' : CtB a0) (h2' : a0.2 ≤ 96)
    (k : Q (nI (fpN (ar1 a) (ar1 a0) a.2)) S) : ∃ n, wp_X6_flips_48 Q n S 0 0 0 := by
  refine wl3 (wp_X6_flips_48 Q) (fun K => wp_X6_flips_48_b K Q) (fun _ _ _ _ _ => rfl) (fun S' o w v => S' = S ∧ o = 0 ∧ ∃ j, j ≤ a.2 ∧ v = nI j ∧ w = nI (fpN (ar1 a) (ar1 a0) j)) (fun _ _ _ v => 100 - v.toNatClampNeg) ⟨rfl, rfl, 0, by omega, rfl, rfl⟩ ?_
  rintro S' o w v K ⟨rfl, rfl, j, hj, rfl, rfl⟩ hK
  unfold wp_X6_flips_48_b wp_X6_flips_81
  rw [h5]
  by_cases c : j = a.2
  · subst c; exact gt (by rw [vv_le (by omega) (by omega)]; omega) k
  · have hs : ∀ c, c < 1000 → (nI c = nI j) = (decide (c = j) = true) := fun c hc => by rw [vv_eq (by omega) (by omega), decide_eq_true_eq]
    refine gf (by rw [vv_le (by omega) (by omega)]; omega) (w4_area (sel := fun i => decide (i = j)) h4 hA hl hc (by omega) hs (w4_area (sel := fun i => decide (i = j)) h4' hA' hl' hc' (by omega) hs (w6_same ?_)))
    rw [nI_1, nI_1]
    have es : fpN (ar1 a) (ar1 a0) (j + 1) = fpN (ar1 a) (ar1 a0) j + (if sgn (ar1 a j) = sgn (ar1 a0 j) then 0 else 1) := rfl
    show if (if sgn (ar1 a j) = sgn (ar1 a0 j) then (1 : Int32) else 0) = 0 then _ else _
    by_cases e : sgn (ar1 a j) = sgn (ar1 a0 j)
    · rw [if_pos e] at es ⊢
      exact gf (by decide) (hK _ _ _ _ ⟨rfl, rfl, j + 1, by omega, rfl, by rw [es]; rfl⟩ (by rw [vv_clI (by omega), vv_clI (by omega)]; omega))
    · rw [if_neg e] at es ⊢
      exact gt rfl (hK _ _ _ _ ⟨rfl, rfl, j + 1, by omega, rfl, by rw [es]⟩ (by rw [vv_clI (by omega), vv_clI (by omega)]; omega))
theorem op_flips {n : Nat} {S M : xS} {K : xS → xS → Prop} (I : Inv n S M) (hn : n ≤ 600) (a : Int32) (hK : ∀ S' M', Inv (n + 1) S' M' → K S' M') :
    wp_X6_flips a S (fun r1 S1 => wp_X7_flips a M (fun r2 M1 => if r1 = r2 then K S1 M1 else False)) := by
  obtain ⟨⟨b1, b2, b3⟩, b4, b5, b6⟩ := I.2.1
  have hS1 := b3.trans b2
  by_cases ca : 0 ≤ a.toInt ∧ a.toInt < cntM M 9
  rotate_left
  · exact op_of (w6 := wp_X6_flips a S) (w7 := wp_X7_flips a M) (r := -1000002) (fun Q k => v6_hasGlyph_f b1 hS1 ca (g0 k)) (fun Q k => v7_noGlyph_f b1 b2 ca (g1 k)) (hK _ _ I.next)
  obtain ⟨g, rfl, eg, hgg⟩ := vv_nat ca.1
  have hg : g < cntM M 9 := by omega
  obtain ⟨o1, o2, o3, o4, o5⟩ := dwA_ok I hn hg
  obtain ⟨x1, x2, x3⟩ := drawn_ctx I hn
  have hlen := (x3 g hg).1
  have e0 := otD_len M (fun _ => 0) 7 g 0 0 ([], 0)
  have z1 : (otD M (fun _ => 0) 7 g 0 0 ([], 0)).1.length = ptsOf M 7 g := by
    have : (otD M (fun _ => 0) 7 g 0 0 ([], 0)).1.length = 0 + ptsOf M 7 g := e0.1
    omega
  have z2 : (otD M (fun _ => 0) 7 g 0 0 ([], 0)).2 = ctsOf M 7 g := by
    have : (otD M (fun _ => 0) 7 g 0 0 ([], 0)).2 = 0 + ctsOf M 7 g := e0.2
    omega
  have z3 : CtB (otD M (fun _ => 0) 7 g 0 0 ([], 0)) := otD_ctb 7 g 0 0 ([], 0) (fun p hp => absurd hp (by simp))
  refine v6_hasGlyph_t b1 hS1 hg (g1 (drawn_6 I hn hg (fun S1 hO _ => ?_)))
  unfold wp_X4_clear wp_X6_draw
  have hl1 : ∀ i, i < 4 → S1.1 30 1 i = (fun _ : Nat => (0 : Int32)) i := fun i hi => by rw [hO.1 30 (by omega) (by omega)]; exact I.1.2.2.2 i hi
  have hG1 : ∀ z, z < cntM M 9 → GlRel S1 z (mrow M z) ∧ RowOk (cntM M 0) z (mrow M z) ∧ ∀ t, t < 5 → S1.2.2 16 z t < 60 := fun z hz => by
    obtain ⟨y1, y2, y3⟩ := x1 z hz
    exact ⟨hO.gl y1 y2.2.1.1 y2.2.2.2.1.1, y2, by rw [hO.2.2.1]; exact y3⟩
  refine w6_draw (S0 := S1) (o := 1) (loc := fun _ => 0) b1 hG1 hl1 7 g 0 hg (by omega) (by omega) _ _ _ ([], 0) _ ⟨fun j q1 q2 => ?_, fun z hz => ⟨?_, ?_, rfl, rfl⟩, rfl, ?_, ?_, fun i p h => absurd h (by simp)⟩ (by show 0 + ptsOf M 7 g ≤ 96; omega) (fun S2 hO2 => ?_)
  · rw [xI_k q1, xI_k q1]
  · funext w
    rw [xI_1, if_neg (by omega), xI_1, if_neg (by omega)]
  · rw [xI_k (by omega), xI_k (by omega)]
  · rw [xI_1, if_neg (by omega), xI_s]; rfl
  · rw [xI_s]; rfl
  · obtain ⟨w1, w2, w3, w4⟩ := hO2.2.1 0 (by omega)
    refine w6_fl48 (a := dwA S M g) (a0 := otD M (fun _ => 0) 7 g 0 0 ([], 0)) (by rw [w1]; exact hO.2.2.2.1) (by rw [w1]; exact hO.2.2.2.2.1) (by rw [w2, w3, w4]; exact hO.2.2.2.2.2) o1 o3 (by omega) hO2.2.2.2.1 hO2.2.2.2.2.2 (by omega) z3 (by have := ctsOf_le M 7 g; omega) ?_
    refine v7_noGlyph_t b1 b2 hg (g0 (drawn_7 I hn hg (fun M1 hM => ?_)))
    refine w7_fl18 hM.2.2.1 hM.2.2.2.1 hM.2.2.2.2 o1 o3 (by omega) (fun M2 hF hsg => w7_keep (fun M3 k1 k2 k3 => ?_))
    have m3 : ∀ k, k ≠ 0 → k ≠ 18 → k ≠ 19 → k ≠ 22 → k ≠ 23 → M3.1 k = M.1 k := fun k q0 q1 q2 q3 q4 => by rw [k1 k q4, hF.1 k q3, hM.1 k q0 q1 q2]
    have m30 : M3.1 0 = M1.1 0 := by rw [k1 0 (by omega), hF.1 0 (by omega)]
    have n0 : M3.1 0 0 0 = nI (cntM M 0) := by rw [m30, hM.2.1 0 (by omega) (by omega)]; exact I.1.1.2.1
    refine wl1 (wp_X7_flips_52 (nI g) _) (fun K => wp_X7_flips_52_b (nI g) K _) (fun _ _ _ => rfl) (fun M4 v => ∃ j, j ≤ cntM M 0 ∧ v = nI j ∧ (∀ k, k ≠ 5 → M4.1 k = M3.1 k) ∧ (∀ i z, i = 0 ∧ z < 4 ∨ M4.1 5 i z = M3.1 5 i z) ∧ (∀ i, i < j → M4.1 5 0 i = 0)) (fun _ v => 4 - v.toNatClampNeg) ⟨0, by omega, rfl, fun _ _ => rfl, fun _ _ => Or.inr rfl, fun i h => by omega⟩ ?_
    rintro M4 v K4 ⟨j, hj, rfl, h1, h2, h3⟩ hK4
    have hna := I.1.1.1
    unfold wp_X7_flips_52_b
    rw [h1 0 (by omega), n0]
    by_cases c : j = cntM M 0
    · subst c
      refine gt (by rw [vv_le (by omega) (by omega)]; omega) ?_
      have m4 : ∀ k, k ≠ 0 → k ≠ 5 → k ≠ 18 → k ≠ 19 → k ≠ 22 → k ≠ 23 → M4.1 k = M.1 k := fun k q0 q5 q1 q2 q3 q4 => by rw [h1 k q5, m3 k q0 q1 q2 q3 q4]
      have e11 : M4.1 11 = M.1 11 := m4 11 (by omega) (by omega) (by omega) (by omega) (by omega) (by omega)
      have er : ∀ z, mrow M4 z = mrow M z := fun z => by unfold mrow; rw [e11]
      refine w7_layOutline (loc := fun _ => 0) b1 I.1.1.1 (by rw [h1 0 (by omega)]; exact n0) (fun z hz => by rw [er]; exact x2 z hz) h3 hg (by rw [ptsOf_fr e11]; exact hlen) (fun M5 hM5 => ?_)
      rw [otD_fr e11] at hM5
      refine w7_fl82 (A := ar1 (dwA S M g)) hM5.2.2.1 hM5.2.2.2.1 hM5.2.2.2.2 (by omega) z3 (by have := ctsOf_le M 7 g; omega) (fun c hc => ?_) (w7_take (fun M6 t1 t2 t3 => ?_))
      · rw [hM5.1 22 (by omega) (by omega) (by omega), h1 22 (by omega), k1 22 (by omega)]
        exact hsg c (by omega)
      · refine gt (by rw [z2, ← o5]) (hK _ _ (I.sc (hO.sc.trans ⟨fun k q1 q2 _ => hO2.1 k q1 q2, fun i => by rw [hO2.1 30 (by omega) (by omega)]; exact ⟨rfl, rfl⟩, hO2.2.2.1⟩) ⟨fun k q0 q12 q13 q18 q19 q22 q23 => ?_, fun z q1 q2 => ?_⟩))
        · by_cases e5 : k = 5
          · subst e5
            funext i z
            by_cases ez : i = 0 ∧ z < 4
            · obtain ⟨rfl, hz⟩ := ez
              rw [t3 z hz, hM5.1 23 (by omega) (by omega) (by omega), h1 23 (by omega), k2 z hz, hF.1 5 (by omega), hM.1 5 (by omega) (by omega) (by omega)]
            · rw [(t2 i z).resolve_left ez, hM5.1 5 (by omega) (by omega) (by omega), (h2 i z).resolve_left ez, m3 5 (by omega) (by omega) (by omega) (by omega) (by omega)]
          · rw [t1 k e5, hM5.1 k q0 q18 q19, m4 k q0 e5 q18 q19 q22 q23]
        · rw [t1 0 (by omega), hM5.2.1 z q1 q2, h1 0 (by omega), m30, hM.2.1 z q1 q2]
    · refine gf (by rw [vv_le (by omega) (by omega)]; omega) ⟨vv_in (by omega) (by omega), ?_⟩
      rw [vv_clI (by omega), nI_1]
      refine hK4 _ _ ⟨j + 1, by omega, rfl, fun k hk => by rw [xI_k hk]; exact h1 k hk, fun i z => ?_, fun i hi => ?_⟩ (by rw [vv_clI (by omega), vv_clI (by omega)]; omega)
      · rw [xI_1]
        by_cases e : i = 0 ∧ z < 4
        · exact Or.inl e
        · rw [if_neg (by omega)]; exact h2 i z
      · rw [xI_1]
        by_cases e : i = j
        · rw [if_pos ⟨rfl, rfl, e⟩]
        · rw [if_neg (by omega)]; exact h3 i (by omega)
