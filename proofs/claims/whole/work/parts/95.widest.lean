def wdI (i : Nat) : Int32 := -16384 + nI (2048 * i)
theorem wdI_s (i : Nat) : wdI i + 2048 = wdI (i + 1) := by
  unfold wdI
  rw [Int32.add_assoc, show (2048 : Int32) = nI 2048 from rfl, nI_add]
  rfl
theorem wdI_gt' : ∀ i : Fin 18, (16384 < wdI i.val ↔ i.val = 17) ∧ (wdI i.val = -16384 ↔ i.val = 0) := by decide +kernel
theorem wdI_gt {i : Nat} (h : i ≤ 17) : (16384 < wdI i ↔ i = 17) ∧ (wdI i = -16384 ↔ i = 0) := wdI_gt' ⟨i, by omega⟩
def wdL (b : Nat → Int32) (a i : Nat) : Nat → Int32 := fun z => if z = a then wdI i else b z
def wdP (F : Nat → Int64) : Nat → Nat × Int64
  | 0 => (0, F 0)
  | i + 1 => if (wdP F i).2 < F (i + 1) then (i + 1, F (i + 1)) else wdP F i
def wdF (r b : Nat → Int32) (a i : Nat) : Int64 := plV r (wdL b a i) 24 0 (fun t => depB r t 15 4)
section WIDE
variable {S M : xS} {g a na gi : Nat} {b : Nat → Int32}
theorem w6_wide {Q : Int32 → xS → Prop} (hg : g < 6) (ha : a < 4) (hG : GlRel S g (mrow M g)) (hR : RowOk na gi (mrow M g)) (hid : ∀ t, t < 5 → S.2.2 16 g t < 60) (hb : ∀ i, i < 4 → S.1 30 2 i = b i)
    (k : ∀ S', (∀ k, k ≠ 30 → S'.1 k = S.1 k) → (∀ z, z ≠ 2 → S'.1 30 z = S.1 30 z) → S'.2 = S.2 → Q (wdI (wdP (wdF (mrow M g) b a) 16).1) S') : ∃ n, wp_X6_widest_50 (nI g) (nI a) Q n S (-16384) (-9223372036854775808) (-16384) := by
  have hN := hR.2.1.1
  have hT := hR.2.2.2.1.1
  refine wl3 (wp_X6_widest_50 (nI g) (nI a) Q) (fun K => wp_X6_widest_50_b (nI g) (nI a) K Q) (fun _ _ _ _ _ => rfl)
    (fun S' v3 v4 v6 => ∃ i, i ≤ 17 ∧ v6 = wdI i ∧ ((i = 0 ∧ v3 = -16384 ∧ v4 = -9223372036854775808) ∨ ∃ j, i = j + 1 ∧ v3 = wdI (wdP (wdF (mrow M g) b a) j).1 ∧ v4 = (wdP (wdF (mrow M g) b a) j).2) ∧ (∀ k, k ≠ 30 → S'.1 k = S.1 k) ∧ (∀ z, z ≠ 2 → S'.1 30 z = S.1 30 z) ∧ S'.2 = S.2 ∧ ∀ i, i < 4 → i ≠ a → S'.1 30 2 i = b i)
    (fun _ _ _ v => (16384 + 2048 - v.toInt).toNat) ⟨0, by omega, by decide, Or.inl ⟨rfl, rfl, rfl⟩, fun _ _ => rfl, fun _ _ => rfl, rfl, fun i hi _ => hb i hi⟩ ?_
  rintro S' v3 v4 v6 K ⟨i, hi, rfl, hv, h1, h2, h3, h4⟩ hK
  obtain ⟨w1, w2⟩ := wdI_gt hi
  unfold wp_X6_widest_50_b wp_X6_widest_100
  by_cases c : i = 17
  · refine gt (w1.mpr c) ?_
    rcases hv with ⟨h, _⟩ | ⟨j, h, rfl, rfl⟩
    · omega
    · rw [show j = 16 by omega]; exact k S' h1 h2 h3
  · refine gf (fun h => c (w1.mp h)) ⟨vv_in (by omega) (by omega), vv_in (by omega) (by omega), ?_⟩
    rw [vv_clI (by omega), vv_clI (by omega)]
    have hG' : GlRel (xI S' 30 2 a (wdI i)) g (mrow M g) := hG.fr hN hT (fun k hk => by rw [xI_k (by omega), h1 k (by omega)]) (fun t _ => by show S'.2.2 16 g t = _; rw [h3]) (fun t _ k hk => by rw [xI_k (by omega), h1 k (by omega)]) (fun _ _ => rfl)
    refine w1_place (pl := 0) (bits := 15) (loc := wdL b a i) hG' hR (fun t ht => by show S'.2.2 16 g t < 60; rw [h3]; exact hid t ht) (by omega) (fun z hz => ?_) (by omega) ?_
    · rw [xI_1]
      unfold wdL
      by_cases e : z = a
      · rw [if_pos ⟨rfl, rfl, e⟩, if_pos e]
      · rw [if_neg (by omega), if_neg e]; exact h4 z hz e
    · rw [wdI_s]
      have mu : (16384 + 2048 - (wdI (i + 1)).toInt).toNat < (16384 + 2048 - (wdI i).toInt).toNat := by
        have e : ∀ z, z ≤ 17 → (wdI z).toInt = -16384 + 2048 * (z : Int) := fun z hz => by
          unfold wdI
          rw [i32_add] <;> rw [show (-16384 : Int32).toInt = -16384 from rfl, nI_toInt' (by omega)] <;> omega
        rw [e i hi, e (i + 1) (by omega)]
        omega
      have fr1 : ∀ k, k ≠ 30 → (xI S' 30 2 a (wdI i)).1 k = S.1 k := fun k hk => by rw [xI_k hk]; exact h1 k hk
      have fr2 : ∀ z, z ≠ 2 → (xI S' 30 2 a (wdI i)).1 30 z = S.1 30 z := fun z hz => by
        funext w
        rw [xI_1, if_neg (by omega), h2 z hz]
      have fr4 : ∀ z, z < 4 → z ≠ a → (xI S' 30 2 a (wdI i)).1 30 2 z = b z := fun z hz e => by rw [xI_1, if_neg (by omega)]; exact h4 z hz e
      show if lg_cmp (wdF (mrow M g) b a i) v4 ≤ 0 then _ else _
      have step : ∀ (x : Int32) (y : Int64), x = wdI (wdP (wdF (mrow M g) b a) i).1 → y = (wdP (wdF (mrow M g) b a) i).2 → K (xI S' 30 2 a (wdI i)) x y (wdI (i + 1)) := fun x y hx hy => hK _ _ _ _ ⟨i + 1, by omega, rfl, Or.inr ⟨i, rfl, hx, hy⟩, fr1, fr2, h3, fr4⟩ mu
      rcases hv with ⟨rfl, rfl, rfl⟩ | ⟨j, rfl, rfl, rfl⟩
      · by_cases cm : (-9223372036854775808 : Int64) < wdF (mrow M g) b a 0
        · exact gf (by rw [cmp_le0]; exact not_not_intro cm) (step _ _ rfl rfl)
        · refine gt (by rw [cmp_le0]; exact cm) (step _ _ (show (-16384 : Int32) = wdI 0 by decide) ?_)
          show _ = wdF (mrow M g) b a 0
          rw [i64_lt, show (-9223372036854775808 : Int64).toInt = -9223372036854775808 from rfl] at cm
          have a2 := Int64.le_toInt (wdF (mrow M g) b a 0)
          apply Int64.toInt_inj.mp
          rw [show (-9223372036854775808 : Int64).toInt = -9223372036854775808 from rfl]
          omega
      · have es : wdP (wdF (mrow M g) b a) (j + 1) = if (wdP (wdF (mrow M g) b a) j).2 < wdF (mrow M g) b a (j + 1) then (j + 1, wdF (mrow M g) b a (j + 1)) else wdP (wdF (mrow M g) b a) j := rfl
        by_cases cm : (wdP (wdF (mrow M g) b a) j).2 < wdF (mrow M g) b a (j + 1)
        · rw [if_pos cm] at es
          exact gf (by rw [cmp_le0]; exact not_not_intro cm) (step _ _ (by rw [es]) (by rw [es]; rfl))
        · rw [if_neg cm] at es
          exact gt (by rw [cmp_le0]; exact cm) (step _ _ (by rw [es]) (by rw [es]))
theorem wide_step {w m v3 : Int32} {r v4 : Int64} {P : Int32 → Int64 → Prop} (h1 : w = m → P w r) (h2 : ¬ w = m → v4 < r → P w r) (h3 : ¬ w = m → ¬ v4 < r → P v3 v4) :
    if w = m then (if w = m then P w r else if lg_cmp r v4 ≤ 0 then P w v4 else P w r) else if lg_cmp r v4 ≤ 0 then (if w = m then P v3 r else if lg_cmp r v4 ≤ 0 then P v3 v4 else P v3 r) else (if w = m then P w r else if lg_cmp r v4 ≤ 0 then P w v4 else P w r) := by
  by_cases c : w = m
  · exact gt c (gt c (h1 c))
  · by_cases cm : v4 < r
    · have cf : ¬ lg_cmp r v4 ≤ 0 := by rw [cmp_le0]; exact not_not_intro cm
      exact gf c (gf cf (gf c (gf cf (h2 c cm))))
    · have ct : lg_cmp r v4 ≤ 0 := by rw [cmp_le0]; exact cm
      exact gf c (gt ct (gf c (gt ct (h3 c cm))))
theorem w7_wide {Q : Int32 → xS → Prop} (hg : g < 6) (han : a < na) (hn : na ≤ 4) (h0 : M.1 0 0 0 = nI na) (hR : RowOk na gi (mrow M g)) (hB : BdP (mrow M g)) (hb : ∀ i, i < na → M.1 5 0 i = b i)
    (k : ∀ M', (∀ k, k ≠ 5 → M'.1 k = M.1 k) → (∀ i j, i = 0 ∧ j < 4 ∨ M'.1 5 i j = M.1 5 i j) → wp_X7_takeCoordinates M' (fun S1 => Q (wdI (wdP (wdF (mrow M g) b a) 16).1) S1)) : ∃ n, wp_X7_widest_38 (nI g) (nI a) Q n M (-16384) 0 (-16384) := by
  refine wl3 (wp_X7_widest_38 (nI g) (nI a) Q) (fun K => wp_X7_widest_38_b (nI g) (nI a) K Q) (fun _ _ _ _ _ => rfl)
    (fun M' v3 v4 v6 => ∃ i, i ≤ 17 ∧ v6 = wdI i ∧ ((i = 0 ∧ v3 = -16384 ∧ v4 = 0) ∨ ∃ j, i = j + 1 ∧ v3 = wdI (wdP (wdF (mrow M g) b a) j).1 ∧ v4 = (wdP (wdF (mrow M g) b a) j).2) ∧ (∀ k, k ≠ 5 → M'.1 k = M.1 k) ∧ (∀ i j, i = 0 ∧ j < 4 ∨ M'.1 5 i j = M.1 5 i j) ∧ ∀ i, i < na → i ≠ a → M'.1 5 0 i = b i)
    (fun _ _ _ v => (16384 + 2048 - v.toInt).toNat) ⟨0, by omega, by decide, Or.inl ⟨rfl, rfl, rfl⟩, fun _ _ => rfl, fun _ _ => Or.inr rfl, fun i hi _ => hb i hi⟩ ?_
  rintro M' v3 v4 v6 K ⟨i, hi, rfl, hv, h1, h2, h4⟩ hK
  obtain ⟨w1, w2⟩ := wdI_gt hi
  unfold wp_X7_widest_38_b wp_X7_widest_80 wp_X7_widest_86 wp_X7_widest_103 wp_X7_widest_110
  by_cases c : i = 17
  · refine gt (w1.mpr c) ?_
    rcases hv with ⟨h, _⟩ | ⟨j, h, rfl, rfl⟩
    · omega
    · rw [show j = 16 by omega]; exact k M' h1 h2
  · refine gf (fun h => c (w1.mp h)) ⟨vv_in (by omega) (by omega), ?_⟩
    rw [vv_clI (by omega)]
    have er : mrow (xI M' 5 0 a (wdI i)) g = mrow M g := by unfold mrow; rw [xI_k (by omega), h1 11 (by omega)]
    refine w7_place (s := 24) (na := na) (gi := gi) (loc := wdL b a i) hg hn (by rw [xI_k (by omega), h1 0 (by omega)]; exact h0) (by rw [er]; exact hR) (by rw [er]; exact hB) (Or.inr rfl) (fun z hz => ?_) ?_
    · rw [xI_1]
      unfold wdL
      by_cases e : z = a
      · rw [if_pos ⟨rfl, rfl, e⟩, if_pos e]
      · rw [if_neg (by omega), if_neg e]; exact h4 z hz e
    · rw [er, wdI_s]
      have mu : (16384 + 2048 - (wdI (i + 1)).toInt).toNat < (16384 + 2048 - (wdI i).toInt).toNat := by
        have e : ∀ z, z ≤ 17 → (wdI z).toInt = -16384 + 2048 * (z : Int) := fun z hz => by
          unfold wdI
          rw [i32_add] <;> rw [show (-16384 : Int32).toInt = -16384 from rfl, nI_toInt' (by omega)] <;> omega
        rw [e i hi, e (i + 1) (by omega)]
        omega
      have step : ∀ (x : Int32) (y : Int64), x = wdI (wdP (wdF (mrow M g) b a) i).1 → y = (wdP (wdF (mrow M g) b a) i).2 → K (xI M' 5 0 a (wdI i)) x y (wdI (i + 1)) := fun x y hx hy => hK _ _ _ _ ⟨i + 1, by omega, rfl, Or.inr ⟨i, rfl, hx, hy⟩, fun k hk => by rw [xI_k hk]; exact h1 k hk, fun z w => by
        by_cases e : z = 0 ∧ w < 4
        · exact Or.inl e
        · right
          rw [xI_1, if_neg (by omega)]; exact (h2 z w).resolve_left e, fun z hz e => by rw [xI_1, if_neg (by omega)]; exact h4 z hz e⟩ mu
      have e0 : wdI i = -16384 → K (xI M' 5 0 a (wdI i)) (wdI i) (wdF (mrow M g) b a i) (wdI (i + 1)) := fun h => by
        have h0 := w2.mp h
        exact step _ _ (by rw [h0]; rfl) (by rw [h0]; rfl)
      have ej : ¬ wdI i = -16384 → ∃ j, i = j + 1 ∧ v3 = wdI (wdP (wdF (mrow M g) b a) j).1 ∧ v4 = (wdP (wdF (mrow M g) b a) j).2 := fun h => by
        rcases hv with ⟨h0, _⟩ | h2
        · exact absurd (w2.mpr h0) h
        · exact h2
      refine wide_step (P := fun x y => K (xI M' 5 0 a (wdI i)) x y (wdI (i + 1))) e0 (fun h cm => ?_) (fun h cm => ?_)
      · obtain ⟨j, hj, hj3, hj4⟩ := ej h
        have es : wdP (wdF (mrow M g) b a) i = (i, wdF (mrow M g) b a i) := by
          rw [hj]
          exact if_pos (by rw [hj4, hj] at cm; exact cm)
        exact step _ _ (by rw [es]) (by rw [es]; rfl)
      · obtain ⟨j, hj, hj3, hj4⟩ := ej h
        have es : wdP (wdF (mrow M g) b a) i = wdP (wdF (mrow M g) b a) j := by
          rw [hj]
          exact if_neg (by rw [hj4, hj] at cm; exact cm)
        exact step _ _ (by rw [es]; exact hj3) (by rw [es]; exact hj4)
end WIDE
theorem op_widest {n : Nat} {S M : xS} {K : xS → xS → Prop} (I : Inv n S M) (hn : n ≤ 600) (a c : Int32) (hK : ∀ S' M', Inv (n + 1) S' M' → K S' M') :
    wp_X6_widest a c S (fun r1 S1 => wp_X7_widest a c M (fun r2 M1 => if r1 = r2 then K S1 M1 else False)) := by
  obtain ⟨⟨b1, b2, b3⟩, b4, b5, b6⟩ := I.2.1
  obtain ⟨⟨a1, a2, a3⟩, a4, a5, a6⟩ := id I.1
  have hS1 := b3.trans b2
  have hA1 := a3.trans a2
  by_cases ca : 0 ≤ a.toInt ∧ a.toInt < cntM M 9
  rotate_left
  · exact op_of (w6 := wp_X6_widest a c S) (w7 := wp_X7_widest a c M) (r := -1000002) (fun Q k => v6_hasGlyph_f b1 hS1 ca (g0 k)) (fun Q k => v7_noGlyph_f b1 b2 ca (g1 k)) (hK _ _ I.next)
  obtain ⟨g, rfl, eg, hgg⟩ := vv_nat ca.1
  have hg : g < cntM M 9 := by omega
  by_cases cc : 0 ≤ c.toInt ∧ c.toInt < cntM M 0
  rotate_left
  · exact op_of (w6 := wp_X6_widest (nI g) c S) (w7 := wp_X7_widest (nI g) c M) (r := -1000001) (fun Q k => v6_hasGlyph_t b1 hS1 hg (g1 (v6_hasAxis_f a1 hA1 cc (g0 k)))) (fun Q k => v7_noGlyph_t b1 b2 hg (g0 (v7_noAxis_f a1 a2 cc (g1 k)))) (hK _ _ I.next)
  obtain ⟨ax, rfl, eax, hax⟩ := vv_nat cc.1
  have hax2 : ax < cntM M 0 := by omega
  obtain ⟨x1, x2, x3⟩ := drawn_ctx I hn
  obtain ⟨y1, y2, y3⟩ := x1 g hg
  have hN := y2.2.1.1
  have hT := y2.2.2.2.1.1
  refine v6_hasGlyph_t b1 hS1 hg (g1 (v6_hasAxis_t a1 hA1 cc (g1 ⟨by decide, ?_⟩)))
  have hG' : GlRel (xC S 30 2 (va_cpy (S.1 30 0) (S.1 30 2) (0 : Int32).toNatClampNeg (0 : Int32).toNatClampNeg (4 : Int32).toNatClampNeg)) g (mrow M g) := y1.fr hN hT (fun k hk => by rw [xC_k (by omega)]) (fun _ _ => rfl) (fun t _ k hk => by rw [xC_k (by omega)]) (fun _ _ => rfl)
  refine w6_wide (b := fun i => S.1 30 0 i) (by omega) (by omega) hG' y2 y3 (fun i hi => ?_) (fun S' s1 s2 s3 => ?_)
  · rw [xC_1, if_pos ⟨rfl, rfl⟩]
    unfold va_cpy
    rw [show (0 : Int32).toNatClampNeg = 0 from rfl, show (4 : Int32).toNatClampNeg = 4 from rfl, if_pos (by omega), show 0 + (i - 0) = i by omega]
  · refine v7_noGlyph_t b1 b2 hg (g0 (v7_noAxis_t a1 a2 cc (g0 (w7_keep (fun M1 k1 k2 k3 => ?_)))))
    have er : mrow M1 g = mrow M g := by unfold mrow; rw [k1 11 (by omega)]
    refine w7_wide (b := fun i => S.1 30 0 i) (na := cntM M 0) (gi := g) (by omega) hax2 a1 (by rw [k1 0 (by omega)]; exact a2) (by rw [er]; exact y2) (by rw [er]; exact (x2 g hg).2) (fun i hi => by rw [k1 5 (by omega)]; exact I.locS i hi) (fun M2 m1 m2 => w7_take (fun M3 t1 t2 t3 => ?_))
    rw [er]
    refine gt rfl (hK _ _ (I.sc ⟨fun k _ _ h30 => by rw [s1 k h30, xC_k h30], fun i => ?_, by rw [s3]; rfl⟩ ⟨fun k q0 q12 q13 q18 q19 q22 q23 => ?_, fun z q1 q2 => by rw [t1 0 (by omega), m1 0 (by omega), k1 0 (by omega)]⟩))
    · rw [s2 0 (by omega), s2 1 (by omega), xC_1, if_neg (by omega), xC_1, if_neg (by omega)]
      exact ⟨rfl, rfl⟩
    · by_cases e5 : k = 5
      · subst e5
        funext i z
        by_cases ez : i = 0 ∧ z < 4
        · obtain ⟨rfl, hz⟩ := ez
          rw [t3 z hz, m1 23 (by omega), k2 z hz]
        · rw [(t2 i z).resolve_left ez, (m2 i z).resolve_left ez, k1 5 (by omega)]
      · rw [t1 k e5, m1 k e5, k1 k q23]
