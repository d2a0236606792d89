theorem snoc_ex {B : Type} : ∀ (l : List B) (n : Nat), l.length = n + 1 → ∃ p u, l = p ++ [u] ∧ p.length = n
  | [], n, h => by simp at h
  | [x], n, h => ⟨[], x, rfl, by simp at h; exact h.symm⟩
  | x :: y :: l, n, h => by
    obtain ⟨p, u, h1, h2⟩ := snoc_ex (y :: l) l.length rfl
    refine ⟨x :: p, u, by rw [h1]; rfl, ?_⟩
    have h : l.length + 1 + 1 = n + 1 := h
    show p.length + 1 = n
    omega
theorem blk_rg {r : Nat → Int32} {t x : Nat} (h : x < 12) : blk r t x = r (tb t + x) := by unfold blk; rw [if_pos (by omega)]
section MG6
variable {S : xS} {G na gi : Nat} {r : Nat → Int32}
theorem w5_sameReg {E T e t : Nat} (h1 : TupRel S E r e) (h2 : TupRel S T r t) {Q : Int32 → xS → Prop} (k : Q (b2 (sameK (blk r e) (blk r t))) S) : wp_X5_hasRegionOf E T S Q := by
  unfold wp_X5_hasRegionOf
  refine wl1 (wp_X5_hasRegionOf_2 E T Q) (fun K => wp_X5_hasRegionOf_2_b E T K Q) (fun _ _ _ => rfl) (fun S' v => S' = S ∧ ∃ j, j ≤ 4 ∧ v = nI j ∧ ∀ x, x < 3 * j → r (tb e + x) = r (tb t + x)) (fun _ v => 4 - v.toNatClampNeg) ⟨rfl, 0, by omega, rfl, fun x h => by omega⟩ ?_
  rintro S' v K ⟨rfl, j, hj, rfl, h⟩ hK
  unfold wp_X5_hasRegionOf_2_b wp_X5_hasRegionOf_52
  by_cases c : j = 4
  · subst c
    have : sameK (blk r e) (blk r t) = true := sameK_iff.mpr (fun x hx => by rw [blk_rg hx, blk_rg hx]; exact h x (by omega))
    rw [this] at k
    exact gt (by decide) ⟨Or.inr rfl, k⟩
  · have hin := vv_in (k := j) (N := 4) (by omega) (by omega)
    obtain ⟨a1, a2, a3⟩ := h1.1 j (by omega)
    obtain ⟨b1, b2', b3⟩ := h2.1 j (by omega)
    have no : ∀ d, d < 3 → ¬ r (tb e + (3 * j + d)) = r (tb t + (3 * j + d)) → Q 0 S' := fun d hd hne => by
      have : sameK (blk r e) (blk r t) = false := by
        cases hs : sameK (blk r e) (blk r t)
        · rfl
        · have := sameK_iff.mp hs (3 * j + d) (by omega)
          rw [blk_rg (by omega), blk_rg (by omega)] at this
          exact absurd this hne
      rw [this] at k
      exact k
    refine gf (by rw [nl4, vv_le (by omega) (by omega)]; omega) ⟨hin, hin, ?_⟩
    rw [vv_clI (by omega), a1, b1, a2, b2', a3, b3, nI_1]
    by_cases c1 : r (tb e + 3 * j) = r (tb t + 3 * j)
    · refine gt c1 ⟨hin, hin, ?_⟩
      by_cases c2 : r (tb e + 3 * j + 1) = r (tb t + 3 * j + 1)
      · refine gt c2 ⟨hin, hin, ?_⟩
        by_cases c3 : r (tb e + 3 * j + 2) = r (tb t + 3 * j + 2)
        · refine gt c3 (hK _ _ ⟨rfl, j + 1, by omega, rfl, fun x hx => ?_⟩ (by rw [vv_clI (by omega), vv_clI (by omega)]; omega))
          by_cases q : x < 3 * j
          · exact h x q
          · have : x = 3 * j ∨ x = 3 * j + 1 ∨ x = 3 * j + 2 := by omega
            rcases this with rfl | rfl | rfl
            · exact c1
            · rw [← Nat.add_assoc, ← Nat.add_assoc]; exact c2
            · rw [← Nat.add_assoc, ← Nat.add_assoc]; exact c3
        · exact gf c3 ⟨Or.inl rfl, no 2 (by omega) (by rw [← Nat.add_assoc, ← Nat.add_assoc]; exact c3)⟩
      · exact gf c2 ⟨Or.inl rfl, no 1 (by omega) (by rw [← Nat.add_assoc, ← Nat.add_assoc]; exact c2)⟩
    · exact gf c1 ⟨Or.inl rfl, no 0 (by omega) c1⟩
theorem w1_earliest (hG12 : G < 12) (hg : Gd S G na gi r) {t : Nat} (ht : t < rT r) {Q : Int32 → xS → Prop} (kf : ∀ e, e < t → sameK (blk r e) (blk r t) = true → (∀ j, j < e → sameK (blk r j) (blk r t) = false) → Q (nI e) S) (kn : (∀ j, j < t → sameK (blk r j) (blk r t) = false) → Q (nI t) S) : wp_X1_earliestWithRegionOf G (nI t) S Q := by
  obtain ⟨hG, hR, hP⟩ := hg
  have hT5 := hR.2.2.2.1.1
  unfold wp_X1_earliestWithRegionOf
  refine wl1 (wp_X1_earliestWithRegionOf_2 G (nI t) Q) (fun K => wp_X1_earliestWithRegionOf_2_b G (nI t) K Q) (fun _ _ _ => rfl) (fun S' v => S' = S ∧ ∃ j, j ≤ t ∧ v = nI j ∧ ∀ x, x < j → sameK (blk r x) (blk r t) = false) (fun _ v => 50 - v.toNatClampNeg) ⟨rfl, 0, by omega, rfl, fun x h => by omega⟩ ?_
  rintro S' v K ⟨rfl, j, hj, rfl, h⟩ hK
  unfold wp_X1_earliestWithRegionOf_2_b
  by_cases c : j = t
  · subst c
    exact gt (by rw [vv_le (by omega) (by omega)]; omega) (kn h)
  · have hid : ∀ i, i < 5 → S'.2.2 16 G i < 60 := fun i hi => by have := hP.1 i hi; omega
    refine gf (by rw [vv_le (by omega) (by omega)]; omega) ⟨⟨vv_in (by omega) (by omega), by rw [vv_clI (by omega)]; exact hid j (by omega)⟩, ⟨vv_in (by omega) (by omega), by rw [vv_clI (by omega)]; exact hid t (by omega)⟩, ?_⟩
    rw [vv_clI (k := j) (by omega), vv_clI (k := t) (by omega)]
    refine w5_sameReg (hG.2.2.2.2.2.2.2.2 j (by omega)) (hG.2.2.2.2.2.2.2.2 t ht) ?_
    cases hs : sameK (blk r j) (blk r t)
    · refine gt rfl ?_
      rw [nI_1]
      refine hK _ _ ⟨rfl, j + 1, by omega, rfl, fun x hx => ?_⟩ (by rw [vv_clI (by omega), vv_clI (by omega)]; omega)
      by_cases e : x = j
      · rw [e]; exact hs
      · exact h x (by omega)
    · exact gf (by decide) (kf j (by omega) hs h)
theorem w5_add {E T m N : Nat} (hET : E ≠ T) (h5 : S.1 5 E 3 = nI m) (hm : m < 2 ^ 25) (hb : ∀ pl, pl < 25 → m.testBit pl = decide (pl ≤ N)) {Q : xS → Prop} (k : ∀ S', WrF S S' E → (∀ pl, pl < 25 → pl ≤ N → S'.1 27 E pl = S.1 27 E pl + S.1 27 T pl ∧ S'.1 28 E pl = S.1 28 E pl + S.1 28 T pl) → Q S') : wp_X5_addDeltas E T S Q := by
  unfold wp_X5_addDeltas
  refine wl1 (wp_X5_addDeltas_2 E T Q) (fun K => wp_X5_addDeltas_2_b E T K Q) (fun _ _ _ => rfl)
    (fun S' v => ∃ j, j ≤ 25 ∧ v = nI j ∧ WrF S S' E ∧ (∀ pl, pl < j → pl ≤ N → S'.1 27 E pl = S.1 27 E pl + S.1 27 T pl ∧ S'.1 28 E pl = S.1 28 E pl + S.1 28 T pl) ∧ ∀ pl, j ≤ pl → S'.1 27 E pl = S.1 27 E pl ∧ S'.1 28 E pl = S.1 28 E pl) (fun _ v => 25 - v.toNatClampNeg)
    ⟨0, by omega, rfl, ⟨fun _ _ _ => rfl, fun _ _ _ => rfl, rfl⟩, fun pl h => by omega, fun _ _ => ⟨rfl, rfl⟩⟩ ?_
  rintro S' v K ⟨j, hj, rfl, hF, hd, hr⟩ hK
  unfold wp_X5_addDeltas_2_b wp_X5_addDeltas_46
  by_cases c : j = 25
  · subst c; exact gt (by decide) (k S' hF hd)
  · have hin := vv_in (k := j) (N := 25) (by omega) (by omega)
    have mu : 25 - (nI (j + 1)).toNatClampNeg < 25 - (nI j).toNatClampNeg := by rw [vv_clI (by omega), vv_clI (by omega)]; omega
    refine gf (by rw [nl25, vv_le (by omega) (by omega)]; omega) (v5_touches (by rw [hF.1 5 (by omega) (by omega)]; exact h5) hm (by omega) ?_)
    rw [hb j (by omega), nI_1]
    by_cases cN : j ≤ N
    · rw [decide_eq_true cN]
      refine g1 ⟨hin, hin, hin, hin, hin, hin, ?_⟩
      have hT : ∀ k, S'.1 k T = S.1 k T := fun k => hF.2.1 k T (fun e => hET e.symm)
      rw [vv_clI (by omega), xI_k (k' := 28) (by omega), (hr j (Nat.le_refl _)).1, (hr j (Nat.le_refl _)).2, hT, hT]
      refine hK _ _ ⟨j + 1, by omega, rfl, ⟨fun k h1 h2 => by rw [xI_k h2, xI_k h1]; exact hF.1 k h1 h2, fun k z hz => ?_, hF.2.2⟩, fun pl hp hpN => ?_, fun pl hp => ?_⟩ mu
      · funext w
        rw [xI_1, if_neg (by omega), xI_1, if_neg (by omega), hF.2.1 k z hz]
      · rw [xI_k (k := 28) (k' := 27) (by omega), xI_1 _ 27, xI_1 _ 28]
        by_cases e : pl = j
        · rw [if_pos ⟨rfl, rfl, e⟩, if_pos ⟨rfl, rfl, e⟩, e]; exact ⟨rfl, rfl⟩
        · rw [if_neg (fun h => e h.2.2), if_neg (fun h => e h.2.2), xI_k (by omega)]
          exact hd pl (by omega) hpN
      · rw [xI_k (k := 28) (k' := 27) (by omega), xI_1 _ 27, xI_1 _ 28, if_neg (by omega), if_neg (by omega), xI_k (by omega)]
        exact hr pl (by omega)
    · rw [decide_eq_false cN]
      refine g0 (hK _ _ ⟨j + 1, by omega, rfl, hF, fun pl hp hpN => hd pl (by omega) hpN, fun pl hp => hr pl (by omega)⟩ mu)
theorem ta_fl {t s : Nat} (hN : rN r ≤ 24) (hi : inS (rN r) s = true) : fl (taR r t) t s = 1 := by
  have := inS_iff.mp hi
  unfold taR
  rw [wr_fl (by omega), if_pos hi]
theorem ta_dv {t j s : Nat} {v : Int32} (hN : rN r ≤ 24) (hs : inS (rN r) s = true) (hv : v = 0 ∨ v = 1) : dvV (taR r t) j s v = dvV r j s v := by
  by_cases e : j = t
  · rw [e]
    unfold taR
    rw [wr_dv hN (inS_iff.mp hs)]
    rcases hv with rfl | rfl
    · rw [if_pos rfl]; rfl
    · rw [if_neg (by decide)]; rfl
  · unfold taR
    exact up_dv hN e (inS_iff.mp hs)
theorem ta_N {t : Nat} : rN (taR r t) = rN r := up_N
theorem ta_T {t : Nat} : rT (taR r t) = rT r := up_T
theorem ta_low {t y : Nat} (h : y < 76) : taR r t y = r y := up_low h
theorem ta_blk {t j : Nat} (h : j ≠ t) : blk (taR r t) j = blk r j := blk_ne h
/- what a block keeps where nothing is written -/
def outB (N x : Nat) : Prop := x < 12 ∨ (12 ≤ x ∧ x < 37 ∧ inS N (x - 12) = false) ∨ (37 ≤ x ∧ x < 62 ∧ inS N (x - 37) = false) ∨ (62 ≤ x ∧ x < 87 ∧ inS N (x - 62) = false)
theorem wr_out {t x : Nat} {X Y : Nat → Int32} (h : outB (rN r) x) : wrB r t X Y x = r (tb t + x) := by
  unfold wrB
  rcases h with h | ⟨h1, h2, h3⟩ | ⟨h1, h2, h3⟩ | ⟨h1, h2, h3⟩
  · rw [if_neg (by omega), if_pos h]
  · rw [if_neg (by omega), if_neg (by omega), if_pos h2, h3, if_neg (by decide)]
  · rw [if_neg (by omega), if_neg (by omega), if_neg (by omega), if_pos h2, h3, if_neg (by decide)]
  · rw [if_neg (by omega), if_neg (by omega), if_neg (by omega), if_neg (by omega), h3, if_neg (by decide)]
theorem ta_out {t j x : Nat} (h : outB (rN r) x) : blk (taR r t) j x = blk r j x := by
  have hx : x < 87 := by
    rcases h with h | ⟨h1, h2, h3⟩ | ⟨h1, h2, h3⟩ | ⟨h1, h2, h3⟩ <;> omega
  by_cases e : j = t
  · rw [e]
    unfold taR
    rw [blk_up (fun x hx => wrB_hi hx)]
    show wrB r t (dX r t) (dY r t) x = blk r t x
    rw [wr_out h]
    unfold blk
    rw [if_pos hx]
  · rw [ta_blk e]
theorem jnL_ta {b0 : Nat → Int32} {e t : Nat} (hN : rN r ≤ 24) (hlow : ∀ y, y < 76 → y ≠ 3 → b0 y = r y) : jnL b0 (blk (taR (taR r e) t) e) (blk (taR (taR r e) t) t) = jnL b0 (blk r e) (blk r t) := by
  have eN : rN b0 = rN r := rN_fr (hlow 2 (by omega) (by omega))
  have o : ∀ x, outB (rN r) x → blk (taR (taR r e) t) e x = blk r e x := fun x hx => by rw [ta_out (by rw [ta_N]; exact hx), ta_out hx]
  have low2 : ∀ y, y < 76 → y ≠ 3 → b0 y = taR (taR r e) t y := fun y hy h3 => by rw [ta_low hy, ta_low hy]; exact hlow y hy h3
  have N2 : rN (taR (taR r e) t) = rN r := by rw [ta_N, ta_N]
  refine jnL_eq (fun x hx => o x (Or.inl hx)) (fun x h1 h2 h3 h4 => o x (Or.inr (Or.inl ⟨h2, h4, by rw [← eN]; exact h3⟩))) (fun x h1 h2 h3 => o x (Or.inr (Or.inr (Or.inl ⟨h2, h1, by rw [← eN]; exact h3⟩)))) (fun x h1 h2 h3 => o x (Or.inr (Or.inr (Or.inr ⟨h2, h1, by rw [← eN]; exact h3⟩)))) (fun s hs => ?_)
  rw [eN] at hs
  have d : ∀ (j : Nat) (v : Int32), v = 0 ∨ v = 1 → dvB b0 (blk (taR (taR r e) t) j) s v = dvB b0 (blk r j) s v := fun j v hv => by
    rw [dv_blk (by rw [N2]; exact hN) low2 (by rw [N2]; exact hs), dv_blk hN hlow hs, ta_dv (by rw [ta_N]; exact hN) (by rw [ta_N]; exact hs) hv, ta_dv hN hs hv]
  rw [d e 0 (Or.inl rfl), d t 0 (Or.inl rfl), d e 1 (Or.inr rfl), d t 1 (Or.inr rfl)]
  exact ⟨rfl, rfl⟩
theorem w1_join (hG12 : G < 12) (hg : Gd S G na gi r) {e t : Nat} (he : e < t) (ht : t < rT r) {b0 : Nat → Int32} (hlow : ∀ y, y < 76 → y ≠ 3 → b0 y = r y) {p rest : List (Nat → Int32)} {u : Nat → Int32} (htl : tl r = p ++ u :: rest) (hp : p.length = t) (hs : sameK (blk r e) (blk r t) = true) (hf : ∀ j, j < e → sameK (blk r j) (blk r t) = false) {Q : xS → Prop}
    (k : ∀ S' r', GFr S S' G → Gd S' G na gi r' → (∀ y, y < 76 → y ≠ 3 → b0 y = r' y) → tl r' = insB sameK (jnL b0) p u ++ rest → Q S') :
    ((vp_in (nI e) 5 ∧ (S.2.2 16 G (nI e).toNatClampNeg) < 60) ∧ (wp_X1_touchAll G (S.2.2 16 G (nI e).toNatClampNeg) S (fun S5 => ((vp_in (nI t) 5 ∧ (S5.2.2 16 G (nI t).toNatClampNeg) < 60) ∧ (wp_X1_touchAll G (S5.2.2 16 G (nI t).toNatClampNeg) S5 (fun S9 => ((vp_in (nI e) 5 ∧ (S9.2.2 16 G (nI e).toNatClampNeg) < 60) ∧ ((vp_in (nI t) 5 ∧ (S9.2.2 16 G (nI t).toNatClampNeg) < 60) ∧ (wp_X5_addDeltas (S9.2.2 16 G (nI e).toNatClampNeg) (S9.2.2 16 G (nI t).toNatClampNeg) S9 (fun S15 => (wp_X1_removeTuple G (nI t) S15 (fun S17 => Q S17)))))))))))) := by
  obtain ⟨hG, hR, hP⟩ := id hg
  have hN := hR.2.1.1
  have hT5 := hR.2.2.2.1.1
  have hie : ∀ i, i < 5 → S.2.2 16 G i < 60 := fun i hi => by have := hP.1 i hi; omega
  have ine := vv_in (k := e) (N := 5) (by omega) (by omega)
  have int := vv_in (k := t) (N := 5) (by omega) (by omega)
  rw [vv_clI (k := e) (by omega), vv_clI (k := t) (by omega)]
  refine ⟨⟨ine, hie e (by omega)⟩, w1_touchAll hg (by omega) (fun Sa fa fa2 ga => ⟨⟨int, by rw [fa2]; exact hie t (by omega)⟩, w1_touchAll ga (by rw [ta_T]; exact ht) (fun Sb fb fb2 gb => ⟨⟨ine, by rw [fb2, fa2]; exact hie e (by omega)⟩, ⟨int, by rw [fb2, fa2]; exact hie t (by omega)⟩, ?_⟩)⟩)⟩
  have N2 : rN (taR (taR r e) t) = rN r := by rw [ta_N, ta_N]
  have T2 : rT (taR (taR r e) t) = rT r := by rw [ta_T, ta_T]
  have hN2 : rN (taR (taR r e) t) ≤ 24 := by rw [N2]; exact hN
  have te := gb.1.2.2.2.2.2.2.2.2 e (by rw [T2]; omega)
  have tt := gb.1.2.2.2.2.2.2.2.2 t (by rw [T2]; exact ht)
  obtain ⟨m, m1, m2, m3⟩ := te.2.1
  have fl1 : ∀ s, inS (rN r) s = true → fl (taR (taR r e) t) e s = 1 ∧ fl (taR (taR r e) t) t s = 1 := fun s hs' => by
    have hi := inS_iff.mp hs'
    refine ⟨?_, ta_fl (by rw [ta_N]; exact hN) (by rw [ta_N]; exact hs')⟩
    have h1 : fl (taR (taR r e) t) e s = fl (taR r e) e s := by
      show upT _ _ _ (tb e + 12 + s) = _
      rw [Nat.add_assoc, up_ne (by omega) (by omega)]
      unfold fl
      rw [Nat.add_assoc]
    rw [h1]
    exact ta_fl hN hs'
  have hO2 := gb.2.1.2.2.2.2.2.2 e (by rw [T2]; omega)
  have hb : ∀ pl, pl < 25 → m.testBit pl = decide (pl ≤ rN (taR (taR r e) t)) := fun pl hpl => by
    rw [m3 pl hpl, N2]
    by_cases c : pl ≤ rN r
    · rw [decide_eq_true c, decide_eq_true ((fl1 (slo pl) (by rw [slo_in hN hpl, decide_eq_true c])).1)]
    · have hsl : slo pl = pl - 1 := by unfold slo; rw [if_neg (by omega)]
      rw [decide_eq_false c, hsl, hO2.2.2.2.1 (pl - 1) (by rw [N2]; omega) (by omega), decide_eq_false (by decide)]
  have hET : Sb.2.2 16 G e ≠ Sb.2.2 16 G t := fun q => by
    rw [fb2, fa2] at q
    have := hP.2 e t (by omega) (by omega) q
    omega
  refine w5_add hET m1 m2 hb (fun Sc fc vc => ?_)
  have gc := Gd.up (X := fun s => dX (taR (taR r e) t) e s + dX (taR (taR r e) t) t s) (Y := fun s => dY (taR (taR r e) t) e s + dY (taR (taR r e) t) t s) gb (by rw [T2]; omega) (by
      rw [dY24 hO2, dY24 (gb.2.1.2.2.2.2.2.2 t (by rw [T2]; exact ht))]; rfl) fc.2.2 (fun k hk => fc.1 k (by omega) (by omega)) fc.2.1 (by rw [fc.1 5 (by omega) (by omega)]; exact m1) m2 hb (fun pl hpl => by
    rw [N2] at hpl
    have hi : inS (rN r) (slo pl) = true := by rw [slo_in hN (by omega), decide_eq_true hpl]
    obtain ⟨f1, f2⟩ := fl1 (slo pl) hi
    obtain ⟨v1, v2⟩ := vc pl (by omega) (by rw [N2]; exact hpl)
    obtain ⟨p1, p2⟩ := te.2.2 pl (by omega) f1
    obtain ⟨q1, q2⟩ := tt.2.2 pl (by omega) f2
    rw [v1, v2, p1, p2, q1, q2]
    unfold dX dY dvV
    rw [if_pos f1, if_pos f2, if_pos f1, if_pos f2]
    exact ⟨rfl, rfl⟩)
  generalize hr3 : upT (taR (taR r e) t) e (wrB (taR (taR r e) t) e (fun s => dX (taR (taR r e) t) e s + dX (taR (taR r e) t) t s) (fun s => dY (taR (taR r e) t) e s + dY (taR (taR r e) t) t s)) = r3 at gc
  have T3 : rT r3 = rT r := by rw [← hr3, up_T, T2]
  have low3 : ∀ y, y < 76 → r3 y = r y := fun y hy => by rw [← hr3, up_low hy, ta_low hy, ta_low hy]
  have hidc : ∀ j, j < 5 → Sc.2.2 16 G j < 60 := fun j hj => by rw [fc.2.2, fb2, fa2]; exact hie j hj
  refine w1_remove (T := rT r) (by rw [gc.1.2.2.1.trans gc.2.1.2.2.2.1.2, T3]) hT5 ht hidc (fun Sd s1 s2 s3 s4 => ?_)
  have gd := gc.rm (S' := Sd) (t := t) (by rw [T3]; exact ht) (by rw [T3]; exact s1) (by rw [T3]; exact s4)
  rw [T3] at gd
  have fcd : GFr Sb Sc G := by
    have := gb.2.2.1 e (by omega)
    exact ⟨fun k hk => fc.1 k (by unfold kG at hk; omega) (by unfold kG at hk; omega), fun k z hk hz => by rw [fc.1 k (by omega) (by omega)], fun k z hk hz => fc.2.1 k z (by omega), by rw [fc.2.2], fun k _ => by rw [fc.2.2], fun z _ => by rw [fc.2.2]⟩
  refine k Sd _ (fa.trans (fb.trans (fcd.trans (GFr.rm s1 s2 s3)))) gd (fun y hy h3 => ?_) ?_
  · rw [rm_lo hy h3, low3 y hy]; exact hlow y hy h3
  · refine jn_tl hT5 ht he T3 ?_ (fun j h1 h2 => ?_) htl hp hs hf
    · rw [← hr3, blk_up (fun x hx => wrB_hi hx), wr_jn (b0 := b0) (t := t) hN2 (fun y hy h3 => by rw [ta_low hy, ta_low hy]; exact hlow y hy h3) (fun s _ => ⟨rfl, rfl⟩)]
      exact jnL_ta hN hlow
    · rw [← hr3, blk_ne h1, ta_blk h2, ta_blk h1]
end MG6
