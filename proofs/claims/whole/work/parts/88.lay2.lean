section LAY2
variable {M0 : xS} {ng na g : Nat} {loc : Nat → Int32}
theorem OutM.push {S : xS} {a : xOS} {m : Nat} {w : Int32} {X Y : Int64} (h : OutM M0 S a) : OutM M0 (xJ (xJ (xI S 19 0 m w) 20 0 m X) 21 0 m Y) a ∧ (∀ i, i ≠ m → (xJ (xJ (xI S 19 0 m w) 20 0 m X) 21 0 m Y).1 19 0 i = S.1 19 0 i ∧ (xJ (xJ (xI S 19 0 m w) 20 0 m X) 21 0 m Y).2.1 20 0 i = S.2.1 20 0 i ∧ (xJ (xJ (xI S 19 0 m w) 20 0 m X) 21 0 m Y).2.1 21 0 i = S.2.1 21 0 i) ∧
    (xJ (xJ (xI S 19 0 m w) 20 0 m X) 21 0 m Y).1 19 0 m = w ∧ (xJ (xJ (xI S 19 0 m w) 20 0 m X) 21 0 m Y).2.1 20 0 m = X ∧ (xJ (xJ (xI S 19 0 m w) 20 0 m X) 21 0 m Y).2.1 21 0 m = Y := by
  obtain ⟨h1, h2, h3, h4, h5⟩ := h
  refine ⟨⟨fun k q0 q1 q2 => ?_, fun j q0 q1 => ?_, ?_, ?_, ?_⟩, fun i hi => ⟨?_, ?_, ?_⟩, ?_, ?_, ?_⟩
  · rw [xJ_1, xJ_1, xI_k q2]; exact h1 k q0 q1 q2
  · rw [xJ_1, xJ_1, xI_1, if_neg (by omega)]; exact h2 j q0 q1
  · rw [xJ_1, xJ_1, xI_1, if_neg (by omega)]; exact h3
  · rw [xJ_1, xJ_1, xI_1, if_neg (by omega)]; exact h4
  · rw [xJ_1, xJ_1, xI_k (k' := 18) (by omega), xJ_k (by omega), xJ_k (by omega), xJ_k (by omega), xJ_k (by omega)]; exact h5
  · rw [xJ_1, xJ_1, xI_1, if_neg (by omega)]
  · rw [xJ_21, if_neg (by omega), xJ_21, if_neg (by omega)]; rfl
  · rw [xJ_21, if_neg (by omega), xJ_21, if_neg (by omega)]; rfl
  · rw [xJ_1, xJ_1, xI_s]
  · rw [xJ_21, if_neg (by omega), xJ_21, if_pos ⟨rfl, rfl, rfl⟩]
  · rw [xJ_21, if_pos ⟨rfl, rfl, rfl⟩]
theorem w7_push (hg : g < 6) (hna : na ≤ 4) (h0 : M0.1 0 0 0 = nI na) (hR : RowOk na g (mrow M0 g)) (hB : BdP (mrow M0 g)) (hl : ∀ i, i < na → M0.1 5 0 i = loc i) (c1 : mrow M0 g 0 = 1) {K33 : xS → Int32 → Prop} {Q : xS → Prop} {v : Nat} (hv : v + 3 * g < 64) {x y : Int64} {a : xOS} {S : xS} (hO : OutM M0 S a)
    (k : ∀ S', OutM M0 S' a → StkM S S' v → (∀ i, i < rN (mrow M0 g) → S'.1 19 0 (v + i) = nI (chd M0 g (rN (mrow M0 g) - 1 - i)) ∧ S'.2.1 20 0 (v + i) = x + pX (mrow M0 g) loc (rN (mrow M0 g) - 1 - i) ∧ S'.2.1 21 0 (v + i) = y + pY (mrow M0 g) loc (rN (mrow M0 g) - 1 - i)) → K33 S' (nI (v + rN (mrow M0 g)))) : wp_X7_layOutline_77 K33 Q S (nI v) (nI g) x y 0 := by
  have hN := hR.2.1.1
  have h4 := hR.2.2.1 c1
  have hv4 : v + rN (mrow M0 g) ≤ 64 := by
    by_cases z : rN (mrow M0 g) = 0
    · omega
    · have := (chd_lt hg hR c1 (c := 0) (by omega)).1
      omega
  unfold wp_X7_layOutline_77
  refine ⟨1, ?_⟩
  show wp_X7_layOutline_82_b K33 _ Q S (nI v) (nI g) x y 0 0
  unfold wp_X7_layOutline_82_b
  refine v7_of rfl nl2 hg (by omega) ?_
  have main : wp_X7_layOutline_188 K33 Q S (nI v) (nI g) x y 0 := by
    unfold wp_X7_layOutline_188
    refine v7_of rfl nl2 hg (by omega) ?_
    rw [hO.row g, hR.2.1.2, dnI_sub (by omega)]
    refine wl2 (fun n S v2 v9 => wp_X7_layOutline_198 K33 Q n S v2 (nI g) x y 0 v9) (fun K S v2 v9 => wp_X7_layOutline_198_b K33 (fun S v2 _ _ _ _ v9 => K S v2 v9) Q S v2 (nI g) x y 0 v9) (fun _ _ _ _ => rfl)
      (fun S' v2 v9 => ∃ j, j ≤ rN (mrow M0 g) ∧ v2 = nI (v + (rN (mrow M0 g) - j)) ∧ v9 = dnI j ∧ OutM M0 S' a ∧ StkM S S' v ∧ (∀ i, i < rN (mrow M0 g) - j → S'.1 19 0 (v + i) = nI (chd M0 g (rN (mrow M0 g) - 1 - i)) ∧ S'.2.1 20 0 (v + i) = x + pX (mrow M0 g) loc (rN (mrow M0 g) - 1 - i) ∧ S'.2.1 21 0 (v + i) = y + pY (mrow M0 g) loc (rN (mrow M0 g) - 1 - i)))
      (fun _ v2 _ => 1000 - v2.toNatClampNeg) ⟨rN (mrow M0 g), Nat.le_refl _, by rw [Nat.sub_self, Nat.add_zero], rfl, hO, fun _ _ => ⟨rfl, rfl, rfl⟩, fun i hi => by omega⟩ ?_
    rintro S' v2 v9 K ⟨j, hj, rfl, rfl, hO', hs, hst⟩ hK
    unfold wp_X7_layOutline_198_b wp_X7_layOutline_267
    cases j with
    | zero => exact gt ((dnI_lt (by omega)).mpr rfl) (k S' hO' hs hst)
    | succ j =>
      rw [dnI_s]
      have hin := vv_in (k := v + (rN (mrow M0 g) - (j + 1))) (N := 64) (by omega) (by omega)
      obtain ⟨q1, q2⟩ := chd_lt hg hR c1 (c := j) (by omega)
      refine gf (by rw [nl0, vv_lt (by omega) (by omega)]; omega) (gt rfl (v7_of (y := 52 + j) rfl (by rw [nl52, nI_add]) hg (by omega) ⟨hin, ?_⟩))
      rw [hO'.row g, q2, vv_clI (by omega)]
      have e11 : (xI S' 19 0 (v + (rN (mrow M0 g) - (j + 1))) (nI (chd M0 g j))).1 11 = M0.1 11 := by rw [xI_k (by omega)]; exact hO'.1 11 (by omega) (by omega) (by omega)
      have e5 : (xI S' 19 0 (v + (rN (mrow M0 g) - (j + 1))) (nI (chd M0 g j))).1 5 = M0.1 5 := by rw [xI_k (by omega)]; exact hO'.1 5 (by omega) (by omega) (by omega)
      have e0 : (xI S' 19 0 (v + (rN (mrow M0 g) - (j + 1))) (nI (chd M0 g j))).1 0 0 0 = M0.1 0 0 0 := by rw [xI_1, if_neg (by omega)]; exact hO'.2.1 0 (by omega) (by omega)
      refine w7_pt hg hna h0 hR hB hl (by omega) e11 e5 e0 ⟨hin, w7_pt hg hna h0 hR hB hl (by omega) e11 e5 e0 ⟨hin, ?_⟩⟩
      rw [nI_1, dnI_dn (by omega)]
      obtain ⟨o1, o2, o3, o4, o5⟩ := hO'.push (m := v + (rN (mrow M0 g) - (j + 1))) (w := nI (chd M0 g j)) (X := x + plV (mrow M0 g) loc j 0 (fun t => depB (mrow M0 g) t 15 4)) (Y := y + plV (mrow M0 g) loc j 1 (fun t => depB (mrow M0 g) t 15 4))
      refine hK _ _ _ ⟨j, by omega, by congr 1; omega, rfl, o1, fun i hi => ?_, fun i hi => ?_⟩ (by rw [vv_clI (by omega), vv_clI (by omega)]; omega)
      · obtain ⟨b1, b2, b3⟩ := o2 i (by omega)
        obtain ⟨d1, d2, d3⟩ := hs i hi
        exact ⟨b1.trans d1, b2.trans d2, b3.trans d3⟩
      · by_cases ei : i = rN (mrow M0 g) - (j + 1)
        · rw [ei, show rN (mrow M0 g) - 1 - (rN (mrow M0 g) - (j + 1)) = j by omega]
          exact ⟨o3, o4, o5⟩
        · obtain ⟨b1, b2, b3⟩ := o2 (v + i) (by omega)
          obtain ⟨d1, d2, d3⟩ := hst i (by omega)
          exact ⟨b1.trans d1, b2.trans d2, b3.trans d3⟩
  by_cases z : mrow S g 2 ≤ 0
  · exact gt z main
  · exact gf z (gt rfl main)
theorem w7_lay6 (hn : ng ≤ 6) (hna : na ≤ 4) (h0 : M0.1 0 0 0 = nI na) (hG : ∀ z, z < ng → RowOk na z (mrow M0 z) ∧ BdP (mrow M0 z)) (hl : ∀ i, i < na → M0.1 5 0 i = loc i) {Q : xS → Prop} :
    ∀ f g, g < ng → g < f → ∀ (v n : Nat) (S : xS) (x y : Int64) (a : xOS), v + 3 * g < 64 → OutM M0 S a → S.1 19 0 v = nI g → S.2.1 20 0 v = x → S.2.1 21 0 v = y → a.1.length + ptsOf M0 f g ≤ 96 →
    (∀ S', OutM M0 S' (otD M0 loc f g x y a) → StkM S S' v → wp_X7_layOutline_33 Q n S' (nI v)) → wp_X7_layOutline_33 Q (n + nod M0 f g) S (nI (v + 1))
  | 0, g, _, hf => by omega
  | f + 1, g, hg, hf => by
    intro v n S x y a hv hO h19 h20 h21 hlen k
    obtain ⟨hR, hB⟩ := hG g hg
    have hN := hR.2.1.1
    have hin := vv_in (k := v) (N := 64) (by omega) (by omega)
    have enod : nod M0 (f + 1) g = (if mrow M0 g 0 = 1 then nodS (fun c => nod M0 f (chd M0 g c)) (rN (mrow M0 g)) (rN (mrow M0 g)) else 0) + 1 := Nat.add_comm _ _
    rw [enod, ← Nat.add_assoc]
    show wp_X7_layOutline_33_b (wp_X7_layOutline_33 Q (n + (if mrow M0 g 0 = 1 then nodS (fun c => nod M0 f (chd M0 g c)) (rN (mrow M0 g)) (rN (mrow M0 g)) else 0))) Q S (nI (v + 1))
    have hlen2 : a.1.length + (if mrow M0 g 0 = 1 then sumR (fun c => ptsOf M0 f (chd M0 g c)) (rN (mrow M0 g)) else rN (mrow M0 g)) ≤ 96 := by rw [← ptsOf_s]; exact hlen
    have k2 : ∀ S', OutM M0 S' (if mrow M0 g 0 = 1 then otC (otD M0 loc f) (mrow M0 g) loc x y (rN (mrow M0 g)) a else ptA (mrow M0 g) loc x y (rN (mrow M0 g)) a) → StkM S S' v → wp_X7_layOutline_33 Q n S' (nI v) := k
    unfold wp_X7_layOutline_33_b
    rw [nI_m1 (by omega) (by omega), Nat.add_sub_cancel, vv_clI (k := v) (by omega), h19, h20, h21]
    refine gf (by rw [nl0, vv_le (by omega) (by omega)]; omega) ⟨hin, hin, hin, v7_of rfl nl0 (by omega) (by omega) ?_⟩
    rw [hO.row]
    by_cases c0 : mrow M0 g 0 = 0
    · have c1 : ¬ mrow M0 g 0 = 1 := by rw [c0]; decide
      rw [if_neg c1] at hlen2
      simp only [if_neg c1] at k2 ⊢
      exact gt c0 (w7_pts (by omega) hna h0 hR hB hl c0 (by omega) hO hlen2 k2)
    · have c1 : mrow M0 g 0 = 1 := hR.1.resolve_left c0
      have h4 := hR.2.2.1 c1
      rw [if_pos c1] at hlen2
      simp only [if_pos c1] at k2 ⊢
      refine gf c0 (w7_push (loc := loc) (by omega) hna h0 hR hB hl c1 hv hO (fun S1 hO1 hs1 hst => ?_))
      have key : ∀ j, j ≤ rN (mrow M0 g) → ∀ S2, OutM M0 S2 (otC (otD M0 loc f) (mrow M0 g) loc x y (rN (mrow M0 g) - j) a) → StkM S1 S2 (v + j) → wp_X7_layOutline_33 Q (n + nodS (fun c => nod M0 f (chd M0 g c)) (rN (mrow M0 g)) j) S2 (nI (v + j)) := by
        intro j
        induction j with
        | zero =>
          intro _ S2 hO2 hs2
          exact k2 S2 hO2 (hs1.trans hs2 (by omega))
        | succ j ih =>
          intro hj S2 hO2 hs2
          obtain ⟨q1, q2⟩ := chd_lt (by omega) hR c1 (c := rN (mrow M0 g) - (j + 1)) (by omega)
          obtain ⟨t1, t2, t3⟩ := hst j (by omega)
          obtain ⟨u1, u2, u3⟩ := hs2 (v + j) (by omega)
          rw [show rN (mrow M0 g) - 1 - j = rN (mrow M0 g) - (j + 1) by omega] at t1 t2 t3
          show wp_X7_layOutline_33 Q (n + (nodS (fun c => nod M0 f (chd M0 g c)) (rN (mrow M0 g)) j + nod M0 f (chd M0 g (rN (mrow M0 g) - (j + 1))))) S2 (nI (v + j + 1))
          rw [← Nat.add_assoc]
          refine w7_lay6 hn hna h0 hG hl f _ (by omega) (by omega) (v + j) _ S2 _ _ _ (by omega) hO2 (u1.trans t1) (u2.trans t2) (u3.trans t3) ?_ (fun S3 hO3 hs3 => ih (by omega) S3 ?_ ((hs2.le (by omega)).trans hs3 (Nat.le_refl _)))
          · rw [otC_len]
            have := sumR_le (fun c => ptsOf M0 f (chd M0 g c)) (rN (mrow M0 g) - (j + 1) + 1) (rN (mrow M0 g)) (by omega)
            have e : sumR (fun c => ptsOf M0 f (chd M0 g c)) (rN (mrow M0 g) - (j + 1) + 1) = sumR (fun c => ptsOf M0 f (chd M0 g c)) (rN (mrow M0 g) - (j + 1)) + ptsOf M0 f (chd M0 g (rN (mrow M0 g) - (j + 1))) := rfl
            have e2 : sumR (fun c => ptsOf M0 f (mrow M0 g (52 + c)).toNatClampNeg) (rN (mrow M0 g) - (j + 1)) = sumR (fun c => ptsOf M0 f (chd M0 g c)) (rN (mrow M0 g) - (j + 1)) := rfl
            omega
          · rw [show rN (mrow M0 g) - j = rN (mrow M0 g) - (j + 1) + 1 by omega]
            exact hO3
      exact key _ (Nat.le_refl _) S1 (by rw [Nat.sub_self]; exact hO1) (fun _ _ => ⟨rfl, rfl, rfl⟩)
theorem w7_layOutline (hn : ng ≤ 6) (hna : na ≤ 4) (h0 : M0.1 0 0 0 = nI na) (hG : ∀ z, z < ng → RowOk na z (mrow M0 z) ∧ BdP (mrow M0 z)) (hl : ∀ i, i < na → M0.1 5 0 i = loc i) (hg : g < ng) (hlen : ptsOf M0 7 g ≤ 96) {Q : xS → Prop} (k : ∀ S', OutM M0 S' (otD M0 loc 7 g 0 0 ([], 0)) → Q S') : wp_X7_layOutline (nI g) M0 Q := by
  unfold wp_X7_layOutline
  have h64 : vp_in (0 : Int32) 64 := vv_in (k := 0) (by omega) (by omega)
  refine ⟨h64, h64, h64, 1 + nod M0 7 g, ?_⟩
  refine w7_lay6 (loc := loc) hn hna h0 hG hl 7 g hg (by omega) 0 1 _ 0 0 ([], 0) (by omega) ⟨fun k q0 q1 q2 => ?_, fun j q0 q1 => ?_, ?_, ?_, fun i p h => absurd h (by simp)⟩ ?_ ?_ ?_ (by show 0 + ptsOf M0 7 g ≤ 96; omega) (fun S' hO _ => ?_)
  · rw [xJ_1, xJ_1, xI_k q2, xI_k q0, xI_k q0]
  · rw [xJ_1, xJ_1, xI_1, if_neg (by omega), xI_1, if_neg (by omega), xI_1, if_neg (by omega)]
  · rw [xJ_1, xJ_1, xI_1, if_neg (by omega), xI_1, if_neg (by omega), xI_s]; rfl
  · rw [xJ_1, xJ_1, xI_1, if_neg (by omega), xI_s]; rfl
  · rw [xJ_1, xJ_1, show (0 : Int32).toNatClampNeg = 0 from rfl, xI_s]
  · rw [show (0 : Int32).toNatClampNeg = 0 from rfl, xJ_21, if_neg (by omega), xJ_21, if_pos ⟨rfl, rfl, rfl⟩]
  · rw [show (0 : Int32).toNatClampNeg = 0 from rfl, xJ_21, if_pos ⟨rfl, rfl, rfl⟩]
  · show wp_X7_layOutline_33_b _ Q S' (nI 0)
    unfold wp_X7_layOutline_33_b
    exact gt (by decide) (k S' hO)
end LAY2
