/- the outline of the reference -/
def OutM (M0 S : xS) (a : xOS) : Prop :=
  (∀ k, k ≠ 0 → k ≠ 18 → k ≠ 19 → S.1 k = M0.1 k) ∧ (∀ j, j ≠ 13 → j ≠ 14 → S.1 0 0 j = M0.1 0 0 j) ∧ S.1 0 0 13 = nI a.1.length ∧ S.1 0 0 14 = nI a.2 ∧ OutA (S.2.1 16 0) (S.2.1 17 0) (S.1 18 0) a.1
def StkM (S S' : xS) (v : Nat) : Prop := ∀ i, i < v → S'.1 19 0 i = S.1 19 0 i ∧ S'.2.1 20 0 i = S.2.1 20 0 i ∧ S'.2.1 21 0 i = S.2.1 21 0 i
theorem StkM.trans {S S' S'' : xS} {v w : Nat} (h : StkM S S' v) (h2 : StkM S' S'' w) (hvw : v ≤ w) : StkM S S'' v := fun i hi => ⟨((h2 i (by omega)).1).trans (h i hi).1, ((h2 i (by omega)).2.1).trans (h i hi).2.1, ((h2 i (by omega)).2.2).trans (h i hi).2.2⟩
def nodS (F : Nat → Nat) (N : Nat) : Nat → Nat
  | 0 => 0
  | k + 1 => nodS F N k + F (N - (k + 1))
def nod (M : xS) : Nat → Nat → Nat
  | 0, _ => 0
  | f + 1, g => 1 + (if mrow M g 0 = 1 then nodS (fun c => nod M f (chd M g c)) (rN (mrow M g)) (rN (mrow M g)) else 0)
theorem OutM.row {M0 S : xS} {a : xOS} (h : OutM M0 S a) (z : Nat) : mrow S z = mrow M0 z := by unfold mrow; rw [h.1 11 (by omega) (by omega) (by omega)]
theorem nI_s1' (n : Nat) : nI (n + 1) - 1 = nI n := by rw [← nI_1, Int32.add_sub_cancel]
section LAY
variable {M0 : xS} {ng na g : Nat} {loc : Nat → Int32}
theorem w7_pt {S : xS} {p : Nat} {v : Int32} {Q : Int64 → xS → Prop} (hg : g < 6) (hn : na ≤ 4) (h0 : M0.1 0 0 0 = nI na) (hR : RowOk na g (mrow M0 g)) (hb : BdP (mrow M0 g)) (hl : ∀ i, i < na → M0.1 5 0 i = loc i) (hp : p < rN (mrow M0 g))
    (e11 : S.1 11 = M0.1 11) (e5 : S.1 5 = M0.1 5) (e0 : S.1 0 0 0 = M0.1 0 0 0) (k : Q (plV (mrow M0 g) loc p v (fun t => depB (mrow M0 g) t 15 4)) S) : wp_X7_placeNow (nI g) (nI p) v S Q := by
  have er : mrow S g = mrow M0 g := by unfold mrow; rw [e11]
  refine w7_place (na := na) (gi := g) (loc := loc) hg hn (e0.trans h0) (by rw [er]; exact hR) (by rw [er]; exact hb) (Or.inl (by rw [er]; exact hp)) (fun i hi => by rw [e5]; exact hl i hi) ?_
  rw [er]; exact k
theorem x18_13 (S : xS) (i : Nat) (v : Int32) : (xI S 18 0 i v).1 0 0 13 = S.1 0 0 13 := by rw [xI_1, if_neg (by omega)]
theorem x14_13 (S : xS) (v : Int32) : (xI S 0 0 14 v).1 0 0 13 = S.1 0 0 13 := by rw [xI_1, if_neg (by omega)]
theorem x14_14 (S : xS) (v : Int32) : (xI S 0 0 14 v).1 0 0 14 = v := xI_s _ _ _ _ _
theorem OutM.step {S : xS} {a : xOS} {c : Nat} {X Y : Int64} {a2 : Nat} (h : OutM M0 S a) (hc : a2 = c + 1) :
    OutM M0 (xI (xI (xJ (xJ (xI S 0 0 14 (nI a2)) 16 0 a.1.length X) 17 0 a.1.length Y) 18 0 a.1.length (nI c)) 0 0 13 (nI (a.1.length + 1))) (a.1 ++ [(X, Y, c)], a2) ∧ StkM S (xI (xI (xJ (xJ (xI S 0 0 14 (nI a2)) 16 0 a.1.length X) 17 0 a.1.length Y) 18 0 a.1.length (nI c)) 0 0 13 (nI (a.1.length + 1))) 1000 := by
  obtain ⟨h1, h2, h3, h4, h5⟩ := h
  refine ⟨⟨fun k q0 q1 q2 => ?_, fun j q0 q1 => ?_, ?_, ?_, ?_⟩, fun i _ => ⟨?_, ?_, ?_⟩⟩
  · rw [xI_k q0, xI_k q1, xJ_1, xJ_1, xI_k q0]; exact h1 k q0 q1 q2
  · rw [xI_1, if_neg (by omega), xI_1, if_neg (by omega), xJ_1, xJ_1, xI_1, if_neg (by omega)]; exact h2 j q0 q1
  · rw [xI_s]
    show nI (a.1.length + 1) = nI (a.1 ++ [_]).length
    rw [List.length_append]; rfl
  · rw [xI_1, if_neg (by omega), xI_1, if_neg (by omega), xJ_1, xJ_1, xI_s]
  · refine OutA_snoc h5 (fun i hi => ?_) (fun i hi => ?_) (fun i hi => ?_) ?_ ?_ ?_
    · show (xJ (xJ S 16 0 a.1.length X) 17 0 a.1.length Y).2.1 16 0 i = _
      rw [xJ_21, if_neg (by omega), xJ_21, if_neg (by omega)]
    · show (xJ (xJ S 16 0 a.1.length X) 17 0 a.1.length Y).2.1 17 0 i = _
      rw [xJ_21, if_neg (by omega), xJ_21, if_neg (by omega)]
    · rw [xI_k (by omega), xI_1, if_neg (by omega), xJ_1, xJ_1, xI_k (by omega)]
    · show (xJ (xJ S 16 0 a.1.length X) 17 0 a.1.length Y).2.1 16 0 a.1.length = _
      rw [xJ_21, if_neg (by omega), xJ_21, if_pos ⟨rfl, rfl, rfl⟩]
    · show (xJ (xJ S 16 0 a.1.length X) 17 0 a.1.length Y).2.1 17 0 a.1.length = _
      rw [xJ_21, if_pos ⟨rfl, rfl, rfl⟩]
    · rw [xI_k (by omega), xI_s]
  · rw [xI_k (by omega), xI_k (by omega), xJ_1, xJ_1, xI_k (by omega)]
  · show (xJ (xJ S 16 0 a.1.length X) 17 0 a.1.length Y).2.1 20 0 i = _
    rw [xJ_21, if_neg (by omega), xJ_21, if_neg (by omega)]
  · show (xJ (xJ S 16 0 a.1.length X) 17 0 a.1.length Y).2.1 21 0 i = _
    rw [xJ_21, if_neg (by omega), xJ_21, if_neg (by omega)]
theorem StkM.le {S S' : xS} {v w : Nat} (h : StkM S S' w) (hv : v ≤ w) : StkM S S' v := fun i hi => h i (by omega)
theorem w7_pts (hg : g < 6) (hna : na ≤ 4) (h0 : M0.1 0 0 0 = nI na) (hR : RowOk na g (mrow M0 g)) (hB : BdP (mrow M0 g)) (hl : ∀ i, i < na → M0.1 5 0 i = loc i) (c0 : mrow M0 g 0 = 0) {K33 : xS → Int32 → Prop} {Q : xS → Prop} {v : Nat} (hv : v < 64) {x y : Int64} {a : xOS} {S : xS} (hO : OutM M0 S a) (hlen : a.1.length + rN (mrow M0 g) ≤ 96)
    (k : ∀ S', OutM M0 S' (ptA (mrow M0 g) loc x y (rN (mrow M0 g)) a) → StkM S S' v → K33 S' (nI v)) : wp_X7_layOutline_77 K33 Q S (nI v) (nI g) x y 1 := by
  have hN := hR.2.1.1
  unfold wp_X7_layOutline_77
  refine wl1 (fun n S v9 => wp_X7_layOutline_82 K33 Q n S (nI v) (nI g) x y 1 v9) (fun K S v9 => wp_X7_layOutline_82_b K33 (fun S _ _ _ _ _ v9 => K S v9) Q S (nI v) (nI g) x y 1 v9) (fun _ _ _ => rfl)
    (fun S' v9 => ∃ p, p ≤ rN (mrow M0 g) ∧ v9 = nI p ∧ OutM M0 S' (ptA (mrow M0 g) loc x y p a) ∧ StkM S S' v) (fun _ v => 50 - v.toNatClampNeg) ⟨0, by omega, rfl, hO, fun _ _ => ⟨rfl, rfl, rfl⟩⟩ ?_
  rintro S' v9 K ⟨p, hp, rfl, hO', hs⟩ hK
  have er := hO'.row g
  have hp1 : (ptA (mrow M0 g) loc x y p a).1.length = a.1.length + p := (ptA_len _ _ _ _ _ _).1
  have hp2 : (ptA (mrow M0 g) loc x y p a).2 = a.2 + ctO (mrow M0 g) p := (ptA_len _ _ _ _ _ _).2
  unfold wp_X7_layOutline_82_b wp_X7_layOutline_188
  refine v7_of rfl nl2 hg (by omega) ?_
  rw [er, hR.2.1.2]
  by_cases c : p = rN (mrow M0 g)
  · subst c
    refine gt (by rw [vv_le (by omega) (by omega)]; omega) (v7_of rfl nl2 hg (by omega) ⟨1, ?_⟩)
    rw [er, hR.2.1.2, dnI_sub (by omega)]
    show wp_X7_layOutline_198_b K33 _ Q S' (nI v) (nI g) x y 1 (dnI (rN (mrow M0 g)))
    unfold wp_X7_layOutline_198_b wp_X7_layOutline_267
    have fin := k S' hO' hs
    by_cases z : dnI (rN (mrow M0 g)) < 0
    · exact gt z fin
    · exact gf z (gf (by decide) fin)
  · refine gf (by rw [vv_le (by omega) (by omega)]; omega) (gf (by decide) (v7_of (y := 52 + p) rfl (by rw [nl52, nI_add]) hg (by omega) ?_))
    have key : nI (ptA (mrow M0 g) loc x y p a).2 + mrow M0 g (52 + p) = nI (a.2 + cno (mrow M0 g) p + 1) := by
      rw [hp2]
      cases p with
      | zero =>
        rw [(hR.2.2.2.2.1 c0).2 (by omega), nI_1]
        rfl
      | succ p =>
        show nI (a.2 + (cno (mrow M0 g) p + 1)) + mrow M0 g (52 + (p + 1)) = nI (a.2 + (cno (mrow M0 g) p + if mrow M0 g (52 + (p + 1)) = 1 then 1 else 0) + 1)
        rcases (hR.2.2.2.2.1 c0).1 (p + 1) (by omega) with h | h
        · rw [h, if_neg (by decide), nl0, nI_add]; try rfl
        · rw [h, if_pos rfl, nI_1]; try rfl
    have h13 : S'.1 0 0 13 = nI (ptA (mrow M0 g) loc x y p a).1.length := hO'.2.2.1
    rw [er, hO'.2.2.2.1, key]
    have e11 : (xI S' 0 0 14 (nI (a.2 + cno (mrow M0 g) p + 1))).1 11 = M0.1 11 := by rw [xI_k (by omega)]; exact hO'.1 11 (by omega) (by omega) (by omega)
    have e5 : (xI S' 0 0 14 (nI (a.2 + cno (mrow M0 g) p + 1))).1 5 = M0.1 5 := by rw [xI_k (by omega)]; exact hO'.1 5 (by omega) (by omega) (by omega)
    have e0 : (xI S' 0 0 14 (nI (a.2 + cno (mrow M0 g) p + 1))).1 0 0 0 = M0.1 0 0 0 := by rw [xI_1, if_neg (by omega)]; exact hO'.2.1 0 (by omega) (by omega)
    have hin := vv_in (k := (ptA (mrow M0 g) loc x y p a).1.length) (N := 96) (by omega) (by omega)
    refine w7_pt hg hna h0 hR hB hl (by omega) e11 e5 e0 ?_
    rw [x14_13, h13, vv_clI (by omega)]
    refine ⟨hin, w7_pt hg hna h0 hR hB hl (by omega) e11 e5 e0 ?_⟩
    simp only [xJ_1, x18_13, x14_13, x14_14, h13]
    rw [vv_clI (by omega), nI_s1', nI_1, nI_1]
    obtain ⟨o1, o2⟩ := hO'.step (c := a.2 + cno (mrow M0 g) p) (X := x + plV (mrow M0 g) loc p 0 (fun t => depB (mrow M0 g) t 15 4)) (Y := y + plV (mrow M0 g) loc p 1 (fun t => depB (mrow M0 g) t 15 4)) rfl
    exact ⟨hin, hin, hK _ _ ⟨p + 1, by omega, rfl, o1, hs.trans (o2.le (v := v) (by omega)) (Nat.le_refl _)⟩ (by rw [vv_clI (by omega), vv_clI (by omega)]; omega)⟩
end LAY
