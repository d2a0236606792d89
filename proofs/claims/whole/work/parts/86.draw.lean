/- the outline of the developers' class -/
theorem xR_dummy : True := trivial
def OutS (S0 S : xS) (o : Nat) (a : xOS) : Prop :=
  (∀ k, k ≠ 4 → k ≠ 23 → S.1 k = S0.1 k) ∧ (∀ z, z ≠ o → S.1 4 z = S0.1 4 z ∧ S.1 23 z = S0.1 23 z ∧ S.2.1 21 z = S0.2.1 21 z ∧ S.2.1 22 z = S0.2.1 22 z) ∧ S.2.2 = S0.2.2 ∧
  S.1 4 o 0 = nI a.1.length ∧ S.1 4 o 1 = nI a.2 ∧ OutA (S.2.1 21 o) (S.2.1 22 o) (S.1 23 o) a.1
theorem w4_append {S0 S : xS} {o : Nat} {a : xOS} {x y : Int64} {c : Nat} {Q : xS → Prop} (h : OutS S0 S o a) (hl : a.1.length < 96) (k : ∀ S', OutS S0 S' o (a.1 ++ [(x, y, c)], c + 1) → Q S') : wp_X4_append o x y (nI c) S Q := by
  obtain ⟨h1, h2, h3, h4, h5, h6⟩ := h
  have hin := vv_in (k := a.1.length) (N := 96) hl (by omega)
  have hcl := vv_clI (k := a.1.length) (by omega)
  unfold wp_X4_append
  rw [h4, hcl]
  have e1 : (xJ S 21 o a.1.length x).1 4 o 0 = nI a.1.length := h4
  rw [e1, hcl]
  have e2 : (xJ (xJ S 21 o a.1.length x) 22 o a.1.length y).1 4 o 0 = nI a.1.length := h4
  rw [e2, hcl]
  have e3 : (xI (xJ (xJ S 21 o a.1.length x) 22 o a.1.length y) 23 o a.1.length (nI c)).1 4 o 0 = nI a.1.length := by rw [xI_k (by omega)]; exact h4
  rw [e3, nI_1, nI_1]
  refine gt (by rw [nl96, vv_lt (by omega) (by omega)]; exact hl) ⟨hin, hin, hin, k _ ⟨fun j q1 q2 => ?_, fun z hz => ⟨?_, ?_, ?_, ?_⟩, h3, ?_, ?_, ?_⟩⟩
  · rw [xI_k q1, xI_k q1, xI_k q2]; exact h1 j q1 q2
  · funext w
    rw [xI_1, if_neg (by omega), xI_1, if_neg (by omega), xI_1, if_neg (by omega)]
    show S.1 4 z w = _
    rw [(h2 z hz).1]
  · funext w
    rw [xI_1, if_neg (by omega), xI_1, if_neg (by omega), xI_1, if_neg (by omega)]
    show S.1 23 z w = _
    rw [(h2 z hz).2.1]
  · funext w
    show (xJ (xJ S 21 o a.1.length x) 22 o a.1.length y).2.1 21 z w = _
    rw [xJ_21, if_neg (by omega), xJ_21, if_neg (by omega), (h2 z hz).2.2.1]
  · funext w
    show (xJ (xJ S 21 o a.1.length x) 22 o a.1.length y).2.1 22 z w = _
    rw [xJ_21, if_neg (by omega), xJ_21, if_neg (by omega), (h2 z hz).2.2.2]
  · rw [xI_1, if_neg (by omega), xI_s]
    show nI (a.1.length + 1) = nI (a.1 ++ [_]).length
    rw [List.length_append]; rfl
  · rw [xI_s]
  · refine OutA_snoc h6 (fun i hi => ?_) (fun i hi => ?_) (fun i hi => ?_) ?_ ?_ ?_
    · show (xJ (xJ S 21 o a.1.length x) 22 o a.1.length y).2.1 21 o i = _
      rw [xJ_21, if_neg (by omega), xJ_21, if_neg (by omega)]
    · show (xJ (xJ S 21 o a.1.length x) 22 o a.1.length y).2.1 22 o i = _
      rw [xJ_21, if_neg (by omega), xJ_21, if_neg (by omega)]
    · rw [xI_k (by omega), xI_k (by omega), xI_1, if_neg (by omega)]; rfl
    · show (xJ (xJ S 21 o a.1.length x) 22 o a.1.length y).2.1 21 o a.1.length = _
      rw [xJ_21, if_neg (by omega), xJ_21, if_pos ⟨rfl, rfl, rfl⟩]
    · show (xJ (xJ S 21 o a.1.length x) 22 o a.1.length y).2.1 22 o a.1.length = _
      rw [xJ_21, if_pos ⟨rfl, rfl, rfl⟩]
    · rw [xI_k (by omega), xI_k (by omega), xI_s]
section DRAW
variable {S0 M : xS} {ng na L o : Nat} {loc : Nat → Int32}
theorem OutS.gl {S : xS} {a : xOS} (h : OutS S0 S o a) {z : Nat} {r : Nat → Int32} (hG : GlRel S0 z r) (hN : rN r ≤ 24) (hT : rT r ≤ 5) : GlRel S z r :=
  hG.fr hN hT (fun k hk => by rw [h.1 k (by omega) (by omega)]) (fun t _ => by rw [h.2.2.1]) (fun t _ k hk => by rw [h.1 k (by omega) (by omega)]) (fun _ _ => rfl)
theorem w6_draw (hn : ng ≤ 6) (hG : ∀ z, z < ng → GlRel S0 z (mrow M z) ∧ RowOk na z (mrow M z) ∧ ∀ t, t < 5 → S0.2.2 16 z t < 60) (hl : ∀ i, i < 4 → S0.1 30 L i = loc i) :
    ∀ f g d, g < ng → g < f → g + d ≤ 5 → ∀ (S : xS) (x y : Int64) (a : xOS) (Q : xS → Prop), OutS S0 S o a → a.1.length + ptsOf M f g ≤ 96 → (∀ S', OutS S0 S' o (otD M loc f g x y a) → Q S') → wp_X6_draw_r f (nI g) L o x y (nI d) S Q
  | 0, g, d, hg, hf, _, _, _, _, _, _, _, _, _ => by omega
  | f + 1, g, d, hg, hf, hd, S, x, y, a, Q, hO, hlen, k => by
    obtain ⟨hGl, hR, hid⟩ := hG g hg
    have hN := hR.2.1.1
    have hT := hR.2.2.2.1.1
    show wp_X6_draw_b (wp_X6_draw_r f) (nI g) L o x y (nI d) S Q
    unfold wp_X6_draw_b
    refine gf (by rw [nl0, vv_lt (by omega) (by omega)]; omega) (gf (by rw [nl6, vv_le (by omega) (by omega)]; omega) (gt (by rw [nl6, vv_lt (by omega) (by omega)]; omega) ⟨vv_in (by omega) (by omega), ?_⟩))
    rw [vv_clI (by omega), hO.2.2.2.2.1]
    have hlen2 : a.1.length + (if mrow M g 0 = 1 then sumR (fun c => ptsOf M f (chd M g c)) (rN (mrow M g)) else rN (mrow M g)) ≤ 96 := by rw [← ptsOf_s]; exact hlen
    refine wl3 (wp_X6_draw_32 L o x y (nI d) (wp_X6_draw_r f) Q) (fun K => wp_X6_draw_32_b L o x y (nI d) (wp_X6_draw_r f) K Q) (fun _ _ _ _ _ => rfl)
      (fun S' v9 v10 v11 => v9 = g ∧ v10 = nI a.2 ∧ ∃ p, p ≤ rN (mrow M g) ∧ v11 = nI (p + 1) ∧ OutS S0 S' o (if mrow M g 0 = 1 then otC (otD M loc f) (mrow M g) loc x y p a else ptA (mrow M g) loc x y p a)) (fun _ _ _ v => 50 - v.toNatClampNeg)
      ⟨rfl, rfl, 0, by omega, rfl, by split <;> exact hO⟩ ?_
    rintro S' v9 v10 v11 K ⟨rfl, rfl, p, hp, rfl, hO'⟩ hK
    have hGl' := hO'.gl hGl hN hT
    have hloc : ∀ i, i < 4 → S'.1 30 L i = loc i := fun i hi => by rw [hO'.1 30 (by omega) (by omega)]; exact hl i hi
    have hid' : ∀ t, t < 5 → S'.2.2 16 v9 t < 60 := fun t ht => by rw [hO'.2.2.1]; exact hid t ht
    have es : slo (p + 1) = p := by unfold slo; rw [if_neg (by omega)]; omega
    have mu : 50 - (nI (p + 2)).toNatClampNeg < 50 - (nI (p + 1)).toNatClampNeg := by rw [vv_clI (by omega), vv_clI (by omega)]; omega
    unfold wp_X6_draw_32_b wp_X6_draw_126
    rw [hGl'.2.1.trans hR.2.1.2]
    by_cases c : p = rN (mrow M v9)
    · subst c
      exact gt (by rw [vv_lt (by omega) (by omega)]; omega) (k S' hO')
    · refine gf (by rw [vv_lt (by omega) (by omega)]; omega) (w1_place (bits := 15) hGl' hR hid' (by omega) hloc (by omega) (w1_place (bits := 15) hGl' hR hid' (by omega) hloc (by omega) ?_))
      rw [es, hGl'.1, vv_clI (k := p + 1) (by omega), nI_1]
      by_cases c0 : mrow M v9 0 = 0
      · have c1 : ¬ mrow M v9 0 = 1 := by rw [c0]; decide
        rw [if_neg c1] at hO' hlen2
        refine gt c0 ⟨vv_in (by omega) (by omega), ?_⟩
        rw [hGl'.2.2.2.2.2.2.1 c0 p (by omega), nI_add]
        refine w4_append hO' (by rw [(ptA_len _ _ _ _ _ _).1]; omega) (fun S'' h'' => ?_)
        refine hK _ _ _ _ ⟨rfl, rfl, p + 1, by omega, rfl, ?_⟩ mu
        rw [if_neg c1]
        exact h''
      · have c1 : mrow M v9 0 = 1 := hR.1.resolve_left c0
        have h4 := hR.2.2.1 c1
        rw [if_pos c1] at hO' hlen2
        obtain ⟨q1, q2⟩ := chd_lt (by omega) hR c1 (c := p) (by omega)
        refine gf c0 ⟨vv_in (by omega) (by omega), ?_⟩
        rw [hGl'.2.2.2.2.2.2.2.1 c1 p (by omega), q2, nI_1]
        refine w6_draw hn hG hl f (chd M v9 p) (d + 1) (by omega) (by omega) (by omega) S' _ _ _ _ hO' ?_ (fun S'' h'' => ?_)
        · rw [otC_len]
          have := sumR_le (fun c => ptsOf M f (chd M v9 c)) (p + 1) (rN (mrow M v9)) (by omega)
          have e : sumR (fun c => ptsOf M f (chd M v9 c)) (p + 1) = sumR (fun c => ptsOf M f (chd M v9 c)) p + ptsOf M f (chd M v9 p) := rfl
          have e2 : sumR (fun c => ptsOf M f (mrow M v9 (52 + c)).toNatClampNeg) p = sumR (fun c => ptsOf M f (chd M v9 c)) p := rfl
          omega
        · refine hK _ _ _ _ ⟨rfl, rfl, p + 1, by omega, rfl, ?_⟩ mu
          rw [if_pos c1]
          exact h''
theorem v6_drawn {g : Nat} {S : xS} {Q : Nat → xS → Prop} (hn : ng ≤ 6) (hG : ∀ z, z < ng → GlRel S z (mrow M z) ∧ RowOk na z (mrow M z) ∧ ∀ t, t < 5 → S.2.2 16 z t < 60) (hl : ∀ i, i < 4 → S.1 30 0 i = loc i) (hg : g < ng) (hlen : ptsOf M 7 g ≤ 96)
    (k : ∀ S', OutS S S' 0 (otD M loc 7 g 0 0 ([], 0)) → Q 0 S') : wp_X6_drawnPresent (nI g) S Q := by
  unfold wp_X6_drawnPresent wp_X4_clear wp_X6_draw
  refine w6_draw (S0 := S) hn hG hl 7 g 0 hg (by omega) (by omega) _ _ _ ([], 0) _ ⟨fun j q1 q2 => ?_, fun z hz => ⟨?_, ?_, rfl, rfl⟩, rfl, ?_, ?_, ?_⟩ ?_ k
  · rw [xI_k q1, xI_k q1]
  · funext w
    rw [xI_1, if_neg (by omega), xI_1, if_neg (by omega)]
  · rw [xI_k (by omega), xI_k (by omega)]
  · rw [xI_1, if_neg (by omega), xI_s]; rfl
  · rw [xI_s]; rfl
  · intro i p h
    exact absurd h (by simp)
  · show 0 + ptsOf M 7 g ≤ 96
    omega
end DRAW
