/- whether g is a component of another glyph -/
def prtV (M : xS) (ng g : Nat) : Prop := ∃ k c, g < k ∧ k < ng ∧ mrow M k 0 = 1 ∧ c < rN (mrow M k) ∧ mrow M k (52 + c) = nI g
section PART
variable {S M : xS} {g ng : Nat}
theorem w1_hasChild {G na gi : Nat} {r : Nat → Int32} {a1 : Int32} {Q : Int32 → xS → Prop} (hG : GlRel S G r) (hR : RowOk na gi r) (k1 : (∃ c, r 0 = 1 ∧ c < rN r ∧ r (52 + c) = a1) → Q 1 S) (k0 : (¬ ∃ c, r 0 = 1 ∧ c < rN r ∧ r (52 + c) = a1) → Q 0 S) : wp_X1_hasChild G a1 S Q := by
  obtain ⟨e1, e2, e3, e4, e5, e6, e7, e8, e9⟩ := hG
  have hN := hR.2.1.1
  unfold wp_X1_hasChild
  refine wl1 (wp_X1_hasChild_2 G a1 Q) (fun K => wp_X1_hasChild_2_b G a1 K Q) (fun _ _ _ => rfl)
    (fun S' v => S' = S ∧ ∃ j, j ≤ rN r ∧ v = nI (j + 1) ∧ ∀ c, c < j → ¬ r (52 + c) = a1) (fun _ v => 50 - v.toNatClampNeg) ⟨rfl, 0, by omega, rfl, fun c h => by omega⟩ ?_
  rintro S' v K ⟨rfl, j, hj, rfl, hh⟩ hK
  unfold wp_X1_hasChild_2_b wp_X1_hasChild_35
  rw [e1, e2.trans hR.2.1.2]
  by_cases c0 : r 0 = 0
  · exact gt c0 ⟨Or.inl rfl, k0 (fun ⟨c, h, _⟩ => by rw [c0] at h; exact absurd h (by decide))⟩
  · have c1 : r 0 = 1 := hR.1.resolve_left c0
    have h4 := hR.2.2.1 c1
    refine gf c0 ?_
    by_cases cj : j = rN r
    · subst cj
      exact gt (by rw [vv_lt (by omega) (by omega)]; omega) ⟨Or.inl rfl, k0 (fun ⟨c, _, h2, h3⟩ => hh c h2 h3)⟩
    · refine gf (by rw [vv_lt (by omega) (by omega)]; omega) ⟨vv_in (by omega) (by omega), ?_⟩
      rw [vv_clI (by omega), e8 c1 j (by omega)]
      by_cases e : r (52 + j) = a1
      · exact gt e ⟨Or.inr rfl, k1 ⟨j, c1, by omega, e⟩⟩
      · refine gf e ?_
        rw [nI_1]
        refine hK _ _ ⟨rfl, j + 1, by omega, rfl, fun c hc => ?_⟩ (by rw [vv_clI (by omega), vv_clI (by omega)]; omega)
        by_cases ec : c = j
        · rw [ec]; exact e
        · exact hh c (by omega)
theorem w6_isComponent {na : Nat} {Q : Int32 → xS → Prop} (hn : ng ≤ 6) (h6 : S.1 6 0 6 = nI ng) (hg : g < ng) (hG : ∀ z, z < ng → GlRel S z (mrow M z) ∧ RowOk na z (mrow M z)) (k1 : prtV M ng g → Q 1 S) (k0 : ¬ prtV M ng g → Q 0 S) : wp_X6_isComponent (nI g) S Q := by
  unfold wp_X6_isComponent
  rw [nI_1]
  refine wl1 (wp_X6_isComponent_4 (nI g) Q) (fun K => wp_X6_isComponent_4_b (nI g) K Q) (fun _ _ _ => rfl)
    (fun S' v => S' = S ∧ ∃ j, g < j ∧ j ≤ ng ∧ v = nI j ∧ ∀ k, g < k → k < j → ¬ ∃ c, mrow M k 0 = 1 ∧ c < rN (mrow M k) ∧ mrow M k (52 + c) = nI g) (fun _ v => 10 - v.toNatClampNeg) ⟨rfl, g + 1, by omega, by omega, rfl, fun k a b => by omega⟩ ?_
  rintro S' v K ⟨rfl, j, hj1, hj2, rfl, hh⟩ hK
  unfold wp_X6_isComponent_4_b
  rw [h6]
  by_cases c : j = ng
  · subst c
    exact gt (by rw [vv_le (by omega) (by omega)]; omega) ⟨Or.inl rfl, k0 (fun ⟨k, c, a1, a2, a3, a4, a5⟩ => hh k a1 a2 ⟨c, a3, a4, a5⟩)⟩
  · refine gf (by rw [vv_le (by omega) (by omega)]; omega) ⟨vv_in (by omega) (by omega), ?_⟩
    rw [vv_clI (by omega)]
    obtain ⟨d1, d2⟩ := hG j (by omega)
    refine w1_hasChild d1 d2 (fun ⟨c, h1, h2, h3⟩ => gf (by decide) ⟨Or.inr rfl, k1 ⟨j, c, hj1, by omega, h1, h2, h3⟩⟩) (fun hno => gt rfl ?_)
    rw [nI_1]
    refine hK _ _ ⟨rfl, j + 1, by omega, by omega, rfl, fun k a b => ?_⟩ (by rw [vv_clI (by omega), vv_clI (by omega)]; omega)
    by_cases ek : k = j
    · rw [ek]; exact hno
    · exact hh k a (by omega)
theorem w7_isPart {na : Nat} {Q : Int32 → xS → Prop} (hn : ng ≤ 6) (h9 : M.1 0 0 9 = nI ng) (hg : g < ng) (hR : ∀ z, z < ng → RowOk na z (mrow M z)) (k1 : prtV M ng g → Q 1 M) (k0 : ¬ prtV M ng g → Q 0 M) : wp_X7_isPart (nI g) M Q := by
  unfold wp_X7_isPart
  rw [nI_1]
  refine wl2 (wp_X7_isPart_6 (nI g) Q) (fun K => wp_X7_isPart_6_b (nI g) K Q) (fun _ _ _ _ => rfl)
    (fun M' v w => M' = M ∧ ∃ j, g < j ∧ j ≤ ng ∧ w = nI j ∧ ((v = 1 ∧ prtV M ng g) ∨ (v = 0 ∧ ∀ k, g < k → k < j → ¬ ∃ c, mrow M k 0 = 1 ∧ c < rN (mrow M k) ∧ mrow M k (52 + c) = nI g))) (fun _ _ w => 10 - w.toNatClampNeg) ⟨rfl, g + 1, by omega, by omega, rfl, Or.inr ⟨rfl, fun k a b => by omega⟩⟩ ?_
  rintro M' v w K ⟨rfl, j, hj1, hj2, rfl, hh⟩ hK
  unfold wp_X7_isPart_6_b
  rw [h9]
  by_cases c : j = ng
  · subst c
    refine gt (by rw [vv_le (by omega) (by omega)]; omega) ?_
    rcases hh with ⟨rfl, h⟩ | ⟨rfl, h⟩
    · exact ⟨Or.inr rfl, k1 h⟩
    · exact ⟨Or.inl rfl, k0 (fun ⟨k, c, a1, a2, a3, a4, a5⟩ => h k a1 a2 ⟨c, a3, a4, a5⟩)⟩
  · refine gf (by rw [vv_le (by omega) (by omega)]; omega) ?_
    have hRj := hR j (by omega)
    have hN := hRj.2.1.1
    refine wl3 (wp_X7_isPart_17 (nI g) K Q) (fun K17 => wp_X7_isPart_17_b (nI g) K K17 Q) (fun _ _ _ _ _ => rfl)
      (fun M'' v w u => M'' = M' ∧ w = nI j ∧ ∃ c, c ≤ rN (mrow M' j) ∧ u = nI c ∧ ((v = 1 ∧ prtV M' ng g) ∨ (v = 0 ∧ (∀ k, g < k → k < j → ¬ ∃ c, mrow M' k 0 = 1 ∧ c < rN (mrow M' k) ∧ mrow M' k (52 + c) = nI g) ∧ ∀ d, d < c → ¬ mrow M' j (52 + d) = nI g))) (fun _ _ _ u => 50 - u.toNatClampNeg) ⟨rfl, rfl, 0, by omega, rfl, ?_⟩ ?_
    · rcases hh with ⟨rfl, h⟩ | ⟨rfl, h⟩
      · exact Or.inl ⟨rfl, h⟩
      · exact Or.inr ⟨rfl, h, fun d h => by omega⟩
    · rintro M'' v w u K17 ⟨rfl, rfl, c, hc, rfl, hh2⟩ hK17
      unfold wp_X7_isPart_17_b wp_X7_isPart_68 wp_X7_isPart_56 wp_X7_isPart_61
      have next : ∀ x : Int32, ((x = 1 ∧ prtV M'' ng g) ∨ (x = 0 ∧ ∀ k, g < k → k < j + 1 → ¬ ∃ c, mrow M'' k 0 = 1 ∧ c < rN (mrow M'' k) ∧ mrow M'' k (52 + c) = nI g)) → K M'' x (nI j + 1) := fun x hx => by
        rw [nI_1]
        exact hK _ _ _ ⟨rfl, j + 1, by omega, by omega, rfl, hx⟩ (by rw [vv_clI (by omega), vv_clI (by omega)]; omega)
      refine v7_of rfl nl2 (by omega) (by omega) ?_
      rw [hRj.2.1.2]
      by_cases cN : c = rN (mrow M'' j)
      · refine gt (by rw [vv_le (by omega) (by omega)]; omega) (next _ ?_)
        rcases hh2 with ⟨h1, h2⟩ | ⟨h1, h2, h3⟩
        · exact Or.inl ⟨h1, h2⟩
        · refine Or.inr ⟨h1, fun k a b => ?_⟩
          by_cases ek : k = j
          · rw [ek]
            rintro ⟨d, _, q2, q3⟩
            exact h3 d (by omega) q3
          · exact h2 k a (by omega)
      · refine gf (by rw [vv_le (by omega) (by omega)]; omega) (v7_of rfl nl0 (by omega) (by omega) ?_)
        by_cases c1 : mrow M'' j 0 = 1
        · refine gt c1 ?_
          have step : ∀ x : Int32, ((x = 1 ∧ prtV M'' ng g) ∨ (x = 0 ∧ (∀ k, g < k → k < j → ¬ ∃ c, mrow M'' k 0 = 1 ∧ c < rN (mrow M'' k) ∧ mrow M'' k (52 + c) = nI g) ∧ ∀ d, d < c + 1 → ¬ mrow M'' j (52 + d) = nI g)) → K17 M'' x (nI j) (nI c + 1) := fun x hx => by
            rw [nI_1]
            exact hK17 _ _ _ _ ⟨rfl, rfl, c + 1, by omega, rfl, hx⟩ (by rw [vv_clI (by omega), vv_clI (by omega)]; omega)
          rcases hh2 with ⟨rfl, h2⟩ | ⟨rfl, h2, h3⟩
          · exact gf (by decide) (step 1 (Or.inl ⟨rfl, h2⟩))
          · refine gt rfl (v7_of (y := 52 + c) rfl (by rw [nl52, nI_add]) (by omega) (by omega) ?_)
            by_cases e : mrow M'' j (52 + c) = nI g
            · exact gt e (step 1 (Or.inl ⟨rfl, j, c, hj1, by omega, c1, by omega, e⟩))
            · refine gf e (step 0 (Or.inr ⟨rfl, h2, fun d hd => ?_⟩))
              by_cases ed : d = c
              · rw [ed]; exact e
              · exact h3 d (by omega)
        · refine gf c1 (next _ ?_)
          rcases hh2 with ⟨h1, h2⟩ | ⟨h1, h2, h3⟩
          · exact Or.inl ⟨h1, h2⟩
          · refine Or.inr ⟨h1, fun k a b => ?_⟩
            by_cases ek : k = j
            · rw [ek]
              rintro ⟨d, q1, _, _⟩
              exact c1 q1
            · exact h2 k a (by omega)
end PART
