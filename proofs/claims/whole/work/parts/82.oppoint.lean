theorem op_addPoint {n : Nat} {S M : xS} {K : xS → xS → Prop} (I : Inv n S M) (a x y st : Int32) (hst : st = 0 ∨ st = 1) (hK : ∀ S' M', Inv (n + 1) S' M' → K S' M') :
    wp_X6_addPoint a x y st S (fun r1 S1 => wp_X7_addPoint a x y st M (fun r2 M1 => if r1 = r2 then K S1 M1 else False)) := by
  obtain ⟨⟨b1, b2, b3⟩, b4, b5, b6⟩ := I.2.1
  have hS1 := b3.trans b2
  by_cases c : 0 ≤ a.toInt ∧ a.toInt < cntM M 9
  rotate_left
  · exact op_of (w6 := wp_X6_addPoint a x y st S) (w7 := wp_X7_addPoint a x y st M) (r := -1000002) (fun Q k => v6_hasGlyph_f b1 hS1 c (g0 k)) (fun Q k => v7_noGlyph_f b1 b2 c (g1 k)) (hK _ _ I.next)
  obtain ⟨g, rfl, eg, hgg⟩ := vv_nat c.1
  have hg : g < cntM M 9 := by omega
  obtain ⟨d1, d2, d3⟩ := b5 g hg
  have hin := vv_in (k := g) (N := 6) (by omega) (by omega)
  by_cases cp : rng x (-4000) 4000 ∧ rng y (-4000) 4000
  rotate_left
  · exact op_of (w6 := wp_X6_addPoint (nI g) x y st S) (w7 := wp_X7_addPoint (nI g) x y st M) (r := -1000005) (fun Q k => v6_hasGlyph_t b1 hS1 hg (g1 (v6_isPosition_f cp (g0 k)))) (fun Q k => v7_noGlyph_t b1 b2 hg (g0 (v7_isPlace_f cp (g0 k)))) (hK _ _ I.next)
  have hG : ∀ z, z < cntM M 9 → GlRel S z (mrow M z) ∧ RowOk (cntM M 0) z (mrow M z) := fun z hz => ⟨(b5 z hz).1, (b5 z hz).2.1⟩
  have hR : ∀ z, z < cntM M 9 → RowOk (cntM M 0) z (mrow M z) := fun z hz => (b5 z hz).2.1
  have p6 : ∀ Q : Int32 → xS → Prop, (if mrow M g 0 = 0 then wp_X6_isComponent (nI g) S (fun r7 S6 => (if r7 = 0 then (vp_in (nI g) 6 ∧ (if (S6.1 1 g 1) < (24 : Int32) then (vp_in (nI g) 6 ∧ (wp_X1_appendPoint g x y st S6 (fun r11 S10 => (Q r11 S10)))) else (Q (-1000006) S6))) else Q (-1000007) S6)) else Q (-1000007) S) → wp_X6_addPoint (nI g) x y st S Q := fun Q k => by
    refine v6_hasGlyph_t b1 hS1 hg (g1 (v6_isPosition_t cp.1 cp.2 (g1 ⟨hin, ?_⟩)))
    rw [vv_clI (by omega), d1.1]
    exact k
  have p7 : ∀ Q : Int32 → xS → Prop, (if mrow M g 0 = 1 then Q (-1000007) M else wp_X7_isPart (nI g) M (fun r8 S7 => (if r8 = 0 then (wp_X7_of (nI g) (2 : Int32) S7 (fun r10 S9 => (if r10 = (24 : Int32) then (Q (-1000006) S9) else (if st = 0 then (wp_X7_of (nI g) (2 : Int32) S9 (fun r12 S11 => (if r12 = 0 then (wp_X7_addPoint_75 Q S11 (nI g) x y) else (wp_X7_addPoint_80 Q S11 (nI g) x y (0 : Int32))))) else (wp_X7_addPoint_75 Q S9 (nI g) x y))))) else Q (-1000007) S7))) → wp_X7_addPoint (nI g) x y st M Q := fun Q k => v7_noGlyph_t b1 b2 hg (g0 (v7_isPlace_t cp.1 cp.2 (g1 (v7_of rfl nl0 (by omega) (by omega) k))))
  by_cases c0 : mrow M g 0 = 0
  rotate_left
  · have c1 : mrow M g 0 = 1 := d2.1.resolve_left c0
    exact op_of (w6 := wp_X6_addPoint (nI g) x y st S) (w7 := wp_X7_addPoint (nI g) x y st M) (r := -1000007) (fun Q k => p6 Q (gf c0 k)) (fun Q k => p7 Q (gt c1 k)) (hK _ _ I.next)
  have c1 : ¬ mrow M g 0 = 1 := by rw [c0]; decide
  rcases Classical.em (prtV M (cntM M 9) g) with hp | hp
  · exact op_of (w6 := wp_X6_addPoint (nI g) x y st S) (w7 := wp_X7_addPoint (nI g) x y st M) (r := -1000007) (fun Q k => p6 Q (gt c0 (w6_isComponent b1 hS1 hg hG (fun _ => g1 k) (fun h => absurd hp h)))) (fun Q k => p7 Q (gf c1 (w7_isPart b1 b2 hg hR (fun _ => g1 k) (fun h => absurd hp h)))) (hK _ _ I.next)
  have hN := d2.2.1.1
  have eN : S.1 1 g 1 = nI (rN (mrow M g)) := d1.2.1.trans d2.2.1.2
  by_cases cN : rN (mrow M g) < 24
  rotate_left
  · refine op_of (w6 := wp_X6_addPoint (nI g) x y st S) (w7 := wp_X7_addPoint (nI g) x y st M) (r := -1000006) (fun Q k => p6 Q (gt c0 (w6_isComponent b1 hS1 hg hG (fun h => absurd h hp) (fun _ => g0 ⟨hin, gf ?_ k⟩)))) (fun Q k => p7 Q (gf c1 (w7_isPart b1 b2 hg hR (fun h => absurd h hp) (fun _ => g0 (v7_of rfl nl2 (by omega) (by omega) ?_))))) (hK _ _ I.next)
    · rw [eN, nl24, vv_lt (by omega) (by omega)]; exact cN
    · rw [d2.2.1.2]
      exact gt (by rw [nl24, vv_eq (by omega) (by omega)]; omega) k
  have hf : ∀ t, t < rT (mrow M g) → fl (mrow M g) t (rN (mrow M g)) = 0 := fun t ht => (d2.2.2.2.2.2.2 t ht).2.2.2.1 _ (Nat.le_refl _) cN
  have hT := d2.2.2.2.1.1
  have hb : 0 < rN (mrow M g) → S.1 14 g (rN (mrow M g)) = nI (cno (mrow M g) (rN (mrow M g) - 1)) := fun h => by
    have := d1.2.2.2.2.2.2.1 c0 (rN (mrow M g) - 1) (by omega)
    rw [show rN (mrow M g) - 1 + 1 = rN (mrow M g) by omega] at this
    exact this
  have hbl : cno (mrow M g) (rN (mrow M g) - 1) < 1000 := by have := cno_le (r := mrow M g) (rN (mrow M g) - 1); omega
  have m7 : ∀ (Q : Int32 → xS → Prop), (∀ M', (∀ k, k ≠ 11 → M'.1 k = M.1 k) → (∀ z y, z ≠ g → y < 511 → mrow M' z y = mrow M z y) → (∀ w, mrow M' g w = apR (mrow M g) (rN (mrow M g)) x y (if st = 0 ∧ ¬ rN (mrow M g) = 0 then 0 else 1) w) → Q (nI (rN (mrow M g))) M') → wp_X7_addPoint (nI g) x y st M Q := by
    intro Q k
    refine p7 Q (gf c1 (w7_isPart b1 b2 hg hR (fun h => absurd h hp) (fun _ => g0 (v7_of rfl nl2 (by omega) (by omega) ?_))))
    rw [d2.2.1.2]
    refine gf (by rw [nl24, vv_eq (by omega) (by omega)]; omega) ?_
    have add : ∀ th, th = (if st = 0 ∧ ¬ rN (mrow M g) = 0 then 0 else 1) → wp_X7_addPoint_80 Q M (nI g) x y th := fun th h => by
      subst h
      exact w7_addPlace (by omega) d2.2.1.2 cN d2.2.2.2.1.2 hT hf k
    by_cases cs : st = 0
    · refine gt cs (v7_of rfl nl2 (by omega) (by omega) ?_)
      rw [d2.2.1.2]
      by_cases cz : rN (mrow M g) = 0
      · exact gt (by rw [cz]; rfl) (add 1 (by rw [if_neg (fun h => h.2 cz)]))
      · exact gf (by rw [nl0, vv_eq (by omega) (by omega)]; exact cz) (add 0 (by rw [if_pos ⟨cs, cz⟩]))
    · exact gf cs (add 1 (by rw [if_neg (fun h => cs h.1)]))
  refine p6 _ (gt c0 (w6_isComponent b1 hS1 hg hG (fun h => absurd h hp) (fun _ => g0 ⟨hin, gt (by rw [eN, nl24, vv_lt (by omega) (by omega)]; exact cN) ⟨hin, w1_appendPoint eN cN hb hbl ?_⟩⟩)))
  refine m7 _ (fun M' q1 q2 q3 => ge (hK _ _ ?_))
  have er : mrow M' g = apR (mrow M g) (rN (mrow M g)) x y (if st = 0 ∧ ¬ rN (mrow M g) = 0 then 0 else 1) := funext q3
  refine place_inv I hg rfl cN (fun h => absurd h c1) cp.1 cp.2 (fun _ => ⟨?_, fun h => by rw [if_neg (fun h2 => h2.2 h)]⟩) (fun h => absurd h c1) hp (fun k hk => by rw [xI_k (by omega), xI_k (by omega), xI_k (by omega), xI_k (by omega)]) rfl (fun k z hz => ?_) ?_ (fun j hj => ?_) (fun k j hk hj => ?_) ?_ ?_ (fun _ => ?_) (fun h => absurd h c1) (fun k hk => q1 k (by unfold kM at hk; omega)) q2 q3 ?_
  · split
    · exact Or.inl rfl
    · exact Or.inr rfl
  · funext w
    rw [xI_1, if_neg (by omega), xI_1, if_neg (by omega), xI_1, if_neg (by omega), xI_1, if_neg (by omega)]
  · rw [xI_k (by omega), xI_k (by omega), xI_k (by omega), xI_s]
  · rw [xI_k (by omega), xI_k (by omega), xI_k (by omega), xI_1, if_neg (by omega)]
  · rw [xI_1, if_neg (by omega), xI_1, if_neg (by omega), xI_1, if_neg (by omega), xI_1, if_neg (by omega)]
  · rw [xI_k (by omega), xI_k (by omega), xI_s]
  · rw [xI_k (by omega), xI_s]
  · rw [xI_s]
    by_cases cz : rN (mrow M g) = 0
    · rw [if_pos cz, cz]; rfl
    · rw [if_neg cz]
      obtain ⟨m, hm⟩ : ∃ m, rN (mrow M g) = m + 1 := ⟨rN (mrow M g) - 1, by omega⟩
      have e1 : cno (apR (mrow M g) (rN (mrow M g)) x y (if st = 0 ∧ ¬ rN (mrow M g) = 0 then 0 else 1)) m = cno (mrow M g) m := apR_cno m (by omega) hN
      have e2 : apR (mrow M g) (rN (mrow M g)) x y (if st = 0 ∧ ¬ rN (mrow M g) = 0 then 0 else 1) (52 + rN (mrow M g)) = (if st = 0 ∧ ¬ rN (mrow M g) = 0 then 0 else 1) := by
        unfold apR
        rw [if_neg (by omega), if_neg (by omega), if_neg (by omega), if_pos rfl]
      generalize apR (mrow M g) (rN (mrow M g)) x y (if st = 0 ∧ ¬ rN (mrow M g) = 0 then 0 else 1) = r' at *
      rw [hm] at e2 ⊢
      show nI (if st = 0 then cno (mrow M g) (m + 1 - 1) else cno (mrow M g) (m + 1 - 1) + 1) = nI (cno r' m + (if r' (52 + (m + 1)) = 1 then 1 else 0))
      rw [e1, e2, Nat.add_sub_cancel]
      by_cases cs : st = 0
      · have e3 : (if st = 0 ∧ ¬ m + 1 = 0 then (0 : Int32) else 1) = 0 := if_pos ⟨cs, by omega⟩
        rw [if_pos cs, e3, if_neg (show ¬ (0 : Int32) = 1 by decide), Nat.add_zero]
      · have e3 : (if st = 0 ∧ ¬ m + 1 = 0 then (0 : Int32) else 1) = 1 := if_neg (fun h => cs h.1)
        rw [if_neg cs, e3, if_pos rfl]
  · show (if mrow M' g 0 = 1 then _ else rN (mrow M' g)) ≤ 96
    have e0 : mrow M' g 0 = mrow M g 0 := by rw [er]; unfold apR; rw [if_neg (by omega), if_neg (by omega), if_neg (by omega), if_neg (by omega)]
    have e2 : rN (mrow M' g) = rN (mrow M g) + 1 := by rw [er]; unfold rN apR; rw [if_pos rfl, vv_clI (by unfold rN at cN; omega)]
    rw [if_neg (by rw [e0]; exact c1), e2]
    omega
