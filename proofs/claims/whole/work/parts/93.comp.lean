theorem Inv.scr0 {n : Nat} {S M S' M' : xS} (I : Inv n S M) (hS : ∀ k, kG k ∨ k = 0 ∨ k = 2 ∨ k = 6 ∨ k = 10 ∨ k = 11 ∨ k = 17 ∨ k = 19 ∨ k = 33 → S'.1 k = S.1 k) (h3 : S'.1 3 0 0 = S.1 3 0 0) (h30 : ∀ a, S'.1 30 0 a = S.1 30 0 a ∧ S'.1 30 1 a = S.1 30 1 a) (h16 : S'.2.2 16 = S.2.2 16) (h18 : S'.2.2 18 = S.2.2 18)
    (hM : ∀ k, 2 ≤ k ∧ k ≤ 9 ∨ k = 11 ∨ k = 25 ∨ k = 26 ∨ k = 34 ∨ k = 36 → M'.1 k = M.1 k) (hM0 : ∀ j, j = 0 ∨ j = 9 ∨ j = 23 ∨ j = 32 ∨ j = 34 → M'.1 0 0 j = M.1 0 0 j) : Inv n S' M' := by
  obtain ⟨⟨⟨a1, a2, a3⟩, a4, a5, a6⟩, b, c, d, e, f⟩ := I
  have e0 : cntM M' 0 = cntM M 0 := by unfold cntM; rw [hM0 0 (by omega)]
  have e9 : cntM M' 9 = cntM M 9 := by unfold cntM; rw [hM0 9 (by omega)]
  have hk : ∀ k, kG k → S'.1 k = S.1 k := fun k hk => hS k (Or.inl hk)
  have ho : ∀ k, k = 0 ∨ k = 2 ∨ k = 6 ∨ k = 10 ∨ k = 11 ∨ k = 17 ∨ k = 19 ∨ k = 33 → S'.1 k = S.1 k := fun k hk => hS k (Or.inr hk)
  refine ⟨⟨⟨by rw [e0]; exact a1, by rw [hM0 0 (by omega), e0]; exact a2, by rw [ho 6 (by omega), hM0 0 (by omega)]; exact a3⟩, fun x hx => ?_, fun x hx hx4 => ?_, fun x hx => ?_⟩, b.fr (Int.le_refl _) hk (by rw [ho 6 (by omega)]) h16 h18 (hM 11 (by omega)) (hM0 9 (by omega)) (Nat.le_of_eq e0.symm),
    c.fr b.2.1 (Int.le_refl _) hk (ho 2 (by omega)) (ho 17 (by omega)) h16 h18 (hM 26 (by omega)) (hM 25 (by omega)) (hM0 23 (by omega)) (Nat.le_of_eq e0.symm) (Nat.le_of_eq e9.symm), d.fr (by rw [ho 6 (by omega)]) (ho 33 (by omega)) (hM 34 (by omega)) (hM0 32 (by omega)), e.fr h3 (ho 19 (by omega)) (hM 36 (by omega)) (hM0 34 (by omega)), f.fr (hM 11 (by omega)) (hM 26 (by omega)) (hM 25 (by omega)) (hM0 9 (by omega)) (hM0 23 (by omega))⟩
  · rw [e0] at hx
    have h := a4 x hx
    unfold AxRel at h ⊢
    rw [ho 0 (by omega), ho 10 (by omega), ho 11 (by omega), (h30 x).1, hM 2 (by omega), hM 3 (by omega), hM 4 (by omega), hM 5 (by omega), hM 6 (by omega), hM 7 (by omega), hM 8 (by omega), hM 9 (by omega)]
    exact h
  · rw [e0] at hx
    rw [(h30 x).1, ho 0 (by omega), hM 6 (by omega)]
    exact a5 x hx hx4
  · rw [(h30 x).2]; exact a6 x hx
theorem Inv.sc0 {n : Nat} {S M S' M' : xS} (I : Inv n S M) (h : ScS S S') (h2 : ScM M M') : Inv n S' M' :=
  I.scr0 (fun k hk => h.1 k (by unfold kG at hk; omega) (by unfold kG at hk; omega) (by unfold kG at hk; omega)) (by rw [h.1 3 (by omega) (by omega) (by omega)]) h.2.1 (by rw [h.2.2]) (by rw [h.2.2])
    (fun k hk => h2.1 k (by omega) (by omega) (by omega) (by omega) (by omega) (by omega) (by omega)) (fun j hj => h2.2 j (by omega) (by omega))
def CtM (M M' : xS) (j : Nat) : Prop := (∀ k, k ≠ 12 → k ≠ 13 → M'.1 k = M.1 k) ∧ M'.2 = M.2 ∧ ∀ z, z < j → M'.1 12 0 z = nI (ptsOf M 7 z) ∧ M'.1 13 0 z = nI (ctsOf M 7 z)
theorem ctO_key {na gi : Nat} {r : Nat → Int32} (hR : RowOk na gi r) (c0 : r 0 = 0) {k : Nat} (hk : k < rN r) : nI (ctO r k) + r (52 + k) = nI (ctO r (k + 1)) := by
  cases k with
  | zero =>
    rw [(hR.2.2.2.2.1 c0).2 (by omega), nI_1]
    rfl
  | succ p =>
    show nI (cno r p + 1) + r (52 + (p + 1)) = nI (cno r p + (if r (52 + (p + 1)) = 1 then 1 else 0) + 1)
    rcases (hR.2.2.2.2.1 c0).1 (p + 1) (by omega) with h | h
    · rw [h, if_neg (by decide), nl0, nI_add]; try rfl
    · rw [h, if_pos rfl, nI_1]
theorem w7_counts {M : xS} {ng na : Nat} {Q : xS → Prop} (hn : ng ≤ 6) (h9 : M.1 0 0 9 = nI ng) (hR : ∀ z, z < ng → RowOk na z (mrow M z)) (k : ∀ M', CtM M M' ng → Q M') : wp_X7_countOutlines M Q := by
  unfold wp_X7_countOutlines
  refine wl1 (wp_X7_countOutlines_2 Q) (fun K => wp_X7_countOutlines_2_b K Q) (fun _ _ _ => rfl) (fun M' v => ∃ j, j ≤ ng ∧ v = nI j ∧ CtM M M' j) (fun _ v => 10 - v.toNatClampNeg) ⟨0, by omega, rfl, fun _ _ _ => rfl, rfl, fun z h => by omega⟩ ?_
  rintro M' v K ⟨j, hj, rfl, hC⟩ hK
  unfold wp_X7_countOutlines_2_b
  rw [hC.1 0 (by omega) (by omega), h9]
  by_cases c : j = ng
  · subst c; exact gt (by rw [vv_le (by omega) (by omega)]; omega) (k M' hC)
  · have hRj := hR j (by omega)
    have hN := hRj.2.1.1
    have row : ∀ M'' : xS, (∀ k, k ≠ 12 → k ≠ 13 → M''.1 k = M.1 k) → ∀ z, mrow M'' z = mrow M z := fun M'' h z => by unfold mrow; rw [h 11 (by omega) (by omega)]
    have row2 : ∀ (M'' : xS) (p : Int32), (∀ k, k ≠ 12 → k ≠ 13 → M''.1 k = M.1 k) → mrow (xI M'' 12 0 j p) j = mrow M j := fun M'' p h => by unfold mrow; rw [xI_k (by omega), h 11 (by omega) (by omega)]
    have hin := vv_in (k := j) (N := 6) (by omega) (by omega)
    refine gf (by rw [vv_le (by omega) (by omega)]; omega) (v7_of rfl nl0 (by omega) (by omega) ?_)
    rw [row M' hC.1]
    obtain ⟨f1, f2⟩ := fuel_s hn hR 7 j (by omega) (by omega)
    rw [ptsOf_s] at f1
    have f2' : (if mrow M j 0 = 1 then sumR (fun c => ctsOf M 7 (chd M j c)) (rN (mrow M j)) else ctO (mrow M j) (rN (mrow M j))) = ctsOf M 7 j := f2
    have main : ∀ (s v2 : Int32), (mrow M j 0 = 1 → s = 0 ∧ v2 = 0) → (mrow M j 0 = 0 → s = nI (rN (mrow M j)) ∧ v2 = 1) → wp_X7_countOutlines_44 K Q M' (nI j) v2 (nI j) s := by
      intro s v2 hc1 hc0
      unfold wp_X7_countOutlines_44
      refine ⟨hin, hin, ?_⟩
      rw [vv_clI (k := j) (by omega)]
      refine wl3 (wp_X7_countOutlines_54 K Q) (fun K54 => wp_X7_countOutlines_54_b K K54 Q) (fun _ _ _ _ _ => rfl)
        (fun M'' a b d => a = nI j ∧ b = v2 ∧ ∃ i, i ≤ rN (mrow M j) ∧ d = nI i ∧ CtM M M'' j ∧ M''.1 12 0 j = nI (if mrow M j 0 = 1 then sumR (fun c => ptsOf M 7 (chd M j c)) i else rN (mrow M j)) ∧ M''.1 13 0 j = nI (if mrow M j 0 = 1 then sumR (fun c => ctsOf M 7 (chd M j c)) i else ctO (mrow M j) i))
        (fun _ _ _ d => 50 - d.toNatClampNeg) ⟨rfl, rfl, 0, by omega, rfl, ⟨fun k q1 q2 => by rw [xI_k q2, xI_k q1]; exact hC.1 k q1 q2, hC.2.1, fun z hz => ?_⟩, ?_, ?_⟩ ?_
      · rw [xI_k (by omega), xI_1, if_neg (by omega), xI_1, if_neg (by omega), xI_k (by omega)]
        exact hC.2.2 z hz
      · rw [xI_k (by omega), xI_s]
        rcases hRj.1 with h | h
        · rw [(hc0 h).1, if_neg (by rw [h]; decide)]
        · rw [(hc1 h).1, if_pos h]; rfl
      · rw [xI_s]
        split <;> rfl
      · rintro M'' a b d K54 ⟨rfl, rfl, i, hi, rfl, hC2, h12, h13⟩ hK54
        unfold wp_X7_countOutlines_54_b wp_X7_countOutlines_93 wp_X7_countOutlines_132
        refine v7_of rfl nl2 (by omega) (by omega) ?_
        rw [row M'' hC2.1, hRj.2.1.2]
        by_cases ci : i = rN (mrow M j)
        · subst ci
          refine gt (by rw [vv_le (by omega) (by omega)]; omega) ?_
          rw [nI_1]
          rw [f1] at h12
          rw [f2'] at h13
          refine hK _ _ ⟨j + 1, by omega, rfl, hC2.1, hC2.2.1, fun z hz => ?_⟩ (by rw [vv_clI (by omega), vv_clI (by omega)]; omega)
          by_cases ez : z = j
          · rw [ez]; exact ⟨h12, h13⟩
          · exact hC2.2.2 z (by omega)
        · refine gf (by rw [vv_le (by omega) (by omega)]; omega) ⟨hin, ?_⟩
          rw [vv_clI (k := j) (by omega), h12, nI_1]
          have mu : 50 - (nI (i + 1)).toNatClampNeg < 50 - (nI i).toNatClampNeg := by rw [vv_clI (by omega), vv_clI (by omega)]; omega
          have cm : ∀ p q : Int32, CtM M (xI (xI M'' 12 0 j p) 13 0 j q) j := fun p q => ⟨fun k q1 q2 => by rw [xI_k q2, xI_k q1]; exact hC2.1 k q1 q2, hC2.2.1, fun z hz => by
            rw [xI_k (by omega), xI_1, if_neg (by omega), xI_1, if_neg (by omega), xI_k (by omega)]
            exact hC2.2.2 z hz⟩
          rcases hRj.1 with h | h
          · have h1 : ¬ mrow M j 0 = 1 := by rw [h]; decide
            obtain ⟨rfl, rfl⟩ := hc0 h
            rw [if_neg h1] at h12 h13
            rw [if_neg h1]
            refine gf (by decide) ⟨hin, hin, gf (by decide) (v7_of (y := 52 + i) rfl (by rw [nl52, nI_add]) (by omega) (by omega) ⟨hin, ?_⟩)⟩
            rw [row2 M'' _ hC2.1, xI_k (by omega), h13, nl0, nI_add, Nat.add_zero, ctO_key hRj h (by omega)]
            refine hK54 _ _ _ _ ⟨rfl, rfl, i + 1, by omega, rfl, cm _ _, ?_, ?_⟩ mu
            · rw [xI_k (by omega), xI_s, if_neg h1]
            · rw [xI_s, if_neg h1]
          · obtain ⟨rfl, rfl⟩ := hc1 h
            obtain ⟨q1, q2⟩ := chd_lt (by omega) hRj h (c := i) (by omega)
            rw [if_pos h] at h12 h13
            rw [if_pos h]
            obtain ⟨p1, p2⟩ := hC2.2.2 (chd M j i) q1
            have hin2 := vv_in (k := chd M j i) (N := 6) (by omega) (by omega)
            refine gt rfl (v7_of (y := 52 + i) rfl (by rw [nl52, nI_add]) (by omega) (by omega) ?_)
            rw [row M'' hC2.1, q2]
            refine ⟨hin2, hin, hin, gt rfl (v7_of (y := 52 + i) rfl (by rw [nl52, nI_add]) (by omega) (by omega) ?_)⟩
            rw [row2 M'' _ hC2.1, q2]
            refine ⟨hin2, hin, ?_⟩
            rw [vv_clI (k := chd M j i) (by omega), xI_k (k' := 13) (by omega), h13, p1, p2, nI_add, nI_add]
            refine hK54 _ _ _ _ ⟨rfl, rfl, i + 1, by omega, rfl, cm _ _, ?_, ?_⟩ mu
            · rw [xI_k (by omega), xI_s, if_pos h]; rfl
            · rw [xI_s, if_pos h]; rfl
    unfold wp_X7_countOutlines_24
    rcases hRj.1 with h | h
    · refine gt h (gf (by decide) (v7_of rfl nl2 (by omega) (by omega) ?_))
      rw [row M' hC.1, hRj.2.1.2]
      exact main _ _ (fun h1 => by rw [h] at h1; exact absurd h1 (by decide)) (fun _ => ⟨rfl, rfl⟩)
    · exact gf (by rw [h]; decide) (gt rfl (main _ _ (fun _ => ⟨rfl, rfl⟩) (fun h1 => by rw [h] at h1; exact absurd h1 (by decide))))
theorem CtM.sc {M M' : xS} {j : Nat} (h : CtM M M' j) : ScM M M' := ⟨fun k _ q1 q2 _ _ _ _ => h.1 k q1 q2, fun z _ _ => by rw [h.1 0 (by omega) (by omega)]⟩
theorem op_glyphValue {n : Nat} {S M : xS} {K : xS → xS → Prop} (I : Inv n S M) (hn : n ≤ 600) (a b : Int32) (hK : ∀ S' M', Inv (n + 1) S' M' → K S' M') :
    wp_X6_glyphValue a b S (fun r1 S1 => wp_X7_glyphValue a b M (fun r2 M1 => if r1 = r2 then K S1 M1 else False)) := by
  obtain ⟨⟨b1, b2, b3⟩, b4, b5, b6⟩ := I.2.1
  have hS1 := b3.trans b2
  by_cases ca : 0 ≤ a.toInt ∧ a.toInt < cntM M 9
  rotate_left
  · exact op_of (w6 := wp_X6_glyphValue a b S) (w7 := wp_X7_glyphValue a b M) (r := -1000002) (fun Q k => v6_hasGlyph_f b1 hS1 ca (g0 k)) (fun Q k => v7_noGlyph_f b1 b2 ca (g1 k)) (hK _ _ I.next)
  obtain ⟨g, rfl, eg, hgg⟩ := vv_nat ca.1
  have hg : g < cntM M 9 := by omega
  obtain ⟨d1, d2, d3⟩ := b5 g hg
  obtain ⟨o1, o2, o3, o4, o5⟩ := dwA_ok I hn hg
  have hin := vv_in (k := g) (N := 6) (by omega) (by omega)
  have p7 : ∀ (x : Int32) (Q : Int32 → xS → Prop), (∀ M', CtM M M' (cntM M 9) → (if b = 0 then mrow M g 0 else if b = 1 then mrow M g 2 else if b = 2 then nI (ctsOf M 7 g) else if b = 3 then nI (ptsOf M 7 g) else if b = 4 then mrow M g 3 else if b = 5 then mrow M g 1 else -1000005) = x) → (∀ M', CtM M M' (cntM M 9) → Q x M') → wp_X7_glyphValue (nI g) b M Q := by
    intro x Q hx k
    refine v7_noGlyph_t b1 b2 hg (g0 (w7_counts b1 b2 (fun z hz => (b5 z hz).2.1) (fun M' hM => ?_)))
    have er : mrow M' g = mrow M g := by unfold mrow; rw [hM.1 11 (by omega) (by omega)]
    have hx := hx M' hM
    have k := k M' hM
    obtain ⟨p1, p2⟩ := hM.2.2 g hg
    rw [vv_clI (k := g) (by omega), p1, p2]
    by_cases c0 : b = 0
    · rw [if_pos c0] at hx; exact gt c0 (v7_of rfl nl0 (by omega) (by omega) (by rw [er, hx]; exact k))
    rw [if_neg c0] at hx
    refine gf c0 ?_
    by_cases c1 : b = 1
    · rw [if_pos c1] at hx; exact gt c1 (v7_of rfl nl2 (by omega) (by omega) (by rw [er, hx]; exact k))
    rw [if_neg c1] at hx
    refine gf c1 ?_
    by_cases c2 : b = 2
    · rw [if_pos c2] at hx; exact gt c2 ⟨hin, by rw [hx]; exact k⟩
    rw [if_neg c2] at hx
    refine gf c2 ?_
    by_cases c3 : b = 3
    · rw [if_pos c3] at hx; exact gt c3 ⟨hin, by rw [hx]; exact k⟩
    rw [if_neg c3] at hx
    refine gf c3 ?_
    by_cases c4 : b = 4
    · rw [if_pos c4] at hx; exact gt c4 (v7_of rfl nl3 (by omega) (by omega) (by rw [er, hx]; exact k))
    rw [if_neg c4] at hx
    refine gf c4 ?_
    by_cases c5 : b = 5
    · rw [if_pos c5] at hx; exact gt c5 (v7_of rfl nl1 (by omega) (by omega) (by rw [er, hx]; exact k))
    rw [if_neg c5] at hx
    exact gf c5 (by rw [hx]; exact k)
  refine v6_hasGlyph_t b1 hS1 hg (g1 ⟨hin, ?_⟩)
  rw [vv_clI (by omega), d1.1, d1.2.1, d1.2.2.1]
  have fin : ∀ x, (if b = 0 then mrow M g 0 else if b = 1 then mrow M g 2 else if b = 2 then nI (ctsOf M 7 g) else if b = 3 then nI (ptsOf M 7 g) else if b = 4 then mrow M g 3 else if b = 5 then mrow M g 1 else -1000005) = x → wp_X7_glyphValue (nI g) b M (fun r2 M1 => if x = r2 then K S M1 else False) := fun x hx => p7 x _ (fun _ _ => hx) (fun M' hM => gt rfl (hK _ _ (I.sc (ScS.refl S) hM.sc)))
  have fin2 : ∀ (x : Int32) S', OutS S S' 0 (dwA S M g) → (if b = 0 then mrow M g 0 else if b = 1 then mrow M g 2 else if b = 2 then nI (ctsOf M 7 g) else if b = 3 then nI (ptsOf M 7 g) else if b = 4 then mrow M g 3 else if b = 5 then mrow M g 1 else -1000005) = x → wp_X7_glyphValue (nI g) b M (fun r2 M1 => if x = r2 then K S' M1 else False) := fun x S' hO hx => p7 x _ (fun _ _ => hx) (fun M' hM => gt rfl (hK _ _ (I.sc hO.sc hM.sc)))
  by_cases c0 : b = 0
  · refine gt c0 ?_
    rcases d2.1 with h | h
    · exact gt h (fin 0 (by rw [if_pos c0]; exact h))
    · exact gf (by rw [h]; decide) (fin 1 (by rw [if_pos c0]; exact h))
  refine gf c0 ?_
  by_cases c1 : b = 1
  · exact gt c1 (fin _ (by rw [if_neg c0, if_pos c1]))
  refine gf c1 ?_
  by_cases c2 : b = 2
  · refine gt c2 (drawn_6 I hn hg (fun S' hO _ => ?_))
    rw [hO.2.2.2.2.1, o5]
    exact fin2 _ S' hO (by rw [if_neg c0, if_neg c1, if_pos c2])
  refine gf c2 ?_
  by_cases c3 : b = 3
  · refine gt c3 (drawn_6 I hn hg (fun S' hO _ => ?_))
    rw [hO.2.2.2.1, o4]
    exact fin2 _ S' hO (by rw [if_neg c0, if_neg c1, if_neg c2, if_pos c3])
  refine gf c3 ?_
  by_cases c4 : b = 4
  · exact gt c4 (fin _ (by rw [if_neg c0, if_neg c1, if_neg c2, if_neg c3, if_pos c4]))
  refine gf c4 ?_
  by_cases c5 : b = 5
  · refine gt c5 ⟨vv_in (k := 0) (by omega) (by omega), ?_⟩
    exact fin _ (by rw [if_neg c0, if_neg c1, if_neg c2, if_neg c3, if_neg c4, if_pos c5]; exact d1.2.2.2.1.symm)
  · exact gf c5 (fin _ (by rw [if_neg c0, if_neg c1, if_neg c2, if_neg c3, if_neg c4, if_neg c5]))
