theorem jn_bd {P : Int} {na gi e t : Nat} {r X Y : Nat → Int32} (hP : P ≤ PP) (hR : RowOk na gi r) (hB : Bd P r) (he : e < t) (ht : t < rT r) (hX : ∀ s, inS (rN r) s = true → X s = dX r e s + dX r t s ∧ Y s = dY r e s + dY r t s) : Bd P (rmR (upT r e (wrB r e X Y)) t (rT r)) := by
  have hN := hR.2.1.1
  have hT5 := hR.2.2.2.1.1
  have hbp := hB.p hP hT5
  have hO := hR.2.2.2.2.2.2 e (by omega)
  obtain ⟨B, D, f1, f2, f3, f4, f5, f6⟩ := hB
  have hD := Bd.le5 (r := r) f1 f2 f3
  have T3 : rT (upT r e (wrB r e X Y)) = rT r := up_T
  have ev : ∀ j s, j + 1 < rT r → s < 25 → fl (rmR (upT r e (wrB r e X Y)) t (rT r)) j s = fl (upT r e (wrB r e X Y)) (if j < t then j else j + 1) s ∧ dlx (rmR (upT r e (wrB r e X Y)) t (rT r)) j s = dlx (upT r e (wrB r e X Y)) (if j < t then j else j + 1) s ∧ dly (rmR (upT r e (wrB r e X Y)) t (rT r)) j s = dly (upT r e (wrB r e X Y)) (if j < t then j else j + 1) s := fun j s hj hs => by
    unfold fl dlx dly
    rw [Nat.add_assoc (tb j), Nat.add_assoc (tb j), Nat.add_assoc (tb j), rm_tup hj (by omega), rm_tup hj (by omega), rm_tup hj (by omega)]
    simp only [← Nat.add_assoc]
    exact ⟨trivial, trivial, trivial⟩
  have on : ∀ j s, j ≠ e → s < 25 → fl (upT r e (wrB r e X Y)) j s = fl r j s ∧ dlx (upT r e (wrB r e X Y)) j s = dlx r j s ∧ dly (upT r e (wrB r e X Y)) j s = dly r j s := fun j s hj hs => by
    unfold fl dlx dly
    rw [Nat.add_assoc (tb j), Nat.add_assoc (tb j), Nat.add_assoc (tb j), up_ne (by omega) hj, up_ne (by omega) hj, up_ne (by omega) hj]
    exact ⟨rfl, rfl, rfl⟩
  refine ⟨B, fun j => if j < t then (if j = e then D e + D t else D j) else if j < 4 then D (j + 1) else 0, f1, fun j => ?_, ?_, by rw [rm_lo (by omega) (by omega), up_low (by omega)]; exact f4, fun p hp => ?_, fun j hj s hs hf => ?_⟩
  · have a1 := f2 e
    have a2 := f2 t
    have a3 := f2 j
    have a4 := f2 (j + 1)
    show 0 ≤ if j < t then (if j = e then D e + D t else D j) else if j < 4 then D (j + 1) else 0
    split
    · split <;> omega
    · split <;> omega
  · have a0 := f2 0
    have a1 := f2 1
    have a2 := f2 2
    have a3 := f2 3
    have a4 := f2 4
    have ht5 : t = 1 ∨ t = 2 ∨ t = 3 ∨ t = 4 := by omega
    have he5 : e = 0 ∨ e = 1 ∨ e = 2 ∨ e = 3 := by omega
    rcases ht5 with rfl | rfl | rfl | rfl <;> rcases he5 with rfl | rfl | rfl | rfl <;> simp <;> omega
  · rw [rm_N, up_N] at hp
    rw [rm_lo (by omega) (by omega), rm_lo (by omega) (by omega), up_low (by omega), up_low (by omega)]; exact f5 p hp
  · rw [rm_T hT5] at hj
    obtain ⟨e1, e2, e3⟩ := ev j s (by omega) hs
    rw [e1] at hf
    rw [e2, e3]
    show rng _ (-(if j < t then (if j = e then D e + D t else D j) else if j < 4 then D (j + 1) else 0)) (if j < t then (if j = e then D e + D t else D j) else if j < 4 then D (j + 1) else 0) ∧ rng _ (-(if j < t then (if j = e then D e + D t else D j) else if j < 4 then D (j + 1) else 0)) (if j < t then (if j = e then D e + D t else D j) else if j < 4 then D (j + 1) else 0)
    by_cases c : j < t
    · rw [if_pos c] at hf ⊢
      rw [if_pos c]
      by_cases c2 : j = e
      · subst c2
        rw [if_pos rfl]
        rw [wr_fl hs] at hf
        rw [wr_dx hs, wr_dy hs]
        cases hi : inS (rN r) s
        · rw [hi, if_neg (by decide)] at hf
          have hns : ¬ (s < rN r ∨ s = 24) := fun h => by rw [inS_iff.mpr h] at hi; exact absurd hi (by decide)
          rw [hO.2.2.2.1 s (by omega) (by omega)] at hf
          exact absurd hf (by decide)
        · rw [if_pos rfl, if_pos rfl, (hX s hi).1, (hX s hi).2]
          have hs' := inS_iff.mp hi
          have d1 := hD.2 j (by omega)
          have d2 := hD.2 t (by omega)
          have b1 : ∀ v, rng (dvV r j s v) (-(D j)) (D j) := fun v => dv_rng hbp hN hs' (f2 j) (by omega) (f6 j (by omega))
          have b2 : ∀ v, rng (dvV r t s v) (-(D t)) (D t) := fun v => dv_rng hbp hN hs' (f2 t) (by omega) (f6 t ht)
          have add : ∀ a b : Int32, rng a (-(D j)) (D j) → rng b (-(D t)) (D t) → rng (a + b) (-(D j + D t)) (D j + D t) := fun a b ha hb => by
            unfold rng PP at *
            rw [i32_add (by omega) (by omega)]
            omega
          exact ⟨add _ _ (b1 0) (b2 0), add _ _ (b1 1) (b2 1)⟩
      · rw [if_neg c2]
        obtain ⟨o1, o2, o3⟩ := on j s c2 hs
        rw [o1] at hf
        rw [o2, o3]
        exact f6 j (by omega) s hs hf
    · rw [if_neg c] at hf ⊢
      rw [if_neg c, if_pos (by omega)]
      obtain ⟨o1, o2, o3⟩ := on (j + 1) s (by omega) hs
      rw [o1] at hf
      rw [o2, o3]
      exact f6 (j + 1) (by omega) s hs hf
theorem w7_merge {M : xS} {g na gi : Nat} {P : Int} {r : Nat → Int32} (hg : g < 6) (hr : mrow M g = r) (hP : P ≤ PP) (hR : RowOk na gi r) (hB : Bd P r) {Q : Int32 → xS → Prop}
    (k : ∀ M', MFr M M' g → (∀ y, y < 76 → y ≠ 3 → r y = mrow M' g y) → tl (mrow M' g) = fin r → RowOk na gi (mrow M' g) → Bd P (mrow M' g) → Q (nI (rT r) - nI (fin r).length) M') : ∃ n, wp_X7_merge_20 (nI g) Q n M 0 1 := by
  have hT5 := hR.2.2.2.1.1
  have hN := hR.2.1.1
  refine wl2 (wp_X7_merge_20 (nI g) Q) (fun K => wp_X7_merge_20_b (nI g) K Q) (fun _ _ _ _ => rfl)
    (fun M' a b => ∃ (t c : Nat) (acc rest : List (Nat → Int32)), a = nI c ∧ b = nI t ∧ c + rT (mrow M' g) = rT r ∧ 1 ≤ t ∧ t ≤ 5 ∧ (acc.length = t ∨ (rT (mrow M' g) = 0 ∧ fin r = [])) ∧ tl (mrow M' g) = acc ++ rest ∧ foB sameK (jnL r) acc rest = fin r ∧ MFr M M' g ∧ (∀ y, y < 76 → y ≠ 3 → r y = mrow M' g y) ∧ RowOk na gi (mrow M' g) ∧ Bd P (mrow M' g))
    (fun M' _ b => rT (mrow M' g) - b.toNatClampNeg) ?_ ?_
  · have e1 : tl (mrow M g) = tl r := by rw [hr]
    cases hl : tl r with
    | nil =>
      have h0 : rT r = 0 := by rw [← tl_len r, hl]; rfl
      exact ⟨1, 0, [], [], rfl, rfl, by rw [hr]; omega, by omega, by omega, Or.inr ⟨by rw [hr]; exact h0, by unfold fin; rw [hl]; rfl⟩, by rw [e1, hl]; rfl, by unfold fin; rw [hl], MFr.refl _ _, fun _ _ _ => by rw [hr], by rw [hr]; exact hR, by rw [hr]; exact hB⟩
    | cons x l =>
      exact ⟨1, 0, [x], l, rfl, rfl, by rw [hr]; omega, by omega, by omega, Or.inl rfl, by rw [e1, hl]; rfl, by unfold fin; rw [hl]; rfl, MFr.refl _ _, fun _ _ _ => by rw [hr], by rw [hr]; exact hR, by rw [hr]; exact hB⟩
  rintro M' a b K ⟨t, c, acc, rest, rfl, rfl, hc, h1, h5, hacc, htl, hfo, hfr, hlow, hR', hB'⟩ hK
  have hT5' := hR'.2.2.2.1.1
  have hN' := hR'.2.1.1
  have hlen : rT (mrow M' g) = acc.length + rest.length := by rw [← tl_len (mrow M' g), htl, List.length_append]
  unfold wp_X7_merge_20_b
  refine v7_of rfl nl3 hg (by omega) ?_
  rw [hR'.2.2.2.1.2]
  by_cases ce : rT (mrow M' g) ≤ t
  · refine gt (by rw [vv_le (by omega) (by omega)]; exact ce) ?_
    have hf : tl (mrow M' g) = fin r := by
      rcases hacc with h | ⟨h, h2⟩
      · have : rest = [] := List.eq_nil_of_length_eq_zero (by omega)
        subst this
        rw [htl, List.append_nil]
        exact hfo
      · rw [h2]
        exact List.eq_nil_of_length_eq_zero (by rw [tl_len]; exact h)
    have := k M' hfr hlow hf hR' hB'
    have hl : (fin r).length = rT (mrow M' g) := by rw [← hf, tl_len]
    rw [hl, vv_sub (by omega) (by omega), show rT r - rT (mrow M' g) = c by omega] at this
    exact this
  · have hal : acc.length = t := by
      rcases hacc with h | ⟨h, _⟩
      · exact h
      · omega
    have ht : t < rT (mrow M' g) := by omega
    refine gf (by rw [vv_le (by omega) (by omega)]; exact ce) ?_
    cases rest with
    | nil => simp at hlen; omega
    | cons u rest =>
    have gp : ∀ z, z < t → acc[z]? = some (blk (mrow M' g) z) := fun z hz => by
      rw [← tl_get (r := mrow M' g) (by omega), htl, List.getElem?_append_left (by omega)]
    have gu : u = blk (mrow M' g) t := by
      have := tl_get ht
      rw [htl, List.getElem?_append_right (by omega), hal, Nat.sub_self] at this
      exact Option.some.inj this
    have hfo2 : foB sameK (jnL r) (insB sameK (jnL r) acc u) rest = fin r := hfo
    refine wl3 (wp_X7_merge_33 (nI g) K Q) (fun K33 => wp_X7_merge_33_b (nI g) K K33 Q) (fun _ _ _ _ _ => rfl)
      (fun M'' v2 v3 v4 => M'' = M' ∧ v2 = nI c ∧ v3 = nI t ∧ ∃ e, e ≤ t ∧ v4 = nI e ∧ ∀ j, j < e → sameK (blk (mrow M' g) t) (blk (mrow M' g) j) = false) (fun _ _ _ v => 50 - v.toNatClampNeg) ⟨rfl, rfl, rfl, 0, by omega, rfl, fun j h => by omega⟩ ?_
    rintro M'' v2 v3 v4 K33 ⟨rfl, rfl, rfl, e, he, rfl, hno⟩ hK33
    unfold wp_X7_merge_33_b wp_X7_merge_56 wp_X7_merge_79
    by_cases c1 : e = t
    · subst c1
      refine gt (by rw [vv_le (by omega) (by omega)]; omega) (gt (by rw [vv_le (by omega) (by omega)]; omega) ?_)
      rw [nI_1]
      have hm : mtB sameK acc u = false := mt_none (fun z x hz => by
        have hzl : z < e := by
          by_cases q : z < e
          · exact q
          · rw [List.getElem?_eq_none (by omega)] at hz; exact absurd hz (by simp)
        rw [gp z hzl] at hz
        rw [← Option.some.inj hz, gu, sameK_symm]
        exact hno z hzl)
      rw [insB_no hm] at hfo2
      refine hK _ _ _ ⟨e + 1, c, acc ++ [u], rest, rfl, rfl, hc, by omega, by omega, Or.inl (by rw [List.length_append, hal]; rfl), by rw [htl, List.append_assoc]; rfl, hfo2, hfr, hlow, hR', hB'⟩ ?_
      rw [vv_clI (by omega), vv_clI (by omega)]
      omega
    · refine gf (by rw [vv_le (by omega) (by omega)]; omega) (w7_isSame hg (by omega) (by omega) ?_)
      cases hs : sameK (blk (mrow M'' g) t) (blk (mrow M'' g) e)
      · refine gt rfl ?_
        rw [nI_1]
        refine hK33 _ _ _ _ ⟨rfl, rfl, rfl, e + 1, by omega, rfl, fun j hj => ?_⟩ (by rw [vv_clI (by omega), vv_clI (by omega)]; omega)
        by_cases q : j = e
        · rw [q]; exact hs
        · exact hno j (by omega)
      · refine gf (by decide) (gf (by rw [vv_le (by omega) (by omega)]; omega) (w7_joins hg hR' (hB'.p hP hT5') (by omega) ht (fun M3 X Y fr3 hX er3 => ?_)))
        rw [nI_1]
        have hO := hR'.2.2.2.2.2.2 e (by omega)
        have hOt := hR'.2.2.2.2.2.2 t ht
        have hR3 : RowOk na gi (upT (mrow M'' g) e (wrB (mrow M'' g) e X Y)) := up_ok hR' (by omega) (wr_tup hN' hO (by
          rw [(hX 24 (inS_iff.mpr (Or.inr rfl))).2, dY24 hO, dY24 hOt]; rfl))
        have hs2 : sameK (blk (mrow M'' g) e) (blk (mrow M'' g) t) = true := by rw [sameK_symm]; exact hs
        have hno2 : ∀ j, j < e → sameK (blk (mrow M'' g) j) (blk (mrow M'' g) t) = false := fun j hj => by rw [sameK_symm]; exact hno j hj
        have tl3 : tl (mrow M3 g) = insB sameK (jnL r) acc u ++ rest := by
          rw [er3]
          exact jn_tl hT5' ht (by omega) up_T (by rw [blk_up (fun x hx => wrB_hi hx)]; exact wr_jn hN' hlow hX) (fun j q1 _ => blk_ne q1) htl hal hs2 hno2
        have T3 : rT (mrow M3 g) = rT (mrow M'' g) - 1 := by rw [er3]; exact rm_T hT5'
        refine hK _ _ _ ⟨t, c + 1, insB sameK (jnL r) acc u, rest, rfl, rfl, by omega, h1, h5, Or.inl ?_, tl3, hfo2, hfr.trans fr3, fun y hy h3 => ?_, ?_, ?_⟩ ?_
        · rw [(ins_at (same := sameK) (jn := jnL r) (u := u) (gp e (by omega)) (by rw [gu]; exact hs2) (fun z y hz hy => by
            rw [gp z (by omega)] at hy
            rw [← Option.some.inj hy, gu]
            exact hno2 z hz)).1]
          exact hal
        · rw [er3, rm_lo hy h3, up_low hy]; exact hlow y hy h3
        · rw [er3, ← up_T (r := mrow M'' g) (t := e) (b := wrB (mrow M'' g) e X Y)]
          exact rm_ok hR3 rfl (by rw [up_T]; exact ht)
        · rw [er3]; exact jn_bd hP hR' hB' (by omega) ht hX
        · rw [T3, vv_clI (by omega)]
          omega
theorem gl_tl {S : xS} {G na gi : Nat} {r r' : Nat → Int32} (h : Gd S G na gi r) (hlow : ∀ y, y < 76 → y ≠ 3 → r' y = r y) (ht : tl r' = tl r) (h3 : r' 3 = nI (rT r')) : GlRel S G r' := by
  obtain ⟨hG, hR, hP⟩ := h
  have hN := hR.2.1.1
  obtain ⟨e1, e2, e3, e4, e5, e6, e7, e8, e9⟩ := hG
  have eN : rN r' = rN r := rN_fr (hlow 2 (by omega) (by omega))
  have eT : rT r' = rT r := by rw [← tl_len r', ht, tl_len]
  have eb : ∀ t, t < rT r → ∀ x, x < 87 → r' (tb t + x) = r (tb t + x) := fun t htT x hx => by
    have h1 := tl_get (r := r) htT
    rw [← ht, tl_get (by omega)] at h1
    have h2 := congrFun (Option.some.inj h1) x
    unfold blk at h2
    rw [if_pos hx, if_pos hx] at h2
    exact h2
  unfold GlRel
  rw [eN, eT, hlow 0 (by omega) (by omega), hlow 1 (by omega) (by omega), hlow 2 (by omega) (by omega)]
  refine ⟨e1, e2, by rw [h3, eT]; exact e3.trans hR.2.2.2.1.2, e4, e5, fun p hp => ?_, fun hz p hp => ?_, fun hz c hc => ?_, fun t htT => ?_⟩
  · rw [hlow (4 + p) (by omega) (by omega), hlow (28 + p) (by omega) (by omega)]; exact e6 p hp
  · rw [cno_low p (by omega) hlow]; exact e7 hz p hp
  · rw [hlow (52 + c) (by omega) (by omega)]; exact e8 hz c hc
  · refine (e9 t htT).fr2 (fun _ _ => rfl) (fun x h1 h2 => ?_)
    obtain ⟨d, rfl⟩ : ∃ d, x = tb t + d := ⟨x - tb t, by omega⟩
    exact eb t htT d (by omega)
theorem op_merge {n : Nat} {S M : xS} {K : xS → xS → Prop} (I : Inv n S M) (hn : n ≤ 600) (a : Int32) (hK : ∀ S' M', Inv (n + 1) S' M' → K S' M') :
    wp_X6_merge a S (fun r1 S1 => wp_X7_merge a M (fun r2 M1 => if r1 = r2 then K S1 M1 else False)) := by
  obtain ⟨⟨b1, b2, b3⟩, b4, b5, b6⟩ := I.2.1
  have hS1 := b3.trans b2
  unfold wp_X6_merge wp_X7_merge
  by_cases c : 0 ≤ a.toInt ∧ a.toInt < cntM M 9
  rotate_left
  · exact v6_hasGlyph_f b1 hS1 c (g0 (v7_noGlyph_f b1 b2 c (g1 (ge (hK _ _ I.next)))))
  obtain ⟨g, rfl, eg, hg⟩ := vv_nat c.1
  have hg9 : g < cntM M 9 := by omega
  obtain ⟨d1, d2, d3⟩ := b5 g hg9
  have hT5 := d2.2.2.2.1.1
  have hin := vv_in (k := g) (N := 6) (by omega) (by omega)
  have hP : PN n ≤ PP := by unfold PN PP; omega
  refine v6_hasGlyph_t b1 hS1 hg9 (g1 ⟨hin, ?_⟩)
  rw [vv_clI (by omega)]
  refine v2_remember I hg9 (fun S' hR hG hp => ⟨hin, ?_⟩)
  refine w1_merge (by omega) ⟨hG, d2, hp⟩ (fun S'' r' f1 f2 low tl1 => ?_)
  refine v7_noGlyph_t b1 b2 hg9 (g0 (v7_keeps I hg9 (fun M' hM => ?_)))
  have I' := keep_inv I hg9 hR hM
  have er := hM.row g
  have e0 : cntM M' 0 = cntM M 0 := by unfold cntM; rw [hM.2.1 0 (by omega)]
  have e9 : cntM M' 9 = cntM M 9 := by unfold cntM; rw [hM.2.1 9 (by omega)]
  refine w7_merge (r := mrow M g) (na := cntM M 0) (gi := g) (P := PN n) (by omega) er hP d2 d3 (fun M'' q1 q2 q3 q4 q5 => gt rfl (hK _ _ ?_))
  have lowr : ∀ y, y < 76 → y ≠ 3 → mrow M'' g y = r' y := fun y hy h3 => (q2 y hy h3).symm.trans (low y hy h3)
  have gg := gl_tl f2 lowr (q3.trans tl1.symm) q4.2.2.2.1.2
  refine I'.gl (by rw [e9]; exact hg9) f1 q1 f2.2.2 gg (by rw [e0]; exact q4) (q5.fr (PN_le n) q4.2.1.1 q4.2.2.2.1.1 (fun _ _ => rfl)) ?_ ?_ (fun c hc => ?_)
  · rw [er]; exact (q2 0 (by omega) (by omega)).symm
  · rw [er]; exact (q2 2 (by omega) (by omega)).symm
  · have := d2.2.1.1
    rw [er] at hc
    rw [er]; exact (q2 (52 + c) (by omega) (by omega)).symm
