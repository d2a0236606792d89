theorem cno_le {r : Nat → Int32} : ∀ p, cno r p ≤ p
  | 0 => Nat.le_refl 0
  | p + 1 => by
    have := cno_le (r := r) p
    show cno r p + (if r (52 + (p + 1)) = 1 then 1 else 0) ≤ p + 1
    split <;> omega
def BdP (r : Nat → Int32) : Prop := rng (r 1) (-PP) PP ∧ (∀ p, p < rN r → rng (r (4 + p)) (-PP) PP ∧ rng (r (28 + p)) (-PP) PP) ∧ (∀ t, t < rT r → ∀ s, s < 25 → fl r t s = 1 → rng (dlx r t s) (-PP) PP ∧ rng (dly r t s) (-PP) PP)
theorem rng_mono {x : Int32} {a b c d : Int} (h : rng x a b) (h1 : c ≤ a) (h2 : b ≤ d) : rng x c d := ⟨by have := h.1; omega, by have := h.2; omega⟩
theorem Bd.le5 {P : Int} {r : Nat → Int32} {B : Int} {D : Nat → Int} (h1 : 4000 ≤ B) (h2 : ∀ t, 0 ≤ D t) (h3 : B + D 0 + D 1 + D 2 + D 3 + D 4 ≤ P) : B ≤ P ∧ ∀ t, t < 5 → D t ≤ P - 4000 := by
  have a0 := h2 0
  have a1 := h2 1
  have a2 := h2 2
  have a3 := h2 3
  have a4 := h2 4
  refine ⟨by omega, fun t ht => ?_⟩
  have : t = 0 ∨ t = 1 ∨ t = 2 ∨ t = 3 ∨ t = 4 := by omega
  rcases this with rfl | rfl | rfl | rfl | rfl <;> omega
theorem Bd.p {P : Int} {r : Nat → Int32} (h : Bd P r) (hP : P ≤ PP) (hT : rT r ≤ 5) : BdP r := by
  obtain ⟨B, D, h1, h2, h3, h4, h5, h6⟩ := h
  obtain ⟨hB, hD⟩ := Bd.le5 (r := r) h1 h2 h3
  refine ⟨rng_mono h4 (by omega) (by omega), fun p hp => ⟨rng_mono (h5 p hp).1 (by omega) (by omega), rng_mono (h5 p hp).2 (by omega) (by omega)⟩, fun t ht s hs hf => ?_⟩
  have := hD t (by omega)
  exact ⟨rng_mono (h6 t ht s hs hf).1 (by omega) (by omega), rng_mono (h6 t ht s hs hf).2 (by omega) (by omega)⟩
theorem dv_rng {r : Nat → Int32} {t s : Nat} {v : Int32} {D : Int} (hb : BdP r) (hN : rN r ≤ 24) (hs : s < rN r ∨ s = 24) (hD : 0 ≤ D) (hDP : D ≤ PP) (h : ∀ s, s < 25 → fl r t s = 1 → rng (dlx r t s) (-D) D ∧ rng (dly r t s) (-D) D) : rng (dvV r t s v) (-D) D := by
  have z : rng 0 (-D) D := by unfold rng; rw [show (0 : Int32).toInt = 0 from rfl]; omega
  have gv : ∀ s, s < 25 → fl r t s = 1 → rng (gvn r t s v) (-D) D := by
    intro s hs hf
    unfold gvn
    split
    · exact (h s hs hf).1
    · exact (h s hs hf).2
  have bs : ∀ s, s < rN r → rng (bsp r s v) (-PP) PP := by
    intro s hs
    unfold bsp
    split
    · exact (hb.2.1 s hs).1
    · exact (hb.2.1 s hs).2
  unfold dvV
  by_cases c1 : fl r t s = 1
  · rw [if_pos c1]; exact gv s (by omega) c1
  · rw [if_neg c1]
    by_cases c2 : s = 24 ∨ r 0 = 1
    · rw [if_pos c2]; exact z
    · rw [if_neg c2]
      have hs' : s < rN r := by
        rcases hs with hs | hs
        · exact hs
        · exact absurd (Or.inl hs) c2
      rcases nearby (t := t) hs' with ⟨h1, h2⟩ | ⟨i, j, h1, h2, h3, h4, h5, h6⟩
      · rw [if_pos h1]; exact z
      · rw [if_neg (by omega), h3, h4, Nat.add_sub_cancel, Nat.add_sub_cancel]
        exact infV_rng (bs s hs') (bs i h1) (bs j h2) hD hDP (gv i (by omega) h5) (gv j (by omega) h6)
theorem w1_delta {S : xS} {G T na gi t pl : Nat} {r : Nat → Int32} {v : Int32} {Q : Int32 → xS → Prop} (hG : GlRel S G r) (hR : RowOk na gi r) (hT : TupRel S T r t) (hp : pl ≤ rN r) (k : Q (dvV r t (slo pl) v) S) : wp_X1_deltaAt G T (nI pl) v S Q := by
  obtain ⟨e1, e2, e3, e4, e5, e6, e7, e8, e9⟩ := hG
  obtain ⟨f1, f2, f3, f4, f5, f6, f7⟩ := hR
  obtain ⟨t1, ⟨m, t2, t3, t4⟩, t5⟩ := hT
  have hp25 : pl < 25 := by omega
  have hin := vv_in (k := pl) (N := 25) hp25 (by omega)
  unfold wp_X1_deltaAt wp_X1_deltaAt_27 wp_X1_deltaAt_39 wp_X1_deltaAt_69 wp_X1_deltaAt_152
  refine v5_touches t2 t3 hp25 ?_
  rw [t4 pl hp25, vv_clI (k := pl) (by omega)]
  unfold dvV at k
  by_cases c1 : fl r t (slo pl) = 1
  · rw [if_pos c1] at k
    rw [decide_eq_true c1]
    refine g1 ?_
    unfold gvn at k
    by_cases cv : v = 0
    · rw [if_pos cv] at k
      exact gt cv ⟨hin, by rw [(t5 pl hp25 c1).1]; exact k⟩
    · rw [if_neg cv] at k
      exact gf cv ⟨hin, by rw [(t5 pl hp25 c1).2]; exact k⟩
  · rw [if_neg c1] at k
    rw [decide_eq_false c1]
    refine g0 ?_
    rw [e1]
    by_cases c2 : r 0 = 0
    · refine gt c2 ?_
      by_cases c3 : pl = 0
      · subst c3
        rw [if_pos (Or.inl (show slo 0 = 24 from rfl))] at k
        exact gt rfl k
      · refine gf (by rw [nl0, vv_eq (by omega) (by omega)]; exact c3) ?_
        have es : slo pl = pl - 1 := by unfold slo; rw [if_neg c3]
        have hc := e7 c2
        have hs : pl - 1 < rN r := by omega
        rw [es] at k c1
        rw [if_neg (by intro h; rcases h with h | h; · omega
                       · rw [c2] at h; exact absurd h (by decide))] at k
        have wn := fun Q => w1_near (r := r) (t := t) (e2.trans f2.2) f2.1 hc (fun p hp => by have := cno_le (r := r) p; omega) t2 t3 t4 (p := pl - 1) hs c1 (Q := Q)
        rw [show pl - 1 + 1 = pl by omega] at wn
        refine (wn _).1 ((wn _).2 ?_)
        rcases nearby (t := t) hs with ⟨h1, h2⟩ | ⟨i, j, h1, h2, h3, h4, h5, h6⟩
        · rw [if_pos h1] at k
          rw [h1]
          exact gt rfl k
        · rw [if_neg (by omega), h3, h4, Nat.add_sub_cancel, Nat.add_sub_cancel] at k
          rw [h3, h4]
          refine gf (by rw [nl0, vv_eq (by omega) (by omega)]; omega) (gf (by rw [nl0, vv_eq (by omega) (by omega)]; omega) ?_)
          rw [vv_clI (k := i + 1) (by omega), vv_clI (k := j + 1) (by omega)]
          have hi := vv_in (k := i + 1) (N := 25) (by omega) (by omega)
          have hj := vv_in (k := j + 1) (N := 25) (by omega) (by omega)
          have xi := t5 (i + 1) (by omega) (show fl r t (slo (i + 1)) = 1 from h5)
          have xj := t5 (j + 1) (by omega) (show fl r t (slo (j + 1)) = 1 from h6)
          have bi := e6 i h1
          have bj := e6 j h2
          have bp := e6 (pl - 1) hs
          rw [show pl - 1 + 1 = pl by omega] at bp
          unfold gvn bsp at k
          by_cases cv : v = 0
          · rw [if_pos cv, if_pos cv, if_pos cv, if_pos cv, if_pos cv] at k
            refine gt cv ⟨hin, hi, hj, hi, hj, w1_inferred ?_⟩
            rw [bp.1, bi.1, bj.1, xi.1, xj.1]
            exact k
          · rw [if_neg cv, if_neg cv, if_neg cv, if_neg cv, if_neg cv] at k
            refine gf cv ⟨hin, hi, hj, hi, hj, w1_inferred ?_⟩
            rw [bp.2, bi.2, bj.2, xi.2, xj.2]
            exact k
    · have c4 : r 0 = 1 := f1.resolve_left c2
      rw [if_pos (Or.inr c4)] at k
      exact gf c2 k
theorem i64_32sub {x y : Int32} (h1 : -2147483648 ≤ x.toInt - y.toInt) (h2 : x.toInt - y.toInt < 2147483648) : Int32.toInt64 (x - y) = Int32.toInt64 x - Int32.toInt64 y := by
  apply Int64.toInt_inj.mp
  rw [i64_sub32, i2l_toInt, i32_sub h1 h2]
theorem v7_given {M : xS} {g t s : Nat} {v : Int32} {Q : Int32 → xS → Prop} (hg : g < 6) (ht : t < 5) (hs : s < 25) (k : Q (gvn (mrow M g) t s v) M) : wp_X7_given (nI g) (nI t) (nI s) v M Q := by
  unfold wp_X7_given wp_X7_tupleAt wp_X7_given_18
  unfold gvn at k
  by_cases cv : v = 0
  · rw [if_pos cv] at k
    exact gt cv (v7_of (y := tb t + 37 + s) rfl (by simp only [nl76, nl87, nl37, vv_mul, nI_add]; rfl) hg (by unfold tb; omega) k)
  · rw [if_neg cv] at k
    exact gf cv (v7_of (y := tb t + 62 + s) rfl (by simp only [nl76, nl87, nl62, vv_mul, nI_add]; rfl) hg (by unfold tb; omega) k)
theorem w7_inf {M : xS} {g t s i j o : Nat} {v : Int32} {Q : Int32 → xS → Prop} (hg : g < 6) (ht : t < 5) (hN : rN (mrow M g) ≤ 24) (hb : BdP (mrow M g)) (hT : t < rT (mrow M g)) (ho : (v = 0 ∧ o = 4) ∨ (¬ v = 0 ∧ o = 28)) (hs : s < rN (mrow M g)) (hi : i < rN (mrow M g)) (hj : j < rN (mrow M g)) (fi : fl (mrow M g) t i = 1) (fj : fl (mrow M g) t j = 1)
    (k : Q (infV (bsp (mrow M g) s v) (bsp (mrow M g) i v) (bsp (mrow M g) j v) (gvn (mrow M g) t i v) (gvn (mrow M g) t j v)) M) : wp_X7_deltaOf_76 (nI g) (nI t) (nI s) v Q M (nI i) (nI j) (nI o) := by
  have bs : ∀ z, z < rN (mrow M g) → ∀ Q : Int32 → xS → Prop, Q (bsp (mrow M g) z v) M → wp_X7_of (nI g) (nI o + nI z) M Q := by
    intro z hz Q k
    rw [nI_add]
    refine v7_of rfl rfl hg (by omega) ?_
    unfold bsp at k
    rcases ho with ⟨h1, h2⟩ | ⟨h1, h2⟩
    · rw [if_pos h1] at k; rw [h2]; exact k
    · rw [if_neg h1] at k; rw [h2]; exact k
  have br : ∀ z, z < rN (mrow M g) → rng (bsp (mrow M g) z v) (-PP) PP := by
    intro s hs
    unfold bsp
    split
    · exact (hb.2.1 s hs).1
    · exact (hb.2.1 s hs).2
  have gr : ∀ z, z < 25 → fl (mrow M g) t z = 1 → rng (gvn (mrow M g) t z v) (-PP) PP := by
    intro s hs hf
    unfold gvn
    split
    · exact (hb.2.2 t hT s hs hf).1
    · exact (hb.2.2 t hT s hs hf).2
  have r1 := br s hs
  have r2 := br i hi
  have r3 := br j hj
  have r4 := gr i (by omega) fi
  have r5 := gr j (by omega) fj
  unfold wp_X7_deltaOf_76
  refine v7_given hg ht (by omega) (v7_given hg ht (by omega) (bs i hi _ (bs j hj _ ?_)))
  have bi := bs i hi
  have bj := bs j hj
  have bq := bs s hs
  generalize bsp (mrow M g) s v = c at *
  generalize bsp (mrow M g) i v = ca at *
  generalize bsp (mrow M g) j v = cb at *
  generalize gvn (mrow M g) t i v = da at *
  generalize gvn (mrow M g) t j v = db at *
  unfold infV at k
  unfold wp_X7_deltaOf_138
  by_cases c1 : ca = cb
  · rw [if_pos c1] at k
    refine gt c1 ?_
    by_cases c2 : da = db
    · rw [if_pos c2] at k; exact gt c2 k
    · rw [if_neg c2] at k; exact gf c2 k
  · rw [if_neg c1] at k
    refine gf c1 (bi _ (bj _ ?_))
    have key : ∀ lo hi dl dg : Int32, rng lo (-PP) PP → rng hi (-PP) PP → rng dl (-PP) PP → rng dg (-PP) PP → lo.toInt < hi.toInt → Q (infW c lo hi dl dg) M → ∀ (v11 v12 v13 s0 : Int32), v11 = lo → v12 = hi → v13 = dl → s0 = dg → wp_X7_deltaOf_239 (nI g) (nI s) Q M (nI o) v11 v12 v13 s0 := by
      intro lo hi dl dg q1 q2 q3 q4 hlt k v11 v12 v13 s0 h1 h2 h3 h4
      subst h1 h2 h3 h4
      unfold wp_X7_deltaOf_239 wp_X7_deltaOf_302
      refine bq _ ?_
      unfold infW at k
      by_cases d1 : c ≤ v11
      · rw [if_pos d1] at k
        exact gf (by rw [i32_lt]; rw [i32_le] at d1; omega) k
      · rw [if_neg d1] at k
        refine gt (by rw [i32_lt]; rw [i32_le] at d1; omega) ?_
        by_cases d2 : v12 ≤ c
        · rw [if_pos d2] at k
          exact gf (by rw [i32_lt]; rw [i32_le] at d2; omega) k
        · rw [if_neg d2] at k
          unfold rng PP at *
          rw [i32_le] at d1 d2
          refine gt (by rw [i32_lt]; omega) (v7_near (near_ne ?_ ?_) ?_)
          · rw [i2l_toInt, i32_sub] <;> omega
          · rw [i2l_toInt, i32_sub] <;> omega
          · rw [i64_32sub (by omega) (by omega), i64_32sub (by omega) (by omega), i64_32sub (by omega) (by omega)]
            exact k
    by_cases c2 : ca < cb
    · rw [if_pos c2] at k
      rw [i32_lt] at c2
      refine gf (by rw [i32_le]; omega) ?_
      unfold wp_X7_deltaOf_167
      refine g1 ?_
      unfold wp_X7_deltaOf_185
      refine bi _ (g1 ?_)
      unfold wp_X7_deltaOf_207
      refine bj _ (g1 ?_)
      unfold wp_X7_deltaOf_225
      exact g1 (key _ _ _ _ r2 r3 r4 r5 c2 k _ _ _ _ rfl rfl rfl rfl)
    · rw [if_neg c2] at k
      rw [i32_lt] at c2
      have c5 : ca.toInt ≠ cb.toInt := fun h => c1 (Int32.toInt_inj.mp h)
      refine gt (by rw [i32_le]; omega) ?_
      unfold wp_X7_deltaOf_167
      refine g0 ?_
      unfold wp_X7_deltaOf_185
      refine bj _ (g0 ?_)
      unfold wp_X7_deltaOf_207
      refine bi _ (g0 ?_)
      unfold wp_X7_deltaOf_225
      exact g0 (key _ _ _ _ r3 r2 r5 r4 (by omega) k _ _ _ _ rfl rfl rfl rfl)
theorem w7_delta {M : xS} {g t s na gi : Nat} {v : Int32} {Q : Int32 → xS → Prop} (hg : g < 6) (hR : RowOk na gi (mrow M g)) (hb : BdP (mrow M g)) (hT : t < rT (mrow M g)) (hs : s < rN (mrow M g) ∨ s = 24) (k : Q (dvV (mrow M g) t s v) M) : wp_X7_deltaOf (nI g) (nI t) (nI s) v M Q := by
  obtain ⟨f1, f2, f3, f4, f5, f6, f7⟩ := hR
  unfold wp_X7_deltaOf wp_X7_deltaOf_36
  refine v7_touches hg (by omega) (by omega) ?_
  unfold dvV at k
  by_cases c1 : fl (mrow M g) t s = 1
  · rw [if_pos c1] at k
    rw [decide_eq_true c1]
    exact g1 (v7_given hg (by omega) (by omega) k)
  · rw [if_neg c1] at k
    rw [decide_eq_false c1]
    refine g0 ?_
    by_cases c2 : s = 24
    · rw [if_pos (Or.inl c2)] at k
      exact gt (by rw [nl24, vv_eq (by omega) (by omega)]; exact c2) k
    · refine gf (by rw [nl24, vv_eq (by omega) (by omega)]; exact c2) (v7_of rfl nl0 hg (by omega) ?_)
      by_cases c3 : mrow M g 0 = 1
      · rw [if_pos (Or.inr c3)] at k
        exact gt c3 k
      · rw [if_neg (by intro h; rcases h with h | h; · exact c2 h
                       · exact c3 h)] at k
        have c4 : mrow M g 0 = 0 := f1.resolve_right c3
        have hs' : s < rN (mrow M g) := hs.resolve_right c2
        have h0 := (f5 c4).2 (by omega)
        have wf := fun Q => w7_from (M := M) (g := g) (t := t) hg (by omega) f2.1 f2.2 h0 (f5 c4).1 hs' c1 (Q := Q)
        refine gf c3 ((wf _).1 ?_)
        rcases nearby (t := t) hs' with ⟨h1, h2⟩ | ⟨i, j, h1, h2, h3, h4, h5, h6⟩
        · rw [if_pos h1] at k
          rw [if_pos h1]
          exact gf (by decide) k
        · rw [if_neg (by omega), h3, h4, Nat.add_sub_cancel, Nat.add_sub_cancel] at k
          have e6 : (if bkF (FF (mrow M g) t s) (rN (mrow M g)) s = 0 then (-1 : Int32) else nI (bkF (FF (mrow M g) t s) (rN (mrow M g)) s - 1)) = nI i := by rw [if_neg (by omega), h3, Nat.add_sub_cancel]
          have e7 : (if fwF (FF (mrow M g) t s) (rN (mrow M g)) s = 0 then (-1 : Int32) else nI (fwF (FF (mrow M g) t s) (rN (mrow M g)) s - 1)) = nI j := by rw [if_neg (by omega), h4, Nat.add_sub_cancel]
          rw [e6]
          refine gt (by rw [nl0, vv_le (by omega) (by omega)]; omega) ((wf _).2 ?_)
          rw [e7]
          by_cases cv : v = 0
          · exact gt cv (w7_inf hg (by omega) f2.1 hb hT (Or.inl ⟨cv, rfl⟩) hs' h1 h2 h5 h6 k)
          · exact gf cv (w7_inf hg (by omega) f2.1 hb hT (Or.inr ⟨cv, rfl⟩) hs' h1 h2 h5 h6 k)
theorem op_delta {n : Nat} {S M : xS} {K : xS → xS → Prop} (I : Inv n S M) (hn : n ≤ 600) (a b c v : Int32) (hK : ∀ S' M', Inv (n + 1) S' M' → K S' M') :
    wp_X6_delta a b c v S (fun r1 S1 => wp_X7_delta a b c v M (fun r2 M1 => if r1 = r2 then K S1 M1 else False)) := by
  rcases ptErr I a b c with ⟨e, e1, e2, e3, e4⟩ | ⟨g, t, pl, rfl, rfl, ec, ec2, hg, ht, hp, e3, e4⟩
  · exact op_of (w6 := wp_X6_delta a b c v S) (w7 := wp_X7_delta a b c v M) (r := e) (fun Q k => e3 _ (gf e1 k)) (fun Q k => e4 _ (gf e2 k)) (hK _ _ I.next)
  · obtain ⟨d1, d2, d3⟩ := I.2.1.2.2.1 g hg
    have hg6 := I.2.1.1.1
    have hN := d2.2.1.1
    have hT := d2.2.2.2.1.1
    have hid := I.2.1.2.1.1 g (by omega) t (by omega)
    have hP : PN n ≤ PP := by unfold PN PP; omega
    refine op_of (w6 := wp_X6_delta (nI g) (nI t) c v S) (w7 := wp_X7_delta (nI g) (nI t) c v M) (r := dvV (mrow M g) t (slo pl) v) (fun Q k => e3 _ (g0 ⟨vv_in (by omega) (by omega), ⟨vv_in (by omega) (by omega), ?_⟩, ?_⟩)) (fun Q k => e4 _ (gt (by decide) (v7_slot ec2 (by omega) (w7_delta (by omega) d2 (d3.p hP hT) ht ?_ k)))) (hK _ _ I.next)
    · rw [vv_clI (by omega), vv_clI (by omega)]; omega
    · rw [vv_clI (by omega), vv_clI (by omega), ec]
      exact w1_delta d1 d2 (d1.2.2.2.2.2.2.2.2 t ht) hp k
    · unfold slo; split <;> omega
