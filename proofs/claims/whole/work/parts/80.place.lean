def apR (r : Nat → Int32) (N : Nat) (x y th : Int32) (z : Nat) : Int32 := if z = 2 then nI (N + 1) else if z = 4 + N then x else if z = 28 + N then y else if z = 52 + N then th else r z
theorem ptsOf_other {M M' : xS} {ng na g : Nat} (hN : ng ≤ 6) (hR : ∀ z, z < ng → RowOk na z (mrow M z)) (hno : ¬ prtV M ng g) (hE : ∀ z y, z ≠ g → y < 511 → mrow M' z y = mrow M z y) : ∀ f z, z < ng → z ≠ g → ptsOf M' f z = ptsOf M f z
  | 0, _, _, _ => rfl
  | f + 1, z, hz, hzg => by
    have hNz := (hR z hz).2.1.1
    show (if mrow M' z 0 = 1 then ((List.range (rN (mrow M' z))).map (fun c => ptsOf M' f (mrow M' z (52 + c)).toNatClampNeg)).sum else rN (mrow M' z)) = (if mrow M z 0 = 1 then ((List.range (rN (mrow M z))).map (fun c => ptsOf M f (mrow M z (52 + c)).toNatClampNeg)).sum else rN (mrow M z))
    rw [hE z 0 hzg (by omega), rN_fr (hE z 2 hzg (by omega))]
    by_cases c0 : mrow M z 0 = 1
    · rw [if_pos c0, if_pos c0]
      congr 1
      apply List.map_congr_left
      intro c hc
      have hc2 := List.mem_range.mp hc
      obtain ⟨h, q1, q2⟩ := (hR z hz).2.2.2.2.2.1 c0 c hc2
      rw [hE z (52 + c) hzg (by omega), q1, vv_clI (by omega)]
      refine ptsOf_other hN hR hno hE f h (by omega) (fun e => hno ⟨z, c, by omega, hz, c0, hc2, by rw [q1, e]⟩)
    · rw [if_neg c0, if_neg c0]
theorem apR_cno {r : Nat → Int32} {N : Nat} {x y th : Int32} : ∀ p, p < N → N ≤ 24 → cno (apR r N x y th) p = cno r p
  | 0, _, _ => rfl
  | p + 1, h, h2 => by
    show cno _ p + (if apR r N x y th (52 + (p + 1)) = 1 then 1 else 0) = cno r p + (if r (52 + (p + 1)) = 1 then 1 else 0)
    have e : apR r N x y th (52 + (p + 1)) = r (52 + (p + 1)) := by
      unfold apR
      rw [if_neg (by omega), if_neg (by omega), if_neg (by omega), if_neg (by omega)]
    rw [apR_cno p (by omega) h2, e]
theorem place_inv {n : Nat} {S M S' M' : xS} (I : Inv n S M) {g N : Nat} {x y th : Int32} (hg : g < cntM M 9) (hN : rN (mrow M g) = N) (h24 : N < 24) (hk4 : mrow M g 0 = 1 → N < 4) (hx : rng x (-4000) 4000) (hy : rng y (-4000) 4000)
    (ht0 : mrow M g 0 = 0 → (th = 0 ∨ th = 1) ∧ (N = 0 → th = 1)) (ht1 : mrow M g 0 = 1 → ∃ h, th = nI h ∧ h < g) (hno : ¬ prtV M (cntM M 9) g)
    (s0 : ∀ k, ¬ (k = 1 ∨ 12 ≤ k ∧ k ≤ 15) → S'.1 k = S.1 k) (s2 : S'.2 = S.2) (sz : ∀ k z, z ≠ g → S'.1 k z = S.1 k z) (s1 : S'.1 1 g 1 = nI (N + 1)) (s1o : ∀ j, j ≠ 1 → S'.1 1 g j = S.1 1 g j) (so : ∀ k j, 12 ≤ k ∧ k ≤ 15 → j ≠ N + 1 → S'.1 k g j = S.1 k g j)
    (s12 : S'.1 12 g (N + 1) = x) (s13 : S'.1 13 g (N + 1) = y) (s14 : mrow M g 0 = 0 → S'.1 14 g (N + 1) = nI (cno (apR (mrow M g) N x y th) N)) (s15 : mrow M g 0 = 1 → S'.1 15 g (N + 1) = th)
    (mk : ∀ k, kM k → M'.1 k = M.1 k) (mz : ∀ z w, z ≠ g → w < 511 → mrow M' z w = mrow M z w) (mg : ∀ w, mrow M' g w = apR (mrow M g) N x y th w) (hpts : ptsOf M' 6 g ≤ 96) : Inv (n + 1) S' M' := by
  obtain ⟨⟨b1, b2, b3⟩, b4, b5, b6⟩ := I.2.1
  obtain ⟨d1, d2, d3⟩ := b5 g hg
  have er : mrow M' g = apR (mrow M g) N x y th := funext mg
  have o : ∀ w, w ≠ 2 → w ≠ 4 + N → w ≠ 28 + N → w ≠ 52 + N → apR (mrow M g) N x y th w = mrow M g w := fun w h1 h2 h3 h4 => by unfold apR; rw [if_neg h1, if_neg h2, if_neg h3, if_neg h4]
  have a2 : apR (mrow M g) N x y th 2 = nI (N + 1) := by unfold apR; rw [if_pos rfl]
  have ax : apR (mrow M g) N x y th (4 + N) = x := by unfold apR; rw [if_neg (by omega), if_pos rfl]
  have ay : apR (mrow M g) N x y th (28 + N) = y := by unfold apR; rw [if_neg (by omega), if_neg (by omega), if_pos rfl]
  have at' : apR (mrow M g) N x y th (52 + N) = th := by unfold apR; rw [if_neg (by omega), if_neg (by omega), if_neg (by omega), if_pos rfl]
  have aN : rN (apR (mrow M g) N x y th) = N + 1 := by unfold rN; rw [a2, vv_clI (by omega)]
  have aT : rT (apR (mrow M g) N x y th) = rT (mrow M g) := rT_fr (o 3 (by omega) (by omega) (by omega) (by omega))
  have tup : ∀ t w, tb t ≤ w → apR (mrow M g) N x y th w = mrow M g w := fun t w h => o w (by unfold tb at h; omega) (by unfold tb at h; omega) (by unfold tb at h; omega) (by unfold tb at h; omega)
  refine I.row hg (fun k hk => s0 k (by omega)) (by rw [s0 3 (by omega)]) (fun k z hk hz => sz k z hz) (fun k z hk hz => by rw [s0 k (by omega)]) (fun z _ => by rw [s2]) (by rw [s2]) (b4.fr (by rw [s2]) (by rw [s2])) (fun k hk => mk k (by unfold kM; omega)) (fun j hj => by rw [mk 0 (Or.inl rfl)]) mz ?_ ?_ ?_ ?_
  · rw [er]
    obtain ⟨e1, e2, e3, e4, e5, e6, e7, e8, e9⟩ := d1
    unfold GlRel
    rw [aN, aT, s1, s1o 0 (by omega), s1o 6 (by omega), so 12 0 (by omega) (by omega), so 13 0 (by omega) (by omega), a2, o 0 (by omega) (by omega) (by omega) (by omega), o 1 (by omega) (by omega) (by omega) (by omega), o 3 (by omega) (by omega) (by omega) (by omega)]
    refine ⟨e1, rfl, e3, e4, e5, fun p hp => ?_, fun hz p hp => ?_, fun hz c hc => ?_, fun t ht => ?_⟩
    · by_cases ep : p = N
      · rw [ep, ax, ay]; exact ⟨s12, s13⟩
      · rw [so 12 _ (by omega) (by omega), so 13 _ (by omega) (by omega), o (4 + p) (by omega) (by omega) (by omega) (by omega), o (28 + p) (by omega) (by omega) (by omega) (by omega)]
        exact e6 p (by omega)
    · by_cases ep : p = N
      · rw [ep]; exact s14 hz
      · rw [so 14 _ (by omega) (by omega), apR_cno p (by omega) (by omega)]
        exact e7 hz p (by omega)
    · by_cases ec : c = N
      · rw [ec, at']; exact s15 hz
      · rw [so 15 _ (by omega) (by omega), o (52 + c) (by omega) (by omega) (by omega) (by omega)]
        exact e8 hz c (by omega)
    · rw [s2]
      exact (e9 t ht).fr2 (fun k hk => by rw [s0 k (by omega)]) (fun w h1 h2 => tup t w h1)
  · rw [er]
    obtain ⟨e1, e2, e3, e4, e5, e6, e7⟩ := d2
    unfold RowOk
    rw [aN, aT, a2, o 0 (by omega) (by omega) (by omega) (by omega), o 3 (by omega) (by omega) (by omega) (by omega)]
    refine ⟨e1, ⟨by omega, rfl⟩, fun hz => by have := hk4 hz; omega, e4, fun hz => ⟨fun p hp => ?_, fun hp => ?_⟩, fun hz c hc => ?_, fun t ht => ?_⟩
    · by_cases ep : p = N
      · rw [ep, at']; exact (ht0 hz).1
      · rw [o (52 + p) (by omega) (by omega) (by omega) (by omega)]; exact (e5 hz).1 p (by omega)
    · by_cases ep : N = 0
      · have hz2 := (ht0 hz).2 ep
        have q := at'
        rw [ep] at q
        rw [ep]
        exact q.trans hz2
      · rw [o 52 (by omega) (by omega) (by omega) (by omega)]; exact (e5 hz).2 (by omega)
    · by_cases ec : c = N
      · rw [ec, at']; exact ht1 hz
      · rw [o (52 + c) (by omega) (by omega) (by omega) (by omega)]; exact e6 hz c (by omega)
    · obtain ⟨u1, u2, u3, u4, u5⟩ := (e7 t ht).fr2 (r' := apR (mrow M g) N x y th) (fun w h1 h2 => tup t w h1)
      exact ⟨u1, u2, u3, fun s h1 h2 => u4 s (by omega) h2, u5⟩
  · rw [er]
    obtain ⟨B, D, f1, f2, f3, f4, f5, f6⟩ := d3
    have := PN_le n
    refine ⟨B, D, f1, f2, by omega, by rw [o 1 (by omega) (by omega) (by omega) (by omega)]; exact f4, fun p hp => ?_, fun t ht s hs hf => ?_⟩
    · rw [aN] at hp
      by_cases ep : p = N
      · rw [ep, ax, ay]
        exact ⟨rng_mono hx (by omega) (by omega), rng_mono hy (by omega) (by omega)⟩
      · rw [o (4 + p) (by omega) (by omega) (by omega) (by omega), o (28 + p) (by omega) (by omega) (by omega) (by omega)]
        exact f5 p (by omega)
    · rw [aT] at ht
      have hw := tup t
      have ef : fl (apR (mrow M g) N x y th) t s = fl (mrow M g) t s := hw _ (by omega)
      have ex : dlx (apR (mrow M g) N x y th) t s = dlx (mrow M g) t s := hw _ (by omega)
      have ey : dly (apR (mrow M g) N x y th) t s = dly (mrow M g) t s := hw _ (by omega)
      rw [ef] at hf
      rw [ex, ey]
      exact f6 t ht s hs hf
  · refine I.2.2.2.2.2.pre (fun z hz => ?_) (fun z hz => ?_) (mk 26 (by unfold kM; omega)) (mk 25 (by unfold kM; omega)) (by rw [mk 0 (Or.inl rfl)]) (by rw [mk 0 (Or.inl rfl)])
    · by_cases ez : z = g
      · rw [ez]; exact hpts
      · rw [ptsOf_other b1 (fun z hz => (b5 z hz).2.1) hno mz 6 z hz ez]; exact I.2.2.2.2.2.1 z hz
    · by_cases ez : z = g
      · subst ez
        refine ⟨by rw [er, o 0 (by omega) (by omega) (by omega) (by omega)], by rw [er, aN]; omega, fun c hc => by rw [er, o (52 + c) (by omega) (by omega) (by omega) (by omega)]⟩
      · have hNz := (b5 z hz).2.1.2.1.1
        exact ⟨(mz z 0 ez (by omega)).symm, Nat.le_of_eq (rN_fr (mz z 2 ez (by omega))).symm, fun c hc => (mz z _ ez (by omega)).symm⟩
