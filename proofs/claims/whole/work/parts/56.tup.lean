theorem slo_lt {pl : Nat} (h : pl < 25) : slo pl < 25 := by unfold slo; split <;> omega
theorem TupRel.fr2 {S S' : xS} {T : Nat} {r r' : Nat → Int32} {t : Nat} (h : TupRel S T r t) (hS : ∀ k, (k = 5 ∨ 24 ≤ k ∧ k ≤ 28) → S'.1 k T = S.1 k T) (hr : ∀ x, tb t ≤ x → x < tb t + 87 → r' x = r x) : TupRel S' T r' t := by
  obtain ⟨h1, ⟨m, h2, h3, h4⟩, h5⟩ := h
  have hf : ∀ s, s < 25 → fl r' t s = fl r t s := fun s hs => hr _ (by omega) (by omega)
  have hx : ∀ s, s < 25 → dlx r' t s = dlx r t s := fun s hs => hr _ (by omega) (by omega)
  have hy : ∀ s, s < 25 → dly r' t s = dly r t s := fun s hs => hr _ (by omega) (by omega)
  refine ⟨fun a ha => ?_, ⟨m, ?_, h3, fun pl hp => ?_⟩, fun pl hp hq => ?_⟩
  · rw [hS 24 (by omega), hS 25 (by omega), hS 26 (by omega), hr _ (by omega) (by omega), hr _ (by omega) (by omega), hr _ (by omega) (by omega)]
    exact h1 a ha
  · rw [hS 5 (by omega)]; exact h2
  · rw [hf _ (slo_lt hp)]; exact h4 pl hp
  · rw [hf _ (slo_lt hp)] at hq
    rw [hS 27 (by omega), hS 28 (by omega), hx _ (slo_lt hp), hy _ (slo_lt hp)]
    exact h5 pl hp hq
theorem TupOk.fr2 {na n : Nat} {r r' : Nat → Int32} {t : Nat} (h : TupOk na n r t) (hr : ∀ x, tb t ≤ x → x < tb t + 87 → r' x = r x) : TupOk na n r' t := by
  obtain ⟨h1, h2, h3, h4, h5⟩ := h
  have hf : ∀ s, s < 25 → fl r' t s = fl r t s := fun s hs => hr _ (by omega) (by omega)
  refine ⟨fun a ha => ?_, fun a ha hb => ?_, fun s hs => ?_, fun s hs hq => ?_, fun hq => ?_⟩
  · rw [hr _ (by omega) (by omega), hr _ (by omega) (by omega), hr _ (by omega) (by omega)]; exact h1 a ha
  · rw [hr _ (by omega) (by omega), hr _ (by omega) (by omega), hr _ (by omega) (by omega)]; exact h2 a ha hb
  · rw [hf s hs]; exact h3 s hs
  · rw [hf s (by omega)]; exact h4 s hs hq
  · rw [hf 24 (by omega)] at hq
    show r' _ = 0
    rw [hr _ (by omega) (by omega)]
    exact h5 hq
theorem tb_ne {t t' : Nat} (h : t' ≠ t) {x : Nat} (h1 : tb t' ≤ x) (h2 : x < tb t' + 87) : x < tb t ∨ tb t + 87 ≤ x := by unfold tb at *; omega
theorem Inv.tup {n : Nat} {S M S' M' : xS} (I : Inv n S M) {g t : Nat} (hg : g < cntM M 9) (ht : t < rT (mrow M g))
    (hS : ∀ k, ¬ (k = 5 ∨ 24 ≤ k ∧ k ≤ 28) → S'.1 k = S.1 k) (hS2 : S'.2 = S.2) (hU : ∀ k z, z ≠ S.2.2 16 g t → S'.1 k z = S.1 k z)
    (hM : ∀ k, k ≠ 11 → M'.1 k = M.1 k) (hr : ∀ x, x < 511 * g + tb t ∨ 511 * g + tb t + 87 ≤ x → M'.1 11 0 x = M.1 11 0 x)
    (hT : TupRel S' (S.2.2 16 g t) (mrow M' g) t) (hO : TupOk (cntM M 0) (rN (mrow M g)) (mrow M' g) t)
    (hD : ∀ s, s < 25 → fl (mrow M' g) t s = 1 → (fl (mrow M g) t s = 1 ∧ dlx (mrow M' g) t s = dlx (mrow M g) t s ∧ dly (mrow M' g) t s = dly (mrow M g) t s) ∨ (rng (dlx (mrow M' g) t s) (-2000) 2000 ∧ rng (dly (mrow M' g) t s) (-2000) 2000)) : Inv (n + 1) S' M' := by
  obtain ⟨⟨b1, b2, b3⟩, b4, b5, b6⟩ := I.2.1
  obtain ⟨d1, d2, d3⟩ := b5 g hg
  have hT5 := d2.2.2.2.1.1
  have hN := d2.2.1.1
  have tbl : tb t + 87 ≤ 511 := by unfold tb; omega
  have tb76 : 76 ≤ tb t := by unfold tb; omega
  have hr' : ∀ x, x < tb t ∨ tb t + 87 ≤ x → mrow M' g x = mrow M g x := fun x hx => hr _ (by omega)
  have hrz : ∀ z y, z ≠ g → y < 511 → mrow M' z y = mrow M z y := fun z y hz hy => hr _ (by omega)
  have eN : rN (mrow M' g) = rN (mrow M g) := rN_fr (hr' 2 (by omega))
  have eT : rT (mrow M' g) = rT (mrow M g) := rT_fr (hr' 3 (by omega))
  have hid : ∀ t', t' < 5 → t' ≠ t → S.2.2 16 g t' ≠ S.2.2 16 g t := fun t' h5 hne e => hne (b4.2.1 g (by omega) t' t h5 (by omega) e)
  have hTid := b4.1 g (by omega) t (by omega)
  have hcno : ∀ p, p < 24 → cno (mrow M' g) p = cno (mrow M g) p := by
    intro p
    induction p with
    | zero => intro _; rfl
    | succ p ih =>
      intro hp
      show cno (mrow M' g) p + _ = cno (mrow M g) p + _
      rw [ih (by omega), hr' (52 + (p + 1)) (by omega)]
  refine I.row hg (fun k hk => hS k (by omega)) (by rw [hS 3 (by omega)]) (fun k z hk hz => by rw [hS k (by omega)]) (fun k z hk hz => hU k z (by omega)) (fun z _ => by rw [hS2]) (by rw [hS2]) (b4.fr (by rw [hS2]) (by rw [hS2])) (fun k hk => hM k (by omega)) (fun j hj => by rw [hM 0 (by omega)]) hrz ?_ ?_ ?_ ?_
  · obtain ⟨e1, e2, e3, e4, e5, e6, e7, e8, e9⟩ := d1
    unfold GlRel
    rw [eN, eT, hS 1 (by omega), hS 12 (by omega), hS 13 (by omega), hS 14 (by omega), hS 15 (by omega), hr' 0 (by omega), hr' 1 (by omega), hr' 2 (by omega), hr' 3 (by omega)]
    refine ⟨e1, e2, e3, e4, e5, fun p hp => ?_, fun hz p hp => ?_, fun hz c hc => ?_, fun t' ht' => ?_⟩
    · rw [hr' (4 + p) (by omega), hr' (28 + p) (by omega)]; exact e6 p hp
    · rw [hcno p (by omega)]; exact e7 hz p hp
    · rw [hr' (52 + c) (by omega)]; exact e8 hz c hc
    · rw [hS2]
      by_cases et : t' = t
      · subst et; exact hT
      · exact (e9 t' ht').fr2 (fun k _ => hU k _ (hid t' (by omega) et)) (fun x h1 h2 => hr' x (tb_ne et h1 h2))
  · obtain ⟨e1, e2, e3, e4, e5, e6, e7⟩ := d2
    unfold RowOk
    rw [eN, eT, hr' 0 (by omega), hr' 2 (by omega), hr' 3 (by omega)]
    refine ⟨e1, e2, e3, e4, fun hz => ⟨fun p hp => ?_, fun hp => ?_⟩, fun hz c hc => ?_, fun t' ht' => ?_⟩
    · rw [hr' (52 + p) (by omega)]; exact (e5 hz).1 p hp
    · rw [hr' 52 (by omega)]; exact (e5 hz).2 hp
    · rw [hr' (52 + c) (by omega)]; exact e6 hz c hc
    · by_cases et : t' = t
      · subst et; exact hO
      · exact (e7 t' ht').fr2 (fun x h1 h2 => hr' x (tb_ne et h1 h2))
  · obtain ⟨B, D, f1, f2, f3, f4, f5, f6⟩ := d3
    refine ⟨B, fun z => if z = t then D t + 2000 else D z, f1, fun z => ?_, ?_, by rw [hr' 1 (by omega)]; exact f4, fun p hp => ?_, fun t' ht' s hs hf => ?_⟩
    · have := f2 z; have := f2 t
      show 0 ≤ if z = t then D t + 2000 else D z
      split <;> omega
    · have : PN (n + 1) = PN n + 2000 := by unfold PN; omega
      show B + (if 0 = t then D t + 2000 else D 0) + (if 1 = t then D t + 2000 else D 1) + (if 2 = t then D t + 2000 else D 2) + (if 3 = t then D t + 2000 else D 3) + (if 4 = t then D t + 2000 else D 4) ≤ PN (n + 1)
      rw [this]
      have ht5 : t = 0 ∨ t = 1 ∨ t = 2 ∨ t = 3 ∨ t = 4 := by omega
      rcases ht5 with rfl | rfl | rfl | rfl | rfl <;> simp <;> omega
    · rw [eN] at hp
      rw [hr' (4 + p) (by omega), hr' (28 + p) (by omega)]; exact f5 p hp
    · rw [eT] at ht'
      show rng _ (-(if t' = t then D t + 2000 else D t')) (if t' = t then D t + 2000 else D t') ∧ rng _ (-(if t' = t then D t + 2000 else D t')) (if t' = t then D t + 2000 else D t')
      by_cases et : t' = t
      · subst et
        rw [if_pos rfl]
        have := f2 t'
        rcases hD s hs hf with ⟨h1, h2, h3⟩ | ⟨h2, h3⟩
        · have := f6 t' ht' s hs h1
          rw [h2, h3]
          unfold rng at *
          omega
        · unfold rng at *
          omega
      · rw [if_neg et]
        have hx : ∀ x, tb t' ≤ x → x < tb t' + 87 → mrow M' g x = mrow M g x := fun x h1 h2 => hr' x (tb_ne et h1 h2)
        have ef : fl (mrow M' g) t' s = fl (mrow M g) t' s := hx _ (by omega) (by omega)
        have ex : dlx (mrow M' g) t' s = dlx (mrow M g) t' s := hx _ (by omega) (by omega)
        have ey : dly (mrow M' g) t' s = dly (mrow M g) t' s := hx _ (by omega) (by omega)
        rw [ef] at hf
        rw [ex, ey]
        exact f6 t' ht' s hs hf
  · have keep : ∀ z, z < cntM M 9 → mrow M' z 0 = mrow M z 0 ∧ rN (mrow M' z) = rN (mrow M z) ∧ ∀ c, c < rN (mrow M z) → mrow M' z (52 + c) = mrow M z (52 + c) := by
      intro z hz
      by_cases ez : z = g
      · subst ez; exact ⟨hr' 0 (by omega), eN, fun c hc => hr' _ (by omega)⟩
      · have := (b5 z hz).2.1.2.1.1
        exact ⟨hrz z 0 ez (by omega), rN_fr (hrz z 2 ez (by omega)), fun c hc => hrz z _ ez (by omega)⟩
    refine I.2.2.2.2.2.pre (fun z hz => ?_) (fun z hz => ?_) (hM 26 (by omega)) (hM 25 (by omega)) (by rw [hM 0 (by omega)]) (by rw [hM 0 (by omega)])
    · rw [ptsOf_keep b1 (fun z hz => (b5 z hz).2.1) keep 6 z hz]; exact I.2.2.2.2.2.1 z hz
    · obtain ⟨k1, k2, k3⟩ := keep z hz
      exact ⟨k1.symm, by omega, fun c hc => (k3 c hc).symm⟩
