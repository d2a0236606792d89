section ADDT
variable {n : Nat} {S M : xS} {K : xS → xS → Prop}
theorem v5_begin {T : Nat} {S : xS} {Q : xS → Prop} (k : ∀ S', (∀ k, ¬ (k = 5 ∨ 24 ≤ k ∧ k ≤ 28) → S'.1 k = S.1 k) → S'.2 = S.2 → (∀ k z, z ≠ T → S'.1 k z = S.1 k z) → S'.1 5 T 3 = 0 → (∀ a, a < 4 → S'.1 24 T a = 0 ∧ S'.1 25 T a = 0 ∧ S'.1 26 T a = 0) → Q S') : wp_X5_begin T S Q := by
  unfold wp_X5_begin
  refine wl1 (wp_X5_begin_7 T Q) (fun K => wp_X5_begin_7_b T K Q) (fun _ _ _ => rfl)
    (fun S' v => ∃ j, j ≤ 4 ∧ v = nI j ∧ (∀ k, ¬ (k = 5 ∨ 24 ≤ k ∧ k ≤ 28) → S'.1 k = S.1 k) ∧ S'.2 = S.2 ∧ (∀ k z, z ≠ T → S'.1 k z = S.1 k z) ∧ S'.1 5 T 3 = 0 ∧ (∀ a, a < j → S'.1 24 T a = 0 ∧ S'.1 25 T a = 0 ∧ S'.1 26 T a = 0))
    (fun _ v => 4 - v.toNatClampNeg) ⟨0, by omega, rfl, fun k hk => xI_k (by omega), rfl, fun k z hz => by funext j; rw [xI_1, if_neg (by omega)], xI_s _ _ _ _ _, fun a h => by omega⟩ ?_
  rintro S' v K ⟨j, hj, rfl, h1, h2, h3, h4, h5⟩ hK
  unfold wp_X5_begin_7_b
  by_cases c : j = 4
  · subst c
    exact gt (by rw [nl4, vv_le (by omega) (by omega)]; omega) (k S' h1 h2 h3 h4 h5)
  · have hin := vv_in (k := j) (N := 4) (by omega) (by omega)
    refine gf (by rw [nl4, vv_le (by omega) (by omega)]; omega) ⟨hin, hin, hin, ?_⟩
    rw [vv_clI (by omega), nI_1]
    refine hK _ _ ⟨j + 1, by omega, rfl, fun k hk => by rw [xI_k (by omega), xI_k (by omega), xI_k (by omega)]; exact h1 k hk, h2, fun k z hz => ?_, by rw [xI_k (by omega), xI_k (by omega), xI_k (by omega)]; exact h4, fun a ha => ?_⟩ (by rw [vv_clI (by omega), vv_clI (by omega)]; omega)
    · rw [← h3 k z hz]
      funext w
      rw [xI_1, if_neg (by omega), xI_1, if_neg (by omega), xI_1, if_neg (by omega)]
    · rw [xI_k (k' := 24) (by omega), xI_k (k' := 24) (by omega), xI_k (k' := 25) (by omega), xI_1, xI_1 _ 25, xI_1 _ 26, xI_k (k' := 25) (by omega), xI_k (k' := 26) (by omega), xI_k (k' := 26) (by omega)]
      by_cases ea : a = j
      · subst ea; simp
      · rw [if_neg (by omega), if_neg (by omega), if_neg (by omega)]
        exact h5 a (by omega)
theorem w7_addTuple {g t : Nat} {M : xS} {Q : Int32 → xS → Prop} (hg : g < 6) (ht : t < 5) (k : ∀ M', (∀ k, k ≠ 11 → M'.1 k = M.1 k) → (∀ z y, z ≠ g → y < 511 → mrow M' z y = mrow M z y) → (∀ y, mrow M' g y = if y = 3 then nI (t + 1) else if tb t ≤ y ∧ y < tb t + 87 then 0 else mrow M g y) → Q (nI t) M') :
    ∃ n, wp_X7_addTuple_28 (nI g) Q n M (nI t) 0 := by
  have tbl : tb t + 87 ≤ 511 := by unfold tb; omega
  have tb76 : 76 ≤ tb t := by unfold tb; omega
  refine wl2 (wp_X7_addTuple_28 (nI g) Q) (fun K => wp_X7_addTuple_28_b (nI g) K Q) (fun _ _ _ _ => rfl)
    (fun M' v2 v3 => ∃ j, j ≤ 87 ∧ v2 = nI t ∧ v3 = nI j ∧ (∀ k, k ≠ 11 → M'.1 k = M.1 k) ∧ (∀ z y, z ≠ g → y < 511 → mrow M' z y = mrow M z y) ∧ (∀ y, mrow M' g y = if tb t ≤ y ∧ y < tb t + j then 0 else mrow M g y))
    (fun _ _ v => 87 - v.toNatClampNeg) ⟨0, by omega, rfl, rfl, fun _ _ => rfl, fun _ _ _ _ => rfl, fun y => by rw [if_neg (by omega)]⟩ ?_
  rintro M' v2 v3 K ⟨j, hj, rfl, rfl, h1, h2, h3⟩ hK
  unfold wp_X7_addTuple_28_b wp_X7_tupleAt
  by_cases c : j = 87
  · subst c
    refine gt (by rw [nl87, vv_le (by omega) (by omega)]; omega) (v7_put rfl nl3 hg (by omega) ?_)
    rw [nI_1]
    refine k _ (fun k hk => by rw [xI_k hk]; exact h1 k hk) (fun z y hz hy => by rw [mrow_put_ne M' _ hz (by omega) hy]; exact h2 z y hz hy) (fun y => ?_)
    rw [mrow_put, h3]
  · refine gf (by rw [nl87, vv_le (by omega) (by omega)]; omega) (v7_put (y := tb t + j) rfl (by simp only [nl76, nl87, vv_mul, nI_add]; rfl) hg (by omega) ?_)
    rw [nI_1]
    refine hK _ _ _ ⟨j + 1, by omega, rfl, rfl, fun k hk => by rw [xI_k hk]; exact h1 k hk, fun z y hz hy => by rw [mrow_put_ne M' _ hz (by omega) hy]; exact h2 z y hz hy, fun y => ?_⟩ (by rw [vv_clI (by omega), vv_clI (by omega)]; omega)
    rw [mrow_put, h3]
    by_cases e : y = tb t + j
    · rw [if_pos e, if_pos (by omega)]
    · rw [if_neg e]
      by_cases e2 : tb t ≤ y ∧ y < tb t + j
      · rw [if_pos e2, if_pos (by omega)]
      · rw [if_neg e2, if_neg (by omega)]
theorem op_addTuple (I : Inv n S M) (a : Int32) (hK : ∀ S' M', Inv (n + 1) S' M' → K S' M') :
    wp_X6_addTuple a S (fun r1 S1 => wp_X7_addTuple a M (fun r2 M1 => if r1 = r2 then K S1 M1 else False)) := by
  obtain ⟨⟨b1, b2, b3⟩, b4, b5, b6⟩ := I.2.1
  have hS1 := b3.trans b2
  unfold wp_X6_addTuple wp_X7_addTuple
  by_cases c : 0 ≤ a.toInt ∧ a.toInt < cntM M 9
  rotate_left
  · exact v6_hasGlyph_f b1 hS1 c (g0 (v7_noGlyph_f b1 b2 c (g1 (ge (hK _ _ I.next)))))
  obtain ⟨g, rfl, eg, hg⟩ := vv_nat c.1
  have hg9 : g < cntM M 9 := by omega
  obtain ⟨d1, d2, d3⟩ := b5 g hg9
  have hN := d2.2.1.1
  have hT := d2.2.2.2.1.1
  have eT : S.1 1 g 6 = nI (rT (mrow M g)) := d1.2.2.1.trans d2.2.2.2.1.2
  refine v6_hasGlyph_t b1 hS1 hg9 (g1 ⟨vv_in (by omega) (by omega), ?_⟩)
  rw [vv_clI (by omega), eT]
  by_cases c5 : rT (mrow M g) < 5
  rotate_left
  · refine gf (by rw [nl5, vv_lt (by omega) (by omega)]; exact c5) (v7_noGlyph_t b1 b2 hg9 (g0 (v7_of rfl nl3 (by omega) (by omega) ?_)))
    rw [d2.2.2.2.1.2]
    exact gt (by rw [show rT (mrow M g) = 5 by omega]; rfl) (ge (hK _ _ I.next))
  have hid := b4.1 g (by omega) (rT (mrow M g)) (by omega)
  refine gt (by rw [nl5, vv_lt (by omega) (by omega)]; exact c5) ⟨⟨vv_in (by omega) (by omega), ?_⟩, ?_⟩
  · rw [vv_clI (by omega)]; omega
  rw [vv_clI (k := rT (mrow M g)) (by omega)]
  refine v5_begin (fun S' s1 s2 s3 s4 s5 => ?_)
  rw [xI_s, s1 1 (by omega), eT, nI_1]
  refine v7_noGlyph_t b1 b2 hg9 (g0 (v7_of rfl nl3 (by omega) (by omega) ?_))
  rw [d2.2.2.2.1.2]
  refine gf (by rw [nl5, vv_eq (by omega) (by omega)]; omega) (w7_addTuple (by omega) c5 (fun M' m1 m2 m3 => ?_))
  refine gt (by rw [nI_s1 (by omega) (by omega), Nat.add_sub_cancel]) (hK _ _ ?_)
  have t76 : ∀ y, y < 76 → y ≠ 3 → mrow M' g y = mrow M g y := fun y hy hy3 => by rw [m3, if_neg hy3, if_neg (by unfold tb; omega)]
  have eN : rN (mrow M' g) = rN (mrow M g) := rN_fr (t76 2 (by omega) (by omega))
  have e3 : mrow M' g 3 = nI (rT (mrow M g) + 1) := by rw [m3, if_pos rfl]
  have eT' : rT (mrow M' g) = rT (mrow M g) + 1 := by unfold rT; rw [e3, vv_clI (by unfold rT at hT; omega)]; rfl
  have old : ∀ t, t < rT (mrow M g) → ∀ x, tb t ≤ x → x < tb t + 87 → mrow M' g x = mrow M g x := fun t ht x h1 h2 => by
    have := tb_ne (t := rT (mrow M g)) (t' := t) (by omega) h1 h2
    rw [m3, if_neg (by unfold tb at h1; omega), if_neg (by omega)]
  have new : ∀ x, tb (rT (mrow M g)) ≤ x → x < tb (rT (mrow M g)) + 87 → mrow M' g x = 0 := fun x h1 h2 => by rw [m3, if_neg (by unfold tb at h1; omega), if_pos ⟨h1, h2⟩]
  have keep : ∀ z, z < cntM M 9 → mrow M' z 0 = mrow M z 0 ∧ rN (mrow M' z) = rN (mrow M z) ∧ ∀ c, c < rN (mrow M z) → mrow M' z (52 + c) = mrow M z (52 + c) := by
    intro z hz
    by_cases ez : z = g
    · subst ez; exact ⟨t76 0 (by omega) (by omega), eN, fun c hc => t76 _ (by omega) (by omega)⟩
    · have := (b5 z hz).2.1.2.1.1
      exact ⟨m2 z 0 ez (by omega), rN_fr (m2 z 2 ez (by omega)), fun c hc => m2 z _ ez (by omega)⟩
  have hcno : ∀ p, p < 24 → cno (mrow M' g) p = cno (mrow M g) p := by
    intro p
    induction p with
    | zero => intro _; rfl
    | succ p ih =>
      intro hp
      show cno (mrow M' g) p + _ = cno (mrow M g) p + _
      rw [ih (by omega), t76 (52 + (p + 1)) (by omega) (by omega)]
  refine I.row hg9 (fun k hk => by rw [xI_k (by omega)]; exact s1 k (by omega)) (by rw [xI_k (by omega), s1 3 (by omega)]) (fun k z hk hz => ?_) (fun k z hk hz => by rw [xI_k (by omega)]; exact s3 k z (by omega)) (fun z _ => by show S'.2.2 16 z = _; rw [s2]) (by show S'.2.2 18 = _; rw [s2]) (b4.fr (by show S'.2.2 16 = _; rw [s2]) (by show S'.2.2 18 = _; rw [s2])) (fun k hk => m1 k (by omega)) (fun j hj => by rw [m1 0 (by omega)]) m2 ?_ ?_ ?_ ?_
  · by_cases e1 : k = 1
    · subst e1
      rw [← s1 1 (by omega)]
      funext w
      rw [xI_1, if_neg (by omega)]
    · rw [xI_k e1, s1 k (by omega)]
  · obtain ⟨e1, e2, e4, e5, e6, e7, e8, e9, e10⟩ := d1
    unfold GlRel
    rw [eN, eT', xI_s, xI_k (k' := 12) (by omega), xI_k (k' := 13) (by omega), xI_k (k' := 14) (by omega), xI_k (k' := 15) (by omega), xI_1, if_neg (by omega), xI_1, if_neg (by omega), s1 1 (by omega), s1 12 (by omega), s1 13 (by omega), s1 14 (by omega), s1 15 (by omega), t76 0 (by omega) (by omega), t76 1 (by omega) (by omega), t76 2 (by omega) (by omega), e3]
    refine ⟨e1, e2, rfl, e5, e6, fun p hp => ?_, fun hz p hp => ?_, fun hz c hc => ?_, fun t ht => ?_⟩
    · rw [t76 (4 + p) (by omega) (by omega), t76 (28 + p) (by omega) (by omega)]; exact e7 p hp
    · rw [hcno p (by omega)]; exact e8 hz p hp
    · rw [t76 (52 + c) (by omega) (by omega)]; exact e9 hz c hc
    · show TupRel _ (S'.2.2 16 g t) _ t
      rw [s2]
      by_cases et : t = rT (mrow M g)
      · subst et
        have q0 : ∀ pl, pl < 25 → fl (mrow M' g) (rT (mrow M g)) (slo pl) = 0 := fun pl hp => new _ (by omega) (by have := slo_lt hp; omega)
        refine ⟨fun a ha => ?_, ⟨0, ?_, by omega, fun pl hp => ?_⟩, fun pl hp hf => ?_⟩
        · rw [xI_k (by omega), xI_k (by omega), xI_k (by omega), new _ (by omega) (by omega), new _ (by omega) (by omega), new _ (by omega) (by omega)]
          exact s5 a ha
        · rw [xI_k (by omega)]; exact s4
        · rw [q0 pl hp]; simp
        · rw [q0 pl hp] at hf; exact absurd hf (by decide)
      · refine (e10 t (by omega)).fr2 (fun k hk => ?_) (old t (by omega))
        rw [xI_k (by omega)]
        exact s3 k _ (fun e => et (b4.2.1 g (by omega) t _ (by omega) (by omega) e))
  · obtain ⟨e1, e2, e4, e5, e6, e7, e8⟩ := d2
    unfold RowOk
    rw [eN, eT', t76 0 (by omega) (by omega), t76 2 (by omega) (by omega), e3]
    refine ⟨e1, e2, e4, ⟨by omega, rfl⟩, fun hz => ⟨fun p hp => ?_, fun hp => ?_⟩, fun hz c hc => ?_, fun t ht => ?_⟩
    · rw [t76 (52 + p) (by omega) (by omega)]; exact (e6 hz).1 p hp
    · rw [t76 52 (by omega) (by omega)]; exact (e6 hz).2 hp
    · rw [t76 (52 + c) (by omega) (by omega)]; exact e7 hz c hc
    · by_cases et : t = rT (mrow M g)
      · subst et
        have q0 : ∀ s, s < 25 → fl (mrow M' g) (rT (mrow M g)) s = 0 := fun s hs => new _ (by omega) (by omega)
        refine ⟨fun a ha => ?_, fun a ha hb => ?_, fun s hs => Or.inl (q0 s hs), fun s h1 h2 => q0 s (by omega), fun h => by rw [q0 24 (by omega)] at h; exact absurd h (by decide)⟩
        · rw [new _ (by omega) (by omega), new _ (by omega) (by omega), new _ (by omega) (by omega)]; decide
        · rw [new _ (by omega) (by omega), new _ (by omega) (by omega), new _ (by omega) (by omega)]; exact ⟨rfl, rfl, rfl⟩
      · exact (e8 t (by omega)).fr2 (old t (by omega))
  · obtain ⟨B, D, f1, f2, f3, f4, f5, f6⟩ := d3
    have := PN_le n
    refine ⟨B, D, f1, f2, by omega, by rw [t76 1 (by omega) (by omega)]; exact f4, fun p hp => ?_, fun t ht s hs hf => ?_⟩
    · rw [eN] at hp
      rw [t76 (4 + p) (by omega) (by omega), t76 (28 + p) (by omega) (by omega)]; exact f5 p hp
    · rw [eT'] at ht
      by_cases et : t = rT (mrow M g)
      · subst et
        rw [show fl (mrow M' g) (rT (mrow M g)) s = 0 from new _ (by omega) (by omega)] at hf
        exact absurd hf (by decide)
      · have hx := old t (by omega)
        have ef : fl (mrow M' g) t s = fl (mrow M g) t s := hx _ (by omega) (by omega)
        have ex : dlx (mrow M' g) t s = dlx (mrow M g) t s := hx _ (by omega) (by omega)
        have ey : dly (mrow M' g) t s = dly (mrow M g) t s := hx _ (by omega) (by omega)
        rw [ef] at hf
        rw [ex, ey]
        exact f6 t (by omega) s hs hf
  · refine I.2.2.2.2.2.pre (fun z hz => ?_) (fun z hz => ?_) (m1 26 (by omega)) (m1 25 (by omega)) (by rw [m1 0 (by omega)]) (by rw [m1 0 (by omega)])
    · rw [ptsOf_keep b1 (fun z hz => (b5 z hz).2.1) keep 6 z hz]; exact I.2.2.2.2.2.1 z hz
    · obtain ⟨k1, k2, k3⟩ := keep z hz
      exact ⟨k1.symm, by omega, fun c hc => (k3 c hc).symm⟩
end ADDT
