def gvM (M : xS) (g t s : Nat) (x y : Int32) : xS := xI (xI (xI M 11 0 (511 * g + (tb t + 12 + s)) 1) 11 0 (511 * g + (tb t + 37 + s)) x) 11 0 (511 * g + (tb t + 62 + s)) y
theorem v7_gives {g t s : Nat} {x y : Int32} {M : xS} {Q : xS → Prop} (hg : g < 6) (ht : t < 5) (hs : s < 25) (k : Q (gvM M g t s x y)) : wp_X7_gives (nI g) (nI t) (nI s) x y M Q := by
  unfold wp_X7_gives wp_X7_tupleAt
  refine v7_put (y := tb t + 12 + s) rfl (by simp only [nl76, nl87, nl12, vv_mul, nI_add]; rfl) hg (by unfold tb; omega) ?_
  refine v7_put (y := tb t + 37 + s) rfl (by simp only [nl76, nl87, nl37, vv_mul, nI_add]; rfl) hg (by unfold tb; omega) ?_
  refine v7_put (y := tb t + 62 + s) rfl (by simp only [nl76, nl87, nl62, vv_mul, nI_add]; rfl) hg (by unfold tb; omega) ?_
  exact k
theorem gv_row (M : xS) (g t s : Nat) (x y : Int32) (z : Nat) : mrow (gvM M g t s x y) g z = if z = tb t + 62 + s then y else if z = tb t + 37 + s then x else if z = tb t + 12 + s then 1 else mrow M g z := by
  unfold gvM
  rw [mrow_put, mrow_put, mrow_put]
theorem gv_fl {M : xS} {g t s : Nat} {x y : Int32} {z : Nat} (hs : s < 25) (hz : z < 25) : fl (mrow (gvM M g t s x y) g) t z = if z = s then 1 else fl (mrow M g) t z := by
  unfold fl
  rw [gv_row, if_neg (by omega), if_neg (by omega)]
  by_cases e : z = s
  · rw [if_pos e, if_pos (by omega)]
  · rw [if_neg e, if_neg (by omega)]
theorem gv_dx {M : xS} {g t s : Nat} {x y : Int32} {z : Nat} (hs : s < 25) (hz : z < 25) : dlx (mrow (gvM M g t s x y) g) t z = if z = s then x else dlx (mrow M g) t z := by
  unfold dlx
  rw [gv_row, if_neg (by omega)]
  by_cases e : z = s
  · rw [if_pos e, if_pos (by omega)]
  · rw [if_neg e, if_neg (by omega), if_neg (by omega)]
theorem gv_dy {M : xS} {g t s : Nat} {x y : Int32} {z : Nat} (hs : s < 25) (hz : z < 25) : dly (mrow (gvM M g t s x y) g) t z = if z = s then y else dly (mrow M g) t z := by
  unfold dly
  rw [gv_row]
  by_cases e : z = s
  · rw [if_pos e, if_pos (by omega)]
  · rw [if_neg e, if_neg (by omega), if_neg (by omega), if_neg (by omega)]
theorem slo_inj {a b : Nat} (ha : a < 25) (hb : b < 25) : (slo a = slo b) = (a = b) := by unfold slo; split <;> split <;> simp <;> omega
def Run (w : (Int32 → xS → Prop) → Prop) (r : Int32) (S' : xS) : Prop := ∀ Q, Q r S' → w Q
theorem op_of {w6 w7 : (Int32 → xS → Prop) → Prop} {r : Int32} {S' M' : xS} {K : xS → xS → Prop} (h6 : Run w6 r S') (h7 : Run w7 r M') (k : K S' M') : w6 (fun r1 S1 => w7 (fun r2 M1 => if r1 = r2 then K S1 M1 else False)) := h6 _ (h7 _ (ge k))
section TOUCH
variable {n : Nat} {S M : xS} {K : xS → xS → Prop}
theorem touch_inv (I : Inv n S M) {g t pl : Nat} {x y : Int32} (hg : g < cntM M 9) (ht : t < rT (mrow M g)) (hp : pl ≤ rN (mrow M g)) (hx : rng x (-2000) 2000) (hy : rng y (-2000) 2000) (h0 : pl = 0 → y = 0) {m : Nat} (e : S.1 5 (S.2.2 16 g t) 3 = nI m) (hm : m < 2 ^ 25) (hb : ∀ p, p < 25 → m.testBit p = decide (fl (mrow M g) t (slo p) = 1)) :
    Inv (n + 1) (xI (xI (xI S 5 (S.2.2 16 g t) 3 (nI (bOn m pl))) 27 (S.2.2 16 g t) pl x) 28 (S.2.2 16 g t) pl y) (gvM M g t (slo pl) x y) := by
  obtain ⟨d1, d2, d3⟩ := I.2.1.2.2.1 g hg
  have hN := d2.2.1.1
  have hp25 : pl < 25 := by omega
  have hs := slo_lt hp25
  obtain ⟨u1, u2, u3⟩ := d1.2.2.2.2.2.2.2.2 t ht
  obtain ⟨w1, w2, w3, w4, w5⟩ := d2.2.2.2.2.2.2 t ht
  refine I.tup hg ht (fun k hk => by rw [xI_k (by omega), xI_k (by omega), xI_k (by omega)]) rfl (fun k z hz => ?_) (fun k hk => by unfold gvM; rw [xI_k hk, xI_k hk, xI_k hk]) (fun z hz => ?_) ⟨fun a ha => ?_, ⟨bOn m pl, ?_, bOn_lt hm hp25, fun q hq => ?_⟩, fun q hq hf => ?_⟩ ⟨fun a ha => ?_, fun a ha hb => ?_, fun s h25 => ?_, fun s h1 h2 => ?_, fun h24 => ?_⟩ (fun s h25 hf => ?_)
  · funext j
    rw [xI_1, if_neg (by omega), xI_1, if_neg (by omega), xI_1, if_neg (by omega)]
  · unfold gvM
    rw [xI_1, if_neg (by omega), xI_1, if_neg (by omega), xI_1, if_neg (by omega)]
  · rw [xI_k (by omega), xI_k (by omega), xI_k (by omega), xI_k (by omega), xI_k (by omega), xI_k (by omega), xI_k (by omega), xI_k (by omega), xI_k (by omega)]
    simp only [gv_row]
    rw [if_neg (by omega), if_neg (by omega), if_neg (by omega), if_neg (by omega), if_neg (by omega), if_neg (by omega), if_neg (by omega), if_neg (by omega), if_neg (by omega)]
    exact u1 a ha
  · rw [xI_k (by omega), xI_k (by omega), xI_s]
  · rw [gv_fl hs (slo_lt hq), bOn_bit, hb q hq]
    by_cases eq : q = pl
    · subst eq; rw [if_pos rfl]; simp
    · rw [if_neg (by rw [slo_inj hq hp25]; exact eq), decide_eq_false (show ¬ pl = q by omega), Bool.or_false]
  · rw [gv_fl hs (slo_lt hq)] at hf
    rw [gv_dx hs (slo_lt hq), gv_dy hs (slo_lt hq), xI_k (k' := 27) (by omega), xI_1, xI_1 _ 28, xI_k (k' := 27) (by omega), xI_k (k' := 28) (by omega), xI_k (k' := 28) (by omega)]
    by_cases eq : q = pl
    · subst eq; rw [if_pos (by omega), if_pos rfl, if_pos (by omega), if_pos rfl]; exact ⟨rfl, rfl⟩
    · have es : ¬ slo q = slo pl := by rw [slo_inj hq hp25]; exact eq
      rw [if_neg es] at hf
      rw [if_neg (by omega), if_neg es, if_neg (by omega), if_neg es]
      exact u3 q hq hf
  · simp only [gv_row]
    rw [if_neg (by omega), if_neg (by omega), if_neg (by omega), if_neg (by omega), if_neg (by omega), if_neg (by omega), if_neg (by omega), if_neg (by omega), if_neg (by omega)]
    exact w1 a ha
  · simp only [gv_row]
    rw [if_neg (by omega), if_neg (by omega), if_neg (by omega), if_neg (by omega), if_neg (by omega), if_neg (by omega), if_neg (by omega), if_neg (by omega), if_neg (by omega)]
    exact w2 a ha hb
  · rw [gv_fl hs h25]
    split
    · exact Or.inr rfl
    · exact w3 s h25
  · rw [gv_fl hs (by omega), if_neg (by unfold slo; split <;> omega)]
    exact w4 s h1 h2
  · rw [gv_dy hs (by omega)]
    rw [gv_fl hs (by omega)] at h24
    by_cases e0 : pl = 0
    · subst e0; rw [if_pos (by rfl)]; exact h0 rfl
    · have : ¬ 24 = slo pl := by unfold slo; rw [if_neg e0]; omega
      rw [if_neg this] at h24 ⊢
      exact w5 h24
  · rw [gv_fl hs h25] at hf
    rw [gv_dx hs h25, gv_dy hs h25]
    by_cases es : s = slo pl
    · rw [if_pos es, if_pos es]; exact Or.inr ⟨hx, hy⟩
    · rw [if_neg es] at hf
      rw [if_neg es, if_neg es]; exact Or.inl ⟨hf, rfl, rfl⟩
theorem op_touch (I : Inv n S M) (a b c x y : Int32) (hK : ∀ S' M', Inv (n + 1) S' M' → K S' M') :
    wp_X6_touch a b c x y S (fun r1 S1 => wp_X7_touch a b c x y M (fun r2 M1 => if r1 = r2 then K S1 M1 else False)) := by
  rcases ptErr I a b c with ⟨e, e1, e2, e3, e4⟩ | ⟨g, t, pl, rfl, rfl, ec, ec2, hg, ht, hp, e3, e4⟩
  · exact op_of (w6 := wp_X6_touch a b c x y S) (w7 := wp_X7_touch a b c x y M) (r := e) (fun Q k => e3 _ (gf e1 k)) (fun Q k => e4 _ (gf e2 k)) (hK _ _ I.next)
  · obtain ⟨d1, d2, d3⟩ := I.2.1.2.2.1 g hg
    have hg6 := I.2.1.1.1
    have hN := d2.2.1.1
    have hT := d2.2.2.2.1.1
    have hid := I.2.1.2.1.1 g (by omega) t (by omega)
    obtain ⟨m, u1, u2, u3⟩ := (d1.2.2.2.2.2.2.2.2 t ht).2.1
    have z0 : (0 : Int32).toInt = 0 := rfl
    have z1 : (-2000 : Int32).toInt = -2000 := rfl
    have z2 : (2000 : Int32).toInt = 2000 := rfl
    have y1 : (-2000 : Int64).toInt = -2000 := rfl
    have y2 : (2000 : Int64).toInt = 2000 := rfl
    have z3 : (-(2000 : Int32)).toInt = -2000 := rfl
    have z4 : (-(0 : Int32)).toInt = 0 := rfl
    by_cases cx : -2000 ≤ x.toInt ∧ x.toInt ≤ 2000
    rotate_left
    · refine op_of (w6 := wp_X6_touch (nI g) (nI t) c x y S) (w7 := wp_X7_touch (nI g) (nI t) c x y M) (r := -1000005) (fun Q k => e3 _ (g0 ?_)) (fun Q k => e4 _ (gt (by decide) (v7_in_f (by rw [i2l_toInt, y1, y2]; exact cx) (g0 k)))) (hK _ _ I.next)
      unfold wp_X6_touch_30
      by_cases e0 : c + 1 = 0
      · exact gt e0 (v6_within_f (by rw [z1, z2]; exact cx) (g0 k))
      · exact gf e0 (v6_within_f (by rw [z1, z2]; exact cx) (g0 k))
    by_cases cy : (-2000 ≤ y.toInt ∧ y.toInt ≤ 2000) ∧ (pl = 0 → y = 0)
    rotate_left
    · refine op_of (w6 := wp_X6_touch (nI g) (nI t) c x y S) (w7 := wp_X7_touch (nI g) (nI t) c x y M) (r := -1000005) (fun Q k => e3 _ (g0 ?_)) (fun Q k => e4 _ (gt (by decide) (v7_in_t (by rw [i2l_toInt, y1, y2]; exact cx) (g1 ?_)))) (hK _ _ I.next)
      · unfold wp_X6_touch_30
        by_cases e0 : pl = 0
        · subst e0
          refine gt (by rw [ec]; rfl) (v6_within_t (by rw [z1, z2]; exact cx) (g1 (v6_within_f ?_ (g0 k))))
          rw [z4, z0]
          intro h
          have ey : y = 0 := by apply Int32.toInt_inj.mp; rw [z0]; omega
          exact cy ⟨by omega, fun _ => ey⟩
        · refine gf (by rw [ec, nl0, vv_eq (by omega) (by omega)]; exact e0) (v6_within_t (by rw [z1, z2]; exact cx) (g1 (v6_within_f ?_ (g0 k))))
          rw [z3, z2]
          intro h
          exact cy ⟨h, fun h2 => absurd h2 e0⟩
      · by_cases cy2 : -2000 ≤ y.toInt ∧ y.toInt ≤ 2000
        · have e0 : pl = 0 := Decidable.byContradiction fun h => cy ⟨cy2, fun h2 => absurd h2 h⟩
          have ey : ¬ y = 0 := fun h => cy ⟨cy2, fun _ => h⟩
          exact v7_in_t (by rw [i2l_toInt, y1, y2]; exact cy2) (g1 (gf (by rw [i32_le, z0]; omega) (gf ey k)))
        · exact v7_in_f (by rw [i2l_toInt, y1, y2]; exact cy2) (g0 k)
    have fin := hK _ _ (touch_inv I hg ht hp cx cy.1 cy.2 u1 u2 u3)
    have hb : m.testBit pl = decide (fl (mrow M g) t (slo pl) = 1) := u3 pl (by omega)
    refine op_of (w6 := wp_X6_touch (nI g) (nI t) c x y S) (w7 := wp_X7_touch (nI g) (nI t) c x y M) (r := if fl (mrow M g) t (slo pl) = 1 then 0 else 1) (fun Q k => e3 _ (g0 ?_)) (fun Q k => e4 _ (gt (by decide) (v7_in_t (by rw [i2l_toInt, y1, y2]; exact cx) (g1 (v7_in_t (by rw [i2l_toInt, y1, y2]; exact cy.1) (g1 ?_)))))) fin
    · have good : ∀ s0 : Int32, (-s0).toInt ≤ y.toInt ∧ y.toInt ≤ s0.toInt → wp_X6_touch_30 (nI g) (nI t) c x y Q S s0 := by
        intro s0 hs0
        unfold wp_X6_touch_30 wp_X6_touch_107
        refine v6_within_t (by rw [z1, z2]; exact cx) (g1 (v6_within_t hs0 (g1 ⟨vv_in (by omega) (by omega), ⟨vv_in (by omega) (by omega), ?_⟩, ?_⟩)))
        · rw [vv_clI (by omega), vv_clI (by omega)]; omega
        · rw [vv_clI (by omega), vv_clI (by omega), ec]
          refine v5_touches u1 u2 (by omega) ?_
          unfold wp_X5_putDelta
          refine ⟨vv_in (by omega) (by omega), vv_in (by omega) (by omega), ?_⟩
          rw [vv_clI (by omega), u1, nI_on (by omega), hb]
          by_cases cf : fl (mrow M g) t (slo pl) = 1
          · rw [if_pos cf] at k; rw [decide_eq_true cf]; exact g1 k
          · rw [if_neg cf] at k; rw [decide_eq_false cf]; exact g0 k
      by_cases e0 : pl = 0
      · subst e0
        exact gt (by rw [ec]; rfl) (good 0 (by rw [z4, z0, cy.2 rfl, z0]; omega))
      · exact gf (by rw [ec, nl0, vv_eq (by omega) (by omega)]; exact e0) (good 2000 (by rw [z3, z2]; exact cy.1))
    · have h : wp_X7_touch_59 (nI g) (nI t) c x y Q M := by
        unfold wp_X7_touch_59 wp_X7_touch_77
        refine v7_slot ec2 (by omega) (v7_touches (by omega) (by omega) (slo_lt (by omega)) ?_)
        by_cases cf : fl (mrow M g) t (slo pl) = 1
        · rw [if_pos cf] at k
          rw [decide_eq_true cf]
          exact g1 (v7_slot ec2 (by omega) (v7_gives (by omega) (by omega) (slo_lt (by omega)) k))
        · rw [if_neg cf] at k
          rw [decide_eq_false cf]
          exact g0 (v7_slot ec2 (by omega) (v7_gives (by omega) (by omega) (slo_lt (by omega)) k))
      by_cases c0 : 0 ≤ c
      · exact gt c0 h
      · rw [i32_le, z0] at c0
        exact gf (by rw [i32_le, z0]; exact c0) (gt (cy.2 (by omega)) h)
end TOUCH
