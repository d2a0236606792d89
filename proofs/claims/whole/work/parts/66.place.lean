def depB (r : Nat → Int32) (t bits : Nat) : Nat → Bool
  | 0 => true
  | a + 1 => depB r t bits a && (decide (r (tb t + 3 * a + 1) = 0) || bits.testBit a)
def plS (r loc : Nat → Int32) (s : Nat) (v : Int32) (sel : Nat → Bool) : Nat → Int64
  | 0 => 0
  | t + 1 => plS r loc s v sel t + (if sel t = true then scV r t loc 4 * Int32.toInt64 (dvV r t s v) else 0)
def bsS (r : Nat → Int32) (s : Nat) (v : Int32) : Int32 := if s = 24 then (if v = 0 then r 1 else 0) else bsp r s v
def plV (r loc : Nat → Int32) (s : Nat) (v : Int32) (sel : Nat → Bool) : Int64 := Int32.toInt64 (bsS r s v) + nearS (plS r loc s v sel (rT r)) 268435456
theorem depB_15 {r : Nat → Int32} {t : Nat} : depB r t 15 4 = true := by
  simp [depB, show Nat.testBit 15 0 = true from rfl, show Nat.testBit 15 1 = true from rfl, show Nat.testBit 15 2 = true from rfl, show Nat.testBit 15 3 = true from rfl]
theorem depB_false {r : Nat → Int32} {t bits : Nat} : ∀ a b, a ≤ b → depB r t bits a = false → depB r t bits b = false
  | a, 0, h, e => by rw [show a = 0 by omega] at e; exact e
  | a, b + 1, h, e => by
    by_cases c : a = b + 1
    · rw [c] at e; exact e
    · show (depB r t bits b && _) = false
      rw [depB_false a b (by omega) e]; rfl
theorem i64_zero_add (x : Int64) : x + 0 = x := by
  apply Int64.toInt_inj.mp
  have a1 := Int64.toInt_lt x
  have a2 := Int64.le_toInt x
  rw [i64_add] <;> rw [show (0 : Int64).toInt = 0 from rfl] <;> omega
theorem i64_zero_mul (x : Int64) : 0 * x = 0 := by
  apply Int64.toInt_inj.mp
  rw [i64_mul] <;> rw [show (0 : Int64).toInt = 0 from rfl, Int.zero_mul] <;> omega
theorem i64_rt {v : Int64} (h1 : 0 ≤ v.toInt) (h2 : v.toInt ≤ 268435456) : Int32.toInt64 (Int64.toInt32 v) = v := by
  apply Int64.toInt_inj.mp
  rw [i2l_toInt, l2i_toInt] <;> omega
theorem w5_depends {S : xS} {T t bits : Nat} {r : Nat → Int32} {Q : Int32 → xS → Prop} (hT : TupRel S T r t) (hb : bits < 2 ^ 31) (k : Q (b2 (depB r t bits 4)) S) : wp_X5_dependsOnlyOn T (nI bits) S Q := by
  unfold wp_X5_dependsOnlyOn
  refine wl1 (wp_X5_dependsOnlyOn_2 T (nI bits) Q) (fun K => wp_X5_dependsOnlyOn_2_b T (nI bits) K Q) (fun _ _ _ => rfl)
    (fun S' v => S' = S ∧ ∃ a, a ≤ 4 ∧ v = nI a ∧ depB r t bits a = true) (fun _ v => 4 - v.toNatClampNeg) ⟨rfl, 0, by omega, rfl, rfl⟩ ?_
  rintro S' v K ⟨rfl, a, ha, rfl, hd⟩ hK
  unfold wp_X5_dependsOnlyOn_2_b wp_X5_dependsOnlyOn_26
  by_cases c : a = 4
  · subst c
    rw [hd] at k
    exact gt (by rw [nl4, vv_le (by omega) (by omega)]; omega) ⟨Or.inr rfl, k⟩
  · have step : depB r t bits (a + 1) = true → K S' (nI a + 1) := fun h => by
      rw [nI_1]
      exact hK _ _ ⟨rfl, a + 1, by omega, rfl, h⟩ (by rw [vv_clI (by omega), vv_clI (by omega)]; omega)
    have es : depB r t bits (a + 1) = (depB r t bits a && (decide (r (tb t + 3 * a + 1) = 0) || bits.testBit a)) := rfl
    refine gf (by rw [nl4, vv_le (by omega) (by omega)]; omega) ⟨vv_in (by omega) (by omega), ?_⟩
    rw [vv_clI (by omega), (hT.1 a (by omega)).2.1]
    by_cases c0 : r (tb t + 3 * a + 1) = 0
    · exact gt c0 (step (by rw [es, hd, decide_eq_true c0]; rfl))
    · refine gf c0 (v6_hasBit hb (by omega) ?_)
      cases hbit : bits.testBit a
      · have : depB r t bits 4 = false := depB_false (a + 1) 4 (by omega) (by rw [es, hd, decide_eq_false c0, hbit]; rfl)
        rw [this] at k
        exact g0 ⟨Or.inl rfl, k⟩
      · exact g1 (step (by rw [es, hd, decide_eq_false c0, hbit]; rfl))
theorem w1_place {S : xS} {G L na gi pl bits : Nat} {r loc : Nat → Int32} {v : Int32} {Q : Int64 → xS → Prop} (hG : GlRel S G r) (hR : RowOk na gi r) (hid : ∀ t, t < 5 → S.2.2 16 G t < 60) (hp : pl ≤ rN r) (hl : ∀ a, a < 4 → S.1 30 L a = loc a) (hb : bits < 2 ^ 31)
    (k : Q (plV r loc (slo pl) v (fun t => depB r t bits 4)) S) : wp_X1_placeAt G (nI pl) v L (nI bits) S Q := by
  have hN := hR.2.1.1
  have hT := hR.2.2.2.1.1
  unfold wp_X1_placeAt
  refine wl2 (wp_X1_placeAt_6 G (nI pl) v L (nI bits) Q) (fun K => wp_X1_placeAt_6_b G (nI pl) v L (nI bits) K Q) (fun _ _ _ _ => rfl)
    (fun S' x w => S' = S ∧ ∃ t, t ≤ rT r ∧ w = nI t ∧ x = plS r loc (slo pl) v (fun t => depB r t bits 4) t) (fun _ _ w => rT r - w.toNatClampNeg) ⟨rfl, 0, by omega, rfl, rfl⟩ ?_
  rintro S' x w K ⟨rfl, t, ht, rfl, rfl⟩ hK
  unfold wp_X1_placeAt_6_b wp_X1_placeAt_102
  rw [hG.2.2.1.trans hR.2.2.2.1.2]
  by_cases c : t = rT r
  · subst c
    have hin := vv_in (k := pl) (N := 25) (by omega) (by omega)
    refine gt (by rw [vv_le (by omega) (by omega)]; omega) ?_
    rw [vv_clI (by omega)]
    unfold plV bsS at k
    have rq : ∀ y : Int32, Q (Int32.toInt64 y + nearS (plS r loc (slo pl) v (fun t => depB r t bits 4) (rT r)) 268435456) S' → wp_X6_roundedQuotient (plS r loc (slo pl) v (fun t => depB r t bits 4) (rT r)) (268435456 : Int64) S' (fun r2 S1 => (Q ((Int32.toInt64 y) + r2) S1)) := fun y k => v6_rq (by decide) (by decide) k
    by_cases e0 : pl = 0
    · subst e0
      rw [if_pos (show slo 0 = 24 from rfl)] at k
      by_cases cv : v = 0
      · rw [if_pos cv] at k
        exact gt cv ⟨hin, rq _ (by rw [hG.2.2.2.1]; exact k)⟩
      · rw [if_neg cv] at k
        exact gf cv ⟨hin, rq _ (by rw [hG.2.2.2.2.1]; exact k)⟩
    · have es : slo pl = pl - 1 := by unfold slo; rw [if_neg e0]
      have hx := hG.2.2.2.2.2.1 (pl - 1) (by omega)
      rw [show pl - 1 + 1 = pl by omega] at hx
      rw [if_neg (by rw [es]; omega)] at k
      unfold bsp at k
      by_cases cv : v = 0
      · rw [if_pos cv] at k
        exact gt cv ⟨hin, rq _ (by rw [hx.1]; rw [es] at k ⊢; exact k)⟩
      · rw [if_neg cv] at k
        exact gf cv ⟨hin, rq _ (by rw [hx.2]; rw [es] at k ⊢; exact k)⟩
  · have ht' : t < rT r := by omega
    have tr := hG.2.2.2.2.2.2.2.2 t ht'
    have hO := hR.2.2.2.2.2.2 t ht'
    have hin : vp_in (nI t) 5 := vv_in (by omega) (by omega)
    have step : ∀ x, x = plS r loc (slo pl) v (fun t => depB r t bits 4) (t + 1) → K S' x (nI t + 1) := fun x hx => by
      rw [nI_1]
      exact hK _ _ _ ⟨rfl, t + 1, by omega, rfl, hx⟩ (by rw [vv_clI (by omega), vv_clI (by omega)]; omega)
    have es : plS r loc (slo pl) v (fun t => depB r t bits 4) (t + 1) = plS r loc (slo pl) v (fun t => depB r t bits 4) t + (if depB r t bits 4 = true then scV r t loc 4 * Int32.toInt64 (dvV r t (slo pl) v) else 0) := rfl
    refine gf (by rw [vv_le (by omega) (by omega)]; omega) ⟨⟨hin, by rw [vv_clI (by omega)]; exact hid t (by omega)⟩, ?_⟩
    rw [vv_clI (k := t) (by omega)]
    refine w5_depends tr hb ?_
    unfold wp_X1_placeAt_46 wp_X1_placeAt_77
    cases hd : depB r t bits 4
    · refine g0 (gt (by decide) (step _ ?_))
      rw [es, hd, if_neg (by decide), i64_zero_add]
    · refine g1 ⟨⟨hin, hid t (by omega)⟩, w5_scalar tr hO hl ?_⟩
      obtain ⟨s1, s2⟩ := scV_rng hO (loc := loc) 4 (Nat.le_refl _)
      rw [i64_rt s1 s2, vv_clI (k := t) (by omega)]
      by_cases cz : scV r t loc 4 = 0
      · refine gt (by rw [cmp_eq0]; exact cz) (step _ ?_)
        rw [es, hd, if_pos rfl, cz, i64_zero_mul, i64_zero_add]
      · refine gf (by rw [cmp_eq0]; exact cz) ⟨⟨hin, hid t (by omega)⟩, w1_delta hG hR tr hp (step _ ?_)⟩
        rw [es, hd, if_pos rfl]
theorem v7_base {M : xS} {g s : Nat} {v : Int32} {Q : Int32 → xS → Prop} (hg : g < 6) (hs : s < 24 ∨ s = 24) (k : Q (bsS (mrow M g) s v) M) : wp_X7_base (nI g) (nI s) v M Q := by
  unfold wp_X7_base wp_X7_base_35 wp_X7_base_40
  unfold bsS at k
  by_cases c : s = 24
  · rw [if_pos c] at k
    refine gt (by rw [nl24, vv_eq (by omega) (by omega)]; exact c) ?_
    by_cases cv : v = 0
    · rw [if_pos cv] at k; exact gt cv (v7_of rfl nl1 hg (by omega) k)
    · rw [if_neg cv] at k; exact gf cv k
  · rw [if_neg c] at k
    unfold bsp at k
    refine gf (by rw [nl24, vv_eq (by omega) (by omega)]; exact c) ?_
    by_cases cv : v = 0
    · rw [if_pos cv] at k; exact gt cv (v7_of rfl (by rw [nl4, nI_add]) hg (by omega) k)
    · rw [if_neg cv] at k; exact gf cv (v7_of rfl (by rw [nl28, nI_add]) hg (by omega) k)
theorem w7_place {M : xS} {g s na gi : Nat} {loc : Nat → Int32} {v : Int32} {Q : Int64 → xS → Prop} (hg : g < 6) (hn : na ≤ 4) (h0 : M.1 0 0 0 = nI na) (hR : RowOk na gi (mrow M g)) (hb : BdP (mrow M g)) (hs : s < rN (mrow M g) ∨ s = 24) (hl : ∀ a, a < na → M.1 5 0 a = loc a)
    (k : Q (plV (mrow M g) loc s v (fun t => depB (mrow M g) t 15 4)) M) : wp_X7_placeNow (nI g) (nI s) v M Q := by
  have hN := hR.2.1.1
  have hT := hR.2.2.2.1.1
  unfold wp_X7_placeNow
  refine wl2 (wp_X7_placeNow_6 (nI g) (nI s) v Q) (fun K => wp_X7_placeNow_6_b (nI g) (nI s) v K Q) (fun _ _ _ _ => rfl)
    (fun S' x w => S' = M ∧ ∃ t, t ≤ rT (mrow M g) ∧ w = nI t ∧ x = plS (mrow M g) loc s v (fun t => depB (mrow M g) t 15 4) t) (fun _ _ w => rT (mrow M g) - w.toNatClampNeg) ⟨rfl, 0, by omega, rfl, rfl⟩ ?_
  rintro S' x w K ⟨rfl, t, ht, rfl, rfl⟩ hK
  unfold wp_X7_placeNow_6_b
  refine v7_of rfl nl3 hg (by omega) ?_
  rw [hR.2.2.2.1.2]
  by_cases c : t = rT (mrow S' g)
  · subst c
    exact gt (by rw [vv_le (by omega) (by omega)]; omega) (v7_base hg (by omega) (v7_near (near_ne (by decide) (by decide)) k))
  · refine gf (by rw [vv_le (by omega) (by omega)]; omega) (w7_scalar hg (by omega) hn h0 (hR.2.2.2.2.2.2 t (by omega)) hl (w7_delta hg hR hb (by omega) hs ?_))
    rw [nI_1]
    refine hK _ _ _ ⟨rfl, t + 1, by omega, rfl, ?_⟩ (by rw [vv_clI (by omega), vv_clI (by omega)]; omega)
    show _ = plS (mrow S' g) loc s v _ t + (if depB (mrow S' g) t 15 4 = true then _ else 0)
    rw [if_pos depB_15]
