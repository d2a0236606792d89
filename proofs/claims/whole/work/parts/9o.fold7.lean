section FOLD7
variable {M : xS} {g na gi pb : Nat}
theorem depB_na {r : Nat → Int32} {t na n pb : Nat} (hO : TupOk na n r t) : ∀ d, na + d ≤ 4 → depB r t pb (na + d) = depB r t pb na
  | 0, _ => rfl
  | d + 1, h => by
    show (depB r t pb (na + d) && (decide (r (tb t + 3 * (na + d) + 1) = 0) || pb.testBit (na + d))) = depB r t pb na
    rw [(hO.2.1 (na + d) (by omega) (by omega)).2.1, decide_eq_true rfl, Bool.true_or, Bool.and_true]
    exact depB_na hO d (by omega)
theorem w7_isFolded {t n : Nat} (hg : g < 6) (ht : t < 5) (hn : na ≤ 4) (h0 : M.1 0 0 0 = nI na) (hP : ∀ a, pb.testBit a = decide (a < na ∧ ¬ M.1 6 0 a = 0)) (hO : TupOk na n (mrow M g) t) {Q : Int32 → xS → Prop} (k : Q (b2 (selF (mrow M g) pb t)) M) : wp_X7_isFolded (nI g) (nI t) M Q := by
  unfold wp_X7_isFolded
  refine wl2 (wp_X7_isFolded_5 (nI g) (nI t) Q) (fun K => wp_X7_isFolded_5_b (nI g) (nI t) K Q) (fun _ _ _ _ => rfl) (fun M' v w => M' = M ∧ ∃ j, j ≤ na ∧ w = nI j ∧ v = b2 (depB (mrow M g) t pb j)) (fun _ _ w => 10 - w.toNatClampNeg) ⟨rfl, 0, by omega, rfl, rfl⟩ ?_
  rintro M' v w K ⟨rfl, j, hj, rfl, rfl⟩ hK
  unfold wp_X7_isFolded_5_b wp_X7_isFolded_51 wp_X7_isFolded_47 wp_X7_isFolded_52 wp_X7_tupleAt
  rw [h0]
  by_cases c : j = na
  · subst c
    have e : selF (mrow M' g) pb t = depB (mrow M' g) t pb j := by
      have := depB_na (pb := pb) hO (4 - j) (by omega)
      rw [show j + (4 - j) = 4 by omega] at this
      exact this
    rw [e] at k
    exact gt (by rw [vv_le (by omega) (by omega)]; omega) ⟨b2_01 _, k⟩
  · have es : depB (mrow M' g) t pb (j + 1) = (depB (mrow M' g) t pb j && (decide (mrow M' g (tb t + 3 * j + 1) = 0) || pb.testBit j)) := rfl
    have step : ∀ x : Int32, x = b2 (depB (mrow M' g) t pb (j + 1)) → K M' x (nI j + 1) := fun x hx => by
      rw [nI_1]
      exact hK _ _ _ ⟨rfl, j + 1, by omega, rfl, hx⟩ (by rw [vv_clI (by omega), vv_clI (by omega)]; omega)
    refine gf (by rw [vv_le (by omega) (by omega)]; omega) ?_
    cases hd : depB (mrow M' g) t pb j
    · exact gt rfl (step 0 (by rw [es, hd]; rfl))
    · refine gf (by decide) (v7_of (y := tb t + 3 * j + 1) rfl (by simp only [nl76, nl87, nl3, nl1, vv_mul, nI_add]; rfl) hg (by unfold tb; omega) ?_)
      by_cases c0 : mrow M' g (tb t + 3 * j + 1) = 0
      · exact gt c0 (step 1 (by rw [es, hd, decide_eq_true c0]; rfl))
      · refine gf c0 ⟨vv_in (by omega) (by omega), ?_⟩
        rw [vv_clI (by omega)]
        by_cases c6 : M'.1 6 0 j = 0
        · exact gt c6 (step 0 (by rw [es, hd, decide_eq_false c0, hP j, decide_eq_false (fun h => h.2 c6)]; rfl))
        · exact gf c6 (step 1 (by rw [es, hd, decide_eq_false c0, hP j, decide_eq_true ⟨by omega, c6⟩]; rfl))
theorem w7_addMoves {t : Nat} {loc : Nat → Int32} (hg : g < 6) (hn : na ≤ 4) (h0 : M.1 0 0 0 = nI na) (hR : RowOk na gi (mrow M g)) (hb : BdP (mrow M g)) (ht : t < rT (mrow M g)) (hl : ∀ a, a < na → M.1 5 0 a = loc a) {Q : xS → Prop}
    (k : ∀ M', M'.1 = M.1 → (∀ s, inS (rN (mrow M g)) s = true → M'.2.1 31 0 s = M.2.1 31 0 s + scV (mrow M g) t loc 4 * Int32.toInt64 (dX (mrow M g) t s) ∧ M'.2.1 32 0 s = M.2.1 32 0 s + scV (mrow M g) t loc 4 * Int32.toInt64 (dY (mrow M g) t s)) → Q M') : wp_X7_addMoves (nI g) (nI t) M Q := by
  have hN := hR.2.1.1
  have hT5 := hR.2.2.2.1.1
  unfold wp_X7_addMoves
  refine w7_scalar hg (by omega) hn h0 (hR.2.2.2.2.2.2 t ht) hl ?_
  generalize hsc : scV (mrow M g) t loc 4 = sc at *
  refine wl2 (wp_X7_addMoves_10 (nI g) (nI t) Q) (fun K => wp_X7_addMoves_10_b (nI g) (nI t) K Q) (fun _ _ _ _ => rfl)
    (fun M' a b => a = sc ∧ ∃ j, j ≤ rN (mrow M g) + 1 ∧ b = nI j ∧ M'.1 = M.1 ∧ (∀ p, p < j → M'.2.1 31 0 (sby (rN (mrow M g)) p) = M.2.1 31 0 (sby (rN (mrow M g)) p) + sc * Int32.toInt64 (dX (mrow M g) t (sby (rN (mrow M g)) p)) ∧ M'.2.1 32 0 (sby (rN (mrow M g)) p) = M.2.1 32 0 (sby (rN (mrow M g)) p) + sc * Int32.toInt64 (dY (mrow M g) t (sby (rN (mrow M g)) p))) ∧
      (∀ p, j ≤ p → p ≤ rN (mrow M g) → M'.2.1 31 0 (sby (rN (mrow M g)) p) = M.2.1 31 0 (sby (rN (mrow M g)) p) ∧ M'.2.1 32 0 (sby (rN (mrow M g)) p) = M.2.1 32 0 (sby (rN (mrow M g)) p))) (fun _ _ b => 100 - b.toNatClampNeg) ⟨rfl, 0, by omega, rfl, rfl, fun p h => by omega, fun _ _ _ => ⟨rfl, rfl⟩⟩ ?_
  rintro M' a b K ⟨rfl, j, hj, rfl, e1, hv, hu⟩ hK
  have er : ∀ M'' : xS, M''.1 = M.1 → mrow M'' g = mrow M g := fun M'' h => by unfold mrow; rw [h]
  unfold wp_X7_addMoves_10_b
  refine v7_of rfl nl2 hg (by omega) ?_
  rw [er M' e1, hR.2.1.2]
  by_cases c : j = rN (mrow M g) + 1
  · subst c
    refine gt (by rw [vv_lt (by omega) (by omega)]; omega) (k M' e1 (fun s hs => ?_))
    obtain ⟨p, hp, rfl⟩ := sby_of hs
    exact hv p (by omega)
  · have hsb := sby_to hN (show j ≤ rN (mrow M g) by omega)
    have hin := vv_in (k := sby (rN (mrow M g)) j) (N := 25) hsb.2 (by omega)
    obtain ⟨u1, u2⟩ := hu j (Nat.le_refl _) (by omega)
    refine gf (by rw [vv_lt (by omega) (by omega)]; omega) (v7_slotS (N := rN (mrow M g)) hg (by rw [er M' e1]; exact hR.2.1.2) hN (by omega) ⟨hin, w7_delta (na := na) (gi := gi) hg (by rw [er M' e1]; exact hR) (by rw [er M' e1]; exact hb) (by rw [er M' e1]; exact ht) (by rw [er M' e1]; exact sby_ok hN (by omega)) ⟨hin, hin, ?_⟩⟩)
    rw [er M' e1, vv_clI (k := sby (rN (mrow M g)) j) (by omega), u1]
    have e1' : ∀ x, (xJ M' 31 0 (sby (rN (mrow M g)) j) x).1 = M.1 := fun x => e1
    refine w7_delta (na := na) (gi := gi) hg (by rw [er _ (e1' _)]; exact hR) (by rw [er _ (e1' _)]; exact hb) (by rw [er _ (e1' _)]; exact ht) (by rw [er _ (e1' _)]; exact sby_ok hN (by omega)) ⟨hin, ?_⟩
    rw [er _ (e1' _), nI_1, xJ_21 _ 31, if_neg (by omega), u2]
    refine hK _ _ _ ⟨rfl, j + 1, by omega, rfl, e1, fun p hp => ?_, fun p hp hpN => ?_⟩ (by rw [vv_clI (by omega), vv_clI (by omega)]; omega)
    · rw [xJ_21 _ 32, if_neg (by omega), xJ_21 _ 31, xJ_21 _ 32]
      by_cases ep : p = j
      · rw [if_pos ⟨rfl, rfl, by rw [ep]⟩, if_pos ⟨rfl, rfl, by rw [ep]⟩, ep]; exact ⟨rfl, rfl⟩
      · have hne : ¬ sby (rN (mrow M g)) p = sby (rN (mrow M g)) j := by rw [sby_inj hN (by omega) (by omega)]; exact ep
        rw [if_neg (fun h => hne h.2.2), if_neg (fun h => hne h.2.2), xJ_21 _ 31, if_neg (by omega)]
        exact hv p (by omega)
    · have hne : ¬ sby (rN (mrow M g)) p = sby (rN (mrow M g)) j := by rw [sby_inj hN (by omega) (by omega)]; omega
      rw [xJ_21 _ 32, if_neg (by omega), xJ_21 _ 31, xJ_21 _ 32, if_neg (fun h => hne h.2.2), if_neg (fun h => hne h.2.2), xJ_21 _ 31, if_neg (by omega)]
      exact hu p (by omega) hpN
def cS (sel : Nat → Bool) : Nat → Nat
  | 0 => 0
  | t + 1 => cS sel t + (if sel t = true then 1 else 0)
theorem cS_le (sel : Nat → Bool) : ∀ t, cS sel t ≤ t
  | 0 => Nat.le_refl _
  | t + 1 => by
    have := cS_le sel t
    show cS sel t + _ ≤ t + 1
    split <;> omega
theorem cS_0 {sel : Nat → Bool} : ∀ T, cS sel T = 0 ↔ ∀ t, t < T → sel t = false
  | 0 => ⟨fun _ t h => by omega, fun _ => rfl⟩
  | T + 1 => by
    show cS sel T + (if sel T = true then 1 else 0) = 0 ↔ _
    cases h : sel T
    · rw [if_neg (by decide), Nat.add_zero, cS_0 T]
      refine ⟨fun H t ht => ?_, fun H t ht => H t (by omega)⟩
      by_cases e : t = T
      · rw [e]; exact h
      · exact H t (by omega)
    · rw [if_pos rfl]
      refine ⟨fun H => by omega, fun H => ?_⟩
      have := H T (by omega)
      rw [h] at this
      exact absurd this (by decide)
/- the sums of the moves -/
theorem w7_sums {loc : Nat → Int32} {r : Nat → Int32} (hg : g < 6) (hr : mrow M g = r) (hn : na ≤ 4) (h0 : M.1 0 0 0 = nI na) (hP : ∀ a, pb.testBit a = decide (a < na ∧ ¬ M.1 6 0 a = 0)) (hR : RowOk na gi r) (hb : BdP r) (hl : ∀ a, a < na → M.1 5 0 a = loc a) {Q : Int32 → xS → Prop}
    (k0 : (∀ t, t < rT r → selF r pb t = false) → ∀ M', M'.1 = M.1 → Q 0 M')
    (k1 : (∃ t, t < rT r ∧ selF r pb t = true) → ∀ M', M'.1 = M.1 → (∀ s, inS (rN r) s = true → M'.2.1 31 0 s = plS r loc s 0 (selF r pb) (rT r) ∧ M'.2.1 32 0 s = plS r loc s 1 (selF r pb) (rT r)) → ∃ n5, wp_X7_fold_97 (nI g) Q n5 M' (nI (cS (selF r pb) (rT r))) (dnI (rT r))) :
    ∃ n5, wp_X7_fold_20 (nI g) Q n5 M 0 0 := by
  have hN := hR.2.1.1
  have hT5 := hR.2.2.2.1.1
  have er : ∀ M'' : xS, M''.1 = M.1 → mrow M'' g = r := fun M'' h => by rw [← hr]; unfold mrow; rw [h]
  refine wl2 (wp_X7_fold_20 (nI g) Q) (fun K => wp_X7_fold_20_b (nI g) K Q) (fun _ _ _ _ => rfl)
    (fun M' a b => a = 0 ∧ ∃ j, j ≤ 25 ∧ b = nI j ∧ M'.1 = M.1 ∧ ∀ s, s < j → M'.2.1 31 0 s = 0 ∧ M'.2.1 32 0 s = 0) (fun _ _ b => 25 - b.toNatClampNeg) ⟨rfl, 0, by omega, rfl, rfl, fun s h => by omega⟩ ?_
  rintro M' a b K ⟨rfl, j, hj, rfl, e1, hz⟩ hK
  unfold wp_X7_fold_20_b
  by_cases c : j = 25
  · subst c
    refine gt (by decide) ?_
    refine wl2 (wp_X7_fold_48 (nI g) Q) (fun K => wp_X7_fold_48_b (nI g) K Q) (fun _ _ _ _ => rfl)
      (fun M'' a b => ∃ t, t ≤ rT r ∧ b = nI t ∧ a = nI (cS (selF r pb) t) ∧ M''.1 = M.1 ∧ ∀ s, inS (rN r) s = true → M''.2.1 31 0 s = plS r loc s 0 (selF r pb) t ∧ M''.2.1 32 0 s = plS r loc s 1 (selF r pb) t) (fun _ _ b => 50 - b.toNatClampNeg)
      ⟨0, by omega, rfl, rfl, e1, fun s hs => hz s (by have := inS_iff.mp hs; omega)⟩ ?_
    rintro M'' a b K2 ⟨t, ht, rfl, rfl, e2, hs⟩ hK2
    unfold wp_X7_fold_48_b wp_X7_fold_76
    refine v7_of rfl nl3 hg (by omega) ?_
    rw [er M'' e2, hR.2.2.2.1.2]
    have hcs := cS_le (selF r pb) t
    by_cases ct : t = rT r
    · subst ct
      refine gt (by rw [vv_le (by omega) (by omega)]; omega) ?_
      by_cases cz : cS (selF r pb) (rT r) = 0
      · exact gt (by rw [cz]; rfl) (k0 ((cS_0 _).mp cz) M'' e2)
      · refine gf (by rw [nl0, vv_eq (by omega) (by omega)]; exact cz) (v7_of rfl nl3 hg (by omega) ?_)
        rw [er M'' e2, hR.2.2.2.1.2, dnI_sub (by omega)]
        refine k1 ?_ M'' e2 hs
        rcases Classical.em (∃ t, t < rT r ∧ selF r pb t = true) with h | h
        · exact h
        · refine absurd ((cS_0 (sel := selF r pb) (rT r)).mpr (fun t ht => ?_)) cz
          cases hq : selF r pb t
          · rfl
          · exact absurd ⟨t, ht, hq⟩ h
    · refine gf (by rw [vv_le (by omega) (by omega)]; omega) (w7_isFolded (pb := pb) (n := rN r) hg (by omega) hn (by rw [e2]; exact h0) (by rw [e2]; exact hP) (by rw [er M'' e2]; exact hR.2.2.2.2.2.2 t (by omega)) ?_)
      rw [er M'' e2, nI_1]
      have ec : cS (selF r pb) (t + 1) = cS (selF r pb) t + (if selF r pb t = true then 1 else 0) := rfl
      have ep : ∀ s v, plS r loc s v (selF r pb) (t + 1) = plS r loc s v (selF r pb) t + (if selF r pb t = true then scV r t loc 4 * Int32.toInt64 (dvV r t s v) else 0) := fun s v => rfl
      cases hsel : selF r pb t
      · refine gt rfl (hK2 _ _ _ ⟨t + 1, by omega, rfl, by rw [ec, hsel]; rfl, e2, fun s hin => ?_⟩ (by rw [vv_clI (by omega), vv_clI (by omega)]; omega))
        rw [ep, ep, hsel, if_neg (by decide), i64_zero_add, if_neg (by decide), i64_zero_add]
        exact hs s hin
      · refine gf (by decide) (w7_addMoves (na := na) (gi := gi) (loc := loc) hg hn (by rw [e2]; exact h0) (by rw [er M'' e2]; exact hR) (by rw [er M'' e2]; exact hb) (by rw [er M'' e2]; omega) (by rw [e2]; exact hl) (fun M3 e3 hm => ?_))
        rw [nI_1]
        refine hK2 _ _ _ ⟨t + 1, by omega, rfl, by rw [ec, hsel, if_pos rfl], e3.trans e2, fun s hin => ?_⟩ (by rw [vv_clI (by omega), vv_clI (by omega)]; omega)
        rw [er M'' e2] at hm
        obtain ⟨m1, m2⟩ := hm s hin
        obtain ⟨n1, n2⟩ := hs s hin
        rw [ep, ep, hsel, if_pos rfl, m1, m2, n1, n2]
        exact ⟨rfl, rfl⟩
  · have hin := vv_in (k := j) (N := 25) (by omega) (by omega)
    refine gf (by rw [nl24, vv_lt (by omega) (by omega)]; omega) ⟨hin, hin, ?_⟩
    rw [vv_clI (by omega), nI_1]
    refine hK _ _ _ ⟨rfl, j + 1, by omega, rfl, e1, fun s hs => ?_⟩ (by rw [vv_clI (by omega), vv_clI (by omega)]; omega)
    rw [xJ_21 _ 32, if_neg (by omega), xJ_21 _ 31, xJ_21 _ 32]
    by_cases e : s = j
    · rw [if_pos ⟨rfl, rfl, e⟩, if_pos ⟨rfl, rfl, e⟩]; exact ⟨rfl, rfl⟩
    · rw [if_neg (fun h => e h.2.2), if_neg (fun h => e h.2.2), xJ_21 _ 31, if_neg (by omega)]
      exact hz s (by omega)
end FOLD7
