def dnI (j : Nat) : Int32 := if j = 0 then -1 else nI (j - 1)
theorem dnI_s {j : Nat} : dnI (j + 1) = nI j := by unfold dnI; rw [if_neg (by omega), Nat.add_sub_cancel]
theorem dnI_lt {j : Nat} (h : j < 1000) : dnI j < 0 ↔ j = 0 := by
  unfold dnI
  by_cases c : j = 0
  · rw [if_pos c]; exact ⟨fun _ => c, fun _ => by decide⟩
  · rw [if_neg c, nl0, vv_lt (by omega) (by omega)]; omega
theorem dnI_dn {j : Nat} (h : j < 1000) : nI j + (-1) = dnI j := by
  unfold dnI
  by_cases c : j = 0
  · rw [if_pos c, c]; rfl
  · rw [if_neg c, nI_m1 (by omega) (by omega)]
theorem dnI_sub {j : Nat} (h : j < 1000) : nI j - 1 = dnI j := by
  unfold dnI
  by_cases c : j = 0
  · rw [if_pos c, c]; rfl
  · rw [if_neg c, nI_s1 (by omega) (by omega)]
theorem dnI_cl {j : Nat} (h : j < 1000) : (dnI j).toNatClampNeg = j - 1 := by
  unfold dnI
  by_cases c : j = 0
  · rw [if_pos c, c]; rfl
  · rw [if_neg c, vv_clI (by omega)]
def noth (r : Nat → Int32) (t : Nat) : Bool := decide (∀ p, p ≤ rN r → dvV r t (slo p) 0 = 0 ∧ dvV r t (slo p) 1 = 0)
def prR (sel : (Nat → Int32) → Nat → Bool) (r : Nat → Int32) : Nat → (Nat → Int32)
  | 0 => r
  | k + 1 => prR sel (if sel r k = true then rmR r k (rT r) else r) k
def Gd (S : xS) (G na gi : Nat) (r : Nat → Int32) : Prop := GlRel S G r ∧ RowOk na gi r ∧ PermG S G
theorem Gd.rm {S S' : xS} {G na gi t : Nat} {r : Nat → Int32} (h : Gd S G na gi r) (ht : t < rT r) (h1 : S'.1 = (xI S 1 G 6 (nI (rT r - 1))).1) (h2 : ∀ j, S'.2.2 16 G j = rmI (S.2.2 16 G) t (rT r) j) : Gd S' G na gi (rmR r t (rT r)) :=
  ⟨rm_rel h.1 h.2.1.2.1.1 rfl h.2.1.2.2.2.1.1 ht h1 h2, rm_ok h.2.1 rfl ht, rm_perm h.2.2 h.2.1.2.2.2.1.1 ht h2⟩
theorem GFr.rm {S S' : xS} {G v : Nat} (h1 : S'.1 = (xI S 1 G 6 (nI v)).1) (h2 : S'.2.1 = S.2.1) (h3 : ∀ k z, k ≠ 16 ∨ z ≠ G → S'.2.2 k z = S.2.2 k z) : GFr S S' G := by
  refine ⟨fun k hk => ?_, fun k z hk hz => ?_, fun k z hk hz => ?_, h2, fun k hk => funext fun z => h3 k z (Or.inl hk), fun z hz => h3 16 z (Or.inr hz)⟩
  · rw [h1, xI_k (by unfold kG at hk; omega)]
  · rw [h1]
    funext w
    rw [xI_1, if_neg (by omega)]
  · rw [h1, xI_k (by omega)]
theorem w1_prune {S : xS} {G na gi : Nat} {r : Nat → Int32} {Q : Int32 → xS → Prop} (hG12 : G < 12) (hg : Gd S G na gi r) (k : ∀ S', GFr S S' G → Gd S' G na gi (prR noth r (rT r)) → Q (nI (rT r) - nI (rT (prR noth r (rT r)))) S') : wp_X1_pruneTuples G S Q := by
  have hT5 := hg.2.1.2.2.2.1.1
  unfold wp_X1_pruneTuples
  rw [hg.1.2.2.1.trans hg.2.1.2.2.2.1.2, dnI_sub (by omega)]
  refine wl2 (wp_X1_pruneTuples_12 G Q) (fun K => wp_X1_pruneTuples_12_b G K Q) (fun _ _ _ _ => rfl)
    (fun S' v1 v2 => ∃ j r', v1 = nI (rT r) ∧ v2 = dnI j ∧ j ≤ rT r' ∧ prR noth r' j = prR noth r (rT r) ∧ GFr S S' G ∧ Gd S' G na gi r')
    (fun _ _ v => v.toInt.toNat + (if v < 0 then 0 else 1)) ⟨rT r, r, rfl, rfl, Nat.le_refl _, rfl, GFr.refl _ _, hg⟩ ?_
  rintro S' v1 v2 K ⟨j, r', rfl, rfl, hj, he, hfr, hgd⟩ hK
  have hT5' := hgd.2.1.2.2.2.1.1
  unfold wp_X1_pruneTuples_12_b wp_X1_pruneTuples_34
  cases j with
  | zero =>
    refine gt ((dnI_lt (by omega)).mpr rfl) ?_
    have e : r' = prR noth r (rT r) := he
    rw [hgd.1.2.2.1.trans hgd.2.1.2.2.2.1.2, e]
    exact k S' hfr (by rw [← e]; exact hgd)
  | succ j =>
    rw [dnI_s]
    have mu : (dnI j).toInt.toNat + (if dnI j < 0 then 0 else 1) < (nI j).toInt.toNat + (if nI j < 0 then 0 else 1) := by
      rw [if_neg (show ¬ nI j < 0 by rw [nl0, vv_lt (by omega) (by omega)]; omega), nI_toInt' (by omega)]
      cases j with
      | zero => rw [if_pos ((dnI_lt (by omega)).mpr rfl)]; decide
      | succ j => rw [dnI_s, if_neg (show ¬ nI j < 0 by rw [nl0, vv_lt (by omega) (by omega)]; omega), nI_toInt' (by omega)]; omega
    have hid : ∀ i, i < 5 → S'.2.2 16 G i < 60 := fun i hi => by have := hgd.2.2.1 i hi; omega
    refine gf (by rw [nl0, vv_lt (by omega) (by omega)]; omega) ⟨⟨vv_in (by omega) (by omega), by rw [vv_clI (by omega)]; exact hid j (by omega)⟩, ?_⟩
    rw [vv_clI (k := j) (by omega)]
    refine w1_nothing hgd.1 hgd.2.1 (hgd.1.2.2.2.2.2.2.2.2 j (by omega)) ?_
    have he' : prR noth (if noth r' j = true then rmR r' j (rT r') else r') j = prR noth r (rT r) := he
    cases hn : noth r' j
    · have hn' : decide (∀ p, p ≤ rN r' → dvV r' j (slo p) 0 = 0 ∧ dvV r' j (slo p) 1 = 0) = false := hn
      rw [hn']
      rw [hn, if_neg (by decide)] at he'
      refine g0 ?_
      rw [dnI_dn (by omega)]
      exact hK _ _ _ ⟨j, r', rfl, rfl, by omega, he', hfr, hgd⟩ mu
    · have hn' : decide (∀ p, p ≤ rN r' → dvV r' j (slo p) 0 = 0 ∧ dvV r' j (slo p) 1 = 0) = true := hn
      rw [hn']
      rw [hn, if_pos rfl] at he'
      refine g1 (w1_remove (hgd.1.2.2.1.trans hgd.2.1.2.2.2.1.2) hT5' (by omega) hid (fun S'' s1 s2 s3 s4 => ?_))
      rw [dnI_dn (by omega)]
      refine hK _ _ _ ⟨j, rmR r' j (rT r'), rfl, rfl, ?_, he', hfr.trans (GFr.rm s1 s2 s3), hgd.rm (by omega) s1 s4⟩ mu
      rw [rm_T hT5']; omega
theorem MFr.rm {M M' : xS} {g : Nat} (h1 : ∀ k, k ≠ 11 → M'.1 k = M.1 k) (h2 : ∀ z y, z ≠ g → y < 511 → mrow M' z y = mrow M z y) : MFr M M' g := ⟨fun k hk => h1 k (by unfold kM at hk; omega), h2⟩
theorem w7_prune {M : xS} {g na gi : Nat} {P : Int} {Q : Int32 → xS → Prop} (hg : g < 6) (hP : P ≤ PP) (hR : RowOk na gi (mrow M g)) (hB : Bd P (mrow M g))
    (k : ∀ M', MFr M M' g → mrow M' g = prR noth (mrow M g) (rT (mrow M g)) → Bd P (mrow M' g) → Q (nI (rT (mrow M g)) - nI (rT (prR noth (mrow M g) (rT (mrow M g))))) M') : ∃ n, wp_X7_prune_27 (nI g) Q n M 0 (dnI (rT (mrow M g))) := by
  have hT5 := hR.2.2.2.1.1
  refine wl2 (wp_X7_prune_27 (nI g) Q) (fun K => wp_X7_prune_27_b (nI g) K Q) (fun _ _ _ _ => rfl)
    (fun M' v2 v3 => ∃ j c, v2 = nI c ∧ c + rT (mrow M' g) = rT (mrow M g) ∧ v3 = dnI j ∧ j ≤ rT (mrow M' g) ∧ prR noth (mrow M' g) j = prR noth (mrow M g) (rT (mrow M g)) ∧ MFr M M' g ∧ RowOk na gi (mrow M' g) ∧ Bd P (mrow M' g))
    (fun _ _ v => v.toInt.toNat + (if v < 0 then 0 else 1)) ⟨rT (mrow M g), 0, rfl, by omega, rfl, Nat.le_refl _, rfl, MFr.refl _ _, hR, hB⟩ ?_
  rintro M' v2 v3 K ⟨j, c, rfl, hc, rfl, hj, he, hfr, hR', hB'⟩ hK
  have hT5' := hR'.2.2.2.1.1
  unfold wp_X7_prune_27_b wp_X7_prune_49
  cases j with
  | zero =>
    refine gt ((dnI_lt (by omega)).mpr rfl) ?_
    have e : mrow M' g = prR noth (mrow M g) (rT (mrow M g)) := he
    have := k M' hfr e hB'
    rw [← e, vv_sub (by omega) (by omega), show rT (mrow M g) - rT (mrow M' g) = c by omega] at this
    exact this
  | succ j =>
    rw [dnI_s]
    have mu : (dnI j).toInt.toNat + (if dnI j < 0 then 0 else 1) < (nI j).toInt.toNat + (if nI j < 0 then 0 else 1) := by
      rw [if_neg (show ¬ nI j < 0 by rw [nl0, vv_lt (by omega) (by omega)]; omega), nI_toInt' (by omega)]
      cases j with
      | zero => rw [if_pos ((dnI_lt (by omega)).mpr rfl)]; decide
      | succ j => rw [dnI_s, if_neg (show ¬ nI j < 0 by rw [nl0, vv_lt (by omega) (by omega)]; omega), nI_toInt' (by omega)]; omega
    refine gf (by rw [nl0, vv_lt (by omega) (by omega)]; omega) (w7_nothing hg hR' (hB'.p hP hT5') (by omega) ?_)
    have he' : prR noth (if noth (mrow M' g) j = true then rmR (mrow M' g) j (rT (mrow M' g)) else mrow M' g) j = prR noth (mrow M g) (rT (mrow M g)) := he
    cases hn : noth (mrow M' g) j
    · have hn' : decide (∀ p, p ≤ rN (mrow M' g) → dvV (mrow M' g) j (slo p) 0 = 0 ∧ dvV (mrow M' g) j (slo p) 1 = 0) = false := hn
      rw [hn']
      rw [hn, if_neg (by decide)] at he'
      refine g0 ?_
      rw [dnI_dn (by omega)]
      exact hK _ _ _ ⟨j, c, rfl, hc, rfl, by omega, he', hfr, hR', hB'⟩ mu
    · have hn' : decide (∀ p, p ≤ rN (mrow M' g) → dvV (mrow M' g) j (slo p) 0 = 0 ∧ dvV (mrow M' g) j (slo p) 1 = 0) = true := hn
      rw [hn']
      rw [hn, if_pos rfl] at he'
      refine g1 (w7_remove hg hR'.2.2.2.1.2 hT5' (by omega) (fun M'' s1 s2 s3 => ?_))
      rw [dnI_dn (by omega), nI_1]
      have e3 : mrow M'' g = rmR (mrow M' g) j (rT (mrow M' g)) := funext s3
      refine hK _ _ _ ⟨j, c + 1, rfl, ?_, rfl, ?_, by rw [e3]; exact he', hfr.trans (MFr.rm s1 s2), by rw [e3]; exact rm_ok hR' rfl (by omega), by rw [e3]; exact rm_bd hR'.2.1.1 hB' rfl hT5' (by omega)⟩ mu
      · rw [e3, rm_T hT5']; omega
      · rw [e3, rm_T hT5']; omega
theorem prR_keep {sel : (Nat → Int32) → Nat → Bool} : ∀ k r y, y < 76 → y ≠ 3 → prR sel r k y = r y
  | 0, _, _, _, _ => rfl
  | k + 1, r, y, h, h3 => by
    show prR sel (if sel r k = true then rmR r k (rT r) else r) k y = r y
    rw [prR_keep k _ y h h3]
    split
    · exact rm_lo h h3
    · rfl
