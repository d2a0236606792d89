def Ctr (r : Nat → Int32) (N f l p : Nat) : Prop := f ≤ p ∧ p ≤ l ∧ l < N ∧ r (52 + f) = 1 ∧ (∀ z, f < z → z ≤ l → r (52 + z) = 0) ∧ (l + 1 < N → r (52 + (l + 1)) = 1)
theorem ctr_in {r : Nat → Int32} {N f l p q : Nat} (h : Ctr r N f l p) (h1 : f ≤ q) (h2 : q ≤ l) : Ctr r N f l q := ⟨h1, h2, h.2.2⟩
theorem ctr_ex {r : Nat → Int32} {N p : Nat} (h0 : r 52 = 1) (hb : ∀ z, z < N → r (52 + z) = 0 ∨ r (52 + z) = 1) (hp : p < N) : ∃ f l, Ctr r N f l p := by
  have fe : ∀ p, p < N → ∃ f, f ≤ p ∧ r (52 + f) = 1 ∧ ∀ z, f < z → z ≤ p → r (52 + z) = 0 := by
    intro p
    induction p with
    | zero => intro _; exact ⟨0, by omega, h0, fun z h1 h2 => by omega⟩
    | succ p ih =>
      intro hp
      rcases hb (p + 1) hp with h | h
      · obtain ⟨f, h1, h2, h3⟩ := ih (by omega)
        refine ⟨f, by omega, h2, fun z h4 h5 => ?_⟩
        by_cases e : z = p + 1
        · rw [e]; exact h
        · exact h3 z h4 (by omega)
      · exact ⟨p + 1, by omega, h, fun z h1 h2 => by omega⟩
  have le : ∀ d p, p + d + 1 = N → ∃ l, p ≤ l ∧ l < N ∧ (∀ z, p < z → z ≤ l → r (52 + z) = 0) ∧ (l + 1 < N → r (52 + (l + 1)) = 1) := by
    intro d
    induction d with
    | zero => intro p hp; exact ⟨p, by omega, by omega, fun z h1 h2 => by omega, fun h => by omega⟩
    | succ d ih =>
      intro p hp
      rcases hb (p + 1) (by omega) with h | h
      · obtain ⟨l, h1, h2, h3, h4⟩ := ih (p + 1) (by omega)
        refine ⟨l, by omega, h2, fun z h5 h6 => ?_, h4⟩
        by_cases e : z = p + 1
        · rw [e]; exact h
        · exact h3 z (by omega) h6
      · exact ⟨p, by omega, by omega, fun z h1 h2 => by omega, fun _ => h⟩
  obtain ⟨f, f1, f2, f3⟩ := fe p hp
  obtain ⟨l, l1, l2, l3, l4⟩ := le (N - 1 - p) p (by omega)
  refine ⟨f, l, f1, l1, l2, f2, fun z h1 h2 => ?_, l4⟩
  by_cases e : z ≤ p
  · exact f3 z h1 e
  · exact l3 z (by omega) h2
theorem cno_mono {r : Nat → Int32} : ∀ b a, a ≤ b → cno r a ≤ cno r b
  | 0, a, h => by rw [show a = 0 by omega]; exact Nat.le_refl _
  | b + 1, a, h => by
    by_cases e : a = b + 1
    · rw [e]; exact Nat.le_refl _
    · have := cno_mono (r := r) b a (by omega)
      show _ ≤ cno r b + _
      omega
theorem cno_same {r : Nat → Int32} {f : Nat} : ∀ z, f ≤ z → (∀ w, f < w → w ≤ z → r (52 + w) = 0) → cno r z = cno r f
  | 0, h, _ => by rw [show f = 0 by omega]
  | z + 1, h, h2 => by
    by_cases e : f = z + 1
    · rw [e]
    · have := cno_same z (by omega) (fun w h3 h4 => h2 w h3 (by omega))
      show cno r z + (if r (52 + (z + 1)) = 1 then 1 else 0) = _
      rw [h2 (z + 1) (by omega) (by omega), if_neg (by decide), this, Nat.add_zero]
theorem cno_step {r : Nat → Int32} {a b : Nat} (h : a < b) (hb : r (52 + b) = 1) : cno r a < cno r b := by
  cases b with
  | zero => omega
  | succ b =>
    have := cno_mono (r := r) b a (by omega)
    show _ < cno r b + (if r (52 + (b + 1)) = 1 then 1 else 0)
    rw [if_pos hb]; omega
theorem ctr_cno {r : Nat → Int32} {N f l p z : Nat} (h : Ctr r N f l p) (hz : z < N) : cno r z = cno r p ↔ f ≤ z ∧ z ≤ l := by
  obtain ⟨h1, h2, h3, h4, h5, h6⟩ := h
  have ep : cno r p = cno r f := cno_same p h1 (fun w a b => h5 w a (by omega))
  constructor
  · intro e
    apply Decidable.byContradiction
    intro hc
    by_cases c : z < f
    · have := cno_step c h4; omega
    · have c2 : l < z := by omega
      have s1 := cno_step (r := r) (a := p) (b := l + 1) (by omega) (h6 (by omega))
      have s2 := cno_mono (r := r) z (l + 1) (by omega)
      omega
  · intro hc
    rw [ep]
    exact cno_same z hc.1 (fun w a b => h5 w a (by omega))
section BESIDE
variable {M : xS} {g t N : Nat}
theorem w7_beside {f l p : Nat} {st : Int32} {Q : Int32 → xS → Prop} (hg : g < 6) (hN : N ≤ 24) (e : mrow M g 2 = nI N) (hb : ∀ z, z < N → mrow M g (52 + z) = 0 ∨ mrow M g (52 + z) = 1) (h : Ctr (mrow M g) N f l p) (k : wp_X7_beside_59 (nI p) st Q M (nI f) (nI l)) : wp_X7_beside (nI g) (nI p) st M Q := by
  obtain ⟨h1, h2, h3, h4, h5, h6⟩ := h
  unfold wp_X7_beside
  refine wl1 (wp_X7_beside_3 (nI g) (nI p) st Q) (fun K => wp_X7_beside_3_b (nI g) (nI p) st K Q) (fun _ _ _ => rfl)
    (fun M' v => M' = M ∧ ∃ z, f ≤ z ∧ z ≤ p ∧ v = nI z) (fun _ v => v.toNatClampNeg) ⟨rfl, p, h1, by omega, rfl⟩ ?_
  rintro M' v K ⟨rfl, z, hz1, hz2, rfl⟩ hK
  unfold wp_X7_beside_3_b
  refine v7_of rfl (by rw [nl52, nI_add]) hg (by omega) ?_
  by_cases c : z = f
  · subst c
    refine gf (by rw [h4]; decide) ?_
    refine wl2 (wp_X7_beside_25 (nI g) (nI p) st Q) (fun K => wp_X7_beside_25_b (nI g) (nI p) st K Q) (fun _ _ _ _ => rfl)
      (fun M'' v4 v5 => M'' = M' ∧ v4 = nI z ∧ ∃ w, p ≤ w ∧ w ≤ l ∧ v5 = nI w) (fun _ _ v => l - v.toNatClampNeg) ⟨rfl, rfl, p, by omega, h2, rfl⟩ ?_
    rintro M'' v4 v5 K' ⟨rfl, rfl, w, hw1, hw2, rfl⟩ hK'
    unfold wp_X7_beside_25_b
    refine v7_of rfl nl2 hg (by omega) ?_
    rw [e, nI_1]
    by_cases cl : w = l
    · subst cl
      by_cases cN : w + 1 < N
      · refine gf (by rw [vv_le (by omega) (by omega)]; omega) (v7_of (y := 52 + (w + 1)) rfl (by rw [nl52, nI_add, nI_1]; rfl) hg (by omega) ?_)
        exact gf (by rw [h6 cN]; decide) k
      · exact gt (by rw [vv_le (by omega) (by omega)]; omega) k
    · refine gf (by rw [vv_le (by omega) (by omega)]; omega) (v7_of (y := 52 + (w + 1)) rfl (by rw [nl52, nI_add, nI_1]; rfl) hg (by omega) ?_)
      exact gt (h5 (w + 1) (by omega) (by omega)) (hK' _ _ _ ⟨rfl, rfl, w + 1, by omega, by omega, rfl⟩ (by rw [vv_clI (by omega), vv_clI (by omega)]; omega))
  · refine gt (h5 z (by omega) (by omega)) ?_
    rw [nI_m1 (by omega) (by omega)]
    exact hK _ _ ⟨rfl, z - 1, by omega, by omega, rfl⟩ (by rw [vv_clI (by omega), vv_clI (by omega)]; omega)
theorem m1_toInt {p : Nat} (h : p < 1000) : (nI p + (-1)).toInt = (p : Int) - 1 := by
  rw [i32_add] <;> rw [nI_toInt' (by omega), show (-1 : Int32).toInt = -1 from rfl] <;> omega
theorem w7_bk {f l p : Nat} {Q : Int32 → xS → Prop} (hg : g < 6) (hN : N ≤ 24) (e : mrow M g 2 = nI N) (hb : ∀ z, z < N → mrow M g (52 + z) = 0 ∨ mrow M g (52 + z) = 1) (h : Ctr (mrow M g) N f l p) (k : Q (nI (if p = f then l else p - 1)) M) : wp_X7_beside (nI g) (nI p) (-1) M Q := by
  have h' := h
  obtain ⟨h1, h2, h3, h4, h5, h6⟩ := h
  have e1 : (nI p + (-1)).toInt = (p : Int) - 1 := m1_toInt (by omega)
  have e2 : 1 ≤ p → nI p + (-1) = nI (p - 1) := fun q => nI_m1 q (by omega)
  refine w7_beside hg hN e hb h' ?_
  unfold wp_X7_beside_59 wp_X7_beside_90
  generalize nI p + (-1) = x at *
  by_cases c : p = f
  · rw [if_pos c] at k
    exact gf (by rw [i32_le, e1, nI_toInt' (by omega)]; omega) k
  · rw [if_neg c] at k
    rw [e2 (by omega)]
    exact gt (by rw [vv_le (by omega) (by omega)]; omega) (gt (by rw [vv_le (by omega) (by omega)]; omega) k)
theorem w7_fw {f l p : Nat} {Q : Int32 → xS → Prop} (hg : g < 6) (hN : N ≤ 24) (e : mrow M g 2 = nI N) (hb : ∀ z, z < N → mrow M g (52 + z) = 0 ∨ mrow M g (52 + z) = 1) (h : Ctr (mrow M g) N f l p) (k : Q (nI (if p = l then f else p + 1)) M) : wp_X7_beside (nI g) (nI p) 1 M Q := by
  have h' := h
  obtain ⟨h1, h2, h3, h4, h5, h6⟩ := h
  refine w7_beside hg hN e hb h' ?_
  unfold wp_X7_beside_59 wp_X7_beside_90
  rw [nI_1]
  by_cases c : p = l
  · rw [if_pos c] at k
    exact gt (by rw [vv_le (by omega) (by omega)]; omega) (gf (by rw [vv_le (by omega) (by omega)]; omega) k)
  · rw [if_neg c] at k
    exact gt (by rw [vv_le (by omega) (by omega)]; omega) (gt (by rw [vv_le (by omega) (by omega)]; omega) k)
theorem w7_from {p : Nat} {Q : Int32 → xS → Prop} (hg : g < 6) (ht : t < 5) (hN : N ≤ 24) (e : mrow M g 2 = nI N) (h0 : mrow M g 52 = 1) (hb : ∀ z, z < N → mrow M g (52 + z) = 0 ∨ mrow M g (52 + z) = 1) (hp : p < N) (hF : ¬ fl (mrow M g) t p = 1) :
    (Q (if bkF (FF (mrow M g) t p) N p = 0 then -1 else nI (bkF (FF (mrow M g) t p) N p - 1)) M → wp_X7_touchedFrom (nI g) (nI t) (nI p) (-1) M Q) ∧
    (Q (if fwF (FF (mrow M g) t p) N p = 0 then -1 else nI (fwF (FF (mrow M g) t p) N p - 1)) M → wp_X7_touchedFrom (nI g) (nI t) (nI p) 1 M Q) := by
  obtain ⟨f, l, h⟩ := ctr_ex h0 hb hp
  have hFp : FF (mrow M g) t p p = false := FF_no (fun _ => hF)
  have h' := h
  obtain ⟨h1, h2, h3, h4, h5, h6⟩ := h
  have out : ∀ z, z < N → (z < f ∨ l < z) → FF (mrow M g) t p z = false := fun z hz ho => FF_no (fun q => by have := (ctr_cno h' hz).mp q; omega)
  have no : ∀ z, ¬ fl (mrow M g) t z = 1 → FF (mrow M g) t p z = false := fun z hz => FF_no (fun _ => hz)
  have yes : ∀ z, f ≤ z → z ≤ l → fl (mrow M g) t z = 1 → FF (mrow M g) t p z = true := fun z a b hz => FF_yes ((ctr_cno h' (by omega)).mpr ⟨a, b⟩) hz
  constructor
  · intro k
    have fin0 : (∀ z, z < N → FF (mrow M g) t p z = false) → Q (-1) M := fun h => by rw [← bkP_eq hFp (Or.inl ⟨rfl, h⟩) hp, if_pos rfl] at k; exact k
    have fin1 : ∀ i, i < N → FF (mrow M g) t p i = true → i ≠ p → (i < p → ∀ z, i < z → z < p → FF (mrow M g) t p z = false) → (p < i → (∀ z, z < p → FF (mrow M g) t p z = false) ∧ ∀ z, i < z → z < N → FF (mrow M g) t p z = false) → Q (nI i) M := fun i a b c d e => by
      rw [← bkP_eq hFp (Or.inr ⟨i, a, rfl, b, c, d, e⟩) hp, if_neg (by omega), Nat.add_sub_cancel] at k; exact k
    unfold wp_X7_touchedFrom
    refine w7_bk hg hN e hb h' ?_
    refine wl1 (wp_X7_touchedFrom_10 (nI g) (nI t) (nI p) (-1) Q) (fun K => wp_X7_touchedFrom_10_b (nI g) (nI t) (nI p) (-1) K Q) (fun _ _ _ => rfl)
      (fun M' v => M' = M ∧ ∃ z, f ≤ z ∧ z ≤ l ∧ v = nI z ∧ ((z < p ∧ ∀ w, z < w → w ≤ p → FF (mrow M g) t p w = false) ∨ (p ≤ z ∧ (∀ w, w ≤ p → FF (mrow M g) t p w = false) ∧ ∀ w, z < w → w < N → FF (mrow M g) t p w = false)))
      (fun _ v => if v.toNatClampNeg < p then v.toNatClampNeg + 100 else v.toNatClampNeg) ⟨rfl, if p = f then l else p - 1, by split <;> omega, by split <;> omega, rfl, ?_⟩ ?_
    · by_cases c : p = f
      · rw [if_pos c]
        refine Or.inr ⟨h2, fun w hw => ?_, fun w a b => out w b (Or.inr a)⟩
        by_cases ew : w = p
        · rw [ew]; exact hFp
        · exact out w (by omega) (by omega)
      · rw [if_neg c]
        exact Or.inl ⟨by omega, fun w a b => by rw [show w = p by omega]; exact hFp⟩
    · rintro M' v K ⟨rfl, z, hz1, hz2, rfl, hh⟩ hK
      unfold wp_X7_touchedFrom_10_b wp_X7_touchedFrom_41 wp_X7_touchedFrom_58
      by_cases c : z = p
      · subst c
        refine gt rfl (v7_touches hg ht (by omega) ?_)
        rw [decide_eq_false hF]
        refine g0 (fin0 (fun w hw => ?_))
        rcases hh with ⟨a1, a2⟩ | ⟨a1, a2, a3⟩
        · omega
        · by_cases cw : w ≤ z
          · exact a2 w cw
          · exact a3 w (by omega) hw
      · refine gf (by rw [vv_eq (by omega) (by omega)]; exact c) (v7_touches hg ht (by omega) ?_)
        by_cases cf : fl (mrow M' g) t z = 1
        · rw [decide_eq_true cf]
          refine g1 (v7_touches hg ht (by omega) ?_)
          rw [decide_eq_true cf]
          refine g1 (fin1 z (by omega) (yes z hz1 hz2 cf) c (fun q w a b => ?_) (fun q => ⟨fun w a => ?_, fun w a b => ?_⟩))
          · rcases hh with ⟨a1, a2⟩ | ⟨a1, a2, a3⟩
            · exact a2 w a (by omega)
            · omega
          · rcases hh with ⟨a1, a2⟩ | ⟨a1, a2, a3⟩
            · omega
            · exact a2 w (by omega)
          · rcases hh with ⟨a1, a2⟩ | ⟨a1, a2, a3⟩
            · omega
            · exact a3 w a b
        · rw [decide_eq_false cf]
          refine g0 (w7_bk hg hN e hb (ctr_in h' hz1 hz2) (hK _ _ ⟨rfl, if z = f then l else z - 1, by split <;> omega, by split <;> omega, rfl, ?_⟩ ?_))
          · by_cases cz : z = f
            · rw [if_pos cz]
              rcases hh with ⟨a1, a2⟩ | ⟨a1, a2, a3⟩
              · refine Or.inr ⟨h2, fun w hw => ?_, fun w a b => out w b (Or.inr a)⟩
                by_cases c1 : z < w
                · exact a2 w c1 hw
                · by_cases c2 : w = z
                  · rw [c2]; exact no z cf
                  · exact out w (by omega) (by omega)
              · omega
            · rw [if_neg cz]
              rcases hh with ⟨a1, a2⟩ | ⟨a1, a2, a3⟩
              · refine Or.inl ⟨by omega, fun w a b => ?_⟩
                by_cases c2 : w = z
                · rw [c2]; exact no z cf
                · exact a2 w (by omega) b
              · refine Or.inr ⟨by omega, a2, fun w a b => ?_⟩
                by_cases c2 : w = z
                · rw [c2]; exact no z cf
                · exact a3 w (by omega) b
          · by_cases cz : z = f
            · rw [if_pos cz, vv_clI (by omega), vv_clI (by omega)]
              rcases hh with ⟨a1, a2⟩ | ⟨a1, a2, a3⟩
              · rw [if_neg (by omega), if_pos (by omega)]; omega
              · omega
            · rw [if_neg cz, vv_clI (by omega), vv_clI (by omega)]
              rcases hh with ⟨a1, a2⟩ | ⟨a1, a2, a3⟩
              · rw [if_pos (by omega), if_pos (by omega)]; omega
              · rw [if_neg (by omega), if_neg (by omega)]; omega
  · intro k
    have fin0 : (∀ z, z < N → FF (mrow M g) t p z = false) → Q (-1) M := fun h => by rw [← fwP_eq hFp (Or.inl ⟨rfl, h⟩) hp, if_pos rfl] at k; exact k
    have fin1 : ∀ i, i < N → FF (mrow M g) t p i = true → i ≠ p → (p < i → ∀ z, p < z → z < i → FF (mrow M g) t p z = false) → (i < p → (∀ z, p < z → z < N → FF (mrow M g) t p z = false) ∧ ∀ z, z < i → FF (mrow M g) t p z = false) → Q (nI i) M := fun i a b c d e => by
      rw [← fwP_eq hFp (Or.inr ⟨i, a, rfl, b, c, d, e⟩) hp, if_neg (by omega), Nat.add_sub_cancel] at k; exact k
    unfold wp_X7_touchedFrom
    refine w7_fw hg hN e hb h' ?_
    refine wl1 (wp_X7_touchedFrom_10 (nI g) (nI t) (nI p) 1 Q) (fun K => wp_X7_touchedFrom_10_b (nI g) (nI t) (nI p) 1 K Q) (fun _ _ _ => rfl)
      (fun M' v => M' = M ∧ ∃ z, f ≤ z ∧ z ≤ l ∧ v = nI z ∧ ((p < z ∧ ∀ w, p ≤ w → w < z → FF (mrow M g) t p w = false) ∨ (z ≤ p ∧ (∀ w, p ≤ w → w < N → FF (mrow M g) t p w = false) ∧ ∀ w, w < z → FF (mrow M g) t p w = false)))
      (fun _ v => if p < v.toNatClampNeg then 200 - v.toNatClampNeg else 100 - v.toNatClampNeg) ⟨rfl, if p = l then f else p + 1, by split <;> omega, by split <;> omega, rfl, ?_⟩ ?_
    · by_cases c : p = l
      · rw [if_pos c]
        refine Or.inr ⟨h1, fun w a b => ?_, fun w a => out w (by omega) (Or.inl a)⟩
        by_cases ew : w = p
        · rw [ew]; exact hFp
        · exact out w (by omega) (by omega)
      · rw [if_neg c]
        exact Or.inl ⟨by omega, fun w a b => by rw [show w = p by omega]; exact hFp⟩
    · rintro M' v K ⟨rfl, z, hz1, hz2, rfl, hh⟩ hK
      unfold wp_X7_touchedFrom_10_b wp_X7_touchedFrom_41 wp_X7_touchedFrom_58
      by_cases c : z = p
      · subst c
        refine gt rfl (v7_touches hg ht (by omega) ?_)
        rw [decide_eq_false hF]
        refine g0 (fin0 (fun w hw => ?_))
        rcases hh with ⟨a1, a2⟩ | ⟨a1, a2, a3⟩
        · omega
        · by_cases cw : z ≤ w
          · exact a2 w cw hw
          · exact a3 w (by omega)
      · refine gf (by rw [vv_eq (by omega) (by omega)]; exact c) (v7_touches hg ht (by omega) ?_)
        by_cases cf : fl (mrow M' g) t z = 1
        · rw [decide_eq_true cf]
          refine g1 (v7_touches hg ht (by omega) ?_)
          rw [decide_eq_true cf]
          refine g1 (fin1 z (by omega) (yes z hz1 hz2 cf) c (fun q w a b => ?_) (fun q => ⟨fun w a b => ?_, fun w a => ?_⟩))
          · rcases hh with ⟨a1, a2⟩ | ⟨a1, a2, a3⟩
            · exact a2 w (by omega) b
            · omega
          · rcases hh with ⟨a1, a2⟩ | ⟨a1, a2, a3⟩
            · omega
            · exact a2 w (by omega) b
          · rcases hh with ⟨a1, a2⟩ | ⟨a1, a2, a3⟩
            · omega
            · exact a3 w a
        · rw [decide_eq_false cf]
          refine g0 (w7_fw hg hN e hb (ctr_in h' hz1 hz2) (hK _ _ ⟨rfl, if z = l then f else z + 1, by split <;> omega, by split <;> omega, rfl, ?_⟩ ?_))
          · by_cases cz : z = l
            · rw [if_pos cz]
              rcases hh with ⟨a1, a2⟩ | ⟨a1, a2, a3⟩
              · refine Or.inr ⟨h1, fun w a b => ?_, fun w a => out w (by omega) (Or.inl a)⟩
                by_cases c1 : w < z
                · exact a2 w a c1
                · by_cases c2 : w = z
                  · rw [c2]; exact no z cf
                  · exact out w (by omega) (by omega)
              · omega
            · rw [if_neg cz]
              rcases hh with ⟨a1, a2⟩ | ⟨a1, a2, a3⟩
              · refine Or.inl ⟨by omega, fun w a b => ?_⟩
                by_cases c2 : w = z
                · rw [c2]; exact no z cf
                · exact a2 w a (by omega)
              · refine Or.inr ⟨by omega, a2, fun w a => ?_⟩
                by_cases c2 : w = z
                · rw [c2]; exact no z cf
                · exact a3 w (by omega)
          · by_cases cz : z = l
            · rw [if_pos cz, vv_clI (by omega), vv_clI (by omega)]
              rcases hh with ⟨a1, a2⟩ | ⟨a1, a2, a3⟩
              · rw [if_neg (by omega), if_pos (by omega)]; omega
              · omega
            · rw [if_neg cz, vv_clI (by omega), vv_clI (by omega)]
              rcases hh with ⟨a1, a2⟩ | ⟨a1, a2, a3⟩
              · rw [if_pos (by omega), if_pos (by omega)]; omega
              · rw [if_neg (by omega), if_neg (by omega)]; omega
end BESIDE
