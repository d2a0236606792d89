def dnF (F : Nat → Bool) : Nat → Nat
  | 0 => 0
  | k + 1 => if F k then k + 1 else dnF F k
def upF (F : Nat → Bool) : Nat → Nat → Nat
  | _, 0 => 0
  | k, n + 1 => if F k then k + 1 else upF F (k + 1) n
def bkF (F : Nat → Bool) (N p : Nat) : Nat := if dnF F p = 0 then dnF F N else dnF F p
def fwF (F : Nat → Bool) (N p : Nat) : Nat := if upF F (p + 1) (N - (p + 1)) = 0 then upF F 0 N else upF F (p + 1) (N - (p + 1))
theorem dnF_hit {F : Nat → Bool} {i : Nat} (h : F i = true) : ∀ k, i < k → (∀ z, i < z → z < k → F z = false) → dnF F k = i + 1
  | 0, h1, _ => by omega
  | k + 1, h1, h2 => by
    show (if F k then k + 1 else dnF F k) = i + 1
    by_cases e : i = k
    · subst e; rw [h]; rfl
    · rw [h2 k (by omega) (by omega)]
      exact dnF_hit h k (by omega) (fun z a b => h2 z a (by omega))
theorem dnF_no {F : Nat → Bool} : ∀ k, (∀ z, z < k → F z = false) → dnF F k = 0
  | 0, _ => rfl
  | k + 1, h => by
    show (if F k then k + 1 else dnF F k) = 0
    rw [h k (by omega)]
    exact dnF_no k (fun z a => h z (by omega))
theorem upF_hit {F : Nat → Bool} {i : Nat} (h : F i = true) : ∀ n k, k ≤ i → i < k + n → (∀ z, k ≤ z → z < i → F z = false) → upF F k n = i + 1
  | 0, _, h1, h2, _ => by omega
  | n + 1, k, h1, h2, h3 => by
    show (if F k then k + 1 else upF F (k + 1) n) = i + 1
    by_cases e : i = k
    · subst e; rw [h]; rfl
    · rw [h3 k (by omega) (by omega)]
      exact upF_hit h n (k + 1) (by omega) (by omega) (fun z a b => h3 z (by omega) b)
theorem upF_no {F : Nat → Bool} : ∀ n k, (∀ z, k ≤ z → z < k + n → F z = false) → upF F k n = 0
  | 0, _, _ => rfl
  | n + 1, k, h => by
    show (if F k then k + 1 else upF F (k + 1) n) = 0
    rw [h k (by omega) (by omega)]
    exact upF_no n (k + 1) (fun z a b => h z (by omega) (by omega))
/- what a search backward or forward round a ring of N places from p, F p false, has found -/
def bkP (F : Nat → Bool) (N p res : Nat) : Prop := (res = 0 ∧ ∀ z, z < N → F z = false) ∨ ∃ i, i < N ∧ res = i + 1 ∧ F i = true ∧ i ≠ p ∧ (i < p → ∀ z, i < z → z < p → F z = false) ∧ (p < i → (∀ z, z < p → F z = false) ∧ ∀ z, i < z → z < N → F z = false)
def fwP (F : Nat → Bool) (N p res : Nat) : Prop := (res = 0 ∧ ∀ z, z < N → F z = false) ∨ ∃ i, i < N ∧ res = i + 1 ∧ F i = true ∧ i ≠ p ∧ (p < i → ∀ z, p < z → z < i → F z = false) ∧ (i < p → (∀ z, p < z → z < N → F z = false) ∧ ∀ z, z < i → F z = false)
theorem bkP_eq {F : Nat → Bool} {N p res : Nat} (hp : F p = false) (h : bkP F N p res) (hpN : p < N) : res = bkF F N p := by
  unfold bkF
  rcases h with ⟨rfl, h⟩ | ⟨i, h1, rfl, h2, h3, h4, h5⟩
  · rw [dnF_no p (fun z hz => h z (by omega)), dnF_no N h]; rfl
  · by_cases c : i < p
    · rw [dnF_hit h2 p c (h4 c), if_neg (by omega)]
    · obtain ⟨h6, h7⟩ := h5 (by omega)
      rw [dnF_no p h6, if_pos rfl, dnF_hit h2 N h1 h7]
theorem fwP_eq {F : Nat → Bool} {N p res : Nat} (hp : F p = false) (h : fwP F N p res) (hpN : p < N) : res = fwF F N p := by
  unfold fwF
  rcases h with ⟨rfl, h⟩ | ⟨i, h1, rfl, h2, h3, h4, h5⟩
  · rw [upF_no _ _ (fun z a b => h z (by omega)), upF_no _ _ (fun z a b => h z (by omega))]; rfl
  · by_cases c : p < i
    · rw [upF_hit h2 _ _ (by omega) (by omega) (fun z a b => h4 c z (by omega) b), if_neg (by omega)]
    · obtain ⟨h6, h7⟩ := h5 (by omega)
      rw [upF_no _ _ (fun z a b => h6 z (by omega) (by omega)), if_pos rfl, upF_hit h2 _ _ (by omega) (by omega) (fun z a b => h7 z b)]
def FF (r : Nat → Int32) (t p : Nat) : Nat → Bool := fun z => decide (cno r z = cno r p ∧ fl r t z = 1)
theorem FF_no {r : Nat → Int32} {t p z : Nat} (h : cno r z = cno r p → ¬ fl r t z = 1) : FF r t p z = false := decide_eq_false (fun h2 => h h2.1 h2.2)
theorem FF_yes {r : Nat → Int32} {t p z : Nat} (h : cno r z = cno r p) (h2 : fl r t z = 1) : FF r t p z = true := decide_eq_true ⟨h, h2⟩
section NEARC
variable {S : xS} {G T t N m : Nat} {r : Nat → Int32}
theorem w1_near (e : S.1 1 G 1 = nI N) (hN : N ≤ 24) (hc : ∀ p, p < N → S.1 14 G (p + 1) = nI (cno r p)) (hcl : ∀ p, p < N → cno r p < 100) (em : S.1 5 T 3 = nI m) (hm : m < 2 ^ 25) (hb : ∀ pl, pl < 25 → m.testBit pl = decide (fl r t (slo pl) = 1)) {p : Nat} (hp : p < N) (hF : ¬ fl r t p = 1)
    {Q : Int32 → xS → Prop} : (Q (nI (bkF (FF r t p) N p)) S → wp_X1_touchedNear G T (nI (p + 1)) 0 S Q) ∧ (Q (nI (fwF (FF r t p) N p)) S → wp_X1_touchedNear G T (nI (p + 1)) 1 S Q) := by
  have hFp : FF r t p p = false := FF_no (fun _ => hF)
  have test : ∀ (a3 : Int32) (K6 : xS → Int32 → Int32 → Prop) (z j : Nat), z < N → j < 2147483647 → (FF r t p z = true → Q (nI (z + 1)) S) → (FF r t p z = false → K6 S (nI (z + 1)) (nI (j + 1))) → wp_X1_touchedNear_60 G T (nI (p + 1)) a3 K6 Q S (nI (z + 1)) (nI j) := by
    intro a3 K6 z j hz hj k1 k2
    unfold wp_X1_touchedNear_60 wp_X1_touchedNear_88
    refine ⟨vv_in (by omega) (by omega), vv_in (by omega) (by omega), ?_⟩
    rw [vv_clI (k := z + 1) (by omega), vv_clI (k := p + 1) (by omega), hc z hz, hc p hp, nI_1]
    have l1 := hcl z hz
    have l2 := hcl p hp
    by_cases c : cno r z = cno r p
    · refine gt (by rw [c]) (v5_touches em hm (by omega) ?_)
      rw [hb (z + 1) (by omega), show slo (z + 1) = z from rfl]
      by_cases cf : fl r t z = 1
      · rw [decide_eq_true cf]; exact g1 (k1 (FF_yes c cf))
      · rw [decide_eq_false cf]; exact g0 (k2 (FF_no (fun _ => cf)))
    · exact gf (by rw [vv_eq (by omega) (by omega)]; exact c) (k2 (FF_no (fun h => absurd h c)))
  constructor
  · intro k
    have fin : ∀ res, bkP (FF r t p) N p res → Q (nI res) S := fun res h => by rw [bkP_eq hFp h hp]; exact k
    unfold wp_X1_touchedNear
    refine wl2 (wp_X1_touchedNear_6 G T (nI (p + 1)) 0 Q) (fun K => wp_X1_touchedNear_6_b G T (nI (p + 1)) 0 K Q) (fun _ _ _ _ => rfl)
      (fun S' v4 v5 => S' = S ∧ ∃ j z, 1 ≤ j ∧ j ≤ N ∧ v5 = nI j ∧ v4 = nI (z + 1) ∧ z < N ∧ ((z + j = p + 1 ∧ z ≤ p ∧ ∀ w, z ≤ w → w ≤ p → FF r t p w = false) ∨ (z + j = p + 1 + N ∧ p < z ∧ (∀ w, w ≤ p → FF r t p w = false) ∧ ∀ w, z ≤ w → w < N → FF r t p w = false)))
      (fun _ _ v => N - v.toNatClampNeg) ⟨rfl, 1, p, by omega, by omega, rfl, rfl, hp, Or.inl ⟨by omega, by omega, fun w h1 h2 => by rw [show w = p by omega]; exact hFp⟩⟩ ?_
    rintro S' v4 v5 K ⟨rfl, j, z, hj1, hjN, rfl, rfl, hz, hh⟩ hK
    unfold wp_X1_touchedNear_6_b wp_X1_touchedNear_58
    rw [e]
    by_cases c : N ≤ j
    · refine gt (by rw [vv_le (by omega) (by omega)]; exact c) (fin 0 (Or.inl ⟨rfl, fun w hw => ?_⟩))
      rcases hh with ⟨a1, a2, a3⟩ | ⟨a1, a2, a3, a4⟩
      · exact a3 w (by omega) (by omega)
      · by_cases cw : w ≤ p
        · exact a3 w cw
        · exact a4 w (by omega) hw
    · refine gf (by rw [vv_le (by omega) (by omega)]; exact c) (g0 ?_)
      have mu : ∀ a, N - (nI (a + 1)).toNatClampNeg < N - (nI a).toNatClampNeg ∨ ¬ a < N := fun a => by
        by_cases q : a < N
        · rw [vv_clI (by omega), vv_clI (by omega)]; omega
        · exact Or.inr q
      by_cases cz : z = 0
      · subst cz
        refine gt (by rw [nl1, vv_le (by omega) (by omega)]; omega) ?_
        rw [show nI N = nI (N - 1 + 1) by rw [show N - 1 + 1 = N by omega]]
        refine test 0 K (N - 1) j (by omega) (by omega) (fun hf => ?_) (fun hf => ?_)
        · refine fin _ (Or.inr ⟨N - 1, by omega, rfl, hf, fun q => by rw [q, hFp] at hf; exact absurd hf (by decide), fun q => by omega, fun q => ⟨fun w hw => ?_, fun w h1 h2 => by omega⟩⟩)
          rcases hh with ⟨a1, a2, a3⟩ | ⟨a1, a2, a3, a4⟩
          · exact a3 w (by omega) (by omega)
          · omega
        · rcases hh with ⟨a1, a2, a3⟩ | ⟨a1, a2, a3, a4⟩
          · by_cases cp : p = N - 1
            · omega
            · exact hK _ _ _ ⟨rfl, j + 1, N - 1, by omega, by omega, rfl, rfl, by omega, Or.inr ⟨by omega, by omega, fun w hw => a3 w (by omega) hw, fun w h1 h2 => by rw [show w = N - 1 by omega]; exact hf⟩⟩ ((mu j).resolve_right (by omega))
          · omega
      · refine gf (by rw [nl1, vv_le (by omega) (by omega)]; omega) ?_
        rw [nl1, vv_sub (by omega) (by omega), show z + 1 - 1 = z - 1 + 1 by omega]
        refine test 0 K (z - 1) j (by omega) (by omega) (fun hf => ?_) (fun hf => ?_)
        · refine fin _ (Or.inr ⟨z - 1, by omega, rfl, hf, fun q => by rw [q, hFp] at hf; exact absurd hf (by decide), fun q w h1 h2 => ?_, fun q => ⟨fun w hw => ?_, fun w h1 h2 => ?_⟩⟩)
          · rcases hh with ⟨a1, a2, a3⟩ | ⟨a1, a2, a3, a4⟩
            · exact a3 w (by omega) (by omega)
            · exact a3 w (by omega)
          · rcases hh with ⟨a1, a2, a3⟩ | ⟨a1, a2, a3, a4⟩
            · omega
            · exact a3 w (by omega)
          · rcases hh with ⟨a1, a2, a3⟩ | ⟨a1, a2, a3, a4⟩
            · omega
            · exact a4 w (by omega) h2
        · refine hK _ _ _ ⟨rfl, j + 1, z - 1, by omega, by omega, rfl, rfl, by omega, ?_⟩ ((mu j).resolve_right (by omega))
          rcases hh with ⟨a1, a2, a3⟩ | ⟨a1, a2, a3, a4⟩
          · refine Or.inl ⟨by omega, by omega, fun w h1 h2 => ?_⟩
            by_cases ew : w = z - 1
            · rw [ew]; exact hf
            · exact a3 w (by omega) h2
          · refine Or.inr ⟨by omega, by omega, a3, fun w h1 h2 => ?_⟩
            by_cases ew : w = z - 1
            · rw [ew]; exact hf
            · exact a4 w (by omega) h2
  · intro k
    have fin : ∀ res, fwP (FF r t p) N p res → Q (nI res) S := fun res h => by rw [fwP_eq hFp h hp]; exact k
    unfold wp_X1_touchedNear
    refine wl2 (wp_X1_touchedNear_6 G T (nI (p + 1)) 1 Q) (fun K => wp_X1_touchedNear_6_b G T (nI (p + 1)) 1 K Q) (fun _ _ _ _ => rfl)
      (fun S' v4 v5 => S' = S ∧ ∃ j z, 1 ≤ j ∧ j ≤ N ∧ v5 = nI j ∧ v4 = nI (z + 1) ∧ z < N ∧ ((z + 1 = p + j ∧ p ≤ z ∧ ∀ w, p ≤ w → w ≤ z → FF r t p w = false) ∨ (z + 1 + N = p + j ∧ z < p ∧ (∀ w, p ≤ w → w < N → FF r t p w = false) ∧ ∀ w, w ≤ z → FF r t p w = false)))
      (fun _ _ v => N - v.toNatClampNeg) ⟨rfl, 1, p, by omega, by omega, rfl, rfl, hp, Or.inl ⟨by omega, by omega, fun w h1 h2 => by rw [show w = p by omega]; exact hFp⟩⟩ ?_
    rintro S' v4 v5 K ⟨rfl, j, z, hj1, hjN, rfl, rfl, hz, hh⟩ hK
    unfold wp_X1_touchedNear_6_b wp_X1_touchedNear_36
    rw [e]
    by_cases c : N ≤ j
    · refine gt (by rw [vv_le (by omega) (by omega)]; exact c) (fin 0 (Or.inl ⟨rfl, fun w hw => ?_⟩))
      rcases hh with ⟨a1, a2, a3⟩ | ⟨a1, a2, a3, a4⟩
      · exact a3 w (by omega) (by omega)
      · by_cases cw : p ≤ w
        · exact a3 w cw hw
        · exact a4 w (by omega)
    · refine gf (by rw [vv_le (by omega) (by omega)]; exact c) (g1 ?_)
      have mu : ∀ a, N - (nI (a + 1)).toNatClampNeg < N - (nI a).toNatClampNeg ∨ ¬ a < N := fun a => by
        by_cases q : a < N
        · rw [vv_clI (by omega), vv_clI (by omega)]; omega
        · exact Or.inr q
      by_cases cz : z + 1 = N
      · refine gt (by rw [vv_le (by omega) (by omega)]; omega) ?_
        rw [show (1 : Int32) = nI (0 + 1) from rfl]
        refine test _ K 0 j (by omega) (by omega) (fun hf => ?_) (fun hf => ?_)
        · refine fin _ (Or.inr ⟨0, by omega, rfl, hf, fun q => by rw [q, hFp] at hf; exact absurd hf (by decide), fun q => by omega, fun q => ⟨fun w h1 h2 => ?_, fun w h1 => by omega⟩⟩)
          rcases hh with ⟨a1, a2, a3⟩ | ⟨a1, a2, a3, a4⟩
          · exact a3 w (by omega) (by omega)
          · omega
        · rcases hh with ⟨a1, a2, a3⟩ | ⟨a1, a2, a3, a4⟩
          · by_cases cp : p = 0
            · omega
            · exact hK _ _ _ ⟨rfl, j + 1, 0, by omega, by omega, rfl, rfl, by omega, Or.inr ⟨by omega, by omega, fun w h1 h2 => a3 w h1 (by omega), fun w h1 => by rw [show w = 0 by omega]; exact hf⟩⟩ ((mu j).resolve_right (by omega))
          · omega
      · refine gf (by rw [vv_le (by omega) (by omega)]; omega) ?_
        rw [nI_1]
        refine test _ K (z + 1) j (by omega) (by omega) (fun hf => ?_) (fun hf => ?_)
        · refine fin _ (Or.inr ⟨z + 1, by omega, rfl, hf, fun q => by rw [q, hFp] at hf; exact absurd hf (by decide), fun q w h1 h2 => ?_, fun q => ⟨fun w h1 h2 => ?_, fun w h1 => ?_⟩⟩)
          · rcases hh with ⟨a1, a2, a3⟩ | ⟨a1, a2, a3, a4⟩
            · exact a3 w (by omega) (by omega)
            · exact a3 w (by omega) (by omega)
          · rcases hh with ⟨a1, a2, a3⟩ | ⟨a1, a2, a3, a4⟩
            · omega
            · exact a3 w (by omega) h2
          · rcases hh with ⟨a1, a2, a3⟩ | ⟨a1, a2, a3, a4⟩
            · omega
            · exact a4 w (by omega)
        · refine hK _ _ _ ⟨rfl, j + 1, z + 1, by omega, by omega, rfl, rfl, by omega, ?_⟩ ((mu j).resolve_right (by omega))
          rcases hh with ⟨a1, a2, a3⟩ | ⟨a1, a2, a3, a4⟩
          · refine Or.inl ⟨by omega, by omega, fun w h1 h2 => ?_⟩
            by_cases ew : w = z + 1
            · rw [ew]; exact hf
            · exact a3 w h1 (by omega)
          · refine Or.inr ⟨by omega, by omega, a3, fun w h1 => ?_⟩
            by_cases ew : w = z + 1
            · rw [ew]; exact hf
            · exact a4 w (by omega)
end NEARC
