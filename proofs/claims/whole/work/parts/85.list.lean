/- the outline as a list -/
abbrev xOS : Type := List (Int64 × Int64 × Nat) × Nat
def pX (r loc : Nat → Int32) (p : Nat) : Int64 := plV r loc p 0 (fun t => depB r t 15 4)
def pY (r loc : Nat → Int32) (p : Nat) : Int64 := plV r loc p 1 (fun t => depB r t 15 4)
def ptA (r loc : Nat → Int32) (x y : Int64) : Nat → xOS → xOS
  | 0, a => a
  | p + 1, a => ((ptA r loc x y p a).1 ++ [(x + pX r loc p, y + pY r loc p, a.2 + cno r p)], a.2 + cno r p + 1)
def otC (D : Nat → Int64 → Int64 → xOS → xOS) (r loc : Nat → Int32) (x y : Int64) : Nat → xOS → xOS
  | 0, a => a
  | c + 1, a => D (r (52 + c)).toNatClampNeg (x + pX r loc c) (y + pY r loc c) (otC D r loc x y c a)
def otD (M : xS) (loc : Nat → Int32) : Nat → Nat → Int64 → Int64 → xOS → xOS
  | 0, _, _, _, a => a
  | f + 1, g, x, y, a => if mrow M g 0 = 1 then otC (otD M loc f) (mrow M g) loc x y (rN (mrow M g)) a else ptA (mrow M g) loc x y (rN (mrow M g)) a
def ctO (r : Nat → Int32) : Nat → Nat
  | 0 => 0
  | n + 1 => cno r n + 1
def sumR (F : Nat → Nat) : Nat → Nat
  | 0 => 0
  | n + 1 => sumR F n + F n
theorem sumR_list (F : Nat → Nat) : ∀ n, ((List.range n).map F).sum = sumR F n
  | 0 => rfl
  | n + 1 => by
    rw [List.range_succ, List.map_append, List.sum_append, sumR_list F n]
    show sumR F n + (F n + 0) = sumR F n + F n
    omega
theorem sumR_le (F : Nat → Nat) : ∀ n m, n ≤ m → sumR F n ≤ sumR F m
  | n, 0, h => by rw [show n = 0 by omega]; omega
  | n, m + 1, h => by
    by_cases c : n = m + 1
    · rw [c]; omega
    · have := sumR_le F n m (by omega)
      show sumR F n ≤ sumR F m + F m
      omega
theorem sumR_congr {F G : Nat → Nat} : ∀ n, (∀ i, i < n → F i = G i) → sumR F n = sumR G n
  | 0, _ => rfl
  | n + 1, h => by
    show sumR F n + F n = sumR G n + G n
    rw [sumR_congr n (fun i hi => h i (by omega)), h n (by omega)]
def chd (M : xS) (g c : Nat) : Nat := (mrow M g (52 + c)).toNatClampNeg
theorem ptsOf_s (M : xS) (f g : Nat) : ptsOf M (f + 1) g = if mrow M g 0 = 1 then sumR (fun c => ptsOf M f (chd M g c)) (rN (mrow M g)) else rN (mrow M g) := by
  rw [← sumR_list]; rfl
def ctsOf (M : xS) : Nat → Nat → Nat
  | 0, _ => 0
  | f + 1, g => if mrow M g 0 = 1 then sumR (fun c => ctsOf M f (chd M g c)) (rN (mrow M g)) else ctO (mrow M g) (rN (mrow M g))
theorem ctO_le {r : Nat → Int32} (n : Nat) : ctO r n ≤ n := by
  cases n with
  | zero => exact Nat.le_refl _
  | succ n => have := cno_le (r := r) n; show cno r n + 1 ≤ n + 1; omega
theorem ptA_len (r loc : Nat → Int32) (x y : Int64) : ∀ p a, (ptA r loc x y p a).1.length = a.1.length + p ∧ (ptA r loc x y p a).2 = a.2 + ctO r p
  | 0, a => ⟨rfl, rfl⟩
  | p + 1, a => by
    refine ⟨?_, ?_⟩
    · show ((ptA r loc x y p a).1 ++ [_]).length = _
      rw [List.length_append, (ptA_len r loc x y p a).1]
      rfl
    · show a.2 + cno r p + 1 = a.2 + (cno r p + 1)
      omega
theorem otD_len (M : xS) (loc : Nat → Int32) : ∀ f g x y a, (otD M loc f g x y a).1.length = a.1.length + ptsOf M f g ∧ (otD M loc f g x y a).2 = a.2 + ctsOf M f g
  | 0, _, _, _, a => ⟨rfl, rfl⟩
  | f + 1, g, x, y, a => by
    have key : ∀ c, (otC (otD M loc f) (mrow M g) loc x y c a).1.length = a.1.length + sumR (fun c => ptsOf M f (chd M g c)) c ∧ (otC (otD M loc f) (mrow M g) loc x y c a).2 = a.2 + sumR (fun c => ctsOf M f (chd M g c)) c := by
      intro c
      induction c with
      | zero => exact ⟨rfl, rfl⟩
      | succ c ih =>
        obtain ⟨h1, h2⟩ := otD_len M loc f (chd M g c) (x + pX (mrow M g) loc c) (y + pY (mrow M g) loc c) (otC (otD M loc f) (mrow M g) loc x y c a)
        refine ⟨?_, ?_⟩
        · show (otD M loc f (chd M g c) _ _ _).1.length = a.1.length + (sumR (fun c => ptsOf M f (chd M g c)) c + ptsOf M f (chd M g c))
          rw [h1, ih.1]; omega
        · show (otD M loc f (chd M g c) _ _ _).2 = a.2 + (sumR (fun c => ctsOf M f (chd M g c)) c + ctsOf M f (chd M g c))
          rw [h2, ih.2]; omega
    rw [ptsOf_s]
    show (if mrow M g 0 = 1 then _ else _ : xOS).1.length = _ ∧ (if mrow M g 0 = 1 then _ else _ : xOS).2 = a.2 + if mrow M g 0 = 1 then _ else _
    by_cases c : mrow M g 0 = 1
    · simp only [if_pos c]; exact key _
    · simp only [if_neg c]; exact ptA_len _ _ _ _ _ _
theorem otC_len (M : xS) (loc r : Nat → Int32) (f : Nat) (x y : Int64) (a : xOS) : ∀ c, (otC (otD M loc f) r loc x y c a).1.length = a.1.length + sumR (fun c => ptsOf M f (r (52 + c)).toNatClampNeg) c
  | 0 => rfl
  | c + 1 => by
    show (otD M loc f (r (52 + c)).toNatClampNeg _ _ _).1.length = a.1.length + (sumR (fun c => ptsOf M f (r (52 + c)).toNatClampNeg) c + ptsOf M f (r (52 + c)).toNatClampNeg)
    rw [(otD_len M loc f _ _ _ _).1, otC_len M loc r f x y a c]; omega
theorem ctsOf_le (M : xS) : ∀ f g, ctsOf M f g ≤ ptsOf M f g
  | 0, _ => Nat.le_refl _
  | f + 1, g => by
    rw [ptsOf_s]
    show (if mrow M g 0 = 1 then sumR (fun c => ctsOf M f (chd M g c)) (rN (mrow M g)) else ctO (mrow M g) (rN (mrow M g))) ≤ _
    by_cases c : mrow M g 0 = 1
    · rw [if_pos c, if_pos c]
      have key : ∀ n, sumR (fun c => ctsOf M f (chd M g c)) n ≤ sumR (fun c => ptsOf M f (chd M g c)) n := by
        intro n
        induction n with
        | zero => exact Nat.le_refl _
        | succ n ih =>
          have := ctsOf_le M f (chd M g n)
          show sumR (fun c => ctsOf M f (chd M g c)) n + ctsOf M f (chd M g n) ≤ sumR (fun c => ptsOf M f (chd M g c)) n + ptsOf M f (chd M g n)
          omega
      exact key _
    · rw [if_neg c, if_neg c]; exact ctO_le _
theorem chd_lt {M : xS} {na g c : Nat} (hg : g < 6) (hR : RowOk na g (mrow M g)) (h1 : mrow M g 0 = 1) (hc : c < rN (mrow M g)) : chd M g c < g ∧ mrow M g (52 + c) = nI (chd M g c) := by
  obtain ⟨h, q1, q2⟩ := hR.2.2.2.2.2.1 h1 c hc
  unfold chd
  rw [q1, vv_clI (by omega)]
  exact ⟨q2, rfl⟩
theorem fuel_s {M : xS} {ng na : Nat} (hn : ng ≤ 6) (hR : ∀ z, z < ng → RowOk na z (mrow M z)) : ∀ f g, g < ng → g < f → ptsOf M (f + 1) g = ptsOf M f g ∧ ctsOf M (f + 1) g = ctsOf M f g
  | 0, g, _, h => by omega
  | f + 1, g, hg, hf => by
    rw [ptsOf_s M (f + 1), ptsOf_s M f]
    show _ ∧ (if mrow M g 0 = 1 then sumR (fun c => ctsOf M (f + 1) (chd M g c)) (rN (mrow M g)) else ctO (mrow M g) (rN (mrow M g))) = (if mrow M g 0 = 1 then sumR (fun c => ctsOf M f (chd M g c)) (rN (mrow M g)) else ctO (mrow M g) (rN (mrow M g)))
    by_cases c : mrow M g 0 = 1
    · simp only [if_pos c]
      have key : ∀ i, i < rN (mrow M g) → ptsOf M (f + 1) (chd M g i) = ptsOf M f (chd M g i) ∧ ctsOf M (f + 1) (chd M g i) = ctsOf M f (chd M g i) := fun i hi => by
        have := (chd_lt (by omega) (hR g hg) c hi).1
        exact fuel_s hn hR f _ (by omega) (by omega)
      exact ⟨sumR_congr _ (fun i hi => (key i hi).1), sumR_congr _ (fun i hi => (key i hi).2)⟩
    · simp only [if_neg c]; exact ⟨trivial, trivial⟩
def OutA (X Y : Nat → Int64) (C : Nat → Int32) (l : List (Int64 × Int64 × Nat)) : Prop := ∀ i p, l[i]? = some p → X i = p.1 ∧ Y i = p.2.1 ∧ C i = nI p.2.2
theorem OutA_snoc {X Y X' Y' : Nat → Int64} {C C' : Nat → Int32} {l : List (Int64 × Int64 × Nat)} {x y : Int64} {c : Nat} (h : OutA X Y C l) (hX : ∀ i, i < l.length → X' i = X i) (hY : ∀ i, i < l.length → Y' i = Y i) (hC : ∀ i, i < l.length → C' i = C i) (h1 : X' l.length = x) (h2 : Y' l.length = y) (h3 : C' l.length = nI c) : OutA X' Y' C' (l ++ [(x, y, c)]) := by
  intro i p hi
  by_cases ci : i < l.length
  · rw [List.getElem?_append_left ci] at hi
    rw [hX i ci, hY i ci, hC i ci]
    exact h i p hi
  · rw [List.getElem?_append_right (by omega)] at hi
    by_cases ce : i = l.length
    · subst ce
      rw [Nat.sub_self] at hi
      have hi : some (x, y, c) = some p := hi
      have e := Option.some.inj hi
      subst e
      exact ⟨h1, h2, h3⟩
    · rw [List.getElem?_eq_none (by show 1 ≤ _; omega)] at hi
      exact absurd hi (by simp)
