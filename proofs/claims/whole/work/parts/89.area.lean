/- areas and ends of an outline -/
def lX (l : List (Int64 × Int64 × Nat)) (i : Nat) : Int64 := (l[i]?.getD (0, 0, 0)).1
def lY (l : List (Int64 × Int64 × Nat)) (i : Nat) : Int64 := (l[i]?.getD (0, 0, 0)).2.1
def lC (l : List (Int64 × Int64 × Nat)) (i : Nat) : Nat := (l[i]?.getD (0, 0, 0)).2.2
theorem OutA.to {X Y : Nat → Int64} {C : Nat → Int32} {l : List (Int64 × Int64 × Nat)} (h : OutA X Y C l) {i : Nat} (hi : i < l.length) : X i = lX l i ∧ Y i = lY l i ∧ C i = nI (lC l i) := by
  have e : l[i]? = some l[i] := List.getElem?_eq_getElem hi
  have := h i _ e
  unfold lX lY lC
  rw [e]
  exact this
def CtB (a : xOS) : Prop := ∀ p, p ∈ a.1 → p.2.2 < a.2
theorem CtB.lt {a : xOS} (h : CtB a) {i : Nat} (hi : i < a.1.length) : lC a.1 i < a.2 := by
  have e : a.1[i]? = some a.1[i] := List.getElem?_eq_getElem hi
  unfold lC
  rw [e]
  exact h _ (List.getElem_mem hi)
theorem ptA_ctb {r loc : Nat → Int32} {x y : Int64} {a : xOS} (h : CtB a) : ∀ p, CtB (ptA r loc x y p a)
  | 0 => h
  | p + 1 => by
    have ih := ptA_ctb (r := r) (loc := loc) (x := x) (y := y) h p
    have e2 := (ptA_len r loc x y p a).2
    have hc : ctO r p ≤ cno r p + 1 := by
      cases p with
      | zero => exact Nat.zero_le _
      | succ p => show cno r p + 1 ≤ (cno r p + (if r (52 + (p + 1)) = 1 then 1 else 0)) + 1; omega
    intro q hq
    show q.2.2 < a.2 + cno r p + 1
    rcases List.mem_append.mp hq with hq | hq
    · have := ih q hq; omega
    · rw [List.mem_singleton.mp hq]; exact Nat.lt_succ_self _
theorem otD_ctb {M : xS} {loc : Nat → Int32} : ∀ f g x y a, CtB a → CtB (otD M loc f g x y a)
  | 0, _, _, _, _, h => h
  | f + 1, g, x, y, a, h => by
    show CtB (if mrow M g 0 = 1 then otC (otD M loc f) (mrow M g) loc x y (rN (mrow M g)) a else ptA (mrow M g) loc x y (rN (mrow M g)) a)
    by_cases c : mrow M g 0 = 1
    · rw [if_pos c]
      have key : ∀ c, CtB (otC (otD M loc f) (mrow M g) loc x y c a) := by
        intro c
        induction c with
        | zero => exact h
        | succ c ih => exact otD_ctb f _ _ _ _ ih
      exact key _
    · rw [if_neg c]; exact ptA_ctb h _
def fsF (C : Nat → Nat) : Nat → Nat
  | 0 => 0
  | k + 1 => if C (k + 1) = C k then fsF C k else k + 1
theorem fsF_ok {C : Nat → Nat} : ∀ k, fsF C k ≤ k ∧ C (fsF C k) = C k
  | 0 => ⟨Nat.le_refl _, rfl⟩
  | k + 1 => by
    have ih := fsF_ok (C := C) k
    show (if C (k + 1) = C k then fsF C k else k + 1) ≤ k + 1 ∧ C (if C (k + 1) = C k then fsF C k else k + 1) = C (k + 1)
    by_cases c : C (k + 1) = C k
    · rw [if_pos c]; exact ⟨by omega, ih.2.trans c.symm⟩
    · rw [if_neg c]; exact ⟨Nat.le_refl _, rfl⟩
def fpF (C : Nat → Nat) : Nat → Nat
  | 0 => 0
  | k + 1 => fsF C k
def nxF (C : Nat → Nat) (n k : Nat) : Nat := if k + 1 < n ∧ C (k + 1) = C k then k + 1 else fsF C k
def tmF (X Y : Nat → Int64) (C : Nat → Nat) (n k : Nat) : Int64 := X k * Y (nxF C n k) - X (nxF C n k) * Y k
def arS (X Y : Nat → Int64) (C : Nat → Nat) (n : Nat) (sel : Nat → Bool) : Nat → Int64
  | 0 => 0
  | k + 1 => arS X Y C n sel k + (if sel (C k) = true then tmF X Y C n k else 0)
def arL (l : List (Int64 × Int64 × Nat)) (sel : Nat → Bool) : Int64 := arS (lX l) (lY l) (lC l) l.length sel l.length
theorem w4_area {S : xS} {o : Nat} {a : xOS} {a1 : Int32} {sel : Nat → Bool} {Q : Int64 → xS → Prop} (h4 : S.1 4 o 0 = nI a.1.length) (hA : OutA (S.2.1 21 o) (S.2.1 22 o) (S.1 23 o) a.1) (hl : a.1.length ≤ 96) (hc : CtB a) (h2 : a.2 ≤ 1000) (hs : ∀ c, c < 1000 → (nI c = a1) = (sel c = true)) (k : Q (arL a.1 sel) S) : wp_X4_contourArea o a1 S Q := by
  unfold wp_X4_contourArea
  refine wl3 (wp_X4_contourArea_8 o a1 Q) (fun K => wp_X4_contourArea_8_b o a1 K Q) (fun _ _ _ _ _ => rfl)
    (fun S' v2 v4 v5 => S' = S ∧ ∃ j, j ≤ a.1.length ∧ v5 = nI j ∧ v4 = nI (fpF (lC a.1) j) ∧ v2 = arS (lX a.1) (lY a.1) (lC a.1) a.1.length sel j) (fun _ _ _ v => 100 - v.toNatClampNeg) ⟨rfl, 0, by omega, rfl, rfl, rfl⟩ ?_
  rintro S' v2 v4 v5 K ⟨rfl, j, hj, rfl, rfl, rfl⟩ hK
  unfold wp_X4_contourArea_8_b
  rw [h4]
  by_cases c : j = a.1.length
  · subst c
    exact gt (by rw [vv_le (by omega) (by omega)]; omega) k
  · have hj2 : j < a.1.length := by omega
    obtain ⟨x1, x2, x3⟩ := hA.to hj2
    have cj := hc.lt hj2
    have fj := fsF_ok (C := lC a.1) j
    have next : ∀ x, x = arS (lX a.1) (lY a.1) (lC a.1) a.1.length sel (j + 1) → K S' x (nI (fsF (lC a.1) j)) (nI j + 1) := fun x hx => by
      rw [nI_1]
      exact hK _ _ _ _ ⟨rfl, j + 1, by omega, rfl, rfl, hx⟩ (by rw [vv_clI (by omega), vv_clI (by omega)]; omega)
    have es : arS (lX a.1) (lY a.1) (lC a.1) a.1.length sel (j + 1) = arS (lX a.1) (lY a.1) (lC a.1) a.1.length sel j + (if sel (lC a.1 j) = true then tmF (lX a.1) (lY a.1) (lC a.1) a.1.length j else 0) := rfl
    have hin := vv_in (k := j) (N := 96) (by omega) (by omega)
    have b89 : ∀ s, s < a.1.length → s = nxF (lC a.1) a.1.length j → sel (lC a.1 j) = true → wp_X4_contourArea_89 o a1 K Q S' (arS (lX a.1) (lY a.1) (lC a.1) a.1.length sel j) (nI (fsF (lC a.1) j)) (nI j) (nI s) := by
      intro s hs1 hs2 hsel
      obtain ⟨y1, y2, y3⟩ := hA.to hs1
      have hin2 := vv_in (k := s) (N := 96) (by omega) (by omega)
      unfold wp_X4_contourArea_89
      refine ⟨hin, hin2, hin2, hin, next _ ?_⟩
      rw [vv_clI (k := j) (by omega), vv_clI (k := s) (by omega), x1, x2, y1, y2, es, if_pos hsel]
      unfold tmF
      rw [hs2]
    have b45 : wp_X4_contourArea_45 o a1 K Q S' (arS (lX a.1) (lY a.1) (lC a.1) a.1.length sel j) (nI (fsF (lC a.1) j)) (nI j) := by
      unfold wp_X4_contourArea_45
      refine ⟨hin, ?_⟩
      rw [vv_clI (k := j) (by omega), x3, nI_1, h4]
      by_cases cs : nI (lC a.1 j) = a1
      · have hsel : sel (lC a.1 j) = true := by rw [← hs _ (by omega)]; exact cs
        refine gt cs ?_
        by_cases c2 : j + 1 < a.1.length
        · refine gf (by rw [vv_le (by omega) (by omega)]; omega) ⟨vv_in (by omega) (by omega), ?_⟩
          have cj1 := hc.lt c2
          rw [vv_clI (k := j + 1) (by omega), (hA.to c2).2.2]
          by_cases c3 : lC a.1 (j + 1) = lC a.1 j
          · exact gt (by rw [c3]; exact cs) (b89 (j + 1) c2 (by unfold nxF; rw [if_pos ⟨c2, c3⟩]) hsel)
          · refine gf (by rw [← cs, vv_eq (by omega) (by omega)]; exact c3) ?_
            exact b89 _ (by omega) (by unfold nxF; rw [if_neg (fun h => c3 h.2)]) hsel
        · refine gt (by rw [vv_le (by omega) (by omega)]; omega) ?_
          exact b89 _ (by omega) (by unfold nxF; rw [if_neg (fun h => c2 h.1)]) hsel
      · have hsel : ¬ sel (lC a.1 j) = true := by rw [← hs _ (by omega)]; exact cs
        exact gf cs (next _ (by rw [es, if_neg hsel, i64_zero_add]))
    refine gf (by rw [vv_le (by omega) (by omega)]; omega) ?_
    cases j with
    | zero => exact gt (by decide) b45
    | succ j =>
      have hj3 : j < a.1.length := by omega
      have cj0 := hc.lt hj3
      refine gf (by rw [nl0, vv_le (by omega) (by omega)]; omega) ⟨hin, ?_⟩
      rw [nI_s1 (by omega) (by omega), Nat.add_sub_cancel, vv_clI (k := j + 1) (by omega), vv_clI (k := j) (by omega), x3, (hA.to hj3).2.2]
      refine ⟨vv_in (by omega) (by omega), ?_⟩
      have ef : fsF (lC a.1) (j + 1) = if lC a.1 (j + 1) = lC a.1 j then fsF (lC a.1) j else j + 1 := rfl
      by_cases c3 : lC a.1 (j + 1) = lC a.1 j
      · rw [ef, if_pos c3] at b45
        exact gt (by rw [c3]) b45
      · rw [ef, if_neg c3] at b45
        exact gf (by rw [vv_eq (by omega) (by omega)]; exact c3) b45
theorem w7_areaOf {M : xS} {a : xOS} {a1 : Int32} {sel : Nat → Bool} {Q : Int64 → xS → Prop} (h4 : M.1 0 0 13 = nI a.1.length) (hA : OutA (M.2.1 16 0) (M.2.1 17 0) (M.1 18 0) a.1) (hl : a.1.length ≤ 96) (hc : CtB a) (h2 : a.2 ≤ 1000) (hs : ∀ c, c < 1000 → (a1 < 0 ∨ nI c = a1) = (sel c = true)) (k : Q (arL a.1 sel) M) : wp_X7_areaOf a1 M Q := by
  unfold wp_X7_areaOf
  refine wl3 (wp_X7_areaOf_8 a1 Q) (fun K => wp_X7_areaOf_8_b a1 K Q) (fun _ _ _ _ _ => rfl)
    (fun S' v2 v4 v5 => S' = M ∧ ∃ j, j ≤ a.1.length ∧ v5 = nI j ∧ v4 = nI (fpF (lC a.1) j) ∧ v2 = arS (lX a.1) (lY a.1) (lC a.1) a.1.length sel j) (fun _ _ _ v => 100 - v.toNatClampNeg) ⟨rfl, 0, by omega, rfl, rfl, rfl⟩ ?_
  rintro S' v2 v4 v5 K ⟨rfl, j, hj, rfl, rfl, rfl⟩ hK
  unfold wp_X7_areaOf_8_b
  rw [h4]
  by_cases c : j = a.1.length
  · subst c
    exact gt (by rw [vv_le (by omega) (by omega)]; omega) k
  · have hj2 : j < a.1.length := by omega
    obtain ⟨x1, x2, x3⟩ := hA.to hj2
    have cj := hc.lt hj2
    have fj := fsF_ok (C := lC a.1) j
    have next : ∀ x, x = arS (lX a.1) (lY a.1) (lC a.1) a.1.length sel (j + 1) → K S' x (nI (fsF (lC a.1) j)) (nI j + 1) := fun x hx => by
      rw [nI_1]
      exact hK _ _ _ _ ⟨rfl, j + 1, by omega, rfl, rfl, hx⟩ (by rw [vv_clI (by omega), vv_clI (by omega)]; omega)
    have es : arS (lX a.1) (lY a.1) (lC a.1) a.1.length sel (j + 1) = arS (lX a.1) (lY a.1) (lC a.1) a.1.length sel j + (if sel (lC a.1 j) = true then tmF (lX a.1) (lY a.1) (lC a.1) a.1.length j else 0) := rfl
    have hin := vv_in (k := j) (N := 96) (by omega) (by omega)
    have b82 : ∀ s, s < a.1.length → s = nxF (lC a.1) a.1.length j → wp_X7_areaOf_82 a1 K Q S' (arS (lX a.1) (lY a.1) (lC a.1) a.1.length sel j) (nI (fsF (lC a.1) j)) (nI j) (nI s) := by
      intro s hs1 hs2
      obtain ⟨y1, y2, y3⟩ := hA.to hs1
      have hin2 := vv_in (k := s) (N := 96) (by omega) (by omega)
      have yes : sel (lC a.1 j) = true → wp_X7_areaOf_100 a1 K Q S' (nI (fsF (lC a.1) j)) (nI j) (nI s) (arS (lX a.1) (lY a.1) (lC a.1) a.1.length sel j) := fun hsel => by
        unfold wp_X7_areaOf_100
        refine ⟨hin, hin2, hin2, hin, next _ ?_⟩
        rw [vv_clI (k := j) (by omega), vv_clI (k := s) (by omega), x1, x2, y1, y2, es, if_pos hsel]
        unfold tmF
        rw [hs2]
      have hsj := hs (lC a.1 j) (by omega)
      unfold wp_X7_areaOf_82
      by_cases c1 : a1 < 0
      · exact gt c1 (yes (by rw [← hsj]; exact Or.inl c1))
      · refine gf c1 ⟨hin, ?_⟩
        rw [vv_clI (k := j) (by omega), x3]
        by_cases c2 : nI (lC a.1 j) = a1
        · exact gt c2 (yes (by rw [← hsj]; exact Or.inr c2))
        · have hn : ¬ sel (lC a.1 j) = true := by rw [← hsj]; exact fun h => h.elim c1 c2
          exact gf c2 (next _ (by rw [es, if_neg hn]))
    have b41 : wp_X7_areaOf_41 a1 K Q S' (arS (lX a.1) (lY a.1) (lC a.1) a.1.length sel j) (nI j) (nI (fsF (lC a.1) j)) := by
      unfold wp_X7_areaOf_41 wp_X7_areaOf_80
      rw [nI_1, h4]
      by_cases c2 : j + 1 < a.1.length
      · refine gf (by rw [vv_le (by omega) (by omega)]; omega) ⟨vv_in (by omega) (by omega), hin, ?_⟩
        have cj1 := hc.lt c2
        rw [vv_clI (k := j + 1) (by omega), vv_clI (k := j) (by omega), (hA.to c2).2.2, x3]
        by_cases c3 : lC a.1 (j + 1) = lC a.1 j
        · exact gt (by rw [c3]) (b82 (j + 1) c2 (by unfold nxF; rw [if_pos ⟨c2, c3⟩]))
        · refine gf (by rw [vv_eq (by omega) (by omega)]; exact c3) ?_
          exact b82 _ (by omega) (by unfold nxF; rw [if_neg (fun h => c3 h.2)])
      · refine gt (by rw [vv_le (by omega) (by omega)]; omega) ?_
        exact b82 _ (by omega) (by unfold nxF; rw [if_neg (fun h => c2 h.1)])
    refine gf (by rw [vv_le (by omega) (by omega)]; omega) ⟨hin, ?_⟩
    cases j with
    | zero =>
      refine ⟨vv_in (by show 0 < 96; omega) (by omega), gt rfl b41⟩
    | succ j =>
      have hj3 : j < a.1.length := by omega
      have cj0 := hc.lt hj3
      have fj0 := fsF_ok (C := lC a.1) j
      have hfl : fsF (lC a.1) j < a.1.length := by omega
      show vp_in (nI (fsF (lC a.1) j)) 96 ∧ if S'.1 18 0 (nI (j + 1)).toNatClampNeg = S'.1 18 0 (nI (fsF (lC a.1) j)).toNatClampNeg then wp_X7_areaOf_41 a1 K Q S' _ (nI (j + 1)) (nI (fsF (lC a.1) j)) else wp_X7_areaOf_41 a1 K Q S' _ (nI (j + 1)) (nI (j + 1))
      refine ⟨vv_in (by omega) (by omega), ?_⟩
      rw [vv_clI (k := j + 1) (by omega), vv_clI (k := fsF (lC a.1) j) (by omega), x3, (hA.to hfl).2.2, fj0.2]
      have ef : fsF (lC a.1) (j + 1) = if lC a.1 (j + 1) = lC a.1 j then fsF (lC a.1) j else j + 1 := rfl
      by_cases c3 : lC a.1 (j + 1) = lC a.1 j
      · rw [ef, if_pos c3] at b41
        exact gt (by rw [c3]) b41
      · rw [ef, if_neg c3] at b41
        exact gf (by rw [vv_eq (by omega) (by omega)]; exact c3) b41
/- the sum over all contours -/
def smI (F : Nat → Int64) : Nat → Int64
  | 0 => 0
  | n + 1 => smI F n + F n
theorem i64_4 (a b c d : Int64) : a + b + (c + d) = a + c + (b + d) := by
  rw [Int64.add_assoc, Int64.add_assoc, ← Int64.add_assoc b c d, Int64.add_comm b c, Int64.add_assoc c b d]
theorem smI_one (F : Nat → Int64) (c : Nat) (t : Int64) : ∀ m, smI (fun j => F j + (if decide (c = j) = true then t else 0)) m = smI F m + (if c < m then t else 0)
  | 0 => by rw [if_neg (by omega), i64_zero_add]; rfl
  | m + 1 => by
    show smI (fun j => F j + (if decide (c = j) = true then t else 0)) m + (F m + (if decide (c = m) = true then t else 0)) = smI F m + F m + (if c < m + 1 then t else 0)
    rw [smI_one F c t m, i64_4]
    congr 1
    by_cases e : c = m
    · rw [if_neg (by omega), decide_eq_true e, if_pos rfl, if_pos (by omega), Int64.add_comm, i64_zero_add]
    · rw [decide_eq_false e, if_neg (show ¬ (false = true) by decide), i64_zero_add]
      by_cases e2 : c < m
      · rw [if_pos e2, if_pos (by omega)]
      · rw [if_neg e2, if_neg (by omega)]
theorem smI_zero : ∀ m, smI (fun _ => 0) m = 0
  | 0 => rfl
  | m + 1 => by
    show smI (fun _ => 0) m + 0 = 0
    rw [smI_zero m]; rfl
theorem arS_all (X Y : Nat → Int64) (C : Nat → Nat) (n m : Nat) : ∀ k, (∀ i, i < k → C i < m) → smI (fun j => arS X Y C n (fun c => decide (c = j)) k) m = arS X Y C n (fun _ => true) k
  | 0, _ => smI_zero m
  | k + 1, h => by
    show smI (fun j => arS X Y C n (fun c => decide (c = j)) k + (if decide (C k = j) = true then tmF X Y C n k else 0)) m = arS X Y C n (fun _ => true) k + (if true = true then tmF X Y C n k else 0)
    rw [smI_one (fun j => arS X Y C n (fun c => decide (c = j)) k), arS_all X Y C n m k (fun i hi => h i (by omega)), if_pos (h k (by omega)), if_pos rfl]
theorem w4_whole {S : xS} {o : Nat} {a : xOS} {Q : Int64 → xS → Prop} (h4 : S.1 4 o 0 = nI a.1.length) (h5 : S.1 4 o 1 = nI a.2) (hA : OutA (S.2.1 21 o) (S.2.1 22 o) (S.1 23 o) a.1) (hl : a.1.length ≤ 96) (hc : CtB a) (h2 : a.2 ≤ 900) (k : Q (arL a.1 (fun _ => true)) S) : wp_X4_wholeArea o S Q := by
  unfold wp_X4_wholeArea
  refine wl2 (wp_X4_wholeArea_4 o Q) (fun K => wp_X4_wholeArea_4_b o K Q) (fun _ _ _ _ => rfl)
    (fun S' v1 v3 => S' = S ∧ ∃ j, j ≤ a.2 ∧ v3 = nI j ∧ v1 = smI (fun j => arL a.1 (fun c => decide (c = j))) j) (fun _ _ v => 1000 - v.toNatClampNeg) ⟨rfl, 0, by omega, rfl, rfl⟩ ?_
  rintro S' v1 v3 K ⟨rfl, j, hj, rfl, rfl⟩ hK
  unfold wp_X4_wholeArea_4_b
  rw [h5]
  by_cases c : j = a.2
  · subst c
    refine gt (by rw [vv_le (by omega) (by omega)]; omega) ?_
    have e : smI (fun j => arL a.1 (fun c => decide (c = j))) a.2 = arL a.1 (fun _ => true) := arS_all _ _ _ _ _ _ (fun i hi => hc.lt hi)
    rw [e]; exact k
  · refine gf (by rw [vv_le (by omega) (by omega)]; omega) (w4_area h4 hA hl hc (by omega) (sel := fun c => decide (c = j)) (fun c hc => by rw [vv_eq (by omega) (by omega), decide_eq_true_eq]) ?_)
    rw [nI_1]
    exact hK _ _ _ ⟨rfl, j + 1, by omega, rfl, rfl⟩ (by rw [vv_clI (by omega), vv_clI (by omega)]; omega)
