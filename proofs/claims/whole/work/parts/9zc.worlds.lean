theorem fU_lt (t : Nat → Nat) : ∀ (n j : Nat), j < n → fU n t j = some (t j)
  | 0, j, h => absurd h (Nat.not_lt_zero _)
  | n + 1, j, h => by
    show va_up (fU n t) n (some (t n)) j = _
    unfold va_up
    split
    · rename_i e; rw [e]
    · exact fU_lt t n j (by omega)
theorem fR_at (b j : Nat) (h : j < 6) : fR 6 0 b (fun _ => none) j = some (b + j) := by
  rcases (show j = 0 ∨ j = 1 ∨ j = 2 ∨ j = 3 ∨ j = 4 ∨ j = 5 by omega) with rfl | rfl | rfl | rfl | rfl | rfl <;> rfl
theorem qcell_congr (cA : ClassId) {n : Nat} {f f2 : Nat → Option Nat} (h : ∀ j, j < n → f j = f2 j) : vp_cell cA (n, .inr (.inr (.inr (.inr f)))) = vp_cell cA (n, .inr (.inr (.inr (.inr f2)))) := by
  rw [vp_cell_q, vp_cell_q]
  unfold arrV
  congr 1
  apply Array.ext
  · simp
  · intro i h1 h2
    simp only [Array.getElem_ofFn]
    rw [h i (by simpa using h1)]
theorem R0_else {k : Nat} (i : Nat) (h1 : k ≠ 16) (h2 : k ≠ 18) : R0 k i = fun _ => 0 := by
  funext j
  unfold R0
  split
  · exact absurd rfl h1
  · exact absurd rfl h2
  · rfl
theorem cell0_at {D : va_G} {cl : List vw_C} {cy : Nat → ClassId} {h0 : Nat} {u : UF} {H : Heap} (k i : Nat) (h : va_at D cl (adC h0 u k i, cell0 cy h0 u k i) H) : va_at D cl (adC h0 u k i, cellC cy (adC h0 u) k i (S0.1 k i) (S0.2.1 k i) (S0.2.2 k i)) H := by
  have key : ∀ {cA : ClassId} {n a : Nat} {f f2 : Nat → Option Nat}, va_at D cl (a, .inl (cA, n, .inr (.inr (.inr (.inr f))))) H → (∀ j, j < n → f j = f2 j) → va_at D cl (a, .inl (cA, n, .inr (.inr (.inr (.inr f2))))) H := by
    intro cA n a f f2 h1 h2
    show H[a]? = some (vp_cell cA (n, .inr (.inr (.inr (.inr f2)))))
    rw [← qcell_congr cA h2]
    exact h1
  by_cases e16 : k = 16
  · subst e16
    refine key (f2 := fun j => some (adC h0 u 5 (R0 16 i j))) h (fun j hj => ?_)
    rw [fU_lt _ _ _ hj]
    show _ = some ((glU u ((5 * i + j) / 5)).2.1 ((5 * i + j) % 5))
    rw [show (5 * i + j) / 5 = i by omega, show (5 * i + j) % 5 = j by omega]
  by_cases e18 : k = 18
  · subst e18
    refine key (f2 := fun j => some (adC h0 u 1 (R0 18 i j))) h (fun j hj => ?_)
    rw [fU_lt _ _ _ hj]
    show _ = some (if 6 + j < 6 then _ else u.2.2.2.1.2.1 (6 + j - 6))
    rw [if_neg (by omega), show 6 + j - 6 = j by omega]
  by_cases e29 : k = 29
  · subst e29
    exact key (f2 := fun j => some (adC h0 u 0 j)) h (fun j hj => fU_lt _ _ _ hj)
  by_cases e31 : k = 31
  · subst e31
    refine key (f2 := fun j => some (adC h0 u 1 j)) h (fun j hj => ?_)
    rw [fU_lt _ _ _ hj]
    show _ = some (if j < 6 then _ else _)
    rw [if_pos hj]
  by_cases e32 : k = 32
  · subst e32
    refine key (f2 := fun j => some (adC h0 u 33 j)) h (fun j hj => ?_)
    rw [fR_at _ _ hj]
    show some (u.1 5 + 1 + j) = some (u.1 5 + (j + 1))
    rw [show u.1 5 + 1 + j = u.1 5 + (j + 1) by omega]
  have e0 : cell0 cy h0 u k i = cellC cy (adC h0 u) k i (fun _ => 0) (fun _ => 0) (fun _ => 0) := by
    unfold cell0
    split
    · exact absurd rfl e16
    · exact absurd rfl e18
    · exact absurd rfl e29
    · exact absurd rfl e31
    · exact absurd rfl e32
    · rfl
  rw [e0] at h
  show va_at D cl (adC h0 u k i, cellC cy (adC h0 u) k i (fun _ => 0) (fun _ => 0) (R0 k i)) H
  rw [R0_else i e16 e18]
  exact h
theorem nd_x {l : List (Nat × Nat)} (h : l.Nodup) : xNd l := by
  intro i j q h1 h2
  have h := List.pairwise_iff_getElem.mp h
  obtain ⟨a, ea⟩ := List.getElem?_eq_some_iff.mp h1
  obtain ⟨b, eb⟩ := List.getElem?_eq_some_iff.mp h2
  rcases Nat.lt_trichotomy i j with c | c | c
  · exact absurd (ea.trans eb.symm) (h i j a b c)
  · exact c
  · exact absurd (eb.trans ea.symm) (h j i b a c)
/-- out of the constructors' cells: the world as the walks have it -/
theorem world_of {D : va_G} {cl : List vw_C} {sh : xSh} {ad : Nat → Nat → Nat} {S : xS} {H : Heap} {A : Nat → Prop} {ord : List (Nat × Nat)} {c0 : Nat → Nat → va_E} {ws : va_W} (hw : ws = ord.map (fun q => (ad q.1 q.2, c0 q.1 q.2))) (hall : ∀ q ∈ sh.1, q ∈ ord) (hnd : sh.1.Nodup)
    (hc : ∀ k i, va_at D cl (ad k i, c0 k i) H → va_at D cl (ad k i, sh.2 ad k i (S.1 k i) (S.2.1 k i) (S.2.2 k i)) H) (hP : va_P D cl ws H) (hD : va_D A ws) : va_P D cl (xl sh ad S) H ∧ xInj sh ad ∧ ∀ a, xA sh ad a → A a ∧ ∃ x ∈ ws, x.1 = a := by
  subst hw
  refine ⟨fun k q hq => ?_, ⟨nd_x hnd, fun q hq r hr he => ?_⟩, fun a ha => ?_⟩
  · unfold xl at hq
    rw [List.getElem?_map] at hq
    cases hz : sh.1[k]? with
    | none => rw [hz] at hq; cases hq
    | some z =>
      rw [hz] at hq
      cases hq
      obtain ⟨n, hn⟩ := List.getElem?_of_mem (hall z (List.mem_of_getElem? hz))
      exact hc z.1 z.2 (hP n _ (by rw [List.getElem?_map, hn]; rfl))
  · obtain ⟨n, hn⟩ := List.getElem?_of_mem (hall q hq)
    obtain ⟨m, hm⟩ := List.getElem?_of_mem (hall r hr)
    have e := hD.1 n m (ad q.1 q.2, c0 q.1 q.2) (ad r.1 r.2, c0 r.1 r.2) (by rw [List.getElem?_map, hn]; rfl) (by rw [List.getElem?_map, hm]; rfl) he
    rw [e, hm] at hn
    exact (Option.some.inj hn).symm
  · obtain ⟨q, hq, rfl⟩ := ha
    obtain ⟨n, hn⟩ := List.getElem?_of_mem (hall q hq)
    exact ⟨hD.2 n (ad q.1 q.2, c0 q.1 q.2) (by rw [List.getElem?_map, hn]; rfl), (ad q.1 q.2, c0 q.1 q.2), List.mem_map.mpr ⟨q, hall q hq, rfl⟩, rfl⟩
def ordM : List (Nat × Nat) := [(40, 0), (36, 0), (34, 0), (32, 0), (31, 0), (30, 0), (29, 0), (28, 0), (27, 0), (26, 0), (25, 0), (23, 0), (22, 0), (21, 0), (20, 0), (19, 0), (18, 0), (17, 0), (16, 0), (13, 0), (12, 0), (11, 0), (9, 0), (8, 0), (7, 0), (6, 0), (5, 0), (4, 0), (3, 0), (2, 0), (0, 0)]
def adM (h0 : Nat) (u : Nat → Nat) (k _ : Nat) : Nat := match k with
  | 0 => h0
  | 2 => u 0
  | 3 => u 1
  | 4 => u 2
  | 5 => u 3
  | 6 => u 4
  | 7 => u 5
  | 8 => u 6
  | 9 => u 7
  | 11 => u 8
  | 12 => u 9
  | 13 => u 10
  | 16 => u 11
  | 17 => u 12
  | 18 => u 13
  | 19 => u 14
  | 20 => u 15
  | 21 => u 16
  | 22 => u 17
  | 23 => u 18
  | 25 => u 19
  | 26 => u 20
  | 27 => u 21
  | 28 => u 22
  | 29 => u 23
  | 30 => u 24
  | 31 => u 25
  | 32 => u 26
  | 34 => u 27
  | 36 => u 28
  | 40 => u 29
  | _ => 0
set_option maxHeartbeats 40000000 in
set_option maxRecDepth 200000 in
theorem wMo_ord (cy : Nat → ClassId) (h0 : Nat) (u : Nat → Nat) : wMo cy h0 u = ordM.map (fun q => (adM h0 u q.1 q.2, cellM cy (adM h0 u) q.1 q.2 (fun _ => 0) (fun _ => 0) (fun _ => 0))) := rfl
theorem ordM_all : ∀ q ∈ xPairs kindsM, q ∈ ordM := by
  have h : (xPairs kindsM).all (fun q => ordM.contains q) = true := by decide +kernel
  intro q hq
  have := List.all_eq_true.mp h q hq
  simpa using this
theorem worldC {D : va_G} {cy : Nat → ClassId} {h0 : Nat} {u : UF} {H : Heap} {A : Nat → Prop} (hP : va_P D vwCl (wFo cy h0 u) H) (hD : va_D A (wFo cy h0 u)) : xW D (shC cy) (adC h0 u) S0 H ∧ xInj (shC cy) (adC h0 u) ∧ ∀ a, xA (shC cy) (adC h0 u) a → A a ∧ ∃ x ∈ wFo cy h0 u, x.1 = a :=
  world_of (sh := shC cy) (c0 := cell0 cy h0 u) (wFo_ord cy h0 u) ordC_all ndC (fun k i h => cell0_at k i h) hP hD
theorem worldM {D : va_G} {cy : Nat → ClassId} {h0 : Nat} {u : Nat → Nat} {H : Heap} {A : Nat → Prop} (hP : va_P D vwCl (wMo cy h0 u) H) (hD : va_D A (wMo cy h0 u)) : xW D (shM cy) (adM h0 u) M0 H ∧ xInj (shM cy) (adM h0 u) ∧ ∀ a, xA (shM cy) (adM h0 u) a → A a ∧ ∃ x ∈ wMo cy h0 u, x.1 = a :=
  world_of (sh := shM cy) (c0 := fun k i => cellM cy (adM h0 u) k i (fun _ => 0) (fun _ => 0) (fun _ => 0)) (wMo_ord cy h0 u) ordM_all ndM (fun _ _ h => h) hP hD
