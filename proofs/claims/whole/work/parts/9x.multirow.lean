def inW (cy : Nat → ClassId) (q : Nat) : va_W := [(q, .inl (cy 7, 6, .inr (.inr (.inr (.inr (fR 6 0 (q + 1) (fun _ => none))))))), (q + 1, .inl (cy 1, 4, .inl (fun _ => 0))), (q + 2, .inl (cy 1, 4, .inl (fun _ => 0))), (q + 3, .inl (cy 1, 4, .inl (fun _ => 0))), (q + 4, .inl (cy 1, 4, .inl (fun _ => 0))), (q + 5, .inl (cy 1, 4, .inl (fun _ => 0))), (q + 6, .inl (cy 1, 4, .inl (fun _ => 0)))]
theorem inW_P {D : va_G} {cl : List vw_C} {cy : Nat → ClassId} {q : Nat} {H : Heap} (h0 : H[q]? = some (arrV (cy 7) 6 (fun j => va_rf (fR 6 0 (q + 1) (fun _ => none) j)))) (h1 : ∀ j, j < 6 → H[q + 1 + j]? = some (arrV (cy 1) 4 (fun _ => .int 0))) : va_P D cl (inW cy q) H := by
  intro k x hx
  have hm := List.mem_of_getElem? hx
  unfold inW at hm
  simp only [List.mem_cons, List.not_mem_nil, or_false] at hm
  rcases hm with rfl | rfl | rfl | rfl | rfl | rfl | rfl
  · exact h0
  · exact h1 0 (by omega)
  · exact h1 1 (by omega)
  · exact h1 2 (by omega)
  · exact h1 3 (by omega)
  · exact h1 4 (by omega)
  · exact h1 5 (by omega)
theorem inW_D {A : Nat → Prop} {cy : Nat → ClassId} {q : Nat} (h : ∀ x, q ≤ x → A x) : va_D A (inW cy q) := by
  rw [va_D_iff]
  constructor
  · unfold inW
    simp only [List.map_cons, List.map_nil, List.nodup_cons, List.mem_cons, List.not_mem_nil, or_false, List.nodup_nil, and_true, not_false_eq_true]
    omega
  · intro x hm
    unfold inW at hm
    simp only [List.mem_cons, List.not_mem_nil, or_false] at hm
    rcases hm with rfl | rfl | rfl | rfl | rfl | rfl | rfl <;> exact h _ (by show q ≤ _; omega)
theorem inW_ge {cy : Nat → ClassId} {q k : Nat} {x : Nat × va_E} (hx : (inW cy q)[k]? = some x) : q ≤ x.1 := by
  have hm := List.mem_of_getElem? hx
  unfold inW at hm
  simp only [List.mem_cons, List.not_mem_nil, or_false] at hm
  rcases hm with rfl | rfl | rfl | rfl | rfl | rfl | rfl <;> show q ≤ _ <;> omega
set_option maxHeartbeats 1000000 in
theorem c_multi {g : xG} {D : va_G} {cy : Nat → ClassId} {own : String} {cc : ByteArray} {rt : Option FieldType} {fr lo mc ms : Nat} (E : cE g D cy own cc rt fr lo mc ms) {a b : Nat} {ws : va_W} {pc : Nat} {lvs : List (Nat × Value)} {st : List Value} {index : Nat} (hw : Cond.classLink own index "[[I" ∈ xWs) (hc : a + 7 ≤ mc) (hs : b + 30 ≤ ms) (d : decode cc pc = .ok (.multianewarray index 2, 4))
    (kk : ∀ q : Nat, Wx (gk g (a + 7) (b + 30)) (cP g D (inW cy q ++ ws)) (pc + 4) lvs (.ref q :: st)) : Wx (gk g a b) (cP g D ws) pc lvs (.int 4 :: .int 6 :: st) := by
  obtain ⟨p, l, e, R, s, m, args, below, meth, c, H0, A, Q, nL, kc, ks⟩ := g
  obtain ⟨⟨⟨hx, hb, hml, hown, hts⟩, hr, hlk⟩, hK, ⟨hR1, hR2, hR3, hR4⟩, hA, hAO, hin⟩ := E
  obtain ⟨cO, kO, comp, f1, f2, f3, f4⟩ := hAO.2
  obtain ⟨⟨-, kI, g1, cx, g2⟩, g3⟩ : (s.isArrayOf (arrV (cy 1) 0 (fun _ => .int 0)) .int) ∧ va_RA s (cy 1) .int := ⟨(hK.1.2 1 (cy 1, .int) rfl).1 0 (fun _ => .int 0), (hK.1.2 1 (cy 1, .int) rfl).2⟩
  have e1 : comp = cy 1 := Option.some.inj (f4.symm.trans g3)
  have g7 : va_RA s (cy 7) (.array .int) := (hK.1.2 7 (cy 7, .array .int) rfl).2
  have e7 : cO = cy 7 := Option.some.inj (f1.symm.trans g7)
  subst e1 e7
  intro d0 hd0 ls H locs hl hP hS
  refine W_multi (s := s.setDrawn d0) hx hb hown (dr_words hts d0 _ hw) f1 f2 f3 g1 g2 d (Nat.le_trans hc hR3) (Nat.le_trans hs hR4) (fun H1 locs1 z a1 o1 n1 l1 => ?_)
  have hk : ∀ (k : Nat) (x : Nat × va_E), ws[k]? = some x → x.1 < H.size := fun k x hx => (hP.1 k x hx).lt
  refine kk H.size d0 hd0 ls H1 locs1 hl ⟨va_P.app (inW_P a1 n1) (hP.1.kept (fun k x hx => o1 x.1 (hk k x hx))), va_D.app (inW_D (fun x hx => hA x (Nat.le_trans hS.1 hx))) hP.2 (fun i j x y hx hy hxy => ?_)⟩ ⟨Nat.le_trans hS.1 (by omega), fun x h1 h2 => (o1 x (Nat.lt_of_lt_of_le h1 hS.1)).trans (hS.2.1 x h1 h2), fun x hx => ?_⟩
  · have := inW_ge hx
    have := hk j y hy
    omega
  · rcases l1 x hx with h | h
    · exact hS.2.2 x h
    · rw [h]; exact hA _ hS.1
