def gk (g : xG) (a b : Nat) : xG :=
  match g with
  | (p, l, e, R, s, m, args, below, meth, c, H0, A, Q, nL, _, _) => (p, l, e, R, s, m, args, below, meth, c, H0, A, Q, nL, a, b)
theorem gk_gk (g : xG) (a b a2 b2 : Nat) : gk (gk g a b) a2 b2 = gk g a2 b2 := by
  obtain ⟨p, l, e, R, s, m, args, below, meth, c, H0, A, Q, nL, kc, ks⟩ := g
  rfl
def xArrs : List String := ["FontInstancer$Axis", "FontInstancer$Glyph", "FontInstancer$Tuple"]
/-- the tables hold int[][] and int[] -/
def xII (U : State) : Prop := ∃ (cO : ClassId) (kO : Class) (comp : ClassId), U.vm.findClass "[[I" = some cO ∧ U.vm.classes[cO]? = some kO ∧ kO.kind = .array comp (.array .int) ∧ U.vm.findClass "[I" = some comp
theorem xII.moved {u U : State} (hvm : u.vm.Alike U.vm) (h : xII u) : xII U := by
  obtain ⟨cO, kO, comp, h1, h2, h3, h4⟩ := h
  obtain ⟨k', hk', he⟩ := hvm.2.2 _ _ h2
  exact ⟨cO, k', comp, by rw [hvm.findClass]; exact h1, hk', by rw [he]; exact h3, by rw [hvm.findClass]; exact h4⟩
def xAO (U : State) : Prop := (∀ C ∈ xArrs, va_AO C U) ∧ xII U
theorem xAO.alike {u U : State} (hvm : u.vm.Alike U.vm) (h : xAO u) : xAO U := ⟨fun C hC => (h.1 C hC).moved hvm, h.2.moved hvm⟩
/-- what a constructor's walk stands in -/
def cE (g : xG) (D : va_G) (cy : Nat → ClassId) (own : String) (cc : ByteArray) (rt : Option FieldType) (fr lo mc ms : Nat) : Prop :=
  xOK g own cc rt ∧ xKK g D (xTys cy) ∧
  (match g with
  | (_, _, _, R, s, _, _, _, meth, _, H0, A, _, _, _, _) => (fr ≤ R.frames ∧ lo ≤ R.locals ∧ mc ≤ R.cells ∧ ms ≤ R.slots) ∧ (∀ q : Nat, H0.size ≤ q → A q) ∧ xAO s ∧ (rt = none → meth.name = "<init>"))
/-- the world: these cells, apart, all the walk's own -/
def cP (g : xG) (D : va_G) (ws : va_W) : Heap → Prop := fun H => va_P D vwCl ws H ∧ va_D (g.2.2.2.2.2.2.2.2.2.2.2.1) ws
theorem gkX {g : xG} {own : String} {cc : ByteArray} {rt : Option FieldType} (h : xOK g own cc rt) (a b : Nat) : xOK (gk g a b) own cc rt := by
  obtain ⟨p, l, e, R, s, m, args, below, meth, c, H0, A, Q, nL, kc, ks⟩ := g
  exact h
theorem cE.X {g : xG} {D : va_G} {cy : Nat → ClassId} {own : String} {cc : ByteArray} {rt : Option FieldType} {fr lo mc ms : Nat} (E : cE g D cy own cc rt fr lo mc ms) (a b : Nat) : xOK (gk g a b) own cc rt := gkX E.1 a b
theorem nwP {D : va_G} {cl : List vw_C} {ws : va_W} {x : Nat × va_E} {H : Heap} (h : va_P D cl (ws ++ [x]) H) : va_P D cl (x :: ws) H := by
  intro k q hq
  have hm : q ∈ ws ++ [x] := by
    rcases List.mem_cons.mp (List.mem_of_getElem? hq) with h | h
    · rw [h]; exact List.mem_append_right _ List.mem_cons_self
    · exact List.mem_append_left _ h
  obtain ⟨i, hi⟩ := List.getElem?_of_mem hm
  exact h i q hi
theorem va_D_iff {A : Nat → Prop} {ws : va_W} : va_D A ws ↔ (ws.map (·.1)).Nodup ∧ ∀ q ∈ ws, A q.1 := by
  constructor
  · intro h
    refine ⟨?_, fun q hq => ?_⟩
    · refine List.pairwise_iff_getElem.mpr (fun i j hi hj hij => ?_)
      have hi2 : i < ws.length := by simpa using hi
      have hj2 : j < ws.length := by simpa using hj
      simp only [List.getElem_map]
      intro he
      have := h.1 i j _ _ (List.getElem?_eq_getElem hi2) (List.getElem?_eq_getElem hj2) he
      omega
    · obtain ⟨i, hi⟩ := List.getElem?_of_mem hq
      exact h.2 i q hi
  · rintro ⟨h1, h2⟩
    refine ⟨fun i j p q hp hq he => ?_, fun k q hq => h2 q (List.mem_of_getElem? hq)⟩
    have h1 := List.pairwise_iff_getElem.mp h1
    obtain ⟨hi, ei⟩ := List.getElem?_eq_some_iff.mp hp
    obtain ⟨hj, ej⟩ := List.getElem?_eq_some_iff.mp hq
    rcases Nat.lt_trichotomy i j with h | h | h
    · refine absurd ?_ (h1 i j (by simpa using hi) (by simpa using hj) h)
      simp only [List.getElem_map]
      rw [ei, ej]; exact he
    · exact h
    · refine absurd ?_ (h1 j i (by simpa using hj) (by simpa using hi) h)
      simp only [List.getElem_map]
      rw [ei, ej]; exact he.symm
theorem va_D.perm {A : Nat → Prop} {ws ws' : va_W} (h : va_D A ws) (hp : ws.Perm ws') : va_D A ws' := by
  rw [va_D_iff] at h ⊢
  exact ⟨(hp.map _).nodup_iff.mp h.1, fun q hq => h.2 q (hp.mem_iff.mpr hq)⟩
theorem va_P.mem {D : va_G} {cl : List vw_C} {ws ws' : va_W} {H : Heap} (h : va_P D cl ws H) (hs : ∀ q ∈ ws', q ∈ ws) : va_P D cl ws' H := by
  intro k q hq
  obtain ⟨i, hi⟩ := List.getElem?_of_mem (hs q (List.mem_of_getElem? hq))
  exact h i q hi
theorem nwD {A : Nat → Prop} {ws : va_W} {x : Nat × va_E} (h : va_D A (ws ++ [x])) : va_D A (x :: ws) := h.perm (List.perm_append_singleton x ws)
theorem va_RA_inj {U : State} {c1 c2 : ClassId} {ty : FieldType} (h1 : va_RA U c1 ty) (h2 : va_RA U c2 ty) : c1 = c2 := by
  cases ty with
  | object C =>
    obtain ⟨-, -, -, -, -, e1⟩ := h1
    obtain ⟨-, -, -, -, -, e2⟩ := h2
    exact Option.some.inj (e1.symm.trans e2)
  | _ => exact Option.some.inj (Eq.trans (Eq.symm h1) h2)
