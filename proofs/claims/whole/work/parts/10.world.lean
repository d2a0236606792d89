abbrev xS : Type := (Nat → Nat → Nat → Int32) × (Nat → Nat → Nat → Int64) × (Nat → Nat → Nat → Nat)
abbrev xCell : Type := (Nat → Nat → Nat) → Nat → Nat → (Nat → Int32) → (Nat → Int64) → (Nat → Nat) → va_E
abbrev xSh : Type := List (Nat × Nat) × xCell
def xl (sh : xSh) (ad : Nat → Nat → Nat) (S : xS) : va_W := sh.1.map (fun q => (ad q.1 q.2, sh.2 ad q.1 q.2 (S.1 q.1 q.2) (S.2.1 q.1 q.2) (S.2.2 q.1 q.2)))
def xW (D : va_G) (sh : xSh) (ad : Nat → Nat → Nat) (S : xS) (H : Heap) : Prop := va_P D vwCl (xl sh ad S) H
def xA (sh : xSh) (ad : Nat → Nat → Nat) : Nat → Prop := fun a => ∃ q ∈ sh.1, a = ad q.1 q.2
def xNd (l : List (Nat × Nat)) : Prop := ∀ (i j : Nat) (q : Nat × Nat), l[i]? = some q → l[j]? = some q → i = j
def xInj (sh : xSh) (ad : Nat → Nat → Nat) : Prop := xNd sh.1 ∧ ∀ q ∈ sh.1, ∀ r ∈ sh.1, ad q.1 q.2 = ad r.1 r.2 → q = r
theorem xl_get {sh : xSh} {ad : Nat → Nat → Nat} {S : xS} {k i q0 : Nat} (h : sh.1[q0]? = some (k, i)) : (xl sh ad S)[q0]? = some (ad k i, sh.2 ad k i (S.1 k i) (S.2.1 k i) (S.2.2 k i)) := by
  unfold xl
  rw [List.getElem?_map, h]
  rfl
theorem xl_at {sh : xSh} {k i : Nat} (h : (k, i) ∈ sh.1) : ∃ q0 : Nat, sh.1[q0]? = some (k, i) := List.getElem?_of_mem h
theorem xD {A : Nat → Prop} {sh : xSh} {ad : Nat → Nat → Nat} (hi : xInj sh ad) (hA : ∀ a, xA sh ad a → A a) (S : xS) : va_D A (xl sh ad S) := by
  have key : ∀ (k : Nat) (p : Nat × va_E), (xl sh ad S)[k]? = some p → ∃ q, sh.1[k]? = some q ∧ p.1 = ad q.1 q.2 := by
    intro k p h
    unfold xl at h
    rw [List.getElem?_map] at h
    cases hq : sh.1[k]? with
    | none => rw [hq] at h; cases h
    | some q => rw [hq] at h; cases h; exact ⟨q, rfl, rfl⟩
  refine ⟨fun i j p q h1 h2 he => ?_, fun k p h => ?_⟩
  · obtain ⟨a, ha, ea⟩ := key i p h1
    obtain ⟨b, hb, eb⟩ := key j q h2
    have hab : a = b := hi.2 a (List.mem_of_getElem? ha) b (List.mem_of_getElem? hb) (by rw [← ea, ← eb]; exact he)
    subst hab
    exact hi.1 i j a ha hb
  · obtain ⟨q, hq, e⟩ := key k p h
    rw [e]
    exact hA _ ⟨q, List.mem_of_getElem? hq, rfl⟩
theorem xl_set {sh : xSh} {ad : Nat → Nat → Nat} {S S' : xS} {k i q0 : Nat} (hn : xNd sh.1) (h : sh.1[q0]? = some (k, i)) {e : va_E} (he : e = sh.2 ad k i (S'.1 k i) (S'.2.1 k i) (S'.2.2 k i))
    (hne : ∀ q : Nat × Nat, q ≠ (k, i) → S.1 q.1 q.2 = S'.1 q.1 q.2 ∧ S.2.1 q.1 q.2 = S'.2.1 q.1 q.2 ∧ S.2.2 q.1 q.2 = S'.2.2 q.1 q.2) : (xl sh ad S).set q0 (ad k i, e) = xl sh ad S' := by
  apply List.ext_getElem?
  intro n
  by_cases hq : n = q0
  · subst hq
    have hlt : n < (xl sh ad S).length := (List.getElem?_eq_some_iff.mp (xl_get (ad := ad) (S := S) h)).1
    rw [List.getElem?_set_self hlt, xl_get h, he]
  · rw [List.getElem?_set_ne (Ne.symm hq)]
    unfold xl
    rw [List.getElem?_map, List.getElem?_map]
    cases hz : sh.1[n]? with
    | none => rfl
    | some q =>
      have hqk : q ≠ (k, i) := by
        intro hc
        subst hc
        exact hq (hn n q0 (k, i) hz h)
      obtain ⟨a1, a2, a3⟩ := hne q hqk
      show some (ad q.1 q.2, sh.2 ad q.1 q.2 (S.1 q.1 q.2) (S.2.1 q.1 q.2) (S.2.2 q.1 q.2)) = some (ad q.1 q.2, sh.2 ad q.1 q.2 (S'.1 q.1 q.2) (S'.2.1 q.1 q.2) (S'.2.2 q.1 q.2))
      rw [a1, a2, a3]
def xRow {α : Type} (f : Nat → Nat → Nat → α) (k i : Nat) (r : Nat → α) : Nat → Nat → Nat → α := fun k' => if k' = k then (fun i' => if i' = i then r else f k' i') else f k'
theorem xRow_self {α : Type} (f : Nat → Nat → Nat → α) (k i : Nat) (r : Nat → α) : xRow f k i r k i = r := by simp [xRow]
theorem xRow_id {α : Type} (f : Nat → Nat → Nat → α) (k i i' : Nat) (r : Nat → α) : xRow f k i r k i' = if i' = i then r else f k i' := by simp [xRow]
theorem xRow_k {α : Type} (f : Nat → Nat → Nat → α) {k k' : Nat} (i : Nat) (r : Nat → α) (h : k' ≠ k) : xRow f k i r k' = f k' := by simp [xRow, h]
theorem xRow_ne {α : Type} (f : Nat → Nat → Nat → α) (k i : Nat) (r : Nat → α) {q : Nat × Nat} (h : q ≠ (k, i)) : f q.1 q.2 = xRow f k i r q.1 q.2 := by
  obtain ⟨a, b⟩ := q
  by_cases hk : a = k
  · subst hk
    have hb : b ≠ i := fun e => h (by rw [e])
    simp [xRow, hb]
  · simp [xRow, hk]
def xU {α : Type} (f : Nat → α) (j : Nat) (v : α) : Nat → α := fun n => if n = j then v else f n
def xI (S : xS) (k i j : Nat) (v : Int32) : xS := (xRow S.1 k i (xU (S.1 k i) j v), S.2)
def xJ (S : xS) (k i j : Nat) (v : Int64) : xS := (S.1, xRow S.2.1 k i (xU (S.2.1 k i) j v), S.2.2)
def xR (S : xS) (k i j : Nat) (v : Nat) : xS := (S.1, S.2.1, xRow S.2.2 k i (xU (S.2.2 k i) j v))
def xC (S : xS) (k i : Nat) (r : Nat → Int32) : xS := (xRow S.1 k i r, S.2)
abbrev xG : Type := Program × Launch × Env × Room × State × MethodId × Array Value × List Frame × Method × Code × Heap × (Nat → Prop) × (State → Prop) × Nat × Nat × Nat
def Wx (g : xG) (P : Heap → Prop) (pc : Nat) (lvs : List (Nat × Value)) (st : List Value) : Prop :=
  match g with
  | (p, l, e, R, s, m, args, below, meth, c, H0, A, Q, nL, kc, ks) => ∀ (d0 : Drawn), s.drawn.sameBut d0 lw_cs → ∀ (ls : Array Slot) (H : Heap) (locs : List Loc), lv_has ls nL lvs → P H → va_S A H0 H locs → W p l e R (s.setDrawn d0) m args below meth c H locs kc ks Q (F0 m pc ls st)
def xNests : List (String × Nat × MethodName × String) := [("FontInstancer", 35, ⟨"FontInstancer$Outline", "<init>", "()V"⟩, "FontInstancer"), ("FontInstancer$Glyph", 30, ⟨"FontInstancer$Tuple", "<init>", "()V"⟩, "FontInstancer"), ("FontInstancer", 57, ⟨"FontInstancer$LocationText", "<init>", "()V"⟩, "FontInstancer"), ("FontInstancer", 62, ⟨"FontInstancer$Axis", "<init>", "()V"⟩, "FontInstancer"), ("FontInstancer$Axis", 49, ⟨"FontInstancer", "roundedQuotient", "(JJ)J"⟩, "FontInstancer"), ("FontInstancer$Tuple", 37, ⟨"FontInstancer", "hasBit", "(II)Z"⟩, "FontInstancer"), ("FontInstancer$Tuple", 51, ⟨"FontInstancer", "roundedQuotient", "(JJ)J"⟩, "FontInstancer"), ("FontInstancer$Glyph", 70, ⟨"FontInstancer", "roundedQuotient", "(JJ)J"⟩, "FontInstancer"), ("FontInstancer$LocationText", 38, ⟨"FontInstancer", "hasBit", "(II)Z"⟩, "FontInstancer")]
def xK (D : va_G) (tys : List (ClassId × FieldType)) (U : State) : Prop := va_K D vwCl tys U ∧ ∀ q ∈ xNests, va_Nw (.methodLinkNest q.1 q.2.1 q.2.2.1 q.2.2.2) U
theorem xK.warm {D : va_G} {tys : List (ClassId × FieldType)} {s U : State} (h : xK D tys s) (hW : s.WarmedH U.vm) : xK D tys U := ⟨va_K.moved hW.alike h.1, fun q hq => va_Nw.warmM hW (h.2 q hq)⟩
theorem xK.same {D : va_G} {tys : List (ClassId × FieldType)} {s U : State} (h : xK D tys s) (hv : s.vm = U.vm) : xK D tys U := ⟨va_K.moved (u := s) (by rw [hv]; exact Vm.Alike.refl _) h.1, fun q hq => va_Nw.same rfl hv (h.2 q hq)⟩
def xOK (g : xG) (own : String) (cc : ByteArray) (ret : Option FieldType) : Prop :=
  match g with
  | (p, _, _, _, s, m, args, _, meth, c, _, _, _, nL, _, _) => CallFix p m c cc nL s args xWs own ∧ meth.sig.returnType = ret ∧ meth.locks = false
def xKK (g : xG) (D : va_G) (tys : List (ClassId × FieldType)) : Prop :=
  match g with
  | (_, _, _, _, s, _, _, _, _, _, _, _, _, _, _, _) => xK D tys s
def xHA (g : xG) (sh : xSh) (ad : Nat → Nat → Nat) : Prop :=
  match g with
  | (_, _, _, _, _, _, _, _, _, _, _, A, _, _, _, _) => ∀ a, xA sh ad a → A a
def xRoom (g : xG) (fr lo : Nat) : Prop :=
  match g with
  | (_, _, _, R, _, _, _, _, _, _, _, _, _, _, kc, ks) => fr ≤ R.frames ∧ lo ≤ R.locals ∧ kc ≤ R.cells ∧ ks ≤ R.slots
def xL (g : xG) : Launch := g.2.1
def xQc (D : va_G) (sh : xSh) (ad : Nat → Nat → Nat) (QQ : Option Value → xS → Prop) : Array Value → State → Outcome → State → Prop := fun _ st oc t => (∃ (r : Option Value) (S' : xS), oc = .returned r ∧ QQ r S' ∧ xW D sh ad S' t.heap) ∧ va_F (xA sh ad) st t
def xEnd (g : xG) (D : va_G) (sh : xSh) (ad : Nat → Nat → Nat) (QQ : Option Value → xS → Prop) : Prop :=
  match g with
  | (_, _, _, _, s, _, args, below, _, _, H0, A, Q, _, kc, ks) => Q = MQD lw_cs below (xQc D sh ad QQ) args s kc ks (xA sh ad) ∧ H0 = s.heap ∧ A = xA sh ad
def xMet (l : Launch) (D : va_G) (tys : List (ClassId × FieldType)) (sh : xSh) (ad : Nat → Nat → Nat) (y : MethodName) (bytes : ByteArray) (maxL : Nat) (ret : Option FieldType) (rm : Room) (as : List Value) (S : xS) (QQ : Option Value → xS → Prop) : Prop :=
  MetD lw_cs l y (Cond.code y bytes maxL ret :: xWs) rm (va_Pc as (fun U => xW D sh ad S U.heap ∧ xK D tys U)) (xQc D sh ad QQ) 0 0 (xA sh ad)
def xQi (Q : Int32 → xS → Prop) : Option Value → xS → Prop := fun r S => ∃ v : Int32, r = some (.int v) ∧ Q v S
def xQl (Q : Int64 → xS → Prop) : Option Value → xS → Prop := fun r S => ∃ v : Int64, r = some (.long v) ∧ Q v S
def xQf (Q : UInt32 → xS → Prop) : Option Value → xS → Prop := fun r S => ∃ v : UInt32, r = some (.float v) ∧ Q v S
def xQd (Q : UInt64 → xS → Prop) : Option Value → xS → Prop := fun r S => ∃ v : UInt64, r = some (.double v) ∧ Q v S
def xQv (Q : xS → Prop) : Option Value → xS → Prop := fun r S => r = none ∧ Q S
def xQr (ad : Nat → Nat → Nat) (k n : Nat) (Q : Nat → xS → Prop) : Option Value → xS → Prop := fun r S => ∃ i : Nat, r = some (.ref (ad k i)) ∧ i < n ∧ Q i S
abbrev xRm (fr lo : Nat) : Room := { frames := fr, cells := 0, slots := 0, locals := lo }
theorem xMetD_ofW {l : Launch} {y : MethodName} {ws ws' : List Cond} {rm : Room} {Pc : Array Value → State → Prop} {Qc : Array Value → State → Outcome → State → Prop} {free : Addr → Prop} {cc : ByteArray} {maxL : Nat} {ret : Option FieldType}
    (hy : plainFor y = true) (hw : ws = Cond.code y cc maxL ret :: ws')
    (body : ∀ p e s m args below meth c s₁, BodyLoose p l y (headSpec ws rm) cc maxL ret e s m args below meth c s₁ → c.maxLocals = maxL → Pc args s → s.drawn.sameBut s.drawn lw_cs →
      W p l e (headSpec ws rm).room (s.setDrawn s.drawn) m args below meth c s.heap [] 0 0 (MQD lw_cs below Qc args s 0 0 free) (entryFrame m args maxL)) : MetD lw_cs l y ws rm Pc Qc 0 0 free := by
  refine MetFree.of_bodySF (code := cc) (maxLocals := maxL) (ret := ret) hy ?_ ?_
  · intro args s m h hn
    obtain ⟨meth, c, h1, h2, h3, h4, h5, h6, -, -⟩ := Cond.code_spec hn (atoms_spec (ws := ws) h _ (by rw [hw]; exact List.mem_cons_self))
    exact ⟨meth, c, h1, h2, h3, h4, h5, h6⟩
  · intro p e s m args below meth c s₁ B hml hP _
    have hh0 : s₁.heap = s.heap := by rw [B.state]; rfl
    have X0 : Stand p l e (headSpec ws rm).room (s.setDrawn s.drawn) m args below meth c s₁ [] 0 0 := Stand.of_body B
    obtain ⟨t, a1, d, hd, o, b1, b2, b3, b4⟩ := body p e s m args below meth c s₁ B hml hP (Drawn.sameBut.refl _ _) s₁ hh0 X0
    exact ⟨t, o, a1, b1, b2, d, hd, b3, b4⟩
set_option maxHeartbeats 4000000 in
theorem xMet_of {l : Launch} {D : va_G} {tys : List (ClassId × FieldType)} {sh : xSh} {ad : Nat → Nat → Nat} {y : MethodName} {bytes : ByteArray} {maxL fr lo : Nat} {ret : Option FieldType} {as : List Value} {lvs : List (Nat × Value)} {S : xS} {QQ : Option Value → xS → Prop}
    (hy : plainFor y = true) (hlv : lv_args 0 as = lvs) (hsz : (lg_sl as).length ≤ maxL)
    (body : ∀ g : xG, xL g = l → xRoom g fr lo → xOK g y.cls bytes ret → xKK g D tys → xHA g sh ad → xEnd g D sh ad QQ → g.2.2.2.2.2.2.2.2.2.2.2.2.2.1 = maxL → Wx g (xW D sh ad S) 0 lvs []) : xMet l D tys sh ad y bytes maxL ret (xRm fr lo) as S QQ := by
  refine xMetD_ofW (cc := bytes) (maxL := maxL) (ret := ret) hy rfl ?_
  intro p e s m args below meth c s₁ B hml hv hd0
  obtain ⟨rfl, hP, hK⟩ := hv
  have hts := atoms_spec (ws := Cond.code y bytes maxL ret :: xWs) B.pre
  have hl := lv_entry as (n := maxL) hsz
  rw [lg_entry_eq]
  generalize (lg_sl as ++ List.replicate (maxL - (lg_sl as).length) Slot.unset).toArray = ls at hl ⊢
  rw [hlv] at hl
  exact body (p, l, e, _, s, m, as.toArray, below, meth, c, s.heap, xA sh ad, _, maxL, 0, 0) rfl ⟨Nat.le_refl _, Nat.le_refl _, Nat.le_refl _, Nat.le_refl _⟩ ⟨⟨B.exec, B.bytes, hml, findClass_of_methodNamed B.named, fun w h => hts w (List.mem_cons_of_mem _ h)⟩, B.returns, B.notSynchronized⟩ hK (fun _ h => h) ⟨rfl, rfl, rfl⟩ rfl s.drawn hd0 ls s.heap [] hl hP va_S.rf
