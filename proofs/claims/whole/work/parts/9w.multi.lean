/-- an int[][] while its rows come: row i, i + 1 .. lie at b, b + 1 .. -/
def fR : Nat → Nat → Nat → (Nat → Option Nat) → (Nat → Option Nat)
  | 0, _, _, f => f
  | n + 1, i, b, f => fR n (i + 1) (b + 1) (va_up f i (some b))
theorem mkRow {E : CtlPost} {e : Env} {d : Bool} {acts : List Action} {T : State} {cI cc : ClassId} {k : Class} {Q : Addr → Pre} (hk : T.vm.classes[cI]? = some k) (hkind : k.kind = .array cc .int) (hl : ¬ 4 > e.platform.arrayLengthLimit) (hh : ¬ 4 * componentBytes .int > e.platform.maxHeapBytes)
    (hc : T.heap.size < e.platform.maxCells) (hs : T.slotsUsed + 4 ≤ e.platform.maxSlots) (hq : ∀ acts', Q T.heap.size d acts' (T.pushCell { cls := cI, slots := Array.replicate 4 (.int 0) })) : wp (Op.multianewarray.make cI [(4 : Int32)]) Q E e d acts T := by
  have h4 : ¬ ((4 : Int32) < 0) := by decide
  have e4 : (4 : Int32).toNatClampNeg = 4 := by decide
  rw [Op.multianewarray.make]
  simp only [wp_bind', W.ite, h4, if_false, wp_pure', W.theClass, hk, Option.some.injEq, exists_eq_left', hkind, e4]
  exact W.newArray_of hk hkind hl hh hc hs rfl hq
set_option maxHeartbeats 1000000 in
theorem mkRows {p : Program} {l : Launch} {e : Env} {R : Room} {s : State} {m : MethodId} {args : Array Value} {below : List Frame} {meth : Method} {c : Code} {cO cI cc : ClassId} {kO kI : Class} (hkO : s.vm.classes[cO]? = some kO) (hO : kO.kind = .array cI (.array .int)) (hkI : s.vm.classes[cI]? = some kI) (hI : kI.kind = .array cc .int) {a : Nat} (B : Nat → PUnit → Sem (ForInStep PUnit)) (hB : ∀ i u, B i u = (do
      writeLoc a i (.ref (← Op.multianewarray.make cI [(4 : Int32)]))
      Pure.pure (ForInStep.yield PUnit.unit))) :
    ∀ (n i : Nat) (T : State) (locs : List Loc) (cells slots : Nat) (f : Nat → Option Nat), Stand p l e R s m args below meth c T locs cells slots → i + n ≤ 6 → cells + n ≤ R.cells → slots + 4 * n ≤ R.slots → a < T.heap.size → T.heap[a]? = some (arrV cO 6 (fun j => va_rf (f j))) →
      ∃ (T' : State) (locs' : List Loc), Stand p l e R s m args below meth c T' locs' (cells + n) (slots + 4 * n) ∧ T'.heap.size = T.heap.size + n ∧ T'.heap[a]? = some (arrV cO 6 (fun j => va_rf (fR n i T.heap.size f j))) ∧ (∀ q, q < T.heap.size → q ≠ a → T'.heap[q]? = T.heap[q]?) ∧ (∀ j, j < n → T'.heap[T.heap.size + j]? = some (arrV cI 4 (fun _ => .int 0))) ∧ (∀ x ∈ locs', x ∈ locs ∨ x.base = a) ∧
        ∀ (Q : PUnit → Pre) (E : CtlPost) (g : JFrame) (acts : List Action), (∀ acts', Q PUnit.unit true acts' (T'.setTop g)) → wp (forIn (List.range' i n) PUnit.unit B) Q E e true acts (T.setTop g) := by
  intro n
  induction n with
  | zero =>
    intro i T locs cells slots f X h6 hc hs hlt ha
    exact ⟨T, locs, X, rfl, ha, fun _ _ _ => rfl, fun j hj => absurd hj (Nat.not_lt_zero _), fun x hx => Or.inl hx, fun Q E g acts hq => by
      simp only [List.range'_zero, List.forIn_nil, wp_pure']
      exact hq acts⟩
  | succ n ih =>
    intro i T locs cells slots f X h6 hc hs hlt ha
    have hi : i < 6 := by omega
    obtain ⟨hr1, hr2⟩ := X.roomAbove (a := 1) (b := 4) (by omega) (by omega)
    have hal : s.vm.Alike T.vm := X.warmed.alike
    obtain ⟨kO', hkO', eO⟩ := hal.2.2 _ _ hkO
    obtain ⟨kI', hkI', eI⟩ := hal.2.2 _ _ hkI
    have hO' : kO'.kind = .array cI (.array .int) := by rw [eO]; exact hO
    have hI' : kI'.kind = .array cc .int := by rw [eI]; exact hI
    have hlim : ¬ 4 > e.platform.arrayLengthLimit := by rw [Launch.admits_arrayLengthLimit X.admits]; omega
    have hheap : ¬ 4 * componentBytes .int > e.platform.maxHeapBytes := by
      rw [Launch.admits_maxHeapBytes X.admits]; show ¬ 4 * 4 > 536870912; omega
    generalize hin : ({ cls := cI, slots := Array.replicate 4 (.int 0) } : Cell) = inner
    have hin2 : inner = arrV cI 4 (fun _ => .int 0) := by rw [← hin, ← arrV_new]
    have hsz4 : inner.slots.size = 4 := by rw [hin2, arrV_size]
    have X1 := X.pushed inner
    have ha1 : (T.pushCell inner).heap[a]? = some (arrV cO 6 (fun j => va_rf (f j))) := by rw [State.heap_pushCell_of_lt (h := hlt)]; exact ha
    have hst : (arrV cO 6 (fun j => va_rf (f j))).setSlot i (.ref T.heap.size) = arrV cO 6 (fun j => va_rf (va_up f i (some T.heap.size) j)) := by
      rw [arrV_store]
      congr 1
      funext q
      by_cases hq : q = i
      · subst hq
        simp [updV, va_up, va_rf]
      · simp [updV, va_up, hq]
    have X2 := X1.stored ha1 i (.ref T.heap.size)
    rw [hst] at X2
    have hlt1 : a < (T.pushCell inner).heap.size := by show a < (T.heap.push inner).size; rw [Array.size_push]; omega
    generalize hT2 : (T.pushCell inner).setCell a (arrV cO 6 (fun j => va_rf (va_up f i (some T.heap.size) j))) = T2 at X2
    have z2 : T2.heap.size = T.heap.size + 1 := by rw [← hT2, size_setCell]; show (T.heap.push inner).size = _; rw [Array.size_push]
    have a2 : T2.heap[a]? = some (arrV cO 6 (fun j => va_rf (va_up f i (some T.heap.size) j))) := by rw [← hT2]; exact heapAt_setCell_self _ hlt1
    have o2 : ∀ q, q < T.heap.size → q ≠ a → T2.heap[q]? = T.heap[q]? := by
      intro q h1 h2
      rw [← hT2, heapAt_setCell_ne _ (Ne.symm h2), State.heap_pushCell_of_lt (h := h1)]
    have n2 : T2.heap[T.heap.size]? = some (arrV cI 4 (fun _ => .int 0)) := by
      rw [← hT2, heapAt_setCell_ne _ (show a ≠ T.heap.size by omega), ← hin2]
      exact State.heap_pushCell_size _ _
    rw [hsz4] at X2
    obtain ⟨T', locs', XX, z3, a3, o3, n3, l3, w3⟩ := ih (i + 1) T2 _ (cells + 1) (slots + 4) _ X2 (by omega) (by omega) (by omega) (by omega) a2
    refine ⟨T', locs', by rw [show cells + (n + 1) = cells + 1 + n by omega, show slots + 4 * (n + 1) = slots + 4 + 4 * n by omega]; exact XX, by omega, ?_, fun q h1 h2 => ?_, fun j hj => ?_, fun x hx => ?_, fun Q E g acts hq => ?_⟩
    · rw [a3, z2]; rfl
    · rw [o3 q (by omega) h2, o2 q h1 h2]
    · rcases Nat.eq_zero_or_pos j with rfl | h
      · rw [Nat.add_zero, o3 T.heap.size (by omega) (by omega), n2]
      · have := n3 (j - 1) (by omega)
        rw [z2, show T.heap.size + 1 + (j - 1) = T.heap.size + j by omega] at this
        exact this
    · rcases l3 x hx with h | h
      · rcases List.mem_append.mp h with h | h
        · exact Or.inl h
        · rw [List.mem_singleton] at h
          rw [h]; exact Or.inr rfl
      · exact Or.inr h
    · rw [List.range'_succ, List.forIn_cons, hB]
      simp only [wp_bind']
      refine mkRow (T := T.setTop g) hkI' hI' hlim hheap (by show T.heap.size < _; omega) (by show T.slotsUsed + 4 ≤ _; exact hr2) (fun acts1 => ?_)
      rw [hin]
      simp only [W.writeLoc, wp_pure', wp_bind']
      refine ⟨_, ha1, (by intro h; cases h), (by rw [arrV_size]; exact hi), ?_, ?_⟩
      · show (T.pushCell inner).fitsSlot cO .none i _ = true
        simp [State.fitsSlot, State.slotType?, show (T.pushCell inner).vm = T.vm from rfl, hkO', hO', fits]
      · show wp (forIn (List.range' (i + 1) n) PUnit.unit B) Q E e true _ (((T.pushCell inner).setCell a ((arrV cO 6 (fun j => va_rf (f j))).setSlot i (.ref T.heap.size))).setTop g)
        rw [hst, hT2]
        exact w3 Q E g _ hq
theorem va_at_arr {D : va_G} {cl : List vw_C} {q : Nat} {cA : ClassId} {a0 : vp_A} {H : Heap} (h : H[q]? = some (vp_cell cA a0)) : va_at D cl (q, .inl (cA, a0)) H := h
set_option maxHeartbeats 4000000 in
/-- new int[6][4] -/
theorem W_multi {p : Program} {l : Launch} {e : Env} {R : Room} {s : State} {m : MethodId} {args : Array Value} {below : List Frame} {meth : Method} {c : Code} {H : Heap} {locs : List Loc} {cells slots : Nat} {Q : State → Prop} {cc : ByteArray} (hexec : p.tables.exec = Jvm.exec) (hb : c.code = cc) {own : String} {index : Nat} (hown : s.vm.findClass own = some m.cls) (hclink : (Cond.classLink own index "[[I").before args s = true) {cO cI cx : ClassId} {kO kI : Class} (hfO : s.vm.findClass "[[I" = some cO) (hkO : s.vm.classes[cO]? = some kO) (hO : kO.kind = .array cI (.array .int)) (hkI : s.vm.classes[cI]? = some kI) (hI : kI.kind = .array cx .int)
    {pc : Nat} {ls : Array Slot} {rest : List Value} (hdg : decode cc pc = .ok (.multianewarray index 2, 4)) (hcells : cells + 7 ≤ R.cells) (hslots : slots + 30 ≤ R.slots)
    (kk : ∀ (H' : Heap) (locs' : List Loc), H'.size = H.size + 7 → H'[H.size]? = some (arrV cO 6 (fun j => va_rf (fR 6 0 (H.size + 1) (fun _ => none) j))) → (∀ q, q < H.size → H'[q]? = H[q]?) → (∀ j, j < 6 → H'[H.size + 1 + j]? = some (arrV cI 4 (fun _ => .int 0))) → (∀ x ∈ locs', x ∈ locs ∨ x.base = H.size) → W p l e R s m args below meth c H' locs' (cells + 7) (slots + 30) Q (F0 m (pc + 4) ls (.ref H.size :: rest))) :
    W p l e R s m args below meth c H locs cells slots Q (F0 m pc ls (.int 4 :: .int 6 :: rest)) := by
  intro T hT X
  subst hT
  subst hb
  have hpl : e.platform.magicAccessors = ({} : Platform).magicAccessors := by rw [X.admits.platform]
  obtain ⟨c1, hf1, hcl⟩ := Cond.classLink_spec hown hclink e.platform hpl
  cases hfO.symm.trans hf1
  obtain ⟨hg1, hwarm1, hready1⟩ := State.classEntry (e := e) X.warmed hcl
  generalize T.vm.noted m.cls index (.cls cO) = vm1 at hg1 hwarm1 hready1
  have hal : s.vm.Alike vm1 := hwarm1.alike
  obtain ⟨kO1, hkO1, eO⟩ := hal.2.2 _ _ hkO
  have hO1 : kO1.kind = .array cI (.array .int) := by rw [eO]; exact hO
  obtain ⟨hr1, hr2⟩ := X.roomAbove hcells hslots
  have X1 := X.noted hwarm1
  have hlim : ¬ 6 > e.platform.arrayLengthLimit := by rw [Launch.admits_arrayLengthLimit X.admits]; omega
  have hheap : ¬ 6 * componentBytes (.array .int) > e.platform.maxHeapBytes := by
    rw [Launch.admits_maxHeapBytes X.admits]; show ¬ 6 * 4 > 536870912; omega
  generalize hou : ({ cls := cO, slots := Array.replicate 6 .null } : Cell) = outer
  have hou2 : outer = arrV cO 6 (fun j => va_rf ((fun _ => none) j)) := by rw [← hou]; exact arrV_new cO 6 .null
  have X2 := X1.pushed outer
  have hz : outer.slots.size = 6 := by rw [hou2, arrV_size]
  rw [hz] at X2
  generalize hT2 : (T.setVm vm1).pushCell outer = T2 at X2
  have z2 : T2.heap.size = T.heap.size + 1 := by rw [← hT2]; show (T.heap.push outer).size = _; rw [Array.size_push]
  have a2 : T2.heap[T.heap.size]? = some (arrV cO 6 (fun j => va_rf ((fun _ => none) j))) := by rw [← hT2, ← hou2]; exact State.heap_pushCell_size (T.setVm vm1) _
  have o2 : ∀ q, q < T.heap.size → T2.heap[q]? = T.heap[q]? := by
    intro q h1
    rw [← hT2]
    exact State.heap_pushCell_of_lt (T.setVm vm1) _ h1
  obtain ⟨T', locs', XX, z3, a3, o3, n3, l3, w3⟩ := mkRows hkO hO hkI hI (a := T.heap.size) (fun i _ => (do
      writeLoc T.heap.size i (.ref (← Op.multianewarray.make cI [(4 : Int32)]))
      Pure.pure (ForInStep.yield PUnit.unit))) (fun _ _ => rfl) 6 0 T2 locs (cells + 1) (slots + 6) (fun _ => none) X2 (by omega) (by omega) (by omega) (by omega) a2
  obtain ⟨t, a1, b1⟩ := kk T'.heap locs' (by omega) (by rw [a3, z2]) (fun q h => by rw [o3 q (by omega) (by omega), o2 q h]) (fun j hj => by rw [← z2]; exact n3 j hj) l3 T' rfl XX
  refine ⟨t, ?_, b1⟩
  have hw : ∀ (Q : Unit → Pre) (E : CtlPost) (d : Bool) (acts : List Action), (∀ acts', Q () true acts' (T'.setTop (F0 m pc ls (.ref T.heap.size :: rest)))) → wp (Op.multianewarray.sem index 2) Q E e d acts (T.setTop (F0 m pc ls (.int 4 :: .int 6 :: rest))) := by
    intro Q E d acts hq
    have hs : T.topJava?.isSome := X.here.top
    have hs1 : (T.setVm vm1).topJava?.isSome := X1.here.top
    have e6 : (6 : Int32).toNatClampNeg = 6 := by decide
    have h6 : ¬ ((6 : Int32) < 0) := by decide
    have e1 : wp (Op.multianewarray.sem index 2) Q E e d acts (T.setTop (F0 m pc ls (.int 4 :: .int 6 :: rest))) ↔ wp (Op.multianewarray.sem index 2) Q E e d acts ((T.setVm vm1).setTop (F0 m pc ls (.int 4 :: .int 6 :: rest))) := by
      simp only [Op.multianewarray.sem, wp_bind']
      exact W.resolveClassAt_transfer (s := T.setTop _) (State.method?_setTop (F0 m pc ls (.int 4 :: .int 6 :: rest)) hs) hg1 hready1
    rw [e1]
    simp only [Op.multianewarray.sem, wp_bind']
    rw [W.resolveClassAt_ready (State.method?_setTop (F0 m pc ls (.int 4 :: .int 6 :: rest)) hs1) hready1]
    simp only [wp_bind']
    refine (popN_top (s := T.setVm vm1) (f := F0 m pc ls (.int 4 :: .int 6 :: rest)) hs1 (args := [.int 6, .int 4]) (rest := rest) rfl).mpr ?_
    simp only [List.mapM_cons, List.mapM_nil, wp_bind', wp_pure']
    rw [Op.multianewarray.make]
    simp only [wp_bind', W.ite, h6, if_false, wp_pure', W.theClass, e6]
    refine ⟨kO1, hkO1, ?_⟩
    simp only [hO1, show ((6 : Int32) == 0) = false from rfl, Bool.false_eq_true, if_false, wp_bind', show ¬ ([Value.int 6, Value.int 4].length = 0) from by decide]
    refine W.newArray_of (s := (T.setVm vm1).setTop _) hkO1 hO1 hlim hheap (by show T.heap.size < _; omega) (by show T.slotsUsed + 6 ≤ _; omega) rfl (fun acts1 => ?_)
    rw [hou, Std.Legacy.Range.forIn_eq_forIn_range']
    have hsz : ([:6] : Std.Legacy.Range).size = 6 := by simp [Std.Legacy.Range.size]
    rw [hsz, wp_bind']
    show wp (forIn (List.range' 0 6) PUnit.unit _) _ E e true acts1 (((T.setVm vm1).pushCell outer).setTop _)
    rw [hT2]
    refine w3 _ E _ acts1 (fun acts2 => ?_)
    simp only [wp_bind', wp_pure', W.mark, W.pushRef]
    have hs9 : T'.topJava?.isSome := XX.here.top
    refine ⟨_, State.topJava?_setTop' _ hs9, ?_⟩
    rw [State.setTop_setTop]
    exact hq acts2
  jvm_step X.here [hexec, hdg]
  refine hw _ _ _ _ (fun acts' => ?_)
  intro acts
  rw [afterInstr_ok]
  exact a1
