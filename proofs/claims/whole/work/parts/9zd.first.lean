theorem z_cnt : ∀ j, cntM M0 j = 0 := by
  have h : (0 : Int32).toNatClampNeg = 0 := by decide
  intro j
  exact h
theorem z_nI : ∀ j, (0 : Int32) = nI (cntM M0 j) := by
  intro j
  rw [z_cnt j]
  rfl
/-- the first stores are alike -/
theorem inv0 : Inv 0 S0 M0 := by
  have no : ∀ {j g : Nat}, ¬ g < cntM M0 j := by
    intro j g h
    rw [z_cnt j] at h
    omega
  refine ⟨⟨⟨by rw [z_cnt]; omega, z_nI 0, rfl⟩, fun a h => absurd h no, fun a _ _ => ⟨rfl, rfl, rfl⟩, fun a _ => rfl⟩, ⟨⟨by rw [z_cnt]; omega, z_nI 9, rfl⟩, ⟨?_, ?_, ?_, ?_⟩, fun g h => absurd h no, fun g _ _ => ⟨rfl, rfl, rfl, rfl, rfl⟩⟩, ⟨⟨by rw [z_cnt]; omega, z_nI 23, rfl⟩, fun k h => absurd h no⟩, ⟨⟨by rw [z_cnt]; omega, z_nI 32, rfl⟩, fun i h => absurd h no⟩, ⟨⟨by rw [z_cnt]; omega, z_nI 34, rfl⟩, fun j h => absurd h no⟩, fun g h => absurd h no, fun k g h => absurd h no, fun k k' _ h => absurd h no⟩
  · intro G hG j hj
    show 5 * G ≤ 5 * G + j ∧ 5 * G + j < 5 * G + 5
    omega
  · intro G hG i j hi hj h
    have h : 5 * G + i = 5 * G + j := h
    omega
  · intro k hk
    show 6 ≤ 6 + k ∧ 6 + k < 12
    omega
  · intro i j hi hj h
    have h : 6 + i = 6 + j := h
    omega
theorem xII_of {s : State} {A : Array Value} (h : (Cond.arrayOver (.array .int)).before A s = true) : ∃ (cO : ClassId) (kO : Class) (comp : ClassId), s.vm.findClass "[[I" = some cO ∧ s.vm.classes[cO]? = some kO ∧ kO.kind = .array comp (.array .int) ∧ s.vm.findClass "[I" = some comp := by
  unfold Cond.before Cond.holds at h
  simp only [Cond.value, beq_iff_eq, Option.bind_eq_some_iff, Option.map_eq_some_iff] at h
  obtain ⟨comp, hc, cO, hi, kO, hk, hb⟩ := h
  obtain ⟨hlt, hp, -⟩ := Array.findIdx?_eq_some_iff_getElem.mp hi
  have e : s.vm.classes[cO] = kO := (Array.getElem?_eq_some_iff.mp hk).2
  rw [e] at hp
  generalize hkd : kO.kind = kd at hb hp
  cases kd with
  | array c2 ty =>
    simp only [beq_iff_eq, Bool.and_eq_true, decide_eq_true_eq] at hp hb
    obtain ⟨rfl, hb2⟩ := hb
    subst hp
    exact ⟨cO, kO, c2, hb2, hk, hkd, hc⟩
  | _ => simp at hb
theorem prim_of {s : State} {A : Array Value} {ty : FieldType} (h : (Cond.arrayClass ty).before A s = true) (hp : ∀ c, s.vm.findClass ("[" ++ ty.toString) = some c → va_RA s c ty) : ∃ c : ClassId, ArrOfT s c ty ∧ va_RA s c ty := by
  obtain ⟨c, k, comp, h1, h2, h3⟩ := Cond.arrayClass_spec h
  exact ⟨c, fun n z => ⟨fun q h => (by cases h), k, h2, comp, h3⟩, hp c h1⟩
theorem obj_of {s : State} {A : Array Value} {C : String} (h : (Cond.arrayOver (.object C)).before A s = true) : ∃ c : ClassId, ArrOfT s c (.object C) ∧ va_RA s c (.object C) := by
  obtain ⟨comp, c, k, h1, h2, h3, h4, h5⟩ := Cond.arrayOver_spec h
  exact ⟨c, fun n z => ⟨fun q h => (by cases h), k, h3, comp, h4⟩, k, comp, h3, h4, h1, h5⟩
theorem arr2_of {s : State} {A : Array Value} (h : (Cond.arrayOver (.array .int)).before A s = true) : ∃ c : ClassId, ArrOfT s c (.array .int) ∧ va_RA s c (.array .int) := by
  obtain ⟨c, k, comp, h1, h2, h3, h4⟩ := xII_of h
  exact ⟨c, fun n z => ⟨fun q h => (by cases h), k, h2, comp, h3⟩, h1⟩
set_option maxHeartbeats 4000000 in
/-- what the tables know at the start -/
theorem known0 {s : State} {A : Array Value} (hts : ∀ w ∈ lw_tbl, w.before A s = true) : ∃ (D : va_G) (cy : Nat → ClassId), xK D (xTys cy) s ∧ xAO s := by
  have hw : ∀ w ∈ xWs, w.before A s = true := fun w h => hts w (List.mem_filter.mp h).1
  obtain ⟨c0, i0, k0⟩ := u_known (C := RX0) (T := TX0) (N := 7) (n := 7) hw inX0 (hw _ t1_166)
  obtain ⟨c1, i1, k1⟩ := u_known (C := RX1) (T := TX1) (N := 8) (n := 8) hw inX1 (hw _ t1_60)
  obtain ⟨c2, i2, k2⟩ := u_known (C := RX2) (T := TX2) (N := 3) (n := 3) hw inX2 (hw _ t1_54)
  obtain ⟨c3, i3, k3⟩ := u_known (C := RX3) (T := TX3) (N := 4) (n := 4) hw inX3 (hw _ t1_144)
  obtain ⟨c4, i4, k4⟩ := u_known (C := RX4) (T := TX4) (N := 5) (n := 5) hw inX4 (hw _ t1_25)
  obtain ⟨c5, i5, k5⟩ := u_known (C := RX5) (T := TX5) (N := 6) (n := 6) hw inX5 (hw _ t1_67)
  obtain ⟨c6, i6, k6⟩ := u_known (C := RX6) (T := TX6) (N := 13) (n := 13) hw inX6 (hw _ t1_13)
  obtain ⟨c7, i7, k7⟩ := u_known (C := RX7) (T := TX7) (N := 40) (n := 40) hw inX7 (hw _ t4_2)
  obtain ⟨a0, p0, q0⟩ := prim_of (ty := .char) (hw _ t1_165) (fun c h => h)
  obtain ⟨a1, p1, q1⟩ := prim_of (ty := .int) (hw _ t1_51) (fun c h => h)
  obtain ⟨a2, p2, q2⟩ := prim_of (ty := .long) (hw _ t1_52) (fun c h => h)
  obtain ⟨a3, p3, q3⟩ := prim_of (ty := .boolean) (hw _ t4_128) (fun c h => h)
  obtain ⟨a4, p4, q4⟩ := obj_of (hts _ t1_21)
  obtain ⟨a5, p5, q5⟩ := obj_of (hts _ t1_23)
  obtain ⟨a6, p6, q6⟩ := obj_of (hts _ t1_66)
  obtain ⟨a7, p7, q7⟩ := arr2_of (hts _ t1_142)
  refine ⟨(fun k => [c0, c1, c2, c3, c4, c5, c6, c7].getD k 0, fun k => [i0, i1, i2, i3, i4, i5, i6, i7].getD k i0), fun k => [a0, a1, a2, a3, a4, a5, a6, a7].getD k 0, ⟨⟨?_, ?_⟩, ?_⟩, ?_, xII_of (hts _ t1_142)⟩
  · intro k q hq
    match k, hq with
    | 0, hq => cases hq; exact k0
    | 1, hq => cases hq; exact k1
    | 2, hq => cases hq; exact k2
    | 3, hq => cases hq; exact k3
    | 4, hq => cases hq; exact k4
    | 5, hq => cases hq; exact k5
    | 6, hq => cases hq; exact k6
    | 7, hq => cases hq; exact k7
    | n + 8, hq => simp [vwCl] at hq
  · intro k q hq
    match k, hq with
    | 0, hq => cases hq; exact ⟨p0, q0⟩
    | 1, hq => cases hq; exact ⟨p1, q1⟩
    | 2, hq => cases hq; exact ⟨p2, q2⟩
    | 3, hq => cases hq; exact ⟨p3, q3⟩
    | 4, hq => cases hq; exact ⟨p4, q4⟩
    | 5, hq => cases hq; exact ⟨p5, q5⟩
    | 6, hq => cases hq; exact ⟨p6, q6⟩
    | 7, hq => cases hq; exact ⟨p7, q7⟩
    | n + 8, hq => simp [xTys] at hq
  · have h : ∀ q ∈ xNests, Cond.methodLinkNest q.1 q.2.1 q.2.2.1 q.2.2.2 ∈ lw_tbl := by
      unfold xNests
      simp only [List.forall_mem_cons]
      exact ⟨t1_26, t1_68, t1_145, t1_167, t2_57, t2_144, t2_156, t2_174, t3_227, fun _ h => absurd h List.not_mem_nil⟩
    exact fun q hq => va_Nw.of rfl (hts _ (h q hq))
  · intro C hC
    unfold xArrs at hC
    simp only [List.mem_cons, List.not_mem_nil, or_false] at hC
    rcases hC with rfl | rfl | rfl
    · exact va_AO.of (hts _ t1_21)
    · exact va_AO.of (hts _ t1_23)
    · exact va_AO.of (hts _ t1_66)
