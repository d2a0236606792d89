/- merging a list of blocks -/
def insB {B : Type} (same : B → B → Bool) (jn : B → B → B) : List B → B → List B
  | [], u => [u]
  | x :: l, u => if same x u = true then jn x u :: l else x :: insB same jn l u
def foB {B : Type} (same : B → B → Bool) (jn : B → B → B) : List B → List B → List B
  | acc, [] => acc
  | acc, u :: l => foB same jn (insB same jn acc u) l
def mtB {B : Type} (same : B → B → Bool) (l : List B) (u : B) : Bool := l.any (fun x => same x u)
def JnOk {B : Type} (same : B → B → Bool) (jn : B → B → B) : Prop :=
  (∀ u v w, same u v = true → same u w = same v w) ∧ (∀ e t u, same (jn e t) u = same e u) ∧ (∀ e t u, same u (jn e t) = same u e) ∧ (∀ e a c, jn (jn e a) c = jn (jn e c) a) ∧ (∀ y x u, jn y (jn x u) = jn (jn y x) u) ∧ (∀ x, same x x = true)
section INS
variable {B : Type} {same : B → B → Bool} {jn : B → B → B}
theorem mtB_cons {x u : B} {l : List B} : mtB same (x :: l) u = (same x u || mtB same l u) := rfl
theorem insB_cons {x u : B} {l : List B} : insB same jn (x :: l) u = if same x u = true then jn x u :: l else x :: insB same jn l u := rfl
theorem insB_no {u : B} : ∀ {l : List B}, mtB same l u = false → insB same jn l u = l ++ [u]
  | [], _ => rfl
  | x :: l, h => by
    rw [mtB_cons, Bool.or_eq_false_iff] at h
    rw [insB_cons, if_neg (by rw [h.1]; decide), insB_no h.2]
    rfl
theorem mt_ins (J : JnOk same jn) {v u : B} : ∀ {l : List B}, mtB same (insB same jn l v) u = (mtB same l u || same v u)
  | [] => by
    show (same v u || false) = (false || same v u)
    rw [Bool.or_false, Bool.false_or]
  | x :: l => by
    rw [insB_cons]
    by_cases c : same x v = true
    · rw [if_pos c, mtB_cons, mtB_cons, J.2.1, ← J.1 x v u c]
      cases same x u <;> cases mtB same l u <;> rfl
    · rw [if_neg c, mtB_cons, mtB_cons, mt_ins J, Bool.or_assoc]
theorem mt_fo (J : JnOk same jn) {u : B} : ∀ {l acc : List B}, mtB same (foB same jn acc l) u = (mtB same acc u || mtB same l u)
  | [], acc => by
    show mtB same acc u = (mtB same acc u || false)
    rw [Bool.or_false]
  | v :: l, acc => by
    show mtB same (foB same jn (insB same jn acc v) l) u = _
    rw [mt_fo J, mt_ins J, mtB_cons, Bool.or_assoc]
theorem ins_comm (J : JnOk same jn) {u v : B} : ∀ {acc : List B}, mtB same acc u = true → insB same jn (insB same jn acc u) v = insB same jn (insB same jn acc v) u
  | [], h => absurd h (by show ¬ (false = true); decide)
  | x :: l, h => by
    rw [insB_cons, insB_cons]
    by_cases cu : same x u = true
    · by_cases cv : same x v = true
      · rw [if_pos cu, if_pos cv, insB_cons, insB_cons, J.2.1, J.2.1, if_pos cv, if_pos cu, J.2.2.2.1]
      · rw [if_pos cu, if_neg cv, insB_cons, insB_cons, J.2.1, if_neg cv, if_pos cu]
    · rw [mtB_cons] at h
      have h' : mtB same l u = true := by
        cases hx : same x u
        · rw [hx] at h; exact h
        · exact absurd hx cu
      by_cases cv : same x v = true
      · rw [if_neg cu, if_pos cv, insB_cons, insB_cons, J.2.1, if_pos cv, if_neg cu]
      · rw [if_neg cu, if_neg cv, insB_cons, insB_cons, if_neg cv, if_neg cu, ins_comm J h']
theorem fo_ins (J : JnOk same jn) {u : B} : ∀ {l acc : List B}, mtB same acc u = true → foB same jn (insB same jn acc u) l = insB same jn (foB same jn acc l) u
  | [], _, _ => rfl
  | v :: l, acc, h => by
    show foB same jn (insB same jn (insB same jn acc u) v) l = insB same jn (foB same jn (insB same jn acc v) l) u
    rw [ins_comm J h, fo_ins J (by rw [mt_ins J, h]; rfl)]
theorem ins_jn (J : JnOk same jn) {x u : B} (hx : same x u = true) : ∀ {acc : List B}, insB same jn acc (jn x u) = insB same jn (insB same jn acc x) u
  | [] => by
    show [jn x u] = if same x u = true then jn x u :: [] else x :: [u]
    rw [if_pos hx]
  | y :: l => by
    rw [insB_cons, insB_cons, J.2.2.1]
    by_cases c : same y x = true
    · rw [if_pos c, if_pos c, insB_cons, J.2.1, J.1 y x u c, if_pos hx, J.2.2.2.2.1]
    · rw [if_neg c, if_neg c, insB_cons]
      have : ¬ same y u = true := fun h => by
        have e := J.1 y u x h
        have e2 := J.1 x u x hx
        rw [J.2.2.2.2.2] at e2
        exact c (e.trans e2.symm)
      rw [if_neg this, ins_jn J hx]
theorem fo_insB (J : JnOk same jn) {u : B} : ∀ {p acc : List B}, mtB same p u = true → foB same jn acc (insB same jn p u) = insB same jn (foB same jn acc p) u
  | [], _, h => absurd h (by show ¬ (false = true); decide)
  | x :: l, acc, h => by
    rw [insB_cons]
    by_cases c : same x u = true
    · rw [if_pos c]
      show foB same jn (insB same jn acc (jn x u)) l = insB same jn (foB same jn (insB same jn acc x) l) u
      rw [ins_jn J c, fo_ins J (by rw [mt_ins J, c, Bool.or_true])]
    · rw [if_neg c]
      rw [mtB_cons] at h
      have h' : mtB same l u = true := by
        cases hx : same x u
        · rw [hx] at h; exact h
        · exact absurd hx c
      show foB same jn (insB same jn acc x) (insB same jn l u) = insB same jn (foB same jn (insB same jn acc x) l) u
      exact fo_insB J h'
theorem fo_app {u : B} : ∀ {p acc : List B}, foB same jn acc (p ++ [u]) = insB same jn (foB same jn acc p) u
  | [], _ => rfl
  | x :: l, acc => fo_app (p := l) (acc := insB same jn acc x)
theorem fo_no (J : JnOk same jn) {u : B} {p : List B} (h : mtB same p u = false) : foB same jn [] (p ++ [u]) = foB same jn [] p ++ [u] := by
  rw [fo_app, insB_no]
  rw [mt_fo J, h]; rfl
theorem fo_yes (J : JnOk same jn) {u : B} {p : List B} (h : mtB same p u = true) : foB same jn [] (p ++ [u]) = foB same jn [] (insB same jn p u) := by
  rw [fo_app, fo_insB J h]
/- the first match by number -/
theorem mt_of {u : B} {l : List B} {e : Nat} {x : B} (h : l[e]? = some x) (hx : same x u = true) : mtB same l u = true := by
  unfold mtB
  rw [List.any_eq_true]
  exact ⟨x, List.mem_of_getElem? h, hx⟩
theorem mt_none {u : B} {l : List B} (h : ∀ (j : Nat) (x : B), l[j]? = some x → same x u = false) : mtB same l u = false := by
  unfold mtB
  rw [List.any_eq_false]
  intro x hx
  obtain ⟨j, hj⟩ := List.mem_iff_getElem?.mp hx
  rw [h j x hj]; decide
theorem ins_at {u : B} : ∀ {l : List B} {e : Nat} {x : B}, l[e]? = some x → same x u = true → (∀ (j : Nat) (y : B), j < e → l[j]? = some y → same y u = false) → (insB same jn l u).length = l.length ∧ ∀ j, (insB same jn l u)[j]? = if j = e then some (jn x u) else l[j]?
  | [], e, x, h, _, _ => by simp at h
  | y :: l, 0, x, h, hx, _ => by
    have h : y = x := Option.some.inj h
    subst h
    rw [insB_cons, if_pos hx]
    refine ⟨rfl, fun j => ?_⟩
    cases j with
    | zero => rw [if_pos rfl]; rfl
    | succ j => rw [if_neg (by omega)]; rfl
  | y :: l, e + 1, x, h, hx, hn => by
    have h : l[e]? = some x := h
    have hy : same y u = false := hn 0 y (by omega) rfl
    rw [insB_cons, if_neg (by rw [hy]; decide)]
    obtain ⟨i1, i2⟩ := ins_at h hx (fun j z hj hz => hn (j + 1) z (by omega) hz)
    refine ⟨by show _ + 1 = _ + 1; rw [i1], fun j => ?_⟩
    cases j with
    | zero => rw [if_neg (by omega)]; rfl
    | succ j =>
      show (insB same jn l u)[j]? = _
      rw [i2]
      by_cases c : j = e
      · rw [if_pos c, if_pos (by omega)]
      · rw [if_neg c, if_neg (by omega)]; rfl
end INS
