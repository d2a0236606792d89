theorem va_D_two {A : Nat → Prop} {w1 w2 : va_W} (h : va_D A (w1 ++ w2)) : va_D A w1 ∧ va_D A w2 ∧ ∀ x ∈ w1, ∀ y ∈ w2, x.1 ≠ y.1 := by
  rw [va_D_iff] at h
  obtain ⟨h1, h2⟩ := h
  rw [List.map_append, List.nodup_append] at h1
  obtain ⟨a, b, c⟩ := h1
  refine ⟨va_D_iff.mpr ⟨a, fun q hq => h2 q (List.mem_append_left _ hq)⟩, va_D_iff.mpr ⟨b, fun q hq => h2 q (List.mem_append_right _ hq)⟩, fun x hx y hy => c _ (List.mem_map.mpr ⟨x, hx, rfl⟩) _ (List.mem_map.mpr ⟨y, hy, rfl⟩)⟩
set_option maxHeartbeats 4000000 in
set_option maxRecDepth 20000 in
/-- out of the two new objects: the law's loop -/
theorem start_18 {p : Program} {l : Launch} {e : Env} {s : State} {m : MethodId} {below : List Frame} {meth : Method} {c : Code} {b L : Nat} {xs : Nat → Int32} (hL : L ≤ 3584) (C0 : lw_At p s m meth c b L xs) {D : va_G} {cy : Nat → ClassId} (K : xK D (xTys cy) s) {h1 h2 : Nat} {u : UF} {v : Nat → Nat} :
    Wx (p, l, e, room_1, s, m, #[Value.ref b], below, meth, c, s.heap, (fun q : Nat => s.heap.size ≤ q), lw_Z below #[Value.ref b] s, 8, 502, 13118) (fun H => va_P D vwCl (wMo cy h2 v ++ (wFo cy h1 u ++ [])) H ∧ va_D (fun q : Nat => s.heap.size ≤ q) (wMo cy h2 v ++ (wFo cy h1 u ++ []))) 18 [(3, .int 0), (2, .ref h2), (1, .ref h1), (0, .ref b)] [] := by
  obtain ⟨hx, hb, hr, hml, hown, hts, hX, hbl, hlocks, hgv⟩ := id C0
  intro d0 hd0 ls H locs hl hP hS
  refine W.widen (k := 600000) (n := 7302250) (Nat.le_of_ble_eq_true rfl) (Nat.le_of_ble_eq_true rfl) ?_
  obtain ⟨hP, hD⟩ := hP
  rw [List.append_nil] at hP hD
  obtain ⟨hDM, hDC, hap⟩ := va_D_two hD
  have hPM : va_P D vwCl (wMo cy h2 v) H := hP.mem (fun q hq => List.mem_append_left _ hq)
  have hPC : va_P D vwCl (wFo cy h1 u) H := hP.mem (fun q hq => List.mem_append_right _ hq)
  obtain ⟨wc, ic, ac⟩ := worldC hPC hDC
  obtain ⟨wm, im, am⟩ := worldM hPM hDM
  have hts2 : ∀ w ∈ xWs, w.before #[Value.ref b] s = true := fun w h => hts w (List.mem_filter.mp h).1
  have V : xEnvL (p, l, e, room_1, s, m, #[Value.ref b], below, meth, c, s.heap, (fun q : Nat => s.heap.size ≤ q), lw_Z below #[Value.ref b] s, 8, 600000, 7302250) D cy (adC h1 u) (adM h2 v) b L xs :=
    xEnvL_mk ⟨⟨hx, hb, hml, hown, hts2⟩, hr, hlocks⟩ K (fun a ha => (ac a ha).1) (fun a ha => (am a ha).1) ic im (fun a ha hb2 => by
      obtain ⟨x, hx1, e1⟩ := (ac a ha).2
      obtain ⟨y, hy1, e2⟩ := (am a hb2).2
      exact hap y hy1 x hx1 (by rw [e1, e2])) ⟨Nat.le_refl _, Nat.le_refl _, Nat.le_refl _, Nat.le_refl _⟩ ⟨hX, hbl, Nat.not_le.mpr hbl, rfl, rfl, rfl, rfl, rfl, rfl, rfl⟩ rfl
  exact wlw_18 V 513 S0 M0 0 (wl_all hL 512 0 S0 M0 inv0 (by omega) (by omega)) d0 hd0 ls H locs (lv_sub hl [3, 2, 1, 0] rfl) ⟨wc, wm⟩ hS
set_option maxHeartbeats 4000000 in
set_option maxRecDepth 20000 in
/-- THE LAW, from its entry -/
theorem whole_start {p : Program} {e : Env} {s : State} {m : MethodId} {below : List Frame} {meth : Method} {c : Code} (l : Launch) (_ : l.flags = flags0) {b L : Nat} {xs : Nat → Int32} (hL : L ≤ 3584) (C0 : lw_At p s m meth c b L xs) : W p l e room_1 s m #[Value.ref b] below meth c s.heap [] 0 0 (lw_Z below #[Value.ref b] s) (entryFrame m ([Value.ref b] : List Value).toArray 8) := by
  obtain ⟨hx, hb, hr, hml, hown, hts, hX, hbl, hlocks, hgv⟩ := id C0
  have hts2 : ∀ w ∈ xWs, w.before #[Value.ref b] s = true := fun w h => hts w (List.mem_filter.mp h).1
  obtain ⟨D, cy, K, hAO⟩ := known0 hts
  refine W.base ?_
  have hd0 := Drawn.sameBut.refl s.drawn lw_cs
  have hl := lv_entry ([.ref b]) (n := 8) (Nat.le_of_ble_eq_true rfl)
  rw [lg_entry_eq]
  generalize (lg_sl ([.ref b]) ++ List.replicate (8 - (lg_sl ([.ref b])).length) Slot.unset).toArray = ls at hl ⊢
  have hl : lv_has ls 8 [(0, .ref b)] := hl
  obtain ⟨g, hg⟩ : ∃ g : xG, g = (p, l, e, room_1, s, m, #[Value.ref b], below, meth, c, s.heap, (fun q : Nat => s.heap.size ≤ q), lw_Z below #[Value.ref b] s, 8, 0, 0) := ⟨_, rfl⟩
  have E : cE g D cy RL code ret 2048 84000 600000 7302250 := by
    rw [hg]
    exact ⟨⟨⟨hx, hb, hml, hown, hts2⟩, hr, hlocks⟩, K, ⟨Nat.le_refl _, Nat.le_refl _, Nat.le_refl _, Nat.le_refl _⟩, fun q h => h, hAO, fun h => by cases h⟩
  have hgo : ∀ {h1 h2 : Nat} {u : UF} {v : Nat → Nat}, Wx (gk g 502 13118) (cP g D (wMo cy h2 v ++ (wFo cy h1 u ++ []))) 18 [(3, .int 0), (2, .ref h2), (1, .ref h1), (0, .ref b)] [] := by
    rw [hg]
    exact start_18 hL C0 K
  have hN : g.2.2.2.2.2.2.2.2.2.2.2.2.2.1 = 8 := by rw [hg]
  have hWx : Wx (gk g 0 0) (cP g D []) 0 [(0, .ref b)] [] := by
    refine c_new E t1_12 t1_13 t1_1 inX6 tyX6_ok (ci := 6) rfl (fs := [.null, .int 0, .null, .null, .null, .null, .int 0, .null, .null, .null, .null, .int 0, .null]) (by decide +kernel) (Nat.le_of_ble_eq_true rfl) (Nat.le_of_ble_eq_true rfl) dL_law_0 (fun h1 => ?_)
    refine x_dup (E.X _ _) dL_law_3 rfl ?_
    refine c_init E (W1 := wFo cy) (cFo (xL g) D cy) t1_14 t1_15 t1_1 t1_16 rfl (by decide +kernel) (Nat.le_of_ble_eq_true rfl) (Nat.le_of_ble_eq_true rfl) (Nat.le_of_ble_eq_true rfl) (Nat.le_of_ble_eq_true rfl) (Nat.le_of_ble_eq_true rfl) dL_law_4 (fun u => ?_)
    refine x_astore_n (E.X _ _) [(1, .ref h1), (0, .ref b)] dL_law_7 (by rw [gkN hN]; decide) rfl ?_
    refine c_new E t4_1 t4_2 t1_8 inX7 tyX7_ok (ci := 7) rfl (fs := [.int 0, .null, .null, .null, .null, .null, .null, .null, .null, .int 0, .null, .null, .null, .int 0, .int 0, .null, .null, .null, .null, .null, .null, .null, .null, .int 0, .null, .null, .null, .null, .null, .null, .null, .null, .int 0, .null, .int 0, .null, .int 0, .int 0, .int 0, .null]) (by decide +kernel) (Nat.le_of_ble_eq_true rfl) (Nat.le_of_ble_eq_true rfl) dL_law_8 (fun h2 => ?_)
    refine x_dup (E.X _ _) dL_law_11 rfl ?_
    refine c_init E (W1 := wMo cy) (cMo (xL g) D cy) t4_3 t4_4 t1_8 t4_5 rfl (by decide +kernel) (Nat.le_of_ble_eq_true rfl) (Nat.le_of_ble_eq_true rfl) (Nat.le_of_ble_eq_true rfl) (Nat.le_of_ble_eq_true rfl) (Nat.le_of_ble_eq_true rfl) dL_law_12 (fun v => ?_)
    refine x_astore_n (E.X _ _) [(2, .ref h2), (1, .ref h1), (0, .ref b)] dL_law_15 (by rw [gkN hN]; decide) rfl ?_
    refine x_iconst (E.X _ _) (v := 0) dL_law_16 (by decide) ?_
    refine x_istore_n (E.X _ _) [(3, .int 0), (2, .ref h2), (1, .ref h1), (0, .ref b)] dL_law_17 (by rw [gkN hN]; decide) rfl ?_
    exact hgo
  rw [hg] at hWx
  exact hWx s.drawn hd0 ls s.heap [] hl ⟨fun k q h => by simp at h, ⟨fun i j p q h => by simp at h, fun k q h => by simp at h⟩⟩ va_S.rf
