section JMY
variable {p : Program} {l : Launch} {e : Env} {R : Room} {s : State} {m : MethodId} {args : Array Value} {below : List Frame} {meth : Method} {c : Code} {Q : State → Prop}
variable {dC : Nat → ClassId} {dI : Nat → Nat → Nat} {dA : Nat → ClassId} {base : Nat} {b : Nat → Nat} {L : Nat} {xs : Nat → Int32} {q : jm_M} {n0 s0 : Nat}
variable {pc npc a0 b0 : Nat} {z0 : Int} {ls : jm_L} {st : List Value} {H : jm_H} {cf : jm_C} {E : jm_E}
theorem jm_new_len {H : jm_H} {x : jm_S} : (jm_new H x).1.length = H.1.length + 1 := by simp [jm_new]
theorem jm_new_sl {H : jm_H} {x : jm_S} : jm_sl (jm_new H x) = jm_sl H + x.2.1 := by simp [jm_new, jm_sl]
theorem jm_isr_ty {ci k : Nat} (h : ci < 10) (hk : k < jm_N ci) : defaultValue (jm_ty ci k) = if jm_isr ci k then .null else .int 0 := by
  have key : ((List.range 10).all fun ci => (List.range (jm_N ci)).all fun k => decide (defaultValue (jm_ty ci k) = if jm_isr ci k then .null else .int 0)) = true := by decide +kernel
  exact of_decide_eq_true (List.all_eq_true.mp (List.all_eq_true.mp key ci (List.mem_range.mpr h)) k (List.mem_range.mpr hk))
set_option maxHeartbeats 4000000 in
theorem jm_s_newo {ix : Nat} (C : jm_Cx p s m args meth c dC dI dA base b L xs q) (hF : jm_Fa q pc (.new ix, npc, a0, b0, z0)) (ho : jm_on q.2.2.2.2.2 = q.1.cls) (hn0 : s.heap.size = base + n0) (hroom : cf.2.2.2.1.length ≤ n0 + R.cells ∧ jm_sl cf.2.2.2 ≤ s0 + R.slots)
    (hs : jm_stp xs L E (.new ix, npc, a0, b0, z0) pc ls st H = some (.inl cf)) (G' : jm_G p l e R s m args below meth c Q dC dI dA base b q n0 s0 cf) : jm_G p l e R s m args below meth c Q dC dI dA base b q n0 s0 (pc, ls, st, H) := by
  obtain ⟨hx, hb, hml, hown, hts, hXw, hK, hXs, hbb, hbs, hmn⟩ := C
  obtain ⟨hd, hn, hk, hsd⟩ := hF
  have hw : ∀ k9 : jm_K, jm_need (.new ix, npc, a0, b0, z0) = some k9 → ∀ w ∈ jm_lw q.2.2.2.2.2 k9, w.before args s = true := fun k9 h w hw => jm_word hts hXw (hk k9 h) hw
  rw [← ho] at hown
  simp only [jm_stp] at hs
  have hn : npc = pc + 3 := hn
  subst hn
  have hlk := jm_lkok (hk _ rfl)
  simp only [jm_lok, Bool.and_eq_true, decide_eq_true_eq] at hlk
  obtain ⟨hci, hkb⟩ := hlk
  have hb0 : b0 = jm_N a0 := hkb
  subst hb0
  have w1 : (Cond.classLink (jm_on q.2.2.2.2.2) ix (jm_R a0)).before args s = true := hw _ rfl _ (by simp [jm_lw])
  have w2 : (Cond.instantiable (jm_R a0) (jm_N a0)).before args s = true := hw _ rfl _ (by simp [jm_lw])
  have w3 : (Cond.initialized (jm_R a0)).before args s = true := hw _ rfl _ (by simp [jm_lw])
  have hcf := jm_nx_inj hs
  subst hcf
  intro Hc locs arr cells slots hR hS hl h1 h2
  have hD := jm_ws_D (dA := dA) (base := base) (H := H) (jm_A base) (fun _ h => h)
  have r1 : cells + 1 ≤ R.cells := by
    have := hroom.1
    rw [show (pc + 3, ls, Value.ref H.1.length :: st, jm_new H (10 + a0, jm_N a0, fun _ => none)).2.2.2.1.length = H.1.length + 1 from jm_new_len] at this
    have h1' : cells + n0 = H.1.length := h1
    omega
  have r2 : slots + jm_N a0 ≤ R.slots := by
    have := hroom.2
    rw [show jm_sl (pc + 3, ls, Value.ref H.1.length :: st, jm_new H (10 + a0, jm_N a0, fun _ => none)).2.2.2 = jm_sl H + jm_N a0 from jm_new_sl] at this
    have h2' : slots + s0 = jm_sl H := h2
    omega
  refine va_new hx hb hts (jm_lay hci) (jm_ty a0) (jm_tok hci) hown w1 w2 w3 hK hR.1 hD hS (fun q h => jm_inA hbs h) (jm_clg hci) (fs := (List.range (jm_N a0)).map (jm_fd base a0 (fun _ => none) (fun _ => 0))) (fun j hj => ?_) r1 r2 hd (fun q1 H1 hP1 hD1 hS1 => ?_)
  · rw [jm_isr_ty hci hj]
    unfold vp_V
    rw [List.getD_eq_getElem?_getD, jm_fdg hj]
    show _ = jm_fd base a0 (fun _ => none) (fun _ => 0) j
    unfold jm_fd
    split <;> rfl
  · refine jm_size fun hz => ?_
    have hcell : jm_cell dA base (10 + a0) (jm_N a0) (fun _ => none) (fun _ => 0) (fun _ => 0) = .inr (a0, (List.range (jm_N a0)).map (jm_fd base a0 (fun _ => none) (fun _ => 0))) := by
      unfold jm_cell
      rw [if_neg (by omega), if_neg (by omega), if_neg (by omega), Nat.add_sub_cancel_left]
    obtain ⟨hq, hR1⟩ := jm_Rl_push (x := (10 + a0, jm_N a0, fun _ => none)) (A := jm_A base) (fun z h => h) (by rw [hcell]; exact hP1) (by rw [hcell]; exact hD1) hn0 h1 hz
    subst hq
    exact G' H1 locs arr (cells + 1) (slots + jm_N a0) hR1 hS1 hl (by rw [show (pc + 3, ls, Value.ref H.1.length :: st, jm_new H (10 + a0, jm_N a0, fun _ => none)).2.2.2.1.length = H.1.length + 1 from jm_new_len]; have h1' : cells + n0 = H.1.length := h1; omega) (by rw [show jm_sl (pc + 3, ls, Value.ref H.1.length :: st, jm_new H (10 + a0, jm_N a0, fun _ => none)).2.2.2 = jm_sl H + jm_N a0 from jm_new_sl]; have h2' : slots + s0 = jm_sl H := h2; omega)
theorem jm_acint : Cond.arrayClass .int ∈ jm_TW := List.mem_filter.mpr ⟨by decide +kernel, rfl⟩
theorem jm_aclong : Cond.arrayClass .long ∈ jm_TW := List.mem_filter.mpr ⟨by decide +kernel, rfl⟩
theorem jm_nneg {n : Int32} (h : 0 ≤ n) : ¬ n < 0 := by
  rw [Int32.le_iff_toInt_le] at h
  rw [Int32.lt_iff_toInt_lt]
  omega
set_option maxHeartbeats 4000000 in
theorem jm_s_newa {tt : ArrayType} (C : jm_Cx p s m args meth c dC dI dA base b L xs q) (hF : jm_Fa q pc (.newarray tt, npc, a0, b0, z0)) (ho : jm_on q.2.2.2.2.2 = q.1.cls) (hn0 : s.heap.size = base + n0) (hroom : cf.2.2.2.1.length ≤ n0 + R.cells ∧ jm_sl cf.2.2.2 ≤ s0 + R.slots)
    (hs : jm_stp xs L E (.newarray tt, npc, a0, b0, z0) pc ls st H = some (.inl cf)) (G' : jm_G p l e R s m args below meth c Q dC dI dA base b q n0 s0 cf) : jm_G p l e R s m args below meth c Q dC dI dA base b q n0 s0 (pc, ls, st, H) := by
  obtain ⟨hx, hb, hml, hown, hts, hXw, hK, hXs, hbb, hbs, hmn⟩ := C
  obtain ⟨hd, hn, hk, hsd⟩ := hF
  have hw : ∀ k9 : jm_K, jm_need (.newarray tt, npc, a0, b0, z0) = some k9 → ∀ w ∈ jm_lw q.2.2.2.2.2 k9, w.before args s = true := fun k9 h w hw => jm_word hts hXw (hk k9 h) hw
  rw [← ho] at hown
  simp only [jm_stp] at hs
  have hn : npc = pc + 2 := hn
  subst hn
  split at hs
  · rename_i n r
    split at hs
    · rename_i hc
      obtain ⟨hc1, hc2⟩ := hc
      have hneg := jm_nneg hc1
      cases tt
      case int =>
        have hcf := jm_nx_inj hs
        subst hcf
        intro Hc locs arr cells slots hR hS hl h1 h2
        have hD := jm_ws_D (dA := dA) (base := base) (H := H) (jm_A base) (fun _ h => h)
        have r1 : cells + 1 ≤ R.cells := by
          have := hroom.1
          rw [show (pc + 2, ls, Value.ref H.1.length :: r, jm_new H (1, n.toNatClampNeg, fun _ => none)).2.2.2.1.length = H.1.length + 1 from jm_new_len] at this
          have h1' : cells + n0 = H.1.length := h1
          omega
        have r2 : slots + n.toNatClampNeg ≤ R.slots := by
          have := hroom.2
          rw [show jm_sl (pc + 2, ls, Value.ref H.1.length :: r, jm_new H (1, n.toNatClampNeg, fun _ => none)).2.2.2 = jm_sl H + n.toNatClampNeg from jm_new_sl] at this
          have h2' : slots + s0 = jm_sl H := h2
          omega
        refine va_newa (atype := .int) (ty := .int) (N' := n.toNatClampNeg) hx hb (hts (.arrayClass .int) jm_acint) rfl hK hR.1 hD hS (fun q h => jm_inA hbs h) (a0 := (n.toNatClampNeg, .inl (fun _ => 0))) (fun _ => rfl) hneg rfl (by show n.toNatClampNeg * 4 ≤ _; omega) r1 r2 hd (fun q1 cA H1 hK1 hP1 hD1 hS1 => ?_)
        refine jm_size fun hz => ?_
        have hcA : cA = dA 0 := by
          have e1 := (hK1.2 5 (cA, .int) rfl).2
          have e2 := (hK1.2 0 (dA 0, .int) rfl).2
          exact Option.some.inj (e1.symm.trans e2)
        subst hcA
        obtain ⟨hq, hR1⟩ := jm_Rl_push (x := (1, n.toNatClampNeg, fun _ => none)) (A := jm_A base) (fun z h => h) hP1 hD1 hn0 h1 hz
        subst hq
        exact G' H1 locs arr (cells + 1) (slots + n.toNatClampNeg) hR1 hS1 hl (by rw [show (pc + 2, ls, Value.ref H.1.length :: r, jm_new H (1, n.toNatClampNeg, fun _ => none)).2.2.2.1.length = H.1.length + 1 from jm_new_len]; have h1' : cells + n0 = H.1.length := h1; omega) (by rw [show jm_sl (pc + 2, ls, Value.ref H.1.length :: r, jm_new H (1, n.toNatClampNeg, fun _ => none)).2.2.2 = jm_sl H + n.toNatClampNeg from jm_new_sl]; have h2' : slots + s0 = jm_sl H := h2; omega)
      case long =>
        have hcf := jm_nx_inj hs
        subst hcf
        intro Hc locs arr cells slots hR hS hl h1 h2
        have hD := jm_ws_D (dA := dA) (base := base) (H := H) (jm_A base) (fun _ h => h)
        have r1 : cells + 1 ≤ R.cells := by
          have := hroom.1
          rw [show (pc + 2, ls, Value.ref H.1.length :: r, jm_new H (2, n.toNatClampNeg, fun _ => none)).2.2.2.1.length = H.1.length + 1 from jm_new_len] at this
          have h1' : cells + n0 = H.1.length := h1
          omega
        have r2 : slots + n.toNatClampNeg ≤ R.slots := by
          have := hroom.2
          rw [show jm_sl (pc + 2, ls, Value.ref H.1.length :: r, jm_new H (2, n.toNatClampNeg, fun _ => none)).2.2.2 = jm_sl H + n.toNatClampNeg from jm_new_sl] at this
          have h2' : slots + s0 = jm_sl H := h2
          omega
        refine va_newa (atype := .long) (ty := .long) (N' := n.toNatClampNeg) hx hb (hts (.arrayClass .long) jm_aclong) rfl hK hR.1 hD hS (fun q h => jm_inA hbs h) (a0 := (n.toNatClampNeg, .inr (.inl (fun _ => 0)))) (fun _ => rfl) hneg rfl (by show n.toNatClampNeg * 8 ≤ _; omega) r1 r2 hd (fun q1 cA H1 hK1 hP1 hD1 hS1 => ?_)
        refine jm_size fun hz => ?_
        have hcA : cA = dA 1 := by
          have e1 := (hK1.2 5 (cA, .long) rfl).2
          have e2 := (hK1.2 1 (dA 1, .long) rfl).2
          exact Option.some.inj (e1.symm.trans e2)
        subst hcA
        obtain ⟨hq, hR1⟩ := jm_Rl_push (x := (2, n.toNatClampNeg, fun _ => none)) (A := jm_A base) (fun z h => h) hP1 hD1 hn0 h1 hz
        subst hq
        exact G' H1 locs arr (cells + 1) (slots + n.toNatClampNeg) hR1 hS1 hl (by rw [show (pc + 2, ls, Value.ref H.1.length :: r, jm_new H (2, n.toNatClampNeg, fun _ => none)).2.2.2.1.length = H.1.length + 1 from jm_new_len]; have h1' : cells + n0 = H.1.length := h1; omega) (by rw [show jm_sl (pc + 2, ls, Value.ref H.1.length :: r, jm_new H (2, n.toNatClampNeg, fun _ => none)).2.2.2 = jm_sl H + n.toNatClampNeg from jm_new_sl]; have h2' : slots + s0 = jm_sl H := h2; omega)
      all_goals cases hs
    · cases hs
  · cases hs
end JMY
