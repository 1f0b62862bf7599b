section JMY
variable {p : Program} {l : Launch} {e : Env} {R : Room} {s : State} {m : MethodId} {args : Array Value} {below : List Frame} {meth : Method} {c : Code} {Q : State → Prop}
variable {dC : Nat → ClassId} {dI : Nat → Nat → Nat} {dA : Nat → ClassId} {base : Nat} {b : Nat → Nat} {L : Nat} {xs : Nat → Int32} {q : jm_M} {n0 s0 : Nat}
variable {pc npc a0 b0 : Nat} {z0 : Int} {ls : jm_L} {st : List Value} {H : jm_H} {cf : jm_C} {E : jm_E}
set_option maxHeartbeats 4000000 in
theorem jm_s_anewa {ix : Nat} (C : jm_Cx p s m args meth c dC dI dA base b L xs q) (hF : jm_Fa q pc (.anewarray ix, npc, a0, b0, z0)) (ho : jm_on q.2.2.2.2.2 = q.1.cls) (hn0 : s.heap.size = base + n0) (hroom : cf.2.2.2.1.length ≤ n0 + R.cells ∧ jm_sl cf.2.2.2 ≤ s0 + R.slots)
    (hs : jm_stp xs L E (.anewarray ix, npc, a0, b0, z0) pc ls st H = some (.inl cf)) (G' : jm_G p l e R s m args below meth c Q dC dI dA base b q n0 s0 cf) : jm_G p l e R s m args below meth c Q dC dI dA base b q n0 s0 (pc, ls, st, H) := by
  obtain ⟨hx, hb, hml, hown, hts, hXw, hK, hXs, hbb, hbs, hmn⟩ := C
  obtain ⟨hd, hn, hk, hsd⟩ := hF
  have hw : ∀ k9 : jm_K, jm_need (.anewarray ix, npc, a0, b0, z0) = some k9 → ∀ w ∈ jm_lw q.2.2.2.2.2 k9, w.before args s = true := fun k9 h w hw => jm_word hts hXw (hk k9 h) hw
  rw [← ho] at hown
  simp only [jm_stp] at hs
  have hn : npc = pc + 3 := hn
  subst hn
  split at hs
  · rename_i n r
    split at hs
    · rename_i hc
      obtain ⟨hc1, hc2, hc3⟩ := hc
      have hc3 : a0 ≤ 2 := hc3
      have hneg := jm_nneg hc1
      have hcf := jm_nx_inj hs
      subst hcf
      intro Hc locs arr cells slots hR hS hl h1 h2
      have hD := jm_ws_D (dA := dA) (base := base) (H := H) (jm_A base) (fun _ h => h)
      have r1 : cells + 1 ≤ R.cells := by
        have := hroom.1
        rw [show (pc + 3, ls, Value.ref H.1.length :: r, jm_new H (3 + a0, n.toNatClampNeg, fun _ => none)).2.2.2.1.length = H.1.length + 1 from jm_new_len] at this
        have h1' : cells + n0 = H.1.length := h1
        omega
      have r2 : slots + n.toNatClampNeg ≤ R.slots := by
        have := hroom.2
        rw [show jm_sl (pc + 3, ls, Value.ref H.1.length :: r, jm_new H (3 + a0, n.toNatClampNeg, fun _ => none)).2.2.2 = jm_sl H + n.toNatClampNeg from jm_new_sl] at this
        have h2' : slots + s0 = jm_sl H := h2
        omega
      rcases (show a0 = 0 ∨ a0 = 1 ∨ a0 = 2 by omega) with h9 | h9 | h9
      · subst h9
        have w1 : (Cond.classLink (jm_on q.2.2.2.2.2) ix "LeapingPassages$Shelf").before args s = true := hw _ rfl _ (List.mem_cons_self)
        have w2 : (Cond.arrayOver (.object "LeapingPassages$Shelf")).before args s = true := hw _ rfl _ (List.mem_cons_of_mem _ List.mem_cons_self)
        refine va_newq (N' := n.toNatClampNeg) hx hb hown w1 (show va_AO "LeapingPassages$Shelf" s from w2) hK hR.1 hD hS (fun q h => jm_inA hbs h) hneg rfl (by omega) r1 r2 hd (fun q1 cA H1 hK1 hP1 hD1 hS1 => ?_)
        refine jm_size fun hz => ?_
        have hcA : cA = dA 2 := by
          obtain ⟨-, -, -, -, -, e1⟩ := (hK1.2 5 (cA, .object "LeapingPassages$Shelf") rfl).2
          obtain ⟨-, -, -, -, -, e2⟩ := (hK1.2 2 (dA 2, .object "LeapingPassages$Shelf") rfl).2
          exact Option.some.inj (e1.symm.trans e2)
        subst hcA
        obtain ⟨hq, hR1⟩ := jm_Rl_push (x := (3 + 0, n.toNatClampNeg, fun _ => none)) (A := jm_A base) (fun z h => h) hP1 hD1 hn0 h1 hz
        subst hq
        exact G' H1 locs arr (cells + 1) (slots + n.toNatClampNeg) hR1 hS1 hl (by rw [show (pc + 3, ls, Value.ref H.1.length :: r, jm_new H (3 + 0, n.toNatClampNeg, fun _ => none)).2.2.2.1.length = H.1.length + 1 from jm_new_len]; have h1' : cells + n0 = H.1.length := h1; omega) (by rw [show jm_sl (pc + 3, ls, Value.ref H.1.length :: r, jm_new H (3 + 0, n.toNatClampNeg, fun _ => none)).2.2.2 = jm_sl H + n.toNatClampNeg from jm_new_sl]; have h2' : slots + s0 = jm_sl H := h2; omega)
      · subst h9
        have w1 : (Cond.classLink (jm_on q.2.2.2.2.2) ix "LeapingPassages$Ask").before args s = true := hw _ rfl _ (List.mem_cons_self)
        have w2 : (Cond.arrayOver (.object "LeapingPassages$Ask")).before args s = true := hw _ rfl _ (List.mem_cons_of_mem _ List.mem_cons_self)
        refine va_newq (N' := n.toNatClampNeg) hx hb hown w1 (show va_AO "LeapingPassages$Ask" s from w2) hK hR.1 hD hS (fun q h => jm_inA hbs h) hneg rfl (by omega) r1 r2 hd (fun q1 cA H1 hK1 hP1 hD1 hS1 => ?_)
        refine jm_size fun hz => ?_
        have hcA : cA = dA 3 := by
          obtain ⟨-, -, -, -, -, e1⟩ := (hK1.2 5 (cA, .object "LeapingPassages$Ask") rfl).2
          obtain ⟨-, -, -, -, -, e2⟩ := (hK1.2 3 (dA 3, .object "LeapingPassages$Ask") rfl).2
          exact Option.some.inj (e1.symm.trans e2)
        subst hcA
        obtain ⟨hq, hR1⟩ := jm_Rl_push (x := (3 + 1, n.toNatClampNeg, fun _ => none)) (A := jm_A base) (fun z h => h) hP1 hD1 hn0 h1 hz
        subst hq
        exact G' H1 locs arr (cells + 1) (slots + n.toNatClampNeg) hR1 hS1 hl (by rw [show (pc + 3, ls, Value.ref H.1.length :: r, jm_new H (3 + 1, n.toNatClampNeg, fun _ => none)).2.2.2.1.length = H.1.length + 1 from jm_new_len]; have h1' : cells + n0 = H.1.length := h1; omega) (by rw [show jm_sl (pc + 3, ls, Value.ref H.1.length :: r, jm_new H (3 + 1, n.toNatClampNeg, fun _ => none)).2.2.2 = jm_sl H + n.toNatClampNeg from jm_new_sl]; have h2' : slots + s0 = jm_sl H := h2; omega)
      · subst h9
        have w1 : (Cond.classLink (jm_on q.2.2.2.2.2) ix "LeapingPassages$Spans").before args s = true := hw _ rfl _ (List.mem_cons_self)
        have w2 : (Cond.arrayOver (.object "LeapingPassages$Spans")).before args s = true := hw _ rfl _ (List.mem_cons_of_mem _ List.mem_cons_self)
        refine va_newq (N' := n.toNatClampNeg) hx hb hown w1 (show va_AO "LeapingPassages$Spans" s from w2) hK hR.1 hD hS (fun q h => jm_inA hbs h) hneg rfl (by omega) r1 r2 hd (fun q1 cA H1 hK1 hP1 hD1 hS1 => ?_)
        refine jm_size fun hz => ?_
        have hcA : cA = dA 4 := by
          obtain ⟨-, -, -, -, -, e1⟩ := (hK1.2 5 (cA, .object "LeapingPassages$Spans") rfl).2
          obtain ⟨-, -, -, -, -, e2⟩ := (hK1.2 4 (dA 4, .object "LeapingPassages$Spans") rfl).2
          exact Option.some.inj (e1.symm.trans e2)
        subst hcA
        obtain ⟨hq, hR1⟩ := jm_Rl_push (x := (3 + 2, n.toNatClampNeg, fun _ => none)) (A := jm_A base) (fun z h => h) hP1 hD1 hn0 h1 hz
        subst hq
        exact G' H1 locs arr (cells + 1) (slots + n.toNatClampNeg) hR1 hS1 hl (by rw [show (pc + 3, ls, Value.ref H.1.length :: r, jm_new H (3 + 2, n.toNatClampNeg, fun _ => none)).2.2.2.1.length = H.1.length + 1 from jm_new_len]; have h1' : cells + n0 = H.1.length := h1; omega) (by rw [show jm_sl (pc + 3, ls, Value.ref H.1.length :: r, jm_new H (3 + 2, n.toNatClampNeg, fun _ => none)).2.2.2 = jm_sl H + n.toNatClampNeg from jm_new_sl]; have h2' : slots + s0 = jm_sl H := h2; omega)
    · cases hs
  · cases hs
/-- a grid's world behind its making -/
theorem jm_newg_at {H : jm_H} {n k j : Nat} : jm_at dA base (jm_newg H n k) j = if j < H.1.length then jm_at dA base H j else if j = H.1.length then (base + j, .inl (dA 5, n, .inr (.inr (.inr (.inr (fun i => (if i < n then some (H.1.length + 1 + i) else none).map (base + ·))))))) else if j < H.1.length + 1 + n then (base + j, .inl (dA 1, k, .inr (.inl (fun _ => 0)))) else (base + j, jm_cell dA base 0 0 (fun _ => none) (fun _ => 0) (fun _ => 0)) := by
  have hg : (jm_newg H n k).1[j]? = if j < H.1.length then H.1[j]? else if j = H.1.length then some (6, n, fun i => if i < n then some (H.1.length + 1 + i) else none) else if j < H.1.length + 1 + n then some (2, k, fun _ => none) else none := by
    unfold jm_newg
    by_cases h1 : j < H.1.length
    · rw [if_pos h1, List.append_assoc, List.getElem?_append_left h1]
    · rw [if_neg h1, List.append_assoc, List.getElem?_append_right (by omega)]
      by_cases h2 : j = H.1.length
      · rw [if_pos h2, h2, Nat.sub_self]
        rfl
      · rw [if_neg h2, List.getElem?_append_right (by simp; omega), List.getElem?_replicate]
        by_cases h3 : j < H.1.length + 1 + n
        · rw [if_pos h3, if_pos (by simp; omega)]
        · rw [if_neg h3, if_neg (by simp; omega)]
  unfold jm_at jm_kd jm_ln jm_rf
  rw [hg]
  by_cases h1 : j < H.1.length
  · simp only [if_pos h1]
    have e1 : (jm_newg H n k).2.1 j = H.2.1 j := by simp [jm_newg, Nat.not_le.mpr h1]
    have e2 : (jm_newg H n k).2.2 j = H.2.2 j := by simp [jm_newg, Nat.not_le.mpr h1]
    rw [e1, e2]
  · have e1 : (jm_newg H n k).2.1 j = fun _ => 0 := by simp [jm_newg, Nat.not_lt.mp h1]
    have e2 : (jm_newg H n k).2.2 j = fun _ => 0 := by simp [jm_newg, Nat.not_lt.mp h1]
    rw [e1, e2]
    by_cases h2 : j = H.1.length
    · simp only [if_neg h1, if_pos h2]
      rfl
    · by_cases h3 : j < H.1.length + 1 + n
      · simp only [if_neg h1, if_neg h2, if_pos h3]
        rfl
      · simp only [if_neg h1, if_neg h2, if_neg h3]
theorem jm_newg_len {H : jm_H} {n k : Nat} : (jm_newg H n k).1.length = H.1.length + 1 + n := by
  simp [jm_newg]
  omega
theorem jm_newg_sl {H : jm_H} {n k : Nat} : jm_sl (jm_newg H n k) = jm_sl H + n + n * k := by
  simp [jm_newg, jm_sl]
  omega
theorem jm_outer (c : ClassId) (N h0 : Nat) : ∀ i : Nat, Jvm.Free.Multi.outerC c N h0 i = arrV c N (fun j => va_rf (if j < i then some (h0 + 1 + j) else none))
  | 0 => by
    show ({ cls := c, slots := Array.replicate N .null, vm := .none } : Cell) = _
    rw [arrV_new]
    refine congrArg (arrV c N) (funext fun j => ?_)
    simp [va_rf]
  | i + 1 => by
    show (Jvm.Free.Multi.outerC c N h0 i).setSlot i (.ref (h0 + 1 + i)) = _
    rw [jm_outer c N h0 i, arrV_store]
    refine congrArg (arrV c N) (funext fun j => ?_)
    by_cases e : j = i
    · subst e
      simp [updV, va_rf]
    · by_cases h : j < i
      · simp [updV, e, h, Nat.lt_succ_of_lt h]
      · simp [updV, e, h, show ¬ j < i + 1 by omega]
end JMY
