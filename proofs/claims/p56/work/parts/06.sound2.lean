section JMY
variable {p : Program} {l : Launch} {e : Env} {R : Room} {s : State} {m : MethodId} {args : Array Value} {below : List Frame} {meth : Method} {c : Code} {Q : State → Prop}
variable {dC : Nat → ClassId} {dI : Nat → Nat → Nat} {dA : Nat → ClassId} {base : Nat} {b : Nat → Nat} {L : Nat} {xs : Nat → Int32} {q : jm_M} {n0 s0 : Nat}
variable {pc npc a0 b0 : Nat} {z0 : Int} {ls : jm_L} {st : List Value} {H : jm_H} {cf : jm_C} {E : jm_E}
theorem jm_vin {i : Int32} {n : Nat} (h0 : 0 ≤ i) (h : i.toNatClampNeg < n) : vp_in i n := by
  rintro (h1 | h1)
  · rw [Int32.lt_iff_toInt_lt] at h1
    rw [Int32.le_iff_toInt_le] at h0
    omega
  · omega
theorem jm_fset {N k : Nat} {f g : Nat → Value} {x : Value} (hk : g k = x) (ho : ∀ j, j ≠ k → g j = f j) : ((List.range N).map f).set k x = (List.range N).map g := by
  apply List.ext_getElem?
  intro j
  by_cases hj : j < N
  · by_cases e1 : j = k
    · subst e1
      rw [List.getElem?_set_self (by simp; exact hj), List.getElem?_map, List.getElem?_range hj, ← hk]
      rfl
    · rw [List.getElem?_set_ne (Ne.symm e1), List.getElem?_map, List.getElem?_map, List.getElem?_range hj]
      show some (f j) = some (g j)
      rw [ho j e1]
  · rw [List.getElem?_eq_none (by simp; omega), List.getElem?_eq_none (by simp; omega)]
theorem jm_sl_set {H : jm_H} {a : Nat} {f : Nat → Option Nat} : ((H.1.set a (jm_kd H a, jm_ln H a, f)).map (fun s => s.2.1)).sum = (H.1.map (fun s => s.2.1)).sum := by
  rw [List.map_set]
  congr 1
  apply List.ext_getElem?
  intro j
  by_cases e1 : j = a
  · subst e1
    by_cases hj : j < H.1.length
    · rw [List.getElem?_set_self (by simp; exact hj), List.getElem?_map]
      unfold jm_ln
      rw [List.getElem?_eq_getElem hj]
      rfl
    · rw [List.getElem?_eq_none (by simp; omega), List.getElem?_eq_none (by simp; omega)]
  · rw [List.getElem?_set_ne (Ne.symm e1)]
theorem jm_rset_at {H : jm_H} {a v k : Nat} (ha : a < H.1.length) : jm_kd (H.1.set a (jm_kd H a, jm_ln H a, fun j => if j = k then some v else jm_rf H a j), H.2.1, H.2.2) a = jm_kd H a ∧ jm_ln (H.1.set a (jm_kd H a, jm_ln H a, fun j => if j = k then some v else jm_rf H a j), H.2.1, H.2.2) a = jm_ln H a ∧ jm_rf (H.1.set a (jm_kd H a, jm_ln H a, fun j => if j = k then some v else jm_rf H a j), H.2.1, H.2.2) a = fun j => if j = k then some v else jm_rf H a j := by
  have hg : (H.1.set a (jm_kd H a, jm_ln H a, fun j => if j = k then some v else jm_rf H a j))[a]? = some (jm_kd H a, jm_ln H a, fun j => if j = k then some v else jm_rf H a j) := List.getElem?_set_self ha
  refine ⟨?_, ?_, ?_⟩
  · show (match (H.1.set a (jm_kd H a, jm_ln H a, fun j => if j = k then some v else jm_rf H a j))[a]? with | some s => s.1 | none => 0) = _
    rw [hg]
  · show (match (H.1.set a (jm_kd H a, jm_ln H a, fun j => if j = k then some v else jm_rf H a j))[a]? with | some s => s.2.1 | none => 0) = _
    rw [hg]
  · funext x
    show (match (H.1.set a (jm_kd H a, jm_ln H a, fun j => if j = k then some v else jm_rf H a j))[a]? with | some s => s.2.2 x | none => none) = _
    rw [hg]
theorem jm_tyz_isr {ci k : Nat} {z : Int} (h : jm_tyz (jm_ty ci k) z = true) : jm_isr ci k = true ↔ z = 1 := by
  unfold jm_isr
  cases ht : jm_ty ci k <;> rw [ht] at h <;> simp [jm_tyz] at h ⊢ <;> omega
theorem jm_rset_ne {H : jm_H} {a j : Nat} {s : jm_S} (h : j ≠ a) : (H.1.set a s)[j]? = H.1[j]? := List.getElem?_set_ne (Ne.symm h)
set_option maxHeartbeats 4000000 in
theorem jm_s_iinc {k : Nat} {n : Int} (C : jm_Cx p s m args meth c dC dI dA base b L xs q) (hF : jm_Fa q pc (.iinc k n, npc, a0, b0, z0)) (ho : jm_on q.2.2.2.2.2 = q.1.cls)
    (hs : jm_stp xs L E (.iinc k n, npc, a0, b0, z0) pc ls st H = some (.inl cf)) (G' : jm_G p l e R s m args below meth c Q dC dI dA base b q n0 s0 cf) : jm_G p l e R s m args below meth c Q dC dI dA base b q n0 s0 (pc, ls, st, H) := by
  obtain ⟨hx, hb, hml, hown, hts, hXw, hK, hXs, hbb, hbs, hmn⟩ := C
  obtain ⟨hd, hn, hk, hsd⟩ := hF
  have hw : ∀ k9 : jm_K, jm_need (.iinc k n, npc, a0, b0, z0) = some k9 → ∀ w ∈ jm_lw q.2.2.2.2.2 k9, w.before args s = true := fun k9 h w hw => jm_word hts hXw (hk k9 h) hw
  rw [← ho] at hown
  simp only [jm_stp] at hs
  have hn : npc = pc + 3 := hn
  subst hn
  split at hs
  · rename_i x hq
    unfold jm_sto at hs
    split at hs
    · rename_i ls' hq2
      have hcf := jm_nx_inj hs
      subst hcf
      intro Hc locs arr cells slots hR hS hl h1 h2
      have hm : ((k, Value.int x) : Nat × Value) ∈ jm_kl base b ls := jm_kl_mem.mpr ⟨.int x, hq, rfl⟩
      obtain ⟨j, hj⟩ := List.getElem?_of_mem hm
      have hlen := (jm_st1_len hq2).2
      have hll : ls.length = q.2.2.1 := hl.2.1
      refine lv_iinc hx hb hd hl.has (k := j) hj rfl (by omega) rfl (fun arr1 h3 => ?_)
      exact G' Hc locs arr1 cells slots hR hS (hl.st1 hq2 h3) h1 h2
    · cases hs
  · cases hs
set_option maxHeartbeats 4000000 in
theorem jm_s_ifc {cc : ClassFile.Cond} {off : Int} (C : jm_Cx p s m args meth c dC dI dA base b L xs q) (hF : jm_Fa q pc (.ifCond cc off, npc, a0, b0, z0)) (ho : jm_on q.2.2.2.2.2 = q.1.cls)
    (hs : jm_stp xs L E (.ifCond cc off, npc, a0, b0, z0) pc ls st H = some (.inl cf)) (G' : jm_G p l e R s m args below meth c Q dC dI dA base b q n0 s0 cf) : jm_G p l e R s m args below meth c Q dC dI dA base b q n0 s0 (pc, ls, st, H) := by
  obtain ⟨hx, hb, hml, hown, hts, hXw, hK, hXs, hbb, hbs, hmn⟩ := C
  obtain ⟨hd, hn, hk, hsd⟩ := hF
  have hw : ∀ k9 : jm_K, jm_need (.ifCond cc off, npc, a0, b0, z0) = some k9 → ∀ w ∈ jm_lw q.2.2.2.2.2 k9, w.before args s = true := fun k9 h w hw => jm_word hts hXw (hk k9 h) hw
  rw [← ho] at hown
  simp only [jm_stp] at hs
  have hn : npc = pc + 3 := hn
  subst hn
  have ht : (pc : Int) + off = (a0 : Int) := of_decide_eq_true hsd
  split at hs
  · cases cc
    case eq =>
      simp only [jm_ifb] at hs
      split at hs
      · rename_i hc
        have hcf := jm_nx_inj hs
        subst hcf
        intro Hc locs arr cells slots hR hS hl h1 h2
        exact lv_if_eq hx hb hd ht (fun _ => G' Hc locs arr cells slots hR hS hl h1 h2) (fun h => absurd hc h)
      · rename_i hc
        have hcf := jm_nx_inj hs
        subst hcf
        intro Hc locs arr cells slots hR hS hl h1 h2
        exact lv_if_eq hx hb hd ht (fun h => absurd h hc) (fun _ => G' Hc locs arr cells slots hR hS hl h1 h2)
    case ne =>
      simp only [jm_ifb] at hs
      split at hs
      · rename_i hc
        have hcf := jm_nx_inj hs
        subst hcf
        intro Hc locs arr cells slots hR hS hl h1 h2
        exact lv_if_ne hx hb hd ht (fun _ => G' Hc locs arr cells slots hR hS hl h1 h2) (fun h => absurd h hc)
      · rename_i hc
        have hcf := jm_nx_inj hs
        subst hcf
        intro Hc locs arr cells slots hR hS hl h1 h2
        exact lv_if_ne hx hb hd ht (fun h => absurd h hc) (fun _ => G' Hc locs arr cells slots hR hS hl h1 h2)
    case lt =>
      simp only [jm_ifb] at hs
      split at hs
      · rename_i hc
        have hcf := jm_nx_inj hs
        subst hcf
        intro Hc locs arr cells slots hR hS hl h1 h2
        exact lv_if_lt hx hb hd ht (fun _ => G' Hc locs arr cells slots hR hS hl h1 h2) (fun h => absurd hc h)
      · rename_i hc
        have hcf := jm_nx_inj hs
        subst hcf
        intro Hc locs arr cells slots hR hS hl h1 h2
        exact lv_if_lt hx hb hd ht (fun h => absurd h hc) (fun _ => G' Hc locs arr cells slots hR hS hl h1 h2)
    case ge =>
      simp only [jm_ifb] at hs
      split at hs
      · rename_i hc
        have hcf := jm_nx_inj hs
        subst hcf
        intro Hc locs arr cells slots hR hS hl h1 h2
        exact lv_if_ge hx hb hd ht (fun _ => G' Hc locs arr cells slots hR hS hl h1 h2) (fun h => absurd hc h)
      · rename_i hc
        have hcf := jm_nx_inj hs
        subst hcf
        intro Hc locs arr cells slots hR hS hl h1 h2
        exact lv_if_ge hx hb hd ht (fun h => absurd h hc) (fun _ => G' Hc locs arr cells slots hR hS hl h1 h2)
    case gt =>
      simp only [jm_ifb] at hs
      split at hs
      · rename_i hc
        have hcf := jm_nx_inj hs
        subst hcf
        intro Hc locs arr cells slots hR hS hl h1 h2
        exact lv_if_gt hx hb hd ht (fun _ => G' Hc locs arr cells slots hR hS hl h1 h2) (fun h => absurd hc h)
      · rename_i hc
        have hcf := jm_nx_inj hs
        subst hcf
        intro Hc locs arr cells slots hR hS hl h1 h2
        exact lv_if_gt hx hb hd ht (fun h => absurd h hc) (fun _ => G' Hc locs arr cells slots hR hS hl h1 h2)
    case le =>
      simp only [jm_ifb] at hs
      split at hs
      · rename_i hc
        have hcf := jm_nx_inj hs
        subst hcf
        intro Hc locs arr cells slots hR hS hl h1 h2
        exact lv_if_le hx hb hd ht (fun _ => G' Hc locs arr cells slots hR hS hl h1 h2) (fun h => absurd hc h)
      · rename_i hc
        have hcf := jm_nx_inj hs
        subst hcf
        intro Hc locs arr cells slots hR hS hl h1 h2
        exact lv_if_le hx hb hd ht (fun h => absurd h hc) (fun _ => G' Hc locs arr cells slots hR hS hl h1 h2)
  · cases hs
set_option maxHeartbeats 4000000 in
theorem jm_s_icmp {cc : ClassFile.Cond} {off : Int} (C : jm_Cx p s m args meth c dC dI dA base b L xs q) (hF : jm_Fa q pc (.if_icmp cc off, npc, a0, b0, z0)) (ho : jm_on q.2.2.2.2.2 = q.1.cls)
    (hs : jm_stp xs L E (.if_icmp cc off, npc, a0, b0, z0) pc ls st H = some (.inl cf)) (G' : jm_G p l e R s m args below meth c Q dC dI dA base b q n0 s0 cf) : jm_G p l e R s m args below meth c Q dC dI dA base b q n0 s0 (pc, ls, st, H) := by
  obtain ⟨hx, hb, hml, hown, hts, hXw, hK, hXs, hbb, hbs, hmn⟩ := C
  obtain ⟨hd, hn, hk, hsd⟩ := hF
  have hw : ∀ k9 : jm_K, jm_need (.if_icmp cc off, npc, a0, b0, z0) = some k9 → ∀ w ∈ jm_lw q.2.2.2.2.2 k9, w.before args s = true := fun k9 h w hw => jm_word hts hXw (hk k9 h) hw
  rw [← ho] at hown
  simp only [jm_stp] at hs
  have hn : npc = pc + 3 := hn
  subst hn
  have ht : (pc : Int) + off = (a0 : Int) := of_decide_eq_true hsd
  split at hs
  · cases cc
    case eq =>
      simp only [jm_ifb] at hs
      split at hs
      · rename_i hc
        have hcf := jm_nx_inj hs
        subst hcf
        intro Hc locs arr cells slots hR hS hl h1 h2
        exact lv_icmp_eq hx hb hd ht (fun _ => G' Hc locs arr cells slots hR hS hl h1 h2) (fun h => absurd hc h)
      · rename_i hc
        have hcf := jm_nx_inj hs
        subst hcf
        intro Hc locs arr cells slots hR hS hl h1 h2
        exact lv_icmp_eq hx hb hd ht (fun h => absurd h hc) (fun _ => G' Hc locs arr cells slots hR hS hl h1 h2)
    case ne =>
      simp only [jm_ifb] at hs
      split at hs
      · rename_i hc
        have hcf := jm_nx_inj hs
        subst hcf
        intro Hc locs arr cells slots hR hS hl h1 h2
        exact lv_icmp_ne hx hb hd ht (fun _ => G' Hc locs arr cells slots hR hS hl h1 h2) (fun h => absurd h hc)
      · rename_i hc
        have hcf := jm_nx_inj hs
        subst hcf
        intro Hc locs arr cells slots hR hS hl h1 h2
        exact lv_icmp_ne hx hb hd ht (fun h => absurd h hc) (fun _ => G' Hc locs arr cells slots hR hS hl h1 h2)
    case lt =>
      simp only [jm_ifb] at hs
      split at hs
      · rename_i hc
        have hcf := jm_nx_inj hs
        subst hcf
        intro Hc locs arr cells slots hR hS hl h1 h2
        exact lv_icmp_lt hx hb hd ht (fun _ => G' Hc locs arr cells slots hR hS hl h1 h2) (fun h => absurd hc h)
      · rename_i hc
        have hcf := jm_nx_inj hs
        subst hcf
        intro Hc locs arr cells slots hR hS hl h1 h2
        exact lv_icmp_lt hx hb hd ht (fun h => absurd h hc) (fun _ => G' Hc locs arr cells slots hR hS hl h1 h2)
    case ge =>
      simp only [jm_ifb] at hs
      split at hs
      · rename_i hc
        have hcf := jm_nx_inj hs
        subst hcf
        intro Hc locs arr cells slots hR hS hl h1 h2
        exact lv_icmp_ge hx hb hd ht (fun _ => G' Hc locs arr cells slots hR hS hl h1 h2) (fun h => absurd hc h)
      · rename_i hc
        have hcf := jm_nx_inj hs
        subst hcf
        intro Hc locs arr cells slots hR hS hl h1 h2
        exact lv_icmp_ge hx hb hd ht (fun h => absurd h hc) (fun _ => G' Hc locs arr cells slots hR hS hl h1 h2)
    case gt =>
      simp only [jm_ifb] at hs
      split at hs
      · rename_i hc
        have hcf := jm_nx_inj hs
        subst hcf
        intro Hc locs arr cells slots hR hS hl h1 h2
        exact lv_icmp_gt hx hb hd ht (fun _ => G' Hc locs arr cells slots hR hS hl h1 h2) (fun h => absurd hc h)
      · rename_i hc
        have hcf := jm_nx_inj hs
        subst hcf
        intro Hc locs arr cells slots hR hS hl h1 h2
        exact lv_icmp_gt hx hb hd ht (fun h => absurd h hc) (fun _ => G' Hc locs arr cells slots hR hS hl h1 h2)
    case le =>
      simp only [jm_ifb] at hs
      split at hs
      · rename_i hc
        have hcf := jm_nx_inj hs
        subst hcf
        intro Hc locs arr cells slots hR hS hl h1 h2
        exact lv_icmp_le hx hb hd ht (fun _ => G' Hc locs arr cells slots hR hS hl h1 h2) (fun h => absurd hc h)
      · rename_i hc
        have hcf := jm_nx_inj hs
        subst hcf
        intro Hc locs arr cells slots hR hS hl h1 h2
        exact lv_icmp_le hx hb hd ht (fun h => absurd h hc) (fun _ => G' Hc locs arr cells slots hR hS hl h1 h2)
  · cases hs
set_option maxHeartbeats 4000000 in
theorem jm_s_goto {off : Int} (C : jm_Cx p s m args meth c dC dI dA base b L xs q) (hF : jm_Fa q pc (.goto off, npc, a0, b0, z0)) (ho : jm_on q.2.2.2.2.2 = q.1.cls)
    (hs : jm_stp xs L E (.goto off, npc, a0, b0, z0) pc ls st H = some (.inl cf)) (G' : jm_G p l e R s m args below meth c Q dC dI dA base b q n0 s0 cf) : jm_G p l e R s m args below meth c Q dC dI dA base b q n0 s0 (pc, ls, st, H) := by
  obtain ⟨hx, hb, hml, hown, hts, hXw, hK, hXs, hbb, hbs, hmn⟩ := C
  obtain ⟨hd, hn, hk, hsd⟩ := hF
  have hw : ∀ k9 : jm_K, jm_need (.goto off, npc, a0, b0, z0) = some k9 → ∀ w ∈ jm_lw q.2.2.2.2.2 k9, w.before args s = true := fun k9 h w hw => jm_word hts hXw (hk k9 h) hw
  rw [← ho] at hown
  simp only [jm_stp] at hs
  have ht : (pc : Int) + off = (a0 : Int) := of_decide_eq_true hsd
  have hcf := jm_nx_inj hs
  subst hcf
  intro Hc locs arr cells slots hR hS hl h1 h2
  exact lv_goto hx hb hd ht (G' Hc locs arr cells slots hR hS hl h1 h2)
theorem jm_jmp_inj {off : Int} {st : List Value} (h : jm_jmp pc off ls st H = some (.inl cf)) : ∃ t : Nat, (pc : Int) + off = (t : Int) ∧ cf = (t, ls, st, H) := by
  unfold jm_jmp at h
  split at h
  · rename_i h0
    exact ⟨_, (Int.toNat_of_nonneg h0).symm, jm_nx_inj h⟩
  · cases h
set_option maxHeartbeats 4000000 in
theorem jm_s_tsw {dd lo hi : Int} {offs : Array Int} (C : jm_Cx p s m args meth c dC dI dA base b L xs q) (hF : jm_Fa q pc (.tableswitch dd lo hi offs, npc, a0, b0, z0)) (ho : jm_on q.2.2.2.2.2 = q.1.cls)
    (hs : jm_stp xs L E (.tableswitch dd lo hi offs, npc, a0, b0, z0) pc ls st H = some (.inl cf)) (G' : jm_G p l e R s m args below meth c Q dC dI dA base b q n0 s0 cf) : jm_G p l e R s m args below meth c Q dC dI dA base b q n0 s0 (pc, ls, st, H) := by
  obtain ⟨hx, hb, hml, hown, hts, hXw, hK, hXs, hbb, hbs, hmn⟩ := C
  obtain ⟨hd, hn, hk, hsd⟩ := hF
  have hw : ∀ k9 : jm_K, jm_need (.tableswitch dd lo hi offs, npc, a0, b0, z0) = some k9 → ∀ w ∈ jm_lw q.2.2.2.2.2 k9, w.before args s = true := fun k9 h w hw => jm_word hts hXw (hk k9 h) hw
  rw [← ho] at hown
  simp only [jm_stp] at hs
  split at hs
  · split at hs
    · rename_i hc
      obtain ⟨t, ht, hcf⟩ := jm_jmp_inj hs
      subst hcf
      intro Hc locs arr cells slots hR hS hl h1 h2
      exact lv_tableOut hx hb hd hc ht (G' Hc locs arr cells slots hR hS hl h1 h2)
    · rename_i hc
      split at hs
      · rename_i o hof
        obtain ⟨t, ht, hcf⟩ := jm_jmp_inj hs
        subst hcf
        intro Hc locs arr cells slots hR hS hl h1 h2
        exact lv_tableIn hx hb hd (fun h => hc (Or.inl h)) (fun h => hc (Or.inr h)) hof ht (G' Hc locs arr cells slots hR hS hl h1 h2)
      · cases hs
  · cases hs
set_option maxHeartbeats 4000000 in
theorem jm_s_lsw {dd : Int} {ps : Array (Int × Int)} (C : jm_Cx p s m args meth c dC dI dA base b L xs q) (hF : jm_Fa q pc (.lookupswitch dd ps, npc, a0, b0, z0)) (ho : jm_on q.2.2.2.2.2 = q.1.cls)
    (hs : jm_stp xs L E (.lookupswitch dd ps, npc, a0, b0, z0) pc ls st H = some (.inl cf)) (G' : jm_G p l e R s m args below meth c Q dC dI dA base b q n0 s0 cf) : jm_G p l e R s m args below meth c Q dC dI dA base b q n0 s0 (pc, ls, st, H) := by
  obtain ⟨hx, hb, hml, hown, hts, hXw, hK, hXs, hbb, hbs, hmn⟩ := C
  obtain ⟨hd, hn, hk, hsd⟩ := hF
  have hw : ∀ k9 : jm_K, jm_need (.lookupswitch dd ps, npc, a0, b0, z0) = some k9 → ∀ w ∈ jm_lw q.2.2.2.2.2 k9, w.before args s = true := fun k9 h w hw => jm_word hts hXw (hk k9 h) hw
  rw [← ho] at hown
  simp only [jm_stp] at hs
  split at hs
  · obtain ⟨t, ht, hcf⟩ := jm_jmp_inj hs
    subst hcf
    intro Hc locs arr cells slots hR hS hl h1 h2
    exact lv_lookup hx hb hd hsd rfl ht (G' Hc locs arr cells slots hR hS hl h1 h2)
  · cases hs
set_option maxHeartbeats 4000000 in
theorem jm_s_getf {ix : Nat} (C : jm_Cx p s m args meth c dC dI dA base b L xs q) (hF : jm_Fa q pc (.getfield ix, npc, a0, b0, z0)) (ho : jm_on q.2.2.2.2.2 = q.1.cls)
    (hs : jm_stp xs L E (.getfield ix, npc, a0, b0, z0) pc ls st H = some (.inl cf)) (G' : jm_G p l e R s m args below meth c Q dC dI dA base b q n0 s0 cf) : jm_G p l e R s m args below meth c Q dC dI dA base b q n0 s0 (pc, ls, st, H) := by
  obtain ⟨hx, hb, hml, hown, hts, hXw, hK, hXs, hbb, hbs, hmn⟩ := C
  obtain ⟨hd, hn, hk, hsd⟩ := hF
  have hw : ∀ k9 : jm_K, jm_need (.getfield ix, npc, a0, b0, z0) = some k9 → ∀ w ∈ jm_lw q.2.2.2.2.2 k9, w.before args s = true := fun k9 h w hw => jm_word hts hXw (hk k9 h) hw
  rw [← ho] at hown
  simp only [jm_stp] at hs
  have hn : npc = pc + 3 := hn
  subst hn
  have hlk := jm_lkok (hk _ rfl)
  simp only [jm_lok, Bool.and_eq_true, decide_eq_true_eq] at hlk
  obtain ⟨⟨hci, hkb⟩, htz⟩ := hlk
  have hlink : (Cond.fieldLink (jm_on q.2.2.2.2.2) ix (jm_T a0 b0).1 (jm_T a0 b0).2.1 (jm_T a0 b0).2.2.1).before args s = true := hw _ rfl _ (List.mem_singleton.mpr rfl)
  split at hs
  · rename_i a r
    split at hs
    · rename_i hkd
      have hobj := jm_obj (dA := dA) (base := base) hkd
      split at hs
      · rename_i hz
        have hcf := jm_nx_inj hs
        subst hcf
        intro Hc locs arr cells slots hR hS hl h1 h2
        have hir : jm_isr a0 b0 = true := (jm_tyz_isr htz).mpr hz
        refine va_get hx hb hts (jm_lay hci) hown hK hR.1 a hobj (jm_clg hci) b0 hkb hlink (fun x h => h) (jm_fdg hkb) hd ?_
        have G2 := G' Hc locs arr cells slots hR hS hl h1 h2
        simp only [List.map_cons, jm_cvr] at G2
        unfold jm_fd
        rw [if_pos hir]
        exact G2
      · rename_i hz
        have hcf := jm_nx_inj hs
        subst hcf
        intro Hc locs arr cells slots hR hS hl h1 h2
        have hir : ¬ jm_isr a0 b0 = true := fun h => hz ((jm_tyz_isr htz).mp h)
        refine va_get hx hb hts (jm_lay hci) hown hK hR.1 a hobj (jm_clg hci) b0 hkb hlink (fun x h => h) (jm_fdg hkb) hd ?_
        unfold jm_fd
        rw [if_neg hir]
        exact G' Hc locs arr cells slots hR hS hl h1 h2
    · cases hs
  · cases hs
set_option maxHeartbeats 4000000 in
theorem jm_s_putf {ix : Nat} (C : jm_Cx p s m args meth c dC dI dA base b L xs q) (hF : jm_Fa q pc (.putfield ix, npc, a0, b0, z0)) (ho : jm_on q.2.2.2.2.2 = q.1.cls) (hn0 : s.heap.size = base + n0)
    (hs : jm_stp xs L E (.putfield ix, npc, a0, b0, z0) pc ls st H = some (.inl cf)) (G' : jm_G p l e R s m args below meth c Q dC dI dA base b q n0 s0 cf) : jm_G p l e R s m args below meth c Q dC dI dA base b q n0 s0 (pc, ls, st, H) := by
  obtain ⟨hx, hb, hml, hown, hts, hXw, hK, hXs, hbb, hbs, hmn⟩ := C
  obtain ⟨hd, hn, hk, hsd⟩ := hF
  have hw : ∀ k9 : jm_K, jm_need (.putfield ix, npc, a0, b0, z0) = some k9 → ∀ w ∈ jm_lw q.2.2.2.2.2 k9, w.before args s = true := fun k9 h w hw => jm_word hts hXw (hk k9 h) hw
  rw [← ho] at hown
  simp only [jm_stp] at hs
  have hn : npc = pc + 3 := hn
  subst hn
  have hlk := jm_lkok (hk _ rfl)
  simp only [jm_lok, Bool.and_eq_true, decide_eq_true_eq] at hlk
  obtain ⟨⟨hci, hkb⟩, htz⟩ := hlk
  have hlink : (Cond.fieldLink (jm_on q.2.2.2.2.2) ix (jm_T a0 b0).1 (jm_T a0 b0).2.1 (jm_T a0 b0).2.2.1).before args s = true := hw _ rfl _ (List.mem_singleton.mpr rfl)
  split at hs
  · rename_i v a r
    split at hs
    · rename_i hc
      obtain ⟨hkd, hz, hbz⟩ := hc
      have hcf := jm_nx_inj hs
      subst hcf
      have hobj := jm_obj (dA := dA) (base := base) hkd
      have hir : ¬ jm_isr a0 b0 = true := fun h => hz ((jm_tyz_isr htz).mp h)
      have hnf : narrow (jm_ty a0 b0) (.int v) = .int v ∧ fits (jm_ty a0 b0) (.int v) = true := by
        cases hty : jm_ty a0 b0 with
        | int => exact ⟨rfl, rfl⟩
        | boolean =>
          have hz2 : z0 = 2 := by
            rw [hty] at htz
            simpa [jm_tyz] using htz
          rcases hbz hz2 with h | h <;> subst h <;> exact ⟨rfl, rfl⟩
        | object n =>
          rw [hty] at htz
          exact absurd (by simpa [jm_tyz] using htz) hz
        | array n =>
          rw [hty] at htz
          exact absurd (by simpa [jm_tyz] using htz) hz
        | _ =>
          rw [hty] at htz
          exact Bool.noConfusion (show false = true from htz)
      obtain ⟨hnar, hfit⟩ := hnf
      intro Hc locs arr cells slots hR hS hl h1 h2
      have hD := jm_ws_D (dA := dA) (base := base) (H := H) (jm_A base) (fun _ h => h)
      have ha : a < H.1.length := jm_kd_lt (by omega)
      have kk : ∀ (H1 : Heap) (locs1 : List Loc), va_P (dC, dI) jm_cl ((jm_ws dA base H).set a (base + a, .inr (a0, ((List.range (jm_N a0)).map (jm_fd base a0 (jm_rf H a) (H.2.1 a))).set b0 (.int v)))) H1 → va_D (jm_A base) ((jm_ws dA base H).set a (base + a, .inr (a0, ((List.range (jm_N a0)).map (jm_fd base a0 (jm_rf H a) (H.2.1 a))).set b0 (.int v)))) → va_S (jm_A base) s.heap H1 locs1 → W p l e R s m args below meth c H1 locs1 cells slots Q (F0 m (pc + 3) arr (r.map (jm_cv base b))) := by
        intro H1 locs1 hP1 hD1 hS1
        refine jm_size fun hz => ?_
        refine G' H1 locs1 arr cells slots (jm_Rl_set hR rfl (fun j hj => jm_at_congr rfl (jm_up_ne hj) rfl) ?_ hP1 ha hn0 h1 hz) hS1 hl h1 h2
        unfold jm_at
        show (base + a, jm_cell dA base (jm_kd H a) (jm_ln H a) (jm_rf H a) (jm_up H.2.1 a b0 v a) (H.2.2 a)) = _
        unfold jm_cell
        rw [hkd, if_neg (by omega), if_neg (by omega), if_neg (by omega), Nat.add_sub_cancel_left]
        congr 3
        refine (jm_fset ?_ ?_).symm
        · unfold jm_fd
          rw [if_neg hir, jm_up_eq]
          exact congrArg Value.int (if_pos rfl)
        · intro j hj
          unfold jm_fd
          rw [jm_up_eq]
          simp only [if_neg hj]
      cases hfin : (jm_T a0 b0).2.2.2 with
      | false => exact va_put hx hb hts (jm_lay hci) (jm_ty a0) (jm_tok hci) (jm_nok hci) hown hK hR.1 hD hS a hobj (jm_clg hci) b0 hkb hlink (fun x h => h) hfin (jm_tok hci b0 hkb) hnar hfit (by simp; exact hkb) hd kk
      | true =>
        have hsd' : (!(jm_T a0 b0).2.2.2 || (decide (q.1.name = "<init>") && decide ((jm_T a0 b0).1 = q.1.cls))) = true := hsd
        rw [hfin] at hsd'
        simp only [Bool.not_true, Bool.false_or, Bool.and_eq_true, decide_eq_true_eq] at hsd'
        exact va_putF hx hb hts (jm_lay hci) (jm_ty a0) (jm_tok hci) (jm_nok hci) hown hK hR.1 hD hS a hobj (jm_clg hci) b0 hkb hlink (fun x h => h) hfin (hmn hsd'.1) (hsd'.2.trans ho.symm) (jm_tok hci b0 hkb) hnar hfit (by simp; exact hkb) hd kk
    · cases hs
  · rename_i v a r
    split at hs
    · rename_i hc
      obtain ⟨hkd, hz⟩ := hc
      have hcf := jm_nx_inj hs
      subst hcf
      have hobj := jm_obj (dA := dA) (base := base) hkd
      have hir : jm_isr a0 b0 = true := (jm_tyz_isr htz).mpr hz
      have hnf : narrow (jm_ty a0 b0) (.ref (base + v)) = .ref (base + v) ∧ fits (jm_ty a0 b0) (.ref (base + v)) = true := by
        cases hty : jm_ty a0 b0 with
        | object n => exact ⟨rfl, rfl⟩
        | array n => exact ⟨rfl, rfl⟩
        | int =>
          rw [hty] at htz
          exact absurd (hz.symm.trans (by simpa [jm_tyz] using htz)) (by decide)
        | boolean =>
          rw [hty] at htz
          exact absurd (hz.symm.trans (by simpa [jm_tyz] using htz)) (by decide)
        | _ =>
          rw [hty] at htz
          exact Bool.noConfusion (show false = true from htz)
      obtain ⟨hnar, hfit⟩ := hnf
      intro Hc locs arr cells slots hR hS hl h1 h2
      have hD := jm_ws_D (dA := dA) (base := base) (H := H) (jm_A base) (fun _ h => h)
      have ha : a < H.1.length := jm_kd_lt (by omega)
      have kk : ∀ (H1 : Heap) (locs1 : List Loc), va_P (dC, dI) jm_cl ((jm_ws dA base H).set a (base + a, .inr (a0, ((List.range (jm_N a0)).map (jm_fd base a0 (jm_rf H a) (H.2.1 a))).set b0 (.ref (base + v))))) H1 → va_D (jm_A base) ((jm_ws dA base H).set a (base + a, .inr (a0, ((List.range (jm_N a0)).map (jm_fd base a0 (jm_rf H a) (H.2.1 a))).set b0 (.ref (base + v))))) → va_S (jm_A base) s.heap H1 locs1 → W p l e R s m args below meth c H1 locs1 cells slots Q (F0 m (pc + 3) arr (r.map (jm_cv base b))) := by
        intro H1 locs1 hP1 hD1 hS1
        refine jm_size fun hz => ?_
        refine G' H1 locs1 arr cells slots (jm_Rl_set hR (List.length_set ..) (fun j hj => jm_at_congr (jm_rset_ne hj) rfl rfl) ?_ hP1 ha hn0 h1 hz) hS1 hl (h1.trans (List.length_set ..).symm) (h2.trans jm_sl_set.symm)
        obtain ⟨e1, e2, e3⟩ := jm_rset_at (H := H) (v := v) (k := b0) ha
        unfold jm_at
        rw [e1, e2, e3]
        unfold jm_cell
        rw [hkd, if_neg (by omega), if_neg (by omega), if_neg (by omega), Nat.add_sub_cancel_left]
        congr 3
        refine (jm_fset ?_ ?_).symm
        · unfold jm_fd
          rw [if_pos hir]
          simp only [if_true, Option.map, va_rf]
        · intro j hj
          unfold jm_fd
          simp only [if_neg hj]
      cases hfin : (jm_T a0 b0).2.2.2 with
      | false => exact va_put hx hb hts (jm_lay hci) (jm_ty a0) (jm_tok hci) (jm_nok hci) hown hK hR.1 hD hS a hobj (jm_clg hci) b0 hkb hlink (fun x h => h) hfin (jm_tok hci b0 hkb) hnar hfit (by simp; exact hkb) hd kk
      | true =>
        have hsd' : (!(jm_T a0 b0).2.2.2 || (decide (q.1.name = "<init>") && decide ((jm_T a0 b0).1 = q.1.cls))) = true := hsd
        rw [hfin] at hsd'
        simp only [Bool.not_true, Bool.false_or, Bool.and_eq_true, decide_eq_true_eq] at hsd'
        exact va_putF hx hb hts (jm_lay hci) (jm_ty a0) (jm_tok hci) (jm_nok hci) hown hK hR.1 hD hS a hobj (jm_clg hci) b0 hkb hlink (fun x h => h) hfin (hmn hsd'.1) (hsd'.2.trans ho.symm) (jm_tok hci b0 hkb) hnar hfit (by simp; exact hkb) hd kk
    · cases hs
  · cases hs
end JMY
