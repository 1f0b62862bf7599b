/-! The machine does what the small machine does: an instruction at a time. -/
theorem jm_MTlen : jm_MT.length = 174 := by decide +kernel
theorem jm_nx_inj {pc : Nat} {ls : jm_L} {st : List Value} {H : jm_H} {cf : jm_C} (h : jm_nx pc ls st H = some (.inl cf)) : cf = (pc, ls, st, H) := by
  unfold jm_nx at h
  cases h
  rfl
theorem jm_keq_eq {a b : jm_K} (h : jm_keq a b = true) : a = b := by
  obtain ⟨a1, a2, a3, a4, a5⟩ := a
  obtain ⟨b1, b2, b3, b4, b5⟩ := b
  simp only [jm_keq, Bool.and_eq_true, beq_iff_eq] at h
  obtain ⟨⟨⟨⟨h1, h2⟩, h3⟩, h4⟩, h5⟩ := h
  subst h1 h2 h3 h4 h5
  rfl
/-- what the check says of a row -/
def jm_Fa (q : jm_M) (pc : Nat) (e : jm_I) : Prop := decode q.2.1 pc = .ok (e.1, jm_len e.1 pc e.2.1) ∧ e.2.1 = pc + jm_len e.1 pc e.2.1 ∧ (∀ k, jm_need e = some k → k ∈ jm_LK q.2.2.2.2.2) ∧ jm_side q pc e = true
theorem jm_lin_ok {q : jm_M} : ∀ (t : List (Option jm_I)) (bs : List UInt8) (pc : Nat), jm_lin q t bs pc = true → (∀ j, bs[j]? = q.2.1.data.toList[pc + j]?) → pc + t.length ≤ q.2.1.size → ∀ (k : Nat) (e : jm_I), t[k]? = some (some e) → jm_Fa q (pc + k) e
  | [], _, _, _, _, _, k, e, he => by simp at he
  | none :: t, bs, pc, h, hb, hs, k, e, he => by
    simp only [jm_lin] at h
    cases k with
    | zero => simp at he
    | succ k =>
      rw [List.getElem?_cons_succ] at he
      have := jm_lin_ok t bs.tail (pc + 1) h (fun j => by rw [List.getElem?_tail, hb, show pc + (j + 1) = pc + 1 + j by omega]) (by simp only [List.length_cons] at hs; omega) k e he
      rwa [show pc + 1 + k = pc + (k + 1) by omega] at this
  | some e0 :: t, bs, pc, h, hb, hs, k, e, he => by
    simp only [jm_lin, Bool.and_eq_true] at h
    obtain ⟨⟨⟨⟨h1, h2⟩, h3⟩, h4⟩, h5⟩ := h
    cases k with
    | zero =>
      rw [List.getElem?_cons_zero] at he
      cases he
      refine ⟨?_, by simpa using h2, fun k hk => ?_, h4⟩
      · split at h1
        · rename_i j p hr
          simp only [Bool.and_eq_true, decide_eq_true_eq, beq_iff_eq] at h1
          obtain ⟨rfl, rfl⟩ := h1
          have := Jvm.Free.DS.shift (Jvm.Free.DS.win_agree (n := jm_len e0.1 pc e0.2.1) (fun j => hb j) (by omega)) hr
          rw [Nat.add_sub_cancel_left] at this
          exact this
        · cases h1
      · rw [hk] at h3
        obtain ⟨x, hx, hxe⟩ := List.any_eq_true.mp h3
        rw [jm_keq_eq hxe]
        exact hx
    | succ k =>
      rw [List.getElem?_cons_succ] at he
      have := jm_lin_ok t bs.tail (pc + 1) h5 (fun j => by rw [List.getElem?_tail, hb, show pc + (j + 1) = pc + 1 + j by omega]) (by simp only [List.length_cons] at hs; omega) k e he
      rwa [show pc + 1 + k = pc + (k + 1) by omega] at this
theorem jm_flat : ∀ (l : List (List (Option jm_I))), (∀ c ∈ l.dropLast, c.length = 64) → ∀ (i j : Nat) (q : List (Option jm_I)), j < 64 → l[i]? = some q → ∀ e, q[j]? = some e → l.flatten[64 * i + j]? = some e
  | [], _, i, j, q, _, h, _, _ => by simp at h
  | a :: t, hl, i, j, q, hj, h, e, he => by
    rw [List.flatten_cons]
    cases i with
    | zero =>
      rw [List.getElem?_cons_zero] at h
      cases h
      have hlt := (List.getElem?_eq_some_iff.mp he).1
      rw [Nat.mul_zero, Nat.zero_add, List.getElem?_append_left hlt]
      exact he
    | succ i =>
      rw [List.getElem?_cons_succ] at h
      cases t with
      | nil => simp at h
      | cons b t =>
        have ha : a.length = 64 := hl a (by simp)
        rw [List.getElem?_append_right (by omega), show 64 * (i + 1) + j - a.length = 64 * i + j by omega]
        exact jm_flat (b :: t) (fun c hc => hl c (by rw [List.dropLast_cons_of_ne_nil (by simp)]; exact List.mem_cons_of_mem _ hc)) i j q hj h e he
theorem jm_fact {mi pc : Nat} {q : jm_M} {e : jm_I} (hm : jm_MT[mi]? = some q) (ht : jm_tab mi pc = some e) : jm_Fa q pc e := by
  have hlt : mi < 174 := by
    have := (List.getElem?_eq_some_iff.mp hm).1
    rwa [jm_MTlen] at this
  have ho := jm_okm_all mi hlt
  unfold jm_okm at ho
  rw [hm] at ho
  simp only [Bool.and_eq_true] at ho
  obtain ⟨-, ho⟩ := ho
  unfold jm_tab at ht
  split at ht
  · rename_i g hg
    rw [hg] at ho
    split at ht
    · rename_i l hl
      simp only [hl, Bool.and_eq_true, decide_eq_true_eq] at ho
      obtain ⟨⟨h1, h2⟩, h3⟩ := ho
      split at ht
      · rename_i c hc
        split at ht
        · rename_i e' he
          subst ht
          have hf := jm_flat l (fun c hc => by have := List.all_eq_true.mp h3 c hc; simpa using this) (pc / 64) (pc % 64) c (Nat.mod_lt _ (by omega)) hc _ he
          rw [Nat.div_add_mod] at hf
          have := jm_lin_ok _ _ 0 h1 (fun j => by rw [Nat.zero_add]) (by rw [Nat.zero_add]; exact h2) pc e hf
          rwa [Nat.zero_add] at this
        · cases ht
      · cases ht
    · cases ht
  · cases ht
/-- what the check says of a method -/
theorem jm_mfact {mi : Nat} {q : jm_M} (hm : jm_MT[mi]? = some q) : (q.1.cls ≠ "java/lang/invoke/MethodHandle" ∧ q.1.cls ≠ "java/lang/invoke/VarHandle") ∧ (parseMethodDescriptor q.1.desc).map (fun d => d.parameters.length) = some q.2.2.2.2.1 ∧ q.2.2.1 ≤ 22 ∧ jm_own[q.2.2.2.2.2]? = some q.1.cls := by
  have hlt : mi < 174 := by
    have := (List.getElem?_eq_some_iff.mp hm).1
    rwa [jm_MTlen] at this
  have ho := jm_okm_all mi hlt
  unfold jm_okm at ho
  rw [hm] at ho
  simp only [Bool.and_eq_true, decide_eq_true_eq] at ho
  exact ⟨ho.1.1.1.1.1, ho.1.1.1.1.2, ho.1.1.1.2, ho.1.2⟩
theorem jm_lkok {o : Nat} {k : jm_K} (h : k ∈ jm_LK o) : jm_lok (jm_on o) k = true := by
  by_cases ho : o < 13
  · exact List.all_eq_true.mp (List.all_eq_true.mp jm_loks o (List.mem_range.mpr ho)) k h
  · unfold jm_LK at h
    split at h <;> first | (exfalso; omega) | cases h
/-- the words that a warm state keeps -/
def jm_TW : List Cond := lw_tbl.filter goodWord
theorem jm_good : GoodIn jm_TW jm_TW := fun w h => ⟨h, good_of_word (List.mem_filter.mp h).2⟩
/-- words that are carried beside: links to nest mates, arrays of references -/
def jm_xw : Cond → Bool
  | .methodLinkNest _ _ _ _ => true
  | .arrayOver (.object _) => true
  | .arrayOver (.array _) => true
  | _ => false
set_option maxRecDepth 100000 in
theorem jm_lwg : ((List.range 13).all fun o => (jm_LK o).all fun q => (jm_lw o q).all fun w => goodWord w || jm_xw w) = true := by decide +kernel
theorem jm_lk_tw {o : Nat} {q : jm_K} (h : q ∈ jm_LK o) : ∀ w ∈ jm_lw o q, w ∈ lw_tbl ∧ (goodWord w || jm_xw w) = true := fun w hw => by
  refine ⟨jm_lk_in o q h w hw, ?_⟩
  by_cases ho : o < 13
  · exact List.all_eq_true.mp (List.all_eq_true.mp (List.all_eq_true.mp jm_lwg o (List.mem_range.mpr ho)) q h) w hw
  · unfold jm_LK at h
    split at h <;> first | (exfalso; omega) | cases h
def jm_X (U : State) : Prop := ∀ w ∈ lw_tbl, jm_xw w = true → va_Nw w U
theorem jm_X.warm {s U : State} (hW : s.WarmedH U.vm) (h : jm_X s) : jm_X U := by
  intro w hw hx
  have hz := h w hw hx
  unfold jm_xw at hx
  split at hx
  · exact hz.warmM hW
  · exact va_AO.moved hW.alike hz
  · exact arrayOver_alikeB hW.alike hz
  · cases hx
theorem jm_X.same {s U : State} (hv : s.vm = U.vm) (h : jm_X s) : jm_X U := by
  intro w hw hx
  have hz := h w hw hx
  unfold jm_xw at hx
  split at hx
  · exact va_Nw.same rfl hv hz
  · exact va_AO.moved (by rw [hv]; exact Vm.Alike.refl _) hz
  · exact arrayOver_alikeB (by rw [hv]; exact Vm.Alike.refl _) hz
  · cases hx
/-- a link's word, as the state has it -/
theorem jm_word {args : Array Value} {s : State} (ht : ∀ w ∈ jm_TW, w.before args s = true) (hx : jm_X s) {o : Nat} {q : jm_K} (h : q ∈ jm_LK o) {w : Cond} (hw : w ∈ jm_lw o q) : w.before args s = true := by
  obtain ⟨h1, h2⟩ := jm_lk_tw h w hw
  cases hg : goodWord w with
  | true => exact ht w (List.mem_filter.mpr ⟨h1, hg⟩)
  | false =>
    rw [hg, Bool.false_or] at h2
    have hz := hx w h1 h2
    unfold jm_xw at h2
    split at h2
    · exact va_Nw.use rfl hz
    · exact hz
    · exact hz
    · cases h2
theorem jm_lay {ci : Nat} (h : ci < 10) : ∀ w ∈ u_ws (jm_R ci) (jm_T ci) (jm_N ci), w ∈ jm_TW := by
  have key : ∀ (l : List Cond), (l.all fun w => decide (w ∈ lw_tbl) && goodWord w) = true → ∀ w ∈ l, w ∈ jm_TW := fun l hl w hw => by
    have := List.all_eq_true.mp hl w hw
    simp only [Bool.and_eq_true, decide_eq_true_eq] at this
    exact List.mem_filter.mpr this
  rcases (show ci = 0 ∨ ci = 1 ∨ ci = 2 ∨ ci = 3 ∨ ci = 4 ∨ ci = 5 ∨ ci = 6 ∨ ci = 7 ∨ ci = 8 ∨ ci = 9 by omega) with h | h | h | h | h | h | h | h | h | h <;> subst h <;> exact key _ (by decide +kernel)
/-- the law's String constant, and the statics that its charAt reads: old cells that nobody writes -/
def jm_bt : List Int32 := [124, 38, 60, 64, 33, 35, 45]
def jm_St (base k : Nat) (U : State) (H : Heap) : Prop := vk_R "LeapingPassagesLaw" 53 "|&<@!#-" k U ∧ (∃ adV : Nat, vk_S 1 [7] [jm_bt] (fun _ => k) (fun _ => adV) (jm_A base) U H) ∧ va_Z "java/lang/String" "COMPACT_STRINGS" "Z" (.int 1) (jm_A base) U H ∧ va_Zq "jdk/internal/util/Preconditions" "SIOOBE_FORMATTER" "Ljava/util/function/BiFunction;" (jm_A base) U H
theorem jm_St.kept {base k : Nat} {U : State} {H H1 : Heap} (h : jm_St base k U H) (hq : ∀ a : Nat, a < H.size → ¬ jm_A base a → H1[a]? = H[a]?) : jm_St base k U H1 := by
  obtain ⟨h1, ⟨adV, h2⟩, h3, h4⟩ := h
  exact ⟨h1, ⟨adV, h2.kept hq⟩, h3.kept hq, h4.kept hq⟩
theorem jm_St.warm {base k : Nat} {s U : State} {H : Heap} (hW : s.WarmedH U.vm) (h : jm_St base k s H) : jm_St base k U H := by
  obtain ⟨h1, ⟨adV, h2⟩, h3, h4⟩ := h
  exact ⟨h1.warm hW, ⟨adV, vk_S.moved hW.alike h2⟩, va_Z.moved hW.alike h3, va_Zq.moved hW.alike h4⟩
theorem jm_St.same {base k : Nat} {s U : State} {H : Heap} (hv : s.vm = U.vm) (h : jm_St base k s H) : jm_St base k U H := by
  obtain ⟨h1, ⟨adV, h2⟩, h3, h4⟩ := h
  have ha : s.vm.Alike U.vm := by rw [hv]; exact Vm.Alike.refl _
  exact ⟨vk_R.same hv.symm h1, ⟨adV, vk_S.moved ha h2⟩, va_Z.moved ha h3, va_Zq.moved ha h4⟩
/-- the script, and the constant -/
def jm_Xb (base : Nat) (b : Nat → Nat) (L : Nat) (xs : Nat → Int32) (U : State) (H : Heap) : Prop := va_X (b 0) L xs U H ∧ jm_St base (b 1) U H
theorem jm_Xb.next {base : Nat} {b : Nat → Nat} {L : Nat} {xs : Nat → Int32} {s U : State} {H : Heap} {locs : List Loc} (hW : s.WarmedH U.vm) (h : jm_Xb base b L xs s s.heap) (hbb : b 0 < base) (hbs : base ≤ s.heap.size) (hS : va_S (jm_A base) s.heap H locs) (hU : U.heap = H) : jm_Xb base b L xs U U.heap := by
  subst hU
  exact ⟨va_X.moved hW.alike (va_X.kept h.1 (hS.2.1 (b 0) (Nat.lt_of_lt_of_le hbb hbs) (fun h => absurd hbb (Nat.not_lt.mpr h)))), (h.2.kept hS.2.1).warm hW⟩
theorem jm_Xb.same {base : Nat} {b : Nat → Nat} {L : Nat} {xs : Nat → Int32} {s U : State} {H : Heap} (hv : s.vm = U.vm) (h : jm_Xb base b L xs s H) : jm_Xb base b L xs U H := ⟨va_X.moved (by rw [hv]; exact Vm.Alike.refl _) h.1, h.2.same hv⟩
def jm_wd (r : jm_M) : List Cond := Cond.code r.1 r.2.1 r.2.2.1 r.2.2.2.1 :: jm_TW
section JMX
variable {p : Program} {l : Launch} {e : Env} {R : Room} {s : State} {m : MethodId} {args : Array Value} {below : List Frame} {meth : Method} {c : Code} {Q : State → Prop}
variable {dC : Nat → ClassId} {dI : Nat → Nat → Nat} {dA : Nat → ClassId} {base : Nat} {b : Nat → Nat} {L : Nat} {xs : Nat → Int32} {q : jm_M} {n0 s0 : Nat}
def jm_Cx (p : Program) (s : State) (m : MethodId) (args : Array Value) (meth : Method) (c : Code) (dC : Nat → ClassId) (dI : Nat → Nat → Nat) (dA : Nat → ClassId) (base : Nat) (b : Nat → Nat) (L : Nat) (xs : Nat → Int32) (q : jm_M) : Prop :=
  p.tables.exec = Jvm.exec ∧ c.code = q.2.1 ∧ c.maxLocals = q.2.2.1 ∧ s.vm.findClass q.1.cls = some m.cls ∧ (∀ w ∈ jm_TW, w.before args s = true) ∧ jm_X s ∧ va_K (dC, dI) jm_cl (jm_tys dA) s ∧ jm_Xb base b L xs s s.heap ∧ b 0 < base ∧ base ≤ s.heap.size ∧ (q.1.name = "<init>" → meth.name = "<init>")
def jm_G (p : Program) (l : Launch) (e : Env) (R : Room) (s : State) (m : MethodId) (args : Array Value) (below : List Frame) (meth : Method) (c : Code) (Q : State → Prop) (dC : Nat → ClassId) (dI : Nat → Nat → Nat) (dA : Nat → ClassId) (base : Nat) (b : Nat → Nat) (q : jm_M) (n0 s0 : Nat) (cf : jm_C) : Prop :=
  ∀ (Hc : Heap) (locs : List Loc) (arr : Array Slot) (cells slots : Nat), jm_Rl dC dI dA base cf.2.2.2 Hc → va_S (jm_A base) s.heap Hc locs → jm_lr base b cf.2.1 arr q.2.2.1 → cells + n0 = cf.2.2.2.1.length → slots + s0 = jm_sl cf.2.2.2 → W p l e R s m args below meth c Hc locs cells slots Q (F0 m cf.1 arr (cf.2.2.1.map (jm_cv base b)))
theorem jm_size {Hc : Heap} {locs : List Loc} {cells slots : Nat} {g : JFrame} (h : Hc.size ≤ s.heap.size + cells → W p l e R s m args below meth c Hc locs cells slots Q g) : W p l e R s m args below meth c Hc locs cells slots Q g := fun T hT X => h (by rw [← hT]; exact X.heapSize) T hT X
theorem jm_inA {q : Nat} (h : base ≤ s.heap.size) (h2 : s.heap.size ≤ q) : jm_A base q := Nat.le_trans h h2
/-- a cell has changed, no cell is new -/
theorem jm_Rl_set {H H' : jm_H} {Hc H1 : Heap} {a cells : Nat} {ev : va_E} (hR : jm_Rl dC dI dA base H Hc) (hl : H'.1.length = H.1.length) (hk : ∀ j, j ≠ a → jm_at dA base H' j = jm_at dA base H j) (he : jm_at dA base H' a = (base + a, ev)) (hP : va_P (dC, dI) jm_cl ((jm_ws dA base H).set a (base + a, ev)) H1) (ha : a < H.1.length) (hn : s.heap.size = base + n0) (hc : cells + n0 = H.1.length) (hz : H1.size ≤ s.heap.size + cells) : jm_Rl dC dI dA base H' H1 := by
  have hP' : va_P (dC, dI) jm_cl (jm_ws dA base H') H1 := by rw [jm_ws_set hl hk he]; exact hP
  refine ⟨hP', ?_⟩
  have h1 := (hP' (H'.1.length - 1) _ (jm_ws_get (by omega))).lt
  have h2 : base + (H'.1.length - 1) < H1.size := h1
  omega
/-- a cell is new -/
theorem jm_Rl_push {H : jm_H} {H1 : Heap} {x : jm_S} {cells qq : Nat} {A : Nat → Prop} (hA : ∀ z, A z → base ≤ z) (hP : va_P (dC, dI) jm_cl (jm_ws dA base H ++ [(qq, jm_cell dA base x.1 x.2.1 x.2.2 (fun _ => 0) (fun _ => 0))]) H1) (hD : va_D A (jm_ws dA base H ++ [(qq, jm_cell dA base x.1 x.2.1 x.2.2 (fun _ => 0) (fun _ => 0))])) (hn : s.heap.size = base + n0) (hc : cells + n0 = H.1.length) (hz : H1.size ≤ s.heap.size + (cells + 1)) : qq = base + H.1.length ∧ jm_Rl dC dI dA base (jm_new H x) H1 := by
  have hg : (jm_ws dA base H ++ [(qq, jm_cell dA base x.1 x.2.1 x.2.2 (fun _ => 0) (fun _ => 0))])[H.1.length]? = some (qq, jm_cell dA base x.1 x.2.1 x.2.2 (fun _ => 0) (fun _ => 0)) := by
    rw [List.getElem?_append_right (by rw [jm_ws_len]; exact Nat.le_refl _), jm_ws_len, Nat.sub_self]
    rfl
  have hlt : qq < H1.size := (hP _ _ hg).lt
  have hge : base ≤ qq := hA _ (hD.2 _ _ hg)
  have hq : qq = base + H.1.length := by
    rcases Nat.lt_or_ge (qq - base) H.1.length with h | h
    · have h1 : (jm_ws dA base H ++ [(qq, jm_cell dA base x.1 x.2.1 x.2.2 (fun _ => 0) (fun _ => 0))])[qq - base]? = some (jm_at dA base H (qq - base)) := by
        rw [List.getElem?_append_left (by rw [jm_ws_len]; exact h), jm_ws_get h]
      have := hD.1 _ _ _ _ h1 hg (show base + (qq - base) = qq by omega)
      omega
    · omega
  subst hq
  refine ⟨rfl, ?_, ?_⟩
  · rw [jm_ws_push]; exact hP
  · have : (jm_new H x).1.length = H.1.length + 1 := by simp [jm_new]
    omega
/-- the instructions whose steps stand apart -/
def jm_big : Instr → Bool
  | .iinc _ _ | .ifCond _ _ | .if_icmp _ _ | .goto _ | .tableswitch _ _ _ _ | .lookupswitch _ _ | .getfield _ | .putfield _ | .arraylength | .iaload | .laload | .aaload | .iastore | .lastore | .aastore | .new _ | .newarray _ | .anewarray _ | .invokevirtual _ | .invokespecial _ | .invokestatic _ => true
  | _ => false
set_option maxHeartbeats 8000000 in
theorem jm_stepA {d mi pc npc a0 b0 : Nat} {z0 : Int} {ins : Instr} {ls : jm_L} {st : List Value} {H : jm_H} {cf : jm_C} {E : jm_E} (C : jm_Cx p s m args meth c dC dI dA base b L xs q) (hF : jm_Fa q pc (ins, npc, a0, b0, z0)) (ho : jm_on q.2.2.2.2.2 = q.1.cls)
    (hs : jm_stp xs L E (ins, npc, a0, b0, z0) pc ls st H = some (.inl cf)) (G' : jm_G p l e R s m args below meth c Q dC dI dA base b q n0 s0 cf)
    (hX : jm_big ins = false) : jm_G p l e R s m args below meth c Q dC dI dA base b q n0 s0 (pc, ls, st, H) := by
  obtain ⟨hx, hb, hml, hown, hts, hXw, hK, hXs, hbb, hbs, hmn⟩ := C
  obtain ⟨hd, hn, hk, hsd⟩ := hF
  have hw : ∀ k, jm_need (ins, npc, a0, b0, z0) = some k → ∀ w ∈ jm_lw q.2.2.2.2.2 k, w.before args s = true := fun k h w hw => jm_word hts hXw (hk k h) hw
  rw [← ho] at hown
  cases ins
  case iconst n =>
    have hn : npc = pc + 1 := hn
    subst hn
    have hcf := jm_nx_inj hs
    subst hcf
    intro Hc locs arr cells slots hR hS hl h1 h2
    exact lv_iconst hx hb hd rfl (G' Hc locs arr cells slots hR hS hl h1 h2)
  case bipush n =>
    have hn : npc = pc + 2 := hn
    subst hn
    have hcf := jm_nx_inj hs
    subst hcf
    intro Hc locs arr cells slots hR hS hl h1 h2
    exact lv_bipush hx hb hd rfl (G' Hc locs arr cells slots hR hS hl h1 h2)
  case sipush n =>
    have hn : npc = pc + 3 := hn
    subst hn
    have hcf := jm_nx_inj hs
    subst hcf
    intro Hc locs arr cells slots hR hS hl h1 h2
    exact lv_sipush hx hb hd rfl (G' Hc locs arr cells slots hR hS hl h1 h2)
  case lconst n =>
    have hn : npc = pc + 1 := hn
    subst hn
    have hcf := jm_nx_inj hs
    subst hcf
    intro Hc locs arr cells slots hR hS hl h1 h2
    exact lv_lconst hx hb hd rfl (G' Hc locs arr cells slots hR hS hl h1 h2)
  case ldc i =>
    have hn : npc = pc + 2 := hn
    subst hn
    simp only [jm_stp] at hs
    have hsd' : (a0 == 0 || a0 == 1) = true := hsd
    simp only [Bool.or_eq_true, beq_iff_eq] at hsd'
    rcases hsd' with rfl | rfl
    · rw [if_neg (by decide)] at hs
      have hcf := jm_nx_inj hs
      subst hcf
      intro Hc locs arr cells slots hR hS hl h1 h2
      exact lv_ldc hx hb hown (hw _ rfl _ (List.mem_singleton.mpr rfl)) hd (G' Hc locs arr cells slots hR hS hl h1 h2)
    · rw [if_pos rfl] at hs
      have hcf := jm_nx_inj hs
      subst hcf
      have hlk := jm_lkok (hk _ rfl)
      simp only [jm_lok, if_true, Bool.and_eq_true, decide_eq_true_eq, beq_iff_eq] at hlk
      obtain ⟨hl1, hl2⟩ := hlk
      rw [hl1] at hown
      subst hl2
      intro Hc locs arr cells slots hR hS hl h1 h2
      exact va_ldcS hx hb hown hXs.2.1 hd (G' Hc locs arr cells slots hR hS hl h1 h2)
  case ldc_w i =>
    have hn : npc = pc + 3 := hn
    subst hn
    have hcf := jm_nx_inj hs
    subst hcf
    intro Hc locs arr cells slots hR hS hl h1 h2
    exact lv_ldcw hx hb hown (hw _ rfl _ (List.mem_singleton.mpr rfl)) hd (G' Hc locs arr cells slots hR hS hl h1 h2)
  case ldc2_w i =>
    have hn : npc = pc + 3 := hn
    subst hn
    have hcf := jm_nx_inj hs
    subst hcf
    intro Hc locs arr cells slots hR hS hl h1 h2
    exact lv_ldc2 hx hb hown (hw _ rfl _ (List.mem_singleton.mpr rfl)) hd (G' Hc locs arr cells slots hR hS hl h1 h2)
  case iload_n k =>
    have hn : npc = pc + 1 := hn
    subst hn
    simp only [jm_stp] at hs
    split at hs
    · rename_i hq
      have hcf := jm_nx_inj hs
      subst hcf
      intro Hc locs arr cells slots hR hS hl h1 h2
      exact lv_iload_n hx hb hd rfl (hl.2.2.2 _ _ hq) (G' Hc locs arr cells slots hR hS hl h1 h2)
    · cases hs
  case iload k =>
    have hn : npc = pc + 2 := hn
    subst hn
    simp only [jm_stp] at hs
    split at hs
    · rename_i hq
      have hcf := jm_nx_inj hs
      subst hcf
      intro Hc locs arr cells slots hR hS hl h1 h2
      exact lv_iload hx hb hd (hl.2.2.2 _ _ hq) (G' Hc locs arr cells slots hR hS hl h1 h2)
    · cases hs
  case lload_n k =>
    have hn : npc = pc + 1 := hn
    subst hn
    simp only [jm_stp] at hs
    split at hs
    · rename_i hq
      have hcf := jm_nx_inj hs
      subst hcf
      intro Hc locs arr cells slots hR hS hl h1 h2
      exact lv_lload_n hx hb hd rfl (hl.2.2.2 _ _ hq) (G' Hc locs arr cells slots hR hS hl h1 h2)
    · cases hs
  case lload k =>
    have hn : npc = pc + 2 := hn
    subst hn
    simp only [jm_stp] at hs
    split at hs
    · rename_i hq
      have hcf := jm_nx_inj hs
      subst hcf
      intro Hc locs arr cells slots hR hS hl h1 h2
      exact lv_lload hx hb hd (hl.2.2.2 _ _ hq) (G' Hc locs arr cells slots hR hS hl h1 h2)
    · cases hs
  case aload k =>
    have hn : npc = pc + 2 := hn
    subst hn
    simp only [jm_stp] at hs
    split at hs
    · rename_i hq
      have hcf := jm_nx_inj hs
      subst hcf
      intro Hc locs arr cells slots hR hS hl h1 h2
      exact lv_aload hx hb hd (hl.2.2.2 _ _ hq) (G' Hc locs arr cells slots hR hS hl h1 h2)
    · cases hs
  case aload_n k =>
    have hn : npc = pc + 1 := hn
    subst hn
    simp only [jm_stp] at hs
    split at hs
    · rename_i hq
      have hcf := jm_nx_inj hs
      subst hcf
      intro Hc locs arr cells slots hR hS hl h1 h2
      exact lv_aload_n hx hb hd rfl (hl.2.2.2 _ _ hq) (G' Hc locs arr cells slots hR hS hl h1 h2)
    · rename_i hq
      have hcf := jm_nx_inj hs
      subst hcf
      intro Hc locs arr cells slots hR hS hl h1 h2
      exact lv_aload_n hx hb hd rfl (hl.2.2.2 _ _ hq) (G' Hc locs arr cells slots hR hS hl h1 h2)
    · cases hs
  case istore_n k =>
    have hn : npc = pc + 1 := hn
    subst hn
    simp only [jm_stp] at hs
    split at hs
    · unfold jm_sto at hs
      split at hs
      · rename_i hq
        have hcf := jm_nx_inj hs
        subst hcf
        intro Hc locs arr cells slots hR hS hl h1 h2
        have hlen := (jm_st1_len hq).2
        refine lv_istore_n hx hb hd rfl hl.has (by have hll : ls.length = q.2.2.1 := hl.2.1; omega) rfl (fun arr1 h3 => ?_)
        exact G' Hc locs arr1 cells slots hR hS (hl.st1 hq h3) h1 h2
      · cases hs
    · cases hs
  case istore k =>
    have hn : npc = pc + 2 := hn
    subst hn
    simp only [jm_stp] at hs
    split at hs
    · unfold jm_sto at hs
      split at hs
      · rename_i hq
        have hcf := jm_nx_inj hs
        subst hcf
        intro Hc locs arr cells slots hR hS hl h1 h2
        have hlen := (jm_st1_len hq).2
        refine lv_istore hx hb hd hl.has (by have hll : ls.length = q.2.2.1 := hl.2.1; omega) rfl (fun arr1 h3 => ?_)
        exact G' Hc locs arr1 cells slots hR hS (hl.st1 hq h3) h1 h2
      · cases hs
    · cases hs
  case lstore k =>
    have hn : npc = pc + 2 := hn
    subst hn
    simp only [jm_stp] at hs
    split at hs
    · unfold jm_sto at hs
      split at hs
      · rename_i hq
        have hcf := jm_nx_inj hs
        subst hcf
        intro Hc locs arr cells slots hR hS hl h1 h2
        have hlen := (jm_st2_len hq).2
        refine lv_lstore hx hb hd hl.has (by have hll : ls.length = q.2.2.1 := hl.2.1; omega) rfl (fun arr1 h3 => ?_)
        exact G' Hc locs arr1 cells slots hR hS (hl.st2 hq h3) h1 h2
      · cases hs
    · cases hs
  case astore_n k =>
    have hn : npc = pc + 1 := hn
    subst hn
    simp only [jm_stp] at hs
    split at hs
    · unfold jm_sto at hs
      split at hs
      · rename_i hq
        have hcf := jm_nx_inj hs
        subst hcf
        intro Hc locs arr cells slots hR hS hl h1 h2
        have hlen := (jm_st1_len hq).2
        refine lv_astore_n hx hb hd rfl hl.has (by have hll : ls.length = q.2.2.1 := hl.2.1; omega) rfl (fun arr1 h3 => ?_)
        exact G' Hc locs arr1 cells slots hR hS (hl.st1 hq h3) h1 h2
      · cases hs
    · cases hs
  case astore k =>
    have hn : npc = pc + 2 := hn
    subst hn
    simp only [jm_stp] at hs
    split at hs
    · unfold jm_sto at hs
      split at hs
      · rename_i hq
        have hcf := jm_nx_inj hs
        subst hcf
        intro Hc locs arr cells slots hR hS hl h1 h2
        have hlen := (jm_st1_len hq).2
        refine lv_astore hx hb hd hl.has (by have hll : ls.length = q.2.2.1 := hl.2.1; omega) rfl (fun arr1 h3 => ?_)
        exact G' Hc locs arr1 cells slots hR hS (hl.st1 hq h3) h1 h2
      · cases hs
    · cases hs
  case iadd =>
    have hn : npc = pc + 1 := hn
    subst hn
    simp only [jm_stp] at hs
    split at hs
    · have hcf := jm_nx_inj hs
      subst hcf
      intro Hc locs arr cells slots hR hS hl h1 h2
      exact lv_iadd hx hb hd (G' Hc locs arr cells slots hR hS hl h1 h2)
    · cases hs
  case isub =>
    have hn : npc = pc + 1 := hn
    subst hn
    simp only [jm_stp] at hs
    split at hs
    · have hcf := jm_nx_inj hs
      subst hcf
      intro Hc locs arr cells slots hR hS hl h1 h2
      exact lv_isub hx hb hd (G' Hc locs arr cells slots hR hS hl h1 h2)
    · cases hs
  case imul =>
    have hn : npc = pc + 1 := hn
    subst hn
    simp only [jm_stp] at hs
    split at hs
    · have hcf := jm_nx_inj hs
      subst hcf
      intro Hc locs arr cells slots hR hS hl h1 h2
      exact lv_imul hx hb hd (G' Hc locs arr cells slots hR hS hl h1 h2)
    · cases hs
  case iand =>
    have hn : npc = pc + 1 := hn
    subst hn
    simp only [jm_stp] at hs
    split at hs
    · have hcf := jm_nx_inj hs
      subst hcf
      intro Hc locs arr cells slots hR hS hl h1 h2
      exact lv_iand hx hb hd (G' Hc locs arr cells slots hR hS hl h1 h2)
    · cases hs
  case ior =>
    have hn : npc = pc + 1 := hn
    subst hn
    simp only [jm_stp] at hs
    split at hs
    · have hcf := jm_nx_inj hs
      subst hcf
      intro Hc locs arr cells slots hR hS hl h1 h2
      exact lv_ior hx hb hd (G' Hc locs arr cells slots hR hS hl h1 h2)
    · cases hs
  case ixor =>
    have hn : npc = pc + 1 := hn
    subst hn
    simp only [jm_stp] at hs
    split at hs
    · have hcf := jm_nx_inj hs
      subst hcf
      intro Hc locs arr cells slots hR hS hl h1 h2
      exact lv_ixor hx hb hd (G' Hc locs arr cells slots hR hS hl h1 h2)
    · cases hs
  case ishl =>
    have hn : npc = pc + 1 := hn
    subst hn
    simp only [jm_stp] at hs
    split at hs
    · have hcf := jm_nx_inj hs
      subst hcf
      intro Hc locs arr cells slots hR hS hl h1 h2
      exact lv_ishl hx hb hd (G' Hc locs arr cells slots hR hS hl h1 h2)
    · cases hs
  case ishr =>
    have hn : npc = pc + 1 := hn
    subst hn
    simp only [jm_stp] at hs
    split at hs
    · have hcf := jm_nx_inj hs
      subst hcf
      intro Hc locs arr cells slots hR hS hl h1 h2
      exact lv_ishr hx hb hd (G' Hc locs arr cells slots hR hS hl h1 h2)
    · cases hs
  case iushr =>
    have hn : npc = pc + 1 := hn
    subst hn
    simp only [jm_stp] at hs
    split at hs
    · have hcf := jm_nx_inj hs
      subst hcf
      intro Hc locs arr cells slots hR hS hl h1 h2
      exact lv_iushr hx hb hd rfl (G' Hc locs arr cells slots hR hS hl h1 h2)
    · cases hs
  case ineg =>
    have hn : npc = pc + 1 := hn
    subst hn
    simp only [jm_stp] at hs
    split at hs
    · have hcf := jm_nx_inj hs
      subst hcf
      intro Hc locs arr cells slots hR hS hl h1 h2
      exact lv_ineg hx hb hd (G' Hc locs arr cells slots hR hS hl h1 h2)
    · cases hs
  case ladd =>
    have hn : npc = pc + 1 := hn
    subst hn
    simp only [jm_stp] at hs
    split at hs
    · have hcf := jm_nx_inj hs
      subst hcf
      intro Hc locs arr cells slots hR hS hl h1 h2
      exact lv_ladd hx hb hd (G' Hc locs arr cells slots hR hS hl h1 h2)
    · cases hs
  case land =>
    have hn : npc = pc + 1 := hn
    subst hn
    simp only [jm_stp] at hs
    split at hs
    · have hcf := jm_nx_inj hs
      subst hcf
      intro Hc locs arr cells slots hR hS hl h1 h2
      exact lv_land hx hb hd (G' Hc locs arr cells slots hR hS hl h1 h2)
    · cases hs
  case lor =>
    have hn : npc = pc + 1 := hn
    subst hn
    simp only [jm_stp] at hs
    split at hs
    · have hcf := jm_nx_inj hs
      subst hcf
      intro Hc locs arr cells slots hR hS hl h1 h2
      exact lv_lor hx hb hd (G' Hc locs arr cells slots hR hS hl h1 h2)
    · cases hs
  case lshl =>
    have hn : npc = pc + 1 := hn
    subst hn
    simp only [jm_stp] at hs
    split at hs
    · have hcf := jm_nx_inj hs
      subst hcf
      intro Hc locs arr cells slots hR hS hl h1 h2
      exact lv_lshl hx hb hd rfl (G' Hc locs arr cells slots hR hS hl h1 h2)
    · cases hs
  case lcmp =>
    have hn : npc = pc + 1 := hn
    subst hn
    simp only [jm_stp] at hs
    split at hs
    · have hcf := jm_nx_inj hs
      subst hcf
      intro Hc locs arr cells slots hR hS hl h1 h2
      exact W.lcmp hx hb hd (G' Hc locs arr cells slots hR hS hl h1 h2)
    · cases hs
  case i2l =>
    have hn : npc = pc + 1 := hn
    subst hn
    simp only [jm_stp] at hs
    split at hs
    · have hcf := jm_nx_inj hs
      subst hcf
      intro Hc locs arr cells slots hR hS hl h1 h2
      exact lv_i2l hx hb hd rfl (G' Hc locs arr cells slots hR hS hl h1 h2)
    · cases hs
  case l2i =>
    have hn : npc = pc + 1 := hn
    subst hn
    simp only [jm_stp] at hs
    split at hs
    · have hcf := jm_nx_inj hs
      subst hcf
      intro Hc locs arr cells slots hR hS hl h1 h2
      exact lv_l2i hx hb hd rfl (G' Hc locs arr cells slots hR hS hl h1 h2)
    · cases hs
  case i2b =>
    have hn : npc = pc + 1 := hn
    subst hn
    simp only [jm_stp] at hs
    split at hs
    · have hcf := jm_nx_inj hs
      subst hcf
      intro Hc locs arr cells slots hR hS hl h1 h2
      exact lv_i2b hx hb hd rfl (G' Hc locs arr cells slots hR hS hl h1 h2)
    · cases hs
  case i2s =>
    have hn : npc = pc + 1 := hn
    subst hn
    simp only [jm_stp] at hs
    split at hs
    · have hcf := jm_nx_inj hs
      subst hcf
      intro Hc locs arr cells slots hR hS hl h1 h2
      exact lv_i2s hx hb hd rfl (G' Hc locs arr cells slots hR hS hl h1 h2)
    · cases hs
  case dup =>
    have hn : npc = pc + 1 := hn
    subst hn
    simp only [jm_stp] at hs
    split at hs
    · have hcf := jm_nx_inj hs
      subst hcf
      intro Hc locs arr cells slots hR hS hl h1 h2
      exact lv_dup hx hb hd rfl (G' Hc locs arr cells slots hR hS hl h1 h2)
    · have hcf := jm_nx_inj hs
      subst hcf
      intro Hc locs arr cells slots hR hS hl h1 h2
      exact lv_dup hx hb hd rfl (G' Hc locs arr cells slots hR hS hl h1 h2)
    · cases hs
  case pop =>
    have hn : npc = pc + 1 := hn
    subst hn
    simp only [jm_stp] at hs
    split at hs
    · have hcf := jm_nx_inj hs
      subst hcf
      intro Hc locs arr cells slots hR hS hl h1 h2
      exact lv_pop hx hb hd rfl (G' Hc locs arr cells slots hR hS hl h1 h2)
    · have hcf := jm_nx_inj hs
      subst hcf
      intro Hc locs arr cells slots hR hS hl h1 h2
      exact lv_pop hx hb hd rfl (G' Hc locs arr cells slots hR hS hl h1 h2)
    · cases hs
  case dup_x1 =>
    have hn : npc = pc + 1 := hn
    subst hn
    simp only [jm_stp] at hs
    split at hs
    · have hcf := jm_nx_inj hs
      subst hcf
      intro Hc locs arr cells slots hR hS hl h1 h2
      exact lv_dup_x1 hx hb hd rfl rfl (G' Hc locs arr cells slots hR hS hl h1 h2)
    · have hcf := jm_nx_inj hs
      subst hcf
      intro Hc locs arr cells slots hR hS hl h1 h2
      exact lv_dup_x1 hx hb hd rfl rfl (G' Hc locs arr cells slots hR hS hl h1 h2)
    · cases hs
  case dup2 =>
    have hn : npc = pc + 1 := hn
    subst hn
    simp only [jm_stp] at hs
    split at hs
    · have hcf := jm_nx_inj hs
      subst hcf
      intro Hc locs arr cells slots hR hS hl h1 h2
      exact lv_dup2_11 hx hb hd rfl rfl (G' Hc locs arr cells slots hR hS hl h1 h2)
    · cases hs
  case idiv =>
    have hn : npc = pc + 1 := hn
    subst hn
    simp only [jm_stp] at hs
    split at hs
    · split at hs
      · cases hs
      · rename_i hne
        have hcf := jm_nx_inj hs
        subst hcf
        intro Hc locs arr cells slots hR hS hl h1 h2
        exact lv_idiv hx hb hd hne (G' Hc locs arr cells slots hR hS hl h1 h2)
    · cases hs
  case irem =>
    have hn : npc = pc + 1 := hn
    subst hn
    simp only [jm_stp] at hs
    split at hs
    · split at hs
      · cases hs
      · rename_i hne
        have hcf := jm_nx_inj hs
        subst hcf
        intro Hc locs arr cells slots hR hS hl h1 h2
        exact lv_irem hx hb hd hne (G' Hc locs arr cells slots hR hS hl h1 h2)
    · cases hs
  all_goals first | exact Bool.noConfusion (show true = false from hX) | (simp [jm_stp] at hs; done) | (simp only [jm_stp] at hs; (repeat' split at hs) <;> cases hs)
end JMX
