/-! THE CLAIM OUT OF ONE WALK OF THE LAW'S BODY. Your part is whole_start (and what it stands on); all else here is the same for every law, but numbers. -/
def R_law : String := "LeapingPassagesLaw"
def lw_P (b : Addr) (xs : List Int32) (args : Array Value) (s : State) : Prop := args = #[.ref b] ∧ s.IntsAt b xs ∧ xs.length ≤ 260 ∧ (Jvm.Cond.and given_1 narrow_1).before args s = true
def lw_Q (_ : Array Value) (s : State) (o : Outcome) (t : State) : Prop := o = .returned (some (.int 1)) ∧ Framed s o t [] 600000 7302250
def lw_Z (below : List Frame) (a : Array Value) (s : State) : State → Prop := fun t => ∃ o, t.status = .running ∧ Ended t below o ∧ lw_Q a s o t
/-- the law's own end, with 1 on the stack, nothing written that was there before, its room as the claim has it -/
theorem lw_ret {p : Program} {l : Launch} {e : Env} {s : State} {m : MethodId} {below : List Frame} {meth : Method} {c : Code} {b : Nat} (hx : p.tables.exec = Jvm.exec) (hb : c.code = code) (hr : meth.sig.returnType = ret) (hlocks : meth.locks = false) {pc : Nat} {H : Heap} {ls : Array Slot} (hdg : decode code pc = .ok (.ireturn, 1)) : W p l e room_1 s m #[Value.ref b] below meth c H [] 600000 7302250 (lw_Z below #[Value.ref b] s) (F0 m pc ls [.int 1]) := by
  intro T hT X
  obtain ⟨fs, hret, hrun, hended, hW, hframe⟩ := X.leave (v := some (.int 1)) (hlocks := hlocks) (fun h => by rw [hr] at h; cases h)
  have hmeth' : T.vm.method? m = some meth := X.method'
  refine ⟨T.setFrames fs, ?_, .returned (some (.int 1)), hrun, hended, rfl, ⟨_, rfl⟩, hW, hframe⟩
  jvm_step X.here [X.here.top, hx, hb, hdg, hmeth', hr, ret, narrow_b1]
  (try refine ⟨rfl, ?_⟩); (try refine ⟨rfl, ?_⟩)
  first | (intro acts; rw [hret _ acts rfl rfl rfl]) | rw [hret _ _ rfl rfl rfl]
  exact Steps.refl _
/-- what holds at the law's entry: the machine, the code, the tables' words (any of lw_tbl by 'hts w (by decide +kernel)'), the script of L ints xs at the cell b, what the Statement gives of the start (any of its parts by flat_of_before) -/
def lw_At (p : Program) (s : State) (m : MethodId) (meth : Method) (c : Code) (b L : Nat) (xs : Nat → Int32) : Prop :=
  p.tables.exec = Jvm.exec ∧ c.code = code ∧ meth.sig.returnType = ret ∧ c.maxLocals = 9 ∧ s.vm.findClass R_law = some m.cls ∧ (∀ w ∈ lw_tbl, w.before #[Value.ref b] s = true) ∧ va_X b L xs s s.heap ∧ b < s.heap.size ∧ meth.locks = false ∧ (Jvm.Cond.and given_1 narrow_1).before #[Value.ref b] s = true

/-! From the law's entry: the small machine's run of the law gives the machine's. -/
theorem jm_arr_of {args : Array Value} {s : State} {ty : FieldType} (h : (Cond.arrayClass ty).before args s = true) : ∃ cA, ArrOfT s cA ty ∧ s.vm.findClass ("[" ++ ty.toString) = some cA := by
  obtain ⟨c, k, comp, h1, h2, h3⟩ := Cond.arrayClass_spec h
  exact ⟨c, fun n z => ⟨fun k h => (by cases h), k, h2, comp, h3⟩, h1⟩
theorem jm_arr_ov {args : Array Value} {s : State} {C : String} (h : (Cond.arrayOver (.object C)).before args s = true) : ∃ cA, ArrOfT s cA (.object C) ∧ va_RA s cA (.object C) := by
  obtain ⟨comp, c, k, h1, -, h3, h4, h5⟩ := Cond.arrayOver_spec h
  exact ⟨c, fun n z => ⟨fun k h => (by cases h), k, h3, comp, h4⟩, k, comp, h3, h4, h1, h5⟩
theorem jm_arr_oa {args : Array Value} {s : State} {ty : FieldType} (h : (Cond.arrayOver (.array ty)).before args s = true) : ∃ cA, ArrOfT s cA (.array ty) ∧ s.vm.findClass ("[" ++ (FieldType.array ty).toString) = some cA := by
  obtain ⟨comp, c, k, h1, -, h3, h4, h5⟩ := arrayOver_specB h
  exact ⟨c, fun n z => ⟨fun k h => (by cases h), k, h3, comp, h4⟩, h5⟩
theorem jm_ins {ci : Nat} (h : ci < 10) : Cond.instantiable (jm_R ci) (jm_N ci) ∈ lw_tbl := by
  rcases (show ci = 0 ∨ ci = 1 ∨ ci = 2 ∨ ci = 3 ∨ ci = 4 ∨ ci = 5 ∨ ci = 6 ∨ ci = 7 ∨ ci = 8 ∨ ci = 9 by omega) with h | h | h | h | h | h | h | h | h | h <;> subst h <;> decide +kernel
def jm_H0 : jm_H := ([], fun _ _ => 0, fun _ _ => 0)
theorem jm_start {p : Program} {e : Env} {s : State} {m : MethodId} {below : List Frame} {meth : Method} {c : Code} (l : Launch) {b L : Nat} {xs : Nat → Int32} (C0 : lw_At p s m meth c b L xs) {d n : Nat} {H' : jm_H} (hd : d ≤ 9)
    (hrun : jm_run xs L (jm_ex xs L d) 173 n (0, [some (.retAddr 0), none, none, none, none, none, none, none, none], [], jm_H0) = some (some (.int 1), H')) (hc : H'.1.length ≤ 600000) (hsl : jm_sl H' ≤ 7302250) :
    W p l e room_1 s m #[Value.ref b] below meth c s.heap [] 0 0 (lw_Z below #[Value.ref b] s) (entryFrame m ([Value.ref b] : List Value).toArray 9) := by
  obtain ⟨hx, hb, hr, hml, hown, hts, hX, hbl, hlocks, hgv⟩ := C0
  have hcls : ∀ ci, ∃ (cC : ClassId) (iS : Nat → Nat), ci < 10 → u_Kn s (jm_R ci) (jm_T ci) (jm_N ci) cC iS := fun ci => by
    by_cases h : ci < 10
    · obtain ⟨cC, iS, hk⟩ := u_known (C := jm_R ci) (T := jm_T ci) (N := jm_N ci) (n := jm_N ci) hts (fun w hw => (List.mem_filter.mp (jm_lay h w hw)).1) (hts _ (jm_ins h))
      exact ⟨cC, iS, fun _ => hk⟩
    · exact ⟨0, fun _ => 0, fun h' => absurd h' h⟩
  obtain ⟨dC, dI, hK1⟩ : ∃ (dC : Nat → ClassId) (dI : Nat → Nat → Nat), ∀ ci, ci < 10 → u_Kn s (jm_R ci) (jm_T ci) (jm_N ci) (dC ci) (dI ci) :=
    ⟨fun ci => Classical.choose (hcls ci), fun ci => Classical.choose (Classical.choose_spec (hcls ci)), fun ci h => Classical.choose_spec (Classical.choose_spec (hcls ci)) h⟩
  obtain ⟨a0, p0, q0⟩ := jm_arr_of (hts (.arrayClass .int) (List.mem_filter.mp jm_acint).1)
  obtain ⟨a1, p1, q1⟩ := jm_arr_of (hts (.arrayClass .long) (List.mem_filter.mp jm_aclong).1)
  obtain ⟨a2, p2, q2⟩ := jm_arr_ov (hts (.arrayOver (.object "LeapingPassages$Shelf")) (by decide +kernel))
  obtain ⟨a3, p3, q3⟩ := jm_arr_ov (hts (.arrayOver (.object "LeapingPassages$Ask")) (by decide +kernel))
  obtain ⟨a4, p4, q4⟩ := jm_arr_ov (hts (.arrayOver (.object "LeapingPassages$Spans")) (by decide +kernel))
  have hK : va_K (dC, dI) jm_cl (jm_tys (fun k => match k with | 0 => a0 | 1 => a1 | 2 => a2 | 3 => a3 | _ => a4)) s := by
    refine ⟨fun ci q hq => ?_, fun k q hq => ?_⟩
    · have h : ci < 10 := (List.getElem?_eq_some_iff.mp hq).1
      rw [jm_clg h] at hq
      cases hq
      exact hK1 ci h
    · have h : k < 5 := (List.getElem?_eq_some_iff.mp hq).1
      rcases (show k = 0 ∨ k = 1 ∨ k = 2 ∨ k = 3 ∨ k = 4 by omega) with h | h | h | h | h <;> subst h <;> cases hq
      · exact ⟨p0, q0⟩
      · exact ⟨p1, q1⟩
      · exact ⟨p2, q2⟩
      · exact ⟨p3, q3⟩
      · exact ⟨p4, q4⟩
  have hs := flat_of_before _ hgv
  have hAA : ∀ a : Nat, a < s.heap.size → ¬ jm_A s.heap.size a := fun a h h2 => absurd h (Nat.not_lt.mpr h2)
  obtain ⟨kS, hSt⟩ : ∃ kS : Nat, jm_St s.heap.size kS s s.heap := by
    obtain ⟨adK, adV, hv, he⟩ := vk_Sof (args := #[Value.ref b]) (s := s) (N := 1) (tm := fun _ => .string "LeapingPassagesLaw" 53) (len := [7]) (byt := [jm_bt]) (A := jm_A s.heap.size)
      (fun i hi => by obtain rfl : i = 0 := by omega
                      decide)
      (fun i hi => hs _ (by decide +kernel)) (fun i hi => hs _ (by decide +kernel)) (fun i hi => hs _ (by decide +kernel))
      (fun i hi => by obtain rfl : i = 0 := by omega
                      exact hs _ (by decide +kernel))
      (fun i hi j hj => by
        obtain rfl : i = 0 := by omega
        have hj7 : j < 7 := hj
        rcases (show j = 0 ∨ j = 1 ∨ j = 2 ∨ j = 3 ∨ j = 4 ∨ j = 5 ∨ j = 6 by omega) with h | h | h | h | h | h | h <;> subst h <;> exact hs _ (by decide +kernel))
      (fun i j hi hj hne => absurd (show i = j by omega) hne) hAA
    have h0 : ∀ i : Nat, i < 1 → i = 0 := fun i h => by omega
    refine ⟨adK 0, vk_R.of (hts (.stringRef "LeapingPassagesLaw" 53 "|&<@!#-") (by decide +kernel)) (he 0 (by omega)), ⟨adV 0, ⟨fun i hi => ?_, fun i j hi hj _ => by omega⟩⟩, va_Zof (hts _ (by decide +kernel)) (hts _ (by decide +kernel)) (va_eqi (hs _ (by decide +kernel))) hAA, va_Zqof (hts _ (by decide +kernel)) (hts _ (by decide +kernel)) (hs _ (by decide +kernel)) hAA⟩
    obtain rfl := h0 i hi
    exact hv.1 0 (by omega)
  have hXw : jm_X s := by
    intro w hw hxw
    have h := hts w hw
    unfold jm_xw at hxw
    split at hxw
    · exact va_Nw.of rfl h
    · exact h
    · exact h
    · cases hxw
  have hm : jm_MT[173]? = some (x, code, maxLocals, ret, 1, 10) := by rfl
  have C : jm_Cx p s m #[Value.ref b] meth c dC dI (fun k => match k with | 0 => a0 | 1 => a1 | 2 => a2 | 3 => a3 | _ => a4) s.heap.size (fun n => if n = 0 then b else kS) L xs (x, code, maxLocals, ret, 1, 10) := ⟨hx, hb, hml, hown, fun w hw => hts w (List.mem_filter.mp hw).1, hXw, hK, ⟨hX, hSt⟩, hbl, Nat.le_refl _, fun h => absurd h (by decide)⟩
  have hG := jm_runs (l := l) (e := e) (below := below) (R := room_1) (Q := lw_Z below #[Value.ref b] s) (n0 := 0) (s0 := 0) C hm hbl (jm_sn d) (jm_ex_grow d) ⟨by show d + 1 ≤ 11; omega, by show 41 * (d + 1) ≤ 418; omega⟩ rfl ⟨by show H'.1.length ≤ 0 + 600000; omega, by show jm_sl H' ≤ 0 + 7302250; omega⟩ ?_ n _ hrun
  · have hl := jm_lr_ent (base := s.heap.size) (b := fun n => if n = 0 then b else kS) (vs := [.retAddr 0]) (n := 9) (by decide)
    have := hG s.heap [] _ 0 0 ⟨fun k q h => by simp [jm_ws, jm_H0] at h, rfl⟩ va_S.rf hl rfl rfl
    rw [lg_entry_eq]
    exact this
  · intro e0 pc ls st H hF hs Hc locs arr cells slots hR1 hS hl h1 h2
    obtain ⟨hH, hk⟩ := jm_retH hs
    obtain ⟨hdd, -, -, hsd⟩ := hF
    have h1' : cells + 0 = H.1.length := h1
    have h2' : slots + 0 = jm_sl H := h2
    have hH' : H' = H := hH
    subst hH'
    refine W.widen (k := 600000) (n := 7302250) (by omega) (by omega) ?_
    refine va_forget hS.2.2 ?_
    obtain ⟨ins, npc, a9, b9, z9⟩ := e0
    rcases hk with ⟨v, rfl, rfl, hv, -⟩ | ⟨v, rfl, rfl, hv⟩ | ⟨v, rfl, rfl, hv⟩ | ⟨rfl, rfl, hv⟩
    · cases hv
      exact lw_ret hx hb hr hlocks hdd
    · cases hv
    · cases hv
    · cases hv
