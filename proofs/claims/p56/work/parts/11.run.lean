/-! A whole run, a whole call. -/
def jm_Gr (E : jm_E) : Prop := ∀ (a : Nat) (as : List Value) (H1 : jm_H) (o : jm_O), E a as H1 = some o → H1.1.length ≤ o.2.1.length ∧ jm_sl H1 ≤ jm_sl o.2
section JMZ
variable {p : Program} {l : Launch} {e : Env} {R : Room} {s : State} {m : MethodId} {args : Array Value} {below : List Frame} {meth : Method} {c : Code} {Q : State → Prop}
variable {dC : Nat → ClassId} {dI : Nat → Nat → Nat} {dA : Nat → ClassId} {base : Nat} {b : Nat → Nat} {L : Nat} {xs : Nat → Int32} {q : jm_M} {n0 s0 : Nat}
theorem jm_set_grow {H : jm_H} {a : Nat} {f : Nat → Option Nat} : H.1.length ≤ (H.1.set a (jm_kd H a, jm_ln H a, f)).length ∧ jm_sl H ≤ jm_sl (H.1.set a (jm_kd H a, jm_ln H a, f), H.2.1, H.2.2) := ⟨Nat.le_of_eq (List.length_set ..).symm, Nat.le_of_eq jm_sl_set.symm⟩
theorem jm_new_grow {H : jm_H} {x : jm_S} : H.1.length ≤ (jm_new H x).1.length ∧ jm_sl H ≤ jm_sl (jm_new H x) := ⟨by rw [jm_new_len]; omega, by rw [jm_new_sl]; omega⟩
theorem jm_newg_grow {H : jm_H} {n k : Nat} : H.1.length ≤ (jm_newg H n k).1.length ∧ jm_sl H ≤ jm_sl (jm_newg H n k) := ⟨by rw [jm_newg_len]; omega, by rw [jm_newg_sl]; omega⟩
set_option maxHeartbeats 8000000 in
theorem jm_grow {E : jm_E} (hE : jm_Gr E) {e0 : jm_I} {pc : Nat} {ls : jm_L} {st : List Value} {H : jm_H} {cf : jm_C} (hs : jm_stp xs L E e0 pc ls st H = some (.inl cf)) : H.1.length ≤ cf.2.2.2.1.length ∧ jm_sl H ≤ jm_sl cf.2.2.2 := by
  obtain ⟨ins, npc, a0, b0, z0⟩ := e0
  have key : ∀ {pc' : Nat} {ls' : jm_L} {st' : List Value}, jm_nx pc' ls' st' H = some (.inl cf) → H.1.length ≤ cf.2.2.2.1.length ∧ jm_sl H ≤ jm_sl cf.2.2.2 := fun h => by
    have hcf := jm_nx_inj h
    subst hcf
    exact ⟨Nat.le_refl _, Nat.le_refl _⟩
  have keyC : ∀ {pc' : Nat} {r : List Value} {a : Nat} {as : List Value}, jm_call pc' ls r (E a as H) = some (.inl cf) → H.1.length ≤ cf.2.2.2.1.length ∧ jm_sl H ≤ jm_sl cf.2.2.2 := fun h => by
    obtain ⟨x, h1, h2⟩ := jm_call_inj h
    subst h2
    exact hE _ _ _ _ h1
  cases ins <;> simp only [jm_stp, jm_sto, jm_ifb, jm_jmp] at hs <;> (repeat' split at hs) <;> first
    | exact key hs
    | exact keyC hs
    | (cases hs; done)
    | (have hcf := jm_nx_inj hs
       subst hcf
       first
         | exact ⟨Nat.le_refl _, Nat.le_refl _⟩
         | exact jm_set_grow
         | exact jm_new_grow
         | exact jm_newg_grow)
set_option maxHeartbeats 8000000 in
theorem jm_retH {E : jm_E} {e0 : jm_I} {pc : Nat} {ls : jm_L} {st : List Value} {H : jm_H} {r : jm_O} (hs : jm_stp xs L E e0 pc ls st H = some (.inr r)) : r.2 = H ∧ ((∃ v, e0.1 = .ireturn ∧ st = [.int v] ∧ r.1 = some (.int v) ∧ (e0.2.2.1 = 1 → v = 0 ∨ v = 1)) ∨ (∃ v, e0.1 = .lreturn ∧ st = [.long v] ∧ r.1 = some (.long v)) ∨ (∃ v, e0.1 = .areturn ∧ st = [.ref v] ∧ r.1 = some (.ref v)) ∨ (e0.1 = .return_ ∧ st = [] ∧ r.1 = none)) := by
  obtain ⟨ins, npc, a0, b0, z0⟩ := e0
  cases ins <;> simp only [jm_stp, jm_sto, jm_ifb, jm_jmp, jm_call, jm_nx] at hs <;> (repeat' split at hs) <;> first
    | (cases hs; done)
    | (cases hs; exact ⟨rfl, Or.inl ⟨_, rfl, rfl, rfl, by assumption⟩⟩)
    | (cases hs; exact ⟨rfl, Or.inr (Or.inl ⟨_, rfl, rfl, rfl⟩)⟩)
    | (cases hs; exact ⟨rfl, Or.inr (Or.inr (Or.inl ⟨_, rfl, rfl, rfl⟩))⟩)
    | (cases hs; exact ⟨rfl, Or.inr (Or.inr (Or.inr ⟨rfl, rfl, rfl⟩))⟩)
theorem jm_run_grow {E : jm_E} (hE : jm_Gr E) {mi : Nat} : ∀ (n : Nat) (cf : jm_C) (r : jm_O), jm_run xs L E mi n cf = some r → cf.2.2.2.1.length ≤ r.2.1.length ∧ jm_sl cf.2.2.2 ≤ jm_sl r.2
  | 0, _, _, h => by simp [jm_run] at h
  | n + 1, (pc, ls, st, H), r, h => by
    simp only [jm_run] at h
    split at h
    · split at h
      · rename_i cf' hs
        have h1 := jm_grow hE hs
        have h2 := jm_run_grow hE n cf' r h
        exact ⟨Nat.le_trans h1.1 h2.1, Nat.le_trans h1.2 h2.2⟩
      · rename_i r' hs
        cases h
        rw [(jm_retH hs).1]
        exact ⟨Nat.le_refl _, Nat.le_refl _⟩
      · cases h
    · cases h
theorem jm_cha_inv {as : List Value} {H : jm_H} {o : jm_O} (h : jm_cha as H = some o) : ∃ i : Int32, as = [.retAddr 1, .int i] ∧ ¬ i < 0 ∧ i < 7 ∧ o = (some (.int (jm_ch i.toNatClampNeg)), H) := by
  unfold jm_cha at h
  split at h
  · rename_i i
    split at h
    · rename_i hc
      cases h
      obtain ⟨h1, h2⟩ := hc
      rw [Int32.le_iff_toInt_le] at h1
      have e0 : (0 : Int32).toInt = 0 := by decide
      have e7 : (7 : Int32).toInt = 7 := by decide
      rw [Int32.toNatClampNeg] at h2
      refine ⟨i, rfl, ?_, ?_, rfl⟩
      · rw [Int32.lt_iff_toInt_lt]
        omega
      · rw [Int32.lt_iff_toInt_lt]
        omega
    · cases h
  · cases h
theorem jm_ex_grow : ∀ d : Nat, jm_Gr (jm_ex xs L d)
  | 0 => fun _ _ _ _ h => by simp [jm_ex] at h
  | d + 1 => fun a as H1 o h => by
    simp only [jm_ex] at h
    split at h
    · split at h
      · obtain ⟨i, -, -, -, rfl⟩ := jm_cha_inv h
        exact ⟨Nat.le_refl _, Nat.le_refl _⟩
      · cases h
    · split at h
      · split at h
        · obtain ⟨n, h⟩ := jm_lim_some h
          exact jm_run_grow (jm_ex_grow d) n _ _ h
        · cases h
      · cases h
set_option maxHeartbeats 8000000 in
/-- a step, whatever the instruction -/
theorem jm_step {d pc : Nat} {e0 : jm_I} {ls : jm_L} {st : List Value} {H : jm_H} {cf : jm_C} {E : jm_E} (C : jm_Cx p s m args meth c dC dI dA base b L xs q) (hF : jm_Fa q pc e0) (ho : jm_on q.2.2.2.2.2 = q.1.cls) (hbbE : b 0 < base) (hE : jm_Sn l dC dI dA base b L xs d E) (hRf : d + 1 ≤ R.frames ∧ 41 * (d + 1) ≤ R.locals) (hn0 : s.heap.size = base + n0)
    (hroom : cf.2.2.2.1.length ≤ n0 + R.cells ∧ jm_sl cf.2.2.2 ≤ s0 + R.slots) (hs : jm_stp xs L E e0 pc ls st H = some (.inl cf)) (G' : jm_G p l e R s m args below meth c Q dC dI dA base b q n0 s0 cf) : jm_G p l e R s m args below meth c Q dC dI dA base b q n0 s0 (pc, ls, st, H) := by
  obtain ⟨ins, npc, a0, b0, z0⟩ := e0
  cases hX : jm_big ins with
  | false => exact jm_stepA (d := 0) (mi := 0) C hF ho hs G' hX
  | true =>
    cases ins
    case iinc k n => exact jm_s_iinc C hF ho hs G'
    case ifCond cc off => exact jm_s_ifc C hF ho hs G'
    case if_icmp cc off => exact jm_s_icmp C hF ho hs G'
    case goto off => exact jm_s_goto C hF ho hs G'
    case tableswitch dd lo hi offs => exact jm_s_tsw C hF ho hs G'
    case lookupswitch dd ps => exact jm_s_lsw C hF ho hs G'
    case getfield ix => exact jm_s_getf C hF ho hs G'
    case putfield ix => exact jm_s_putf C hF ho hn0 hs G'
    case arraylength => exact jm_s_alen C hF ho hs G'
    case iaload => exact jm_s_iald C hF ho hs G'
    case laload => exact jm_s_lald C hF ho hs G'
    case aaload => exact jm_s_aald C hF ho hs G'
    case iastore => exact jm_s_iast C hF ho hn0 hs G'
    case lastore => exact jm_s_last C hF ho hn0 hs G'
    case aastore => exact jm_s_aast C hF ho hn0 hs G'
    case new ix => exact jm_s_newo C hF ho hn0 hroom hs G'
    case newarray tt => exact jm_s_newa C hF ho hn0 hroom hs G'
    case anewarray ix => exact jm_s_anewa C hF ho hn0 hroom hs G'
    case invokevirtual ix => exact jm_s_invv C hF ho hbbE hE hRf hroom hs G'
    case invokespecial ix => exact jm_s_invsp C hF ho hbbE hE hRf hroom hs G'
    case invokestatic ix => exact jm_s_invst C hF ho hbbE hE hRf hroom hn0 hs G'
    all_goals exact Bool.noConfusion (show false = true from hX)
theorem jm_ownn {mi : Nat} (hm : jm_MT[mi]? = some q) : jm_on q.2.2.2.2.2 = q.1.cls := by
  unfold jm_on
  rw [(jm_mfact hm).2.2.2]
/-- a run that ends: from its first configuration -/
theorem jm_runs {d mi : Nat} {E : jm_E} {r : jm_O} (C : jm_Cx p s m args meth c dC dI dA base b L xs q) (hm : jm_MT[mi]? = some q) (hbbE : b 0 < base) (hE : jm_Sn l dC dI dA base b L xs d E) (hG : jm_Gr E) (hRf : d + 1 ≤ R.frames ∧ 41 * (d + 1) ≤ R.locals) (hn0 : s.heap.size = base + n0)
    (hroom : r.2.1.length ≤ n0 + R.cells ∧ jm_sl r.2 ≤ s0 + R.slots)
    (hend : ∀ (e0 : jm_I) (pc : Nat) (ls : jm_L) (st : List Value) (H : jm_H), jm_Fa q pc e0 → jm_stp xs L E e0 pc ls st H = some (.inr r) → jm_G p l e R s m args below meth c Q dC dI dA base b q n0 s0 (pc, ls, st, H)) :
    ∀ (n : Nat) (cf : jm_C), jm_run xs L E mi n cf = some r → jm_G p l e R s m args below meth c Q dC dI dA base b q n0 s0 cf
  | 0, _, h => by simp [jm_run] at h
  | n + 1, (pc, ls, st, H), h => by
    simp only [jm_run] at h
    split at h
    · rename_i e0 ht
      have hF := jm_fact hm ht
      split at h
      · rename_i cf' hs
        have h2 := jm_run_grow hG n cf' r h
        exact jm_step C hF (jm_ownn hm) hbbE hE hRf hn0 ⟨Nat.le_trans h2.1 hroom.1, Nat.le_trans h2.2 hroom.2⟩ hs (jm_runs C hm hbbE hE hG hRf hn0 hroom hend n cf' h)
      · rename_i r' hs
        cases h
        exact hend e0 pc ls st H hF hs
      · cases h
    · cases h
theorem jm_ent_get : ∀ (vs : List Value) (i : Nat) (k : Nat) (w : Value), (vs.flatMap fun v => if v.category = 2 then [some v, none] else [some v])[k]? = some (some w) → (i + k, jm_cv base b w) ∈ lv_args i (vs.map (jm_cv base b))
  | [], _, _, _, h => by simp at h
  | v :: vs, i, k, w, h => by
    have hc : (jm_cv base b v).category = v.category := by cases v <;> rfl
    rw [List.flatMap_cons] at h
    show _ ∈ (i, jm_cv base b v) :: lv_args (if (jm_cv base b v).category = 2 then i + 2 else i + 1) (vs.map (jm_cv base b))
    rw [hc]
    by_cases h2 : v.category = 2
    · rw [if_pos h2] at h ⊢
      match k, h with
      | 0, h =>
        simp at h
        subst h
        exact List.mem_cons_self
      | 1, h => simp at h
      | k + 2, h =>
        have := jm_ent_get vs (i + 2) k w (by simpa using h)
        rw [show i + (k + 2) = i + 2 + k by omega]
        exact List.mem_cons_of_mem _ this
    · rw [if_neg h2] at h ⊢
      match k, h with
      | 0, h =>
        simp at h
        subst h
        exact List.mem_cons_self
      | k + 1, h =>
        have := jm_ent_get vs (i + 1) k w (by simpa using h)
        rw [show i + (k + 1) = i + 1 + k by omega]
        exact List.mem_cons_of_mem _ this
theorem jm_ent_flen : ∀ vs : List Value, (vs.flatMap fun v => if v.category = 2 then [some v, none] else [some v]).length = (lg_sl vs).length
  | [] => rfl
  | v :: vs => by
    rw [List.flatMap_cons, List.length_append, jm_ent_flen vs]
    show _ = (lg_sl (v :: vs)).length
    unfold lg_sl
    rw [List.flatMap_cons, List.length_append]
    congr 1
    split <;> rfl
theorem jm_sl_cv (vs : List Value) : (lg_sl (vs.map (jm_cv base b))).length = (lg_sl vs).length := by
  induction vs with
  | nil => rfl
  | cons v vs ih =>
    unfold lg_sl at ih ⊢
    rw [List.map_cons, List.flatMap_cons, List.flatMap_cons, List.length_append, List.length_append, ih]
    congr 1
    have hc : (jm_cv base b v).category = v.category := by cases v <;> rfl
    rw [hc]
    split <;> rfl
theorem jm_lr_ent {vs : List Value} {n : Nat} (h : (lg_sl vs).length ≤ n) : jm_lr base b (jm_ent vs n) ((lg_sl (vs.map (jm_cv base b)) ++ List.replicate (n - (lg_sl (vs.map (jm_cv base b))).length) Slot.unset).toArray) n := by
  have hh := lv_entry (vs.map (jm_cv base b)) (n := n) (by rw [jm_sl_cv]; exact h)
  refine ⟨hh.1, ?_, hh.2.1, fun k w hk => ?_⟩
  · unfold jm_ent
    rw [List.length_append, jm_ent_flen, List.length_replicate]
    omega
  · unfold jm_ent at hk
    by_cases hl : k < (vs.flatMap fun v => if v.category = 2 then [some v, none] else [some v]).length
    · rw [List.getElem?_append_left hl] at hk
      have := jm_ent_get (base := base) (b := b) vs 0 k w hk
      rw [Nat.zero_add] at this
      exact hh.2.2 _ this
    · rw [List.getElem?_append_right (by omega), List.getElem?_replicate] at hk
      split at hk <;> cases hk
/-- a call of the small machine is a call of the machine -/
theorem jm_sn : ∀ d : Nat, jm_Sn l dC dI dA base b L xs d (jm_ex xs L d)
  | 0 => fun a r as H1 o _ _ h => by simp [jm_ex] at h
  | d + 1 => fun a r as H1 o hm hpl h => by
    have hgr := jm_ex_grow (d + 1) a as H1 o h
    refine ⟨hgr.1, hgr.2, fun hbb => ?_⟩
    by_cases h172 : a = 172
    · subst h172
      simp only [jm_ex, if_true] at h
      split at h
      · rename_i hd4
        obtain ⟨i, rfl, hi0, hi7, rfl⟩ := jm_cha_inv h
        have er : (js_y_cha, prog_15_method_56_code, 2, some FieldType.char, 1, 16) = r := Option.some.inj ((show jm_MT[172]? = some (js_y_cha, prog_15_method_56_code, 2, some FieldType.char, 1, 16) from rfl).symm.trans hm)
        subst er
        have hz : H1.1.length - H1.1.length = 0 ∧ jm_sl H1 - jm_sl H1 = 0 := ⟨Nat.sub_self _, Nat.sub_self _⟩
        show Met l js_y_cha js_w_cha (jm_rm (d + 1) H1 H1) (jm_Pc dC dI dA base b L xs H1 [.retAddr 1, .int i]) (jm_Qc dC dI dA base b (some (.int (jm_ch i.toNatClampNeg))) H1) (H1.1.length - H1.1.length) (jm_sl H1 - jm_sl H1) (jm_A base)
        have hM := js_m_cha l (dC := dC) (dI := dI) (dA := dA) (base := base) (b := b) (L := L) (xs := xs) (H := H1) hi0 hi7 (rm := { frames := d + 1, cells := 0, slots := 0, locals := 41 * (d + 1) }) ⟨by show 3 ≤ d + 1; omega, by show 64 ≤ 41 * (d + 1); omega⟩
        unfold jm_rm
        rw [hz.1, hz.2]
        exact hM
      · cases h
    simp only [jm_ex, if_neg h172, hm] at h
    split at h
    · rename_i hlen
      obtain ⟨n, hrun⟩ := jm_lim_some h
      refine Met.ofW (cc := r.2.1) (maxL := r.2.2.1) (ret := r.2.2.2.1) hpl rfl ?_
      intro p e s m args below meth c s₁ B hml hv
      obtain ⟨rfl, hR, hK, hX, hXw⟩ := hv
      have hx := B.exec
      have hb := B.bytes
      have hr := B.returns
      have hts := atoms_spec (ws := jm_wd r) B.pre
      have hown : s.vm.findClass r.1.cls = some m.cls := findClass_of_methodNamed B.named
      have hlocks := B.notSynchronized
      have hin : meth.name = r.1.name := (name_of_methodNamed B.named B.method).1
      have hsz : s.heap.size = base + H1.1.length := hR.2
      have C : jm_Cx p s m (as.map (jm_cv base b)).toArray meth c dC dI dA base b L xs r := ⟨hx, hb, hml, hown, fun w hw => hts w (List.mem_cons_of_mem _ hw), hXw, hK, hX, hbb, by omega, fun h => hin.trans h⟩
      have hG := jm_runs (l := l) (e := e) (below := below) (R := (headSpec (jm_wd r) (jm_rm (d + 1) H1 o.2)).room) (Q := MQ below (jm_Qc dC dI dA base b o.1 o.2) (as.map (jm_cv base b)).toArray s (o.2.1.length - H1.1.length) (jm_sl o.2 - jm_sl H1) (jm_A base)) (n0 := H1.1.length) (s0 := jm_sl H1) C hm hbb (jm_sn d) (jm_ex_grow d) ⟨Nat.le_refl _, Nat.le_refl _⟩ hsz ⟨by show o.2.1.length ≤ H1.1.length + (o.2.1.length - H1.1.length); omega, by show jm_sl o.2 ≤ jm_sl H1 + (jm_sl o.2 - jm_sl H1); omega⟩ ?_ n _ hrun
      · have hl := jm_lr_ent (base := base) (b := b) hlen
        have := hG s.heap [] _ 0 0 hR va_S.rf hl (by show 0 + H1.1.length = H1.1.length; omega) (by show 0 + jm_sl H1 = jm_sl H1; omega)
        rw [lg_entry_eq]
        exact this
      · intro e0 pc ls st H hF hs Hc locs arr cells slots hR1 hS hl h1 h2
        obtain ⟨hH, hk⟩ := jm_retH hs
        obtain ⟨hd, -, -, hsd⟩ := hF
        have h1' : cells + H1.1.length = H.1.length := h1
        have h2' : slots + jm_sl H1 = jm_sl H := h2
        have ec : o.2.1.length - H1.1.length = cells := by rw [hH]; omega
        have es : jm_sl o.2 - jm_sl H1 = slots := by rw [hH]; omega
        rw [ec, es]
        have hq : ∀ t : State, t.heap = Hc → jm_Qc dC dI dA base b o.1 o.2 (as.map (jm_cv base b)).toArray s (.returned (o.1.map (jm_cv base b))) t := fun t ht => ⟨rfl, by rw [ht, hH]; exact hR1, hS.F ht⟩
        obtain ⟨ins, npc, a0, b0, z0⟩ := e0
        obtain ⟨o1, oH⟩ := o
        rcases hk with ⟨v, rfl, rfl, hv, hbz⟩ | ⟨v, rfl, rfl, hv⟩ | ⟨v, rfl, rfl, hv⟩ | ⟨rfl, rfl, hv⟩
        · dsimp only at hv
          subst hv
          have hsd' : ((a0 == 0 && decide (r.2.2.2.1 = some .int)) || (a0 == 1 && decide (r.2.2.2.1 = some .boolean))) = true := hsd
          simp only [Bool.or_eq_true, Bool.and_eq_true, beq_iff_eq, decide_eq_true_eq] at hsd'
          rcases hsd' with ⟨ha, hrt⟩ | ⟨ha, hrt⟩
          · exact W.iret hx hb (hr.trans hrt) (fun t ht _ => hq t ht) hS.2.2 hd hlocks
          · have hn : narrow .boolean (.int v) = .int v := by rcases hbz ha with h | h <;> subst h <;> rfl
            exact W.zret hx hb (hr.trans hrt) hn (fun t ht _ => hq t ht) hS.2.2 hd hlocks
        · dsimp only at hv
          subst hv
          have hsd' : r.2.2.2.1 = some .long := of_decide_eq_true hsd
          exact W.lret hx hb (hr.trans hsd') (fun t ht _ => hq t ht) hS.2.2 hd hlocks
        · dsimp only at hv
          subst hv
          have hsd' : (match r.2.2.2.1 with | some (.object _) => true | _ => false) = true := hsd
          split at hsd'
          · rename_i nm hrt
            exact W.aret hx hb (hr.trans hrt) (Or.inl ⟨nm, rfl⟩) (Or.inr ⟨_, rfl⟩) (fun t ht _ => hq t ht) hS.2.2 hd hlocks
          · cases hsd'
        · dsimp only at hv
          subst hv
          have hsd' : r.2.2.2.1 = none := of_decide_eq_true hsd
          exact W.vret hx hb (hr.trans hsd') (fun t ht _ => hq t ht) hS.2.2 hd hlocks
    · cases h
end JMZ
