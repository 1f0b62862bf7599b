section JMY
variable {p : Program} {l : Launch} {e : Env} {R : Room} {s : State} {m : MethodId} {args : Array Value} {below : List Frame} {meth : Method} {c : Code} {Q : State → Prop}
variable {dC : Nat → ClassId} {dI : Nat → Nat → Nat} {dA : Nat → ClassId} {base : Nat} {b : Nat → Nat} {L : Nat} {xs : Nat → Int32} {q : jm_M} {n0 s0 : Nat}
variable {pc npc a0 b0 : Nat} {z0 : Int} {ls : jm_L} {st : List Value} {H : jm_H} {cf : jm_C} {E : jm_E}
/-- a method's start and end -/
def jm_Pc (dC : Nat → ClassId) (dI : Nat → Nat → Nat) (dA : Nat → ClassId) (base : Nat) (b : Nat → Nat) (L : Nat) (xs : Nat → Int32) (H : jm_H) (as : List Value) : Array Value → State → Prop :=
  va_Pc (as.map (jm_cv base b)) (fun U => jm_Rl dC dI dA base H U.heap ∧ va_K (dC, dI) jm_cl (jm_tys dA) U ∧ jm_Xb base b L xs U U.heap ∧ jm_X U)
def jm_Qc (dC : Nat → ClassId) (dI : Nat → Nat → Nat) (dA : Nat → ClassId) (base : Nat) (b : Nat → Nat) (v : Option Value) (H : jm_H) : Array Value → State → Outcome → State → Prop :=
  fun _ st oc t => oc = .returned (v.map (jm_cv base b)) ∧ jm_Rl dC dI dA base H t.heap ∧ va_F (jm_A base) st t
def jm_rm (d : Nat) (H H' : jm_H) : Room := { frames := d, cells := H'.1.length - H.1.length, slots := jm_sl H' - jm_sl H, locals := 41 * d }
/-- the calls of the small machine are the machine's -/
def jm_Sn (l : Launch) (dC : Nat → ClassId) (dI : Nat → Nat → Nat) (dA : Nat → ClassId) (base : Nat) (b : Nat → Nat) (L : Nat) (xs : Nat → Int32) (d : Nat) (E : jm_E) : Prop :=
  ∀ (a : Nat) (r : jm_M) (as : List Value) (H1 : jm_H) (o : jm_O), jm_MT[a]? = some r → plainName r.1.cls = true → E a as H1 = some o → H1.1.length ≤ o.2.1.length ∧ jm_sl H1 ≤ jm_sl o.2 ∧ (b 0 < base → Met l r.1 (jm_wd r) (jm_rm d H1 o.2) (jm_Pc dC dI dA base b L xs H1 as) (jm_Qc dC dI dA base b o.1 o.2) (o.2.1.length - H1.1.length) (jm_sl o.2 - jm_sl H1) (jm_A base))
theorem jm_Pc_blind {as : List Value} : FrameBlind (jm_Pc dC dI dA base b L xs H as) := fun a U g mk hq => by
  obtain ⟨h0, h1, h2, h3, h4⟩ := hq
  exact ⟨h0, h1, va_K.moved (u := U) (U := U.calling g mk a) (Vm.Alike.refl U.vm) h2, jm_Xb.same (s := U) (U := U.calling g mk a) rfl h3, jm_X.same (s := U) (U := U.calling g mk a) rfl h4⟩
theorem jm_cont {Hc : Heap} {locs : List Loc} {cells slots mc ms : Nat} {arr : Array Slot} {st0 rest : List Value} {v : Option Value} {H1 : jm_H} {a : Array Value} (hr : va_Run p l e R s m args below meth c Hc locs cells slots mc ms (F0 m pc arr st0) rest (jm_Qc dC dI dA base b v H1 a) (jm_A base)) (hS : va_S (jm_A base) s.heap Hc locs)
    (kk : ∀ (Hc1 : Heap) (locs1 : List Loc), jm_Rl dC dI dA base H1 Hc1 → va_S (jm_A base) s.heap Hc1 locs1 → W p l e R s m args below meth c Hc1 locs1 (cells + mc) (slots + ms) Q (F0 m (pc + 3) arr ((v.map (jm_cv base b)).toList ++ rest))) : W p l e R s m args below meth c Hc locs cells slots Q (F0 m pc arr st0) := by
  intro T hT X
  obtain ⟨v', st₀, t, T', L9, h0, X', hL, e1, e2, ⟨hv, hRl, hz, hk⟩, st⟩ := hr T hT X
  cases hv
  rw [h0] at hz hk
  obtain ⟨t2, a1, b1⟩ := kk T'.heap (locs ++ L9) (by rw [e1]; exact hRl) ⟨Nat.le_trans hS.1 (by rw [e1]; exact hz), fun q h1 h2 => by rw [e1, hk q (Nat.lt_of_lt_of_le h1 hS.1) h2]; exact hS.2.1 q h1 h2, fun q hq => by
      rcases List.mem_append.mp hq with h | h
      · exact hS.2.2 q h
      · exact hL q h⟩ T' rfl X'
  exact ⟨t2, st t2 a1, b1⟩
theorem jm_call_inj {r : List Value} {o : Option jm_O} (h : jm_call npc ls r o = some (.inl cf)) : ∃ x : jm_O, o = some x ∧ cf = (npc, ls, x.1.toList ++ r, x.2) := by
  unfold jm_call at h
  split at h
  · rename_i x
    exact ⟨x, rfl, jm_nx_inj h⟩
  · cases h
theorem jm_code_tw {o : Nat} {k : jm_K} (h : k ∈ jm_LK o) {y : MethodName} {bb : ByteArray} {n : Nat} {t : Option FieldType} (hw : Cond.code y bb n t ∈ jm_lw o k) : Cond.code y bb n t ∈ jm_TW := by
  obtain ⟨h1, h2⟩ := jm_lk_tw h _ hw
  refine List.mem_filter.mpr ⟨h1, ?_⟩
  simpa [jm_xw] using h2
theorem jm_wd_good {r : jm_M} (h : Cond.code r.1 r.2.1 r.2.2.1 r.2.2.2.1 ∈ jm_TW) : GoodIn jm_TW (jm_wd r) := fun w hw => by
  rcases List.mem_cons.mp hw with rfl | hw
  · exact jm_good _ h
  · exact jm_good _ hw
theorem jm_stk {st r : List Value} {n o : Nat} (h : st.drop n = .ref o :: r) : st.map (jm_cv base b) = ((st.take n).reverse.map (jm_cv base b)).reverse ++ .ref (base + o) :: r.map (jm_cv base b) := by
  rw [← List.map_reverse, List.reverse_reverse]
  conv => lhs; rw [← List.take_append_drop n st, h, List.map_append]
  rfl
theorem jm_stk1 {st r : List Value} {n : Nat} (h : st.drop n = .retAddr 1 :: r) : st.map (jm_cv base b) = ((st.take n).reverse.map (jm_cv base b)).reverse ++ .ref (b 1) :: r.map (jm_cv base b) := by
  rw [← List.map_reverse, List.reverse_reverse]
  conv => lhs; rw [← List.take_append_drop n st, h, List.map_append]
  rfl
theorem jm_stkS {st : List Value} {n : Nat} : st.map (jm_cv base b) = ((st.take n).reverse.map (jm_cv base b)).reverse ++ (st.drop n).map (jm_cv base b) := by
  rw [← List.map_reverse, List.reverse_reverse, ← List.map_append, List.take_append_drop]
theorem jm_catc (st : List Value) : ((st.map (jm_cv base b)).map fun v => v.category).sum = jm_cat st := by
  unfold jm_cat
  rw [List.map_map]
  congr 1
  apply List.map_congr_left
  intro v _
  cases v <;> rfl
theorem jm_npe {a : Nat} {r : jm_M} (h : jm_MT[a]? = some r) : jm_np a = r.2.2.2.2.1 := by
  unfold jm_np
  rw [h]
theorem jm_ols (x : Option Value) (r : List Value) : (x.map (jm_cv base b)).toList ++ r.map (jm_cv base b) = (x.toList ++ r).map (jm_cv base b) := by cases x <;> rfl
set_option maxHeartbeats 4000000 in
theorem jm_s_invv {ix d : Nat} (C : jm_Cx p s m args meth c dC dI dA base b L xs q) (hF : jm_Fa q pc (.invokevirtual ix, npc, a0, b0, z0)) (ho : jm_on q.2.2.2.2.2 = q.1.cls) (hbbE : b 0 < base) (hE : jm_Sn l dC dI dA base b L xs d E) (hRf : d + 1 ≤ R.frames ∧ 41 * (d + 1) ≤ R.locals) (hroom : cf.2.2.2.1.length ≤ n0 + R.cells ∧ jm_sl cf.2.2.2 ≤ s0 + R.slots)
    (hs : jm_stp xs L E (.invokevirtual ix, npc, a0, b0, z0) pc ls st H = some (.inl cf)) (G' : jm_G p l e R s m args below meth c Q dC dI dA base b q n0 s0 cf) : jm_G p l e R s m args below meth c Q dC dI dA base b q n0 s0 (pc, ls, st, H) := by
  obtain ⟨hx, hb, hml, hown, hts, hXw, hK, hXs, hbb, hbs, hmn⟩ := C
  obtain ⟨hd, hn, hk, hsd⟩ := hF
  have hw : ∀ k9 : jm_K, jm_need (.invokevirtual ix, npc, a0, b0, z0) = some k9 → ∀ w ∈ jm_lw q.2.2.2.2.2 k9, w.before args s = true := fun k9 h w hw => jm_word hts hXw (hk k9 h) hw
  rw [← ho] at hown
  simp only [jm_stp] at hs
  have hn : npc = pc + 3 := hn
  subst hn
  have hb0 : (b0 == 1 || b0 == 15) = true := hsd
  simp only [Bool.or_eq_true, beq_iff_eq] at hb0
  rcases hb0 with hb0 | hb0
  · subst hb0
    have hkm := hk _ rfl
    have hlk := jm_lkok hkm
    simp only [jm_lok, Bool.and_eq_true, decide_eq_true_eq] at hlk
    obtain ⟨⟨⟨hz0, hz1⟩, ha⟩, hyy⟩ := hlk
    split at hyy
    · rename_i y hy
      simp only [Bool.and_eq_true, decide_eq_true_eq] at hyy
      obtain ⟨hcn, hpl⟩ := hyy
      have hlw : jm_lw q.2.2.2.2.2 (ix, 1, a0, 0, z0) = [.methodLink (jm_on q.2.2.2.2.2) ix y.1, .instanceMethod y.1, .selects y.1.cls y.1 y.1, .initialized y.1.cls, .code y.1 y.2.1 y.2.2.1 y.2.2.2.1] := by
        unfold jm_lw
        simp only [hy]
      have hww : ∀ w ∈ ([.methodLink (jm_on q.2.2.2.2.2) ix y.1, .instanceMethod y.1, .selects y.1.cls y.1 y.1, .initialized y.1.cls, .code y.1 y.2.1 y.2.2.1 y.2.2.2.1] : List Cond), w.before args s = true := fun w h => hw _ rfl w (by rw [hlw]; exact h)
      have hcd : Cond.code y.1 y.2.1 y.2.2.1 y.2.2.2.1 ∈ jm_TW := jm_code_tw hkm (by rw [hlw]; simp)
      split at hs
      · rename_i o r hst
        split at hs
        · rename_i hc
          obtain ⟨hc1, hc2, hc3, -⟩ := hc
          have hci : ∃ ci : Nat, z0 = (ci : Int) ∧ ci < 10 := ⟨z0.toNat, (Int.toNat_of_nonneg hz0).symm, by have hz1' : z0 < 10 := hz1; have hz0' : 0 ≤ z0 := hz0; omega⟩
          obtain ⟨ci, rfl, hci⟩ := hci
          have hkd : jm_kd H o = 10 + ci := by have h9 : (jm_kd H o : Int) = 10 + (ci : Int) := hc3; omega
          obtain ⟨x, hx1, hcf⟩ := jm_call_inj hs
          subst hcf
          obtain ⟨hg1, hg2, hM⟩ := hE a0 y _ H x hy hpl hx1
          have hM := hM hbbE
          obtain ⟨hcls, hpar, hmx, -⟩ := jm_mfact hy
          intro Hc locs arr cells slots hR hS hl h1 h2
          have h1' : cells + n0 = H.1.length := h1
          have h2' : slots + s0 = jm_sl H := h2
          have hrm := hroom
          have hrm1 : x.2.1.length ≤ n0 + R.cells := hroom.1
          have hrm2 : jm_sl x.2 ≤ s0 + R.slots := hroom.2
          have hf : cells + (x.2.1.length - H.1.length) ≤ R.cells ∧ slots + (jm_sl x.2 - jm_sl H) ≤ R.slots := ⟨by omega, by omega⟩
          have hRR : (jm_rm d H x.2).frames + 1 ≤ R.frames ∧ 8 + (y.2.2.1 + 11) + (jm_rm d H x.2).locals ≤ R.locals := ⟨hRf.1, by have hmx9 : y.2.2.1 ≤ 22 := hmx; show 8 + (y.2.2.1 + 11) + 41 * d ≤ _; omega⟩
          have hPcU : ∀ U : State, U.heap = Hc → s.WarmedH U.vm → ∀ as : List Value, jm_Pc dC dI dA base b L xs H as (as.map (jm_cv base b)).toArray U := fun U hU hW as => ⟨rfl, by rw [hU]; exact hR, va_K.moved hW.alike hK, jm_Xb.next hW hXs hbb hbs hS hU, hXw.warm hW⟩
          have hend : ∀ (Hc1 : Heap) (locs1 : List Loc), jm_Rl dC dI dA base x.2 Hc1 → va_S (jm_A base) s.heap Hc1 locs1 → W p l e R s m args below meth c Hc1 locs1 (cells + (x.2.1.length - H.1.length)) (slots + (jm_sl x.2 - jm_sl H)) Q (F0 m (pc + 3) arr ((x.1.map (jm_cv base b)).toList ++ r.map (jm_cv base b))) := fun Hc1 locs1 hR1 hS1 => by
            rw [jm_ols]
            exact G' Hc1 locs1 arr _ _ hR1 hS1 hl (by show _ = x.2.1.length; omega) (by show _ = jm_sl x.2; omega)
          refine jm_cont (va_runV (C := y.1.cls) (b := base + o) (As := (st.take (jm_np a0)).reverse.map (jm_cv base b)) (rest := r.map (jm_cv base b)) ⟨hx, hb, hml, hown, hts⟩ hM ⟨callB_of (ws' := jm_TW) y.2.2.2.2.1 hts (jm_wd_good hcd) rfl rfl rfl (hww _ (by simp)) (hww _ (by simp)) ⟨hcls.1, hcls.2, hpar⟩ hRR, hww _ (by simp), hww _ (by simp)⟩ ⟨jm_Pc_blind, ?_, fun U hU hW => hPcU U hU hW (.ref o :: (st.take (jm_np a0)).reverse)⟩ rfl ?_ hl.1 (jm_stk hst) (lv_room (by rw [jm_catc]; exact hc2)) hd hf) hS hend
          · have hrv := va_recv hK hR.1 (jm_clg hci) (jm_obj hkd)
            rw [show (jm_R ci, jm_T ci, jm_N ci).1 = y.1.cls from hcn] at hrv
            exact hrv
          · rw [List.length_map, List.length_reverse, List.length_take, ← jm_npe hy]
            exact Nat.min_eq_left hc1
        · cases hs
      · split at hs
        · rename_i hc
          exact absurd hc.2.2 (by decide)
        · cases hs
      · cases hs
    · cases hyy
  · subst hb0
    have hkm := hk _ rfl
    have hlk := jm_lkok hkm
    simp only [jm_lok] at hlk
    have hyy := hlk
    split at hyy
    · rename_i y hy
      simp only [Bool.and_eq_true, decide_eq_true_eq] at hyy
      obtain ⟨hcn, hpl⟩ := hyy
      have hlw : jm_lw q.2.2.2.2.2 (ix, 15, a0, 0, z0) = [.methodLink (jm_on q.2.2.2.2.2) ix y.1, .instanceMethod y.1, .selects y.1.cls y.1 y.1, .initialized y.1.cls, .code y.1 y.2.1 y.2.2.1 y.2.2.2.1] := by
        unfold jm_lw
        simp only [hy]
      have hww : ∀ w ∈ ([.methodLink (jm_on q.2.2.2.2.2) ix y.1, .instanceMethod y.1, .selects y.1.cls y.1 y.1, .initialized y.1.cls, .code y.1 y.2.1 y.2.2.1 y.2.2.2.1] : List Cond), w.before args s = true := fun w h => hw _ rfl w (by rw [hlw]; exact h)
      have hcd : Cond.code y.1 y.2.1 y.2.2.1 y.2.2.2.1 ∈ jm_TW := jm_code_tw hkm (by rw [hlw]; simp)
      split at hs
      · split at hs
        · rename_i hc
          exact absurd rfl hc.2.2.2
        · cases hs
      · rename_i r hst
        split at hs
        · rename_i hc
          obtain ⟨hc1, hc2, -⟩ := hc
          obtain ⟨x, hx1, hcf⟩ := jm_call_inj hs
          subst hcf
          obtain ⟨hg1, hg2, hM⟩ := hE a0 y _ H x hy hpl hx1
          have hM := hM hbbE
          obtain ⟨hcls, hpar, hmx, -⟩ := jm_mfact hy
          intro Hc locs arr cells slots hR hS hl h1 h2
          have h1' : cells + n0 = H.1.length := h1
          have h2' : slots + s0 = jm_sl H := h2
          have hrm := hroom
          have hrm1 : x.2.1.length ≤ n0 + R.cells := hroom.1
          have hrm2 : jm_sl x.2 ≤ s0 + R.slots := hroom.2
          have hf : cells + (x.2.1.length - H.1.length) ≤ R.cells ∧ slots + (jm_sl x.2 - jm_sl H) ≤ R.slots := ⟨by omega, by omega⟩
          have hRR : (jm_rm d H x.2).frames + 1 ≤ R.frames ∧ 8 + (y.2.2.1 + 11) + (jm_rm d H x.2).locals ≤ R.locals := ⟨hRf.1, by have hmx9 : y.2.2.1 ≤ 22 := hmx; show 8 + (y.2.2.1 + 11) + 41 * d ≤ _; omega⟩
          have hPcU : ∀ U : State, U.heap = Hc → s.WarmedH U.vm → ∀ as : List Value, jm_Pc dC dI dA base b L xs H as (as.map (jm_cv base b)).toArray U := fun U hU hW as => ⟨rfl, by rw [hU]; exact hR, va_K.moved hW.alike hK, jm_Xb.next hW hXs hbb hbs hS hU, hXw.warm hW⟩
          have hend : ∀ (Hc1 : Heap) (locs1 : List Loc), jm_Rl dC dI dA base x.2 Hc1 → va_S (jm_A base) s.heap Hc1 locs1 → W p l e R s m args below meth c Hc1 locs1 (cells + (x.2.1.length - H.1.length)) (slots + (jm_sl x.2 - jm_sl H)) Q (F0 m (pc + 3) arr ((x.1.map (jm_cv base b)).toList ++ r.map (jm_cv base b))) := fun Hc1 locs1 hR1 hS1 => by
            rw [jm_ols]
            exact G' Hc1 locs1 arr _ _ hR1 hS1 hl (by show _ = x.2.1.length; omega) (by show _ = jm_sl x.2; omega)
          refine jm_cont (va_runV (C := y.1.cls) (b := b 1) (As := (st.take (jm_np a0)).reverse.map (jm_cv base b)) (rest := r.map (jm_cv base b)) ⟨hx, hb, hml, hown, hts⟩ hM ⟨callB_of (ws' := jm_TW) y.2.2.2.2.1 hts (jm_wd_good hcd) rfl rfl rfl (hww _ (by simp)) (hww _ (by simp)) ⟨hcls.1, hcls.2, hpar⟩ hRR, hww _ (by simp), hww _ (by simp)⟩ ⟨jm_Pc_blind, ?_, fun U hU hW => hPcU U hU hW (.retAddr 1 :: (st.take (jm_np a0)).reverse)⟩ rfl ?_ hl.1 (jm_stk1 hst) (lv_room (by rw [jm_catc]; exact hc2)) hd hf) hS hend
          · obtain ⟨-, ⟨adV, hv9⟩, -, -⟩ := hXs.2
            obtain ⟨⟨cell, g1, g2, g3, g4⟩, -⟩ := hv9.1 0 (by omega)
            rw [← hcn] at g3
            exact ⟨cell, (hS.2.1 _ (Array.getElem?_eq_some_iff.mp g1).1 g4).trans g1, g2, g3⟩
          · rw [List.length_map, List.length_reverse, List.length_take, ← jm_npe hy]
            exact Nat.min_eq_left hc1
        · cases hs
      · cases hs
    · cases hyy
set_option maxHeartbeats 4000000 in
theorem jm_s_invsp {ix d : Nat} (C : jm_Cx p s m args meth c dC dI dA base b L xs q) (hF : jm_Fa q pc (.invokespecial ix, npc, a0, b0, z0)) (ho : jm_on q.2.2.2.2.2 = q.1.cls) (hbbE : b 0 < base) (hE : jm_Sn l dC dI dA base b L xs d E) (hRf : d + 1 ≤ R.frames ∧ 41 * (d + 1) ≤ R.locals) (hroom : cf.2.2.2.1.length ≤ n0 + R.cells ∧ jm_sl cf.2.2.2 ≤ s0 + R.slots)
    (hs : jm_stp xs L E (.invokespecial ix, npc, a0, b0, z0) pc ls st H = some (.inl cf)) (G' : jm_G p l e R s m args below meth c Q dC dI dA base b q n0 s0 cf) : jm_G p l e R s m args below meth c Q dC dI dA base b q n0 s0 (pc, ls, st, H) := by
  obtain ⟨hx, hb, hml, hown, hts, hXw, hK, hXs, hbb, hbs, hmn⟩ := C
  obtain ⟨hd, hn, hk, hsd⟩ := hF
  have hw : ∀ k9 : jm_K, jm_need (.invokespecial ix, npc, a0, b0, z0) = some k9 → ∀ w ∈ jm_lw q.2.2.2.2.2 k9, w.before args s = true := fun k9 h w hw => jm_word hts hXw (hk k9 h) hw
  rw [← ho] at hown
  simp only [jm_stp] at hs
  have hn : npc = pc + 3 := hn
  subst hn
  have hkm := hk _ rfl
  have hlk := jm_lkok hkm
  have hb0 : ((b0 == 6 || b0 == 3) || b0 == 5) = true := hsd
  simp only [Bool.or_eq_true, beq_iff_eq] at hb0
  rcases hb0 with (hb0 | hb0) | hb0
  · subst hb0
    simp only [jm_lok] at hlk
    split at hlk
    · rename_i y hy
      simp only [Bool.and_eq_true, decide_eq_true_eq] at hlk
      obtain ⟨⟨⟨⟨g1, g2⟩, g3⟩, g4⟩, g5⟩ := hlk
      have hlw : jm_lw q.2.2.2.2.2 (ix, 6, a0, 0, 0) = [.methodLink (jm_on q.2.2.2.2.2) ix y.1, .instanceMethod y.1, .code y.1 y.2.1 y.2.2.1 y.2.2.2.1] := by
        unfold jm_lw
        simp only [hy]
      have hww : ∀ w ∈ ([.methodLink (jm_on q.2.2.2.2.2) ix y.1, .instanceMethod y.1, .code y.1 y.2.1 y.2.2.1 y.2.2.2.1] : List Cond), w.before args s = true := fun w h => hw _ rfl w (by rw [hlw]; exact h)
      obtain ⟨yy, ybytes, ymx, yret, ynp, yo⟩ := y
      dsimp only at g1 g2 g3 g4 g5 hww
      have g2' : ybytes = ⟨#[0xb1]⟩ := by
        obtain ⟨⟨dd⟩⟩ := ybytes
        dsimp only at g2
        subst g2
        rfl
      subst g1 g2' g3 g4
      have hnp : jm_np a0 = 0 := (jm_npe hy).trans g5
      rw [hnp] at hs
      split at hs
      · rename_i o r hst
        rw [List.drop_zero] at hst
        subst hst
        split at hs
        · rename_i hc
          rw [if_pos rfl] at hs
          have hcf := jm_nx_inj hs
          subst hcf
          intro Hc locs arr cells slots hR hS hl h1 h2
          exact W.objInit hx hb hown (hww _ (by simp)) (hww _ (by simp)) (hww _ (by simp)) rfl (hl.1.trans hml.symm) rfl hd (by omega) (by show 2 * 0 + _ + 12 ≤ _; rw [jm_catc]; omega) (G' Hc locs arr cells slots hR hS hl h1 h2)
        · cases hs
      · cases hs
    · cases hlk
  · subst hb0
    simp only [jm_lok, Bool.and_eq_true, decide_eq_true_eq] at hlk
    obtain ⟨ha, hyy⟩ := hlk
    split at hyy
    · rename_i y hy
      simp only [Bool.and_eq_true, decide_eq_true_eq] at hyy
      obtain ⟨⟨hin, hrn⟩, hpl⟩ := hyy
      have hlw : jm_lw q.2.2.2.2.2 (ix, 3, a0, 0, 0) = [.methodLink (jm_on q.2.2.2.2.2) ix y.1, .instanceMethod y.1, .initialized y.1.cls, .code y.1 y.2.1 y.2.2.1 y.2.2.2.1] := by
        unfold jm_lw
        simp only [hy]
      have hww : ∀ w ∈ ([.methodLink (jm_on q.2.2.2.2.2) ix y.1, .instanceMethod y.1, .initialized y.1.cls, .code y.1 y.2.1 y.2.2.1 y.2.2.2.1] : List Cond), w.before args s = true := fun w h => hw _ rfl w (by rw [hlw]; exact h)
      have hcd : Cond.code y.1 y.2.1 y.2.2.1 y.2.2.2.1 ∈ jm_TW := jm_code_tw hkm (by rw [hlw]; simp)
      split at hs
      · rename_i o r hst
        split at hs
        · rename_i hc
          obtain ⟨hc1, hc2⟩ := hc
          rw [if_neg (by decide)] at hs
          obtain ⟨⟨yc, yn, yd⟩, ybytes, ymx, yret, ynp, yo⟩ := y
          dsimp only at hin hrn
          subst hin hrn
          obtain ⟨x, hx1, hcf⟩ := jm_call_inj hs
          subst hcf
          obtain ⟨hg1, hg2, hM⟩ := hE a0 _ _ H x hy hpl hx1
          have hM := hM hbbE
          obtain ⟨hcls, hpar, hmx, -⟩ := jm_mfact hy
          intro Hc locs arr cells slots hR hS hl h1 h2
          have h1' : cells + n0 = H.1.length := h1
          have h2' : slots + s0 = jm_sl H := h2
          have hrm := hroom
          have hrm1 : x.2.1.length ≤ n0 + R.cells := hroom.1
          have hrm2 : jm_sl x.2 ≤ s0 + R.slots := hroom.2
          have hf : cells + (x.2.1.length - H.1.length) ≤ R.cells ∧ slots + (jm_sl x.2 - jm_sl H) ≤ R.slots := ⟨by omega, by omega⟩
          have hRR : (jm_rm d H x.2).frames + 1 ≤ R.frames ∧ 8 + (ymx + 11) + (jm_rm d H x.2).locals ≤ R.locals := ⟨hRf.1, by have hmx9 : ymx ≤ 22 := hmx; show 8 + (ymx + 11) + 41 * d ≤ _; omega⟩
          have hPcU : ∀ U : State, U.heap = Hc → s.WarmedH U.vm → ∀ as : List Value, jm_Pc dC dI dA base b L xs H as (as.map (jm_cv base b)).toArray U := fun U hU hW as => ⟨rfl, by rw [hU]; exact hR, va_K.moved hW.alike hK, jm_Xb.next hW hXs hbb hbs hS hU, hXw.warm hW⟩
          have hend : ∀ (Hc1 : Heap) (locs1 : List Loc), jm_Rl dC dI dA base x.2 Hc1 → va_S (jm_A base) s.heap Hc1 locs1 → W p l e R s m args below meth c Hc1 locs1 (cells + (x.2.1.length - H.1.length)) (slots + (jm_sl x.2 - jm_sl H)) Q (F0 m (pc + 3) arr ((x.1.map (jm_cv base b)).toList ++ r.map (jm_cv base b))) := fun Hc1 locs1 hR1 hS1 => by
            rw [jm_ols]
            exact G' Hc1 locs1 arr _ _ hR1 hS1 hl (by show _ = x.2.1.length; omega) (by show _ = jm_sl x.2; omega)
          refine jm_cont (va_runI (b := base + o) (As := (st.take (jm_np a0)).reverse.map (jm_cv base b)) (rest := r.map (jm_cv base b)) ⟨hx, hb, hml, hown, hts⟩ hM ⟨callB_of (ws' := jm_TW) ynp hts (jm_wd_good hcd) rfl rfl rfl (hww _ (by simp)) (hww _ (by simp)) ⟨hcls.1, hcls.2, hpar⟩ hRR, rfl, hww _ (by simp)⟩ ⟨jm_Pc_blind, fun U hU hW => hPcU U hU hW (.ref o :: (st.take (jm_np a0)).reverse)⟩ rfl ?_ hl.1 (jm_stk hst) (lv_room (by rw [jm_catc]; exact hc2)) hd hf) hS hend
          · rw [List.length_map, List.length_reverse, List.length_take]
            exact (Nat.min_eq_left hc1).trans (jm_npe hy)
        · cases hs
      · cases hs
    · cases hyy
  · subst hb0
    simp only [jm_lok, Bool.and_eq_true, decide_eq_true_eq] at hlk
    obtain ⟨ha, hyy⟩ := hlk
    split at hyy
    · rename_i y hy
      simp only [Bool.and_eq_true, decide_eq_true_eq] at hyy
      obtain ⟨⟨hin, hrn⟩, hpl⟩ := hyy
      have hlw : jm_lw q.2.2.2.2.2 (ix, 5, a0, 0, 0) = [.methodLinkNest (jm_on q.2.2.2.2.2) ix y.1 "LeapingPassages", .instanceMethod y.1, .initialized y.1.cls, .code y.1 y.2.1 y.2.2.1 y.2.2.2.1] := by
        unfold jm_lw
        simp only [hy]
      have hww : ∀ w ∈ ([.methodLinkNest (jm_on q.2.2.2.2.2) ix y.1 "LeapingPassages", .instanceMethod y.1, .initialized y.1.cls, .code y.1 y.2.1 y.2.2.1 y.2.2.2.1] : List Cond), w.before args s = true := fun w h => hw _ rfl w (by rw [hlw]; exact h)
      have hcd : Cond.code y.1 y.2.1 y.2.2.1 y.2.2.2.1 ∈ jm_TW := jm_code_tw hkm (by rw [hlw]; simp)
      split at hs
      · rename_i o r hst
        split at hs
        · rename_i hc
          obtain ⟨hc1, hc2⟩ := hc
          rw [if_neg (by decide)] at hs
          obtain ⟨⟨yc, yn, yd⟩, ybytes, ymx, yret, ynp, yo⟩ := y
          dsimp only at hin hrn
          subst hin hrn
          obtain ⟨x, hx1, hcf⟩ := jm_call_inj hs
          subst hcf
          obtain ⟨hg1, hg2, hM⟩ := hE a0 _ _ H x hy hpl hx1
          have hM := hM hbbE
          obtain ⟨hcls, hpar, hmx, -⟩ := jm_mfact hy
          intro Hc locs arr cells slots hR hS hl h1 h2
          have h1' : cells + n0 = H.1.length := h1
          have h2' : slots + s0 = jm_sl H := h2
          have hrm := hroom
          have hrm1 : x.2.1.length ≤ n0 + R.cells := hroom.1
          have hrm2 : jm_sl x.2 ≤ s0 + R.slots := hroom.2
          have hf : cells + (x.2.1.length - H.1.length) ≤ R.cells ∧ slots + (jm_sl x.2 - jm_sl H) ≤ R.slots := ⟨by omega, by omega⟩
          have hRR : (jm_rm d H x.2).frames + 1 ≤ R.frames ∧ 8 + (ymx + 11) + (jm_rm d H x.2).locals ≤ R.locals := ⟨hRf.1, by have hmx9 : ymx ≤ 22 := hmx; show 8 + (ymx + 11) + 41 * d ≤ _; omega⟩
          have hPcU : ∀ U : State, U.heap = Hc → s.WarmedH U.vm → ∀ as : List Value, jm_Pc dC dI dA base b L xs H as (as.map (jm_cv base b)).toArray U := fun U hU hW as => ⟨rfl, by rw [hU]; exact hR, va_K.moved hW.alike hK, jm_Xb.next hW hXs hbb hbs hS hU, hXw.warm hW⟩
          have hend : ∀ (Hc1 : Heap) (locs1 : List Loc), jm_Rl dC dI dA base x.2 Hc1 → va_S (jm_A base) s.heap Hc1 locs1 → W p l e R s m args below meth c Hc1 locs1 (cells + (x.2.1.length - H.1.length)) (slots + (jm_sl x.2 - jm_sl H)) Q (F0 m (pc + 3) arr ((x.1.map (jm_cv base b)).toList ++ r.map (jm_cv base b))) := fun Hc1 locs1 hR1 hS1 => by
            rw [jm_ols]
            exact G' Hc1 locs1 arr _ _ hR1 hS1 hl (by show _ = x.2.1.length; omega) (by show _ = jm_sl x.2; omega)
          refine jm_cont (va_runIN (b := base + o) (As := (st.take (jm_np a0)).reverse.map (jm_cv base b)) (rest := r.map (jm_cv base b)) ⟨hx, hb, hml, hown, hts⟩ hM ⟨va_cnB (ws' := jm_TW) ynp hts (jm_wd_good hcd) rfl rfl rfl (va_Nw.of rfl (hww _ List.mem_cons_self)) (hww _ (by simp)) ⟨hcls.1, hcls.2, hpar⟩ hRR, rfl, hww _ (by simp)⟩ ⟨jm_Pc_blind, fun U hU hW => hPcU U hU hW (.ref o :: (st.take (jm_np a0)).reverse)⟩ rfl ?_ hl.1 (jm_stk hst) (lv_room (by rw [jm_catc]; exact hc2)) hd hf) hS hend
          · rw [List.length_map, List.length_reverse, List.length_take]
            exact (Nat.min_eq_left hc1).trans (jm_npe hy)
        · cases hs
      · cases hs
    · cases hyy
set_option maxHeartbeats 4000000 in
theorem jm_s_invst {ix d : Nat} (C : jm_Cx p s m args meth c dC dI dA base b L xs q) (hF : jm_Fa q pc (.invokestatic ix, npc, a0, b0, z0)) (ho : jm_on q.2.2.2.2.2 = q.1.cls) (hbbE : b 0 < base) (hE : jm_Sn l dC dI dA base b L xs d E) (hRf : d + 1 ≤ R.frames ∧ 41 * (d + 1) ≤ R.locals) (hroom : cf.2.2.2.1.length ≤ n0 + R.cells ∧ jm_sl cf.2.2.2 ≤ s0 + R.slots) (hn0 : s.heap.size = base + n0)
    (hs : jm_stp xs L E (.invokestatic ix, npc, a0, b0, z0) pc ls st H = some (.inl cf)) (G' : jm_G p l e R s m args below meth c Q dC dI dA base b q n0 s0 cf) : jm_G p l e R s m args below meth c Q dC dI dA base b q n0 s0 (pc, ls, st, H) := by
  obtain ⟨hx, hb, hml, hown, hts, hXw, hK, hXs, hbb, hbs, hmn⟩ := C
  obtain ⟨hd, hn, hk, hsd⟩ := hF
  have hw : ∀ k9 : jm_K, jm_need (.invokestatic ix, npc, a0, b0, z0) = some k9 → ∀ w ∈ jm_lw q.2.2.2.2.2 k9, w.before args s = true := fun k9 h w hw => jm_word hts hXw (hk k9 h) hw
  rw [← ho] at hown
  simp only [jm_stp] at hs
  have hn : npc = pc + 3 := hn
  subst hn
  have hkm := hk _ rfl
  have hlk := jm_lkok hkm
  have hb0 : ((((b0 == 12 || b0 == 13) || b0 == 14) || b0 == 2) || b0 == 4) = true := hsd
  simp only [Bool.or_eq_true, beq_iff_eq] at hb0
  rcases hb0 with (((hb0 | hb0) | hb0) | hb0) | hb0
  · subst hb0
    have hlw : jm_lw q.2.2.2.2.2 (ix, 12, a0, 0, 0) = [.methodLink (jm_on q.2.2.2.2.2) ix arraycopyName, .native arraycopyName, .static arraycopyName, .initialized "java/lang/System"] := rfl
    have hww : ∀ w ∈ ([.methodLink (jm_on q.2.2.2.2.2) ix arraycopyName, .native arraycopyName, .static arraycopyName, .initialized "java/lang/System"] : List Cond), w.before args s = true := fun w h => hw _ rfl w (by rw [hlw]; exact h)
    rw [if_pos rfl] at hs
    split at hs
    · rename_i n dp dd sp ss r
      split at hs
      · rename_i hc
        obtain ⟨hc1, hc2, hc3, hc4, hc5, hc6⟩ := hc
        have hlw9 : (r.map (jm_cv base b) |>.map fun v => v.category).sum + (nativeFrameWords "java/lang/System" "arraycopy" 5 + 11) ≤ R.locals := by
          rw [jm_catc, show nativeFrameWords "java/lang/System" "arraycopy" 5 = 7 by decide +kernel]
          omega
        split at hs
        · rename_i hk1
          have hcf := jm_nx_inj hs
          subst hcf
          intro Hc locs arr cells slots hR hS hl h1 h2
          have hD := jm_ws_D (dA := dA) (base := base) (H := H) (jm_A base) (fun _ h => h)
          refine va_copyi hx hb (hml.trans hl.1.symm) hown (hww _ (by simp)) (hww _ (by simp)) (hww _ (by simp)) (hww _ (by simp)) hK hR.1 hD hS ss dd 0 0 (jm_iar hk1.1) (jm_iar hk1.2) rfl rfl rfl (jm_nneg hc2) (jm_nneg hc3) (jm_nneg hc4) hc5 hc6 (fun _ _ => rfl) (by omega) hlw9 hd (fun H1 locs1 hP1 hD1 hS1 => ?_)
          refine jm_size fun hz => ?_
          refine G' H1 locs1 arr cells slots (jm_Rl_set hR rfl (fun j hj => jm_at_congr rfl (jm_row_ne hj) rfl) ?_ hP1 (jm_kd_lt (H := H) (a := dd) (by rw [hk1.2]; decide)) hn0 h1 hz) hS1 hl h1 h2
          unfold jm_at
          show (base + dd, jm_cell dA base (jm_kd H dd) (jm_ln H dd) (jm_rf H dd) (jm_row H.2.1 dd _ dd) (H.2.2 dd)) = _
          rw [jm_row_eq]
          unfold jm_cell
          rw [hk1.2, if_pos rfl]
        · split at hs
          · rename_i hk1
            have hcf := jm_nx_inj hs
            subst hcf
            intro Hc locs arr cells slots hR hS hl h1 h2
            have hD := jm_ws_D (dA := dA) (base := base) (H := H) (jm_A base) (fun _ h => h)
            refine va_copyl hx hb (hml.trans hl.1.symm) hown (hww _ (by simp)) (hww _ (by simp)) (hww _ (by simp)) (hww _ (by simp)) hK hR.1 hD hS ss dd 1 1 (jm_lar hk1.1) (jm_lar hk1.2) rfl rfl rfl (jm_nneg hc2) (jm_nneg hc3) (jm_nneg hc4) hc5 hc6 (fun _ _ => rfl) (by omega) hlw9 hd (fun H1 locs1 hP1 hD1 hS1 => ?_)
            refine jm_size fun hz => ?_
            refine G' H1 locs1 arr cells slots (jm_Rl_set hR rfl (fun j hj => jm_at_congr rfl rfl (jm_row_ne hj)) ?_ hP1 (jm_kd_lt (H := H) (a := dd) (by rw [hk1.2]; decide)) hn0 h1 hz) hS1 hl h1 h2
            unfold jm_at
            show (base + dd, jm_cell dA base (jm_kd H dd) (jm_ln H dd) (jm_rf H dd) (H.2.1 dd) (jm_row H.2.2 dd _ dd)) = _
            rw [jm_row_eq]
            unfold jm_cell
            rw [hk1.2, if_neg (by omega), if_pos rfl]
          · cases hs
      · cases hs
    · cases hs
  · subst hb0
    have hlw : jm_lw q.2.2.2.2.2 (ix, 13, a0, 0, 0) = [.methodLink (jm_on q.2.2.2.2.2) ix Lib.Math.max.name, .static Lib.Math.max.name, .initialized "java/lang/Math", .code Lib.Math.max.name Lib.Math.max.code 2 (some .int)] := rfl
    have hww : ∀ w ∈ ([.methodLink (jm_on q.2.2.2.2.2) ix Lib.Math.max.name, .static Lib.Math.max.name, .initialized "java/lang/Math", .code Lib.Math.max.name Lib.Math.max.code 2 (some .int)] : List Cond), w.before args s = true := fun w h => hw _ rfl w (by rw [hlw]; exact h)
    rw [if_neg (show ¬ (13 : Nat) = 12 by decide), if_pos rfl] at hs
    split at hs
    · rename_i y x r
      split at hs
      · rename_i hc
        have hcf := jm_nx_inj hs
        subst hcf
        intro Hc locs arr cells slots hR hS hl h1 h2
        have h1' : cells + n0 = H.1.length := h1
        have h2' : slots + s0 = jm_sl H := h2
        have hrm1 : H.1.length ≤ n0 + R.cells := hroom.1
        have hrm2 : jm_sl H ≤ s0 + R.slots := hroom.2
        exact va_mmax hx hb (hml.trans hl.1.symm) hown (hww _ (by simp)) (hww _ (by simp)) (hww _ (by simp)) (hww _ (by simp)) (by omega) (by rw [jm_catc]; omega) (by omega) (by omega) hd (G' Hc locs arr cells slots hR hS hl h1 h2)
      · cases hs
    · cases hs
  · subst hb0
    have hlw : jm_lw q.2.2.2.2.2 (ix, 14, a0, 0, 0) = [.methodLink (jm_on q.2.2.2.2.2) ix Lib.Math.min.name, .static Lib.Math.min.name, .initialized "java/lang/Math", .code Lib.Math.min.name Lib.Math.min.code 2 (some .int)] := rfl
    have hww : ∀ w ∈ ([.methodLink (jm_on q.2.2.2.2.2) ix Lib.Math.min.name, .static Lib.Math.min.name, .initialized "java/lang/Math", .code Lib.Math.min.name Lib.Math.min.code 2 (some .int)] : List Cond), w.before args s = true := fun w h => hw _ rfl w (by rw [hlw]; exact h)
    rw [if_neg (show ¬ (14 : Nat) = 12 by decide), if_neg (show ¬ (14 : Nat) = 13 by decide), if_pos rfl] at hs
    split at hs
    · rename_i y x r
      split at hs
      · rename_i hc
        have hcf := jm_nx_inj hs
        subst hcf
        intro Hc locs arr cells slots hR hS hl h1 h2
        have h1' : cells + n0 = H.1.length := h1
        have h2' : slots + s0 = jm_sl H := h2
        have hrm1 : H.1.length ≤ n0 + R.cells := hroom.1
        have hrm2 : jm_sl H ≤ s0 + R.slots := hroom.2
        exact va_mmin hx hb (hml.trans hl.1.symm) hown (hww _ (by simp)) (hww _ (by simp)) (hww _ (by simp)) (hww _ (by simp)) (by omega) (by rw [jm_catc]; omega) (by omega) (by omega) hd (G' Hc locs arr cells slots hR hS hl h1 h2)
      · cases hs
    · cases hs
  · subst hb0
    simp only [jm_lok, Bool.and_eq_true, decide_eq_true_eq] at hlk
    obtain ⟨ha, hyy⟩ := hlk
    split at hyy
    · rename_i y hy
      have hpl := hyy
      have hlw : jm_lw q.2.2.2.2.2 (ix, 2, a0, 0, 0) = [.methodLink (jm_on q.2.2.2.2.2) ix y.1, .static y.1, .initialized y.1.cls, .code y.1 y.2.1 y.2.2.1 y.2.2.2.1] := by
        unfold jm_lw
        simp only [hy]
      have hww : ∀ w ∈ ([.methodLink (jm_on q.2.2.2.2.2) ix y.1, .static y.1, .initialized y.1.cls, .code y.1 y.2.1 y.2.2.1 y.2.2.2.1] : List Cond), w.before args s = true := fun w h => hw _ rfl w (by rw [hlw]; exact h)
      have hcd : Cond.code y.1 y.2.1 y.2.2.1 y.2.2.2.1 ∈ jm_TW := jm_code_tw hkm (by rw [hlw]; simp)
      rw [if_neg (show ¬ (2 : Nat) = 12 by decide), if_neg (show ¬ (2 : Nat) = 13 by decide), if_neg (show ¬ (2 : Nat) = 14 by decide)] at hs
      split at hs
      · rename_i hc
        obtain ⟨hc1, hc2⟩ := hc
        obtain ⟨x, hx1, hcf⟩ := jm_call_inj hs
        subst hcf
        obtain ⟨hg1, hg2, hM⟩ := hE a0 y _ H x hy hpl hx1
        have hM := hM hbbE
        obtain ⟨hcls, hpar, hmx, -⟩ := jm_mfact hy
        intro Hc locs arr cells slots hR hS hl h1 h2
        have h1' : cells + n0 = H.1.length := h1
        have h2' : slots + s0 = jm_sl H := h2
        have hrm := hroom
        have hrm1 : x.2.1.length ≤ n0 + R.cells := hroom.1
        have hrm2 : jm_sl x.2 ≤ s0 + R.slots := hroom.2
        have hf : cells + (x.2.1.length - H.1.length) ≤ R.cells ∧ slots + (jm_sl x.2 - jm_sl H) ≤ R.slots := ⟨by omega, by omega⟩
        have hRR : (jm_rm d H x.2).frames + 1 ≤ R.frames ∧ 8 + (y.2.2.1 + 11) + (jm_rm d H x.2).locals ≤ R.locals := ⟨hRf.1, by have hmx9 : y.2.2.1 ≤ 22 := hmx; show 8 + (y.2.2.1 + 11) + 41 * d ≤ _; omega⟩
        have hPcU : ∀ U : State, U.heap = Hc → s.WarmedH U.vm → ∀ as : List Value, jm_Pc dC dI dA base b L xs H as (as.map (jm_cv base b)).toArray U := fun U hU hW as => ⟨rfl, by rw [hU]; exact hR, va_K.moved hW.alike hK, jm_Xb.next hW hXs hbb hbs hS hU, hXw.warm hW⟩
        have hend : ∀ (Hc1 : Heap) (locs1 : List Loc), jm_Rl dC dI dA base x.2 Hc1 → va_S (jm_A base) s.heap Hc1 locs1 → W p l e R s m args below meth c Hc1 locs1 (cells + (x.2.1.length - H.1.length)) (slots + (jm_sl x.2 - jm_sl H)) Q (F0 m (pc + 3) arr ((x.1.map (jm_cv base b)).toList ++ (st.drop (jm_np a0)).map (jm_cv base b))) := fun Hc1 locs1 hR1 hS1 => by
          rw [jm_ols]
          exact G' Hc1 locs1 arr _ _ hR1 hS1 hl (by show _ = x.2.1.length; omega) (by show _ = jm_sl x.2; omega)
        refine jm_cont (va_runS (As := (st.take (jm_np a0)).reverse.map (jm_cv base b)) (rest := (st.drop (jm_np a0)).map (jm_cv base b)) ⟨hx, hb, hml, hown, hts⟩ hM ⟨callB_of (ws' := jm_TW) y.2.2.2.2.1 hts (jm_wd_good hcd) rfl rfl rfl (hww _ (by simp)) (hww _ (by simp)) ⟨hcls.1, hcls.2, hpar⟩ hRR, hww _ (by simp)⟩ ⟨jm_Pc_blind, fun U hU hW => hPcU U hU hW (st.take (jm_np a0)).reverse⟩ rfl ?_ hl.1 jm_stkS (lv_room (by rw [jm_catc]; exact hc2)) hd hf) hS hend
        · rw [List.length_map, List.length_reverse, List.length_take, ← jm_npe hy]
          exact Nat.min_eq_left hc1
      · cases hs
    · cases hyy
  · subst hb0
    simp only [jm_lok, Bool.and_eq_true, decide_eq_true_eq] at hlk
    obtain ⟨ha, hyy⟩ := hlk
    split at hyy
    · rename_i y hy
      have hpl := hyy
      have hlw : jm_lw q.2.2.2.2.2 (ix, 4, a0, 0, 0) = [.methodLinkNest (jm_on q.2.2.2.2.2) ix y.1 "LeapingPassages", .static y.1, .initialized y.1.cls, .code y.1 y.2.1 y.2.2.1 y.2.2.2.1] := by
        unfold jm_lw
        simp only [hy]
      have hww : ∀ w ∈ ([.methodLinkNest (jm_on q.2.2.2.2.2) ix y.1 "LeapingPassages", .static y.1, .initialized y.1.cls, .code y.1 y.2.1 y.2.2.1 y.2.2.2.1] : List Cond), w.before args s = true := fun w h => hw _ rfl w (by rw [hlw]; exact h)
      have hcd : Cond.code y.1 y.2.1 y.2.2.1 y.2.2.2.1 ∈ jm_TW := jm_code_tw hkm (by rw [hlw]; simp)
      rw [if_neg (show ¬ (4 : Nat) = 12 by decide), if_neg (show ¬ (4 : Nat) = 13 by decide), if_neg (show ¬ (4 : Nat) = 14 by decide)] at hs
      split at hs
      · rename_i hc
        obtain ⟨hc1, hc2⟩ := hc
        obtain ⟨x, hx1, hcf⟩ := jm_call_inj hs
        subst hcf
        obtain ⟨hg1, hg2, hM⟩ := hE a0 y _ H x hy hpl hx1
        have hM := hM hbbE
        obtain ⟨hcls, hpar, hmx, -⟩ := jm_mfact hy
        intro Hc locs arr cells slots hR hS hl h1 h2
        have h1' : cells + n0 = H.1.length := h1
        have h2' : slots + s0 = jm_sl H := h2
        have hrm := hroom
        have hrm1 : x.2.1.length ≤ n0 + R.cells := hroom.1
        have hrm2 : jm_sl x.2 ≤ s0 + R.slots := hroom.2
        have hf : cells + (x.2.1.length - H.1.length) ≤ R.cells ∧ slots + (jm_sl x.2 - jm_sl H) ≤ R.slots := ⟨by omega, by omega⟩
        have hRR : (jm_rm d H x.2).frames + 1 ≤ R.frames ∧ 8 + (y.2.2.1 + 11) + (jm_rm d H x.2).locals ≤ R.locals := ⟨hRf.1, by have hmx9 : y.2.2.1 ≤ 22 := hmx; show 8 + (y.2.2.1 + 11) + 41 * d ≤ _; omega⟩
        have hPcU : ∀ U : State, U.heap = Hc → s.WarmedH U.vm → ∀ as : List Value, jm_Pc dC dI dA base b L xs H as (as.map (jm_cv base b)).toArray U := fun U hU hW as => ⟨rfl, by rw [hU]; exact hR, va_K.moved hW.alike hK, jm_Xb.next hW hXs hbb hbs hS hU, hXw.warm hW⟩
        have hend : ∀ (Hc1 : Heap) (locs1 : List Loc), jm_Rl dC dI dA base x.2 Hc1 → va_S (jm_A base) s.heap Hc1 locs1 → W p l e R s m args below meth c Hc1 locs1 (cells + (x.2.1.length - H.1.length)) (slots + (jm_sl x.2 - jm_sl H)) Q (F0 m (pc + 3) arr ((x.1.map (jm_cv base b)).toList ++ (st.drop (jm_np a0)).map (jm_cv base b))) := fun Hc1 locs1 hR1 hS1 => by
          rw [jm_ols]
          exact G' Hc1 locs1 arr _ _ hR1 hS1 hl (by show _ = x.2.1.length; omega) (by show _ = jm_sl x.2; omega)
        refine jm_cont (va_runSN (As := (st.take (jm_np a0)).reverse.map (jm_cv base b)) (rest := (st.drop (jm_np a0)).map (jm_cv base b)) ⟨hx, hb, hml, hown, hts⟩ hM ⟨va_cnB (ws' := jm_TW) y.2.2.2.2.1 hts (jm_wd_good hcd) rfl rfl rfl (va_Nw.of rfl (hww _ List.mem_cons_self)) (hww _ (by simp)) ⟨hcls.1, hcls.2, hpar⟩ hRR, hww _ (by simp), trivial⟩ ⟨jm_Pc_blind, fun U hU hW => hPcU U hU hW (st.take (jm_np a0)).reverse⟩ rfl ?_ hl.1 jm_stkS (lv_room (by rw [jm_catc]; exact hc2)) hd hf) hS hend
        · rw [List.length_map, List.length_reverse, List.length_take, ← jm_npe hy]
          exact Nat.min_eq_left hc1
      · cases hs
    · cases hyy
end JMY
