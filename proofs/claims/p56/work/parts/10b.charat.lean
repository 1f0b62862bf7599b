/-! String.charAt of the law's constant: the JDK's own methods, walked. -/
def js_y_lat : MethodName := ⟨"java/lang/String", "isLatin1", "()Z"⟩
theorem js_c_lat : Cond.code js_y_lat prog_15_method_154_code 1 (some .boolean) ∈ jm_TW := List.mem_filter.mpr ⟨by decide +kernel, rfl⟩
noncomputable def js_w_lat : List Cond := Cond.code js_y_lat prog_15_method_154_code 1 (some .boolean) :: jm_TW
theorem js_g_lat : GoodIn jm_TW js_w_lat := fun w hw => by
  rcases List.mem_cons.mp hw with rfl | hw
  · exact jm_good _ js_c_lat
  · exact jm_good _ hw
theorem js_d_lat_0 : decode prog_15_method_154_code 0 = .ok (.getstatic 38, 3) := by decide +kernel
theorem js_d_lat_3 : decode prog_15_method_154_code 3 = .ok (.ifCond .eq 14, 3) := by decide +kernel
theorem js_d_lat_6 : decode prog_15_method_154_code 6 = .ok (.aload_n 0, 1) := by decide +kernel
theorem js_d_lat_7 : decode prog_15_method_154_code 7 = .ok (.getfield 15, 3) := by decide +kernel
theorem js_d_lat_10 : decode prog_15_method_154_code 10 = .ok (.ifCond .ne 7, 3) := by decide +kernel
theorem js_d_lat_13 : decode prog_15_method_154_code 13 = .ok (.iconst 1, 1) := by decide +kernel
theorem js_d_lat_14 : decode prog_15_method_154_code 14 = .ok (.goto 4, 3) := by decide +kernel
theorem js_d_lat_18 : decode prog_15_method_154_code 18 = .ok (.ireturn, 1) := by decide +kernel
def js_y_cha : MethodName := ⟨"java/lang/String", "charAt", "(I)C"⟩
theorem js_c_cha : Cond.code js_y_cha prog_15_method_56_code 2 (some .char) ∈ jm_TW := List.mem_filter.mpr ⟨by decide +kernel, rfl⟩
noncomputable def js_w_cha : List Cond := Cond.code js_y_cha prog_15_method_56_code 2 (some .char) :: jm_TW
theorem js_g_cha : GoodIn jm_TW js_w_cha := fun w hw => by
  rcases List.mem_cons.mp hw with rfl | hw
  · exact jm_good _ js_c_cha
  · exact jm_good _ hw
theorem js_d_cha_0 : decode prog_15_method_56_code 0 = .ok (.aload_n 0, 1) := by decide +kernel
theorem js_d_cha_1 : decode prog_15_method_56_code 1 = .ok (.invokevirtual 492, 3) := by decide +kernel
theorem js_d_cha_4 : decode prog_15_method_56_code 4 = .ok (.ifCond .eq 12, 3) := by decide +kernel
theorem js_d_cha_7 : decode prog_15_method_56_code 7 = .ok (.aload_n 0, 1) := by decide +kernel
theorem js_d_cha_8 : decode prog_15_method_56_code 8 = .ok (.getfield 9, 3) := by decide +kernel
theorem js_d_cha_11 : decode prog_15_method_56_code 11 = .ok (.iload_n 1, 1) := by decide +kernel
theorem js_d_cha_12 : decode prog_15_method_56_code 12 = .ok (.invokestatic 495, 3) := by decide +kernel
theorem js_d_cha_15 : decode prog_15_method_56_code 15 = .ok (.ireturn, 1) := by decide +kernel
def js_y_l1 : MethodName := ⟨"java/lang/StringLatin1", "charAt", "([BI)C"⟩
theorem js_c_l1 : Cond.code js_y_l1 prog_16_method_2_code 2 (some .char) ∈ jm_TW := List.mem_filter.mpr ⟨by decide +kernel, rfl⟩
noncomputable def js_w_l1 : List Cond := Cond.code js_y_l1 prog_16_method_2_code 2 (some .char) :: jm_TW
theorem js_g_l1 : GoodIn jm_TW js_w_l1 := fun w hw => by
  rcases List.mem_cons.mp hw with rfl | hw
  · exact jm_good _ js_c_l1
  · exact jm_good _ hw
theorem js_d_l1_0 : decode prog_16_method_2_code 0 = .ok (.iload_n 1, 1) := by decide +kernel
theorem js_d_l1_1 : decode prog_16_method_2_code 1 = .ok (.aload_n 0, 1) := by decide +kernel
theorem js_d_l1_2 : decode prog_16_method_2_code 2 = .ok (.arraylength, 1) := by decide +kernel
theorem js_d_l1_3 : decode prog_16_method_2_code 3 = .ok (.invokestatic 9, 3) := by decide +kernel
theorem js_d_l1_6 : decode prog_16_method_2_code 6 = .ok (.aload_n 0, 1) := by decide +kernel
theorem js_d_l1_7 : decode prog_16_method_2_code 7 = .ok (.iload_n 1, 1) := by decide +kernel
theorem js_d_l1_8 : decode prog_16_method_2_code 8 = .ok (.baload, 1) := by decide +kernel
theorem js_d_l1_9 : decode prog_16_method_2_code 9 = .ok (.sipush 255, 3) := by decide +kernel
theorem js_d_l1_12 : decode prog_16_method_2_code 12 = .ok (.iand, 1) := by decide +kernel
theorem js_d_l1_13 : decode prog_16_method_2_code 13 = .ok (.i2c, 1) := by decide +kernel
theorem js_d_l1_14 : decode prog_16_method_2_code 14 = .ok (.ireturn, 1) := by decide +kernel
def js_y_chk : MethodName := ⟨"java/lang/String", "checkIndex", "(II)V"⟩
theorem js_c_chk : Cond.code js_y_chk prog_15_method_155_code 2 (none) ∈ jm_TW := List.mem_filter.mpr ⟨by decide +kernel, rfl⟩
noncomputable def js_w_chk : List Cond := Cond.code js_y_chk prog_15_method_155_code 2 (none) :: jm_TW
theorem js_g_chk : GoodIn jm_TW js_w_chk := fun w hw => by
  rcases List.mem_cons.mp hw with rfl | hw
  · exact jm_good _ js_c_chk
  · exact jm_good _ hw
theorem js_d_chk_0 : decode prog_15_method_155_code 0 = .ok (.iload_n 0, 1) := by decide +kernel
theorem js_d_chk_1 : decode prog_15_method_155_code 1 = .ok (.iload_n 1, 1) := by decide +kernel
theorem js_d_chk_2 : decode prog_15_method_155_code 2 = .ok (.getstatic 1053, 3) := by decide +kernel
theorem js_d_chk_5 : decode prog_15_method_155_code 5 = .ok (.invokestatic 1059, 3) := by decide +kernel
theorem js_d_chk_8 : decode prog_15_method_155_code 8 = .ok (.pop, 1) := by decide +kernel
theorem js_d_chk_9 : decode prog_15_method_155_code 9 = .ok (.return_, 1) := by decide +kernel
def js_y_pre : MethodName := ⟨"jdk/internal/util/Preconditions", "checkIndex", "(IILjava/util/function/BiFunction;)I"⟩
theorem js_c_pre : Cond.code js_y_pre prog_20_method_11_code 3 (some .int) ∈ jm_TW := List.mem_filter.mpr ⟨by decide +kernel, rfl⟩
noncomputable def js_w_pre : List Cond := Cond.code js_y_pre prog_20_method_11_code 3 (some .int) :: jm_TW
theorem js_g_pre : GoodIn jm_TW js_w_pre := fun w hw => by
  rcases List.mem_cons.mp hw with rfl | hw
  · exact jm_good _ js_c_pre
  · exact jm_good _ hw
theorem js_d_pre_0 : decode prog_20_method_11_code 0 = .ok (.iload_n 0, 1) := by decide +kernel
theorem js_d_pre_1 : decode prog_20_method_11_code 1 = .ok (.ifCond .lt 8, 3) := by decide +kernel
theorem js_d_pre_4 : decode prog_20_method_11_code 4 = .ok (.iload_n 0, 1) := by decide +kernel
theorem js_d_pre_5 : decode prog_20_method_11_code 5 = .ok (.iload_n 1, 1) := by decide +kernel
theorem js_d_pre_6 : decode prog_20_method_11_code 6 = .ok (.if_icmp .lt 10, 3) := by decide +kernel
theorem js_d_pre_16 : decode prog_20_method_11_code 16 = .ok (.iload_n 0, 1) := by decide +kernel
theorem js_d_pre_17 : decode prog_20_method_11_code 17 = .ok (.ireturn, 1) := by decide +kernel
theorem js_in {w : Cond} (h : w ∈ lw_tbl) (hg : goodWord w = true) : w ∈ jm_TW := List.mem_filter.mpr ⟨h, hg⟩
def js_S (base k adV : Nat) (U : State) (H : Heap) : Prop := vk_S 1 [7] [jm_bt] (fun _ => k) (fun _ => adV) (jm_A base) U H ∧ va_Z "java/lang/String" "COMPACT_STRINGS" "Z" (.int 1) (jm_A base) U H ∧ va_Zq "jdk/internal/util/Preconditions" "SIOOBE_FORMATTER" "Ljava/util/function/BiFunction;" (jm_A base) U H
theorem js_S.warm {base k adV : Nat} {s U : State} {H : Heap} (hW : s.WarmedH U.vm) (h : js_S base k adV s H) : js_S base k adV U H := ⟨vk_S.moved hW.alike h.1, va_Z.moved hW.alike h.2.1, va_Zq.moved hW.alike h.2.2⟩
theorem js_S.same {base k adV : Nat} {s U : State} {H : Heap} (hv : s.vm.Alike U.vm) (h : js_S base k adV s H) : js_S base k adV U H := ⟨vk_S.moved hv h.1, va_Z.moved hv h.2.1, va_Zq.moved hv h.2.2⟩
def js_P (base k adV : Nat) (As : List Value) : Array Value → State → Prop := va_Pc As (fun U => js_S base k adV U U.heap)
def js_Q (v : Option Value) : Array Value → State → Outcome → State → Prop := fun _ st oc t => oc = .returned v ∧ t.heap = st.heap
theorem js_blind {base k adV : Nat} {As : List Value} : FrameBlind (js_P base k adV As) := fun a U g mk hq => by
  obtain ⟨h0, h1⟩ := hq
  exact ⟨h0, h1.same (U := U.calling g mk a) (Vm.Alike.refl U.vm)⟩
section JSW
variable {p : Program} {l : Launch} {e : Env} {R : Room} {s : State} {m : MethodId} {args : Array Value} {below : List Frame} {meth : Method} {c : Code} {Q : State → Prop} {pc : Nat}
theorem js_cont {locs : List Loc} {cells slots : Nat} {arr : Array Slot} {st0 rest : List Value} {v : Option Value} {a : Array Value} (hr : va_Run p l e R s m args below meth c s.heap locs cells slots 0 0 (F0 m pc arr st0) rest (js_Q v a) (fun _ => False))
    (kk : W p l e R s m args below meth c s.heap locs cells slots Q (F0 m (pc + 3) arr (v.toList ++ rest))) : W p l e R s m args below meth c s.heap locs cells slots Q (F0 m pc arr st0) := by
  intro T hT X
  obtain ⟨v', st₀, t, T', L9, h0, X', hL, e1, e2, ⟨hv, hh⟩, st⟩ := hr T hT X
  cases hv
  have hl : L9 = [] := by
    cases L9 with
    | nil => rfl
    | cons q r => exact absurd (hL q List.mem_cons_self) (fun h => h)
  subst hl
  rw [List.append_nil] at X'
  obtain ⟨t2, a1, b1⟩ := kk T' (by rw [e1, hh, h0]) X'
  exact ⟨t2, st t2 a1, b1⟩
end JSW

theorem js_m_pre (l : Launch) {base k adV : Nat} {i n : Int32} {f : Value} (hf : f = .null ∨ ∃ t, f = .ref t) (h0 : ¬ i < 0) (h1 : i < n) : Met l js_y_pre js_w_pre ({ frames := 0, cells := 0, slots := 0, locals := 0 }) (js_P base k adV [.int i, .int n, f]) (js_Q (some (.int i))) 0 0 (fun _ => False) := by
  refine Met.ofW (cc := prog_20_method_11_code) (maxL := 3) (ret := some .int) (by decide) rfl ?_
  intro p e s m args below meth c s₁ B hml hv
  obtain ⟨rfl, hZ⟩ := hv
  have hx := B.exec
  have hb := B.bytes
  have hr := B.returns
  have hts0 := atoms_spec (ws := js_w_pre) B.pre
  have hts : ∀ w ∈ jm_TW, w.before ([.int i, .int n, f] : List Value).toArray s = true := fun w hw => hts0 w (List.mem_cons_of_mem _ hw)
  have hown : s.vm.findClass "jdk/internal/util/Preconditions" = some m.cls := findClass_of_methodNamed B.named
  have hlocks := B.notSynchronized
  have hS : va_S (jm_A base) s.heap s.heap [] := va_S.rf
  have hl := lv_entry ([.int i, .int n, f]) (n := 3) (by rcases hf with rfl | ⟨t, rfl⟩ <;> exact Nat.le_of_ble_eq_true rfl)
  rw [lg_entry_eq]
  generalize (lg_sl ([.int i, .int n, f]) ++ List.replicate (3 - (lg_sl ([.int i, .int n, f])).length) Slot.unset).toArray = ls at hl ⊢
  have hl : lv_has ls 3 [(0, .int i), (1, .int n), (2, f)] := hl
  refine lv_iload_n hx hb js_d_pre_0 rfl (lv_at hl 0 rfl) ?_
  refine lv_if_lt hx hb js_d_pre_1 (tgt := 9) (by decide) (fun h => absurd h h0) (fun _ => ?_)
  refine lv_iload_n hx hb js_d_pre_4 rfl (lv_at hl 0 rfl) ?_
  refine lv_iload_n hx hb js_d_pre_5 rfl (lv_at hl 1 rfl) ?_
  refine lv_icmp_lt hx hb js_d_pre_6 (tgt := 16) (by decide) (fun _ => ?_) (fun h => absurd h1 h)
  refine lv_iload_n hx hb js_d_pre_16 rfl (lv_at hl 0 rfl) ?_
  exact W.iret hx hb hr (fun t ht _ => ⟨rfl, ht⟩) (fun q hq => absurd hq List.not_mem_nil) js_d_pre_17 hlocks
theorem js_m_chk (l : Launch) {base k adV : Nat} {i n : Int32} (h0 : ¬ i < 0) (h1 : i < n) : Met l js_y_chk js_w_chk ({ frames := 1, cells := 0, slots := 0, locals := 22 }) (js_P base k adV [.int i, .int n]) (js_Q (none)) 0 0 (fun _ => False) := by
  refine Met.ofW (cc := prog_15_method_155_code) (maxL := 2) (ret := none) (by decide) rfl ?_
  intro p e s m args below meth c s₁ B hml hv
  obtain ⟨rfl, hZ⟩ := hv
  have hx := B.exec
  have hb := B.bytes
  have hr := B.returns
  have hts0 := atoms_spec (ws := js_w_chk) B.pre
  have hts : ∀ w ∈ jm_TW, w.before ([.int i, .int n] : List Value).toArray s = true := fun w hw => hts0 w (List.mem_cons_of_mem _ hw)
  have hown : s.vm.findClass "java/lang/String" = some m.cls := findClass_of_methodNamed B.named
  have hlocks := B.notSynchronized
  have hS : va_S (jm_A base) s.heap s.heap [] := va_S.rf
  have hl := lv_entry ([.int i, .int n]) (n := 2) (Nat.le_of_ble_eq_true rfl)
  rw [lg_entry_eq]
  generalize (lg_sl ([.int i, .int n]) ++ List.replicate (2 - (lg_sl ([.int i, .int n])).length) Slot.unset).toArray = ls at hl ⊢
  have hl : lv_has ls 2 [(0, .int i), (1, .int n)] := hl
  refine lv_iload_n hx hb js_d_chk_0 rfl (lv_at hl 0 rfl) ?_
  refine lv_iload_n hx hb js_d_chk_1 rfl (lv_at hl 1 rfl) ?_
  have go : ∀ f : Value, (f = .null ∨ ∃ t, f = .ref t) → va_Z "jdk/internal/util/Preconditions" "SIOOBE_FORMATTER" "Ljava/util/function/BiFunction;" f (jm_A base) s s.heap → W p l e (headSpec js_w_chk { frames := 1, cells := 0, slots := 0, locals := 22 }).room s m ([.int i, .int n] : List Value).toArray below meth c s.heap [] 0 0 (MQ below (js_Q none) ([.int i, .int n] : List Value).toArray s 0 0 (fun _ => False)) (F0 m 2 ls [.int n, .int i]) := by
    intro f hf hz
    refine va_gets (ref := "jdk/internal/util/Preconditions") hx hb hz hS hown (hts _ (js_in (by decide +kernel) rfl) : (Cond.fieldLink "java/lang/String" 1053 "jdk/internal/util/Preconditions" "SIOOBE_FORMATTER" "Ljava/util/function/BiFunction;").before _ s = true) (fun _ h => h) js_d_chk_2 ?_
    refine js_cont (va_runS (As := [.int i, .int n, f]) (rest := []) ⟨hx, hb, hml, hown, hts⟩ (js_m_pre (base := base) (k := k) (adV := adV) l hf h0 h1) ⟨callB_of (ws' := jm_TW) 3 hts js_g_pre rfl rfl rfl (hts _ (js_in (by decide +kernel) rfl) : (Cond.initialized "jdk/internal/util/Preconditions").before _ s = true) (hts _ (js_in (by decide +kernel) rfl) : (Cond.methodLink "java/lang/String" 1059 js_y_pre).before _ s = true) ⟨by decide, by decide, by decide +kernel⟩ ⟨by first | exact Nat.le_of_ble_eq_true rfl | (show _ ≤ _; omega), by first | exact Nat.le_of_ble_eq_true rfl | (show _ ≤ _; omega)⟩, (hts _ (js_in (by decide +kernel) rfl) : (Cond.static js_y_pre).before _ s = true)⟩ ⟨js_blind, fun U hU hW => ⟨rfl, by show js_S base k adV U U.heap; rw [hU]; exact hZ.warm hW⟩⟩ rfl rfl hl.1 rfl (lv_room (Nat.le_of_ble_eq_true rfl)) js_d_chk_5 ⟨Nat.zero_le _, Nat.zero_le _⟩) ?_
    refine lv_pop hx hb js_d_chk_8 rfl ?_
    exact W.vret hx hb hr (fun t ht _ => ⟨rfl, ht⟩) (fun q hq => absurd hq List.not_mem_nil) js_d_chk_9 hlocks
  rcases hZ.2.2 with hz | ⟨t, hz⟩
  · exact go _ (Or.inl rfl) hz
  · exact go _ (Or.inr ⟨t, rfl⟩) hz
theorem js_m_l1 (l : Launch) {base k adV : Nat} {i : Int32} (h0 : ¬ i < 0) (h1 : i < 7) : Met l js_y_l1 js_w_l1 ({ frames := 2, cells := 0, slots := 0, locals := 43 }) (js_P base k adV [.ref adV, .int i]) (js_Q (some (.int (jm_ch i.toNatClampNeg)))) 0 0 (fun _ => False) := by
  refine Met.ofW (cc := prog_16_method_2_code) (maxL := 2) (ret := some .char) (by decide) rfl ?_
  intro p e s m args below meth c s₁ B hml hv
  obtain ⟨rfl, hZ⟩ := hv
  have hx := B.exec
  have hb := B.bytes
  have hr := B.returns
  have hts0 := atoms_spec (ws := js_w_l1) B.pre
  have hts : ∀ w ∈ jm_TW, w.before ([.ref adV, .int i] : List Value).toArray s = true := fun w hw => hts0 w (List.mem_cons_of_mem _ hw)
  have hown : s.vm.findClass "java/lang/StringLatin1" = some m.cls := findClass_of_methodNamed B.named
  have hlocks := B.notSynchronized
  have hS : va_S (jm_A base) s.heap s.heap [] := va_S.rf
  have hl := lv_entry ([.ref adV, .int i]) (n := 2) (Nat.le_of_ble_eq_true rfl)
  rw [lg_entry_eq]
  generalize (lg_sl ([.ref adV, .int i]) ++ List.replicate (2 - (lg_sl ([.ref adV, .int i])).length) Slot.unset).toArray = ls at hl ⊢
  have hl : lv_has ls 2 [(0, .ref adV), (1, .int i)] := hl
  have hin : vp_in i 7 := by
    rintro (h | h)
    · exact h0 h
    · rw [Int32.lt_iff_toInt_lt] at h1
      have : (7 : Int32).toInt = 7 := by decide
      rw [Int32.toNatClampNeg] at h
      omega
  obtain ⟨j, hj, rfl⟩ := vp_in_of hin (by decide)
  have hT := (hZ.1.1 0 (by omega)).2.2.2
  refine lv_iload_n hx hb js_d_l1_0 rfl (lv_at hl 1 rfl) ?_
  refine lv_aload_n hx hb js_d_l1_1 rfl (lv_at hl 0 rfl) ?_
  refine va_tlen hx hb hT hS (v := 7) (by decide) js_d_l1_2 ?_
  refine js_cont (va_runS (As := [.int (nI j), .int 7]) (rest := []) ⟨hx, hb, hml, hown, hts⟩ (js_m_chk (base := base) (k := k) (adV := adV) l h0 h1) ⟨callB_of (ws' := jm_TW) 2 hts js_g_chk rfl rfl rfl (hts _ (js_in (by decide +kernel) rfl) : (Cond.initialized "java/lang/String").before _ s = true) (hts _ (js_in (by decide +kernel) rfl) : (Cond.methodLink "java/lang/StringLatin1" 9 js_y_chk).before _ s = true) ⟨by decide, by decide, by decide +kernel⟩ ⟨by first | exact Nat.le_of_ble_eq_true rfl | (show _ ≤ _; omega), by first | exact Nat.le_of_ble_eq_true rfl | (show _ ≤ _; omega)⟩, (hts _ (js_in (by decide +kernel) rfl) : (Cond.static js_y_chk).before _ s = true)⟩ ⟨js_blind, fun U hU hW => ⟨rfl, by show js_S base k adV U U.heap; rw [hU]; exact hZ.warm hW⟩⟩ rfl rfl hl.1 rfl (lv_room (Nat.le_of_ble_eq_true rfl)) js_d_l1_3 ⟨Nat.zero_le _, Nat.zero_le _⟩) ?_
  refine lv_aload_n hx hb js_d_l1_6 rfl (lv_at hl 0 rfl) ?_
  refine lv_iload_n hx hb js_d_l1_7 rfl (lv_at hl 1 rfl) ?_
  refine va_tb hx hb hT hS hin (v := .int (jm_ch (nI j).toNatClampNeg)) ?_ js_d_l1_8 ?_
  · rcases (show j = 0 ∨ j = 1 ∨ j = 2 ∨ j = 3 ∨ j = 4 ∨ j = 5 ∨ j = 6 by omega) with h | h | h | h | h | h | h <;> subst h <;> decide
  refine lv_sipush (v := 255) hx hb js_d_l1_9 (by decide) ?_
  refine lv_iand hx hb js_d_l1_12 ?_
  refine lv_i2c (v := jm_ch (nI j).toNatClampNeg) hx hb js_d_l1_13 ?_ ?_
  · rcases (show j = 0 ∨ j = 1 ∨ j = 2 ∨ j = 3 ∨ j = 4 ∨ j = 5 ∨ j = 6 by omega) with h | h | h | h | h | h | h <;> subst h <;> decide
  refine W.zret hx hb hr ?_ (fun t ht _ => ⟨rfl, ht⟩) (fun q hq => absurd hq List.not_mem_nil) js_d_l1_14 hlocks
  rcases (show j = 0 ∨ j = 1 ∨ j = 2 ∨ j = 3 ∨ j = 4 ∨ j = 5 ∨ j = 6 by omega) with h | h | h | h | h | h | h <;> subst h <;> decide
theorem js_m_lat (l : Launch) {base k adV : Nat}  : Met l js_y_lat js_w_lat ({ frames := 0, cells := 0, slots := 0, locals := 0 }) (js_P base k adV [.ref k]) (js_Q (some (.int 1))) 0 0 (fun _ => False) := by
  refine Met.ofW (cc := prog_15_method_154_code) (maxL := 1) (ret := some .boolean) (by decide) rfl ?_
  intro p e s m args below meth c s₁ B hml hv
  obtain ⟨rfl, hZ⟩ := hv
  have hx := B.exec
  have hb := B.bytes
  have hr := B.returns
  have hts0 := atoms_spec (ws := js_w_lat) B.pre
  have hts : ∀ w ∈ jm_TW, w.before ([.ref k] : List Value).toArray s = true := fun w hw => hts0 w (List.mem_cons_of_mem _ hw)
  have hown : s.vm.findClass "java/lang/String" = some m.cls := findClass_of_methodNamed B.named
  have hlocks := B.notSynchronized
  have hS : va_S (jm_A base) s.heap s.heap [] := va_S.rf
  have hl := lv_entry ([.ref k]) (n := 1) (Nat.le_of_ble_eq_true rfl)
  rw [lg_entry_eq]
  generalize (lg_sl ([.ref k]) ++ List.replicate (1 - (lg_sl ([.ref k])).length) Slot.unset).toArray = ls at hl ⊢
  have hl : lv_has ls 1 [(0, .ref k)] := hl
  refine va_gets (ref := "java/lang/String") hx hb hZ.2.1 hS hown (hts _ (js_in (by decide +kernel) rfl) : (Cond.fieldLink "java/lang/String" 38 "java/lang/String" "COMPACT_STRINGS" "Z").before _ s = true) (fun _ h => h) js_d_lat_0 ?_
  refine lv_if_eq hx hb js_d_lat_3 (tgt := 17) (by decide) (fun h => absurd h (by decide)) (fun _ => ?_)
  refine lv_aload_n hx hb js_d_lat_6 rfl (lv_at hl 0 rfl) ?_
  refine va_getX (N := 1) (i := 0) (ad := fun _ => k) (v := fun _ => .int 0) (o := "java/lang/String") (ref := "java/lang/String") hx hb (fun i hi => (hZ.1.1 i hi).2.1) (by omega) hS hown (hts _ (js_in (by decide +kernel) rfl) : (Cond.fieldLink "java/lang/String" 15 "java/lang/String" "coder" "B").before _ s = true) (fun _ h => h) js_d_lat_7 ?_
  refine lv_if_ne hx hb js_d_lat_10 (tgt := 17) (by decide) (fun h => absurd rfl h) (fun _ => ?_)
  refine lv_iconst (v := 1) hx hb js_d_lat_13 (by decide) ?_
  refine lv_goto hx hb js_d_lat_14 (tgt := 18) (by decide) ?_
  exact W.zret hx hb hr rfl (fun t ht _ => ⟨rfl, ht⟩) (fun q hq => absurd hq List.not_mem_nil) js_d_lat_18 hlocks
theorem js_m_cha (l : Launch) {dC : Nat → ClassId} {dI : Nat → Nat → Nat} {dA : Nat → ClassId} {base : Nat} {b : Nat → Nat} {L : Nat} {xs : Nat → Int32} {H : jm_H} {i : Int32} (h0 : ¬ i < 0) (h1 : i < 7) {rm : Room} (hf : 3 ≤ rm.frames ∧ 64 ≤ rm.locals) : Met l js_y_cha js_w_cha rm (jm_Pc dC dI dA base b L xs H [.retAddr 1, .int i]) (jm_Qc dC dI dA base b (some (.int (jm_ch i.toNatClampNeg))) H) 0 0 (jm_A base) := by
  refine Met.ofW (cc := prog_15_method_56_code) (maxL := 2) (ret := some .char) (by decide) rfl ?_
  intro p e s m args below meth c s₁ B hml hv
  obtain ⟨rfl, hR, hK, hXb, hXw⟩ := hv
  obtain ⟨-, ⟨adV, z1⟩, z2, z3⟩ := hXb.2
  have hZ : js_S base (b 1) adV s s.heap := ⟨z1, z2, z3⟩
  show W p l e _ s m _ below meth c s.heap [] 0 0 _ (entryFrame m ([.ref (b 1), .int i] : List Value).toArray 2)
  have hx := B.exec
  have hb := B.bytes
  have hr := B.returns
  have hts0 := atoms_spec (ws := js_w_cha) B.pre
  have hts : ∀ w ∈ jm_TW, w.before ([.ref (b 1), .int i] : List Value).toArray s = true := fun w hw => hts0 w (List.mem_cons_of_mem _ hw)
  have hown : s.vm.findClass "java/lang/String" = some m.cls := findClass_of_methodNamed B.named
  have hlocks := B.notSynchronized
  have hS : va_S (jm_A base) s.heap s.heap [] := va_S.rf
  have hl := lv_entry ([.ref (b 1), .int i]) (n := 2) (Nat.le_of_ble_eq_true rfl)
  rw [lg_entry_eq]
  generalize (lg_sl ([.ref (b 1), .int i]) ++ List.replicate (2 - (lg_sl ([.ref (b 1), .int i])).length) Slot.unset).toArray = ls at hl ⊢
  have hl : lv_has ls 2 [(0, .ref (b 1)), (1, .int i)] := hl
  refine lv_aload_n hx hb js_d_cha_0 rfl (lv_at hl 0 rfl) ?_
  refine js_cont (va_runV (C := "java/lang/String") (b := b 1) (As := []) (rest := []) ⟨hx, hb, hml, hown, hts⟩ (js_m_lat (base := base) (k := b 1) (adV := adV) l) ⟨callB_of (ws' := jm_TW) 0 hts js_g_lat rfl rfl rfl (hts _ (js_in (by decide +kernel) rfl) : (Cond.initialized "java/lang/String").before _ s = true) (hts _ (js_in (by decide +kernel) rfl) : (Cond.methodLink "java/lang/String" 492 js_y_lat).before _ s = true) ⟨by decide, by decide, by decide +kernel⟩ ⟨by show _ ≤ rm.frames; have := hf.1; simp only []; omega, by show _ ≤ rm.locals; have := hf.2; simp only []; omega⟩, (hts _ (js_in (by decide +kernel) rfl) : (Cond.instanceMethod js_y_lat).before _ s = true), (hts _ (js_in (by decide +kernel) rfl) : (Cond.selects "java/lang/String" js_y_lat js_y_lat).before _ s = true)⟩ ⟨js_blind, ?_, fun U hU hW => ⟨rfl, by show js_S base (b 1) adV U U.heap; rw [hU]; exact hZ.warm hW⟩⟩ rfl rfl hl.1 rfl (lv_room (Nat.le_of_ble_eq_true rfl)) js_d_cha_1 ⟨Nat.zero_le _, Nat.zero_le _⟩) ?_
  · obtain ⟨⟨cell, g1, g2, g3, g4⟩, -⟩ := hZ.1.1 0 (by omega)
    exact ⟨cell, g1, g2, g3⟩
  refine lv_if_eq hx hb js_d_cha_4 (tgt := 16) (by decide) (fun h => absurd h (by decide)) (fun _ => ?_)
  refine lv_aload_n hx hb js_d_cha_7 rfl (lv_at hl 0 rfl) ?_
  refine va_getX (N := 1) (i := 0) (ad := fun _ => b 1) (v := fun _ => .ref adV) (o := "java/lang/String") (ref := "java/lang/String") hx hb (fun i hi => (hZ.1.1 i hi).2.2.1) (by omega) hS hown (hts _ (js_in (by decide +kernel) rfl) : (Cond.fieldLink "java/lang/String" 9 "java/lang/String" "value" "[B").before _ s = true) (fun _ h => h) js_d_cha_8 ?_
  refine lv_iload_n hx hb js_d_cha_11 rfl (lv_at hl 1 rfl) ?_
  refine js_cont (va_runS (As := [.ref adV, .int i]) (rest := []) ⟨hx, hb, hml, hown, hts⟩ (js_m_l1 (base := base) (k := b 1) (adV := adV) l h0 h1) ⟨callB_of (ws' := jm_TW) 2 hts js_g_l1 rfl rfl rfl (hts _ (js_in (by decide +kernel) rfl) : (Cond.initialized "java/lang/StringLatin1").before _ s = true) (hts _ (js_in (by decide +kernel) rfl) : (Cond.methodLink "java/lang/String" 495 js_y_l1).before _ s = true) ⟨by decide, by decide, by decide +kernel⟩ ⟨by show _ ≤ rm.frames; have := hf.1; simp only []; omega, by show _ ≤ rm.locals; have := hf.2; simp only []; omega⟩, (hts _ (js_in (by decide +kernel) rfl) : (Cond.static js_y_l1).before _ s = true)⟩ ⟨js_blind, fun U hU hW => ⟨rfl, by show js_S base (b 1) adV U U.heap; rw [hU]; exact hZ.warm hW⟩⟩ rfl rfl hl.1 rfl (lv_room (Nat.le_of_ble_eq_true rfl)) js_d_cha_12 ⟨Nat.zero_le _, Nat.zero_le _⟩) ?_
  have hch : ∀ n : Nat, narrow .char (.int (jm_ch n)) = .int (jm_ch n) := fun n => by
    unfold jm_ch
    split <;> decide
  exact W.zret hx hb hr (hch _) (fun t ht _ => ⟨rfl, by rw [ht]; exact hR, hS.F ht⟩) (fun q hq => absurd hq List.not_mem_nil) js_d_cha_15 hlocks
