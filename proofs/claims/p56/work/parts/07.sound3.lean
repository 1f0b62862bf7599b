section JMY
variable {p : Program} {l : Launch} {e : Env} {R : Room} {s : State} {m : MethodId} {args : Array Value} {below : List Frame} {meth : Method} {c : Code} {Q : State → Prop}
variable {dC : Nat → ClassId} {dI : Nat → Nat → Nat} {dA : Nat → ClassId} {base : Nat} {b : Nat → Nat} {L : Nat} {xs : Nat → Int32} {q : jm_M} {n0 s0 : Nat}
variable {pc npc a0 b0 : Nat} {z0 : Int} {ls : jm_L} {st : List Value} {H : jm_H} {cf : jm_C} {E : jm_E}
set_option maxHeartbeats 4000000 in
theorem jm_s_alen (C : jm_Cx p s m args meth c dC dI dA base b L xs q) (hF : jm_Fa q pc (.arraylength, npc, a0, b0, z0)) (ho : jm_on q.2.2.2.2.2 = q.1.cls)
    (hs : jm_stp xs L E (.arraylength, npc, a0, b0, z0) pc ls st H = some (.inl cf)) (G' : jm_G p l e R s m args below meth c Q dC dI dA base b q n0 s0 cf) : jm_G p l e R s m args below meth c Q dC dI dA base b q n0 s0 (pc, ls, st, H) := by
  obtain ⟨hx, hb, hml, hown, hts, hXw, hK, hXs, hbb, hbs, hmn⟩ := C
  obtain ⟨hd, hn, hk, hsd⟩ := hF
  have hw : ∀ k9 : jm_K, jm_need (.arraylength, npc, a0, b0, z0) = some k9 → ∀ w ∈ jm_lw q.2.2.2.2.2 k9, w.before args s = true := fun k9 h w hw => jm_word hts hXw (hk k9 h) hw
  rw [← ho] at hown
  simp only [jm_stp] at hs
  have hn : npc = pc + 1 := hn
  subst hn
  split at hs
  · rename_i a r
    split at hs
    · rename_i hc
      have hcf := jm_nx_inj hs
      subst hcf
      intro Hc locs arr cells slots hR hS hl h1 h2
      rcases (show jm_kd H a = 1 ∨ jm_kd H a = 2 ∨ (3 ≤ jm_kd H a ∧ jm_kd H a ≤ 5) by omega) with h | h | h
      · exact va_alen hx hb hK hR.1 a 0 (jm_iar h) (by rfl) rfl hd (G' Hc locs arr cells slots hR hS hl h1 h2)
      · exact va_alen hx hb hK hR.1 a 1 (jm_lar h) (by rfl) rfl hd (G' Hc locs arr cells slots hR hS hl h1 h2)
      · rcases (show jm_kd H a = 3 ∨ jm_kd H a = 4 ∨ jm_kd H a = 5 by omega) with h9 | h9 | h9 <;> refine va_alen hx hb hK hR.1 a (jm_kd H a - 1) (jm_rar h.1 h.2) (by rw [h9]; rfl) rfl hd (G' Hc locs arr cells slots hR hS hl h1 h2)
    · cases hs
  · split at hs
    case isFalse => cases hs
    have hcf := jm_nx_inj hs
    subst hcf
    intro Hc locs arr cells slots hR hS hl h1 h2
    exact va_slen hx hb hXs.1 (Nat.lt_of_lt_of_le hbb hbs) (fun h => absurd hbb (Nat.not_lt.mpr h)) hS hd (G' Hc locs arr cells slots hR hS hl h1 h2)
  · cases hs
set_option maxHeartbeats 4000000 in
theorem jm_s_iald (C : jm_Cx p s m args meth c dC dI dA base b L xs q) (hF : jm_Fa q pc (.iaload, npc, a0, b0, z0)) (ho : jm_on q.2.2.2.2.2 = q.1.cls)
    (hs : jm_stp xs L E (.iaload, npc, a0, b0, z0) pc ls st H = some (.inl cf)) (G' : jm_G p l e R s m args below meth c Q dC dI dA base b q n0 s0 cf) : jm_G p l e R s m args below meth c Q dC dI dA base b q n0 s0 (pc, ls, st, H) := by
  obtain ⟨hx, hb, hml, hown, hts, hXw, hK, hXs, hbb, hbs, hmn⟩ := C
  obtain ⟨hd, hn, hk, hsd⟩ := hF
  have hw : ∀ k9 : jm_K, jm_need (.iaload, npc, a0, b0, z0) = some k9 → ∀ w ∈ jm_lw q.2.2.2.2.2 k9, w.before args s = true := fun k9 h w hw => jm_word hts hXw (hk k9 h) hw
  rw [← ho] at hown
  simp only [jm_stp] at hs
  have hn : npc = pc + 1 := hn
  subst hn
  split at hs
  · rename_i i a r
    split at hs
    · rename_i hc
      have hcf := jm_nx_inj hs
      subst hcf
      intro Hc locs arr cells slots hR hS hl h1 h2
      exact va_iald hx hb hK hR.1 a 0 (jm_iar hc.1) rfl (jm_vin hc.2.1 hc.2.2) hd (G' Hc locs arr cells slots hR hS hl h1 h2)
    · cases hs
  · rename_i i a r
    split at hs
    · rename_i hc
      have hcf := jm_nx_inj hs
      subst hcf
      intro Hc locs arr cells slots hR hS hl h1 h2
      exact va_sld hx hb hXs.1 (Nat.lt_of_lt_of_le hbb hbs) (fun h => absurd hbb (Nat.not_lt.mpr h)) hS (jm_vin hc.2.1 hc.2.2) hd (G' Hc locs arr cells slots hR hS hl h1 h2)
    · cases hs
  · cases hs
set_option maxHeartbeats 4000000 in
theorem jm_s_lald (C : jm_Cx p s m args meth c dC dI dA base b L xs q) (hF : jm_Fa q pc (.laload, npc, a0, b0, z0)) (ho : jm_on q.2.2.2.2.2 = q.1.cls)
    (hs : jm_stp xs L E (.laload, npc, a0, b0, z0) pc ls st H = some (.inl cf)) (G' : jm_G p l e R s m args below meth c Q dC dI dA base b q n0 s0 cf) : jm_G p l e R s m args below meth c Q dC dI dA base b q n0 s0 (pc, ls, st, H) := by
  obtain ⟨hx, hb, hml, hown, hts, hXw, hK, hXs, hbb, hbs, hmn⟩ := C
  obtain ⟨hd, hn, hk, hsd⟩ := hF
  have hw : ∀ k9 : jm_K, jm_need (.laload, npc, a0, b0, z0) = some k9 → ∀ w ∈ jm_lw q.2.2.2.2.2 k9, w.before args s = true := fun k9 h w hw => jm_word hts hXw (hk k9 h) hw
  rw [← ho] at hown
  simp only [jm_stp] at hs
  have hn : npc = pc + 1 := hn
  subst hn
  split at hs
  · rename_i i a r
    split at hs
    · rename_i hc
      have hcf := jm_nx_inj hs
      subst hcf
      intro Hc locs arr cells slots hR hS hl h1 h2
      exact va_lald hx hb hK hR.1 a 1 (jm_lar hc.1) rfl (jm_vin hc.2.1 hc.2.2) hd (G' Hc locs arr cells slots hR hS hl h1 h2)
    · cases hs
  · cases hs
set_option maxHeartbeats 4000000 in
theorem jm_s_aald (C : jm_Cx p s m args meth c dC dI dA base b L xs q) (hF : jm_Fa q pc (.aaload, npc, a0, b0, z0)) (ho : jm_on q.2.2.2.2.2 = q.1.cls)
    (hs : jm_stp xs L E (.aaload, npc, a0, b0, z0) pc ls st H = some (.inl cf)) (G' : jm_G p l e R s m args below meth c Q dC dI dA base b q n0 s0 cf) : jm_G p l e R s m args below meth c Q dC dI dA base b q n0 s0 (pc, ls, st, H) := by
  obtain ⟨hx, hb, hml, hown, hts, hXw, hK, hXs, hbb, hbs, hmn⟩ := C
  obtain ⟨hd, hn, hk, hsd⟩ := hF
  have hw : ∀ k9 : jm_K, jm_need (.aaload, npc, a0, b0, z0) = some k9 → ∀ w ∈ jm_lw q.2.2.2.2.2 k9, w.before args s = true := fun k9 h w hw => jm_word hts hXw (hk k9 h) hw
  rw [← ho] at hown
  simp only [jm_stp] at hs
  have hn : npc = pc + 1 := hn
  subst hn
  split at hs
  · rename_i i a r
    split at hs
    · rename_i hc
      have hcf := jm_nx_inj hs
      subst hcf
      intro Hc locs arr cells slots hR hS hl h1 h2
      obtain ⟨⟨hc1, hc2⟩, hc3, hc4⟩ := hc
      have hin := jm_vin hc3 hc4
      have G2 := G' Hc locs arr cells slots hR hS hl h1 h2
      simp only [List.map_cons, jm_cvr] at G2
      have hP := hR.1 a _ (jm_rar hc1 hc2)
      have hty : ∃ ty : FieldType, (jm_tys dA)[jm_kd H a - 1]? = some (dA (jm_kd H a - 1), ty) ∧ ty.isReference = true := by
        rcases (show jm_kd H a = 3 ∨ jm_kd H a = 4 ∨ jm_kd H a = 5 by omega) with h9 | h9 | h9 <;> rw [h9] <;> exact ⟨_, rfl, rfl⟩
      obtain ⟨ty, ht, hrt⟩ := hty
      exact W.aald (v := va_rf ((jm_rf H a i.toNatClampNeg).map (base + ·))) (ty := ty) hx hb hP ((hK.2 _ _ ht).1 (jm_ln H a) (fun j => va_rf ((jm_rf H a j).map (base + ·)))) hrt (fun h => by cases h) (by show ¬ (i < 0 ∨ (arrV _ _ _).slots.size ≤ _); rw [arrV_size]; exact hin) (by show (arrV _ _ _).slots[_]? = _; rw [arrV_read _ _ hc4]) rfl rfl hd G2
    · cases hs
  · cases hs
set_option maxHeartbeats 4000000 in
theorem jm_s_iast (C : jm_Cx p s m args meth c dC dI dA base b L xs q) (hF : jm_Fa q pc (.iastore, npc, a0, b0, z0)) (ho : jm_on q.2.2.2.2.2 = q.1.cls) (hn0 : s.heap.size = base + n0)
    (hs : jm_stp xs L E (.iastore, npc, a0, b0, z0) pc ls st H = some (.inl cf)) (G' : jm_G p l e R s m args below meth c Q dC dI dA base b q n0 s0 cf) : jm_G p l e R s m args below meth c Q dC dI dA base b q n0 s0 (pc, ls, st, H) := by
  obtain ⟨hx, hb, hml, hown, hts, hXw, hK, hXs, hbb, hbs, hmn⟩ := C
  obtain ⟨hd, hn, hk, hsd⟩ := hF
  have hw : ∀ k9 : jm_K, jm_need (.iastore, npc, a0, b0, z0) = some k9 → ∀ w ∈ jm_lw q.2.2.2.2.2 k9, w.before args s = true := fun k9 h w hw => jm_word hts hXw (hk k9 h) hw
  rw [← ho] at hown
  simp only [jm_stp] at hs
  have hn : npc = pc + 1 := hn
  subst hn
  split at hs
  · rename_i v i a r
    split at hs
    · rename_i hc
      have hcf := jm_nx_inj hs
      subst hcf
      intro Hc locs arr cells slots hR hS hl h1 h2
      have hD := jm_ws_D (dA := dA) (base := base) (H := H) (jm_A base) (fun _ h => h)
      have ha : a < H.1.length := jm_kd_lt (by omega)
      refine va_iast hx hb hK hR.1 hD hS a 0 (jm_iar hc.1) rfl (jm_vin hc.2.1 hc.2.2) hd (fun H1 locs1 hP1 hD1 hS1 => ?_)
      refine jm_size fun hz => ?_
      refine G' H1 locs1 arr cells slots (jm_Rl_set hR rfl (fun j hj => jm_at_congr rfl (jm_up_ne hj) rfl) ?_ hP1 ha hn0 h1 hz) hS1 hl h1 h2
      unfold jm_at
      show (base + a, jm_cell dA base (jm_kd H a) (jm_ln H a) (jm_rf H a) (jm_up H.2.1 a i.toNatClampNeg v a) (H.2.2 a)) = _
      unfold jm_cell
      rw [hc.1, if_pos rfl, jm_up_eq]
      rfl
    · cases hs
  · cases hs
set_option maxHeartbeats 4000000 in
theorem jm_s_last (C : jm_Cx p s m args meth c dC dI dA base b L xs q) (hF : jm_Fa q pc (.lastore, npc, a0, b0, z0)) (ho : jm_on q.2.2.2.2.2 = q.1.cls) (hn0 : s.heap.size = base + n0)
    (hs : jm_stp xs L E (.lastore, npc, a0, b0, z0) pc ls st H = some (.inl cf)) (G' : jm_G p l e R s m args below meth c Q dC dI dA base b q n0 s0 cf) : jm_G p l e R s m args below meth c Q dC dI dA base b q n0 s0 (pc, ls, st, H) := by
  obtain ⟨hx, hb, hml, hown, hts, hXw, hK, hXs, hbb, hbs, hmn⟩ := C
  obtain ⟨hd, hn, hk, hsd⟩ := hF
  have hw : ∀ k9 : jm_K, jm_need (.lastore, npc, a0, b0, z0) = some k9 → ∀ w ∈ jm_lw q.2.2.2.2.2 k9, w.before args s = true := fun k9 h w hw => jm_word hts hXw (hk k9 h) hw
  rw [← ho] at hown
  simp only [jm_stp] at hs
  have hn : npc = pc + 1 := hn
  subst hn
  split at hs
  · rename_i v i a r
    split at hs
    · rename_i hc
      have hcf := jm_nx_inj hs
      subst hcf
      intro Hc locs arr cells slots hR hS hl h1 h2
      have hD := jm_ws_D (dA := dA) (base := base) (H := H) (jm_A base) (fun _ h => h)
      have ha : a < H.1.length := jm_kd_lt (by omega)
      refine va_last hx hb hK hR.1 hD hS a 1 (jm_lar hc.1) rfl (jm_vin hc.2.1 hc.2.2) hd (fun H1 locs1 hP1 hD1 hS1 => ?_)
      refine jm_size fun hz => ?_
      refine G' H1 locs1 arr cells slots (jm_Rl_set hR rfl (fun j hj => jm_at_congr rfl rfl (jm_up_ne hj)) ?_ hP1 ha hn0 h1 hz) hS1 hl h1 h2
      unfold jm_at
      show (base + a, jm_cell dA base (jm_kd H a) (jm_ln H a) (jm_rf H a) (H.2.1 a) (jm_up H.2.2 a i.toNatClampNeg v a)) = _
      unfold jm_cell
      rw [hc.1, if_neg (by omega), if_pos rfl, jm_up_eq]
      rfl
    · cases hs
  · cases hs
set_option maxHeartbeats 4000000 in
theorem jm_s_aast (C : jm_Cx p s m args meth c dC dI dA base b L xs q) (hF : jm_Fa q pc (.aastore, npc, a0, b0, z0)) (ho : jm_on q.2.2.2.2.2 = q.1.cls) (hn0 : s.heap.size = base + n0)
    (hs : jm_stp xs L E (.aastore, npc, a0, b0, z0) pc ls st H = some (.inl cf)) (G' : jm_G p l e R s m args below meth c Q dC dI dA base b q n0 s0 cf) : jm_G p l e R s m args below meth c Q dC dI dA base b q n0 s0 (pc, ls, st, H) := by
  obtain ⟨hx, hb, hml, hown, hts, hXw, hK, hXs, hbb, hbs, hmn⟩ := C
  obtain ⟨hd, hn, hk, hsd⟩ := hF
  have hw : ∀ k9 : jm_K, jm_need (.aastore, npc, a0, b0, z0) = some k9 → ∀ w ∈ jm_lw q.2.2.2.2.2 k9, w.before args s = true := fun k9 h w hw => jm_word hts hXw (hk k9 h) hw
  rw [← ho] at hown
  simp only [jm_stp] at hs
  have hn : npc = pc + 1 := hn
  subst hn
  split at hs
  · rename_i v i a r
    split at hs
    · rename_i hc
      have hcf := jm_nx_inj hs
      subst hcf
      intro Hc locs arr cells slots hR hS hl h1 h2
      have hD := jm_ws_D (dA := dA) (base := base) (H := H) (jm_A base) (fun _ h => h)
      have ha : a < H.1.length := jm_kd_lt (by omega)
      obtain ⟨⟨hc1, hc2⟩, hc3, hc4, hc5⟩ := hc
      have kk : ∀ (H1 : Heap) (locs1 : List Loc), va_P (dC, dI) jm_cl ((jm_ws dA base H).set a (base + a, .inl (dA (jm_kd H a - 1), jm_ln H a, .inr (.inr (.inr (.inr (va_up (fun j => (jm_rf H a j).map (base + ·)) i.toNatClampNeg (some (base + v))))))))) H1 → va_D (jm_A base) ((jm_ws dA base H).set a (base + a, .inl (dA (jm_kd H a - 1), jm_ln H a, .inr (.inr (.inr (.inr (va_up (fun j => (jm_rf H a j).map (base + ·)) i.toNatClampNeg (some (base + v))))))))) → va_S (jm_A base) s.heap H1 locs1 → W p l e R s m args below meth c H1 locs1 cells slots Q (F0 m (pc + 1) arr (r.map (jm_cv base b))) := by
        intro H1 locs1 hP1 hD1 hS1
        refine jm_size fun hz => ?_
        refine G' H1 locs1 arr cells slots (jm_Rl_set hR (List.length_set ..) (fun j hj => jm_at_congr (jm_rset_ne hj) rfl rfl) ?_ hP1 ha hn0 h1 hz) hS1 hl (h1.trans (List.length_set ..).symm) (h2.trans jm_sl_set.symm)
        obtain ⟨e1, e2, e3⟩ := jm_rset_at (H := H) (v := v) (k := i.toNatClampNeg) ha
        unfold jm_at
        rw [e1, e2, e3]
        unfold jm_cell
        rw [if_neg (by omega), if_neg (by omega), if_pos (by omega)]
        congr 8
        funext j
        unfold va_up
        by_cases hj : j = i.toNatClampNeg
        · simp only [if_pos hj, Option.map]
        · simp only [if_neg hj]
      have hin := jm_vin hc3 hc4
      rcases (show jm_kd H a = 3 ∨ jm_kd H a = 4 ∨ jm_kd H a = 5 by omega) with h9 | h9 | h9
      · have hc5 : jm_kd H v = 10 + 5 := by rw [hc5, h9]; rfl
        exact va_astq hx hb hK hR.1 hD hS a (jm_kd H a - 1) v 5 (jm_rar hc1 (Nat.le_trans hc2 (by decide))) (by rw [h9]; rfl) (jm_obj hc5) (jm_clg (by omega)) hin hd kk
      · have hc5 : jm_kd H v = 10 + 0 := by rw [hc5, h9]; rfl
        exact va_astq hx hb hK hR.1 hD hS a (jm_kd H a - 1) v 0 (jm_rar hc1 (Nat.le_trans hc2 (by decide))) (by rw [h9]; rfl) (jm_obj hc5) (jm_clg (by omega)) hin hd kk
      · have hc5 : jm_kd H v = 10 + 6 := by rw [hc5, h9]; rfl
        exact va_astq hx hb hK hR.1 hD hS a (jm_kd H a - 1) v 6 (jm_rar hc1 (Nat.le_trans hc2 (by decide))) (by rw [h9]; rfl) (jm_obj hc5) (jm_clg (by omega)) hin hd kk
    · cases hs
  · cases hs
end JMY
