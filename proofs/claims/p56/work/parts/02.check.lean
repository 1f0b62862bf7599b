/-! Every row of the tables is what the class files' bytes and the Statement's words say. -/
def jm_len (i : Instr) (pc npc : Nat) : Nat := match i with
  | .bipush _ | .ldc _ | .iload _ | .lload _ | .aload _ | .istore _ | .lstore _ | .astore _ | .newarray _ => 2
  | .sipush _ | .ldc_w _ | .ldc2_w _ | .iinc _ _ | .ifCond _ _ | .if_icmp _ _ | .goto _ | .getfield _ | .putfield _ | .invokevirtual _ | .invokespecial _ | .invokestatic _ | .new _ | .anewarray _ => 3
  | .multianewarray _ _ => 4
  | .tableswitch _ _ _ _ | .lookupswitch _ _ => npc - pc
  | _ => 1
def jm_need (e : jm_I) : Option jm_K := match e.1 with
  | .getfield i | .putfield i => some (i, 0, e.2.2.1, e.2.2.2.1, e.2.2.2.2)
  | .invokevirtual i => some (i, e.2.2.2.1, e.2.2.1, 0, e.2.2.2.2)
  | .invokespecial i | .invokestatic i => some (i, e.2.2.2.1, e.2.2.1, 0, 0)
  | .new i => some (i, 7, e.2.2.1, e.2.2.2.1, 0)
  | .anewarray i => some (i, 8, e.2.2.1, 0, 0)
  | .multianewarray i _ => some (i, 9, 0, 0, 0)
  | .ldc i => some (i, (if e.2.2.1 = 1 then 16 else 10), e.2.2.1, 0, e.2.2.2.2)
  | .ldc_w i => some (i, 10, 0, 0, e.2.2.2.2)
  | .ldc2_w i => some (i, 11, 0, 0, e.2.2.2.2)
  | _ => none
def jm_tyz (t : FieldType) (z : Int) : Bool := match t with
  | .int => z == 0
  | .boolean => z == 2
  | .object _ | .array _ => z == 1
  | _ => false
/-- what a link says of itself -/
noncomputable def jm_lok (own : String) (k : jm_K) : Bool := match k.2.1 with
  | 0 => decide (k.2.2.1 < 10) && decide (k.2.2.2.1 < jm_N k.2.2.1) && jm_tyz (jm_ty k.2.2.1 k.2.2.2.1) k.2.2.2.2
  | 1 => decide (0 ≤ k.2.2.2.2) && decide (k.2.2.2.2 < 10) && decide (k.2.2.1 < 173) && (match jm_MT[k.2.2.1]? with
    | some r => decide (jm_R k.2.2.2.2.toNat = r.1.cls) && plainName r.1.cls
    | none => false)
  | 2 | 4 => decide (k.2.2.1 < 173) && (match jm_MT[k.2.2.1]? with
    | some r => plainName r.1.cls
    | none => false)
  | 3 | 5 => decide (k.2.2.1 < 173) && (match jm_MT[k.2.2.1]? with
    | some r => decide (r.1.name = "<init>") && decide (r.2.2.2.1 = none) && plainName r.1.cls
    | none => false)
  | 6 => (match jm_MT[k.2.2.1]? with
    | some r => decide (r.1 = Lib.objectInit) && decide (r.2.1.data.toList = [0xb1]) && decide (r.2.2.1 = 1) && decide (r.2.2.2.1 = none) && decide (r.2.2.2.2.1 = 0)
    | none => false)
  | 15 => (match jm_MT[k.2.2.1]? with
    | some r => decide (r.1.cls = "java/lang/String") && plainName r.1.cls
    | none => false)
  | 16 => decide (own = "LeapingPassagesLaw") && k.1 == 53
  | 7 => decide (k.2.2.1 < 10) && decide (k.2.2.2.1 = jm_N k.2.2.1)
  | _ => true
noncomputable def jm_side (q : jm_M) (pc : Nat) (e : jm_I) : Bool := match e.1 with
  | .ifCond _ off | .if_icmp _ off | .goto off => decide ((pc : Int) + off = (e.2.2.1 : Int))
  | .putfield _ => (!(jm_T e.2.2.1 e.2.2.2.1).2.2.2 || (decide (q.1.name = "<init>") && decide ((jm_T e.2.2.1 e.2.2.2.1).1 = q.1.cls)))
  | .invokevirtual _ => (e.2.2.2.1 == 1 || e.2.2.2.1 == 15)
  | .ldc _ => e.2.2.1 == 0 || e.2.2.1 == 1
  | .invokespecial _ => (e.2.2.2.1 == 6 || e.2.2.2.1 == 3 || e.2.2.2.1 == 5)
  | .invokestatic _ => (e.2.2.2.1 == 12 || e.2.2.2.1 == 13 || e.2.2.2.1 == 14 || e.2.2.2.1 == 2 || e.2.2.2.1 == 4)
  | .multianewarray _ d => d == 2
  | .lookupswitch _ ps => (ps.toList.zip (ps.toList.drop 1)).all (fun (a, next) => a.1 < next.1)
  | .ireturn => (e.2.2.1 == 0 && decide (q.2.2.2.1 = some .int)) || (e.2.2.1 == 1 && decide (q.2.2.2.1 = some .boolean))
  | .lreturn => decide (q.2.2.2.1 = some .long)
  | .areturn => (match q.2.2.2.1 with
    | some (.object _) => true
    | _ => false)
  | .return_ => decide (q.2.2.2.1 = none)
  | _ => true
def jm_keq (a b : jm_K) : Bool := a.1 == b.1 && a.2.1 == b.2.1 && a.2.2.1 == b.2.2.1 && a.2.2.2.1 == b.2.2.2.1 && a.2.2.2.2 == b.2.2.2.2
/-- the bytes from pc on, and the rows of the table from pc on -/
noncomputable def jm_lin (q : jm_M) : List (Option jm_I) → List UInt8 → Nat → Bool
  | [], _, _ => true
  | none :: t, bs, pc => jm_lin q t bs.tail (pc + 1)
  | some e :: t, bs, pc => (match Decoder.instr pc (Jvm.Free.DS.win bs pc (jm_len e.1 pc e.2.1)) (pc % 4) with
      | .ok (j, p) => decide (j = e.1) && p == pc % 4 + jm_len e.1 pc e.2.1
      | .error _ => false) && e.2.1 == pc + jm_len e.1 pc e.2.1 && (match jm_need e with
    | some k => (jm_LK q.2.2.2.2.2).any (jm_keq k)
    | none => true) && jm_side q pc e && jm_lin q t bs.tail (pc + 1)
noncomputable def jm_okm (mi : Nat) : Bool := match jm_MT[mi]? with
  | some q => decide (q.1.cls ≠ "java/lang/invoke/MethodHandle" ∧ q.1.cls ≠ "java/lang/invoke/VarHandle") && decide ((parseMethodDescriptor q.1.desc).map (fun d => d.parameters.length) = some q.2.2.2.2.1) && decide (q.2.2.1 ≤ 22) && (plainName q.1.cls || q.2.2.2.2.2 == 12 || q.2.2.2.2.2 == 14 || q.2.2.2.2.2 == 13) && decide (jm_own[q.2.2.2.2.2]? = some q.1.cls) && (match jm_JT[mi / 16]? with
    | some g => match g[mi % 16]? with
      | some l => jm_lin q l.flatten q.2.1.data.toList 0 && decide (l.flatten.length ≤ q.2.1.size) && l.dropLast.all (fun c => c.length == 64)
      | none => true
    | none => true)
  | none => false
def jm_on (o : Nat) : String := match jm_own[o]? with
  | some s => s
  | none => ""
noncomputable def jm_lw (o : Nat) (q : jm_K) : List Cond := match q.2.1 with
  | 0 => [.fieldLink (jm_on o) q.1 (jm_T q.2.2.1 q.2.2.2.1).1 (jm_T q.2.2.1 q.2.2.2.1).2.1 (jm_T q.2.2.1 q.2.2.2.1).2.2.1]
  | 1 => match jm_MT[q.2.2.1]? with
    | some r => [.methodLink (jm_on o) q.1 r.1, .instanceMethod r.1, .selects r.1.cls r.1 r.1, .initialized r.1.cls, .code r.1 r.2.1 r.2.2.1 r.2.2.2.1]
    | none => []
  | 2 => match jm_MT[q.2.2.1]? with
    | some r => [.methodLink (jm_on o) q.1 r.1, .static r.1, .initialized r.1.cls, .code r.1 r.2.1 r.2.2.1 r.2.2.2.1]
    | none => []
  | 3 => match jm_MT[q.2.2.1]? with
    | some r => [.methodLink (jm_on o) q.1 r.1, .instanceMethod r.1, .initialized r.1.cls, .code r.1 r.2.1 r.2.2.1 r.2.2.2.1]
    | none => []
  | 4 => match jm_MT[q.2.2.1]? with
    | some r => [.methodLinkNest (jm_on o) q.1 r.1 "LeapingPassages", .static r.1, .initialized r.1.cls, .code r.1 r.2.1 r.2.2.1 r.2.2.2.1]
    | none => []
  | 5 => match jm_MT[q.2.2.1]? with
    | some r => [.methodLinkNest (jm_on o) q.1 r.1 "LeapingPassages", .instanceMethod r.1, .initialized r.1.cls, .code r.1 r.2.1 r.2.2.1 r.2.2.2.1]
    | none => []
  | 6 => match jm_MT[q.2.2.1]? with
    | some r => [.methodLink (jm_on o) q.1 r.1, .instanceMethod r.1, .code r.1 r.2.1 r.2.2.1 r.2.2.2.1]
    | none => []
  | 7 => [.classLink (jm_on o) q.1 (jm_R q.2.2.1), .instantiable (jm_R q.2.2.1) (jm_N q.2.2.1), .initialized (jm_R q.2.2.1)]
  | 8 => [.classLink (jm_on o) q.1 (match q.2.2.1 with | 0 => "LeapingPassages$Shelf" | 1 => "LeapingPassages$Ask" | _ => "LeapingPassages$Spans"), .arrayOver (.object (match q.2.2.1 with | 0 => "LeapingPassages$Shelf" | 1 => "LeapingPassages$Ask" | _ => "LeapingPassages$Spans"))]
  | 15 => match jm_MT[q.2.2.1]? with
    | some r => [.methodLink (jm_on o) q.1 r.1, .instanceMethod r.1, .selects r.1.cls r.1 r.1, .initialized r.1.cls, .code r.1 r.2.1 r.2.2.1 r.2.2.2.1]
    | none => []
  | 16 | 9 => []
  | 10 => [.constant (jm_on o) q.1 (Int32.ofInt q.2.2.2.2)]
  | 11 => [.constantLong (jm_on o) q.1 (Int64.ofInt q.2.2.2.2)]
  | 13 => [.methodLink (jm_on o) q.1 Lib.Math.max.name, .static Lib.Math.max.name, .initialized "java/lang/Math", .code Lib.Math.max.name Lib.Math.max.code 2 (some .int)]
  | 14 => [.methodLink (jm_on o) q.1 Lib.Math.min.name, .static Lib.Math.min.name, .initialized "java/lang/Math", .code Lib.Math.min.name Lib.Math.min.code 2 (some .int)]
  | _ => [.methodLink (jm_on o) q.1 arraycopyName, .native arraycopyName, .static arraycopyName, .initialized "java/lang/System"]
noncomputable def jm_tc : List (List Cond) := [k2_sels lw_privs, tables_1_1, tables_1_2, tables_1_3, tables_1_4]
theorem jm_tc_in : ∀ l ∈ jm_tc, ∀ w ∈ l, w ∈ lw_tbl := by
  intro l hl w hw
  simp only [jm_tc, List.mem_cons, List.not_mem_nil, or_false] at hl
  simp only [lw_tbl, tables_1, List.mem_append]
  rcases hl with h | h | h | h | h <;> subst h <;> simp only [hw, true_or, or_true]
noncomputable def jm_tw (p : Nat × Nat) : Option Cond := match jm_tc[p.1]? with
  | some l => l[p.2]?
  | none => none
theorem jm_tw_in {p : Nat × Nat} {w : Cond} (h : jm_tw p = some w) : w ∈ lw_tbl := by
  unfold jm_tw at h
  split at h
  · rename_i l hl
    exact jm_tc_in l (List.mem_of_getElem? hl) w (List.mem_of_getElem? h)
  · cases h
theorem jm_lwk {o : Nat} {l : List jm_K} {ps : List (List (Nat × Nat))} (h : l.map (jm_lw o) = ps.map (fun r => r.filterMap jm_tw)) : ∀ q ∈ l, ∀ w ∈ jm_lw o q, w ∈ lw_tbl := by
  intro q hq w hw
  have hm : jm_lw o q ∈ l.map (jm_lw o) := List.mem_map.mpr ⟨q, hq, rfl⟩
  rw [h] at hm
  obtain ⟨r, -, hr⟩ := List.mem_map.mp hm
  rw [← hr] at hw
  obtain ⟨p, -, hp⟩ := List.mem_filterMap.mp hw
  exact jm_tw_in hp
set_option maxRecDepth 100000 in
theorem jm_lkw0 : ∀ q ∈ jm_lk0, ∀ w ∈ jm_lw 0 q, w ∈ lw_tbl := jm_lwk (ps := [[(1, 24), (1, 25), (1, 26)], [(1, 27), (1, 28), (1, 2)], [(1, 29), (1, 30), (1, 2), (1, 31)], [(2, 38)], [(2, 39)], [(1, 57), (1, 58), (1, 3)], [(1, 59), (1, 60), (1, 3), (1, 61)], [(2, 40)], [(2, 41)], [(1, 137), (1, 138), (1, 5)], [(1, 139), (1, 140), (1, 5), (1, 141)], [(2, 42)], [(1, 201), (1, 145), (1, 6)], [(1, 202), (1, 147), (1, 6), (1, 148)], [(2, 43)], [(2, 44)], [(1, 203), (1, 204), (1, 8)], [(1, 205), (1, 206), (1, 8), (1, 207)], [(2, 45)], [(1, 219), (1, 220), (1, 9)], [(1, 221), (1, 222), (1, 9), (1, 223)], [(2, 46)], [(2, 17), (2, 18)], [(2, 47)], [(2, 48)], [(2, 17), (2, 19), (1, 10)], [(2, 20), (2, 21), (1, 10), (2, 22)], [(4, 87), (4, 88), (1, 1), (4, 89)], [(2, 79), (2, 81), (0, 0), (1, 1), (2, 82)], [(4, 90), (4, 91), (4, 92), (1, 10), (4, 93)], [(4, 101), (4, 103), (0, 27), (1, 1), (4, 104)], [(4, 113), (4, 114), (4, 115), (1, 10), (4, 116)], [(2, 25)], [(2, 29)], [(4, 117), (4, 118), (1, 1), (4, 119)], [(4, 105), (4, 106), (4, 107), (1, 10), (4, 108)], [(4, 109), (4, 110), (4, 111), (1, 10), (4, 112)], [(2, 27)], [(3, 58), (3, 59), (1, 1), (3, 60)], [(1, 42)], [(3, 61), (2, 222), (2, 223), (1, 2), (2, 224)], [(2, 233), (2, 234), (2, 235), (1, 5), (2, 236)], [(3, 66), (2, 230), (2, 231), (1, 2), (2, 232)], [(3, 67), (2, 226), (2, 227), (1, 2), (2, 228)], [(2, 95), (2, 96), (2, 97), (1, 2), (2, 98)], [(1, 35)], [(1, 39)], [(1, 213)], [(3, 138), (3, 139), (3, 140), (1, 8), (3, 141)], [(3, 187), (3, 188), (3, 189), (1, 9), (3, 190)], [(4, 16), (4, 18), (0, 26), (1, 1), (4, 19)], [(1, 235)], [(1, 131)], [(3, 72), (3, 74), (0, 11), (1, 1), (3, 75)], [(3, 76), (3, 77), (3, 78), (1, 3), (3, 79)], [(3, 80), (3, 81), (3, 82), (1, 3), (3, 83)], [(3, 88), (3, 89), (3, 90), (1, 3), (3, 91)], [(3, 96), (3, 97), (1, 1), (3, 98)], [(2, 111), (2, 112), (2, 113), (1, 3), (2, 114)], [(3, 99), (3, 101), (0, 12), (1, 1), (3, 102)], [(3, 103), (3, 104), (3, 105), (1, 3), (3, 106)], [(2, 83), (2, 84), (2, 85), (1, 5), (2, 86)], [(2, 87), (2, 89), (0, 1), (1, 1), (2, 90)], [(1, 128)], [(1, 72)], [(1, 76)], [(1, 80)], [(1, 84)], [(1, 87)], [(1, 95)], [(1, 97)], [(1, 100)], [(1, 37)], [(2, 99), (2, 100), (2, 101), (1, 2), (2, 102)], [(2, 103), (2, 104), (2, 105), (1, 2), (2, 106)], [(2, 115), (2, 116), (2, 117), (1, 5), (2, 118)], [(1, 161)], [(4, 31), (2, 174), (2, 175), (1, 6), (2, 176)], [(4, 32), (4, 33), (4, 34), (1, 6), (4, 35)], [(4, 40), (2, 181), (1, 11), (2, 182)], [(4, 41), (2, 184), (1, 11), (2, 185)], [(4, 42), (2, 166), (2, 167), (1, 6), (2, 168)], [(4, 43), (4, 44), (4, 45), (1, 6), (4, 46)], [(4, 47), (4, 48), (4, 49), (1, 6), (4, 50)], [(4, 153), (2, 151), (2, 152), (1, 6), (2, 153)], [(4, 55), (4, 56), (4, 57), (1, 6), (4, 58)], [(4, 59), (4, 60), (4, 61), (1, 6), (4, 62)], [(4, 67), (2, 170), (2, 171), (1, 6), (2, 172)], [(4, 144), (4, 145), (4, 146), (1, 6), (4, 147)], [(4, 82), (2, 197), (2, 198), (1, 5), (2, 199)], [(4, 72), (4, 73), (4, 74), (1, 6), (4, 75)], [(4, 124), (4, 125), (4, 126), (1, 10), (4, 127)], [(2, 212), (2, 213), (2, 214), (1, 2), (2, 215)], [(3, 1), (3, 2), (3, 3), (1, 2), (3, 4)], [(3, 8), (3, 9), (3, 10), (1, 3), (3, 11)], [(2, 49)], [(3, 24), (3, 25), (3, 26), (1, 2), (3, 27)], [(3, 29), (3, 30), (3, 31), (1, 2), (3, 32)], [(3, 39), (3, 40), (3, 41), (1, 2), (3, 42)], [(1, 44)], [(3, 43), (3, 45), (0, 10), (1, 1), (3, 46)]]) rfl
set_option maxRecDepth 100000 in
theorem jm_lkw1 : ∀ q ∈ jm_lk1, ∀ w ∈ jm_lw 1 q, w ∈ lw_tbl := jm_lwk (ps := [[(1, 69), (1, 25), (1, 26)], [(1, 70)], [(1, 85)], [(1, 73)], [(1, 77)], [(1, 81)], [(1, 88)], [(1, 91)], [(1, 94)], [(1, 96)], [(1, 98)], [(1, 101)], [(3, 111)], [(3, 112), (2, 181), (1, 11), (2, 182)], [(3, 113), (2, 184), (1, 11), (2, 185)]]) rfl
set_option maxRecDepth 100000 in
theorem jm_lkw2 : ∀ q ∈ jm_lk2, ∀ w ∈ jm_lw 2 q, w ∈ lw_tbl := jm_lwk (ps := [[(1, 224), (1, 25), (1, 26)], [(1, 227)], [(1, 228)], [(1, 225)], [(1, 226)], [(1, 229)], [(1, 230)], [(1, 231)], [(1, 232)], [(1, 233)], [(1, 130)], [(1, 234)], [(1, 212)], [(1, 210)], [(3, 191), (3, 193), (0, 13), (1, 9), (3, 194)], [(3, 219), (3, 221), (0, 19), (1, 9), (3, 222)], [(3, 226), (3, 228), (0, 20), (1, 9), (3, 229)], [(3, 195), (3, 196), (1, 8), (3, 197)], [(3, 198), (3, 200), (0, 14), (1, 9), (3, 201)], [(3, 207), (3, 209), (0, 16), (1, 9), (3, 210)], [(3, 211), (3, 213), (0, 17), (1, 9), (3, 214)], [(3, 215), (3, 217), (0, 18), (1, 9), (3, 218)], [(3, 202), (3, 81), (3, 82), (1, 3), (3, 83)], [(3, 203), (3, 205), (0, 15), (1, 9), (3, 206)], [(3, 223), (3, 224), (1, 9), (3, 225)], [(4, 8), (4, 10), (0, 24), (1, 9), (4, 11)], [(4, 12), (4, 14), (0, 25), (1, 9), (4, 15)], [(3, 230), (3, 231), (1, 9), (3, 232)], [(3, 234), (3, 236), (0, 21), (1, 9), (3, 237)], [(3, 238), (3, 97), (1, 1), (3, 98)], [(3, 239), (4, 1), (0, 22), (1, 9), (4, 2)], [(4, 3), (4, 5), (0, 23), (1, 9), (4, 6)], [(3, 233), (2, 181), (1, 11), (2, 182)], [(4, 7), (3, 104), (3, 105), (1, 3), (3, 106)]]) rfl
set_option maxRecDepth 100000 in
theorem jm_lkw3 : ∀ q ∈ jm_lk3, ∀ w ∈ jm_lw 3 q, w ∈ lw_tbl := jm_lwk (ps := [[(1, 62), (1, 25), (1, 26)], [(1, 63), (1, 64)], [(1, 126)], [(1, 63), (1, 65), (1, 4)], [(1, 66), (1, 67), (1, 4), (1, 68)], [(1, 129)], [(3, 84), (3, 85), (3, 86), (1, 4), (3, 87)], [(1, 89)], [(1, 92)], [(1, 99)], [(1, 74)], [(1, 78)], [(1, 82)], [(3, 107), (3, 108), (3, 109), (1, 4), (3, 110)], [(3, 12), (3, 13), (3, 14), (1, 4), (3, 15)]]) rfl
set_option maxRecDepth 100000 in
theorem jm_lkw4 : ∀ q ∈ jm_lk4, ∀ w ∈ jm_lw 4 q, w ∈ lw_tbl := jm_lwk (ps := [[(1, 174), (1, 25), (1, 26)], [(1, 175)], [(2, 158), (2, 159), (1, 18), (2, 160)], [(2, 190), (2, 181), (1, 11), (2, 182)], [(1, 157)], [(2, 195), (2, 134), (2, 135), (1, 6), (2, 136)]]) rfl
set_option maxRecDepth 100000 in
theorem jm_lkw5 : ∀ q ∈ jm_lk5, ∀ w ∈ jm_lw 5 q, w ∈ lw_tbl := jm_lwk (ps := [[(1, 142), (1, 25), (1, 26)], [(1, 143), (1, 144)], [(1, 181)], [(1, 143), (1, 145), (1, 6)], [(1, 146), (1, 147), (1, 6), (1, 148)], [(1, 182)], [(1, 169), (1, 170), (1, 7)], [(1, 171), (1, 172), (1, 7), (1, 173)], [(1, 183)], [(1, 185)], [(1, 179)], [(1, 180)], [(2, 119), (2, 112), (2, 113), (1, 3), (2, 114)], [(1, 127)], [(1, 102)], [(1, 184)], [(2, 120), (2, 122), (0, 2), (1, 5), (2, 123)], [(1, 71)], [(2, 124), (2, 126), (0, 3), (1, 5), (2, 127)], [(1, 86)], [(2, 137), (2, 138), (2, 139), (1, 2), (2, 140)], [(1, 75)], [(2, 142), (2, 144), (0, 5), (1, 5), (2, 145)], [(2, 146), (2, 148), (0, 6), (1, 5), (2, 149)], [(2, 154), (2, 155), (2, 156), (1, 7), (2, 157)], [(1, 79)], [(1, 83)], [(2, 161), (2, 163), (0, 7), (1, 5), (2, 164)], [(2, 191), (2, 192), (2, 193), (1, 7), (2, 194)], [(2, 196), (2, 197), (2, 198), (1, 5), (2, 199)], [(1, 159)], [(1, 93)], [(1, 41)], [(1, 90)], [(2, 128), (2, 130), (0, 4), (1, 5), (2, 131)], [(2, 133), (2, 134), (2, 135), (1, 6), (2, 136)], [(1, 34)], [(2, 132), (2, 104), (2, 105), (1, 2), (2, 106)], [(2, 150), (2, 151), (2, 152), (1, 6), (2, 153)], [(1, 152)], [(1, 155)], [(2, 165), (2, 166), (2, 167), (1, 6), (2, 168)], [(2, 169), (2, 170), (2, 171), (1, 6), (2, 172)], [(2, 177), (2, 178), (1, 5), (2, 179)], [(2, 186), (2, 187), (2, 188), (1, 7), (2, 189)], [(2, 180), (2, 181), (1, 11), (2, 182)], [(2, 183), (2, 184), (1, 11), (2, 185)], [(2, 200), (2, 202), (0, 8), (1, 5), (2, 203)], [(2, 204), (2, 206), (0, 9), (1, 5), (2, 207)]]) rfl
set_option maxRecDepth 100000 in
theorem jm_lkw6 : ∀ q ∈ jm_lk6, ∀ w ∈ jm_lw 6 q, w ∈ lw_tbl := jm_lwk (ps := [[(2, 23), (1, 25), (1, 26)], [(2, 24)], [(2, 28)], [(4, 94), (4, 95), (1, 18), (4, 96)], [(2, 26)], [(4, 128), (4, 129), (4, 130), (1, 10), (4, 131)], [(4, 132), (2, 174), (2, 175), (1, 6), (2, 176)], [(1, 151)], [(1, 154)], [(1, 158)]]) rfl
set_option maxRecDepth 100000 in
theorem jm_lkw7 : ∀ q ∈ jm_lk7, ∀ w ∈ jm_lw 7 q, w ∈ lw_tbl := jm_lwk (ps := [[(1, 149), (1, 25), (1, 26)], [(1, 150)], [(1, 153)], [(1, 156)], [(2, 173), (2, 174), (2, 175), (1, 6), (2, 176)], [(4, 148), (2, 166), (2, 167), (1, 6), (2, 168)], [(4, 77), (4, 33), (4, 34), (1, 6), (4, 35)], [(4, 76), (2, 181), (1, 11), (2, 182)]]) rfl
set_option maxRecDepth 100000 in
theorem jm_lkw8 : ∀ q ∈ jm_lk8, ∀ w ∈ jm_lw 8 q, w ∈ lw_tbl := jm_lwk (ps := [[(1, 208), (1, 25), (1, 26)], [(1, 209)], [(1, 211)]]) rfl
set_option maxRecDepth 100000 in
theorem jm_lkw9 : ∀ q ∈ jm_lk9, ∀ w ∈ jm_lw 9 q, w ∈ lw_tbl := jm_lwk (ps := [[(1, 32), (1, 25), (1, 26)], [(1, 33)], [(1, 36)], [(1, 38)], [(1, 43)], [(1, 160)], [(1, 40)], [(2, 141), (2, 134), (2, 135), (1, 6), (2, 136)], [(3, 28), (2, 100), (2, 101), (1, 2), (2, 102)], [(2, 216), (2, 217), (2, 218), (1, 2), (2, 219)], [(2, 221), (2, 222), (2, 223), (1, 2), (2, 224)], [(2, 225), (2, 226), (2, 227), (1, 2), (2, 228)], [(2, 229), (2, 230), (2, 231), (1, 2), (2, 232)], [(2, 220)], [(3, 5), (3, 7), (3, 6), (1, 16)], [(3, 33), (3, 34), (1, 17), (3, 35)]]) rfl
set_option maxRecDepth 100000 in
theorem jm_lkw10 : ∀ q ∈ jm_lk10, ∀ w ∈ jm_lw 10 q, w ∈ lw_tbl := jm_lwk (ps := [[(3, 53)], [(3, 50), (3, 51), (1, 0), (3, 52)], [(3, 54), (3, 55), (3, 56), (1, 1), (3, 57)], [(3, 62), (3, 63), (3, 64), (1, 1), (3, 65)], [(3, 68), (3, 69), (3, 70), (1, 1), (3, 71)], [(3, 92), (3, 93), (3, 94), (1, 1), (3, 95)], [(3, 114), (3, 115), (3, 116), (1, 1), (3, 117)], [(3, 118), (3, 119), (3, 120), (1, 1), (3, 121)], [(3, 122), (3, 123), (3, 124), (1, 1), (3, 125)], [(3, 126), (3, 127), (3, 128), (1, 1), (3, 129)], [(3, 130), (3, 131), (3, 132), (1, 1), (3, 133)], [(2, 208), (2, 209), (2, 210), (1, 1), (2, 211)], [(3, 134), (3, 135), (3, 136), (1, 1), (3, 137)], [], [(3, 143), (3, 144), (3, 145), (1, 12), (3, 146)], [(3, 183), (3, 184), (3, 185), (1, 1), (3, 186)], [(2, 237), (2, 238), (2, 239), (1, 1), (3, 0)], [(3, 16), (3, 17), (3, 18), (1, 1), (3, 19)], [(2, 75), (2, 76), (2, 77), (1, 1), (2, 78)], [(3, 20), (3, 21), (3, 22), (1, 1), (3, 23)], [(2, 107), (2, 108), (2, 109), (1, 1), (2, 110)], [(4, 27), (4, 28), (4, 29), (1, 1), (4, 30)], [(4, 36), (4, 37), (4, 38), (1, 1), (4, 39)], [(4, 51), (4, 52), (4, 53), (1, 1), (4, 54)], [(4, 63), (4, 64), (4, 65), (1, 1), (4, 66)], [(4, 68), (4, 69), (4, 70), (1, 1), (4, 71)], [(4, 78), (4, 79), (4, 80), (1, 1), (4, 81)], [(4, 83), (4, 84), (4, 85), (1, 1), (4, 86)], [(4, 97), (4, 98), (4, 99), (1, 1), (4, 100)], [(4, 120), (4, 121), (4, 122), (1, 1), (4, 123)], [(4, 136), (4, 137), (4, 138), (1, 1), (4, 139)], [(4, 140), (4, 141), (4, 142), (1, 1), (4, 143)], [(4, 149), (4, 150), (4, 151), (1, 1), (4, 152)], [(1, 19), (1, 20), (1, 1)], [(1, 21), (1, 22), (1, 1), (1, 23)], [(3, 47), (3, 48), (1, 0), (3, 49)], [(4, 21), (4, 22), (1, 0), (4, 23)], [(2, 91), (2, 92), (2, 93), (1, 1), (2, 94)], [(4, 24), (4, 25), (1, 0), (4, 26)], [(4, 133), (4, 134), (1, 0), (4, 135)]]) rfl
set_option maxRecDepth 100000 in
theorem jm_lkw11 : ∀ q ∈ jm_lk11, ∀ w ∈ jm_lw 11 q, w ∈ lw_tbl := jm_lwk (ps := []) rfl
set_option maxRecDepth 100000 in
theorem jm_lkw12 : ∀ q ∈ jm_lk12, ∀ w ∈ jm_lw 12 q, w ∈ lw_tbl := jm_lwk (ps := [[(3, 36)], [(3, 37)], [(3, 38)]]) rfl
theorem jm_lk_in (o : Nat) : ∀ q ∈ jm_LK o, ∀ w ∈ jm_lw o q, w ∈ lw_tbl := by
  intro q hq w hw
  unfold jm_LK at hq
  split at hq
  · exact jm_lkw0 q hq w hw
  · exact jm_lkw1 q hq w hw
  · exact jm_lkw2 q hq w hw
  · exact jm_lkw3 q hq w hw
  · exact jm_lkw4 q hq w hw
  · exact jm_lkw5 q hq w hw
  · exact jm_lkw6 q hq w hw
  · exact jm_lkw7 q hq w hw
  · exact jm_lkw8 q hq w hw
  · exact jm_lkw9 q hq w hw
  · exact jm_lkw10 q hq w hw
  · exact jm_lkw11 q hq w hw
  · exact jm_lkw12 q hq w hw
  · cases hq
set_option maxRecDepth 100000 in
theorem jm_loks : ((List.range 13).all fun o => (jm_LK o).all (jm_lok (jm_on o))) = true := by decide +kernel
set_option maxRecDepth 100000 in
set_option maxHeartbeats 4000000 in
theorem jm_okg0 : ((List.range 16).all fun j => jm_okm (0 + j)) = true := by decide +kernel
set_option maxRecDepth 100000 in
set_option maxHeartbeats 4000000 in
theorem jm_okg1 : ((List.range 16).all fun j => jm_okm (16 + j)) = true := by decide +kernel
set_option maxRecDepth 100000 in
set_option maxHeartbeats 4000000 in
theorem jm_okg2 : ((List.range 16).all fun j => jm_okm (32 + j)) = true := by decide +kernel
set_option maxRecDepth 100000 in
set_option maxHeartbeats 4000000 in
theorem jm_okg3 : ((List.range 16).all fun j => jm_okm (48 + j)) = true := by decide +kernel
set_option maxRecDepth 100000 in
set_option maxHeartbeats 4000000 in
theorem jm_okg4 : ((List.range 16).all fun j => jm_okm (64 + j)) = true := by decide +kernel
set_option maxRecDepth 100000 in
set_option maxHeartbeats 4000000 in
theorem jm_okg5 : ((List.range 16).all fun j => jm_okm (80 + j)) = true := by decide +kernel
set_option maxRecDepth 100000 in
set_option maxHeartbeats 4000000 in
theorem jm_okg6 : ((List.range 16).all fun j => jm_okm (96 + j)) = true := by decide +kernel
set_option maxRecDepth 100000 in
set_option maxHeartbeats 4000000 in
theorem jm_okg7 : ((List.range 16).all fun j => jm_okm (112 + j)) = true := by decide +kernel
set_option maxRecDepth 100000 in
set_option maxHeartbeats 4000000 in
theorem jm_okg8 : ((List.range 16).all fun j => jm_okm (128 + j)) = true := by decide +kernel
set_option maxRecDepth 100000 in
set_option maxHeartbeats 4000000 in
theorem jm_okg9 : ((List.range 16).all fun j => jm_okm (144 + j)) = true := by decide +kernel
set_option maxRecDepth 100000 in
set_option maxHeartbeats 4000000 in
theorem jm_okg10 : ((List.range 14).all fun j => jm_okm (160 + j)) = true := by decide +kernel
theorem jm_okm_all : ∀ mi, mi < 174 → jm_okm mi = true := by
  intro mi h
  have key : ∀ (n g : Nat), ((List.range n).all fun j => jm_okm (g + j)) = true → g ≤ mi → mi < g + n → jm_okm mi = true := fun n g h h1 h2 => by
    have := List.all_eq_true.mp h (mi - g) (List.mem_range.mpr (by omega))
    rwa [show g + (mi - g) = mi by omega] at this
  by_cases h0 : mi < 16
  · exact key _ _ jm_okg0 (by omega) (by omega)
  by_cases h1 : mi < 32
  · exact key _ _ jm_okg1 (by omega) (by omega)
  by_cases h2 : mi < 48
  · exact key _ _ jm_okg2 (by omega) (by omega)
  by_cases h3 : mi < 64
  · exact key _ _ jm_okg3 (by omega) (by omega)
  by_cases h4 : mi < 80
  · exact key _ _ jm_okg4 (by omega) (by omega)
  by_cases h5 : mi < 96
  · exact key _ _ jm_okg5 (by omega) (by omega)
  by_cases h6 : mi < 112
  · exact key _ _ jm_okg6 (by omega) (by omega)
  by_cases h7 : mi < 128
  · exact key _ _ jm_okg7 (by omega) (by omega)
  by_cases h8 : mi < 144
  · exact key _ _ jm_okg8 (by omega) (by omega)
  by_cases h9 : mi < 160
  · exact key _ _ jm_okg9 (by omega) (by omega)
  by_cases h10 : mi < 174
  · exact key _ _ jm_okg10 (by omega) (by omega)
  omega
