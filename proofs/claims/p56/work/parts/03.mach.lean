/-! A small machine of our own over an abstract heap: a cell is a kind, a length and its references; ints and longs stand beside, by cell and place.
kinds: 1 an int array, 2 a long array, 3, 4, 5 arrays of Shelf, Ask, Spans, 6 an array of long arrays, 10 + c an object of class c. A reference is the cell's number; the script is 'retAddr'. -/
abbrev jm_S : Type := Nat × Nat × (Nat → Option Nat)
abbrev jm_H : Type := List jm_S × (Nat → Nat → Int32) × (Nat → Nat → Int64)
abbrev jm_L : Type := List (Option Value)
abbrev jm_C : Type := Nat × jm_L × List Value × jm_H
abbrev jm_O : Type := Option Value × jm_H
abbrev jm_E : Type := Nat → List Value → jm_H → Option jm_O
def jm_up {α : Type} (f : Nat → Nat → α) (a k : Nat) (v : α) : Nat → Nat → α := fun x y => if x = a ∧ y = k then v else f x y
def jm_row {α : Type} (f : Nat → Nat → α) (a : Nat) (g : Nat → α) : Nat → Nat → α := fun x => if x = a then g else f x
def jm_ref (r : Option Nat) : Value := match r with
  | some a => .ref a
  | none => .null
def jm_nx (pc : Nat) (ls : jm_L) (st : List Value) (H : jm_H) : Option (jm_C ⊕ jm_O) := some (.inl (pc, ls, st, H))
def jm_kd (H : jm_H) (a : Nat) : Nat := match H.1[a]? with
  | some s => s.1
  | none => 0
def jm_ln (H : jm_H) (a : Nat) : Nat := match H.1[a]? with
  | some s => s.2.1
  | none => 0
def jm_rf (H : jm_H) (a k : Nat) : Option Nat := match H.1[a]? with
  | some s => s.2.2 k
  | none => none
def jm_cat (st : List Value) : Nat := (st.map fun v => v.category).sum
noncomputable def jm_np (mi : Nat) : Nat := match jm_MT[mi]? with
  | some q => q.2.2.2.2.1
  | none => 0
/-- storing into a local: a long behind whose first half it goes is forgotten -/
def jm_st1 (ls : jm_L) (i : Nat) (v : Value) : Option jm_L :=
  if i < ls.length then
    match i with
    | 0 => some (ls.set 0 (some v))
    | j + 1 => match ls[j]? with
      | some (some (.long _)) => some ((ls.set (j + 1) (some v)).set j none)
      | some (some (.double _)) => none
      | _ => some (ls.set (j + 1) (some v))
  else none
def jm_st2 (ls : jm_L) (i : Nat) (v : Value) : Option jm_L :=
  if i + 1 < ls.length then
    match i with
    | 0 => some ((ls.set 0 (some v)).set 1 none)
    | j + 1 => match ls[j]? with
      | some (some (.long _)) => some (((ls.set (j + 1) (some v)).set (j + 2) none).set j none)
      | some (some (.double _)) => none
      | _ => some ((ls.set (j + 1) (some v)).set (j + 2) none)
  else none
def jm_sto (npc : Nat) (o : Option jm_L) (st : List Value) (H : jm_H) : Option (jm_C ⊕ jm_O) := match o with
  | some ls => jm_nx npc ls st H
  | none => none
def jm_call (npc : Nat) (ls : jm_L) (r : List Value) (o : Option jm_O) : Option (jm_C ⊕ jm_O) := match o with
  | some q => jm_nx npc ls (q.1.toList ++ r) q.2
  | none => none
def jm_jmp (pc : Nat) (off : Int) (ls : jm_L) (st : List Value) (H : jm_H) : Option (jm_C ⊕ jm_O) := if 0 ≤ (pc : Int) + off then jm_nx ((pc : Int) + off).toNat ls st H else none
def jm_ifb (p : Prop) (i : Decidable p) (a b : Nat) (ls : jm_L) (st : List Value) (H : jm_H) : Option (jm_C ⊕ jm_O) := if p then jm_nx a ls st H else jm_nx b ls st H
def jm_new (H : jm_H) (s : jm_S) : jm_H := (H.1 ++ [s], jm_row H.2.1 H.1.length (fun _ => 0), jm_row H.2.2 H.1.length (fun _ => 0))
def jm_newg (H : jm_H) (n k : Nat) : jm_H := (H.1 ++ [(6, n, fun i => if i < n then some (H.1.length + 1 + i) else none)] ++ List.replicate n (2, k, fun _ => none), (fun x => if H.1.length ≤ x then fun _ => 0 else H.2.1 x), (fun x => if H.1.length ≤ x then fun _ => 0 else H.2.2 x))
/-- the kind of what an array of references of this kind holds -/
def jm_ek (k : Nat) : Nat := if k = 3 then 15 else if k = 4 then 10 else 16
/-- one instruction: the next configuration, or the answer. xs, L: the script; E: what a call does -/
noncomputable def jm_stp (xs : Nat → Int32) (L : Nat) (E : jm_E) (e : jm_I) (pc : Nat) (ls : jm_L) (st : List Value) (H : jm_H) : Option (jm_C ⊕ jm_O) :=
  match e.1 with
  | .iconst n => jm_nx e.2.1 ls (.int (Int32.ofInt n) :: st) H
  | .bipush n => jm_nx e.2.1 ls (.int (Int8.ofInt n).toInt32 :: st) H
  | .sipush n => jm_nx e.2.1 ls (.int (Int16.ofInt n).toInt32 :: st) H
  | .lconst n => jm_nx e.2.1 ls (.long (Int64.ofNat (n : Nat)) :: st) H
  | .ldc _ => if e.2.2.1 = 1 then jm_nx e.2.1 ls (.retAddr 1 :: st) H else jm_nx e.2.1 ls (.int (Int32.ofInt e.2.2.2.2) :: st) H
  | .ldc_w _ => jm_nx e.2.1 ls (.int (Int32.ofInt e.2.2.2.2) :: st) H
  | .ldc2_w _ => jm_nx e.2.1 ls (.long (Int64.ofInt e.2.2.2.2) :: st) H
  | .iload_n k => match ls[(k : Nat)]? with
    | some (some (.int x)) => jm_nx e.2.1 ls (.int x :: st) H
    | _ => none
  | .iload k => match ls[k]? with
    | some (some (.int x)) => jm_nx e.2.1 ls (.int x :: st) H
    | _ => none
  | .lload_n k => match ls[(k : Nat)]? with
    | some (some (.long x)) => jm_nx e.2.1 ls (.long x :: st) H
    | _ => none
  | .lload k => match ls[k]? with
    | some (some (.long x)) => jm_nx e.2.1 ls (.long x :: st) H
    | _ => none
  | .aload_n k => match ls[(k : Nat)]? with
    | some (some (.ref x)) => jm_nx e.2.1 ls (.ref x :: st) H
    | some (some (.retAddr x)) => jm_nx e.2.1 ls (.retAddr x :: st) H
    | _ => none
  | .aload k => match ls[k]? with
    | some (some (.ref x)) => jm_nx e.2.1 ls (.ref x :: st) H
    | _ => none
  | .istore_n k => match st with
    | .int x :: r => jm_sto e.2.1 (jm_st1 ls (k : Nat) (.int x)) r H
    | _ => none
  | .istore k => match st with
    | .int x :: r => jm_sto e.2.1 (jm_st1 ls k (.int x)) r H
    | _ => none
  | .lstore k => match st with
    | .long x :: r => jm_sto e.2.1 (jm_st2 ls k (.long x)) r H
    | _ => none
  | .astore_n k => match st with
    | .ref x :: r => jm_sto e.2.1 (jm_st1 ls (k : Nat) (.ref x)) r H
    | _ => none
  | .astore k => match st with
    | .ref x :: r => jm_sto e.2.1 (jm_st1 ls k (.ref x)) r H
    | _ => none
  | .iinc k n => match ls[k]? with
    | some (some (.int x)) => jm_sto e.2.1 (jm_st1 ls k (.int (x + Int32.ofInt n))) st H
    | _ => none
  | .iadd => match st with
    | .int y :: .int x :: r => jm_nx e.2.1 ls (.int (x + y) :: r) H
    | _ => none
  | .isub => match st with
    | .int y :: .int x :: r => jm_nx e.2.1 ls (.int (x - y) :: r) H
    | _ => none
  | .imul => match st with
    | .int y :: .int x :: r => jm_nx e.2.1 ls (.int (x * y) :: r) H
    | _ => none
  | .iand => match st with
    | .int y :: .int x :: r => jm_nx e.2.1 ls (.int (x &&& y) :: r) H
    | _ => none
  | .ior => match st with
    | .int y :: .int x :: r => jm_nx e.2.1 ls (.int (x ||| y) :: r) H
    | _ => none
  | .ixor => match st with
    | .int y :: .int x :: r => jm_nx e.2.1 ls (.int (x ^^^ y) :: r) H
    | _ => none
  | .ishl => match st with
    | .int y :: .int x :: r => jm_nx e.2.1 ls (.int (x <<< (y &&& 31)) :: r) H
    | _ => none
  | .ishr => match st with
    | .int y :: .int x :: r => jm_nx e.2.1 ls (.int (x >>> (y &&& 31)) :: r) H
    | _ => none
  | .iushr => match st with
    | .int y :: .int x :: r => jm_nx e.2.1 ls (.int (x.toUInt32 >>> (y.toUInt32 &&& Int32.toUInt32 31)).toInt32 :: r) H
    | _ => none
  | .idiv => match st with
    | .int y :: .int x :: r => if y = 0 then none else jm_nx e.2.1 ls (.int (x / y) :: r) H
    | _ => none
  | .irem => match st with
    | .int y :: .int x :: r => if y = 0 then none else jm_nx e.2.1 ls (.int (x - x / y * y) :: r) H
    | _ => none
  | .ineg => match st with
    | .int x :: r => jm_nx e.2.1 ls (.int (-x) :: r) H
    | _ => none
  | .ladd => match st with
    | .long y :: .long x :: r => jm_nx e.2.1 ls (.long (x + y) :: r) H
    | _ => none
  | .land => match st with
    | .long y :: .long x :: r => jm_nx e.2.1 ls (.long (x &&& y) :: r) H
    | _ => none
  | .lor => match st with
    | .long y :: .long x :: r => jm_nx e.2.1 ls (.long (x ||| y) :: r) H
    | _ => none
  | .lshl => match st with
    | .int y :: .long x :: r => jm_nx e.2.1 ls (.long (x <<< (y.toInt64 &&& 63)) :: r) H
    | _ => none
  | .lcmp => match st with
    | .long y :: .long x :: r => jm_nx e.2.1 ls (.int (lg_cmp x y) :: r) H
    | _ => none
  | .i2l => match st with
    | .int x :: r => jm_nx e.2.1 ls (.long x.toInt64 :: r) H
    | _ => none
  | .l2i => match st with
    | .long x :: r => jm_nx e.2.1 ls (.int x.toInt32 :: r) H
    | _ => none
  | .i2b => match st with
    | .int x :: r => jm_nx e.2.1 ls (.int x.toInt8.toInt32 :: r) H
    | _ => none
  | .i2s => match st with
    | .int x :: r => jm_nx e.2.1 ls (.int x.toInt16.toInt32 :: r) H
    | _ => none
  | .dup => match st with
    | .int x :: r => jm_nx e.2.1 ls (.int x :: .int x :: r) H
    | .ref x :: r => jm_nx e.2.1 ls (.ref x :: .ref x :: r) H
    | _ => none
  | .pop => match st with
    | .int _ :: r => jm_nx e.2.1 ls r H
    | .ref _ :: r => jm_nx e.2.1 ls r H
    | _ => none
  | .dup_x1 => match st with
    | .int x :: .ref y :: r => jm_nx e.2.1 ls (.int x :: .ref y :: .int x :: r) H
    | .int x :: .int y :: r => jm_nx e.2.1 ls (.int x :: .int y :: .int x :: r) H
    | _ => none
  | .dup2 => match st with
    | .int x :: .ref y :: r => jm_nx e.2.1 ls (.int x :: .ref y :: .int x :: .ref y :: r) H
    | _ => none
  | .ifCond c _ => match st with
    | .int x :: r => match c with
      | .eq => jm_ifb (x = 0) inferInstance e.2.2.1 e.2.1 ls r H
      | .ne => jm_ifb (¬ x = 0) inferInstance e.2.2.1 e.2.1 ls r H
      | .lt => jm_ifb (x < 0) inferInstance e.2.2.1 e.2.1 ls r H
      | .ge => jm_ifb (0 ≤ x) inferInstance e.2.2.1 e.2.1 ls r H
      | .gt => jm_ifb (0 < x) inferInstance e.2.2.1 e.2.1 ls r H
      | .le => jm_ifb (x ≤ 0) inferInstance e.2.2.1 e.2.1 ls r H
    | _ => none
  | .if_icmp c _ => match st with
    | .int y :: .int x :: r => match c with
      | .eq => jm_ifb (x = y) inferInstance e.2.2.1 e.2.1 ls r H
      | .ne => jm_ifb (¬ x = y) inferInstance e.2.2.1 e.2.1 ls r H
      | .lt => jm_ifb (x < y) inferInstance e.2.2.1 e.2.1 ls r H
      | .ge => jm_ifb (y ≤ x) inferInstance e.2.2.1 e.2.1 ls r H
      | .gt => jm_ifb (y < x) inferInstance e.2.2.1 e.2.1 ls r H
      | .le => jm_ifb (x ≤ y) inferInstance e.2.2.1 e.2.1 ls r H
    | _ => none
  | .goto _ => jm_nx e.2.2.1 ls st H
  | .tableswitch d lo hi offs => match st with
    | .int x :: r => if x.toInt < lo ∨ hi < x.toInt then jm_jmp pc d ls r H else match offs[(x.toInt - lo).toNat]? with
      | some o => jm_jmp pc o ls r H
      | none => none
    | _ => none
  | .lookupswitch d ps => match st with
    | .int x :: r => jm_jmp pc (Op.lookupswitch.offset ps.toList d x.toInt) ls r H
    | _ => none
  | .getfield _ => match st with
    | .ref a :: r => if jm_kd H a = 10 + e.2.2.1 then (if e.2.2.2.2 = 1 then jm_nx e.2.1 ls (jm_ref (jm_rf H a e.2.2.2.1) :: r) H else jm_nx e.2.1 ls (.int (H.2.1 a e.2.2.2.1) :: r) H) else none
    | _ => none
  | .putfield _ => match st with
    | .int v :: .ref a :: r => if jm_kd H a = 10 + e.2.2.1 ∧ ¬ e.2.2.2.2 = 1 ∧ (e.2.2.2.2 = 2 → v = 0 ∨ v = 1) then jm_nx e.2.1 ls r (H.1, jm_up H.2.1 a e.2.2.2.1 v, H.2.2) else none
    | .ref v :: .ref a :: r => if jm_kd H a = 10 + e.2.2.1 ∧ e.2.2.2.2 = 1 then jm_nx e.2.1 ls r (H.1.set a (jm_kd H a, jm_ln H a, fun k => if k = e.2.2.2.1 then some v else jm_rf H a k), H.2.1, H.2.2) else none
    | _ => none
  | .arraylength => match st with
    | .ref a :: r => if 1 ≤ jm_kd H a ∧ jm_kd H a ≤ 5 then jm_nx e.2.1 ls (.int (Int32.ofNat (jm_ln H a)) :: r) H else none
    | .retAddr 0 :: r => if L < 2147483648 then jm_nx e.2.1 ls (.int (Int32.ofNat L) :: r) H else none
    | _ => none
  | .iaload => match st with
    | .int i :: .ref a :: r => if jm_kd H a = 1 ∧ 0 ≤ i ∧ i.toNatClampNeg < jm_ln H a then jm_nx e.2.1 ls (.int (H.2.1 a i.toNatClampNeg) :: r) H else none
    | .int i :: .retAddr 0 :: r => if L < 2147483648 ∧ 0 ≤ i ∧ i.toNatClampNeg < L then jm_nx e.2.1 ls (.int (xs i.toNatClampNeg) :: r) H else none
    | _ => none
  | .laload => match st with
    | .int i :: .ref a :: r => if jm_kd H a = 2 ∧ 0 ≤ i ∧ i.toNatClampNeg < jm_ln H a then jm_nx e.2.1 ls (.long (H.2.2 a i.toNatClampNeg) :: r) H else none
    | _ => none
  | .aaload => match st with
    | .int i :: .ref a :: r => if (3 ≤ jm_kd H a ∧ jm_kd H a ≤ 5) ∧ 0 ≤ i ∧ i.toNatClampNeg < jm_ln H a then jm_nx e.2.1 ls (jm_ref (jm_rf H a i.toNatClampNeg) :: r) H else none
    | _ => none
  | .iastore => match st with
    | .int v :: .int i :: .ref a :: r => if jm_kd H a = 1 ∧ 0 ≤ i ∧ i.toNatClampNeg < jm_ln H a then jm_nx e.2.1 ls r (H.1, jm_up H.2.1 a i.toNatClampNeg v, H.2.2) else none
    | _ => none
  | .lastore => match st with
    | .long v :: .int i :: .ref a :: r => if jm_kd H a = 2 ∧ 0 ≤ i ∧ i.toNatClampNeg < jm_ln H a then jm_nx e.2.1 ls r (H.1, H.2.1, jm_up H.2.2 a i.toNatClampNeg v) else none
    | _ => none
  | .aastore => match st with
    | .ref v :: .int i :: .ref a :: r => if (3 ≤ jm_kd H a ∧ jm_kd H a ≤ 5) ∧ 0 ≤ i ∧ i.toNatClampNeg < jm_ln H a ∧ jm_kd H v = jm_ek (jm_kd H a) then jm_nx e.2.1 ls r (H.1.set a (jm_kd H a, jm_ln H a, fun k => if k = i.toNatClampNeg then some v else jm_rf H a k), H.2.1, H.2.2) else none
    | _ => none
  | .new _ => jm_nx e.2.1 ls (.ref H.1.length :: st) (jm_new H (10 + e.2.2.1, e.2.2.2.1, fun _ => none))
  | .newarray t => match st with
    | .int n :: r => if 0 ≤ n ∧ n.toNatClampNeg ≤ 100000 then (match t with
      | .int => jm_nx e.2.1 ls (.ref H.1.length :: r) (jm_new H (1, n.toNatClampNeg, fun _ => none))
      | .long => jm_nx e.2.1 ls (.ref H.1.length :: r) (jm_new H (2, n.toNatClampNeg, fun _ => none))
      | _ => none) else none
    | _ => none
  | .anewarray _ => match st with
    | .int n :: r => if 0 ≤ n ∧ n.toNatClampNeg ≤ 100000 ∧ e.2.2.1 ≤ 2 then jm_nx e.2.1 ls (.ref H.1.length :: r) (jm_new H (3 + e.2.2.1, n.toNatClampNeg, fun _ => none)) else none
    | _ => none
  | .invokevirtual _ => match st.drop (jm_np e.2.2.1) with
    | .ref o :: r => if jm_np e.2.2.1 ≤ st.length ∧ jm_cat r ≤ 8 ∧ (jm_kd H o : Int) = 10 + e.2.2.2.2 ∧ ¬ e.2.2.2.1 = 15 then jm_call e.2.1 ls r (E e.2.2.1 (.ref o :: (st.take (jm_np e.2.2.1)).reverse) H) else none
    | .retAddr 1 :: r => if jm_np e.2.2.1 ≤ st.length ∧ jm_cat r ≤ 8 ∧ e.2.2.2.1 = 15 then jm_call e.2.1 ls r (E e.2.2.1 (.retAddr 1 :: (st.take (jm_np e.2.2.1)).reverse) H) else none
    | _ => none
  | .invokespecial _ => match st.drop (jm_np e.2.2.1) with
    | .ref o :: r => if jm_np e.2.2.1 ≤ st.length ∧ jm_cat r ≤ 8 then (if e.2.2.2.1 = 6 then jm_nx e.2.1 ls r H else jm_call e.2.1 ls r (E e.2.2.1 (.ref o :: (st.take (jm_np e.2.2.1)).reverse) H)) else none
    | _ => none
  | .invokestatic _ => if e.2.2.2.1 = 12 then (match st with
    | .int n :: .int dp :: .ref d :: .int sp :: .ref s :: r => if jm_cat r ≤ 8 ∧ 0 ≤ sp ∧ 0 ≤ dp ∧ 0 ≤ n ∧ sp.toNatClampNeg + n.toNatClampNeg ≤ jm_ln H s ∧ dp.toNatClampNeg + n.toNatClampNeg ≤ jm_ln H d then
        (if jm_kd H s = 1 ∧ jm_kd H d = 1 then jm_nx e.2.1 ls r (H.1, jm_row H.2.1 d (va_cpy (H.2.1 s) (H.2.1 d) sp.toNatClampNeg dp.toNatClampNeg n.toNatClampNeg), H.2.2)
        else if jm_kd H s = 2 ∧ jm_kd H d = 2 then jm_nx e.2.1 ls r (H.1, H.2.1, jm_row H.2.2 d (va_cpy (H.2.2 s) (H.2.2 d) sp.toNatClampNeg dp.toNatClampNeg n.toNatClampNeg)) else none) else none
    | _ => none)
    else if e.2.2.2.1 = 13 then (match st with
    | .int y :: .int x :: r => if jm_cat r ≤ 8 then jm_nx e.2.1 ls (.int (if x < y then y else x) :: r) H else none
    | _ => none)
    else if e.2.2.2.1 = 14 then (match st with
    | .int y :: .int x :: r => if jm_cat r ≤ 8 then jm_nx e.2.1 ls (.int (if y < x then y else x) :: r) H else none
    | _ => none)
    else if jm_np e.2.2.1 ≤ st.length ∧ jm_cat (st.drop (jm_np e.2.2.1)) ≤ 8 then jm_call e.2.1 ls (st.drop (jm_np e.2.2.1)) (E e.2.2.1 (st.take (jm_np e.2.2.1)).reverse H) else none
  | .ireturn => match st with
    | [.int v] => if e.2.2.1 = 1 → v = 0 ∨ v = 1 then some (.inr (some (.int v), H)) else none
    | _ => none
  | .lreturn => match st with
    | [.long v] => some (.inr (some (.long v), H))
    | _ => none
  | .areturn => match st with
    | [.ref v] => some (.inr (some (.ref v), H))
    | _ => none
  | .return_ => match st with
    | [] => some (.inr (none, H))
    | _ => none
  | _ => none
/-- a method's run: at most n instructions -/
noncomputable def jm_run (xs : Nat → Int32) (L : Nat) (E : jm_E) (mi : Nat) : Nat → jm_C → Option jm_O
  | 0, _ => none
  | n + 1, c => match jm_tab mi c.1 with
    | some e => match jm_stp xs L E e c.1 c.2.1 c.2.2.1 c.2.2.2 with
      | some (.inl c') => jm_run xs L E mi n c'
      | some (.inr r) => some r
      | none => none
    | none => none
def jm_ent (vs : List Value) (n : Nat) : jm_L := (vs.flatMap fun v => if v.category = 2 then [some v, none] else [some v]) ++ List.replicate (n - (lg_sl vs).length) none
noncomputable def jm_lim (f : Nat → Option jm_O) : Option jm_O := match Classical.propDecidable (∃ q : Nat × jm_O, f q.1 = some q.2) with
  | .isTrue h => some (Classical.choose h).2
  | .isFalse _ => none
/-- the letters of the law's String constant -/
def jm_ch (k : Nat) : Int32 := match k with
  | 0 => 124
  | 1 => 38
  | 2 => 60
  | 3 => 64
  | 4 => 33
  | 5 => 35
  | _ => 45
/-- String.charAt of that constant -/
def jm_cha (args : List Value) (H : jm_H) : Option jm_O := match args with
  | [.retAddr 1, .int i] => if 0 ≤ i ∧ i.toNatClampNeg < 7 then some (some (.int (jm_ch i.toNatClampNeg)), H) else none
  | _ => none
/-- what a call of method mi with d frames above it answers -/
noncomputable def jm_ex (xs : Nat → Int32) (L : Nat) : Nat → jm_E
  | 0 => fun _ _ _ => none
  | d + 1 => fun mi args H => if mi = 172 then (if 4 ≤ d then jm_cha args H else none) else match jm_MT[mi]? with
    | some q => if (lg_sl args).length ≤ q.2.2.1 then jm_lim (fun n => jm_run xs L (jm_ex xs L d) mi n (0, jm_ent args q.2.2.1, [], H)) else none
    | none => none
theorem jm_run_le {xs : Nat → Int32} {L : Nat} {E : jm_E} {mi : Nat} : ∀ (n k : Nat) (c : jm_C) (r : jm_O), jm_run xs L E mi n c = some r → jm_run xs L E mi (n + k) c = some r
  | 0, _, _, _, h => by simp [jm_run] at h
  | n + 1, k, c, r, h => by
    rw [show n + 1 + k = (n + k) + 1 by omega]
    simp only [jm_run] at h ⊢
    split at h
    · split at h
      · exact jm_run_le n k _ _ h
      · exact h
      · cases h
    · cases h
theorem jm_run_det {xs : Nat → Int32} {L : Nat} {E : jm_E} {mi n k : Nat} {c : jm_C} {r r' : jm_O} (h : jm_run xs L E mi n c = some r) (h' : jm_run xs L E mi k c = some r') : r = r' := by
  have h1 := jm_run_le n k c r h
  have h2 := jm_run_le k n c r' h'
  rw [Nat.add_comm] at h2
  exact Option.some.inj (h1.symm.trans h2)
theorem jm_lim_some {f : Nat → Option jm_O} {r : jm_O} (h : jm_lim f = some r) : ∃ n, f n = some r := by
  unfold jm_lim at h
  split at h
  · rename_i hx _
    cases h
    exact ⟨_, Classical.choose_spec hx⟩
  · cases h
theorem jm_lim_of {f : Nat → Option jm_O} {r : jm_O} {n : Nat} (h : f n = some r) (hd : ∀ k r', f k = some r' → r' = r) : jm_lim f = some r := by
  unfold jm_lim
  split
  · rename_i hx _
    exact congrArg some (hd _ _ (Classical.choose_spec hx))
  · rename_i hx _
    exact absurd ⟨(n, r), h⟩ hx
/-- from a configuration, with d frames above: the method ends, and its answer has P -/
def jm_W (xs : Nat → Int32) (L d mi pc : Nat) (ls : jm_L) (st : List Value) (H : jm_H) (P : Option Value → jm_H → Prop) : Prop :=
  ∃ (n : Nat) (r : jm_O), jm_run xs L (jm_ex xs L d) mi n (pc, ls, st, H) = some r ∧ P r.1 r.2
/-- a call -/
def jm_Q (xs : Nat → Int32) (L d mi : Nat) (args : List Value) (H : jm_H) (P : Option Value → jm_H → Prop) : Prop :=
  ∃ r : jm_O, jm_ex xs L d mi args H = some r ∧ P r.1 r.2
section JMW
variable {xs : Nat → Int32} {L d mi pc : Nat} {ls : jm_L} {st : List Value} {H : jm_H} {P : Option Value → jm_H → Prop} {e : jm_I}
theorem jm_W.next {pc' : Nat} {ls' : jm_L} {st' : List Value} {H' : jm_H} (ht : jm_tab mi pc = some e) (hs : jm_stp xs L (jm_ex xs L d) e pc ls st H = jm_nx pc' ls' st' H') :
    jm_W xs L d mi pc ls st H P = jm_W xs L d mi pc' ls' st' H' P := by
  refine propext ⟨?_, ?_⟩
  · rintro ⟨n, r, h, hp⟩
    cases n with
    | zero => simp [jm_run] at h
    | succ n =>
      simp only [jm_run, ht, hs, jm_nx] at h
      exact ⟨n, r, h, hp⟩
  · rintro ⟨n, r, h, hp⟩
    refine ⟨n + 1, r, ?_, hp⟩
    simp only [jm_run, ht, hs, jm_nx]
    exact h
theorem jm_W.ret {r : jm_O} (ht : jm_tab mi pc = some e) (hs : jm_stp xs L (jm_ex xs L d) e pc ls st H = some (.inr r)) : jm_W xs L d mi pc ls st H P = P r.1 r.2 := by
  refine propext ⟨?_, ?_⟩
  · rintro ⟨n, r', h, hp⟩
    cases n with
    | zero => simp [jm_run] at h
    | succ n =>
      simp only [jm_run, ht, hs] at h
      cases h
      exact hp
  · intro hp
    refine ⟨1, r, ?_, hp⟩
    simp only [jm_run, ht, hs]
theorem jm_W.call {pc' a : Nat} {ls' : jm_L} {st' as : List Value} (ht : jm_tab mi pc = some e) (hs : jm_stp xs L (jm_ex xs L d) e pc ls st H = jm_call pc' ls' st' (jm_ex xs L d a as H)) :
    jm_W xs L d mi pc ls st H P = jm_Q xs L d a as H (fun v H' => jm_W xs L d mi pc' ls' (v.toList ++ st') H' P) := by
  refine propext ⟨?_, ?_⟩
  · rintro ⟨n, r, h, hp⟩
    cases n with
    | zero => simp [jm_run] at h
    | succ n =>
      simp only [jm_run, ht, hs] at h
      cases hq : jm_ex xs L d a as H with
      | none => rw [hq] at h; simp [jm_call] at h
      | some q =>
        rw [hq] at h
        simp only [jm_call, jm_nx] at h
        exact ⟨q, hq, n, r, h, hp⟩
  · rintro ⟨q, hq, n, r, h, hp⟩
    refine ⟨n + 1, r, ?_, hp⟩
    simp only [jm_run, ht, hs, hq, jm_call, jm_nx]
    exact h
theorem jm_Q.enter {q : jm_M} {args : List Value} (hne : ¬ mi = 172) (hm : jm_MT[mi]? = some q) (hl : (lg_sl args).length ≤ q.2.2.1) : jm_Q xs L (d + 1) mi args H P = jm_W xs L d mi 0 (jm_ent args q.2.2.1) [] H P := by
  refine propext ⟨?_, ?_⟩
  · rintro ⟨r, h, hp⟩
    simp only [jm_ex, if_neg hne, hm, hl, if_true] at h
    obtain ⟨n, h⟩ := jm_lim_some h
    exact ⟨n, r, h, hp⟩
  · rintro ⟨n, r, h, hp⟩
    refine ⟨r, ?_, hp⟩
    simp only [jm_ex, if_neg hne, hm, hl, if_true]
    exact jm_lim_of (n := n) h (fun k r' h' => jm_run_det h' h)
theorem jm_W.mono {P' : Option Value → jm_H → Prop} (h : jm_W xs L d mi pc ls st H P) (hp : ∀ v H', P v H' → P' v H') : jm_W xs L d mi pc ls st H P' := by
  obtain ⟨n, r, h1, h2⟩ := h
  exact ⟨n, r, h1, hp _ _ h2⟩
theorem jm_Q.mono {args : List Value} {P' : Option Value → jm_H → Prop} (h : jm_Q xs L d mi args H P) (hp : ∀ v H', P v H' → P' v H') : jm_Q xs L d mi args H P' := by
  obtain ⟨r, h1, h2⟩ := h
  exact ⟨r, h1, hp _ _ h2⟩
/-- a call whose answer is known -/
theorem jm_Q.use {args : List Value} {v : Option Value} {H' : jm_H} {P' : Option Value → jm_H → Prop} (h : jm_Q xs L d mi args H (fun a b => a = v ∧ b = H')) : jm_Q xs L d mi args H P' = P' v H' := by
  obtain ⟨⟨a, b⟩, h1, h2, h3⟩ := h
  dsimp only at h2 h3
  subst h2 h3
  refine propext ⟨?_, fun h => ⟨_, h1, h⟩⟩
  rintro ⟨r, h4, h5⟩
  cases h1.symm.trans h4
  exact h5
end JMW
