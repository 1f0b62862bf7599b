/-! The text changes: write, end, change, stand; the tape: feed, wipe. -/
def cTf (J J' : jZ) : Prop := (∀ x, x ≠ 1 → x ≠ 2 → x ≠ 3 → x ≠ 4 → x ≠ 61 → J' x = J x) ∧ J' 1 4 = J 1 4 ∧ J' 61 6 = J 61 6
theorem cQ_T {J J' : jZ} {T T' : zT} {A : zA} (h : cQ J T A) (f : cTf J J') (hT : zt_ok T') (rT : zt_at J' 1 T') (h5 : J' 61 5 = 0) : cQ J' T' A := by
  obtain ⟨a1, a2, a3, a4, a5, a6, a7, a8⟩ := h
  have h24 := a2.1
  have g := f.1
  refine ⟨hT, a2, rT, zA_at_of a4 h24 (fun x _ _ => g x (by omega) (by omega) (by omega) (by omega) (by omega)), zA_rc_of a5 h24 (fun x _ _ => g x (by omega) (by omega) (by omega) (by omega) (by omega)), by rw [f.2.2]; exact a6, ⟨by rw [g 63 (by omega) (by omega) (by omega) (by omega) (by omega)]; exact a7.1, fun k hk => by simp at hk⟩, fun j hj => ?_⟩
  rw [h5] at hj
  exact absurd hj zb_0
-- write
def zT_w (T : zT) (w : Int) : zT := (T.1 + 1, fun k => if k = T.1 then w else T.2.1 k, fun k => if k = T.1 then 0 else T.2.2.1 k, T.2.2.2)
theorem zT_w_ok {T : zT} {w : Int} (hT : zt_ok T) (hw : 0 ≤ w ∧ w < 16) (h : T.1 < 60) : zt_ok (zT_w T w) := by
  obtain ⟨a, b, c, e⟩ := hT
  refine ⟨by show T.1 + 1 ≤ 60; omega, fun k hk => ?_, fun k hk => ?_, e⟩
  · show 0 ≤ (if k = T.1 then w else T.2.1 k) ∧ (if k = T.1 then w else T.2.1 k) < 16
    split
    · exact hw
    · have hk : k < T.1 + 1 := hk
      exact b k (by omega)
  · show 0 ≤ (if k = T.1 then (0 : Int) else T.2.2.1 k) ∧ (if k = T.1 then (0 : Int) else T.2.2.1 k) ≤ 2
    split
    · omega
    · have hk : k < T.1 + 1 := hk
      exact c k (by omega)
theorem c_56 {xs : Nat → Int32} {L d : Nat} {J K : jZ} {P : Int → jZ → jZ → Prop} {T : zT} {A : zA} (hQ : cQ J T A) {w : Int} (hw : -2147483648 ≤ w ∧ w < 2147483648) (hb : ¬ (0 ≤ w ∧ w < 16) → P (-2) (rC J 0) K) (hb2 : 0 ≤ w ∧ w < 16 → ¬ T.1 < 60 → P (-6) (rC J 4) K) (h : 0 ≤ w ∧ w < 16 → T.1 < 60 → ∀ J', cTf J J' → cQ J' (zT_w T w) A → P (T.1 : Int) J' K) : q_56 xs L (d + 2) w J K P := by
  have h60 := hQ.1.1
  have rT := hQ.2.2.1
  have h1 := rT.1
  refine e_56 ⟨hw, fun q => ⟨by omega, fun q2 => ?_, fun q2 => s_13 (k := 4) (by omega) (by omega) (hb2 q (by omega))⟩, fun q => s_13 (k := 0) (by omega) (by omega) (hb q)⟩
  refine e_58 rfl ⟨by omega, fun t => by omega, fun t => ⟨by omega, ?_⟩⟩
  rw [zu_self, h1, show ((T.1 : Int) + 1) - 1 = (T.1 : Int) by omega, Int.toNat_natCast, show 1 + 1 = 2 from rfl, show 1 + 2 = 3 from rfl]
  have f : cTf J (jm_up (jm_up (jm_up (jm_up J 2 T.1 w) 3 T.1 0) 1 3 ((T.1 : Int) + 1)) 61 5 0) := ⟨fun x a1 a2 a3 a4 a5 => by rw [zu_row a5, zu_row a1, zu_row a3, zu_row a2], by rw [zu_row (by omega), zu_key (by omega), zu_row (by omega), zu_row (by omega)], by rw [zu_key (by omega), zu_row (by omega), zu_row (by omega), zu_row (by omega)]⟩
  refine h q (by omega) _ f (cQ_T hQ f (zT_w_ok hQ.1 q (by omega)) ⟨?_, fun k hk => ?_, fun x hx => ?_⟩ zu_self)
  · rw [zu_row (by omega), zu_self]
    show (T.1 : Int) + 1 = ((T.1 + 1 : Nat) : Int)
    omega
  · have hk : k < T.1 + 1 := hk
    rw [show 1 + 1 = 2 from rfl, show 1 + 2 = 3 from rfl]
    constructor
    · rw [zu_row (by omega), zu_row (by omega), zu_row (by omega)]
      show _ = (if k = T.1 then w else T.2.1 k)
      by_cases c : k = T.1
      · rw [if_pos c, c, zu_self]
      · rw [if_neg c, zu_key c]
        exact (rT.2.1 k (by omega)).1
    · rw [zu_row (by omega), zu_row (by omega)]
      show _ = (if k = T.1 then (0 : Int) else T.2.2.1 k)
      by_cases c : k = T.1
      · rw [if_pos c, c, zu_self]
      · rw [if_neg c, zu_key c, zu_row (by omega)]
        exact (rT.2.1 k (by omega)).2
  · rw [zu_row (by omega), zu_row (by omega), zu_row (by omega), zu_row (by omega)]
    exact rT.2.2 x hx
-- end
def zT_e (T : zT) (m : Int) : zT := (T.1, T.2.1, fun k => if k = T.1 - 1 then m else T.2.2.1 k, T.2.2.2)
def zT_l (T : zT) : Int := if T.1 = 0 then 2 else T.2.2.1 (T.1 - 1)
theorem zT_e_ok {T : zT} {m : Int} (hT : zt_ok T) (hm : m = 1 ∨ m = 2) : zt_ok (zT_e T m) := by
  obtain ⟨a, b, c, e⟩ := hT
  refine ⟨a, b, fun k hk => ?_, e⟩
  show 0 ≤ (if k = T.1 - 1 then m else T.2.2.1 k) ∧ (if k = T.1 - 1 then m else T.2.2.1 k) ≤ 2
  split
  · omega
  · exact c k hk
theorem s_61 {xs : Nat → Int32} {L d : Nat} {J K : jZ} {P : Int → jZ → jZ → Prop} {T : zT} (hT : zt_ok T) (hr : zt_at J 1 T) (h : P (zT_l T) J K) : q_61 xs L (d + 1) 1 J K P := by
  have h60 := hT.1
  have h1 := hr.1
  unfold zT_l at h
  refine e_61 rfl ⟨by omega, fun q => ?_, fun q => ⟨by omega, ?_⟩⟩
  · rw [if_pos (by omega)] at h
    exact h
  · rw [if_neg (by omega)] at h
    rw [show (J 1 3 - 1).toNat = T.1 - 1 by omega, (hr.2.1 (T.1 - 1) (by omega)).2]
    exact h
theorem zT_l_r {T : zT} (hT : zt_ok T) : 0 ≤ zT_l T ∧ zT_l T ≤ 2 := by
  unfold zT_l
  split
  · omega
  · exact hT.2.2.1 _ (by omega)
theorem c_60 {xs : Nat → Int32} {L d : Nat} {J K : jZ} {P : Int → jZ → jZ → Prop} {T : zT} {A : zA} (hQ : cQ J T A) {m : Int} (hm : -2147483648 ≤ m ∧ m < 2147483648) (hb : ¬ (1 ≤ m ∧ m ≤ 2) → P (-2) (rC J 0) K) (hb2 : 1 ≤ m ∧ m ≤ 2 → ¬ zT_l T < m → P (-5) (rC J 3) K) (h : 1 ≤ m ∧ m ≤ 2 → zT_l T < m → ∀ J', cTf J J' → cQ J' (zT_e T m) A → P (zT_l T) J' K) : q_60 xs L (d + 2) m J K P := by
  have h60 := hQ.1.1
  have rT := hQ.2.2.1
  have h1 := rT.1
  have lr := zT_l_r hQ.1
  have go : 1 ≤ m ∧ m ≤ 2 → q_61 xs L (d + 1) 1 J K (fun r5 J3 K4 => (-2147483648 ≤ r5 ∧ r5 < 2147483648) ∧ (r5 < m → q_62 xs L (d + 1) 1 m J3 K4 (fun J8 K9 => P r5 (jm_up J8 61 5 0) K9)) ∧ (m ≤ r5 → q_13 xs L (d + 1) (-5) J3 K4 (fun r12 J10 K11 => P r12 J10 K11))) := fun q => by
    refine s_61 hQ.1 rT ⟨by omega, fun q2 => ?_, fun q2 => s_13 (k := 3) (by omega) (by omega) (hb2 q (by omega))⟩
    have n0 : ¬ T.1 = 0 := fun z => by
      unfold zT_l at q2
      rw [if_pos z] at q2
      omega
    refine e_62 rfl ⟨by omega, fun t => by omega, fun t => ⟨by omega, ?_⟩⟩
    rw [show (J 1 3 - 1).toNat = T.1 - 1 by omega, show 1 + 2 = 3 from rfl]
    have f : cTf J (jm_up (jm_up J 3 (T.1 - 1) m) 61 5 0) := ⟨fun x a1 a2 a3 a4 a5 => by rw [zu_row a5, zu_row a3], by rw [zu_row (by omega), zu_row (by omega)], by rw [zu_key (by omega), zu_row (by omega)]⟩
    refine h q q2 _ f (cQ_T hQ f (zT_e_ok hQ.1 (by omega)) ⟨?_, fun k hk => ?_, fun x hx => ?_⟩ zu_self)
    · rw [zu_row (by omega), zu_row (by omega)]
      exact h1
    · have hk : k < T.1 := hk
      rw [show 1 + 1 = 2 from rfl, show 1 + 2 = 3 from rfl, zu_row (by omega), zu_row (by omega)]
      show _ = T.2.1 k ∧ _ = (if k = T.1 - 1 then m else T.2.2.1 k)
      have e := rT.2.1 k hk
      refine ⟨e.1, ?_⟩
      rw [zu_row (by omega)]
      by_cases c : k = T.1 - 1
      · rw [if_pos c, c, zu_self]
      · rw [if_neg c, zu_key c]
        exact e.2
    · rw [zu_row (by omega), zu_row (by omega)]
      exact rT.2.2 x hx
  exact e_60 ⟨hm, fun q => go (by omega), fun q => ⟨fun q2 => go (by omega), fun q2 => s_13 (k := 0) (by omega) (by omega) (hb (by omega))⟩⟩
-- change
def zT_c (T : zT) (p : Nat) (w : Int) : zT := (T.1, fun k => if k = p then w else T.2.1 k, T.2.2)
theorem zT_c_ok {T : zT} {p : Nat} {w : Int} (hT : zt_ok T) (hw : 0 ≤ w ∧ w < 16) : zt_ok (zT_c T p w) := by
  obtain ⟨a, b, c, e⟩ := hT
  refine ⟨a, fun k hk => ?_, c, e⟩
  show 0 ≤ (if k = p then w else T.2.1 k) ∧ (if k = p then w else T.2.1 k) < 16
  split
  · exact hw
  · exact b k hk
theorem c_63 {xs : Nat → Int32} {L d : Nat} {J K : jZ} {P : Int → jZ → jZ → Prop} {T : zT} {A : zA} (hQ : cQ J T A) {p w : Int} (hp : -2147483648 ≤ p ∧ p < 2147483648) (hw : -2147483648 ≤ w ∧ w < 2147483648) (hb : ¬ ((0 ≤ p ∧ p < T.1) ∧ (0 ≤ w ∧ w < 16)) → P (-2) (rC J 0) K) (h : (0 ≤ p ∧ p < T.1) ∧ (0 ≤ w ∧ w < 16) → ∀ J', cTf J J' → cQ J' (zT_c T p.toNat w) A → P (T.2.1 p.toNat) J' K) : q_63 xs L (d + 2) p w J K P := by
  have h60 := hQ.1.1
  have rT := hQ.2.2.1
  have h1 := rT.1
  refine e_63 ⟨hp, by omega, fun q => ⟨hw, fun q2 => ⟨by omega, ?_⟩, fun q2 => s_13 (k := 0) (by omega) (by omega) (hb (by omega))⟩, fun q => s_13 (k := 0) (by omega) (by omega) (hb (by omega))⟩
  have e := (rT.2.1 p.toNat (by omega)).1
  rw [show 1 + 1 = 2 from rfl] at e
  rw [e]
  have f : cTf J (jm_up (jm_up J 2 p.toNat w) 61 5 0) := ⟨fun x a1 a2 a3 a4 a5 => by rw [zu_row a5, zu_row a2], by rw [zu_row (by omega), zu_row (by omega)], by rw [zu_key (by omega), zu_row (by omega)]⟩
  refine h (by omega) _ f (cQ_T hQ f (zT_c_ok hQ.1 q2) ⟨?_, fun k hk => ?_, fun x hx => ?_⟩ zu_self)
  · rw [zu_row (by omega), zu_row (by omega)]
    exact h1
  · have hk : k < T.1 := hk
    rw [show 1 + 1 = 2 from rfl, show 1 + 2 = 3 from rfl, zu_row (by omega)]
    show _ = (if k = p.toNat then w else T.2.1 k) ∧ _ = T.2.2.1 k
    have e := rT.2.1 k hk
    refine ⟨?_, by rw [zu_row (by omega), zu_row (by omega)]; exact e.2⟩
    by_cases c : k = p.toNat
    · rw [if_pos c, c, zu_self]
    · rw [if_neg c, zu_key c]
      exact e.1
  · rw [zu_row (by omega), zu_row (by omega)]
    exact rT.2.2 x hx