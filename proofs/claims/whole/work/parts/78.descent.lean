/-! The reference's reader: what it calls. -/
def mPf (A : zA) (J J' : jZ) : Prop := (∀ x, x ≠ 167 → x ≠ 187 → x ≠ 188 → x ≠ 204 → J' x = J x) ∧ (∀ i, i < A.1 → J' 187 i = J 187 i) ∧ (∀ i, i < 4 * A.1 → J' 188 i = J 188 i) ∧ ∀ k, k ≠ 38 → k ≠ 39 → k ≠ 40 → J' 167 k = J 167 k
def mRw (J : jZ) (M : zA) : Prop := ∀ i, i < M.1 → i < 24 → J 187 i = M.2 i 0 ∧ ∀ j, j < 4 → J 188 (4 * i + j) = M.2 i (j + 1)
def mP (A : zA) (J0 J : jZ) (p : Nat) (M : zA) : Prop := mPf A J0 J ∧ zM A M ∧ J 167 38 = (p : Int) ∧ J 167 39 = -1 ∧ J 167 40 = (M.1 : Int) ∧ mRw J M
def mE (A : zA) (J0 J : jZ) (f : Int) : Prop := mPf A J0 J ∧ J 167 39 = f
theorem mPf_1 {A : zA} {J0 J : jZ} {k : Nat} {v : Int} (h : mPf A J0 J) (hk : k = 38 ∨ k = 39 ∨ k = 40) : mPf A J0 (jm_up J 167 k v) := ⟨fun x a b c e => by rw [zu_row a]; exact h.1 x a b c e, fun i hi => by rw [zu_row (by omega)]; exact h.2.1 i hi, fun i hi => by rw [zu_row (by omega)]; exact h.2.2.1 i hi, fun j a b c => by rw [zu_key (by omega)]; exact h.2.2.2 j a b c⟩
theorem mP_p {A M : zA} {J0 J : jZ} {p p' : Nat} {v : Int} (h : mP A J0 J p M) (hv : v = (p' : Int)) : mP A J0 (jm_up J 167 38 v) p' M := by
  obtain ⟨a1, a2, a3, a4, a5, a6⟩ := h
  refine ⟨mPf_1 a1 (.inl rfl), a2, by rw [zu_self]; exact hv, by rw [zu_key (by omega)]; exact a4, by rw [zu_key (by omega)]; exact a5, fun i h1 h2 => ?_⟩
  rw [zu_row (by omega), zu_row (by omega)]
  exact a6 i h1 h2
theorem mP_f {A M : zA} {J0 J : jZ} {p : Nat} {f : Int} (h : mP A J0 J p M) : mE A J0 (jm_up J 167 39 f) f := ⟨mPf_1 h.1 (.inr (.inl rfl)), zu_self⟩
theorem mP_4 {A M : zA} {J0 J : jZ} {p : Nat} {k : Nat} {v : Int} (h : mP A J0 J p M) : mP A J0 (jm_up J 204 k v) p M := by
  obtain ⟨a1, a2, a3, a4, a5, a6⟩ := h
  refine ⟨⟨fun x a b c e => by rw [zu_row e]; exact a1.1 x a b c e, fun i hi => by rw [zu_row (by omega)]; exact a1.2.1 i hi, fun i hi => by rw [zu_row (by omega)]; exact a1.2.2.1 i hi, fun j a b c => by rw [zu_row (by omega)]; exact a1.2.2.2 j a b c⟩, a2, by rw [zu_row (by omega)]; exact a3, by rw [zu_row (by omega)]; exact a4, by rw [zu_row (by omega)]; exact a5, fun i h1 h2 => ?_⟩
  rw [zu_row (by omega), zu_row (by omega)]
  exact a6 i h1 h2
theorem mB_of {A : zA} {B : zB} {J0 J : jZ} (h : mB_at J0 B) (f : mPf A J0 J) : mB_at J B := ⟨by rw [f.2.2.2 7 (by omega) (by omega) (by omega)]; exact h.1, fun i hi => by rw [f.1 182 (by omega) (by omega) (by omega) (by omega)]; exact h.2 i hi⟩
/-- the letter at a place; none -/
def zbt (B : zB) (p : Nat) : Int := if p < B.1 then B.2 p else -1
section RM
variable {J0 : jZ} {A M : zA} {B : zB}
theorem s_217_0 {xs : Nat → Int32} {L d : Nat} {K : jZ} {P : Int → jZ → jZ → Prop} (hB : zB_ok B) (h0 : mB_at J0 B) {q : Nat} {F : Nat → Int} (h : ∀ J', mP A J0 J' q M → J' 204 = F → P (zbt B q) J' K) : ∀ (n p : Nat) (J : jZ), p + n = B.1 → zsk B p = q → mP A J0 J p M → J 204 = F → l_217_0 xs L (d + 0) J K P
  | n, p, J, hn, hq, hS, h4 => by
    have h250 := hB.1
    have e8 := hS.2.2.1
    have b := mB_of h0 hS.1
    have b1 := b.1
    refine e_217_0 ⟨by omega, by omega, fun c => ?_, fun c => ⟨by omega, ?_⟩⟩
    · rw [zsk_n (by omega)] at hq
      subst hq
      have := h J hS h4
      unfold zbt at this
      rw [if_neg (by omega)] at this
      exact this
    · match n, hn with
      | 0, hn => omega
      | n + 1, hn =>
        have bb := hB.2 p (by omega)
        rw [e8, Int.toNat_natCast, b.2 p (by omega)]
        refine ⟨by omega, fun c2 => ?_, fun c2 => s_217_0 hB h0 h n (p + 1) _ (by omega) (by rw [← zsk_t (by omega) c2]; exact hq) (mP_p hS (by omega)) (by rw [zu_row (by omega)]; exact h4)⟩
        rw [zsk_f c2] at hq
        subst hq
        have := h J hS h4
        unfold zbt at this
        rw [if_pos (by omega)] at this
        exact this
theorem s_217 {xs : Nat → Int32} {L d : Nat} {J K : jZ} {P : Int → jZ → jZ → Prop} {p : Nat} (hB : zB_ok B) (h0 : mB_at J0 B) (hp : p ≤ B.1) (hS : mP A J0 J p M) (h : ∀ J', mP A J0 J' (zsk B p) M → J' 204 = J 204 → P (zbt B (zsk B p)) J' K) : q_217 xs L (d + 1) J K P := by
  have h250 := hB.1
  have e8 := hS.2.2.1
  have b := mB_of h0 hS.1
  have b1 := b.1
  refine e_217 ⟨by omega, by omega, fun c => ?_, fun c => ⟨by omega, ?_⟩⟩
  · rw [zsk_n (by omega)] at h
    have := h J hS rfl
    unfold zbt at this
    rw [if_neg (by omega)] at this
    exact this
  · have bb := hB.2 p (by omega)
    rw [e8, Int.toNat_natCast, b.2 p (by omega)]
    refine ⟨by omega, fun c2 => ?_, fun c2 => s_217_0 (F := J 204) hB h0 h (B.1 - (p + 1)) (p + 1) _ (by omega) (by rw [← zsk_t (by omega) c2]) (mP_p hS (by omega)) (zu_row (by omega))⟩
    rw [zsk_f c2] at h
    have := h J hS rfl
    unfold zbt at this
    rw [if_pos (by omega)] at this
    exact this
theorem s_218 {xs : Nat → Int32} {L d : Nat} {J K : jZ} {P : Int → jZ → jZ → Prop} {p : Nat} {a b c e g : Int} (hM : M.1 ≤ 1000) (hok : zk_ok M.1 (zr_5 a b c e g)) (hS : mP A J0 J p M) (h : ∀ J', mP A J0 J' p (zA_a M (zr_5 a b c e g)) → P (M.1 : Int) J' K) : q_218 xs L (d + 1) a b c e g J K P := by
  obtain ⟨a1, a2, a3, a4, a5, a6⟩ := hS
  have hA := a2.1
  have n1 : (((zA_a M (zr_5 a b c e g)).1 : Nat) : Int) = (M.1 : Int) + 1 := by
    show ((M.1 + 1 : Nat) : Int) = _
    omega
  refine e_218 ?_
  rw [a5, show (M.1 : Int) + 1 - 1 = (M.1 : Int) by omega]
  refine ⟨by omega, fun t => h _ ⟨mPf_1 a1 (.inr (.inr rfl)), zM_a a2 hok, by rw [zu_key (by omega)]; exact a3, by rw [zu_key (by omega)]; exact a4, by rw [zu_self, n1], fun i hi h24 => ?_⟩, fun t => ⟨by omega, by omega, by omega, by omega, by omega, ?_⟩⟩
  · have hi : i < M.1 + 1 := hi
    rw [zu_row (by omega), zu_row (by omega), zA_a_o (by omega)]
    exact a6 i (by omega) h24
  · rw [Int.toNat_natCast, show (4 * (M.1 : Int)).toNat = 4 * M.1 by omega, show (4 * (M.1 : Int) + 1).toNat = 4 * M.1 + 1 by omega, show (4 * (M.1 : Int) + 2).toNat = 4 * M.1 + 2 by omega, show (4 * (M.1 : Int) + 3).toNat = 4 * M.1 + 3 by omega]
    have fin : ∀ J3 : jZ, (∀ x, x ≠ 167 → x ≠ 187 → x ≠ 188 → J3 x = J x) → (∀ k, k ≠ 40 → J3 167 k = J 167 k) → J3 167 40 = (M.1 : Int) + 1 → (J3 187 M.1 = a ∧ ∀ i, i ≠ M.1 → J3 187 i = J 187 i) → (J3 188 (4 * M.1) = b ∧ J3 188 (4 * M.1 + 1) = c ∧ J3 188 (4 * M.1 + 2) = e ∧ J3 188 (4 * M.1 + 3) = g) → (∀ m, m < 4 * M.1 → J3 188 m = J 188 m) → P (M.1 : Int) J3 K := fun J3 f1 f2 f2' f3 f4 f5 => by
      refine h J3 ⟨⟨fun x b1 b2 b3 b4 => by rw [f1 x b1 b2 b3]; exact a1.1 x b1 b2 b3 b4, fun i hi => by rw [f3.2 i (by omega)]; exact a1.2.1 i hi, fun i hi => by rw [f5 i (by omega)]; exact a1.2.2.1 i hi, fun k b1 b2 b3 => by rw [f2 k b3]; exact a1.2.2.2 k b1 b2 b3⟩, zM_a a2 hok, by rw [f2 38 (by omega)]; exact a3, by rw [f2 39 (by omega)]; exact a4, by rw [f2', n1], fun i hi h24 => ?_⟩
      have hi : i < M.1 + 1 := hi
      by_cases c0 : i = M.1
      · subst c0
        rw [zA_a_n]
        refine ⟨f3.1, fun j hj => ?_⟩
        have ej : j = 0 ∨ j = 1 ∨ j = 2 ∨ j = 3 := by omega
        rcases ej with rfl | rfl | rfl | rfl
        · exact f4.1
        · exact f4.2.1
        · exact f4.2.2.1
        · exact f4.2.2.2
      · rw [zA_a_o (by omega)]
        have z := a6 i (by omega) h24
        refine ⟨by rw [f3.2 i c0]; exact z.1, fun j hj => ?_⟩
        rw [f5 _ (by omega)]
        exact z.2 j hj
    refine fin _ (fun x a1 a2 a3 => ?_) (fun k a1 => ?_) zu_self ⟨?_, fun i hi => ?_⟩ ⟨?_, ?_, ?_, ?_⟩ (fun m hm => ?_)
    · rw [zu_row a1, zu_row a3, zu_row a3, zu_row a3, zu_row a3, zu_row a2]
    · rw [zu_key a1, zu_row (by omega), zu_row (by omega), zu_row (by omega), zu_row (by omega), zu_row (by omega)]
    · rw [zu_row (by omega), zu_row (by omega), zu_row (by omega), zu_row (by omega), zu_row (by omega), zu_self]
    · rw [zu_row (by omega), zu_row (by omega), zu_row (by omega), zu_row (by omega), zu_row (by omega), zu_key hi]
    · rw [zu_row (by omega), zu_key (by omega), zu_key (by omega), zu_key (by omega), zu_self]
    · rw [zu_row (by omega), zu_key (by omega), zu_key (by omega), zu_self]
    · rw [zu_row (by omega), zu_key (by omega), zu_self]
    · rw [zu_row (by omega), zu_self]
    · rw [zu_row (by omega), zu_key (by omega), zu_key (by omega), zu_key (by omega), zu_key (by omega), zu_row (by omega)]
theorem s_220 {xs : Nat → Int32} {L d : Nat} {J K : jZ} {P : Int → jZ → jZ → Prop} {p : Nat} {f : Int} (hS : mP A J0 J p M) (h : ∀ J', mE A J0 J' f → P 0 J' K) : q_220 xs L (d + 1) f J K P := by
  have e9 := hS.2.2.2.1
  exact e_220 ⟨by omega, fun c => absurd e9 c, fun _ => h _ (mP_f hS)⟩
theorem s_222 {xs : Nat → Int32} {L d : Nat} {J K : jZ} {P : Int → jZ → jZ → Prop} {p : Nat} {b : Int} (hB : zB_ok B) (h0 : mB_at J0 B) (hp : p ≤ B.1) (hb : 0 ≤ b ∧ b ≤ 255) (hS : mP A J0 J p M) (h : zsk B p < B.1 → B.2 (zsk B p) = b → ∀ J', mP A J0 J' (zsk B p + 1) M → J' 204 = J 204 → P 1 J' K) (hn : ¬ (zsk B p < B.1 ∧ B.2 (zsk B p) = b) → ∀ J', mP A J0 J' (zsk B p) M → J' 204 = J 204 → P 0 J' K) : q_222 xs L (d + 2) b J K P := by
  have e9 := hS.2.2.2.1
  have r := zsk_r hp
  refine e_222 ⟨by omega, fun c => absurd e9 c, fun _ => s_217 hB h0 hp hS (fun J1 S1 f1 => ?_)⟩
  have e8 := S1.2.2.1
  have br : -1 ≤ zbt B (zsk B p) ∧ zbt B (zsk B p) ≤ 255 := by
    unfold zbt
    split
    · rename_i c
      have := hB.2 _ c
      omega
    · omega
  refine ⟨by omega, by omega, fun c => ?_, fun c => ?_⟩
  · refine hn (fun z => c ?_) _ (mP_p S1 (by omega)) (by rw [zu_row (by omega)]; exact f1)
    unfold zbt
    rw [if_pos z.1]
    exact z.2
  · unfold zbt at c
    by_cases z : zsk B p < B.1
    · rw [if_pos z] at c
      exact h z c _ (mP_p S1 (by omega)) (by rw [zu_row (by omega)]; exact f1)
    · rw [if_neg z] at c
      omega
theorem s_222f {xs : Nat → Int32} {L d : Nat} {J K : jZ} {P : Int → jZ → jZ → Prop} {b f : Int} (hf : 0 ≤ f ∧ f ≤ 300) (hE : mE A J0 J f) (h : ∀ J', mE A J0 J' f → P 0 J' K) : q_222 xs L (d + 2) b J K P := by
  have e9 := hE.2
  exact e_222 ⟨by omega, fun _ => h _ ⟨mPf_1 hE.1 (.inl rfl), by rw [zu_key (by omega)]; exact e9⟩, fun c => by omega⟩
theorem s_221 {xs : Nat → Int32} {L d : Nat} {J K : jZ} {P : jZ → jZ → Prop} {p : Nat} {b : Int} (hB : zB_ok B) (h0 : mB_at J0 B) (hp : p ≤ B.1) (hb : 0 ≤ b ∧ b ≤ 255) (hS : mP A J0 J p M) (h : zsk B p < B.1 → B.2 (zsk B p) = b → ∀ J', mP A J0 J' (zsk B p + 1) M → J' 204 = J 204 → P J' K) (hn : ¬ (zsk B p < B.1 ∧ B.2 (zsk B p) = b) → ∀ J', mE A J0 J' (zsk B p : Int) → P J' K) : q_221 xs L (d + 3) b J K P := by
  have e9 := hS.2.2.2.1
  refine e_221 ⟨by omega, fun c => absurd e9 c, fun _ => s_222 hB h0 hp hb hS (fun c1 c2 J1 S1 f1 => ⟨by omega, fun _ => h c1 c2 J1 S1 f1, fun z => by omega⟩) (fun c J1 S1 f1 => ⟨by omega, fun z => absurd rfl z, fun _ => ?_⟩)⟩
  have e8 := S1.2.2.1
  rw [e8]
  exact s_220 S1 (hn c)
theorem s_221f {xs : Nat → Int32} {L d : Nat} {J K : jZ} {P : jZ → jZ → Prop} {b f : Int} (hf : 0 ≤ f ∧ f ≤ 300) (hE : mE A J0 J f) (h : P J K) : q_221 xs L (d + 3) b J K P := by
  have e9 := hE.2
  exact e_221 ⟨by omega, fun _ => h, fun c => by omega⟩
-- a number
theorem s_224_104 {xs : Nat → Int32} {L d : Nat} {J K : jZ} {P : Int → jZ → jZ → Prop} {a p : Nat} {m v : Int} (hB : zB_ok B) (hm : 1 ≤ m ∧ m ≤ 60) (ha : a ≤ p) (hp : p ≤ B.1) (hS : mP A J0 J p M) (hv : p ≤ a + 2 → v = zdv B a p) (h9 : 0 ≤ v ∧ v ≤ 99) (h : p ≤ a + 2 ∧ 1 ≤ zdv B a p ∧ zdv B a p ≤ m → P (zdv B a p) J K) (hb : ¬ (p ≤ a + 2 ∧ 1 ≤ zdv B a p ∧ zdv B a p ≤ m) → ∀ J', mE A J0 J' (a : Int) → P 0 J' K) : l_224_104 xs L (d + 1) 1 m (a : Int) v J K P := by
  have h250 := hB.1
  have e8 := hS.2.2.1
  have bad : ¬ (p ≤ a + 2 ∧ 1 ≤ zdv B a p ∧ zdv B a p ≤ m) → l_224_135 xs L (d + 1) (a : Int) J K P := fun q => e_224_135 (s_220 hS (hb q))
  refine e_224_104 ⟨by omega, by omega, fun q => bad (fun z => ?_), fun q => ⟨by omega, fun q2 => bad (by omega), fun q2 => ⟨by omega, by omega, by omega, fun q3 => ?_, fun q3 => bad (fun z => ?_)⟩⟩⟩
  · have e : p = a := by omega
    have : zdv B a p = 0 := by
      unfold zdv
      rw [if_pos e]
    omega
  · have e := hv (by omega)
    rw [e] at q3 ⊢
    exact h ⟨by omega, q3⟩
  · have e := hv (by omega)
    omega
theorem s_224_23 {xs : Nat → Int32} {L d : Nat} {K : jZ} {P : Int → jZ → jZ → Prop} {a : Nat} {m : Int} (hB : zB_ok B) (h0 : mB_at J0 B) (hm : 1 ≤ m ∧ m ≤ 60) (h : zde B a ≤ a + 2 ∧ 1 ≤ zdv B a (zde B a) ∧ zdv B a (zde B a) ≤ m → ∀ J', mP A J0 J' (zde B a) M → P (zdv B a (zde B a)) J' K) (hb : ¬ (zde B a ≤ a + 2 ∧ 1 ≤ zdv B a (zde B a) ∧ zdv B a (zde B a) ≤ m) → ∀ J', mE A J0 J' (a : Int) → P 0 J' K) : ∀ (n p : Nat) (v : Int) (J : jZ), p + n = B.1 → a ≤ p → zde B p = zde B a → (p ≤ a + 2 → v = zdv B a p) → (p = a → v = 0) → (p = a + 1 → 0 ≤ v ∧ v ≤ 9) → 0 ≤ v ∧ v ≤ 99 → mP A J0 J p M → l_224_23 xs L (d + 1) 1 m (a : Int) v J K P
  | n, p, v, J, hn, ha, hz, hv, z0, z1, h9, hS => by
    have h250 := hB.1
    have e8 := hS.2.2.1
    have b := mB_of h0 hS.1
    have b1 := b.1
    have fin : zde B p = p → l_224_104 xs L (d + 1) 1 m (a : Int) v J K P := fun q => by
      rw [← hz, q] at h hb
      exact s_224_104 hB hm ha (by omega) hS hv h9 (fun z => h z J hS) hb
    refine e_224_23 ⟨by omega, by omega, fun q => fin (zde_n (by omega)), fun q => ⟨by omega, ?_⟩⟩
    match n, hn with
    | 0, hn => omega
    | n + 1, hn =>
      have bb := hB.2 p (by omega)
      rw [e8, Int.toNat_natCast, b.2 p (by omega)]
      refine ⟨by omega, fun q2 => ⟨by omega, fun q4 => ?_, fun q4 => ?_⟩, fun q2 => fin (zde_f q2)⟩
      · exact s_224_23 hB h0 hm h hb n (p + 1) v _ (by omega) (by omega) (by rw [← zde_t (by omega) q2]; exact hz) (fun t => by omega) (fun t => by omega) (fun t => by omega) h9 (mP_p hS (by omega))
      · have pc : p = a ∨ p = a + 1 := by omega
        have r : (0 ≤ 10 * v + B.2 p - 48 ∧ 10 * v + B.2 p - 48 ≤ 99) ∧ (p = a → 10 * v + B.2 p - 48 ≤ 9) := by
          rcases pc with c | c
          · have := z0 c
            omega
          · have := z1 c
            omega
        refine s_224_23 hB h0 hm h hb n (p + 1) _ _ (by omega) (by omega) (by rw [← zde_t (by omega) q2]; exact hz) (fun t => ?_) (fun t => by omega) (fun t => by have := r.2 (by omega); omega) r.1 (mP_p hS (by omega))
        have s := zdw_s (B := B) (m := m) ha
        rw [if_neg (by omega)] at s
        unfold zdw at s
        rw [if_pos (by omega), if_pos (by omega), ← hv (by omega)] at s
        exact s.symm
theorem s_224 {xs : Nat → Int32} {L d : Nat} {J K : jZ} {P : Int → jZ → jZ → Prop} {p : Nat} {m : Int} (hB : zB_ok B) (h0 : mB_at J0 B) (hm : 1 ≤ m ∧ m ≤ 60) (hp : p ≤ B.1) (hS : mP A J0 J p M) (h : zNo B m p → ∀ J', mP A J0 J' (zNe B p) M → P (zNv B p) J' K) (hb : ¬ zNo B m p → ∀ J', mE A J0 J' (zNa B p : Int) → P 0 J' K) : q_224 xs L (d + 2) 1 m J K P := by
  have e9 := hS.2.2.2.1
  have r := zsk_r hp
  refine e_224 ⟨by omega, fun _ => s_217 hB h0 hp hS (fun J1 S1 f1 => ?_), fun c => absurd e9 c⟩
  have e8 := S1.2.2.1
  rw [e8]
  exact s_224_23 (a := zsk B p) hB h0 hm h hb (B.1 - zsk B p) (zsk B p) 0 J1 (by omega) (Nat.le_refl _) rfl (fun _ => by unfold zdv; rw [if_pos rfl]) (fun _ => rfl) (fun t => by omega) (by omega) S1
theorem s_224f {xs : Nat → Int32} {L d : Nat} {J K : jZ} {P : Int → jZ → jZ → Prop} {m f : Int} (hf : 0 ≤ f ∧ f ≤ 300) (hE : mE A J0 J f) (h : P 0 J K) : q_224 xs L (d + 2) 1 m J K P := by
  have e9 := hE.2
  exact e_224 ⟨by omega, fun c => by omega, fun _ => h⟩
end RM
