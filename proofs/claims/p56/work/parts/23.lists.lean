/-! Lists of spans as values: what a Spans object holds, and what its methods answer. -/
theorem zu_row {J : jZ} {a b k : Nat} {v : Int} (h : b ≠ a) : jm_up J a k v b = J b := by
  funext y
  unfold jm_up
  rw [if_neg (fun q => h q.1)]
theorem zu_key {J : jZ} {a k m : Nat} {v : Int} (h : m ≠ k) : jm_up J a k v a m = J a m := by
  unfold jm_up
  rw [if_neg (fun q => h q.2)]
theorem zu_ne {J : jZ} {a b k m : Nat} {v : Int} (h : b ≠ a ∨ m ≠ k) : jm_up J a k v b m = J b m := by
  unfold jm_up
  rw [if_neg (fun q => by omega)]
theorem zu_self {J : jZ} {a k : Nat} {v : Int} : jm_up J a k v a k = v := by
  unfold jm_up
  rw [if_pos ⟨rfl, rfl⟩]
theorem zc_row {J : jZ} {s sp t tp n b : Nat} (h : b ≠ t) : jz_cpy J s sp t tp n b = J b := by
  funext y
  unfold jz_cpy
  rw [if_neg h]
theorem zc_self {J : jZ} {s sp t tp n k : Nat} : jz_cpy J s sp t tp n t k = if tp ≤ k ∧ k < tp + n then J s (sp + (k - tp)) else J t k := by
  unfold jz_cpy
  rw [if_pos rfl]
abbrev zL : Type := List (Int × Int)
def zs_f (l : zL) (k : Nat) : Int := (l.getD k (0, 0)).1
def zs_l (l : zL) (k : Nat) : Int := (l.getD k (0, 0)).2
/-- none lies in another: both ends ascend -/
def zs_ok (l : zL) : Prop := l.length ≤ 60 ∧ (∀ k, k < l.length → 0 ≤ zs_f l k ∧ zs_f l k ≤ zs_l l k ∧ zs_l l k < 60) ∧ (∀ j k, j < k → k < l.length → zs_f l j < zs_f l k ∧ zs_l l j < zs_l l k)
/-- the Spans object a holds l -/
def zs_at (J : jZ) (a : Nat) (l : zL) : Prop := J a 2 = (l.length : Int) ∧ ∀ k, k < l.length → J (a + 1) k = zs_f l k ∧ J (a + 2) k = zs_l l k
theorem zs_at_of {J J' : jZ} {a : Nat} {l : zL} (h : zs_at J a l) (h0 : J' a 2 = J a 2) (h1 : ∀ k, k < l.length → J' (a + 1) k = J (a + 1) k ∧ J' (a + 2) k = J (a + 2) k) : zs_at J' a l := ⟨by rw [h0]; exact h.1, fun k hk => by rw [(h1 k hk).1, (h1 k hk).2]; exact h.2 k hk⟩
theorem zs_mono {l : zL} (hg : zs_ok l) {j k : Nat} (h : j ≤ k) (hk : k < l.length) : zs_f l j ≤ zs_f l k ∧ zs_l l j ≤ zs_l l k := by
  by_cases h1 : j = k
  · subst h1
    omega
  · have := hg.2.2 j k (by omega) hk
    omega
/-- a sum -/
def zn (f : Nat → Int) : Nat → Int
  | 0 => 0
  | n + 1 => zn f n + f n
/-- the first place from i on that is not before p -/
def zs_on (l : zL) (i p r : Int) : Prop := i ≤ r ∧ r ≤ l.length ∧ (∀ k : Nat, i ≤ (k : Int) → (k : Int) < r → zs_f l k < p) ∧ (∀ k : Nat, r = (k : Int) → k < l.length → p ≤ zs_f l k)
theorem s_45_3 {xs : Nat → Int32} {L d : Nat} {J K : jZ} {P : Int → jZ → jZ → Prop} {a : Nat} {p : Int} {l : zL} (ha : jz_kd a = 16) (hr : zs_at J a l) (hg : zs_ok l) (hp : -9223372036854775808 ≤ p ∧ p < 9223372036854775808) : ∀ (n : Nat) (i : Int), 0 ≤ i → i + n = l.length → (∀ r, zs_on l i p r → P r J K) → l_45_3 xs L d a p i J K P
  | n, i, hi, hn, h => by
    have h60 := hg.1
    have hs := hr.1
    refine e_45_3 ha ⟨by omega, by omega, fun hc => ?_, fun hc => ?_⟩
    · exact h i ⟨by omega, by omega, fun k h1 h2 => by omega, fun k h1 h2 => by omega⟩
    · have hk := hr.2 i.toNat (by omega)
      have hb := hg.2.1 i.toNat (by omega)
      refine ⟨by omega, by omega, hp, fun hc2 => ?_, fun hc2 => ?_⟩
      · exact h i ⟨by omega, by omega, fun k h1 h2 => by omega, fun k h1 h2 => by
          obtain rfl : k = i.toNat := by omega
          omega⟩
      · match n, hn with
        | 0, hn => omega
        | n + 1, hn =>
          refine s_45_3 ha hr hg hp n (i + 1) (by omega) (by omega) (fun r hr' => h r ⟨by have := hr'.1; omega, hr'.2.1, fun k h1 h2 => ?_, hr'.2.2.2⟩)
          by_cases hki : (k : Int) = i
          · obtain rfl : k = i.toNat := by omega
            omega
          · exact hr'.2.2.1 k (by omega) h2
theorem s_45 {xs : Nat → Int32} {L d : Nat} {J K : jZ} {P : Int → jZ → jZ → Prop} {a : Nat} {i p : Int} {l : zL} (ha : jz_kd a = 16) (hr : zs_at J a l) (hg : zs_ok l) (hp : -9223372036854775808 ≤ p ∧ p < 9223372036854775808) (hi : 0 ≤ i ∧ i ≤ l.length) (h : ∀ r, zs_on l i p r → P r J K) : q_45 xs L (d + 1) a i p J K P :=
  e_45 ha (s_45_3 ha hr hg hp (l.length - i.toNat) i (by omega) (by omega) h)
/-- how many lasts are below p -/
def zs_lb (l : zL) (p r : Int) : Prop := 0 ≤ r ∧ r ≤ l.length ∧ (∀ k : Nat, (k : Int) < r → zs_l l k < p) ∧ (∀ k : Nat, r = (k : Int) → k < l.length → p ≤ zs_l l k)
theorem s_118_2 {xs : Nat → Int32} {L d : Nat} {J K : jZ} {P : Int → jZ → jZ → Prop} {a : Nat} {p : Int} {l : zL} (ha : jz_kd a = 16) (hr : zs_at J a l) (hg : zs_ok l) (hp : -2147483648 ≤ p ∧ p < 2147483648) (h : ∀ r, zs_lb l p r → P r J K) : ∀ (n : Nat) (i : Int), 0 ≤ i → i + n = l.length → (∀ k : Nat, (k : Int) < i → zs_l l k < p) → l_118_2 xs L d a p i J K P
  | n, i, hi, hn, hlo => by
    have h60 := hg.1
    have hs := hr.1
    refine e_118_2 ha ⟨by omega, by omega, fun hc => ?_, fun hc => ?_⟩
    · exact h i ⟨by omega, by omega, hlo, fun k h1 h2 => by omega⟩
    · have hk := hr.2 i.toNat (by omega)
      have hb := hg.2.1 i.toNat (by omega)
      refine ⟨by omega, by omega, hp, fun hc2 => ?_, fun hc2 => ?_⟩
      · exact h i ⟨by omega, by omega, hlo, fun k h1 h2 => by
          obtain rfl : k = i.toNat := by omega
          omega⟩
      · match n, hn with
        | 0, hn => omega
        | n + 1, hn =>
          refine s_118_2 ha hr hg hp h n (i + 1) (by omega) (by omega) (fun k h1 => ?_)
          by_cases hki : (k : Int) = i
          · obtain rfl : k = i.toNat := by omega
            omega
          · exact hlo k (by omega)
theorem s_118 {xs : Nat → Int32} {L d : Nat} {J K : jZ} {P : Int → jZ → jZ → Prop} {a : Nat} {p : Int} {l : zL} (ha : jz_kd a = 16) (hr : zs_at J a l) (hg : zs_ok l) (hp : -2147483648 ≤ p ∧ p < 2147483648) (h : ∀ r, zs_lb l p r → P r J K) : q_118 xs L (d + 1) a p J K P :=
  e_118 ha (s_118_2 ha hr hg hp h l.length 0 (by omega) (by omega) (fun k h1 => by omega))
/-- the last of the i-th span; 60 where there is none -/
def zs_la (l : zL) (i : Int) : Int := if 0 ≤ i ∧ i < (l.length : Int) then zs_l l i.toNat else 60
theorem s_46 {xs : Nat → Int32} {L d : Nat} {J K : jZ} {P : Int → jZ → jZ → Prop} {a : Nat} {i : Int} {l : zL} (ha : jz_kd a = 16) (hr : zs_at J a l) (hg : zs_ok l) (hi : -2147483648 ≤ i ∧ i < 2147483648) (h : P (zs_la l i) J K) : q_46 xs L (d + 2) a i J K P := by
  have h60 := hg.1
  have hs := hr.1
  unfold zs_la at h
  refine e_46 ha ⟨hi, by omega, fun hc => ⟨by omega, ?_⟩, fun hc => ?_⟩
  · rw [if_pos (by omega)] at h
    rw [(hr.2 i.toNat (by omega)).2]
    exact h
  · rw [if_neg (by omega)] at h
    exact h
theorem s_117 {xs : Nat → Int32} {L d : Nat} {J K : jZ} {P : Int → jZ → jZ → Prop} {a : Nat} {i : Int} {l : zL} (ha : jz_kd a = 16) (hr : zs_at J a l) (hg : zs_ok l) (hi : -2147483648 ≤ i ∧ i < 2147483648) (h : P (if 0 ≤ i ∧ i < (l.length : Int) then i else -1) J K) : q_117 xs L (d + 2) a i J K P := by
  have h60 := hg.1
  have hs := hr.1
  refine e_117 ha ⟨hi, by omega, fun hc => ?_, fun hc => ?_⟩
  · rw [if_pos (by omega)] at h
    exact h
  · rw [if_neg (by omega)] at h
    exact h
/-- what holds of how many first, and of how many last ones, is a number of them: those of a run -/
theorem zn_run {f : Nat → Int} {a b : Nat} (h : ∀ k, f k = if a ≤ k ∧ k < b then 1 else 0) : ∀ n : Nat, zn f n = if n ≤ a then 0 else if b ≤ a then 0 else if n ≤ b then (n : Int) - a else (b : Int) - a
  | 0 => by simp [zn]
  | n + 1 => by
    rw [zn, zn_run h n, h n]
    repeat' split
    all_goals omega
theorem zn_congr {f g : Nat → Int} : ∀ n : Nat, (∀ k, k < n → f k = g k) → zn f n = zn g n
  | 0, _ => rfl
  | n + 1, h => by rw [zn, zn, zn_congr n (fun k hk => h k (by omega)), h n (by omega)]
/-- how many spans have a place in them -/
def zs_thr (l : zL) (p : Int) : Int := zn (fun k => if zs_f l k ≤ p ∧ p ≤ zs_l l k then 1 else 0) l.length
theorem zs_run_eq {l : zL} {c : Nat → Prop} {i : ∀ k, Decidable (c k)} {a b : Nat} (hb : b ≤ l.length) (h : ∀ k, k < l.length → (c k ↔ a ≤ k ∧ k < b)) : zn (fun k => @ite _ (c k) (i k) (1 : Int) 0) l.length = if a ≤ b then (b : Int) - a else 0 := by
  rw [zn_congr (g := fun k => if a ≤ k ∧ k < b then (1 : Int) else 0) l.length (fun k hk => by
    by_cases hc : c k
    · simp only [if_pos hc, if_pos ((h k hk).mp hc)]
    · simp only [if_neg hc, if_neg (fun q => hc ((h k hk).mpr q))])]
  rw [zn_run (a := a) (b := b) (fun k => rfl)]
  repeat' split
  all_goals omega