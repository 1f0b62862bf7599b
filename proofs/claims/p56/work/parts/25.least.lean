/-! The least of some spans: what both programs keep of those offered, and the list that comes of it. -/
/-- for each first the least last of those offered; z: none -/
def zl_lo (z : Int) (S : Int → Int → Prop) (r : Nat → Int) : Prop := ∀ f : Nat, f < 60 → (r f = z ∧ ∀ e, ¬ S f e) ∨ (0 ≤ r f ∧ r f < 60 ∧ S f (r f) ∧ ∀ e, S f e → r f ≤ e)
/-- a span offered in which no other one lies -/
def zl_mn (S : Int → Int → Prop) (f e : Int) : Prop := S f e ∧ (∀ e', S f e' → e ≤ e') ∧ ∀ f' e', f < f' → f' < 60 → S f' e' → e < e'
def zl_isl (S : Int → Int → Prop) (l : zL) : Prop := zs_ok l ∧ ∀ f e, zs_in l f e ↔ (0 ≤ f ∧ f < 60 ∧ zl_mn S f e)
theorem zs_ext {l m : zL} (hl : zs_ok l) (hm : zs_ok m) (h : ∀ f e, zs_in l f e ↔ zs_in m f e) : l = m := by
  have key : ∀ (a b : zL), zs_ok a → zs_ok b → (∀ f e, zs_in a f e → zs_in b f e) → (∀ f e, zs_in b f e → zs_in a f e) → ∀ k, k < a.length → k < b.length ∧ zs_f a k = zs_f b k ∧ zs_l a k = zs_l b k := by
    intro a b ha hb h1 h2 k
    induction k using Nat.strongRecOn with
    | ind k ih =>
      intro hk
      obtain ⟨j, hj, e1, e2⟩ := h1 _ _ ⟨k, hk, rfl, rfl⟩
      have hjk : k ≤ j := by
        by_cases q : k ≤ j
        · exact q
        · have := ih j (by omega) (by omega)
          have := ha.2.2 j k (by omega) hk
          omega
      by_cases q : k = j
      · subst q
        exact ⟨hj, e1.symm, e2.symm⟩
      · obtain ⟨i, hi, e3, e4⟩ := h2 _ _ ⟨k, by omega, rfl, rfl⟩
        have := hb.2.2 k j (by omega) hj
        have hik : i < k := by
          by_cases q2 : i < k
          · exact q2
          · have := zs_mono ha (show k ≤ i by omega) hi
            omega
        have := ih i hik hi
        have := hb.2.2 i k hik (by omega)
        omega
  have k1 := key l m hl hm (fun f e => (h f e).mp) (fun f e => (h f e).mpr)
  have k2 := key m l hm hl (fun f e => (h f e).mpr) (fun f e => (h f e).mp)
  have hlen : l.length = m.length := by
    by_cases q : l.length ≤ m.length
    · by_cases q2 : m.length ≤ l.length
      · omega
      · have := k2 l.length (by omega)
        omega
    · have := k1 m.length (by omega)
      omega
  refine List.ext_getElem hlen (fun k h1 h2 => ?_)
  have := k1 k h1
  unfold zs_f zs_l at this
  rw [List.getD_eq_getElem?_getD, List.getD_eq_getElem?_getD, List.getElem?_eq_getElem h1, List.getElem?_eq_getElem h2] at this
  exact Prod.ext this.2.1 this.2.2
noncomputable def zl_of (S : Int → Int → Prop) : zL := Classical.epsilon (zl_isl S)
theorem zl_of_eq {S : Int → Int → Prop} {l : zL} (h : zl_isl S l) : zl_of S = l := by
  have h1 : zl_isl S (zl_of S) := Classical.epsilon_spec ⟨l, h⟩
  exact zs_ext h1.1 h.1 (fun f e => (h1.2 f e).trans (h.2 f e).symm)
/-- two sets of spans, in each of which lies one of the other, have the same least ones -/
theorem zl_mn_eq {S T : Int → Int → Prop} (h1 : ∀ f e, 0 ≤ f → f < 60 → S f e → ∃ f' e', f ≤ f' ∧ f' < 60 ∧ e' ≤ e ∧ T f' e') (h2 : ∀ f e, 0 ≤ f → f < 60 → T f e → ∃ f' e', f ≤ f' ∧ f' < 60 ∧ e' ≤ e ∧ S f' e') {f e : Int} (hf : 0 ≤ f ∧ f < 60) : zl_mn S f e → zl_mn T f e := by
  rintro ⟨a1, a2, a3⟩
  obtain ⟨f1, e1, b1, b2, b3, b4⟩ := h1 f e hf.1 hf.2 a1
  obtain ⟨f2, e2, c1, c2, c3, c4⟩ := h2 f1 e1 (by omega) b2 b4
  have hff : f1 = f := by
    by_cases q : f1 = f
    · exact q
    · have := a3 f2 e2 (by omega) c2 c4
      omega
  subst hff
  have he : e1 = e := by
    by_cases q : f2 = f1
    · subst q
      have := a2 e2 c4
      omega
    · have := a3 f2 e2 (by omega) c2 c4
      omega
  subst he
  refine ⟨b4, fun e' ht => ?_, fun f' e' hf' h60 ht => ?_⟩
  · obtain ⟨f3, e3, d1, d2, d3, d4⟩ := h2 f1 e' hf.1 hf.2 ht
    by_cases q : f3 = f1
    · subst q
      have := a2 e3 d4
      omega
    · have := a3 f3 e3 (by omega) d2 d4
      omega
  · obtain ⟨f3, e3, d1, d2, d3, d4⟩ := h2 f' e' (by omega) h60 ht
    have := a3 f3 e3 (by omega) d2 d4
    omega
theorem zl_isl_eq {S T : Int → Int → Prop} {l : zL} (h1 : ∀ f e, 0 ≤ f → f < 60 → S f e → ∃ f' e', f ≤ f' ∧ f' < 60 ∧ e' ≤ e ∧ T f' e') (h2 : ∀ f e, 0 ≤ f → f < 60 → T f e → ∃ f' e', f ≤ f' ∧ f' < 60 ∧ e' ≤ e ∧ S f' e') (h : zl_isl S l) : zl_isl T l := by
  refine ⟨h.1, fun f e => (h.2 f e).trans ⟨fun ⟨a, b, c⟩ => ⟨a, b, zl_mn_eq h1 h2 ⟨a, b⟩ c⟩, fun ⟨a, b, c⟩ => ⟨a, b, zl_mn_eq h2 h1 ⟨a, b⟩ c⟩⟩⟩
/-- while the least are sought from behind: k and those behind it are done, m the nearest last there -/
def zl_ph (z : Int) (S : Int → Int → Prop) (r : Nat → Int) (k : Nat) (m : Int) : Prop :=
  (∀ f : Nat, f < k → f < 60 → (r f = z ∧ ∀ e, ¬ S f e) ∨ (0 ≤ r f ∧ r f < 60 ∧ S f (r f) ∧ ∀ e, S f e → r f ≤ e)) ∧
  (∀ f : Nat, k ≤ f → f < 60 → (r f = z ∧ ∀ e, ¬ zl_mn S f e) ∨ (0 ≤ r f ∧ r f < 60 ∧ zl_mn S f (r f))) ∧
  (∀ (g : Nat) (e : Int), k ≤ g → g < 60 → S g e → m ≤ e) ∧ (m = 60 ∨ (m < 60 ∧ ∃ g : Nat, k ≤ g ∧ g < 60 ∧ S g m)) ∧ 0 ≤ m
theorem zl_ph_0 {z : Int} {S : Int → Int → Prop} {r : Nat → Int} (h : zl_lo z S r) : zl_ph z S r 60 60 :=
  ⟨fun f h1 h2 => h f h2, fun f h1 h2 => by omega, fun g e h1 h2 => by omega, .inl rfl, by omega⟩
theorem zl_ph_none {z : Int} {S : Int → Int → Prop} {r r' : Nat → Int} {k : Nat} {m : Int} (hk : k < 60) (hz : z < 0 ∨ 60 ≤ z) (h : zl_ph z S r (k + 1) m) (h0 : r k = z ∨ m ≤ r k) (h1 : r' k = z) (h2 : ∀ j, j ≠ k → r' j = r j) : zl_ph z S r' k m := by
  obtain ⟨a1, a2, a3, a4, a5⟩ := h
  have ak := a1 k (by omega) hk
  refine ⟨fun f q1 q2 => by rw [h2 f (by omega)]; exact a1 f (by omega) q2, fun f q1 q2 => ?_, fun g e q1 q2 q3 => ?_, ?_, a5⟩
  · by_cases q : f = k
    · subst q
      refine .inl ⟨h1, fun e he => ?_⟩
      rcases ak with ⟨-, b⟩ | ⟨b1, b2, b3, b4⟩
      · exact b e he.1
      · have hb := b4 e he.1
        rcases a4 with c | ⟨c0, g, c1, c2, c3⟩
        · rcases h0 with h0 | h0 <;> omega
        · have := he.2.2 g m (by omega) (by omega) c3
          rcases h0 with h0 | h0 <;> omega
    · rw [h2 f q]
      exact a2 f (by omega) q2
  · by_cases q : g = k
    · subst q
      rcases ak with ⟨-, b⟩ | ⟨b1, b2, b3, b4⟩
      · exact absurd q3 (b e)
      · have := b4 e q3
        rcases h0 with h0 | h0 <;> omega
    · exact a3 g e (by omega) q2 q3
  · rcases a4 with c | ⟨c0, g, c1, c2, c3⟩
    · exact .inl c
    · exact .inr ⟨c0, g, by omega, c2, c3⟩
theorem zl_ph_some {z : Int} {S : Int → Int → Prop} {r : Nat → Int} {k : Nat} {m : Int} (hk : k < 60) (h : zl_ph z S r (k + 1) m) (h0 : ¬ r k = z) (h1 : r k < m) : zl_ph z S r k (r k) := by
  obtain ⟨a1, a2, a3, a4, a5⟩ := h
  rcases a1 k (by omega) hk with ⟨b, -⟩ | ⟨b1, b2, b3, b4⟩
  · exact absurd b h0
  · refine ⟨fun f q1 q2 => a1 f (by omega) q2, fun f q1 q2 => ?_, fun g e q1 q2 q3 => ?_, .inr ⟨b2, k, by omega, hk, b3⟩, b1⟩
    · by_cases q : f = k
      · subst q
        refine .inr ⟨b1, b2, b3, b4, fun f' e' q3 q4 q5 => ?_⟩
        have h5 : ((f'.toNat : Nat) : Int) = f' := by omega
        have := a3 f'.toNat e' (by omega) (by omega) (by rw [h5]; exact q5)
        omega
      · exact a2 f (by omega) q2
    · by_cases q : g = k
      · subst q
        exact b4 e q3
      · have := a3 g e (by omega) q2 q3
        omega
/-- the list so far: of firsts below k -/
def zl_pre (S : Int → Int → Prop) (k : Nat) (l : zL) : Prop := zs_ok l ∧ l.length ≤ k ∧ ∀ f e, zs_in l f e ↔ (0 ≤ f ∧ f < k ∧ zl_mn S f e)
theorem zl_pre_0 {S : Int → Int → Prop} : zl_pre S 0 [] := ⟨⟨by simp, fun k hk => by simp at hk, fun j k _ hk => by simp at hk⟩, by simp, fun f e => ⟨fun ⟨k, hk, _⟩ => by simp at hk, fun h => by omega⟩⟩
theorem zl_pre_none {S : Int → Int → Prop} {k : Nat} {l : zL} (h : zl_pre S k l) (h0 : ∀ e, ¬ zl_mn S k e) : zl_pre S (k + 1) l := by
  refine ⟨h.1, by have := h.2.1; omega, fun f e => (h.2.2 f e).trans ⟨fun ⟨a, b, c⟩ => ⟨a, by omega, c⟩, fun ⟨a, b, c⟩ => ⟨a, ?_, c⟩⟩⟩
  by_cases q : f = k
  · subst q
    exact absurd c (h0 e)
  · omega
theorem zl_mn_u {S : Int → Int → Prop} {f a b : Int} (h : zl_mn S f a) (h2 : zl_mn S f b) : a = b := by
  have := h.2.1 b h2.1
  have := h2.2.1 a h.1
  omega
theorem zs_in_app {l : zL} {s : Int × Int} {f e : Int} : zs_in (l ++ [s]) f e ↔ zs_in l f e ∨ (f = s.1 ∧ e = s.2) := by
  rw [zs_in_mem, zs_in_mem, List.mem_append, List.mem_singleton]
  constructor
  · rintro (h | h)
    · exact .inl h
    · exact .inr ⟨by rw [← h], by rw [← h]⟩
  · rintro (h | ⟨rfl, rfl⟩)
    · exact .inl h
    · exact .inr rfl
theorem zl_pre_some {S : Int → Int → Prop} {k : Nat} {l : zL} {e : Int} (hk : k < 60) (h : zl_pre S k l) (he : 0 ≤ e ∧ e < 60) (hke : (k : Int) ≤ e) (h0 : zl_mn S k e) : zl_pre S (k + 1) (l ++ [((k : Int), e)]) := by
  refine ⟨zs_ok_app h.1 (by have := h.2.1; omega) (by omega) (fun j hj => ?_), by have := h.2.1; simp; omega, fun f e' => ?_⟩
  · have := (h.2.2 _ _).mp ⟨j, hj, rfl, rfl⟩
    exact ⟨this.2.1, this.2.2.2.2 k e this.2.1 (by omega) h0.1⟩
  · rw [zs_in_app, h.2.2 f e']
    constructor
    · rintro (⟨a, b, c⟩ | ⟨rfl, rfl⟩)
      · exact ⟨a, by omega, c⟩
      · exact ⟨by omega, by omega, h0⟩
    · rintro ⟨a, b, c⟩
      by_cases q : f = k
      · subst q
        exact .inr ⟨rfl, zl_mn_u c h0⟩
      · exact .inl ⟨a, by omega, c⟩
theorem zl_pre_end {S : Int → Int → Prop} {l : zL} (h : zl_pre S 60 l) : zl_isl S l := ⟨h.1, h.2.2⟩
/-- only spans whose first isn't behind their last are offered -/
def zl_od (S : Int → Int → Prop) : Prop := ∀ f e, S f e → f ≤ e
-- the class
theorem s_43_5 {xs : Nat → Int32} {L d : Nat} {K : jZ} {P : jZ → jZ → Prop} {a : Nat} {v n : Int} (ha : jz_kd a = 1) (hl : (jz_ln a : Int) = n) (hn : n ≤ 100000) : ∀ (k : Nat) (i : Int) (J : jZ), 0 ≤ i → i + k = n → (∀ J', (∀ b, b ≠ a → J' b = J b) → (∀ j : Nat, (j : Int) < i → J' a j = J a j) → (∀ j : Nat, i ≤ j → (j : Int) < n → J' a j = v) → P J' K) → l_43_5 xs L d a v i n J K P
  | k, i, J, hi, hk, h => by
    refine e_43_5 ha hl hn ⟨by omega, by omega, fun hc => h J (fun _ _ => rfl) (fun _ _ => rfl) (fun j h1 h2 => by omega), fun hc => ⟨by omega, ?_⟩⟩
    match k, hk with
    | 0, hk => omega
    | k + 1, hk =>
      refine s_43_5 ha hl hn k (i + 1) _ (by omega) (by omega) (fun J' h1 h2 h3 => h J' (fun b hb => by rw [h1 b hb, zu_row hb]) (fun j hj => by rw [h2 j (by omega), zu_key (by omega)]) (fun j h4 h5 => ?_))
      by_cases q : i = (j : Int)
      · subst q
        rw [h2 j (by omega), Int.toNat_natCast, zu_self]
      · exact h3 j (by omega) h5
theorem s_42 {xs : Nat → Int32} {L d : Nat} {J K : jZ} {P : jZ → jZ → Prop} (h : ∀ J', (∀ b, b ≠ 67 → J' b = J b) → zl_lo 60 (fun _ _ => False) (J' 67) → P J' K) : q_42 xs L (d + 2) J K P :=
  e_42 (e_43 (n0 := 60) rfl rfl (by omega) (s_43_5 (n := 60) rfl rfl (by omega) 60 0 J (by omega) (by omega) (fun J' h1 h2 h3 => h J' h1 (fun f hf => .inl ⟨h3 f (by omega) (by omega), fun e he => he⟩))))
theorem zl_lo_more {z : Int} {S T : Int → Int → Prop} {r r' : Nat → Int} {f : Nat} {e : Int} (hz : z < 0 ∨ 60 ≤ z) (h : zl_lo z S r) (hT : ∀ x y, T x y ↔ (S x y ∨ (x = f ∧ y = e))) (he : 0 ≤ e ∧ e < 60) (h1 : r' f = if r f = z then e else min (r f) e) (h2 : ∀ j, j ≠ f → r' j = r j) : zl_lo z T r' := by
  intro g hg
  by_cases q : g = f
  · subst q
    right
    rcases h g hg with ⟨a, b⟩ | ⟨a, b, c, c2⟩
    · rw [if_pos a] at h1
      rw [h1]
      refine ⟨he.1, he.2, (hT _ _).mpr (.inr ⟨rfl, rfl⟩), fun y hy => ?_⟩
      rcases (hT _ _).mp hy with hy | ⟨-, rfl⟩
      · exact absurd hy (b y)
      · omega
    · rw [if_neg (by omega)] at h1
      refine ⟨by omega, by omega, ?_, fun y hy => ?_⟩
      · by_cases q2 : r g ≤ e
        · rw [h1, show min (r g) e = r g by omega]
          exact (hT _ _).mpr (.inl c)
        · rw [h1, show min (r g) e = e by omega]
          exact (hT _ _).mpr (.inr ⟨rfl, rfl⟩)
      · rcases (hT _ _).mp hy with hy | ⟨-, rfl⟩
        · have := c2 y hy
          omega
        · omega
  · rw [h2 g q]
    rcases h g hg with ⟨a, b⟩ | ⟨a, b, c, c2⟩
    · refine .inl ⟨a, fun y hy => ?_⟩
      rcases (hT _ _).mp hy with hy | ⟨h3, -⟩
      · exact b y hy
      · omega
    · refine .inr ⟨a, b, (hT _ _).mpr (.inl c), fun y hy => ?_⟩
      rcases (hT _ _).mp hy with hy | ⟨h3, -⟩
      · exact c2 y hy
      · omega
theorem s_51 {xs : Nat → Int32} {L d : Nat} {J K : jZ} {P : jZ → jZ → Prop} {S T : Int → Int → Prop} {f e : Int} (hS : zl_lo 60 S (J 67)) (hf : 0 ≤ f ∧ f < 60) (he : 0 ≤ e ∧ e ≤ 60) (hT : ∀ x y, T x y ↔ (S x y ∨ (x = f ∧ y = e ∧ e < 60))) (h : ∀ J', (∀ b, b ≠ 67 → J' b = J b) → zl_lo 60 T (J' 67) → P J' K) : q_51 xs L (d + 1) f e J K P := by
  have hb : 0 ≤ J 67 f.toNat ∧ J 67 f.toNat ≤ 60 := by
    rcases hS f.toNat (by omega) with ⟨a, -⟩ | ⟨a, b, -⟩ <;> omega
  refine e_51 ⟨by omega, fun hc => by omega, fun hc => ⟨fun hc2 => by omega, fun hc2 => ⟨by omega, by omega, by omega, ?_⟩⟩⟩
  refine h _ (fun b hb => zu_row hb) ?_
  by_cases q : e < 60
  · refine zl_lo_more (S := S) (f := f.toNat) (e := e) (.inr (by omega)) hS (fun x y => ?_) (by omega) ?_ (fun j hj => zu_key hj)
    · rw [hT, show ((f.toNat : Nat) : Int) = f by omega]
      simp [q]
    · rw [zu_self]
      split <;> omega
  · have h1 : ∀ x y, T x y ↔ S x y := fun x y => by
      rw [hT]
      simp [q]
    intro g hg
    have h2 : jm_up J 67 f.toNat (min (J 67 f.toNat) e) 67 g = J 67 g := by
      by_cases q2 : g = f.toNat
      · subst q2
        rw [zu_self]
        omega
      · exact zu_key q2
    rw [h2]
    rcases hS g hg with ⟨a, b⟩ | ⟨a, b, c, c2⟩
    · exact .inl ⟨a, fun y hy => b y ((h1 _ _).mp hy)⟩
    · exact .inr ⟨a, b, (h1 _ _).mpr c, fun y hy => c2 y ((h1 _ _).mp hy)⟩
theorem s_52_51 {xs : Nat → Int32} {L d : Nat} {K : jZ} {P : jZ → jZ → Prop} {S : Int → Int → Prop} {a : Nat} (ha : jz_kd a = 16) (ha2 : a < 67 ∧ a + 2 < 67 ∨ 67 < a) (hod : zl_od S) : ∀ (n k : Nat) (l : zL) (J : jZ), k + n = 60 → (∀ f : Nat, f < 60 → (J 67 f = 60 ∧ ∀ e, ¬ zl_mn S f e) ∨ (0 ≤ J 67 f ∧ J 67 f < 60 ∧ zl_mn S f (J 67 f))) → zs_at J a l → zl_pre S k l → (∀ J' l', (∀ b, b < a ∨ a + 2 < b → J' b = J b) → zs_at J' a l' → zl_isl S l' → P J' K) → l_52_51 xs L (d + 1) a (k : Int) J K P
  | n, k, l, J, hn, hm, hr, hp, h => by
    refine e_52_51 ha ⟨by omega, fun hc => ?_, fun hc => ?_⟩
    · obtain rfl : k = 60 := by omega
      exact h J l (fun _ _ => rfl) hr (zl_pre_end hp)
    · simp only [Int.toNat_natCast]
      match n, hn with
      | 0, hn => omega
      | n + 1, hn =>
        have hk := hm k (by omega)
        refine ⟨by omega, by omega, fun hc2 => ?_, fun hc2 => ?_⟩
        · refine s_52_51 ha ha2 hod n (k + 1) l J (by omega) hm hr (zl_pre_none hp ?_) h
          rcases hk with hk | hk
          · exact hk.2
          · omega
        · rcases hk with hk | hk
          · omega
          have hlen := hp.2.1
          refine s_37 ha hr.1 (by omega) ?_
          refine s_52_51 ha ha2 hod n (k + 1) (l ++ [((k : Int), J 67 k)]) _ (by omega) ?_ (zs_add_at hr) (zl_pre_some (by omega) hp ⟨hk.1, hk.2.1⟩ (hod _ _ hk.2.2.1) hk.2.2) (fun J' l' h1 h2 h3 => h J' l' (fun b hb => by rw [h1 b hb, zs_add_row hb]) h2 h3)
          rw [zs_add_row (by omega)]
          exact hm
theorem s_52_6 {xs : Nat → Int32} {L d : Nat} {K : jZ} {P : jZ → jZ → Prop} {S : Int → Int → Prop} {a : Nat} (ha : jz_kd a = 16) (ha2 : a < 67 ∧ a + 2 < 67 ∨ 67 < a) (hod : zl_od S) : ∀ (k : Nat) (v m : Int) (J : jZ), v = (k : Int) - 1 → k ≤ 60 → zl_ph 60 S (J 67) k m → (∀ J' l', (∀ b, b ≠ 67 → b < a ∨ a + 2 < b → J' b = J b) → zs_at J' a l' → zl_isl S l' → P J' K) → l_52_6 xs L (d + 1) a m v J K P
  | 0, v, m, J, hv, hk, hp, h => by
    refine e_52_6 ha ⟨by omega, fun hc => ?_, fun hc => by omega⟩
    refine s_52_51 ha ha2 hod 60 0 [] _ (by omega) ?_ ⟨zu_self, fun k hk => by simp at hk⟩ zl_pre_0 (fun J' l' h1 h2 h3 => h J' l' (fun b hb1 hb2 => by rw [h1 b hb2, zu_row (by omega)]) h2 h3)
    rw [zu_row (by omega)]
    exact fun f hf => hp.2.1 f (by omega) hf
  | k + 1, v, m, J, hv, hk, hp, h => by
    have h1 : v.toNat = k := by omega
    refine e_52_6 ha ⟨by omega, fun hc => by omega, fun hc => ?_⟩
    rw [h1]
    have hb : 0 ≤ J 67 k ∧ J 67 k ≤ 60 := by
      rcases hp.1 k (by omega) (by omega) with ⟨q, -⟩ | ⟨q, q2, -⟩ <;> omega
    have hm : 0 ≤ m ∧ m ≤ 60 := by
      refine ⟨hp.2.2.2.2, ?_⟩
      rcases hp.2.2.2.1 with q | ⟨q, -⟩ <;> omega
    refine ⟨by omega, by omega, by omega, fun hc2 => ?_, fun hc2 => ?_⟩
    · refine s_52_6 ha ha2 hod k (v + -1) m _ (by omega) (by omega) (zl_ph_none (by omega) (.inr (by omega)) hp (.inr hc2) zu_self (fun j hj => zu_key hj)) (fun J' l' q1 q2 q3 => h J' l' (fun b hb1 hb2 => by rw [q1 b hb1 hb2, zu_row hb1]) q2 q3)
    · exact s_52_6 ha ha2 hod k (v + -1) _ J (by omega) (by omega) (zl_ph_some (by omega) hp (by omega) hc2) h
theorem s_52 {xs : Nat → Int32} {L d : Nat} {J K : jZ} {P : jZ → jZ → Prop} {S : Int → Int → Prop} {a : Nat} (ha : jz_kd a = 16) (ha2 : a < 67 ∧ a + 2 < 67 ∨ 67 < a) (hod : zl_od S) (hS : zl_lo 60 S (J 67)) (h : ∀ J' l', (∀ b, b ≠ 67 → b < a ∨ a + 2 < b → J' b = J b) → zs_at J' a l' → zl_isl S l' → P J' K) : q_52 xs L (d + 2) a J K P :=
  e_52 ha (s_52_6 ha ha2 hod 60 59 60 J (by omega) (by omega) (zl_ph_0 hS) h)
