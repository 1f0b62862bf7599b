/-! The class's lists of asks, one by one. -/
def zt_at (J : jZ) (a : Nat) (T : zT) : Prop := J a 3 = (T.1 : Int) ∧ (∀ k, k < T.1 → J (a + 1) k = T.2.1 k ∧ J (a + 2) k = T.2.2.1 k) ∧ ∀ w, w < 16 → J (a + 3) w = T.2.2.2 w
theorem zt_of {J J' : jZ} {a : Nat} {T : zT} (h : zt_at J a T) (h0 : J' a 3 = J a 3) (h1 : J' (a + 1) = J (a + 1)) (h2 : J' (a + 2) = J (a + 2)) (h3 : J' (a + 3) = J (a + 3)) : zt_at J' a T := by
  unfold zt_at
  rw [h0, h1, h2, h3]
  exact h
def zk_x (r : Nat → Int) : Int := if 2 ≤ r 0 ∧ r 0 ≤ 8 ∨ r 0 = 10 ∨ r 0 = 11 then r 1 else -1
def zk_y (r : Nat → Int) : Int := if 2 ≤ r 0 ∧ r 0 ≤ 8 ∨ r 0 = 11 then r 2 else -1
def zk_z (r : Nat → Int) : Int := if r 0 = 11 then r 3 else -1
def zk_n (r : Nat → Int) : Int := if r 0 = 0 ∨ r 0 = 1 ∨ r 0 = 9 then r 1 else if r 0 = 10 then r 2 else if r 0 = 11 then r 4 else -1
def zk_len (r : Nat → Int) : Nat := if r 0 = 0 ∨ r 0 = 1 then zk_sz r else 0
/-- an Ask object's own numbers -/
def zk_at (o r : Nat → Int) : Prop := o 0 = r 0 ∧ o 1 = zk_x r ∧ o 2 = zk_y r ∧ o 3 = zk_z r ∧ o 4 = zk_n r ∧ o 6 = (zk_len r : Int) ∧ ∀ k : Nat, k < zk_len r → jz_and (jz_shr (o 5) (4 * (k : Int))) 15 = r (k + 1)
theorem s_35 {xs : Nat → Int32} {L d : Nat} {J K : jZ} {P : Int → jZ → jZ → Prop} {T : zT} {wo x : Int} {p : Nat} (hT : zt_ok T) (hp : p < T.1) (hw : -1 ≤ wo ∧ wo < 16) (hx : 0 ≤ x ∧ x < 16) (hr : zt_at J 1 T) (hwo : J 61 6 = wo) (h1 : zt_has wo T p x → P 1 J K) (h0 : ¬ zt_has wo T p x → P 0 J K) : q_35 xs L (d + 2) (p : Int) x J K P := by
  have h60 := hT.1
  have hk := (hr.2.1 p hp).1
  have hb := hT.2.1 p hp
  refine e_35 ?_
  obtain ⟨j, rfl⟩ : ∃ j : Nat, x = (j : Int) := ⟨x.toNat, by omega⟩
  have h4 := hr.2.2 (T.2.1 p).toNat (by omega)
  rw [Int.toNat_natCast, hk, hwo, h4, (zb_tst (by omega)).1]
  refine ⟨by omega, by omega, by omega, fun q => h0 (fun q2 => q2.1 q), fun q => ⟨by omega, fun q2 => h0 (fun q3 => q2 ?_), fun q2 => h1 ⟨q, ?_⟩⟩⟩
  · have := q3.2
    rwa [Int.toNat_natCast] at this
  · rw [Int.toNat_natCast]
    exact Classical.not_not.mp q2
/-- a list so far: what S has of firsts below k -/
def zl_up (S : Int → Int → Prop) (k : Nat) (l : zL) : Prop := zs_ok l ∧ l.length ≤ k ∧ ∀ x y, zs_in l x y ↔ (S x y ∧ x < k)
theorem zl_up_0 {S : Int → Int → Prop} (h : ∀ x y, S x y → 0 ≤ x) : zl_up S 0 [] := ⟨zs_nil_ok, by simp, fun x y => ⟨fun ⟨k, hk, _⟩ => by simp at hk, fun ⟨a, b⟩ => by have := h x y a; omega⟩⟩
theorem zl_up_f {S : Int → Int → Prop} {k : Nat} {l : zL} (h : zl_up S k l) (hn : ∀ y, ¬ S k y) : zl_up S (k + 1) l := by
  refine ⟨h.1, by have := h.2.1; omega, fun x y => (h.2.2 x y).trans ⟨fun ⟨a, b⟩ => ⟨a, by omega⟩, fun ⟨a, b⟩ => ⟨a, ?_⟩⟩⟩
  by_cases q : x = k
  · subst q
    exact absurd a (hn y)
  · omega
theorem zl_up_t {S : Int → Int → Prop} {k : Nat} {e : Int} {l : zL} (h : zl_up S k l) (hk : k < 60) (he : (k : Int) ≤ e ∧ e < 60) (hs : S k e) (hu : ∀ y, S k y → y = e) (hm : ∀ x y, S x y → x < k → y < e) : zl_up S (k + 1) (l ++ [((k : Int), e)]) := by
  refine ⟨zs_ok_app h.1 (by have := h.2.1; omega) (by omega) (fun j hj => ?_), by have := h.2.1; simp; omega, fun x y => ?_⟩
  · have := (h.2.2 _ _).mp ⟨j, hj, rfl, rfl⟩
    exact ⟨this.2, hm _ _ this.1 this.2⟩
  · rw [zs_in_app, h.2.2]
    constructor
    · rintro (⟨a, b⟩ | ⟨rfl, rfl⟩)
      · exact ⟨a, by omega⟩
      · exact ⟨hs, by omega⟩
    · rintro ⟨a, b⟩
      by_cases q : x = k
      · subst q
        exact .inr ⟨rfl, hu y a⟩
      · exact .inl ⟨a, by omega⟩
/-- all that a list of the class's changes -/
def zs_fr (c : Nat) (J J' : jZ) : Prop := ∀ x, x < c ∨ c + 2 < x → J' x = J x
theorem s_34_26 {xs : Nat → Int32} {L d : Nat} {J K : jZ} {P : jZ → jZ → Prop} {T : zT} {r : Nat → Int} {wo : Int} {o c f : Nat} (hT : zt_ok T) (ho : jz_kd o = 10) (hc : jz_kd c = 16) (hw : -1 ≤ wo ∧ wo < 16) (hr : zt_at J 1 T) (hwo : J 61 6 = wo) (ha : J o 6 = (zk_len r : Int) ∧ ∀ k : Nat, k < zk_len r → jz_and (jz_shr (J o 5) (4 * (k : Int))) 15 = r (k + 1)) (hv : ∀ k, k < zk_len r → 0 ≤ r (k + 1) ∧ r (k + 1) < 16) (hl : 1 ≤ zk_len r ∧ zk_len r ≤ 4) (hf : f + zk_len r ≤ T.1) (hno : (¬ ∀ k, k < zk_len r → zt_has wo T (f + k) (r (k + 1))) → l_34_7 xs L (d + 2) o c ((f : Int) + 1) J K P) (hyes : (∀ k, k < zk_len r → zt_has wo T (f + k) (r (k + 1))) → q_37 xs L (d + 2) c (f : Int) (((f : Int) + (zk_len r : Int)) - 1) J K (fun J' K' => l_34_7 xs L (d + 2) o c ((f : Int) + 1) J' K' P)) : ∀ (n k : Nat), k + n = zk_len r → (∀ j, j < k → zt_has wo T (f + j) (r (j + 1))) → l_34_26 xs L (d + 2) o c (f : Int) (k : Int) J K P
  | n, k, hn, hk => by
    have h60 := hT.1
    refine e_34_26 ho hc ⟨by omega, by omega, fun q => ⟨fun q2 => by omega, fun q2 => ?_⟩, fun q => ?_⟩
    · obtain rfl : k = zk_len r := by omega
      exact hyes hk
    · match n, hn with
      | 0, hn => omega
      | n + 1, hn =>
        rw [ha.2 k (by omega), show (f : Int) + (k : Int) = ((f + k : Nat) : Int) by omega]
        refine s_35 hT (by omega) hw (hv k (by omega)) hr hwo (fun q2 => ⟨by omega, fun q3 => by omega, fun _ => ?_⟩) (fun q2 => ⟨by omega, fun _ => ⟨by omega, fun q4 => hno (fun q5 => q2 (q5 k (by omega))), fun q4 => by omega⟩, fun q3 => by omega⟩)
        refine s_34_26 hT ho hc hw hr hwo ha hv hl hf hno hyes n (k + 1) (by omega) (fun j hj => ?_)
        by_cases q4 : j = k
        · subst q4
          exact q2
        · exact hk j (by omega)
theorem s_34_7 {xs : Nat → Int32} {L d : Nat} {K : jZ} {P : jZ → jZ → Prop} {T : zT} {r : Nat → Int} {wo : Int} {o c : Nat} (hT : zt_ok T) (ho : jz_kd o = 10) (hc : jz_kd c = 16) (hoc : o < c) (hc2 : 68 ≤ c) (hw : -1 ≤ wo ∧ wo < 16) (hv : ∀ k, k < zk_len r → 0 ≤ r (k + 1) ∧ r (k + 1) < 16) (hz : zk_len r = zk_sz r) : ∀ (n f : Nat) (l : zL) (J : jZ), f + n = 61 → zt_at J 1 T → J 61 6 = wo → (J o 6 = (zk_len r : Int) ∧ ∀ k : Nat, k < zk_len r → jz_and (jz_shr (J o 5) (4 * (k : Int))) 15 = r (k + 1)) → zs_at J c l → zl_up (zk_leaf wo T r) f l → (∀ J' l', zs_fr c J J' → zs_at J' c l' → zl_isl (zk_leaf wo T r) l' → P J' K) → l_34_7 xs L (d + 2) o c (f : Int) J K P
  | n, f, l, J, hn, hr, hwo, ha, hl, hu, h => by
    have h60 := hT.1
    have hsz := zk_sz_r r
    refine e_34_7 ho hc ⟨by have := ha.1; omega, by have := hr.1; omega, fun q => ?_, fun q => ?_⟩
    · refine h J l (fun _ _ => rfl) hl (zl_isl_sub hu.1 (fun x y => ⟨fun q2 => (hu.2.2 x y).mpr ⟨q2, ?_⟩, fun q2 => ((hu.2.2 x y).mp q2).1⟩))
      obtain ⟨a1, a2, a3, -⟩ := q2
      have h1 := ha.1
      have h2 := hr.1
      omega
    · match n, hn with
      | 0, hn => have h1 := ha.1; have h2 := hr.1; omega
      | n + 1, hn =>
        have h1 := ha.1
        have h2 := hr.1
        have hf : f + zk_len r ≤ T.1 := by omega
        have eq : zk_leaf wo T r (f : Int) ((f : Int) + (zk_len r : Int) - 1) ↔ ∀ k, k < zk_len r → zt_has wo T (f + k) (r (k + 1)) := by
          unfold zk_leaf
          rw [← hz]
          exact ⟨fun q k hk => by have := q.2.2.2 k hk; rwa [show ((f : Int) + (k : Int)).toNat = f + k by omega] at this, fun q => ⟨by omega, rfl, by omega, fun k hk => by rw [show ((f : Int) + (k : Int)).toNat = f + k by omega]; exact q k hk⟩⟩
        have u : ∀ {x y : Int}, zk_leaf wo T r x y → y = x + (zk_len r : Int) - 1 := fun q => by
          obtain ⟨a, b, c, -⟩ := q
          omega
        refine s_34_26 hT ho hc hw hr hwo ha hv (by omega) hf (fun q2 => ?_) (fun q2 => ?_) (zk_len r) 0 (by omega) (fun j hj => by omega)
        · exact s_34_7 hT ho hc hoc hc2 hw hv hz n (f + 1) l J (by omega) hr hwo ha hl (zl_up_f hu (fun y q3 => by
            have := u q3
            subst this
            exact q2 (eq.mp q3))) h
        · have hlen := hu.2.1
          refine s_37 hc hl.1 (by omega) ?_
          refine s_34_7 hT ho hc hoc hc2 hw hv hz n (f + 1) (l ++ [((f : Int), (f : Int) + (zk_len r : Int) - 1)]) _ (by omega) (zt_of hr (by rw [zs_add_row (by omega)]) (zs_add_row (by omega)) (zs_add_row (by omega)) (zs_add_row (by omega))) (by rw [zs_add_row (by omega)]; exact hwo) (by rw [zs_add_row (by omega)]; exact ha) (zs_add_at hl) (zl_up_t hu (by omega) (by omega) (eq.mpr q2) (fun y q3 => u q3) (fun x y q3 q4 => by have := u q3; omega)) (fun J' l' q3 q4 q5 => h J' l' (fun x hx => by rw [q3 x hx, zs_add_row hx]) q4 q5)
theorem s_34 {xs : Nat → Int32} {L d : Nat} {J K : jZ} {P : jZ → jZ → Prop} {T : zT} {r : Nat → Int} {wo : Int} {o c i : Nat} (hT : zt_ok T) (ho : jz_kd o = 10) (hc : jz_kd c = 16) (hoc : o < c) (hc2 : 68 ≤ c) (hw : -1 ≤ wo ∧ wo < 16) (hk : zk_ok i r) (hk2 : r 0 = 0 ∨ r 0 = 1) (hr : zt_at J 1 T) (hwo : J 61 6 = wo) (ha : zk_at (J o) r) (h : ∀ J' l', zs_fr c J J' → zs_at J' c l' → zl_isl (zk_leaf wo T r) l' → P J' K) : q_34 xs L (d + 3) o c J K P := by
  have hz : zk_len r = zk_sz r := by
    unfold zk_len
    rw [if_pos hk2]
  have hv : ∀ k, k < zk_len r → 0 ≤ r (k + 1) ∧ r (k + 1) < 16 := fun k hk3 => by
    rw [hz] at hk3
    rcases hk with q | q | q | q | q | q
    · have : zk_sz r = 1 := by
        unfold zk_sz
        rw [if_pos q.1]
      obtain rfl : k = 0 := by omega
      exact ⟨q.2.1, q.2.2.1⟩
    · exact q.2.1 k hk3
    · omega
    · omega
    · omega
    · omega
  refine e_34 ho hc (s_34_7 hT ho hc hoc hc2 hw hv hz 61 0 [] _ (by omega) (zt_of hr (by rw [zu_row (by omega)]) (zu_row (by omega)) (zu_row (by omega)) (zu_row (by omega))) (by rw [zu_row (by omega)]; exact hwo) (by rw [zu_row (by omega)]; exact ⟨ha.2.2.2.2.2.1, ha.2.2.2.2.2.2⟩) ⟨zu_self, fun k hk => by simp at hk⟩ (zl_up_0 (fun x y q => q.1)) (fun J' l' q1 q2 q3 => h J' l' (fun x hx => by rw [q1 x hx, zu_row (by omega)]) q2 q3))
theorem zk_reg_b {T : zT} {g x y : Int} (h : zk_reg T g x y) : 0 ≤ x ∧ x ≤ y ∧ y < T.1 := by
  obtain ⟨a, b, rfl, rfl, c, e, -⟩ := h
  omega
theorem s_38_10 {xs : Nat → Int32} {L d : Nat} {K : jZ} {P : jZ → jZ → Prop} {T : zT} {g : Int} {a c : Nat} (hg : 0 ≤ g ∧ g ≤ 2) (ha : jz_kd a = 18) (hc : jz_kd c = 16) (hac : a + 3 < c) (hT : zt_ok T) : ∀ (n p b : Nat) (l : zL) (J : jZ), p + n = T.1 → b ≤ p → (b = 0 ∨ zk_end T g (b - 1)) → (∀ q, b ≤ q → q < p → ¬ zk_end T g q) → J a 3 = (T.1 : Int) → (∀ k, k < T.1 → J (a + 2) k = T.2.2.1 k) → zs_at J c l → (zs_ok l ∧ l.length ≤ p ∧ ∀ x y, zs_in l x y ↔ (zk_reg T g x y ∧ y < p)) → (∀ J' l', zs_fr c J J' → zs_at J' c l' → zl_isl (zk_reg T g) l' → P J' K) → l_38_10 xs L (d + 1) a g c (b : Int) (p : Int) J K P
  | n, p, b, l, J, hn, hbp, hb, hnb, h3, hm, hl, hu, h => by
    have h60 := hT.1
    refine e_38_10 ha hc ⟨by omega, by omega, fun q => ?_, fun q => ?_⟩
    · refine h J l (fun _ _ => rfl) hl (zl_isl_sub hu.1 (fun x y => ⟨fun q2 => (hu.2.2 x y).mpr ⟨q2, ?_⟩, fun q2 => ((hu.2.2 x y).mp q2).1⟩))
      have := zk_reg_b q2
      omega
    · match n, hn with
      | 0, hn => omega
      | n + 1, hn =>
        have hk := hm p (by omega)
        have hb2 := hT.2.2.1 p (by omega)
        have hlen := hu.2.1
        have yes : zk_end T g p → q_37 xs L (d + 1) c (b : Int) (p : Int) J K (fun J' K' => l_38_10 xs L (d + 1) a g c ((p : Int) + 1) ((p : Int) + 1) J' K' P) := fun q2 => by
          have hreg : zk_reg T g (b : Int) (p : Int) := ⟨b, p, rfl, rfl, hbp, by omega, q2, hb, fun t h1 h2 => hnb t h1 h2⟩
          refine s_37 hc hl.1 (by omega) (s_38_10 hg ha hc hac hT n (p + 1) (p + 1) (l ++ [((b : Int), (p : Int))]) _ (by omega) (Nat.le_refl _) (.inr q2) (fun t h1 h2 => by omega) (by rw [zs_add_row (by omega)]; exact h3) (by rw [zs_add_row (by omega)]; exact hm) (zs_add_at hl) ⟨zs_ok_app hu.1 (by omega) (by omega) (fun j hj => ?_), by simp; omega, fun x y => ?_⟩ (fun J' l' q3 q4 q5 => h J' l' (fun x hx => by rw [q3 x hx, zs_add_row hx]) q4 q5))
          · obtain ⟨⟨u, v, e1, e2, h1, h2, h3, h4, h5⟩, h6⟩ := (hu.2.2 _ _).mp ⟨j, hj, rfl, rfl⟩
            have hvb : v < b := by
              by_cases t : v < b
              · exact t
              · exact absurd h3 (hnb v (by omega) (by omega))
            omega
          · rw [zs_in_app, hu.2.2]
            constructor
            · rintro (⟨q3, q4⟩ | ⟨rfl, rfl⟩)
              · exact ⟨q3, by omega⟩
              · exact ⟨hreg, by omega⟩
            · rintro ⟨⟨u, v, rfl, rfl, h1, h2, h3, h4, h5⟩, h6⟩
              by_cases q3 : v = p
              · subst q3
                right
                have : u = b := by
                  by_cases t : u < b
                  · rcases hb with hb | hb
                    · omega
                    · exact absurd hb (h5 (b - 1) (by omega) (by omega))
                  · by_cases t2 : b < u
                    · rcases h4 with h4 | h4
                      · omega
                      · exact absurd h4 (hnb (u - 1) (by omega) (by omega))
                    · omega
                rw [this]
                exact ⟨rfl, rfl⟩
              · exact .inl ⟨⟨u, v, rfl, rfl, h1, h2, h3, h4, h5⟩, by omega⟩
        have no : ¬ zk_end T g p → l_38_10 xs L (d + 1) a g c (b : Int) ((p : Int) + 1) J K P := fun q2 => by
          refine s_38_10 hg ha hc hac hT n (p + 1) b l J (by omega) (by omega) hb (fun t h1 h2 => ?_) h3 hm hl ⟨hu.1, by omega, fun x y => (hu.2.2 x y).trans ⟨fun q3 => ⟨q3.1, by omega⟩, fun q3 => ⟨q3.1, ?_⟩⟩⟩ h
          · by_cases q3 : t = p
            · subst q3
              exact q2
            · exact hnb t h1 (by omega)
          · obtain ⟨⟨u, v, rfl, rfl, h1, h2, h3, -⟩, h4⟩ := q3
            by_cases q3 : v = p
            · subst q3
              exact absurd h3 q2
            · omega
        rw [Int.toNat_natCast, hk]
        refine ⟨by omega, fun q2 => yes ?_, fun q2 => ⟨by omega, by omega, by omega, fun q3 => no ?_, fun q3 => yes ?_⟩⟩
        · unfold zk_end
          omega
        · unfold zk_end
          omega
        · unfold zk_end
          omega
theorem s_38 {xs : Nat → Int32} {L d : Nat} {J K : jZ} {P : jZ → jZ → Prop} {T : zT} {g : Int} {a c : Nat} (hg : 0 ≤ g ∧ g ≤ 2) (ha : jz_kd a = 18) (hc : jz_kd c = 16) (hac : a + 3 < c) (hT : zt_ok T) (hr : zt_at J a T) (h : ∀ J' l', zs_fr c J J' → zs_at J' c l' → zl_isl (zk_reg T g) l' → P J' K) : q_38 xs L (d + 2) a g c J K P := by
  refine e_38 ha hc (s_38_10 hg ha hc hac hT T.1 0 0 [] _ (by omega) (Nat.le_refl _) (.inl rfl) (fun t _ h2 => by omega) (by rw [zu_row (by omega)]; exact hr.1) (by rw [zu_row (by omega)]; exact fun k hk => (hr.2.1 k hk).2) ⟨zu_self, fun k hk => by simp at hk⟩ ⟨zs_nil_ok, by simp, fun x y => ⟨fun ⟨k, hk, _⟩ => by simp at hk, fun ⟨q, q2⟩ => by have := zk_reg_b q; omega⟩⟩ (fun J' l' q1 q2 q3 => h J' l' (fun x hx => by rw [q1 x hx, zu_row (by omega)]) q2 q3))
theorem s_40_8 {xs : Nat → Int32} {L d : Nat} {K : jZ} {P : jZ → jZ → Prop} {l : zL} {s : Int} {a c : Nat} (ha : jz_kd a = 16) (hc : jz_kd c = 16) (hac : a + 2 < c ∨ c + 2 < a) (hg : zs_ok l) (hs : 1 ≤ s ∧ s ≤ 60) : ∀ (n i : Nat) (J : jZ), i + n = l.length → zs_at J a l → zs_at J c (zs_fil l (fun p => zs_l l p - zs_f l p < s) i) → (∀ J', zs_fr c J J' → zs_at J' c (zs_fil l (fun p => zs_l l p - zs_f l p < s) l.length) → P J' K) → l_40_8 xs L (d + 1) a s c (i : Int) J K P
  | n, i, J, hn, hr, hl, h => by
    have h60 := hg.1
    have h1 := hr.1
    refine e_40_8 ha hc ⟨by omega, by omega, fun q => ?_, fun q => ?_⟩
    · obtain rfl : i = l.length := by omega
      exact h J (fun _ _ => rfl) hl
    · match n, hn with
      | 0, hn => omega
      | n + 1, hn =>
        have hi : i < l.length := by omega
        have hk := hr.2 i hi
        have hb := hg.2.1 i hi
        have ok := zs_fil_ok (c := fun p => zs_l l p - zs_f l p < s) hg i (by omega)
        rw [Int.toNat_natCast, hk.1, hk.2]
        refine ⟨by omega, by omega, by omega, fun q2 => ?_, fun q2 => ?_⟩
        · refine s_40_8 ha hc hac hg hs n (i + 1) J (by omega) hr ?_ h
          rw [zs_fil_f (by omega)]
          exact hl
        · refine s_37 hc hl.1 (by omega) (s_40_8 ha hc hac hg hs n (i + 1) _ (by omega) ⟨by rw [zs_add_row (by omega)]; exact hr.1, fun k hk => by rw [zs_add_row (by omega), zs_add_row (by omega)]; exact hr.2 k hk⟩ ?_ (fun J' q3 q4 => h J' (fun x hx => by rw [q3 x hx, zs_add_row hx]) q4))
          rw [zs_fil_t (by omega)]
          exact zs_add_at hl
theorem s_40 {xs : Nat → Int32} {L d : Nat} {J K : jZ} {P : jZ → jZ → Prop} {l : zL} {s : Int} {a c : Nat} (ha : jz_kd a = 16) (hc : jz_kd c = 16) (hac : a + 2 < c ∨ c + 2 < a) (hg : zs_ok l) (hs : 1 ≤ s ∧ s ≤ 60) (hr : zs_at J a l) (h : ∀ J' l', zs_fr c J J' → zs_at J' c l' → zl_isl (zk_sh l s) l' → P J' K) : q_40 xs L (d + 2) a s c J K P := by
  refine e_40 ha hc (s_40_8 ha hc hac hg hs l.length 0 _ (by omega) ⟨by rw [zu_row (by omega)]; exact hr.1, fun k hk => by rw [zu_row (by omega), zu_row (by omega)]; exact hr.2 k hk⟩ ⟨zu_self, fun k hk => by simp [zs_fil] at hk⟩ (fun J' q1 q2 => h J' _ (fun x hx => by rw [q1 x hx, zu_row (by omega)]) q2 (zl_isl_sub (zs_fil_ok hg _ (Nat.le_refl _)).1 (fun x y => ?_))))
  rw [zs_fil_in]
  exact Iff.rfl
