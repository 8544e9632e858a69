/-! TREES: what an entry's coming makes is a tree -/
section NTC
variable {E : Type} {c : E → E → Int}
theorem N_ms_len (h : Nat) (l : List (N_i E (h + 1))) : (N_ms h l).length = l.length := List.length_map _
theorem N_lt_le (hc : v_T c) {a b d : E} (h1 : c a b < 0) (h2 : c b d ≤ 0) : c a d < 0 := by
  have k1 := hc.t a b d (by omega) h2
  by_cases g : c a d = 0
  · have := hc.z (by omega) h2 g
    omega
  · omega
theorem N_le_lt (hc : v_T c) {a b d : E} (h1 : c a b ≤ 0) (h2 : c b d < 0) : c a d < 0 := by
  have k1 := hc.t a b d h1 (by omega)
  by_cases g : c a d = 0
  · have := hc.z h1 (by omega) g
    omega
  · omega
theorem N_fl_app {h : Nat} {l t : List (N_i E (h + 1))} : N_fl (h + 1) (l ++ t) ↔ N_fl (h + 1) l ∧ N_fl (h + 1) t := by
  rw [N_fl_s, N_fl_s, N_fl_s]
  refine ⟨fun k => ⟨fun x hx => k x (List.mem_append_left _ hx), fun x hx => k x (List.mem_append_right _ hx)⟩, fun k x hx => ?_⟩
  rcases List.mem_append.mp hx with z | z
  · exact k.1 x z
  · exact k.2 x z
theorem N_fl_c {h : Nat} {x : N_i E (h + 1)} {t : List (N_i E (h + 1))} : N_fl (h + 1) (x :: t) ↔ ((4 ≤ x.2.length ∧ x.2.length ≤ 8) ∧ N_fl h x.2) ∧ N_fl (h + 1) t := by
  rw [N_fl_s, N_fl_s]
  exact List.forall_mem_cons
theorem N_fl_sub : ∀ {h : Nat} {l t : List (N_i E h)}, (∀ x ∈ t, x ∈ l) → N_fl h l → N_fl h t := by
  intro h
  cases h with
  | zero => exact fun _ _ => trivial
  | succ h => exact fun h1 h2 x hx => h2 x (h1 x hx)
/-- no node is without entries -/
theorem N_ins_ne : ∀ {h : Nat} {l : List (N_i E h)}, N_fl h l → l ≠ [] → ∃ b, b ∈ N_ins h l := by
  intro h
  induction h with
  | zero =>
    intro l _ hl
    cases l with
    | nil => exact absurd rfl hl
    | cons a r => exact ⟨a, List.mem_flatMap.mpr ⟨a, List.mem_cons_self, List.mem_cons_self⟩⟩
  | succ h ih =>
    intro l hf hl
    cases l with
    | nil => exact absurd rfl hl
    | cons x r =>
      obtain ⟨⟨h1, h2⟩, -⟩ := N_fl_c.mp hf
      obtain ⟨b, hb⟩ := ih h2 (fun z => by rw [z, List.length_nil] at h1; omega)
      exact ⟨b, List.mem_flatMap.mpr ⟨x, List.mem_cons_self, hb⟩⟩
theorem N_mem_ins {h : Nat} {l : List (N_i E h)} {b : E} : b ∈ N_ins h l ↔ ∃ x ∈ l, b ∈ N_in h x := List.mem_flatMap
def N_tot (h : Nat) (s : List (N_i E h) × Option (N_i E (h + 1))) : List E := N_ins h s.1 ++ N_ins (h + 1) s.2.toList
theorem N_spl_n {h : Nat} {l : List (N_i E h)} (hl : l.length ≤ 8) : N_spl h l = (l, none) := if_pos hl
theorem N_spl_y {h : Nat} {l : List (N_i E h)} (hl : 8 < l.length) : ∃ x r, l.drop 4 = x :: r ∧ N_spl h l = (l.take 4, some (N_mk h (N_f h x) (l.drop 4))) := by
  cases hd : l.drop 4 with
  | nil =>
    have := congrArg List.length hd
    rw [List.length_drop, List.length_nil] at this
    omega
  | cons x r =>
    refine ⟨x, r, rfl, ?_⟩
    unfold N_spl
    rw [if_neg (by omega), hd]
    rfl
theorem N_spl_tot (h : Nat) (l : List (N_i E h)) : N_tot h (N_spl h l) = N_ins h l := by
  by_cases g : l.length ≤ 8
  · rw [N_spl_n g]
    show N_ins h l ++ [] = N_ins h l
    rw [List.append_nil]
  · obtain ⟨x, r, hd, he⟩ := N_spl_y (h := h) (l := l) (by omega)
    rw [he]
    show N_ins h (l.take 4) ++ (N_ins h (l.drop 4) ++ []) = N_ins h l
    rw [List.append_nil, ← N_ins_app, List.take_append_drop]
theorem N_ca_ins (h : Nat) (A : List (N_i E (h + 1))) (x : N_i E (h + 1)) (s : List (N_i E h) × Option (N_i E (h + 1))) (B : List (N_i E (h + 1))) : N_ins (h + 1) (N_ca A x s B) = N_ins (h + 1) A ++ (N_tot h s ++ N_ins (h + 1) B) := by
  unfold N_ca N_tot
  rw [N_ins_app, N_ins_c, N_ins_app, List.append_assoc]
  rfl
theorem N_pi_ins (l : List (N_i E 0)) (k : Nat) (e : E) : (N_ins 0 (N_pi l k e)).Perm (e :: N_ins 0 l) := by
  unfold N_pi
  rw [N_ins_app, N_ins_c]
  have h1 : N_ins 0 l = N_ins 0 (l.take k) ++ N_ins 0 (l.drop k) := by rw [← N_ins_app, List.take_append_drop]
  rw [h1]
  exact List.perm_middle
theorem N_come_in (e : E) : ∀ (h : Nat) (l : List (N_i E h)), N_fl h l → (0 < h → l ≠ []) → (N_tot h (N_come c e h l)).Perm (e :: N_ins h l) := by
  intro h
  induction h with
  | zero =>
    intro l _ _
    rw [N_come_0, N_spl_tot]
    exact N_pi_ins l _ e
  | succ h ih =>
    intro l hf hl
    obtain ⟨A, x, B, hs, hA⟩ := N_dn_split c e (hl (by omega))
    subst hs
    rw [N_come_s c e hA, N_spl_tot, N_ca_ins, N_ins_app, N_ins_c]
    obtain ⟨-, h2⟩ := N_fl_app.mp hf
    obtain ⟨⟨h3, h4⟩, h5⟩ := N_fl_c.mp h2
    have h6 := ih x.2 h4 (fun _ z => by rw [z, List.length_nil] at h3; omega)
    exact (List.Perm.append_left _ (h6.append_right _)).trans List.perm_middle
theorem N_spl_fl {h : Nat} {l : List (N_i E h)} (hf : N_fl h l) (hl : l.length ≤ 9) : N_fl h (N_spl h l).1 ∧ (N_spl h l).1.length ≤ 8 ∧ ((N_spl h l).2 = none → (N_spl h l).1.length = l.length) ∧ ∀ y ∈ (N_spl h l).2, (N_spl h l).1.length = 4 ∧ y.2.length = 5 ∧ N_fl h y.2 := by
  by_cases g : l.length ≤ 8
  · rw [N_spl_n g]
    exact ⟨hf, g, fun _ => rfl, fun y hy => absurd hy (by simp)⟩
  · obtain ⟨x, r, hd, he⟩ := N_spl_y (h := h) (l := l) (by omega)
    rw [he]
    refine ⟨N_fl_sub (fun x hx => List.mem_of_mem_take hx) hf, ?_, fun z => absurd z (by simp), fun y hy => ?_⟩
    · show (l.take 4).length ≤ 8
      rw [List.length_take]
      omega
    · cases hy
      refine ⟨?_, ?_, N_fl_sub (fun x hx => List.mem_of_mem_drop hx) hf⟩
      · show (l.take 4).length = 4
        rw [List.length_take]
        omega
      · show (l.drop 4).length = 5
        rw [List.length_drop]
        omega
theorem N_come_fl (e : E) : ∀ (h : Nat) (l : List (N_i E h)), N_fl h l → (0 < h → l ≠ []) → l.length ≤ 8 → N_fl h (N_come c e h l).1 ∧ (N_come c e h l).1.length ≤ 8 ∧ ((N_come c e h l).2 = none → l.length ≤ (N_come c e h l).1.length) ∧ ∀ y ∈ (N_come c e h l).2, (N_come c e h l).1.length = 4 ∧ y.2.length = 5 ∧ N_fl h y.2 := by
  intro h
  induction h with
  | zero =>
    intro l _ _ hl
    have hpl : (N_pi l (N_pl c e (N_es l)) e).length = l.length + 1 := by
      unfold N_pi
      rw [List.length_append, List.length_cons, List.length_take, List.length_drop]
      omega
    rw [N_come_0]
    obtain ⟨h1, h2, h3, h4⟩ := N_spl_fl (h := 0) (l := N_pi l (N_pl c e (N_es l)) e) trivial (by omega)
    exact ⟨h1, h2, fun z => by rw [h3 z]; omega, h4⟩
  | succ h ih =>
    intro l hf hne hl
    obtain ⟨A, x, B, hs, hA⟩ := N_dn_split c e (hne (by omega))
    subst hs
    rw [N_come_s c e hA]
    obtain ⟨hfA, h2⟩ := N_fl_app.mp hf
    obtain ⟨⟨⟨h3, h3'⟩, h4⟩, hfB⟩ := N_fl_c.mp h2
    obtain ⟨i1, i2, i3, i4⟩ := ih x.2 h4 (fun _ z => by rw [z, List.length_nil] at h3; omega) h3'
    rw [List.length_append, List.length_cons] at hl
    obtain ⟨s, hs⟩ : ∃ s, s = N_come c e h x.2 := ⟨_, rfl⟩
    rw [← hs] at i1 i2 i3 i4 ⊢
    have hln : A.length + B.length + 1 ≤ (N_ca A x s B).length ∧ (N_ca A x s B).length ≤ A.length + B.length + 2 := by
      unfold N_ca
      rw [List.length_append, List.length_cons, List.length_append]
      have : s.2.toList.length ≤ 1 := by
        cases s.2 <;> simp
      omega
    have hf2 : N_fl (h + 1) (N_ca A x s B) := by
      unfold N_ca
      refine N_fl_app.mpr ⟨hfA, N_fl_c.mpr ⟨⟨⟨?_, i2⟩, i1⟩, N_fl_app.mpr ⟨?_, hfB⟩⟩⟩
      · show 4 ≤ s.1.length
        cases hs2 : s.2 with
        | none =>
          have := i3 hs2
          omega
        | some y =>
          have := (i4 y hs2).1
          omega
      · rw [N_fl_s]
        intro y hy
        have hy2 : y ∈ s.2 := by simpa using hy
        obtain ⟨j1, j2, j3⟩ := i4 y hy2
        exact ⟨⟨by omega, by omega⟩, j3⟩
    obtain ⟨k1, k2, k3, k4⟩ := N_spl_fl hf2 (by omega)
    refine ⟨k1, k2, fun z => ?_, k4⟩
    rw [k3 z, List.length_append, List.length_cons]
    omega
theorem N_R_bd (hc : v_T c) {h : Nat} {x y z : N_i E (h + 1)} (hy : ∃ b, b ∈ N_in (h + 1) y) (h1 : N_R c h x y) (h2 : N_R c h y z) : c y.1 z.1 < 0 := by
  obtain ⟨b, hb⟩ := hy
  exact N_le_lt hc (h1.2 b hb) (h2.1 b hb)
theorem N_fl_ne {h : Nat} {l : List (N_i E (h + 1))} (hf : N_fl (h + 1) l) {x : N_i E (h + 1)} (hx : x ∈ l) : ∃ b, b ∈ N_in (h + 1) x := by
  obtain ⟨⟨h1, -⟩, h2⟩ := N_fl_s.mp hf x hx
  exact N_ins_ne h2 fun z => by rw [z, List.length_nil] at h1; omega
/-- what a node's splitting gives is in order -/
theorem N_spl_ok (hc : v_T c) : ∀ {h : Nat} {l : List (N_i E h)}, N_ok c h l → N_fl h l → N_ok c h (N_spl h l).1 ∧ ∀ y ∈ (N_spl h l).2, N_ok c h y.2 ∧ (∀ a ∈ N_ins h (N_spl h l).1, c a y.1 < 0) ∧ ∀ b ∈ N_ins h y.2, c y.1 b ≤ 0 := by
  intro h l hk hf
  by_cases g : l.length ≤ 8
  · rw [N_spl_n g]
    exact ⟨hk, fun y hy => absurd hy (by simp)⟩
  · obtain ⟨x, r, hd, he⟩ := N_spl_y (h := h) (l := l) (by omega)
    rw [he]
    have htd : l = l.take 4 ++ x :: r := by rw [← hd, List.take_append_drop]
    have ht4 : l.take 4 ≠ [] := fun z => by
      have := congrArg List.length z
      rw [List.length_take, List.length_nil] at this
      omega
    obtain ⟨T, hT⟩ : ∃ T, T = l.take 4 := ⟨_, rfl⟩
    rw [hd]
    rw [← hT] at htd ht4 ⊢
    subst htd
    cases h with
    | zero =>
      have hk2 := (N_ok_0 c).mp hk
      obtain ⟨p1, p2, p3⟩ := List.pairwise_append.mp hk2
      obtain ⟨p4, p5⟩ := List.pairwise_cons.mp p2
      refine ⟨p1, fun y hy => ?_⟩
      cases hy
      refine ⟨p2, fun a ha => ?_, fun b hb => ?_⟩
      · obtain ⟨a2, ha2, ha3⟩ := N_mem_ins.mp ha
        have : a = a2 := List.mem_singleton.mp ha3
        subst this
        exact p3 a ha2 x List.mem_cons_self
      · obtain ⟨b2, hb2, hb3⟩ := N_mem_ins.mp hb
        have : b = b2 := List.mem_singleton.mp hb3
        subst this
        rcases List.mem_cons.mp hb2 with z | z
        · rw [z]
          exact Int.le_of_eq (v_T.rf (α := E) hc x)
        · have := p4 b z
          show c x b ≤ 0
          omega
    | succ h =>
      obtain ⟨q1, q2⟩ := (N_ok_s c).mp hk
      obtain ⟨p1, p2, p3⟩ := List.pairwise_append.mp q1
      obtain ⟨p4, p5⟩ := List.pairwise_cons.mp p2
      refine ⟨⟨p1, fun y hy => q2 y (List.mem_append_left _ hy)⟩, fun y hy => ?_⟩
      cases hy
      refine ⟨⟨p2, fun y hy => q2 y (List.mem_append_right _ hy)⟩, fun a ha => ?_, fun b hb => ?_⟩
      · obtain ⟨a2, ha2, ha3⟩ := N_mem_ins.mp ha
        exact (p3 a2 ha2 x List.mem_cons_self).1 a ha3
      · obtain ⟨b2, hb2, hb3⟩ := N_mem_ins.mp hb
        obtain ⟨t, ht⟩ := List.exists_mem_of_ne_nil _ ht4
        have hRx := p3 t ht x List.mem_cons_self
        rcases List.mem_cons.mp hb2 with z | z
        · subst z
          exact hRx.2 b hb3
        · have h5 := N_R_bd hc (N_fl_ne hf (List.mem_append_right _ List.mem_cons_self)) hRx (p4 b2 z)
          have h6 := (p4 b2 z).2 b hb3
          have := N_lt_le hc h5 h6
          show c x.1 b ≤ 0
          omega
/-- where one goes down: the child's mark is not greater, all those behind it are -/
theorem N_dn_marks (hc : v_T c) {e : E} {h : Nat} {A : List (N_i E (h + 1))} {x : N_i E (h + 1)} {B : List (N_i E (h + 1))} (hA : A.length = N_dn c e h (A ++ x :: B)) (hk : N_ok c (h + 1) (A ++ x :: B)) (hf : N_fl (h + 1) (A ++ x :: B)) : (A ≠ [] → c x.1 e ≤ 0) ∧ ∀ z ∈ B, c e z.1 < 0 := by
  obtain ⟨d1, d2⟩ := N_dm_spec c e (N_ms h (A ++ x :: B).tail)
  have hA2 : A.length = N_dm c e (N_ms h (A ++ x :: B).tail) := hA
  rw [← hA2] at d1 d2
  obtain ⟨q1, q2⟩ := (N_ok_s c).mp hk
  obtain ⟨p1, p2, p3⟩ := List.pairwise_append.mp q1
  obtain ⟨p4, p5⟩ := List.pairwise_cons.mp p2
  refine ⟨fun hA0 => ?_, fun z hz => ?_⟩
  · cases A with
    | nil => exact absurd rfl hA0
    | cons a A =>
      refine d1 A.length x.1 (by rw [List.length_cons]; omega) ?_
      show (List.map (fun x => x.1) (A ++ x :: B))[A.length]? = some x.1
      rw [List.getElem?_map, List.getElem?_append_right (Nat.le_refl _), Nat.sub_self]
      rfl
  · cases B with
    | nil => exact absurd hz (by simp)
    | cons b B =>
      have hb : c e b.1 < 0 := by
        have h1 : ¬ c b.1 e ≤ 0 := by
          refine d2 b.1 ?_
          cases A with
          | nil => rfl
          | cons a A =>
            show (List.map (fun x => x.1) (A ++ x :: b :: B))[A.length + 1]? = some b.1
            rw [List.getElem?_map, List.getElem?_append_right (by omega), show A.length + 1 - A.length = 1 by omega]
            rfl
        have := hc.s b.1 e
        omega
      rcases List.mem_cons.mp hz with g | g
      · exact g ▸ hb
      · have h5 := N_R_bd hc (N_fl_ne hf (x := b) (by simp)) (p4 b List.mem_cons_self) ((List.pairwise_cons.mp p5).1 z g)
        exact N_lt_le hc hb (by omega)
theorem N_pl_spec (e : E) : ∀ l : List E, N_pl c e l ≤ l.length ∧ (∀ (i : Nat) (x : E), i < N_pl c e l → l[i]? = some x → c x e < 0) ∧ ∀ x : E, l[N_pl c e l]? = some x → ¬ c x e < 0 := by
  intro l
  induction l with
  | nil => exact ⟨Nat.le_refl _, fun i m hi => absurd hi (by unfold N_pl; omega), fun m hm => absurd hm (by simp)⟩
  | cons a r ih =>
    obtain ⟨i1, i2, i3⟩ := ih
    by_cases g : c a e < 0
    · have hd : N_pl c e (a :: r) = N_pl c e r + 1 := if_pos g
      rw [hd, List.length_cons]
      refine ⟨by omega, fun i m hi hm => ?_, fun m hm => i3 m (by simpa using hm)⟩
      cases i with
      | zero =>
        have : a = m := by simpa using hm
        exact this ▸ g
      | succ i => exact i2 i m (by omega) (by simpa using hm)
    · have hd : N_pl c e (a :: r) = 0 := if_neg g
      rw [hd]
      refine ⟨by omega, fun i m hi => absurd hi (by omega), fun m hm => ?_⟩
      have : a = m := by simpa using hm
      exact this ▸ g
theorem N_pl_split (hc : v_T c) {e : E} {l : List E} (hk : l.Pairwise fun a b => c a b < 0) : ∃ A B, l = A ++ B ∧ A.length = N_pl c e l ∧ (∀ a ∈ A, c a e < 0) ∧ ∀ b ∈ B, ¬ c b e < 0 := by
  obtain ⟨d0, d1, d2⟩ := N_pl_spec (c := c) e l
  refine ⟨l.take (N_pl c e l), l.drop (N_pl c e l), (List.take_append_drop _ _).symm, ?_, fun a ha => ?_, fun b hb => ?_⟩
  · rw [List.length_take]
    omega
  · obtain ⟨i, hi, ha2⟩ := List.mem_iff_getElem.mp ha
    rw [List.length_take] at hi
    refine d1 i a (by omega) ?_
    rw [← ha2, List.getElem_take, List.getElem?_eq_getElem]
  · cases hd : l.drop (N_pl c e l) with
    | nil =>
      rw [hd] at hb
      exact absurd hb (by simp)
    | cons y r =>
      have hy : ¬ c y e < 0 := d2 y (by
        have := congrArg List.head? hd
        rw [List.head?_drop] at this
        exact this)
      rw [hd] at hb
      have hk2 : (y :: r).Pairwise fun a b => c a b < 0 := hd ▸ hk.sublist (List.drop_sublist _ _)
      rcases List.mem_cons.mp hb with g | g
      · exact g ▸ hy
      · have h1 := (List.pairwise_cons.mp hk2).1 b g
        intro z
        exact hy (N_lt_le hc h1 (by omega))
theorem N_come_ok (hc : v_T c) (e : E) : ∀ (h : Nat) (l : List (N_i E h)), N_ok c h l → N_fl h l → (0 < h → l ≠ []) → l.length ≤ 8 → (∀ a ∈ N_ins h l, c a e ≠ 0) → N_ok c h (N_come c e h l).1 ∧ ∀ y ∈ (N_come c e h l).2, N_ok c h y.2 ∧ (∀ a ∈ N_ins h (N_come c e h l).1, c a y.1 < 0) ∧ ∀ b ∈ N_ins h y.2, c y.1 b ≤ 0 := by
  intro h
  induction h with
  | zero =>
    intro l hk hf _ _ hnew
    rw [N_come_0]
    refine N_spl_ok hc ?_ trivial
    have hk2 := (N_ok_0 c).mp hk
    obtain ⟨A, B, h1, h2, h3, h4⟩ := N_pl_split hc (e := e) hk2
    have h1' : @Eq (List (N_i E 0)) l (A ++ B) := h1
    subst h1'
    rw [← h2]
    have hpi : N_pi (E := E) (A ++ B) A.length e = A ++ e :: B := by
      show List.take A.length (A ++ B) ++ e :: List.drop A.length (A ++ B) = A ++ e :: B
      rw [List.take_left, List.drop_left]
    rw [hpi]
    obtain ⟨p1, p2, p3⟩ := List.pairwise_append.mp hk2
    have hB : ∀ b ∈ B, c e b < 0 := fun b hb => by
      have k1 := h4 b hb
      have k2 := hnew b (N_mem_ins.mpr ⟨b, List.mem_append_right _ hb, List.mem_singleton.mpr rfl⟩)
      have k3 := hc.s b e
      omega
    refine (N_ok_0 c).mpr (List.pairwise_append.mpr ⟨p1, List.pairwise_cons.mpr ⟨hB, p2⟩, fun a ha b hb => ?_⟩)
    rcases List.mem_cons.mp hb with z | z
    · rw [z]
      exact h3 a ha
    · exact p3 a ha b z
  | succ h ih =>
    intro l hk hf hne hl hnew
    obtain ⟨A, x, B, hs, hA⟩ := N_dn_split c e (hne (by omega))
    subst hs
    rw [N_come_s c e hA]
    obtain ⟨m1, m2⟩ := N_dn_marks hc hA hk hf
    obtain ⟨q1, q2⟩ := (N_ok_s c).mp hk
    obtain ⟨p1, p2, p3⟩ := List.pairwise_append.mp q1
    obtain ⟨p4, p5⟩ := List.pairwise_cons.mp p2
    obtain ⟨hfA, hf2⟩ := N_fl_app.mp hf
    obtain ⟨⟨⟨h3, h3'⟩, h4⟩, hfB⟩ := N_fl_c.mp hf2
    have hxne : 0 < h → x.2 ≠ [] := fun _ z => by rw [z, List.length_nil] at h3; omega
    have hxm : x ∈ A ++ x :: B := List.mem_append_right _ List.mem_cons_self
    obtain ⟨i1, i2, i3, i4⟩ := N_come_fl (c := c) e h x.2 h4 hxne h3'
    obtain ⟨j1, j2⟩ := ih x.2 (q2 x hxm) h4 hxne h3' fun a ha => hnew a (N_mem_ins.mpr ⟨x, hxm, ha⟩)
    have hpm := N_come_in (c := c) e h x.2 h4 hxne
    obtain ⟨s, hs⟩ : ∃ s, s = N_come c e h x.2 := ⟨_, rfl⟩
    rw [← hs] at i1 i2 i3 i4 j1 j2 hpm ⊢
    have hmem : ∀ b, b ∈ N_ins h s.1 ∨ b ∈ N_ins (h + 1) s.2.toList → b = e ∨ b ∈ N_in (h + 1) x := fun b hb => by
      have : b ∈ N_tot h s := by
        unfold N_tot
        exact List.mem_append.mpr hb
      exact List.mem_cons.mp (hpm.mem_iff.mp this)
    -- entries of what came of x
    have hlo : ∀ a ∈ A, ∀ b, b = e ∨ b ∈ N_in (h + 1) x → c x.1 b ≤ 0 := fun a ha b hb => by
      rcases hb with z | z
      · rw [z]
        exact m1 fun z => by rw [z] at ha; exact absurd ha (by simp)
      · exact (p3 a ha x List.mem_cons_self).2 b z
    have hhi : ∀ z ∈ B, ∀ b, b = e ∨ b ∈ N_in (h + 1) x → c b z.1 < 0 := fun z hz b hb => by
      rcases hb with g | g
      · rw [g]
        exact m2 z hz
      · exact (p4 z hz).1 b g
    have hs1ne : ∃ b, b ∈ N_ins h s.1 := by
      refine N_ins_ne i1 fun z => ?_
      cases hs2 : s.2 with
      | none =>
        have := i3 hs2
        rw [z, List.length_nil] at this
        omega
      | some y =>
        have := (i4 y hs2).1
        rw [z, List.length_nil] at this
        omega
    have hok : N_ok c (h + 1) (N_ca A x s B) := by
      unfold N_ca
      refine (N_ok_s c).mpr ⟨List.pairwise_append.mpr ⟨p1, List.pairwise_cons.mpr ⟨fun y hy => ?_, List.pairwise_append.mpr ⟨?_, p5, fun y hy z hz => ?_⟩⟩, fun a ha y hy => ?_⟩, fun y hy => ?_⟩
      · -- what came of x, and what stands behind
        rcases List.mem_append.mp hy with g | g
        · have hy2 : y ∈ s.2 := by simpa using g
          exact (j2 y hy2).2
        · exact ⟨fun b hb => hhi y g b (hmem b (Or.inl hb)), (p4 y g).2⟩
      · cases s.2 with
        | none => exact List.Pairwise.nil
        | some y => exact List.pairwise_singleton _ _
      · have hy2 : y ∈ s.2 := by simpa using hy
        exact ⟨fun b hb => hhi z hz b (hmem b (Or.inr (N_mem_ins.mpr ⟨y, hy, hb⟩))), (p4 z hz).2⟩
      · rcases List.mem_cons.mp hy with g | g
        · subst g
          exact ⟨(p3 a ha x List.mem_cons_self).1, fun b hb => hlo a ha b (hmem b (Or.inl hb))⟩
        · rcases List.mem_append.mp g with g | g
          · have hy2 : y ∈ s.2 := by simpa using g
            obtain ⟨b, hb⟩ := hs1ne
            have k1 := hlo a ha b (hmem b (Or.inl hb))
            have k2 := (j2 y hy2).2.1 b hb
            refine ⟨fun w hw => ?_, (j2 y hy2).2.2⟩
            exact N_lt_le hc ((p3 a ha x List.mem_cons_self).1 w hw) (by have := N_le_lt hc k1 k2; omega)
          · exact p3 a ha y (List.mem_cons_of_mem _ g)
      · rcases List.mem_append.mp hy with g | g
        · exact q2 y (List.mem_append_left _ g)
        · rcases List.mem_cons.mp g with g | g
          · subst g
            exact j1
          · rcases List.mem_append.mp g with g | g
            · have hy2 : y ∈ s.2 := by simpa using g
              exact (j2 y hy2).1
            · exact q2 y (List.mem_append_right _ (List.mem_cons_of_mem _ g))
    have hfl : N_fl (h + 1) (N_ca A x s B) := by
      unfold N_ca
      refine N_fl_app.mpr ⟨hfA, N_fl_c.mpr ⟨⟨⟨?_, i2⟩, i1⟩, N_fl_app.mpr ⟨?_, hfB⟩⟩⟩
      · show 4 ≤ s.1.length
        cases hs2 : s.2 with
        | none =>
          have := i3 hs2
          omega
        | some y =>
          have := (i4 y hs2).1
          omega
      · rw [N_fl_s]
        intro y hy
        have hy2 : y ∈ s.2 := by simpa using hy
        obtain ⟨j1, j2, j3⟩ := i4 y hy2
        exact ⟨⟨by omega, by omega⟩, j3⟩
    exact N_spl_ok hc hok hfl
end NTC
