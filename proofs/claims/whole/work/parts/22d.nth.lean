/-! TREES: what is left when an entry goes -/
theorem N_erase {α : Type} (A : List α) (a : α) (B : List α) : (A ++ a :: B).eraseIdx A.length = A ++ B := by
  rw [List.eraseIdx_append_of_length_le (Nat.le_refl _), Nat.sub_self]
  rfl
section NTH
variable {E : Type} {c : E → E → Int}
theorem N_Y_seg (hc : v_T c) {h : Nat} {P Q S : List (N_i E (h + 1))} {u v : N_i E (h + 1)} (hk : N_ok c (h + 1) (P ++ u :: v :: Q)) (hn : N_ne (h + 1) (P ++ u :: v :: Q)) (hY : N_Y c h u v S) : N_ok c (h + 1) (P ++ (S ++ Q)) ∧ N_ins (h + 1) (P ++ (S ++ Q)) = N_ins (h + 1) (P ++ u :: v :: Q) ∧ (P ++ (S ++ Q)).length ≤ (P ++ u :: v :: Q).length ∧ (P ++ u :: v :: Q).length ≤ (P ++ (S ++ Q)).length + 1 := by
  obtain ⟨y, T, h1, h2, h3, h4, h5, h6, h7⟩ := hY
  refine ⟨?_, ?_, ?_, ?_⟩
  · rw [h1]
    refine N_seg hc hk hn h2 (h1 ▸ h3) (N_ne_fl (h1 ▸ h5) y List.mem_cons_self) fun b hb => ?_
    rw [← h1, h4] at hb
    exact List.mem_append.mp hb
  · rw [N_ins_app, N_ins_app, N_ins_app, h4, N_ins_c, N_ins_c, List.append_assoc]
  · rw [List.length_append, List.length_append, List.length_append, List.length_cons, List.length_cons]
    omega
  · rw [List.length_append, List.length_append, List.length_append, List.length_cons, List.length_cons]
    omega
theorem N_gone_ok (hc : v_T c) (e : E) : ∀ (h : Nat) (l : List (N_i E h)), N_ok c h l → N_fl h l → (0 < h → 2 ≤ l.length) → (∃ a ∈ N_ins h l, c a e = 0) → N_ok c h (N_gone c e h l) ∧ N_fl h (N_gone c e h l) ∧ l.length ≤ (N_gone c e h l).length + 1 ∧ (N_gone c e h l).length ≤ l.length ∧ ∃ a, c a e = 0 ∧ (N_ins h l).Perm (a :: N_ins h (N_gone c e h l)) := by
  intro h
  induction h with
  | zero =>
    intro l hk hf _ hex
    rw [N_gone_0]
    have hk2 := (N_ok_0 c).mp hk
    obtain ⟨A, B, h1, h2, h3, h4⟩ := N_pl_split hc (e := e) hk2
    have h1' : @Eq (List (N_i E 0)) l (A ++ B) := h1
    subst h1'
    rw [← h2]
    obtain ⟨a, ha, hae⟩ := hex
    obtain ⟨a2, ha2, ha3⟩ := N_mem_ins.mp ha
    have : a = a2 := List.mem_singleton.mp ha3
    subst this
    obtain ⟨p1, p2, p3⟩ := List.pairwise_append.mp hk2
    have haB : a ∈ B := by
      rcases List.mem_append.mp ha2 with z | z
      · have := h3 a z
        omega
      · exact z
    cases B with
    | nil => exact absurd haB (by simp)
    | cons b B =>
      obtain ⟨p4, p5⟩ := List.pairwise_cons.mp p2
      have hab : a = b := by
        rcases List.mem_cons.mp haB with z | z
        · exact z
        · have k1 := p4 a z
          have k2 := h4 b List.mem_cons_self
          exact absurd (N_lt_le hc k1 (by omega)) k2
      subst hab
      have hre2 : List.eraseIdx (α := N_i E 0) (A ++ a :: B) A.length = (A ++ B : List E) := N_erase (α := E) A a B
      rw [hre2]
      refine ⟨(N_ok_0 c).mpr (List.pairwise_append.mpr ⟨p1, p5, fun x hx y hy => p3 x hx y (List.mem_cons_of_mem _ hy)⟩), trivial, ?_, ?_, a, hae, ?_⟩
      · show (A ++ a :: B).length ≤ (A ++ B).length + 1
        rw [List.length_append, List.length_append, List.length_cons]
        omega
      · show (A ++ B).length ≤ (A ++ a :: B).length
        rw [List.length_append, List.length_append, List.length_cons]
        omega
      · have h5 : ∀ X : List E, N_ins (E := E) 0 X = X := fun X => by
          show List.flatMap (fun x => [x]) X = X
          induction X with
          | nil => rfl
          | cons x X ih => rw [List.flatMap_cons, ih]; rfl
        rw [h5, h5]
        exact List.perm_middle
  | succ h ih =>
    intro l hk hf hne hex
    have hl2 := hne (by omega)
    obtain ⟨A, x, B, hs, hA⟩ := N_dn_split c e (l := l) (fun z => by rw [z, List.length_nil] at hl2; omega)
    subst hs
    rw [N_gone_s c e hA]
    obtain ⟨m1, m2⟩ := N_dn_marks hc hA hk hf
    obtain ⟨q1, q2⟩ := (N_ok_s c).mp hk
    obtain ⟨p1, p2, p3⟩ := List.pairwise_append.mp q1
    obtain ⟨p4, p5⟩ := List.pairwise_cons.mp p2
    obtain ⟨hfA, hf2⟩ := N_fl_app.mp hf
    obtain ⟨⟨⟨h3, h3'⟩, h4⟩, hfB⟩ := N_fl_c.mp hf2
    have hxm : x ∈ A ++ x :: B := List.mem_append_right _ List.mem_cons_self
    -- the entry is below x
    have hex2 : ∃ a ∈ N_ins h x.2, c a e = 0 := by
      obtain ⟨a, ha, hae⟩ := hex
      refine ⟨a, ?_, hae⟩
      obtain ⟨z, hz, haz⟩ := N_mem_ins.mp ha
      rcases List.mem_append.mp hz with g | g
      · have k1 := (p3 z g x List.mem_cons_self).1 a haz
        have k2 := m1 fun w => by rw [w] at g; exact absurd g (by simp)
        have := N_lt_le hc k1 k2
        omega
      · rcases List.mem_cons.mp g with g | g
        · exact g ▸ haz
        · have k1 := m2 z g
          have k2 := (p4 z g).2 a haz
          have k3 := N_lt_le hc k1 k2
          have := hc.s a e
          omega
    obtain ⟨i1, i2, i3, i4, a, i5, i6⟩ := ih x.2 (q2 x hxm) h4 (fun _ => by omega) hex2
    obtain ⟨t, ht⟩ : ∃ t, t = N_gone c e h x.2 := ⟨_, rfl⟩
    rw [← ht] at i1 i2 i3 i4 i6 ⊢
    obtain ⟨x', hx'⟩ : ∃ x', x' = N_mk h x.1 t := ⟨_, rfl⟩
    have e1 : x'.1 = x.1 := by rw [hx']; rfl
    have e2 : x'.2 = t := by rw [hx']; rfl
    rw [← hx']
    have hsub : ∀ b ∈ N_in (h + 1) x', b ∈ N_in (h + 1) x := fun b hb => by
      rw [N_in_s, e2] at hb
      exact i6.mem_iff.mpr (List.mem_cons_of_mem _ hb)
    have hk' : N_ok c (h + 1) (A ++ x' :: B) := by
      refine (N_ok_s c).mpr ⟨List.pairwise_append.mpr ⟨p1, List.pairwise_cons.mpr ⟨fun z hz => ⟨fun b hb => (p4 z hz).1 b (hsub b hb), (p4 z hz).2⟩, p5⟩, fun y hy z hz => ?_⟩, fun z hz => ?_⟩
      · rcases List.mem_cons.mp hz with g | g
        · subst g
          have := p3 y hy x List.mem_cons_self
          unfold N_R at this ⊢
          rw [e1]
          exact ⟨this.1, fun b hb => this.2 b (hsub b hb)⟩
        · exact p3 y hy z (List.mem_cons_of_mem _ g)
      · rcases List.mem_append.mp hz with g | g
        · exact q2 z (List.mem_append_left _ g)
        · rcases List.mem_cons.mp g with g | g
          · subst g
            rw [e2]
            exact i1
          · exact q2 z (List.mem_append_right _ (List.mem_cons_of_mem _ g))
    have hn' : N_ne (h + 1) (A ++ x' :: B) := fun z hz => by
      rcases List.mem_append.mp hz with g | g
      · exact N_fl_ne hfA g
      · rcases List.mem_cons.mp g with g | g
        · subst g
          rw [N_in_s, e2]
          exact N_ins_ne i2 fun w => by rw [w, List.length_nil] at i3; omega
        · exact N_fl_ne hfB g
    have hpm : (N_ins (h + 1) (A ++ x :: B)).Perm (a :: N_ins (h + 1) (A ++ x' :: B)) := by
      rw [N_ins_app, N_ins_app, N_ins_c, N_ins_c, N_in_s, N_in_s, e2]
      exact (List.Perm.append_left _ (i6.append_right _)).trans List.perm_middle
    have hlen : (A ++ x' :: B).length = (A ++ x :: B).length := by
      rw [List.length_append, List.length_append, List.length_cons, List.length_cons]
    rw [← hlen] at hl2 ⊢
    have hokx : N_ok c h x'.2 := by rw [e2]; exact i1
    have hflx : N_fl h x'.2 := by rw [e2]; exact i2
    obtain ⟨r1, r2⟩ := (N_ok_s c).mp hk'
    obtain ⟨r3, r4, r5⟩ := List.pairwise_append.mp r1
    obtain ⟨r6, r7⟩ := List.pairwise_cons.mp r4
    have hA3 : 3 ≤ x'.2.length := by rw [e2]; omega
    have hA8 : x'.2.length ≤ 8 := by rw [e2]; omega
    rcases N_fix_cs (A := A) (x := x') (B := B) hl2 with ⟨g1, g2⟩ | ⟨g0, g⟩
    · rw [g2]
      exact ⟨hk', N_fl_app.mpr ⟨hfA, N_fl_c.mpr ⟨⟨⟨g1, hA8⟩, hflx⟩, hfB⟩⟩, by omega, Nat.le_refl _, a, i5, hpm⟩
    · rcases g with ⟨A0, u, g1, g2, g3⟩ | ⟨b, B0, g1, g2, -, g3⟩ | ⟨A0, u, g1, g2, -, g3⟩ | ⟨b, B0, g1, g2, g3, g4⟩
      · subst g1
        obtain ⟨f1, f2⟩ := N_fl_app.mp hfA
        obtain ⟨⟨⟨f3, f4⟩, f5⟩, -⟩ := N_fl_c.mp f2
        have hass : A0 ++ [u] ++ x' :: B = A0 ++ u :: x' :: B := by simp
        have hY := N_bl_Y hc (r5 u (by simp) x' List.mem_cons_self) (r2 u (by simp)) hokx f5 hflx g2 f4 (by omega)
        rw [hass] at hk' hn' hpm ⊢
        obtain ⟨s1, s2, s3, s4⟩ := N_Y_seg hc hk' hn' hY
        rw [g3]
        refine ⟨s1, N_fl_app.mpr ⟨f1, N_fl_app.mpr ⟨?_, hfB⟩⟩, s4, s3, a, i5, by rw [s2]; exact hpm⟩
        obtain ⟨_, _, _, _, _, _, w, _⟩ := hY
        exact w
      · subst g1
        obtain ⟨⟨⟨f3, f4⟩, f5⟩, f6⟩ := N_fl_c.mp hfB
        have hY := N_br_Y hc (r6 b List.mem_cons_self) hokx (r2 b (by simp)) hflx f5 g2 f4 (by omega)
        obtain ⟨s1, s2, s3, s4⟩ := N_Y_seg hc hk' hn' hY
        rw [g3]
        refine ⟨s1, N_fl_app.mpr ⟨hfA, N_fl_app.mpr ⟨?_, f6⟩⟩, s4, s3, a, i5, by rw [s2]; exact hpm⟩
        obtain ⟨_, _, _, _, _, _, w, _⟩ := hY
        exact w
      · subst g1
        obtain ⟨f1, f2⟩ := N_fl_app.mp hfA
        obtain ⟨⟨⟨f3, f4⟩, f5⟩, -⟩ := N_fl_c.mp f2
        have hass : A0 ++ [u] ++ x' :: B = A0 ++ u :: x' :: B := by simp
        have hY := N_mg_Y hc (r5 u (by simp) x' List.mem_cons_self) (r2 u (by simp)) hokx f5 hflx (by omega) (by omega)
        rw [hass] at hk' hn' hpm ⊢
        obtain ⟨s1, s2, s3, s4⟩ := N_Y_seg hc hk' hn' hY
        rw [g3]
        refine ⟨s1, N_fl_app.mpr ⟨f1, N_fl_app.mpr ⟨?_, hfB⟩⟩, s4, s3, a, i5, by rw [s2]; exact hpm⟩
        obtain ⟨_, _, _, _, _, _, w, _⟩ := hY
        exact w
      · subst g1
        subst g2
        obtain ⟨⟨⟨f3, f4⟩, f5⟩, f6⟩ := N_fl_c.mp hfB
        have hY := N_mg_Y hc (r6 b List.mem_cons_self) hokx (r2 b (by simp)) hflx f5 (by omega) (by omega)
        obtain ⟨s1, s2, s3, s4⟩ := N_Y_seg hc hk' hn' hY
        rw [g4]
        refine ⟨s1, N_fl_app.mpr ⟨hfA, N_fl_app.mpr ⟨?_, f6⟩⟩, s4, s3, a, i5, by rw [s2]; exact hpm⟩
        obtain ⟨_, _, _, _, _, _, w, _⟩ := hY
        exact w
/-- a tree: how many levels are above the leaves, and the root -/
def N_T (E : Type) : Type := (h : Nat) × List (N_i E h)
def N_all (t : N_T E) : List E := N_ins t.1 t.2
def N_good (c : E → E → Int) (t : N_T E) : Prop := N_ok c t.1 t.2 ∧ N_fl t.1 t.2 ∧ t.2.length ≤ 8 ∧ (0 < t.1 → 2 ≤ t.2.length)
def N_grow (h : Nat) (l : List (N_i E h)) : Option (N_i E (h + 1)) → N_T E
  | none => ⟨h, l⟩
  | some y => ⟨h + 1, [N_mk h y.1 l, y]⟩
def N_enter (c : E → E → Int) (e : E) (t : N_T E) : N_T E := N_grow t.1 (N_come c e t.1 t.2).1 (N_come c e t.1 t.2).2
def N_shrink : (h : Nat) → List (N_i E h) → N_T E
  | 0, l => ⟨0, l⟩
  | h + 1, [x] => ⟨h, x.2⟩
  | h + 1, l => ⟨h + 1, l⟩
def N_leave (c : E → E → Int) (e : E) (t : N_T E) : N_T E := N_shrink t.1 (N_gone c e t.1 t.2)
def N_nil : N_T E := ⟨0, []⟩
theorem N_nil_good : N_good c (N_nil : N_T E) := ⟨List.Pairwise.nil, trivial, Nat.zero_le _, fun z => absurd z (Nat.lt_irrefl 0)⟩
theorem N_enter_ok (hc : v_T c) {e : E} {t : N_T E} (ht : N_good c t) (hn : ∀ a ∈ N_all t, c a e ≠ 0) : N_good c (N_enter c e t) ∧ (N_all (N_enter c e t)).Perm (e :: N_all t) := by
  obtain ⟨h, l⟩ := t
  obtain ⟨k1, k2, k3, k4⟩ := ht
  have hne : 0 < h → l ≠ [] := fun z w => by
    have := k4 z
    change 2 ≤ l.length at this
    rw [w, List.length_nil] at this
    omega
  obtain ⟨f1, f2, f3, f4⟩ := N_come_fl (c := c) e h l k2 hne k3
  obtain ⟨o1, o2⟩ := N_come_ok hc e h l k1 k2 hne k3 hn
  have hp := N_come_in (c := c) e h l k2 hne
  unfold N_enter
  show N_good c (N_grow h (N_come c e h l).1 (N_come c e h l).2) ∧ (N_all (N_grow h (N_come c e h l).1 (N_come c e h l).2)).Perm (e :: N_ins h l)
  obtain ⟨s, hs⟩ : ∃ s, s = N_come c e h l := ⟨_, rfl⟩
  rw [← hs] at f1 f2 f3 f4 o1 o2 hp ⊢
  obtain ⟨s1, s2⟩ := s
  cases s2 with
  | none =>
    unfold N_tot at hp
    change (N_ins h s1 ++ []).Perm _ at hp
    rw [List.append_nil] at hp
    refine ⟨⟨o1, f1, f2, fun z => ?_⟩, hp⟩
    have k5 := k4 z
    have k6 := f3 rfl
    change 2 ≤ s1.length
    change l.length ≤ s1.length at k6
    change 2 ≤ l.length at k5
    omega
  | some y =>
    obtain ⟨g1, g2, g3⟩ := f4 y rfl
    obtain ⟨g4, g5, g6⟩ := o2 y rfl
    refine ⟨⟨(N_ok_s c).mpr ⟨List.pairwise_cons.mpr ⟨fun z hz => ?_, List.pairwise_singleton _ _⟩, fun z hz => ?_⟩, N_fl_c.mpr ⟨⟨⟨by show 4 ≤ s1.length; have g1' : s1.length = 4 := g1; omega, f2⟩, f1⟩, N_fl_c.mpr ⟨⟨⟨by omega, by omega⟩, g3⟩, fun z hz => absurd hz (by simp)⟩⟩, by show 2 ≤ 8; omega, fun _ => Nat.le_refl _⟩, ?_⟩
    · have : z = y := List.mem_singleton.mp hz
      subst this
      exact ⟨g5, g6⟩
    · rcases List.mem_cons.mp hz with w | w
      · subst w
        exact o1
      · have : z = y := List.mem_singleton.mp w
        subst this
        exact g4
    · exact hp
theorem N_shrink_2 {h : Nat} {l : List (N_i E h)} (hl : 0 < h → 2 ≤ l.length) : N_shrink h l = ⟨h, l⟩ := by
  cases h with
  | zero => rfl
  | succ h =>
    have := hl (by omega)
    cases l with
    | nil => rfl
    | cons x l =>
      cases l with
      | nil => rw [List.length_singleton] at this; omega
      | cons y l => rfl
theorem N_leave_ok (hc : v_T c) {e : E} {t : N_T E} (ht : N_good c t) (hn : ∃ a ∈ N_all t, c a e = 0) : N_good c (N_leave c e t) ∧ ∃ a, c a e = 0 ∧ (N_all t).Perm (a :: N_all (N_leave c e t)) := by
  obtain ⟨h, l⟩ := t
  obtain ⟨k1, k2, k3, k4⟩ := ht
  change l.length ≤ 8 at k3
  obtain ⟨g1, g2, g3, g4, a, g5, g6⟩ := N_gone_ok hc e h l k1 k2 k4 hn
  unfold N_leave
  show N_good c (N_shrink h (N_gone c e h l)) ∧ ∃ a, c a e = 0 ∧ (N_ins h l).Perm (a :: N_all (N_shrink h (N_gone c e h l)))
  obtain ⟨s, hs⟩ : ∃ s, s = N_gone c e h l := ⟨_, rfl⟩
  rw [← hs] at g1 g2 g3 g4 g6 ⊢
  by_cases w : 0 < h → 2 ≤ s.length
  · rw [N_shrink_2 w]
    exact ⟨⟨g1, g2, Nat.le_trans g4 k3, w⟩, a, g5, g6⟩
  · cases h with
    | zero => exact absurd (fun z => absurd z (by decide)) w
    | succ h =>
      have k5 := k4 (Nat.succ_pos h)
      change 2 ≤ l.length at k5
      cases s with
      | nil => rw [List.length_nil] at g3; omega
      | cons x s =>
        cases s with
        | cons y s => exact absurd (fun _ => by rw [List.length_cons, List.length_cons]; omega) w
        | nil =>
          obtain ⟨⟨j1, j2⟩, -⟩ := N_fl_c.mp g2
          refine ⟨⟨g1.2 x List.mem_cons_self, j2, j1.2, fun _ => by have := j1.1; show 2 ≤ x.2.length; omega⟩, a, g5, ?_⟩
          have : N_all (N_shrink (h + 1) [x]) = N_ins (h + 1) [x] := by
            show N_ins h x.2 = N_ins h x.2 ++ []
            rw [List.append_nil]
          rw [this]
          exact g6
end NTH
