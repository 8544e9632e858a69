/-! TREES: what an entry's going makes is a tree -/
section NTG
variable {E : Type} {c : E → E → Int}
/-- every child has entries -/
def N_ne (h : Nat) (l : List (N_i E h)) : Prop := ∀ x ∈ l, ∃ b, b ∈ N_in h x
theorem N_ne_fl {h : Nat} {l : List (N_i E h)} (hf : N_fl h l) : N_ne h l := fun x hx => by
  cases h with
  | zero => exact ⟨x, List.mem_singleton.mpr rfl⟩
  | succ h => exact N_fl_ne hf hx
theorem N_in_g (h : Nat) (m : E) (x : N_i E h) : N_in h (N_g h m x) = N_in h x := by cases h <;> rfl
theorem N_hd_ins (h : Nat) (m : E) (l : List (N_i E h)) : N_ins h (N_hd h m l) = N_ins h l := by
  cases l with
  | nil => rfl
  | cons x r =>
    show N_ins h (N_g h m x :: r) = N_ins h (x :: r)
    rw [N_ins_c, N_ins_c, N_in_g]
theorem N_hd_len (h : Nat) (m : E) (l : List (N_i E h)) : (N_hd h m l).length = l.length := by cases l <;> rfl
theorem N_hd_fl {h : Nat} {m : E} {l : List (N_i E h)} (hf : N_fl h l) : N_fl h (N_hd h m l) := by
  cases l with
  | nil => exact hf
  | cons x r =>
    cases h with
    | zero => trivial
    | succ h =>
      obtain ⟨h1, h2⟩ := N_fl_c.mp hf
      exact N_fl_c.mpr ⟨h1, h2⟩
theorem N_mid (hc : v_T c) {h : Nat} {T r : List (N_i E h)} {y : N_i E h} (hk : N_ok c h (T ++ y :: r)) (hn : N_ne h (T ++ y :: r)) (hT : T ≠ []) : (∀ a ∈ N_ins h T, c a (N_f h y) < 0) ∧ ∀ b ∈ N_ins h (y :: r), c (N_f h y) b ≤ 0 := by
  cases h with
  | zero =>
    have hk2 := (N_ok_0 c).mp hk
    obtain ⟨p1, p2, p3⟩ := List.pairwise_append.mp hk2
    obtain ⟨p4, p5⟩ := List.pairwise_cons.mp p2
    refine ⟨fun a ha => ?_, fun b hb => ?_⟩
    · obtain ⟨a2, ha2, ha3⟩ := N_mem_ins.mp ha
      have : a = a2 := List.mem_singleton.mp ha3
      subst this
      exact p3 a ha2 y List.mem_cons_self
    · obtain ⟨b2, hb2, hb3⟩ := N_mem_ins.mp hb
      have : b = b2 := List.mem_singleton.mp hb3
      subst this
      rcases List.mem_cons.mp hb2 with z | z
      · rw [z]
        exact Int.le_of_eq (v_T.rf (α := E) hc y)
      · have := p4 b z
        show c y b ≤ 0
        omega
  | succ h =>
    obtain ⟨q1, q2⟩ := (N_ok_s c).mp hk
    obtain ⟨p1, p2, p3⟩ := List.pairwise_append.mp q1
    obtain ⟨p4, p5⟩ := List.pairwise_cons.mp p2
    obtain ⟨t, ht⟩ := List.exists_mem_of_ne_nil _ hT
    have hRx := p3 t ht y List.mem_cons_self
    refine ⟨fun a ha => ?_, fun b hb => ?_⟩
    · obtain ⟨a2, ha2, ha3⟩ := N_mem_ins.mp ha
      exact (p3 a2 ha2 y List.mem_cons_self).1 a ha3
    · obtain ⟨b2, hb2, hb3⟩ := N_mem_ins.mp hb
      rcases List.mem_cons.mp hb2 with z | z
      · subst z
        exact hRx.2 b hb3
      · have h5 := N_R_bd hc (hn y (List.mem_append_right _ List.mem_cons_self)) hRx (p4 b2 z)
        have h6 := (p4 b2 z).2 b hb3
        have := N_lt_le hc h5 h6
        show c y.1 b ≤ 0
        omega
theorem N_ok_sub {h : Nat} {l t : List (N_i E h)} (hs : List.Sublist t l) (hk : N_ok c h l) : N_ok c h t := by
  cases h with
  | zero => exact List.Pairwise.sublist hs hk
  | succ h => exact ⟨hk.1.sublist hs, fun x hx => hk.2 x (hs.subset hx)⟩
/-- two nodes next to one another become one -/
theorem N_app_ok (hc : v_T c) {h : Nat} {m : E} {L l : List (N_i E h)} (hL : N_ok c h L) (hl : N_ok c h l) (hn : N_ne h l) (h1 : ∀ a ∈ N_ins h L, c a m < 0) (h2 : ∀ b ∈ N_ins h l, c m b ≤ 0) : N_ok c h (L ++ N_hd h m l) := by
  cases l with
  | nil =>
    show N_ok c h (L ++ [])
    rw [List.append_nil]
    exact hL
  | cons x r =>
    cases h with
    | zero =>
      refine (N_ok_0 c).mpr (List.pairwise_append.mpr ⟨hL, hl, fun a ha b hb => ?_⟩)
      exact N_lt_le hc (h1 a (N_mem_ins.mpr ⟨a, ha, List.mem_singleton.mpr rfl⟩)) (h2 b (N_mem_ins.mpr ⟨b, hb, List.mem_singleton.mpr rfl⟩))
    | succ h =>
      obtain ⟨q1, q2⟩ := (N_ok_s c).mp hl
      obtain ⟨p4, p5⟩ := List.pairwise_cons.mp q1
      have hx2 : ∀ b ∈ N_in (h + 1) x, c m b ≤ 0 := fun b hb => h2 b (N_mem_ins.mpr ⟨x, List.mem_cons_self, hb⟩)
      obtain ⟨b0, hb0⟩ := hn x List.mem_cons_self
      refine (N_ok_s c).mpr ⟨List.pairwise_append.mpr ⟨hL.1, List.pairwise_cons.mpr ⟨fun y hy => p4 y hy, p5⟩, fun a ha y hy => ?_⟩, fun y hy => ?_⟩
      · have ha2 : ∀ w ∈ N_in (h + 1) a, c w m < 0 := fun w hw => h1 w (N_mem_ins.mpr ⟨a, ha, hw⟩)
        rcases List.mem_cons.mp hy with z | z
        · subst z
          exact ⟨ha2, hx2⟩
        · refine ⟨fun w hw => ?_, (p4 y z).2⟩
          have k1 := hx2 b0 hb0
          have k2 := (p4 y z).1 b0 hb0
          have k3 := N_le_lt hc k1 k2
          exact N_lt_le hc (ha2 w hw) (by omega)
      · rcases List.mem_append.mp hy with z | z
        · exact hL.2 y z
        · rcases List.mem_cons.mp z with z | z
          · subst z
            exact q2 x List.mem_cons_self
          · exact q2 y (List.mem_cons_of_mem _ z)
/-- a part of a node is made anew -/
theorem N_seg (hc : v_T c) {h : Nat} {P Q T : List (N_i E (h + 1))} {u v y : N_i E (h + 1)} (hk : N_ok c (h + 1) (P ++ u :: v :: Q)) (hn : N_ne (h + 1) (P ++ u :: v :: Q)) (h1 : y.1 = u.1) (hT : N_ok c (h + 1) (y :: T)) (hy : ∃ b, b ∈ N_in (h + 1) y) (hm : ∀ b ∈ N_ins (h + 1) (y :: T), b ∈ N_in (h + 1) u ∨ b ∈ N_in (h + 1) v) : N_ok c (h + 1) (P ++ (y :: T ++ Q)) := by
  obtain ⟨q1, q2⟩ := (N_ok_s c).mp hk
  obtain ⟨p1, p2, p3⟩ := List.pairwise_append.mp q1
  obtain ⟨p4, p5⟩ := List.pairwise_cons.mp p2
  obtain ⟨p6, p7⟩ := List.pairwise_cons.mp p5
  obtain ⟨t1, t2⟩ := (N_ok_s c).mp hT
  obtain ⟨t3, t4⟩ := List.pairwise_cons.mp t1
  have huv := p4 v List.mem_cons_self
  have hum : ∃ b, b ∈ N_in (h + 1) u := hn u (by simp)
  -- marks of P and u against all entries of the part
  have hlo : ∀ p ∈ P, ∀ b, b ∈ N_in (h + 1) u ∨ b ∈ N_in (h + 1) v → c u.1 b ≤ 0 := fun p hp b hb => by
    have hpu := p3 p hp u List.mem_cons_self
    rcases hb with z | z
    · exact hpu.2 b z
    · have k1 := N_R_bd hc hum hpu huv
      have := N_lt_le hc k1 (huv.2 b z)
      omega
  have hhi : ∀ q ∈ Q, ∀ b, b ∈ N_in (h + 1) u ∨ b ∈ N_in (h + 1) v → c b q.1 < 0 := fun q hq b hb => by
    rcases hb with z | z
    · exact (p4 q (List.mem_cons_of_mem _ hq)).1 b z
    · exact (p6 q hq).1 b z
  refine (N_ok_s c).mpr ⟨List.pairwise_append.mpr ⟨p1, List.pairwise_append.mpr ⟨t1, p7, fun s hs q hq => ?_⟩, fun p hp s hs => ?_⟩, fun s hs => ?_⟩
  · exact ⟨fun b hb => hhi q hq b (hm b (N_mem_ins.mpr ⟨s, hs, hb⟩)), (p6 q hq).2⟩
  · rcases List.mem_append.mp hs with z | z
    · have hpu := p3 p hp u List.mem_cons_self
      rcases List.mem_cons.mp z with g | g
      · subst g
        unfold N_R
        rw [h1]
        exact ⟨hpu.1, fun b hb => hlo p hp b (hm b (N_mem_ins.mpr ⟨s, List.mem_cons_self, hb⟩))⟩
      · refine ⟨fun w hw => ?_, (t3 s g).2⟩
        obtain ⟨b0, hb0⟩ := hy
        have k1 := hlo p hp b0 (hm b0 (N_mem_ins.mpr ⟨y, List.mem_cons_self, hb0⟩))
        have k2 := (t3 s g).1 b0 hb0
        have k3 := N_le_lt hc k1 k2
        exact N_lt_le hc (hpu.1 w hw) (by omega)
    · exact p3 p hp s (List.mem_cons_of_mem _ (List.mem_cons_of_mem _ z))
  · rcases List.mem_append.mp hs with z | z
    · exact q2 s (List.mem_append_left _ z)
    · rcases List.mem_append.mp z with z | z
      · exact t2 s z
      · exact q2 s (List.mem_append_right _ (List.mem_cons_of_mem _ (List.mem_cons_of_mem _ z)))
theorem N_mk_2 (h : Nat) (m : E) (l : List (N_i E h)) : (N_mk h m l).2 = l := rfl
theorem N_mk_1 (h : Nat) (m : E) (l : List (N_i E h)) : (N_mk h m l).1 = m := rfl
/-- two neighbours u, v become one, or are made anew with others -/
def N_Y (c : E → E → Int) (h : Nat) (u v : N_i E (h + 1)) (S : List (N_i E (h + 1))) : Prop := ∃ y T, S = y :: T ∧ y.1 = u.1 ∧ N_ok c (h + 1) S ∧ N_ins (h + 1) S = N_in (h + 1) u ++ N_in (h + 1) v ∧ N_fl (h + 1) S ∧ 1 ≤ S.length ∧ S.length ≤ 2
theorem N_mg_Y (hc : v_T c) {h : Nat} {u v : N_i E (h + 1)} (hR : N_R c h u v) (hu : N_ok c h u.2) (hv : N_ok c h v.2) (fu : N_fl h u.2) (fv : N_fl h v.2) (hl1 : 4 ≤ u.2.length + v.2.length) (hl2 : u.2.length + v.2.length ≤ 8) : N_Y c h u v [N_mg h u v] := by
  refine ⟨_, [], rfl, rfl, ⟨List.pairwise_singleton _ _, fun x hx => ?_⟩, ?_, fun x hx => ?_, Nat.le_refl _, by simp⟩
  · have : x = N_mg h u v := List.mem_singleton.mp hx
    subst this
    exact N_app_ok hc hu hv (N_ne_fl fv) hR.1 hR.2
  · show N_ins h (u.2 ++ N_hd h v.1 v.2) ++ [] = _
    rw [List.append_nil, N_ins_app, N_hd_ins]
    rfl
  · have : x = N_mg h u v := List.mem_singleton.mp hx
    subst this
    show (4 ≤ (u.2 ++ N_hd h v.1 v.2).length ∧ (u.2 ++ N_hd h v.1 v.2).length ≤ 8) ∧ N_fl h (u.2 ++ N_hd h v.1 v.2)
    rw [List.length_append, N_hd_len]
    refine ⟨⟨hl1, hl2⟩, ?_⟩
    cases h with
    | zero => trivial
    | succ h => exact N_fl_app.mpr ⟨fu, N_hd_fl fv⟩
theorem N_bl_s {h : Nat} {u v : N_i E (h + 1)} {T : List (N_i E h)} {y : N_i E h} (hT : u.2 = T ++ [y]) : N_bl h u v = [N_mk h u.1 T, N_mk h (N_f h y) (y :: N_hd h v.1 v.2)] := by
  unfold N_bl
  rw [hT, List.getLast?_concat, List.dropLast_concat]
  rfl
theorem N_bl_Y (hc : v_T c) {h : Nat} {u v : N_i E (h + 1)} (hR : N_R c h u v) (hu : N_ok c h u.2) (hv : N_ok c h v.2) (fu : N_fl h u.2) (fv : N_fl h v.2) (hl1 : 4 < u.2.length) (hl2 : u.2.length ≤ 8) (hl3 : v.2.length = 3) : N_Y c h u v (N_bl h u v) := by
  have hne : u.2 ≠ [] := fun z => by rw [z, List.length_nil] at hl1; omega
  obtain ⟨T, y, hT⟩ : ∃ T y, u.2 = T ++ [y] := ⟨u.2.dropLast, u.2.getLast hne, (List.dropLast_concat_getLast hne).symm⟩
  rw [N_bl_s hT]
  have hlT := congrArg List.length hT
  rw [List.length_append, List.length_singleton] at hlT
  have hTn : T ≠ [] := fun z => by rw [z, List.length_nil] at hlT; omega
  have hk1 : N_ok c h (T ++ [y]) := hT ▸ hu
  have fk1 : N_fl h (T ++ [y]) := hT ▸ fu
  obtain ⟨m1, m2⟩ := N_mid hc hk1 (N_ne_fl fk1) hTn
  have hR1 : ∀ a ∈ N_ins h u.2, c a v.1 < 0 := hR.1
  have hR2 : ∀ b ∈ N_ins h v.2, c v.1 b ≤ 0 := hR.2
  rw [hT, N_ins_app] at hR1
  have hy1 : N_ins h [y] = N_in h y := by
    rw [N_ins_c, N_ins_n, List.append_nil]
  obtain ⟨b0, hb0⟩ := N_ne_fl fk1 y (List.mem_append_right _ List.mem_cons_self)
  have fy : N_fl h [y] := N_fl_sub (fun x hx => List.mem_append_right _ hx) fk1
  have hk2 : N_ok c h (y :: N_hd h v.1 v.2) := N_app_ok hc (L := [y]) (N_ok_sub (List.sublist_append_right _ _) hk1) hv (N_ne_fl fv) (fun a ha => hR1 a (List.mem_append_right _ ha)) hR2
  have fT : N_fl h T := N_fl_sub (fun x hx => List.mem_append_left _ hx) fk1
  have fY : N_fl h (y :: N_hd h v.1 v.2) := by
    cases h with
    | zero => trivial
    | succ h => exact N_fl_c.mpr ⟨(N_fl_c.mp fy).1, N_hd_fl fv⟩
  refine ⟨_, _, rfl, rfl, ⟨List.pairwise_cons.mpr ⟨fun z hz => ?_, List.pairwise_singleton _ _⟩, fun x hx => ?_⟩, ?_, fun x hx => ?_, by simp, by simp⟩
  · have : z = N_mk h (N_f h y) (y :: N_hd h v.1 v.2) := List.mem_singleton.mp hz
    subst this
    refine ⟨m1, fun b hb => ?_⟩
    have hb : b ∈ N_ins h (y :: N_hd h v.1 v.2) := hb
    rw [N_ins_c, N_hd_ins] at hb
    rcases List.mem_append.mp hb with g | g
    · exact m2 b (by rw [hy1]; exact g)
    · have k1 := m2 b0 (by rw [hy1]; exact hb0)
      have k2 := hR1 b0 (List.mem_append_right _ (by rw [hy1]; exact hb0))
      have k3 := N_le_lt hc k1 (N_lt_le hc k2 (hR2 b g))
      show c (N_f h y) b ≤ 0
      omega
  · rcases List.mem_cons.mp hx with g | g
    · subst g
      exact N_ok_sub (List.sublist_append_left _ _) hk1
    · have : x = N_mk h (N_f h y) (y :: N_hd h v.1 v.2) := List.mem_singleton.mp g
      subst this
      exact hk2
  · show N_ins h T ++ (N_ins h (y :: N_hd h v.1 v.2) ++ []) = N_ins h u.2 ++ N_ins h v.2
    rw [hT, N_ins_app, N_ins_c, N_hd_ins, hy1, List.append_nil, List.append_assoc]
  · rcases List.mem_cons.mp hx with g | g
    · subst g
      exact ⟨⟨by show 4 ≤ T.length; omega, by show T.length ≤ 8; omega⟩, fT⟩
    · have : x = N_mk h (N_f h y) (y :: N_hd h v.1 v.2) := List.mem_singleton.mp g
      subst this
      refine ⟨?_, fY⟩
      show 4 ≤ (y :: N_hd h v.1 v.2).length ∧ (y :: N_hd h v.1 v.2).length ≤ 8
      rw [List.length_cons, N_hd_len]
      omega
theorem N_br_s {h : Nat} {u v : N_i E (h + 1)} {y r0 : N_i E h} {r : List (N_i E h)} (hT : v.2 = y :: r0 :: r) : N_br h u v = [N_mk h u.1 (u.2 ++ [N_g h v.1 y]), N_mk h (N_f h r0) (r0 :: r)] := by
  unfold N_br
  rw [hT]
  rfl
theorem N_br_Y (hc : v_T c) {h : Nat} {u v : N_i E (h + 1)} (hR : N_R c h u v) (hu : N_ok c h u.2) (hv : N_ok c h v.2) (fu : N_fl h u.2) (fv : N_fl h v.2) (hl1 : 4 < v.2.length) (hl2 : v.2.length ≤ 8) (hl3 : u.2.length = 3) : N_Y c h u v (N_br h u v) := by
  obtain ⟨y, r0, r, hT⟩ : ∃ y r0 r, v.2 = y :: r0 :: r := by
    cases hv2 : v.2 with
    | nil => rw [hv2, List.length_nil] at hl1; omega
    | cons y t =>
      cases t with
      | nil => rw [hv2, List.length_singleton] at hl1; omega
      | cons r0 r => exact ⟨y, r0, r, rfl⟩
  rw [N_br_s hT]
  have hlT := congrArg List.length hT
  rw [List.length_cons, List.length_cons] at hlT
  have hk1 : N_ok c h ([y] ++ r0 :: r) := by
    rw [hT] at hv
    exact hv
  have fk1 : N_fl h ([y] ++ r0 :: r) := by
    rw [hT] at fv
    exact fv
  obtain ⟨m1, m2⟩ := N_mid hc hk1 (N_ne_fl fk1) (by simp)
  have hR1 : ∀ a ∈ N_ins h u.2, c a v.1 < 0 := hR.1
  have hR2 : ∀ b ∈ N_ins h v.2, c v.1 b ≤ 0 := hR.2
  rw [hT, N_ins_c] at hR2
  have hy1 : N_ins h [y] = N_in h y := by
    rw [N_ins_c, N_ins_n, List.append_nil]
  obtain ⟨b0, hb0⟩ := N_ne_fl fk1 y List.mem_cons_self
  have fy : N_fl h [y] := N_fl_sub (fun x hx => List.mem_append_left _ hx) fk1
  have fr : N_fl h (r0 :: r) := N_fl_sub (fun x hx => List.mem_append_right _ hx) fk1
  have hk2 : N_ok c h (u.2 ++ N_hd h v.1 [y]) := N_app_ok hc (l := [y]) hu (N_ok_sub (List.sublist_append_left _ _) hk1) (N_ne_fl fy) hR1 fun b hb => hR2 b (List.mem_append_left _ (by rw [hy1] at hb; exact hb))
  have fY : N_fl h (u.2 ++ N_hd h v.1 [y]) := by
    cases h with
    | zero => trivial
    | succ h => exact N_fl_app.mpr ⟨fu, N_hd_fl fy⟩
  have hin : N_ins h (u.2 ++ N_hd h v.1 [y]) = N_ins h u.2 ++ N_in h y := by rw [N_ins_app, N_hd_ins, hy1]
  refine ⟨_, _, rfl, rfl, ⟨List.pairwise_cons.mpr ⟨fun z hz => ?_, List.pairwise_singleton _ _⟩, fun x hx => ?_⟩, ?_, fun x hx => ?_, by simp, by simp⟩
  · have : z = N_mk h (N_f h r0) (r0 :: r) := List.mem_singleton.mp hz
    subst this
    refine ⟨fun b hb => ?_, m2⟩
    have hb : b ∈ N_ins h (u.2 ++ N_hd h v.1 [y]) := hb
    rw [hin] at hb
    rcases List.mem_append.mp hb with g | g
    · have k1 := hR1 b g
      have k2 := hR2 b0 (List.mem_append_left _ hb0)
      have k3 := m1 b0 (by rw [hy1]; exact hb0)
      exact N_lt_le hc (N_lt_le hc k1 k2) (by show c b0 (N_f h r0) ≤ 0; omega)
    · exact m1 b (by rw [hy1]; exact g)
  · rcases List.mem_cons.mp hx with g | g
    · subst g
      exact hk2
    · have : x = N_mk h (N_f h r0) (r0 :: r) := List.mem_singleton.mp g
      subst this
      exact N_ok_sub (List.sublist_append_right _ _) hk1
  · show N_ins h (u.2 ++ N_hd h v.1 [y]) ++ (N_ins h (r0 :: r) ++ []) = N_ins h u.2 ++ N_ins h v.2
    rw [hT, hin, List.append_nil, N_ins_c h y, List.append_assoc]
  · rcases List.mem_cons.mp hx with g | g
    · subst g
      refine ⟨?_, fY⟩
      show 4 ≤ (u.2 ++ N_hd h v.1 [y]).length ∧ (u.2 ++ N_hd h v.1 [y]).length ≤ 8
      rw [List.length_append, N_hd_len, List.length_singleton]
      omega
    · have : x = N_mk h (N_f h r0) (r0 :: r) := List.mem_singleton.mp g
      subst this
      refine ⟨?_, fr⟩
      show 4 ≤ (r0 :: r).length ∧ (r0 :: r).length ≤ 8
      rw [List.length_cons]
      omega
/-- how a child with too few is mended -/
theorem N_fix_cs {h : Nat} {A B : List (N_i E (h + 1))} {x : N_i E (h + 1)} (h2 : 2 ≤ (A ++ x :: B).length) : (4 ≤ x.2.length ∧ N_fix h A x B = A ++ x :: B) ∨ (x.2.length < 4 ∧ ((∃ A0 a, A = A0 ++ [a] ∧ 4 < a.2.length ∧ N_fix h A x B = A0 ++ (N_bl h a x ++ B)) ∨ (∃ b B0, B = b :: B0 ∧ 4 < b.2.length ∧ (∀ a, A.getLast? = some a → a.2.length ≤ 4) ∧ N_fix h A x B = A ++ (N_br h x b ++ B0)) ∨ (∃ A0 a, A = A0 ++ [a] ∧ a.2.length ≤ 4 ∧ (∀ b, B.head? = some b → b.2.length ≤ 4) ∧ N_fix h A x B = A0 ++ ([N_mg h a x] ++ B)) ∨ (∃ b B0, A = [] ∧ B = b :: B0 ∧ b.2.length ≤ 4 ∧ N_fix h A x B = A ++ ([N_mg h x b] ++ B0)))) := by
  unfold N_fix
  by_cases g : 4 ≤ x.2.length
  · rw [if_pos g]
    exact Or.inl ⟨g, rfl⟩
  · rw [if_neg g]
    refine Or.inr ⟨by omega, ?_⟩
    rcases List.eq_nil_or_concat A with hA | ⟨A0, a, hA⟩
    · subst hA
      cases B with
      | nil =>
        rw [List.nil_append, List.length_singleton] at h2
        omega
      | cons b B0 =>
        by_cases g2 : 4 < b.2.length
        · exact Or.inr (Or.inl ⟨b, B0, rfl, g2, fun a ha => absurd ha (by simp), by
            show (if 4 < b.2.length then N_br h x b ++ B0 else N_mg h x b :: B0) = _
            rw [if_pos g2]
            rfl⟩)
        · exact Or.inr (Or.inr (Or.inr ⟨b, B0, rfl, rfl, by omega, by
            show (if 4 < b.2.length then N_br h x b ++ B0 else N_mg h x b :: B0) = _
            rw [if_neg g2]
            rfl⟩))
    · have hA : A = A0 ++ [a] := by rw [hA]; simp
      subst hA
      rw [List.getLast?_concat, List.dropLast_concat]
      cases B with
      | nil =>
        by_cases g2 : 4 < a.2.length
        · exact Or.inl ⟨A0, a, rfl, g2, by
            show (if 4 < a.2.length then A0 ++ N_bl h a x else A0 ++ [N_mg h a x]) = _
            rw [if_pos g2, List.append_nil]⟩
        · exact Or.inr (Or.inr (Or.inl ⟨A0, a, rfl, by omega, fun b hb => absurd hb (by simp), by
            show (if 4 < a.2.length then A0 ++ N_bl h a x else A0 ++ [N_mg h a x]) = _
            rw [if_neg g2, List.append_nil]⟩))
      | cons b B0 =>
        by_cases g2 : 4 < a.2.length
        · exact Or.inl ⟨A0, a, rfl, g2, by
            show (if 4 < a.2.length then A0 ++ (N_bl h a x ++ b :: B0) else _) = _
            rw [if_pos g2]⟩
        · by_cases g3 : 4 < b.2.length
          · exact Or.inr (Or.inl ⟨b, B0, rfl, g3, fun a2 ha2 => by cases ha2; omega, by
              show (if 4 < a.2.length then A0 ++ (N_bl h a x ++ b :: B0) else if 4 < b.2.length then (A0 ++ [a]) ++ (N_br h x b ++ B0) else A0 ++ N_mg h a x :: b :: B0) = _
              rw [if_neg g2, if_pos g3]⟩)
          · exact Or.inr (Or.inr (Or.inl ⟨A0, a, rfl, by omega, fun b2 hb2 => by cases hb2; omega, by
              show (if 4 < a.2.length then A0 ++ (N_bl h a x ++ b :: B0) else if 4 < b.2.length then (A0 ++ [a]) ++ (N_br h x b ++ B0) else A0 ++ N_mg h a x :: b :: B0) = _
              rw [if_neg g2, if_neg g3]
              rfl⟩))
end NTG
