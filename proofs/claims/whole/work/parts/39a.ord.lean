/-! INTERVALS, PURE: how many there are -/
theorem D_c_eqv (e f : D_e) : D_c e f = if v_tcmp e.1 f.1 = 0 then (if v_tcmp e.2.1 f.2.1 = 0 then (if e.2.1 = 1 then v_cmp 61 e.2.2.2.1 e.2.2.2.2.2 f.2.2.2.1 f.2.2.2.2.2 else 0) else v_tcmp e.2.1 f.2.1) else v_tcmp e.1 f.1 := by
  unfold D_c
  by_cases g1 : e.1 < f.1
  · rw [if_pos g1, v_tcL g1, if_neg (by decide)]
  · rw [if_neg g1]
    by_cases g2 : f.1 < e.1
    · rw [if_pos g2, v_tcG g2, if_neg (by decide)]
    · rw [if_neg g2, if_pos (v_tc0.mpr (show e.1 = f.1 by omega))]
      by_cases g3 : e.2.1 < f.2.1
      · rw [if_pos g3, v_tcL g3, if_neg (by decide)]
      · rw [if_neg g3]
        by_cases g4 : f.2.1 < e.2.1
        · rw [if_pos g4, v_tcG g4, if_neg (by decide)]
        · rw [if_neg g4, if_pos (v_tc0.mpr (show e.2.1 = f.2.1 by omega))]
/-- both ends are alike, and in -/
def D_ptl (x : D_i) : Prop := D_c (D_lo x) (D_hi x) = 0 ∧ x.2.2.1 = true ∧ x.2.2.2.2 = true
def D_sm (x y : D_i) : Prop := D_c (D_lo x) (D_lo y) = 0
theorem D_eq2 {a b c : D_e} (h : D_c a c = 0) (h2 : D_c b c = 0) : D_c a b = 0 := by
  rw [D_c_T.cg h h2]
  exact D_c_T.rf c
theorem D_sm.s {x y : D_i} (h : D_sm x y) : D_sm y x := D_c_T.e0 h
theorem D_sm.t {x y z : D_i} (h : D_sm x y) (h2 : D_sm y z) : D_sm x z := D_eq2 h h2.s
theorem D_kp_le {x y : D_i} (h : D_kp x y = true) : D_c (D_one x y) (D_two x y) ≤ 0 ∧ (D_c (D_one x y) (D_two x y) = 0 → D_1in x y = true ∧ D_2in x y = true) := by
  unfold D_kp at h
  rw [Bool.or_eq_true, Bool.and_eq_true, Bool.and_eq_true, decide_eq_true_eq, decide_eq_true_eq] at h
  rcases h with h | ⟨h, h2⟩
  · exact ⟨by omega, fun g => by omega⟩
  · exact ⟨by omega, fun _ => h2⟩
theorem D_mt_in {a b : D_e} {x y : D_i} (hk : D_kp x y = true) (h1 : D_c a (D_one x y) ≤ 0) (h2 : D_c (D_two x y) b ≤ 0) (h : D_c a b = 0) : D_ptl (D_rs x y) ∧ D_c a (D_lo (D_rs x y)) = 0 := by
  obtain ⟨k1, k2⟩ := D_kp_le hk
  obtain ⟨e1, e2⟩ := D_rs_ends hk
  have h3 := D_c_T.t _ _ _ k1 h2
  obtain ⟨h4, h5⟩ := D_c_T.z h1 h3 h
  obtain ⟨h6, h7⟩ := D_c_T.z k1 h2 h5
  obtain ⟨f1, f2⟩ := k2 h6
  refine ⟨⟨by rw [e1, e2]; exact h6, f1, f2⟩, by rw [e1]; exact h4⟩
theorem D_mt_l {x y : D_i} (hx : D_ptl x) (hk : D_kp x y = true) : D_ptl (D_rs x y) ∧ D_sm x (D_rs x y) := by
  refine D_mt_in hk ?_ ?_ hx.1
  · unfold D_one
    split
    · omega
    · rw [D_c_T.rf]
      exact Int.le_refl 0
  · unfold D_two
    split
    · have := D_c_T.s (D_hi x) (D_hi y)
      omega
    · rw [D_c_T.rf]
      exact Int.le_refl 0
theorem D_mt_r {x y : D_i} (hy : D_ptl y) (hk : D_kp x y = true) : D_ptl (D_rs x y) ∧ D_sm y (D_rs x y) := by
  refine D_mt_in hk ?_ ?_ hy.1
  · unfold D_one
    split
    · rw [D_c_T.rf]
      exact Int.le_refl 0
    · have := D_c_T.s (D_lo x) (D_lo y)
      omega
  · unfold D_two
    split
    · rw [D_c_T.rf]
      exact Int.le_refl 0
    · omega
/-- a set of intervals as conditions make it: one at most, or values alone, no two the SAME; no rows -/
def D_Sh (X : List D_i) : Prop := (∀ x ∈ X, x.1 ≠ 5) ∧ (X.length ≤ 1 ∨ ((∀ x ∈ X, D_ptl x) ∧ X.Pairwise fun x y => ¬ D_sm x y))
theorem D_mt_len (x y : D_i) : (D_mt x y).length ≤ 1 := by
  unfold D_mt
  split
  · exact Nat.le_refl 1
  · exact Nat.zero_le 1
theorem D_mt_mem {x y z : D_i} (h : z ∈ D_mt x y) : D_kp x y = true ∧ z = D_rs x y := by
  unfold D_mt at h
  split at h
  · exact ⟨by assumption, List.mem_singleton.mp h⟩
  · exact absurd h (by simp)
/-- one at most of each, alike to it -/
theorem D_fm {α : Type} {f : α → List D_i} {rep : α → D_i} : ∀ L : List α, (L.Pairwise fun a b => ¬ D_sm (rep a) (rep b)) → (∀ a ∈ L, (f a).length ≤ 1 ∧ ∀ z ∈ f a, D_ptl z ∧ D_sm (rep a) z) → (L.flatMap f).length ≤ L.length ∧ (∀ z ∈ L.flatMap f, D_ptl z) ∧ (L.flatMap f).Pairwise fun x y => ¬ D_sm x y
  | [], _, _ => ⟨Nat.le_refl _, fun z hz => absurd hz (by simp), List.Pairwise.nil⟩
  | a :: L, hp, h => by
    obtain ⟨p1, p2⟩ := List.pairwise_cons.mp hp
    obtain ⟨i1, i2, i3⟩ := D_fm L p2 fun b hb => h b (List.mem_cons_of_mem _ hb)
    obtain ⟨a1, a2⟩ := h a List.mem_cons_self
    rw [List.flatMap_cons]
    refine ⟨?_, fun z hz => ?_, List.pairwise_append.mpr ⟨?_, i3, fun z hz w hw hs => ?_⟩⟩
    · rw [List.length_append, List.length_cons]
      omega
    · rcases List.mem_append.mp hz with g | g
      · exact (a2 z g).1
      · exact i2 z g
    · match hf : f a, a1 with
      | [], _ => exact List.Pairwise.nil
      | [z], _ => exact List.pairwise_singleton _ _
      | _ :: _ :: _, h9 => exact absurd h9 (by simp)
    · obtain ⟨b, hb, hwb⟩ := List.mem_flatMap.mp hw
      have h8 := (h b (List.mem_cons_of_mem _ hb)).2 w hwb
      exact p1 b hb (((a2 z hz).2.t hs).t h8.2.s)
theorem D_fm1 {f : D_i → List D_i} {x : D_i} : ∀ Y : List D_i, (Y.Pairwise fun a b => ¬ D_sm a b) → (∀ y ∈ Y, (f y).length ≤ 1 ∧ (f y ≠ [] → D_sm x y)) → (Y.flatMap f).length ≤ 1
  | [], _, _ => Nat.zero_le 1
  | y :: Y, hp, h => by
    obtain ⟨p1, p2⟩ := List.pairwise_cons.mp hp
    obtain ⟨a1, a2⟩ := h y List.mem_cons_self
    rw [List.flatMap_cons, List.length_append]
    by_cases g : f y = []
    · rw [g, List.length_nil, Nat.zero_add]
      exact D_fm1 Y p2 fun b hb => h b (List.mem_cons_of_mem _ hb)
    · have h0 : Y.flatMap f = [] := by
        rw [List.flatMap_eq_nil_iff]
        intro b hb
        apply Classical.byContradiction
        intro hn
        exact p1 b hb ((a2 g).s.t ((h b (List.mem_cons_of_mem _ hb)).2 hn))
      rw [h0, List.length_nil]
      omega
theorem D_mtr_mem {x z : D_i} {Y : List D_i} (h : z ∈ D_mtr x Y) : ∃ y ∈ Y, D_kp x y = true ∧ z = D_rs x y := by
  obtain ⟨y, hy, hz⟩ := List.mem_flatMap.mp h
  exact ⟨y, hy, D_mt_mem hz⟩
theorem D_Sh_mts {X Y : List D_i} (hX : D_Sh X) (hY : D_Sh Y) : D_Sh (D_mts X Y) ∧ ((D_mts X Y).length ≤ X.length ∨ (D_mts X Y).length ≤ Y.length) := by
  have h5 : ∀ z ∈ D_mts X Y, z.1 ≠ 5 := fun z hz => by
    obtain ⟨x, hx, h2⟩ := List.mem_flatMap.mp hz
    obtain ⟨y, hy, -, e⟩ := D_mtr_mem h2
    rw [e]
    exact hX.1 x hx
  rcases hX.2 with h1 | ⟨h1, h2⟩
  · match X, h1 with
    | [], _ => exact ⟨⟨h5, Or.inl (Nat.zero_le 1)⟩, Or.inl (Nat.le_refl _)⟩
    | [x], _ =>
      rw [D_mts_1] at h5 ⊢
      rcases hY.2 with k1 | ⟨k1, k2⟩
      · match Y, k1 with
        | [], _ => exact ⟨⟨h5, Or.inl (Nat.zero_le 1)⟩, Or.inr (Nat.le_refl _)⟩
        | [y], _ =>
          rw [D_mtr_1] at h5 ⊢
          exact ⟨⟨h5, Or.inl (D_mt_len x y)⟩, Or.inr (D_mt_len x y)⟩
      · obtain ⟨a1, a2, a3⟩ := D_fm (f := D_mt x) (rep := fun y => y) Y k2 fun y hy => ⟨D_mt_len x y, fun z hz => by
          obtain ⟨b1, b2⟩ := D_mt_mem hz
          rw [b2]
          exact D_mt_r (k1 y hy) b1⟩
        exact ⟨⟨h5, Or.inr ⟨a2, a3⟩⟩, Or.inr a1⟩
  · obtain ⟨a1, a2, a3⟩ := D_fm (f := fun x => D_mtr x Y) (rep := fun x => x) X h2 fun x hx => ⟨by
      rcases hY.2 with k1 | ⟨k1, k2⟩
      · match Y, k1 with
        | [], _ => exact Nat.zero_le 1
        | [y], _ =>
          rw [D_mtr_1]
          exact D_mt_len x y
      · refine D_fm1 (f := D_mt x) (x := x) Y k2 fun y hy => ⟨D_mt_len x y, fun hn => ?_⟩
        have hk : D_kp x y = true := by
          apply Classical.byContradiction
          intro g
          exact hn (if_neg g)
        exact (D_mt_l (h1 x hx) hk).2.t (D_mt_r (k1 y hy) hk).2.s, fun z hz => by
      obtain ⟨y, hy, hk, e⟩ := D_mtr_mem hz
      rw [e]
      exact D_mt_l (h1 x hx) hk⟩
    exact ⟨⟨h5, Or.inr ⟨a2, a3⟩⟩, Or.inl a1⟩
/-- what the conditions of a filter make: such a set, perhaps all rows too -/
def D_Fl (N : Nat) (A : List D_i) : Prop := ∃ X R, A = X ++ R ∧ D_Sh X ∧ X.length ≤ N ∧ (R = [] ∨ R = [D_row])
theorem D_Fl.len {N : Nat} {A : List D_i} (h : D_Fl N A) : A.length ≤ N + 1 := by
  obtain ⟨X, R, e, -, h1, h2⟩ := h
  rw [e, List.length_append]
  rcases h2 with h2 | h2
  · rw [h2, List.length_nil]
    omega
  · rw [h2, List.length_singleton]
    omega
theorem D_mtr_0 {x : D_i} {Y : List D_i} (h : ∀ y ∈ Y, x.1 ≠ y.1) : D_mtr x Y = [] := by
  unfold D_mtr
  rw [List.flatMap_eq_nil_iff]
  intro y hy
  unfold D_mt
  rw [if_neg fun g => h y hy (D_kp_cl g)]
theorem D_row_row : D_mts [D_row] [D_row] = [D_row] := by
  have h1 : D_c (D_lo D_row) (D_lo D_row) = 0 := D_c_T.rf _
  have h2 : D_c (D_hi D_row) (D_hi D_row) = 0 := D_c_T.rf _
  have h3 : D_c (D_lo D_row) (D_hi D_row) = -1 := by
    unfold D_c
    rw [if_neg (by decide), if_neg (by decide), if_pos (by decide)]
  have h4 : D_one D_row D_row = D_lo D_row := by
    unfold D_one
    rw [h1]
    rfl
  have h5 : D_two D_row D_row = D_hi D_row := by
    unfold D_two
    rw [h2]
    rfl
  have hk : D_kp D_row D_row = true := by
    unfold D_kp
    rw [h4, h5, h3]
    rfl
  have hr : D_rs D_row D_row = D_row := by
    unfold D_rs D_1in D_2in
    rw [h1, h2]
    rfl
  rw [D_mts_1, D_mtr_1]
  unfold D_mt
  rw [if_pos hk, hr]
theorem D_mts_0 {X R : List D_i} (h : ∀ x ∈ X, x.1 ≠ 5) (hR : R = [] ∨ R = [D_row]) (Y : List D_i) : D_mts X (Y ++ R) = D_mts X Y := by
  unfold D_mts
  induction X with
  | nil => rfl
  | cons x X ih =>
    rw [List.flatMap_cons, List.flatMap_cons, ih fun y hy => h y (List.mem_cons_of_mem _ hy), D_mtr_app]
    have h9 : D_mtr x R = [] := D_mtr_0 fun y hy => by
      rcases hR with e | e
      · rw [e] at hy
        exact absurd hy (by simp)
      · rw [e] at hy
        rw [List.mem_singleton.mp hy]
        exact h x List.mem_cons_self
    rw [h9, List.append_nil]
theorem D_Fl.mts {N : Nat} {A B : List D_i} (hA : D_Fl N A) (hB : D_Fl N B) : D_Fl N (D_mts A B) := by
  obtain ⟨X, R, e1, x1, x2, x3⟩ := hA
  obtain ⟨Y, S, e2, y1, y2, y3⟩ := hB
  obtain ⟨k1, k2⟩ := D_Sh_mts x1 y1
  refine ⟨D_mts X Y, D_mts R S, ?_, k1, by omega, ?_⟩
  · rw [e1, e2, D_mts_app, D_mts_0 x1.1 y3]
    congr 1
    rcases x3 with e | e
    · rw [e]
      rfl
    · rw [e, D_mts_1, D_mts_1, D_mtr_app, D_mtr_0 (Y := Y) fun y hy => (y1.1 y hy).symm, List.nil_append]
  · rcases x3 with e | e
    · rw [e]
      exact Or.inl rfl
    · rcases y3 with e2 | e2
      · rw [e, e2]
        exact Or.inl rfl
      · rw [e, e2]
        exact Or.inr D_row_row
/-! what one condition makes -/
theorem D_pt_ptl (y : Int × b_E) : D_ptl (D_pt y) := ⟨D_c_T.rf _, rfl, rfl⟩
theorem D_pt_sm {y z : Int × b_E} (h : D_sm (D_pt y) (D_pt z)) : F_eq y.2 z.2 = true := by
  unfold F_eq
  rw [decide_eq_true_eq]
  have h2 : D_c (b_cl y.2.1, 1, y) (b_cl z.2.1, 1, z) = 0 := h
  rw [D_c_eqv] at h2
  by_cases g : v_tcmp (b_cl y.2.1) (b_cl z.2.1) = 0
  · rw [if_pos g, if_pos (show v_tcmp 1 1 = 0 from v_tc0.mpr rfl), if_pos rfl] at h2
    exact h2
  · rw [if_neg g] at h2
    exact absurd h2 g
theorem D_ap_pw {P : List (Int × b_E)} (y : Int × b_E) (h : P.Pairwise fun a b => ¬ D_sm (D_pt a) (D_pt b)) : (D_ap P y).Pairwise fun a b => ¬ D_sm (D_pt a) (D_pt b) := by
  unfold D_ap
  split
  · exact h
  · rename_i g
    refine List.pairwise_append.mpr ⟨h, List.pairwise_singleton _ _, fun a ha b hb hs => ?_⟩
    rw [List.mem_singleton.mp hb] at hs
    exact g (List.any_eq_true.mpr ⟨a, ha, D_pt_sm hs⟩)
theorem D_aps_pw (l : List (Int × b_E)) : ∀ P : List (Int × b_E), (P.Pairwise fun a b => ¬ D_sm (D_pt a) (D_pt b)) → (D_aps P l).Pairwise fun a b => ¬ D_sm (D_pt a) (D_pt b) := by
  induction l with
  | nil => exact fun P h => h
  | cons y l ih => exact fun P h => ih _ (D_ap_pw y h)
theorem b_cl_5 {k : Int} (h : k ≠ 4) : b_cl k ≠ 5 := by
  unfold b_cl
  rw [if_neg h]
  split
  · decide
  · split
    · decide
    · split
      · decide
      · split <;> decide
theorem D_bo_Sh {al : Bool} {y : Int × b_E} {P : List D_i} {N : Nat} (h : D_bo al y = some P) (h1 : 1 ≤ N) (hN : D_k al y = 3 → (L_ch y.1 y.2).length ≤ N) : D_Sh P ∧ P.length ≤ N := by
  have one : ∀ x : D_i, x.1 ≠ 5 → D_Sh [x] ∧ ([x] : List D_i).length ≤ N := fun x hx => ⟨⟨fun z hz => by rw [List.mem_singleton.mp hz]; exact hx, Or.inl (Nat.le_refl 1)⟩, h1⟩
  have nil : D_Sh [] ∧ ([] : List D_i).length ≤ N := ⟨⟨fun z hz => absurd hz (by simp), Or.inl (Nat.zero_le 1)⟩, Nat.zero_le N⟩
  unfold D_bo at h
  by_cases g3 : D_k al y = 3
  · rw [if_pos g3] at h
    split at h
    · exact absurd h (by simp)
    · rename_i ha
      have h := Option.some.inj h
      obtain ⟨l1, l2⟩ := D_aps_len (L_ch y.1 y.2) []
      rw [← h]
      refine ⟨⟨fun x hx => ?_, Or.inr ⟨fun x hx => ?_, ?_⟩⟩, ?_⟩
      · obtain ⟨z, hz, rfl⟩ := List.mem_map.mp hx
        rcases l2 z hz with g | g
        · exact absurd g (by simp)
        · refine b_cl_5 fun g4 => ha (List.any_eq_true.mpr ⟨z, g, ?_⟩)
          rw [decide_eq_true_eq]
          exact g4
      · obtain ⟨z, hz, rfl⟩ := List.mem_map.mp hx
        exact D_pt_ptl z
      · rw [List.pairwise_map]
        exact D_aps_pw _ _ List.Pairwise.nil
      · rw [List.length_map]
        have := hN g3
        rw [List.length_nil] at l1
        omega
  · rw [if_neg g3] at h
    by_cases g4 : y.2.1 = 4
    · rw [if_pos g4] at h
      exact absurd h (by simp)
    · rw [if_neg g4] at h
      have hc := b_cl_5 g4
      split at h
      · rw [← Option.some.inj h]
        exact one _ hc
      · split at h
        · rw [← Option.some.inj h]
          split
          · split
            · exact one _ hc
            · exact nil
          · exact one _ hc
        · split at h
          · rw [← Option.some.inj h]
            split
            · split
              · exact one _ hc
              · exact nil
            · exact one _ hc
          · exact absurd h (by simp)
theorem D_els_Sh {N : Nat} (h1 : 1 ≤ N) : ∀ (l : List (Int × b_E)) (s : Option (List D_i)), (∀ A, s = some A → D_Sh A ∧ A.length ≤ N) → (∀ f ∈ l, F_cd f.2.2.1 = 3 → (L_ch f.1 f.2).length ≤ N) → ∀ A, D_els s l = some A → D_Sh A ∧ A.length ≤ N
  | [], s, hs, _, A, h => hs A h
  | f :: l, s, hs, hN, A, h => by
    refine D_els_Sh h1 l (D_el s f) (fun A2 hA2 => ?_) (fun g hg => hN g (List.mem_cons_of_mem _ hg)) A h
    unfold D_el at hA2
    cases hb : D_bo false f with
    | none =>
      rw [hb] at hA2
      exact hs A2 hA2
    | some P =>
      rw [hb] at hA2
      obtain ⟨p1, p2⟩ := D_bo_Sh (N := N) hb h1 fun g => hN f List.mem_cons_self g
      cases s with
      | none =>
        rw [← Option.some.inj (show some P = some A2 from hA2)]
        exact ⟨p1, p2⟩
      | some A0 =>
        obtain ⟨q1, q2⟩ := hs A0 rfl
        rw [← Option.some.inj (show some (D_mts A0 P) = some A2 from hA2)]
        obtain ⟨k1, k2⟩ := D_Sh_mts q1 p1
        exact ⟨k1, by omega⟩
/-- how great the rows of values are that a condition looks at -/
def D_Nz (N : Nat) (al : Bool) (y : Int × b_E) : Prop := (D_k al y = 3 → (L_ch y.1 y.2).length ≤ N) ∧ (al = false → F_cd y.2.2.1 = 11 → F_ci y.2 = true → ∀ f ∈ L_ch y.1 y.2, F_cd f.2.2.1 = 3 → (L_ch f.1 f.2).length ≤ N)
theorem D_ba_Fl {N : Nat} {al : Bool} {y : Int × b_E} {P : List D_i} (h : D_ba al y = some P) (h1 : 1 ≤ N) (hN : D_Nz N al y) : D_Fl N P := by
  unfold D_ba at h
  by_cases g : al = true ∨ ¬ F_cd y.2.2.1 = 11
  · rw [if_pos g] at h
    obtain ⟨p1, p2⟩ := D_bo_Sh h h1 hN.1
    exact ⟨P, [], (List.append_nil P).symm, p1, p2, Or.inl rfl⟩
  · rw [if_neg g] at h
    have ga : al = false := by
      cases al
      · rfl
      · exact absurd (Or.inl rfl) g
    have g11 : F_cd y.2.2.1 = 11 := Classical.byContradiction fun z => g (Or.inr z)
    split at h
    · rename_i gci
      obtain ⟨A, hA, e⟩ := Option.map_eq_some_iff.mp h
      obtain ⟨p1, p2⟩ := D_els_Sh h1 _ none (fun A hA => absurd hA (by simp)) (hN.2 ga g11 gci) A hA
      exact ⟨A, [D_row], e.symm, p1, p2, Or.inr rfl⟩
    · exact absurd h (by simp)
theorem D_als_Fl {N : Nat} (h1 : 1 ≤ N) : ∀ (l : List (Bool × (Int × b_E))) (s : Option (List D_i)), (∀ A, s = some A → D_Fl N A) → (∀ z ∈ l, D_Nz N z.1 z.2) → ∀ A, D_als s l = some A → D_Fl N A
  | [], s, hs, _, A, h => hs A h
  | f :: l, s, hs, hN, A, h => by
    refine D_als_Fl h1 l (D_al s f) (fun A2 hA2 => ?_) (fun g hg => hN g (List.mem_cons_of_mem _ hg)) A h
    unfold D_al at hA2
    cases hb : D_ba f.1 f.2 with
    | none =>
      rw [hb] at hA2
      exact hs A2 hA2
    | some P =>
      rw [hb] at hA2
      have p1 := D_ba_Fl (N := N) hb h1 (hN f List.mem_cons_self)
      cases s with
      | none =>
        rw [← Option.some.inj (show some P = some A2 from hA2)]
        exact p1
      | some A0 =>
        rw [← Option.some.inj (show some (D_mts A0 P) = some A2 from hA2)]
        exact (hs A0 rfl).mts p1
theorem D_bd_Fl {N : Nat} {mn : Bool} {S : List (Bool × (Int × b_E))} {P : List D_i} (h1 : 1 ≤ N) (hN : ∀ z ∈ S, D_Nz N z.1 z.2) (h : D_bd mn S = some P) : D_Fl N P := by
  unfold D_bd at h
  split at h
  · unfold D_mny at h
    cases hm : D_m1 S with
    | none =>
      rw [hm] at h
      obtain ⟨z, hz, e⟩ := D_m2_ba S h
      exact D_ba_Fl e h1 (hN z hz)
    | some Q =>
      rw [hm] at h
      obtain ⟨z, hz, e⟩ := D_m1_ba S hm
      rw [← Option.some.inj (show some Q = some P from h)]
      exact D_ba_Fl e h1 (hN z hz)
  · exact D_als_Fl h1 S none (fun A hA => absurd hA (by simp)) hN P h
