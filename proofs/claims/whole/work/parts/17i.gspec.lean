/-! STAGES: $group: what it makes -/
noncomputable def G_cd (nm : List Int) : Int := if nm = b_tx 49 then 1 else if nm = b_tx 50 then 2 else if nm = b_tx 51 then 3 else if nm = b_tx 52 then 4 else if nm = b_tx 53 then 5 else if nm = b_tx 54 then 6 else if nm = b_tx 55 then 7 else if nm = b_tx 56 then 8 else 0
noncomputable def G_ac (a : b_E) : Bool := (G_cd a.2.1 != 0) && (G_cd a.2.1 != 1 || a.1 == 10)
noncomputable def G_gx (a : b_E) (r : Int) : Int := if G_ac a = true then (if S_ef a = true then 3 else r) else 2
noncomputable def G_m1 (l : List b_E) (r : Int) : Int := match l with
    | [a] => G_gx a r
    | _ => 2
noncomputable def G_g1 (x : b_E) (r : Int) : Int := if S_pl x.2.1 = true ∧ x.1 = 3 then G_m1 (b_ch x.2.2) r else 2
noncomputable def G_gfL : List b_E → Int
  | [] => 0
  | x :: r => G_g1 x (G_gfL r)
noncomputable def G_gf (e : b_E) : Int := if e.1 = 3 then (match b_ch e.2.2 with
    | [] => 2
    | y :: r => if y.2.1 = b_tx 48 then (if S_ef y = true then 3 else G_gfL r) else 2) else 2
theorem F_eq_rf (x : b_E) : F_eq x x = true := decide_eq_true ((v_vc_T 61).rf (x.1, x.2.2))
theorem F_eq_sy {x y : b_E} (h : F_eq x y = true) : F_eq y x = true := decide_eq_true ((v_vc_T 61).e0 (x := (x.1, x.2.2)) (y := (y.1, y.2.2)) (of_decide_eq_true h))
theorem F_eq_tr {x y z : b_E} (h : F_eq x y = true) (h2 : F_eq y z = true) : F_eq x z = true := by
  have h1 : v_vc 61 (x.1, x.2.2) (y.1, y.2.2) = 0 := of_decide_eq_true h
  have h3 : v_vc 61 (y.1, y.2.2) (z.1, z.2.2) = 0 := of_decide_eq_true h2
  have h4 := (v_vc_T 61).cg h1 ((v_vc_T 61).rf (z.1, z.2.2))
  exact decide_eq_true (show v_vc 61 (x.1, x.2.2) (z.1, z.2.2) = 0 by rw [h4]; exact h3)
noncomputable def G_kv (n : Nat) (y : b_E) (es : List b_E) : b_E := J_v (V_of n y es)
noncomputable def G_sm (n : Nat) (y : b_E) (es ez : List b_E) : Bool := F_eq (G_kv n y es) (G_kv n y ez)
/-- the first document of the group of the i-th -/
noncomputable def G_f (n : Nat) (y : b_E) (ds : List (List b_E)) (i : Nat) : Nat := ((List.range i).find? fun k => G_sm n y (ds.getD k []) (ds.getD i [])).getD i
section GF
variable {n : Nat} {y : b_E} {ds : List (List b_E)} {i k : Nat}
theorem G_f_eq (hk : k ≤ i) (h1 : G_sm n y (ds.getD k []) (ds.getD i []) = true) (h2 : ∀ j, j < k → G_sm n y (ds.getD j []) (ds.getD i []) = false) : G_f n y ds i = k := by
  unfold G_f
  rcases hf : (List.range i).find? (fun k => G_sm n y (ds.getD k []) (ds.getD i [])) with _ | j
  · rw [List.find?_eq_none] at hf
    rcases Nat.lt_or_ge k i with g | g
    · exact absurd h1 (hf k (List.mem_range.mpr g))
    · exact (Nat.le_antisymm hk g).symm
  · have hj1 := List.find?_some hf
    have hj2 := List.mem_range.mp (List.mem_of_find?_eq_some hf)
    show j = k
    rcases Nat.lt_trichotomy j k with g | g | g
    · rw [h2 j g] at hj1
      exact absurd hj1 (by decide)
    · exact g
    · -- an earlier one would have been found
      have := List.find?_range_eq_some.mp hf
      have h9 := this.2.2 k g
      rw [h1] at h9
      exact absurd h9 (by decide)
theorem G_f_sp (n : Nat) (y : b_E) (ds : List (List b_E)) (i : Nat) : G_f n y ds i ≤ i ∧ G_sm n y (ds.getD (G_f n y ds i) []) (ds.getD i []) = true ∧ ∀ j, j < G_f n y ds i → G_sm n y (ds.getD j []) (ds.getD i []) = false := by
  unfold G_f
  rcases hf : (List.range i).find? (fun k => G_sm n y (ds.getD k []) (ds.getD i [])) with _ | j
  · rw [List.find?_eq_none] at hf
    refine ⟨Nat.le_refl _, F_eq_rf _, fun j hj => ?_⟩
    have := hf j (List.mem_range.mpr hj)
    simpa using this
  · have hj1 := List.find?_some hf
    have hj2 := List.mem_range.mp (List.mem_of_find?_eq_some hf)
    have := List.find?_range_eq_some.mp hf
    refine ⟨Nat.le_of_lt hj2, hj1, fun m hm => ?_⟩
    have h9 := this.2.2 m hm
    simpa using h9
/-- who stands first stands first of himself -/
theorem G_f_ff (n : Nat) (y : b_E) (ds : List (List b_E)) (i : Nat) : G_f n y ds (G_f n y ds i) = G_f n y ds i := by
  obtain ⟨h1, h2, h3⟩ := G_f_sp n y ds i
  refine G_f_eq (Nat.le_refl _) (F_eq_rf _) fun j hj => ?_
  have h4 := h3 j hj
  rcases hb : G_sm n y (ds.getD j []) (ds.getD (G_f n y ds i) []) with _ | _
  · rfl
  · have h5 : G_sm n y (ds.getD j []) (ds.getD i []) = true := F_eq_tr hb h2
    rw [h4] at h5
    exact absurd h5 (by decide)
end GF
noncomputable def G_ms (n : Nat) (y : b_E) (ds : List (List b_E)) (i : Nat) : List (List b_E) := ((List.range ds.length).filter fun m => G_f n y ds m == i).map fun m => ds.getD m []
noncomputable def G_ld (n : Nat) (y : b_E) (ds : List (List b_E)) : List Nat := (List.range ds.length).filter fun m => G_f n y ds m == m
/-- a sum -/
noncomputable def G_tm (o : Option b_E) : Int := match o with
    | some w => if w.1 = 16 ∨ w.1 = 18 then (v_num w.1 w.2.2).toInt else 0
    | none => 0
noncomputable def G_z (l : List (Option b_E)) : Int := (l.map G_tm).sum
def G_over (z : Int) : Prop := z < -9223372036854775808 ∨ 9223372036854775807 < z
/-- the greatest (1), the least (-1), the first of the same -/
noncomputable def G_bt (w : Int) (best : Option b_E) : Option b_E → Option b_E
  | none => best
  | some y => match best with
    | none => some y
    | some z => if w * v_cmp 61 y.1 y.2.2 z.1 z.2.2 > 0 then some y else some z
noncomputable def G_ext (w : Int) (l : List (Option b_E)) : Option b_E := l.foldl (G_bt w) none
def G_row : Nat → List b_E → List b_E
  | _, [] => []
  | i, y :: r => (y.1, b_dg i, y.2.2) :: G_row (i + 1) r
/-- the values of a row; with once: no value twice -/
noncomputable def G_st (once : Bool) : List b_E → List (Option b_E) → List b_E
  | _, [] => []
  | pre, none :: r => G_st once pre r
  | pre, some y :: r => if once = true ∧ (pre.any fun z => F_eq z y) = true then G_st once (pre ++ [y]) r else y :: G_st once (pre ++ [y]) r
noncomputable def G_1 (x : b_E) (o : Option b_E) : b_E := ((J_v o).1, x.2.1, (J_v o).2.2)
noncomputable def G_a (x : b_E) : b_E := (b_ch x.2.2).headD (10, [], [])
noncomputable def G_vs (n : Nat) (x : b_E) (ms : List (List b_E)) : List (Option b_E) := ms.map (V_of n (G_a x))
noncomputable def G_w (x : b_E) (vs : List (Option b_E)) : b_E :=
  if G_cd (G_a x).2.1 = 1 then (18, x.2.1, b_le8 (Int64.ofInt vs.length)) else
  if G_cd (G_a x).2.1 = 2 then (18, x.2.1, b_le8 (Int64.ofInt (G_z vs))) else
  if G_cd (G_a x).2.1 = 3 then G_1 x (G_ext (-1) vs) else
  if G_cd (G_a x).2.1 = 4 then G_1 x (G_ext 1 vs) else
  if G_cd (G_a x).2.1 = 5 then G_1 x (vs.headD none) else
  if G_cd (G_a x).2.1 = 6 then G_1 x (vs.getLastD none) else
  (4, x.2.1, b_doc (G_row 0 (G_st (G_cd (G_a x).2.1 == 8) [] vs)))
noncomputable def G_el (n : Nat) (ms : List (List b_E)) (x : b_E) : b_E := G_w x (G_vs n x ms)
noncomputable def G_by (n : Nat) (y : b_E) (es : List b_E) : b_E := ((G_kv n y es).1, b_tx 48, (G_kv n y es).2.2)
noncomputable def G_doc (n : Nat) (y : b_E) (xs : List b_E) (ds : List (List b_E)) (i : Nat) : List b_E := G_by n y (ds.getD i []) :: xs.map (G_el n (G_ms n y ds i))
noncomputable def G_mk (n : Nat) (y : b_E) (xs : List b_E) (ds : List (List b_E)) : List (List b_E) := (G_ld n y ds).map (G_doc n y xs ds)
/-- some sum is none of 64 bits -/
def G_tb (n : Nat) (y : b_E) (xs : List b_E) (ds : List (List b_E)) : Prop := ∃ i ∈ G_ld n y ds, ∃ x ∈ xs, G_cd (G_a x).2.1 = 2 ∧ G_over (G_z (G_vs n x (G_ms n y ds i)))
/-- what is made is good -/
theorem V_of_gd {n D : Nat} {e : b_E} {es : List b_E} {y : b_E} (hD : D ≤ 30) (hes : X_gd D es) (he : b_gv D e.1 e.2.2) (hel : e.2.2.length ≤ 2100) (hl : (b_ser es).length ≤ 2000) (h : V_of n e es = some y) : b_gv D y.1 y.2.2 ∧ y.2.2.length ≤ 2100 ∧ (S_dol e = true → y.2.2.length + 2 ≤ (b_ser es).length) := by
  unfold V_of at h
  by_cases hd : S_dol e = true
  · rw [if_pos hd] at h
    obtain ⟨z, hz, hzy⟩ := Option.map_eq_some_iff.mp h
    obtain ⟨a1, a2, a3, a4, -⟩ := V_res_good _ D es z hes (by omega) hz
    obtain ⟨c1, c2, c3⟩ := V_at_good (n := n) a1 a2 a4 (by omega)
    rw [hzy] at c2 c3
    exact ⟨c2, by omega, fun _ => by omega⟩
  · rw [if_neg hd] at h
    rw [← Option.some.inj h]
    exact ⟨he, hel, fun z => absurd z hd⟩
def G_good (o : Option b_E) : Prop := ∀ y, o = some y → b_gv 16 y.1 y.2.2 ∧ y.2.2.length ≤ 2100
theorem G_good.J {o : Option b_E} (h : G_good o) : b_gv 16 (J_v o).1 (J_v o).2.2 ∧ (J_v o).2.2.length ≤ 2100 := by
  rcases o with _ | y
  · exact ⟨b_gv_no 16, Nat.zero_le _⟩
  · exact h y rfl
theorem G_row_at : ∀ (l : List b_E) (i j : Nat) (e : b_E), (G_row i l)[j]? = some e → ∃ y, y ∈ l ∧ e = (y.1, b_dg (i + j), y.2.2) ∧ j < l.length := by
  intro l
  induction l with
  | nil => exact fun i j e h => absurd h (by simp [G_row])
  | cons a l ih =>
    intro i j e h
    cases j with
    | zero => exact ⟨a, List.mem_cons_self, (Option.some.inj h).symm, by simp⟩
    | succ j =>
      obtain ⟨d, h1, h2, h3⟩ := ih (i + 1) j e h
      exact ⟨d, List.mem_cons_of_mem _ h1, by rw [h2, show i + 1 + j = i + (j + 1) by omega], by rw [List.length_cons]; omega⟩
theorem G_row_snoc : ∀ (l : List b_E) (i : Nat) (d : b_E), G_row i (l ++ [d]) = G_row i l ++ [(d.1, b_dg (i + l.length), d.2.2)] := by
  intro l
  induction l with
  | nil => exact fun i d => rfl
  | cons a l ih =>
    intro i d
    show (a.1, b_dg i, a.2.2) :: G_row (i + 1) (l ++ [d]) = (a.1, b_dg i, a.2.2) :: (G_row (i + 1) l ++ [(d.1, b_dg (i + (l.length + 1)), d.2.2)])
    rw [ih, show i + 1 + l.length = i + (l.length + 1) by omega]
theorem G_row_ser : ∀ (l : List b_E) (i : Nat), (∀ y ∈ l, y.2.2.length ≤ 2100) → (b_ser (G_row i l)).length ≤ 2106 * l.length := by
  intro l
  induction l with
  | nil => exact fun _ _ => Nat.le_refl _
  | cons a l ih =>
    intro i h
    have h1 := ih (i + 1) fun d hd => h d (List.mem_cons_of_mem _ hd)
    have h2 := h a List.mem_cons_self
    have h3 := b_dg_len i
    show (b_el a.1 (b_dg i) a.2.2 ++ b_ser (G_row (i + 1) l)).length ≤ _
    rw [List.length_append, b_el_len, List.length_cons]
    omega
theorem G_st_mem {once : Bool} : ∀ (l : List (Option b_E)) (pre : List b_E) (y : b_E), y ∈ G_st once pre l → some y ∈ l := by
  intro l
  induction l with
  | nil => exact fun pre y h => absurd h (by simp [G_st])
  | cons o l ih =>
    intro pre y h
    rcases o with _ | z
    · exact List.mem_cons_of_mem _ (ih pre y h)
    · unfold G_st at h
      split at h
      · exact List.mem_cons_of_mem _ (ih _ y h)
      · rcases List.mem_cons.mp h with h | h
        · rw [h]
          exact List.mem_cons_self
        · exact List.mem_cons_of_mem _ (ih _ y h)
theorem G_st_len {once : Bool} : ∀ (l : List (Option b_E)) (pre : List b_E), (G_st once pre l).length ≤ l.length := by
  intro l
  induction l with
  | nil => exact fun pre => Nat.le_refl _
  | cons o l ih =>
    intro pre
    rcases o with _ | z
    · have := ih pre
      rw [List.length_cons]
      exact Nat.le_succ_of_le this
    · unfold G_st
      split
      · have := ih (pre ++ [z])
        rw [List.length_cons]
        omega
      · have := ih (pre ++ [z])
        rw [List.length_cons, List.length_cons]
        omega
theorem G_ext_mem {w : Int} : ∀ (l : List (Option b_E)) (b0 y : b_E) , (l.foldl (G_bt w) (some b0) = some y → y = b0 ∨ some y ∈ l) := by
  intro l
  induction l with
  | nil => exact fun b0 y h => Or.inl (Option.some.inj h).symm
  | cons o l ih =>
    intro b0 y h
    rw [List.foldl_cons] at h
    rcases o with _ | z
    · rcases ih b0 y h with g | g
      · exact Or.inl g
      · exact Or.inr (List.mem_cons_of_mem _ g)
    · have hb : G_bt w (some b0) (some z) = if w * v_cmp 61 z.1 z.2.2 b0.1 b0.2.2 > 0 then some z else some b0 := rfl
      rw [hb] at h
      split at h
      · rcases ih z y h with g | g
        · rw [g]
          exact Or.inr List.mem_cons_self
        · exact Or.inr (List.mem_cons_of_mem _ g)
      · rcases ih b0 y h with g | g
        · exact Or.inl g
        · exact Or.inr (List.mem_cons_of_mem _ g)
theorem G_ext_mem0 {w : Int} : ∀ (l : List (Option b_E)) (y : b_E), G_ext w l = some y → some y ∈ l := by
  intro l
  induction l with
  | nil => exact fun y h => absurd h (by simp [G_ext])
  | cons o l ih =>
    intro y h
    unfold G_ext at h
    rw [List.foldl_cons] at h
    rcases o with _ | z
    · exact List.mem_cons_of_mem _ (ih y h)
    · rcases G_ext_mem l z y h with g | g
      · rw [g]
        exact List.mem_cons_self
      · exact List.mem_cons_of_mem _ g
theorem G_w_good {x : b_E} {vs : List (Option b_E)} (hx : b_nz x.2.1) (hm : vs.length ≤ 200) (hg : ∀ o ∈ vs, G_good o) : b_nz (G_w x vs).2.1 ∧ b_gv 17 (G_w x vs).1 (G_w x vs).2.2 ∧ (G_w x vs).2.1 = x.2.1 := by
  have h8 : ∀ X : Int64, b_gv 17 18 (b_le8 X) := fun X => b_gv_le (D := 0) (show b_lf 18 (b_le8 X) from Or.inr (Or.inl ⟨rfl, b_le8_len X⟩)) (Nat.zero_le _)
  have h1 : ∀ o, G_good o → b_nz (G_1 x o).2.1 ∧ b_gv 17 (G_1 x o).1 (G_1 x o).2.2 ∧ (G_1 x o).2.1 = x.2.1 := fun o ho => ⟨hx, b_gv_le ho.J.1 (by decide), rfl⟩
  have hnone : G_good none := fun y hy => absurd hy (by simp)
  have hmem : ∀ o : Option b_E, (∀ y, o = some y → some y ∈ vs) → G_good o := fun o ho y hy => hg (some y) (ho y hy) y rfl
  unfold G_w
  split
  · exact ⟨hx, h8 _, rfl⟩
  split
  · exact ⟨hx, h8 _, rfl⟩
  split
  · exact h1 _ (hmem _ fun y hy => G_ext_mem0 _ y hy)
  split
  · exact h1 _ (hmem _ fun y hy => G_ext_mem0 _ y hy)
  split
  · refine h1 _ ?_
    rcases hv : vs with _ | ⟨o, r⟩
    · exact hnone
    · exact hg o (by rw [hv]; exact List.mem_cons_self)
  split
  · refine h1 _ ?_
    rcases List.eq_nil_or_concat vs with hv | ⟨r, o, hv⟩
    · rw [hv]
      exact hnone
    · have : vs.getLastD none = o := by rw [hv, List.concat_eq_append]; simp
      rw [this]
      exact hg o (by rw [hv]; simp)
  · refine ⟨hx, ?_, rfl⟩
    obtain ⟨l, hl⟩ : ∃ l, l = G_st (G_cd (G_a x).2.1 == 8) [] vs := ⟨_, rfl⟩
    rw [← hl]
    have hll : l.length ≤ 200 := by
      have h9 := G_st_len (once := G_cd (G_a x).2.1 == 8) vs []
      rw [← hl] at h9
      omega
    have hlg : ∀ y ∈ l, b_gv 16 y.1 y.2.2 ∧ y.2.2.length ≤ 2100 := fun y hy => hg (some y) (G_st_mem _ _ y (by rw [← hl]; exact hy)) y rfl
    have hser := G_row_ser l 0 fun y hy => (hlg y hy).2
    have h2 : ∀ (j : Nat) (e : b_E), (G_row 0 l)[j]? = some e → e.2.1 = b_dg j ∧ b_nz e.2.1 ∧ b_gv 16 e.1 e.2.2 := by
      intro j e he
      obtain ⟨d, k1, k2, k3⟩ := G_row_at l 0 j e he
      rw [k2, Nat.zero_add]
      exact ⟨rfl, b_dg_nz (by omega), (hlg d k1).1⟩
    refine X_gv (Or.inr rfl) (fun e he => ?_) (by omega) fun _ j e he => (h2 j e he).1
    obtain ⟨j, hj⟩ := List.mem_iff_getElem?.mp he
    exact (h2 j e hj).2
