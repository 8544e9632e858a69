/-! STAGES: $lookup: what it makes -/
noncomputable def J_v (y : Option b_E) : b_E := y.getD (10, [], [])
def J_eq (x y : b_E) : Prop := v_cmp 61 x.1 x.2.2 y.1 y.2.2 = 0
def J_has (sh st : List (List Int)) (es os : List b_E) : Prop := ∃ x ∈ O_ks (O_lv es sh), ∃ y ∈ O_ks (O_lv os st), J_eq (J_v x) (J_v y)
noncomputable def J_hb (sh st : List (List Int)) (es os : List b_E) : Bool := @decide (J_has sh st es os) (Classical.propDecidable _)
theorem J_hb_t {sh st : List (List Int)} {es os : List b_E} (h : J_has sh st es os) : J_hb sh st es os = true := @decide_eq_true _ (Classical.propDecidable _) h
theorem J_hb_f {sh st : List (List Int)} {es os : List b_E} (h : ¬ J_has sh st es os) : J_hb sh st es os = false := @decide_eq_false _ (Classical.propDecidable _) h
noncomputable def J_fd (sh st : List (List Int)) (os : List (List b_E)) (es : List b_E) : List (List b_E) := os.filter (J_hb sh st es)
def J_row : Nat → List (List b_E) → List b_E
  | _, [] => []
  | i, d :: r => (3, b_dg i, b_doc d) :: J_row (i + 1) r
theorem J_row_snoc : ∀ (l : List (List b_E)) (i : Nat) (d : List b_E), J_row i (l ++ [d]) = J_row i l ++ [(3, b_dg (i + l.length), b_doc d)] := by
  intro l
  induction l with
  | nil => exact fun i d => rfl
  | cons a l ih =>
    intro i d
    show (3, b_dg i, b_doc a) :: J_row (i + 1) (l ++ [d]) = (3, b_dg i, b_doc a) :: (J_row (i + 1) l ++ [(3, b_dg (i + (l.length + 1)), b_doc d)])
    rw [ih, show i + 1 + l.length = i + (l.length + 1) by omega]
theorem J_row_at : ∀ (l : List (List b_E)) (i j : Nat) (e : b_E), (J_row i l)[j]? = some e → ∃ d, d ∈ l ∧ e = (3, b_dg (i + j), b_doc d) ∧ j < l.length := by
  intro l
  induction l with
  | nil => exact fun i j e h => absurd h (by simp [J_row])
  | cons a l ih =>
    intro i j e h
    cases j with
    | zero => exact ⟨a, List.mem_cons_self, (Option.some.inj h).symm, by simp⟩
    | succ j =>
      obtain ⟨d, h1, h2, h3⟩ := ih (i + 1) j e h
      exact ⟨d, List.mem_cons_of_mem _ h1, by rw [h2, show i + 1 + j = i + (j + 1) by omega], by rw [List.length_cons]; omega⟩
theorem J_row_ser : ∀ (l : List (List b_E)) (i : Nat), (∀ d ∈ l, (b_doc d).length ≤ 2000) → (b_ser (J_row i l)).length ≤ 2006 * l.length := by
  intro l
  induction l with
  | nil => exact fun _ _ => Nat.le_refl _
  | cons a l ih =>
    intro i h
    have h1 := ih (i + 1) fun d hd => h d (List.mem_cons_of_mem _ hd)
    have h2 := h a List.mem_cons_self
    have h3 := b_dg_len i
    show (b_el 3 (b_dg i) (b_doc a) ++ b_ser (J_row (i + 1) l)).length ≤ _
    rw [List.length_append, b_el_len, List.length_cons]
    omega
theorem J_row_good {l : List (List b_E)} (hl : l.length ≤ 200) (h : ∀ d ∈ l, (b_doc d).length ≤ 2000 ∧ X_gd 15 d) : b_gv 17 4 (b_doc (J_row 0 l)) := by
  have h1 := J_row_ser l 0 fun d hd => (h d hd).1
  have h2 : ∀ (j : Nat) (e : b_E), (J_row 0 l)[j]? = some e → e.2.1 = b_dg j ∧ b_nz e.2.1 ∧ b_gv 16 e.1 e.2.2 := by
    intro j e he
    obtain ⟨d, k1, k2, k3⟩ := J_row_at l 0 j e he
    obtain ⟨k4, k5⟩ := h d k1
    rw [k2, Nat.zero_add]
    exact ⟨rfl, b_dg_nz (by omega), X_gv (Or.inl rfl) k5 (by rw [b_doc_len] at k4; omega) fun z => absurd z (show ¬ (3 : Int) = 4 by decide)⟩
  refine X_gv (Or.inr rfl) (fun e he => ?_) (by omega) fun _ j e he => (h2 j e he).1
  obtain ⟨j, hj⟩ := List.mem_iff_getElem?.mp he
  exact (h2 j e hj).2
/-- an element comes in the place of the one of its name, or behind all -/
noncomputable def J_put (nm : List Int) (w : b_E) (es : List b_E) : List b_E := if (L_fn nm es).isSome = true then X_rep nm w es else es ++ [w]
theorem J_put_n {nm : List Int} {w : b_E} {es : List b_E} (h : L_fn nm es = none) : J_put nm w es = es ++ [w] := by
  unfold J_put
  rw [h]
  rfl
theorem J_put_s {nm : List Int} {w e0 : b_E} {es l t : List b_E} (h : L_fn nm es = some e0) (h2 : ∀ e2, X_rep nm e2 es = l ++ e2 :: t) : J_put nm w es = l ++ w :: t := by
  unfold J_put
  rw [h]
  exact h2 w
noncomputable def J_w (nm : List Int) (sh st : List (List Int)) (os : List (List b_E)) (es : List b_E) : b_E := (4, nm, b_doc (J_row 0 (J_fd sh st os es)))
noncomputable def J_doc (nm : List Int) (sh st : List (List Int)) (os : List (List b_E)) (es : List b_E) : List b_E := J_put nm (J_w nm sh st os es) es
theorem J_fd_ok {sh st : List (List Int)} {os : List (List b_E)} {es : List b_E} (h : S_ok os) : (J_fd sh st os es).length ≤ 200 ∧ ∀ d ∈ J_fd sh st os es, (b_doc d).length ≤ 2000 ∧ X_gd 15 d := by
  have h1 := List.length_filter_le (J_hb sh st es) os
  have h2 := h.1
  exact ⟨by unfold J_fd; omega, fun d hd => h.2.2 d (List.mem_filter.mp hd).1⟩
theorem J_w_good {nm : List Int} {sh st : List (List Int)} {os : List (List b_E)} {es : List b_E} (hnm : b_nz nm) (ho : S_ok os) : b_nz (J_w nm sh st os es).2.1 ∧ b_gv 17 (J_w nm sh st os es).1 (J_w nm sh st os es).2.2 := by
  obtain ⟨h1, h2⟩ := J_fd_ok (sh := sh) (st := st) (es := es) ho
  exact ⟨hnm, J_row_good h1 h2⟩
theorem J_doc_good {nm : List Int} {sh st : List (List Int)} {os : List (List b_E)} {es : List b_E} (hnm : b_nz nm) (ho : S_ok os) (hg : X_gd 15 es) : X_gd 30 (J_doc nm sh st os es) := by
  obtain ⟨w1, w2⟩ := J_w_good (sh := sh) (st := st) (es := es) hnm ho
  have hw : b_nz (J_w nm sh st os es).2.1 ∧ b_gv 30 (J_w nm sh st os es).1 (J_w nm sh st os es).2.2 := ⟨w1, b_gv_le w2 (by decide)⟩
  intro y hy
  unfold J_doc at hy
  rcases hf : L_fn nm es with _ | e0
  · rw [J_put_n hf] at hy
    rcases List.mem_append.mp hy with hy | hy
    · exact hg.le (by decide) y hy
    · rw [List.mem_singleton.mp hy]
      exact hw
  · obtain ⟨l, t, l1, l2, l3, -⟩ := L_fn_split hf
    rw [J_put_s hf l3] at hy
    have hmem : ∀ z, z ∈ l ∨ z ∈ t → z ∈ es := fun z hz => by
      rw [l1]
      rcases hz with hz | hz
      · exact List.mem_append_left _ hz
      · exact List.mem_append_right _ (List.mem_cons_of_mem _ hz)
    rcases List.mem_append.mp hy with hy | hy
    · exact hg.le (by decide) y (hmem y (Or.inl hy))
    · rcases List.mem_cons.mp hy with hy | hy
      · rw [hy]
        exact hw
      · exact hg.le (by decide) y (hmem y (Or.inr hy))
/-- the values of a path with their places; nothing at q in place of what is missing -/
noncomputable def J_pl (q : Int) (ls : List (Option (Int × b_E))) : List (Int × b_E) := ((if ls = [] then [none] else ls) ++ ls.flatMap L_its).map (J_no q)
theorem J_no_v (q : Int) (y : Option (Int × b_E)) : (J_no q y).2 = J_v (L_nop y) := by cases y <;> rfl
theorem J_its_on (q : Int) (ls : List (Option (Int × b_E))) : ∀ y ∈ ls.flatMap L_its, L_opt y = L_on q y := by
  intro y hy
  obtain ⟨u, -, hu⟩ := List.mem_flatMap.mp hy
  rcases u with _ | u
  · exact absurd hu (by simp [L_its])
  · have hit : L_its (some u) = if u.2.1 = 4 then (L_ch u.1 u.2).map some else [] := rfl
    rw [hit] at hu
    split at hu
    · obtain ⟨x, -, rfl⟩ := List.mem_map.mp hu
      rfl
    · exact absurd hu (by simp)
theorem J_pl_map (q : Int) (ls : List (Option (Int × b_E))) : (if ls = [] then [q] else ls.map (L_on q)) ++ (ls.flatMap L_its).map L_opt = (J_pl q ls).map Prod.fst := by
  unfold J_pl
  rw [List.map_append, List.map_append]
  congr 1
  · split
    · rfl
    · rw [List.map_map]
      exact List.map_congr_left fun y _ => (J_no_on y q).symm
  · rw [List.map_map]
    exact List.map_congr_left fun y hy => (J_its_on q ls y hy).trans (J_no_on y q).symm
theorem J_ks (ls : List (Option (Int × b_E))) : ((if ls = [] then [none] else ls) ++ ls.flatMap L_its).map L_nop = O_ks (ls.map L_nop) := by
  rw [List.map_append]
  unfold O_ks
  congr 1
  · by_cases h : ls = []
    · subst h
      rfl
    · rw [if_neg h, if_neg (fun z => h (List.map_eq_nil_iff.mp z))]
  · rw [List.map_flatMap, List.flatMap_map]
    congr 1
    funext y
    exact V_its_L y
theorem J_pl_v (q : Int) (ls : List (Option (Int × b_E))) : (J_pl q ls).map Prod.snd = (O_ks (ls.map L_nop)).map J_v := by
  unfold J_pl
  rw [← J_ks, List.map_map, List.map_map]
  exact List.map_congr_left fun y _ => J_no_v q y
theorem J_pl_len (q : Int) (ls : List (Option (Int × b_E))) : (J_pl q ls).length ≤ 1 + ls.length + (ls.flatMap L_its).length := by
  unfold J_pl
  rw [List.length_map, List.length_append]
  split
  · rw [List.length_singleton]
    omega
  · omega
theorem J_pl_has {q q2 : Int} {l1 l2 : List (Option (Int × b_E))} {sh st : List (List Int)} {es os : List b_E} (h1 : l1.map L_nop = O_lv es sh) (h2 : l2.map L_nop = O_lv os st) : (∃ x ∈ J_pl q l1, ∃ y ∈ J_pl q2 l2, J_same x y) ↔ J_has sh st es os := by
  have e1 := J_pl_v q l1
  have e2 := J_pl_v q2 l2
  rw [h1] at e1
  rw [h2] at e2
  unfold J_has
  constructor
  · rintro ⟨x, hx, y, hy, hxy⟩
    have a1 : x.2 ∈ (O_ks (O_lv es sh)).map J_v := by rw [← e1]; exact List.mem_map_of_mem hx
    have a2 : y.2 ∈ (O_ks (O_lv os st)).map J_v := by rw [← e2]; exact List.mem_map_of_mem hy
    obtain ⟨u, u1, u2⟩ := List.mem_map.mp a1
    obtain ⟨w, w1, w2⟩ := List.mem_map.mp a2
    exact ⟨u, u1, w, w1, by rw [u2, w2]; exact hxy⟩
  · rintro ⟨u, hu, w, hw, huw⟩
    have a1 : J_v u ∈ (J_pl q l1).map Prod.snd := by rw [e1]; exact List.mem_map_of_mem hu
    have a2 : J_v w ∈ (J_pl q2 l2).map Prod.snd := by rw [e2]; exact List.mem_map_of_mem hw
    obtain ⟨x, x1, x2⟩ := List.mem_map.mp a1
    obtain ⟨y, y1, y2⟩ := List.mem_map.mp a2
    refine ⟨x, x1, y, y1, ?_⟩
    unfold J_eq at huw
    rw [← x2, ← y2] at huw
    exact huw
/-- they stand there -/
theorem J_pl_st {B : Int → Int} {n q : Int} {ls : List (Option (Int × b_E))} {lm : Nat} (hst : ∀ y, some y ∈ ls → b_st B n y.1 16 y.2.1 y.2.2.1 y.2.2.2 ∧ y.2.2.2.length ≤ lm) (hno : b_at B q [10, 0]) (h0 : 0 ≤ q) (h1 : q + 2 ≤ n) : ∀ z ∈ J_pl q ls, b_st B n z.1 20 z.2.1 z.2.2.1 z.2.2.2 ∧ z.2.2.2.length ≤ lm := by
  have hN : b_st B n (J_no q none).1 20 (J_no q none).2.1 (J_no q none).2.2.1 (J_no q none).2.2.2 ∧ (J_no q none).2.2.2.length ≤ lm := ⟨b_st_no hno h0 h1 20, Nat.zero_le _⟩
  intro z hz
  obtain ⟨y, hy, rfl⟩ := List.mem_map.mp hz
  rcases List.mem_append.mp hy with hy | hy
  · split at hy
    · rw [List.mem_singleton.mp hy]
      exact hN
    · rcases y with _ | y
      · exact hN
      · exact ⟨(hst y hy).1.le (by decide), (hst y hy).2⟩
  · obtain ⟨u, hu, hyu⟩ := List.mem_flatMap.mp hy
    rcases u with _ | u
    · exact absurd hyu (by simp [L_its])
    · have hit : L_its (some u) = if u.2.1 = 4 then (L_ch u.1 u.2).map some else [] := rfl
      rw [hit] at hyu
      split at hyu
      · rename_i hu4
        obtain ⟨x, hx, rfl⟩ := List.mem_map.mp hyu
        obtain ⟨s1, s2⟩ := hst u hu
        obtain ⟨D1, eD, hkids, hkl⟩ := s1.kids (Or.inr hu4)
        have hx1 := L_at_st hkids x hx
        have hx2 := L_at_vb hx
        exact ⟨hx1.1.le (by omega), by show x.2.2.2.length ≤ lm; omega⟩
      · exact absurd hyu (by simp)
