/-! STAGES: what expressions say, over elements -/
/-- a path among elements: nothing, an element (no steps left), or a row with steps left -/
noncomputable def V_res : List (List Int) → List b_E → Option (b_E × List (List Int))
  | [], _ => none
  | s :: r, es => match L_fn s es with
    | none => none
    | some e => if r.isEmpty = true then some (e, []) else if e.1 = 4 then some (e, r) else if e.1 = 3 then V_res r (b_ch e.2.2) else none
/-- the items of the row of values, by the path, of a row's documents -/
noncomputable def V_rows : Nat → List (List Int) → List b_E → List b_E
  | 0, _, _ => []
  | D + 1, st, xs => X_num 0 (xs.filterMap fun x => if x.1 = 3 then (V_res st (b_ch x.2.2)).map (fun z => if z.2.isEmpty = true then z.1 else (4, [], b_doc (V_rows D z.2 (b_ch z.1.2.2)))) else none)
noncomputable def V_at (D : Nat) (z : b_E × List (List Int)) : b_E := if z.2.isEmpty = true then z.1 else (4, [], b_doc (V_rows D z.2 (b_ch z.1.2.2)))
noncomputable def V_it (D : Nat) (st : List (List Int)) (x : b_E) : Option b_E := if x.1 = 3 then (V_res st (b_ch x.2.2)).map (V_at D) else none
theorem V_rows_eq (D : Nat) (st : List (List Int)) (xs : List b_E) : V_rows (D + 1) st xs = X_num 0 (xs.filterMap (V_it D st)) := rfl
/-- the value of an expression at a document's elements -/
noncomputable def V_of (D : Nat) (x : b_E) (es : List b_E) : Option b_E := if S_dol x = true then (V_res (p_sp (S_pt x)) es).map (V_at D) else some x
theorem V_res_none {s : List Int} {r : List (List Int)} {es : List b_E} (h : L_fn s es = none) : V_res (s :: r) es = none := by
  show (match L_fn s es with
    | none => none
    | some e => if r.isEmpty = true then some (e, []) else if e.1 = 4 then some (e, r) else if e.1 = 3 then V_res r (b_ch e.2.2) else none) = none
  rw [h]
theorem V_res_some {s : List Int} {r : List (List Int)} {es : List b_E} {e : b_E} (h : L_fn s es = some e) : V_res (s :: r) es = if r.isEmpty = true then some (e, []) else if e.1 = 4 then some (e, r) else if e.1 = 3 then V_res r (b_ch e.2.2) else none := by
  show (match L_fn s es with
    | none => none
    | some e => if r.isEmpty = true then some (e, []) else if e.1 = 4 then some (e, r) else if e.1 = 3 then V_res r (b_ch e.2.2) else none) = _
  rw [h]
theorem b_ser_memL {e : b_E} : ∀ {es : List b_E}, e ∈ es → e.2.1.length + e.2.2.length + 2 ≤ (b_ser es).length := by
  intro es
  induction es with
  | nil => exact fun h => absurd h (by simp)
  | cons x es ih =>
    intro h
    rw [b_ser_len]
    have hl := b_el_len x.1 x.2.1 x.2.2
    rcases List.mem_cons.mp h with rfl | h
    · omega
    · have := ih h
      omega
/-- what a path leads to is good, not longer; a row's end is a row with steps left -/
theorem V_res_good : ∀ (st : List (List Int)) (D : Nat) (es : List b_E) (z : b_E × List (List Int)), X_gd D es → (b_ser es).length ≤ 15000 → V_res st es = some z → b_nz z.1.2.1 ∧ b_gv D z.1.1 z.1.2.2 ∧ z.1.2.2.length + 2 ≤ (b_ser es).length ∧ (z.2.isEmpty = false → z.1.1 = 4) ∧ z.2.length + 1 ≤ st.length := by
  intro st
  induction st with
  | nil => exact fun D es z _ _ h => absurd h (by simp [V_res])
  | cons s r ih =>
    intro D es z hg hl h
    rcases hf : L_fn s es with _ | e
    · rw [V_res_none hf] at h
      exact absurd h (by simp)
    · obtain ⟨hm, hn⟩ := L_fn_mem hf
      have hge := hg e hm
      have hle := b_ser_memL hm
      rw [V_res_some hf] at h
      rw [List.length_cons]
      by_cases h1 : r.isEmpty = true
      · rw [if_pos h1] at h
        rw [← Option.some.inj h]
        exact ⟨hge.1, hge.2, by show e.2.2.length + 2 ≤ _; omega, fun g => absurd g (by simp), by simp⟩
      · rw [if_neg h1] at h
        by_cases h4 : e.1 = 4
        · rw [if_pos h4] at h
          rw [← Option.some.inj h]
          exact ⟨hge.1, hge.2, by show e.2.2.length + 2 ≤ _; omega, fun _ => h4, by show r.length + 1 ≤ r.length + 1; omega⟩
        · rw [if_neg h4] at h
          by_cases h3 : e.1 = 3
          · rw [if_pos h3] at h
            obtain ⟨D1, hD, hE⟩ := X_E.mk hge.1 hge.2 (Or.inl h3)
            have hdl := congrArg List.length hE.2.2.1
            rw [b_doc_len] at hdl
            obtain ⟨a1, a2, a3, a4, a5⟩ := ih D1 (b_ch e.2.2) z hE.2.2.2.1 (by omega) h
            exact ⟨a1, b_gv_le a2 (by omega), by omega, a4, by omega⟩
          · rw [if_neg h3] at h
            exact absurd h (by simp)
theorem X_num_fm {f : b_E → Option b_E} : ∀ (es : List b_E) (i j : Nat), i ≤ j → j + es.length < 10000 → (∀ (n : Nat) (e : b_E), es[n]? = some e → e.2.1 = b_dg (j + n)) → (∀ x ∈ es, ∀ y, f x = some y → y.2.2.length ≤ x.2.2.length) → (b_ser (X_num i (es.filterMap f))).length ≤ (b_ser es).length := by
  intro es
  induction es with
  | nil => exact fun _ _ _ _ _ _ => Nat.le_refl _
  | cons x es ih =>
    intro i j hij hj hn hf
    rw [List.length_cons] at hj
    have h0 : x.2.1 = b_dg j := hn 0 x rfl
    have hn2 : ∀ (n : Nat) (e : b_E), es[n]? = some e → e.2.1 = b_dg (j + 1 + n) := fun n e he => by
      rw [show j + 1 + n = j + (n + 1) by omega]
      exact hn (n + 1) e he
    have hf2 := fun y hy => hf y (List.mem_cons_of_mem _ hy)
    rw [b_ser_len, b_el_len]
    rcases hfx : f x with _ | y
    · rw [List.filterMap_cons_none hfx]
      have h1 := ih i (j + 1) (by omega) (by omega) hn2 hf2
      omega
    · rw [List.filterMap_cons_some hfx]
      show (b_ser ((y.1, b_dg i, y.2.2) :: X_num (i + 1) (es.filterMap f))).length ≤ _
      rw [b_ser_len, b_el_len]
      have h1 := ih (i + 1) (j + 1) (by omega) (by omega) hn2 hf2
      have h2 := b_dg_mono hij (by omega)
      have h3 := hf x List.mem_cons_self y hfx
      rw [h0]
      show (b_dg i).length + y.2.2.length + 2 + _ ≤ (b_dg j).length + _ + 2 + _
      omega
theorem V_rows_good : ∀ (n D : Nat) (st : List (List Int)) (xs : List b_E), X_gd D xs → X_rn true xs → (b_ser xs).length ≤ 15000 → X_gd D (V_rows n st xs) ∧ X_rn true (V_rows n st xs) ∧ (b_ser (V_rows n st xs)).length ≤ (b_ser xs).length := by
  intro n
  induction n with
  | zero => exact fun D st xs _ _ _ => ⟨fun e he => absurd he (by simp [V_rows]), fun _ i e he => absurd he (by simp [V_rows]), by show 0 ≤ _; omega⟩
  | succ n ih =>
    intro D st xs hg hr hl
    have hmany := b_ser_many xs
    have hit : ∀ x ∈ xs, ∀ y, V_it n st x = some y → b_gv D y.1 y.2.2 ∧ y.2.2.length ≤ x.2.2.length := by
      intro x hx y hy
      have hgx := hg x hx
      have hlx := b_ser_memL hx
      unfold V_it at hy
      by_cases h3 : x.1 = 3
      · rw [if_pos h3] at hy
        obtain ⟨z, hz, hzy⟩ := Option.map_eq_some_iff.mp hy
        obtain ⟨D1, hD, hE⟩ := X_E.mk hgx.1 hgx.2 (Or.inl h3)
        have hdl := congrArg List.length hE.2.2.1
        rw [b_doc_len] at hdl
        obtain ⟨a1, a2, a3, a4, a5⟩ := V_res_good st D1 (b_ch x.2.2) z hE.2.2.2.1 (by omega) hz
        rw [← hzy]
        unfold V_at
        by_cases he : z.2.isEmpty = true
        · rw [if_pos he]
          exact ⟨b_gv_le a2 (by omega), by omega⟩
        · rw [if_neg he]
          have h4 := a4 (by simpa using he)
          obtain ⟨D2, hD2, hE2⟩ := X_E.mk a1 a2 (Or.inr h4)
          have hdl2 := congrArg List.length hE2.2.2.1
          rw [b_doc_len] at hdl2
          have hrn2 : X_rn true (b_ch z.1.2.2) := by
            have := hE2.2.2.2.2
            rwa [show (z.1.1 == 4) = true by rw [h4]; rfl] at this
          obtain ⟨c1, c2, c3⟩ := ih D2 z.2 (b_ch z.1.2.2) hE2.2.2.2.1 hrn2 (by omega)
          refine ⟨b_gv_le (X_gv (D := D2) (Or.inr rfl) c1 (by omega) fun _ => c2 rfl) (by omega), ?_⟩
          show (b_doc (V_rows n z.2 (b_ch z.1.2.2))).length ≤ _
          rw [b_doc_len]
          omega
      · rw [if_neg h3] at hy
        exact absurd hy (by simp)
    rw [V_rows_eq]
    have hser := X_num_fm (f := V_it n st) xs 0 0 (Nat.le_refl _) (by omega) (fun i e he => by rw [Nat.zero_add]; exact hr rfl i e he) fun x hx y hy => (hit x hx y hy).2
    have hflen := List.length_filterMap_le (V_it n st) xs
    refine ⟨fun f hf => ?_, fun _ i f hf => ?_, hser⟩
    · obtain ⟨j, hj⟩ := List.getElem?_of_mem hf
      obtain ⟨g1, g, g2, g3, g4⟩ := X_num_get _ _ _ _ hj
      have hjl := (List.getElem?_eq_some_iff.mp hj).1
      rw [X_num_len] at hjl
      obtain ⟨x, hx, hxy⟩ := List.mem_filterMap.mp g2
      rw [g1, g3, g4]
      exact ⟨b_dg_nz (by omega), (hit x hx g hxy).1⟩
    · obtain ⟨g1, -⟩ := X_num_get _ _ _ _ hf
      rw [g1, Nat.zero_add]
theorem V_at_good {n D : Nat} {z : b_E × List (List Int)} (h1 : b_nz z.1.2.1) (h2 : b_gv D z.1.1 z.1.2.2) (h3 : z.2.isEmpty = false → z.1.1 = 4) (hl : z.1.2.2.length ≤ 15000) : b_nz (V_at n z).2.1 ∧ b_gv D (V_at n z).1 (V_at n z).2.2 ∧ (V_at n z).2.2.length ≤ z.1.2.2.length := by
  unfold V_at
  by_cases he : z.2.isEmpty = true
  · rw [if_pos he]
    exact ⟨h1, h2, Nat.le_refl _⟩
  · rw [if_neg he]
    have h4 := h3 (by simpa using he)
    obtain ⟨D2, hD2, hE2⟩ := X_E.mk h1 h2 (Or.inr h4)
    have hdl2 := congrArg List.length hE2.2.2.1
    rw [b_doc_len] at hdl2
    have hrn2 : X_rn true (b_ch z.1.2.2) := by
      have := hE2.2.2.2.2
      rwa [show (z.1.1 == 4) = true by rw [h4]; rfl] at this
    obtain ⟨c1, c2, c3⟩ := V_rows_good n D2 z.2 (b_ch z.1.2.2) hE2.2.2.2.1 hrn2 (by omega)
    refine ⟨fun c hc => absurd hc (by simp), b_gv_le (X_gv (D := D2) (Or.inr rfl) c1 (by omega) fun _ => c2 rfl) (by omega), ?_⟩
    show (b_doc (V_rows n z.2 (b_ch z.1.2.2))).length ≤ _
    rw [b_doc_len]
    omega
