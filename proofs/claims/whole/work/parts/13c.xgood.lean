/-! CHANGES: what comes of them is good, and not too long -/
def X_gd (D : Nat) (es : List b_E) : Prop := ∀ e ∈ es, b_nz e.2.1 ∧ b_gv D e.1 e.2.2
def X_rn (row : Bool) (es : List b_E) : Prop := row = true → ∀ (i : Nat) (e : b_E), es[i]? = some e → e.2.1 = b_dg i
def X_G (p : b_E) (st : List (List Int)) : Nat := (st.map fun s => s.length + 7).sum + p.2.2.length + 3
theorem L_fn_split {s : List Int} : ∀ {es : List b_E} {e : b_E}, L_fn s es = some e → ∃ l r, es = l ++ e :: r ∧ e.2.1 = s ∧ (∀ e2, X_rep s e2 es = l ++ e2 :: r) ∧ X_del s es = l ++ r ∧ ∀ f ∈ l, f.2.1 ≠ s := by
  intro es
  induction es with
  | nil => exact fun h => absurd h (by simp [L_fn])
  | cons x es ih =>
    intro e h
    unfold L_fn at h
    split at h
    · rename_i hx
      cases h
      exact ⟨[], es, rfl, hx, fun e2 => if_pos hx, if_pos hx, fun f hf => absurd hf (by simp)⟩
    · rename_i hx
      obtain ⟨l, r, h1, h2, h3, h4, h5⟩ := ih h
      refine ⟨x :: l, r, by rw [h1]; rfl, h2, fun e2 => ?_, ?_, fun f hf => ?_⟩
      · show (if x.2.1 = s then e2 :: es else x :: X_rep s e2 es) = _
        rw [if_neg hx, h3]
        rfl
      · show (if x.2.1 = s then es else x :: X_del s es) = _
        rw [if_neg hx, h4]
        rfl
      · rcases List.mem_cons.mp hf with rfl | hf
        · exact hx
        · exact h5 f hf
theorem L_fn_none {s : List Int} : ∀ {es : List b_E}, L_fn s es = none → ∀ f ∈ es, f.2.1 ≠ s := by
  intro es
  induction es with
  | nil => exact fun _ f hf => absurd hf (by simp)
  | cons x es ih =>
    intro h f hf
    unfold L_fn at h
    split at h
    · cases h
    · rename_i hx
      rcases List.mem_cons.mp hf with rfl | hf
      · exact hx
      · exact ih h f hf
theorem X_gd.ok {D : Nat} {es : List b_E} (h : X_gd D es) : ∀ e ∈ es, b_okE e := fun e he => ⟨(h e he).1, b_gv_vs (h e he).2⟩
theorem X_gd.le {D D2 : Nat} {es : List b_E} (h : X_gd D es) (hD : D ≤ D2) : X_gd D2 es := fun e he => ⟨(h e he).1, b_gv_le (h e he).2 hD⟩
theorem X_gd.app {D : Nat} {x y : List b_E} (h : X_gd D x) (h2 : X_gd D y) : X_gd D (x ++ y) := fun e he => (List.mem_append.mp he).elim (h e) (h2 e)
theorem X_gd.l {D : Nat} {x y : List b_E} (h : X_gd D (x ++ y)) : X_gd D x := fun e he => h e (List.mem_append_left _ he)
theorem X_gd.r {D : Nat} {x y : List b_E} (h : X_gd D (x ++ y)) : X_gd D y := fun e he => h e (List.mem_append_right _ he)
theorem X_gd.one {D : Nat} {e : b_E} (h1 : b_nz e.2.1) (h2 : b_gv D e.1 e.2.2) : X_gd D [e] := fun f hf => by
  have := List.mem_singleton.mp hf
  subst this
  exact ⟨h1, h2⟩
theorem X_gd.rep {D : Nat} {l r : List b_E} {e e2 : b_E} (h : X_gd D (l ++ e :: r)) (h1 : b_nz e2.2.1) (h2 : b_gv D e2.1 e2.2.2) : X_gd D (l ++ e2 :: r) := by
  have h3 : X_gd D ([e] ++ r) := h.r
  exact h.l.app ((X_gd.one h1 h2).app h3.r)
theorem X_gv {D : Nat} {k : Int} {es : List b_E} (hk : k = 3 ∨ k = 4) (h : X_gd D es) (hn : (b_ser es).length < 16000000) (hr : k = 4 → ∀ (i : Nat) (e : b_E), es[i]? = some e → e.2.1 = b_dg i) : b_gv (D + 1) k (b_doc es) := Or.inr ⟨hk, es, rfl, hn, h, hr⟩
theorem X_rn.rep {row : Bool} {l r : List b_E} {e e2 : b_E} (h : X_rn row (l ++ e :: r)) (hn : e2.2.1 = e.2.1) : X_rn row (l ++ e2 :: r) := by
  intro hrow i f hf
  have h1 := h hrow
  by_cases hi : i = l.length
  · subst hi
    rw [List.getElem?_append_right (Nat.le_refl _), Nat.sub_self] at hf
    have hf : e2 = f := Option.some.inj hf
    rw [← hf, hn]
    refine h1 l.length e ?_
    rw [List.getElem?_append_right (Nat.le_refl _), Nat.sub_self]
    rfl
  · refine h1 i f ?_
    rw [← hf]
    by_cases hlt : i < l.length
    · rw [List.getElem?_append_left hlt, List.getElem?_append_left hlt]
    · rw [List.getElem?_append_right (by omega), List.getElem?_append_right (by omega)]
      obtain ⟨j, hj⟩ : ∃ j, i - l.length = j + 1 := ⟨i - l.length - 1, by omega⟩
      rw [hj]
      rfl
theorem X_rn.snoc {row : Bool} {es : List b_E} {e : b_E} (h : X_rn row es) (hn : row = true → e.2.1 = b_dg es.length) : X_rn row (es ++ [e]) := by
  intro hrow i f hf
  by_cases hi : i < es.length
  · rw [List.getElem?_append_left hi] at hf
    exact h hrow i f hf
  · rw [List.getElem?_append_right (by omega)] at hf
    have := (List.getElem?_eq_some_iff.mp hf).1
    rw [List.length_singleton] at this
    have hi2 : i = es.length := by omega
    subst hi2
    rw [Nat.sub_self] at hf
    have hf : e = f := Option.some.inj hf
    rw [← hf]
    exact hn hrow
theorem b_dg_nz {i : Nat} (hi : i < 10000) : b_nz (b_dg i) := by
  obtain ⟨-, h1, -⟩ := (u_dg_can (i + 1) i (by omega) hi).1
  intro c hc
  have := h1 c hc
  omega
theorem b_gv_kd {D : Nat} {k : Int} {vb : List Int} (h : b_gv D k vb) : vb.length < 16777300 := by
  rcases b_gv_vs h with ⟨-, h⟩ | ⟨-, h⟩ | ⟨-, h⟩ | ⟨-, h⟩ | ⟨-, s, h, h2⟩ | ⟨-, s, h, h2⟩
  · omega
  · omega
  · omega
  · omega
  · rw [h, List.length_append]
    have : (b_le4 (s.length : Int)).length = 4 := rfl
    omega
  · rw [h, List.length_append]
    have : (b_le4 ((s.length : Int) + 4)).length = 4 := rfl
    omega
theorem p_sp_nz : ∀ {x : List Int}, b_nz x → ∀ s ∈ p_sp x, b_nz s := by
  have : ∀ (l : Nat) (x : List Int), x.length ≤ l → b_nz x → ∀ s ∈ p_sp x, b_nz s := by
    intro l
    induction l with
    | zero =>
      intro x hx h s hs
      have : x = [] := List.eq_nil_of_length_eq_zero (by omega)
      subst this
      have := List.mem_singleton.mp hs
      subst this
      exact h
    | succ l ih =>
      intro x hx h s hs
      rcases p_hd_tl x with ⟨h2, h3⟩ | ⟨y, h2, h3⟩
      · rw [p_sp_none h2, h3] at hs
        have := List.mem_singleton.mp hs
        subst this
        exact h
      · rw [p_sp_some h2] at hs
        have hl := congrArg List.length h3
        rw [List.length_append, List.length_cons] at hl
        rcases List.mem_cons.mp hs with rfl | hs
        · exact fun c hc => h c (by rw [h3]; exact List.mem_append_left _ hc)
        · exact ih y (by omega) (fun c hc => h c (by rw [h3]; exact List.mem_append_right _ (List.mem_cons_of_mem _ hc))) s hs
  exact fun {x} h => this x.length x (Nat.le_refl _) h
theorem b_ser_one (e : b_E) : (b_ser [e]).length = e.2.1.length + e.2.2.length + 2 := by
  rw [b_ser_len, b_el_len]
  rfl
theorem b_ser_mid (l r : List b_E) (e : b_E) : (b_ser (l ++ e :: r)).length = (b_ser l).length + (e.2.1.length + e.2.2.length + 2) + (b_ser r).length := by
  rw [b_ser_app, List.length_append, b_ser_len, b_el_len]
  omega
theorem b_le8_len (X : Int64) : (b_le8 X).length = 8 := rfl
theorem X_inc_good {e p : b_E} {D : Nat} (he : b_nz e.2.1) (hg : b_gv D e.1 e.2.2) : b_nz (X_inc e p).2.2.1 ∧ (X_inc e p).2.2.1 = e.2.1 ∧ b_gv D (X_inc e p).2.1 (X_inc e p).2.2.2 ∧ (X_inc e p).2.2.2.length ≤ e.2.2.length + 8 := by
  unfold X_inc
  split
  · split
    · exact ⟨he, rfl, hg, Nat.le_add_right _ _⟩
    · split
      · exact ⟨he, rfl, b_lf_gv (Or.inl ⟨rfl, rfl⟩), by show 4 ≤ _; omega⟩
      · exact ⟨he, rfl, b_lf_gv (Or.inr (Or.inl ⟨rfl, rfl⟩)), by show 8 ≤ _; omega⟩
  · exact ⟨he, rfl, hg, Nat.le_add_right _ _⟩
theorem X_last_none {op : Int} {p : b_E} {s : List Int} {D : Nat} (hp : b_gv 20 p.1 p.2.2) (hs : b_nz s) (hD : 21 ≤ D) (hl : p.2.2.length ≤ 15000) : (X_last op p s none).1 = 0 ∧ b_nz (X_last op p s none).2.2.1 ∧ (X_last op p s none).2.2.1 = s ∧ b_gv D (X_last op p s none).2.1 (X_last op p s none).2.2.2 ∧ (X_last op p s none).2.2.2.length ≤ p.2.2.length + 8 := by
  unfold X_last
  refine ⟨rfl, ?_⟩
  show b_nz (if op = 4 ∨ op = 6 then (4, s, b_doc [(p.1, b_dg 0, p.2.2)]) else (p.1, s, p.2.2) : b_E).2.1 ∧ _
  split
  · have h0 : b_dg 0 = [48] := rfl
    refine ⟨hs, rfl, ?_, ?_⟩
    · have h1 : b_gv (20 + 1) 4 (b_doc [(p.1, b_dg 0, p.2.2)]) := X_gv (Or.inr rfl) (X_gd.one (b_dg_nz (i := 0) (by decide)) hp) (by rw [b_ser_one]; show (b_dg 0).length + p.2.2.length + 2 < _; rw [h0, List.length_singleton]; omega) fun _ i e he => by
        have := (List.getElem?_eq_some_iff.mp he).1
        rw [List.length_singleton] at this
        have hi : i = 0 := by omega
        subst hi
        have he : (p.1, b_dg 0, p.2.2) = e := Option.some.inj he
        rw [← he]
      exact b_gv_le h1 (by omega)
    · show (b_doc [(p.1, b_dg 0, p.2.2)]).length ≤ _
      rw [b_doc_len, b_ser_one]
      show (b_dg 0).length + p.2.2.length + 2 + 5 ≤ _
      rw [h0, List.length_singleton]
      omega
  · exact ⟨hs, rfl, b_gv_le hp (by omega), Nat.le_add_right _ _⟩
theorem X_last_some {op : Int} {p e : b_E} {s : List Int} {D : Nat} (hp : b_gv 20 p.1 p.2.2) (he : b_nz e.2.1) (hg : b_gv D e.1 e.2.2) (hD : 22 ≤ D) (hl : e.2.2.length + p.2.2.length ≤ 15000) : b_nz (X_last op p s (some e)).2.2.1 ∧ (X_last op p s (some e)).2.2.1 = e.2.1 ∧ b_gv D (X_last op p s (some e)).2.1 (X_last op p s (some e)).2.2.2 ∧ (X_last op p s (some e)).2.2.2.length ≤ e.2.2.length + p.2.2.length + 8 := by
  unfold X_last
  simp only
  split
  · exact ⟨he, rfl, b_gv_le hp (by omega), by show p.2.2.length ≤ _; omega⟩
  · split
    · obtain ⟨a1, a2, a3, a4⟩ := X_inc_good (p := p) he hg
      exact ⟨a1, a2, a3, by omega⟩
    · split
      · rename_i hk
        split
        · exact ⟨he, rfl, hg, by show e.2.2.length ≤ _; omega⟩
        · obtain ⟨D1, es, rfl, e2, e3, e4, e5, e6, e7⟩ := b_gv_doc hg (Or.inr hk)
          rw [e7]
          have hl2 := congrArg List.length e2
          rw [b_doc_len] at hl2
          have hm := b_ser_many es
          have hd := b_dg_len es.length
          have hsz : (b_ser (es ++ [(p.1, b_dg es.length, p.2.2)])).length = (b_ser es).length + ((b_dg es.length).length + p.2.2.length + 2) := by
            rw [b_ser_app, List.length_append, b_ser_one]
          refine ⟨he, rfl, X_gv (Or.inr rfl) (X_gd.app e5 (X_gd.one (b_dg_nz (by omega)) (b_gv_le hp (by omega)))) (by rw [hsz]; omega) fun _ => (X_rn.snoc (row := true) (fun _ => e6 hk) fun _ => rfl) rfl, ?_⟩
          show (b_doc (es ++ [(p.1, b_dg es.length, p.2.2)])).length ≤ _
          rw [b_doc_len, hsz]
          omega
      · exact ⟨he, rfl, hg, by show e.2.2.length ≤ _; omega⟩
theorem X_G_cons (p : b_E) (s : List Int) (r : List (List Int)) : X_G p (s :: r) = s.length + 7 + X_G p r := by
  unfold X_G
  rw [List.map_cons, List.sum_cons]
  omega
theorem X_make_good {op : Int} {p : b_E} (hp : b_gv 20 p.1 p.2.2) : ∀ (st : List (List Int)) (row : Bool) (es : List b_E) (D : Nat), (∀ s ∈ st, b_nz s) → X_gd D es → 22 + st.length ≤ D → X_rn row es → (b_ser es).length + X_G p st ≤ 15000 → X_gd D (X_make op p row es st).2 ∧ X_rn row (X_make op p row es st).2 ∧ (b_ser (X_make op p row es st).2).length ≤ (b_ser es).length + X_G p st := by
  intro st
  induction st with
  | nil =>
    intro row es D _ hg _ hr hl
    exact ⟨hg, hr, Nat.le_add_right _ _⟩
  | cons s r ih =>
    intro row es D hst hg hD hr hl
    rw [List.length_cons] at hD
    have hG := X_G_cons p s r
    have hG0 : p.2.2.length + 3 ≤ X_G p r := by unfold X_G; omega
    have hs := hst s List.mem_cons_self
    have hr0 := fun x hx => hst x (List.mem_cons_of_mem _ hx)
    have hm : X_make op p row es (s :: r) = (match L_fn s es with
        | none => if row = true ∧ s ≠ b_dg es.length then (6, es) else match r with
          | [] => (0, es ++ [(X_last op p s none).2])
          | _ :: _ => ((X_make op p false [] r).1, es ++ [(3, s, b_doc (X_make op p false [] r).2)])
        | some e => match r with
          | [] => ((X_last op p s (some e)).1, X_rep s (X_last op p s (some e)).2 es)
          | _ :: _ => if e.1 = 3 ∨ e.1 = 4 then ((X_make op p (e.1 == 4) (b_ch e.2.2) r).1, X_rep s (e.1, e.2.1, b_doc (X_make op p (e.1 == 4) (b_ch e.2.2) r).2) es) else (6, es)) := by
      cases r <;> rfl
    rw [hm]
    rcases hf : L_fn s es with _ | e
    · simp only
      split
      · exact ⟨hg, hr, Nat.le_add_right _ _⟩
      · rename_i hc
        have hrow : row = true → s = b_dg es.length := fun h => Classical.byContradiction fun z => hc ⟨h, z⟩
        rcases r with _ | ⟨s2, r⟩
        · obtain ⟨a0, a1, a2, a3, a4⟩ := X_last_none (op := op) (D := D) hp hs (by omega) (by omega)
          refine ⟨hg.app (X_gd.one a1 a3), hr.snoc fun h => by rw [a2]; exact hrow h, ?_⟩
          show (b_ser (es ++ [_])).length ≤ _
          rw [b_ser_app, List.length_append, b_ser_one, a2]
          omega
        · rw [List.length_cons] at hD
          obtain ⟨D1, rfl⟩ : ∃ D1, D = D1 + 1 := ⟨D - 1, by omega⟩
          obtain ⟨b1, b2, b3⟩ := ih false [] D1 hr0 (fun e he => absurd he (by simp)) (by rw [List.length_cons]; omega) (fun h => absurd h (by decide)) (by show 0 + _ ≤ _; omega)
          have b3' : (b_ser (X_make op p false [] (s2 :: r)).2).length ≤ 0 + X_G p (s2 :: r) := b3
          refine ⟨hg.app (X_gd.one hs (X_gv (Or.inl rfl) b1 (by omega) fun h => absurd h (by simp))), hr.snoc hrow, ?_⟩
          show (b_ser (es ++ [_])).length ≤ _
          rw [b_ser_app, List.length_append, b_ser_one]
          show (b_ser es).length + (s.length + (b_doc _).length + 2) ≤ _
          rw [b_doc_len]
          omega
    · obtain ⟨l, t, h1, h2, h3, h4, h5⟩ := L_fn_split hf
      have hge := hg e (L_fn_mem hf).1
      have hlen := b_ser_mid l t e
      rw [← h1] at hlen
      simp only
      rcases r with _ | ⟨s2, r⟩
      · obtain ⟨a1, a2, a3, a4⟩ := X_last_some (op := op) (s := s) hp hge.1 hge.2 (by omega) (by omega)
        show X_gd D (X_rep s _ es) ∧ X_rn row (X_rep s _ es) ∧ (b_ser (X_rep s _ es)).length ≤ _
        rw [h3]
        refine ⟨X_gd.rep (e := e) (by rw [← h1]; exact hg) a1 a3, X_rn.rep (e := e) (by rw [← h1]; exact hr) a2, ?_⟩
        rw [b_ser_mid, a2]
        omega
      · simp only
        split
        · rename_i hk
          obtain ⟨D1, fs, rfl, e2, e3, e4, e5, e6, e7⟩ := b_gv_doc hge.2 hk
          have hl2 := congrArg List.length e2
          rw [b_doc_len] at hl2
          rw [e7]
          obtain ⟨b1, b2, b3⟩ := ih (e.1 == 4) fs D1 hr0 e5 (by omega) (fun h => e6 (eq_of_beq h)) (by omega)
          show X_gd (D1 + 1) (X_rep s _ es) ∧ X_rn row (X_rep s _ es) ∧ (b_ser (X_rep s _ es)).length ≤ _
          rw [h3]
          refine ⟨X_gd.rep (e := e) (by rw [← h1]; exact hg) hge.1 (X_gv hk b1 (by omega) fun h => b2 (by have h : e.1 = 4 := h; simp [h])), X_rn.rep (e := e) (by rw [← h1]; exact hr) rfl, ?_⟩
          rw [b_ser_mid]
          show _ + (e.2.1.length + (b_doc _).length + 2) + _ ≤ _
          rw [b_doc_len]
          omega
        · exact ⟨hg, hr, Nat.le_add_right _ _⟩
theorem X_num_get : ∀ (es : List b_E) (i j : Nat) (e : b_E), (X_num i es)[j]? = some e → e.2.1 = b_dg (i + j) ∧ ∃ f ∈ es, e.1 = f.1 ∧ e.2.2 = f.2.2 := by
  intro es
  induction es with
  | nil => exact fun i j e h => absurd h (by simp [X_num])
  | cons x es ih =>
    intro i j e h
    rcases j with _ | j
    · have h : (x.1, b_dg i, x.2.2) = e := Option.some.inj h
      rw [← h]
      exact ⟨rfl, x, List.mem_cons_self, rfl, rfl⟩
    · obtain ⟨h1, f, h2, h3⟩ := ih (i + 1) j e h
      refine ⟨by rw [h1]; congr 1; omega, f, List.mem_cons_of_mem _ h2, h3⟩
theorem X_num_len : ∀ (es : List b_E) (i : Nat), (X_num i es).length = es.length := by
  intro es
  induction es with
  | nil => exact fun _ => rfl
  | cons x es ih =>
    intro i
    show (X_num (i + 1) es).length + 1 = es.length + 1
    rw [ih]
theorem b_dg_mono {i j : Nat} (hij : i ≤ j) (hj : j < 10000) : (b_dg i).length ≤ (b_dg j).length := by
  have h1 : ∀ k, k < 10000 → (b_dg k).length = if k < 10 then 1 else if k < 100 then 2 else if k < 1000 then 3 else 4 := by
    intro k hk
    unfold b_dg
    split
    · exact u_digs_len _ _ _
    · split
      · exact u_digs_len _ _ _
      · split
        · exact u_digs_len _ _ _
        · exact u_digs_len _ _ _
  rw [h1 i (by omega), h1 j hj]
  split <;> split <;> (try split) <;> (try split) <;> (try split) <;> (try split) <;> omega
/-- items that stay, numbered anew, are not longer -/
theorem X_num_ser {q : b_E → Bool} : ∀ (es : List b_E) (i j : Nat), i ≤ j → j + es.length < 10000 → (∀ (n : Nat) (e : b_E), es[n]? = some e → e.2.1 = b_dg (j + n)) → (b_ser (X_num i (es.filter q))).length ≤ (b_ser es).length := by
  intro es
  induction es with
  | nil => exact fun _ _ _ _ _ => Nat.le_refl _
  | cons x es ih =>
    intro i j hij hj hn
    rw [List.length_cons] at hj
    have h0 : x.2.1 = b_dg j := hn 0 x rfl
    have hn2 : ∀ (n : Nat) (e : b_E), es[n]? = some e → e.2.1 = b_dg (j + 1 + n) := fun n e he => by
      rw [show j + 1 + n = j + (n + 1) by omega]
      exact hn (n + 1) e he
    rw [List.filter_cons, b_ser_len, b_el_len]
    split
    · show (b_ser ((x.1, b_dg i, x.2.2) :: X_num (i + 1) (es.filter q))).length ≤ _
      rw [b_ser_len, b_el_len]
      have h1 := ih (i + 1) (j + 1) (by omega) (by omega) hn2
      have h2 := b_dg_mono hij (by omega)
      rw [h0]
      show (b_dg i).length + x.2.2.length + 2 + _ ≤ (b_dg j).length + _ + 2 + _
      omega
    · have h1 := ih i (j + 1) (by omega) (by omega) hn2
      omega
theorem X_take_good {op : Int} {p : b_E} : ∀ (st : List (List Int)) (row : Bool) (es : List b_E) (D : Nat), X_gd D es → X_rn row es → (b_ser es).length ≤ 15000 → X_gd D (X_take op p row es st).2 ∧ X_rn row (X_take op p row es st).2 ∧ (b_ser (X_take op p row es st).2).length ≤ (b_ser es).length := by
  intro st
  induction st with
  | nil =>
    intro row es D hg hr hl
    exact ⟨hg, hr, Nat.le_refl _⟩
  | cons s r ih =>
    intro row es D hg hr hl
    have hm : X_take op p row es (s :: r) = (match L_fn s es with
        | none => (0, es)
        | some e => match r with
          | [] => if op = 2 then (0, if row = true then X_rep s (10, e.2.1, []) es else X_del s es) else if e.1 = 4 then (0, X_rep s (4, e.2.1, b_doc (X_num 0 ((b_ch e.2.2).filter fun y => !F_eq y p))) es) else (7, es)
          | _ :: _ => if e.1 = 3 ∨ e.1 = 4 then ((X_take op p (e.1 == 4) (b_ch e.2.2) r).1, X_rep s (e.1, e.2.1, b_doc (X_take op p (e.1 == 4) (b_ch e.2.2) r).2) es) else (0, es)) := by
      cases r <;> rfl
    rw [hm]
    rcases hf : L_fn s es with _ | e
    · exact ⟨hg, hr, Nat.le_refl _⟩
    · obtain ⟨l, t, h1, h2, h3, h4, h5⟩ := L_fn_split hf
      have hge := hg e (L_fn_mem hf).1
      have hlen := b_ser_mid l t e
      rw [← h1] at hlen
      simp only
      rcases r with _ | ⟨s2, r⟩
      · simp only
        split
        · show X_gd D (if row = true then X_rep s (10, e.2.1, []) es else X_del s es) ∧ X_rn row (if row = true then X_rep s (10, e.2.1, []) es else X_del s es) ∧ (b_ser (if row = true then X_rep s (10, e.2.1, []) es else X_del s es)).length ≤ _
          split
          · rw [h3]
            refine ⟨X_gd.rep (e := e) (by rw [← h1]; exact hg) hge.1 (b_lf_gv (Or.inr (Or.inr (Or.inr (Or.inl ⟨rfl, rfl⟩))))), X_rn.rep (e := e) (by rw [← h1]; exact hr) rfl, ?_⟩
            rw [b_ser_mid]
            show _ + (e.2.1.length + 0 + 2) + _ ≤ _
            omega
          · rename_i hrow
            rw [h4]
            have hg2 : X_gd D (l ++ ([e] ++ t)) := by rw [h1] at hg; exact hg
            refine ⟨hg2.l.app hg2.r.r, fun h => absurd h hrow, ?_⟩
            rw [b_ser_app, List.length_append]
            omega
        · split
          · rename_i hk
            obtain ⟨D1, fs, rfl, e2, e3, e4, e5, e6, e7⟩ := b_gv_doc hge.2 (Or.inr hk)
            have hl2 := congrArg List.length e2
            rw [b_doc_len] at hl2
            rw [e7]
            have hmany := b_ser_many fs
            have hser := X_num_ser (q := fun y => !F_eq y p) fs 0 0 (Nat.le_refl _) (by omega) (fun n f hf => by rw [Nat.zero_add]; exact e6 hk n f hf)
            have hgd : X_gd D1 (X_num 0 (fs.filter fun y => !F_eq y p)) := by
              intro f hf
              obtain ⟨j, hj⟩ := List.getElem?_of_mem hf
              obtain ⟨g1, g, g2, g3, g4⟩ := X_num_get _ _ _ _ hj
              have hjl := (List.getElem?_eq_some_iff.mp hj).1
              rw [X_num_len] at hjl
              have hfl := List.length_filter_le (fun y => !F_eq y p) fs
              rw [g1, g3, g4]
              exact ⟨b_dg_nz (by omega), (e5 g (List.mem_filter.mp g2).1).2⟩
            show X_gd (D1 + 1) (X_rep s _ es) ∧ X_rn row (X_rep s _ es) ∧ (b_ser (X_rep s _ es)).length ≤ _
            rw [h3]
            refine ⟨X_gd.rep (e := e) (by rw [← h1]; exact hg) hge.1 (X_gv (Or.inr rfl) hgd (by omega) fun _ i f hf => by have := (X_num_get _ _ _ _ hf).1; rwa [Nat.zero_add] at this), X_rn.rep (e := e) (by rw [← h1]; exact hr) rfl, ?_⟩
            rw [b_ser_mid]
            show _ + (e.2.1.length + (b_doc _).length + 2) + _ ≤ _
            rw [b_doc_len]
            omega
          · exact ⟨hg, hr, Nat.le_refl _⟩
      · simp only
        split
        · rename_i hk
          obtain ⟨D1, fs, rfl, e2, e3, e4, e5, e6, e7⟩ := b_gv_doc hge.2 hk
          have hl2 := congrArg List.length e2
          rw [b_doc_len] at hl2
          rw [e7]
          obtain ⟨b1, b2, b3⟩ := ih (e.1 == 4) fs D1 e5 (fun h => e6 (eq_of_beq h)) (by omega)
          show X_gd (D1 + 1) (X_rep s _ es) ∧ X_rn row (X_rep s _ es) ∧ (b_ser (X_rep s _ es)).length ≤ _
          rw [h3]
          refine ⟨X_gd.rep (e := e) (by rw [← h1]; exact hg) hge.1 (X_gv hk b1 (by omega) fun h => b2 (by have h : e.1 = 4 := h; simp [h])), X_rn.rep (e := e) (by rw [← h1]; exact hr) rfl, ?_⟩
          rw [b_ser_mid]
          show _ + (e.2.1.length + (b_doc _).length + 2) + _ ≤ _
          rw [b_doc_len]
          omega
        · exact ⟨hg, hr, Nat.le_refl _⟩
