/-! FILTERS: what they say; how much room their leaves take -/
def L_Cs : List Nat := [2, 2, 3, 3, 5, 5, 9, 9, 17, 17, 28, 28, 34, 34, 35, 35, 35, 35, 35, 35, 35, 35]
/-- all that a filter's leaves take at a document so deep -/
def L_C (D : Nat) : List Nat := L_Cs.take (D + 1)
def L_U : Nat → List Nat
  | 0 => []
  | D + 1 => 0 :: L_C D
theorem L_CA : ∀ D : Fin 18, ∀ r : Fin 9, L_le ((L_zp [2] (L_zp (L_t r.val).2 (0 :: L_U D.val))).take (D.val + 2)) (L_C (D.val + 1)) = true := by decide +kernel
theorem L_CB : ∀ D : Fin 18, L_le (L_U D.val) (L_C D.val) = true ∧ L_le (L_zp [1] (L_U D.val)) (L_C D.val) = true ∧ (L_C D.val).all (fun w => decide (w ≤ 35)) = true := by decide +kernel
theorem L_tB : ∀ r : Fin 9, (L_t r.val).2.all (fun w => decide (w ≤ 11)) = true := by decide +kernel
theorem L_W_take {g : b_E → Nat} : ∀ {c : List Nat} {D : Nat} {e : b_E}, b_gv D e.1 e.2.2 → L_W g c e = L_W g (c.take (D + 1)) e := by
  intro c
  induction c with
  | nil => exact fun _ => rfl
  | cons w c ih =>
    intro D e hg
    show g e * w + _ = g e * w + _
    by_cases hk : e.1 = 3 ∨ e.1 = 4
    · obtain ⟨D1, es, rfl, e2, e3, e4, e5, e6, e7⟩ := b_gv_doc hg hk
      rw [if_pos hk, if_pos hk, e7]
      congr 1
      have : ∀ fs : List b_E, (∀ f ∈ fs, f ∈ es) → (fs.map (L_W g c)).sum = (fs.map (L_W g (c.take (D1 + 1)))).sum := by
        intro fs
        induction fs with
        | nil => exact fun _ => rfl
        | cons f fs ihf =>
          intro hf
          rw [List.map_cons, List.map_cons, List.sum_cons, List.sum_cons, ih (e5 f (hf f List.mem_cons_self)).2, ihf fun x hx => hf x (List.mem_cons_of_mem _ hx)]
      exact this es fun _ h => h
    · rw [if_neg hk, if_neg hk]
theorem L_W_ch {g : b_E → Nat} {c : List Nat} {w : Nat} {e x : b_E} (hk : e.1 = 3 ∨ e.1 = 4) (hx : x ∈ b_ch e.2.2) : g e * w + L_W g c x ≤ L_W g (w :: c) e := by
  show _ ≤ g e * w + _
  rw [if_pos hk]
  have := L_sum_mem (f := L_W g c) hx
  omega
/-- a leaf that a path leads to from a value -/
theorem L_go_W {B : Int → Int} {n : Int} : ∀ (D : Nat) {o : Int} {e : b_E} {st : List (List Int)}, D ≤ 17 → b_st B n o D e.1 e.2.1 e.2.2 → ∀ y, some y ∈ L_go D o e st → ∃ D1, D1 ≤ D ∧ b_st B n y.1 D1 y.2.1 y.2.2.1 y.2.2.2 ∧ L_W L_c1 (L_U D1) y.2 ≤ L_W L_c1 (L_U D) e := by
  intro D
  induction D with
  | zero =>
    intro o e st _ hs y hy
    rcases st with _ | ⟨s, r⟩
    · rw [L_go_nil] at hy
      have := List.mem_singleton.mp hy
      cases this
      exact ⟨0, Nat.le_refl _, hs, Nat.le_refl _⟩
    · exact absurd (List.mem_singleton.mp hy) (by simp)
  | succ D ih =>
    intro o e st hD hs y hy
    rcases st with _ | ⟨s, r⟩
    · rw [L_go_nil] at hy
      have := List.mem_singleton.mp hy
      cases this
      exact ⟨D + 1, Nat.le_refl _, hs, Nat.le_refl _⟩
    · by_cases hk : e.1 = 3 ∨ e.1 = 4
      · obtain ⟨D1, es, e1, e2, e3, e4, e5, e6, e7, e8⟩ := hs.ch hk
        obtain rfl : D = D1 := by omega
        have e7 : L_ch o e = L_at (o + 6 + e.2.1.length) es := e7
        have key : ∀ (z : Int × b_E) (r : List (List Int)), z ∈ L_ch o e → some y ∈ L_go D z.1 z.2 r → ∃ D1, D1 ≤ D + 1 ∧ b_st B n y.1 D1 y.2.1 y.2.2.1 y.2.2.2 ∧ L_W L_c1 (L_U D1) y.2 ≤ L_W L_c1 (L_U (D + 1)) e := by
          intro z r hz hy
          rw [e7] at hz
          have hz2 := L_at_st e4 z hz
          obtain ⟨D2, g1, g2, g3⟩ := ih (by omega) hz2.1 y hy
          refine ⟨D2, by omega, g2, Nat.le_trans g3 ?_⟩
          have h1 := (L_CB ⟨D, by omega⟩).1
          have h2 : L_W L_c1 (L_U D) z.2 ≤ L_W L_c1 (L_C D) z.2 := L_W_le h1
          have h3 := L_W_ch (g := L_c1) (c := L_C D) (w := 0) hk (x := z.2) (by rw [e5]; exact hz2.2)
          exact Nat.le_trans h2 (Nat.le_trans (Nat.le_add_left _ _) h3)
        rcases hk with hk | hk
        · rw [L_go3 hk] at hy
          rcases hf : L_find s (L_ch o e) with _ | z
          · rw [hf] at hy
            exact absurd (List.mem_singleton.mp hy) (by simp)
          · rw [hf] at hy
            exact key z r (L_find_mem hf).1 hy
        · rw [L_go4 hk, List.mem_append] at hy
          rcases hy with hy | hy
          · rcases hf : L_find s (L_ch o e) with _ | z
            · rw [hf] at hy
              exact absurd hy (by simp)
            · rw [hf] at hy
              exact key z r (L_find_mem hf).1 hy
          · obtain ⟨z, hz, hy⟩ := List.mem_flatMap.mp hy
            split at hy
            · exact key z _ hz hy
            · exact absurd hy (by simp)
      · rw [L_gox (fun g => hk (Or.inl g)) (fun g => hk (Or.inr g))] at hy
        exact absurd (List.mem_singleton.mp hy) (by simp)
/-- the leaves of a path at a document, and what stands in them, find room -/
theorem L_go_room {B : Int → Int} {n : Int} {D : Nat} {o : Int} {e : b_E} {st : List (List Int)} (hD : D ≤ 17) (hs : b_st B n o (D + 1) e.1 e.2.1 e.2.2) (hk : e.1 = 3) (h1 : 1 ≤ st.length) (h8 : st.length ≤ 8) : (L_go (D + 1) o e st).length + 1 ≤ L_W L_c1 (L_C (D + 1)) e ∧ 2 ≤ L_W L_c1 (L_C (D + 1)) e ∧ ∀ y, some y ∈ L_go (D + 1) o e st → ∃ D1, D1 ≤ D ∧ b_st B n y.1 D1 y.2.1 y.2.2.1 y.2.2.2 ∧ y.2.2.2.length ≤ e.2.2.length ∧ (L_go (D + 1) o e st).length + 1 + L_W L_c1 (L_U D1) y.2 ≤ L_W L_c1 (L_C (D + 1)) e ∧ 2 + L_W L_c1 (L_U D1) y.2 ≤ L_W L_c1 (L_C (D + 1)) e := by
  have hl := (L_v_len (D + 1) e st).2 hk
  rw [← L_go_len (D + 1) o e st] at hl
  have hA : L_W L_c1 ((L_zp [2] (L_zp (L_t st.length).2 (0 :: L_U D))).take (D + 2)) e ≤ L_W L_c1 (L_C (D + 1)) e := L_W_le (L_CA ⟨D, by omega⟩ ⟨st.length, by omega⟩)
  rw [← L_W_take hs.2.2.1, L_W_zp, L_W_zp] at hA
  have h2 : L_W L_c1 [2] e = 2 := by
    show L_c1 e * 2 + _ = 2
    have : ∀ es : List b_E, (es.map (L_W L_c1 [])).sum = 0 := by
      intro es
      induction es with
      | nil => rfl
      | cons y es ihy => rw [List.map_cons, List.sum_cons, ihy]; rfl
    rw [if_pos (Or.inl hk), this, show L_c1 e = 1 from if_pos (Or.inl hk)]
  refine ⟨by omega, by omega, fun y hy => ?_⟩
  rcases st with _ | ⟨s, r⟩
  · exact absurd h1 (by decide)
  · obtain ⟨D1, es, e1, e2, e3, e4, e5, e6, e7, e8⟩ := hs.ch (Or.inl hk)
    obtain rfl : D = D1 := by omega
    have e7 : L_ch o e = L_at (o + 6 + e.2.1.length) es := e7
    have hv := (L_go_st (D + 1) hs y hy).2
    rw [L_go3 hk] at hy
    rcases hf : L_find s (L_ch o e) with _ | z
    · rw [hf] at hy
      exact absurd (List.mem_singleton.mp hy) (by simp)
    · rw [hf] at hy
      have hz := (L_find_mem hf).1
      rw [e7] at hz
      have hz2 := L_at_st e4 z hz
      obtain ⟨D2, g1, g2, g3⟩ := L_go_W D (by omega) hz2.1 y hy
      have h3 := L_W_ch (g := L_c1) (c := L_U D) (w := 0) (Or.inl hk) (x := z.2) (by rw [e5]; exact hz2.2)
      exact ⟨D2, g1, g2, hv, by omega, by omega⟩
theorem L_U_ch {B : Int → Int} {n : Int} {D : Nat} {o : Int} {e x : b_E} (hs : b_st B n o D e.1 e.2.1 e.2.2) (hk : e.1 = 4) (hD : D ≤ 18) (hx : x ∈ b_ch e.2.2) : ∃ D1, D = D1 + 1 ∧ L_W L_c1 (L_C D1) x ≤ L_W L_c1 (L_U D) e ∧ ((x.1 = 3 ∨ x.1 = 4) → 1 + L_W L_c1 (L_U D1) x ≤ L_W L_c1 (L_U D) e) := by
  obtain ⟨D1, es, rfl, -⟩ := hs.ch (Or.inr hk)
  have h1 : 0 + L_W L_c1 (L_C D1) x ≤ L_W L_c1 (L_U (D1 + 1)) e := by
    have := L_W_ch (g := L_c1) (c := L_C D1) (w := 0) (Or.inr hk) hx
    rwa [Nat.mul_zero] at this
  refine ⟨D1, rfl, by omega, fun hx3 => ?_⟩
  have h2 : L_W L_c1 (L_zp [1] (L_U D1)) x ≤ L_W L_c1 (L_C D1) x := L_W_le (L_CB ⟨D1, by omega⟩).2.1
  rw [L_W_zp] at h2
  have h3 : 1 ≤ L_W L_c1 [1] x := by
    show 1 ≤ L_c1 x * 1 + _
    rw [show L_c1 x = 1 from if_pos hx3]
    omega
  omega
/-- all in all, by bytes -/
theorem L_C_size {B : Int → Int} {n : Int} {D : Nat} {o : Int} {e : b_E} (hs : b_st B n o D e.1 e.2.1 e.2.2) (hD : D ≤ 17) (hl : e.2.1.length + e.2.2.length ≤ 2098) : L_W L_c1 (L_C D) e ≤ 10500 := by
  have h1 := (L_CB ⟨D, by omega⟩).2.2
  have h2 := L_W_size (m := 35) (c := L_C D) (fun w hw => of_decide_eq_true (List.all_eq_true.mp h1 w hw)) hs.2.2.1
  rw [b_el_len] at h2
  omega
/-! what filters say -/
def F_it (z : b_E) : List b_E → List b_E := fun es => if z.1 = 4 then es else []
noncomputable def F_its (z : b_E) : List b_E := F_it z (b_ch z.2.2)
noncomputable def F_eq (x y : b_E) : Bool := decide (v_cmp 61 x.1 x.2.2 y.1 y.2.2 = 0)
noncomputable def F_eqs (v : b_E) (vs : List (Option b_E)) : Bool := vs.any fun z => match z with
  | none => v.1 == 10
  | some x => F_eq x v || (F_its x).any fun y => F_eq y v
noncomputable def F_in (v : b_E) (vs : List (Option b_E)) : Bool := (b_ch v.2.2).any fun y => F_eqs y vs
noncomputable def F_so (c : Int) (x v : b_E) : Bool := b_cl x.1 == b_cl v.1 && (if c = 5 then decide (v_cmp 61 x.1 x.2.2 v.1 v.2.2 < 0) else if c = 6 then !decide (0 < v_cmp 61 x.1 x.2.2 v.1 v.2.2) else if c = 7 then decide (0 < v_cmp 61 x.1 x.2.2 v.1 v.2.2) else !decide (v_cmp 61 x.1 x.2.2 v.1 v.2.2 < 0))
noncomputable def F_sos (c : Int) (v : b_E) (vs : List (Option b_E)) : Bool := if v.1 = 10 then (c == 6 || c == 8) && F_eqs v vs else vs.any fun z => match z with
  | none => false
  | some x => F_so c x v || (F_its x).any fun y => F_so c y v
def F_ex (vs : List (Option b_E)) : Bool := vs.any Option.isSome
noncomputable def F_cnt (X : Int64) (vs : List (Option b_E)) : Bool := vs.any fun z => match z with
  | none => false
  | some x => x.1 == 4 && decide (g_lc (Int64.ofInt (b_ch x.2.2).length) X = 0)
noncomputable def F_lv (d : b_E) (nm : List Int) : List (Option b_E) := match L_v 20 d (p_sp nm) with
  | [] => [none]
  | a :: l => a :: l
noncomputable def F_cdn (P : (List b_E → b_E → Bool) × (List b_E → List (Option b_E) → Bool)) (c : b_E) (vs : List (Option b_E)) : Bool :=
  if F_cd c.2.1 = 1 then F_eqs c vs else if F_cd c.2.1 = 2 then !F_eqs c vs else if F_cd c.2.1 = 3 then F_in c vs else if F_cd c.2.1 = 4 then !F_in c vs
  else if F_cd c.2.1 = 9 then F_ex vs == (c.2.2 == [1])
  else if F_cd c.2.1 = 10 then F_cnt (v_num c.1 c.2.2) vs
  else if F_cd c.2.1 = 11 then vs.any (fun z => match z with
    | none => false
    | some y => (F_its y).any fun x => if F_ci c then P.2 (b_ch c.2.2) [some x] else x.1 == 3 && P.1 (b_ch c.2.2) x)
  else if F_cd c.2.1 = 12 then !P.2 (b_ch c.2.2) vs
  else F_sos (F_cd c.2.1) c vs
noncomputable def F_one (P : (List b_E → b_E → Bool) × (List b_E → List (Option b_E) → Bool)) (e d : b_E) : Bool :=
  if F_dl e.2.1 then (if e.2.1 = b_tx 14 then (b_ch e.2.2).all (fun x => P.1 (b_ch x.2.2) d) else if e.2.1 = b_tx 15 then (b_ch e.2.2).any (fun x => P.1 (b_ch x.2.2) d) else !(b_ch e.2.2).any (fun x => P.1 (b_ch x.2.2) d))
  else if F_cs e then P.2 (b_ch e.2.2) (F_lv d e.2.1) else F_eqs e (F_lv d e.2.1)
/-- whether a filter holds for a document; whether conditions hold by leaves -/
noncomputable def F_X : Nat → (List b_E → b_E → Bool) × (List b_E → List (Option b_E) → Bool)
  | 0 => (fun _ _ => true, fun _ _ => true)
  | n + 1 => (fun es d => es.all fun e => F_one (F_X n) e d, fun es vs => es.all fun c => F_cdn (F_X n) c vs)
/-- filters and conditions without faults -/
noncomputable def F_V : Nat → (List b_E → Prop) × (List b_E → Prop)
  | 0 => (fun _ => True, fun _ => True)
  | n + 1 => (fun es => ∀ e ∈ es, (F_dl e.2.1 = true → F_jo e.2.1 = true ∧ e.1 = 4 ∧ ∀ x ∈ b_ch e.2.2, x.1 = 3 ∧ (F_V n).1 (b_ch x.2.2)) ∧ (F_dl e.2.1 = false → p_plain e.2.1 ∧ (F_cs e = true → (F_V n).2 (b_ch e.2.2))),
      fun es => ∀ c ∈ es, F_cd c.2.1 ≠ 0 ∧ F_rv (F_cd c.2.1) c = true ∧ (F_cd c.2.1 = 12 → (F_V n).2 (b_ch c.2.2)) ∧ (F_cd c.2.1 = 11 → F_ci c = true → (F_V n).2 (b_ch c.2.2)) ∧ (F_cd c.2.1 = 11 → F_ci c = false → (F_V n).1 (b_ch c.2.2)))
