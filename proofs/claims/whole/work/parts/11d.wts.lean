/-! LEAVES: how many there are at most; without places -/
theorem b_gv_le {D D2 : Nat} {k : Int} {vb : List Int} (h : b_gv D k vb) (hD : D ≤ D2) : b_gv D2 k vb := by
  obtain ⟨c, rfl⟩ : ∃ c, D2 = D + c := ⟨D2 - D, by omega⟩
  clear hD
  induction c with
  | zero => exact h
  | succ c ih => exact b_gv_up ih
theorem b_st.le {B : Int → Int} {n p k : Int} {D D2 : Nat} {nm vb : List Int} (h : b_st B n p D k nm vb) (hD : D ≤ D2) : b_st B n p D2 k nm vb := ⟨h.1, h.2.1, b_gv_le h.2.2.1 hD, h.2.2.2⟩
theorem L_go_st {B : Int → Int} {n : Int} : ∀ (D : Nat) {o : Int} {e : b_E} {st : List (List Int)}, b_st B n o D e.1 e.2.1 e.2.2 → ∀ y, some y ∈ L_go D o e st → b_st B n y.1 D y.2.1 y.2.2.1 y.2.2.2 ∧ y.2.2.2.length ≤ e.2.2.length := by
  intro D
  induction D with
  | zero =>
    intro o e st hs y hy
    rcases st with _ | ⟨s, r⟩
    · rw [L_go_nil] at hy
      have := List.mem_singleton.mp hy
      cases this
      exact ⟨hs, Nat.le_refl _⟩
    · exact absurd (List.mem_singleton.mp hy) (by simp)
  | succ D ih =>
    intro o e st hs y hy
    rcases st with _ | ⟨s, r⟩
    · rw [L_go_nil] at hy
      have := List.mem_singleton.mp hy
      cases this
      exact ⟨hs, Nat.le_refl _⟩
    · by_cases hk : e.1 = 3 ∨ e.1 = 4
      · obtain ⟨D1, es, e1, e2, e3, e4, e5, e6, e7, e8⟩ := hs.ch hk
        obtain rfl : D = D1 := by omega
        have e7 : L_ch o e = L_at (o + 6 + e.2.1.length) es := e7
        have key : ∀ (z : Int × b_E) (r : List (List Int)), z ∈ L_ch o e → some y ∈ L_go D z.1 z.2 r → b_st B n y.1 (D + 1) y.2.1 y.2.2.1 y.2.2.2 ∧ y.2.2.2.length ≤ e.2.2.length := by
          intro z r hz hy
          rw [e7] at hz
          obtain ⟨g1, g2⟩ := ih (L_at_st e4 z hz).1 y hy
          have g3 := L_at_vb hz
          have g4 := congrArg List.length e2
          rw [b_doc_len] at g4
          exact ⟨g1.le (by omega), by omega⟩
        rcases hk with hk | hk
        · rw [L_go3 hk] at hy
          rcases hf : L_find s (L_ch o e) with _ | z
          · rw [hf] at hy
            exact absurd (List.mem_singleton.mp hy) (by simp)
          · rw [hf] at hy
            exact key z r (L_find_mem hf).1 hy
        · rw [L_go4 hk, List.mem_append] at hy
          rcases hy with hy | hy
          · rcases hf : L_find s (L_ch o e) with _ | z
            · rw [hf] at hy
              exact absurd hy (by simp)
            · rw [hf] at hy
              exact key z r (L_find_mem hf).1 hy
          · obtain ⟨z, hz, hy⟩ := List.mem_flatMap.mp hy
            split at hy
            · exact key z _ hz hy
            · exact absurd hy (by simp)
      · rw [L_gox (fun g => hk (Or.inl g)) (fun g => hk (Or.inr g))] at hy
        exact absurd (List.mem_singleton.mp hy) (by simp)
def L_fn (x : List Int) : List b_E → Option b_E
  | [] => none
  | e :: es => if e.2.1 = x then some e else L_fn x es
theorem L_find_fn (x : List Int) : ∀ (es : List b_E) (q : Int), (L_find x (L_at q es)).map Prod.snd = L_fn x es := by
  intro es
  induction es with
  | nil => exact fun _ => rfl
  | cons e es ih =>
    intro q
    show (if e.2.1 = x then some (q, e) else L_find x (L_at (q + _) es)).map Prod.snd = if e.2.1 = x then some e else L_fn x es
    split
    · rfl
    · exact ih _
theorem L_fn_mem {x : List Int} : ∀ {es : List b_E} {z : b_E}, L_fn x es = some z → z ∈ es ∧ z.2.1 = x := by
  intro es
  induction es with
  | nil => exact fun h => absurd h (by simp [L_fn])
  | cons e es ih =>
    intro z h
    unfold L_fn at h
    split at h
    · cases h
      exact ⟨List.mem_cons_self, by assumption⟩
    · exact ⟨List.mem_cons_of_mem _ (ih h).1, (ih h).2⟩
theorem L_at_fm {α β : Type} (f : Int × b_E → List α) (g : b_E → List β) (u : α → β) (h : ∀ z, (f z).map u = g z.2) : ∀ (es : List b_E) (q : Int), ((L_at q es).flatMap f).map u = es.flatMap g := by
  intro es
  induction es with
  | nil => exact fun _ => rfl
  | cons e es ih =>
    intro q
    show (f (q, e) ++ (L_at (q + _) es).flatMap f).map u = g e ++ es.flatMap g
    rw [List.map_append, h, ih]
noncomputable def L_v : Nat → b_E → List (List Int) → List (Option b_E)
  | _, e, [] => [some e]
  | 0, _, _ :: _ => [none]
  | D + 1, e, s :: r =>
    if e.1 = 3 then (match L_fn s (b_ch e.2.2) with
      | none => [none]
      | some z => L_v D z r)
    else if e.1 = 4 then (match L_fn s (b_ch e.2.2) with
      | none => []
      | some z => L_v D z r) ++ (b_ch e.2.2).flatMap (fun z => if z.1 = 3 then L_v D z (s :: r) else [])
    else [none]
def L_nop : Option (Int × b_E) → Option b_E := Option.map Prod.snd
theorem L_v_nil (D : Nat) (e : b_E) : L_v D e [] = [some e] := by cases D <;> rfl
theorem L_go_v : ∀ (D : Nat) (o : Int) (e : b_E) (st : List (List Int)), (L_go D o e st).map L_nop = L_v D e st := by
  intro D
  induction D with
  | zero =>
    intro o e st
    cases st <;> rfl
  | succ D ih =>
    intro o e st
    rcases st with _ | ⟨s, r⟩
    · rfl
    · have hm : (match L_find s (L_ch o e) with
          | none => [none]
          | some z => L_go D z.1 z.2 r).map L_nop = (match L_fn s (b_ch e.2.2) with
          | none => [none]
          | some z => L_v D z r) := by
        rw [← L_find_fn s (b_ch e.2.2) (o + 6 + e.2.1.length)]
        show _ = (match (L_find s (L_ch o e)).map Prod.snd with
          | none => [none]
          | some z => L_v D z r)
        rcases L_find s (L_ch o e) with _ | z
        · rfl
        · exact ih _ _ _
      have hm2 : (match L_find s (L_ch o e) with
          | none => []
          | some z => L_go D z.1 z.2 r).map L_nop = (match L_fn s (b_ch e.2.2) with
          | none => []
          | some z => L_v D z r) := by
        rw [← L_find_fn s (b_ch e.2.2) (o + 6 + e.2.1.length)]
        show _ = (match (L_find s (L_ch o e)).map Prod.snd with
          | none => []
          | some z => L_v D z r)
        rcases L_find s (L_ch o e) with _ | z
        · rfl
        · exact ih _ _ _
      show (if e.1 = 3 then _ else if e.1 = 4 then _ else _ : List (Option (Int × b_E))).map L_nop = if e.1 = 3 then _ else if e.1 = 4 then _ else _
      split
      · exact hm
      · split
        · rw [List.map_append]
          refine congr (congrArg HAppend.hAppend hm2) (L_at_fm _ _ _ (fun z => ?_) _ _)
          split
          · exact ih _ _ _
          · rfl
        · rfl
/-! weights by depth -/
noncomputable def L_W (g : b_E → Nat) : List Nat → b_E → Nat
  | [], _ => 0
  | w :: c, e => g e * w + (if e.1 = 3 ∨ e.1 = 4 then ((b_ch e.2.2).map (L_W g c)).sum else 0)
def L_c1 (e : b_E) : Nat := if e.1 = 3 ∨ e.1 = 4 then 1 else 0
def L_zm : List Nat → List Nat → List Nat
  | [], y => y
  | a :: x, [] => a :: x
  | a :: x, b :: y => max a b :: L_zm x y
def L_zp : List Nat → List Nat → List Nat
  | [], y => y
  | a :: x, [] => a :: x
  | a :: x, b :: y => (a + b) :: L_zp x y
def L_up : List Nat → List Nat
  | [] => [1]
  | a :: x => (a + 1) :: x
/-- pointwise not greater -/
def L_le : List Nat → List Nat → Bool
  | [], _ => true
  | a :: x, [] => a == 0 && L_le x []
  | a :: x, b :: y => decide (a ≤ b) && L_le x y
theorem L_sum_le {f h : b_E → Nat} : ∀ {es : List b_E}, (∀ e ∈ es, f e ≤ h e) → (es.map f).sum ≤ (es.map h).sum := by
  intro es
  induction es with
  | nil => exact fun _ => Nat.le_refl _
  | cons e es ih =>
    intro hh
    have h1 := hh e List.mem_cons_self
    have h2 := ih fun x hx => hh x (List.mem_cons_of_mem _ hx)
    rw [List.map_cons, List.map_cons, List.sum_cons, List.sum_cons]
    omega
theorem L_sum_mem {f : b_E → Nat} : ∀ {es : List b_E} {e : b_E}, e ∈ es → f e ≤ (es.map f).sum := by
  intro es
  induction es with
  | nil => exact fun h => absurd h (by simp)
  | cons x es ih =>
    intro e he
    rw [List.map_cons, List.sum_cons]
    rcases List.mem_cons.mp he with rfl | he
    · omega
    · have := ih he
      omega
theorem L_W_zero {g : b_E → Nat} : ∀ {x : List Nat} {e : b_E}, L_le x [] = true → L_W g x e = 0 := by
  intro x
  induction x with
  | nil => exact fun _ => rfl
  | cons a x ih =>
    intro e h
    have h : (a == 0 && L_le x []) = true := h
    rw [Bool.and_eq_true] at h
    have ha : a = 0 := eq_of_beq h.1
    subst ha
    show g e * 0 + (if e.1 = 3 ∨ e.1 = 4 then ((b_ch e.2.2).map (L_W g x)).sum else 0) = 0
    have : ∀ es : List b_E, (es.map (L_W g x)).sum = 0 := by
      intro es
      induction es with
      | nil => rfl
      | cons y es ihy => rw [List.map_cons, List.sum_cons, ihy, ih h.2]
    rw [this, Nat.mul_zero]
    split <;> rfl
theorem L_W_le {g : b_E → Nat} : ∀ {x y : List Nat} {e : b_E}, L_le x y = true → L_W g x e ≤ L_W g y e := by
  intro x
  induction x with
  | nil => exact fun _ => Nat.zero_le _
  | cons a x ih =>
    intro y e h
    rcases y with _ | ⟨b, y⟩
    · rw [L_W_zero h]
      exact Nat.zero_le _
    · have h : (decide (a ≤ b) && L_le x y) = true := h
      rw [Bool.and_eq_true] at h
      have h1 := of_decide_eq_true h.1
      show g e * a + (if e.1 = 3 ∨ e.1 = 4 then ((b_ch e.2.2).map (L_W g x)).sum else 0) ≤ g e * b + (if e.1 = 3 ∨ e.1 = 4 then ((b_ch e.2.2).map (L_W g y)).sum else 0)
      have h2 := Nat.mul_le_mul_left (g e) h1
      split
      · have h3 := L_sum_le (es := b_ch e.2.2) (f := L_W g x) (h := L_W g y) fun z _ => ih h.2
        omega
      · omega
theorem L_W_zm1 {g : b_E → Nat} : ∀ {x y : List Nat} {e : b_E}, L_W g x e ≤ L_W g (L_zm x y) e := by
  have : ∀ x y : List Nat, L_le x (L_zm x y) = true := by
    intro x
    induction x with
    | nil => exact fun _ => rfl
    | cons a x ih =>
      intro y
      have hr : ∀ x : List Nat, L_le x x = true := by
        intro x
        induction x with
        | nil => rfl
        | cons b x ihx =>
          show (decide (b ≤ b) && L_le x x) = true
          rw [ihx]
          simp
      rcases y with _ | ⟨b, y⟩
      · exact hr _
      · show (decide (a ≤ max a b) && L_le x (L_zm x y)) = true
        rw [ih]
        simp
        omega
  exact fun {x y e} => L_W_le (this x y)
theorem L_W_zm2 {g : b_E → Nat} : ∀ {x y : List Nat} {e : b_E}, L_W g y e ≤ L_W g (L_zm x y) e := by
  have hr : ∀ x : List Nat, L_le x x = true := by
    intro x
    induction x with
    | nil => rfl
    | cons b x ihx =>
      show (decide (b ≤ b) && L_le x x) = true
      rw [ihx]
      simp
  have : ∀ x y : List Nat, L_le y (L_zm x y) = true := by
    intro x
    induction x with
    | nil => exact hr
    | cons a x ih =>
      intro y
      rcases y with _ | ⟨b, y⟩
      · rfl
      · show (decide (b ≤ max a b) && L_le y (L_zm x y)) = true
        rw [ih]
        simp
        omega
  exact fun {x y e} => L_W_le (this x y)
theorem L_W_zp {g : b_E → Nat} : ∀ {x y : List Nat} {e : b_E}, L_W g (L_zp x y) e = L_W g x e + L_W g y e := by
  intro x
  induction x with
  | nil =>
    intro y e
    show L_W g y e = 0 + L_W g y e
    omega
  | cons a x ih =>
    intro y e
    rcases y with _ | ⟨b, y⟩
    · rfl
    · show g e * (a + b) + (if e.1 = 3 ∨ e.1 = 4 then ((b_ch e.2.2).map (L_W g (L_zp x y))).sum else 0) = (g e * a + (if e.1 = 3 ∨ e.1 = 4 then ((b_ch e.2.2).map (L_W g x)).sum else 0)) + (g e * b + (if e.1 = 3 ∨ e.1 = 4 then ((b_ch e.2.2).map (L_W g y)).sum else 0))
      have : ∀ es : List b_E, (es.map (L_W g (L_zp x y))).sum = (es.map (L_W g x)).sum + (es.map (L_W g y)).sum := by
        intro es
        induction es with
        | nil => rfl
        | cons z es ihz =>
          rw [List.map_cons, List.map_cons, List.map_cons, List.sum_cons, List.sum_cons, List.sum_cons, ihz, ih]
          omega
      rw [this, Nat.mul_add]
      split <;> omega
theorem L_W_up {g : b_E → Nat} {x : List Nat} {e : b_E} : L_W g x e + g e ≤ L_W g (L_up x) e := by
  rcases x with _ | ⟨a, x⟩
  · show 0 + g e ≤ g e * 1 + _
    omega
  · show g e * a + _ + g e ≤ g e * (a + 1) + _
    rw [Nat.mul_add]
    omega
/-- weights of leaves: of any value, of a document -/
def L_t : Nat → List Nat × List Nat
  | 0 => ([], [])
  | r + 1 => (0 :: L_zm (L_t r).1 (L_up (L_zp (L_t r).2 (0 :: (L_t r).1))), 0 :: (L_t r).1)
theorem L_v_len : ∀ (D : Nat) (e : b_E) (st : List (List Int)), (L_v D e st).length ≤ 1 + L_W L_c1 (L_t st.length).1 e ∧ (e.1 = 3 → (L_v D e st).length ≤ 1 + L_W L_c1 (L_t st.length).2 e) := by
  intro D
  induction D with
  | zero =>
    intro e st
    have : (L_v 0 e st).length = 1 := by cases st <;> rfl
    rw [this]
    exact ⟨by omega, fun _ => by omega⟩
  | succ D ih =>
    intro e st
    rcases st with _ | ⟨s, r⟩
    · rw [L_v_nil]
      exact ⟨Nat.le_add_right _ _, fun _ => Nat.le_add_right _ _⟩
    · rw [List.length_cons]
      have h3 : e.1 = 3 → (L_v (D + 1) e (s :: r)).length ≤ 1 + L_W L_c1 (L_t (r.length + 1)).2 e := by
        intro hk
        show (if e.1 = 3 then _ else _ : List (Option b_E)).length ≤ 1 + (L_c1 e * 0 + (if e.1 = 3 ∨ e.1 = 4 then ((b_ch e.2.2).map (L_W L_c1 (L_t r.length).1)).sum else 0))
        rw [if_pos hk, if_pos (Or.inl hk)]
        rcases hf : L_fn s (b_ch e.2.2) with _ | z
        · show 1 ≤ _
          omega
        · have h1 := (ih z r).1
          have h2 := L_sum_mem (f := L_W L_c1 (L_t r.length).1) (L_fn_mem hf).1
          show (L_v D z r).length ≤ _
          omega
      refine ⟨?_, h3⟩
      by_cases hk : e.1 = 3
      · refine Nat.le_trans (h3 hk) (Nat.add_le_add_left ?_ 1)
        show L_c1 e * 0 + _ ≤ L_c1 e * 0 + _
        rw [if_pos (Or.inl hk), if_pos (Or.inl hk)]
        have := L_sum_le (es := b_ch e.2.2) (f := L_W L_c1 (L_t r.length).1) (h := L_W L_c1 (L_zm (L_t r.length).1 (L_up (L_zp (L_t r.length).2 (0 :: (L_t r.length).1))))) fun z _ => L_W_zm1
        omega
      · by_cases hk4 : e.1 = 4
        · have hA : ∀ z : b_E, L_W L_c1 (L_t r.length).1 z ≤ L_W L_c1 (L_zm (L_t r.length).1 (L_up (L_zp (L_t r.length).2 (0 :: (L_t r.length).1)))) z := fun z => L_W_zm1
          have hB : ∀ z : b_E, z.1 = 3 → 1 + L_W L_c1 (L_t r.length).2 z + L_W L_c1 (0 :: (L_t r.length).1) z ≤ L_W L_c1 (L_zm (L_t r.length).1 (L_up (L_zp (L_t r.length).2 (0 :: (L_t r.length).1)))) z := by
            intro z hz
            have h1 := @L_W_zm2 L_c1 (L_t r.length).1 (L_up (L_zp (L_t r.length).2 (0 :: (L_t r.length).1))) z
            have h2 := @L_W_up L_c1 (L_zp (L_t r.length).2 (0 :: (L_t r.length).1)) z
            rw [L_W_zp] at h2
            have h4 : L_c1 z = 1 := if_pos (Or.inl hz)
            omega
          have hC : ∀ z : b_E, (if z.1 = 3 then L_v D z (s :: r) else []).length ≤ L_W L_c1 (L_zm (L_t r.length).1 (L_up (L_zp (L_t r.length).2 (0 :: (L_t r.length).1)))) z := by
            intro z
            split
            · rename_i hz
              have h1 := hB z hz
              have h2 : (L_v D z (s :: r)).length ≤ 1 + L_W L_c1 (0 :: (L_t r.length).1) z := (ih z (s :: r)).2 hz
              omega
            · exact Nat.zero_le _
          have hF : ∀ es : List b_E, (es.flatMap (fun z => if z.1 = 3 then L_v D z (s :: r) else [])).length ≤ (es.map (L_W L_c1 (L_zm (L_t r.length).1 (L_up (L_zp (L_t r.length).2 (0 :: (L_t r.length).1)))))).sum := by
            intro es
            induction es with
            | nil => exact Nat.le_refl _
            | cons z es ihz =>
              rw [List.flatMap_cons, List.length_append, List.map_cons, List.sum_cons]
              exact Nat.add_le_add (hC z) ihz
          have hG : ∀ es : List b_E, (match L_fn s es with
              | none => []
              | some z => L_v D z r : List (Option b_E)).length + (es.flatMap (fun z => if z.1 = 3 then L_v D z (s :: r) else [])).length ≤ 1 + (es.map (L_W L_c1 (L_zm (L_t r.length).1 (L_up (L_zp (L_t r.length).2 (0 :: (L_t r.length).1)))))).sum := by
            intro es
            induction es with
            | nil => exact Nat.zero_le _
            | cons z es ihz =>
              rw [List.flatMap_cons, List.length_append, List.map_cons, List.sum_cons]
              by_cases hz : z.2.1 = s
              · have : L_fn s (z :: es) = some z := if_pos hz
                rw [this]
                have h1 := hF es
                show (L_v D z r).length + _ ≤ _
                by_cases hz3 : z.1 = 3
                · have h2 := hB z hz3
                  have h4 : (L_v D z (s :: r)).length ≤ 1 + L_W L_c1 (0 :: (L_t r.length).1) z := (ih z (s :: r)).2 hz3
                  have h5 := (ih z r).2 hz3
                  rw [if_pos hz3]
                  omega
                · have h2 := hA z
                  have h5 := (ih z r).1
                  rw [if_neg hz3]
                  show _ + (0 + _) ≤ _
                  omega
              · have : L_fn s (z :: es) = L_fn s es := if_neg hz
                rw [this]
                have h1 := hC z
                omega
          show (if e.1 = 3 then _ else if e.1 = 4 then _ else _ : List (Option b_E)).length ≤ 1 + (L_c1 e * 0 + _)
          rw [if_neg hk, if_pos hk4, if_pos (Or.inr hk4), List.length_append]
          have := hG (b_ch e.2.2)
          omega
        · show (if e.1 = 3 then _ else if e.1 = 4 then _ else _ : List (Option b_E)).length ≤ _
          rw [if_neg hk, if_neg hk4]
          show 1 ≤ _
          omega
theorem L_go_len (D : Nat) (o : Int) (e : b_E) (st : List (List Int)) : (L_go D o e st).length = (L_v D e st).length := by
  rw [← L_go_v D o e st, List.length_map]
/-- how much a value weighs, by its bytes -/
theorem L_W_size {m : Nat} : ∀ {c : List Nat} {D : Nat} {e : b_E}, (∀ w ∈ c, w ≤ m) → b_gv D e.1 e.2.2 → 7 * L_W L_c1 c e ≤ m * (b_el e.1 e.2.1 e.2.2).length := by
  intro c
  induction c with
  | nil => exact fun _ _ => Nat.zero_le _
  | cons w c ih =>
    intro D e hw hg
    show 7 * (L_c1 e * w + _) ≤ _
    by_cases hk : e.1 = 3 ∨ e.1 = 4
    · obtain ⟨D1, es, e1, e2, e3, e4, e5, e6, e7⟩ := b_gv_doc hg hk
      rw [if_pos hk, e7, show L_c1 e = 1 from if_pos hk]
      have h1 := hw w List.mem_cons_self
      have h2 : ∀ fs : List b_E, (∀ f ∈ fs, f ∈ es) → 7 * (fs.map (L_W L_c1 c)).sum ≤ m * (b_ser fs).length := by
        intro fs
        induction fs with
        | nil => exact fun _ => Nat.zero_le _
        | cons f fs ihf =>
          intro hf
          rw [List.map_cons, List.sum_cons, b_ser_len, Nat.mul_add, Nat.mul_add]
          exact Nat.add_le_add (ih (fun x hx => hw x (List.mem_cons_of_mem _ hx)) (e5 f (hf f List.mem_cons_self)).2) (ihf fun x hx => hf x (List.mem_cons_of_mem _ hx))
      have h3 := h2 es fun _ h => h
      have h4 : (b_el e.1 e.2.1 e.2.2).length = (b_ser es).length + (7 + e.2.1.length) := by
        rw [b_el_len, e2, b_doc_len]
        omega
      rw [h4, show m * ((b_ser es).length + (7 + e.2.1.length)) = m * (b_ser es).length + m * (7 + e.2.1.length) from Nat.mul_add _ _ _]
      have h5 : 7 * w ≤ m * (7 + e.2.1.length) := by
        rw [Nat.mul_add]
        have := Nat.mul_le_mul_right 7 h1
        omega
      omega
    · rw [if_neg hk, show L_c1 e = 0 from if_neg hk]
      omega
