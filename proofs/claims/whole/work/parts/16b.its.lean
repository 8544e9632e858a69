/-! LEAVES WITH ITEMS: how many -/
def L_m : Nat → List Nat × List Nat
  | 0 => ([1], [1])
  | r + 1 => (0 :: L_zm (L_m r).1 (L_zp (L_m r).2 (0 :: (L_m r).1)), 0 :: (L_m r).1)
theorem L_mB : ∀ r : Fin 9, (L_m r.val).2.all (fun w => decide (w ≤ 10)) = true := by decide +kernel
def L_of (f : b_E → Nat) : Option b_E → Nat
  | none => 0
  | some y => f y
def L_sf (f : b_E → Nat) (l : List (Option b_E)) : Nat := (l.map (L_of f)).sum
theorem L_sf_app (f : b_E → Nat) (x y : List (Option b_E)) : L_sf f (x ++ y) = L_sf f x + L_sf f y := by
  unfold L_sf
  rw [List.map_append, List.sum_append]
theorem L_v_W (f : b_E → Nat) : ∀ (D : Nat) (e : b_E) (st : List (List Int)), L_sf f (L_v D e st) ≤ L_W f (L_m st.length).1 e ∧ (e.1 = 3 → L_sf f (L_v D e st) ≤ L_W f (L_m st.length).2 e) := by
  have h0 : ∀ e : b_E, L_sf f [some e] ≤ L_W f [1] e := fun e => by
    show f e + 0 ≤ f e * 1 + _
    omega
  intro D
  induction D with
  | zero =>
    intro e st
    rcases st with _ | ⟨s, r⟩
    · exact ⟨h0 e, fun _ => h0 e⟩
    · exact ⟨Nat.zero_le _, fun _ => Nat.zero_le _⟩
  | succ D ih =>
    intro e st
    rcases st with _ | ⟨s, r⟩
    · rw [L_v_nil]
      exact ⟨h0 e, fun _ => h0 e⟩
    · rw [List.length_cons]
      have h3 : e.1 = 3 → L_sf f (L_v (D + 1) e (s :: r)) ≤ L_W f (L_m (r.length + 1)).2 e := by
        intro hk
        show L_sf f (if e.1 = 3 then _ else _ : List (Option b_E)) ≤ f e * 0 + (if e.1 = 3 ∨ e.1 = 4 then ((b_ch e.2.2).map (L_W f (L_m r.length).1)).sum else 0)
        rw [if_pos hk, if_pos (Or.inl hk)]
        rcases hf : L_fn s (b_ch e.2.2) with _ | z
        · exact Nat.zero_le _
        · have h1 := (ih z r).1
          have h2 := L_sum_mem (f := L_W f (L_m r.length).1) (L_fn_mem hf).1
          show L_sf f (L_v D z r) ≤ _
          omega
      refine ⟨?_, h3⟩
      by_cases hk : e.1 = 3
      · refine Nat.le_trans (h3 hk) ?_
        show f e * 0 + _ ≤ f e * 0 + _
        rw [if_pos (Or.inl hk), if_pos (Or.inl hk)]
        have := L_sum_le (es := b_ch e.2.2) (f := L_W f (L_m r.length).1) (h := L_W f (L_zm (L_m r.length).1 (L_zp (L_m r.length).2 (0 :: (L_m r.length).1)))) fun z _ => L_W_zm1
        omega
      · by_cases hk4 : e.1 = 4
        · have hA : ∀ z : b_E, L_W f (L_m r.length).1 z ≤ L_W f (L_zm (L_m r.length).1 (L_zp (L_m r.length).2 (0 :: (L_m r.length).1))) z := fun z => L_W_zm1
          have hB : ∀ z : b_E, L_W f (L_m r.length).2 z + L_W f (0 :: (L_m r.length).1) z ≤ L_W f (L_zm (L_m r.length).1 (L_zp (L_m r.length).2 (0 :: (L_m r.length).1))) z := by
            intro z
            have h1 := @L_W_zm2 f (L_m r.length).1 (L_zp (L_m r.length).2 (0 :: (L_m r.length).1)) z
            rw [L_W_zp] at h1
            omega
          have hC : ∀ z : b_E, L_sf f (if z.1 = 3 then L_v D z (s :: r) else []) ≤ L_W f (L_zm (L_m r.length).1 (L_zp (L_m r.length).2 (0 :: (L_m r.length).1))) z := by
            intro z
            split
            · rename_i hz
              have h1 := hB z
              have h2 : L_sf f (L_v D z (s :: r)) ≤ L_W f (0 :: (L_m r.length).1) z := (ih z (s :: r)).2 hz
              omega
            · exact Nat.zero_le _
          have hF : ∀ es : List b_E, L_sf f (es.flatMap (fun z => if z.1 = 3 then L_v D z (s :: r) else [])) ≤ (es.map (L_W f (L_zm (L_m r.length).1 (L_zp (L_m r.length).2 (0 :: (L_m r.length).1))))).sum := by
            intro es
            induction es with
            | nil => exact Nat.le_refl _
            | cons z es ihz =>
              rw [List.flatMap_cons, L_sf_app, List.map_cons, List.sum_cons]
              exact Nat.add_le_add (hC z) ihz
          have hG : ∀ es : List b_E, L_sf f (match L_fn s es with
              | none => []
              | some z => L_v D z r : List (Option b_E)) + L_sf f (es.flatMap (fun z => if z.1 = 3 then L_v D z (s :: r) else [])) ≤ (es.map (L_W f (L_zm (L_m r.length).1 (L_zp (L_m r.length).2 (0 :: (L_m r.length).1))))).sum := by
            intro es
            induction es with
            | nil => exact Nat.le_refl _
            | cons z es ihz =>
              rw [List.flatMap_cons, L_sf_app, List.map_cons, List.sum_cons]
              by_cases hz : z.2.1 = s
              · have : L_fn s (z :: es) = some z := if_pos hz
                rw [this]
                have h1 := hF es
                show L_sf f (L_v D z r) + _ ≤ _
                by_cases hz3 : z.1 = 3
                · have h2 := hB z
                  have h4 : L_sf f (L_v D z (s :: r)) ≤ L_W f (0 :: (L_m r.length).1) z := (ih z (s :: r)).2 hz3
                  have h5 := (ih z r).2 hz3
                  rw [if_pos hz3]
                  omega
                · have h2 := hA z
                  have h5 := (ih z r).1
                  rw [if_neg hz3]
                  show _ + (0 + _) ≤ _
                  omega
              · have : L_fn s (z :: es) = L_fn s es := if_neg hz
                rw [this]
                have h1 := hC z
                omega
          show L_sf f (if e.1 = 3 then _ else if e.1 = 4 then _ else _ : List (Option b_E)) ≤ f e * 0 + _
          rw [if_neg hk, if_pos hk4, if_pos (Or.inr hk4), L_sf_app]
          exact Nat.le_trans (hG (b_ch e.2.2)) (Nat.le_add_left _ _)
        · show L_sf f (if e.1 = 3 then _ else if e.1 = 4 then _ else _ : List (Option b_E)) ≤ _
          rw [if_neg hk, if_neg hk4]
          exact Nat.zero_le _
noncomputable def L_ic (e : b_E) : Nat := if e.1 = 4 then (b_ch e.2.2).length else 0
theorem L_W_its {m : Nat} : ∀ {c : List Nat} {D : Nat} {e : b_E}, (∀ w ∈ c, w ≤ m) → b_gv D e.1 e.2.2 → 2 * L_W L_ic c e + 2 * m ≤ m * (b_el e.1 e.2.1 e.2.2).length := by
  have hmin : ∀ (m : Nat) (e : b_E), 2 * m ≤ m * (b_el e.1 e.2.1 e.2.2).length := fun m e => by
    rw [b_el_len, Nat.mul_comm 2 m]
    exact Nat.mul_le_mul_left m (by omega)
  intro c
  induction c with
  | nil =>
    intro D e _ _
    show 2 * 0 + _ ≤ _
    have := hmin m e
    omega
  | cons w c ih =>
    intro D e hw hg
    show 2 * (L_ic e * w + _) + _ ≤ _
    by_cases hk : e.1 = 3 ∨ e.1 = 4
    · obtain ⟨D1, es, e1, e2, e3, e4, e5, e6, e7⟩ := b_gv_doc hg hk
      rw [if_pos hk, e7]
      have h1 := hw w List.mem_cons_self
      have h2 : ∀ fs : List b_E, (∀ f ∈ fs, f ∈ es) → 2 * (fs.map (L_W L_ic c)).sum + 2 * (m * fs.length) ≤ m * (b_ser fs).length := by
        intro fs
        induction fs with
        | nil => exact fun _ => Nat.zero_le _
        | cons f fs ihf =>
          intro hf
          have k1 := ih (fun x hx => hw x (List.mem_cons_of_mem _ hx)) (e5 f (hf f List.mem_cons_self)).2
          have k2 := ihf fun x hx => hf x (List.mem_cons_of_mem _ hx)
          rw [List.map_cons, List.sum_cons, b_ser_len, List.length_cons, Nat.mul_add, Nat.mul_add m, Nat.mul_add 2 (m * fs.length), Nat.mul_add m]
          omega
      have h3 := h2 es fun _ h => h
      have h4 : (b_el e.1 e.2.1 e.2.2).length = (b_ser es).length + (7 + e.2.1.length) := by
        rw [b_el_len, e2, b_doc_len]
        omega
      rw [h4, show m * ((b_ser es).length + (7 + e.2.1.length)) = m * (b_ser es).length + m * (7 + e.2.1.length) from Nat.mul_add _ _ _]
      have h5 : L_ic e * w ≤ m * es.length := by
        rw [Nat.mul_comm m]
        unfold L_ic
        split
        · rw [e7]
          exact Nat.mul_le_mul_left _ h1
        · rw [Nat.zero_mul]
          exact Nat.zero_le _
      have h6 : 7 * m ≤ m * (7 + e.2.1.length) := by
        rw [Nat.mul_comm 7 m]
        exact Nat.mul_le_mul_left m (by omega)
      omega
    · rw [if_neg hk, show L_ic e = 0 from if_neg fun z => hk (Or.inr z)]
      have := hmin m e
      omega
/-- the items of leaves that are rows -/
noncomputable def L_its : Option (Int × b_E) → List (Option (Int × b_E))
  | none => []
  | some z => if z.2.1 = 4 then (L_ch z.1 z.2).map some else []
theorem L_its_len : ∀ ls : List (Option (Int × b_E)), (ls.flatMap L_its).length = L_sf L_ic (ls.map L_nop) := by
  intro ls
  induction ls with
  | nil => rfl
  | cons y ls ih =>
    rw [List.flatMap_cons, List.length_append, List.map_cons, ih]
    show _ = L_of L_ic (L_nop y) + L_sf L_ic (ls.map L_nop)
    congr 1
    rcases y with _ | z
    · rfl
    · show (if z.2.1 = 4 then (L_ch z.1 z.2).map some else []).length = L_ic z.2
      unfold L_ic
      split
      · rw [List.length_map]
        exact L_at_len _ _
      · rfl
/-- how many they are of a stored document -/
theorem L_go_its {B : Int → Int} {n o : Int} {D : Nat} {e : b_E} {st : List (List Int)} (hs : b_st B n o D e.1 e.2.1 e.2.2) (hk : e.1 = 3) (hl : (b_el e.1 e.2.1 e.2.2).length ≤ 2100) (h8 : st.length ≤ 8) : (L_go D o e st).length ≤ 3301 ∧ ((L_go D o e st).flatMap L_its).length ≤ 10500 := by
  have h1 := (L_v_len D e st).2 hk
  have h2 := (L_v_W L_ic D e st).2 hk
  rw [← L_go_len D o e st] at h1
  rw [← L_go_v D o e st, ← L_its_len] at h2
  have h3 := L_W_size (m := 11) (c := (L_t st.length).2) (fun w hw => of_decide_eq_true (List.all_eq_true.mp (L_tB ⟨st.length, by omega⟩) w hw)) hs.2.2.1
  have h4 := L_W_its (m := 10) (c := (L_m st.length).2) (fun w hw => of_decide_eq_true (List.all_eq_true.mp (L_mB ⟨st.length, by omega⟩) w hw)) hs.2.2.1
  exact ⟨by omega, by omega⟩
