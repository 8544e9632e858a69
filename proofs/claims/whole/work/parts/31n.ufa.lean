/-! REQUESTS: faults of changes are small; an update, its documents one by one -/
theorem X_inc_le (e p : b_E) : (X_inc e p).1 ≤ 9 := by
  unfold X_inc
  repeat' split
  all_goals simp
theorem X_last_le (op : Int) (p : b_E) (s : List Int) (o : Option b_E) : (X_last op p s o).1 ≤ 9 := by
  rcases o with _ | e
  · exact (by decide : (0 : Int) ≤ 9)
  · unfold X_last
    simp only
    split
    · exact (by decide : (0 : Int) ≤ 9)
    · split
      · exact X_inc_le _ _
      · split
        · split
          · exact (by decide : (0 : Int) ≤ 9)
          · exact (by decide : (0 : Int) ≤ 9)
        · exact (by decide : (7 : Int) ≤ 9)
theorem X_make_le (op : Int) (p : b_E) : ∀ (st : List (List Int)) (row : Bool) (es : List b_E), (X_make op p row es st).1 ≤ 9 := by
  intro st
  induction st with
  | nil =>
    intro row es
    rw [X_make.eq_def]
    exact (by decide : (0 : Int) ≤ 9)
  | cons x r ih =>
    intro row es
    rcases hf : L_fn x es with _ | e
    · by_cases hb : row = true ∧ x ≠ b_dg es.length
      · rw [X_mk_bad hf hb.1 hb.2]
        exact (by decide : (6 : Int) ≤ 9)
      · have hb2 : row = true → x = b_dg es.length := fun h => Classical.byContradiction fun z => hb ⟨h, z⟩
        rcases r with _ | ⟨y, r⟩
        · rw [X_mk_n1 hf hb2]
          exact (by decide : (0 : Int) ≤ 9)
        · rw [X_mk_n2 hf hb2]
          exact ih _ _
    · rcases r with _ | ⟨y, r⟩
      · rw [X_mk_s1 hf]
        exact X_last_le _ _ _ _
      · by_cases hk : e.1 = 3 ∨ e.1 = 4
        · rw [X_mk_s2 hf hk]
          exact ih _ _
        · rw [X_mk_s3 hf hk]
          exact (by decide : (6 : Int) ≤ 9)
theorem X_take_le (op : Int) (p : b_E) : ∀ (st : List (List Int)) (row : Bool) (es : List b_E), (X_take op p row es st).1 ≤ 9 := by
  intro st
  induction st with
  | nil =>
    intro row es
    rw [X_take.eq_def]
    exact (by decide : (0 : Int) ≤ 9)
  | cons x r ih =>
    intro row es
    rcases hf : L_fn x es with _ | e
    · rw [X_tk_n hf]
      exact (by decide : (0 : Int) ≤ 9)
    · rcases r with _ | ⟨y, r⟩
      · rw [X_tk_s1 hf]
        split
        · exact (by decide : (0 : Int) ≤ 9)
        · split
          · exact (by decide : (0 : Int) ≤ 9)
          · exact (by decide : (7 : Int) ≤ 9)
      · by_cases hk : e.1 = 3 ∨ e.1 = 4
        · rw [X_tk_s2 hf hk]
          exact ih _ _
        · rw [X_tk_s3 hf hk]
          exact (by decide : (0 : Int) ≤ 9)
theorem X_path_le (op : Int) (p : b_E) (es : List b_E) : (X_path op p es).1 ≤ 9 := by
  unfold X_path
  split
  · exact X_take_le _ _ _ _ _
  · exact X_make_le _ _ _ _ _
theorem Z_ps_le (op : Int) : ∀ (l : List (Int × b_E)) (s : List b_E × Int), 0 ≤ (Z_ps op s l).1.1 ∧ (Z_ps op s l).1.1 ≤ 9 := by
  intro l
  induction l with
  | nil => exact fun s => ⟨(by decide : (0 : Int) ≤ 0), (by decide : (0 : Int) ≤ 9)⟩
  | cons z l ih =>
    intro s
    rw [Z_ps_c]
    split
    · exact ih _
    · exact ⟨X_path_ge _ _ _, X_path_le _ _ _⟩
theorem Z_os_le : ∀ (l : List (Int × b_E)) (s : List b_E × Int), 0 ≤ (Z_os s l).1.1 ∧ (Z_os s l).1.1 ≤ 9 := by
  intro l
  induction l with
  | nil => exact fun s => ⟨(by decide : (0 : Int) ≤ 0), (by decide : (0 : Int) ≤ 9)⟩
  | cons z l ih =>
    intro s
    rw [Z_os_c]
    split
    · exact ih _
    · exact Z_ps_le _ _ _
theorem U_R_le (pc qc : Int) (cs es : List b_E) : 0 ≤ (U_R pc qc cs es).1.1 ∧ (U_R pc qc cs es).1.1 ≤ 9 := by
  have h := Z_os_le (L_at qc cs) (es, 0)
  unfold U_R Z_end
  split
  · split
    · exact ⟨(by decide : (0 : Int) ≤ 9), (by decide : (9 : Int) ≤ 9)⟩
    · split
      · exact ⟨(by decide : (0 : Int) ≤ 9), (by decide : (9 : Int) ≤ 9)⟩
      · exact h
  · exact h
/-- what a document is after the update, and whether it is another -/
noncomputable def U_nd (hd : List b_E → Bool) (qc : Int) (cs : List b_E) (es : List b_E) : List b_E := if hd es = true then (U_R (-1) qc cs es).2.1 else es
noncomputable def U_al (hd : List b_E → Bool) (qc : Int) (cs : List b_E) (es : List b_E) : Bool := hd es && decide ((U_R (-1) qc cs es).2.2 = 1)
noncomputable def U_nE (V : I_V) (es : List b_E) : Nat := (I_key1 V es).length * (I_key2 V es).length
noncomputable def U_dt (hd : List b_E → Bool) (qc : Int) (cs : List b_E) (V : I_V) (es : List b_E) : Int := if U_al hd qc cs es = true then (U_nE V (U_nd hd qc cs es) : Int) - U_nE V es else 0
def U_sm (f : List b_E → Int) : List (List b_E) → Int
  | [] => 0
  | es :: r => f es + U_sm f r
theorem U_sm_app (f : List b_E → Int) : ∀ A B : List (List b_E), U_sm f (A ++ B) = U_sm f A + U_sm f B := by
  intro A
  induction A with
  | nil =>
    intro B
    show U_sm f B = 0 + U_sm f B
    omega
  | cons a A ih =>
    intro B
    show f a + U_sm f (A ++ B) = f a + U_sm f A + U_sm f B
    rw [ih]
    omega
theorem U_sm_bd {f : List b_E → Int} {k : Int} (hk : 0 ≤ k) : ∀ A : List (List b_E), (∀ es ∈ A, -k ≤ f es ∧ f es ≤ k) → -(k * A.length) ≤ U_sm f A ∧ U_sm f A ≤ k * A.length := by
  intro A
  induction A with
  | nil =>
    intro _
    show -(k * ((0 : Nat) : Int)) ≤ 0 ∧ (0 : Int) ≤ k * ((0 : Nat) : Int)
    simp
  | cons a A ih =>
    intro h
    obtain ⟨h1, h2⟩ := ih fun es he => h es (List.mem_cons_of_mem _ he)
    obtain ⟨h3, h4⟩ := h a List.mem_cons_self
    have e : k * ((a :: A).length : Int) = k * (A.length : Int) + k := by
      rw [List.length_cons, show ((A.length + 1 : Nat) : Int) = (A.length : Int) + 1 by omega, Int.mul_add, Int.mul_one]
    rw [e]
    show -(k * (A.length : Int) + k) ≤ f a + U_sm f A ∧ f a + U_sm f A ≤ k * (A.length : Int) + k
    omega
theorem U_nd_ok {hd : List b_E → Bool} {qc : Int} {cs es : List b_E} (hc : U_cs cs) (hg : X_gd 15 es) (hl : (b_doc es).length ≤ 2000) (h0 : hd es = true → (U_R (-1) qc cs es).1.1 = 0) : X_gd 15 (U_nd hd qc cs es) ∧ (b_doc (U_nd hd qc cs es)).length ≤ 2000 ∧ (U_al hd qc cs es = false → U_nd hd qc cs es = es) := by
  unfold U_nd U_al
  by_cases g : hd es = true
  · rw [if_pos g]
    obtain ⟨k1, k2, k3, k4⟩ := U_R_ok hc hg hl (h0 g)
    refine ⟨k1, k2, fun z => ?_⟩
    rw [g, Bool.true_and] at z
    rcases k3 with k3 | k3
    · exact k4 k3
    · rw [k3] at z
      exact absurd z (by decide)
  · rw [if_neg g]
    exact ⟨hg, hl, fun _ => rfl⟩
