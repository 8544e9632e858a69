/-! REQUESTS, THE REFERENCE: a new index -/
theorem I_vok_mk {ea ed : b_E} {ra rd : List b_E} : I_vok (I_mkV ea ra ed rd) := by
  refine ⟨I_wy_w (ed :: rd), I_wy_w rd, ?_, fun st hst => ?_⟩
  · show p_sp (s_tx ea.2.2) ≠ []
    rw [p_sp_eq]
    simp
  · rcases ra with _ | ⟨e, l⟩
    · exact absurd hst (by simp [I_mkV, I_p2])
    · have h1 : some (p_sp (s_tx e.2.2)) = some st := hst
      rw [← Option.some.inj h1, p_sp_eq]
      simp
def Z_t (ds : List (Int × List b_E)) : List (Bool × Int × List b_E) := ds.map fun z => (true, z)
theorem Z_t_2 (ds : List (Int × List b_E)) : ((Z_t ds).map fun z => z.2) = ds := by
  unfold Z_t
  rw [List.map_map]
  exact List.map_id ds
theorem Z_t_k (ds : List (Int × List b_E)) : Z_k (Z_t ds) = [] := by
  induction ds with
  | nil => rfl
  | cons z ds ih =>
    have h : Z_t (z :: ds) = (true, z) :: Z_t ds := rfl
    rw [h, Z_k_c, ih]
    rfl
theorem Z_t_mk (V : I_V) (ds : List (Int × List b_E)) : I_mk V (Z_t ds) = I_all V ds := by
  induction ds with
  | nil => rfl
  | cons z ds ih =>
    have h : Z_t (z :: ds) = (true, z) :: Z_t ds := rfl
    rw [h, I_mk_c, ih, I_all_c]
    rfl
theorem Z_t_app (A B : List (Int × List b_E)) : Z_t (A ++ B) = Z_t A ++ Z_t B := List.map_append
section ENI
variable {m d : Nat} {ρ : Nat → Nat} {M M1 : g_M} {st : Nat → I_T} {q : Nat → List (Nat × Int × List b_E)} {v : Nat → Int}
theorem R_V.EF {x x2 : Nat} {V : I_V} (hB : E_bk m ρ M) (h : R_V m (ρ 36) (ρ 37) (ρ 38) (g_i M (ρ 0)) x V M) (f : e_fr (R_EF m (ρ 0) (ρ 9) ρ x2) M M1) : R_V m (ρ 36) (ρ 37) (ρ 38) (g_i M1 (ρ 0)) x V M1 := by
  have hn : ∀ {k : Nat} {j : Int}, k ∈ E_bf → k ≠ 9 → k ≠ 0 → k ∉ R_fs → g_i M1 (ρ k) j = g_i M (ρ k) j := fun hk h9 h0 hf => f.2.1 _ _ (R_EF_n hB.rw (hB.ne hk (by decide) h9) (hB.nm hk) (hB.ne hk (by decide) h0) fun k2 hk2 => hB.ne hk (E_fs_bf k2 hk2).1 fun z => hf (z ▸ hk2))
  have hbk : ∀ j, j < 1014000 → g_i M1 (ρ 0) j = g_i M (ρ 0) j := fun j hj => f.2.1 _ _ fun z => by
    have := R_EF_b hB.rw (hB.ne (by decide) (by decide) (by decide)) z
    omega
  obtain ⟨⟨a1, a2, a3, a4, a5, a6⟩, b1, ⟨y1, e1, e2, e3, e4, e5⟩, b3, b4, b5, b6, b7, b8, b9⟩ := h
  refine ⟨⟨by rw [f.2.2]; exact a1, f.A a2, by rw [f.2.2]; exact a3, f.A a4, by rw [f.2.2]; exact a5, f.A a6⟩, b1, ⟨y1, e1, b_at_keep e2 fun j j1 j2 => hbk j (by omega), e3, e4, by rw [hn (by decide) (by decide) (by decide) (by decide)]; exact e5⟩, by rw [hn (by decide) (by decide) (by decide) (by decide)]; exact b3, by rw [hn (by decide) (by decide) (by decide) (by decide)]; exact b4, fun st2 hst2 => ?_, b6, b7, by rw [hn (by decide) (by decide) (by decide) (by decide)]; exact b8, by rw [hn (by decide) (by decide) (by decide) (by decide)]; exact b9⟩
  obtain ⟨y2, e1, e2, e3, e4, e5⟩ := b5 st2 hst2
  exact ⟨y2, e1, b_at_keep e2 fun j j1 j2 => hbk j (by omega), e3, e4, by rw [hn (by decide) (by decide) (by decide) (by decide)]; exact e5⟩
/-- what the making of an index may change before it stands -/
def R_nx (m : Nat) (ρ : Nat → Nat) (x : Nat) (y : Nat) (j : Int) : Prop := R_nP ρ x 0 y j ∨ R_nP ρ x 1 y j ∨ (y = ρ 36 ∧ j = x) ∨ E_le m (ρ 9) y j
theorem R_nx_n (h : E_bk m ρ M) {x i : Nat} (hi : i ∈ E_bf) (h1 : i ≠ 0 ∧ i ≠ 9 ∧ i ≠ 36 ∧ i ≠ 37 ∧ i ≠ 38 ∧ i ≠ 39) {j : Int} : ¬ R_nx m ρ x (ρ i) j := by
  rintro (z | z | ⟨z, -⟩ | z)
  · exact R_nP_n h hi ⟨h1.1, h1.2.2.2.1, h1.2.2.2.2.1, h1.2.2.2.2.2⟩ z
  · exact R_nP_n h hi ⟨h1.1, h1.2.2.2.1, h1.2.2.2.2.1, h1.2.2.2.2.2⟩ z
  · exact h.ne hi (by decide) h1.2.2.1 z
  · exact E_le_n h hi h1.2.1 z
theorem R_nx_b (h : E_bk m ρ M) {x : Nat} {j : Int} (g : R_nx m ρ x (ρ 0) j) : 982000 + 4000 * (x : Int) ≤ j ∧ j < 982000 + 4000 * (x : Int) + 4000 := by
  rcases g with z | z | ⟨z, -⟩ | z
  · have := R_nP_b h z
    omega
  · have := R_nP_b h z
    omega
  · exact absurd z (h.ne (by decide) (by decide) (by decide))
  · exact absurd z (E_le_n h (by decide) (by decide))
theorem R_nx_m (h : E_bk m ρ M) {x : Nat} {j : Int} (g : R_nx m ρ x m j) : j = 10 ∨ j = 40 ∨ j = 41 ∨ j = 42 ∨ j = 43 ∨ j = 44 := by
  rcases g with z | z | ⟨z, -⟩ | z
  · exact absurd z (R_nP_m h)
  · exact absurd z (R_nP_m h)
  · exact absurd z.symm (h.nm (by decide))
  · rcases z with z | ⟨-, z⟩
    · exact absurd z.symm (h.nm (by decide))
    · exact z
theorem E_H.nx {x : Nat} (h : E_H m ρ st q v M) (hx : x < 8) (hst : st x = none) (f : e_fr (R_nx m ρ x) M M1) : E_H m ρ st q v M1 := by
  have hB := h.1
  have h47 : g_i M1 m 47 = -1 := by
    rw [f.2.1 m 47 fun z => by have := R_nx_m hB z; omega]
    exact h.2.1
  have hu := h.upd (t := none) f hx (fun w hw y k z => ?_) (fun x2 hx2 hxx y k z => ?_) (fun k hk z => by
    have := R_nx_b hB z
    omega) h47 ?_
  · have e : I_up st x none = st := by
      rw [← hst]
      exact I_up_self st x
    rw [e] at hu
    exact hu
  · obtain ⟨j, hj, h9, h39, e⟩ := R_hP_k z
    rcases z with ⟨z | z | z, -⟩ | ⟨z | z | z, -⟩ | ⟨z, z1, z2⟩
    · rw [z]
      exact R_nx_n hB (by decide) ⟨by decide, by decide, by decide, by decide, by decide, by decide⟩
    · rw [z]
      exact R_nx_n hB (by decide) ⟨by decide, by decide, by decide, by decide, by decide, by decide⟩
    · rw [z]
      exact R_nx_n hB (by decide) ⟨by decide, by decide, by decide, by decide, by decide, by decide⟩
    · rw [z]
      exact R_nx_n hB (by decide) ⟨by decide, by decide, by decide, by decide, by decide, by decide⟩
    · rw [z]
      exact R_nx_n hB (by decide) ⟨by decide, by decide, by decide, by decide, by decide, by decide⟩
    · rw [z]
      exact R_nx_n hB (by decide) ⟨by decide, by decide, by decide, by decide, by decide, by decide⟩
    · rw [z]
      exact fun g => by
        have := R_nx_b hB g
        omega
  · have hf : ∀ i ∈ R_fs, ¬ R_nx m ρ x (ρ i) k := fun i hi => by
      have : ∀ i ∈ R_fs, i ∈ E_bf ∧ i ≠ 0 ∧ i ≠ 9 ∧ i ≠ 36 ∧ i ≠ 37 ∧ i ≠ 38 ∧ i ≠ 39 := by decide
      exact R_nx_n hB (this i hi).1 (this i hi).2
    rcases z with z | ⟨z | z, z1⟩ | ⟨z, z1⟩ | ⟨z, z1, z2⟩
    · rcases z with ⟨z | z, -⟩ | ⟨z, z1, z2⟩ | ⟨z | z | z, -⟩ | ⟨z | z, -⟩ | ⟨z | z, -⟩
      · rw [z]
        exact hf 45 (by decide)
      · rw [z]
        exact hf 46 (by decide)
      · rw [z]
        exact fun g => by
          have := R_nx_b hB g
          omega
      · rw [z]
        exact hf 48 (by decide)
      · rw [z]
        exact hf 49 (by decide)
      · rw [z]
        exact hf 50 (by decide)
      · rw [z]
        exact hf 51 (by decide)
      · rw [z]
        exact hf 52 (by decide)
      · rw [z]
        exact hf 53 (by decide)
      · rw [z]
        exact hf 54 (by decide)
    · rw [z]
      exact R_nx_n hB (by decide) ⟨by decide, by decide, by decide, by decide, by decide, by decide⟩
    · rw [z]
      rintro (g | g | ⟨-, g⟩ | g)
      · exact R_nP_n hB (by decide) ⟨by decide, by decide, by decide, by decide⟩ g
      · exact R_nP_n hB (by decide) ⟨by decide, by decide, by decide, by decide⟩ g
      · omega
      · exact E_le_n hB (by decide) (by decide) g
    · have key : ∀ {i : Nat}, i ∈ E_bf → y = ρ i → (R_nP ρ x 0 y k ∨ R_nP ρ x 1 y k) → i ≠ 0 → k = ((2 * x : Nat) : Int) ∨ k = ((2 * x + 1 : Nat) : Int) := fun hi e g h0 => by
        rcases g with (⟨-, g⟩ | ⟨g, -⟩) | (⟨-, g⟩ | ⟨g, -⟩)
        · exact Or.inl g
        · exact absurd (hB.key hi (by decide) e g) h0
        · exact Or.inr g
        · exact absurd (hB.key hi (by decide) e g) h0
      have hno : ∀ {i : Nat}, i ∈ E_bf → y = ρ i → i ≠ 0 → i ≠ 9 → i ≠ 36 → ¬ R_nx m ρ x y k := fun hi e h0 h9 h36 g => by
        rcases g with g | g | ⟨g, -⟩ | g
        · have := key hi e (Or.inl g) h0
          omega
        · have := key hi e (Or.inr g) h0
          omega
        · exact h36 (hB.key hi (by decide) e g)
        · rw [e] at g
          exact E_le_n hB hi h9 g
      rcases z with z | z | z
      · exact hno (by decide) z (by decide) (by decide) (by decide)
      · exact hno (by decide) z (by decide) (by decide) (by decide)
      · exact hno (by decide) z (by decide) (by decide) (by decide)
    · rw [z]
      exact fun g => by
        have := R_nx_b hB g
        omega
  · show g_i M1 (ρ 35) x = 0
    rw [f.2.1 _ _ (R_nx_n hB (by decide) ⟨by decide, by decide, by decide, by decide, by decide, by decide⟩)]
    have := h.2.2.2.1 x hx
    rw [hst] at this
    exact this
end ENI
