/-! TREES OF THE REFERENCE: an entry comes to a tree -/
/-- the places of index x -/
def R_EA (m b : Nat) (ρ : Nat → Nat) (x : Nat) (y : Nat) (q : Int) : Prop := R_kA ρ x y q ∨ (y = ρ 46 ∧ 1500 * (x : Int) ≤ q ∧ q < 1500 * x + 1500) ∨ (y = m ∧ (q = 4 ∨ q = 5 ∨ q = 6 ∨ q = 47 ∨ q = 55 ∨ q = 56)) ∨ (y = b ∧ 1014000 + 198000 * (x : Int) ≤ q ∧ q < 1014000 + 198000 * x + 198000) ∨ ((y = ρ 48 ∨ y = ρ 49 ∨ y = ρ 50) ∧ 600 * (x : Int) ≤ q ∧ q < 600 * x + 600) ∨ ((y = ρ 51 ∨ y = ρ 52) ∧ 6000 * (x : Int) ≤ q ∧ q < 6000 * x + 6000) ∨ ((y = ρ 53 ∨ y = ρ 54) ∧ q = x)
/-- the tree of index x -/
def R_Tr (m b : Nat) (ρ : Nat → Nat) (x dn : Nat) (w1 w2 : Int) (T : N_T I_E) (M : g_M) : Prop := R_rw m b ρ M ∧ x < 8 ∧ R_wy m x w1 w2 dn M ∧ g_i M m 47 = -1 ∧ ∃ (h n : Nat) (l : List (N_i V_W h)) (us : List Nat), T = ⟨h, l.map (V_er h)⟩ ∧ g_i M (ρ 53) x = n ∧ R_D b ρ x M h n l ∧ (V_ns h n l).Nodup ∧ us.Perm (V_ns h n l) ∧ R_us ρ x M us ∧ N_good (I_c w1 w2) T ∧ g_i M (ρ 54) x = (N_all T).length ∧ ∀ i ∈ V_us h l, g_i M (ρ 45) (1500 * x + i) ≠ 0
section RTR
variable {m b d x dn : Nat} {ρ : Nat → Nat} {M M1 : g_M} {w1 w2 : Int} {T : N_T I_E}
theorem R_C.EA {A : Nat → Prop} (hA : ∀ k, A k → k < 600) {y : Nat} {q : Int} (h : R_C m ρ x A y q) : R_EA m b ρ x y q := by
  rcases h with ⟨k, hk, z⟩ | ⟨z1, z2⟩
  · have hk6 := hA k hk
    rcases z with (⟨z1, z2, z3⟩ | ⟨z1, z2⟩) | ⟨z1, z2⟩
    · exact Or.inr (Or.inr (Or.inr (Or.inr (Or.inr (Or.inl ⟨z1, by omega, by omega⟩)))))
    · exact Or.inr (Or.inr (Or.inr (Or.inr (Or.inl ⟨Or.inr (Or.inr z1), by omega, by omega⟩))))
    · exact Or.inr (Or.inr (Or.inr (Or.inr (Or.inl ⟨z1, by omega, by omega⟩))))
  · exact Or.inr (Or.inr (Or.inl ⟨z1, by omega⟩))
theorem R_nS.EA {s : Nat} (hs : s < 1500) {y : Nat} {q : Int} (h : R_nS m b ρ x s y q) : R_EA m b ρ x y q := by
  rcases h with z | ⟨z1, z2⟩ | ⟨z1, z2⟩ | ⟨z1, z2, z3⟩
  · exact Or.inl z
  · exact Or.inr (Or.inl ⟨z1, by omega, by omega⟩)
  · exact Or.inr (Or.inr (Or.inl ⟨z1, by omega⟩))
  · unfold R_kp at z2 z3
    exact Or.inr (Or.inr (Or.inr (Or.inl ⟨z1, by omega, by omega⟩)))
theorem R_us.nds {h n : Nat} {l : List (N_i V_W h)} {us : List Nat} (hD : R_D b ρ x M h n l) (hus : R_us ρ x M us) (hp : us.Perm (V_ns h n l)) : R_nds ρ x M ∧ ∀ i : Nat, i ∈ V_us h l ↔ ∃ j : Nat, j < 600 ∧ g_i M (ρ 48) (600 * x + j) = 1 ∧ R_has ρ x M j i := by
  obtain ⟨h1, h2⟩ := R_D_ids hD
  have hu : ∀ j : Nat, j < 600 → (g_i M (ρ 48) (600 * x + j) = 1 ↔ j ∈ V_ns h n l) := fun j hj => by
    rw [hus.1 j hj, ← hp.mem_iff]
    by_cases g : j ∈ us
    · rw [if_pos g]
      exact ⟨fun _ => g, fun _ => rfl⟩
    · rw [if_neg g]
      exact ⟨fun z => absurd z (by decide), fun z => absurd z g⟩
  refine ⟨fun j hj => ?_, fun i => ⟨fun hi => ?_, fun ⟨j, j1, j2, j3⟩ => ?_⟩⟩
  · by_cases g : j ∈ V_ns h n l
    · obtain ⟨g1, g2, g3, g4⟩ := h1 j g
      exact Or.inr ⟨(hu j hj).mpr g, g1, g2, g3, fun i hi => by
        obtain ⟨k, k1, k2, -⟩ := g4 i hi
        exact ⟨k, k1, k2⟩⟩
    · refine Or.inl ?_
      rw [hus.1 j hj, if_neg fun z => g (hp.mem_iff.mp z)]
  · obtain ⟨-, j, g2, g3⟩ := h2 i hi
    have hj : j < 600 := hus.2.2 j (hp.mem_iff.mpr g2)
    exact ⟨j, hj, (hu j hj).mpr g2, g3⟩
  · obtain ⟨k, k1, -, k3⟩ := (h1 j ((hu j j1).mp j2)).2.2.2 i j3
    have : i = k := by omega
    rw [this]
    exact k3
theorem R_e.nS {s i : Nat} {e : I_E} (hR : R_rw m b ρ M) (h : R_e b ρ x i M e) (f : e_fr (R_nS m b ρ x s) M M1) (hi : i ≠ s) : R_e b ρ x i M1 e := by
  have hmb : m ≠ b := g_neOA hR.1.1 hR.1.2.2
  have n456 := hR.ne (k := 45) (k2 := 46) (by decide) (by decide) (by decide)
  have hb45 := hR.nb (k := 45) (by decide)
  have hb46 := hR.nb (k := 46) (by decide)
  have hm46 := hR.nm (k := 46) (by decide)
  obtain ⟨h1, h2, h3, h4, h5, h6⟩ := h
  have l1 := b_el_len e.1.1 [] e.1.2
  have l2 := b_el_len e.2.1.1 [] e.2.1.2
  rw [List.length_nil] at l1 l2
  have g2 := h5.1.2
  have g4 := h5.2.1.2
  have hby : ∀ q, R_kp x i ≤ q → q < R_kp x i + 132 → g_i M1 b q = g_i M b q := fun q q1 q2 => f.2.1 b q fun z => by
    rcases z with z | z | z | z
    · exact hb45 z.1.symm
    · exact hb46 z.1.symm
    · exact hmb z.1.symm
    · have := z.2
      unfold R_kp at this q1 q2
      omega
  refine ⟨h1, b_at_keep h2 fun q q1 q2 => hby q (by omega) (by omega), b_at_keep h3 fun q q1 q2 => hby q (by omega) (by omega), ?_, h5, h6⟩
  rw [f.2.1 (ρ 46) _ fun z => ?_]
  · exact h4
  · rcases z with z | z | z | z
    · exact n456 z.1.symm
    · exact hi (by have := z.2; omega)
    · exact hm46 z.1
    · exact hb46 z.1
theorem R_D.nS {s : Nat} (hR : R_rw m b ρ M) (f : e_fr (R_nS m b ρ x s) M M1) : ∀ {h n : Nat} {l : List (N_i V_W h)}, R_D b ρ x M h n l → s ∉ V_us h l → R_D b ρ x M1 h n l := by
  have hno : ∀ {n : Nat} {ff : Int} {ps : List (Int × Int)}, R_no ρ x n M ff ps → ps.length ≤ 10 → R_no ρ x n M1 ff ps := fun h1 h2 => h1.fr f h2 fun y q z z2 => by
    have hk : ∀ k ∈ R_fs, k ≠ 45 → k ≠ 46 → y ≠ ρ k := fun k hk h45 h46 z3 => by
      rcases z2 with z2 | z2 | z2 | z2
      · exact hR.ne hk (k2 := 45) (by decide) h45 (z3.symm.trans z2.1)
      · exact hR.ne hk (k2 := 46) (by decide) h46 (z3.symm.trans z2.1)
      · exact hR.nm hk (z3.symm.trans z2.1)
      · exact hR.nb hk (z3.symm.trans z2.1)
    rcases z with (⟨z1 | z1, -⟩ | ⟨z1, -⟩) | ⟨z1, -⟩
    · exact hk 51 (by decide) (by decide) (by decide) z1
    · exact hk 52 (by decide) (by decide) (by decide) z1
    · exact hk 50 (by decide) (by decide) (by decide) z1
    · exact hk 49 (by decide) (by decide) (by decide) z1
  intro h
  induction h with
  | zero =>
    intro n l hD hs
    obtain ⟨a1, a2, ⟨ps, p1, p2, p3⟩, a4⟩ := R_D_0.mp hD
    have hpl := R_ps_len (n := n) (f := 0) p3
    rw [List.length_map] at hpl
    exact R_D_0.mpr ⟨a1, a2, ⟨ps, hno p1 (by omega), p2, p3⟩, fun y hy => (a4 y hy).nS hR f fun z => hs (List.mem_map.mpr ⟨y, hy, z⟩)⟩
  | succ h ih =>
    intro n l hD hs
    obtain ⟨a1, a2, ⟨ps, p1, p2, p3, p4⟩, a4, a5⟩ := R_D_s.mp hD
    have hpl := R_ps_len (n := n) (f := 0) p3
    rw [List.length_map] at hpl
    rw [V_us_s] at hs
    exact R_D_s.mpr ⟨a1, a2, ⟨ps, hno p1 (by omega), p2, p3, p4⟩, fun y hy => (a4 y hy).nS hR f fun z => hs (List.mem_append_left _ (List.mem_map.mpr ⟨y, hy, z⟩)), fun y hy => ih (a5 y hy) fun z => hs (List.mem_append_right _ (List.mem_flatMap.mpr ⟨y, hy, z⟩))⟩
end RTR
