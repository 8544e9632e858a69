/-! TREES OF THE REFERENCE: the numbers that a tree has; sweeping -/
/-- a node has this entry or mark -/
def R_has (ρ : Nat → Nat) (x : Nat) (M : g_M) (j : Nat) (i : Int) : Prop := ∃ k : Nat, (k : Int) < g_i M (ρ 50) (600 * x + j) ∧ ((g_i M (ρ 49) (600 * x + j) = 1 ∧ g_i M (ρ 51) (10 * (600 * x + j) + k) = i) ∨ (g_i M (ρ 49) (600 * x + j) = 0 ∧ 0 < k ∧ g_i M (ρ 52) (10 * (600 * x + j) + k) = i))
def R_kA (ρ : Nat → Nat) (x : Nat) (y : Nat) (q : Int) : Prop := y = ρ 45 ∧ 1500 * (x : Int) ≤ q ∧ q < 1500 * x + 1500
def R_kS (ρ : Nat → Nat) (x : Nat) (M : g_M) (P : Nat → Prop) : Prop := ∀ i : Nat, i < 1500 → (P i → g_i M (ρ 45) (1500 * x + i) = 1) ∧ (¬ P i → g_i M (ρ 45) (1500 * x + i) = 0)
section RSW
variable {m b d x : Nat} {ρ : Nat → Nat} {M : g_M}
theorem R_at_i {n : Nat} {ps : List (Int × Int)} (h : R_at ρ x n M ps) {k : Nat} {p : Int × Int} (hk : ps[k]? = some p) : g_i M (ρ 51) (10 * (600 * x + n) + k) = p.1 ∧ g_i M (ρ 52) (10 * (600 * x + n) + k) = p.2 :=
  ⟨h.1 k p.1 (by rw [List.getElem?_map, hk]; rfl), h.2 k p.2 (by rw [List.getElem?_map, hk]; rfl)⟩
theorem R_has_leaf {n : Nat} {ps : List (Int × Int)} {i : Int} (h : R_no ρ x n M 1 ps) : R_has ρ x M n i ↔ i ∈ ps.map Prod.fst := by
  constructor
  · rintro ⟨k, k1, ⟨k2, k3⟩ | ⟨k2, -⟩⟩
    · rw [h.2.1] at k1
      have hk : k < ps.length := by omega
      have h9 := (R_at_i h.2.2 (List.getElem?_eq_getElem hk)).1
      rw [h9] at k3
      rw [← k3]
      exact List.mem_map.mpr ⟨ps[k], List.getElem_mem hk, rfl⟩
    · rw [h.1] at k2
      exact absurd k2 (by decide)
  · intro hi
    obtain ⟨p, hp, rfl⟩ := List.mem_map.mp hi
    obtain ⟨k, hk, rfl⟩ := List.getElem_of_mem hp
    refine ⟨k, by rw [h.2.1]; omega, Or.inl ⟨h.1, (R_at_i h.2.2 (List.getElem?_eq_getElem hk)).1⟩⟩
theorem R_has_in {n : Nat} {ps : List (Int × Int)} {i : Int} (h : R_no ρ x n M 0 ps) : R_has ρ x M n i ↔ i ∈ ps.tail.map Prod.snd := by
  constructor
  · rintro ⟨k, k1, ⟨k2, -⟩ | ⟨k2, k3, k4⟩⟩
    · rw [h.1] at k2
      exact absurd k2 (by decide)
    · rw [h.2.1] at k1
      have hk : k < ps.length := by omega
      have h9 := (R_at_i h.2.2 (List.getElem?_eq_getElem hk)).2
      rw [h9] at k4
      rw [← k4]
      refine List.mem_map.mpr ⟨ps[k], ?_, rfl⟩
      rcases ps with _ | ⟨p0, ps⟩
      · exact absurd hk (Nat.not_lt_zero _)
      · obtain ⟨k', rfl⟩ : ∃ k', k = k' + 1 := ⟨k - 1, by omega⟩
        exact List.getElem_mem (l := ps) (by rw [List.length_cons] at hk; omega)
  · intro hi
    obtain ⟨p, hp, rfl⟩ := List.mem_map.mp hi
    rcases ps with _ | ⟨p0, ps⟩
    · exact absurd hp (by simp)
    · have hp : p ∈ ps := hp
      obtain ⟨k, hk, rfl⟩ := List.getElem_of_mem hp
      refine ⟨k + 1, by rw [h.2.1, List.length_cons]; omega, Or.inr ⟨h.1, Nat.succ_pos k, (R_at_i h.2.2 (p := ps[k]) ?_).2⟩⟩
      show ps[k]? = some ps[k]
      exact List.getElem?_eq_getElem hk
theorem B_il_mem {l : List Nat} {i : Nat} : (i : Int) ∈ B_il l ↔ i ∈ l := by
  unfold B_il
  rw [List.mem_map]
  constructor
  · rintro ⟨a, h1, h2⟩
    have : a = i := by omega
    rw [← this]
    exact h1
  · exact fun h => ⟨i, h, rfl⟩
theorem B_il_nat {l : List Nat} {i : Int} (h : i ∈ B_il l) : ∃ k : Nat, i = k ∧ k ∈ l := by
  unfold B_il at h
  obtain ⟨a, h1, h2⟩ := List.mem_map.mp h
  exact ⟨a, h2.symm, h1⟩
theorem R_D_ids : ∀ {h n : Nat} {l : List (N_i V_W h)}, R_D b ρ x M h n l → (∀ j ∈ V_ns h n l, (g_i M (ρ 49) (600 * x + j) = 0 ∨ g_i M (ρ 49) (600 * x + j) = 1) ∧ 0 ≤ g_i M (ρ 50) (600 * x + j) ∧ g_i M (ρ 50) (600 * x + j) ≤ 9 ∧ ∀ i, R_has ρ x M j i → ∃ k : Nat, i = k ∧ k < 1500 ∧ k ∈ V_us h l) ∧ ∀ k ∈ V_us h l, k < 1500 ∧ ∃ j ∈ V_ns h n l, R_has ρ x M j k := by
  intro h
  induction h with
  | zero =>
    intro n l hD
    obtain ⟨a1, a2, ⟨ps, p1, p2, p3⟩, a4⟩ := R_D_0.mp hD
    have hpl := R_ps_len (n := n) (f := 0) p3
    rw [List.length_map] at hpl
    have hlt : ∀ k ∈ V_us 0 l, k < 1500 := fun k hk => by
      obtain ⟨y, hy, rfl⟩ := List.mem_map.mp hk
      exact (a4 y hy).1
    refine ⟨fun j hj => ?_, fun k hk => ⟨hlt k hk, n, V_ns_m 0 n l, (R_has_leaf p1).mpr ?_⟩⟩
    · have hj : j = n := List.mem_singleton.mp hj
      subst hj
      refine ⟨Or.inr p1.1, by rw [p1.2.1]; omega, by rw [p1.2.1]; omega, fun i hi => ?_⟩
      have h1 := (R_has_leaf p1).mp hi
      rw [p3] at h1
      obtain ⟨k, rfl, hk⟩ := B_il_nat h1
      exact ⟨k, rfl, hlt k hk, hk⟩
    · rw [p3]
      exact B_il_mem.mpr hk
  | succ h ih =>
    intro n l hD
    obtain ⟨a1, a2, ⟨ps, p1, p2, p3, p4⟩, a4, a5⟩ := R_D_s.mp hD
    have hpl := R_ps_len (n := n) (f := 0) p3
    rw [List.length_map] at hpl
    have htl : ∀ k ∈ V_ts h l, k < 1500 ∧ k ∈ V_us (h + 1) l := fun k hk => by
      refine ⟨?_, by rw [V_us_s]; exact List.mem_append_left _ hk⟩
      obtain ⟨y, hy, rfl⟩ := List.mem_map.mp hk
      exact (a4 y hy).1
    refine ⟨fun j hj => ?_, fun k hk => ?_⟩
    · rw [V_ns_s] at hj
      rcases List.mem_cons.mp hj with hj | hj
      · subst hj
        refine ⟨Or.inl p1.1, by rw [p1.2.1]; omega, by rw [p1.2.1]; omega, fun i hi => ?_⟩
        have h1 := (R_has_in p1).mp hi
        rw [p4] at h1
        obtain ⟨k, rfl, hk⟩ := B_il_nat h1
        exact ⟨k, rfl, htl k hk⟩
      · obtain ⟨y, hy, hj⟩ := List.mem_flatMap.mp hj
        obtain ⟨g1, g2, g3, g4⟩ := (ih (a5 y hy)).1 j hj
        refine ⟨g1, g2, g3, fun i hi => ?_⟩
        obtain ⟨k, k1, k2, k3⟩ := g4 i hi
        exact ⟨k, k1, k2, by rw [V_us_s]; exact List.mem_append_right _ (List.mem_flatMap.mpr ⟨y, hy, k3⟩)⟩
    · rw [V_us_s] at hk
      rcases List.mem_append.mp hk with hk | hk
      · refine ⟨(htl k hk).1, n, V_ns_m (h + 1) n l, (R_has_in p1).mpr ?_⟩
        rw [p4]
        exact B_il_mem.mpr hk
      · obtain ⟨y, hy, hk⟩ := List.mem_flatMap.mp hk
        obtain ⟨g1, j, g2, g3⟩ := (ih (a5 y hy)).2 k hk
        refine ⟨g1, j, ?_, g3⟩
        rw [V_ns_s]
        exact List.mem_cons_of_mem _ (List.mem_flatMap.mpr ⟨y, hy, g2⟩)
theorem R_kS.put {P : Nat → Prop} {M1 : g_M} {k : Nat} (hk : k < 1500) (h : R_kS ρ x M P) (hM : M1 = g_wi M (ρ 45) (1500 * x + k) 1) : R_kS ρ x M1 (fun i => P i ∨ i = k) ∧ e_fr (R_kA ρ x) M M1 := by
  subst hM
  refine ⟨fun i hi => ⟨fun z => ?_, fun z => ?_⟩, e_fr.wi _ ⟨rfl, by omega, by omega⟩⟩
  · by_cases g : i = k
    · rw [g, g_i_wi, if_pos ⟨rfl, rfl⟩]
    · rw [g_i_wi, if_neg (fun z2 => g (by have := z2.2; omega))]
      exact (h i hi).1 (z.resolve_right g)
  · rw [g_i_wi, if_neg (fun z2 => z (Or.inr (by have := z2.2; omega)))]
    exact (h i hi).2 fun z2 => z (Or.inl z2)
theorem R_kS.iff {P P2 : Nat → Prop} (h : R_kS ρ x M P) (hP : ∀ i, P i ↔ P2 i) : R_kS ρ x M P2 := fun i hi => ⟨fun z => (h i hi).1 ((hP i).mpr z), fun z => (h i hi).2 fun z2 => z ((hP i).mp z2)⟩
theorem e_sweep {Q : g_M → Prop} (hR : R_rw m b ρ M) (hx : x < 8) (h47 : g_i M m 47 = -1) (hn : ∀ j : Nat, j < 600 → g_i M (ρ 48) (600 * x + j) = 0 ∨ (g_i M (ρ 48) (600 * x + j) = 1 ∧ (g_i M (ρ 49) (600 * x + j) = 0 ∨ g_i M (ρ 49) (600 * x + j) = 1) ∧ 0 ≤ g_i M (ρ 50) (600 * x + j) ∧ g_i M (ρ 50) (600 * x + j) ≤ 9 ∧ ∀ i, R_has ρ x M j i → ∃ k : Nat, i = k ∧ k < 1500)) (hq : ∀ M1, e_fr (R_kA ρ x) M M1 → R_kS ρ x M1 (fun i => ∃ j : Nat, j < 600 ∧ g_i M (ρ 48) (600 * x + j) = 1 ∧ R_has ρ x M j i) → Q M1) : g_Call (d + 3) 365 [.ref m, g_n x] M (g_qV Q) := by
  have hne : ∀ {k : Nat}, k ∈ R_fs → k ≠ 45 → ρ k ≠ ρ 45 := fun hk hn => hR.ne hk (by decide) hn
  have hsm : ∀ {M1 : g_M}, e_fr (R_kA ρ x) M M1 → ∀ {k : Nat}, k ∈ R_fs → k ≠ 45 → ∀ q, g_i M1 (ρ k) q = g_i M (ρ k) q := by
    intro M1 f k hk hn q
    exact f.2.1 _ _ fun z => hne hk hn z.1
  -- the nodes
  have h30 : ∀ (r j : Nat) (M1 : g_M), j + r = 600 → e_fr (R_kA ρ x) M M1 → R_kS ρ x M1 (fun i => ∃ j2 : Nat, j2 < j ∧ g_i M (ρ 48) (600 * x + j2) = 1 ∧ R_has ρ x M j2 i) → g_Run (d + 2) 365 30 [(0, .ref m), (1, g_n x), (2, g_n j)] [] M1 (g_qV Q) := by
    intro r
    induction r with
    | zero =>
      intro j M1 hj f1 k1
      have hj6 : j = 600 := by omega
      subst hj6
      have hR1 := hR.fr f1
      have h47' : g_i M1 m 47 = -1 := by
        rw [f1.2.1 m 47 fun z => hR.nm (k := 45) (by decide) z.1.symm]
        exact h47
      refine s_X12_sweep_30 ⟨by omega, by omega⟩ ⟨by omega, by omega⟩ fun _ => ⟨fun z => absurd z (by omega), fun _ => ⟨hR1.1.1, fun _ => hq M1 f1 k1, fun z => absurd (by rw [h47']; decide) z⟩⟩
    | succ r ih =>
      intro j M1 hj f1 k1
      have hR1 := hR.fr f1
      obtain ⟨r1, r2⟩ := hR1.at (k := 48) (by decide)
      have r2 : g_A M1 (ρ 48) 2 4800 := r2
      have hx6 : (x : Int) * 600 + j = 600 * x + j := by omega
      have hnext : ∀ M2, e_fr (R_kA ρ x) M M2 → R_kS ρ x M2 (fun i => ∃ j2 : Nat, j2 < j + 1 ∧ g_i M (ρ 48) (600 * x + j2) = 1 ∧ R_has ρ x M j2 i) → g_InR ((j : Int) + 1) ∧ g_Run (d + 2) 365 30 [(0, .ref m), (1, g_n x), (2, g_n ((j : Int) + 1))] [] M2 (g_qV Q) := by
        intro M2 f2 k2
        refine ⟨⟨by omega, by omega⟩, ?_⟩
        have h9 := ih (j + 1) M2 (by omega) f2 k2
        rwa [show ((j + 1 : Nat) : Int) = (j : Int) + 1 by omega] at h9
      refine s_X12_sweep_30 ⟨by omega, by omega⟩ ⟨by omega, by omega⟩ fun _ => ⟨fun _ => ⟨hR1.1.1, ρ 48, r1, ⟨by omega, by omega⟩, ⟨by omega, by omega⟩, 4800, r2, ⟨by omega, by omega⟩, ?_⟩, fun z => absurd (by omega) z⟩
      rw [hx6, hsm f1 (k := 48) (by decide) (by decide)]
      rcases hn j (by omega) with h0 | ⟨hu, hf, hs0, hs9, hid⟩
      · refine ⟨fun _ => hnext M1 f1 (k1.iff fun i => ⟨fun ⟨j2, g1, g2, g3⟩ => ⟨j2, by omega, g2, g3⟩, fun ⟨j2, g1, g2, g3⟩ => ?_⟩), fun z => absurd h0 z⟩
        rcases Nat.lt_succ_iff_lt_or_eq.mp g1 with g | g
        · exact ⟨j2, g, g2, g3⟩
        · rw [g, h0] at g2
          exact absurd g2 (by decide)
      · refine ⟨fun z => absurd (hu.symm.trans z) (by decide), fun _ => ⟨⟨by omega, by omega⟩, ⟨by omega, by omega⟩, ⟨by omega, by omega⟩, e_sizeOf (d := d + 1) hR1 hx (by omega) ?_⟩⟩
        intro _ _ _
        rw [hsm f1 (k := 50) (by decide) (by decide)]
        obtain ⟨sz, hsz⟩ : ∃ sz : Nat, (sz : Int) = g_i M (ρ 50) (600 * x + j) := ⟨(g_i M (ρ 50) (600 * x + j)).toNat, by omega⟩
        rw [← hsz]
        -- its entries or marks
        have h77 : ∀ (r2 k : Nat) (M2 : g_M), k + r2 = sz → e_fr (R_kA ρ x) M M2 → R_kS ρ x M2 (fun i => (∃ j2 : Nat, j2 < j ∧ g_i M (ρ 48) (600 * x + j2) = 1 ∧ R_has ρ x M j2 i) ∨ ∃ k2 : Nat, k2 < k ∧ ((g_i M (ρ 49) (600 * x + j) = 1 ∧ g_i M (ρ 51) (10 * (600 * x + j) + k2) = i) ∨ (g_i M (ρ 49) (600 * x + j) = 0 ∧ 0 < k2 ∧ g_i M (ρ 52) (10 * (600 * x + j) + k2) = i))) → g_Run (d + 2) 365 77 [(0, .ref m), (1, g_n x), (2, g_n j), (3, g_n (10 * (600 * x + j))), (4, g_n sz), (5, g_n k)] [] M2 (g_qV Q) := by
          intro r2
          induction r2 with
          | zero =>
            intro k M2 hk f2 k2
            refine s_X12_sweep_77 ⟨by omega, by omega⟩ ⟨by omega, by omega⟩ ⟨by omega, by omega⟩ ⟨by omega, by omega⟩ ⟨by omega, by omega⟩ fun _ => ⟨fun z => absurd z (by omega), fun _ => hnext M2 f2 (k2.iff fun i => ⟨fun z => ?_, fun ⟨j2, g1, g2, g3⟩ => ?_⟩)⟩
            · rcases z with ⟨j2, g1, g2, g3⟩ | ⟨k3, g1, g2⟩
              · exact ⟨j2, by omega, g2, g3⟩
              · exact ⟨j, by omega, hu, k3, by omega, g2⟩
            · rcases Nat.lt_succ_iff_lt_or_eq.mp g1 with g | g
              · exact Or.inl ⟨j2, g, g2, g3⟩
              · subst g
                obtain ⟨k3, k4, k5⟩ := g3
                exact Or.inr ⟨k3, by omega, k5⟩
          | succ r2 ih2 =>
            intro k M2 hk f2 k2
            have hR2 := hR.fr f2
            obtain ⟨s1, s2⟩ := hR2.at (k := 49) (by decide)
            have s2 : g_A M2 (ρ 49) 2 4800 := s2
            obtain ⟨q1, q2⟩ := hR2.at (k := 45) (by decide)
            have q2 : g_A M2 (ρ 45) 2 12000 := q2
            obtain ⟨u1, u2⟩ := hR2.at (k := 51) (by decide)
            have u2 : g_A M2 (ρ 51) 1 48000 := u2
            obtain ⟨t1, t2⟩ := hR2.at (k := 52) (by decide)
            have t2 : g_A M2 (ρ 52) 1 48000 := t2
            have hgo : ∀ M3, e_fr (R_kA ρ x) M M3 → R_kS ρ x M3 (fun i => (∃ j2 : Nat, j2 < j ∧ g_i M (ρ 48) (600 * x + j2) = 1 ∧ R_has ρ x M j2 i) ∨ ∃ k2 : Nat, k2 < k + 1 ∧ ((g_i M (ρ 49) (600 * x + j) = 1 ∧ g_i M (ρ 51) (10 * (600 * x + j) + k2) = i) ∨ (g_i M (ρ 49) (600 * x + j) = 0 ∧ 0 < k2 ∧ g_i M (ρ 52) (10 * (600 * x + j) + k2) = i))) → g_InR ((k : Int) + 1) ∧ g_Run (d + 2) 365 77 [(0, .ref m), (1, g_n x), (2, g_n j), (3, g_n (10 * (600 * x + j))), (4, g_n sz), (5, g_n ((k : Int) + 1))] [] M3 (g_qV Q) := by
              intro M3 f3 k3
              refine ⟨⟨by omega, by omega⟩, ?_⟩
              have h9 := ih2 (k + 1) M3 (by omega) f3 k3
              rwa [show ((k + 1 : Nat) : Int) = (k : Int) + 1 by omega] at h9
            refine s_X12_sweep_77 ⟨by omega, by omega⟩ ⟨by omega, by omega⟩ ⟨by omega, by omega⟩ ⟨by omega, by omega⟩ ⟨by omega, by omega⟩ fun _ => ⟨fun _ => ⟨hR2.1.1, ρ 49, s1, ⟨by omega, by omega⟩, ⟨by omega, by omega⟩, 4800, s2, ⟨by omega, by omega⟩, ?_⟩, fun z => absurd (by omega) z⟩
            rw [hx6, hsm f2 (k := 49) (by decide) (by decide)]
            refine ⟨fun hl0 => ⟨fun hk0 => ?_, fun hk0 => ?_⟩, fun hl0 => ?_⟩
            · obtain ⟨i, i1, i2⟩ := hid (g_i M (ρ 52) (10 * (600 * x + j) + k)) ⟨k, by omega, Or.inr ⟨hl0, by omega, rfl⟩⟩
              refine ⟨ρ 45, q1, ⟨by omega, by omega⟩, ρ 52, t1, ⟨by omega, by omega⟩, 48000, t2, ⟨by omega, by omega⟩, ?_⟩
              rw [hsm f2 (k := 52) (by decide) (by decide), i1]
              refine ⟨⟨by omega, by omega⟩, 12000, q2, ⟨by omega, by omega⟩, fun M24 e24 _ => ?_⟩
              rw [show (x : Int) * 1500 = 1500 * x from Int.mul_comm _ _] at e24
              obtain ⟨k4, f4⟩ := k2.put i2 e24
              refine hgo M24 (f2.tr f4) (k4.iff fun i' => ⟨fun z => ?_, fun z => ?_⟩)
              · rcases z with (z | ⟨k3, g1, g2⟩) | z
                · exact Or.inl z
                · exact Or.inr ⟨k3, by omega, g2⟩
                · exact Or.inr ⟨k, by omega, Or.inr ⟨hl0, by omega, by rw [i1, z]⟩⟩
              · rcases z with z | ⟨k3, g1, g2⟩
                · exact Or.inl (Or.inl z)
                · rcases Nat.lt_succ_iff_lt_or_eq.mp g1 with g | g
                  · exact Or.inl (Or.inr ⟨k3, g, g2⟩)
                  · subst g
                    rcases g2 with ⟨g2, -⟩ | ⟨-, -, g2⟩
                    · rw [hl0] at g2
                      exact absurd g2 (by decide)
                    · rw [i1] at g2
                      exact Or.inr (by omega)
            · refine hgo M2 f2 (k2.iff fun i' => ⟨fun z => z.imp id fun ⟨k3, g1, g2⟩ => ⟨k3, by omega, g2⟩, fun z => z.imp id fun ⟨k3, g1, g2⟩ => ?_⟩)
              rcases Nat.lt_succ_iff_lt_or_eq.mp g1 with g | g
              · exact ⟨k3, g, g2⟩
              · subst g
                rcases g2 with ⟨g2, -⟩ | ⟨-, g2, -⟩
                · rw [hl0] at g2
                  exact absurd g2 (by decide)
                · exact absurd (by omega) hk0
            · have hl1 : g_i M (ρ 49) (600 * x + j) = 1 := hf.resolve_left hl0
              obtain ⟨i, i1, i2⟩ := hid (g_i M (ρ 51) (10 * (600 * x + j) + k)) ⟨k, by omega, Or.inl ⟨hl1, rfl⟩⟩
              refine ⟨ρ 45, q1, ⟨by omega, by omega⟩, ρ 51, u1, ⟨by omega, by omega⟩, 48000, u2, ⟨by omega, by omega⟩, ?_⟩
              rw [hsm f2 (k := 51) (by decide) (by decide), i1]
              refine ⟨⟨by omega, by omega⟩, 12000, q2, ⟨by omega, by omega⟩, fun M24 e24 _ => ?_⟩
              rw [show (x : Int) * 1500 = 1500 * x from Int.mul_comm _ _] at e24
              obtain ⟨k4, f4⟩ := k2.put i2 e24
              refine hgo M24 (f2.tr f4) (k4.iff fun i' => ⟨fun z => ?_, fun z => ?_⟩)
              · rcases z with (z | ⟨k3, g1, g2⟩) | z
                · exact Or.inl z
                · exact Or.inr ⟨k3, by omega, g2⟩
                · exact Or.inr ⟨k, by omega, Or.inl ⟨hl1, by rw [i1, z]⟩⟩
              · rcases z with z | ⟨k3, g1, g2⟩
                · exact Or.inl (Or.inl z)
                · rcases Nat.lt_succ_iff_lt_or_eq.mp g1 with g | g
                  · exact Or.inl (Or.inr ⟨k3, g, g2⟩)
                  · subst g
                    rcases g2 with ⟨-, g2⟩ | ⟨g2, -⟩
                    · rw [i1] at g2
                      exact Or.inr (by omega)
                    · exact absurd g2 hl0
        have h9 := h77 sz 0 M1 (by omega) f1 (k1.iff fun i => ⟨fun z => Or.inl z, fun z => z.elim id fun ⟨k2, g, _⟩ => absurd g (Nat.not_lt_zero _)⟩)
        exact h9
  have h2 : ∀ (r j : Nat) (M1 : g_M), j + r = 1500 → e_fr (R_kA ρ x) M M1 → (∀ i : Nat, i < j → g_i M1 (ρ 45) (1500 * x + i) = 0) → g_Run (d + 2) 365 2 [(0, .ref m), (1, g_n x), (2, g_n j)] [] M1 (g_qV Q) := by
    intro r
    induction r with
    | zero =>
      intro j M1 hj f1 k1
      have hj6 : j = 1500 := by omega
      subst hj6
      refine s_X12_sweep_2 ⟨by omega, by omega⟩ ⟨by omega, by omega⟩ fun _ => ⟨fun z => absurd z (by omega), fun _ => ?_⟩
      exact h30 600 0 M1 rfl f1 fun i hi => ⟨fun ⟨j2, g, _⟩ => absurd g (Nat.not_lt_zero _), fun _ => k1 i hi⟩
    | succ r ih =>
      intro j M1 hj f1 k1
      have hR1 := hR.fr f1
      obtain ⟨r1, r2⟩ := hR1.at (k := 45) (by decide)
      have r2 : g_A M1 (ρ 45) 2 12000 := r2
      refine s_X12_sweep_2 ⟨by omega, by omega⟩ ⟨by omega, by omega⟩ fun _ => ⟨fun _ => ⟨hR1.1.1, ρ 45, r1, ⟨by omega, by omega⟩, ⟨by omega, by omega⟩, 12000, r2, ⟨by omega, by omega⟩, fun M9 e9 _ => ⟨⟨by omega, by omega⟩, ?_⟩⟩, fun z => absurd (by omega) z⟩
      rw [show (x : Int) * 1500 = 1500 * x from Int.mul_comm _ _] at e9
      have f9 : e_fr (R_kA ρ x) M1 M9 := by
        rw [e9]
        exact e_fr.wi _ ⟨rfl, by omega, by omega⟩
      have h9 := ih (j + 1) M9 (by omega) (f1.tr f9) fun i hi => by
        rw [e9, g_i_wi]
        by_cases g : i = j
        · rw [if_pos ⟨rfl, by omega⟩]
        · rw [if_neg (fun z => g (by have := z.2; omega))]
          exact k1 i (by omega)
      rwa [show ((j + 1 : Nat) : Int) = (j : Int) + 1 by omega] at h9
  refine m_X12_sweep ⟨by omega, by omega⟩ fun _ => ?_
  exact h2 1500 0 M rfl (e_fr.rf _ _) fun i hi => absurd hi (Nat.not_lt_zero _)
end RSW
