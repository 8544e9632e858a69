/-! TREES OF THE REFERENCE: two nodes are joined -/
def R_hd (v : Int) : List (Int × Int) → List (Int × Int)
  | [] => []
  | p :: r => (p.1, v) :: r
section RJN
variable {m b d x : Nat} {ρ : Nat → Nat} {M : g_M}
theorem R_av1 (hR : R_rw m b ρ M) {j k : Nat} (h : j ≠ k) {y : Nat} {q : Int} (g : R_nd ρ x j y q) : ¬ R_nA ρ x k y q := fun z => R_C_av (A := fun i => i = k) hR h g (R_C.A (A := fun i => i = k) rfl z)
theorem e_join {Q : g_M → Prop} {n lf rt : Nat} {A B pl pr : List (Int × Int)} {m1 m2 f0 fl fr : Int} (hR : R_rw m b ρ M) (hx : x < 8) (hn : n < 600) (hlf : lf < 600) (hrt : rt < 600) (d1 : n ≠ lf) (d2 : n ≠ rt) (d3 : lf ≠ rt) (h : R_no ρ x n M f0 (A ++ ((lf : Int), m1) :: ((rt : Int), m2) :: B)) (hl0 : (A ++ ((lf : Int), m1) :: ((rt : Int), m2) :: B).length ≤ 9) (hc0 : R_ps (A ++ ((lf : Int), m1) :: ((rt : Int), m2) :: B)) (hL : R_no ρ x lf M fl pl) (hcL : R_ps pl) (hRr : R_no ρ x rt M fr pr) (hcR : R_ps pr) (hlen : pl.length + pr.length ≤ 9) (hq : ∀ M1, e_fr (R_C m ρ x (fun j => j = n ∨ j = lf ∨ j = rt)) M M1 → R_no ρ x n M1 f0 (A ++ ((lf : Int), m1) :: B) → R_no ρ x lf M1 fl (pl ++ R_hd m2 pr) → g_i M1 (ρ 48) (600 * x + rt) = 0 → (∀ q, q ≠ 600 * (x : Int) + rt → g_i M1 (ρ 48) q = g_i M (ρ 48) q) → Q M1) : g_Call (d + 4) 382 [.ref m, g_n x, g_n n, g_n A.length] M (g_qV Q) := by
  have hl0' := hl0
  rw [List.length_append, List.length_cons, List.length_cons] at hl0'
  have hm2R := (hc0 ((rt : Int), m2) (by simp)).2
  have hm2R : g_InR m2 := hm2R
  have n8 : ∀ k ∈ R_fs, k ≠ 48 → ρ 48 ≠ ρ k := fun k hk h => hR.ne (by decide) hk (fun z => h z.symm)
  have h48 : ∀ {k : Nat} {M1 M2 : g_M}, e_fr (R_nA ρ x k) M1 M2 → ∀ q, g_i M2 (ρ 48) q = g_i M1 (ρ 48) q := by
    intro k M1 M2 f q
    refine f.2.1 _ _ fun z => ?_
    rcases z with ⟨z | z, -⟩ | ⟨z, -⟩
    · exact n8 51 (by decide) (by decide) z
    · exact n8 52 (by decide) (by decide) z
    · exact n8 50 (by decide) (by decide) z
  have hlp : ∀ (p2 p1 : List (Int × Int)) (M2 : g_M), pr = p1 ++ p2 → e_fr (R_nA ρ x lf) M M2 → R_no ρ x lf M2 fl (pl ++ R_hd m2 p1) → g_Run (d + 3) 382 42 [(0, .ref m), (1, g_n x), (2, g_n n), (3, g_n A.length), (4, g_n lf), (5, g_n rt), (6, g_n pr.length), (7, g_n p1.length)] [] M2 (g_qV Q) := by
    intro p2
    induction p2 with
    | nil =>
      intro p1 M2 hp f2 no2
      rw [List.append_nil] at hp
      subst hp
      have hR2 := hR.fr f2
      obtain ⟨r1, r2⟩ := hR2.at (k := 48) (by decide)
      have r2 : g_A M2 (ρ 48) 2 4800 := r2
      refine s_X12_join_42 ⟨by omega, by omega⟩ ⟨by omega, by omega⟩ ⟨by omega, by omega⟩ ⟨by omega, by omega⟩ ⟨by omega, by omega⟩ ⟨by omega, by omega⟩ ⟨by omega, by omega⟩ fun _ => ⟨fun z => absurd z (by omega), fun _ => ⟨hR2.1.1, ρ 48, r1, ⟨by omega, by omega⟩, ⟨by omega, by omega⟩, 4800, r2, ⟨by omega, by omega⟩, fun M9 e9 _ => ⟨⟨by omega, by omega⟩, ?_⟩⟩⟩
      rw [show (x : Int) * 600 = 600 * x from Int.mul_comm _ _] at e9
      have f9 : e_fr (R_nN ρ x rt) M2 M9 := by
        rw [e9]
        exact e_fr.wi _ ⟨Or.inl rfl, rfl⟩
      have hR9 := hR2.fr f9
      have hw : ∀ k ∈ R_fs, k ≠ 48 → ∀ q, g_i M9 (ρ k) q = g_i M2 (ρ k) q := fun k hk h q => by rw [e9, g_i_wi, if_neg (fun z => n8 k hk h z.1.symm)]
      have hno9 : ∀ {j : Nat} {ff : Int} {ps : List (Int × Int)}, R_no ρ x j M2 ff ps → R_no ρ x j M9 ff ps := fun g => ⟨by rw [hw 49 (by decide) (by decide)]; exact g.1, by rw [hw 50 (by decide) (by decide)]; exact g.2.1, b_at_keep g.2.2.1 fun q _ _ => hw 51 (by decide) (by decide) q, b_at_keep g.2.2.2 fun q _ _ => hw 52 (by decide) (by decide) q⟩
      have hn2 : R_no ρ x n M2 f0 (A ++ ((lf : Int), m1) :: ((rt : Int), m2) :: B) := h.fr f2 (by omega) fun y q z => R_av1 hR d1 z
      have hn9 : R_no ρ x n M9 f0 ((A ++ [((lf : Int), m1)]) ++ ((rt : Int), m2) :: B) := by
        have := hno9 hn2
        simpa using this
      have hcast : ((A.length : Int) + 1) = ((A ++ [((lf : Int), m1)]).length : Nat) := by rw [List.length_append, List.length_singleton]; omega
      rw [hcast]
      refine e_removeAt (d := d + 1) hR9 hx hn hn9 (by rw [List.length_append, List.length_append, List.length_singleton, List.length_cons]; omega) (fun y hy => hc0 y (by simpa using hy)) fun M14 f14 hno14 => ?_
      intro _ _
      refine hq M14 (((f2.up fun y q z => R_C.A (A := fun j => j = n ∨ j = lf ∨ j = rt) (Or.inr (Or.inl rfl)) z).tr (f9.up fun y q z => R_C.N (A := fun j => j = n ∨ j = lf ∨ j = rt) (Or.inr (Or.inr rfl)) z)).tr (f14.up fun y q z => R_C.A (A := fun j => j = n ∨ j = lf ∨ j = rt) (Or.inl rfl) z)) (by simpa using hno14) ?_ ?_ fun q hqq => ?_
      · have hpl : (pl ++ R_hd m2 pr).length ≤ 10 := by
          have : (R_hd m2 pr).length = pr.length := by cases pr <;> rfl
          rw [List.length_append, this]
          omega
        exact (hno9 no2).fr f14 hpl fun y q z => R_av1 hR9 (fun g => d1 g.symm) z
      · rw [h48 f14, e9, g_i_wi, if_pos ⟨rfl, rfl⟩]
      · rw [h48 f14, e9, g_i_wi, if_neg (fun z => hqq z.2), h48 f2]
    | cons p p2 ih =>
      intro p1 M2 hp f2 no2
      have hpl := congrArg List.length hp
      rw [List.length_append, List.length_cons] at hpl
      have hR2 := hR.fr f2
      have hhl : ∀ u : List (Int × Int), (R_hd m2 u).length = u.length := fun u => by cases u <;> rfl
      have hr2 : R_no ρ x rt M2 fr pr := hRr.fr f2 (by omega) fun y q z => R_av1 hR (fun g => d3 g.symm) z
      have hn2 : R_no ρ x n M2 f0 (A ++ ((lf : Int), m1) :: ((rt : Int), m2) :: B) := h.fr f2 (by omega) fun y q z => R_av1 hR d1 z
      have hg := hr2.2.2
      rw [hp] at hg
      obtain ⟨y1, y2⟩ := hg.get
      have hpR := hcR p (by rw [hp]; simp)
      obtain ⟨r1, r2⟩ := hR2.at (k := 51) (by decide)
      have r2 : g_A M2 (ρ 51) 1 48000 := r2
      obtain ⟨s1, s2⟩ := hR2.at (k := 52) (by decide)
      have s2 : g_A M2 (ρ 52) 1 48000 := s2
      -- the item comes behind
      have hput : ∀ v : Int, g_InR v → R_hd m2 (p1 ++ [p]) = R_hd m2 p1 ++ [(p.1, v)] → g_Call (d + 3) 372 [.ref m, g_n x, g_n lf, g_n ((pl ++ R_hd m2 p1).length : Nat), g_n p.1, g_n v] M2 (g_qV fun M58 => g_ext M2 M58 → g_ok M58 → g_InR ((p1.length : Int) + 1) ∧ g_Run (d + 3) 382 42 [(0, .ref m), (1, g_n x), (2, g_n n), (3, g_n A.length), (4, g_n lf), (5, g_n rt), (6, g_n pr.length), (7, g_n ((p1.length : Int) + 1))] [] M58 (g_qV Q)) := by
        intro v hv he
        refine e_insertAt (d := d + 1) (A := pl ++ R_hd m2 p1) (B := []) hR2 hx hlf (by rw [List.append_nil]; exact no2) (by rw [List.append_nil, List.length_append, hhl]; omega) hpR.1 hv (fun y hy => ?_) fun M58 f58 hno58 => ?_
        · rw [List.append_nil] at hy
          rcases List.mem_append.mp hy with g | g
          · exact hcL y g
          · rcases p1 with _ | ⟨a, p1⟩
            · exact absurd g (by simp [R_hd])
            · have ha := hcR a (by rw [hp]; simp)
              rcases List.mem_cons.mp g with g | g
              · rw [g]
                exact ⟨ha.1, hm2R⟩
              · exact hcR y (by rw [hp]; simp [g])
        · intro _ _
          refine ⟨⟨by omega, by omega⟩, ?_⟩
          have h9 := ih (p1 ++ [p]) M58 (by rw [hp]; simp) (f2.tr f58) (by rw [he, ← List.append_assoc]; exact hno58)
          rwa [show ((p1 ++ [p]).length : Int) = (p1.length : Int) + 1 by rw [List.length_append, List.length_singleton]; omega] at h9
      refine s_X12_join_42 ⟨by omega, by omega⟩ ⟨by omega, by omega⟩ ⟨by omega, by omega⟩ ⟨by omega, by omega⟩ ⟨by omega, by omega⟩ ⟨by omega, by omega⟩ ⟨by omega, by omega⟩ fun _ => ⟨fun _ => ⟨hR2.1.1, e_sizeOf (d := d + 2) hR2 hx hlf ?_⟩, fun z => absurd (by omega) z⟩
      intro _ _ _
      rw [no2.2.1]
      refine ⟨ρ 51, r1, e_slot (d := d + 2) hx hrt (by omega) (by omega) ?_⟩
      intro _ _ _
      refine ⟨48000, r2, ⟨by omega, by omega⟩, ?_⟩
      rw [y1]
      refine ⟨fun z => ⟨ρ 52, s1, ⟨by omega, by omega⟩, e_slot (d := d + 2) hx hn (by omega) (by omega) ?_⟩, fun z => ⟨ρ 52, s1, e_slot (d := d + 2) hx hrt (by omega) (by omega) ?_⟩⟩
      · intro _ _ _
        refine ⟨48000, s2, ⟨by omega, by omega⟩, ?_⟩
        have hp1 : p1 = [] := List.length_eq_zero_iff.mp (by omega)
        have hnm : g_i M2 (ρ 52) (10 * (600 * (x : Int) + n) + ((A.length : Int) + 1)) = m2 := by
          have h9 : R_at ρ x n M2 ((A ++ [((lf : Int), m1)]) ++ ((rt : Int), m2) :: B) := by
            have := hn2.2.2
            simpa using this
          have h8 := h9.get.2
          rwa [show (((A ++ [((lf : Int), m1)]).length : Nat) : Int) = (A.length : Int) + 1 by rw [List.length_append, List.length_singleton]; omega] at h8
        rw [hnm]
        exact hput m2 hm2R (by rw [hp1]; rfl)
      · intro _ _ _
        refine ⟨48000, s2, ⟨by omega, by omega⟩, ?_⟩
        rw [y2]
        exact hput p.2 hpR.2 (by
          rcases p1 with _ | ⟨a, p1⟩
          · exact absurd rfl z
          · rfl)
  have hat : R_at ρ x n M ((A ++ [((lf : Int), m1)]) ++ ((rt : Int), m2) :: B) := by
    have := h.2.2
    simpa using this
  have hc1 := h.2.2.get.1
  have hc2 := hat.get.1
  rw [show (((A ++ [((lf : Int), m1)]).length : Nat) : Int) = (A.length : Int) + 1 by rw [List.length_append, List.length_singleton]; omega] at hc2
  obtain ⟨r1, r2⟩ := hR.at (k := 51) (by decide)
  have r2 : g_A M (ρ 51) 1 48000 := r2
  refine m_X12_join ⟨by omega, by omega⟩ ⟨by omega, by omega⟩ ⟨by omega, by omega⟩ fun _ => ⟨hR.1.1, ρ 51, r1, e_slot (d := d + 2) hx hn (by omega) (by omega) ?_⟩
  intro _ _ _
  refine ⟨48000, r2, ⟨by omega, by omega⟩, ρ 51, r1, ⟨by omega, by omega⟩, e_slot (d := d + 2) hx hn (by omega) (by omega) ?_⟩
  intro _ _ _
  refine ⟨48000, r2, ⟨by omega, by omega⟩, ?_⟩
  rw [hc1, hc2]
  refine e_sizeOf (d := d + 2) hR hx hrt ?_
  intro _ _ _
  rw [hRr.2.1]
  exact hlp pr [] M rfl (e_fr.rf _ _) (by show R_no ρ x lf M fl (pl ++ []); rw [List.append_nil]; exact hL)
end RJN
