/-! TREES OF THE REFERENCE: the first of the right neighbour comes -/
section RFB
variable {m b d x : Nat} {ρ : Nat → Nat} {M : g_M}
theorem e_fromBehind {Q : g_M → Prop} {n c rt : Nat} {A B pc pr : List (Int × Int)} {m1 m2 f0 fc fr w g0 : Int} {p1 : Int × Int} (hR : R_rw m b ρ M) (hx : x < 8) (hn : n < 600) (hcc : c < 600) (hrt : rt < 600) (d1 : n ≠ c) (d2 : n ≠ rt) (d3 : c ≠ rt) (h : R_no ρ x n M f0 (A ++ ((c : Int), m1) :: ((rt : Int), m2) :: B)) (hl0 : (A ++ ((c : Int), m1) :: ((rt : Int), m2) :: B).length ≤ 9) (hc0 : R_ps (A ++ ((c : Int), m1) :: ((rt : Int), m2) :: B)) (hC : R_no ρ x c M fc pc) (hcC : R_ps pc) (hlC : pc.length ≤ 8) (hRr : R_no ρ x rt M fr ((w, g0) :: p1 :: pr)) (hcR : R_ps ((w, g0) :: p1 :: pr)) (hlR : pr.length ≤ 7) (hfc : fc = 0 ∨ fc = 1) (hq : ∀ M1, e_fr (R_C m ρ x (fun j => j = n ∨ j = c ∨ j = rt)) M M1 → R_no ρ x n M1 f0 (A ++ ((c : Int), m1) :: ((rt : Int), (if fc = 1 then p1.1 else p1.2)) :: B) → R_no ρ x c M1 fc (pc ++ [(w, m2)]) → R_no ρ x rt M1 fr (p1 :: pr) → (∀ q, g_i M1 (ρ 48) q = g_i M (ρ 48) q) → Q M1) : g_Call (d + 4) 381 [.ref m, g_n x, g_n n, g_n A.length] M (g_qV Q) := by
  have hl0' := hl0
  rw [List.length_append, List.length_cons, List.length_cons] at hl0'
  have hwR : g_InR w := (hcR (w, g0) List.mem_cons_self).1
  have hp1R := hcR p1 (by simp)
  have hm2R : g_InR m2 := (hc0 ((rt : Int), m2) (by simp)).2
  have n8 : ∀ k ∈ R_fs, k ≠ 48 → ρ 48 ≠ ρ k := fun k hk h => hR.ne (by decide) hk (fun z => h z.symm)
  have h48 : ∀ {k : Nat} {M1 M2 : g_M}, e_fr (R_nA ρ x k) M1 M2 → ∀ q, g_i M2 (ρ 48) q = g_i M1 (ρ 48) q := by
    intro k M1 M2 f q
    refine f.2.1 _ _ fun z => ?_
    rcases z with ⟨z | z, -⟩ | ⟨z, -⟩
    · exact n8 51 (by decide) (by decide) z
    · exact n8 52 (by decide) (by decide) z
    · exact n8 50 (by decide) (by decide) z
  have hAl : ((A ++ [((c : Int), m1)]).length : Int) = (A.length : Int) + 1 := by rw [List.length_append, List.length_singleton]; omega
  have hno : R_no ρ x n M f0 ((A ++ [((c : Int), m1)]) ++ ((rt : Int), m2) :: B) := by
    simpa using h
  have hc1 := h.2.2.get.1
  have hc2 := hno.2.2.get.1
  rw [hAl] at hc2
  have hg0 := R_at.get (X := []) (Y := p1 :: pr) (v := (w, g0)) hRr.2.2
  have hg1 := R_at.get (X := [(w, g0)]) (Y := pr) (v := p1) hRr.2.2
  have hz0 : ((([] : List (Int × Int)).length : Nat) : Int) = 0 := rfl
  have hz1 : ((([(w, g0)] : List (Int × Int)).length : Nat) : Int) = 1 := rfl
  rw [hz0] at hg0
  rw [hz1] at hg1
  have hsz : g_i M (ρ 50) (600 * x + rt) = ((pr.length + 2 : Nat) : Int) := by rw [hRr.2.1, List.length_cons, List.length_cons]
  obtain ⟨r1, r2⟩ := hR.at (k := 51) (by decide)
  have r2 : g_A M (ρ 51) 1 48000 := r2
  obtain ⟨s1, s2⟩ := hR.at (k := 52) (by decide)
  have s2 : g_A M (ρ 52) 1 48000 := s2
  have h73 : g_Run (d + 3) 381 73 [(0, .ref m), (1, g_n x), (2, g_n n), (3, g_n A.length), (4, g_n c), (5, g_n rt), (6, g_n w)] [g_n p1.2] M (g_qV Q) := by
    refine s_X12_fromBehind_73 ⟨by omega, by omega⟩ ⟨by omega, by omega⟩ ⟨by omega, by omega⟩ ⟨by omega, by omega⟩ ⟨by omega, by omega⟩ hwR hp1R.2 fun _ => ⟨hR.1.1, ?_⟩
    have hrem := e_removeAt (d := d + 1) (A := []) (B := p1 :: pr) (z := (w, g0)) (f := fr) (M := M) (n := rt) hR hx hrt hRr (by show pr.length + 2 ≤ 10; omega) hcR (Q := fun M2 => g_ext M M2 → g_ok M2 → g_Call (d + 3) 367 [.ref m, g_n x, g_n c] M2 (g_qI fun r8 M5 => g_ext M2 M5 → g_ok M5 → g_InR r8 → ∃ b10, g_r M5 m 52 = some b10 ∧ g_InR ((A.length : Int) + 1) ∧ g_Call (d + 3) 369 [.ref m, g_n x, g_n n, g_n ((A.length : Int) + 1)] M5 (g_qI fun r16 M13 => g_ext M5 M13 → g_ok M13 → g_InR r16 → ∃ n18, g_A M13 b10 1 n18 ∧ ((0 : Int) ≤ r16 ∧ (r16 : Int) < n18) ∧ g_Call (d + 3) 372 [.ref m, g_n x, g_n c, g_n r8, g_n w, g_n (g_i M13 b10 r16)] M13 (g_qV fun M21 => g_ext M13 M21 → g_ok M21 → ∃ b24, g_r M21 m 52 = some b24 ∧ g_InR ((A.length : Int) + 1) ∧ g_Call (d + 3) 369 [.ref m, g_n x, g_n n, g_n ((A.length : Int) + 1)] M21 (g_qI fun r30 M27 => g_ext M21 M27 → g_ok M27 → g_InR r30 → g_Call (d + 3) 376 [.ref m, g_n x, g_n c] M27 (g_qI fun r35 M32 => g_ext M27 M32 → g_ok M32 → g_InR r35 → ((r35 = 0 → ∃ n37, g_A M32 b24 1 n37 ∧ ((0 : Int) ≤ r30 ∧ (r30 : Int) < n37) ∧ ∀ M40, M40 = g_wi M32 b24 r30 p1.2 → g_ok M40 → Q M40) ∧ (¬ r35 = 0 → ∃ b44, g_r M32 m 51 = some b44 ∧ g_Call (d + 3) 369 [.ref m, g_n x, g_n rt, g_n 0] M32 (g_qI fun r49 M46 => g_ext M32 M46 → g_ok M46 → g_InR r49 → ∃ n51, g_A M46 b44 1 n51 ∧ ((0 : Int) ≤ r49 ∧ (r49 : Int) < n51) ∧ ∃ n54, g_A M46 b24 1 n54 ∧ ((0 : Int) ≤ r30 ∧ (r30 : Int) < n54) ∧ ∀ M57, M57 = g_wi M46 b24 r30 (g_i M46 b44 r49) → g_ok M57 → Q M57))))))))) fun M2 f2 no2 => ?_
    · exact hrem
    intro _ _
    have no2 : R_no ρ x rt M2 fr (p1 :: pr) := no2
    have hR2 := hR.fr f2
    have hc2' : R_no ρ x c M2 fc pc := hC.fr f2 (by omega) fun y q z => R_av1 hR d3 z
    have hn2 := hno.fr f2 (by rw [List.length_append, List.length_append, List.length_singleton, List.length_cons]; omega) fun y q z => R_av1 hR d2 z
    refine e_sizeOf (d := d + 2) hR2 hx hcc ?_
    intro _ _ _
    rw [hc2'.2.1]
    obtain ⟨t1, t2⟩ := hR2.at (k := 52) (by decide)
    have t2 : g_A M2 (ρ 52) 1 48000 := t2
    refine ⟨ρ 52, t1, ⟨by omega, by omega⟩, e_slot (d := d + 2) hx hn (by omega) (by omega) ?_⟩
    intro _ _ _
    refine ⟨48000, t2, ⟨by omega, by omega⟩, ?_⟩
    have hmn := hn2.2.2.get.2
    rw [hAl] at hmn
    rw [hmn]
    refine e_insertAt (d := d + 1) (A := pc) (B := []) hR2 hx hcc (by rw [List.append_nil]; exact hc2') (by rw [List.append_nil]; omega) hwR hm2R (by rw [List.append_nil]; exact hcC) fun M21 f21 no21 => ?_
    intro _ _
    have hR21 := hR2.fr f21
    have hn21 := hn2.fr f21 (by rw [List.length_append, List.length_append, List.length_singleton, List.length_cons]; omega) fun y q z => R_av1 hR2 d1 z
    have hr21 : R_no ρ x rt M21 fr (p1 :: pr) := no2.fr f21 (by rw [List.length_cons]; omega) fun y q z => R_av1 hR2 (fun g => d3 g.symm) z
    obtain ⟨u1, u2⟩ := hR21.at (k := 52) (by decide)
    have u2 : g_A M21 (ρ 52) 1 48000 := u2
    refine ⟨ρ 52, u1, ⟨by omega, by omega⟩, e_slot (d := d + 2) hx hn (by omega) (by omega) ?_⟩
    intro _ _ _
    refine e_isLeafN (d := d + 2) hR21 hx hcc (by rw [no21.1]; exact hfc) ?_
    intro _ _ _
    rw [no21.1]
    have F21 : e_fr (R_C m ρ x (fun j => j = n ∨ j = c ∨ j = rt)) M M21 := (f2.up fun y q z => R_C.A (A := fun j => j = n ∨ j = c ∨ j = rt) (Or.inr (Or.inr rfl)) z).tr (f21.up fun y q z => R_C.A (A := fun j => j = n ∨ j = c ∨ j = rt) (Or.inr (Or.inl rfl)) z)
    have hend : ∀ (M40 : g_M) (v : Int), v = (if fc = 1 then p1.1 else p1.2) → M40 = g_wi M21 (ρ 52) (10 * (600 * x + n) + ((A.length : Int) + 1)) v → Q M40 := by
      intro M40 v hv e40
      obtain ⟨no40, f40⟩ := R_no.putm (M1 := M40) (v2 := v) hR21 hn21 (by rw [List.length_append, List.length_singleton]; omega) (by rw [hAl]; exact e40)
      refine hq M40 (F21.tr (f40.up fun y q z => R_C.A (A := fun j => j = n ∨ j = c ∨ j = rt) (Or.inl rfl) z)) ?_ (no21.fr f40 (by rw [List.length_append, List.length_singleton]; omega) fun y q z => R_av1 hR21 (fun g => d1 g.symm) z) (hr21.fr f40 (by rw [List.length_cons]; omega) fun y q z => R_av1 hR21 (fun g => d2 g.symm) z) fun q => by rw [h48 f40, h48 f21, h48 f2]
      rw [← hv]
      simpa using no40
    refine ⟨fun z0 => ⟨48000, u2, ⟨by omega, by omega⟩, fun M40 e40 _ => hend M40 p1.2 (by rw [if_neg (by omega)]) e40⟩, fun z0 => ?_⟩
    obtain ⟨v1, v2⟩ := hR21.at (k := 51) (by decide)
    have v2 : g_A M21 (ρ 51) 1 48000 := v2
    refine ⟨ρ 51, v1, e_slot (d := d + 2) hx hrt (by decide) (by decide) ?_⟩
    intro _ _ _
    have hg2 := R_at.get (X := []) (Y := pr) (v := p1) hr21.2.2
    rw [hz0] at hg2
    refine ⟨48000, v2, ⟨by omega, by omega⟩, 48000, u2, ⟨by omega, by omega⟩, ?_⟩
    rw [hg2.1]
    exact fun M57 e57 _ => hend M57 p1.1 (by rw [if_pos (hfc.resolve_left z0)]) e57
  refine m_X12_fromBehind ⟨by omega, by omega⟩ ⟨by omega, by omega⟩ ⟨by omega, by omega⟩ fun _ => ⟨hR.1.1, ρ 51, r1, e_slot (d := d + 2) hx hn (by omega) (by omega) ?_⟩
  intro _ _ _
  refine ⟨48000, r2, ⟨by omega, by omega⟩, ρ 51, r1, ⟨by omega, by omega⟩, e_slot (d := d + 2) hx hn (by omega) (by omega) ?_⟩
  intro _ _ _
  refine ⟨48000, r2, ⟨by omega, by omega⟩, ?_⟩
  rw [hc1, hc2]
  refine ⟨ρ 51, r1, e_slot (d := d + 2) hx hrt (by decide) (by decide) ?_⟩
  intro _ _ _
  refine ⟨48000, r2, ⟨by omega, by omega⟩, ?_⟩
  rw [hg0.1]
  refine e_sizeOf (d := d + 2) hR hx hrt ?_
  intro _ _ _
  rw [hsz]
  refine ⟨fun _ => ⟨ρ 52, s1, e_slot (d := d + 2) hx hrt (by decide) (by decide) ?_⟩, fun z => absurd (by omega) z⟩
  intro _ _ _
  refine ⟨48000, s2, ⟨by omega, by omega⟩, ?_⟩
  rw [hg1.2]
  exact h73
end RFB
