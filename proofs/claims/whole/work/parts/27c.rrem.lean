/-! TREES OF THE REFERENCE: nodes come, items go; ways down -/
/-- the places of a node that comes -/
def R_nN (ρ : Nat → Nat) (x n : Nat) (y : Nat) (q : Int) : Prop := (y = ρ 48 ∨ y = ρ 49 ∨ y = ρ 50) ∧ q = 600 * x + n
def R_ps (ps : List (Int × Int)) : Prop := ∀ y ∈ ps, g_InR y.1 ∧ g_InR y.2
section RREM
variable {m b d x n : Nat} {ρ : Nat → Nat} {M M1 : g_M}
theorem e_removeAt {Q : g_M → Prop} {A B : List (Int × Int)} {f : Int} {z : Int × Int} (hR : R_rw m b ρ M) (hx : x < 8) (hn : n < 600) (h : R_no ρ x n M f (A ++ z :: B)) (hl : (A ++ z :: B).length ≤ 10) (hc : R_ps (A ++ z :: B)) (hq : ∀ M1, e_fr (R_nA ρ x n) M M1 → R_no ρ x n M1 f (A ++ B) → Q M1) : g_Call (d + 2) 373 [.ref m, g_n x, g_n n, g_n A.length] M (g_qV Q) := by
  obtain ⟨k1, k2, k3⟩ := h
  rw [List.length_append, List.length_cons] at hl k2
  have n50 := hR.ne (k := 50) (k2 := 51) (by decide) (by decide) (by decide)
  have n502 := hR.ne (k := 50) (k2 := 52) (by decide) (by decide) (by decide)
  have n49 := hR.ne (k := 49) (k2 := 51) (by decide) (by decide) (by decide)
  have n492 := hR.ne (k := 49) (k2 := 52) (by decide) (by decide) (by decide)
  have n495 := hR.ne (k := 49) (k2 := 50) (by decide) (by decide) (by decide)
  have h49 : ∀ {M2 : g_M}, e_fr (R_nA ρ x n) M M2 → g_i M2 (ρ 49) (600 * x + n) = f := fun f2 => by
    rw [f2.2.1 (ρ 49) _ fun z => ?_]
    · exact k1
    · rcases z with ⟨z | z, -⟩ | ⟨z, -⟩
      · exact n49 z
      · exact n492 z
      · exact n495 z
  have hlp : ∀ (B2 B1 : List (Int × Int)) (u : Int × Int) (M2 : g_M), B = B1 ++ B2 → e_fr (R_nA ρ x n) M M2 → R_at ρ x n M2 ((A ++ B1) ++ u :: B2) → g_Run (d + 1) 373 13 [(0, .ref m), (1, g_n x), (2, g_n n), (3, g_n A.length), (4, g_n ((A.length + B.length : Nat) : Int)), (5, g_n ((A.length + B1.length : Nat) : Int))] [] M2 (g_qV Q) := by
    intro B2
    induction B2 with
    | nil =>
      intro B1 u M2 hB f2 a2
      rw [List.append_nil] at hB
      have hR2 := hR.fr f2
      have hBl := congrArg List.length hB
      refine s_X12_removeAt_13 ⟨by omega, by omega⟩ ⟨by omega, by omega⟩ ⟨by omega, by omega⟩ ⟨by omega, by omega⟩ ⟨by omega, by omega⟩ fun _ => ⟨fun z => absurd z (by omega), fun _ => ⟨hR2.1.1, e_setSize (d := d) hR2 hx hn ⟨by omega, by omega⟩ ?_⟩⟩
      intro _ _
      have f31 : e_fr (R_nA ρ x n) M2 (g_wi M2 (ρ 50) (600 * x + n) ((A.length + B.length : Nat) : Int)) := e_fr.wi _ (Or.inr ⟨rfl, rfl⟩)
      have ff := f2.tr f31
      obtain ⟨a3, a4⟩ := a2
      rw [← hB, List.map_append] at a3 a4
      refine hq _ ff ⟨h49 ff, ?_, ?_, ?_⟩
      · rw [g_i_wi, if_pos ⟨rfl, rfl⟩, List.length_append]
      · exact b_at_keep (b_app.mp a3).1 fun q _ _ => by rw [g_i_wi, if_neg (fun z => n50 z.1.symm)]
      · exact b_at_keep (b_app.mp a4).1 fun q _ _ => by rw [g_i_wi, if_neg (fun z => n502 z.1.symm)]
    | cons y B2 ih =>
      intro B1 u M2 hB f2 a2
      have hBl := congrArg List.length hB
      rw [List.length_append, List.length_cons] at hBl
      have a3 : R_at ρ x n M2 (((A ++ B1) ++ [u]) ++ y :: B2) := by simpa using a2
      obtain ⟨y1, y2⟩ := a3.get
      have hAB : ((A ++ B1) ++ [u]).length = A.length + B1.length + 1 := by rw [List.length_append, List.length_append, List.length_singleton]
      rw [hAB] at y1 y2
      have hyR := hc y (by rw [hB]; simp)
      have hR2 := hR.fr f2
      obtain ⟨r1, r2⟩ := hR2.at (k := 51) (by decide)
      have r2 : g_A M2 (ρ 51) 1 48000 := r2
      refine s_X12_removeAt_13 ⟨by omega, by omega⟩ ⟨by omega, by omega⟩ ⟨by omega, by omega⟩ ⟨by omega, by omega⟩ ⟨by omega, by omega⟩ fun _ => ⟨fun _ => ⟨hR2.1.1, ρ 51, r1, e_slot (d := d) hx hn (by omega) (by omega) ?_⟩, fun z => absurd (by omega) z⟩
      intro _ _ _
      refine ⟨ρ 51, r1, ⟨by omega, by omega⟩, e_slot (d := d) hx hn (by omega) (by omega) ?_⟩
      intro _ _ _
      refine ⟨48000, r2, ⟨by omega, by omega⟩, 48000, r2, ⟨by omega, by omega⟩, fun M27 e27 _ => ?_⟩
      have hpl : 10 * (600 * (x : Int) + n) + (((A.length + B1.length : Nat) : Int) + 1) = 10 * (600 * x + n) + ((A.length + B1.length + 1 : Nat) : Int) := by omega
      rw [hpl, y1] at e27
      have f27 : e_fr (R_nA ρ x n) M2 M27 := by
        rw [e27]
        exact e_fr.wi _ (Or.inl ⟨Or.inl rfl, by omega, by omega⟩)
      have hR27 := hR2.fr f27
      obtain ⟨s1, s2⟩ := hR27.at (k := 52) (by decide)
      have s2 : g_A M27 (ρ 52) 1 48000 := s2
      refine ⟨ρ 52, s1, e_slot (d := d) hx hn (by omega) (by omega) ?_⟩
      intro _ _ _
      refine ⟨ρ 52, s1, ⟨by omega, by omega⟩, e_slot (d := d) hx hn (by omega) (by omega) ?_⟩
      intro _ _ _
      refine ⟨48000, s2, ⟨by omega, by omega⟩, 48000, s2, ⟨by omega, by omega⟩, fun M52 e52 _ => ?_⟩
      have hne := hR.ne (k := 51) (k2 := 52) (by decide) (by decide) (by decide)
      have hy2' : g_i M27 (ρ 52) (10 * (600 * (x : Int) + n) + (((A.length + B1.length : Nat) : Int) + 1)) = y.2 := by
        rw [e27, g_i_wi, if_neg (fun z => hne z.1.symm), hpl]
        exact y2
      rw [hy2'] at e52
      have hX : ((A ++ B1).length : Int) = ((A.length + B1.length : Nat) : Int) := by rw [List.length_append]
      obtain ⟨a52, f52⟩ := a2.put (M1 := M52) (v2 := y) hR2 (by rw [List.length_append]; omega) (by rw [hX, e52, e27])
      refine ⟨⟨by omega, by omega⟩, ?_⟩
      have h9 := ih (B1 ++ [y]) y M52 (by rw [hB]; simp) (f2.tr f52) (by simpa using a52)
      rwa [show ((A.length + (B1 ++ [y]).length : Nat) : Int) = ((A.length + B1.length : Nat) : Int) + 1 by rw [List.length_append, List.length_singleton]; omega] at h9
  refine m_X12_removeAt ⟨by omega, by omega⟩ ⟨by omega, by omega⟩ ⟨by omega, by omega⟩ fun _ => ⟨hR.1.1, e_sizeOf (d := d) hR hx hn ?_⟩
  intro _ _ _
  rw [k2]
  refine ⟨⟨by omega, by omega⟩, ?_⟩
  have h9 := hlp B [] z M rfl (e_fr.rf _ _) (by rw [List.append_nil]; exact k3)
  rwa [show (((A.length + (B.length + 1) : Nat) : Int) - 1) = ((A.length + B.length : Nat) : Int) by omega]
theorem e_newNode {Q : Int → g_M → Prop} {f : Int} (hR : R_rw m b ρ M) (hx : x < 8) (hf : f = 0 ∨ f = 1) (hfree : ∃ n : Nat, n < 600 ∧ g_i M (ρ 48) (600 * x + n) = 0) (hq : ∀ (n : Nat) M1, n < 600 → g_i M (ρ 48) (600 * x + n) = 0 → e_fr (R_nN ρ x n) M M1 → g_i M1 (ρ 48) (600 * x + n) = 1 → R_no ρ x n M1 f [] → Q n M1) : g_Call (d + 2) 370 [.ref m, g_n x, g_n f] M (g_qI Q) := by
  have hfR : g_InR f := by rcases hf with g | g <;> rw [g] <;> exact ⟨by decide, by decide⟩
  obtain ⟨N, hN, hN0⟩ := hfree
  have n489 := hR.ne (k := 48) (k2 := 49) (by decide) (by decide) (by decide)
  have n485 := hR.ne (k := 48) (k2 := 50) (by decide) (by decide) (by decide)
  have n495 := hR.ne (k := 49) (k2 := 50) (by decide) (by decide) (by decide)
  obtain ⟨r1, r2⟩ := hR.at (k := 48) (by decide)
  have r2 : g_A M (ρ 48) 2 4800 := r2
  have hlp : ∀ (j i : Nat), i + j = N → g_Run (d + 1) 370 2 [(0, .ref m), (1, g_n x), (2, g_n f), (3, g_n i)] [] M (g_qI Q) := by
    intro j
    have hgo : ∀ i : Nat, i < 600 → g_i M (ρ 48) (600 * x + i) = 0 → g_Run (d + 1) 370 2 [(0, .ref m), (1, g_n x), (2, g_n f), (3, g_n i)] [] M (g_qI Q) := by
      intro i hi hi0
      refine s_X12_newNode_2 ⟨by omega, by omega⟩ hfR ⟨by omega, by omega⟩ fun _ => ⟨hR.1.1, ρ 48, r1, ⟨by omega, by omega⟩, ⟨by omega, by omega⟩, 4800, r2, ⟨by omega, by omega⟩, fun _ => ⟨ρ 48, r1, ⟨by omega, by omega⟩, ⟨by omega, by omega⟩, 4800, r2, ⟨by omega, by omega⟩, fun M16 e16 _ => ?_⟩, fun z => absurd (by rw [show (x : Int) * 600 = 600 * x from Int.mul_comm _ _]; exact hi0) z⟩
      rw [show (x : Int) * 600 + i = 600 * x + i by omega] at e16
      have f16 : e_fr (R_nN ρ x i) M M16 := by
        rw [e16]
        exact e_fr.wi _ ⟨Or.inl rfl, rfl⟩
      have hR16 := hR.fr f16
      obtain ⟨s1, s2⟩ := hR16.at (k := 49) (by decide)
      have s2 : g_A M16 (ρ 49) 2 4800 := s2
      refine ⟨ρ 49, s1, ⟨by omega, by omega⟩, ⟨by omega, by omega⟩, 4800, s2, ⟨by omega, by omega⟩, hf, fun M28 e28 _ => ?_⟩
      rw [show (x : Int) * 600 + i = 600 * x + i by omega] at e28
      have f28 : e_fr (R_nN ρ x i) M16 M28 := by
        rw [e28]
        exact e_fr.wi _ ⟨Or.inr (Or.inl rfl), rfl⟩
      have hR28 := hR16.fr f28
      refine e_setSize (d := d) hR28 hx hi ⟨by decide, by decide⟩ ?_
      intro _ _
      have f32 : e_fr (R_nN ρ x i) M28 (g_wi M28 (ρ 50) (600 * x + i) 0) := e_fr.wi _ ⟨Or.inr (Or.inr rfl), rfl⟩
      refine hq i _ hi hi0 ((f16.tr f28).tr f32) ?_ ⟨?_, ?_, b_nil _ _, b_nil _ _⟩
      · rw [g_i_wi, if_neg (fun z => n485 z.1), e28, g_i_wi, if_neg (fun z => n489 z.1), e16, g_i_wi, if_pos ⟨rfl, rfl⟩]
      · rw [g_i_wi, if_neg (fun z => n495 z.1), e28, g_i_wi, if_pos ⟨rfl, rfl⟩]
      · rw [g_i_wi, if_pos ⟨rfl, rfl⟩]
        rfl
    induction j with
    | zero =>
      intro i hi
      have : i = N := by omega
      rw [this]
      exact hgo N hN hN0
    | succ j ih =>
      intro i hi
      by_cases h0 : g_i M (ρ 48) (600 * x + i) = 0
      · exact hgo i (by omega) h0
      · refine s_X12_newNode_2 ⟨by omega, by omega⟩ hfR ⟨by omega, by omega⟩ fun _ => ⟨hR.1.1, ρ 48, r1, ⟨by omega, by omega⟩, ⟨by omega, by omega⟩, 4800, r2, ⟨by omega, by omega⟩, fun z => absurd (by rw [show (x : Int) * 600 = 600 * x from Int.mul_comm _ _] at z; exact z) h0, fun _ => ⟨⟨by omega, by omega⟩, ?_⟩⟩
        have h9 := ih (i + 1) (by omega)
        rwa [show ((i + 1 : Nat) : Int) = (i : Int) + 1 by omega] at h9
  refine m_X12_newNode ⟨by omega, by omega⟩ hfR fun _ => ?_
  exact hlp N 0 (by omega)
end RREM
