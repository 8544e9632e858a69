/-! EXPLAIN, THE CLASS: the conditions that a filter has for a path -/
/-- what stands while conditions are piled up -/
def Bd_c (o rm b ss cn : Nat) (r : Nat → Nat) (po f t a : Nat) (X : List Int) (n : Int) (F : Int → Int) (c e : Int) (L : List Int) (M : g_M) : Prop := Bd_o o rm b ss cn r M ∧ k_P M rm b c e L ∧ g_A M b 0 n ∧ g_i M b = F ∧ p_WT M po f t a X
section BDG
variable {o rm b ss cn po f t a : Nat} {r : Nat → Nat} {X : List Int} {n c e : Int} {F : Int → Int} {L : List Int} {M M1 : g_M}
theorem Bd_o.k {L0 : List Int} (h : Bd_o o rm b ss cn r M) (hP : k_P M rm b c e L0) (k : k_F k_0 rm M M1) : Bd_o o rm b ss cn r M1 := by
  obtain ⟨k1, ⟨q1, q2, q3, q4⟩, A1, A2, hr, hi⟩ := h
  obtain ⟨-, r1⟩ := k.O hP k1 (by decide) (fun z => z)
  obtain ⟨-, r2⟩ := k.A hP A1 (fun g => absurd g (by decide)) (fun z => z)
  exact ⟨k1.up k.1, ⟨by rw [r1]; exact q1, by rw [r1]; exact q2, by rw [r1]; exact q3, by rw [r1]; exact q4⟩, A1.up k.1, A2.up k.1, fun j hj => ⟨by rw [r2]; exact (hr j hj).1, (hr j hj).2.up k.1⟩, hi⟩
theorem Bd_S.k {L0 : List Int} {s : Nat} {A : List D_i} (hS : Bd_S cn r s A M) (hs : s < 5) (h : Bd_o o rm b ss cn r M) (hP : k_P M rm b c e L0) (k : k_F k_0 rm M M1) : Bd_S cn r s A M1 := by
  obtain ⟨i1, -⟩ := k.A hP h.2.2.2.1 (by unfold k_n; omega) (fun z => z)
  obtain ⟨i2, -⟩ := k.A hP (h.2.2.2.2.1 s hs).2 (by unfold k_n; omega) (fun z => z)
  unfold Bd_S
  rw [i1, i2]
  exact hS
theorem Bd_c.k {L1 : List Int} (h : Bd_c o rm b ss cn r po f t a X n F c e L M) (k : k_F k_0 rm M M1) (hP1 : k_P M1 rm b c e L1) : Bd_c o rm b ss cn r po f t a X n F c e L1 M1 := by
  obtain ⟨h1, h2, h3, h4, h5⟩ := h
  obtain ⟨i1, -⟩ := k.A h2 h3 (fun g => absurd g (by decide)) (fun z => z)
  exact ⟨h1.k h2 k, hP1, h3.up k.1, by rw [i1]; exact h4, h5.kS h2 k (fun z => z) (fun z => z) (fun z => z) (fun z => z)⟩
theorem c_isNameOf {Q : Int → g_M → Prop} {d : Nat} {p k : Int} {D : Nat} {nm vb : List Int} (hT : p_WT M po f t a X) (h8 : (p_sp X).length ≤ 8) (hA : g_A M b 0 n) (hn : n ≤ 1000000000) (hs : b_st (g_i M b) n p D k nm vb) (h1 : nm = X → Q 1 M) (h0 : nm ≠ X → Q 0 M) : g_Call (d + 3) 93 [.ref po, .ref b, g_n p] M (g_qI Q) := by
  obtain ⟨⟨n2, ⟨o1, o2, o3, o4, o5, o6⟩, w2, w3, w4, w5, w6⟩, hrg, hat⟩ := hT
  have hsl : 0 < (p_sp X).length := by
    rw [p_sp_eq]
    simp
  obtain ⟨g1, g2⟩ := p_rg_end X.length (Nat.le_refl _) hrg
  have g1 : g_i M f 0 = 0 := g1
  rw [show ((0 : Nat) : Int) + ((p_sp X).length : Int) - 1 = ((p_sp X).length : Int) - 1 by omega, Int.zero_add] at g2
  have hpR := hs.R hn
  have hnl := hA.len
  have p0 := hs.2.2.2.1
  have p1 := hs.2.2.2.2
  have hel := b_el_len k nm vb
  have w5' : g_i M po 3 = ((p_sp X).length : Int) := by
    rw [w5]
    omega
  have hXn : (X.length : Int) ≤ n2 := by
    have : ∀ (l : List (List Int)) (k : Nat), l ≠ [] → p_rb (g_i M a) (g_i M f) (g_i M t) n2 k l → g_i M t ((k : Int) + l.length - 1) ≤ n2 := by
      intro l
      induction l with
      | nil => exact fun k h => absurd rfl h
      | cons x l ih =>
        intro k _ h
        obtain ⟨a1, a2, a3, a4, a5⟩ := h
        cases l with
        | nil =>
          rw [List.length_singleton, show (k : Int) + ((1 : Nat) : Int) - 1 = k by omega]
          exact a3
        | cons y l =>
          have := ih (k + 1) (by simp) a5
          rw [List.length_cons, show (k : Int) + (((y :: l).length + 1 : Nat) : Int) - 1 = ((k + 1 : Nat) : Int) + ((y :: l).length : Int) - 1 by omega]
          exact this
    have h9 := this (p_sp X) 0 (List.ne_nil_of_length_pos hsl) w6
    rw [show ((0 : Nat) : Int) + ((p_sp X).length : Int) - 1 = ((p_sp X).length : Int) - 1 by omega, g2] at h9
    exact h9
  refine m_X5_isNameOf (d := d + 2) hpR fun hok => ⟨o1, fun _ => ⟨a, w2, f, o2, 8, o4, ⟨by decide, by decide⟩, t, o3, by rw [w5']; exact ⟨by omega, by omega⟩, 8, o5, by rw [w5']; exact ⟨by omega, by omega⟩, ⟨by omega, by omega⟩, c_va2 (d := d + 1) hA hn hs ?_⟩, fun g => absurd (by rw [w5']; omega) g⟩
  intro _ _ _
  refine ⟨⟨by omega, by omega⟩, ?_⟩
  rw [w5', g1, g2, show p + 2 + (nm.length : Int) - 1 = p + 1 + nm.length by omega]
  have hcmp := c_cmp (d := d) (a := a) (a2 := b) (p := 0) (p2 := p + 1) (x := X) (y := nm) (Q := fun r25 M22 => g_ext M M22 → g_ok M22 → g_InR r25 → ((r25 = 0 → Q 1 M22) ∧ (¬ r25 = 0 → Q 0 M22))) w3 hA w4 hn hat (b_el_at hs.1).2.1 (by decide) (by omega) (by omega) (by omega) (by
    intro _ _ _
    have hBX : b_B X := b_at_B (hok.byte w3) hat
    have hBn : b_B nm := b_at_B (hok.byte hA) (b_el_at hs.1).2.1
    exact ⟨fun g => h1 ((b_cmp0 hBX hBn).mp g).symm, fun g => h0 fun z => g ((b_cmp0 hBX hBn).mpr z.symm)⟩)
  rw [Int.zero_add] at hcmp
  exact hcmp
end BDG
