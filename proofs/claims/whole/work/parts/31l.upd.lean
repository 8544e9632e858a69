/-! REQUESTS: what an update makes of a document -/
theorem Z_ps_c (op : Int) (s : List b_E × Int) (z : Int × b_E) (r : List (Int × b_E)) : Z_ps op s (z :: r) = if (X_path op z.2 s.1).1 = 0 then Z_ps op ((X_path op z.2 s.1).2, if (X_path op z.2 s.1).2 = s.1 then s.2 else 1) r else (((X_path op z.2 s.1).1, z.1), s) := rfl
theorem Z_os_c (s : List b_E × Int) (z : Int × b_E) (r : List (Int × b_E)) : Z_os s (z :: r) = if (Z_ps (X_op z.2.2.1) s (L_ch z.1 z.2)).1.1 = 0 then Z_os (Z_ps (X_op z.2.2.1) s (L_ch z.1 z.2)).2 r else Z_ps (X_op z.2.2.1) s (L_ch z.1 z.2) := rfl
/-- what comes of changes is good; what is told unchanged is the same -/
theorem Z_ps_gd {op : Int} {e0 : List b_E} : ∀ (ys : List b_E) (q : Int) (s : List b_E × Int), (∀ y ∈ ys, b_gv 20 y.1 y.2.2 ∧ b_nz y.2.1 ∧ p_ok y.2.1) → X_gd 30 s.1 → (b_ser s.1).length + 4 * (b_ser ys).length ≤ 15000 → (s.2 = 0 ∨ s.2 = 1) → (s.2 = 0 → s.1 = e0) → X_gd 30 (Z_ps op s (L_at q ys)).2.1 ∧ (b_ser (Z_ps op s (L_at q ys)).2.1).length ≤ (b_ser s.1).length + 4 * (b_ser ys).length ∧ ((Z_ps op s (L_at q ys)).2.2 = 0 ∨ (Z_ps op s (L_at q ys)).2.2 = 1) ∧ ((Z_ps op s (L_at q ys)).2.2 = 0 → (Z_ps op s (L_at q ys)).2.1 = e0) := by
  intro ys
  induction ys with
  | nil => exact fun q s _ hg hl h01 h0 => ⟨hg, Nat.le_add_right _ _, h01, h0⟩
  | cons y ys ih =>
    intro q s hy hg hl h01 h0
    have hL : L_at q (y :: ys) = (q, y) :: L_at (q + (b_el y.1 y.2.1 y.2.2).length) ys := rfl
    obtain ⟨y1, y2, y3⟩ := hy y List.mem_cons_self
    have hser : (b_ser (y :: ys)).length = (b_el y.1 y.2.1 y.2.2).length + (b_ser ys).length := by
      have h1 : b_ser (y :: ys) = b_el y.1 y.2.1 y.2.2 ++ b_ser ys := rfl
      rw [h1, List.length_append]
    have hXG := X_G_le y3
    rw [hser] at hl ⊢
    rw [hL, Z_ps_c]
    by_cases g : (X_path op y s.1).1 = 0
    · rw [if_pos g]
      obtain ⟨k1, k2⟩ := X_path_good (op := op) y1 y2 y3 hg (by omega)
      obtain ⟨i1, i2, i3, i4⟩ := ih (q + (b_el y.1 y.2.1 y.2.2).length) ((X_path op y s.1).2, if (X_path op y s.1).2 = s.1 then s.2 else 1) (fun z hz => hy z (List.mem_cons_of_mem _ hz)) k1 (by
        show (b_ser (X_path op y s.1).2).length + _ ≤ _
        omega) (by
        show (if (X_path op y s.1).2 = s.1 then s.2 else 1) = 0 ∨ (if (X_path op y s.1).2 = s.1 then s.2 else 1) = 1
        split
        · exact h01
        · exact Or.inr rfl) (by
        show (if (X_path op y s.1).2 = s.1 then s.2 else 1) = 0 → (X_path op y s.1).2 = e0
        intro z
        by_cases g2 : (X_path op y s.1).2 = s.1
        · rw [if_pos g2] at z
          rw [g2]
          exact h0 z
        · rw [if_neg g2] at z
          exact absurd z (by decide))
      refine ⟨i1, ?_, i3, i4⟩
      have i2 : (b_ser (Z_ps op ((X_path op y s.1).2, if (X_path op y s.1).2 = s.1 then s.2 else 1) (L_at (q + (b_el y.1 y.2.1 y.2.2).length) ys)).2.1).length ≤ (b_ser (X_path op y s.1).2).length + 4 * (b_ser ys).length := i2
      show (b_ser (Z_ps op ((X_path op y s.1).2, if (X_path op y s.1).2 = s.1 then s.2 else 1) (L_at (q + (b_el y.1 y.2.1 y.2.2).length) ys)).2.1).length ≤ _
      omega
    · rw [if_neg g]
      exact ⟨hg, by show (b_ser s.1).length ≤ _; omega, h01, h0⟩
theorem Z_os_gd {e0 : List b_E} : ∀ (cs : List b_E) (q : Int) (s : List b_E × Int), (∀ z ∈ cs, z.1 = 3 ∧ b_gv 21 z.1 z.2.2 ∧ ∀ y ∈ b_ch z.2.2, p_ok y.2.1) → X_gd 30 s.1 → (b_ser s.1).length + 4 * (b_ser cs).length ≤ 15000 → (s.2 = 0 ∨ s.2 = 1) → (s.2 = 0 → s.1 = e0) → X_gd 30 (Z_os s (L_at q cs)).2.1 ∧ ((Z_os s (L_at q cs)).2.2 = 0 ∨ (Z_os s (L_at q cs)).2.2 = 1) ∧ ((Z_os s (L_at q cs)).2.2 = 0 → (Z_os s (L_at q cs)).2.1 = e0) := by
  intro cs
  induction cs with
  | nil => exact fun q s _ hg hl h01 h0 => ⟨hg, h01, h0⟩
  | cons z cs ih =>
    intro q s hz hg hl h01 h0
    have hL : L_at q (z :: cs) = (q, z) :: L_at (q + (b_el z.1 z.2.1 z.2.2).length) cs := rfl
    obtain ⟨z1, z2, z3⟩ := hz z List.mem_cons_self
    have hser : (b_ser (z :: cs)).length = (b_el z.1 z.2.1 z.2.2).length + (b_ser cs).length := by
      have h1 : b_ser (z :: cs) = b_el z.1 z.2.1 z.2.2 ++ b_ser cs := rfl
      rw [h1, List.length_append]
    obtain ⟨D1, es, e1, e2, e3, e4, e5, e6, e7⟩ := b_gv_doc z2 (Or.inl z1)
    have hel := b_el_len z.1 z.2.1 z.2.2
    have hvl : z.2.2.length = (b_ser es).length + 5 := by rw [e2, b_doc_len]
    have hLc : L_ch q z = L_at (q + 6 + z.2.1.length) es := by
      unfold L_ch
      rw [e7]
    have hy : ∀ y ∈ es, b_gv 20 y.1 y.2.2 ∧ b_nz y.2.1 ∧ p_ok y.2.1 := fun y hy => by
      have h1 := e5 y hy
      have : D1 = 20 := by omega
      subst this
      exact ⟨h1.2, h1.1, z3 y (by rw [e7]; exact hy)⟩
    rw [hser] at hl
    obtain ⟨i1, i2, i3, i4⟩ := Z_ps_gd (op := X_op z.2.1) es (q + 6 + z.2.1.length) s hy hg (by omega) h01 h0
    rw [hL, Z_os_c]
    show X_gd 30 (if (Z_ps (X_op z.2.1) s (L_ch q z)).1.1 = 0 then Z_os (Z_ps (X_op z.2.1) s (L_ch q z)).2 (L_at (q + (b_el z.1 z.2.1 z.2.2).length) cs) else Z_ps (X_op z.2.1) s (L_ch q z)).2.1 ∧ _
    rw [hLc]
    by_cases g : (Z_ps (X_op z.2.1) s (L_at (q + 6 + z.2.1.length) es)).1.1 = 0
    · rw [if_pos g]
      exact ih (q + (b_el z.1 z.2.1 z.2.2).length) _ (fun y hy => hz y (List.mem_cons_of_mem _ hy)) i1 (by omega) i3 i4
    · rw [if_neg g]
      exact ⟨i1, i3, i4⟩
/-- what a change makes of a document: (fault, place), (the document, whether it is another) -/
noncomputable def U_R (pc qc : Int) (cs : List b_E) (es : List b_E) : (Int × Int) × (List b_E × Int) := Z_end pc (Z_os (es, 0) (L_at qc cs))
def U_cs (cs : List b_E) : Prop := (∀ z ∈ cs, z.1 = 3 ∧ b_gv 21 z.1 z.2.2 ∧ ∀ y ∈ b_ch z.2.2, p_ok y.2.1) ∧ (b_ser cs).length ≤ 3000
theorem U_R_ok {pc qc : Int} {cs es : List b_E} (hc : U_cs cs) (hg : X_gd 15 es) (hl : (b_doc es).length ≤ 2000) (h0 : (U_R pc qc cs es).1.1 = 0) : X_gd 15 (U_R pc qc cs es).2.1 ∧ (b_doc (U_R pc qc cs es).2.1).length ≤ 2000 ∧ ((U_R pc qc cs es).2.2 = 0 ∨ (U_R pc qc cs es).2.2 = 1) ∧ ((U_R pc qc cs es).2.2 = 0 → (U_R pc qc cs es).2.1 = es) := by
  obtain ⟨i1, i2, i3⟩ := Z_os_gd (e0 := es) cs qc (es, 0) hc.1 (hg.le (by decide)) (by
    have := hc.2
    rw [b_doc_len] at hl
    show (b_ser es).length + _ ≤ _
    omega) (Or.inl rfl) (fun _ => rfl)
  unfold U_R Z_end at h0 ⊢
  obtain ⟨R, hR⟩ : ∃ R, R = Z_os (es, 0) (L_at qc cs) := ⟨_, rfl⟩
  rw [← hR] at h0 i1 i2 i3 ⊢
  by_cases g : R.1.1 = 0
  · rw [if_pos g] at h0 ⊢
    by_cases g2 : 2000 < (b_doc R.2.1).length
    · rw [if_pos g2] at h0
      exact absurd h0 (show ¬ ((9 : Int) = 0) by decide)
    · rw [if_neg g2] at h0 ⊢
      by_cases g3 : 16 < b_dp 31 1 R.2.1
      · rw [if_pos g3] at h0
        exact absurd h0 (show ¬ ((9 : Int) = 0) by decide)
      · rw [if_neg g3]
        exact ⟨b_dp_gd 30 15 1 R.2.1 i1 (by
          have h16 : b_dp 31 1 R.2.1 ≤ 16 := by omega
          exact h16), by omega, i2, i3⟩
  · rw [if_neg g] at h0
    exact absurd h0 g
