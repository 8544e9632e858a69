/-! REQUESTS, THE CLASS: explain -/
def Ck_e : List Nat := [6, 7, 8, 9, 90, 50, 52, 53, 54, 55, 56, 57]
/-- what a right filter gives for the path X -/
def C_bq (F : Int → Int) (X : List Int) (l : List (Int × b_E)) : Prop := (p_sp X).length ≤ 8 ∧ D_cv 8 X l ∧ (D_co 8 X l).length ≤ 200 ∧ (∀ z ∈ D_co 8 X l, Bd_zv F 246408 z) ∧ (∀ l1 z l2, D_co 8 X l = l1 ++ z :: l2 → ∀ A P, D_als none l1 = some A → D_ba z.1 z.2 = some P → A.length ≤ 690 ∧ (D_mts A P).length ≤ 690) ∧ ∀ mn P, D_bd mn (D_co 8 X l) = some P → P.length ≤ 690
section CEX
variable {d : Nat} {ι : Nat → Nat} {κ : Nat → Nat → Nat} {al sz : Nat → Nat × Nat} {cB eB : Int} {st : Nat → I_T} {D : Nat → List (Int × List b_E)} {gv : Nat → Int} {M M0 M1 : g_M} {x w w' : Nat} {u : List Int}
theorem c_bindH {Q : Int → g_M → Prop} {De s po f t a : Nat} {mv pe : Int} {fe : b_E} {X : List Int} (h : C_H ι κ al sz cB eB st D gv M) (hB : Bd_c (ι 50) (ι 1) (ι 2) (ι 51) (ι 52) (C_r ι) po f t a X 246408 (g_i M (ι 2)) (cB + C_sm (C_c sz) 8) (eB + C_sm (C_e sz) 8) [] M) (hm : mv = 0 ∨ mv = 1) (hs : s < 2) (he : b_st (g_i M (ι 2)) 2008 pe De fe.1 fe.2.1 fe.2.2) (hk : fe.1 = 3) (hDe : De ≤ 16) (hbq : C_bq (g_i M (ι 2)) X (L_ch pe fe)) (hq : ∀ (b : Option (List D_i)) (M1 : g_M), C_H ι κ al sz cB eB st D gv M1 → C_fx Ck_b ι M M1 → D_O b (D_bd (decide (mv = 1)) (D_co 8 X (L_ch pe fe))) → (∀ E, b = some E → Bd_S (ι 52) (C_r ι) s E M1 ∧ E.length ≤ 690 ∧ ∀ i ∈ E, Bd_io (g_i M (ι 2)) 246408 i) → (∀ s2 A2, s2 < 2 → s2 ≠ s → Bd_S (ι 52) (C_r ι) s2 A2 M → Bd_S (ι 52) (C_r ι) s2 A2 M1) → Q (if b.isSome = true then 1 else 0) M1) : g_Call (d + 50) 6 [.ref (ι 50), g_n pe, .ref po, g_n mv, g_n (s : Int)] M (g_qI Q) := by
  obtain ⟨q1, q2, q3, q4, q5, q6⟩ := hbq
  have hel := b_el_len fe.1 fe.2.1 fe.2.2
  have s5 := he.2.2.2.2
  have s4 := he.2.2.2.1
  have hb : b_st (g_i M (ι 2)) 246408 pe De fe.1 fe.2.1 fe.2.2 := ⟨he.1, he.2.1, he.2.2.1, s4, by omega⟩
  have h9 : g_Call (d + 50) 6 [.ref (ι 50), g_n pe, .ref po, g_n (if (decide (mv = 1)) = true then 1 else 0), g_n (s : Int)] M (g_qI Q) := by
    refine c_bind (d := d) (by decide) q1 hB hs hb hk (by omega) hDe q2 rfl q3 (by show (0 : Nat) ≤ 500; decide) q4 q5 (fun e M1 k1 B1 o1 => ?_) fun P E M1 e hE hio k1 B1 o1 S1 => ?_
    · obtain ⟨H1, f1⟩ := h.bS k1 B1.2.1 (fun y hy => hy) B1.2.2.2.1
      exact hq none M1 H1 f1 (by rw [e]; exact trivial) (fun E hE => absurd hE (by simp)) o1
    · obtain ⟨H1, f1⟩ := h.bS k1 B1.2.1 (fun y hy => hy) B1.2.2.2.1
      have hl := D_2.len hE
      have := q6 _ P e
      refine hq (some E) M1 H1 f1 (by rw [e]; exact hE) (fun E2 hE2 => ?_) o1
      have hE2 : E = E2 := Option.some.inj hE2
      rw [← hE2]
      exact ⟨S1, by omega, hio⟩
  rw [D_mv hm]
  exact h9
end CEX
