/-! WHAT A REQUEST DOES: the class's answer -/
def A_flt (c p : Int) : List Int := A_doc (b_el 16 (b_tx 71) (b_le4 c) ++ b_el 16 (b_tx 72) (b_le4 p))
theorem A_doc_len (x : List Int) : (A_doc x).length = x.length + 5 := by
  unfold A_doc
  rw [List.length_append, List.length_append, List.length_singleton]
  have h4 : (b_le4 ((x.length : Int) + 5)).length = 4 := rfl
  omega
theorem A_flt_len (c p : Int) : (A_flt c p).length ≤ 8000 := by
  unfold A_flt
  rw [A_doc_len, List.length_append, b_el_len, b_el_len]
  have h1 : (b_le4 c).length = 4 := rfl
  have h2 : (b_le4 p).length = 4 := rfl
  have h3 : (b_tx 71).length ≤ 100 := by decide
  have h4 : (b_tx 72).length ≤ 100 := by decide
  omega
noncomputable def W_an (c p : Int) (x : List Int) : List Int := if c = 0 then (if (A_doc x).length ≤ 8000 then A_doc x else A_flt 40 (-1)) else A_flt c p
theorem W_an_len (c p : Int) (x : List Int) : (W_an c p x).length ≤ 8000 := by
  unfold W_an
  split
  · split
    · assumption
    · exact A_flt_len _ _
  · exact A_flt_len _ _
noncomputable def W_ans (R : W_R) : List Int := W_an R.1.1 (W_q4 R.1.2) R.2.1
section CTE
variable {d : Nat} {ι : Nat → Nat} {κ : Nat → Nat → Nat} {al sz : Nat → Nat × Nat} {cB eB : Int} {st : Nat → I_T} {D : Nat → List (Int × List b_E)} {gv : Nat → Int} {M M0 M1 : g_M} {x w n : Nat} {u : List Int}
theorem C_H.wr0 (h : C_H ι κ al sz cB eB st D gv M) {S : Nat → Int → Prop} (f : e_fr S M M1) (hS : ∀ y k, S y k → y = ι 3 ∨ y = ι 4) : C_H ι κ al sz cB eB st D gv M1 ∧ g_i M1 (ι 0) = g_i M (ι 0) ∧ g_r M1 (ι 0) = g_r M (ι 0) := by
  refine ⟨h.es (T := [3, 4]) f (by decide) fun y k z => ?_, funext fun k => f.2.1 _ _ fun z => ?_, funext fun k => f.2.2 _ _⟩
  · rcases hS y k z with e | e
    · exact ⟨3, by decide, e, fun g => absurd g (by decide)⟩
    · exact ⟨4, by decide, e, fun g => absurd g (by decide)⟩
  · rcases hS _ _ z with e | e
    · exact h.2.1.ne (by decide) (by decide) (by decide) e
    · exact h.2.1.ne (by decide) (by decide) (by decide) e
theorem c_WL_34 {y : Nat} {k : Int} (z : c_WL (ι 3) (ι 4) 0 8000 y k) : y = ι 3 ∨ y = ι 4 := by
  rcases z with ⟨z, -⟩ | ⟨z, -⟩
  · exact Or.inl z
  · exact Or.inr z
/-- the answer begins anew -/
theorem c_anew {Q : g_M → Prop} (H : C_H ι κ al sz cB eB st D gv M) (hq : ∀ M1, C_H ι κ al sz cB eB st D gv M1 → g_i M1 (ι 0) = g_i M (ι 0) ∧ g_r M1 (ι 0) = g_r M (ι 0) → g_i M1 (ι 2) = g_i M (ι 2) → c_Wr (ι 3) (ι 4) 8000 0 8000 [0, 0, 0, 0] M1 → g_ok M1 → Q M1) : g_r M (ι 0) 1 = some (ι 3) ∧ g_O M (ι 3) 4 ∧ g_Call (d + 2) 75 [.ref (ι 3), g_n 0, g_n 8000] M (g_qV fun M5 => g_ext M M5 → g_ok M5 → ∃ b8, g_r M5 (ι 0) 1 = some b8 ∧ g_O M5 b8 4 ∧ g_Call (d + 2) 85 [.ref b8] M5 (g_qI fun r14 M11 => g_ext M5 M11 → g_ok M11 → g_InR r14 → Q M11)) := by
  refine ⟨H.1.r (by decide), H.1.O (by decide), c_start (d := d + 1) (o := ι 3) (buf := ι 4) (n := 8000) (H.1.O (by decide)) (H.1.r (by decide)) (H.1.A (by decide)) (by decide) (by decide) (by decide) (by decide) fun M5 f5 W5 => ?_⟩
  intro _ _
  obtain ⟨H5, k5⟩ := H.wr0 f5 fun y k z => Or.inl z.1
  refine ⟨ι 3, H5.1.r (by decide), H5.1.O (by decide), c_open (d := d) W5 fun r M6 f6 W6 _ => ?_⟩
  intro _ ok6 _
  obtain ⟨H6, k6⟩ := H5.wr0 f6 fun y k z => c_WL_34 z
  have n2 : ∀ {M2 M3 : g_M} {S : Nat → Int → Prop}, e_fr S M2 M3 → (∀ y k, S y k → y = ι 3 ∨ y = ι 4) → g_i M3 (ι 2) = g_i M2 (ι 2) := fun f hS => funext fun k => f.2.1 _ _ fun z => by
    rcases hS _ _ z with e | e
    · exact H.2.1.ne (by decide) (by decide) (by decide) e
    · exact H.2.1.ne (by decide) (by decide) (by decide) e
  exact hq M6 H6 ⟨k6.1.trans k5.1, k6.2.trans k5.2⟩ ((n2 f6 fun y k z => c_WL_34 z).trans (n2 f5 fun y k z => Or.inl z.1)) W6 ok6
theorem c_shut {Q : g_M → Prop} {t : List Int} (H : C_H ι κ al sz cB eB st D gv M) (hW : c_Wr (ι 3) (ι 4) 8000 0 8000 ([0, 0, 0, 0] ++ t) M) (hq : ∀ M1, C_H ι κ al sz cB eB st D gv M1 → g_i M1 (ι 0) = g_i M (ι 0) ∧ g_r M1 (ι 0) = g_r M (ι 0) → c_Wr (ι 3) (ι 4) 8000 0 8000 (A_doc t) M1 → Q M1) : g_Call (d + 2) 86 [.ref (ι 3), g_n 0] M (g_qV Q) := by
  refine c_close (d := d) (pre := []) (body := t) (r := 0) hW ⟨by decide, by decide, Or.inl rfl⟩ fun M1 f1 W1 => ?_
  obtain ⟨H1, k1⟩ := H.wr0 f1 fun y k z => c_WL_34 z
  exact hq M1 H1 k1 W1
theorem c_tellF {Q : g_M → Prop} {c p : Int} (H : C_H ι κ al sz cB eB st D gv M) (h17 : g_i M (ι 0) 17 = c) (h18 : g_i M (ι 0) 18 = p) (hc : g_InR c) (hp : g_InR p) (hq : ∀ M1, C_H ι κ al sz cB eB st D gv M1 → g_i M1 (ι 0) = g_i M (ι 0) → c_Wr (ι 3) (ι 4) 8000 0 8000 (A_flt c p) M1 → Q M1) : g_Call (d + 5) 196 [.ref (ι 0)] M (g_qV Q) := by
  obtain ⟨a1, a2, a3⟩ := c_anew (d := d + 2) (Q := fun M11 => ∃ b16, g_r M11 (ι 0) 1 = some b16 ∧ g_O M11 b16 4 ∧ g_Call (d + 4) 87 [.ref b16, .ref (4 * 71 + 1), g_n (g_i M11 (ι 0) 17)] M11 (g_qV fun M19 => g_ext M11 M19 → g_ok M19 → ∃ b22, g_r M19 (ι 0) 1 = some b22 ∧ g_O M19 b22 4 ∧ g_Call (d + 4) 87 [.ref b22, .ref (4 * 72 + 1), g_n (g_i M19 (ι 0) 18)] M19 (g_qV fun M25 => g_ext M19 M25 → g_ok M25 → ∃ b28, g_r M25 (ι 0) 1 = some b28 ∧ g_O M25 b28 4 ∧ g_Call (d + 4) 86 [.ref b28, g_n 0] M25 (g_qV fun M31 => g_ext M25 M31 → g_ok M31 → Q M31)))) H fun M1 H1 k1 _ W1 _ => by
    refine ⟨ι 3, H1.1.r (by decide), H1.1.O (by decide), ?_⟩
    rw [k1.1, h17]
    refine c_named2 (d := d) (j := 71) (by decide) W1 hc fun M2 f2 W2 => ?_
    intro _ _
    obtain ⟨H2, k2⟩ := H1.wr0 f2 fun y k z => c_WL_34 z
    refine ⟨ι 3, H2.1.r (by decide), H2.1.O (by decide), ?_⟩
    rw [k2.1, k1.1, h18]
    refine c_named2 (d := d) (j := 72) (by decide) W2 hp fun M3 f3 W3 => ?_
    intro _ _
    obtain ⟨H3, k3⟩ := H2.wr0 f3 fun y k z => c_WL_34 z
    rw [List.append_assoc] at W3
    refine ⟨ι 3, H3.1.r (by decide), H3.1.O (by decide), c_shut (d := d + 2) H3 W3 fun M4 H4 k4 W4 => ?_⟩
    intro _ _
    exact hq M4 H4 (k4.1.trans (k3.1.trans (k2.1.trans k1.1))) W4
  exact m_X11_tellFault (d := d + 4) fun _ => ⟨H.1.O (by decide), ι 3, a1, a2, a3⟩
/-- the end of a request -/
theorem c_219 {Q : Int → g_M → Prop} {v1 c p : Int} {x t : List Int} (hv1 : g_InR v1) (H : C_H ι κ al sz cB eB st D gv M) (h0 : c = 0 → g_i M (ι 0) 17 = 0 ∧ c_Wr (ι 3) (ι 4) 8000 0 8000 ([0, 0, 0, 0] ++ x) M) (h1 : c ≠ 0 → g_i M (ι 0) 17 = c ∧ g_i M (ι 0) 18 = p ∧ c_Wr (ι 3) (ι 4) 8000 0 8000 ([0, 0, 0, 0] ++ t) M) (hq : ∀ M1, C_H ι κ al sz cB eB st D gv M1 → (∀ k, k ≠ 17 → k ≠ 18 → g_i M1 (ι 0) k = g_i M (ι 0) k) → c_Wr (ι 3) (ι 4) 8000 0 8000 (W_an c p x) M1 → Q (W_an c p x).length M1) : g_Run (d + 5) 195 219 [(0, .ref (ι 0)), (1, g_n v1)] [] M (g_qI Q) := by
  have hlen : ∀ {M1 : g_M}, c_Wr (ι 3) (ι 4) 8000 0 8000 (W_an c p x) M1 → g_i M1 (ι 3) 1 = (W_an c p x).length := fun W => by
    have hl := W_an_len c p x
    rcases W.2.2.2.2 with ⟨-, z, -, -⟩ | ⟨-, -, -, z⟩
    · rw [z]
      omega
    · omega
  have hfin : ∀ (M1 : g_M) (c' p' : Int), C_H ι κ al sz cB eB st D gv M1 → g_i M1 (ι 0) 17 = c' → g_i M1 (ι 0) 18 = p' → g_InR c' → g_InR p' → (∀ k, k ≠ 17 → k ≠ 18 → g_i M1 (ι 0) k = g_i M (ι 0) k) → W_an c p x = A_flt c' p' → g_Call (d + 5) 196 [.ref (ι 0)] M1 (g_qV fun M23 => g_ext M1 M23 → g_ok M23 → ∃ b26, g_r M23 (ι 0) 1 = some b26 ∧ g_O M23 b26 4 ∧ Q (g_i M23 b26 1) M23) := fun M1 c' p' H1 e17 e18 hc hp k1 hA => c_tellF (d := d) H1 e17 e18 hc hp fun M2 H2 k2 W2 => by
    rw [← hA] at W2
    intro _ _
    refine ⟨ι 3, H2.1.r (by decide), H2.1.O (by decide), ?_⟩
    rw [hlen W2]
    exact hq M2 H2 (fun k q1 q2 => by rw [k2]; exact k1 k q1 q2) W2
  by_cases g : c = 0
  · obtain ⟨e17, W⟩ := h0 g
    refine s_X11_ask_219 (a0 := ι 0) hv1 fun _ => ⟨H.1.O (by decide), ι 3, H.1.r (by decide), H.1.O (by decide), c_shut (d := d + 3) H W fun M5 H5 k5 W5 => ?_⟩
    intro _ ok5
    have e5 : g_i M5 (ι 0) 17 = 0 := by rw [k5.1]; exact e17
    refine ⟨fun _ => ⟨ι 3, H5.1.r (by decide), H5.1.O (by decide), fun go => ⟨fun _ => ⟨ι 3, H5.1.r (by decide), H5.1.O (by decide), ?_⟩, fun z => absurd e5 z⟩, fun go => ?_⟩, fun z => absurd e5 z⟩
    · have hA : W_an c p x = A_doc x := by
        unfold W_an
        rw [if_pos g, if_pos]
        rcases W5.2.2.2.2 with ⟨-, -, z, -⟩ | ⟨z, -, -, -⟩
        · omega
        · omega
      rw [← hA] at W5
      rw [hlen W5]
      exact hq M5 H5 (fun k _ _ => by rw [k5.1]) W5
    · refine c_fail (d := d + 4) (H5.1.O (by decide)) ⟨by decide, by decide⟩ ⟨by decide, by decide⟩ ?_
      intro _ ok6
      obtain ⟨H6, a1, a2, a3⟩ := H5.fl (a := 40) (b := -1) rfl
      refine ⟨fun z => absurd (a1.symm.trans z) (by decide), fun _ => hfin _ 40 (-1) H6 a1 a2 ⟨by decide, by decide⟩ ⟨by decide, by decide⟩ (fun k q1 q2 => by rw [a3 k q1 q2, k5.1]) ?_⟩
      unfold W_an
      rw [if_pos g, if_neg]
      rcases W5.2.2.2.2 with ⟨z, -, -, -⟩ | ⟨-, -, -, z⟩
      · exact absurd z go
      · omega
  · obtain ⟨e17, e18, W⟩ := h1 g
    refine s_X11_ask_219 (a0 := ι 0) hv1 fun _ => ⟨H.1.O (by decide), ι 3, H.1.r (by decide), H.1.O (by decide), c_shut (d := d + 3) H W fun M5 H5 k5 W5 => ?_⟩
    intro _ ok5
    have e5 : g_i M5 (ι 0) 17 = c := by rw [k5.1]; exact e17
    have e6 : g_i M5 (ι 0) 18 = p := by rw [k5.1]; exact e18
    refine ⟨fun z => absurd (e5.symm.trans z) g, fun _ => ⟨fun z => absurd (e5.symm.trans z) g, fun _ => hfin M5 c p H5 e5 e6 (by rw [← e5]; exact ok5.1 _ _) (by rw [← e6]; exact ok5.1 _ _) (fun k _ _ => by rw [k5.1]) ?_⟩⟩
    unfold W_an
    rw [if_neg g]
end CTE
