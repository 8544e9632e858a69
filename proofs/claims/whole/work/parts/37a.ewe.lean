/-! WHAT A REQUEST DOES: the reference, its outcome -/
/-- all but the values stays; field 24 is a truth -/
def E_k2 (m : Nat) (M M1 : g_M) : Prop := M1.1 = M.1 ∧ (∀ x k, g_r M1 x k = g_r M x k) ∧ g_i M1 m 2 = g_i M m 2 ∧ ((g_i M m 24 = 0 ∨ g_i M m 24 = 1) → (g_i M1 m 24 = 0 ∨ g_i M1 m 24 = 1))
theorem E_k2.tr {m : Nat} {M M1 M2 : g_M} (h : E_k2 m M M1) (h2 : E_k2 m M1 M2) : E_k2 m M M2 := ⟨h2.1.trans h.1, fun x k => (h2.2.1 x k).trans (h.2.1 x k), h2.2.2.1.trans h.2.2.1, fun z => h2.2.2.2 (h.2.2.2 z)⟩
theorem E_k.k2 {m : Nat} {M M1 : g_M} (h : E_k m M M1) : E_k2 m M M1 := ⟨h.1, h.2.1, h.2.2.1, fun z => by rw [h.2.2.2]; exact z⟩
def W_E (m : Nat) (ρ : Nat → Nat) (M0 : g_M) (R : W_R) (Q : Int → g_M → Prop) : Prop := ∀ (q1 : Nat → List (Nat × Int × List b_E)) (M1 : g_M), E_k2 m M0 M1 → E_S m (ρ 0) (ρ 9) (g_i M1 (ρ 0)) M1 [] → (g_i M1 m 40 = 0 ∨ g_i M1 m 40 = 1) → E_H m ρ R.2.2.1 q1 R.2.2.2.2 M1 → (∀ w, w < 2 → R_dn (q1 w) = R.2.2.2.1 w) → (R.1.1 = 0 → (A_doc R.2.1).length ≤ 8000 → e_Wr m (ρ 0) 2598000 2606000 (A_doc R.2.1) M1 → Q 1 M1) ∧ (∀ c p : Int, (R.1.1 = 0 → 8000 < (A_doc R.2.1).length ∧ c = 40 ∧ p = -1) → (R.1.1 ≠ 0 → c = R.1.1 ∧ p = R.1.2) → g_i M1 m 7 = c → g_i M1 m 8 = p → Q 0 M1)
section EWE
variable {m d : Nat} {ρ : Nat → Nat} {M M1 M2 : g_M} {S : W_S} {q : Nat → List (Nat × Int × List b_E)} {Q : Int → g_M → Prop}
theorem E_HP_m {y : Nat} {k : Int} (h : E_bk m ρ M) (g : E_HP m ρ y k) : ¬ (y = m ∧ (k = 7 ∨ k = 8)) := by
  rintro ⟨e, hk⟩
  rcases g with ⟨x, hx, z⟩ | ⟨w, hw, z⟩ | ⟨-, z⟩ | ⟨z, -⟩
  · obtain ⟨j, hj, -, e2, -⟩ := R_xP_k z
    exact absurd (e2.symm.trans e) (h.nm hj)
  · obtain ⟨j, hj, -, -, e2⟩ := R_hP_k z
    exact absurd (e2.symm.trans e) (h.nm hj)
  · omega
  · exact absurd (z.symm.trans e) (h.nm (by decide))
/-- a fault is told -/
theorem E_fl {st : Nat → I_T} {v : Nat → Int} {c p : Int} (hM : M1 = g_wi (g_wi M m 7 c) m 8 p) (h : E_H m ρ st q v M) (hS : E_S m (ρ 0) (ρ 9) (g_i M (ρ 0)) M []) (h40 : g_i M m 40 = 0 ∨ g_i M m 40 = 1) : E_H m ρ st q v M1 ∧ E_S m (ρ 0) (ρ 9) (g_i M1 (ρ 0)) M1 [] ∧ (g_i M1 m 40 = 0 ∨ g_i M1 m 40 = 1) ∧ E_k m M M1 ∧ g_i M1 m 7 = c ∧ g_i M1 m 8 = p := by
  have f : e_fr (fun y k => y = m ∧ (k = 7 ∨ k = 8)) M M1 := by
    rw [hM]
    exact (e_fr.wi _ ⟨rfl, Or.inl rfl⟩).tr (e_fr.wi _ ⟨rfl, Or.inr rfl⟩)
  refine ⟨h.fr f fun y k g => E_HP_m h.1 g, hS.fx f (fun z => by omega) (fun k z => hS.ne.2.1 z.1), ?_, f.k (fun z => by omega) (fun z => by omega), ?_, ?_⟩
  · rw [f.2.1 m 40 fun z => by omega]
    exact h40
  · rw [hM, g_i_ws, if_neg (by decide), g_i_ws, if_pos rfl]
  · rw [hM, g_i_ws, if_pos rfl]
theorem W_E.fail {c p : Int} (hq : W_E m ρ M (W_f S c p) Q) (hc : c ≠ 0) (hk : E_k2 m M M1) (h : E_H m ρ S.1 q S.2.2 M1) (hS : E_S m (ρ 0) (ρ 9) (g_i M1 (ρ 0)) M1 []) (h40 : g_i M1 m 40 = 0 ∨ g_i M1 m 40 = 1) (hd : ∀ w, w < 2 → R_dn (q w) = S.2.1 w) : Q 0 (g_wi (g_wi M1 m 7 c) m 8 p) := by
  obtain ⟨a1, a2, a3, a4, a5, a6⟩ := E_fl (c := c) (p := p) rfl h hS h40
  exact (hq q _ (hk.tr a4.k2) a2 a3 a1 hd).2 c p (fun z => absurd z hc) (fun _ => ⟨rfl, rfl⟩) a5 a6
theorem W_E.okk {t : List Int} {S1 : W_S} (hq : W_E m ρ M ((0, 0), t, S1) Q) (hk : E_k2 m M M1) (hS : E_S m (ρ 0) (ρ 9) (g_i M1 (ρ 0)) M1 []) (h40 : g_i M1 m 40 = 0 ∨ g_i M1 m 40 = 1) (h : E_H m ρ S1.1 q S1.2.2 M1) (hd : ∀ w, w < 2 → R_dn (q w) = S1.2.1 w) (f : e_fr (A_L m (ρ 0)) M1 M2) (hW : e_Wr m (ρ 0) 2598000 2606000 (A_doc t) M2) : (g_i M2 m 6 = 0 → Q 1 M2) ∧ (¬ g_i M2 m 6 = 0 → Q 0 (g_wi (g_wi M2 m 7 40) m 8 (-1))) := by
  have n10 : ∀ k : Int, k = 10 ∨ k = 40 ∨ k = 2 ∨ k = 24 → ¬ A_L m (ρ 0) m k := fun k hk z => by
    rcases z with ⟨-, z⟩ | ⟨z, -⟩
    · omega
    · exact hS.ne.2.2 z
  have n9 : ∀ k, ¬ A_L m (ρ 0) (ρ 9) k := fun k z => by
    rcases z with ⟨z, -⟩ | ⟨z, -⟩
    · exact hS.ne.2.1 z
    · exact hS.ne.1 z
  have H2 := h.al f
  have S2 := hS.fx f (n10 10 (by omega)) n9
  have h402 : g_i M2 m 40 = 0 ∨ g_i M2 m 40 = 1 := by
    rw [f.2.1 m 40 (n10 40 (by omega))]
    exact h40
  have k2 := hk.tr (f.k (n10 2 (by omega)) (n10 24 (by omega))).k2
  refine ⟨fun z => ?_, fun z => ?_⟩
  · refine (hq q M2 k2 S2 h402 H2 hd).1 rfl ?_ hW
    show (A_doc t).length ≤ 8000
    rcases hW.2.2.2.2 with ⟨-, -, g, -⟩ | ⟨g, -, -, -⟩
    · omega
    · omega
  · obtain ⟨a1, a2, a3, a4, a5, a6⟩ := E_fl (c := 40) (p := -1) rfl H2 S2 h402
    refine (hq q _ (k2.tr a4.k2) a2 a3 a1 hd).2 40 (-1) (fun _ => ⟨?_, rfl, rfl⟩) (fun g => absurd rfl g) a5 a6
    show 8000 < (A_doc t).length
    rcases hW.2.2.2.2 with ⟨g, -, -, -⟩ | ⟨-, -, -, g⟩
    · exact absurd g z
    · omega
end EWE
