section WRPP
variable {m d : Nat} {ρ : Nat → Nat} {M M1 M2 : g_M} {S : W_S} {q : Nat → List (Nat × Int × List b_E)} {Q : Int → g_M → Prop} {w : Nat}
theorem P_FS_t {y : Nat} {k : Int} (z : P_FS m (ρ 18) (ρ 20) y k) : (y = m ∧ k ≠ 47 ∧ k ≠ 40 ∧ k ≠ 2 ∧ k ≠ 24) ∨ (∃ j ∈ E_pk, y = ρ j) ∨ (y = ρ 0 ∧ ((802000 ≤ k ∧ k < 982000) ∨ (2598000 ≤ k ∧ k < 2706200))) := by
  rcases z with ⟨z, hk⟩ | z | z
  · exact Or.inl ⟨z, by omega, by omega, by omega, by omega⟩
  · exact Or.inr (Or.inl ⟨18, by decide, z⟩)
  · exact Or.inr (Or.inl ⟨20, by decide, z⟩)
theorem P_E_t {y : Nat} {k : Int} (z : P_E m (ρ 0) (ρ 22) (ρ 18) (ρ 9) (ρ 30) (ρ 31) (ρ 34) y k) : (y = m ∧ k ≠ 47 ∧ k ≠ 40 ∧ k ≠ 2) ∨ (∃ j ∈ E_pk, y = ρ j) ∨ (y = ρ 0 ∧ ((802000 ≤ k ∧ k < 982000) ∨ (2598000 ≤ k ∧ k < 2706200))) := by
  rcases z with (⟨z, hk⟩ | z | z | ⟨z, hk⟩) | (z | ⟨z, hk⟩) | z | z | z | ⟨z, hk⟩
  · exact Or.inl ⟨z, by omega, by omega, by omega⟩
  · exact Or.inr (Or.inl ⟨22, by decide, z⟩)
  · exact Or.inr (Or.inl ⟨18, by decide, z⟩)
  · exact Or.inr (Or.inr ⟨z, by omega⟩)
  · exact Or.inr (Or.inl ⟨9, by decide, z⟩)
  · exact Or.inl ⟨z, by omega, by omega, by omega⟩
  · exact Or.inr (Or.inl ⟨30, by decide, z⟩)
  · exact Or.inr (Or.inl ⟨31, by decide, z⟩)
  · exact Or.inr (Or.inl ⟨34, by decide, z⟩)
  · exact Or.inl ⟨z, by omega, by omega, by omega⟩
theorem E_H.PR0 {st : Nat → I_T} {v : Nat → Int} (H : E_H m ρ st q v M) (hS : E_S m (ρ 0) (ρ 9) (g_i M (ρ 0)) M []) : P_R0 m (ρ 0) (ρ 22) (ρ 18) (ρ 9) (ρ 20) (ρ 30) (ρ 31) (ρ 34) M := by
  have hB := H.1
  have ne : ∀ {i j : Nat}, i ∈ E_bf → j ∈ E_bf → i ≠ j → ρ i ≠ ρ j := fun h1 h2 h3 => hB.ne h1 h2 h3
  have r : ∀ {j : Nat}, j ∈ E_bf → g_r M m j = some (ρ j) := fun hj => (hB.at hj).1
  have A : ∀ {j : Nat}, (hj : j ∈ E_bf) → g_A M (ρ j) (E_bt j) (E_bl j) := fun hj => (hB.at hj).2
  exact ⟨⟨⟨hB.R, r (by decide), r (by decide), A (j := 22) (by decide), A (j := 18) (by decide), ne (by decide) (by decide) (by decide)⟩, ⟨r (by decide), r (by decide)⟩, ⟨A (j := 30) (by decide), A (j := 31) (by decide)⟩, ne (by decide) (by decide) (by decide), ne (by decide) (by decide) (by decide), ne (by decide) (by decide) (by decide), ne (by decide) (by decide) (by decide), ne (by decide) (by decide) (by decide)⟩, ⟨r (by decide), A (j := 34) (by decide)⟩, hS, ⟨r (by decide), A (j := 20) (by decide)⟩, ⟨ne (by decide) (by decide) (by decide), ne (by decide) (by decide) (by decide), ne (by decide) (by decide) (by decide), ne (by decide) (by decide) (by decide)⟩, H.2.2.1⟩
theorem W_ppl_e {h : b_E} {De : Nat} (hDe : De ≤ 18) (H : E_H m ρ S.1 q S.2.2 M) (hS : E_S m (ρ 0) (ρ 9) (g_i M (ρ 0)) M []) (h40 : g_i M m 40 = 0 ∨ g_i M m 40 = 1) (h24 : g_i M m 24 = 0 ∨ g_i M m 24 = 1) (hw : w < 2) (hd : ∀ w, w < 2 → R_dn (q w) = S.2.1 w) (hs : b_st (g_i M (ρ 0)) 2100 4 (De + 1) h.1 h.2.1 h.2.2) (hk4 : h.1 = 4) (hk3 : ∀ it ∈ b_ch h.2.2, it.1 = 3) (hq : W_E m ρ M (W_ppl 4 w h S) Q) : g_Call (d + 231) 424 [.ref m, g_n (4 + 2 + h.2.1.length), g_n w] M (g_qI Q) := by
  have hB := H.1
  have ne : ∀ {i j : Nat}, i ∈ E_bf → j ∈ E_bf → i ≠ j → ρ i ≠ ρ j := fun h1 h2 h3 => hB.ne h1 h2 h3
  have hpk : ∀ j ∈ E_pk, j ∈ E_bf := by decide
  have nm : ∀ {j : Nat}, j ∈ E_bf → ρ j ≠ m := fun hj => hB.nm hj
  have e1 : ∀ v, v < 2 → ((q v).map fun z => z.2.2) = (S.2.1 v).map Prod.snd := fun v hv => by rw [← (R_dn_3 (q v)).2, hd v hv]
  have hT : R_tb m (ρ 68) (ρ 71) M := ⟨(hB.at (k := 68) (by decide)).1, (hB.at (k := 68) (by decide)).2, (hB.at (k := 71) (by decide)).1, (hB.at (k := 71) (by decide)).2⟩
  have hw2 : ((1 - w : Nat) : Int) = 1 - (w : Int) := by omega
  have hsw := (H.2.2.2.2 w hw).sh
  have hsv := (H.2.2.2.2 (1 - w) (by omega)).sh
  rw [e1 w hw] at hsw
  rw [e1 (1 - w) (by omega), hw2] at hsv
  have step : ∀ {M3 M4 : g_M}, e_fr (P_FS m (ρ 18) (ρ 20)) M M3 → e_fr (P_E m (ρ 0) (ρ 22) (ρ 18) (ρ 9) (ρ 30) (ρ 31) (ρ 34)) M3 M4 → (g_i M4 m 24 = 0 ∨ g_i M4 m 24 = 1) → E_H m ρ S.1 q S.2.2 M4 ∧ (g_i M4 m 40 = 0 ∨ g_i M4 m 40 = 1) ∧ E_k2 m M M4 := fun {M3 M4} f1 f2 g24 => by
    have H3 := H.pp f1 fun y k z => by
      rcases P_FS_t z with ⟨a, b, -⟩ | a
      · exact Or.inl ⟨a, b⟩
      · exact Or.inr a
    have H4 := H3.pp f2 fun y k z => by
      rcases P_E_t z with ⟨a, b, -⟩ | a
      · exact Or.inl ⟨a, b⟩
      · exact Or.inr a
    have n1 : ∀ k : Int, k = 40 ∨ k = 2 → ¬ P_FS m (ρ 18) (ρ 20) m k := fun k hk z => by
      rcases P_FS_t z with ⟨-, a, b, c, -⟩ | ⟨j, hj, e⟩ | ⟨e, -⟩
      · omega
      · exact nm (hpk j hj) e.symm
      · exact nm (by decide) e.symm
    have n2 : ∀ k : Int, k = 40 ∨ k = 2 → ¬ P_E m (ρ 0) (ρ 22) (ρ 18) (ρ 9) (ρ 30) (ρ 31) (ρ 34) m k := fun k hk z => by
      rcases P_E_t z with ⟨-, a, b, c⟩ | ⟨j, hj, e⟩ | ⟨e, -⟩
      · omega
      · exact nm (hpk j hj) e.symm
      · exact nm (by decide) e.symm
    refine ⟨H4, ?_, f2.1.trans f1.1, fun x k => (f2.2.2 x k).trans (f1.2.2 x k), ?_, fun _ => g24⟩
    · rw [f2.2.1 m 40 (n2 40 (by omega)), f1.2.1 m 40 (n1 40 (by omega))]
      exact h40
    · rw [f2.2.1 m 2 (n2 2 (by omega)), f1.2.1 m 2 (n1 2 (by omega))]
  unfold W_ppl at hq
  refine e_pipeline (dd := d) (n := 16) (by decide) hDe (by omega) (H.PR0 hS) hT ⟨⟨ne (by decide) (by decide) (by decide), ne (by decide) (by decide) (by decide)⟩, ne (by decide) (by decide) (by decide), ne (by decide) (by decide) (by decide)⟩ rfl h24 hsw hsv hs hk4 hk3 (fun z M3 M4 f1 r1 f2 r2 g24 e7 e8 => ?_) fun z M3 M4 M5 f1 r1 f2 r2 g24 f3 W3 => ?_
  · rw [if_neg z] at hq
    obtain ⟨H4, a40, k4⟩ := step f1 f2 g24
    exact hq.told z k4 H4 r2.2.2.1 a40 hd e7 e8
  · rw [if_pos z] at hq
    obtain ⟨H4, a40, k4⟩ := step f1 f2 g24
    exact hq.okk k4 r2.2.2.1 a40 H4 hd f3 W3
end WRPP
