/-! REQUESTS, THE CLASS: whether it is one, in the house -/
def Ck_q : List Nat := [0, 60, 61, 62, 63, 64, 65]
/-- the shelf of a request -/
noncomputable def W_w (s : b_E) : Nat := if v_num s.1 s.2.2 = 0 then 0 else 1
theorem W_w_2 (s : b_E) : W_w s < 2 := by
  unfold W_w
  split <;> decide
section CWR
variable {d : Nat} {ι : Nat → Nat} {κ : Nat → Nat → Nat} {al sz : Nat → Nat × Nat} {cB eB : Int} {st : Nat → I_T} {D : Nat → List (Int × List b_E)} {gv : Nat → Int} {M M0 M1 : g_M} {x w w' : Nat} {u : List Int}
theorem c_wrongH {De : Nat} {Q : Int → g_M → Prop} {es : List b_E} (h : C_H ι κ al sz cB eB st D gv M) (hhd : b_st (g_i M (ι 2)) 2008 2 (De + 1) 3 [] (b_doc es)) (hes : b_sts (g_i M (ι 2)) 2008 8 De es) (hDe : De ≤ 20) (hq : ∀ M1, C_H ι κ al sz cB eB st D gv M1 → C_fx Ck_q ι M M1 → (∀ k, k ≠ 13 → k ≠ 14 → k ≠ 15 → g_i M1 (ι 0) k = g_i M (ι 0) k) → (Q_rq 8 es = -1 → ∃ h s r, es = h :: s :: r ∧ Q_sh s ∧ g_i M1 (ι 0) 13 = Q_op h.2.1 ∧ g_i M1 (ι 0) 14 = 8 ∧ g_i M1 (ι 0) 15 = 8 + (b_el h.1 h.2.1 h.2.2).length + (b_el s.1 s.2.1 s.2.2).length ∧ g_r M1 (ι 0) 16 = some (ι (67 + W_w s))) → Q (Q_rq 8 es) M1) : g_Call (d + 48) 205 [.ref (ι 0)] M (g_qI Q) := by
  have hb := h.1
  have hj := h.2.1
  have h7 : p_P M (ι 60) (ι 61) (ι 62) := ⟨hb.O (by decide), hb.r (by decide), hb.r (by decide), hb.A (by decide), hb.A (by decide), hj.ne (by decide) (by decide) (by decide)⟩
  have h8 : p_P M (ι 63) (ι 64) (ι 65) := ⟨hb.O (by decide), hb.r (by decide), hb.r (by decide), hb.A (by decide), hb.A (by decide), hj.ne (by decide) (by decide) (by decide)⟩
  have hhd2 : b_st (g_i M (ι 2)) 2100 2 (De + 1) 3 [] (b_doc es) := ⟨hhd.1, hhd.2.1, hhd.2.2.1, hhd.2.2.2.1, by have := hhd.2.2.2.2; omega⟩
  have hes2 : b_sts (g_i M (ι 2)) 2100 8 De es := ⟨hes.1, hes.2.1, hes.2.2.1, by have := hes.2.2.2.1; omega, hes.2.2.2.2⟩
  refine c_wrongInRequest (d := d) (hb.O (by decide)) (hb.r (by decide)) (hb.r (by decide)) (hb.r (by decide)) (hb.r (by decide)) (hb.A (by decide)) (hb.r (a := 66) (f := 0) (b := 67) (by decide)) (hb.r (a := 66) (f := 1) (b := 68) (by decide)) h7 h8 (hj.ne (by decide) (by decide) (by decide)) (hb.A (by decide)) hhd2 hes2 hDe fun M1 X hrq => ?_
  obtain ⟨f, xi, xr, p7, p8⟩ := X
  have hS : ∀ y, (y = ι 0 ∨ Q_F (ι 60) (ι 61) (ι 62) (ι 63) (ι 64) (ι 65) y) → ∃ a ∈ Ck_q, y = ι a := fun y z => by
    rcases z with z | (z | z | z) | (z | z | z)
    · exact ⟨0, by decide, z⟩
    · exact ⟨60, by decide, z⟩
    · exact ⟨61, by decide, z⟩
    · exact ⟨62, by decide, z⟩
    · exact ⟨63, by decide, z⟩
    · exact ⟨64, by decide, z⟩
    · exact ⟨65, by decide, z⟩
  have hsc : ∀ a ∈ Ck_q, a ∈ Ck_sc := by decide
  have hr : ¬ (ι 1 = ι 0 ∨ Q_F (ι 60) (ι 61) (ι 62) (ι 63) (ι 64) (ι 65) (ι 1)) := fun z => by
    obtain ⟨a, ha, e⟩ := hS _ z
    exact hj.ne (by decide) (Ck_sc_k a (hsc a ha)).1 (Ck_sc_k a (hsc a ha)).2.1.symm e
  have k := k_F.of f hr
  have hn2 : ∀ q, g_i M1 (ι 2) q = g_i M (ι 2) q := fun q => by
    rw [(f.2 (ι 2) fun z => ?_).1]
    obtain ⟨a, ha, e⟩ := hS _ z
    have e := hj.1 2 (by decide) a (Ck_sc_k a (hsc a ha)).1 e
    rw [← e] at ha
    exact absurd ha (by decide)
  refine hq M1 (h.kF k (h.2.2.1.of f hr fun p n hp hk z => ?_) (fun y hy => ?_) (fun q _ => hn2 q) fun l hl h1 hS1 => ?_) ⟨k.1, k.2.1, fun a ha h1 hn => h.1.sm h.2.2.1 k ha h1 fun z => ?_⟩ xi fun e => ?_
  · obtain ⟨a, ha, e⟩ := hS _ z
    exact h.1.pl (Ck_sc_k a (hsc a ha)).1 (Ck_sc_k a (hsc a ha)).2.1 hp hk e.symm
  · obtain ⟨a, ha, e⟩ := hS _ hy
    exact ⟨a, hsc a ha, e⟩
  · obtain ⟨a, ha, e⟩ := hS _ hS1
    have e := hj.1 _ (Ck_r_k l hl).1 a (Ck_sc_k a (hsc a ha)).1 e
    have hx : ∀ l ∈ Ck_r, l.1 ∈ Ck_q → (l.1 = 0 ∧ l.2.1 ≠ 16) ∨ l = (60, 1, 61) ∨ l = (60, 2, 62) ∨ l = (63, 1, 64) ∨ l = (63, 2, 65) := by decide
    rcases hx l hl (by rw [e]; exact ha) with e | e | e | e | e
    · rw [e.1]
      exact xr _ e.2
    all_goals rw [h.1.2.1 l hl]; subst e
    · exact p7.2.1
    · exact p7.2.2.1
    · exact p8.2.1
    · exact p8.2.2.1
  · obtain ⟨a2, ha2, e⟩ := hS _ z
    have e := hj.1 _ ha a2 (Ck_sc_k a2 (hsc a2 ha2)).1 e
    rw [← e] at ha2
    exact hn ha2
  · obtain ⟨h0, s, r, e1, e2, e3, e4, e5, e6, e7⟩ := hrq e
    refine ⟨h0, s, r, e1, e2, e3, e4, e5, ?_⟩
    unfold W_w
    by_cases g : v_num s.1 s.2.2 = 0
    · rw [if_pos g]
      exact e6 g
    · rw [if_neg g]
      rcases e2.2.2 with z | z
      · exact absurd z g
      · exact e7 z
end CWR
