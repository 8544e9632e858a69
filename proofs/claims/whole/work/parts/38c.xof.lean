/-! WHAT STANDS STAYS, whatever foreign cells hold -/
section XOF
variable {ι : Nat → Nat} {κ : Nat → Nat → Nat} {al sz : Nat → Nat × Nat} {cB eB : Int} {st : Nat → I_T} {D : Nat → List (Int × List b_E)} {gv : Nat → Int} {M M1 M2 : g_M} {an : List Int} {F : Nat → Prop} {tp : Int} {G : Int → Int}
theorem C_H.off (h : C_H ι κ al sz cB eB st D gv M) (f : e_fr (fun y _ => F y) M M1) (hι : ∀ a ∈ Ck_k, ¬ F (ι a)) (hκ : ∀ x j : Nat, x < 8 → j < 10 → ¬ F (κ x j)) (hown : ∀ x : Nat, x < 8 → ∀ y, B_own (κ x 7) M y → ¬ F y) (hal : ∀ x : Nat, x < 8 → ∀ V T m1 m2, st x = some (V, T, m1, m2) → ¬ F (al x).1 ∧ ∀ s2, V.2.2.2 = some s2 → ¬ F (al x).2) : C_H ι κ al sz cB eB st D gv M1 := by
  obtain ⟨h1, h2, h3, h4, h5, h6, h7, h8⟩ := h
  have hext : g_ext M M1 := fun a c hc => by
    rw [f.sh]
    exact hc
  have k : k_F F (ι 1) M M1 := ⟨hext, by rw [f.1]; exact Nat.le_refl _, fun a ha => Or.inl (by rw [← f.2.2]; exact ha), fun k _ => f.2.1 _ _ (hι 1 (by decide)), fun k _ => f.2.2 _ _, fun x _ _ hS _ => ⟨funext fun k => f.2.1 _ _ hS, funext fun k => f.2.2 _ _⟩⟩
  have hP1 : k_P M1 (ι 1) (ι 2) (cB + C_sm (C_c sz) 8) (eB + C_sm (C_e sz) 8) [] := by
    obtain ⟨p1, p2, a, n, p3, p4, p5, p6, p7, p8, p9, p10⟩ := h3
    have hsl : g_sl M1 = g_sl M := by
      unfold g_sl
      rw [f.1]
    exact ⟨f.O p1, by rw [f.2.2]; exact p2, a, n, by rw [f.2.2]; exact p3, f.A p4, by rw [f.2.1 _ _ (hι 1 (by decide))]; exact p5, p6, p7, by rw [hsl]; exact p8, by rw [f.1]; exact p9, b_nil _ _⟩
  have hix : ∀ x, x < 8 → C_ix ι κ al sz x (st x) M1 ∧ ∀ y, B_own (κ x 7) M1 y ↔ B_own (κ x 7) M y := fun x hx => (h6 x hx).kF h1 hx h3 k (fun j hj _ => hκ x j hx hj) (fun y hy z => hown x hx y z hy) (hal x hx)
  have hsm : ∀ {a : Nat}, a ∈ Ck_k → g_i M1 (ι a) = g_i M (ι a) ∧ g_r M1 (ι a) = g_r M (ι a) := fun ha => ⟨funext fun k => f.2.1 _ _ (hι _ ha), funext fun k => f.2.2 _ _⟩
  refine ⟨h1.ef f, h2, hP1, b_at_keep h4 fun q q1 q2 => by rw [(hsm (a := 2) (by decide)).1], fun w hw => ?_, fun x hx => (hix x hx).1, fun x hx => (h7 x hx).kF k.2.1 (hix x hx).2, fun x x2 hx hx2 hn y hy z => h8 x x2 hx hx2 hn y (((hix x hx).2 y).mp hy) (((hix x2 hx2).2 y).mp z)⟩
  have hw2 : w = 0 ∨ w = 1 := by omega
  rcases hw2 with e | e
  · subst e
    exact (h5 0 hw).kp hext (hsm (a := 67) (by decide)) (hsm (a := 69) (by decide)).1 (hsm (a := 70) (by decide)).1 fun q q1 q2 => by rw [(hsm (a := 2) (by decide)).1]
  · subst e
    exact (h5 1 hw).kp hext (hsm (a := 68) (by decide)) (hsm (a := 73) (by decide)).1 (hsm (a := 74) (by decide)).1 fun q q1 q2 => by rw [(hsm (a := 2) (by decide)).1]
end XOF
section XET
variable {m : Nat} {ρ : Nat → Nat} {M M2 : g_M} {st : Nat → I_T} {q : Nat → List (Nat × Int × List b_E)} {v : Nat → Int} {S : W_S} {an : List Int} {tp : Int} {G : Int → Int}
theorem R_D_xt {b x : Nat} {a a1 : List g_S} {i : Nat → Int → Int} {r r1 : Nat → Int → Option Nat} : ∀ {h n : Nat} {l : List (N_i V_W h)}, R_D b ρ x (a, i, r) h n l → R_D b ρ x (a1, i, r1) h n l := by
  intro h
  induction h with
  | zero =>
    intro n l hD
    obtain ⟨a1, a2, ⟨ps, p1, p2, p3⟩, a4⟩ := R_D_0.mp hD
    exact R_D_0.mpr ⟨a1, a2, ⟨ps, p1, p2, p3⟩, a4⟩
  | succ h ih =>
    intro n l hD
    obtain ⟨a1, a2, ⟨ps, p1, p2, p3, p4⟩, a4, a5⟩ := R_D_s.mp hD
    exact R_D_s.mpr ⟨a1, a2, ⟨ps, p1, p2, p3, p4⟩, a4, fun y hy => ih (a5 y hy)⟩
theorem E_H.xt (h : E_H m ρ st q v M) (hx : g_ext M M2) (hr : ∀ k ∈ E_bf, g_r M2 m (k : Nat) = g_r M m (k : Nat)) (hi : ∀ y, (y = m ∨ ∃ k ∈ E_bf, y = ρ k) → g_i M2 y = g_i M y) : E_H m ρ st q v M2 := by
  have f : e_fr (fun y _ => ¬ (y = m ∨ ∃ k ∈ E_bf, y = ρ k)) M (M.1, M2.2.1, M.2.2) := ⟨rfl, fun x k hx => by
    have h9 := hi x (Classical.not_not.mp hx)
    show g_i M2 x k = _
    rw [h9], fun _ _ => rfl⟩
  have hB := h.1
  have hB2 : E_bk m ρ M2 := ⟨hB.1.up hx, fun k hk => ⟨(hr k hk).trans (hB.at hk).1, (hB.at hk).2.up hx⟩, hB.2.2⟩
  have h2 := h.fr f fun y k g z => z (by
    rcases E_HP_j g with ⟨e, -⟩ | ⟨j, hj, e⟩
    · exact Or.inl e
    · exact Or.inr ⟨j, (E_hj_bf j hj).1, e⟩)
  obtain ⟨-, c1, c2, c3, c4⟩ := h2
  have c1 : g_i M2 m 47 = -1 := c1
  refine ⟨hB2, c1, c2, fun x hx8 => ?_, fun w hw => c4 w hw⟩
  have h9 := c3 x hx8
  rcases hs : st x with _ | ⟨V, T, m1, m2⟩
  · rw [hs] at h9
    exact h9
  · rw [hs] at h9
    obtain ⟨k1, ⟨-, b1, b2, b3, b4, b5, b6, b7, b8, b9⟩, ⟨d1, d2, ⟨d3, d4, d5, d6, d7, d8⟩, -, hh, n, l, us, hTe, hrt, hD, hnd, hup, hus, hgd, hct, hkp⟩, k4, k5⟩ := h9
    have q36 := hB2.at (k := 36) (by decide)
    have q37 := hB2.at (k := 37) (by decide)
    have q38 := hB2.at (k := 38) (by decide)
    exact ⟨k1, ⟨⟨q36.1, q36.2, q37.1, q37.2, q38.1, q38.2⟩, b1, b2, b3, b4, b5, b6, b7, b8, b9⟩, ⟨hB2.rw, d2, ⟨q38.1, q38.2, d5, d6, d7, d8⟩, c1, hh, n, l, us, hTe, hrt, R_D_xt hD, hnd, hup, hus, hgd, hct, hkp⟩, k4, k5⟩
end XET
