/-! THE CLASS'S HOUSE: an index is made -/
section CMK
variable {d : Nat} {ι : Nat → Nat} {κ : Nat → Nat → Nat} {al sz : Nat → Nat × Nat} {cB eB : Int} {st : Nat → I_T} {D : Nat → List (Int × List b_E)} {gv : Nat → Int} {M M1 : g_M} {x w : Nat} {u : List Int}
def C_pS (κ : Nat → Nat → Nat) (x : Nat) (M : g_M) (y : Nat) : Prop := y = κ x 0 ∨ p_S (κ x 1) (κ x 2) (κ x 3) y ∨ p_S (κ x 4) (κ x 5) (κ x 6) y ∨ B_own (κ x 7) M y
theorem C_pS.k {y : Nat} (z : C_pS κ x M y) : (∃ j, j < 7 ∧ y = κ x j) ∨ B_own (κ x 7) M y := by
  rcases z with e | (e | e | e) | (e | e | e) | e
  · exact Or.inl ⟨0, by decide, e⟩
  · exact Or.inl ⟨1, by decide, e⟩
  · exact Or.inl ⟨2, by decide, e⟩
  · exact Or.inl ⟨3, by decide, e⟩
  · exact Or.inl ⟨4, by decide, e⟩
  · exact Or.inl ⟨5, by decide, e⟩
  · exact Or.inl ⟨6, by decide, e⟩
  · exact Or.inr e
theorem C_H.nP (h : C_H ι κ al sz cB eB st D gv M) (hx : x < 8) : (∀ a ∈ Ck_k, ¬ C_pS κ x M (ι a)) ∧ (∀ x2 j : Nat, x2 < 8 → j < 10 → j ≠ 7 → ¬ (x2 = x ∧ j < 7) → ¬ C_pS κ x M (κ x2 j)) ∧ (∀ x2 : Nat, x2 < 8 → x2 ≠ x → ∀ y, C_pS κ x M y → ¬ B_own (κ x2 7) M y) ∧ ∀ (y : Nat) (n : Int), g_A M y 0 n → C_Y ι κ al y → ¬ C_pS κ x M y := by
  obtain ⟨h1, h2, h3, h4, h5, h6, h7, h8⟩ := h
  refine ⟨fun a ha z => ?_, fun x2 j hx2 hj hj7 hn z => ?_, fun x2 hx2 hne y hy z => ?_, fun y n hA hY z => ?_⟩
  · rcases z.k with ⟨j, hj, e⟩ | e
    · exact h2.ix ha hx (by omega) e
    · exact (h7 x hx _ (Or.inl ⟨a, ha, rfl⟩)).2 e
  · rcases z.k with ⟨j2, hj2, e⟩ | e
    · have := h2.2.1 _ _ _ _ hx2 hx hj (by omega) e
      exact hn ⟨this.1, by omega⟩
    · exact (h7 x hx _ (Or.inr (Or.inl ⟨x2, j, hx2, hj, hj7, rfl⟩))).2 e
  · rcases hy.k with ⟨j, hj, e⟩ | e
    · exact (h7 x2 hx2 y (Or.inr (Or.inl ⟨x, j, hx, by omega, by omega, e⟩))).2 z
    · exact h8 x x2 hx hx2 (Ne.symm hne) y e z
  · rcases z with e | (e | e | e) | (e | e | e) | e
    · exact g_neOA (h1.xO hx (j := 0) (c := 3) (by decide)) hA e.symm
    · exact g_neOA (h1.xO hx (j := 1) (c := 5) (by decide)) hA e.symm
    · rw [e] at hA
      exact absurd (hA.fn (h1.xA hx (j := 2) (t := 1) (n := 8) (by decide))).1 (by decide)
    · rw [e] at hA
      exact absurd (hA.fn (h1.xA hx (j := 3) (t := 1) (n := 8) (by decide))).1 (by decide)
    · exact g_neOA (h1.xO hx (j := 4) (c := 5) (by decide)) hA e.symm
    · rw [e] at hA
      exact absurd (hA.fn (h1.xA hx (j := 5) (t := 1) (n := 8) (by decide))).1 (by decide)
    · rw [e] at hA
      exact absurd (hA.fn (h1.xA hx (j := 6) (t := 1) (n := 8) (by decide))).1 (by decide)
    · exact (h7 x hx y hY).2 e
theorem C_bk.kl (h : C_bk ι κ M) {a : Nat} (ha : a ∈ Ck_k) : ι a < 2 * M.1.length := by
  obtain ⟨e, he, rfl⟩ := List.mem_map.mp ha
  have hi := h.1 e he
  unfold Ck_is at hi
  cases hs : e.2.1
  · rw [hs, if_neg (by decide)] at hi
    exact hi.lt
  · rw [hs, if_pos rfl] at hi
    exact hi.lt
theorem C_H.G (h : C_H ι κ al sz cB eB st D gv M) (hx : x < 8) : I_G (κ x 0) (ι 1) (ι 2) (κ x 1) (κ x 2) (κ x 3) (κ x 4) (κ x 5) (κ x 6) (κ x 7) (κ x 8) (κ x 9) 246408 (cB + C_sm (C_c sz) 8 - C_c sz x + (B_ws (sz x).1 + B_wn (sz x).2)) (eB + C_sm (C_e sz) 8 - C_e sz x + (3 * ((sz x).1 : Int) + 5 * ((sz x).2 : Int))) [] (C_Y ι κ al) M ∧ C_t0 (κ x 7) (sz x).1 (sz x).2 M ∧ I_Yf (C_Y ι κ al) (ι 2) (κ x 2) (κ x 3) (κ x 5) (κ x 6) (κ x 8) (κ x 9) ∧ I_pd (κ x 1) (κ x 2) (κ x 3) (κ x 4) (κ x 5) (κ x 6) := by
  obtain ⟨h1, h2, h3, h4, h5, h6, h7, h8⟩ := h
  have ey : ∀ j, j < 10 → j ≠ 7 → C_Y ι κ al (κ x j) := fun j hj hn => Or.inr (Or.inl ⟨x, j, hx, hj, hn, rfl⟩)
  have nn : ∀ {j j2 : Nat}, j < 10 → j2 < 10 → j ≠ j2 → κ x j ≠ κ x j2 := fun hj hj2 hn => h2.xne hx hx hj hj2 (by omega)
  refine ⟨⟨h1.ob h2 hx, ⟨h1.A (by decide), by decide, C_no h4⟩, ?_, Nat.zero_le _, (h1.pp h2 hx).1, (h1.pp h2 hx).2, h7 x hx⟩, (h6 x hx).1, ⟨Or.inl ⟨2, by decide, rfl⟩, ey 8 (by decide) (by decide), ey 9 (by decide) (by decide), ey 2 (by decide) (by decide), ey 3 (by decide) (by decide), ey 5 (by decide) (by decide), ey 6 (by decide) (by decide)⟩, nn (by decide) (by decide) (by decide), nn (by decide) (by decide) (by decide), nn (by decide) (by decide) (by decide), nn (by decide) (by decide) (by decide), nn (by decide) (by decide) (by decide)⟩
  have e1 : cB + C_sm (C_c sz) 8 - C_c sz x + (B_ws (sz x).1 + B_wn (sz x).2) = cB + C_sm (C_c sz) 8 := by
    unfold C_c
    omega
  have e2 : eB + C_sm (C_e sz) 8 - C_e sz x + (3 * ((sz x).1 : Int) + 5 * ((sz x).2 : Int)) = eB + C_sm (C_e sz) 8 := by
    unfold C_e
    omega
  rw [e1, e2]
  exact h3
theorem C_H.mk {V : I_V} {a1 a2 j1 i1 : Nat} {xl el : Int} (h : C_H ι κ al sz cB eB st D gv M) (hx : x < 8) (hZ : I_Z V (fun y => C_Y ι κ al y ∨ y = a1 ∨ y = a2) (κ x 0) (ι 1) (ι 2) (κ x 1) (κ x 2) (κ x 3) a1 (κ x 4) (κ x 5) (κ x 6) a2 (κ x 7) (κ x 8) (κ x 9) 246408 (cB + C_sm (C_c sz) 8 - C_c sz x + xl) (eB + C_sm (C_e sz) 8 - C_e sz x + el) [] N_nil j1 i1 M1) (hF : I_PF (κ x 0) (κ x 1) (κ x 2) (κ x 3) (κ x 4) (κ x 5) (κ x 6) (κ x 7) (ι 1) M M1) (h9 : g_i M1 (κ x 0) 9 = 1) (h11 : g_i M1 (κ x 0) 11 = 0) (h12 : g_i M1 (κ x 0) 12 = 0) (hl1 : 2 * M.1.length ≤ a1) (hl2 : 2 * M.1.length ≤ a2) (hp1 : p_P M1 (κ x 1) (κ x 2) (κ x 3)) (hp2 : p_P M1 (κ x 4) (κ x 5) (κ x 6)) (hw1 : p_WT M1 (κ x 1) (κ x 2) (κ x 3) a1 (p_jn V.2.2.1)) (hw2 : ∀ s2, V.2.2.2 = some s2 → p_WT M1 (κ x 4) (κ x 5) (κ x 6) a2 (p_jn s2)) : C_H ι κ (C_up al x (a1, a2)) (C_up sz x (j1, i1)) (cB + xl) (eB + el) (I_up st x (some (V, N_nil, 0, 0))) D gv M1 ∧ C_f1 ι M M1 := by
  obtain ⟨n1, n2, n3, n4⟩ := h.nP hx
  obtain ⟨h1, h2, h3, h4, h5, h6, h7, h8⟩ := h
  obtain ⟨⟨z1, z2, z3, z4, z5, z6, z7⟩, zT, zd, zn⟩ := hZ
  have k : k_F (C_pS κ x M) (ι 1) M M1 := hF.1
  have hsm : ∀ a ∈ Ck_k, a ≠ 1 → g_i M1 (ι a) = g_i M (ι a) ∧ g_r M1 (ι a) = g_r M (ι a) := fun a ha ha1 => h1.sm h3 k ha ha1 (n1 a ha)
  have hb := hsm 2 (by decide) (by decide)
  have hsz : C_up sz x (j1, i1) x = (j1, i1) := if_pos rfl
  have hal : C_up al x (a1, a2) x = (a1, a2) := if_pos rfl
  have hoth : ∀ x2, x2 < 8 → x2 ≠ x → C_ix ι κ al sz x2 (st x2) M1 ∧ ∀ y, B_own (κ x2 7) M1 y ↔ B_own (κ x2 7) M y := fun x2 hx2 hne => by
    refine (h6 x2 hx2).kF h1 hx2 h3 k (fun j hj hj7 => n2 x2 j hx2 hj hj7 (by omega)) (n3 x2 hx2 hne) fun V T m1 m2 e => ?_
    have h9 := (h6 x2 hx2).2
    rw [e] at h9
    obtain ⟨-, -, -, -, -, -, ⟨⟨⟨q1, -, -, g1, -⟩, -⟩, -⟩, g2⟩ := h9
    refine ⟨n4 _ _ g1 (Or.inr (Or.inr ⟨x2, hx2, Or.inl rfl⟩)), fun s2 hs2 => ?_⟩
    obtain ⟨⟨⟨q3, -, -, g3, -⟩, -⟩, -⟩ := g2 s2 hs2
    exact n4 _ _ g3 (Or.inr (Or.inr ⟨x2, hx2, Or.inr rfl⟩))
  have hbk : C_bk ι κ M1 := by
    refine h1.kF h3 k (n1 1 (by decide)) (fun l hl _ z => absurd z (n1 _ (Ck_r_k l hl).1)) (fun x2 hx2 => ⟨fun l hl z => ?_, fun z => ?_⟩) ⟨n1 71 (by decide), n1 75 (by decide)⟩
    · by_cases hxe : x2 = x
      · rw [hxe]
        have hx4 : ∀ l ∈ Ck_xr, l.1 = 0 ∨ l = (1, 1, 2) ∨ l = (1, 2, 3) ∨ l = (4, 1, 5) ∨ l = (4, 2, 6) := by decide
        rcases hx4 l hl with e | e | e | e | e
        · rw [e, hF.2.2.2]
        · rw [e]
          exact hp1.2.1.trans (h1.xr hx (a := 1) (f := 1) (by decide)).symm
        · rw [e]
          exact hp1.2.2.1.trans (h1.xr hx (a := 1) (f := 2) (by decide)).symm
        · rw [e]
          exact hp2.2.1.trans (h1.xr hx (a := 4) (f := 1) (by decide)).symm
        · rw [e]
          exact hp2.2.2.1.trans (h1.xr hx (a := 4) (f := 2) (by decide)).symm
      · have hl9 : ∀ l ∈ Ck_xr, l.1 ≠ 7 := by decide
        exact absurd z (n2 x2 l.1 hx2 (Ck_xr_k l hl) (hl9 l hl) (by omega))
    · by_cases hxe : x2 = x
      · rw [hxe, hF.2.2.2]
        exact ⟨rfl, rfl⟩
      · exact absurd z (n2 x2 0 hx2 (by decide) (by decide) (by omega))
  have hix : C_ix ι κ (C_up al x (a1, a2)) (C_up sz x (j1, i1)) x (I_up st x (some (V, N_nil, 0, 0)) x) M1 := by
    have est : I_up st x (some (V, N_nil, 0, 0)) x = some (V, N_nil, 0, 0) := if_pos rfl
    rw [est]
    unfold C_ix
    rw [hsz, hal]
    exact ⟨zT.t0, h9, z2, ⟨z4, z5⟩, zT, ⟨h11, h12⟩, ⟨Or.inl rfl, Or.inl rfl⟩, ⟨hw1, fun a ha e => by
      have := h1.kl ha
      have e : a1 = ι a := e
      omega⟩, fun s2 hs2 => ⟨hw2 s2 hs2, fun a ha e => by
      have := h1.kl ha
      have e : a2 = ι a := e
      omega⟩⟩
  have hY : ∀ y, C_Y ι κ (C_up al x (a1, a2)) y → C_Y ι κ al y ∨ y = a1 ∨ y = a2 := fun y hy => by
    rcases hy with g | g | ⟨x2, hx2, g⟩
    · exact Or.inl (Or.inl g)
    · exact Or.inl (Or.inr (Or.inl g))
    · by_cases e : x2 = x
      · rw [e, hal] at g
        exact Or.inr g
      · have e1 : C_up al x (a1, a2) x2 = al x2 := if_neg e
        rw [e1] at g
        exact Or.inl (Or.inr (Or.inr ⟨x2, hx2, g⟩))
  refine ⟨⟨hbk, h2, ?_, by rw [hb.1]; exact h4, fun w hw => ?_, fun x2 hx2 => ?_, fun x2 hx2 y hy => ?_, fun x2 x3 hx2 hx3 hne y hy z => ?_⟩, k.1, k.2.1, hsm⟩
  · rw [C_up_c hx, C_up_e hx]
    have e1 : cB + xl + (C_sm (C_c sz) 8 - C_c sz x + (B_ws j1 + B_wn i1)) = cB + C_sm (C_c sz) 8 - C_c sz x + xl + (B_ws j1 + B_wn i1) := by omega
    have e2 : eB + el + (C_sm (C_e sz) 8 - C_e sz x + (3 * (j1 : Int) + 5 * (i1 : Int))) = eB + C_sm (C_e sz) 8 - C_e sz x + el + (3 * (j1 : Int) + 5 * (i1 : Int)) := by omega
    rw [e1, e2]
    exact z6
  · have hw2 : w = 0 ∨ w = 1 := by omega
    rcases hw2 with e | e
    · subst e
      exact (h5 0 hw).kp k.1 (hsm 67 (by decide) (by decide)) (hsm 69 (by decide) (by decide)).1 (hsm 70 (by decide) (by decide)).1 fun q _ _ => by rw [hb.1]
    · subst e
      exact (h5 1 hw).kp k.1 (hsm 68 (by decide) (by decide)) (hsm 73 (by decide) (by decide)).1 (hsm 74 (by decide) (by decide)).1 fun q _ _ => by rw [hb.1]
  · by_cases e : x2 = x
    · rw [e]
      exact hix
    · have e1 : C_up sz x (j1, i1) x2 = sz x2 := if_neg e
      have e2 : I_up st x (some (V, N_nil, 0, 0)) x2 = st x2 := if_neg e
      have e3 : C_up al x (a1, a2) x2 = al x2 := if_neg e
      rw [e2]
      unfold C_ix
      rw [e1, e3]
      exact (hoth x2 hx2 e).1
  · by_cases e : x2 = x
    · rw [e]
      exact zd y (hY y hy)
    · rcases hY y hy with g | g | g
      · exact (h7 x2 hx2).kF k.2.1 (hoth x2 hx2 e).2 y g
      · refine ⟨(zd y (Or.inr (Or.inl g))).1, fun z => ?_⟩
        have := (((hoth x2 hx2 e).2 y).mp z).lt (h6 x2 hx2).1
        omega
      · refine ⟨(zd y (Or.inr (Or.inr g))).1, fun z => ?_⟩
        have := (((hoth x2 hx2 e).2 y).mp z).lt (h6 x2 hx2).1
        omega
  · by_cases e2 : x2 = x
    · have e3 : x3 ≠ x := fun g => hne (e2.trans g.symm)
      rw [e2] at hy
      have z := ((hoth x3 hx3 e3).2 y).mp z
      rcases hF.2.1 y hy with g | g
      · exact h8 x x3 hx hx3 (Ne.symm e3) y g z
      · have := z.lt (h6 x3 hx3).1
        omega
    · have hy := ((hoth x2 hx2 e2).2 y).mp hy
      by_cases e3 : x3 = x
      · rw [e3] at z
        rcases hF.2.1 y z with g | g
        · exact h8 x2 x hx2 hx e2 y hy g
        · have := hy.lt (h6 x2 hx2).1
          omega
      · exact h8 x2 x3 hx2 hx3 hne y hy (((hoth x3 hx3 e3).2 y).mp z)
end CMK
