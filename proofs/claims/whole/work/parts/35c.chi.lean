/-! THE CLASS'S HOUSE: the work of one index in it -/
def C_up (sz : Nat → Nat × Nat) (x : Nat) (p : Nat × Nat) (y : Nat) : Nat × Nat := if y = x then p else sz y
theorem C_up_c {sz : Nat → Nat × Nat} {x : Nat} {p : Nat × Nat} (hx : x < 8) : C_sm (C_c (C_up sz x p)) 8 = C_sm (C_c sz) 8 - C_c sz x + (B_ws p.1 + B_wn p.2) := by
  rw [C_sm_up (f := C_c sz) (g := C_c (C_up sz x p)) (x := x) (v := B_ws p.1 + B_wn p.2 - C_c sz x) (fun y hy => by
    unfold C_c C_up
    rw [if_neg hy]) (by
    unfold C_c C_up
    rw [if_pos rfl]
    omega), if_pos hx]
  omega
theorem C_up_e {sz : Nat → Nat × Nat} {x : Nat} {p : Nat × Nat} (hx : x < 8) : C_sm (C_e (C_up sz x p)) 8 = C_sm (C_e sz) 8 - C_e sz x + (3 * (p.1 : Int) + 5 * (p.2 : Int)) := by
  rw [C_sm_up (f := C_e sz) (g := C_e (C_up sz x p)) (x := x) (v := 3 * (p.1 : Int) + 5 * (p.2 : Int) - C_e sz x) (fun y hy => by
    unfold C_e C_up
    rw [if_neg hy]) (by
    unfold C_e C_up
    rw [if_pos rfl]
    omega), if_pos hx]
  omega
section CHI
variable {ι : Nat → Nat} {κ : Nat → Nat → Nat} {al sz : Nat → Nat × Nat} {cB eB : Int} {st : Nat → I_T} {D : Nat → List (Int × List b_E)} {gv : Nat → Int} {M M1 : g_M} {x : Nat}
/-- where an index's work does not reach -/
theorem C_H.nS {S : Nat → Prop} (h : C_H ι κ al sz cB eB st D gv M) (hx : x < 8) (hS : ∀ y, S y → I_S3 (κ x 0) (κ x 8) (κ x 9) y ∨ B_own (κ x 7) M y) : (∀ a ∈ Ck_k, ¬ S (ι a)) ∧ (∀ x2 j : Nat, x2 < 8 → j < 10 → j ≠ 7 → ¬ (x2 = x ∧ (j = 0 ∨ j = 8 ∨ j = 9)) → ¬ S (κ x2 j)) ∧ (∀ x2 : Nat, x2 < 8 → x2 ≠ x → ∀ y, S y → ¬ B_own (κ x2 7) M y) ∧ ∀ (y : Nat) (n : Int), g_A M y 0 n → C_Y ι κ al y → ¬ S y := by
  obtain ⟨h1, h2, h3, h4, h5, h6, h7, h8⟩ := h
  refine ⟨fun a ha z => ?_, fun x2 j hx2 hj hj7 hn z => ?_, fun x2 hx2 hne y hy z => ?_, fun y n hA hY z => ?_⟩
  · rcases hS _ z with (e | e | e) | e
    · exact h2.ix ha hx (by decide) e
    · exact h2.ix ha hx (by decide) e
    · exact h2.ix ha hx (by decide) e
    · exact (h7 x hx _ (Or.inl ⟨a, ha, rfl⟩)).2 e
  · rcases hS _ z with (e | e | e) | e
    · have := h2.2.1 _ _ _ _ hx2 hx hj (by decide) e
      exact hn ⟨this.1, Or.inl this.2⟩
    · have := h2.2.1 _ _ _ _ hx2 hx hj (by decide) e
      exact hn ⟨this.1, Or.inr (Or.inl this.2)⟩
    · have := h2.2.1 _ _ _ _ hx2 hx hj (by decide) e
      exact hn ⟨this.1, Or.inr (Or.inr this.2)⟩
    · exact (h7 x hx _ (Or.inr (Or.inl ⟨x2, j, hx2, hj, hj7, rfl⟩))).2 e
  · rcases hS _ hy with (e | e | e) | e
    · exact (h7 x2 hx2 y (Or.inr (Or.inl ⟨x, 0, hx, by decide, by decide, e⟩))).2 z
    · exact (h7 x2 hx2 y (Or.inr (Or.inl ⟨x, 8, hx, by decide, by decide, e⟩))).2 z
    · exact (h7 x2 hx2 y (Or.inr (Or.inl ⟨x, 9, hx, by decide, by decide, e⟩))).2 z
    · exact h8 x x2 hx hx2 (Ne.symm hne) y e z
  · rcases hS _ z with (e | e | e) | e
    · exact g_neOA (h1.xO hx (j := 0) (c := 3) (by decide)) hA e.symm
    · rw [e] at hA
      exact absurd (hA.fn (h1.xA hx (j := 8) (t := 1) (n := 700) (by decide))).1 (by decide)
    · rw [e] at hA
      exact absurd (hA.fn (h1.xA hx (j := 9) (t := 1) (n := 700) (by decide))).1 (by decide)
    · exact (h7 x hx y hY).2 e
/-- an index's work leaves all others, and all but the indexes -/
theorem C_H.oth {S : Nat → Prop} (h : C_H ι κ al sz cB eB st D gv M) (hx : x < 8) (k : k_F S (ι 1) M M1) (hS : ∀ y, S y → I_S3 (κ x 0) (κ x 8) (κ x 9) y ∨ B_own (κ x 7) M y) (hr : g_r M1 (κ x 0) = g_r M (κ x 0)) : C_bk ι κ M1 ∧ b_at (g_i M1 (ι 2)) 0 [10, 0, 3, 0] ∧ (∀ w : Nat, w < 2 → H_sf (ι (67 + w)) (ι 2) (ι (69 + 4 * w)) (ι (70 + 4 * w)) (2008 + 40400 * (w : Int)) (D w) (gv w) M1) ∧ (∀ x2 : Nat, x2 < 8 → x2 ≠ x → C_ix ι κ al sz x2 (st x2) M1 ∧ ∀ y, B_own (κ x2 7) M1 y ↔ B_own (κ x2 7) M y) ∧ ∀ a ∈ Ck_k, a ≠ 1 → g_i M1 (ι a) = g_i M (ι a) ∧ g_r M1 (ι a) = g_r M (ι a) := by
  obtain ⟨n1, n2, n3, n4⟩ := h.nS hx hS
  obtain ⟨h1, h2, h3, h4, h5, h6, h7, h8⟩ := h
  have hsm : ∀ a ∈ Ck_k, a ≠ 1 → g_i M1 (ι a) = g_i M (ι a) ∧ g_r M1 (ι a) = g_r M (ι a) := fun a ha ha1 => h1.sm h3 k ha ha1 (n1 a ha)
  have hb := hsm 2 (by decide) (by decide)
  refine ⟨h1.kF h3 k (n1 1 (by decide)) (fun l hl _ z => absurd z (n1 _ (Ck_r_k l hl).1)) (fun x2 hx2 => ⟨fun l hl z => ?_, fun z => ?_⟩) ⟨n1 71 (by decide), n1 75 (by decide)⟩, by rw [hb.1]; exact h4, fun w hw => ?_, fun x2 hx2 hne => ?_, hsm⟩
  · by_cases hl0 : x2 = x ∧ l.1 = 0
    · rw [hl0.1, hl0.2, hr]
    · have hl9 : ∀ l ∈ Ck_xr, l.1 ≠ 7 ∧ l.1 ≠ 8 ∧ l.1 ≠ 9 := by decide
      obtain ⟨e7, e8, e9⟩ := hl9 l hl
      exact absurd z (n2 x2 l.1 hx2 (Ck_xr_k l hl) e7 (by omega))
  · by_cases hl0 : x2 = x
    · rw [hl0, hr]
      exact ⟨rfl, rfl⟩
    · exact absurd z (n2 x2 0 hx2 (by decide) (by decide) (by omega))
  · have hw2 : w = 0 ∨ w = 1 := by omega
    rcases hw2 with e | e
    · subst e
      exact (h5 0 hw).kp k.1 (hsm 67 (by decide) (by decide)) (hsm 69 (by decide) (by decide)).1 (hsm 70 (by decide) (by decide)).1 fun q _ _ => by rw [hb.1]
    · subst e
      exact (h5 1 hw).kp k.1 (hsm 68 (by decide) (by decide)) (hsm 73 (by decide) (by decide)).1 (hsm 74 (by decide) (by decide)).1 fun q _ _ => by rw [hb.1]
  · refine (h6 x2 hx2).kF h1 hx2 h3 k (fun j hj hj7 => n2 x2 j hx2 hj hj7 (by omega)) (n3 x2 hx2 hne) fun V T m1 m2 e => ?_
    have h9 := (h6 x2 hx2).2
    rw [e] at h9
    obtain ⟨-, -, -, -, -, -, ⟨⟨⟨q1, -, -, g1, -⟩, -⟩, -⟩, g2⟩ := h9
    refine ⟨n4 _ _ g1 (Or.inr (Or.inr ⟨x2, hx2, Or.inl rfl⟩)), fun s2 hs2 => ?_⟩
    obtain ⟨⟨⟨q3, -, -, g3, -⟩, -⟩, -⟩ := g2 s2 hs2
    exact n4 _ _ g3 (Or.inr (Or.inr ⟨x2, hx2, Or.inr rfl⟩))
/-- an index is another -/
theorem C_H.ih {V : I_V} {T T2 : N_T I_E} {m1 m2 n1 n2 : Int} {j1 i1 : Nat} (h : C_H ι κ al sz cB eB st D gv M) (hx : x < 8) (hst : st x = some (V, T, m1, m2)) (f : I_H (κ x 0) (κ x 8) (κ x 9) (κ x 7) (ι 1) M M1) (Z : I_Z V (C_Y ι κ al) (κ x 0) (ι 1) (ι 2) (κ x 1) (κ x 2) (κ x 3) (al x).1 (κ x 4) (κ x 5) (κ x 6) (al x).2 (κ x 7) (κ x 8) (κ x 9) 246408 (cB + C_sm (C_c sz) 8 - C_c sz x) (eB + C_sm (C_e sz) 8 - C_e sz x) [] T2 j1 i1 M1) (h11 : g_i M1 (κ x 0) 11 = n1) (h12 : g_i M1 (κ x 0) 12 = n2) (hn1 : n1 = 0 ∨ n1 = 1) (hn2 : n2 = 0 ∨ n2 = 1) : C_H ι κ al (C_up sz x (j1, i1)) cB eB (I_up st x (some (V, T2, n1, n2))) D gv M1 := by
  obtain ⟨b1, b2, b3, b4, b5⟩ := h.oth hx f.1 (fun y hy => hy) f.2.2.2
  obtain ⟨m1', m2', m3', m4'⟩ := h.nS hx (S := fun y => I_S3 (κ x 0) (κ x 8) (κ x 9) y ∨ B_own (κ x 7) M y) (fun y hy => hy)
  obtain ⟨h1, h2, h3, h4, h5, h6, h7, h8⟩ := h
  have h9 := (h6 x hx).2
  rw [hst] at h9
  obtain ⟨k1, k2, k3, k5, k6, k8, ⟨k9, k10⟩, k11⟩ := h9
  obtain ⟨⟨z1, z2, z3, z4, z5, z6, z7⟩, zT, zd, zn⟩ := Z
  have hy9 : g_i M1 (κ x 0) 9 = 1 := by
    rw [f.2.2.1 9 (by decide) (by decide) (by decide) (by decide) (by decide)]
    exact k1
  have hsz : C_up sz x (j1, i1) x = (j1, i1) := if_pos rfl
  have hix : C_ix ι κ al (C_up sz x (j1, i1)) x (I_up st x (some (V, T2, n1, n2)) x) M1 := by
    have est : I_up st x (some (V, T2, n1, n2)) x = some (V, T2, n1, n2) := if_pos rfl
    rw [est]
    unfold C_ix
    rw [hsz]
    refine ⟨zT.t0, hy9, z2, ⟨z4, z5⟩, zT, ⟨h11, h12⟩, ⟨hn1, hn2⟩, ⟨?_, k10⟩, fun s2 hs2 => ?_⟩
    · obtain ⟨⟨q1, -, -, g1, -⟩, -⟩ := id k9
      exact k9.kS h3 f.1 (m2' x 1 hx (by decide) (by decide) (by omega)) (m2' x 2 hx (by decide) (by decide) (by omega)) (m2' x 3 hx (by decide) (by decide) (by omega)) (m4' _ _ g1 (Or.inr (Or.inr ⟨x, hx, Or.inl rfl⟩)))
    · obtain ⟨w1, w2⟩ := k11 s2 hs2
      obtain ⟨⟨q1, -, -, g1, -⟩, -⟩ := id w1
      exact ⟨w1.kS h3 f.1 (m2' x 4 hx (by decide) (by decide) (by omega)) (m2' x 5 hx (by decide) (by decide) (by omega)) (m2' x 6 hx (by decide) (by decide) (by omega)) (m4' _ _ g1 (Or.inr (Or.inr ⟨x, hx, Or.inr rfl⟩))), w2⟩
  refine ⟨b1, h2, ?_, b2, b3, fun x2 hx2 => ?_, fun x2 hx2 => ?_, fun x2 x3 hx2 hx3 hne y hy z => ?_⟩
  · rw [C_up_c hx, C_up_e hx]
    have e1 : cB + (C_sm (C_c sz) 8 - C_c sz x + (B_ws j1 + B_wn i1)) = cB + C_sm (C_c sz) 8 - C_c sz x + (B_ws j1 + B_wn i1) := by omega
    have e2 : eB + (C_sm (C_e sz) 8 - C_e sz x + (3 * (j1 : Int) + 5 * (i1 : Int))) = eB + C_sm (C_e sz) 8 - C_e sz x + (3 * (j1 : Int) + 5 * (i1 : Int)) := by omega
    rw [e1, e2]
    exact z6
  · by_cases e : x2 = x
    · rw [e]
      exact hix
    · have e1 : C_up sz x (j1, i1) x2 = sz x2 := if_neg e
      have e2 : I_up st x (some (V, T2, n1, n2)) x2 = st x2 := if_neg e
      rw [e2]
      unfold C_ix
      rw [e1]
      exact (b4 x2 hx2 e).1
  · by_cases e : x2 = x
    · rw [e]
      exact zd
    · exact (h7 x2 hx2).kF f.1.2.1 (b4 x2 hx2 e).2
  · by_cases e2 : x2 = x
    · have e3 : x3 ≠ x := fun g => hne (e2.trans g.symm)
      rw [e2] at hy
      have z := ((b4 x3 hx3 e3).2 y).mp z
      rcases f.2.1 y hy with g | g
      · exact h8 x x3 hx hx3 (Ne.symm e3) y g z
      · have := z.lt (h6 x3 hx3).1
        omega
    · have hy := ((b4 x2 hx2 e2).2 y).mp hy
      by_cases e3 : x3 = x
      · rw [e3] at z
        rcases f.2.1 y z with g | g
        · exact h8 x2 x hx2 hx e2 y hy g
        · have := hy.lt (h6 x2 hx2).1
          omega
      · exact h8 x2 x3 hx2 hx3 hne y hy (((b4 x3 hx3 e3).2 y).mp z)
end CHI
