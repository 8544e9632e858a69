/-! THE CLASS'S HOUSE: its shelves change -/
def Ck_g : List Nat := Ck_k.filter fun a => a ≠ 1 ∧ a ≠ 71 ∧ a ≠ 75
theorem Ck_g_k : ∀ a ∈ Ck_g, a ∈ Ck_k ∧ a ≠ 1 ∧ a ≠ 71 ∧ a ≠ 75 := by decide
section CHE
variable {d : Nat} {ι : Nat → Nat} {κ : Nat → Nat → Nat} {al sz : Nat → Nat × Nat} {cB eB : Int} {st : Nat → I_T} {D D1 : Nat → List (Int × List b_E)} {gv gv1 : Nat → Int} {M M1 : g_M} {x w : Nat} {zs : List (Bool × Int × List b_E)}
theorem C_H.kG {S : Nat → Prop} (h : C_H ι κ al sz cB eB st D gv M) (k : k_F S (ι 1) M M1) (hP1 : k_P M1 (ι 1) (ι 2) (cB + C_sm (C_c sz) 8) (eB + C_sm (C_e sz) 8) []) (hS : ∀ y, S y → ∃ a ∈ Ck_g, y = ι a) (hb : ∀ q, q < 4 → g_i M1 (ι 2) q = g_i M (ι 2) q) (hl : ∀ l ∈ Ck_r, l.1 ≠ 1 → S (ι l.1) → g_r M1 (ι l.1) l.2.1 = g_r M (ι l.1) l.2.1) (hs : ∀ w : Nat, w < 2 → H_sf (ι (67 + w)) (ι 2) (ι (69 + 4 * w)) (ι (70 + 4 * w)) (2008 + 40400 * (w : Int)) (D1 w) (gv1 w) M1) : C_H ι κ al sz cB eB st D1 gv1 M1 := by
  obtain ⟨h1, h2, h3, h4, h5, h6, h7, h8⟩ := h
  have nk : ∀ {x j : Nat}, x < 8 → j < 10 → ¬ S (κ x j) := fun hx hj z => by
    obtain ⟨a, ha, e⟩ := hS _ z
    exact h2.ix (Ck_g_k a ha).1 hx hj e.symm
  have nb : ∀ {a : Nat}, a ∈ Ck_k → a ∉ Ck_g → ¬ S (ι a) := fun ha hn z => by
    obtain ⟨a2, ha2, e⟩ := hS _ z
    have := h2.1 _ ha _ (Ck_g_k a2 ha2).1 e
    exact hn (this ▸ ha2)
  have hown : ∀ x, x < 8 → ∀ y, S y → ¬ B_own (κ x 7) M y := fun x hx y hy => by
    obtain ⟨a, ha, e⟩ := hS y hy
    exact (h7 x hx y (Or.inl ⟨a, (Ck_g_k a ha).1, e⟩)).2
  have hix : ∀ x, x < 8 → C_ix ι κ al sz x (st x) M1 ∧ ∀ y, B_own (κ x 7) M1 y ↔ B_own (κ x 7) M y := fun x hx => (h6 x hx).kF h1 hx h3 k (fun j hj _ => nk hx hj) (hown x hx) fun V T m1 m2 e => by
    have h9 := (h6 x hx).2
    rw [e] at h9
    obtain ⟨-, -, -, -, -, -, ⟨-, g1⟩, g2⟩ := h9
    refine ⟨fun z => ?_, fun s2 hs2 z => ?_⟩
    · obtain ⟨a, ha, e⟩ := hS _ z
      exact g1 a (Ck_g_k a ha).1 e
    · obtain ⟨a, ha, e⟩ := hS _ z
      exact (g2 s2 hs2).2 a (Ck_g_k a ha).1 e
  exact ⟨h1.kF h3 k (nb (by decide) (by decide)) hl (fun x hx => ⟨fun l hl z => absurd z (nk hx (Ck_xr_k l hl)), fun z => absurd z (nk hx (by decide))⟩) ⟨nb (by decide) (by decide), nb (by decide) (by decide)⟩, h2, hP1, b_at_keep h4 fun q q1 q2 => hb q (by have : (([10, 0, 3, 0] : List Int).length : Int) = 4 := rfl; omega), hs, fun x hx => (hix x hx).1, fun x hx => (h7 x hx).kF k.2.1 (hix x hx).2, fun x x2 hx hx2 hn y hy z => h8 x x2 hx hx2 hn y (((hix x hx).2 y).mp hy) (((hix x2 hx2).2 y).mp z)⟩
/-- rows that are no pile -/
theorem C_bk.pl (h : C_bk ι κ M) {a : Nat} {p : Nat} {n : Int} (ha : a ∈ Ck_k) (h1 : a ≠ 1) (hp : g_A M p 1 n) (hk : k_n n) : ι a ≠ p := fun z => by
  obtain ⟨e, he, rfl⟩ := List.mem_map.mp ha
  obtain ⟨n1, n2⟩ := Ck_no e he h1
  have hi := h.1 e he
  unfold Ck_is at hi
  cases hs : e.2.1
  · rw [hs, if_neg (by decide), z] at hi
    have := hi.fn hp
    have h3 := n2 hs this.1
    rw [← this.2] at hk
    unfold k_n at hk
    omega
  · rw [hs, if_pos rfl, z] at hi
    exact g_neOA hi hp rfl
/-- work at places that are in the book leaves the pile -/
theorem C_H.kP {S : Nat → Int → Prop} {T : Nat → Prop} (h : C_H ι κ al sz cB eB st D gv M) (f : e_fr S M M1) (hS : ∀ y k, S y k → T y) (hT : ∀ y, T y → ∃ a ∈ Ck_g, y = ι a) : k_F T (ι 1) M M1 ∧ k_P M1 (ι 1) (ι 2) (cB + C_sm (C_c sz) 8) (eB + C_sm (C_e sz) 8) [] := by
  have hg := f.gs hS
  have hr : ¬ T (ι 1) := fun z => by
    obtain ⟨a, ha, e⟩ := hT _ z
    exact h.2.1.ne (by decide) (Ck_g_k a ha).1 (Ck_g_k a ha).2.1.symm e
  refine ⟨k_F.of hg hr, h.2.2.1.of hg hr fun p n hp hk z => ?_⟩
  obtain ⟨a, ha, e⟩ := hT _ z
  exact h.1.pl (Ck_g_k a ha).1 (Ck_g_k a ha).2.1 hp hk e.symm
/-- a shelf is another -/
theorem C_H.sf {ds : List (Int × List b_E)} {g : Int} (h : C_H ι κ al sz cB eB st D gv M) (hw : w < 2) (f : e_fr (H_sF (ι (67 + w)) (ι 2) (ι (69 + 4 * w)) (ι (70 + 4 * w)) (2008 + 40400 * (w : Int))) M M1) (hs : H_sf (ι (67 + w)) (ι 2) (ι (69 + 4 * w)) (ι (70 + 4 * w)) (2008 + 40400 * (w : Int)) ds g M1) : C_H ι κ al sz cB eB st (H_up D w ds) (H_up gv w g) M1 := by
  obtain ⟨w1, w2, w3, -⟩ := Ck_w hw
  have hT : ∀ y, (y = ι (67 + w) ∨ y = ι (69 + 4 * w) ∨ y = ι (70 + 4 * w) ∨ y = ι 2) → ∃ a ∈ Ck_g, y = ι a := fun y hy => by
    have hw2 : w = 0 ∨ w = 1 := by omega
    rcases hw2 with e | e
    · subst e
      rcases hy with z | z | z | z
      · exact ⟨67, by decide, z⟩
      · exact ⟨69, by decide, z⟩
      · exact ⟨70, by decide, z⟩
      · exact ⟨2, by decide, z⟩
    · subst e
      rcases hy with z | z | z | z
      · exact ⟨68, by decide, z⟩
      · exact ⟨73, by decide, z⟩
      · exact ⟨74, by decide, z⟩
      · exact ⟨2, by decide, z⟩
  obtain ⟨kF, kP⟩ := h.kP (T := fun y => y = ι (67 + w) ∨ y = ι (69 + 4 * w) ∨ y = ι (70 + 4 * w) ∨ y = ι 2) f (fun y k z => by
    rcases z with ⟨z, -⟩ | z | z | ⟨z, -⟩
    · exact Or.inl z
    · exact Or.inr (Or.inl z)
    · exact Or.inr (Or.inr (Or.inl z))
    · exact Or.inr (Or.inr (Or.inr z))) hT
  have h5 := h.2.2.2.2.1
  have hj := h.2.1
  refine h.kG kF kP hT (fun q hq => f.2.1 _ _ ?_) (fun l _ _ _ => f.2.2 _ _) fun w2' hw2' => ?_
  · rintro (⟨z, -⟩ | z | z | ⟨-, z, -⟩)
    · exact hj.ne (by decide) w1 (by omega) z
    · exact hj.ne (by decide) w2 (by omega) z
    · exact hj.ne (by decide) w3 (by omega) z
    · omega
  · by_cases e : w2' = w
    · subst e
      have e1 : H_up D w2' ds w2' = ds := if_pos rfl
      have e2 : H_up gv w2' g w2' = g := if_pos rfl
      rw [e1, e2]
      exact hs
    · have e1 : H_up D w ds w2' = D w2' := if_neg e
      have e2 : H_up gv w g w2' = gv w2' := if_neg e
      rw [e1, e2]
      obtain ⟨v1, v2, v3, -⟩ := Ck_w hw2'
      have hb2 := h5 w2' hw2'
      refine hb2.fr f (fun k _ z => ?_) (fun k => ⟨fun z => ?_, fun z => ?_⟩) fun k k1 k2 z => ?_
      · rcases z with ⟨z, -⟩ | z | z | ⟨z, -⟩
        · exact hj.ne v1 w1 (by omega) z
        · exact hj.ne v1 w2 (by omega) z
        · exact hj.ne v1 w3 (by omega) z
        · exact hj.ne v1 (by decide) (by omega) z
      · rcases z with ⟨z, -⟩ | z | z | ⟨z, -⟩
        · exact hj.ne v2 w1 (by omega) z
        · exact hj.ne v2 w2 (by omega) z
        · exact hj.ne v2 w3 (by omega) z
        · exact hj.ne v2 (by decide) (by omega) z
      · rcases z with ⟨z, -⟩ | z | z | ⟨z, -⟩
        · exact hj.ne v3 w1 (by omega) z
        · exact hj.ne v3 w2 (by omega) z
        · exact hj.ne v3 w3 (by omega) z
        · exact hj.ne v3 (by decide) (by omega) z
      · rcases z with ⟨z, -⟩ | z | z | ⟨-, z1, z2⟩
        · exact hj.ne (by decide) w1 (by omega) z
        · exact hj.ne (by decide) w2 (by omega) z
        · exact hj.ne (by decide) w3 (by omega) z
        · omega
/-- work at places beside shelves and indexes -/
theorem C_H.es {S : Nat → Int → Prop} {T : List Nat} (h : C_H ι κ al sz cB eB st D gv M) (f : e_fr S M M1) (hT : ∀ a ∈ T, a ∈ Ck_sc) (hS : ∀ y k, S y k → ∃ a ∈ T, y = ι a ∧ (a = 2 → ¬ (k < 4 ∨ (2008 ≤ k ∧ k < 82808)))) : C_H ι κ al sz cB eB st D gv M1 := by
  have hsg : ∀ a ∈ Ck_sc, a ∈ Ck_g := by decide
  obtain ⟨kF, kP⟩ := h.kP (T := fun y => ∃ a ∈ T, y = ι a) f (fun y k z => by
    obtain ⟨a, ha, e, -⟩ := hS y k z
    exact ⟨a, ha, e⟩) (fun y ⟨a, ha, e⟩ => ⟨a, hsg a (hT a ha), e⟩)
  refine h.kF kF kP (fun y ⟨a, ha, e⟩ => ⟨a, hT a ha, e⟩) (fun q hq => f.2.1 _ _ fun z => ?_) (fun l _ _ _ => f.2.2 _ _)
  obtain ⟨a, ha, e, hn⟩ := hS _ _ z
  have := h.2.1.1 2 (by decide) a (Ck_sc_k a (hT a ha)).1 e
  exact hn this.symm hq
theorem C_H.sh (h : C_H ι κ al sz cB eB st D gv M) (hw : w < 2) (hz : D w = zs.map fun z => z.2) (hhi : ∀ (i : Nat) (z : Bool × Int × List b_E), zs[i]? = some z → g_i M (ι 90) i = if z.1 = true then 1 else 0) : I_sh (ι 2) (ι (67 + w)) (ι (69 + 4 * w)) (ι (70 + 4 * w)) (ι 90) 246408 zs M := by
  have hs := h.2.2.2.2.1 w hw
  have hl : (D w).length = zs.length := by rw [hz, List.length_map]
  have h200 := hs.2.2.2.2.1.1
  rw [List.length_map, hl] at h200
  refine ⟨⟨hs.1.1, by rw [hs.2.2.1.1, hl], hs.1.2.2.1, hs.1.2.2.2.1⟩, ⟨hs.1.2.2.2.2.1, hs.1.2.2.2.2.2.1, h.1.A (by decide)⟩, h200, fun i z hi => ?_⟩
  have hi2 : (D w)[i]? = some z.2 := by
    rw [hz, List.getElem?_map, hi]
    rfl
  obtain ⟨p, p1, p2, p3, p4, p5, p6, p7, p8⟩ := hs.at hi2
  have h82 := hs.2.1.2.2
  refine ⟨?_, p7, p5, p6, hhi i z hi⟩
  rw [p1]
  exact ⟨p2.1, p2.2.1, p2.2.2.1, p2.2.2.2.1, by have := p2.2.2.2.2; omega⟩
end CHE
