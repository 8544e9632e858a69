/-! THE CLASS'S HOUSE: its shelves and indexes -/
def C_sm (f : Nat → Int) : Nat → Int
  | 0 => 0
  | n + 1 => C_sm f n + f n
theorem C_sm_up {f g : Nat → Int} {x : Nat} {v : Int} (h : ∀ y, y ≠ x → g y = f y) (hx : g x = f x + v) : ∀ n, C_sm g n = C_sm f n + if x < n then v else 0
  | 0 => by
    rw [if_neg (Nat.not_lt_zero x)]
    rfl
  | n + 1 => by
    show C_sm g n + g n = C_sm f n + f n + _
    rw [C_sm_up h hx n]
    by_cases e : n = x
    · rw [e, hx, if_neg (Nat.lt_irrefl x), if_pos (Nat.lt_succ_self x)]
      omega
    · rw [h n e]
      by_cases g2 : x < n
      · rw [if_pos g2, if_pos (by omega)]
        omega
      · rw [if_neg g2, if_neg (by omega)]
        omega
def C_c (sz : Nat → Nat × Nat) (x : Nat) : Int := B_ws (sz x).1 + B_wn (sz x).2
def C_e (sz : Nat → Nat × Nat) (x : Nat) : Int := 3 * ((sz x).1 : Int) + 5 * ((sz x).2 : Int)
/-- what no tree has -/
def C_Y (ι : Nat → Nat) (κ : Nat → Nat → Nat) (al : Nat → Nat × Nat) (y : Nat) : Prop := (∃ a ∈ Ck_k, y = ι a) ∨ (∃ x j : Nat, x < 8 ∧ j < 10 ∧ j ≠ 7 ∧ y = κ x j) ∨ ∃ x : Nat, x < 8 ∧ (y = (al x).1 ∨ y = (al x).2)
/-- an index -/
def C_ix (ι : Nat → Nat) (κ : Nat → Nat → Nat) (al sz : Nat → Nat × Nat) (x : Nat) (t : I_T) (M : g_M) : Prop := C_t0 (κ x 7) (sz x).1 (sz x).2 M ∧ match t with
  | none => g_i M (κ x 0) 9 = 0
  | some (V, T, m1, m2) => g_i M (κ x 0) 9 = 1 ∧ I_pt V (κ x 0) (κ x 1) (κ x 2) (κ x 3) (al x).1 (κ x 4) (κ x 5) (κ x 6) (al x).2 M ∧ (g_i M (κ x 7) 12 = V.1 ∧ g_i M (κ x 7) 13 = V.2.1) ∧ C_tr (κ x 7) V.1 V.2.1 T (sz x).1 (sz x).2 M ∧ (g_i M (κ x 0) 11 = m1 ∧ g_i M (κ x 0) 12 = m2) ∧ ((m1 = 0 ∨ m1 = 1) ∧ (m2 = 0 ∨ m2 = 1)) ∧ (p_WT M (κ x 1) (κ x 2) (κ x 3) (al x).1 (p_jn V.2.2.1) ∧ ∀ a ∈ Ck_k, (al x).1 ≠ ι a) ∧ ∀ s2, V.2.2.2 = some s2 → p_WT M (κ x 4) (κ x 5) (κ x 6) (al x).2 (p_jn s2) ∧ ∀ a ∈ Ck_k, (al x).2 ≠ ι a
/-- the house: its book, the pile, nothing at 0, its shelves, its indexes; the trees are apart -/
def C_H (ι : Nat → Nat) (κ : Nat → Nat → Nat) (al sz : Nat → Nat × Nat) (cB eB : Int) (st : Nat → I_T) (D : Nat → List (Int × List b_E)) (gv : Nat → Int) (M : g_M) : Prop := C_bk ι κ M ∧ C_ij ι κ ∧ k_P M (ι 1) (ι 2) (cB + C_sm (C_c sz) 8) (eB + C_sm (C_e sz) 8) [] ∧ b_at (g_i M (ι 2)) 0 [10, 0, 3, 0] ∧ (∀ w : Nat, w < 2 → H_sf (ι (67 + w)) (ι 2) (ι (69 + 4 * w)) (ι (70 + 4 * w)) (2008 + 40400 * (w : Int)) (D w) (gv w) M) ∧ (∀ x : Nat, x < 8 → C_ix ι κ al sz x (st x) M) ∧ (∀ x : Nat, x < 8 → I_dj (C_Y ι κ al) (κ x 7) M) ∧ ∀ x x2 : Nat, x < 8 → x2 < 8 → x ≠ x2 → ∀ y, B_own (κ x 7) M y → ¬ B_own (κ x2 7) M y
/-- what the requests may change beside shelves and indexes -/
def Ck_sc : List Nat := [0, 2, 3, 4, 5, 6, 7, 8, 9, 10, 11, 12, 13, 14, 15, 20, 21, 22, 23, 24, 25, 26, 27, 28, 29, 30, 31, 32, 33, 34, 35, 36, 37, 38, 39, 50, 51, 52, 53, 54, 55, 56, 57, 60, 61, 62, 63, 64, 65, 72, 76, 90, 91]
theorem Ck_sc_k : ∀ a ∈ Ck_sc, a ∈ Ck_k ∧ a ≠ 1 ∧ a ≠ 67 ∧ a ≠ 68 ∧ a ≠ 69 ∧ a ≠ 70 ∧ a ≠ 71 ∧ a ≠ 73 ∧ a ≠ 74 ∧ a ≠ 75 := by decide
theorem H_sf.kp {sh b oh nh : Nat} {base gv : Int} {M M1 : g_M} {ds : List (Int × List b_E)} (h : H_sf sh b oh nh base ds gv M) (hx : g_ext M M1) (h1 : g_i M1 sh = g_i M sh ∧ g_r M1 sh = g_r M sh) (h2 : g_i M1 oh = g_i M oh) (h3 : g_i M1 nh = g_i M nh) (h4 : ∀ k, base ≤ k → k < base + 40400 → g_i M1 b k = g_i M b k) : H_sf sh b oh nh base ds gv M1 := by
  obtain ⟨⟨a1, a2, a3, a4, a5, a6, a7, a8⟩, ⟨b1, b2, b3⟩, ⟨d1, d2, d3, d4⟩, ⟨c1, c2, c3⟩, hok, hn⟩ := h
  have hl := H_sb_lim hok
  refine ⟨⟨a1.up hx, by rw [h1.2]; exact a2, by rw [h1.2]; exact a3, by rw [h1.2]; exact a4, a5.up hx, a6.up hx, a7, a8.up hx⟩, ⟨by rw [h1.1]; exact b1, b2, b3⟩, ⟨by rw [h1.1]; exact d1, by rw [h1.1]; exact d2, by rw [h1.1]; exact d3, by rw [h1.1]; exact d4⟩, ⟨b_at_keep c1 fun k k1 k2 => h4 k k1 (by omega), by rw [h2]; exact c2, by rw [h3]; exact c3⟩, hok, hn⟩
/-- the element's head before the tape -/
theorem C_no {B : Int → Int} (h : b_at B 0 [10, 0, 3, 0]) : b_at B 0 [10, 0] := (b_app (x := [10, 0]) (y := [3, 0])).mp h |>.1
section CHH
variable {ι : Nat → Nat} {κ : Nat → Nat → Nat} {al sz : Nat → Nat × Nat} {cB eB : Int} {st : Nat → I_T} {D : Nat → List (Int × List b_E)} {gv : Nat → Int} {M M1 : g_M} {x : Nat}
theorem C_bk.ob (h : C_bk ι κ M) (hj : C_ij ι κ) (hx : x < 8) : I_ob (κ x 0) (ι 1) (ι 2) (κ x 1) (κ x 4) (κ x 7) (κ x 8) (κ x 9) M := ⟨h.xO hx (by decide), (h.2.2 x hx).2.2.1.1, (h.2.2 x hx).2.2.1.2, h.xr hx (a := 0) (by decide), h.xr hx (a := 0) (by decide), h.xr hx (a := 0) (by decide), h.xr hx (a := 0) (by decide), h.xr hx (a := 0) (by decide), h.xA hx (by decide), h.xA hx (by decide), hj.xne hx hx (by decide) (by decide) (by omega), h.xO hx (by decide)⟩
theorem C_bk.pp (h : C_bk ι κ M) (hj : C_ij ι κ) (hx : x < 8) : p_P M (κ x 1) (κ x 2) (κ x 3) ∧ p_P M (κ x 4) (κ x 5) (κ x 6) := ⟨⟨h.xO hx (by decide), h.xr hx (a := 1) (by decide), h.xr hx (a := 1) (by decide), h.xA hx (by decide), h.xA hx (by decide), hj.xne hx hx (by decide) (by decide) (by omega)⟩, ⟨h.xO hx (by decide), h.xr hx (a := 4) (by decide), h.xr hx (a := 4) (by decide), h.xA hx (by decide), h.xA hx (by decide), hj.xne hx hx (by decide) (by decide) (by omega)⟩⟩
theorem C_ix.kF {S : Nat → Prop} {t : I_T} {c e : Int} {L : List Int} (h : C_ix ι κ al sz x t M) (hb : C_bk ι κ M) (hx : x < 8) (hP : k_P M (ι 1) (ι 2) c e L) (k : k_F S (ι 1) M M1) (hκ : ∀ j, j < 10 → j ≠ 7 → ¬ S (κ x j)) (hown : ∀ y, S y → ¬ B_own (κ x 7) M y) (hal : ∀ V T m1 m2, t = some (V, T, m1, m2) → ¬ S (al x).1 ∧ ∀ s2, V.2.2.2 = some s2 → ¬ S (al x).2) : C_ix ι κ al sz x t M1 ∧ ∀ y, B_own (κ x 7) M1 y ↔ B_own (κ x 7) M y := by
  obtain ⟨h0, h1⟩ := h
  obtain ⟨h0', ho⟩ := h0.kF hP k hown
  refine ⟨⟨h0', ?_⟩, ho⟩
  have x0 := (hb.xsm hP k hx (j := 0) (by decide) (hκ 0 (by decide) (by decide))).1
  have x7 := (hb.xsm hP k hx (j := 7) (by decide) (fun z => hown _ z (Or.inl rfl))).1
  rcases t with _ | ⟨V, T, m1, m2⟩
  · show g_i M1 (κ x 0) 9 = 0
    rw [x0]
    exact h1
  · obtain ⟨k1, ⟨⟨n1, q1⟩, q2, q3, q4, q5, q6, q7⟩, ⟨k3, k4⟩, k5, ⟨k6, k7⟩, k8, ⟨k9, k10⟩, k11⟩ := h1
    obtain ⟨l1, l2⟩ := hal V T m1 m2 rfl
    have hn : ∀ j, j < 10 → j ≠ 7 → ¬ S (κ x j) := hκ
    refine ⟨by rw [x0]; exact k1, ⟨⟨n1, q1.kS hP k (hn 1 (by decide) (by decide)) (hn 2 (by decide) (by decide)) (hn 3 (by decide) (by decide)) l1⟩, q2, by rw [x0]; exact q3, by rw [x0]; exact q4, fun s2 hs2 => ?_, q6, q7⟩, ⟨by rw [x7]; exact k3, by rw [x7]; exact k4⟩, (k5.kF hP k hown).1, ⟨by rw [x0]; exact k6, by rw [x0]; exact k7⟩, k8, ⟨k9.kS hP k (hn 1 (by decide) (by decide)) (hn 2 (by decide) (by decide)) (hn 3 (by decide) (by decide)) l1, k10⟩, fun s2 hs2 => ?_⟩
    · obtain ⟨⟨n2, w1⟩, w2⟩ := q5 s2 hs2
      exact ⟨⟨n2, w1.kS hP k (hn 4 (by decide) (by decide)) (hn 5 (by decide) (by decide)) (hn 6 (by decide) (by decide)) (l2 s2 hs2)⟩, w2⟩
    · obtain ⟨w1, w2⟩ := k11 s2 hs2
      exact ⟨w1.kS hP k (hn 4 (by decide) (by decide)) (hn 5 (by decide) (by decide)) (hn 6 (by decide) (by decide)) (l2 s2 hs2), w2⟩
theorem I_dj.kF {Y : Nat → Prop} {t : Nat} (h : I_dj Y t M) (hl : M.1.length ≤ M1.1.length) (ho : ∀ y, B_own t M1 y ↔ B_own t M y) : I_dj Y t M1 := fun y hy => ⟨by have := (h y hy).1; omega, fun z => (h y hy).2 ((ho y).mp z)⟩
/-- the house stays when work is done beside it -/
theorem C_H.kF {S : Nat → Prop} (h : C_H ι κ al sz cB eB st D gv M) (k : k_F S (ι 1) M M1) (hP1 : k_P M1 (ι 1) (ι 2) (cB + C_sm (C_c sz) 8) (eB + C_sm (C_e sz) 8) []) (hS : ∀ y, S y → ∃ a ∈ Ck_sc, y = ι a) (hb : ∀ q, q < 4 ∨ (2008 ≤ q ∧ q < 82808) → g_i M1 (ι 2) q = g_i M (ι 2) q) (hl : ∀ l ∈ Ck_r, l.1 ≠ 1 → S (ι l.1) → g_r M1 (ι l.1) l.2.1 = g_r M (ι l.1) l.2.1) : C_H ι κ al sz cB eB st D gv M1 := by
  obtain ⟨h1, h2, h3, h4, h5, h6, h7, h8⟩ := h
  have nk : ∀ {x j : Nat}, x < 8 → j < 10 → ¬ S (κ x j) := fun hx hj z => by
    obtain ⟨a, ha, e⟩ := hS _ z
    exact h2.ix (Ck_sc_k a ha).1 hx hj e.symm
  have nb : ∀ {a : Nat}, a ∈ Ck_k → a ∉ Ck_sc → ¬ S (ι a) := fun ha hn z => by
    obtain ⟨a2, ha2, e⟩ := hS _ z
    have := h2.1 _ ha _ (Ck_sc_k a2 ha2).1 e
    exact hn (this ▸ ha2)
  have hown : ∀ x, x < 8 → ∀ y, S y → ¬ B_own (κ x 7) M y := fun x hx y hy => by
    obtain ⟨a, ha, e⟩ := hS y hy
    exact (h7 x hx y (Or.inl ⟨a, (Ck_sc_k a ha).1, e⟩)).2
  have hix : ∀ x, x < 8 → C_ix ι κ al sz x (st x) M1 ∧ ∀ y, B_own (κ x 7) M1 y ↔ B_own (κ x 7) M y := fun x hx => (h6 x hx).kF h1 hx h3 k (fun j hj _ => nk hx hj) (hown x hx) fun V T m1 m2 e => by
    have h9 := (h6 x hx).2
    rw [e] at h9
    obtain ⟨-, -, -, -, -, -, ⟨-, g1⟩, g2⟩ := h9
    refine ⟨fun z => ?_, fun s2 hs2 z => ?_⟩
    · obtain ⟨a, ha, e⟩ := hS _ z
      exact g1 a (Ck_sc_k a ha).1 e
    · obtain ⟨a, ha, e⟩ := hS _ z
      exact (g2 s2 hs2).2 a (Ck_sc_k a ha).1 e
  refine ⟨h1.kF h3 k (nb (by decide) (by decide)) hl (fun x hx => ⟨fun l hl z => absurd z (nk hx (Ck_xr_k l hl)), fun z => absurd z (nk hx (by decide))⟩) ⟨nb (by decide) (by decide), nb (by decide) (by decide)⟩, h2, hP1, b_at_keep h4 fun q q1 q2 => hb q (Or.inl (by have : (([10, 0, 3, 0] : List Int).length : Int) = 4 := rfl; omega)), fun w hw => ?_, fun x hx => (hix x hx).1, fun x hx => (h7 x hx).kF k.2.1 (hix x hx).2, fun x x2 hx hx2 hn y hy z => h8 x x2 hx hx2 hn y (((hix x hx).2 y).mp hy) (((hix x2 hx2).2 y).mp z)⟩
  have hsm : ∀ {a : Nat}, a ∈ Ck_k → a ≠ 1 → a ∉ Ck_sc → g_i M1 (ι a) = g_i M (ι a) ∧ g_r M1 (ι a) = g_r M (ι a) := fun ha h1' hn => h1.sm h3 k ha h1' (nb ha hn)
  have hw2 : w = 0 ∨ w = 1 := by omega
  rcases hw2 with e | e
  · subst e
    exact (h5 0 hw).kp k.1 (hsm (a := 67) (by decide) (by decide) (by decide)) (hsm (a := 69) (by decide) (by decide) (by decide)).1 (hsm (a := 70) (by decide) (by decide) (by decide)).1 fun q q1 q2 => hb q (Or.inr ⟨by omega, by omega⟩)
  · subst e
    exact (h5 1 hw).kp k.1 (hsm (a := 68) (by decide) (by decide) (by decide)) (hsm (a := 73) (by decide) (by decide) (by decide)).1 (hsm (a := 74) (by decide) (by decide) (by decide)).1 fun q q1 q2 => hb q (Or.inr ⟨by omega, by omega⟩)
/-- an index with its tree, by itself -/
theorem C_H.Z {V : I_V} {T : N_T I_E} {m1 m2 : Int} (h : C_H ι κ al sz cB eB st D gv M) (hx : x < 8) (hst : st x = some (V, T, m1, m2)) : I_Z V (C_Y ι κ al) (κ x 0) (ι 1) (ι 2) (κ x 1) (κ x 2) (κ x 3) (al x).1 (κ x 4) (κ x 5) (κ x 6) (al x).2 (κ x 7) (κ x 8) (κ x 9) 246408 (cB + C_sm (C_c sz) 8 - C_c sz x) (eB + C_sm (C_e sz) 8 - C_e sz x) [] T (sz x).1 (sz x).2 M ∧ g_i M (κ x 0) 9 = 1 ∧ (g_i M (κ x 0) 11 = m1 ∧ g_i M (κ x 0) 12 = m2) ∧ (m1 = 0 ∨ m1 = 1) ∧ (m2 = 0 ∨ m2 = 1) := by
  obtain ⟨h1, h2, h3, h4, h5, h6, h7, h8⟩ := h
  have h9 := (h6 x hx).2
  rw [hst] at h9
  obtain ⟨k1, k2, k3, k5, k6, k8, k9, k11⟩ := h9
  have ey : ∀ j, j < 10 → j ≠ 7 → C_Y ι κ al (κ x j) := fun j hj hn => Or.inr (Or.inl ⟨x, j, hx, hj, hn, rfl⟩)
  refine ⟨⟨⟨h1.ob h2 hx, k2, ⟨h1.A (by decide), by decide, C_no h4⟩, k3.1, k3.2, ?_, Nat.zero_le _⟩, k5, h7 x hx, Or.inl ⟨2, by decide, rfl⟩, ey 8 (by decide) (by decide), ey 9 (by decide) (by decide), ⟨ey 2 (by decide) (by decide), ey 3 (by decide) (by decide), Or.inr (Or.inr ⟨x, hx, Or.inl rfl⟩)⟩, fun _ => ⟨ey 5 (by decide) (by decide), ey 6 (by decide) (by decide), Or.inr (Or.inr ⟨x, hx, Or.inr rfl⟩)⟩⟩, k1, k6, k8⟩
  have e1 : cB + C_sm (C_c sz) 8 - C_c sz x + (B_ws (sz x).1 + B_wn (sz x).2) = cB + C_sm (C_c sz) 8 := by
    unfold C_c
    omega
  have e2 : eB + C_sm (C_e sz) 8 - C_e sz x + (3 * ((sz x).1 : Int) + 5 * ((sz x).2 : Int)) = eB + C_sm (C_e sz) 8 := by
    unfold C_e
    omega
  rw [e1, e2]
  exact h3
end CHH
