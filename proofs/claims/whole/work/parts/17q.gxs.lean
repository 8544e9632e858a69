/-! STAGES: $group, the class, whole -/
def G_okx (x : b_E) : Prop := b_nz x.2.1 ∧ x.1 = 3 ∧ ∃ a, b_ch x.2.2 = [a] ∧ G_ac a = true ∧ S_ef a = false
theorem G_gfL_0 : ∀ xs : List b_E, G_gfL xs = 0 → ∀ x ∈ xs, G_okx x := by
  intro xs
  induction xs with
  | nil => exact fun _ x hx => absurd hx (by simp)
  | cons y xs ih =>
    intro h
    have hL : G_gfL (y :: xs) = G_g1 y (G_gfL xs) := rfl
    rw [hL] at h
    unfold G_g1 at h
    split at h
    · rename_i g
      rcases hc : b_ch y.2.2 with _ | ⟨a, _ | ⟨a2, as⟩⟩
      · rw [hc] at h
        exact absurd h (show ¬ (2 : Int) = 0 by decide)
      · rw [hc] at h
        change G_gx a (G_gfL xs) = 0 at h
        unfold G_gx at h
        split at h
        · rename_i g2
          split at h
          · exact absurd h (by decide)
          · rename_i g3
            intro x hx
            rcases List.mem_cons.mp hx with hx | hx
            · rw [hx]
              exact ⟨S_pl_nz g.1, g.2, a, hc, g2, by simpa using g3⟩
            · exact ih h x hx
        · exact absurd h (by decide)
      · rw [hc] at h
        exact absurd h (show ¬ (2 : Int) = 0 by decide)
    · exact absurd h (by decide)
theorem G_gf_0 {e : b_E} (h : G_gf e = 0) : e.1 = 3 ∧ ∃ y xs, b_ch e.2.2 = y :: xs ∧ y.2.1 = b_tx 48 ∧ S_ef y = false ∧ ∀ x ∈ xs, G_okx x := by
  unfold G_gf at h
  split at h
  · rename_i g
    refine ⟨g, ?_⟩
    rcases hc : b_ch e.2.2 with _ | ⟨y, xs⟩
    · rw [hc] at h
      exact absurd h (by simp)
    · rw [hc] at h
      change (if y.2.1 = b_tx 48 then (if S_ef y = true then 3 else G_gfL xs) else 2) = 0 at h
      split at h
      · rename_i g2
        split at h
        · exact absurd h (by decide)
        · rename_i g3
          exact ⟨y, xs, rfl, g2, by simpa using g3, G_gfL_0 xs h⟩
      · exact absurd h (by decide)
  · exact absurd h (by decide)
theorem G_ac_0 {a : b_E} (h : G_ac a = true) : G_cd a.2.1 ≠ 0 := by
  unfold G_ac at h
  rw [Bool.and_eq_true] at h
  simpa using h.1
def G_bd (n : Nat) (ms : List (List b_E)) (x : b_E) : Prop := G_cd (G_a x).2.1 = 2 ∧ G_over (G_z (G_vs n x ms))
def G_sb (so : Nat) (P : Prop) (M : g_M) : Prop := (g_i M so 19 = 1 ∧ P) ∨ (g_i M so 19 = 0 ∧ ¬ P)
theorem G_sb.or {so : Nat} {P R : Prop} {M M1 : g_M} (h : G_sb so P M) (h1 : R → g_i M1 so 19 = 1) (h2 : ¬ R → g_i M1 so 19 = g_i M so 19) : G_sb so (P ∨ R) M1 := by
  by_cases hR : R
  · exact Or.inl ⟨h1 hR, Or.inr hR⟩
  · rcases h with ⟨a1, a2⟩ | ⟨a1, a2⟩
    · exact Or.inl ⟨(h2 hR).trans a1, Or.inl a2⟩
    · exact Or.inr ⟨(h2 hR).trans a1, fun z => z.elim a2 hR⟩
theorem G_sb.cg {so : Nat} {P R : Prop} {M M1 : g_M} (h : G_sb so P M) (hPR : P ↔ R) (hM : g_i M1 so 19 = g_i M so 19) : G_sb so R M1 := by
  unfold G_sb
  rw [hM, ← hPR]
  exact h
theorem b_tx_nz48 : b_nz (b_tx 48) := by
  intro c hc
  have : (b_tx 48).all (fun c => c != 0) = true := by decide +kernel
  have := List.all_eq_true.mp this c hc
  simpa using this
section GGOOD
variable {n i : Nat} {yb : b_E} {xs : List b_E} {ds : List (List b_E)}
theorem G_ms_ok (hok : S_ok ds) (yb : b_E) (n i : Nat) : (G_ms n yb ds i).length ≤ 200 ∧ ∀ es ∈ G_ms n yb ds i, (b_doc es).length ≤ 2000 ∧ X_gd 15 es := by
  unfold G_ms
  have h1 := List.length_filter_le (fun m => G_f n yb ds m == i) (List.range ds.length)
  rw [List.length_range] at h1
  have h2 := hok.1
  refine ⟨by rw [List.length_map]; omega, fun es hes => ?_⟩
  obtain ⟨m, hm, rfl⟩ := List.mem_map.mp hes
  have hml := List.mem_range.mp (List.mem_filter.mp hm).1
  rw [List.getD_eq_getElem?_getD, List.getElem?_eq_getElem hml]
  exact hok.2.2 _ (List.getElem_mem hml)
theorem G_good_V {e : b_E} {es : List b_E} (he : b_gv 16 e.1 e.2.2) (hel : e.2.2.length ≤ 2100) (hl : (b_doc es).length ≤ 2000) (hg : X_gd 15 es) : G_good (V_of n e es) := fun y hy => by
  rw [b_doc_len] at hl
  obtain ⟨h1, h2, -⟩ := V_of_gd (D := 16) (by decide) (hg.le (by decide)) he hel (by omega) hy
  exact ⟨h1, h2⟩
theorem G_doc_good (hok : S_ok ds) (hi : i < ds.length) (hy : b_gv 16 yb.1 yb.2.2) (hyl : yb.2.2.length ≤ 2100) (hx : ∀ x ∈ xs, G_okx x ∧ b_gv 17 x.1 x.2.2 ∧ x.2.2.length ≤ 2100) : X_gd 30 (G_doc n yb xs ds i) := by
  intro z hz
  rcases List.mem_cons.mp hz with hz | hz
  · rw [hz]
    have hd : (b_doc (ds.getD i [])).length ≤ 2000 ∧ X_gd 15 (ds.getD i []) := by
      rw [List.getD_eq_getElem?_getD, List.getElem?_eq_getElem hi]
      exact hok.2.2 _ (List.getElem_mem hi)
    exact ⟨b_tx_nz48, b_gv_le (G_good_V hy hyl hd.1 hd.2).J.1 (by decide)⟩
  · obtain ⟨x, hx1, rfl⟩ := List.mem_map.mp hz
    obtain ⟨⟨z1, z2, a, z3, z4, z5⟩, z6, z7⟩ := hx x hx1
    obtain ⟨h1, h2⟩ := G_ms_ok hok yb n i
    have hax : G_a x = a := by unfold G_a; rw [z3]; rfl
    obtain ⟨D2, es2, c1, c2, c3, c4, c5, c6, c7⟩ := b_gv_doc z6 (Or.inl z2)
    have hc8 : es2 = [a] := by rw [← c7]; exact z3
    have ha : b_gv 16 a.1 a.2.2 := b_gv_le (c5 a (by rw [hc8]; simp)).2 (by omega)
    have hal : a.2.2.length ≤ 2100 := by
      have := congrArg List.length c2
      rw [b_doc_len, hc8, b_ser_1, b_el_len] at this
      omega
    obtain ⟨g1, g2, -⟩ := G_w_good (vs := G_vs n x (G_ms n yb ds i)) z1 (by unfold G_vs; rw [List.length_map]; exact h1) fun o ho => by
      unfold G_vs at ho
      obtain ⟨es, hes, rfl⟩ := List.mem_map.mp ho
      rw [hax]
      exact G_good_V ha hal (h2 es hes).1 (h2 es hes).2
    exact ⟨g1, b_gv_le g2 (by decide)⟩
end GGOOD
section CGROUP
variable {so r b po pf pt tp tf tt ou sc be fr ke gr va sv oa : Nat} {M0 M M1 : g_M} {lo g : Int} {ds : List (List b_E)}
theorem c_groupXs {d n Dx i : Nat} {Q : Int → g_M → Prop} {v1 v2 v3 v6 J : Int} {yb : b_E} {X : List b_E} {dsA : List (List b_E)} {u y0 : List Int} {P0 : Prop} (hT : G_T so b po pf pt ou sc be fr ke gr va M0) (hlo : lo = S_lo g) (hg01 : g = 0 ∨ g = 1) (hbt : S_belt so b be g ds M0) (hno : b_at (g_i M0 b) 0 [10, 0]) (hDx : Dx ≤ 17) (hX : ∀ x ∈ X, G_okx x ∧ b_gv 17 x.1 x.2.2 ∧ x.2.2.length ≤ 2100) (hyg : b_gv 16 yb.1 yb.2.2) (hyl : yb.2.2.length ≤ 2100) (hn : 16 ≤ n) (hi : i < ds.length) (hfi : G_f n yb ds i = i) (r1 : g_InR v1) (r2 : g_InR v2) (r3 : g_InR v3) (r6 : g_InR v6) (hr6 : w_r lo (lo + 40400) v6 (u.length + 2)) (hy0 : y0.length ≤ 40000) (hJ0 : 40000 ≤ J) (hJ1 : J ≤ 900000000) (hq : ∀ M1 (u2 y1 : List Int), G_X so b po pf pt ou sc fr ke gr va lo M0 M1 → S_D so b ou fr lo (J + 40400) (dsA ++ [G_doc n yb X ds i]) u2 M1 → c_Wr sc b 246408 163608 246408 (y0 ++ y1) M1 → y1.length ≤ 40000 → G_K n yb ds lo b ke gr ds.length y0.length M1 → G_sb so (P0 ∨ ∃ x ∈ X, G_bd n (G_ms n yb ds i) x) M1 → g_Run (d + 70) 157 165 [(0, .ref so), (1, g_n v1), (2, g_n v2), (3, g_n v3), (4, g_n (163608 + y0.length)), (5, g_n ((i : Int) + 1))] [] M1 (g_qI Q)) : ∀ (xs X1 : List b_E) (qx : Int) (v8 : Nat) (M : g_M) (y1 : List Int), X = X1 ++ xs → b_sts (g_i M0 b) 2100 qx Dx xs → v8 + xs.length < 2000 → G_X so b po pf pt ou sc fr ke gr va lo M0 M → c_Wr ou b 246408 lo (lo + 40400) (u ++ [3, 0] ++ ([0, 0, 0, 0] ++ b_ser (G_by n yb (ds.getD i []) :: X1.map (G_el n (G_ms n yb ds i))))) M → S_F so fr lo J dsA M → (g_i M so 18 = 0 → u = S_wr dsA) → c_Wr sc b 246408 163608 246408 (y0 ++ y1) M → y1.length ≤ 40000 → G_K n yb ds lo b ke gr ds.length y0.length M → G_sb so (P0 ∨ ∃ x ∈ X1, G_bd n (G_ms n yb ds i) x) M → g_Run (d + 70) 157 250 [(0, .ref so), (1, g_n v1), (2, g_n v2), (3, g_n v3), (4, g_n (163608 + y0.length)), (5, g_n i), (6, g_n v6), (7, g_n qx), (8, g_n v8)] [] M (g_qI Q) := by
  obtain ⟨hlo1, hlo2, -⟩ := S_lo_R hg01
  rw [← hlo] at hlo1 hlo2
  have hok := hbt.2.1
  have hl200 := hok.1
  intro xs
  induction xs with
  | nil =>
    intro X1 qx v8 M y1 e1 e2 e3 hXM hu hF h18 hs hy1 hK h19
    rw [List.append_nil] at e1
    subst e1
    rw [List.length_nil] at e3
    have hTM := hXM.T hT
    have hqR : g_InR qx := by
      have := e2.2.2.1
      have := e2.2.2.2.1
      exact ⟨by omega, by omega⟩
    have e2M : b_sts (g_i M b) 246408 qx Dx [] := by
      obtain ⟨h1, h2, h3, h4, h5⟩ := e2
      exact ⟨b_nil _ _, h2, h3, by omega, by rw [hXM.2.2.2.2.1 _ (by omega) (by omega)]; exact h5⟩
    refine s_X9_group_250 r1 r2 r3 ⟨by omega, by omega⟩ ⟨by omega, by omega⟩ r6 hqR ⟨by omega, by omega⟩ fun _ => ⟨fun _ => ⟨hTM.1.1.1, b, hTM.1.1.2.1, c_kdE (d := d + 69) hTM.1.1.2.2 (by decide) e2M ?_⟩, fun z => absurd (by omega) z⟩
    intro _ _ _
    refine ⟨fun _ => ?_, fun z => absurd rfl z⟩
    refine c_closeDocG (d := d + 1) (es := G_doc n yb X ds i) (J := J) hTM.1.1 hTM.1.2.2.2.1.1 hTM.1.2.2.2.1.2.2.2 hTM.1.2.2.2.2.1.2.1 (by omega) (by omega) h18 hu hr6 (Or.inl rfl) (G_doc_good hok hi hyg hyl hX) hF hJ0 (by omega) fun M14 u2 f14 hu14 hF14 h1814 => ?_
    intro _ _
    obtain ⟨a1, a2, a3, a4, a5, a6, a7, a8⟩ := hTM.1.n1
    obtain ⟨b1, b2, b3, b4, b5, b6, b7⟩ := hTM.1.n2
    obtain ⟨-, -, -, ⟨f1, -, f3⟩, ⟨g1, g2⟩, -⟩ := hTM.1.n3
    have hno4 : ∀ {x : Nat}, x ≠ ou → x ≠ b → x ≠ so → x ≠ fr → ∀ k, g_i M14 x k = g_i M x k := fun k1 k2 k3 k4 k => f14.2.1 _ k fun z => by
      rcases z with ⟨z, -⟩ | z | ⟨z, -⟩ | ⟨z, -⟩
      · exact k3 z
      · exact k4 z
      · exact k1 z
      · exact k2 z
    have hb14 : ∀ k, ¬ (lo ≤ k ∧ k < lo + 40400) → g_i M14 b k = g_i M b k := fun k hk => f14.2.1 b k fun z => by
      rcases z with ⟨z, -⟩ | z | ⟨z, -⟩ | ⟨-, z⟩
      · exact a1 z.symm
      · exact b7 z
      · exact b4 z
      · exact hk z
    have hnn := hTM.n
    refine ⟨⟨by omega, by omega⟩, hq M14 u2 y1 (hXM.tr (G_X.e (lo := lo) hTM f14 fun y k z => ?_)) ⟨hu14, hF14, h1814⟩ (hs.kp f14.1 (f14.2.2 _ _) (fun k => hno4 f1.symm b5.symm a6.symm g2 k) fun k k1 _ => hb14 k (by omega)) hy1 (fun j hj => ?_) (h19.cg Iff.rfl (f14.2.1 so 19 fun z => ?_))⟩
    · rcases z with ⟨z, z2⟩ | z | ⟨z, -⟩ | ⟨z, z2⟩
      · exact Or.inl ⟨z, by omega⟩
      · exact Or.inr (Or.inr (Or.inr (Or.inl z)))
      · exact Or.inr (Or.inl z)
      · exact Or.inr (Or.inr (Or.inr (Or.inr (Or.inr (Or.inr (Or.inr ⟨z, Or.inr z2⟩))))))
    · obtain ⟨z1, z2⟩ := hK j hj
      obtain ⟨kn1, kn2, -, -, -, kn6, -, -, kn9⟩ := hnn ke (Or.inl rfl)
      obtain ⟨gn1, gn2, -, -, -, gn6, -, -, gn9⟩ := hnn gr (Or.inr (Or.inl rfl))
      rw [hno4 kn6 kn2 kn1 kn9, hno4 gn6 gn2 gn1 gn9]
      exact ⟨z1.kp (Nat.le_refl _) (fun k _ k2 => hb14 k k2) (by omega), z2⟩
    · rcases z with ⟨-, z⟩ | z | ⟨z, -⟩ | ⟨z, -⟩
      · omega
      · exact a8 z
      · exact a5 z
      · exact a1 z
  | cons x xs ih =>
    intro X1 qx v8 M y1 e1 e2 e3 hXM hu hF h18 hs hy1 hK h19
    rw [List.length_cons] at e3
    have hTM := hXM.T hT
    obtain ⟨hx0, hr2⟩ := e2.cons
    have hxM := hXM.req hlo1 hx0
    have hx4 := hx0.2.2.2.1
    have hx5 := hx0.2.2.2.2
    have hxM2 : b_st (g_i M b) 246408 qx Dx x.1 x.2.1 x.2.2 := ⟨hxM.1, hxM.2.1, hxM.2.2.1, hxM.2.2.2.1, by omega⟩
    have hqR := hxM2.R (by decide)
    have hxk := b_vs_pos (b_gv_vs hx0.2.2.1)
    obtain ⟨⟨z1, z2, a, z3, z4, z5⟩, z6, z7⟩ := hX x (by rw [e1]; simp)
    have hax : G_a x = a := by unfold G_a; rw [z3]; rfl
    obtain ⟨⟨⟨s1, s2, s3⟩, w2, hp, ⟨w4, w5, w6, w7⟩, ⟨q1, q2, q3⟩, ⟨u1, u2⟩, ⟨c1, c2⟩, -⟩, -⟩ := id hTM
    obtain ⟨a1, a2, a3, a4, a5, a6, a7, a8⟩ := hTM.1.n1
    obtain ⟨b1, b2, b3, b4, b5, b6, b7⟩ := hTM.1.n2
    obtain ⟨-, -, -, ⟨f1, -, f3⟩, ⟨g1, g2⟩, -⟩ := hTM.1.n3
    refine s_X9_group_250 r1 r2 r3 ⟨by omega, by omega⟩ ⟨by omega, by omega⟩ r6 hqR ⟨by omega, by omega⟩ fun _ => ⟨fun _ => ⟨s1, b, s2, c_kd2 (d := d + 69) s3 (by decide) hxM2 ?_⟩, fun z => absurd (by omega) z⟩
    intro _ _ _
    refine ⟨fun z => absurd z (by omega), fun _ => ⟨sc, w5, c1, fun M21 e21 _ => ?_⟩⟩
    have f21 : e_fr (fun y _ => y = sc) M M21 := by rw [e21]; exact e_fr.wi _ rfl
    have hs21 : c_Wr sc b 246408 163608 246408 y0 M21 := by
      rw [e21]
      exact hs.back (by rw [List.length_append]; omega) b5.symm
    have hb21 : g_i M21 b = g_i M b := funext fun k => f21.2.1 b k fun z => b5 z
    have hso21 : ∀ k, g_i M21 so k = g_i M so k := fun k => f21.2.1 so k fun z => a6 z
    have hX21 := hXM.tr (G_X.e (lo := lo) hTM f21 fun y k z => Or.inr (Or.inr (Or.inl z)))
    have hnn := hTM.n
    refine c_groupVals (d := d) (n := n) (x := x) (a := a) (yb := yb) (U := u ++ [3, 0] ++ ([0, 0, 0, 0] ++ b_ser (G_by n yb (ds.getD i []) :: X1.map (G_el n (G_ms n yb ds i))))) hT hlo hg01 hbt hno hx0 hDx z2 z3 (G_ac_0 z4) z5 hn hi hfi r1 r2 r3 ⟨by omega, by omega⟩ r6 (by omega) hX21 (hu.kp f21.1 (f21.2.2 _ _) (fun k => f21.2.1 ou k fun z => f1 z) fun k _ _ => by rw [hb21]) (hF.fr (fun k _ => hso21 k) fun k => f21.2.1 fr k fun z => g2 z.symm) hs21 hy0 (fun j hj => ?_) fun M4 y2 hX4 hu4 hF4 hs4 hy2 hK4 h184 h19a h19b => ?_
    · obtain ⟨k1, k2⟩ := hK j hj
      rw [f21.2.1 ke j fun z => (hnn ke (Or.inl rfl)).2.2.2.2.2.2.1 z, f21.2.1 gr j fun z => (hnn gr (Or.inr (Or.inl rfl))).2.2.2.2.2.2.1 z, hb21]
      exact ⟨k1, k2⟩
    · have ew : u ++ [3, 0] ++ ([0, 0, 0, 0] ++ b_ser (G_by n yb (ds.getD i []) :: X1.map (G_el n (G_ms n yb ds i)))) ++ b_el (G_el n (G_ms n yb ds i) x).1 x.2.1 (G_el n (G_ms n yb ds i) x).2.2 = u ++ [3, 0] ++ ([0, 0, 0, 0] ++ b_ser (G_by n yb (ds.getD i []) :: (X1 ++ [x]).map (G_el n (G_ms n yb ds i)))) := by
        have hnm : (G_el n (G_ms n yb ds i) x).2.1 = x.2.1 := G_w_n
        rw [List.map_append, List.map_cons, List.map_nil, ← List.cons_append, b_ser_app, b_ser_1, hnm]
        simp
      rw [ew] at hu4
      have h9 := ih (X1 ++ [x]) (qx + (b_el x.1 x.2.1 x.2.2).length) (v8 + 1) M4 y2 (by rw [e1]; simp) hr2 (by omega) hX4 hu4 hF4 (fun z => h18 (by rw [h184, hso21] at z; exact z)) hs4 hy2 hK4 ?_
      · rwa [show ((v8 + 1 : Nat) : Int) = (v8 : Int) + 1 by omega] at h9
      · have hor := h19.or (M1 := M4) (R := G_bd n (G_ms n yb ds i) x) (fun hR => h19a (by unfold G_bd at hR; rwa [hax] at hR)) (fun hR => by
          rw [h19b (fun z => hR (by unfold G_bd; rwa [hax])), hso21])
        refine hor.cg ?_ rfl
        constructor
        · rintro ((h | ⟨w, hw, h⟩) | h)
          · exact Or.inl h
          · exact Or.inr ⟨w, List.mem_append_left _ hw, h⟩
          · exact Or.inr ⟨x, by simp, h⟩
        · rintro (h | ⟨w, hw, h⟩)
          · exact Or.inl (Or.inl h)
          · rcases List.mem_append.mp hw with hw | hw
            · exact Or.inl (Or.inr ⟨w, hw, h⟩)
            · rw [List.mem_singleton.mp hw] at h
              exact Or.inr h
end CGROUP
