/-! STAGES: $group, the class: the documents of the groups -/
noncomputable def G_pv (n : Nat) (yb : b_E) (ds : List (List b_E)) (i : Nat) (a : b_E) (m : Nat) : List (Option b_E) := ((List.range m).filter fun k => G_f n yb ds k == i).map fun k => V_of n a (ds.getD k [])
theorem G_pv_end (n : Nat) (yb : b_E) (ds : List (List b_E)) (i : Nat) (x : b_E) : G_pv n yb ds i (G_a x) ds.length = G_vs n x (G_ms n yb ds i) := by
  unfold G_pv G_vs G_ms
  rw [List.map_map]
  rfl
theorem G_pv_0 (n : Nat) (yb : b_E) (ds : List (List b_E)) (i : Nat) (a : b_E) : G_pv n yb ds i a i = [] := by
  unfold G_pv
  rw [List.map_eq_nil_iff, List.filter_eq_nil_iff]
  intro k hk h
  have h1 := (G_f_sp n yb ds k).1
  have h2 : G_f n yb ds k = i := by simpa using h
  have h3 := List.mem_range.mp hk
  omega
theorem G_pv_s {n : Nat} {yb : b_E} {ds : List (List b_E)} {i : Nat} {a : b_E} {m : Nat} : G_pv n yb ds i a (m + 1) = G_pv n yb ds i a m ++ if G_f n yb ds m = i then [V_of n a (ds.getD m [])] else [] := by
  unfold G_pv
  rw [List.range_succ, List.filter_append, List.map_append]
  congr 1
  by_cases h : G_f n yb ds m = i
  · rw [if_pos h]
    simp [h]
  · rw [if_neg h]
    simp [h]
theorem G_pv_len {n : Nat} {yb : b_E} {ds : List (List b_E)} {i : Nat} {a : b_E} {m : Nat} : (G_pv n yb ds i a m).length ≤ m := by
  unfold G_pv
  rw [List.length_map]
  have := List.length_filter_le (fun k => G_f n yb ds k == i) (List.range m)
  rwa [List.length_range] at this
theorem G_pv_pos {n : Nat} {yb : b_E} {ds : List (List b_E)} {i : Nat} {a : b_E} (hi : i < ds.length) (h : G_f n yb ds i = i) : 0 < (G_pv n yb ds i a ds.length).length := by
  unfold G_pv
  rw [List.length_map]
  refine List.length_pos_of_mem (a := i) ?_
  rw [List.mem_filter]
  exact ⟨List.mem_range.mpr hi, by rw [h]; simp⟩
section GDOCS
variable {so b po pf pt ou sc be fr ke gr va : Nat} {M0 M M1 : g_M} {lo g : Int} {ds : List (List b_E)}
theorem c_Wr.back {o buf : Nat} {N l2 lim : Int} {x z : List Int} (h : c_Wr o buf N l2 lim (x ++ z) M) (hl : l2 + (x ++ z).length ≤ lim) (hob : o ≠ buf) : c_Wr o buf N l2 lim x (g_wi M o 1 (l2 + x.length)) := by
  obtain ⟨⟨v1, v2, v3, v4⟩, v5, v6, v7⟩ := h
  have f : e_fr (fun y k => y = o ∧ k = 1) M (g_wi M o 1 (l2 + x.length)) := e_fr.wi _ ⟨rfl, rfl⟩
  rw [List.length_append] at hl
  refine ⟨⟨f.O v1, by rw [f.2.2]; exact v2, f.A v3, v4⟩, v5, v6, ?_⟩
  unfold w_W at v7 ⊢
  rw [f.2.1 o 2 fun z => absurd z.2 (by decide), f.2.1 o 3 fun z => absurd z.2 (by decide)]
  refine ⟨v7.1, ?_⟩
  rcases v7.2 with ⟨a1, a2, a3, a4⟩ | ⟨-, -, -, a4⟩
  · exact Or.inl ⟨a1, by rw [g_i_wi, if_pos ⟨rfl, rfl⟩], by omega, b_at_keep (b_app.mp a4).1 fun k _ _ => f.2.1 buf k fun z => hob z.1.symm⟩
  · rw [List.length_append] at a4
    omega
theorem c_groupVals {d n Dx i : Nat} {Q : Int → g_M → Prop} {v1 v2 v3 v4 v6 qx J : Int} {v8 : Nat} {x a yb : b_E} {dsA : List (List b_E)} {U y0 : List Int} (hT : G_T so b po pf pt ou sc be fr ke gr va M0) (hlo : lo = S_lo g) (hg01 : g = 0 ∨ g = 1) (hbt : S_belt so b be g ds M0) (hno : b_at (g_i M0 b) 0 [10, 0]) (hx : b_st (g_i M0 b) 2100 qx Dx x.1 x.2.1 x.2.2) (hDx : Dx ≤ 17) (hxk : x.1 = 3) (hch : b_ch x.2.2 = [a]) (hcd : G_cd a.2.1 ≠ 0) (hef : S_ef a = false) (hn : 16 ≤ n) (hi : i < ds.length) (hfi : G_f n yb ds i = i) (r1 : g_InR v1) (r2 : g_InR v2) (r3 : g_InR v3) (r4 : g_InR v4) (r6 : g_InR v6) (h8 : v8 < 2000) (hX : G_X so b po pf pt ou sc fr ke gr va lo M0 M) (hu : c_Wr ou b 246408 lo (lo + 40400) U M) (hF : S_F so fr lo J dsA M) (hs : c_Wr sc b 246408 163608 246408 y0 M) (hy0 : y0.length ≤ 40000) (hK : G_K n yb ds lo b ke gr ds.length y0.length M) (hq : ∀ M1 (y2 : List Int), G_X so b po pf pt ou sc fr ke gr va lo M0 M1 → c_Wr ou b 246408 lo (lo + 40400) (U ++ b_el (G_el n (G_ms n yb ds i) x).1 x.2.1 (G_el n (G_ms n yb ds i) x).2.2) M1 → S_F so fr lo J dsA M1 → c_Wr sc b 246408 163608 246408 (y0 ++ y2) M1 → y2.length ≤ 40000 → G_K n yb ds lo b ke gr ds.length y0.length M1 → g_i M1 so 18 = g_i M so 18 → (G_cd a.2.1 = 2 ∧ G_over (G_z (G_vs n x (G_ms n yb ds i))) → g_i M1 so 19 = 1) → (¬ (G_cd a.2.1 = 2 ∧ G_over (G_z (G_vs n x (G_ms n yb ds i)))) → g_i M1 so 19 = g_i M so 19) → g_Run (d + 70) 157 250 [(0, .ref so), (1, g_n v1), (2, g_n v2), (3, g_n v3), (4, g_n v4), (5, g_n i), (6, g_n v6), (7, g_n (qx + (b_el x.1 x.2.1 x.2.2).length)), (8, g_n ((v8 : Int) + 1))] [] M1 (g_qI Q)) : g_Run (d + 70) 157 286 [(0, .ref so), (1, g_n v1), (2, g_n v2), (3, g_n v3), (4, g_n v4), (5, g_n i), (6, g_n v6), (7, g_n qx), (8, g_n v8), (9, g_n 0), (10, g_n i)] [] M (g_qI Q) := by
  obtain ⟨hlo1, hlo2, -⟩ := S_lo_R hg01
  rw [← hlo] at hlo1 hlo2
  obtain ⟨h14, hok, -⟩ := id hbt
  have hl200 := hok.1
  have hsum := hok.2.1
  have hx4 := hx.2.2.2.1
  have hx5 := hx.2.2.2.2
  have hxl := b_el_len x.1 x.2.1 x.2.2
  have hqxR : g_InR qx := ⟨by omega, by omega⟩
  have hax : G_a x = a := by
    unfold G_a
    rw [hch]
    rfl
  obtain ⟨D2, eD2, hk2, -⟩ := hx.kids (Or.inl hxk)
  rw [hch] at hk2
  have ha := hk2.cons.1
  have hupx : ∀ {B : Int → Int} {q : Int} {D : Nat} {e : b_E}, b_st B 2100 q D e.1 e.2.1 e.2.2 → b_st B 246408 q D e.1 e.2.1 e.2.2 := fun h => ⟨h.1, h.2.1, h.2.2.1, h.2.2.2.1, by have := h.2.2.2.2; omega⟩
  have hlp : ∀ (t m : Nat) (M3 : g_M) (y2 : List Int), m + t = ds.length → G_X so b po pf pt ou sc fr ke gr va lo M0 M3 → c_Wr ou b 246408 lo (lo + 40400) U M3 → S_F so fr lo J dsA M3 → c_Wr sc b 246408 163608 246408 (y0 ++ y2) M3 → y2.length ≤ S_sum (ds.take m) → G_K n yb ds lo b ke gr ds.length y0.length M3 → G_vals b va lo (y0 ++ y2).length (G_pv n yb ds i a m) M3 → (∀ k, k = 18 ∨ k = 19 → g_i M3 so k = g_i M so k) → g_Run (d + 70) 157 286 [(0, .ref so), (1, g_n v1), (2, g_n v2), (3, g_n v3), (4, g_n v4), (5, g_n i), (6, g_n v6), (7, g_n qx), (8, g_n v8), (9, g_n (G_pv n yb ds i a m).length), (10, g_n m)] [] M3 (g_qI Q) := by
    intro t
    induction t with
    | zero =>
      intro m M3 y2 hm hX3 hu3 hF3 hs3 hy2 hK3 hV3 h183
      have hmN : m = ds.length := by omega
      subst hmN
      have hT3 := hX3.T hT
      have hle := S_sum_le ds ds.length
      have hpl := @G_pv_len n yb ds i a ds.length
      have hi14 : g_i M3 so 14 = ds.length := by rw [hX3.2.2.2.1 14 (by decide) (by decide) (by decide) (by decide)]; exact h14
      have hxM := hX3.req hlo1 hx
      have haM := hX3.req hlo1 ha
      have hno3 : b_at (g_i M3 b) 0 [10, 0] := b_at_keep hno fun k k1 k2 => hX3.2.2.2.2.1 k (by have : ([10, 0] : List Int).length = 2 := rfl; omega) (by have : ([10, 0] : List Int).length = 2 := rfl; omega)
      have hpe := G_pv_end n yb ds i x
      rw [hax] at hpe
      refine s_X9_group_286 r1 r2 r3 r4 ⟨by omega, by omega⟩ r6 hqxR ⟨by omega, by omega⟩ ⟨by omega, by omega⟩ ⟨by omega, by omega⟩ fun _ => ⟨hT3.1.1.1, fun z => absurd z (by omega), fun _ => ?_⟩
      refine c_writeGathered (d := d + 2) (x := x) (a := a) (vs := G_pv n yb ds i a ds.length) (yl := (y0 ++ y2).length) hT3 (by omega) (G_pv_pos hi hfi) hlo1 hlo2 (by rw [List.length_append]; omega) hno3 hxM (hupx haM) hax hcd hV3 hu3 fun M2 f2 W2 h19a h19b => ?_
      intro _ _
      obtain ⟨a1, a2, a3, a4, a5, a6, a7, a8⟩ := hT3.1.n1
      obtain ⟨b1, b2, b3, b4, b5, b6, b7⟩ := hT3.1.n2
      obtain ⟨-, -, -, ⟨f1, -, f3⟩, -, -⟩ := hT3.1.n3
      have hn := hT3.n
      have hX2 := hX3.tr (G_X.e (lo := lo) hT3 f2 fun y k z => by
        rcases z with (⟨z, -⟩ | ⟨z, z2⟩) | ⟨z, z2⟩
        · exact Or.inr (Or.inl z)
        · exact Or.inr (Or.inr (Or.inr (Or.inr (Or.inr (Or.inr (Or.inr ⟨z, Or.inr z2⟩))))))
        · exact Or.inl ⟨z, Or.inr (Or.inr (Or.inr z2))⟩)
      have hT2 := hX2.T hT
      have hno2 : ∀ {x : Nat}, x ≠ ou → x ≠ b → x ≠ so → ∀ k, g_i M2 x k = g_i M3 x k := fun k1 k2 k3 k => f2.2.1 _ k fun z => by
        rcases z with (⟨z, -⟩ | ⟨z, -⟩) | ⟨z, -⟩
        · exact k1 z
        · exact k2 z
        · exact k3 z
      have hso2 : ∀ k, k ≠ 19 → g_i M2 so k = g_i M3 so k := fun k hk => f2.2.1 so k fun z => by
        rcases z with (⟨z, -⟩ | ⟨z, -⟩) | ⟨-, z⟩
        · exact a5 z
        · exact a1 z
        · exact hk z
      have hb2 : ∀ k, ¬ (lo ≤ k ∧ k < lo + 40400) → g_i M2 b k = g_i M3 b k := fun k hk => f2.2.1 b k fun z => by
        rcases z with (⟨z, -⟩ | ⟨-, z⟩) | ⟨z, -⟩
        · exact b4 z
        · exact hk z
        · exact a1 z.symm
      refine ⟨b, hT2.1.1.2.1, c_nx2 (d := d + 69) hT2.1.1.2.2 (by decide) (hupx (hX2.req hlo1 hx)) ?_⟩
      intro _ _ _
      refine ⟨⟨by omega, by omega⟩, hq M2 y2 hX2 ?_ (hF3.fr (fun k hk => hso2 k (by omega)) fun k => hno2 f3.symm b7.symm a8.symm k) (hs3.kp f2.1 (f2.2.2 _ _) (fun k => hno2 f1.symm b5.symm a6.symm k) fun k k1 _ => hb2 k (by omega)) (by omega) (fun j hj => ?_) ?_ (fun z => h19a (by rw [hpe]; exact z)) fun z => ?_⟩
      · rw [hpe] at W2
        exact W2
      · obtain ⟨z1, z2⟩ := hK3 j hj
        obtain ⟨kn1, kn2, -, -, -, kn6, -⟩ := hn ke (Or.inl rfl)
        obtain ⟨gn1, gn2, -, -, -, gn6, -⟩ := hn gr (Or.inr (Or.inl rfl))
        rw [hno2 kn6 kn2 kn1, hno2 gn6 gn2 gn1]
        exact ⟨z1.kp (Nat.le_refl _) (fun k _ k2 => hb2 k k2) (by omega), z2⟩
      · rw [hso2 18 (by decide)]
        exact h183 18 (Or.inl rfl)
      · rw [h19b (by rw [hpe]; exact z)]
        exact h183 19 (Or.inr rfl)
    | succ t ih =>
      intro m M3 y2 hm hX3 hu3 hF3 hs3 hy2 hK3 hV3 h183
      have hT3 := hX3.T hT
      obtain ⟨es, hes⟩ : ∃ es, ds[m]? = some es := ⟨_, List.getElem?_eq_getElem (by omega)⟩
      have hgm : ds.getD m [] = es := by rw [List.getD_eq_getElem?_getD, hes]; rfl
      obtain ⟨p, p1, p2, p3, m1, m2, hm2⟩ := G_X.doc hT hX3 hlo hbt hes
      have hst := S_sum_take hes
      have hle := S_sum_le ds m
      have hpl := @G_pv_len n yb ds i a m
      have hi14 : g_i M3 so 14 = ds.length := by rw [hX3.2.2.2.1 14 (by decide) (by decide) (by decide) (by decide)]; exact h14
      obtain ⟨⟨⟨s1, s2, s3⟩, w2, hp, ⟨w4, w5, w6, w7⟩, ⟨q1, q2, q3⟩, ⟨u1, u2⟩, ⟨c1, c2⟩, -⟩, ⟨t1, t2, t3⟩, ⟨k1, k2, k3⟩, -⟩ := id hT3
      have hpvR : g_InR ((G_pv n yb ds i a m).length : Int) := ⟨by omega, by omega⟩
      refine s_X9_group_286 r1 r2 r3 r4 ⟨by omega, by omega⟩ r6 hqxR ⟨by omega, by omega⟩ hpvR ⟨by omega, by omega⟩ fun _ => ⟨s1, fun _ => ⟨gr, t2, _, k2, ⟨by omega, by omega⟩, ?_⟩, fun z => absurd (by omega) z⟩
      rw [(hK3 m (by omega)).2]
      have hps := @G_pv_s n yb ds i a m
      refine ⟨fun g0 => ⟨va, t3, b, s2, c_fi2 (d := d + 69) s3 (by decide) (hupx (hX3.req hlo1 hx)) ?_⟩, fun g0 => ⟨⟨by omega, by omega⟩, ?_⟩⟩
      rotate_left
      · rw [if_neg (by omega), List.append_nil] at hps
        have h9 := ih (m + 1) M3 y2 (by omega) hX3 hu3 hF3 hs3 (by omega) hK3 (by rw [hps]; exact hV3) h183
        rw [hps] at h9
        rwa [show ((m + 1 : Nat) : Int) = (m : Int) + 1 by omega] at h9
      intro _ _ _
      rw [if_pos (by omega), hgm] at hps
      refine ⟨be, w6, _, q1, ⟨by omega, by omega⟩, ?_⟩
      rw [p1]
      refine c_valG (n := n) (by omega) hT3 hlo1 hlo2 hu3 hF3 hs3 (hX3.req hlo1 ha) hef (by omega) p2 p3 hn m1 m2 (by rw [List.length_append]; omega) fun M4 v y3 hSX hu4 hF4 hs4 hy3l hb4 hso4 hv => ?_
      intro _ _ hvR
      have hX4 := hX3.tr hSX.g9
      have hT4 := hX4.T hT
      obtain ⟨⟨⟨s1, s2, s3⟩, w2, hp, ⟨w4, w5, w6, w7⟩, ⟨q1, q2, q3⟩, ⟨u1, u2⟩, ⟨c1, c2⟩, -⟩, ⟨t1, t2, t3⟩, ⟨k1, k2, k3⟩, ⟨-, -, -, -, -, -, n7, n8, n9⟩⟩ := id hT4
      obtain ⟨vn1, vn2, vn3, vn4, vn5, vn6, vn7, vn8, vn9⟩ := hT4.n va (Or.inr (Or.inr rfl))
      have hie : ∀ x, (x = ke ∨ x = gr ∨ x = va) → ∀ k, g_i M4 x k = g_i M3 x k := fun x hx k => by
        obtain ⟨z1, z2, z3, z4, z5, z6, z7, z8, z9⟩ := hT3.n x hx
        exact hSX.2.2.1 x z1 z2 z3 z4 z5 z6 z7 z9 k
      refine ⟨200, k3, ⟨by omega, by omega⟩, fun M41 e41 _ => ⟨⟨by omega, by omega⟩, ⟨by omega, by omega⟩, ?_⟩⟩
      have f5 : e_fr (fun x _ => x = va) M4 M41 := by rw [e41]; exact e_fr.wi _ rfl
      have hb5 : g_i M41 b = g_i M4 b := funext fun k => f5.2.1 b k fun z => vn2 z.symm
      have hso5 : ∀ k, g_i M41 so k = g_i M4 so k := fun k => f5.2.1 so k fun z => vn1 z.symm
      have h9 := ih (m + 1) M41 (y2 ++ y3) (by omega) (hX4.tr (G_X.e hT4 f5 fun x k z => Or.inr (Or.inr (Or.inr (Or.inr (Or.inr (Or.inr (Or.inl z)))))))) (hu4.kp f5.1 (f5.2.2 _ _) (fun k => f5.2.1 ou k fun z => vn6 z.symm) fun k _ _ => by rw [hb5]) (hF4.fr (fun k _ => hso5 k) fun k => f5.2.1 fr k fun z => vn9 z.symm) (by rw [← List.append_assoc]; exact hs4.kp f5.1 (f5.2.2 _ _) (fun k => f5.2.1 sc k fun z => vn7 z.symm) fun k _ _ => by rw [hb5]) (by rw [List.length_append]; omega) (fun j hj => ?_) (fun j o ho => ?_) fun k hk => by rw [hso5, hso4]; exact h183 k hk
      · rw [hps, List.length_append, List.length_singleton] at h9
        rwa [show ((m + 1 : Nat) : Int) = (m : Int) + 1 by omega, show (((G_pv n yb ds i a m).length + 1 : Nat) : Int) = ((G_pv n yb ds i a m).length : Int) + 1 by omega] at h9
      · obtain ⟨z1, z2⟩ := hK3 j hj
        rw [f5.2.1 ke j fun z => n8 z, f5.2.1 gr j fun z => n9 z, hie ke (Or.inl rfl), hie gr (Or.inr (Or.inl rfl)), hb5]
        exact ⟨z1.kp (Nat.le_refl _) (fun k k1 _ => hb4 k (by rw [List.length_append]; omega)) (by omega), z2⟩
      · rw [← List.append_assoc, hb5]
        rw [hps] at ho
        rcases Nat.lt_or_ge j (G_pv n yb ds i a m).length with g | g
        · rw [List.getElem?_append_left g] at ho
          rw [e41, g_i_wi, if_neg (by omega), hie va (Or.inr (Or.inr rfl))]
          exact (hV3 j o ho).kp (by rw [List.length_append (as := y0 ++ y2)]; omega) (fun k k1 _ => hb4 k k1) (by omega)
        · have hjl := (List.getElem?_eq_some_iff.mp ho).1
          rw [List.length_append, List.length_singleton] at hjl
          have hj : j = (G_pv n yb ds i a m).length := by omega
          rw [hj, List.getElem?_append_right (Nat.le_refl _), Nat.sub_self] at ho
          rw [e41, g_i_wi, if_pos ⟨rfl, by omega⟩, ← Option.some.inj ho]
          exact hv
  have h9 := hlp (ds.length - i) i M [] (by omega) hX hu hF (by rw [List.append_nil]; exact hs) (Nat.zero_le _) hK (by rw [G_pv_0]; exact fun j o ho => absurd ho (by simp)) fun _ _ => rfl
  rwa [G_pv_0] at h9
end GDOCS
