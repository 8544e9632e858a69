/-! STAGES: $lookup, the class: the row of a document -/
noncomputable def J_ls (dp : Int) (es : List b_E) (st : List (List Int)) : List (Option (Int × b_E)) := L_go 16 dp (3, [], b_doc es) st
theorem J_ls_v (dp : Int) (es : List b_E) (st : List (List Int)) : (J_ls dp es st).map L_nop = O_lv es st := L_go_v _ _ _ _
section JLS
variable {B : Int → Int} {n dp : Int} {es : List b_E} {st : List (List Int)}
theorem J_ls_len (hd : b_st B n dp 16 3 [] (b_doc es)) (hl : (b_doc es).length ≤ 2000) (h8 : st.length ≤ 8) : (J_ls dp es st).length ≤ 3301 ∧ ((J_ls dp es st).flatMap L_its).length ≤ 10500 ∧ (J_pl 0 (J_ls dp es st)).length ≤ 13810 := by
  obtain ⟨h1, h2⟩ := L_go_its (st := st) (e := (3, [], b_doc es)) hd rfl (by show (b_el 3 [] (b_doc es)).length ≤ 2100; rw [b_el_len, List.length_nil]; omega) h8
  have h3 := J_pl_len 0 (J_ls dp es st)
  unfold J_ls at h3 ⊢
  exact ⟨h1, h2, by omega⟩
theorem J_ls_st (hd : b_st B n dp 16 3 [] (b_doc es)) (hl : (b_doc es).length ≤ 2000) : ∀ y, some y ∈ J_ls dp es st → b_st B n y.1 16 y.2.1 y.2.2.1 y.2.2.2 ∧ y.2.2.2.length ≤ 2000 := fun y hy => by
  obtain ⟨k1, k2⟩ := L_go_st 16 (e := (3, [], b_doc es)) hd y hy
  have k3 : y.2.2.2.length ≤ (b_doc es).length := k2
  exact ⟨k1, by omega⟩
end JLS
section CFOUND
variable {so r b po pf pt tp tf tt ou sc be fr sv oa : Nat} {M0 M M1 : g_M} {lo c e : Int} {L : List Int}
/-- the values of a path in a document come on the pile -/
theorem c_valsOn {d o f t : Nat} {Q : g_M → g_M → Prop} {dp : Int} {es : List b_E} {st : List (List Int)} {L : List Int} (hP : k_P M r b c e L) (hA : g_A M b 0 246408) (hW : p_W M o f t b 246408 0 st) (h8 : st.length ≤ 8) (hd : b_st (g_i M b) 246408 dp 16 3 [] (b_doc es)) (hl : (b_doc es).length ≤ 2000) (hL : L.length ≤ 14100) (hr : g_r M so 0 = some r) (hso : g_O M so 9) (h : ∀ M1 M2, k_F k_0 r M M2 → k_P M2 r b c e (L ++ (J_pl 0 (J_ls dp es st)).map Prod.fst) → Q M1 M2) : g_Call (d + 20) 94 [.ref o, .ref r, g_n dp, g_n 0, g_n 0] M (g_qV fun M1 => g_ext M M1 → g_ok M1 → ∃ b13, g_r M1 so 0 = some b13 ∧ g_O M1 b13 7 ∧ g_Call (d + 20) 107 [.ref b13, g_n L.length, g_n 0] M1 (g_qV (Q M1))) := by
  obtain ⟨hn1, hn2, hn3⟩ := J_ls_len hd hl h8
  have hstd := J_ls_st (st := st) hd hl
  unfold J_ls at hn1 hn2 hn3
  refine c_walk 16 (d := d) (z := (dp, 3, [], b_doc es)) (st := st) (s := 0) hP hA (by decide) hW hd (by show (b_doc es).length ≤ _; omega) (by omega) (by decide) (by decide) (by show L.length + (L_go 16 dp (3, [], b_doc es) st).length ≤ _; omega) fun M1 f1 hP1 => ?_
  intro _ _
  have hb1 : g_i M1 b = g_i M b := (f1.A hP hA (fun g => absurd g (by decide)) id).1
  have hr1 : ∀ k, g_r M1 so k = g_r M so k := fun k => by rw [(f1.O hP hso (by decide) id).2]
  refine ⟨r, by rw [hr1]; exact hr, hP1.1, c_addItems (d := d + 16) (n := 246408) (ls := J_ls dp es st) hP1 (hA.up f1.1) (by decide) ⟨by decide, by decide⟩ (fun y hy => ?_) (by unfold J_ls; omega) fun M2 f2 hP2 => ?_⟩
  · obtain ⟨k1, k2⟩ := hstd y hy
    rw [hb1]
    exact ⟨16, k1, by omega⟩
  · rw [J_pl_map] at hP2
    exact h M1 M2 (f1.tr f2) hP2
theorem c_writeFound {d : Nat} {Q : g_M → Prop} {dp : Int} {es : List b_E} {os : List (List b_E)} {sh st : List (List Int)} {u : List Int} (hT : J_T so r b po pf pt tp tf tt ou sc be fr sv oa M0) (hP0 : k_P M0 r b c e L) (hL : L.length ≤ 100) (hlo : 82808 ≤ lo) (hlo2 : lo ≤ 123208) (ho : J_os b sv oa os M0) (hno : b_at (g_i M0 b) 0 [10, 0]) (hpa : S_Pa (g_i M0 b) b po pf pt 0 sh M0) (hpb : S_Pa (g_i M0 b) b tp tf tt 0 st M0) (h8 : sh.length ≤ 8) (h8t : st.length ≤ 8) (hd : b_st (g_i M0 b) 163608 dp 16 3 [] (b_doc es)) (hav : ∀ k, dp ≤ k → k < dp + (b_el 3 [] (b_doc es)).length → ¬ (lo ≤ k ∧ k < lo + 40400)) (hl : (b_doc es).length ≤ 2000) (hX : J_X so r b ou fr lo M0 M) (hP : k_P M r b c e L) (hW : c_Wr ou b 246408 lo (lo + 40400) u M) (hq : ∀ M1, J_X so r b ou fr lo M0 M1 → k_F (J_2 b ou) r M M1 → k_P M1 r b c e L → c_Wr ou b 246408 lo (lo + 40400) (u ++ b_doc (J_row 0 (J_fd sh st os es))) M1 → Q M1) : g_Call (d + 51) 170 [.ref so, g_n dp] M (g_qV Q) := by
  have hS0 := hT.1
  have hp0 := hS0.2.2.1
  have hp1 := hT.2.2.1.2.1
  have hdpR := hd.R (by decide)
  have hTM := hX.T hT hP0
  obtain ⟨⟨⟨s1, s2, s3⟩, w2, hpp, ⟨w4, w5, w6, w7⟩, -, ⟨u1, u2⟩, -⟩, t1, ⟨t2, t3, -⟩, ⟨t5, t6, t7, t8, -⟩⟩ := id hTM
  have hl200 := ho.2.1.1
  -- a document under the frame
  have hdoc : ∀ {M2 : g_M}, J_X so r b ou fr lo M0 M2 → b_st (g_i M2 b) 246408 dp 16 3 [] (b_doc es) := fun h => ⟨b_at_keep hd.1 fun j j1 j2 => h.2.2.2 j (hav j j1 j2), hd.2.1, hd.2.2.1, hd.2.2.2.1, by have := hd.2.2.2.2; omega⟩
  have hno2 : ∀ {M2 : g_M}, J_X so r b ou fr lo M0 M2 → b_at (g_i M2 b) 0 [10, 0] := fun h => b_at_keep hno fun j j1 j2 => h.2.2.2 j (by have : ([10, 0] : List Int).length = 2 := rfl; omega)
  refine m_X9_writeFound hdpR fun _ => ⟨s1, r, t1, hP.1, po, w2, r, t1, hpp.1, ?_⟩
  rw [hP.top]
  obtain ⟨A, hA⟩ : ∃ A, A = J_pl 0 (J_ls dp es sh) := ⟨_, rfl⟩
  have hln : A.length ≤ 13810 := by rw [hA]; exact (J_ls_len (hdoc hX) hl h8).2.2
  refine c_valsOn (d := d + 30) (es := es) (st := sh) hP s3 (hX.W hT hP0 hlo hp0 hpa) h8 (hdoc hX) hl (by omega) t1 s1 fun _ M2 f2 hP2 => ?_
  intro _ _
  rw [← hA] at hP2
  have hX2 := hX.tr (J_X.k (lo := lo) hTM.1 hP f2)
  have hT2 := hX2.T hT hP0
  have hW2 := hW.kk hP f2
  have hk2 : k_F (J_2 b ou) r M M2 := f2.up0
  obtain ⟨⟨⟨s1, s2, s3⟩, w2, hpp, ⟨w4, w5, w6, w7⟩, -, ⟨u1, u2⟩, -⟩, t1, ⟨t2, t3, -⟩, ⟨t5, t6, t7, t8, -⟩⟩ := id hT2
  refine ⟨r, t1, hP2.1, ou, w4, u1, ?_⟩
  have htop2 := hP2.top
  rw [List.length_append, List.length_map, show ((L.length + A.length : Nat) : Int) = (L.length : Int) + A.length by omega] at htop2
  rw [htop2]
  refine c_open (d := d + 48) hW2 fun r28 M25 f25 W25 hr28 => ?_
  intro _ _ hrR
  obtain ⟨x25, hP25, k25⟩ := J_X.w hT2.1 hP2 f25
  -- the values of the document stay
  have hAs : ∀ {M3 : g_M}, J_X so r b ou fr lo M0 M3 → ∀ z ∈ A, b_st (g_i M3 b) 246408 z.1 20 z.2.1 z.2.2.1 z.2.2.2 ∧ z.2.2.2.length ≤ 199000 := by
    intro M3 h3 z hz
    rw [hA] at hz
    obtain ⟨k1, k2⟩ := J_pl_st (q := 0) (n := 246408) (J_ls_st (hdoc h3) hl) (hno2 h3) (by decide) (by decide) z hz
    exact ⟨k1, by omega⟩
  have hlp : ∀ (o2 o1 : List (List b_E)) (M3 : g_M), os = o1 ++ o2 → J_X so r b ou fr lo M0 M3 → k_F (J_2 b ou) r M M3 → k_P M3 r b c e (L ++ A.map Prod.fst) → c_Wr ou b 246408 lo (lo + 40400) (u ++ ([0, 0, 0, 0] ++ b_ser (J_row 0 (J_fd sh st o1 es)))) M3 → g_Run (d + 50) 170 54 [(0, .ref so), (1, g_n dp), (2, g_n L.length), (3, g_n ((L.length : Int) + A.length)), (4, g_n r28), (5, g_n (J_fd sh st o1 es).length), (6, g_n o1.length)] [] M3 (g_qV Q) := by
    intro o2
    induction o2 with
    | nil =>
      intro o1 M3 k1 hX3 hk3 hP3 hW3
      rw [List.append_nil] at k1
      subst k1
      have hT3 := hX3.T hT hP0
      have ho3 := hX3.os hT hP0 hlo ho
      have hfl := List.length_filter_le (J_hb sh st es) os
      have hfR : g_InR ((J_fd sh st os es).length : Int) := by unfold J_fd; exact ⟨by omega, by omega⟩
      obtain ⟨⟨⟨s1, s2, s3⟩, w2, hpp, ⟨w4, w5, w6, w7⟩, -, ⟨u1, u2⟩, -⟩, t1, ⟨t2, t3, -⟩, ⟨t5, t6, t7, t8, -⟩⟩ := id hT3
      refine s_X9_writeFound_54 hdpR ⟨by omega, by omega⟩ ⟨by omega, by omega⟩ hrR hfR ⟨by omega, by omega⟩ fun _ => ⟨s1, sv, t5, t6, fun z => absurd z (by rw [ho3.1]; omega), fun _ => ⟨ou, w4, u1, c_close (d := d + 48) hW3 hr28 fun M8 f8 W8 => ?_⟩⟩
      intro _ _
      obtain ⟨x8, hP8, k8⟩ := J_X.w hT3.1 hP3 f8
      have hX8 := hX3.tr x8
      have hT8 := hX8.T hT hP0
      refine ⟨r, hT8.2.1, hP8.1, ?_⟩
      rintro M14 rfl _
      have hP14 := hP8.cut
      have f14 : k_F k_0 r M8 (g_wi M8 r 2 L.length) := k_F.top _ _
      rw [← b_doc_app] at W8
      exact hq _ (hX8.tr (J_X.k hT8.1 hP8 f14)) ((hk3.tr k8).tr f14.up0) hP14 (W8.kk hP8 f14)
    | cons od o2 ih =>
      intro o1 M3 k1 hX3 hk3 hP3 hW3
      have hol := congrArg List.length k1
      rw [List.length_append, List.length_cons] at hol
      have hfl := List.length_filter_le (J_hb sh st es) o1
      have hfR : g_InR ((J_fd sh st o1 es).length : Int) := by unfold J_fd; exact ⟨by omega, by omega⟩
      have hf1 : (J_fd sh st o1 es).length ≤ o1.length := hfl
      have hT3 := hX3.T hT hP0
      have ho3 := hX3.os hT hP0 hlo ho
      obtain ⟨p, p1, p2⟩ := ho3.2.2 o1.length od (by rw [k1, List.getElem?_append_right (Nat.le_refl _), Nat.sub_self]; rfl)
      have hodl := (ho.2.1.2.2 od (by rw [k1]; simp)).1
      obtain ⟨⟨⟨s1, s2, s3⟩, w2, hpp, ⟨w4, w5, w6, w7⟩, -, ⟨u1, u2⟩, -⟩, t1, ⟨t2, t3, -⟩, ⟨t5, t6, t7, t8, -⟩⟩ := id hT3
      have p2' : b_st (g_i M3 b) 246408 p 16 3 [] (b_doc od) := ⟨p2.1, p2.2.1, p2.2.2.1, p2.2.2.2.1, by have := p2.2.2.2.2; omega⟩
      obtain ⟨A2, hA2⟩ : ∃ A2, A2 = J_pl 0 (J_ls p od st) := ⟨_, rfl⟩
      have hln2 : A2.length ≤ 13810 := by rw [hA2]; exact (J_ls_len p2' hodl h8t).2.2
      have hsn : J_fd sh st (o1 ++ [od]) es = J_fd sh st o1 es ++ if J_hb sh st es od = true then [od] else [] := by
        unfold J_fd
        rw [List.filter_append, List.filter_cons, List.filter_nil]
      -- the next one
      have hnext : ∀ (M5 : g_M) (w5 : Int), J_X so r b ou fr lo M0 M5 → k_F (J_2 b ou) r M M5 → k_P M5 r b c e (L ++ (A.map Prod.fst ++ A2.map Prod.fst)) → c_Wr ou b 246408 lo (lo + 40400) (u ++ ([0, 0, 0, 0] ++ b_ser (J_row 0 (J_fd sh st (o1 ++ [od]) es)))) M5 → w5 = (J_fd sh st (o1 ++ [od]) es).length → ∃ b66, g_r M5 so 0 = some b66 ∧ g_O M5 b66 7 ∧ ∀ M69, M69 = g_wi M5 b66 2 ((L.length : Int) + A.length) → g_ok M69 → g_InR ((o1.length : Int) + 1) ∧ g_Run (d + 50) 170 54 [(0, .ref so), (1, g_n dp), (2, g_n L.length), (3, g_n ((L.length : Int) + A.length)), (4, g_n r28), (5, g_n w5), (6, g_n ((o1.length : Int) + 1))] [] M69 (g_qV Q) := by
        intro M5 w5 k5 hk5 hP5 hW5 hw5
        have hT5 := k5.T hT hP0
        refine ⟨r, hT5.2.1, hP5.1, ?_⟩
        rintro M69 rfl _
        rw [← List.append_assoc] at hP5
        have hP9 := hP5.cut
        rw [List.length_append, List.length_map, show ((L.length + A.length : Nat) : Int) = (L.length : Int) + A.length by omega] at hP9
        have f9 : k_F k_0 r M5 (g_wi M5 r 2 ((L.length : Int) + A.length)) := k_F.top _ _
        refine ⟨⟨by omega, by omega⟩, ?_⟩
        have h9 := ih (o1 ++ [od]) _ (by rw [k1]; simp) (k5.tr (J_X.k hT5.1 hP5 f9)) (hk5.tr f9.up0) hP9 (hW5.kk hP5 f9)
        rwa [List.length_append, List.length_singleton, ← hw5, show ((o1.length + 1 : Nat) : Int) = (o1.length : Int) + 1 by omega] at h9
      refine s_X9_writeFound_54 hdpR ⟨by omega, by omega⟩ ⟨by omega, by omega⟩ hrR hfR ⟨by omega, by omega⟩ fun _ => ⟨s1, sv, t5, t6, fun _ => ⟨sv, t5, t6, oa, t7, _, t8, ⟨by decide, by decide⟩, fun _ => ⟨tp, t2, r, t1, sv, t5, t6, oa, t7, _, t8, ⟨by omega, by omega⟩, t3.1, ?_⟩, fun z => absurd (by omega) z⟩, fun z => absurd (by rw [ho3.1]; omega) z⟩
      rw [p1]
      have hlen2 : ((L ++ A.map Prod.fst).length : Int) = (L.length : Int) + A.length := by rw [List.length_append, List.length_map]; omega
      rw [← hlen2]
      refine c_valsOn (d := d + 30) (so := so) (es := od) (st := st) (L := L ++ A.map Prod.fst) hP3 s3 (hX3.W hT hP0 hlo hp1 hpb) h8t p2' hodl (by rw [List.length_append, List.length_map]; omega) t1 s1 fun _ M4 f4 hP4 => ?_
      intro _ _
      rw [hlen2]
      rw [← hA2, List.append_assoc] at hP4
      have hX4 := hX3.tr (J_X.k (lo := lo) hT3.1 hP3 f4)
      have hk4 := hk3.tr (f4.up0 (T := J_2 b ou))
      have hT4 := hX4.T hT hP0
      have hW4 := hW3.kk hP3 f4
      obtain ⟨⟨⟨s1, s2, s3⟩, w2, hpp, ⟨w4, w5, w6, w7⟩, -, ⟨u1, u2⟩, -⟩, t1, ⟨t2, t3, -⟩, ⟨t5, t6, t7, t8, -⟩⟩ := id hT4
      have hib4 : g_i M4 b = g_i M3 b := (f4.A hP3 hT3.1.1.2.2 (fun z => absurd z (by decide)) id).1
      have hA2s : ∀ z ∈ A2, b_st (g_i M4 b) 246408 z.1 20 z.2.1 z.2.2.1 z.2.2.2 := by
        intro z hz
        rw [hA2] at hz
        exact (J_pl_st (q := 0) (n := 246408) (J_ls_st (by rw [hib4]; exact p2') hodl) (hno2 hX4) (by decide) (by decide) z hz).1
      have hhas : (∃ x ∈ A, ∃ y ∈ A2, J_same x y) ↔ J_has sh st es od := by rw [hA, hA2]; exact J_pl_has (J_ls_v dp es sh) (J_ls_v p od st)
      refine c_someSame (d := d + 4) s1 t1 s2 s3 hP4 (by omega) (hAs hX4) hA2s (fun hh => ?_) fun hh => ?_
      · -- some are the same
        intro _ _ _
        have hb := J_hb_t (hhas.mp hh)
        rw [if_pos hb] at hsn
        refine ⟨fun z => absurd z (by decide), fun _ => ⟨ou, w4, u1, c_item (d := d + 48) hW4 (by decide) (by decide) (by omega) fun M7 f7 W7 => ?_⟩⟩
        intro _ _
        obtain ⟨x7, hP7, k7⟩ := J_X.w hT4.1 hP4 f7
        have hX7 := hX4.tr x7
        have hk7 := hk4.tr k7
        have hT7 := hX7.T hT hP0
        have ho7 := hX7.os hT hP0 hlo ho
        obtain ⟨q, q1, q2⟩ := ho7.2.2 o1.length od (by rw [k1, List.getElem?_append_right (Nat.le_refl _), Nat.sub_self]; rfl)
        obtain ⟨⟨⟨s1, s2, s3⟩, w2, hpp, ⟨w4, w5, w6, w7⟩, -, ⟨u1, u2⟩, -⟩, t1, ⟨t2, t3, -⟩, ⟨t5, t6, t7, t8, -⟩⟩ := id hT7
        refine ⟨ou, w4, b, s2, sv, t5, t6, oa, t7, _, t8, ⟨by omega, by omega⟩, u1, ?_⟩
        rw [q1]
        refine c_outVal (d := d + 48) (D := 16) (nm := []) (k := 3) (vb := b_doc od) W7 s3 (by decide) ⟨q2.1, q2.2.1, q2.2.2.1, q2.2.2.2.1, by have := q2.2.2.2.2; omega⟩ fun M9 f9 W9 => ?_
        intro _ _
        obtain ⟨x9, hP9, k9⟩ := J_X.w hT7.1 hP7 f9
        refine ⟨⟨by omega, by omega⟩, hnext M9 _ (hX7.tr x9) (hk7.tr k9) hP9 ?_ (by rw [hsn, List.length_append, List.length_singleton]; omega)⟩
        rw [hsn, J_row_snoc, b_ser_app, b_ser_1, Nat.zero_add]
        have ew : u ++ ([0, 0, 0, 0] ++ b_ser (J_row 0 (J_fd sh st o1 es))) ++ (3 :: (b_dg (J_fd sh st o1 es).length ++ [0])) ++ b_doc od = u ++ ([0, 0, 0, 0] ++ (b_ser (J_row 0 (J_fd sh st o1 es)) ++ b_el 3 (b_dg (J_fd sh st o1 es).length) (b_doc od))) := by
          unfold b_el
          simp
        rw [ew] at W9
        exact W9
      · intro _ _ _
        have hb := J_hb_f fun z => by
          obtain ⟨x, hx, y, hy, hxy⟩ := hhas.mpr z
          exact hh x hx y hy hxy
        rw [hb, if_neg (by decide), List.append_nil] at hsn
        exact ⟨fun _ => hnext M4 _ hX4 hk4 hP4 (by rw [hsn]; exact hW4) (by rw [hsn]), fun z => absurd rfl z⟩
  exact hlp os [] M25 rfl (hX2.tr x25) (hk2.tr k25) hP25 (by
    have : b_ser (J_row 0 (J_fd sh st [] es)) = [] := rfl
    rw [this, List.append_nil]
    exact W25)
end CFOUND
