/-! STAGES: $lookup, the class: a document -/
section CJOIN
variable {so r b po pf pt tp tf tt ou sc be fr sv oa : Nat} {M0 M M1 : g_M} {lo c e : Int} {L : List Int}
theorem c_joinDoc {d iD : Nat} {Q : Int → g_M → Prop} {v1 v2 v3 v4 v5 fm dp J : Int} {nm : List Int} {es : List b_E} {os ds : List (List b_E)} {sh st : List (List Int)} {u : List Int} (hT : J_T so r b po pf pt tp tf tt ou sc be fr sv oa M0) (hP0 : k_P M0 r b c e L) (hL : L.length ≤ 100) (hlo : 82808 ≤ lo) (hlo2 : lo ≤ 123208) (ho : J_os b sv oa os M0) (hno : b_at (g_i M0 b) 0 [10, 0]) (hpa : S_Pa (g_i M0 b) b po pf pt 0 sh M0) (hpb : S_Pa (g_i M0 b) b tp tf tt 0 st M0) (h8 : sh.length ≤ 8) (h8t : st.length ≤ 8) (r1 : g_InR v1) (r2 : g_InR v2) (r3 : g_InR v3) (r4 : g_InR v4) (r5 : g_InR v5) (hbe : g_i M0 be iD = dp) (hiD : iD < 200) (hcount : (iD : Int) < g_i M0 so 14) (hnz : b_nz nm) (hnm : b_at (g_i M0 b) fm nm) (hfm : 0 ≤ fm) (hfm2 : fm + nm.length ≤ 2100) (hd : b_st (g_i M0 b) 163608 dp 16 3 [] (b_doc es)) (hav : ∀ k, dp ≤ k → k < dp + (b_el 3 [] (b_doc es)).length → ¬ (lo ≤ k ∧ k < lo + 40400)) (hl : (b_doc es).length ≤ 2000) (hg : X_gd 15 es) (hX : J_X so r b ou fr lo M0 M) (hP : k_P M r b c e L) (hD : S_D so b ou fr lo J ds u M) (hJ0 : 40000 ≤ J) (hJ1 : J ≤ 900000000) (hq : ∀ M1 u1, J_X so r b ou fr lo M0 M1 → k_P M1 r b c e L → S_D so b ou fr lo (J + 40400) (ds ++ [J_doc nm sh st os es]) u1 M1 → g_Run (d + 70) 169 85 [(0, .ref so), (1, g_n v1), (2, g_n v2), (3, g_n v3), (4, g_n v4), (5, g_n v5), (6, g_n fm), (7, g_n (fm + nm.length)), (8, g_n ((iD : Int) + 1))] [] M1 (g_qI Q)) : g_Run (d + 70) 169 85 [(0, .ref so), (1, g_n v1), (2, g_n v2), (3, g_n v3), (4, g_n v4), (5, g_n v5), (6, g_n fm), (7, g_n (fm + nm.length)), (8, g_n iD)] [] M (g_qI Q) := by
  have hdpR := hd.R (by decide)
  have hd4 := hd.2.2.2.1
  have hd5 := hd.2.2.2.2
  have hdl := b_doc_len es
  have hel := b_el_len 3 [] (b_doc es)
  rw [List.length_nil] at hel
  have hTM := hX.T hT hP0
  obtain ⟨⟨⟨s1, s2, s3⟩, w2, hpp, ⟨w4, w5, w6, w7⟩, ⟨q1, q2, q3⟩, ⟨u1, u2⟩, -⟩, -⟩ := id hTM
  have hdoc : ∀ {M2 : g_M}, J_X so r b ou fr lo M0 M2 → b_st (g_i M2 b) 246408 dp 16 3 [] (b_doc es) := fun h => ⟨b_at_keep hd.1 fun j j1 j2 => h.2.2.2 j (hav j j1 j2), hd.2.1, hd.2.2.1, hd.2.2.2.1, by omega⟩
  have hsts : ∀ {M2 : g_M}, J_X so r b ou fr lo M0 M2 → b_at (g_i M2 b) (dp + 6) (b_ser es) := fun {M2} h => by
    obtain ⟨D2, -, hk2, -⟩ := b_st.kids (e := (3, [], b_doc es)) (hdoc h) (Or.inl rfl)
    have hk3 : b_at (g_i M2 b) (dp + 6 + ((0 : Nat) : Int)) (b_ser (b_ch (b_doc es))) := hk2.1
    rwa [b_ch_doc hg.ok, show dp + 6 + ((0 : Nat) : Int) = dp + 6 by omega] at hk3
  have hnm2 : ∀ {M2 : g_M}, J_X so r b ou fr lo M0 M2 → b_at (g_i M2 b) fm nm := fun h => b_at_keep hnm fun j j1 j2 => h.2.2.2 j (by omega)
  have hbeM : g_i M be iD = dp := by
    rw [(hX.1.A hP0 hT.1.2.2.2.2.1.1 (fun _ z => by unfold k_n at z; omega) (J_4.nA hT.1 hT.1.2.2.2.2.1.1 (by omega) hT.1.2.2.2.2.1.2.2)).1]
    exact hbe
  obtain ⟨hu, hF, h18⟩ := hD
  refine s_X9_lookup_85 r1 r2 r3 r4 r5 ⟨by omega, by omega⟩ ⟨by omega, by omega⟩ ⟨by omega, by omega⟩ fun _ => ⟨s1, fun _ => ⟨be, w6, _, q1, ⟨by omega, by omega⟩, c_openDoc (d := d + 67) ⟨s1, s2, s3⟩ w4 hu fun r15 M12 f12 W12 hr15 => ?_⟩, fun z => absurd (by rw [hX.2.1 14 (by decide) (by decide) (by decide)]; exact hcount) z⟩
  rw [hbeM]
  intro _ _ hrR
  obtain ⟨x12, hP12, k12⟩ := J_X.w hTM.1 hP f12
  have hX12 := hX.tr x12
  have hT12 := hX12.T hT hP0
  obtain ⟨⟨⟨s1, s2, s3⟩, w2, hpp, ⟨w4, w5, w6, w7⟩, ⟨q1, q2, q3⟩, ⟨u1, u2⟩, -⟩, -⟩ := id hT12
  refine ⟨b, s2, b, s2, c_find2 (d := d + 67) s3 (by decide) s3 (by decide) (hnm2 hX12) hfm (by omega) (hdoc hX12) (Or.inl rfl) (by omega) ?_⟩
  have hLc : L_ch dp (3, [], b_doc es) = L_at (dp + 6) es := by
    show L_at (dp + 6 + ((0 : Nat) : Int)) (b_ch (b_doc es)) = _
    rw [b_ch_doc hg.ok, show dp + 6 + ((0 : Nat) : Int) = dp + 6 by omega]
  rw [hLc]
  intro _ _ hfR
  refine ⟨b, s2, c_nx2 (d := d + 69) s3 (by decide) (hdoc hX12) ?_⟩
  intro _ _ _
  refine ⟨⟨by omega, by omega⟩, ou, w4, b, s2, b, s2, c_fi2 (d := d + 69) s3 (by decide) (hdoc hX12) ?_⟩
  intro _ _ _
  have e43 : dp + 6 + (([] : List Int).length : Int) = dp + 6 := by rw [List.length_nil]; omega
  rw [e43]
  -- the two copies around the row
  have h170 : ∀ (v11 w0 : Int) (l t : List b_E), g_InR v11 → g_InR w0 → w0 = dp + 6 + (b_ser l).length → J_doc nm sh st os es = l ++ J_w nm sh st os es :: t → (v11 < 0 → t = [] ∧ es = l) → (¬ v11 < 0 → ∃ e0, es = l ++ e0 :: t ∧ v11 = w0) → g_Run (d + 70) 169 170 [(0, .ref so), (1, g_n v1), (2, g_n v2), (3, g_n v3), (4, g_n v4), (5, g_n v5), (6, g_n fm), (7, g_n (fm + nm.length)), (8, g_n iD), (9, g_n dp), (10, g_n r15), (11, g_n v11), (12, g_n (dp + (b_el 3 [] (b_doc es)).length - 1))] [g_n w0, g_n (dp + 6), .ref b, .ref ou] M12 (g_qI Q) := by
    intro v11 w0 l t h11 h0R hw0 hjd hneg hpos
    have hsl : ∃ x, b_ser es = b_ser l ++ x := by
      by_cases g : v11 < 0
      · exact ⟨[], by rw [(hneg g).2, List.append_nil]⟩
      · obtain ⟨e0, z, -⟩ := hpos g
        exact ⟨b_ser (e0 :: t), by rw [z, b_ser_app]⟩
    obtain ⟨x, hx⟩ := hsl
    have hxl := congrArg List.length hx
    rw [List.length_append] at hxl
    have hgood := J_doc_good (sh := sh) (st := st) hnz ho.2.1 hg
    -- behind the row
    have hend : ∀ (M14 : g_M) (z : Int) (P : g_M → Prop), J_X so r b ou fr lo M0 M14 → k_P M14 r b c e L → k_F (J_2 b ou) r M M14 → c_Wr ou b 246408 lo (lo + 40400) (u ++ [3, 0] ++ ([0, 0, 0, 0] ++ (b_ser l ++ b_el 4 nm (b_doc (J_row 0 (J_fd sh st os es)))))) M14 → b_at (g_i M14 b) z (b_ser t) → 0 ≤ z → z + (b_ser t).length = dp + (b_el 3 [] (b_doc es)).length - 1 → g_Call (d + 70) 80 [.ref ou, .ref b, g_n z, g_n (dp + (b_el 3 [] (b_doc es)).length - 1)] M14 (g_qV fun M29 => g_ext M14 M29 → g_ok M29 → g_Call (d + 70) 142 [.ref so, g_n r15] M29 (g_qV fun M32 => g_ext M29 M32 → g_ok M32 → g_InR ((iD : Int) + 1) ∧ g_Run (d + 70) 169 85 [(0, .ref so), (1, g_n v1), (2, g_n v2), (3, g_n v3), (4, g_n v4), (5, g_n v5), (6, g_n fm), (7, g_n (fm + nm.length)), (8, g_n ((iD : Int) + 1))] [] M32 (g_qI Q))) := by
      intro M14 z _ hX14 hP14 hk14 W14 hz hz0 hz1
      have hT14 := hX14.T hT hP0
      refine c_copyT (d := d + 69) W14 hT14.1.1.2.2 (by decide) hz hz0 (by omega) hz1 fun M29 f29 W29 => ?_
      intro _ _
      obtain ⟨x29, hP29, k29⟩ := J_X.w hT14.1 hP14 f29
      have hX29 := hX14.tr x29
      have hk29 := hk14.tr k29
      have hT29 := hX29.T hT hP0
      have iso := (hk29.O hP hTM.1.1.1 (by decide) fun z => z.elim (fun z => hTM.1.n1.1 z) fun z => hTM.1.n1.2.2.2.2.1 z).1
      have ifr := (hk29.A hP hTM.1.2.2.2.2.1.2.1 (fun _ z => by unfold k_n at z; omega) fun z => z.elim (fun z => hTM.1.n2.2.2.2.2.2.2 z.symm) fun z => hTM.1.n3.2.2.2.1.2.2 z.symm).1
      have hF29 : S_F so fr lo J ds M29 := hF.fr (fun k _ => by rw [iso]) fun k => by rw [ifr]
      have ew : u ++ [3, 0] ++ ([0, 0, 0, 0] ++ (b_ser l ++ b_el 4 nm (b_doc (J_row 0 (J_fd sh st os es))))) ++ b_ser t = u ++ [3, 0] ++ ([0, 0, 0, 0] ++ b_ser (J_doc nm sh st os es)) := by
        rw [hjd, b_ser_app]
        show _ = u ++ [3, 0] ++ ([0, 0, 0, 0] ++ (b_ser l ++ (b_el 4 nm (b_doc (J_row 0 (J_fd sh st os es))) ++ b_ser t)))
        simp
      rw [ew] at W29
      refine c_closeDocG (d := d + 1) (es := J_doc nm sh st os es) (J := J) hT29.1.1 hT29.1.2.2.2.1.1 hT29.1.2.2.2.1.2.2.2 hT29.1.2.2.2.2.1.2.1 (by omega) (by omega) (fun z => h18 (by rw [← iso]; exact z)) W29 hr15 (Or.inl rfl) hgood hF29 hJ0 (by omega) fun M32 u2 f32 hu2 hF2 h182 => ?_
      intro _ _
      obtain ⟨x32, hP32⟩ := J_X.s hT29.1 hP29 f32
      exact ⟨⟨by omega, by omega⟩, hq M32 u2 (hX29.tr x32) hP32 ⟨hu2, hF2, h182⟩⟩
    refine s_X9_lookup_170 r1 r2 r3 r4 r5 ⟨by omega, by omega⟩ ⟨by omega, by omega⟩ ⟨by omega, by omega⟩ hdpR hrR h11 ⟨by omega, by omega⟩ h0R ⟨by omega, by omega⟩ fun _ => ⟨u1, ?_⟩
    have hcl := (b_app.mp (by have h9 := hsts hX12; rwa [hx] at h9)).1
    refine c_copyT (d := d + 69) W12 s3 (by decide) hcl (by omega) (by omega) hw0.symm fun M2 f2 W2 => ?_
    intro _ _
    obtain ⟨x2, hP2, k2⟩ := J_X.w hT12.1 hP12 f2
    have hX2 := hX12.tr x2
    have hk2 := k12.tr k2
    have hT2 := hX2.T hT hP0
    obtain ⟨⟨⟨s1, s2, s3⟩, w2, hpp, ⟨w4, w5, w6, w7⟩, ⟨q1, q2, q3⟩, ⟨u1, u2⟩, -⟩, -⟩ := id hT2
    refine ⟨s1, ou, w4, b, s2, u1, c_headOf (d := d + 68) W2 (by decide) (by decide) s3 (by decide) (fun M3 f3 => hnm2 (hX2.tr (J_X.w hT2.1 hP2 f3).1)) hfm (by omega) fun M11 f11 W11 => ?_⟩
    intro _ _
    obtain ⟨x11, hP11, k11⟩ := J_X.w hT2.1 hP2 f11
    have hX11 := hX2.tr x11
    have hk11 := hk2.tr k11
    refine c_writeFound (d := d + 19) hT hP0 hL hlo hlo2 ho hno hpa hpb h8 h8t hd hav hl hX11 hP11 W11 fun M14 hX14 k14 hP14 W14 => ?_
    intro _ _
    have hk14 := hk11.tr k14
    have hT14 := hX14.T hT hP0
    obtain ⟨⟨⟨s1, s2, s3⟩, w2, hpp, ⟨w4, w5, w6, w7⟩, ⟨q1, q2, q3⟩, ⟨u1, u2⟩, -⟩, -⟩ := id hT14
    have ew : u ++ [3, 0] ++ [0, 0, 0, 0] ++ b_ser l ++ (4 :: (nm ++ [0])) ++ b_doc (J_row 0 (J_fd sh st os es)) = u ++ [3, 0] ++ ([0, 0, 0, 0] ++ (b_ser l ++ b_el 4 nm (b_doc (J_row 0 (J_fd sh st os es))))) := by
      unfold b_el
      simp
    rw [ew] at W14
    refine ⟨ou, w4, b, s2, fun g => ⟨u1, ?_⟩, fun g => ⟨b, s2, ?_⟩⟩
    · obtain ⟨g1, g2⟩ := hneg g
      exact hend M14 _ (fun _ => True) hX14 hP14 hk14 W14 (by rw [g1]; exact b_nil _ _) (by omega) (by rw [g1]; show _ + ((0 : Nat) : Int) = _; omega)
    · obtain ⟨e0, g1, g2⟩ := hpos g
      have h9 := hsts hX14
      rw [g1, b_ser_app] at h9
      have h10 := (b_app.mp h9).2
      rw [← hw0] at h10
      have h11' : b_at (g_i M14 b) w0 (b_el e0.1 e0.2.1 e0.2.2 ++ b_ser t) := h10
      obtain ⟨h12, h13⟩ := b_app.mp h11'
      have hge := hg e0 (by rw [g1]; simp)
      have hlen := congrArg List.length g1
      have hsl := congrArg (fun z => (b_ser z).length) g1
      simp only [b_ser_app, List.length_append, b_ser_len] at hsl
      rw [g2]
      refine c_nx2 (d := d + 69) (D := 15) s3 (by decide) ⟨h12, hge.1, hge.2, by omega, by omega⟩ ?_
      intro _ _ _
      exact ⟨u1, hend M14 _ (fun _ => True) hX14 hP14 hk14 W14 h13 (by omega) (by omega)⟩
  obtain ⟨hnn, hss⟩ := L_opt_fn (x := nm) (es := es) (dp + 6)
  rcases hf0 : L_fn nm es with _ | e0
  · have hlo' : L_opt (none : Option (Int × b_E)) = -1 := rfl
    rw [hnn hf0, hlo']
    refine ⟨fun _ => h170 (-1) _ es [] ⟨by decide, by decide⟩ ⟨by omega, by omega⟩ (by omega) ?_ (fun _ => ⟨rfl, rfl⟩) (fun g => absurd (by decide) g), fun g => absurd (by decide) g⟩
    unfold J_doc
    rw [J_put_n hf0]
  · obtain ⟨l, t, l1, l2, l3, l4, l5⟩ := hss e0 hf0
    rw [l5] at hfR ⊢
    refine ⟨fun g => absurd g (by omega), fun _ => h170 _ _ l t hfR hfR rfl ?_ (fun g => absurd g (by omega)) fun _ => ⟨e0, l1, rfl⟩⟩
    unfold J_doc
    rw [J_put_s hf0 l2]
end CJOIN
