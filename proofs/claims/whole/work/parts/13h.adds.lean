/-! CHANGES: the class adds, and unsets -/
section ADDS
variable {d o b po pf pt ch wo : Nat} {F : Int → Int} {M M1 : g_M} {c : List h_F} {e p : b_E} {es l t mid mid2 : List b_E} {Q : Int → g_M → Prop}
/-- an element has another value: splice, kind and value -/
theorem X_nv_len {sm : Bool} : (X_nv e p sm).2.1 = e.2.1 ∧ (X_nv e p sm).2.2.length = (if sm = true then 4 else 8) ∧ (X_nv e p sm).1 = if sm = true then 16 else 18 := by
  cases sm
  · exact ⟨rfl, rfl, rfl⟩
  · exact ⟨rfl, rfl, rfl⟩
theorem c_add {pp : Int} {D Dp : Nat} (hSt : X_St F o b po pf pt ch wo c e M) (h1 : b_nz e.2.1) (h2 : b_gv D e.1 e.2.2) (hp : b_st F 100000 pp Dp p.1 p.2.1 p.2.2) (he : e.1 = 16 ∨ e.1 = 18) (hpk : p.1 = 16 ∨ p.1 = 18) (hmx : h_hs (b_el e.1 e.2.1 e.2.2).length c + 8 ≤ 15000) (hq : ∀ M1, e_fr (X_SL o b wo) M M1 → ((X_inc e p).1 = 0 → X_St F o b po pf pt ch wo c (X_inc e p).2 M1 ∧ g_i M1 o 6 = (if (X_inc e p).2 = e then g_i M o 6 else 1)) → Q (X_inc e p).1 M1) : g_Call (d + 4) 33 [.ref o, g_n pp, g_n (h_at 163608 c)] M (g_qI Q) := by
  have hs := hSt.st h1 h2 (by omega)
  have hSh := hSt.1
  obtain ⟨hO, hF, hok, hln, hZ, h5, h4, hch⟩ := id hSh
  obtain ⟨⟨o1, o2, o3, o4, o5⟩, hP, och, ob, ow, owb⟩ := id hO
  have hp' : b_st (g_i M b) 246408 pp Dp p.1 p.2.1 p.2.2 := hp.of hF
  obtain ⟨pv1, pv2, pv3, pv4⟩ := hp'.val
  obtain ⟨sv1, sv2, sv3, sv4⟩ := hs.val
  have hpl := b_el_len p.1 p.2.1 p.2.2
  have hel := b_el_len e.1 e.2.1 e.2.2
  have hin := h_at_in (b_el e.1 e.2.1 e.2.2).length c 163608
  have hge := h_at_ge c 163608
  have hvs := b_gv_vs h2
  have hel48 : e.2.2.length = if e.1 = 16 then 4 else 8 := by
    rcases hvs with ⟨g1, g2⟩ | ⟨g1, g2⟩ | ⟨g1, -⟩ | ⟨g1, -⟩ | ⟨g1, -⟩ | ⟨g1, -⟩
    · rw [g2, if_pos g1]
    · rw [g2, if_neg (by omega)]
    all_goals omega
  have hX : X_inc e p = if g_lc ((v_num e.1 e.2.2 ^^^ (v_num e.1 e.2.2 + v_num p.1 p.2.2)) &&& (v_num p.1 p.2.2 ^^^ (v_num e.1 e.2.2 + v_num p.1 p.2.2))) 0 < 0 then (8, e)
    else if e.1 = 16 ∧ p.1 = 16 ∧ g_lc (v_num e.1 e.2.2 + v_num p.1 p.2.2) (Int64.ofInt ((v_num e.1 e.2.2 + v_num p.1 p.2.2).toInt32.toInt)) = 0 then (0, X_nv e p true)
    else (0, X_nv e p false) := by
    unfold X_inc X_nv
    rw [if_pos he]
    rfl
  refine m_X1_add (hp.R (by decide)) (hs.R (by decide)) fun hgk => ⟨o1, b, o2, c_wh ob (by decide) hs he fun _ _ => ⟨b, o2, c_wh ob (by decide) hp' hpk fun _ _ => ⟨fun g => ?_, fun g => ?_⟩⟩⟩
  · have hx : X_inc e p = (8, e) := by rw [hX, if_pos g]
    rw [hx] at hq
    exact hq M (e_fr.rf _ _) fun z => absurd z (show ¬ (8 : Int) = 0 by decide)
  · rw [if_neg g] at hX
    have key : ∀ sm : Bool, (sm = true ↔ e.1 = 16 ∧ p.1 = 16 ∧ g_lc (v_num e.1 e.2.2 + v_num p.1 p.2.2) (Int64.ofInt ((v_num e.1 e.2.2 + v_num p.1 p.2.2).toInt32.toInt)) = 0) → g_Run (d + 3) 33 94 [(0, .ref o), (1, g_n pp), (2, g_n (h_at 163608 c)), (3, .long (v_num e.1 e.2.2)), (5, .long (v_num p.1 p.2.2)), (7, .long (v_num e.1 e.2.2 + v_num p.1 p.2.2)), (9, g_n (if sm = true then 1 else 0))] [g_n (if sm = true then 16 else 18)] M (g_qI Q) := by
      intro sm hsm
      have hX2 : X_inc e p = (0, X_nv e p sm) := by
        cases sm
        · rw [hX, if_neg fun z => absurd (hsm.mpr z) (by decide)]
        · rw [hX, if_pos (hsm.mp rfl)]
      have hsame := X_nv_same (p := p) (sm := sm) he hvs (b_at_B (fun q => hgk.byte ob q) sv1) fun z => ⟨(hsm.mp z).1, (hsm.mp z).2.2⟩
      rw [hX2] at hq
      obtain ⟨n1, n2, n3⟩ := X_nv_len (e := e) (p := p) (sm := sm)
      have kR : g_InR (if sm = true then 16 else 18) := by cases sm <;> exact ⟨by decide, by decide⟩
      have h116 : ¬ X_nv e p sm = e → g_Run (d + 3) 33 116 [(0, .ref o), (1, g_n pp), (2, g_n (h_at 163608 c)), (3, .long (v_num e.1 e.2.2)), (5, .long (v_num p.1 p.2.2)), (7, .long (v_num e.1 e.2.2 + v_num p.1 p.2.2)), (9, g_n (if sm = true then 1 else 0)), (10, g_n (if sm = true then 16 else 18))] [] M (g_qI Q) := by
        intro hne
        have hb : ((b_el (X_nv e p sm).1 (X_nv e p sm).2.1 (X_nv e p sm).2.2).length : Int) = e.2.1.length + (if sm = true then 4 else 8 : Nat) + 2 := by
          rw [b_el_len, n1, n2]
          omega
        have key2 : ∀ w0 w1 : Int, w0 = (if sm = true then 4 else 8 : Nat) → w1 = e.2.2.length → g_Run (d + 3) 33 153 [(0, .ref o), (1, g_n pp), (2, g_n (h_at 163608 c)), (3, .long (v_num e.1 e.2.2)), (5, .long (v_num p.1 p.2.2)), (7, .long (v_num e.1 e.2.2 + v_num p.1 p.2.2)), (9, g_n (if sm = true then 1 else 0)), (10, g_n (if sm = true then 16 else 18))] [g_n w0, g_n w1, g_n (h_at 163608 c + 2 + e.2.1.length), .ref o] M (g_qI Q) := by
          intro w0 w1 hw0 hw1
          have hw8 : (if sm = true then 4 else 8 : Nat) ≤ 8 := by cases sm <;> decide
          have g2 := h_hs_add 0 (b_el (X_nv e p sm).1 (X_nv e p sm).2.1 (X_nv e p sm).2.2).length c
          have g3 := h_hs_add 0 (b_el e.1 e.2.1 e.2.2).length c
          rw [Nat.zero_add] at g2 g3
          generalize hnn : (if sm = true then 4 else 8 : Nat) = nn at *
          refine s_X1_add_153 (hp.R (by decide)) (hs.R (by decide)) (u_bR sm) kR ⟨by omega, by omega⟩ ⟨by omega, by omega⟩ ⟨by omega, by omega⟩ fun _ => ⟨o1, ?_⟩
          refine c_splice (h2 := (b_el (X_nv e p sm).1 (X_nv e p sm).2.1 (X_nv e p sm).2.2).length) hO hok hln hZ h4 hch h5 (by omega) (by omega) (by omega) (by omega) (by omega) (by omega) (by omega) fun M2 f2 hZ2 e52 e62 kp1 kp2 W2 => ?_
          intro _ _ _
          have hSh2 := hSh.cl f2 hZ2 e52
          obtain ⟨⟨⟨t1, t2, -, -, t5⟩, -, -, tb, tw, -⟩, tF, -⟩ := id hSh2
          obtain ⟨-, -, nwb, -⟩ := hSh2.1.ne
          refine ⟨fun g => absurd g (by decide), fun _ => ⟨t1, b, t2, _, tb, ⟨by omega, by omega⟩, ?_⟩⟩
          rintro M3 rfl _
          obtain ⟨y1, y2, y3, y4, y5, y6⟩ := hSh2.kb (j := h_at 163608 c) (v := g_w8 (g_w8 (if sm = true then 16 else 18))) (Int.le_refl _) (by omega)
          have W3 := W2.kb (j := h_at 163608 c) (v := g_w8 (g_w8 (if sm = true then 16 else 18))) nwb
          have hk16 : g_w8 (g_w8 (if sm = true then 16 else 18)) = (X_nv e p sm).1 := by
            rw [n3]
            cases sm <;> rfl
          obtain ⟨⟨⟨u1, u2, -, -, u5⟩, -, -, ub, uw, -⟩, uF, -⟩ := id y1
          have fin : ∀ M4, e_fr (c_WL wo b (h_at 163608 c + 2 + e.2.1.length) (h_at 163608 c + 2 + e.2.1.length + w0)) (g_wi M2 b (h_at 163608 c) (g_w8 (g_w8 (if sm = true then 16 else 18)))) M4 → c_Wr wo b 246408 (h_at 163608 c + 2 + e.2.1.length) (h_at 163608 c + 2 + e.2.1.length + w0) (X_nv e p sm).2.2 M4 → Q 0 M4 := by
            intro M4 f4 W4
            obtain ⟨hSh4, f4'⟩ := y1.wr2 f4 (by omega) (by omega)
            rw [hw0, ← n2] at W4
            have hkeep : ∀ k, k < h_at 163608 c + 2 + e.2.1.length → g_i M4 b k = g_i (g_wi M2 b (h_at 163608 c) (g_w8 (g_w8 (if sm = true then 16 else 18)))) b k := fun k hk => f4.2.1 b k fun z => by
              rcases z with ⟨z, -⟩ | ⟨-, z, -⟩
              · exact nwb z.symm
              · omega
            refine hq M4 ((f2.tr y2).tr f4') fun _ => ⟨?_, ?_⟩
            · have hv := X_val (k2 := (X_nv e p sm).1) (vb2 := (X_nv e p sm).2.2) (M1 := M4) hSt (by rw [← n1]; exact hSh4) (by rw [hkeep _ (by omega), y3, hk16]) (fun k k1 k2 => by rw [hkeep k (by omega), y4 k (by omega), kp1 k (by omega) (by omega)]) (c_Wr.hole (wo := wo) W4)
              rwa [← n1] at hv
            · rw [X_6 y1 f4, y5, e62, if_neg hne]
          refine ⟨fun g0 => ⟨wo, u5, uw, c_put8 W3 fun M4 f4 W4 => ?_⟩, fun g0 => ⟨wo, u5, uw, c_put4 W3 ?_ fun M4 f4 W4 => ?_⟩⟩
          · intro _ _
            have hsf : sm = false := by
              cases sm
              · rfl
              · exact absurd g0 (by decide)
            have hx : (X_nv e p sm).2.2 = b_le8 (v_num e.1 e.2.2 + v_num p.1 p.2.2) := by rw [hsf]; rfl
            rw [List.nil_append, ← hx] at W4
            exact fin M4 f4 W4
          · exact ⟨Int32.le_toInt _, by have := Int32.toInt_lt (v_num e.1 e.2.2 + v_num p.1 p.2.2).toInt32; omega⟩
          · intro _ _
            have hst : sm = true := by
              cases sm
              · exact absurd rfl g0
              · rfl
            have hx : (X_nv e p sm).2.2 = b_le4 (v_num e.1 e.2.2 + v_num p.1 p.2.2).toInt32.toInt := by rw [hst]; rfl
            rw [List.nil_append, ← hx] at W4
            exact fin M4 f4 W4
        refine s_X1_add_116 (hp.R (by decide)) (hs.R (by decide)) (u_bR sm) kR fun _ => ⟨o1, b, o2, c_va2 ob (by decide) hs fun _ _ _ => ⟨b, o2, _, ob, ⟨by omega, by omega⟩, fun g1 => ⟨fun g2 => ?_, fun g2 => ?_⟩, fun g1 => ⟨fun g2 => ?_, fun g2 => ?_⟩⟩⟩
        · refine key2 8 4 ?_ (by rw [hel48, if_pos (by omega)]; rfl)
          cases sm
          · rfl
          · exact absurd g2 (by decide)
        · refine key2 4 4 ?_ (by rw [hel48, if_pos (by omega)]; rfl)
          cases sm
          · exact absurd rfl g2
          · rfl
        · refine key2 8 8 ?_ (by rw [hel48, if_neg (by omega)]; rfl)
          cases sm
          · rfl
          · exact absurd g2 (by decide)
        · refine key2 4 8 ?_ (by rw [hel48, if_neg (by omega)]; rfl)
          cases sm
          · exact absurd rfl g2
          · rfl
      refine s_X1_add_94 (hp.R (by decide)) (hs.R (by decide)) (u_bR sm) kR fun _ => ⟨o1, b, o2, _, ob, ⟨by omega, by omega⟩, fun gk => ⟨fun gB => ?_, fun gB => h116 fun z => gB ((g_lc0 _ _).mpr (hsame.mp z).2)⟩, fun gk => h116 fun z => gk ?_⟩
      · have heq := hsame.mpr ⟨by rw [gk, sv4], (g_lc0 _ _).mp gB⟩
        exact hq M (e_fr.rf _ _) fun _ => ⟨by rw [heq]; exact hSt, by rw [if_pos heq]⟩
      · rw [sv4]
        exact (hsame.mp z).1
    refine ⟨b, o2, _, ob, ⟨by omega, by omega⟩, fun g1 => ⟨b, o2, _, ob, ⟨by omega, by omega⟩, fun g2 => ⟨fun g3 => key true ⟨fun _ => ⟨by omega, by omega, g3⟩, fun _ => rfl⟩, fun g3 => key false ⟨fun z => absurd z (by decide), fun z => absurd z.2.2 g3⟩⟩, fun g2 => key false ⟨fun z => absurd z (by decide), fun z => absurd (by omega) g2⟩⟩, fun g1 => key false ⟨fun z => absurd z (by decide), fun z => absurd (by omega) g1⟩⟩
/-- $unset -/
theorem c_unset {Qv : g_M → Prop} {f : h_F} {D : Nat} (hSt : X_St F o b po pf pt ch wo (c ++ [f]) e M) (hcl : c.length ≤ 9) (h1 : b_nz e.2.1) (h2 : b_gv D e.1 e.2.2) (hf : f.1 = 3 ∨ f.1 = 4) (hmx : h_hs (b_el e.1 e.2.1 e.2.2).length (c ++ [f]) ≤ 15000) (hq3 : f.1 = 3 → ∀ M1, e_fr (X_SL o b wo) M M1 → X_Sh F o b po pf pt ch wo (c ++ [f]) 0 M1 → g_i M1 o 6 = 1 → Qv M1) (hq4 : f.1 = 4 → ∀ M1, e_fr (X_SL o b wo) M M1 → X_St F o b po pf pt ch wo (c ++ [f]) (10, e.2.1, []) M1 → g_i M1 o 6 = (if (10, e.2.1, []) = e then g_i M o 6 else 1) → Qv M1) : g_Call (d + 4) 35 [.ref o, g_n (h_at 163608 (c ++ [f]))] M (g_qV Qv) := by
  have hs := hSt.st h1 h2 (by omega)
  have hSh := hSt.1
  obtain ⟨hO, hF, hok, hln, hZ, h5, h4, hch⟩ := id hSh
  obtain ⟨⟨o1, o2, o3, o4, o5⟩, hP, och, ob, ow, owb⟩ := id hO
  obtain ⟨sv1, sv2, sv3, sv4⟩ := hs.val
  have hel := b_el_len e.1 e.2.1 e.2.2
  have hnl := b_el_len 10 e.2.1 []
  have hin := h_at_in (b_el e.1 e.2.1 e.2.2).length (c ++ [f]) 163608
  have hge := h_at_ge c 163608
  have hge1 := h_at_ge (c ++ [f]) 163608
  have hcc : h_at 163608 c ≤ h_at 163608 (c ++ [f]) := by
    rw [h_at_snoc]
    unfold h_q
    omega
  have hsR := hs.R (by decide)
  have hl := h_ch_len c 163608
  have hch2 := hch
  rw [h_ch_snoc] at hch2
  obtain ⟨c1, c2⟩ := b_app.mp hch2
  have c3 := (b_cons.mp c2).1
  rw [hl] at c3
  have hln2 := hln
  rw [List.length_append, List.length_singleton] at h4
  obtain ⟨z1, z2⟩ := (h_Z_snoc c f 163608).mp hZ
  have hkf : g_i M b (h_at 163608 c) = f.1 := (b_cons.mp z2.1).1
  have g2 := h_hs_add 0 (b_el 10 e.2.1 []).length (c ++ [f])
  have g3 := h_hs_add 0 (b_el e.1 e.2.1 e.2.2).length (c ++ [f])
  rw [Nat.zero_add] at g2 g3
  refine m_X1_unset hsR fun _ => ⟨o1, fun _ => ⟨ch, o4, ⟨by omega, by omega⟩, _, och, ⟨by omega, by omega⟩, ?_⟩, fun g => absurd g (by omega)⟩
  rw [show g_i M o 4 - 1 = 0 + (c.length : Int) by omega, c3]
  refine s_X1_unset_23 hsR ⟨by omega, by omega⟩ fun _ => ⟨o1, b, o2, c_kind ob ⟨by decide, by decide⟩ ⟨by omega, by omega⟩ ?_⟩
  rw [b_kd_in (by omega) (by omega), hkf]
  intro _ _ _
  refine ⟨fun g => ⟨b, o2, c_nx2 ob (by decide) hs fun _ _ _ => ⟨⟨by omega, by omega⟩, ?_⟩⟩, fun g => ⟨b, o2, _, ob, ⟨by omega, by omega⟩, fun g10 => ?_, fun g10 => ⟨b, o2, c_va2 ob (by decide) hs fun _ _ _ => ⟨b, o2, c_nx2 ob (by decide) hs fun _ _ _ => ⟨⟨by omega, by omega⟩, ?_⟩⟩⟩⟩⟩
  · rw [show h_at 163608 (c ++ [f]) + ((b_el e.1 e.2.1 e.2.2).length : Int) - h_at 163608 (c ++ [f]) = ((b_el e.1 e.2.1 e.2.2).length : Int) by omega]
    refine c_splice (h2 := 0) hO hok hln hZ (by rw [List.length_append, List.length_singleton]; exact h4) hch h5 (by omega) (by omega) (by omega) (by omega) (by omega) (by omega) (by omega) fun M2 f2 hZ2 e52 e62 kp1 kp2 W2 => ?_
    intro _ _ _
    exact hq3 g M2 f2 (hSh.cl f2 hZ2 e52) e62
  · have heq : ((10, e.2.1, []) : b_E) = e := by
      have hk10 : e.1 = 10 := by rw [← sv4, g10]
      have hl0 : e.2.2 = [] := by
        rcases b_gv_vs h2 with ⟨g1, -⟩ | ⟨g1, -⟩ | ⟨g1, -⟩ | ⟨g1, g2⟩ | ⟨g1, -⟩ | ⟨g1, -⟩
        · omega
        · omega
        · omega
        · exact List.eq_nil_of_length_eq_zero g2
        · omega
        · omega
      exact Prod.ext hk10.symm (Prod.ext rfl hl0.symm)
    exact hq4 (by omega) M (e_fr.rf _ _) (by rw [heq]; exact hSt) (by rw [if_pos heq])
  · rw [show h_at 163608 (c ++ [f]) + ((b_el e.1 e.2.1 e.2.2).length : Int) - (h_at 163608 (c ++ [f]) + 2 + e.2.1.length) = (e.2.2.length : Int) by omega]
    have hn0 : ((b_el 10 e.2.1 []).length : Int) = e.2.1.length + 2 := by
      rw [hnl, List.length_nil]
      omega
    refine c_splice (h2 := (b_el 10 e.2.1 []).length) hO hok hln hZ (by rw [List.length_append, List.length_singleton]; exact h4) hch h5 (by omega) (by omega) (by omega) (by omega) (by omega) (by omega) (by omega) fun M2 f2 hZ2 e52 e62 kp1 kp2 W2 => ?_
    intro _ _ _
    have hSh2 := hSh.cl f2 hZ2 e52
    obtain ⟨⟨⟨t1, t2, -, -, t5⟩, -, -, tb, tw, -⟩, tF, -⟩ := id hSh2
    refine ⟨b, t2, _, tb, ⟨by omega, by omega⟩, ?_⟩
    rintro M3 rfl _
    obtain ⟨y1, y2, y3, y4, y5, y6⟩ := hSh2.kb (j := h_at 163608 (c ++ [f])) (v := g_w8 10) (Int.le_refl _) (by omega)
    refine hq4 (by omega) _ (f2.tr y2) (X_val hSt y1 y3 (fun k k1 k2 => by rw [y4 k (by omega), kp1 k (by omega) (by omega)]) fun i v hv => absurd hv (by simp)) ?_
    rw [y5, e62, if_neg fun z => g10 ?_]
    rw [sv4]
    have hz := congrArg (fun w : b_E => w.1) z
    exact hz.symm
end ADDS
