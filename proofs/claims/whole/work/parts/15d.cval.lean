/-! STAGES: the class finds an expression's value -/
section SVAL
variable {so b po pf pt sc : Nat} {F : Int → Int} {M M1 : g_M} {x y : List Int}
theorem c_plainText {d o f t sk : Nat} {N p k : Int} {D : Nat} {nm vb pre w : List Int} {Q : Int → g_M → Prop} (hP : p_P M o f t) (hA : g_A M b 0 N) (hn : N ≤ 1000000000) (hs : b_st (g_i M b) N p D k nm vb) (hk : k = 2) (hsp : s_tx vb = pre ++ w) (hl : pre.length = sk) (k1 : p_plain w → ∀ M1, g_fr (p_S o f t) M M1 → p_P M1 o f t → p_is M1 o f t b (p + 2 + nm.length + 4 + sk) w → Q 1 M1) (k0 : ¬ p_plain w → ∀ M1, g_fr (p_S o f t) M M1 → p_P M1 o f t → Q 0 M1) : g_Call (d + 2) 92 [.ref o, .ref b, g_n p, g_n sk] M (g_qI Q) := by
  have hpR := hs.R hn
  have h4 := hs.2.2.2.1
  have h5 := hs.2.2.2.2
  have hel := b_el_len k nm vb
  obtain ⟨t1, t2, t3, t4⟩ := hs.text hk
  have htl := congrArg List.length hsp
  rw [List.length_append] at htl
  obtain ⟨p1, p2, p3, p4, p5, p6⟩ := id hP
  have hx : b_at (g_i M b) (p + 2 + nm.length + 4 + sk) w := by
    rw [hsp] at t3
    rw [← hl]
    exact (b_app.mp t3).2
  refine m_X5_setPlainText hpR ⟨by omega, by omega⟩ fun _ => c_va2 (d := d) hA hn hs ?_
  intro _ _ _
  refine ⟨⟨by omega, by omega⟩, ⟨by omega, by omega⟩, ⟨by omega, by omega⟩, c_w4 (d := d) hA ⟨by omega, by omega⟩ (by omega) (by omega) ?_⟩
  rw [t2]
  intro _ _ _
  refine ⟨⟨by omega, by omega⟩, p1, ?_⟩
  rw [show p + 2 + (nm.length : Int) + 3 + ((s_tx vb).length + 1) = p + 2 + nm.length + 4 + sk + w.length by omega]
  refine c_set (r0 := none) (d := d) hP hA hn (g_neOA p1 hA) (g_neAA p4 hA (by omega)) (g_neAA p5 hA (by omega)) hx (by omega) (by omega) (fun hok M1 f1 q1 q2 => ?_) fun hno M1 f1 q1 => ?_
  · intro _ _ _
    obtain ⟨-, -, q3, -⟩ := id q2
    refine ⟨fun g => absurd g (by decide), fun _ => ⟨fun g => ?_, fun g => ?_⟩⟩
    · refine k1 ⟨hok, ?_⟩ M1 f1 q1 q2
      rcases hd : p_dol true w with _ | _
      · rfl
      · rw [hd] at q3
        rw [q3] at g
        exact absurd g (by decide)
    · refine k0 (fun z => g ?_) M1 f1 q1
      rw [q3, z.2]
      rfl
  · intro _ _ _
    exact ⟨fun _ => k0 (fun z => hno z.1) M1 f1 q1, fun g => absurd rfl g⟩
def S_VF (b po pf pt sc : Nat) (z : Nat) : Prop := p_S po pf pt z ∨ z = sc ∨ z = b
/-- what is told of an expression's value: where it stands, what was written for it -/
def S_ret (F : Int → Int) (n : Nat) (e : b_E) (es : List b_E) (pe dp : Int) (x x2 : List Int) (v : Int) : Prop := (V_of n e es = none ∧ v = -1 ∧ x2 = []) ∨ ∃ y, V_of n e es = some y ∧ ((x2 = [] ∧ ∃ nm, b_st F 163608 v 30 y.1 nm y.2.2 ∧ ((v = pe ∧ y = e ∧ nm = e.2.1) ∨ (dp ≤ v ∧ v + (b_el y.1 nm y.2.2).length ≤ dp + (b_el 3 [] (b_doc es)).length))) ∨ ((x.length ≤ 82800 → v = 163608 + x.length) ∧ x2 = b_el 4 [] y.2.2 ∧ y.1 = 4))
theorem S_W.path {s : Nat} {w : List Int} {r0 : Int} (h : S_W F so b po pf pt sc x M) (f : g_fr (p_S po pf pt) M M1) (hP : p_P M1 po pf pt) : S_W F so b po pf pt sc x M1 ∧ g_i M1 b = g_i M b := by
  obtain ⟨n1, n2, n3, n4, n5, n6, n7, n8, n9⟩ := h.ne
  obtain ⟨⟨s1, s2, s3⟩, w2, ⟨P1, P2, P3, P4, P5, P6⟩, w5, ⟨⟨o1, o2, o3, o4⟩, o5, o6, o7⟩, hF⟩ := h
  have hno : ∀ z, z = b ∨ z = so ∨ z = sc → ¬ p_S po pf pt z := by
    intro z hz hp
    rcases hz with rfl | rfl | rfl
    · rcases hp with g | g | g
      · exact n6 g.symm
      · exact n7 g.symm
      · exact n8 g.symm
    · rcases hp with g | g | g
      · exact g_neOO s1 P1 (by decide) g
      · exact g_neOA s1 P4 g
      · exact g_neOA s1 P5 g
    · rcases hp with g | g | g
      · exact n3 g.symm
      · exact n4 g.symm
      · exact n5 g.symm
  obtain ⟨eb, rb⟩ := f.2 b (hno b (Or.inl rfl))
  obtain ⟨es, rs⟩ := f.2 so (hno so (Or.inr (Or.inl rfl)))
  obtain ⟨ec, rc⟩ := f.2 sc (hno sc (Or.inr (Or.inr rfl)))
  refine ⟨⟨⟨f.O s1, by rw [rs]; exact s2, f.A s3⟩, by rw [rs]; exact w2, hP, by rw [rs]; exact w5, ⟨⟨f.O o1, by rw [rc]; exact o2, f.A o3, o4⟩, o5, o6, ?_⟩, fun k hk => by rw [eb]; exact hF k hk⟩, eb⟩
  unfold w_W at o7 ⊢
  rw [ec, eb]
  exact o7
theorem c_wrongExpr {d : Nat} {Q : Int → g_M → Prop} {p : Int} {D : Nat} {e : b_E} (hS : S_B so b M) (h2 : g_r M so 2 = some po) (hP : p_P M po pf pt) (hs : b_st (g_i M b) 246408 p D e.1 e.2.1 e.2.2) (hq : ∀ M1, g_fr (p_S po pf pt) M M1 → p_P M1 po pf pt → Q (if S_ef e = true then 1 else 0) M1) : g_Call (d + 3) 148 [.ref so, g_n p] M (g_qI Q) := by
  have hpR := hs.R (by decide)
  obtain ⟨s1, s2, s3⟩ := id hS
  refine m_X9_isWrongExpression hpR fun _ => ⟨s1, c_dolText (d := d) hS hs ?_⟩
  intro _ _ _
  by_cases hd : S_dol e = true
  · rw [if_pos hd]
    obtain ⟨hk, hts⟩ := S_dol_tx hd
    refine ⟨fun g => absurd g (by decide), fun _ => ⟨po, h2, b, s2, hP.1, ?_⟩⟩
    refine c_plainText (d := d) (sk := 1) (pre := [36]) (w := S_pt e) hP s3 (by decide) hs hk hts rfl (fun hok M1 f1 q1 q2 => ?_) fun hno M1 f1 q1 => ?_
    · intro _ _ _
      have he : S_ef e = false := by
        unfold S_ef
        rw [F_pl_t hok]
        simp
      have h9 := hq M1 f1 q1
      rw [if_neg (by rw [he]; decide)] at h9
      exact ⟨fun g => absurd g (by decide), fun _ => h9⟩
    · intro _ _ _
      have he : S_ef e = true := by
        unfold S_ef
        rw [hd, F_pl_f hno]
        rfl
      have h9 := hq M1 f1 q1
      rw [if_pos he] at h9
      exact ⟨fun _ => h9, fun g => absurd rfl g⟩
  · rw [if_neg hd]
    have he : S_ef e = false := by
      unfold S_ef
      have : S_dol e = false := by simpa using hd
      rw [this]
      rfl
    have h9 := hq M (g_fr.rf _ _) hP
    rw [if_neg (by rw [he]; decide)] at h9
    exact ⟨fun _ => h9, fun g => absurd rfl g⟩
theorem c_valueOf {n dd D De : Nat} {Q : Int → g_M → Prop} {pe dp : Int} {e : b_E} {es : List b_E} (hdd : D + 6 ≤ dd) (hW : S_W F so b po pf pt sc x M) (he : b_st F 100000 pe De e.1 e.2.1 e.2.2) (hef : S_ef e = false) (hd : b_st F 163608 dp D 3 [] (b_doc es)) (hDn : D ≤ n) (hD : D ≤ 30) (hDe : De ≤ 30) (hl : (b_doc es).length ≤ 15000) (hok : ∀ f ∈ es, b_okE f) (hq : ∀ M1 v x2, g_fr (S_VF b po pf pt sc) M M1 → S_W F so b po pf pt sc (x ++ x2) M1 → S_ret F n e es pe dp x x2 v → Q v M1) : g_Call dd 149 [.ref so, g_n pe, g_n dp] M (g_qI Q) := by
  obtain ⟨d, rfl⟩ : ∃ d, dd = d + 6 := ⟨dd - 6, by omega⟩
  obtain ⟨hS, h2, hP, h5, hw, hF⟩ := id hW
  obtain ⟨s1, s2, s3⟩ := id hS
  have he1 : b_st F 163608 pe De e.1 e.2.1 e.2.2 := ⟨he.1, he.2.1, he.2.2.1, he.2.2.2.1, by have := he.2.2.2.2; omega⟩
  have he2 := he1.ofW hF
  have heR := he.R (by decide)
  have hdR := hd.R (by decide)
  refine m_X9_valueOf heR hdR fun _ => ⟨s1, c_dolText (d := d + 3) hS he2 ?_⟩
  intro _ _ _
  by_cases hdl : S_dol e = true
  · rw [if_pos hdl]
    obtain ⟨hk, hts⟩ := S_dol_tx hdl
    have hpl : p_plain (S_pt e) := by
      refine Classical.byContradiction fun hno => ?_
      unfold S_ef at hef
      rw [hdl, F_pl_f hno] at hef
      exact absurd hef (by decide)
    have hV : V_of n e es = (V_res (p_sp (S_pt e)) es).map (V_at n) := if_pos hdl
    refine ⟨fun g => absurd g (by decide), fun _ => ⟨po, h2, b, s2, hP.1, ?_⟩⟩
    refine c_plainText (d := d + 3) (sk := 1) (pre := [36]) (w := S_pt e) hP s3 (by decide) he2 hk hts rfl (fun _ M1 f1 q1 q2 => ?_) fun hno => absurd hpl hno
    intro _ _ _
    obtain ⟨hW1, eb1⟩ := hW.path (s := 0) (w := []) (r0 := 0) f1 q1
    obtain ⟨i1, i2, i3, i4⟩ := q2
    have hf1 : g_fr (S_VF b po pf pt sc) M M1 := f1.up fun z hz => Or.inl hz
    obtain ⟨-, t2, t3, -⟩ := he1.text hk
    have hpb : b_at F (pe + 2 + e.2.1.length + 4 + ((1 : Nat) : Int)) (S_pt e) := by
      rw [hts] at t3
      exact (b_cons.mp t3).2
    have hel := b_el_len e.1 e.2.1 e.2.2
    have he5 := he.2.2.2.2
    have he4 := he.2.2.2.1
    have htl := (he1.text hk).1
    rw [hts, List.length_cons] at htl
    have hPa : X_Pa F b po pf pt 0 (p_sp (S_pt e)) M1 := ⟨i1, by rw [i2]; omega, p_rb_of _ (Nat.le_refl _) hpb i4 (by omega) (by omega)⟩
    have hst8 := hpl.1.2.1
    obtain ⟨⟨t1, t2', t3'⟩, u2, ⟨R1, R2, R3, R4, R5, R6⟩, u5, uw, uF⟩ := id hW1
    have hgo : ∀ (st : List (List Int)) (s : Nat) (e2 : b_E) (p : Int) (D2 : Nat), st ≠ [] → s + st.length ≤ 8 → X_Pa F b po pf pt s st M1 → b_st F 163608 p D2 e2.1 e2.2.1 e2.2.2 → e2.1 = 3 → D2 ≤ D → dp ≤ p → p + (b_el e2.1 e2.2.1 e2.2.2).length ≤ dp + (b_el 3 [] (b_doc es)).length → e2.2.2.length ≤ 15000 → V_of n e es = (V_res st (b_ch e2.2.2)).map (V_at n) → g_Run (d + 5) 149 29 [(0, .ref so), (1, g_n pe), (2, g_n dp), (3, g_n p), (4, g_n s)] [] M1 (g_qI Q) := by
      intro st
      induction st with
      | nil => exact fun _ _ _ _ h => absurd rfl h
      | cons w r ih =>
        intro s e2 p D2 _ hs8 hP2 hb hk2 hD2 hlc1 hlc2 hl2 hv
        have hbR := hb.R (by decide)
        have hb4 := hb.2.2.2.1
        have hP3 := hP2.2.1
        rw [List.length_cons] at hs8 hP3
        refine s_X9_valueOf_29 heR hdR hbR ⟨by omega, by omega⟩ fun _ => ⟨t1, po, u2, R1, fun _ => ⟨fun g => absurd g (by omega), fun _ => ⟨b, t2', c_kd2 t3' (by decide) (hb.ofW uF) ?_⟩⟩, fun g => absurd (by omega) g⟩
        intro _ _ _
        refine ⟨fun g => absurd g (by omega), fun _ => ⟨b, t2', c_kd2 t3' (by decide) (hb.ofW uF) ?_⟩⟩
        intro _ _ _
        refine ⟨fun _ => ⟨b, t2', po, u2, R1, b, hP2.1, po, u2, R1, pf, R2, _, R4, ⟨by omega, by omega⟩, po, u2, R1, pt, R3, _, R5, ⟨by omega, by omega⟩, ?_⟩, fun g => absurd hk2 g⟩
        have hs1' : ((s : Int) + 1) = ((s + 1 : Nat) : Int) := by omega
        have hret : ∀ v : Int, g_InR v → v = -1 → V_of n e es = none → g_Run (d + 5) 149 29 [(0, .ref so), (1, g_n pe), (2, g_n dp), (3, g_n v), (4, g_n ((s + 1 : Nat) : Int))] [] M1 (g_qI Q) := by
          intro v hvR hv1 hvn
          have hQ : Q v M1 := hq M1 v [] hf1 (by rw [List.append_nil]; exact hW1) (Or.inl ⟨hvn, hv1, rfl⟩)
          exact s_X9_valueOf_29 heR hdR hvR ⟨by omega, by omega⟩ fun _ => ⟨t1, po, u2, R1, fun _ => ⟨fun _ => hQ, fun g => absurd (by omega) g⟩, fun _ => hQ⟩
        refine c_pfind (d := d + 2) hW1 hP2 hb hk2 (fun hn => ?_) fun e1 q1 D3 hn eD3 he1' hl3 hl4 => ?_
        · intro _ _ _
          rw [V_res_none hn] at hv
          rw [hs1']
          exact ⟨⟨by omega, by omega⟩, hret (-1) ⟨by decide, by decide⟩ rfl hv⟩
        · intro _ _ hq1R
          rw [V_res_some hn] at hv
          have hP4 := hP2.tl
          have hP5 := hP4.2.1
          have hle1 : e1.2.2.length ≤ 15000 := by
            obtain ⟨hm, -⟩ := L_fn_mem hn
            have h8 := b_ser_memL hm
            obtain ⟨-, -, -, h7'⟩ := hb.kids (Or.inl hk2)
            omega
          have hq10 := he1'.2.2.2.1
          rw [hs1']
          refine ⟨⟨by omega, by omega⟩, ?_⟩
          rcases r with _ | ⟨w2, r⟩
          · rw [if_pos (show ([] : List (List Int)).isEmpty = true from rfl)] at hv
            rw [List.length_nil] at hP5
            have hv2 : V_of n e es = some e1 := hv
            have hQ : Q q1 M1 := hq M1 q1 [] hf1 (by rw [List.append_nil]; exact hW1) (Or.inr ⟨e1, hv2, Or.inl ⟨rfl, e1.2.1, he1'.le (by omega), Or.inr ⟨by omega, by omega⟩⟩⟩)
            exact s_X9_valueOf_29 heR hdR hq1R ⟨by omega, by omega⟩ fun _ => ⟨t1, po, u2, R1, fun g => absurd g (by omega), fun _ => hQ⟩
          · rw [if_neg (by simp)] at hv
            rw [List.length_cons] at hs8 hP5
            by_cases h4' : e1.1 = 4
            · rw [if_pos h4'] at hv
              have hv2 : V_of n e es = some (4, [], b_doc (V_rows n (w2 :: r) (b_ch e1.2.2))) := hv
              refine s_X9_valueOf_29 heR hdR hq1R ⟨by omega, by omega⟩ fun _ => ⟨t1, po, u2, R1, fun _ => ⟨fun g => absurd g (by omega), fun _ => ⟨b, t2', c_kd2 t3' (by decide) (he1'.ofW uF) ?_⟩⟩, fun g => absurd (by omega) g⟩
              intro _ _ _
              refine ⟨fun _ => ⟨sc, u5, uw.1.1, sc, u5, uw.1.1, c_put (d := d + 4) uw ⟨by decide, by decide⟩ fun M2 f2 W2 => ?_⟩, fun g => absurd h4' g⟩
              intro _ _
              have g2 := hW1.to f2 W2
              refine ⟨sc, g2.2.2.2.1, W2.1.1, c_put (d := d + 4) W2 ⟨by decide, by decide⟩ fun M3 f3 W3 => ?_⟩
              intro _ _
              have g3 := g2.to f3 W3
              refine c_writeRow D3 (n := n) (by omega) (by omega) (by decide) (by omega) g3 (hW1.Pa (f2.tr f3) hP4) (by simp) (by rw [List.length_cons]; omega) he1' h4' hle1 fun M4 f4 g4 => ?_
              intro _ _
              have ew : x ++ [g_w8 4] ++ [g_w8 0] ++ b_doc (V_rows n (w2 :: r) (b_ch e1.2.2)) = x ++ b_el 4 [] (b_doc (V_rows n (w2 :: r) (b_ch e1.2.2))) := by
                unfold b_el
                simp [g_w8_of]
              rw [ew] at g4
              have e1v : x.length ≤ 82800 → g_i M1 sc 1 = 163608 + x.length := fun hxl => by
                rcases uw.2.2.2.2 with ⟨-, a2, -⟩ | ⟨-, -, -, a4⟩
                · exact a2
                · omega
              have fr : g_fr (S_VF b po pf pt sc) M M4 := hf1.tr (((f2.tr f3).tr f4).gs fun z k hz => by
                rcases hz with ⟨z1, -⟩ | ⟨z1, -⟩
                · exact Or.inr (Or.inl z1)
                · exact Or.inr (Or.inr z1))
              exact hq M4 _ _ fr g4 (Or.inr ⟨_, hv2, Or.inr ⟨e1v, rfl, rfl⟩⟩)
            · rw [if_neg h4'] at hv
              by_cases h3' : e1.1 = 3
              · rw [if_pos h3'] at hv
                exact ih (s + 1) e1 q1 D3 (by simp) (by rw [List.length_cons]; omega) hP4 he1' h3' (by omega) (by omega) (by omega) hle1 hv
              · rw [if_neg h3'] at hv
                refine s_X9_valueOf_29 heR hdR hq1R ⟨by omega, by omega⟩ fun _ => ⟨t1, po, u2, R1, fun _ => ⟨fun g => absurd g (by omega), fun _ => ⟨b, t2', c_kd2 t3' (by decide) (he1'.ofW uF) ?_⟩⟩, fun g => absurd (by omega) g⟩
                intro _ _ _
                refine ⟨fun g => absurd g h4', fun _ => ⟨b, t2', c_kd2 t3' (by decide) (he1'.ofW uF) ?_⟩⟩
                intro _ _ _
                refine ⟨fun g => absurd g h3', fun _ => ⟨⟨by omega, by omega⟩, ?_⟩⟩
                have hQ : Q (-1) M1 := hq M1 (-1) [] hf1 (by rw [List.append_nil]; exact hW1) (Or.inl ⟨hv, rfl, rfl⟩)
                exact s_X9_valueOf_29 heR hdR ⟨by decide, by decide⟩ ⟨by omega, by omega⟩ fun _ => ⟨t1, po, u2, R1, fun _ => ⟨fun _ => hQ, fun g => absurd (by decide) g⟩, fun _ => hQ⟩
    have hsp : p_sp (S_pt e) ≠ [] := by
      rw [p_sp_eq]
      simp
    refine hgo (p_sp (S_pt e)) 0 (3, [], b_doc es) dp D hsp (by omega) hPa hd rfl (Nat.le_refl _) (Int.le_refl _) (Int.le_refl _) hl ?_
    show V_of n e es = (V_res (p_sp (S_pt e)) (b_ch (b_doc es))).map (V_at n)
    rw [b_ch_doc hok]
    exact hV
  · rw [if_neg hdl]
    have hV : V_of n e es = some e := if_neg hdl
    refine ⟨fun _ => hq M pe [] (g_fr.rf _ _) (by rw [List.append_nil]; exact hW) (Or.inr ⟨e, hV, Or.inl ⟨rfl, e.2.1, he1.le hDe, Or.inl ⟨rfl, rfl, rfl⟩⟩⟩), fun g => absurd rfl g⟩
end SVAL
