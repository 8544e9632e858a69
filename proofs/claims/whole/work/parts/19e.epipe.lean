/-! STAGES: a pipeline, the reference -/
section EPIPE
variable {m b ma be l ob go fo kr : Nat} {M0 M : g_M} {os : List (List b_E)}
theorem e_filterIsRight {dd D : Nat} {Q : Int → g_M → Prop} {cf : Int} {fe : b_E} (hR : e_R M m b) (hs : E_dc (g_i M b) cf D fe) (hD : D < 20) (hl : fe.2.2.length ≤ 3000) (hcR : g_InR cf) (hq1 : ((K_F 20).1 (L_at (cf + 4) (b_ch fe.2.2)) 0).1 = 0 → ∀ M1, e_fr (E_CS m) M M1 → Q 1 M1) (hq0 : ((K_F 20).1 (L_at (cf + 4) (b_ch fe.2.2)) 0).1 ≠ 0 → ∀ M1, e_fr (E_CS m) M M1 → g_i M1 m 7 = 10 + ((K_F 20).1 (L_at (cf + 4) (b_ch fe.2.2)) 0).1 → g_i M1 m 8 = ((K_F 20).1 (L_at (cf + 4) (b_ch fe.2.2)) 0).2.1 → Q 0 M1) : g_Call (dd + 201) 412 [.ref m, g_n cf] M (g_qI Q) := by
  obtain ⟨k1, k2⟩ := (K_F_ok 20).1 (L_at (cf + 4) (b_ch fe.2.2)) 0
  obtain ⟨R, hRd⟩ : ∃ R, R = (K_F 20).1 (L_at (cf + 4) (b_ch fe.2.2)) 0 := ⟨_, rfl⟩
  rw [← hRd] at hq1 hq0 k1 k2
  refine m_X12_filterIsRight hcR fun _ => ⟨hR.1, e_isFilter (dd := dd + 200) hR rfl hs hD hl (by omega) ?_⟩
  rw [← hRd]
  intro M1 f1 _ hw _ _ _ _
  by_cases h0 : R.1 = 0
  · rw [if_pos h0]
    exact ⟨fun z => absurd z (by decide), fun _ => hq1 h0 M1 f1⟩
  · rw [if_neg h0]
    obtain ⟨w1, w2⟩ := hw h0
    rw [w1]
    refine ⟨fun _ => ⟨⟨by omega, by omega⟩, fun M8 e8 _ => ?_⟩, fun z => absurd rfl z⟩
    refine hq0 h0 M8 (f1.tr (by rw [e8]; exact e_fr.wi _ ⟨rfl, Or.inl rfl⟩)) ?_ ?_
    · rw [e8, g_i_wi, if_pos ⟨rfl, rfl⟩]
      omega
    · rw [e8, g_i_wi, if_neg fun z => absurd z.2 (by decide)]
      exact w2
theorem P_R.tl (hC : P_R m b ma be l ob go fo kr os M0) (f : e_fr (P_E m b ma be l go fo kr) M0 M) {c q : Int} {D : Nat} {es0 es : List b_E} (h : e_tl (g_i M0 b) c q D es0 es) (h21 : c + (b_doc es0).length ≤ 2100) : e_tl (g_i M b) c q D es0 es := by
  obtain ⟨-, nb, -⟩ := hC.no
  obtain ⟨h1, h2, h3, ⟨s1, s2, s3, s4, s5⟩, h5⟩ := h
  have hb : ∀ k, k < 2100 → g_i M b k = g_i M0 b k := fun k hk => f.2.1 b k (nb k (by omega) (by omega))
  have hdl := b_doc_len es0
  exact ⟨b_at_keep h1 fun k k1 k2 => hb k (by omega), h2, h3, ⟨b_at_keep s1 fun k k1 k2 => hb k (by omega), s2, s3, s4, by rw [hb _ (by omega)]; exact s5⟩, h5⟩
theorem E_CS.pe {y : Nat} {k : Int} (h : E_CS m y k) : P_E m b ma be l go fo kr y k := Or.inr (Or.inr (Or.inr (Or.inr (Or.inr ⟨h.1, by have := h.2; omega⟩))))
theorem e_pipe {n De dd : Nat} {Q : Int → g_M → Prop} {c v2 : Int} {its0 : List b_E} (hn : 16 ≤ n) (hDe : De ≤ 18) (hv2 : g_InR v2) (hC0 : P_R m b ma be l ob go fo kr os M0) (h21 : c + (b_doc its0).length ≤ 2100) : ∀ (its : List b_E) (q : Int) (M : g_M) (ds : List (List b_E)) (g : Int), e_fr (P_E m b ma be l go fo kr) M0 M → P_R m b ma be l ob go fo kr os M → g_i M m 24 = g → (g = 0 ∨ g = 1) → E_belt m b be g ds M → e_tl (g_i M0 b) c q De its0 its → (∀ it ∈ its, it.1 = 3) → ((T_pl n os (L_at q its) ds).1.1 ≠ 0 → ∀ M1, e_fr (P_E m b ma be l go fo kr) M0 M1 → P_R m b ma be l ob go fo kr os M1 → (g_i M1 m 24 = 0 ∨ g_i M1 m 24 = 1) → g_i M1 m 7 = (T_pl n os (L_at q its) ds).1.1 → g_i M1 m 8 = (T_pl n os (L_at q its) ds).1.2 → Q 0 M1) → ((T_pl n os (L_at q its) ds).1.1 = 0 → ∀ M1 M2, e_fr (P_E m b ma be l go fo kr) M0 M1 → P_R m b ma be l ob go fo kr os M1 → (g_i M1 m 24 = 0 ∨ g_i M1 m 24 = 1) → e_fr (A_L m b) M1 M2 → e_Wr m b 2598000 2606000 (A_doc (P_an (T_pl n os (L_at q its) ds).2)) M2 → (g_i M2 m 6 = 0 → Q 1 M2) ∧ (¬ g_i M2 m 6 = 0 → Q 0 (g_wi (g_wi M2 m 7 40) m 8 (-1)))) → g_Run (dd + 230) 424 85 [(0, .ref m), (1, g_n c), (2, g_n v2), (3, g_n q)] [] M (g_qI Q) := by
  have hR0 := hC0.1.1.1
  have hmb : m ≠ b := g_neOA hR0.1 hR0.2.2
  intro its
  induction its with
  | nil =>
    intro q M ds g f hC hg hg01 hbt htl hk hf hq
    have htlM := hC0.tl f htl h21
    obtain ⟨t1, t2, t3, t4⟩ := htlM.st
    have hR := hC.1.1.1
    have hqR : g_InR q := ⟨by omega, by omega⟩
    have hcR : g_InR c := ⟨by omega, by omega⟩
    have hbe := hC.1.1.2.2.2.2.1
    have n1 : m ≠ be := g_neOA hR.1 hbe
    have n2 : be ≠ b := g_neAA hbe hR.2.2 (by omega)
    refine s_X12_pipeline_85 hcR hv2 hqR fun _ => ⟨hR.1, e_lastE (d := dd + 227) hR htlM ?_⟩
    intro _ _ _
    refine ⟨fun z => absurd z (by omega), fun _ => e_beginAnswer (d := dd + 226) hR fun M7 f7 W7 h77 => ?_⟩
    intro _ _
    have bkeep : ∀ {M8 : g_M}, e_fr (A_L m b) M M8 → E_belt m b be g ds M8 := fun f8 => by
      refine hbt.keep f8 (fun z => ?_) (fun k z => ?_) fun k k1 _ z => ?_
      · rcases z with ⟨-, z⟩ | ⟨z, -⟩
        · omega
        · exact hmb z
      · rcases z with ⟨z, -⟩ | ⟨z, -⟩
        · exact n1 z.symm
        · exact n2 z
      · rcases z with ⟨z, -⟩ | ⟨-, z, -⟩
        · exact hmb z.symm
        · omega
    rw [(bkeep f7).1]
    refine e_putNumber (d := dd + 226) (j := 128) (by decide) W7 ⟨by have := hbt.2.1.1; omega, by have := hbt.2.1.1; omega⟩ fun M10 f10 W10 => ?_
    intro _ _
    refine e_put (d := dd + 229) (v := 4) W10 ⟨by decide, by decide⟩ fun M13 f13 W13 => ?_
    intro _ _
    refine e_putWord (d := dd + 227) (j := 129) (by decide) W13 fun M16 f16 W16 => ?_
    intro _ _
    refine e_open (d := dd + 227) W16 fun r M19 f19 W19 hr => ?_
    intro _ _ hrR
    have f79 : e_fr (e_WL m b 2598000 2606000) M7 M19 := f10.tr (f13.tr (f16.tr f19))
    have f019 : e_fr (A_L m b) M M19 := f7.tr (f79.up fun y k z => A_L.w z)
    have e1 : [0, 0, 0, 0] ++ b_el 16 (b_tx 128) (b_le4 ds.length) ++ [g_w8 4] ++ (b_tx 129 ++ [0]) = [0, 0, 0, 0] ++ (b_el 16 (b_tx 29) (b_le4 ds.length) ++ (4 :: (b_tx 30 ++ [0]))) := by
      rw [show g_w8 4 = 4 from by decide, show b_tx 128 = b_tx 29 from rfl, show b_tx 129 = b_tx 30 from rfl]
      simp
    rw [e1] at W19 hr
    have h77b : g_i M19 m 77 = g_i M7 m 77 := f79.2.1 m 77 fun z => by
      rcases z with ⟨-, z⟩ | ⟨z, -⟩
      · omega
      · exact hmb z
    refine e_tell (d := dd + 227) (g := g) (x := b_el 16 (b_tx 29) (b_le4 ds.length)) hcR hv2 hrR (by rw [f019.2.2]; exact hC.1.1.2.2.1) (f019.A hbe) (bkeep f019) W19 hr (by rw [h77b]; exact h77) fun M20 f20 W20 => ?_
    exact hq rfl M M20 f hC (by rw [hg]; exact hg01) (f019.tr f20) W20
  | cons it its ih =>
    intro q M ds g f hC hg hg01 hbt htl hk hf hq
    have htlM := hC0.tl f htl h21
    obtain ⟨t1, t2, t3, t4⟩ := htlM.st
    have hR := hC.1.1.1
    have hqR : g_InR q := ⟨by omega, by omega⟩
    have hcR : g_InR c := ⟨by omega, by omega⟩
    obtain ⟨hit', -⟩ := htlM.cons
    obtain ⟨-, htl2⟩ := htl.cons
    have h5 := htl.2.2.2.2
    have hsl : (b_ser (it :: its)).length = (b_el it.1 it.2.1 it.2.2).length + (b_ser its).length := by
      show (b_el it.1 it.2.1 it.2.2 ++ b_ser its).length = _
      rw [List.length_append]
    have hdl := b_doc_len its0
    have hit : b_st (g_i M b) 2100 q De it.1 it.2.1 it.2.2 := ⟨hit'.1, hit'.2.1, hit'.2.2.1, hit'.2.2.2.1, by omega⟩
    have hk3 := hk it List.mem_cons_self
    have hi5 := hit.2.2.2.2
    have hel := b_el_len it.1 it.2.1 it.2.2
    obtain ⟨D1, es, eD, ee, -, htk, hch, -⟩ := hit'.tl (Or.inl hk3)
    obtain ⟨D2, eD2, hkids, -⟩ := hit.kids (Or.inl hk3)
    rw [hch] at hkids
    obtain ⟨ci, hci⟩ : ∃ ci : Int, ci = q + 2 + it.2.1.length := ⟨_, rfl⟩
    have hci6 : q + 6 + (it.2.1.length : Int) = ci + 4 := by omega
    rw [hci6] at htk hkids
    rw [← hci] at htk
    have hciR : g_InR ci := ⟨by omega, by omega⟩
    have hc4R : g_InR (ci + 4) := ⟨by omega, by omega⟩
    have hLa : L_at q (it :: its) = (q, it) :: L_at (q + (b_el it.1 it.2.1 it.2.2).length) its := rfl
    rw [hLa] at hf hq
    -- on to the next stage
    have hnext : ∀ (M2 : g_M) (ds2 : List (List b_E)) (g2 : Int), T_pl n os ((q, it) :: L_at (q + (b_el it.1 it.2.1 it.2.2).length) its) ds = T_pl n os (L_at (q + (b_el it.1 it.2.1 it.2.2).length) its) ds2 → e_fr (P_E m b ma be l go fo kr) M M2 → P_R m b ma be l ob go fo kr os M2 → g_i M2 m 24 = g2 → (g2 = 0 ∨ g2 = 1) → E_belt m b be g2 ds2 M2 → g_Run (dd + 230) 424 85 [(0, .ref m), (1, g_n c), (2, g_n v2), (3, g_n (q + (b_el it.1 it.2.1 it.2.2).length))] [] M2 (g_qI Q) := by
      intro M2 ds2 g2 hT f2 hC2 a4 a5 a6
      rw [hT] at hf hq
      exact ih _ M2 ds2 g2 (f.tr f2) hC2 a4 a5 a6 htl2 (fun y hy => hk y (List.mem_cons_of_mem _ hy)) hf hq
    -- a stage that is no filter
    have h225 : T_fe it = none → g_Run (dd + 230) 424 225 [(0, .ref m), (1, g_n c), (2, g_n v2), (3, g_n q), (4, g_n (ci + 4))] [] M (g_qI Q) := by
      intro hfe
      refine s_X12_pipeline_225 hcR hv2 hqR hc4R fun _ => ⟨hR.1, e_vl2 (d := dd + 228) hR hit' ?_⟩
      rw [← hci]
      intro _ _ _
      have hst := e_stageFault (d := dd + 220) (pi := q) (it := it) (M := M) (Q := fun r10 M7 => g_ext M M7 → g_ok M7 → g_InR r10 → ((r10 = 0 → g_Call (dd + 230) 339 [.ref m, g_n (ci + 4)] M7 (g_qI fun r15 M12 => g_ext M7 M12 → g_ok M12 → g_InR r15 → g_Run (dd + 230) 424 252 [(0, .ref m), (1, g_n c), (2, g_n v2), (3, g_n q), (4, g_n (ci + 4)), (5, g_n r10)] [g_n r15] M12 (g_qI Q))) ∧ (¬ r10 = 0 → g_Run (dd + 230) 424 252 [(0, .ref m), (1, g_n c), (2, g_n v2), (3, g_n q), (4, g_n (ci + 4)), (5, g_n r10)] [g_n r10] M7 (g_qI Q)))) hR hit hk3 ?_
      · rw [← hci] at hst
        exact hst
      intro _ _ hrR
      obtain ⟨ok1, ok2⟩ := T_ok_T_fx it
      -- a fault is told
      have hfail : ∀ (w v5 : Int) (M2 : g_M), (T_st n os it ds).1 = w → 0 < w → w ≤ 5 → g_InR v5 → e_fr (P_E m b ma be l go fo kr) M M2 → P_R m b ma be l ob go fo kr os M2 → (g_i M2 m 24 = 0 ∨ g_i M2 m 24 = 1) → g_Run (dd + 230) 424 252 [(0, .ref m), (1, g_n c), (2, g_n v2), (3, g_n q), (4, g_n (ci + 4)), (5, g_n v5)] [g_n w] M2 (g_qI Q) := by
        intro w v5 M2 hw hw0 hw5 hv5 f2 hC2 h24
        have hC2R := hC2.1.1.1
        have hwR : g_InR w := ⟨by omega, by omega⟩
        refine s_X12_pipeline_252 hcR hv2 hqR hc4R hv5 hwR fun _ => ⟨fun _ => ⟨⟨by omega, by omega⟩, hC2R.1, m_X12_refuses ⟨by omega, by omega⟩ hqR fun _ => ⟨hC2R.1, fun M3 e3 _ M4 e4 _ => ?_⟩⟩, fun z => absurd hw0 z⟩
        intro _ _ _
        refine ⟨Or.inl rfl, ?_⟩
        have f24 : e_fr (E_CS m) M2 M4 := by
          rw [e4, e3]
          exact (e_fr.wi _ ⟨rfl, Or.inl rfl⟩).tr (e_fr.wi _ ⟨rfl, Or.inr (Or.inl rfl)⟩)
        obtain ⟨k1, k2⟩ := hC2.fx f24 (fun y k z => E_CS.pe z) (fun z => by have := z.2; omega) fun k z => hC2.2.2.1.ne.2.1 z.1
        have h9 := T_pl_sf (n := n) (os := os) (ds := ds) (z := (q, it)) (zs := L_at (q + (b_el it.1 it.2.1 it.2.2).length) its) hfe (by show (T_st n os it ds).1 ≠ 0; omega)
        have hw2 : (T_st n os (q, it).2 ds).1 = w := hw
        rw [hw2] at h9
        rw [h9] at hf
        refine hf (by show 30 + w ≠ 0; omega) M4 (f.tr (f2.tr k1)) k2 ?_ ?_ ?_
        · rw [e4, e3, g_i_wi, if_neg fun z => absurd z.2 (by decide), g_i_wi, if_neg fun z => absurd z.2 (by decide)]
          exact h24
        · rw [e4, e3, g_i_wi, if_neg fun z => absurd z.2 (by decide), g_i_wi, if_pos ⟨rfl, rfl⟩]
        · rw [e4, g_i_wi, if_pos ⟨rfl, rfl⟩]
      refine ⟨fun z => ?_, fun z => ?_⟩
      · obtain ⟨e, he1, he2⟩ := T_fx_0 z
        have hese : es = [e] := hch.symm.trans he1
        rw [hese] at hkids
        obtain ⟨he, -⟩ := hkids.cons
        have hTst := T_st_m (n := n) (os := os) (ds := ds) he1 he2
        refine e_stage (d := dd + 155) (n := n) hC hg hg01 hbt he he2 (by omega) hn (fun z2 M1 f1 hC1 h24 => ?_) fun z2 M1 g1 f1 hC1 k1 k2 k3 => ?_
        · intro _ _ _
          obtain ⟨o1, o2⟩ := T_ok_T_m n os e ds
          rw [z]
          exact hfail _ 0 M1 (by rw [hTst]) (by omega) o2 ⟨by decide, by decide⟩ f1 hC1 h24
        · intro _ _ _
          rw [z]
          have hR1 := hC1.1.1.1
          have hitM1 := (hC0.tl (f.tr f1) htl h21).cons.1
          refine s_X12_pipeline_252 hcR hv2 hqR hc4R ⟨by decide, by decide⟩ ⟨by decide, by decide⟩ fun _ => ⟨fun z => absurd z (by decide), fun _ => ⟨hR1.1, e_bh2 (d := dd + 226) hR1 hitM1 ?_⟩⟩
          intro _ _ _
          have h9 : T_st n os it ds = (0, (T_m n os e ds).2) := by rw [hTst]; exact Prod.ext z2 rfl
          refine hnext M1 (T_m n os e ds).2 g1 ?_ f1 hC1 k2 k1 k3
          have h8 := T_pl_sg (n := n) (os := os) (ds := ds) (z := (q, it)) (zs := L_at (q + (b_el it.1 it.2.1 it.2.2).length) its) hfe (by show (T_st n os it ds).1 = 0; rw [h9])
          rw [h8]
          show T_pl n os _ (T_st n os it ds).2 = _
          rw [h9]
      · exact hfail _ _ M (by rw [T_st_fx z]) (by omega) ok2 hrR (e_fr.rf _ _) hC (by rw [hg]; exact hg01)
    refine s_X12_pipeline_85 hcR hv2 hqR fun _ => ⟨hR.1, e_lastC (d := dd + 227) hR htlM fun r hr hrR => ?_⟩
    intro _ _ _
    refine ⟨fun _ => e_vl2 (d := dd + 228) hR hit' ?_, fun z => absurd hr z⟩
    rw [← hci]
    intro _ _ _
    refine e_first (d := dd + 229) (by omega) (by omega) ?_
    intro _ _ _
    refine e_vl2 (d := dd + 228) hR hit' ?_
    rw [← hci]
    intro _ _ _
    refine e_countE (d := dd + 225) hR htk ?_
    intro _ _ _
    by_cases g1 : ∃ e, es = [e]
    · obtain ⟨e, rfl⟩ := g1
      obtain ⟨he, -⟩ := hkids.cons
      have he4 := he.2.2.2.1
      have he5 := he.2.2.2.2
      have hel2 := b_el_len e.1 e.2.1 e.2.2
      have he' : b_st (g_i M b) 2706210 (ci + 4) D2 e.1 e.2.1 e.2.2 := ⟨he.1, he.2.1, he.2.2.1, he4, by omega⟩
      have hkb : g_i M b (ci + 4) = e.1 := he'.val.2.2.2
      refine ⟨fun _ => e_nm3 (d := dd + 226) (j := 93) (j2 := 40) (by decide) rfl hR he' (fun h => ?_) fun h => ?_, fun z => absurd rfl z⟩
      · intro _ _ _
        refine ⟨fun z => absurd z (by decide), fun _ => ⟨b, hR.2.1, 2706210, hR.2.2, ⟨by omega, by omega⟩, fun k3 => ?_, fun k3 => h225 (T_fe_0 hch fun z => k3 (hkb.trans z.1))⟩⟩
        have hek : e.1 = 3 := hkb.symm.trans k3
        have hfe := T_fe_1 hch ⟨hek, h⟩
        obtain ⟨D', eD', hdc⟩ := he'.dce hek
        refine e_vl2 (d := dd + 228) hR he' ?_
        intro _ _ _
        have hLc : L_at (ci + 4 + 2 + e.2.1.length + 4) (b_ch e.2.2) = L_ch (q + 6 + it.2.1.length) e := by
          rw [hci6]
          exact he'.lch.symm
        refine e_filterIsRight (dd := dd + 29) (D := D') hR hdc (by omega) (by omega) ⟨by omega, by omega⟩ (fun z M1 f1 => ?_) fun z M1 f1 w1 w2 => ?_
        · intro _ _ _
          rw [hLc] at z
          obtain ⟨k1, k2⟩ := hC.fx f1 (fun y k z => E_CS.pe z) (fun z => by have := z.2; omega) fun k z => hC.2.2.1.ne.2.1 z.1
          have eb : g_i M1 b = g_i M b := funext fun k => f1.2.1 b k fun z => hmb z.1.symm
          have hbt1 : E_belt m b be g ds M1 := hbt.keep f1 (fun z => by have := z.2; omega) (fun k z => hC.1.1.ne.2.2.1 z.1.symm) fun k _ _ z => hmb z.1.symm
          refine ⟨fun z => absurd z (by decide), fun _ => e_thin (dd := dd) (g := g) (De := D2) (Di := De) hcR hv2 k2 hbt1 (by rw [eb]; exact hit) (by rw [eb]; exact he) hek (by omega) ((K_good 20 (b_ch e.2.2) (q + 6 + it.2.1.length + 6 + e.2.1.length) 0).1 z) fun M2 f2 hC2 h24 hbt2 => ?_⟩
          refine hnext M2 _ g (T_pl_fg hfe z) (k1.tr f2) hC2 ?_ hg01 hbt2
          rw [h24, f1.2.1 m 24 fun z => by have := z.2; omega]
          exact hg
        · intro _ _ _
          rw [hLc] at z w1 w2
          obtain ⟨k1, k2⟩ := hC.fx f1 (fun y k z => E_CS.pe z) (fun z => by have := z.2; omega) fun k z => hC.2.2.1.ne.2.1 z.1
          have hko := ((K_F_ok 20).1 (L_ch (q + 6 + it.2.1.length) e) 0).1
          have h9 := T_pl_ff (n := n) (os := os) (ds := ds) (z := (q, it)) (zs := L_at (q + (b_el it.1 it.2.1 it.2.2).length) its) hfe z
          rw [h9] at hf
          have h10 : 10 + ((K_F 20).1 (L_ch (q + 6 + it.2.1.length) e) 0).1 ≠ 0 := by omega
          refine ⟨fun _ => hf h10 M1 (f.tr k1) k2 ?_ w1 w2, fun z => absurd rfl z⟩
          rw [f1.2.1 m 24 fun z => by have := z.2; omega, hg]
          exact hg01
      · intro _ _ _
        exact ⟨fun _ => h225 (T_fe_0 hch fun z => h z.2), fun z => absurd rfl z⟩
    · refine ⟨fun z => ?_, fun _ => h225 (T_fe_no fun e z => g1 ⟨e, hch.symm.trans z⟩)⟩
      exfalso
      cases es with
      | nil => exact absurd z (by simp)
      | cons e rest =>
        cases rest with
        | nil => exact g1 ⟨e, rfl⟩
        | cons x y =>
          rw [List.length_cons, List.length_cons] at z
          omega
end EPIPE
