/-! STAGES: $group, the reference: what is said of a group -/
theorem G_cd_1 : G_cd (b_tx 49) = 1 := by decide +kernel
theorem G_cd_2 : G_cd (b_tx 50) = 2 := by decide +kernel
theorem G_cd_4 : G_cd (b_tx 52) = 4 := by decide +kernel
theorem G_cd_5 : G_cd (b_tx 53) = 5 := by decide +kernel
theorem G_cd_6 : G_cd (b_tx 54) = 6 := by decide +kernel
theorem G_cd_7 : G_cd (b_tx 55) = 7 := by decide +kernel
theorem G_cd_8 : G_cd (b_tx 56) = 8 := by decide +kernel
section EGATHER2
variable {m b ma be go fo gi l n : Nat} {M0 M M1 : g_M} {lo g : Int} {ds : List (List b_E)} {yb a x : b_E} {U : List Int}
theorem e_gather {d Dx Da : Nat} {Q : g_M → Prop} {qx qa : Int} (h0 : G_e0 m b ma be go fo lo g ds M0) (h : G_eX n yb ds m b ma go fo lo M0 M) (hg : (G_lk n yb ds ds.length)[gi]? = some l) (hx : b_st (g_i M0 b) 2100 qx Dx x.1 x.2.1 x.2.2) (ha : b_st (g_i M0 b) 2100 qa Da a.1 a.2.1 a.2.2) (hax : G_a x = a) (hcd : G_cd a.2.1 ≠ 0) (hDa : Da ≤ 30) (hef : S_ef a = false) (hn : 16 ≤ n) (hW : e_Wr m b lo (lo + 60000) U M) (h33 : g_i M m 33 = 0 ∨ g_i M m 33 = 1) (hq : ∀ M1, e_fr (G_eW m b lo) M M1 → e_Wr m b lo (lo + 60000) (U ++ b_el (G_el n (G_ms n yb ds l) x).1 x.2.1 (G_el n (G_ms n yb ds l) x).2.2) M1 → (G_bd n (G_ms n yb ds l) x → g_i M1 m 33 = 0) → (¬ G_bd n (G_ms n yb ds l) x → g_i M1 m 33 = g_i M m 33) → Q M1) : g_Call (d + 71) 350 [.ref m, g_n qx, g_n qa, g_n gi] M (g_qV Q) := by
  obtain ⟨l1, l2, l3⟩ := G_lk_mem hg
  have hl200 := h0.2.2.2.1.2.1.1
  have hgl := (List.getElem?_eq_some_iff.mp hg).1
  have hlk := @G_lk_len n yb ds ds.length
  have hqaR : g_InR qa := by have := ha.2.2.2.1; have := ha.2.2.2.2; exact ⟨by omega, by omega⟩
  have hx4 := hx.2.2.2.1
  have hx5 := hx.2.2.2.2
  rw [b_el_len] at hx5
  have hqxR : g_InR qx := ⟨by omega, by omega⟩
  obtain ⟨-, hno, k3, k4, k5, k6⟩ := h0.st h
  have hpe := G_pv_end n yb ds l x
  rw [hax] at hpe
  have hvl : (G_vs n x (G_ms n yb ds l)).length ≤ 200 := by
    rw [← hpe]
    have := @G_pv_len n yb ds l a ds.length
    omega
  have haM := h0.rq h ha
  have hxM := h0.rq h hx
  have haM2 : b_st (g_i M b) 2706210 qa Da a.1 a.2.1 a.2.2 := ⟨haM.1, haM.2.1, haM.2.2.1, haM.2.2.2.1, by have := haM.2.2.2.2; omega⟩
  have hmb : Unit → m ≠ b := fun _ => h0.1.1.ne.1
  have hupW : ∀ {y : Nat} {k : Int}, (e_WL m b lo (lo + 60000) y k ∨ E_VF m b 2606200 y k) → G_eW m b lo y k := fun z => z.elim Or.inl fun z => Or.inr (Or.inl z)
  have h33k : ∀ {Ma Mb : g_M}, e_fr (fun y k => e_WL m b lo (lo + 60000) y k ∨ E_VF m b 2606200 y k) Ma Mb → g_i Mb m 33 = g_i Ma m 33 := fun f => f.2.1 m 33 fun z => by
    rcases z with (⟨-, z⟩ | ⟨z, -⟩) | z
    · omega
    · exact hmb () z
    · exact (E_VF.gn h0.1).2.1 z
  have hel : G_el n (G_ms n yb ds l) x = G_w x (G_vs n x (G_ms n yb ds l)) := rfl
  have hnb : G_cd a.2.1 ≠ 2 → ¬ G_bd n (G_ms n yb ds l) x := fun z w => z (by have := w.1; rwa [hax] at this)
  -- counts and sums
  have htot : ∀ sm : Bool, a.2.1 = (if sm = true then b_tx 50 else b_tx 49) → g_Call (d + 70) 353 [.ref m, g_n qx, g_n qa, g_n gi] M (g_qV fun M7 => g_ext M M7 → g_ok M7 → Q M7) := by
    intro sm hnm
    refine e_putTotal (d := d + 3) h0 h hg hx ha hDa hef hn hnm hW h33 fun M1 f1 W1 o1 o2 => ?_
    intro _ _
    rw [hpe] at W1 o1 o2
    cases sm
    · rw [if_neg (by decide)] at hnm
      have hc : G_cd a.2.1 = 1 := by rw [hnm]; exact G_cd_1
      have hz : G_zz false (G_vs n x (G_ms n yb ds l)) = (G_vs n x (G_ms n yb ds l)).length := rfl
      refine hq M1 f1 ?_ (fun z => absurd z (hnb (by rw [hc]; decide))) fun _ => o2 ?_
      · rw [hel]
        unfold G_w
        rw [hax, hc, if_pos rfl]
        exact W1
      · rw [hz]
        unfold G_over
        omega
    · rw [if_pos rfl] at hnm
      have hc : G_cd a.2.1 = 2 := by rw [hnm]; exact G_cd_2
      have hz : G_zz true (G_vs n x (G_ms n yb ds l)) = G_z (G_vs n x (G_ms n yb ds l)) := rfl
      rw [hz] at W1 o1 o2
      refine hq M1 f1 ?_ (fun z => o1 z.2) fun z => o2 fun w => z ⟨by rw [hax]; exact hc, w⟩
      rw [hel]
      unfold G_w
      rw [hax, hc, if_neg (by decide), if_pos rfl]
      exact W1
  -- rows
  have h54 : ∀ once : Bool, a.2.1 = (if once = true then b_tx 56 else b_tx 55) → g_Run (d + 70) 350 54 [(0, .ref m), (1, g_n qx), (2, g_n qa), (3, g_n gi)] [] M (g_qV Q) := by
    intro once hnm
    refine s_X12_gather_54 hqxR hqaR ⟨by omega, by omega⟩ fun _ => ⟨k3.1.1.1, e_putName (d := d + 66) (kd := 4) ⟨by decide, by decide⟩ k5 hxM hW fun M2 f2 W2 => ?_⟩
    intro _ _
    have h2 := h.w h0 (f2.up fun _ _ z => Or.inl z)
    have haM3 := h0.rq h2 ha
    have hcall : ∀ w : Int, w = (if once = true then 1 else 0) → g_ext M2 M2 → g_ok M2 → g_InR w → g_Call (d + 70) 354 [.ref m, g_n qa, g_n gi, g_n w] M2 (g_qV fun M10 => g_ext M2 M10 → g_ok M10 → Q M10) := by
      intro w hw _ _ _
      rw [hw]
      refine e_putGathered (d := d + 1) h0 h2 hg ha hDa hef hn W2 fun M3 f3 W3 => ?_
      intro _ _
      rw [hpe] at W3
      have hc : G_cd a.2.1 = if once = true then 8 else 7 := by
        cases once
        · rw [if_neg (by decide)] at hnm ⊢
          rw [hnm]
          exact G_cd_7
        · rw [if_pos rfl] at hnm ⊢
          rw [hnm]
          exact G_cd_8
      refine hq M3 ((f2.up fun _ _ z => Or.inl z).tr (f3.up fun _ _ => hupW)) ?_ (fun z => absurd z (hnb (by rw [hc]; split <;> decide))) fun _ => ?_
      · have ew : U ++ (4 :: (x.2.1 ++ [0])) ++ b_doc (G_row 0 (G_st once [] (G_vs n x (G_ms n yb ds l)))) = U ++ b_el (G_el n (G_ms n yb ds l) x).1 x.2.1 (G_el n (G_ms n yb ds l) x).2.2 := by
          have hon : (G_cd a.2.1 == 8) = once := by
            rw [hc]
            cases once <;> rfl
          rw [hel]
          unfold G_w
          rw [hax, hon, if_neg (by rw [hc]; split <;> decide), if_neg (by rw [hc]; split <;> decide), if_neg (by rw [hc]; split <;> decide), if_neg (by rw [hc]; split <;> decide), if_neg (by rw [hc]; split <;> decide), if_neg (by rw [hc]; split <;> decide)]
          unfold b_el
          simp
        rw [ew] at W3
        exact W3
      · rw [h33k f3, G_eX.e33 h0 f2]
    refine e_nm3 (d := d + 66) (j := 119) (j2 := 56) (by decide) rfl (h0.st h2).2.2.1.1.1 (p := qa) (k := a.1) (D := Da) (nm := a.2.1) (vb := a.2.2) ⟨haM3.1, haM3.2.1, haM3.2.2.1, haM3.2.2.2.1, by have := haM3.2.2.2.2; omega⟩ (fun hs => ?_) fun hs => ?_
    · cases once
      · rw [if_neg (by decide)] at hnm
        exact absurd (hnm.symm.trans hs) (by decide +kernel)
      · exact hcall 1 rfl
    · cases once
      · exact hcall 0 rfl
      · rw [if_pos rfl] at hnm
        exact absurd hnm hs
  -- one value
  have h129 : ∀ (M2 : g_M) (w0 : Int) (o : Option b_E), g_InR w0 → e_fr (E_VF m b 2606200) M M2 → ((w0 = -1 ∧ o = none) ∨ ∃ i : Nat, w0 = i ∧ i < ds.length ∧ V_of n a (ds.getD i []) = o) → G_cd a.2.1 ≠ 2 → G_w x (G_vs n x (G_ms n yb ds l)) = G_1 x o → g_Run (d + 70) 350 129 [(0, .ref m), (1, g_n qx), (2, g_n qa), (3, g_n gi)] [g_n w0] M2 (g_qV Q) := by
    intro M2 w0 o hw0R f2 hw hc2 hgw
    have h2 := h.vf h0 f2
    obtain ⟨-, hno2, m3, m4, -, -⟩ := h0.st h2
    have W2 := e_Wr.vf hW.1 k6 (by decide) hW f2
    have hxM2 := h0.rq h2 hx
    have hend : ∀ (M3 : g_M) (p : Int), e_fr (E_VF m b 2606200) M M3 → G_ev (g_i M3 b) lo p (J_v o) → g_Call (d + 70) 254 [.ref m, g_n (qx + 1), g_n (qx + 1 + x.2.1.length), g_n p] M3 (g_qV fun M26 => g_ext M3 M26 → g_ok M26 → Q M26) := by
      intro M3 p f3 hp
      obtain ⟨nm, p1, p2⟩ := hp
      have h3 := h.vf h0 f3
      have W3 := e_Wr.vf hW.1 k6 (by decide) hW f3
      have hx3 := h0.rq h3 hx
      refine e_putAs (d := d + 65) W3 p1 p2 hx3.nmb (by omega) (by omega) (Or.inl (by omega)) fun M26 f26 W26 => ?_
      intro _ _
      have f326 : e_fr (fun y k => e_WL m b lo (lo + 60000) y k ∨ E_VF m b 2606200 y k) M M26 := (f3.up fun _ _ z => Or.inr z).tr (f26.up fun _ _ z => Or.inl z)
      refine hq M26 (f326.up fun _ _ => hupW) ?_ (fun z => absurd z (hnb hc2)) fun _ => h33k f326
      rw [hel, hgw]
      exact W26
    refine s_X12_gather_129 hqxR hqaR ⟨by omega, by omega⟩ hw0R fun _ => ⟨⟨by omega, by omega⟩, m3.1.1.1, e_nameEnd (d := d + 69) m3.1.1 (b_st.nm ⟨hxM2.1, hxM2.2.1, hxM2.2.2.1, hxM2.2.2.2.1, by have := hxM2.2.2.2.2; exact Int.le_trans this (by decide)⟩) ?_⟩
    intro _ _ _
    rcases hw with ⟨w1, w2⟩ | ⟨i, w1, w2, w3⟩
    · refine ⟨fun _ => hend M2 2706200 f2 ?_, fun z => absurd (by omega) z⟩
      rw [w2]
      exact ⟨[], b_st_no hno2 (by decide) (by decide) 30, Or.inr (by omega)⟩
    · refine ⟨fun z => absurd z (by omega), fun _ => ⟨be, m3.1.2.2.1, _, m3.1.2.2.2.2.1, by rw [w1]; exact ⟨by omega, by omega⟩, ?_⟩⟩
      obtain ⟨es, hes⟩ : ∃ es, ds[i]? = some es := ⟨_, List.getElem?_eq_getElem w2⟩
      have hgk : ds.getD i [] = es := by rw [List.getD_eq_getElem?_getD, hes]; rfl
      rw [hgk] at w3
      obtain ⟨p, p1, p2, p3⟩ := h0.ed h2 hes
      rw [w1, p1]
      refine e_freshE (n := n) (by omega) m3.1.1 k5 k6 (h0.rq h2 ha) hef hDa p2.1 p2.2.1 p2.2.2.1 p2.2.2.2.1 hn p2.2.2.2.2.1 p2.2.2.2.2.2 fun M3 v ls f3 h26 hl1 hl2 hv => ?_
      intro _ _ hvR
      rw [w3] at hv
      refine e_orN (d := d + 69) hvR ?_
      intro _ _ _
      have f23 := f2.tr f3
      have h3 := h.vf h0 f23
      exact hend M3 _ f23 (hv.no (h0.st h3).2.1 k6)
  -- which one it is
  have hone : ∀ last : Bool, a.2.1 = (if last = true then b_tx 54 else b_tx 53) → g_Call (d + 70) 351 [.ref m, g_n gi, g_n (if last = true then 1 else 0)] M (g_qI fun r M2 => g_ext M M2 → g_ok M2 → g_InR r → g_Run (d + 70) 350 129 [(0, .ref m), (1, g_n qx), (2, g_n qa), (3, g_n gi)] [g_n r] M2 (g_qV Q)) := by
    intro last hnm
    refine e_end (d := d + 69) (a := a) h0 h hg fun i hi hv => ?_
    intro _ _ hiR
    refine h129 M i _ hiR (e_fr.rf _ _) (Or.inr ⟨i, rfl, hi, rfl⟩) ?_ ?_
    · cases last
      · rw [if_neg (by decide)] at hnm
        rw [hnm, G_cd_5]
        decide
      · rw [if_pos rfl] at hnm
        rw [hnm, G_cd_6]
        decide
    · rw [← hv, hpe]
      cases last
      · rw [if_neg (by decide)] at hnm
        have hc : G_cd a.2.1 = 5 := by rw [hnm]; exact G_cd_5
        unfold G_w
        rw [hax, hc, if_neg (by decide), if_neg (by decide), if_neg (by decide), if_neg (by decide), if_pos rfl]
        rfl
      · rw [if_pos rfl] at hnm
        have hc : G_cd a.2.1 = 6 := by rw [hnm]; exact G_cd_6
        unfold G_w
        rw [hax, hc, if_neg (by decide), if_neg (by decide), if_neg (by decide), if_neg (by decide), if_neg (by decide), if_pos rfl]
        rfl
  have hnm' : ∀ {j j2 : Nat} {Q1 : Int → g_M → Prop}, j < q_nS → b_tx j = b_tx j2 → (a.2.1 = b_tx j2 → Q1 1 M) → (a.2.1 ≠ b_tx j2 → Q1 0 M) → g_Call (d + 70) 236 [.ref m, g_n qa, .ref (4 * j + 1)] M (g_qI Q1) := fun {j j2 Q1} hj hjj h1 h2 => e_nm3 (d := d + 66) hj hjj k3.1.1 haM2 h1 h2
  refine m_X12_gather hqxR hqaR ⟨by omega, by omega⟩ fun _ => ⟨k3.1.1.1, hnm' (j := 120) (j2 := 49) (by decide) rfl (fun hs => ?_) fun s1 => ?_⟩
  · exact fun _ _ _ => ⟨fun z => absurd z (by decide), fun _ => htot false (by rw [if_neg (by decide)]; exact hs)⟩
  refine fun _ _ _ => ⟨fun _ => hnm' (j := 113) (j2 := 50) (by decide) rfl (fun hs => ?_) fun s2 => ?_, fun z => absurd rfl z⟩
  · exact fun _ _ _ => ⟨fun z => absurd z (by decide), fun _ => htot true (by rw [if_pos rfl]; exact hs)⟩
  refine fun _ _ _ => ⟨fun _ => hnm' (j := 118) (j2 := 55) (by decide) rfl (fun hs => ?_) fun s7 => ?_, fun z => absurd rfl z⟩
  · exact fun _ _ _ => ⟨fun z => absurd z (by decide), fun _ => h54 false (by rw [if_neg (by decide)]; exact hs)⟩
  refine fun _ _ _ => ⟨fun _ => hnm' (j := 119) (j2 := 56) (by decide) rfl (fun hs => ?_) fun s8 => ?_, fun z => absurd rfl z⟩
  · exact fun _ _ _ => ⟨fun z => absurd z (by decide), fun _ => h54 true (by rw [if_pos rfl]; exact hs)⟩
  refine fun _ _ _ => ⟨fun _ => hnm' (j := 116) (j2 := 53) (by decide) rfl (fun hs => ?_) fun s5 => ?_, fun z => absurd rfl z⟩
  · refine fun _ _ _ => ⟨fun z => absurd z (by decide), fun _ => hnm' (j := 117) (j2 := 54) (by decide) rfl (fun hs2 => ?_) fun _ => ?_⟩
    · exact absurd (hs.symm.trans hs2) (by decide +kernel)
    · exact fun _ _ _ => hone false (by rw [if_neg (by decide)]; exact hs)
  refine fun _ _ _ => ⟨fun _ => hnm' (j := 117) (j2 := 54) (by decide) rfl (fun hs => ?_) fun s6 => ?_, fun z => absurd rfl z⟩
  · refine fun _ _ _ => ⟨fun z => absurd z (by decide), fun _ => hnm' (j := 117) (j2 := 54) (by decide) rfl (fun hs2 => ?_) fun hs2 => absurd hs hs2⟩
    exact fun _ _ _ => hone true (by rw [if_pos rfl]; exact hs)
  -- the greatest, the least
  have hmost : ∀ w3 w : Int, ((w3 = 0 ∧ w = -1 ∧ a.2.1 ≠ b_tx 52) ∨ (w3 = 1 ∧ w = 1 ∧ a.2.1 = b_tx 52)) → g_ext M M → g_ok M → g_InR w3 → g_Call (d + 70) 352 [.ref m, g_n qa, g_n gi, g_n w3] M (g_qI fun r M2 => g_ext M M2 → g_ok M2 → g_InR r → g_Run (d + 70) 350 129 [(0, .ref m), (1, g_n qx), (2, g_n qa), (3, g_n gi)] [g_n r] M2 (g_qV Q)) := by
    intro w3 w hw _ _ _
    have hc : G_cd a.2.1 = if w = 1 then 4 else 3 := by
      rcases hw with ⟨-, w2, w4⟩ | ⟨-, w2, w4⟩
      · rw [w2, if_neg (by decide)]
        have h9 := hcd
        unfold G_cd at h9 ⊢
        rw [if_neg s1, if_neg s2] at h9 ⊢
        by_cases g3 : a.2.1 = b_tx 51
        · rw [if_pos g3]
        · rw [if_neg g3, if_neg w4, if_neg s5, if_neg s6, if_neg s7, if_neg s8] at h9
          exact absurd rfl h9
      · rw [w2, if_pos rfl, w4]
        exact G_cd_4
    have hgw : G_w x (G_vs n x (G_ms n yb ds l)) = G_1 x (G_ext w (G_vs n x (G_ms n yb ds l))) := by
      unfold G_w
      rw [hax, hc]
      rcases hw with ⟨-, w2, -⟩ | ⟨-, w2, -⟩
      · rw [w2, if_neg (show ¬ (-1 : Int) = 1 by decide), if_neg (by decide), if_neg (by decide), if_pos rfl]
      · rw [w2, if_pos (show (1 : Int) = 1 from rfl), if_neg (by decide), if_neg (by decide), if_neg (by decide), if_pos rfl]
    have hc2 : G_cd a.2.1 ≠ 2 := by rw [hc]; split <;> decide
    refine e_most (d := d + 3) (w := w) h0 h hg ha hDa hef hn (hw.elim (fun z => Or.inl ⟨z.1, z.2.1⟩) fun z => Or.inr ⟨z.1, z.2.1⟩) (fun M2 f2 hv => ?_) fun M2 i f2 hi hv => ?_
    · intro _ _ hR
      rw [hpe] at hv
      exact h129 M2 (-1) none hR f2 (Or.inl ⟨rfl, rfl⟩) hc2 (by rw [hgw, hv])
    · intro _ _ hR
      rw [hpe] at hv
      exact h129 M2 i _ hR f2 (Or.inr ⟨i, rfl, hi, rfl⟩) hc2 (by rw [hgw, hv])
  refine fun _ _ _ => ⟨fun _ => hnm' (j := 115) (j2 := 52) (by decide) rfl (fun hs => hmost 1 1 (Or.inr ⟨rfl, rfl, hs⟩)) fun hs => hmost 0 (-1) (Or.inl ⟨rfl, rfl, hs⟩), fun z => absurd rfl z⟩
end EGATHER2
