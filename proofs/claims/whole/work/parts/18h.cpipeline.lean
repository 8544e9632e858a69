/-! STAGES: the pipeline of a request, the class -/
section CPIPE
variable {x so r b po pf pt tp tf tt ou sc be fr sv oa ke gr va kk wa o qo qf qt ow ab : Nat} {M : g_M} {c e0 : Int} {os ds : List (List b_E)}
theorem P_A.nB (hC : P_C so r b po pf pt tp tf tt ou sc be fr sv oa ke gr va kk wa o qo qf qt c e0 M) {y t : Nat} {n : Int} (hy : g_A M y t n) (ht : t ≠ 1) (hb : y ≠ b) : ¬ P_A so b po pf pt tp tf tt ou sc be fr ke gr va kk wa M y := by
  obtain ⟨⟨⟨⟨s1, -, s3⟩, -, ⟨P1, -, -, P4, P5, -⟩, -, ⟨hbe, hfr, -⟩, ⟨hou, -⟩, ⟨hsc, -⟩, -⟩, -, ⟨-, ⟨T1, -, -, T4, T5, -⟩, -⟩, -⟩, ⟨-, -, ⟨hke, hgr, hva⟩, -⟩, ⟨-, -, -, -, ⟨-, hwa⟩, hrows, -⟩, -⟩ := hC
  have h1 : ∀ {z : Nat} {n : Int}, g_A M z 1 n → y ≠ z := fun hz => g_neAA hy hz fun q => ht q.1
  rintro ((z | (z | z | z) | z | z | z) | (((z | z | z) | ⟨s, hs, z⟩) | z | z | z | z))
  · rcases z with z | z | (z | z | z) | z | z | z | z
    · exact g_neOA s1 hy z.symm
    · exact hb z
    · exact g_neOA P1 hy z.symm
    · exact h1 P4 z
    · exact h1 P5 z
    · exact g_neOA hou hy z.symm
    · exact g_neOA hsc hy z.symm
    · exact h1 hbe z
    · exact h1 hfr z
  · exact g_neOA T1 hy z.symm
  · exact h1 T4 z
  · exact h1 T5 z
  · exact h1 hke z
  · exact h1 hgr z
  · exact h1 hva z
  · exact g_neOA P1 hy z.symm
  · exact h1 P4 z
  · exact h1 P5 z
  · obtain ⟨row, hr1, hr2, -⟩ := hrows s hs
    rw [hr1] at z
    cases z
    exact h1 hr2 rfl
  · exact h1 hwa z
  · exact h1 hva z
  · exact h1 hfr z
  · exact h1 hbe z
theorem P_B.nB (hC : P_C so r b po pf pt tp tf tt ou sc be fr sv oa ke gr va kk wa o qo qf qt c e0 M) {y t : Nat} {n : Int} (hy : g_A M y t n) (ht : t ≠ 1) (hb : y ≠ b) : ¬ P_B so b po pf pt tp tf tt ou sc be fr ke gr va kk wa o qo qf qt M y := by
  rintro (z | z)
  · exact P_A.nB hC hy ht hb z
  · exact F_CS.nA hC hy (fun q => ht q.1) z
theorem P_B.nO (hC : P_C so r b po pf pt tp tf tt ou sc be fr sv oa ke gr va kk wa o qo qf qt c e0 M) {y ci : Nat} (hy : g_O M y ci) (h9 : ci ≠ 9) (h2 : ci ≠ 2) (h4 : ci = 4 → ou ≠ y ∧ sc ≠ y) (h5 : ci = 5 → po ≠ y ∧ tp ≠ y ∧ y ≠ qo) : ¬ P_B so b po pf pt tp tf tt ou sc be fr ke gr va kk wa o qo qf qt M y := by
  rintro (z | z)
  · exact P_A.nO hC hy h9 h4 (fun q => ⟨(h5 q).1, (h5 q).2.1⟩) z
  · exact F_CS.nO hC hy h2 (fun q => (h5 q).2.2) z
theorem c_Wr.U {A : Nat → Prop} {u : List Int} {M1 : g_M} (hW : c_Wr ow ab 8000 0 8000 u M) (hP : k_P M r b c e0 []) (k : k_F A r M M1) (h1 : ¬ A ow) (h2 : ¬ A ab) : c_Wr ow ab 8000 0 8000 u M1 := by
  obtain ⟨⟨w1, w2, w3, w4⟩, w5, w6, w7⟩ := hW
  have e1 := k.O hP w1 (by decide) h1
  have e2 := k.A hP w3 (fun z => absurd z (by decide)) h2
  refine ⟨⟨w1.up k.1, by rw [e1.2]; exact w2, w3.up k.1, w4⟩, w5, w6, ?_⟩
  unfold w_W at w7 ⊢
  rw [e1.1, e2.1]
  exact w7
theorem c_pipeline {n De dd sh s0 s1 cur oh : Nat} {Q : g_M → Prop} {pe : Int} {hd : b_E} {u : List Int} (hn : 16 ≤ n) (hDe : De ≤ 18) (hC : P_C so r b po pf pt tp tf tt ou sc be fr sv oa ke gr va kk wa o qo qf qt c e0 (g_wr M so 13 (some sv))) (hx : g_O M x 11) (x0 : g_r M x 0 = some b) (x1 : g_r M x 1 = some ow) (x3 : g_r M x 3 = some o) (x5 : g_r M x 5 = some so) (x9 : g_r M x 9 = some sh) (x16 : g_r M x 16 = some cur) (hsh : g_A M sh 4 2) (h0 : g_r M sh 0 = some s0) (h1 : g_r M sh 1 = some s1) (hs0 : g_O M s0 8) (hs1 : g_O M s1 8) (h01 : s0 ≠ s1) (hcs : (cur = s0 ∧ sv = s1) ∨ (cur = s1 ∧ sv = s0)) (hoh : g_r M cur 2 = some oh) (hoA : g_A M oh 1 200) (hne : oh ≠ be) (hds : P_sh b cur oh ds M) (hos : J_os b sv oa os M) (hno : b_at (g_i M b) 0 [10, 0]) (h14 : g_i M x 14 = pe) (hs : b_st (g_i M b) 2100 pe (De + 1) hd.1 hd.2.1 hd.2.2) (hk4 : hd.1 = 4) (hk3 : ∀ it ∈ b_ch hd.2.2, it.1 = 3) (hW : c_Wr ow ab 8000 0 8000 u M) (how : ow ≠ ou ∧ ow ≠ sc) (hf : (T_pl n os (L_ch pe hd) ds).1.1 ≠ 0 → ∀ M1, S_U (P_B so b po pf pt tp tf tt ou sc be fr ke gr va kk wa o qo qf qt (g_wr M so 13 (some sv))) so r b po pf pt tp tf tt ou sc c e0 [] (g_wr M so 13 (some sv)) M1 → P_C so r b po pf pt tp tf tt ou sc be fr sv oa ke gr va kk wa o qo qf qt c e0 M1 → Q (g_wi (g_wi M1 x 17 (T_pl n os (L_ch pe hd) ds).1.1) x 18 ((T_pl n os (L_ch pe hd) ds).1.2 - 4))) (hq : (T_pl n os (L_ch pe hd) ds).1.1 = 0 → ∀ M1 M2, S_U (P_B so b po pf pt tp tf tt ou sc be fr ke gr va kk wa o qo qf qt (g_wr M so 13 (some sv))) so r b po pf pt tp tf tt ou sc c e0 [] (g_wr M so 13 (some sv)) M1 → P_C so r b po pf pt tp tf tt ou sc be fr sv oa ke gr va kk wa o qo qf qt c e0 M1 → e_fr (c_WL ow ab 0 8000) M1 M2 → c_Wr ow ab 8000 0 8000 (u ++ P_an (T_pl n os (L_ch pe hd) ds).2) M2 → Q M2) : g_Call (dd + 231) 223 [.ref x] M (g_qV Q) := by
  obtain ⟨M', hM'⟩ : ∃ M', M' = g_wr M so 13 (some sv) := ⟨_, rfl⟩
  have hs9 : g_O M so 9 := by
    have h9 := hC.1.1.1.1
    exact h9
  have er : ∀ y k, (y = so ∧ k = 13 → False) → g_r M' y k = g_r M y k := fun y k h => by
    rw [hM', g_r_wr, if_neg h]
  have ei : ∀ y k, g_i M' y k = g_i M y k := fun y k => by rw [hM']; rfl
  have eO : ∀ {y ci : Nat}, g_O M y ci → g_O M' y ci := fun h => by rw [hM']; exact h
  have eA : ∀ {y t : Nat} {n : Int}, g_A M y t n → g_A M' y t n := fun h => by rw [hM']; exact h
  have nxs : x ≠ so := g_neOO hx hs9 (by decide)
  have hg := hk4
  obtain ⟨D1, eD, hkids, hkl⟩ := hs.kids (Or.inr hk4)
  have hs4 := hs.2.2.2.1
  have hs5 := hs.2.2.2.2
  have hel := b_el_len hd.1 hd.2.1 hd.2.2
  have hmany := b_ser_many (b_ch hd.2.2)
  have hpeR : g_InR pe := ⟨by omega, by omega⟩
  have hb3 : g_A M b 0 246408 := hC.1.1.1.2.2
  have hP' : k_P M' r b c e0 [] := by rw [hM']; exact hC.2.2.1.2.1
  have hC' : P_C so r b po pf pt tp tf tt ou sc be fr sv oa ke gr va kk wa o qo qf qt c e0 M' := by rw [hM']; exact hC
  have hib : g_i M' b = g_i M b := funext fun k => ei b k
  have hoM' : J_os b sv oa os M' := ⟨by rw [ei]; exact hos.1, hos.2.1, fun i es hi => by
    obtain ⟨p, p1, p2⟩ := hos.2.2 i es hi
    exact ⟨p, by rw [ei]; exact p1, by rw [hib]; exact p2⟩⟩
  -- from the beginning of the belt on
  have hgo : ∀ M4, S_U (P_B so b po pf pt tp tf tt ou sc be fr ke gr va kk wa o qo qf qt (g_wr M so 13 (some sv))) so r b po pf pt tp tf tt ou sc c e0 [] (g_wr M so 13 (some sv)) M4 → P_C so r b po pf pt tp tf tt ou sc be fr sv oa ke gr va kk wa o qo qf qt c e0 M4 → g_i M4 sv = g_i M sv → g_i M4 oa = g_i M oa → g_r M4 kk = g_r M kk → g_i M4 so 17 = 0 → S_belt so b be 0 ds M4 → ∃ b', g_r M4 x 0 = some b' ∧ g_Call (dd + 230) 112 [.ref b', g_n (g_i M4 x 14)] M4 (g_qI fun r33 M30 => g_ext M4 M30 → g_ok M30 → g_InR r33 → g_Run (dd + 230) 223 53 [(0, .ref x), (1, g_n r33), (2, g_n 0)] [] M30 (g_qV Q)) := by
    intro M4 hU4 hC4 a1 a2 a3 a4 a5
    rw [← hM'] at hU4 hf hq
    have hnx := P_B.nx hC' (eO hx)
    obtain ⟨ex1, ex2⟩ := hU4.1.1.O hP' (eO hx) (by decide) hnx
    have hit := hU4.1.req (q := pe) (D := De + 1) (k := hd.1) (nm := hd.2.1) (vb := hd.2.2) (by rw [hib]; exact hs)
    refine ⟨b, by rw [ex2, er x 0 fun z => nxs z.1]; exact x0, ?_⟩
    rw [ex1, ei, h14]
    refine c_fi2 (d := dd + 229) (hC4.1.1.1.2.2) (by decide) hit.lim ?_
    intro _ _ _
    have eL : L_at (pe + 6 + hd.2.1.length) (b_ch hd.2.2) = L_ch pe hd := rfl
    have h9 := c_pipe (x := x) (n := n) (De := D1) (dd := dd) (Q := Q) (os := os) hn (by omega) hC' (eO hx) (by rw [er x 0 fun z => nxs z.1]; exact x0) (by rw [er x 3 fun z => nxs z.1]; exact x3) (by rw [er x 5 fun z => nxs z.1]; exact x5) hoM' (by rw [hib]; exact hno) (b_ch hd.2.2) 0 (pe + 6 + hd.2.1.length) M4 ds 0 hU4 hC4 (a1.trans (funext fun k => (ei sv k).symm)) (a2.trans (funext fun k => (ei oa k).symm)) (a3.trans (funext fun k => (er kk k fun z => g_neOA hs9 hC.2.2.1.2.2.2.1.2 z.1.symm).symm)) a4 (Or.inl rfl) a5 (by rw [hib]; exact hkids) hk3 (by omega) (by rw [eL]; exact fun z M1 k1 k2 => hf z M1 k1 k2) (by
      rw [eL]
      intro z M1 g1 v1 v2 k1 k2 k3 k4 k5 k6
      obtain ⟨ey1, ey2⟩ := k1.1.1.O hP' (eO hx) (by decide) hnx
      have hW' : c_Wr ow ab 8000 0 8000 u M' := by
        obtain ⟨⟨w1, w2, w3, w4⟩, w5, w6, w7⟩ := hW
        refine ⟨⟨eO w1, by rw [er ow 0 fun z => g_neOO w1 hs9 (by decide) z.1]; exact w2, eA w3, w4⟩, w5, w6, ?_⟩
        rw [hM']
        exact w7
      have nab : ab ≠ b := g_neAA hW.1.2.2.1 hb3 (by omega)
      have hW1 := hW'.U hP' k1.1.1 (P_B.nO hC' hW'.1.1 (by decide) (by decide) (fun _ => ⟨how.1.symm, how.2.symm⟩) fun z => absurd z (by decide)) (P_B.nB hC' hW'.1.2.2.1 (by decide) nab)
      exact c_tell (d := dd + 226) (u := u) (ab := ab) (ow := ow) k5 k6 ((eO hx).up k1.1.1.1) (by rw [ey2, er x 0 fun z => nxs z.1]; exact x0) (by rw [ey2, er x 1 fun z => nxs z.1]; exact x1) (by rw [ey2, er x 5 fun z => nxs z.1]; exact x5) k2.1.1.1 k2.1.1.2.2.2.1.2.2.1 k2.1.1.2.2.2.2.1.1 k4 hW1 fun M2 f2 W2 => hq z M1 M2 k1 k2 f2 W2)
    exact h9
  have hcur8 : g_O M cur 8 := by
    rcases hcs with ⟨z, -⟩ | ⟨z, -⟩ <;> rw [z] <;> assumption
  refine m_X11_pipeline fun _ => ⟨hx, so, x5, cur, x16, cur, x16, sh, x9, 2, hsh, ⟨by decide, by decide⟩, s0, h0, hs0.ev, hcur8.ev, fun z => ?_, fun z => ?_⟩
  · rcases hcs with ⟨z1, z2⟩ | ⟨z1, z2⟩
    · refine ⟨sh, x9, 2, hsh, ⟨by decide, by decide⟩, s1, h1, hs9, ?_⟩
      rw [← z2]
      refine c_begin (d := dd + 229) hC hcur8 hoh hoA hne hds fun M4 k1 k2 k3 k4 k5 k6 k7 => ?_
      intro _ _
      exact hgo M4 k1 k2 k3 k4 k5 k6 k7
    · exact absurd (z.symm.trans z1) h01
  · rcases hcs with ⟨z1, z2⟩ | ⟨z1, z2⟩
    · exact absurd z1 z
    · refine ⟨sh, x9, 2, hsh, ⟨by decide, by decide⟩, s0, h0, hs9, ?_⟩
      rw [← z2]
      refine c_begin (d := dd + 229) hC hcur8 hoh hoA hne hds fun M4 k1 k2 k3 k4 k5 k6 k7 => ?_
      intro _ _
      exact hgo M4 k1 k2 k3 k4 k5 k6 k7
end CPIPE
