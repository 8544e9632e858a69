/-! STAGES: $lookup: what may be wrong -/
noncomputable def J_3 (h t a : b_E) : Int := @ite _ (h.1 = 2 ∧ h.2.1 = b_tx 57 ∧ t.1 = 2 ∧ t.2.1 = b_tx 58 ∧ a.1 = 2 ∧ a.2.1 = b_tx 59 ∧ S_pl (s_tx a.2.2) = true) (Classical.propDecidable _) (@ite _ (p_plain (s_tx h.2.2) ∧ p_plain (s_tx t.2.2)) (Classical.propDecidable _) 0 3) 2
theorem J_3_2 {h t a : b_E} (g : ¬ (h.1 = 2 ∧ h.2.1 = b_tx 57 ∧ t.1 = 2 ∧ t.2.1 = b_tx 58 ∧ a.1 = 2 ∧ a.2.1 = b_tx 59 ∧ S_pl (s_tx a.2.2) = true)) : J_3 h t a = 2 := by
  unfold J_3
  rw [if_neg g]
theorem J_3_3 {h t a : b_E} (g : h.1 = 2 ∧ h.2.1 = b_tx 57 ∧ t.1 = 2 ∧ t.2.1 = b_tx 58 ∧ a.1 = 2 ∧ a.2.1 = b_tx 59 ∧ S_pl (s_tx a.2.2) = true) (g2 : ¬ (p_plain (s_tx h.2.2) ∧ p_plain (s_tx t.2.2))) : J_3 h t a = 3 := by
  unfold J_3
  rw [if_pos g, if_neg g2]
theorem J_3_0 {h t a : b_E} (g : h.1 = 2 ∧ h.2.1 = b_tx 57 ∧ t.1 = 2 ∧ t.2.1 = b_tx 58 ∧ a.1 = 2 ∧ a.2.1 = b_tx 59 ∧ S_pl (s_tx a.2.2) = true) (g2 : p_plain (s_tx h.2.2) ∧ p_plain (s_tx t.2.2)) : J_3 h t a = 0 := by
  unfold J_3
  rw [if_pos g, if_pos g2]
noncomputable def J_sf (e : b_E) : Int := if e.1 = 3 then (match b_ch e.2.2 with
  | [h, t, a] => J_3 h t a
  | _ => 2) else 2
section WLOOK
variable {so b po pf pt tp tf tt : Nat} {M : g_M} {Q : Int → g_M → Prop}
theorem c_wrongInLookupN {d De : Nat} {pe v2 v3 v4 : Int} {e : b_E} (hS : S_B so b M) (hs : b_st (g_i M b) 2100 pe De e.1 e.2.1 e.2.2) (r2 : g_InR v2) (r3 : g_InR v3) (r4 : g_InR v4) (hn : ¬ (e.1 = 3 ∧ (b_ch e.2.2).length = 3)) (hq : Q 2 M) : g_Call (d + 4) 168 [.ref so, g_n pe, g_n v2, g_n v3, g_n v4] M (g_qI Q) := by
  obtain ⟨s1, s2, s3⟩ := id hS
  have he4 := hs.2.2.2.1
  have he5 := hs.2.2.2.2
  have hs' : b_st (g_i M b) 246408 pe De e.1 e.2.1 e.2.2 := ⟨hs.1, hs.2.1, hs.2.2.1, he4, by omega⟩
  have hpeR := hs'.R (by decide)
  refine m_X9_wrongInLookup hpeR r2 r3 r4 fun _ => ⟨s1, b, s2, c_kd2 (d := d + 2) s3 (by decide) hs' ?_⟩
  intro _ _ _
  refine ⟨fun hk => ?_, fun _ => hq⟩
  obtain ⟨D9, ys, q1, q2, q3, q4, q5, q6, q7⟩ := b_gv_doc hs.2.2.1 (Or.inl hk)
  have hmany := b_ser_many ys
  have hel := b_el_len e.1 e.2.1 e.2.2
  have hvl := congrArg List.length q2
  rw [b_doc_len] at hvl
  have h9 := hs'.1
  rw [q2] at h9
  refine ⟨b, s2, c_items (d := d + 1) s3 (by decide) h9 hs.2.1 q4 he4 (by rw [← q2]; omega) (by omega) ?_⟩
  intro _ _ _
  exact ⟨fun g3 => absurd ⟨hk, by rw [q7]; omega⟩ hn, fun _ => hq⟩
theorem c_wrongInLookup {d De D1 : Nat} {pe qh qt qa : Int} {e h t a : b_E} (hS : S_B so b M) (h2 : g_r M so 2 = some po) (h3 : g_r M so 3 = some tp) (hP : p_P M po pf pt) (hP2 : p_P M tp tf tt) (hne : po ≠ tp ∧ pf ≠ tf ∧ pf ≠ tt ∧ pt ≠ tf ∧ pt ≠ tt) (hs : b_st (g_i M b) 2100 pe De e.1 e.2.1 e.2.2) (hk3 : e.1 = 3) (hch : b_ch e.2.2 = [h, t, a]) (hh : b_st (g_i M b) 246408 qh D1 h.1 h.2.1 h.2.2) (ht : b_st (g_i M b) 246408 qt D1 t.1 t.2.1 t.2.2) (ha : b_st (g_i M b) 246408 qa D1 a.1 a.2.1 a.2.2) (hq : ∀ M1, g_fr (fun y => p_S po pf pt y ∨ p_S tp tf tt y) M M1 → p_P M1 po pf pt → p_P M1 tp tf tt → (J_3 h t a = 0 → p_is M1 po pf pt b (qh + 2 + h.2.1.length + 4) (s_tx h.2.2) ∧ p_is M1 tp tf tt b (qt + 2 + t.2.1.length + 4) (s_tx t.2.2)) → Q (J_3 h t a) M1) : g_Call (d + 4) 168 [.ref so, g_n pe, g_n qh, g_n qt, g_n qa] M (g_qI Q) := by
  obtain ⟨s1, s2, s3⟩ := id hS
  obtain ⟨P1, P2, P3, P4, P5, P6⟩ := id hP
  obtain ⟨T1, T2, T3, T4, T5, T6⟩ := id hP2
  have he4 := hs.2.2.2.1
  have he5 := hs.2.2.2.2
  have hs' : b_st (g_i M b) 246408 pe De e.1 e.2.1 e.2.2 := ⟨hs.1, hs.2.1, hs.2.2.1, he4, by omega⟩
  have hpeR := hs'.R (by decide)
  have hqh := hh.R (by decide)
  have hqt := ht.R (by decide)
  have hqa := ha.R (by decide)
  have hrf : g_fr (fun y => p_S po pf pt y ∨ p_S tp tf tt y) M M := g_fr.rf _ _
  have h2' : ¬ (h.1 = 2 ∧ h.2.1 = b_tx 57 ∧ t.1 = 2 ∧ t.2.1 = b_tx 58 ∧ a.1 = 2 ∧ a.2.1 = b_tx 59 ∧ S_pl (s_tx a.2.2) = true) → Q 2 M := fun g => by
    have h9 := J_3_2 g
    have := hq M hrf hP hP2 (fun z => by rw [h9] at z; exact absurd z (by decide))
    rwa [h9] at this
  have hnm : ∀ {j : Nat} {q : Int} {x : b_E} {Q1 : Int → g_M → Prop}, j < q_nS → b_st (g_i M b) 246408 q D1 x.1 x.2.1 x.2.2 → Q1 (if x.2.1 = b_tx j then 1 else 0) M → g_Call (d + 3) 115 [.ref b, g_n q, .ref (4 * j + 1)] M (g_qI Q1) := fun hj hx h1 => by
    have hx5 := hx.2.2.2.2
    rw [b_el_len] at hx5
    exact c_named (d := d) hj s3 (by decide) hx.1 hx.2.1 hx.2.2.2.1 (by omega) h1
  refine m_X9_wrongInLookup hpeR hqh hqt hqa fun _ => ⟨s1, b, s2, c_kd2 (d := d + 2) s3 (by decide) hs' ?_⟩
  intro _ _ _
  refine ⟨fun _ => ?_, fun g => absurd hk3 g⟩
  obtain ⟨D9, ys, q1, q2, q3, q4, q5, q6, q7⟩ := b_gv_doc hs.2.2.1 (Or.inl hk3)
  have hyl := congrArg List.length (q7.symm.trans hch)
  have h9 := hs'.1
  rw [q2] at h9
  refine ⟨b, s2, c_items (d := d + 1) s3 (by decide) h9 hs.2.1 q4 he4 (by rw [← q2]; omega) (by rw [hyl]; show 3 < 100000; decide) ?_⟩
  rw [hyl]
  intro _ _ _
  refine ⟨fun _ => ⟨b, s2, c_kd2 (d := d + 2) s3 (by decide) hh ?_⟩, fun g => absurd rfl g⟩
  intro _ _ _
  refine ⟨fun k1 => ⟨b, s2, hnm (by decide) hh ?_⟩, fun k1 => h2' fun z => k1 z.1⟩
  intro _ _ _
  by_cases n1 : h.2.1 = b_tx 57
  rotate_left
  · rw [if_neg n1]
    exact ⟨fun _ => h2' fun z => n1 z.2.1, fun z => absurd rfl z⟩
  rw [if_pos n1]
  refine ⟨fun z => absurd z (by decide), fun _ => ⟨b, s2, c_kd2 (d := d + 2) s3 (by decide) ht ?_⟩⟩
  intro _ _ _
  refine ⟨fun k2 => ⟨b, s2, hnm (by decide) ht ?_⟩, fun k2 => h2' fun z => k2 z.2.2.1⟩
  intro _ _ _
  by_cases n2 : t.2.1 = b_tx 58
  rotate_left
  · rw [if_neg n2]
    exact ⟨fun _ => h2' fun z => n2 z.2.2.2.1, fun z => absurd rfl z⟩
  rw [if_pos n2]
  refine ⟨fun z => absurd z (by decide), fun _ => ⟨b, s2, c_kd2 (d := d + 2) s3 (by decide) ha ?_⟩⟩
  intro _ _ _
  refine ⟨fun k3 => ⟨b, s2, hnm (by decide) ha ?_⟩, fun k3 => h2' fun z => k3 z.2.2.2.2.1⟩
  intro _ _ _
  by_cases n3 : a.2.1 = b_tx 59
  rotate_left
  · rw [if_neg n3]
    exact ⟨fun _ => h2' fun z => n3 z.2.2.2.2.2.1, fun z => absurd rfl z⟩
  rw [if_pos n3]
  obtain ⟨t1, t2, t3, t4⟩ := ha.text k3
  have ha4 := ha.2.2.2.1
  have ha5 := ha.2.2.2.2
  rw [b_el_len] at ha5
  refine ⟨fun z => absurd z (by decide), fun _ => ⟨b, s2, c_va2 (d := d + 2) s3 (by decide) ha ?_⟩⟩
  intro _ _ _
  refine ⟨⟨by omega, by omega⟩, ⟨by omega, by omega⟩, b, s2, c_w4 (d := d + 2) s3 ⟨by decide, by decide⟩ (by omega) (by omega) ?_⟩
  rw [t2]
  intro _ _ _
  refine ⟨⟨by omega, by omega⟩, ?_⟩
  rw [show qa + 2 + (a.2.1.length : Int) + 3 + ((s_tx a.2.2).length + 1) = qa + 2 + a.2.1.length + 4 + (s_tx a.2.2).length by omega]
  refine c_isPlain (d := d + 2) hS t3 (by omega) (by omega) ?_
  intro _ _ _
  by_cases n4 : S_pl (s_tx a.2.2) = true
  rotate_left
  · rw [if_neg n4]
    exact ⟨fun _ => h2' fun z => n4 z.2.2.2.2.2.2, fun z => absurd rfl z⟩
  rw [if_pos n4]
  have hall : h.1 = 2 ∧ h.2.1 = b_tx 57 ∧ t.1 = 2 ∧ t.2.1 = b_tx 58 ∧ a.1 = 2 ∧ a.2.1 = b_tx 59 ∧ S_pl (s_tx a.2.2) = true := ⟨k1, n1, k2, n2, k3, n3, n4⟩
  have h3' : ¬ (p_plain (s_tx h.2.2) ∧ p_plain (s_tx t.2.2)) → ∀ M1, g_fr (fun y => p_S po pf pt y ∨ p_S tp tf tt y) M M1 → p_P M1 po pf pt → p_P M1 tp tf tt → Q 3 M1 := fun g M1 f1 g1 g2 => by
    have h9 := J_3_3 hall g
    have := hq M1 f1 g1 g2 (fun z => by rw [h9] at z; exact absurd z (by decide))
    rwa [h9] at this
  have hso : ∀ {S : Nat → Prop} {o f u : Nat}, (∀ y, S y → p_S o f u y) → g_O M o 5 → g_A M f 1 8 → g_A M u 1 8 → ¬ S so ∧ ¬ S b := fun hS2 q1 q2 q3 => ⟨fun z => by
    rcases hS2 _ z with z | z | z
    · exact g_neOO s1 q1 (by decide) z
    · exact g_neOA s1 q2 z
    · exact g_neOA s1 q3 z, fun z => by
    rcases hS2 _ z with z | z | z
    · exact g_neOA q1 s3 z.symm
    · exact g_neAA q2 s3 (by omega) z.symm
    · exact g_neAA q3 s3 (by omega) z.symm⟩
  refine ⟨fun z => absurd z (by decide), fun _ => ⟨po, h2, b, s2, P1, ?_⟩⟩
  -- no path of the one is the other's
  have hx1 : ∀ y, p_S tp tf tt y → ¬ p_S po pf pt y := fun y z w => by
    rcases z with z | z | z <;> rcases w with w | w | w <;> subst z
    · exact hne.1 w.symm
    · exact g_neOA T1 P4 w
    · exact g_neOA T1 P5 w
    · exact g_neOA P1 T4 w.symm
    · exact hne.2.1 w.symm
    · exact hne.2.2.2.1 w.symm
    · exact g_neOA P1 T5 w.symm
    · exact hne.2.2.1 w.symm
    · exact hne.2.2.2.2 w.symm
  have hrest : ∀ M1, g_fr (p_S po pf pt) M M1 → p_P M1 po pf pt → p_P M1 tp tf tt := fun M1 f1 _ => by
    have : g_r M1 tp = g_r M tp := (f1.2 tp (hx1 tp (Or.inl rfl))).2
    exact ⟨f1.O T1, by rw [this]; exact T2, by rw [this]; exact T3, f1.A T4, f1.A T5, T6⟩
  refine c_plainText (d := d + 1) (sk := 0) (pre := []) (w := s_tx h.2.2) hP s3 (by decide) hh k1 rfl rfl (fun p1 M1 f1 g1 g2 => ?_) fun p1 M1 f1 g1 => ?_
  rotate_left
  · intro _ _ _
    exact ⟨fun _ => h3' (fun z => p1 z.1) M1 (f1.up fun _ z => Or.inl z) g1 (hrest M1 f1 g1), fun z => absurd rfl z⟩
  intro _ _ _
  obtain ⟨m1, m2⟩ := hso (fun _ z => z) P1 P4 P5
  have eso := f1.2 so m1
  have eb := f1.2 b m2
  have hP21 := hrest M1 f1 g1
  refine ⟨fun z => absurd z (by decide), fun _ => ⟨tp, by rw [eso.2]; exact h3, b, by rw [eso.2]; exact s2, hP21.1, ?_⟩⟩
  refine c_plainText (d := d + 1) (sk := 0) (pre := []) (w := s_tx t.2.2) hP21 (f1.A s3) (by decide) (by rw [eb.1]; exact ht) k2 rfl rfl (fun p2 M2 f2 g3 g4 => ?_) fun p2 M2 f2 g3 => ?_
  · intro _ _ _
    refine ⟨fun z => absurd z (by decide), fun _ => ?_⟩
    have ep : ∀ y, p_S po pf pt y → g_i M2 y = g_i M1 y ∧ g_r M2 y = g_r M1 y := fun y z => f2.2 y fun w => hx1 y w z
    have epo := ep po (Or.inl rfl)
    have epf := ep pf (Or.inr (Or.inl rfl))
    have ept := ep pt (Or.inr (Or.inr rfl))
    obtain ⟨b1, b2, b3, b4, b5, b6⟩ := id g1
    have h9 := J_3_0 hall ⟨p1, p2⟩
    have := hq M2 ((f1.up fun _ z => Or.inl z).tr (f2.up fun _ z => Or.inr z)) ⟨f2.O b1, by rw [epo.2]; exact b2, by rw [epo.2]; exact b3, f2.A b4, f2.A b5, b6⟩ g3 (fun _ => ⟨?_, ?_⟩)
    · rwa [h9] at this
    · obtain ⟨u1, u2, u3, u4⟩ := g2
      refine ⟨by rw [epo.2]; exact u1, by rw [epo.1]; exact u2, by rw [epo.1]; exact u3, ?_⟩
      rw [epf.1, ept.1]
      simpa using u4
    · obtain ⟨u1, u2, u3, u4⟩ := g4
      exact ⟨u1, u2, u3, by simpa using u4⟩
  · intro _ _ _
    refine ⟨fun _ => ?_, fun z => absurd rfl z⟩
    have ep : ∀ y, p_S po pf pt y → g_i M2 y = g_i M1 y ∧ g_r M2 y = g_r M1 y := fun y z => f2.2 y fun w => hx1 y w z
    have epo := ep po (Or.inl rfl)
    obtain ⟨b1, b2, b3, b4, b5, b6⟩ := id g1
    exact h3' (fun z => p2 z.2) M2 ((f1.up fun _ z => Or.inl z).tr (f2.up fun _ z => Or.inr z)) ⟨f2.O b1, by rw [epo.2]; exact b2, by rw [epo.2]; exact b3, f2.A b4, f2.A b5, b6⟩ g3
end WLOOK
section ELOOK
variable {m b : Nat} {M : g_M} {Q : Int → g_M → Prop}
theorem e_lookupFault {d De : Nat} {pe : Int} {e : b_E} (hR : e_R M m b) (he : b_st (g_i M b) 2100 pe De e.1 e.2.1 e.2.2) (hq : Q (J_sf e) M) : g_Call (d + 7) 335 [.ref m, g_n pe] M (g_qI Q) := by
  have he4 := he.2.2.2.1
  have he5 := he.2.2.2.2
  have hel := b_el_len e.1 e.2.1 e.2.2
  have heM : b_st (g_i M b) 2706210 pe De e.1 e.2.1 e.2.2 := ⟨he.1, he.2.1, he.2.2.1, he4, by omega⟩
  have hpeR := heM.R (by decide)
  have hkd := heM.val.2.2.2
  refine m_X12_lookupFault hpeR fun _ => ⟨hR.1, b, hR.2.1, _, hR.2.2, ⟨by omega, by omega⟩, ?_⟩
  rw [hkd]
  refine ⟨fun hk3 => ?_, fun hk3 => by unfold J_sf at hq; rwa [if_neg hk3] at hq⟩
  obtain ⟨D1, es, eD, ee, hoke, htl, hch, -⟩ := heM.tl (Or.inl hk3)
  have hvl := congrArg List.length ee
  rw [b_doc_len] at hvl
  obtain ⟨c, hc⟩ : ∃ c : Int, c = pe + 2 + e.2.1.length := ⟨_, rfl⟩
  rw [← hc] at htl
  rw [show pe + 6 + (e.2.1.length : Int) = c + 4 by omega] at htl
  have hcR : g_InR c := ⟨by omega, by omega⟩
  unfold J_sf at hq
  rw [if_pos hk3, hch] at hq
  have hval : ∀ {Q1 : Int → g_M → Prop}, Q1 c M → g_Call (d + 6) 233 [.ref m, g_n pe] M (g_qI Q1) := fun h => e_vl2 (d := d + 4) hR heM (by rw [← hc]; exact h)
  refine hval ?_
  intro _ _ _
  refine e_countE (d := d + 1) (D := D1) hR htl ?_
  intro _ _ _
  refine ⟨fun g3 => ?_, fun g3 => ?_⟩
  rotate_left
  · have : (match es with
      | [h, t, a] => J_3 h t a
      | _ => 2) = 2 := by
      rcases es with _ | ⟨h, _ | ⟨t, _ | ⟨a, _ | ⟨u, r⟩⟩⟩⟩
      · rfl
      · rfl
      · rfl
      · exact absurd rfl g3
      · rfl
    rwa [this] at hq
  obtain ⟨h, t, a, rfl⟩ : ∃ h t a, es = [h, t, a] := by
    rcases es with _ | ⟨h, _ | ⟨t, _ | ⟨a, _ | ⟨u, r⟩⟩⟩⟩
    · exact absurd g3 (by decide)
    · exact absurd g3 (by rw [List.length_singleton]; decide)
    · exact absurd g3 (show ¬ ((2 : Nat) : Int) = 3 by decide)
    · exact ⟨h, t, a, rfl⟩
    · rw [List.length_cons, List.length_cons, List.length_cons, List.length_cons] at g3
      omega
  change Q (J_3 h t a) M at hq
  have h2' : ¬ (h.1 = 2 ∧ h.2.1 = b_tx 57 ∧ t.1 = 2 ∧ t.2.1 = b_tx 58 ∧ a.1 = 2 ∧ a.2.1 = b_tx 59 ∧ S_pl (s_tx a.2.2) = true) → Q 2 M := fun g => by rwa [J_3_2 g] at hq
  obtain ⟨hh, htl2⟩ := htl.cons
  obtain ⟨ht, htl3⟩ := htl2.cons
  obtain ⟨ha, -⟩ := htl3.cons
  have hhR := hh.R (by decide)
  have htR := ht.R (by decide)
  have haR := ha.R (by decide)
  obtain ⟨qh, hqh⟩ : ∃ q : Int, q = c + 4 := ⟨_, rfl⟩
  obtain ⟨qt, hqt⟩ : ∃ q : Int, q = qh + (b_el h.1 h.2.1 h.2.2).length := ⟨_, rfl⟩
  obtain ⟨qa, hqa⟩ : ∃ q : Int, q = qt + (b_el t.1 t.2.1 t.2.2).length := ⟨_, rfl⟩
  have hL : L_at (c + 4) [h, t, a] = [(qh, h), (qt, t), (qa, a)] := by rw [hqa, hqt, hqh]; rfl
  rw [← hqh] at hh ht ha hhR htR haR
  rw [← hqt] at ht ha htR haR
  rw [← hqa] at ha haR
  have hitem : ∀ {k : Int} {x : Int × b_E} {Q1 : Int → g_M → Prop}, 0 ≤ k → k ≤ 2 → [(qh, h), (qt, t), (qa, a)][k.toNat]? = some x → Q1 x.1 M → g_Call (d + 6) 241 [.ref m, g_n c, g_n k] M (g_qI Q1) := fun k0 k1 hx h1 => e_itemE (d := d + 1) (D := D1) hR htl k0 ⟨by omega, by omega⟩ (by rw [hL, hx]; exact h1)
  refine hval ?_
  intro _ _ _
  refine hitem (x := (qh, h)) (by decide) (by decide) rfl ?_
  intro _ _ _
  refine hval ?_
  intro _ _ _
  refine hitem (x := (qt, t)) (by decide) (by decide) rfl ?_
  intro _ _ _
  refine hval ?_
  intro _ _ _
  refine hitem (x := (qa, a)) (by decide) (by decide) rfl ?_
  intro _ _ _
  refine e_nm3 (d := d + 2) (j := 125) (j2 := 57) (by decide) rfl hR hh (fun n1 => ?_) fun n1 => ?_
  rotate_left
  · intro _ _ _
    exact ⟨fun _ => h2' fun z => n1 z.2.1, fun z => absurd rfl z⟩
  intro _ _ _
  refine ⟨fun z => absurd z (by decide), fun _ => e_nm3 (d := d + 2) (j := 126) (j2 := 58) (by decide) rfl hR ht (fun n2 => ?_) fun n2 => ?_⟩
  rotate_left
  · intro _ _ _
    exact ⟨fun _ => h2' fun z => n2 z.2.2.2.1, fun z => absurd rfl z⟩
  intro _ _ _
  refine ⟨fun z => absurd z (by decide), fun _ => e_nm3 (d := d + 2) (j := 127) (j2 := 59) (by decide) rfl hR ha (fun n3 => ?_) fun n3 => ?_⟩
  rotate_left
  · intro _ _ _
    exact ⟨fun _ => h2' fun z => n3 z.2.2.2.2.2.1, fun z => absurd rfl z⟩
  intro _ _ _
  have hh5 := hh.2.2.2.2
  have ht5 := ht.2.2.2.2
  have ha5 := ha.2.2.2.2
  have hh4 := hh.2.2.2.1
  have ht4 := ht.2.2.2.1
  have ha4 := ha.2.2.2.1
  rw [b_el_len] at hh5 ht5 ha5
  refine ⟨fun z => absurd z (by decide), fun _ => ⟨b, hR.2.1, _, hR.2.2, ⟨by omega, by omega⟩, ?_⟩⟩
  rw [show g_i M b qh = h.1 from hh.val.2.2.2]
  refine ⟨fun k1 => ⟨b, hR.2.1, _, hR.2.2, ⟨by omega, by omega⟩, ?_⟩, fun k1 => h2' fun z => k1 z.1⟩
  rw [show g_i M b qt = t.1 from ht.val.2.2.2]
  refine ⟨fun k2 => ⟨b, hR.2.1, _, hR.2.2, ⟨by omega, by omega⟩, ?_⟩, fun k2 => h2' fun z => k2 z.2.2.1⟩
  rw [show g_i M b qa = a.1 from ha.val.2.2.2]
  refine ⟨fun k3 => ?_, fun k3 => h2' fun z => k3 z.2.2.2.2.1⟩
  obtain ⟨th1, -, th3, -⟩ := hh.text k1
  obtain ⟨tt1, -, tt3, -⟩ := ht.text k2
  obtain ⟨ta1, -, ta3, -⟩ := ha.text k3
  refine e_vl2 (d := d + 4) hR ha ?_
  intro _ _ _
  refine ⟨⟨by omega, by omega⟩, e_textEnd (d := d + 3) hR ha k3 ?_⟩
  intro _ _ _
  refine e_isPlain (d := d + 4) hR ta3 (by omega) (by omega) ?_
  intro _ _ _
  by_cases n4 : S_pl (s_tx a.2.2) = true
  rotate_left
  · rw [if_neg n4]
    exact ⟨fun _ => h2' fun z => n4 z.2.2.2.2.2.2, fun z => absurd rfl z⟩
  rw [if_pos n4]
  have hall : h.1 = 2 ∧ h.2.1 = b_tx 57 ∧ t.1 = 2 ∧ t.2.1 = b_tx 58 ∧ a.1 = 2 ∧ a.2.1 = b_tx 59 ∧ S_pl (s_tx a.2.2) = true := ⟨k1, n1, k2, n2, k3, n3, n4⟩
  have h3' : ¬ (p_plain (s_tx h.2.2) ∧ p_plain (s_tx t.2.2)) → Q 3 M := fun g => by rwa [J_3_3 hall g] at hq
  refine ⟨fun z => absurd z (by decide), fun _ => e_vl2 (d := d + 4) hR hh ?_⟩
  intro _ _ _
  refine ⟨⟨by omega, by omega⟩, e_textEnd (d := d + 3) hR hh k1 ?_⟩
  intro _ _ _
  refine e_plain (d := d + 2) hR th3 (by omega) (by omega) (fun p1 => ?_) fun p1 => ?_
  rotate_left
  · intro _ _ _
    exact ⟨fun _ => h3' fun z => p1 z.1, fun z => absurd rfl z⟩
  intro _ _ _
  refine ⟨fun z => absurd z (by decide), fun _ => e_vl2 (d := d + 4) hR ht ?_⟩
  intro _ _ _
  refine ⟨⟨by omega, by omega⟩, e_textEnd (d := d + 3) hR ht k2 ?_⟩
  intro _ _ _
  refine e_plain (d := d + 2) hR tt3 (by omega) (by omega) (fun p2 => ?_) fun p2 => ?_
  · intro _ _ _
    rw [J_3_0 hall ⟨p1, p2⟩] at hq
    exact ⟨fun z => absurd z (by decide), fun _ => hq⟩
  · intro _ _ _
    exact ⟨fun _ => h3' fun z => p2 z.2, fun z => absurd rfl z⟩
end ELOOK
