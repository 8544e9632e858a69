/-! STAGES: $sort, the class: what may be wrong -/
theorem c_setName {d o f t b : Nat} {N p k : Int} {D : Nat} {nm vb : List Int} {M : g_M} {Q : Int → g_M → Prop} (hP : p_P M o f t) (hA : g_A M b 0 N) (hn : N ≤ 1000000000) (ho : o ≠ b) (hf : f ≠ b) (ht : t ≠ b) (hs : b_st (g_i M b) N p D k nm vb) (k1 : p_ok nm → ∀ M1, g_fr (p_S o f t) M M1 → p_P M1 o f t → p_is M1 o f t b (p + 1) nm → Q 1 M1) (k0 : ¬ p_ok nm → ∀ M1, g_fr (p_S o f t) M M1 → p_P M1 o f t → Q 0 M1) : g_Call (d + 2) 91 [.ref o, .ref b, g_n p] M (g_qI Q) := by
  have hpR := hs.R hn
  have h4 := hs.2.2.2.1
  have h5 := hs.2.2.2.2
  have hel := b_el_len k nm vb
  obtain ⟨e0, e1, e2, e3⟩ := b_el_at hs.1
  refine m_X5_setName hpR fun _ => ⟨⟨by omega, by omega⟩, c_va2 (d := d) hA hn hs ?_⟩
  intro _ _ _
  refine ⟨⟨by omega, by omega⟩, hP.1, ?_⟩
  rw [show p + 2 + (nm.length : Int) - 1 = p + 1 + nm.length by omega]
  exact c_set (d := d) (r0 := none) hP hA hn ho hf ht e1 (by omega) (by omega) (fun z M1 f1 h1 h2 => fun _ _ _ => ⟨Or.inr rfl, k1 z M1 f1 h1 h2⟩) fun z M1 f1 h1 => fun _ _ _ => ⟨Or.inl rfl, k0 z M1 f1 h1⟩
noncomputable def O_w (e : b_E) : Int := @ite _ (e.1 = 16 ∨ e.1 = 18) (Classical.propDecidable _) (v_num e.1 e.2.2).toInt 0
noncomputable def O_so : List b_E → Int
  | [] => 0
  | x :: r => @ite _ (O_w x = 1 ∨ O_w x = -1) (Classical.propDecidable _) (@ite _ (p_plain x.2.1) (Classical.propDecidable _) (O_so r) 3) 2
theorem O_so_2 {x : b_E} {r : List b_E} (h : ¬ (O_w x = 1 ∨ O_w x = -1)) : O_so (x :: r) = 2 := by
  unfold O_so
  rw [if_neg h]
theorem O_so_3 {x : b_E} {r : List b_E} (h : O_w x = 1 ∨ O_w x = -1) (h2 : ¬ p_plain x.2.1) : O_so (x :: r) = 3 := by
  unfold O_so
  rw [if_pos h, if_neg h2]
theorem O_so_r {x : b_E} {r : List b_E} (h : O_w x = 1 ∨ O_w x = -1) (h2 : p_plain x.2.1) : O_so (x :: r) = O_so r := by
  rw [show O_so (x :: r) = @ite _ (O_w x = 1 ∨ O_w x = -1) (Classical.propDecidable _) (@ite _ (p_plain x.2.1) (Classical.propDecidable _) (O_so r) 3) 2 from rfl, if_pos h, if_pos h2]
noncomputable def O_sf (e : b_E) : Int := if e.1 = 3 ∧ 1 ≤ (b_ch e.2.2).length ∧ (b_ch e.2.2).length ≤ 4 then O_so (b_ch e.2.2) else 2
section WSORT
variable {so b po pf pt wa : Nat} {M : g_M}
theorem c_wrongInSort {d De : Nat} {Q : Int → g_M → Prop} {pe : Int} {e : b_E} (hS : S_B so b M) (h2 : g_r M so 2 = some po) (hP : p_P M po pf pt) (h12 : g_r M so 12 = some wa) (hwa : g_A M wa 1 4) (hsp : so ≠ pf ∧ so ≠ pt) (hob : po ≠ b ∧ pf ≠ b ∧ pt ≠ b) (hs2100 : b_st (g_i M b) 2100 pe De e.1 e.2.1 e.2.2) (hq : ∀ M1, g_fr (fun y => p_S po pf pt y ∨ y = wa) M M1 → p_P M1 po pf pt → (O_sf e = 0 → ∀ (i : Nat) (x : b_E), (b_ch e.2.2)[i]? = some x → g_i M1 wa i = O_w x) → Q (O_sf e) M1) : g_Call (d + 4) 162 [.ref so, g_n pe] M (g_qI Q) := by
  obtain ⟨s1, s2, s3⟩ := id hS
  obtain ⟨P1, P2, P3, P4, P5, P6⟩ := id hP
  have he21 := hs2100.2.2.2.2
  have hs : b_st (g_i M b) 246408 pe De e.1 e.2.1 e.2.2 := ⟨hs2100.1, hs2100.2.1, hs2100.2.2.1, hs2100.2.2.2.1, by omega⟩
  have hpeR := hs.R (by decide)
  have he4 := hs.2.2.2.1
  have he5 := hs.2.2.2.2
  have n1 : so ≠ po := g_neOO s1 P1 (by decide)
  have n2 : so ≠ wa := g_neOA s1 hwa
  have n3 : po ≠ wa := g_neOA P1 hwa
  have n4 : pf ≠ wa := g_neAA P4 hwa (by omega)
  have n5 : pt ≠ wa := g_neAA P5 hwa (by omega)
  have n6 : wa ≠ b := g_neAA hwa s3 (by omega)
  have n7 : so ≠ b := g_neOA s1 s3
  have hrf : g_fr (fun y => p_S po pf pt y ∨ y = wa) M M := g_fr.rf _ _
  have h2' : ¬ (e.1 = 3 ∧ 1 ≤ (b_ch e.2.2).length ∧ (b_ch e.2.2).length ≤ 4) → Q 2 M := fun h => by
    have := hq M hrf hP (fun z => by unfold O_sf at z; rw [if_neg h] at z; exact absurd z (by decide))
    unfold O_sf at this
    rwa [if_neg h] at this
  refine m_X9_wrongInSort hpeR fun _ => ⟨s1, b, s2, c_kd2 (d := d + 2) s3 (by decide) hs ?_⟩
  intro _ _ _
  refine ⟨fun hk => ?_, fun hk => h2' fun z => hk z.1⟩
  obtain ⟨D1, eD, hkids, hkl⟩ := hs.kids (Or.inl hk)
  obtain ⟨D9, ys, q1, q2, q3, q4, q5, q6, q7⟩ := b_gv_doc hs.2.2.1 (Or.inl hk)
  have hmany := b_ser_many (b_ch e.2.2)
  have hel := b_el_len e.1 e.2.1 e.2.2
  have hit : ∀ {Q1 : Int → g_M → Prop}, Q1 (b_ch e.2.2).length M → g_Call (d + 3) 113 [.ref b, g_n pe] M (g_qI Q1) := fun h => by
    have h9 := hs.1
    rw [q2] at h9
    refine c_items (d := d + 1) s3 (by decide) h9 hs.2.1 q4 he4 (by rw [← q2]; exact he5) (by rw [← q7]; omega) ?_
    rw [← q7]
    exact h
  refine ⟨b, s2, hit ?_⟩
  intro _ _ _
  refine ⟨fun g => h2' fun z => by omega, fun g1 => ⟨b, s2, hit ?_⟩⟩
  intro _ _ _
  refine ⟨fun g => h2' fun z => by omega, fun g4 => ⟨b, s2, c_fi2 (d := d + 2) s3 (by decide) hs ?_⟩⟩
  intro _ _ _
  have hsf : O_sf e = O_so (b_ch e.2.2) := if_pos ⟨hk, by omega, by omega⟩
  rw [hsf] at hq
  have hlp : ∀ (xs cs : List b_E) (q : Int) (M1 : g_M), b_ch e.2.2 = cs ++ xs → q = pe + 6 + e.2.1.length + (b_ser cs).length → g_fr (fun y => p_S po pf pt y ∨ y = wa) M M1 → p_P M1 po pf pt → (∀ (i : Nat) (x : b_E), cs[i]? = some x → g_i M1 wa i = O_w x) → O_so (b_ch e.2.2) = O_so xs → g_Run (d + 3) 162 49 [(0, .ref so), (1, g_n pe), (2, g_n q), (3, g_n cs.length)] [] M1 (g_qI Q) := by
    intro xs
    induction xs with
    | nil =>
      intro cs q M1 k1 k2 f1 hP1 hw hso
      rw [List.append_nil] at k1
      have hkE := hkids
      rw [k1, ← List.append_nil cs] at hkE
      have hkE := hkE.app
      have hend : Q 0 M1 := by
        have := hq M1 f1 hP1 (fun _ i x hx => hw i x (by rw [← k1]; exact hx))
        rwa [hso] at this
      have hcl := congrArg List.length k1
      have hb1 : g_i M1 b = g_i M b := (f1.2 b fun z => by
        rcases z with (z | z | z) | z
        · exact hob.1 z.symm
        · exact hob.2.1 z.symm
        · exact hob.2.2 z.symm
        · exact n6 z.symm).1
      have hs1 : g_r M1 so = g_r M so := (f1.2 so fun z => by
        rcases z with (z | z | z) | z
        · exact n1 z
        · exact hsp.1 z
        · exact hsp.2 z
        · exact n2 z).2
      have hkE2 : b_sts (g_i M1 b) 246408 q D1 [] := by
        rw [hb1, k2]
        exact hkE
      have hqR : g_InR q := by
        have := hkE2.2.2.1
        have := hkE2.2.2.2.1
        exact ⟨by omega, by omega⟩
      refine s_X9_wrongInSort_49 hpeR hqR ⟨by omega, by omega⟩ fun _ => ⟨fun _ => ⟨f1.O s1, b, by rw [hs1]; exact s2, c_kdE (d := d + 2) (f1.A s3) (by decide) hkE2 ?_⟩, fun _ => hend⟩
      intro _ _ _
      exact ⟨fun _ => hend, fun g => absurd rfl g⟩
    | cons x xs ih =>
      intro cs q M1 k1 k2 f1 hP1 hw hso
      have hcl := congrArg List.length k1
      rw [List.length_append, List.length_cons] at hcl
      have hb1 : ∀ {M2 : g_M}, g_fr (fun y => p_S po pf pt y ∨ y = wa) M M2 → g_i M2 b = g_i M b := fun f => (f.2 b fun z => by
        rcases z with (z | z | z) | z
        · exact hob.1 z.symm
        · exact hob.2.1 z.symm
        · exact hob.2.2 z.symm
        · exact n6 z.symm).1
      have hs1 : ∀ {M2 : g_M}, g_fr (fun y => p_S po pf pt y ∨ y = wa) M M2 → g_r M2 so = g_r M so := fun f => (f.2 so fun z => by
        rcases z with (z | z | z) | z
        · exact n1 z
        · exact hsp.1 z
        · exact hsp.2 z
        · exact n2 z).2
      have hS1 : ∀ {M2 : g_M}, g_fr (fun y => p_S po pf pt y ∨ y = wa) M M2 → S_B so b M2 := fun f => ⟨f.O s1, by rw [hs1 f]; exact s2, f.A s3⟩
      have hx : b_st (g_i M b) 246408 q D1 x.1 x.2.1 x.2.2 := by
        have h9 := hkids
        rw [k1] at h9
        have := h9.app.cons.1
        rwa [← k2] at this
      have hxM : ∀ {M2 : g_M}, g_fr (fun y => p_S po pf pt y ∨ y = wa) M M2 → b_st (g_i M2 b) 246408 q D1 x.1 x.2.1 x.2.2 := fun f => by rw [hb1 f]; exact hx
      have hqR := hx.R (by decide)
      have hx0 := b_vs_pos (b_gv_vs hx.2.2.1)
      have hfail : O_so (x :: xs) ≠ 0 → ∀ M2, g_fr (fun y => p_S po pf pt y ∨ y = wa) M M2 → p_P M2 po pf pt → Q (O_so (x :: xs)) M2 := fun hz M2 f2 hP2 => by
        have := hq M2 f2 hP2 (fun z => absurd (hso.symm.trans z) hz)
        rwa [hso] at this
      -- the way is told
      have h88 : ∀ W : Int64, W.toInt = O_w x → g_Run (d + 3) 162 88 [(0, .ref so), (1, g_n pe), (2, g_n q), (3, g_n cs.length)] [.long W] M1 (g_qI Q) := by
        intro W hW
        have hl1 : g_lc W 1 = 0 ↔ W.toInt = 1 := by
          have a1 := u_lt W 1
          have a2 := u_gt W 1
          have a3 : (1 : Int64).toInt = 1 := by decide
          omega
        have hl2 : g_lc W (-1) = 0 ↔ W.toInt = -1 := by
          have a1 := u_lt W (-1)
          have a2 := u_gt W (-1)
          have a3 : (-1 : Int64).toInt = -1 := by decide
          omega
        have h108 : (O_w x = 1 ∨ O_w x = -1) → g_Run (d + 3) 162 108 [(0, .ref so), (1, g_n pe), (2, g_n q), (3, g_n cs.length), (4, .long W)] [] M1 (g_qI Q) := by
          intro hww
          have hP1b := hP1
          refine s_X9_wrongInSort_108 hpeR hqR ⟨by omega, by omega⟩ fun _ => ⟨f1.O s1, po, by rw [hs1 f1]; exact h2, b, by rw [hs1 f1]; exact s2, hP1.1, c_setName (d := d + 1) hP1 (f1.A s3) (by decide) hob.1 hob.2.1 hob.2.2 (hxM f1) (fun hpo M2 f2 hP2 hi2 => ?_) fun hpo M2 f2 hP2 => ?_⟩
          · have f12 := f1.tr (f2.up fun _ z => Or.inl z)
            intro _ _ _
            refine ⟨fun z => absurd z (by decide), fun _ => ⟨po, by rw [hs1 f12]; exact h2, hP2.1, ?_⟩⟩
            rw [hi2.2.2.1]
            by_cases hdl : p_dol true x.2.1 = true
            · rw [if_pos hdl]
              refine ⟨fun z => absurd z (by decide), fun _ => ?_⟩
              have h3 := O_so_3 (r := xs) hww (fun z => by rw [z.2] at hdl; exact absurd hdl (by decide))
              have := hfail (by rw [h3]; decide) M2 f12 hP2
              rwa [h3] at this
            · rw [if_neg hdl]
              refine ⟨fun _ => ⟨wa, by rw [hs1 f12]; exact h12, _, f12.A hwa, ⟨by omega, by omega⟩, fun M20 e20 _ => ?_⟩, fun z => absurd rfl z⟩
              have f20 : g_fr (fun y => p_S po pf pt y ∨ y = wa) M2 M20 := by
                subst e20
                exact g_fr.wi _ _ (Or.inr rfl)
              have f120 := f12.tr f20
              have hpl : p_plain x.2.1 := ⟨hpo, by simpa using hdl⟩
              have hP20 : p_P M20 po pf pt := by
                obtain ⟨b1, b2, b3, b4, b5, b6⟩ := hP2
                have : g_r M20 po = g_r M2 po := by subst e20; rfl
                exact ⟨f20.O b1, by rw [this]; exact b2, by rw [this]; exact b3, f20.A b4, f20.A b5, b6⟩
              refine ⟨b, by rw [hs1 f120]; exact s2, c_nx2 (d := d + 2) (f120.A s3) (by decide) (hxM f120) ?_⟩
              intro _ _ _
              refine ⟨⟨by omega, by omega⟩, ?_⟩
              have h9 := ih (cs ++ [x]) (q + (b_el x.1 x.2.1 x.2.2).length) M20 (by rw [k1]; simp) (by rw [b_ser_app, List.length_append, b_ser_1]; omega) f120 hP20 (fun i y hy => ?_) (by rw [hso, O_so_r hww hpl])
              · rwa [List.length_append, List.length_singleton, show ((cs.length + 1 : Nat) : Int) = (cs.length : Int) + 1 by omega] at h9
              · have hwa2 : ∀ k, g_i M2 wa k = g_i M1 wa k := fun k => by rw [(f2.2 wa fun z => by
                  rcases z with z | z | z
                  · exact n3 z.symm
                  · exact n4 z.symm
                  · exact n5 z.symm).1]
                subst e20
                rw [g_i_wi]
                rcases Nat.lt_or_ge i cs.length with hic | hic
                · rw [if_neg (by omega), hwa2]
                  rw [List.getElem?_append_left hic] at hy
                  exact hw i y hy
                · have hi2 := (List.getElem?_eq_some_iff.mp hy).1
                  rw [List.length_append, List.length_singleton] at hi2
                  have hie : i = cs.length := by omega
                  subst hie
                  rw [List.getElem?_append_right (Nat.le_refl _), Nat.sub_self] at hy
                  cases hy
                  rw [if_pos ⟨rfl, rfl⟩, ← hW]
                  have : W = 1 ∨ W = -1 := by
                    rcases hww with z | z
                    · exact Or.inl (Int64.toInt_inj.mp (by rw [hW, z]; rfl))
                    · exact Or.inr (Int64.toInt_inj.mp (by rw [hW, z]; rfl))
                  rcases this with rfl | rfl <;> decide
          · have f12 := f1.tr (f2.up fun _ z => Or.inl z)
            intro _ _ _
            refine ⟨fun _ => ?_, fun z => absurd rfl z⟩
            have h3 := O_so_3 (r := xs) hww (fun z => hpo z.1)
            have := hfail (by rw [h3]; decide) M2 f12 hP2
            rwa [h3] at this
        refine s_X9_wrongInSort_88 hpeR hqR ⟨by omega, by omega⟩ fun _ => ⟨fun z => h108 (Or.inl (by rw [← hW]; exact hl1.mp z)), fun z => ⟨fun z2 => h108 (Or.inr (by rw [← hW]; exact hl2.mp z2)), fun z2 => ?_⟩⟩
        have h3 := O_so_2 (x := x) (r := xs) (fun g => by
          rcases g with g | g
          · exact z (hl1.mpr (by rw [hW]; exact g))
          · exact z2 (hl2.mpr (by rw [hW]; exact g)))
        have := hfail (by rw [h3]; decide) M1 f1 hP1
        rwa [h3] at this
      have hsx : S_B so b M1 := hS1 f1
      refine s_X9_wrongInSort_49 hpeR hqR ⟨by omega, by omega⟩ fun _ => ⟨fun _ => ⟨hsx.1, b, hsx.2.1, c_kd2 (d := d + 2) hsx.2.2 (by decide) (hxM f1) ?_⟩, fun g => absurd (by omega) g⟩
      intro _ _ _
      refine ⟨fun g => absurd g (by omega), fun _ => ⟨b, hsx.2.1, c_isNum (d := d + 1) hsx.2.2 ⟨by decide, by decide⟩ hqR ?_⟩⟩
      have hxv := (hxM f1).val
      rw [b_kd_in (by omega) (by have := hx.2.2.2.2; have := b_el_len x.1 x.2.1 x.2.2; omega), hxv.2.2.2]
      intro _ _ _
      by_cases hnk : x.1 = 16 ∨ x.1 = 18
      · rw [if_pos hnk]
        refine ⟨fun z => absurd z (by decide), fun _ => ⟨b, hsx.2.1, c_wh (d := d + 1) hsx.2.2 (by decide) (hxM f1) hnk ?_⟩⟩
        intro _ _
        exact h88 _ (by unfold O_w; rw [if_pos hnk])
      · rw [if_neg hnk]
        exact ⟨fun _ => h88 0 (by unfold O_w; rw [if_neg hnk]; rfl), fun z => absurd rfl z⟩
  have h9 := hlp (b_ch e.2.2) [] (pe + 6 + e.2.1.length) M rfl (by rw [show b_ser [] = [] from rfl, List.length_nil]; omega) hrf hP (fun i x hx => absurd hx (by simp)) rfl
  exact h9
end WSORT
