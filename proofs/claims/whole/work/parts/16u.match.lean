/-! STAGES: $match, the class: the belt is thinned -/
section CMATCH
variable {so r b o qo qf qt be : Nat} {c e : Int} {L : List Int} {M0 M M1 : g_M} {ds : List (List b_E)} {g : Int} {F : Int → Int}
theorem F_S.keep (h : F_S r b o qo qf qt c e 246408 F M L) (hso : g_O M so 9) (hbe : g_A M be 1 200) (f : g_fr (fun y => y = be ∨ y = so) M M1) : F_S r b o qo qf qt c e 246408 F M1 L := by
  obtain ⟨hP, ⟨o1, o2, o3, o4⟩, ⟨P1, P2, P3, P4, P5, P6⟩, hA, hF⟩ := h
  have nO : ∀ {x ci : Nat}, g_O M x ci → ci ≠ 9 → ¬ (x = be ∨ x = so) := fun hx hc z => by
    rcases z with z | z
    · exact g_neOA hx hbe z
    · exact g_neOO hx hso hc z
  have nA : ∀ {x t : Nat} {n : Int}, g_A M x t n → ¬ (t = 1 ∧ n = 200) → ¬ (x = be ∨ x = so) := fun hx hc z => by
    rcases z with z | z
    · exact g_neAA hx hbe (by omega) z
    · exact g_neOA hso hx z.symm
  have eo := (f.2 o (nO o1 (by decide))).2
  have ep := (f.2 qo (nO P1 (by decide))).2
  exact ⟨hP.of f (nO hP.1 (by decide)) fun a n ha hn => nA ha fun z => by unfold k_n at hn; omega, ⟨f.O o1, by rw [eo]; exact o2, by rw [eo]; exact o3, by rw [eo]; exact o4⟩, ⟨f.O P1, by rw [ep]; exact P2, by rw [ep]; exact P3, f.A P4, f.A P5, P6⟩, f.A hA, by rw [(f.2 b (nA hA (by omega))).1]; exact hF⟩
theorem c_match {n De dd : Nat} {Q : g_M → Prop} {pe : Int} {fe : b_E} (hn : n ≤ 20) (hdd : 8 * n + 60 ≤ dd) (hso : g_O M0 so 9) (h6 : g_r M0 so 6 = some be) (hbe : g_A M0 be 1 200) (hbt : S_belt so b be g ds M0) (hF : F_S r b o qo qf qt c e 246408 (g_i M0 b) M0 L) (hL : L.length ≤ 100) (he : b_st (g_i M0 b) 246408 pe De fe.1 fe.2.1 fe.2.2) (hk : fe.1 = 3) (hDe : De ≤ n) (hl : fe.2.2.length ≤ 3000) (hV : (F_V n).1 (b_ch fe.2.2)) (hq : ∀ M1, k_F (fun y => p_S qo qf qt y ∨ y = be ∨ y = so) r M0 M1 → F_S r b o qo qf qt c e 246408 (g_i M0 b) M1 L → (∀ k, k ≠ 14 → g_i M1 so k = g_i M0 so k) → (∀ k, g_r M1 so k = g_r M0 so k) → S_belt so b be g (ds.filter fun es => (F_X n).1 (b_ch fe.2.2) (3, [], b_doc es)) M1 → Q M1) : g_Call (dd + 1) 137 [.ref so, .ref o, g_n pe] M0 (g_qV Q) := by
  obtain ⟨h14, hok, hpl⟩ := id hbt
  have hl200 := hok.1
  have hpeR := he.R (by decide)
  obtain ⟨hd, hhd⟩ : ∃ hd : List b_E → Bool, hd = fun es => (F_X n).1 (b_ch fe.2.2) (3, [], b_doc es) := ⟨_, rfl⟩
  rw [← hhd] at hq
  obtain ⟨-, -, ⟨P1, -, -, P4, P5, -⟩, hA, -⟩ := id hF
  have n1 : ¬ p_S qo qf qt so := by
    rintro (z | z | z)
    · exact g_neOO hso P1 (by decide) z
    · exact g_neOA hso P4 z
    · exact g_neOA hso P5 z
  have n2 : ¬ p_S qo qf qt be := by
    rintro (z | z | z)
    · exact g_neOA P1 hbe z.symm
    · exact g_neAA hbe P4 (by omega) z
    · exact g_neAA hbe P5 (by omega) z
  have n3 : so ≠ be := g_neOA hso hbe
  have n4 : r ≠ be ∧ r ≠ so := ⟨g_neOA hF.1.1 hbe, g_neOO hF.1.1 hso (by decide)⟩
  have hbel : ∀ (es : List b_E), hd es = (F_X n).1 (b_ch fe.2.2) (3, [], b_doc es) := fun es => by rw [hhd]
  have hlp : ∀ (t i : Nat) (M : g_M), i + t = ds.length → k_F (fun y => p_S qo qf qt y ∨ y = be) r M0 M → F_S r b o qo qf qt c e 246408 (g_i M0 b) M L → g_i M so = g_i M0 so → g_r M so = g_r M0 so → (∀ (j : Nat) (es : List b_E), ((ds.take i).filter hd)[j]? = some es → ∃ p, g_i M be j = p ∧ b_st (g_i M0 b) 163608 p 16 3 [] (b_doc es) ∧ ∀ k, p ≤ k → k < p + (b_el 3 [] (b_doc es)).length → 2008 ≤ k ∧ ¬ (S_lo g ≤ k ∧ k < S_lo g + 40400)) → (∀ j : Nat, i ≤ j → g_i M be j = g_i M0 be j) → g_Run dd 137 5 [(0, .ref so), (1, .ref o), (2, g_n pe), (3, g_n ((ds.take i).filter hd).length), (4, g_n i)] [] M (g_qV Q) := by
    intro t
    induction t with
    | zero =>
      intro i M hi f S e1 e2 hkept _
      have hlf := List.length_filter_le hd (ds.take i)
      rw [List.length_take] at hlf
      rw [List.take_of_length_le (by omega)] at hkept ⊢
      have hlf2 := List.length_filter_le hd ds
      have h141 : g_i M so 14 = ds.length := by rw [e1]; exact h14
      have hsoM := hso.up f.1
      have hbeM := hbe.up f.1
      refine s_X9_match_5 hpeR ⟨by omega, by omega⟩ ⟨by omega, by omega⟩ fun _ => ⟨hsoM, fun z => absurd z (by omega), fun _ => fun M2 e3 _ => ?_⟩
      have g2 : g_fr (fun y => y = be ∨ y = so) M M2 := by subst e3; exact g_fr.wi _ _ (Or.inr rfl)
      have S2 := S.keep hsoM hbeM g2
      refine hq M2 ((f.up fun y z => z.elim Or.inl fun z => Or.inr (Or.inl z)).tr ((k_F.of g2 fun z => z.elim n4.1 n4.2).up fun y z => Or.inr z)) S2 (fun k hk2 => ?_) (fun k => ?_) ⟨?_, ⟨by omega, ?_, fun es hes => hok.2.2 es (List.mem_filter.mp hes).1⟩, fun j es hj => ?_⟩
      · subst e3
        rw [g_i_wi, if_neg (fun z => hk2 z.2), e1]
      · subst e3
        rw [g_r_wi, e2]
      · subst e3
        rw [g_i_wi, if_pos ⟨rfl, rfl⟩]
      · have : ∀ l : List (List b_E), S_sum (l.filter hd) ≤ S_sum l := by
          intro l
          induction l with
          | nil => exact Nat.le_refl _
          | cons a l ih =>
            rw [List.filter_cons]
            have hc : ∀ l : List (List b_E), S_sum (a :: l) = (b_doc a).length + S_sum l := fun l => by unfold S_sum; rw [List.map_cons, List.sum_cons]
            split
            · rw [hc, hc]
              omega
            · rw [hc]
              omega
        have := this ds
        have := hok.2.1
        omega
      · obtain ⟨p, p1, p2, p3⟩ := hkept j es hj
        refine ⟨p, ?_, by rw [S2.2.2.2.2]; exact p2, p3⟩
        subst e3
        rw [g_i_wi, if_neg (fun z => n3 z.1.symm)]
        exact p1
    | succ t ih =>
      intro i M hi f S e1 e2 hkept hrest
      obtain ⟨es, hes⟩ : ∃ es, ds[i]? = some es := ⟨_, List.getElem?_eq_getElem (by omega)⟩
      obtain ⟨p, p1, p2, p3⟩ := hpl i es hes
      obtain ⟨m1, m2⟩ := hok.2.2 es (List.mem_of_getElem? hes)
      have htk : ds.take (i + 1) = ds.take i ++ [es] := by rw [List.take_add_one, hes]; rfl
      have hlf := List.length_filter_le hd (ds.take i)
      rw [List.length_take] at hlf
      have h141 : g_i M so 14 = ds.length := by rw [e1]; exact h14
      have hsoM := hso.up f.1
      have hbeM := hbe.up f.1
      have hpM : b_st (g_i M0 b) 246408 p 16 3 [] (b_doc es) := ⟨p2.1, p2.2.1, p2.2.2.1, p2.2.2.2.1, by have := p2.2.2.2.2; omega⟩
      have hw := L_W_size (m := 35) (c := L_C 16) (e := (3, [], b_doc es)) (fun w hw => of_decide_eq_true (List.all_eq_true.mp (L_CB ⟨16, by decide⟩).2.2 w hw)) hpM.2.2.1
      have hel : (b_el 3 [] (b_doc es)).length = (b_doc es).length + 2 := by rw [b_el_len, List.length_nil]; omega
      change 7 * _ ≤ 35 * (b_el 3 [] (b_doc es)).length at hw
      refine s_X9_match_5 hpeR ⟨by omega, by omega⟩ ⟨by omega, by omega⟩ fun _ => ⟨hsoM, fun _ => ⟨be, by rw [e2]; exact h6, _, hbeM, ⟨by omega, by omega⟩, S.2.1.1, ?_⟩, fun z => absurd (by omega) z⟩
      rw [hrest i (Nat.le_refl _), p1]
      refine (c_hX (by decide) n hn).1 M L _ dd 0 pe p fe (3, [], b_doc es) De 15 S he hk hDe hl hV hpM rfl (by decide) (by show (b_doc es).length ≤ _; omega) (by show L.length + 2 + L_W L_c1 (L_C 16) (3, [], b_doc es) ≤ 32000; omega) (by decide) (by omega) (by omega) fun M1 f1 S1 => ?_
      intro _ _ _
      have f01 : k_F (fun y => p_S qo qf qt y ∨ y = be) r M0 M1 := f.tr (f1.up fun _ z => Or.inl z)
      obtain ⟨i1, i2⟩ := f1.O S.1 hsoM (by decide) n1
      have ib := (f1.A S.1 hbeM (fun _ z => by unfold k_n at z; omega) n2).1
      rw [← hbel]
      cases hb : hd es
      · -- it goes
        have hK : (ds.take (i + 1)).filter hd = (ds.take i).filter hd := by rw [htk, List.filter_append, List.filter_cons, hb]; simp
        refine ⟨fun _ => ⟨⟨by omega, by omega⟩, ?_⟩, fun z => absurd rfl z⟩
        have h9 := ih (i + 1) M1 (by omega) f01 S1 (by rw [i1, e1]) (by rw [i2, e2]) (fun j es2 hj => ?_) fun j hj => ?_
        · rw [hK] at h9
          rwa [show ((i + 1 : Nat) : Int) = (i : Int) + 1 by omega] at h9
        · rw [hK] at hj
          rw [ib]
          exact hkept j es2 hj
        · rw [ib]
          exact hrest j (by omega)
      · have hK : (ds.take (i + 1)).filter hd = (ds.take i).filter hd ++ [es] := by rw [htk, List.filter_append, List.filter_cons, hb]; simp
        refine ⟨fun z => absurd z (by decide), fun _ => ⟨be, by rw [i2, e2]; exact h6, be, by rw [i2, e2]; exact h6, _, hbeM.up f1.1, ⟨by omega, by omega⟩, _, hbeM.up f1.1, ⟨by omega, by omega⟩, fun M28 e28 _ => ⟨⟨by omega, by omega⟩, ⟨by omega, by omega⟩, ?_⟩⟩⟩
        rw [ib, hrest i (Nat.le_refl _), p1] at e28
        have g28 : g_fr (fun y => y = be) M1 M28 := by subst e28; exact g_fr.wi _ _ rfl
        have S28 := S1.keep (hsoM.up f1.1) (hbeM.up f1.1) (g28.up fun y z => Or.inl z)
        have iso := g28.2 so n3
        have h9 := ih (i + 1) M28 (by omega) (f01.tr ((k_F.of g28 n4.1).up fun _ z => Or.inr z)) S28 (by rw [iso.1, i1, e1]) (by rw [iso.2, i2, e2]) (fun j es2 hj => ?_) fun j hj => ?_
        · rw [hK, List.length_append, List.length_singleton] at h9
          rwa [show (((List.filter hd (ds.take i)).length + 1 : Nat) : Int) = ((List.filter hd (ds.take i)).length : Int) + 1 by omega, show ((i + 1 : Nat) : Int) = (i : Int) + 1 by omega] at h9
        · rw [hK] at hj
          subst e28
          rw [g_i_wi]
          rcases Nat.lt_or_ge j ((ds.take i).filter hd).length with hjl | hjl
          · rw [List.getElem?_append_left hjl] at hj
            rw [if_neg (by omega), ib]
            exact hkept j es2 hj
          · have hj2 := (List.getElem?_eq_some_iff.mp hj).1
            rw [List.length_append, List.length_singleton] at hj2
            have hje : j = ((ds.take i).filter hd).length := by omega
            rw [hje, List.getElem?_append_right (Nat.le_refl _), Nat.sub_self] at hj
            cases hj
            rw [if_pos ⟨rfl, by omega⟩]
            exact ⟨p, rfl, p2, p3⟩
        · subst e28
          rw [g_i_wi, if_neg (by omega), ib]
          exact hrest j (by omega)
  refine m_X9_match hpeR fun _ => ?_
  have h9 := hlp ds.length 0 M0 (by omega) (k_F.rf _ _ _) hF rfl rfl (fun j es hj => absurd hj (by simp)) fun j _ => rfl
  simpa using h9
end CMATCH
