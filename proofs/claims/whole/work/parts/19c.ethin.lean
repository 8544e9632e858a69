/-! STAGES: filters among the stages, the reference -/
theorem S_sum_f (p : List b_E → Bool) : ∀ l : List (List b_E), S_sum (l.filter p) ≤ S_sum l := by
  intro l
  have hc : ∀ (a : List b_E) (l : List (List b_E)), S_sum (a :: l) = (b_doc a).length + S_sum l := fun a l => by unfold S_sum; rw [List.map_cons, List.sum_cons]
  induction l with
  | nil => exact Nat.le_refl _
  | cons a l ih =>
    rw [List.filter_cons]
    split
    · rw [hc, hc]
      omega
    · rw [hc]
      omega
section ETHIN
variable {m b ma be l ob go fo kr : Nat} {M0 : g_M} {g : Int} {os ds : List (List b_E)}
def P_T (m l be : Nat) (y : Nat) (k : Int) : Prop := E_lf m l y k ∨ y = be
theorem e_thin {dd De Di : Nat} {Q : Int → g_M → Prop} {v1 v2 q pe : Int} {it fe : b_E} (hv1 : g_InR v1) (hv2 : g_InR v2) (hC : P_R m b ma be l ob go fo kr os M0) (hbt : E_belt m b be g ds M0) (hit : b_st (g_i M0 b) 2100 q Di it.1 it.2.1 it.2.2) (he : b_st (g_i M0 b) 2100 pe De fe.1 fe.2.1 fe.2.2) (hk : fe.1 = 3) (hDe : De ≤ 20) (hV : (F_V 20).1 (b_ch fe.2.2)) (hq : ∀ M1, e_fr (P_E m b ma be l go fo kr) M0 M1 → P_R m b ma be l ob go fo kr os M1 → g_i M1 m 24 = g_i M0 m 24 → E_belt m b be g (ds.filter fun es => (F_X 20).1 (b_ch fe.2.2) (3, [], b_doc es)) M1 → g_Run (dd + 230) 424 85 [(0, .ref m), (1, g_n v1), (2, g_n v2), (3, g_n (q + (b_el it.1 it.2.1 it.2.2).length))] [] M1 (g_qI Q)) : g_Run (dd + 230) 424 161 [(0, .ref m), (1, g_n v1), (2, g_n v2), (3, g_n q), (4, g_n pe), (5, g_n 0), (6, g_n 0)] [] M0 (g_qI Q) := by
  obtain ⟨nm, nb, no, nl, -⟩ := hC.no
  obtain ⟨⟨hT, -⟩, -, hS0, -⟩ := id hC
  obtain ⟨hR, -, h18, -, hbe, -⟩ := id hT
  obtain ⟨n1, n2, n3, n4, n5, n6⟩ := hT.ne
  obtain ⟨l1, l2, l3⟩ := hS0.ne
  have hlb : l ≠ be := g_neAA hS0.2.2.1 hbe (by omega)
  obtain ⟨h19, hok, hpl⟩ := id hbt
  have hl200 := hok.1
  have hq4 := hit.2.2.2.1
  have hq5 := hit.2.2.2.2
  have he4 := he.2.2.2.1
  have he5 := he.2.2.2.2
  have hel := b_el_len fe.1 fe.2.1 fe.2.2
  have hqR : g_InR q := ⟨by omega, by omega⟩
  have hpeR : g_InR pe := ⟨by omega, by omega⟩
  have he' : b_st (g_i M0 b) 2706210 pe De fe.1 fe.2.1 fe.2.2 := ⟨he.1, he.2.1, he.2.2.1, he4, by omega⟩
  have hit' : b_st (g_i M0 b) 2706210 q Di it.1 it.2.1 it.2.2 := ⟨hit.1, hit.2.1, hit.2.2.1, hq4, by omega⟩
  obtain ⟨D', eD, hdc⟩ := he'.dce hk
  obtain ⟨hd, hhd⟩ : ∃ hd : List b_E → Bool, hd = fun es => (F_X 20).1 (b_ch fe.2.2) (3, [], b_doc es) := ⟨_, rfl⟩
  rw [← hhd] at hq
  have hbel : ∀ (es : List b_E), hd es = (F_X 20).1 (b_ch fe.2.2) (3, [], b_doc es) := fun es => by rw [hhd]
  have k19 : ∀ {M : g_M}, e_fr (P_T m l be) M0 M → (∀ k, k ≠ 10 → g_i M m k = g_i M0 m k) ∧ g_i M b = g_i M0 b := fun f => ⟨fun k hk => f.2.1 m k fun z => by
      rcases z with (z | ⟨-, z⟩) | z
      · exact l2 z.symm
      · exact hk z
      · exact n3 z, funext fun k => f.2.1 b k fun z => by
      rcases z with (z | ⟨z, -⟩) | z
      · exact l1 z.symm
      · exact n1 z.symm
      · exact n5 z⟩
  have hpe : ∀ y k, P_T m l be y k → P_E m b ma be l go fo kr y k := fun y k z => z.elim (fun z => Or.inr (Or.inl z)) fun z => Or.inl (Or.inr (Or.inr (Or.inl z)))
  have hlp : ∀ (t i : Nat) (M : g_M), i + t = ds.length → e_fr (P_T m l be) M0 M → E_S m b l (g_i M0 b) M [] → (∀ (j : Nat) (es : List b_E), ((ds.take i).filter hd)[j]? = some es → ∃ p, g_i M be j = p ∧ b_at (g_i M0 b) p (b_doc es) ∧ 2000 ≤ p ∧ p + (b_doc es).length ≤ 922000 ∧ (p + (b_doc es).length ≤ E_lo g ∨ E_lo g + 60000 ≤ p)) → (∀ j : Nat, i ≤ j → g_i M be j = g_i M0 be j) → g_Run (dd + 230) 424 161 [(0, .ref m), (1, g_n v1), (2, g_n v2), (3, g_n q), (4, g_n pe), (5, g_n ((ds.take i).filter hd).length), (6, g_n i)] [] M (g_qI Q) := by
    intro t
    induction t with
    | zero =>
      intro i M hi f S hkept _
      have hlf := List.length_filter_le hd (ds.take i)
      rw [List.length_take] at hlf
      rw [List.take_of_length_le (by omega)] at hkept ⊢
      have hlf2 := List.length_filter_le hd ds
      obtain ⟨em, eb⟩ := k19 f
      have h191 : g_i M m 19 = ds.length := by rw [em 19 (by decide)]; exact h19
      refine s_X12_pipeline_161 hv1 hv2 hqR hpeR ⟨by omega, by omega⟩ ⟨by omega, by omega⟩ fun _ => ⟨f.O hR.1, fun z => absurd z (by omega), fun _ M2 e2 _ => ?_⟩
      have f2 : e_fr (fun y k => y = m ∧ k = 19) M M2 := by rw [e2]; exact e_fr.wi _ ⟨rfl, rfl⟩
      have f02 : e_fr (P_E m b ma be l go fo kr) M0 M2 := (f.up hpe).tr (f2.up fun y k z => Or.inl (Or.inl ⟨z.1, by omega⟩))
      have eb2 : g_i M2 b = g_i M0 b := by
        rw [← eb]
        exact funext fun k => f2.2.1 b k fun z => n1 z.1.symm
      refine e_bh2 (d := dd + 226) (f02.R hR) (by rw [eb2]; exact hit') ?_
      intro _ _ _
      have S2 : E_S m b l (g_i M2 b) M2 [] := S.sf.fx f2 (fun z => absurd z.2 (by decide)) fun k z => l2 z.1
      refine hq M2 f02 (hC.up f02 S2) ?_ ⟨?_, ⟨by omega, ?_, fun es hes => hok.2.2 es (List.mem_filter.mp hes).1⟩, fun j es hj => ?_⟩
      · rw [f2.2.1 m 24 fun z => absurd z.2 (by decide)]
        exact em 24 (by decide)
      · rw [e2, g_i_wi, if_pos ⟨rfl, rfl⟩]
      · have := S_sum_f hd ds
        have := hok.2.1
        omega
      · obtain ⟨p, p1, p2, p3⟩ := hkept j es hj
        exact ⟨p, by rw [f2.2.1 be j fun z => n3 z.1.symm]; exact p1, by rw [eb2]; exact p2, p3⟩
    | succ t ih =>
      intro i M hi f S hkept hrest
      obtain ⟨es, hes⟩ : ∃ es, ds[i]? = some es := ⟨_, List.getElem?_eq_getElem (by omega)⟩
      obtain ⟨p, p1, p2, p3, p4, p5⟩ := hpl i es hes
      obtain ⟨m1, m2⟩ := hok.2.2 es (List.mem_of_getElem? hes)
      have htk : ds.take (i + 1) = ds.take i ++ [es] := by rw [List.take_add_one, hes]; rfl
      have hlf := List.length_filter_le hd (ds.take i)
      rw [List.length_take] at hlf
      obtain ⟨em, eb⟩ := k19 f
      have h191 : g_i M m 19 = ds.length := by rw [em 19 (by decide)]; exact h19
      have hbeM := f.A hbe
      have hct : E_ct (g_i M0 b) p 15 es := ⟨p2, by omega, p4, m2⟩
      have hw := L_W_size (m := 35) (c := L_C 16) (e := (3, [], b_doc es)) (fun w hw => of_decide_eq_true (List.all_eq_true.mp (L_CB ⟨16, by decide⟩).2.2 w hw)) (hct.dc m1).2.1
      have hel2 : (b_el 3 [] (b_doc es)).length = (b_doc es).length + 2 := by rw [b_el_len, List.length_nil]; omega
      change 7 * _ ≤ 35 * (b_el 3 [] (b_doc es)).length at hw
      refine s_X12_pipeline_161 hv1 hv2 hqR hpeR ⟨by omega, by omega⟩ ⟨by omega, by omega⟩ fun _ => ⟨f.O hR.1, fun _ => e_vl2 (d := dd + 228) (f.R hR) (by rw [eb]; exact he') ?_, fun z => absurd (by omega) z⟩
      intro _ _ _
      refine ⟨be, by rw [f.2.2]; exact h18, 200, hbeM, ⟨by omega, by omega⟩, ?_⟩
      rw [hrest i (Nat.le_refl _), p1]
      refine (e_hX (m := m) (b := b) (l := l) (F := g_i M0 b) 20 (by decide)).1 M [] _ _ (pe + 2 + fe.2.1.length) p fe (3, [], b_doc es) D' 15 S hdc (by omega) (by omega) (by omega) hV (hct.dc m1) (by decide) (by show (b_doc es).length ≤ _; omega) (by show ([] : List Int).length + 2 + L_W L_c1 (L_C 16) (3, [], b_doc es) ≤ 32000; rw [List.length_nil]; omega) (by omega) fun M1 f1 S1 => ?_
      intro _ _ _
      have f01 : e_fr (P_T m l be) M0 M1 := f.tr (f1.up fun _ _ z => Or.inl z)
      have ib : ∀ k, g_i M1 be k = g_i M be k := fun k => f1.2.1 be k fun z => z.elim (fun z => hlb z.symm) fun z => n3 z.1.symm
      rw [← hbel]
      cases hb : hd es
      · have hK : (ds.take (i + 1)).filter hd = (ds.take i).filter hd := by rw [htk, List.filter_append, List.filter_cons, hb]; simp
        refine ⟨fun _ => ⟨⟨by omega, by omega⟩, ?_⟩, fun z => absurd rfl z⟩
        have h9 := ih (i + 1) M1 (by omega) f01 S1 (fun j es2 hj => ?_) fun j hj => ?_
        · rw [hK] at h9
          rwa [show ((i + 1 : Nat) : Int) = (i : Int) + 1 by omega] at h9
        · rw [hK] at hj
          rw [ib]
          exact hkept j es2 hj
        · rw [ib]
          exact hrest j (by omega)
      · have hK : (ds.take (i + 1)).filter hd = (ds.take i).filter hd ++ [es] := by rw [htk, List.filter_append, List.filter_cons, hb]; simp
        refine ⟨fun z => absurd z (by decide), fun _ => ⟨be, by rw [f01.2.2]; exact h18, be, by rw [f01.2.2]; exact h18, 200, f01.A hbe, ⟨by omega, by omega⟩, 200, f01.A hbe, ⟨by omega, by omega⟩, fun M36 e36 _ => ⟨⟨by omega, by omega⟩, ⟨by omega, by omega⟩, ?_⟩⟩⟩
        rw [ib, hrest i (Nat.le_refl _), p1] at e36
        have f36 : e_fr (fun y _ => y = be) M1 M36 := by rw [e36]; exact e_fr.wi _ rfl
        have S36 : E_S m b l (g_i M0 b) M36 [] := by
          have h9 := S1.sf.fx f36 (fun z => n3 z) fun k z => hlb z
          have h8 : g_i M36 b = g_i M0 b := by
            rw [← (k19 f01).2]
            exact funext fun k => f36.2.1 b k fun z => n5 z
          rw [h8] at h9
          exact h9
        have h9 := ih (i + 1) M36 (by omega) (f01.tr (f36.up fun _ _ z => Or.inr z)) S36 (fun j es2 hj => ?_) fun j hj => ?_
        · rw [hK, List.length_append, List.length_singleton] at h9
          rwa [show (((List.filter hd (ds.take i)).length + 1 : Nat) : Int) = ((List.filter hd (ds.take i)).length : Int) + 1 by omega, show ((i + 1 : Nat) : Int) = (i : Int) + 1 by omega] at h9
        · rw [hK] at hj
          rw [e36, g_i_wi]
          rcases Nat.lt_or_ge j ((ds.take i).filter hd).length with hjl | hjl
          · rw [List.getElem?_append_left hjl] at hj
            rw [if_neg (by omega), ib]
            exact hkept j es2 hj
          · have hj2 := (List.getElem?_eq_some_iff.mp hj).1
            rw [List.length_append, List.length_singleton] at hj2
            have hje : j = ((ds.take i).filter hd).length := by omega
            rw [hje, List.getElem?_append_right (Nat.le_refl _), Nat.sub_self] at hj
            cases hj
            rw [if_pos ⟨rfl, by omega⟩]
            exact ⟨p, rfl, p2, p3, p4, p5⟩
        · rw [e36, g_i_wi, if_neg (by omega), ib]
          exact hrest j (by omega)
  have h9 := hlp ds.length 0 M0 (by omega) (e_fr.rf _ _) hS0 (fun j es hj => by
    rw [List.take_zero, List.filter_nil] at hj
    exact absurd hj (by simp)) fun j _ => rfl
  rw [List.take_zero, List.filter_nil, List.length_nil] at h9
  exact h9
end ETHIN
