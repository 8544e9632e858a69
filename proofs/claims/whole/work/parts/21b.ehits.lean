/-! REQUESTS: for which documents a filter holds, the reference -/
section EHITS
variable {m b l cn od mt : Nat} {M : g_M} {ds : List (List b_E)}
def H_E (m l mt : Nat) (y : Nat) (k : Int) : Prop := E_lf m l y k ∨ y = mt
theorem e_match {dd De : Nat} {Q : Int → g_M → Prop} {pe w : Int} {fe : b_E} (hS : E_S m b l (g_i M b) M []) (hT : R_tb m cn od M) (h74 : g_r M m 74 = some mt) (hmt : g_A M mt 2 200) (hw : w = 0 ∨ w = 1) (hds : R_sh b cn od w ds M) (he : b_st (g_i M b) 2100 pe De fe.1 fe.2.1 fe.2.2) (hk : fe.1 = 3) (hDe : De ≤ 20) (hV : (F_V 20).1 (b_ch fe.2.2)) (hq : ∀ M1, e_fr (H_E m l mt) M M1 → E_S m b l (g_i M b) M1 [] → (∀ (k : Nat) (es : List b_E), ds[k]? = some es → g_i M1 mt k = if (F_X 20).1 (b_ch fe.2.2) (3, [], b_doc es) = true then 1 else 0) → Q ((ds.filter fun es => (F_X 20).1 (b_ch fe.2.2) (3, [], b_doc es)).length : Nat) M1) : g_Call (dd + 231) 413 [.ref m, g_n (pe + 2 + fe.2.1.length), g_n w] M (g_qI Q) := by
  obtain ⟨hR, -, hl, -⟩ := id hS
  obtain ⟨l1, l2, l3⟩ := hS.ne
  obtain ⟨t1, t2, t3, t4⟩ := id hT
  obtain ⟨d1, hok, hpl⟩ := id hds
  have hl200 := hok.1
  have hm := hR.1
  have hb := hR.2.2
  have he4 := he.2.2.2.1
  have he5 := he.2.2.2.2
  have hel := b_el_len fe.1 fe.2.1 fe.2.2
  have he' : b_st (g_i M b) 2706210 pe De fe.1 fe.2.1 fe.2.2 := ⟨he.1, he.2.1, he.2.2.1, he4, by omega⟩
  obtain ⟨D', eD, hdc⟩ := he'.dce hk
  obtain ⟨c, hc⟩ : ∃ c : Int, c = pe + 2 + fe.2.1.length := ⟨_, rfl⟩
  rw [← hc] at hdc ⊢
  have hcR : g_InR c := ⟨by omega, by omega⟩
  have hwR : g_InR w := ⟨by omega, by omega⟩
  have hcn : ∀ k, ¬ H_E m l mt cn k := fun k z => by
    rcases z with (z | ⟨z, -⟩) | z
    · exact g_neAA t2 hl (by omega) z
    · exact g_neOA hm t2 z.symm
    · exact g_neAA t2 hmt (by omega) z
  have hod : ∀ k, ¬ H_E m l mt od k := fun k z => by
    rcases z with (z | ⟨z, -⟩) | z
    · exact g_neAA t4 hl (by omega) z
    · exact g_neOA hm t4 z.symm
    · exact g_neAA t4 hmt (by omega) z
  have hbb : ∀ k, ¬ H_E m l mt b k := fun k z => by
    rcases z with (z | ⟨z, -⟩) | z
    · exact l1 z.symm
    · exact g_neOA hm hb z.symm
    · exact g_neAA hb hmt (by omega) z
  obtain ⟨hd, hhd⟩ : ∃ hd : List b_E → Bool, hd = fun es => (F_X 20).1 (b_ch fe.2.2) (3, [], b_doc es) := ⟨_, rfl⟩
  have hbel : ∀ (es : List b_E), hd es = (F_X 20).1 (b_ch fe.2.2) (3, [], b_doc es) := fun es => by rw [hhd]
  rw [← hhd] at hq
  have hlp : ∀ (t i : Nat) (M2 : g_M), i + t = ds.length → e_fr (H_E m l mt) M M2 → E_S m b l (g_i M b) M2 [] → (∀ (k : Nat) (es : List b_E), k < i → ds[k]? = some es → g_i M2 mt k = if hd es = true then 1 else 0) → g_Run (dd + 230) 413 5 [(0, .ref m), (1, g_n c), (2, g_n w), (3, g_n ((ds.take i).filter hd).length), (4, g_n i)] [] M2 (g_qI Q) := by
    intro t
    induction t with
    | zero =>
      intro i M2 hi f2 S2 hh
      rw [List.take_of_length_le (by omega)]
      have hlf := List.length_filter_le hd ds
      have hds2 := hds.fr f2 hcn hod fun k _ => hbb k
      refine s_X12_match_5 hcR hwR ⟨by omega, by omega⟩ ⟨by omega, by omega⟩ fun _ => ⟨S2.1.1, cn, by rw [f2.2.2]; exact t1, 2, f2.A t2, ⟨by omega, by omega⟩, fun z => absurd z (by rw [hds2.1]; omega), fun _ => ?_⟩
      refine hq M2 f2 S2 fun k es hk2 => ?_
      rw [← hbel]
      exact hh k es (by have := (List.getElem?_eq_some_iff.mp hk2).1; omega) hk2
    | succ t ih =>
      intro i M2 hi f2 S2 hh
      obtain ⟨es, hes⟩ : ∃ es, ds[i]? = some es := ⟨_, List.getElem?_eq_getElem (by omega)⟩
      obtain ⟨m1, m2⟩ := hok.2.2 es (List.mem_of_getElem? hes)
      have htk : ds.take (i + 1) = ds.take i ++ [es] := by rw [List.take_add_one, hes]; rfl
      have hlf := List.length_filter_le hd (ds.take i)
      rw [List.length_take] at hlf
      have hds2 := hds.fr f2 hcn hod fun k _ => hbb k
      have hT2 : R_tb m cn od M2 := ⟨by rw [f2.2.2]; exact t1, f2.A t2, by rw [f2.2.2]; exact t3, f2.A t4⟩
      refine s_X12_match_5 hcR hwR ⟨by omega, by omega⟩ ⟨by omega, by omega⟩ fun _ => ⟨S2.1.1, cn, by rw [f2.2.2]; exact t1, 2, f2.A t2, ⟨by omega, by omega⟩, fun _ => ⟨mt, by rw [f2.2.2]; exact h74, e_document (d := dd + 229) S2.1 hT2 hw hds2 hes fun p p1 p2 p3 => ?_⟩, fun z => absurd (by rw [hds2.1]; omega) z⟩
      intro _ _ _
      have hct : E_ct (g_i M b) p 15 es := ⟨b_at_keep p1 fun k _ _ => (f2.2.1 b k (hbb k)).symm, by omega, by omega, m2⟩
      have hw2 := L_W_size (m := 35) (c := L_C 16) (e := (3, [], b_doc es)) (fun w hw => of_decide_eq_true (List.all_eq_true.mp (L_CB ⟨16, by decide⟩).2.2 w hw)) (hct.dc m1).2.1
      have hel2 : (b_el 3 [] (b_doc es)).length = (b_doc es).length + 2 := by rw [b_el_len, List.length_nil]; omega
      change 7 * _ ≤ 35 * (b_el 3 [] (b_doc es)).length at hw2
      refine (e_hX (m := m) (b := b) (l := l) (F := g_i M b) 20 (by decide)).1 M2 [] _ _ c p fe (3, [], b_doc es) D' 15 S2 hdc (by omega) (by omega) (by omega) hV (hct.dc m1) (by decide) (by show (b_doc es).length ≤ _; omega) (by show ([] : List Int).length + 2 + L_W L_c1 (L_C 16) (3, [], b_doc es) ≤ 32000; rw [List.length_nil]; omega) (by omega) fun M3 f3 S3 => ?_
      intro _ _ _
      have f03 := f2.tr (f3.up fun _ _ z => (Or.inl z : H_E m l mt _ _))
      have emt : ∀ k, g_i M3 mt k = g_i M2 mt k := fun k => f3.2.1 mt k fun z => by
        rcases z with z | ⟨z, -⟩
        · exact g_neAA hmt hl (by omega) z
        · exact g_neOA hm hmt z.symm
      rw [← hbel]
      refine ⟨200, f03.A hmt, ⟨by omega, by omega⟩, u_b01 _, fun M4 e4 _ => ?_⟩
      have f4 : e_fr (fun y _ => y = mt) M3 M4 := by rw [e4]; exact e_fr.wi _ rfl
      have f04 := f03.tr (f4.up fun _ _ z => (Or.inr z : H_E m l mt _ _))
      have S4 : E_S m b l (g_i M b) M4 [] := by
        have h9 := S3.sf.fx f4 (fun z => g_neOA hm hmt z) fun k z => g_neAA hl hmt (by omega) z
        have h8 : g_i M4 b = g_i M b := funext fun k => f04.2.1 b k (hbb k)
        rw [h8] at h9
        exact h9
      have h9 := ih (i + 1) M4 (by omega) f04 S4 fun k es2 hk2 hks => by
        rw [e4, g_i_wi]
        by_cases hki : k < i
        · rw [if_neg fun z => by have := z.2; omega, emt]
          exact hh k es2 hki hks
        · have hke : k = i := by omega
          rw [hke] at hks ⊢
          rw [hes] at hks
          cases hks
          rw [if_pos ⟨rfl, rfl⟩]
      refine ⟨mt, by rw [f04.2.2]; exact h74, 200, f04.A hmt, ⟨by omega, by omega⟩, ?_⟩
      rw [e4, g_i_wi, if_pos ⟨rfl, rfl⟩, ← e4]
      cases hbd : hd es
      · have hK : (ds.take (i + 1)).filter hd = (ds.take i).filter hd := by rw [htk, List.filter_append, List.filter_cons, hbd]; simp
        rw [hK, show ((i + 1 : Nat) : Int) = (i : Int) + 1 by omega] at h9
        refine ⟨fun _ => ⟨⟨by omega, by omega⟩, ⟨by omega, by omega⟩, ?_⟩, fun z => absurd rfl z⟩
        rw [Int.add_zero]
        exact h9
      · have hK : ((ds.take (i + 1)).filter hd).length = ((ds.take i).filter hd).length + 1 := by rw [htk, List.filter_append, List.filter_cons, hbd]; simp
        rw [hK, show ((i + 1 : Nat) : Int) = (i : Int) + 1 by omega, show (((List.filter hd (ds.take i)).length + 1 : Nat) : Int) = ((List.filter hd (ds.take i)).length : Int) + 1 by omega] at h9
        exact ⟨fun z => absurd z (by decide), fun _ => ⟨⟨by omega, by omega⟩, ⟨by omega, by omega⟩, h9⟩⟩
  refine m_X12_match hcR hwR fun _ => ?_
  have h9 := hlp ds.length 0 M (by omega) (e_fr.rf _ _) hS fun k es hk2 => absurd hk2 (by omega)
  rw [List.take_zero, List.filter_nil, List.length_nil] at h9
  exact h9
end EHITS
