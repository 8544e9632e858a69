/-! REQUESTS: for which documents a filter holds, the class -/
def H_S (o qo qf qt hi : Nat) (y : Nat) : Prop := F_CS o qo qf qt y ∨ y = hi
section CHITS
variable {x r b o qo qf qt hi cur oh : Nat} {M : g_M} {c e0 : Int} {ds : List (List b_E)}
theorem c_hits {dd De : Nat} {Q : Int → g_M → Prop} {pe : Int} {fe : b_E} (hx : g_O M x 11) (x3 : g_r M x 3 = some o) (x10 : g_r M x 10 = some hi) (x16 : g_r M x 16 = some cur) (h14 : g_i M x 14 = pe) (hF : F_S r b o qo qf qt c e0 246408 (g_i M b) M []) (hhi : g_A M hi 2 200) (hcur : g_O M cur 8) (hoh : g_r M cur 2 = some oh) (hoA : g_A M oh 1 200) (hds : P_sh b cur oh ds M) (he : b_st (g_i M b) 2100 pe De fe.1 fe.2.1 fe.2.2) (hk : fe.1 = 3) (hDe : De ≤ 20) (hf : ((K_F 20).1 (L_ch pe fe) 0).1 ≠ 0 → ∀ M1, k_F (H_S o qo qf qt hi) r M M1 → F_S r b o qo qf qt c e0 246408 (g_i M b) M1 [] → Q (-1) (g_wi (g_wi M1 x 17 (10 + ((K_F 20).1 (L_ch pe fe) 0).1)) x 18 (((K_F 20).1 (L_ch pe fe) 0).2.1 - 4))) (hq : ((K_F 20).1 (L_ch pe fe) 0).1 = 0 → ∀ M1, k_F (H_S o qo qf qt hi) r M M1 → F_S r b o qo qf qt c e0 246408 (g_i M b) M1 [] → (∀ (k : Nat) (es : List b_E), ds[k]? = some es → g_i M1 hi k = if (F_X 20).1 (b_ch fe.2.2) (3, [], b_doc es) = true then 1 else 0) → Q ((ds.filter fun es => (F_X 20).1 (b_ch fe.2.2) (3, [], b_doc es)).length : Nat) M1) : g_Call (dd + 231) 214 [.ref x] M (g_qI Q) := by
  obtain ⟨hP, ⟨o1, o2, o3, o4⟩, hp, hA, -⟩ := id hF
  obtain ⟨P1, P2, P3, P4, P5, P6⟩ := id hp
  obtain ⟨d6, hok, hpl⟩ := id hds
  have hl200 := hok.1
  have he4 := he.2.2.2.1
  have he5 := he.2.2.2.2
  have hel := b_el_len fe.1 fe.2.1 fe.2.2
  have nO : ∀ {y ci : Nat}, g_O M y ci → ci ≠ 2 → ci ≠ 5 → ¬ H_S o qo qf qt hi y := fun hy h2 h5 z => by
    rcases z with (z | z | z | z) | z
    · exact g_neOO hy o1 h2 z
    · exact g_neOO hy P1 h5 z
    · exact g_neOA hy P4 z
    · exact g_neOA hy P5 z
    · exact g_neOA hy hhi z
  have nA : ∀ {y t : Nat} {n : Int}, g_A M y t n → ¬ (t = 1 ∧ n = 8) → ¬ (t = 2 ∧ n = 200) → ¬ H_S o qo qf qt hi y := fun hy h2 h5 z => by
    rcases z with (z | z | z | z) | z
    · exact g_neOA o1 hy z.symm
    · exact g_neOA P1 hy z.symm
    · exact g_neAA hy P4 (by omega) z
    · exact g_neAA hy P5 (by omega) z
    · exact g_neAA hy hhi (by omega) z
  have nr := nO hP.1 (by decide) (by decide)
  -- what stays
  have hkeep : ∀ {M1 : g_M}, k_F (H_S o qo qf qt hi) r M M1 → (g_O M1 x 11 ∧ g_r M1 x = g_r M x ∧ g_i M1 x = g_i M x) ∧ (g_O M1 cur 8 ∧ g_r M1 cur = g_r M cur ∧ g_i M1 cur = g_i M cur) ∧ g_A M1 oh 1 200 ∧ g_i M1 oh = g_i M oh ∧ g_A M1 hi 2 200 := fun k => by
    have e1 := k.O hP hx (by decide) (nO hx (by decide) (by decide))
    have e2 := k.O hP hcur (by decide) (nO hcur (by decide) (by decide))
    have e3 := k.A hP hoA (fun _ z => by unfold k_n at z; omega) (nA hoA (by decide) (by decide))
    exact ⟨⟨hx.up k.1, e1.2, e1.1⟩, ⟨hcur.up k.1, e2.2, e2.1⟩, hoA.up k.1, e3.1, hhi.up k.1⟩
  obtain ⟨R, hR⟩ : ∃ R, R = (K_F 20).1 (L_ch pe fe) 0 := ⟨_, rfl⟩
  have hk1 := (K_F_ok 20).1 (L_ch pe fe) 0
  have hk2 := (K_F_G (lo := 0) 20).1 (L_ch pe fe) 0 (L_ch_lo (z := (pe, fe)) he4)
  rw [← hR] at hf hq hk1 hk2
  have hk11 := hk1.1
  have hk12 := hk1.2
  refine m_X11_hitsOfFilter fun _ => ⟨hx, o, x3, o1, ?_⟩
  rw [h14]
  refine c_isRight (rm := some r) (N := 246408) (F := g_i M b) (by decide) ⟨_, ⟨o1, o3, o4, o2⟩, hp, hA, rfl, rfl⟩ he.lim hk hDe (by omega) (by omega) ?_
  rw [← hR]
  intro M1 f1 hC1 hw _ _ hok1 _
  have nrF : ¬ F_CS o qo qf qt r := fun z => nr (Or.inl z)
  have k1 : k_F (H_S o qo qf qt hi) r M M1 := (k_F.of f1 nrF).up fun y z => Or.inl z
  obtain ⟨⟨c1, c2, c3, c0⟩, c4, c5, c6, -⟩ := hC1
  have S1 : F_S r b o qo qf qt c e0 246408 (g_i M b) M1 [] := ⟨hP.of f1 nrF fun a n ha hn z => by
    rcases z with z | z | z | z
    · exact g_neOA o1 ha z.symm
    · exact g_neOA P1 ha z.symm
    · exact g_neAA ha P4 (by unfold k_n at hn; omega) z
    · exact g_neAA ha P5 (by unfold k_n at hn; omega) z, ⟨c1, c0, c2, c3⟩, c4, c5, c6⟩
  obtain ⟨⟨a1, a2, a3⟩, -⟩ := hkeep k1
  by_cases h0 : R.1 = 0
  · rw [if_pos h0]
    refine ⟨fun z => absurd z (by decide), fun _ => ?_⟩
    obtain ⟨hd, hhd⟩ : ∃ hd : List b_E → Bool, hd = fun es => (F_X 20).1 (b_ch fe.2.2) (3, [], b_doc es) := ⟨_, rfl⟩
    have hbel : ∀ (es : List b_E), hd es = (F_X 20).1 (b_ch fe.2.2) (3, [], b_doc es) := fun es => by rw [hhd]
    have hq2 := hq h0
    rw [← hhd] at hq2
    have hV := (K_good 20 (b_ch fe.2.2) (pe + 6 + fe.2.1.length) 0).1 (by rw [hR] at h0; exact h0)
    have hlp : ∀ (t i : Nat) (M2 : g_M), i + t = ds.length → k_F (H_S o qo qf qt hi) r M M2 → F_S r b o qo qf qt c e0 246408 (g_i M b) M2 [] → (∀ (k : Nat) (es : List b_E), k < i → ds[k]? = some es → g_i M2 hi k = if hd es = true then 1 else 0) → g_Run (dd + 230) 214 41 [(0, .ref x), (1, g_n ((ds.take i).filter hd).length), (2, g_n i)] [] M2 (g_qI Q) := by
      intro t
      induction t with
      | zero =>
        intro i M2 hi k2 S2 hh
        obtain ⟨⟨a1, a2, a3⟩, ⟨b1, b2, b3⟩, -⟩ := hkeep k2
        rw [List.take_of_length_le (by omega)]
        have hlf := List.length_filter_le hd ds
        refine s_X11_hitsOfFilter_41 ⟨by omega, by omega⟩ ⟨by omega, by omega⟩ fun _ => ⟨a1, cur, by rw [a2]; exact x16, b1, fun z => absurd z (by rw [b3, d6]; omega), fun _ => ?_⟩
        refine hq2 M2 k2 S2 fun k es hk2 => ?_
        rw [← hbel]
        exact hh k es (by have := (List.getElem?_eq_some_iff.mp hk2).1; omega) hk2
      | succ t ih =>
        intro i M2 hi2 k2 S2 hh
        obtain ⟨⟨a1, a2, a3⟩, ⟨b1, b2, b3⟩, b4, b5, b6⟩ := hkeep k2
        obtain ⟨es, hes⟩ : ∃ es, ds[i]? = some es := ⟨_, List.getElem?_eq_getElem (by omega)⟩
        obtain ⟨p, p1, p2, p3⟩ := hpl i es hes
        have m1 := (hok.2.2 es (List.mem_of_getElem? hes)).1
        have htk : ds.take (i + 1) = ds.take i ++ [es] := by rw [List.take_add_one, hes]; rfl
        have hlf := List.length_filter_le hd (ds.take i)
        rw [List.length_take] at hlf
        have hpM : b_st (g_i M b) 246408 p 16 3 [] (b_doc es) := ⟨p2.1, p2.2.1, p2.2.2.1, p2.2.2.2.1, by have := p2.2.2.2.2; omega⟩
        have hw2 := L_W_size (m := 35) (c := L_C 16) (e := (3, [], b_doc es)) (fun w hw => of_decide_eq_true (List.all_eq_true.mp (L_CB ⟨16, by decide⟩).2.2 w hw)) hpM.2.2.1
        have hel2 : (b_el 3 [] (b_doc es)).length = (b_doc es).length + 2 := by rw [b_el_len, List.length_nil]; omega
        change 7 * _ ≤ 35 * (b_el 3 [] (b_doc es)).length at hw2
        refine s_X11_hitsOfFilter_41 ⟨by omega, by omega⟩ ⟨by omega, by omega⟩ fun _ => ⟨a1, cur, by rw [a2]; exact x16, b1, fun _ => ⟨hi, by rw [a2]; exact x10, o, by rw [a2]; exact x3, cur, by rw [a2]; exact x16, b1, oh, by rw [b2]; exact hoh, 200, b4, ⟨by omega, by omega⟩, S2.2.1.1, ?_⟩, fun z => absurd (by rw [b3, d6]; omega) z⟩
        rw [a3, h14, b5, p1]
        refine (c_hX (by decide) 20 (by decide)).1 M2 [] _ (dd + 230) 0 pe p fe (3, [], b_doc es) De 15 S2 he.lim hk hDe (by omega) hV hpM rfl (by decide) (by show (b_doc es).length ≤ _; omega) (by show ([] : List Int).length + 2 + L_W L_c1 (L_C 16) (3, [], b_doc es) ≤ 32000; rw [List.length_nil]; omega) (by decide) (by omega) (by omega) fun M3 f3 S3 => ?_
        intro _ _ _
        have k3 := k2.tr (f3.up fun y z => Or.inl (Or.inr z))
        obtain ⟨⟨d1, d2, d3⟩, -, -, -, d7⟩ := hkeep k3
        have ehi : g_i M3 hi = g_i M2 hi := (f3.A S2.1 b6 (fun z => absurd z (by decide)) fun z => by
          rcases z with z | z | z
          · exact g_neOA P1 hhi z.symm
          · exact g_neAA hhi P4 (by omega) z
          · exact g_neAA hhi P5 (by omega) z).1
        rw [← hbel]
        refine ⟨200, d7, ⟨by omega, by omega⟩, u_b01 _, fun M4 e4 _ => ?_⟩
        have f4 : g_fr (fun y => y = hi) M3 M4 := by rw [e4]; exact g_fr.wi _ _ rfl
        have nri : ¬ r = hi := fun z => nr (Or.inr z)
        have k4 := k3.tr ((k_F.of f4 nri).up fun y z => Or.inr z)
        have S4 : F_S r b o qo qf qt c e0 246408 (g_i M b) M4 [] := by
          obtain ⟨s1, ⟨s2, s3, s4, s5⟩, ⟨s6, s7, s8, s9, s10, s11⟩, s12, s13⟩ := S3
          have eo := f4.2 o (g_neOA s2 d7)
          have eq := f4.2 qo (g_neOA s6 d7)
          have eb := f4.2 b (g_neAA s12 d7 (by omega))
          exact ⟨s1.of f4 nri fun a n ha hn z => g_neAA ha d7 (by omega) z, ⟨f4.O s2, by rw [eo.2]; exact s3, by rw [eo.2]; exact s4, by rw [eo.2]; exact s5⟩, ⟨f4.O s6, by rw [eq.2]; exact s7, by rw [eq.2]; exact s8, f4.A s9, f4.A s10, s11⟩, f4.A s12, by rw [eb.1]; exact s13⟩
        obtain ⟨⟨g1, g2, g3⟩, -⟩ := hkeep k4
        have hih : ∀ (k : Nat) (es2 : List b_E), k < i + 1 → ds[k]? = some es2 → g_i M4 hi k = if hd es2 = true then 1 else 0 := fun k es2 hk2 hks => by
          rw [e4, g_i_wi]
          by_cases hki : k < i
          · rw [if_neg fun z => by have := z.2; omega, ehi]
            exact hh k es2 hki hks
          · have hke : k = i := by omega
            rw [hke] at hks ⊢
            rw [hes] at hks
            cases hks
            rw [if_pos ⟨rfl, rfl⟩]
        have h9 := ih (i + 1) M4 (by omega) k4 S4 hih
        refine ⟨hi, by rw [g2]; exact x10, 200, f4.A d7, ⟨by omega, by omega⟩, ?_⟩
        rw [e4, g_i_wi, if_pos ⟨rfl, rfl⟩, ← e4]
        cases hb : hd es
        · have hK : (ds.take (i + 1)).filter hd = (ds.take i).filter hd := by rw [htk, List.filter_append, List.filter_cons, hb]; simp
          rw [hK, show ((i + 1 : Nat) : Int) = (i : Int) + 1 by omega] at h9
          refine ⟨fun _ => ⟨⟨by omega, by omega⟩, ⟨by omega, by omega⟩, ?_⟩, fun z => absurd rfl z⟩
          rw [Int.add_zero]
          exact h9
        · have hK : ((ds.take (i + 1)).filter hd).length = ((ds.take i).filter hd).length + 1 := by rw [htk, List.filter_append, List.filter_cons, hb]; simp
          rw [hK, show ((i + 1 : Nat) : Int) = (i : Int) + 1 by omega, show (((List.filter hd (ds.take i)).length + 1 : Nat) : Int) = ((List.filter hd (ds.take i)).length : Int) + 1 by omega] at h9
          exact ⟨fun z => absurd z (by decide), fun _ => ⟨⟨by omega, by omega⟩, ⟨by omega, by omega⟩, h9⟩⟩
    have h9 := hlp ds.length 0 M1 (by omega) k1 S1 fun k es hk2 => absurd hk2 (by omega)
    rw [List.take_zero, List.filter_nil, List.length_nil] at h9
    exact h9
  · rw [if_neg h0]
    obtain ⟨w1, w2⟩ := hw h0
    have hwR : g_InR (10 + R.1) := ⟨by omega, by omega⟩
    have hpR : g_InR R.2.1 := by
      rw [← w2]
      exact hok1.1 o 5
    refine ⟨fun _ => ⟨o, by rw [a2]; exact x3, c1, by rw [w1]; exact hwR, o, by rw [a2]; exact x3, c1, ?_⟩, fun z => absurd rfl z⟩
    rw [w1, w2]
    refine c_failAt (d := dd + 228) a1 hwR hpR (hk2 h0) ?_
    exact fun _ _ => hf h0 M1 k1 S1
end CHITS
