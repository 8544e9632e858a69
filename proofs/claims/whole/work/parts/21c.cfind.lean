/-! REQUESTS: find and count, the class -/
/-- what find tells of one document: its number and itself -/
def F_tel (z : Int × List b_E) : List b_E := [(16, b_tx 13, b_le4 z.1), (3, b_tx 31, b_doc z.2)]
theorem F_telD (z : Int × List b_E) : b_doc (F_tel z) = b_le4 (((b_el 16 (b_tx 13) (b_le4 z.1) ++ (3 :: (b_tx 31 ++ [0])) ++ b_doc z.2).length : Int) + 5) ++ ((b_el 16 (b_tx 13) (b_le4 z.1) ++ (3 :: (b_tx 31 ++ [0])) ++ b_doc z.2) ++ [0]) := by
  have h : b_ser (F_tel z) = b_el 16 (b_tx 13) (b_le4 z.1) ++ (3 :: (b_tx 31 ++ [0])) ++ b_doc z.2 := by
    have h1 : b_ser (F_tel z) = b_el 16 (b_tx 13) (b_le4 z.1) ++ (b_el 3 (b_tx 31) (b_doc z.2) ++ []) := rfl
    have h2 : b_el 3 (b_tx 31) (b_doc z.2) = 3 :: (b_tx 31 ++ 0 :: b_doc z.2) := rfl
    rw [h1, h2]
    simp
  unfold b_doc
  rw [h]
  rfl
/-- the numbers of a shelf's documents stand in a row -/
def N_at (nh : Nat) (ns : List Int) (M : g_M) : Prop := g_A M nh 1 200 ∧ ∀ (i : Nat) (n : Int), ns[i]? = some n → g_i M nh i = n ∧ g_InR n
section CFIND
variable {x r b o qo qf qt hi cur oh nh ow ab : Nat} {M : g_M} {c e0 : Int} {ds : List (Int × List b_E)} {u : List Int}
theorem c_found {dd : Nat} {Q : g_M → Prop} {hd : List b_E → Bool} {v1 : Int} (hv1 : g_InR v1) (hx : g_O M x 11) (x0 : g_r M x 0 = some b) (x1 : g_r M x 1 = some ow) (x10 : g_r M x 10 = some hi) (x16 : g_r M x 16 = some cur) (hb3 : g_A M b 0 246408) (hhi : g_A M hi 2 200) (hcur : g_O M cur 8) (hoh : g_r M cur 2 = some oh) (hoA : g_A M oh 1 200) (hnh : g_r M cur 3 = some nh) (hns : N_at nh (ds.map Prod.fst) M) (hds : P_sh b cur oh (ds.map Prod.snd) M) (hh : ∀ (k : Nat) (es : List b_E), (ds.map Prod.snd)[k]? = some es → g_i M hi k = if hd es = true then 1 else 0) {pre : List Int} {r2 : Int} (hr : w_r 0 8000 r2 pre.length) (hrR : g_InR r2) (hW : c_Wr ow ab 8000 0 8000 (pre ++ [0, 0, 0, 0]) M) (hq : ∀ M1, e_fr (c_WL ow ab 0 8000) M M1 → c_Wr ow ab 8000 0 8000 (pre ++ b_doc (J_row 0 ((ds.filter fun z => hd z.2).map F_tel))) M1 → Q M1) : g_Run (dd + 5) 215 45 [(0, .ref x), (1, g_n v1), (2, g_n r2), (3, g_n 0), (4, g_n 0)] [] M (g_qV Q) := by
  obtain ⟨d6, hok, hpl⟩ := id hds
  have hl200 := hok.1
  rw [List.length_map] at d6 hl200
  have how := hW.1.1
  have hab := hW.1.2.2.1
  obtain ⟨hnA, hnv⟩ := hns
  have nO : ∀ {y ci : Nat} {k : Int}, g_O M y ci → ci ≠ 4 → ¬ c_WL ow ab 0 8000 y k := fun hy h4 z => by
    rcases z with ⟨z, -⟩ | ⟨z, -⟩
    · exact g_neOO hy how h4 z
    · exact g_neOA hy hab z
  have nA : ∀ {y t : Nat} {n k : Int}, g_A M y t n → ¬ (t = 0 ∧ n = 8000) → ¬ c_WL ow ab 0 8000 y k := fun hy h4 z => by
    rcases z with ⟨z, -⟩ | ⟨z, -⟩
    · exact g_neOA how hy z.symm
    · exact g_neAA hy hab (by omega) z
  have hlp : ∀ (t i : Nat) (M3 : g_M), i + t = ds.length → e_fr (c_WL ow ab 0 8000) M M3 → c_Wr ow ab 8000 0 8000 (pre ++ ([0, 0, 0, 0] ++ b_ser (J_row 0 (((ds.take i).filter fun z => hd z.2).map F_tel)))) M3 → g_Run (dd + 5) 215 45 [(0, .ref x), (1, g_n v1), (2, g_n r2), (3, g_n ((ds.take i).filter fun z => hd z.2).length), (4, g_n i)] [] M3 (g_qV Q) := by
    intro t
    induction t with
    | zero =>
      intro i M3 hi3 f3 W3
      rw [List.take_of_length_le (by omega)] at W3 ⊢
      have hlf := List.length_filter_le (fun z : Int × List b_E => hd z.2) ds
      refine s_X11_find_45 hv1 hrR ⟨by omega, by omega⟩ ⟨by omega, by omega⟩ fun _ => ⟨f3.O hx, cur, by rw [f3.2.2]; exact x16, f3.O hcur, fun z => absurd z (by rw [f3.2.1 cur 6 (nO hcur (by decide)), d6]; omega), fun _ => ⟨ow, by rw [f3.2.2]; exact x1, W3.1.1, c_close (d := dd + 3) W3 hr fun M4 f4 W4 => ?_⟩⟩
      intro _ _
      refine hq M4 (f3.tr f4) ?_
      exact W4
    | succ t ih =>
      intro i M3 hi3 f3 W3
      obtain ⟨z, hz⟩ : ∃ z, ds[i]? = some z := ⟨_, List.getElem?_eq_getElem (by omega)⟩
      have hzs : (ds.map Prod.snd)[i]? = some z.2 := by rw [List.getElem?_map, hz]; rfl
      have hzn : (ds.map Prod.fst)[i]? = some z.1 := by rw [List.getElem?_map, hz]; rfl
      obtain ⟨p, p1, p2, p3⟩ := hpl i z.2 hzs
      obtain ⟨n1, n2⟩ := hnv i z.1 hzn
      have p4 := p2.2.2.2.1
      have p5 := p2.2.2.2.2
      have htk : ds.take (i + 1) = ds.take i ++ [z] := by rw [List.take_add_one, hz]; rfl
      have hlf := List.length_filter_le (fun z : Int × List b_E => hd z.2) (ds.take i)
      rw [List.length_take] at hlf
      have hhi3 := hh i z.2 hzs
      obtain ⟨fi, hfi⟩ : ∃ fi, fi = (ds.take i).filter fun z => hd z.2 := ⟨_, rfl⟩
      rw [← hfi] at W3 hlf ⊢
      refine s_X11_find_45 hv1 hrR ⟨by omega, by omega⟩ ⟨by omega, by omega⟩ fun _ => ⟨f3.O hx, cur, by rw [f3.2.2]; exact x16, f3.O hcur, fun _ => ⟨hi, by rw [f3.2.2]; exact x10, 200, f3.A hhi, ⟨by omega, by omega⟩, ?_⟩, fun z => absurd (by rw [f3.2.1 cur 6 (nO hcur (by decide)), d6]; omega) z⟩
      rw [f3.2.1 hi i (nA hhi (by decide)), hhi3]
      cases hb : hd z.2
      · have hK : (ds.take (i + 1)).filter (fun z => hd z.2) = fi := by rw [htk, List.filter_append, List.filter_cons, hb, hfi]; simp
        have h9 := ih (i + 1) M3 (by omega) f3 (by rw [hK]; exact W3)
        rw [hK, show ((i + 1 : Nat) : Int) = (i : Int) + 1 by omega] at h9
        exact ⟨fun _ => ⟨⟨by omega, by omega⟩, h9⟩, fun z => absurd rfl z⟩
      · have hK : (ds.take (i + 1)).filter (fun z => hd z.2) = fi ++ [z] := by rw [htk, List.filter_append, List.filter_cons, hb, hfi]; simp
        refine ⟨fun z => absurd z (by decide), fun _ => ⟨ow, by rw [f3.2.2]; exact x1, W3.1.1, c_item (d := dd + 3) (k := 3) (i := fi.length) W3 (by decide) (by decide) (by omega) fun M4 f4 W4 => ?_⟩⟩
        intro _ _
        have f04 := f3.tr f4
        refine ⟨ow, by rw [f04.2.2]; exact x1, W4.1.1, c_open (d := dd + 3) W4 fun rr M5 f5 W5 hrr => ?_⟩
        intro _ _ hrrR
        have f05 := f04.tr f5
        refine ⟨ow, by rw [f05.2.2]; exact x1, cur, by rw [f05.2.2]; exact x16, f05.O hcur, nh, by rw [f05.2.2]; exact hnh, 200, f05.A hnA, ⟨by omega, by omega⟩, W5.1.1, ?_⟩
        rw [f05.2.1 nh i (nA hnA (by decide)), n1]
        refine c_named2 (d := dd + 1) (by decide) W5 n2 fun M6 f6 W6 => ?_
        intro _ _
        have f06 := f05.tr f6
        refine ⟨ow, by rw [f06.2.2]; exact x1, W6.1.1, c_head (d := dd + 2) (k := 3) (j := 31) (by decide) W6 (by decide) (by decide) fun M7 f7 W7 => ?_⟩
        intro _ _
        have f07 := f06.tr f7
        refine ⟨ow, by rw [f07.2.2]; exact x1, b, by rw [f07.2.2]; exact x0, cur, by rw [f07.2.2]; exact x16, f07.O hcur, oh, by rw [f07.2.2]; exact hoh, 200, f07.A hoA, ⟨by omega, by omega⟩, W7.1.1, ?_⟩
        rw [f07.2.1 oh i (nA hoA (by decide)), p1]
        have eb : g_i M7 b = g_i M b := funext fun k => f07.2.1 b k (nA hb3 (by decide))
        refine c_outVal (d := dd + 3) (D := 16) (k := 3) (nm := []) (vb := b_doc z.2) W7 (f07.A hb3) (by decide) (by rw [eb]; exact ⟨p2.1, p2.2.1, p2.2.2.1, p4, by omega⟩) fun M8 f8 W8 => ?_
        intro _ _
        have f08 := f07.tr f8
        obtain ⟨pr2, hpr2⟩ : ∃ pr2 : List Int, pr2 = pre ++ ([0, 0, 0, 0] ++ b_ser (J_row 0 (fi.map F_tel))) ++ (3 :: (b_dg fi.length ++ [0])) := ⟨_, rfl⟩
        rw [← hpr2] at W8 hrr
        have W8' : c_Wr ow ab 8000 0 8000 (pr2 ++ ([0, 0, 0, 0] ++ (b_el 16 (b_tx 13) (b_le4 z.1) ++ (3 :: (b_tx 31 ++ [0])) ++ b_doc z.2))) M8 := by
          have h6 : pr2 ++ ([0, 0, 0, 0] ++ (b_el 16 (b_tx 13) (b_le4 z.1) ++ (3 :: (b_tx 31 ++ [0])) ++ b_doc z.2)) = pr2 ++ [0, 0, 0, 0] ++ b_el 16 (b_tx 13) (b_le4 z.1) ++ (3 :: (b_tx 31 ++ [0])) ++ b_doc z.2 := by simp
          rw [h6]
          exact W8
        refine ⟨ow, by rw [f08.2.2]; exact x1, W8.1.1, c_close (d := dd + 3) W8' hrr fun M9 f9 W9 => ?_⟩
        intro _ _
        rw [← F_telD] at W9
        have h9 := ih (i + 1) M9 (by omega) (f08.tr f9) (by
          rw [hK, List.map_append, List.map_singleton, J_row_snoc, b_ser_app, b_ser_1, List.length_map, Nat.zero_add]
          have h5 : b_el 3 (b_dg fi.length) (b_doc (F_tel z)) = 3 :: (b_dg fi.length ++ 0 :: b_doc (F_tel z)) := rfl
          show c_Wr ow ab 8000 0 8000 (pre ++ ([0, 0, 0, 0] ++ (b_ser (J_row 0 (fi.map F_tel)) ++ b_el 3 (b_dg fi.length) (b_doc (F_tel z))))) M9
          rw [h5]
          have h6 : pre ++ ([0, 0, 0, 0] ++ (b_ser (J_row 0 (fi.map F_tel)) ++ (3 :: (b_dg fi.length ++ 0 :: b_doc (F_tel z))))) = pr2 ++ b_doc (F_tel z) := by rw [hpr2]; simp
          rw [h6]
          exact W9)
        rw [hK, List.length_append, List.length_singleton, show ((i + 1 : Nat) : Int) = (i : Int) + 1 by omega, show ((fi.length + 1 : Nat) : Int) = (fi.length : Int) + 1 by omega] at h9
        exact ⟨⟨by omega, by omega⟩, ⟨by omega, by omega⟩, h9⟩
  exact hlp ds.length 0 M (by omega) (e_fr.rf _ _) (by
    rw [List.take_zero]
    exact hW)
/-- the objects that find, count and others look at -/
def H_o (x b o hi cur oh nh ow : Nat) (M : g_M) : Prop := g_O M x 11 ∧ g_r M x 0 = some b ∧ g_r M x 1 = some ow ∧ g_r M x 3 = some o ∧ g_r M x 10 = some hi ∧ g_r M x 16 = some cur ∧ g_A M hi 2 200 ∧ g_O M cur 8 ∧ g_r M cur 2 = some oh ∧ g_A M oh 1 200 ∧ g_r M cur 3 = some nh
theorem H_S.nO (hF : F_S r b o qo qf qt c e0 246408 (g_i M b) M []) (hhi : g_A M hi 2 200) {y ci : Nat} (hy : g_O M y ci) (h2 : ci ≠ 2) (h5 : ci ≠ 5) : ¬ H_S o qo qf qt hi y := fun z => by
  obtain ⟨hP, ⟨o1, o2, o3, o4⟩, ⟨P1, P2, P3, P4, P5, P6⟩, hA, -⟩ := hF
  rcases z with (z | z | z | z) | z
  · exact g_neOO hy o1 h2 z
  · exact g_neOO hy P1 h5 z
  · exact g_neOA hy P4 z
  · exact g_neOA hy P5 z
  · exact g_neOA hy hhi z
theorem H_S.nA (hF : F_S r b o qo qf qt c e0 246408 (g_i M b) M []) (hhi : g_A M hi 2 200) {y t : Nat} {n : Int} (hy : g_A M y t n) (h2 : ¬ (t = 1 ∧ n = 8)) (h5 : ¬ (t = 2 ∧ n = 200)) : ¬ H_S o qo qf qt hi y := fun z => by
  obtain ⟨hP, ⟨o1, o2, o3, o4⟩, ⟨P1, P2, P3, P4, P5, P6⟩, hA, -⟩ := hF
  rcases z with (z | z | z | z) | z
  · exact g_neOA o1 hy z.symm
  · exact g_neOA P1 hy z.symm
  · exact g_neAA hy P4 (by omega) z
  · exact g_neAA hy P5 (by omega) z
  · exact g_neAA hy hhi (by omega) z
theorem H_o.kp {M1 : g_M} (hF : F_S r b o qo qf qt c e0 246408 (g_i M b) M []) (h : H_o x b o hi cur oh nh ow M) (k : k_F (H_S o qo qf qt hi) r M M1) : H_o x b o hi cur oh nh ow M1 ∧ g_i M1 x = g_i M x ∧ g_i M1 cur = g_i M cur ∧ g_i M1 oh = g_i M oh := by
  obtain ⟨hx, x0, x1, x3, x10, x16, hhi, hcur, hoh, hoA, hnh⟩ := h
  have hP := hF.1
  have e1 := k.O hP hx (by decide) (H_S.nO hF hhi hx (by decide) (by decide))
  have e2 := k.O hP hcur (by decide) (H_S.nO hF hhi hcur (by decide) (by decide))
  have e3 := k.A hP hoA (fun _ z => by unfold k_n at z; omega) (H_S.nA hF hhi hoA (by decide) (by decide))
  exact ⟨⟨hx.up k.1, by rw [e1.2]; exact x0, by rw [e1.2]; exact x1, by rw [e1.2]; exact x3, by rw [e1.2]; exact x10, by rw [e1.2]; exact x16, hhi.up k.1, hcur.up k.1, by rw [e2.2]; exact hoh, hoA.up k.1, by rw [e2.2]; exact hnh⟩, e1.1, e2.1, e3.1⟩
theorem c_WrS {M1 : g_M} (hF : F_S r b o qo qf qt c e0 246408 (g_i M b) M []) (hhi : g_A M hi 2 200) (hW : c_Wr ow ab 8000 0 8000 u M) (k : k_F (H_S o qo qf qt hi) r M M1) : c_Wr ow ab 8000 0 8000 u M1 := hW.U hF.1 k (H_S.nO hF hhi hW.1.1 (by decide) (by decide)) (H_S.nA hF hhi hW.1.2.2.1 (by decide) (by decide))
theorem c_findQ {dd De : Nat} {Q : g_M → Prop} {pe : Int} {fe : b_E} (hH : H_o x b o hi cur oh nh ow M) (h14 : g_i M x 14 = pe) (hF : F_S r b o qo qf qt c e0 246408 (g_i M b) M []) (hns : N_at nh (ds.map Prod.fst) M) (hds : P_sh b cur oh (ds.map Prod.snd) M) (he : b_st (g_i M b) 2100 pe De fe.1 fe.2.1 fe.2.2) (hk : fe.1 = 3) (hDe : De ≤ 20) (hW : c_Wr ow ab 8000 0 8000 u M) (hf : ((K_F 20).1 (L_ch pe fe) 0).1 ≠ 0 → ∀ M1, k_F (H_S o qo qf qt hi) r M M1 → F_S r b o qo qf qt c e0 246408 (g_i M b) M1 [] → Q (g_wi (g_wi M1 x 17 (10 + ((K_F 20).1 (L_ch pe fe) 0).1)) x 18 (((K_F 20).1 (L_ch pe fe) 0).2.1 - 4))) (hq : ((K_F 20).1 (L_ch pe fe) 0).1 = 0 → ∀ M1 M2, k_F (H_S o qo qf qt hi) r M M1 → F_S r b o qo qf qt c e0 246408 (g_i M b) M1 [] → e_fr (c_WL ow ab 0 8000) M1 M2 → c_Wr ow ab 8000 0 8000 (u ++ P_an ((ds.filter fun z => (F_X 20).1 (b_ch fe.2.2) (3, [], b_doc z.2)).map F_tel)) M2 → Q M2) : g_Call (dd + 232) 215 [.ref x] M (g_qV Q) := by
  obtain ⟨hx, x0, x1, x3, x10, x16, hhi, hcur, hoh, hoA, hnh⟩ := id hH
  refine m_X11_find fun _ => ⟨hx, c_hits (dd := dd) hx x3 x10 x16 h14 hF hhi hcur hoh hoA hds he hk hDe (fun z M1 k1 S1 => ?_) fun z M1 k1 S1 hh => ?_⟩
  · intro _ _ _
    exact ⟨fun _ => hf z M1 k1 S1, fun z2 => absurd (by decide) z2⟩
  · intro _ _ hR
    have hq2 := hq z M1
    obtain ⟨hd, hhd⟩ : ∃ hd : List b_E → Bool, hd = fun es => (F_X 20).1 (b_ch fe.2.2) (3, [], b_doc es) := ⟨_, rfl⟩
    have e9 : (fun z : Int × List b_E => (F_X 20).1 (b_ch fe.2.2) (3, [], b_doc z.2)) = fun z => hd z.2 := by rw [hhd]
    rw [e9] at hq2
    have hh2 : ∀ (k : Nat) (es : List b_E), (ds.map Prod.snd)[k]? = some es → g_i M1 hi k = if hd es = true then 1 else 0 := by rw [hhd]; exact hh
    rw [← hhd] at hR ⊢
    have el : ((ds.map Prod.snd).filter hd).length = (ds.filter fun z => hd z.2).length := by
      rw [List.filter_map, List.length_map]
      rfl
    rw [el] at hR ⊢
    obtain ⟨⟨a0, a1, a2, a3, a4, a5, a6, a7, a8, a9, a10⟩, b1, b2, b3⟩ := hH.kp hF k1
    have W1 := c_WrS hF hhi hW k1
    refine ⟨fun z => absurd z (by omega), fun _ => ⟨ow, a2, W1.1.1, c_named2 (d := dd + 227) (by decide) W1 hR fun M10 f10 W10 => ?_⟩⟩
    intro _ _
    refine ⟨ow, by rw [f10.2.2]; exact a2, W10.1.1, c_head (d := dd + 228) (k := 4) (j := 30) (by decide) W10 (by decide) (by decide) fun M16 f16 W16 => ?_⟩
    intro _ _
    have f016 := f10.tr f16
    refine ⟨ow, by rw [f016.2.2]; exact a2, W16.1.1, c_open (d := dd + 229) W16 fun rr M22 f22 W22 hrr => ?_⟩
    intro _ _ hrrR
    have f := f016.tr f22
    have how := W1.1.1
    have hab := W1.1.2.2.1
    have nO : ∀ {y ci : Nat} {k : Int}, g_O M1 y ci → ci ≠ 4 → ¬ c_WL ow ab 0 8000 y k := fun hy h4 z => by
      rcases z with ⟨z, -⟩ | ⟨z, -⟩
      · exact g_neOO hy how h4 z
      · exact g_neOA hy hab z
    have nA : ∀ {y t : Nat} {n k : Int}, g_A M1 y t n → ¬ (t = 0 ∧ n = 8000) → ¬ c_WL ow ab 0 8000 y k := fun hy h4 z => by
      rcases z with ⟨z, -⟩ | ⟨z, -⟩
      · exact g_neOA how hy z.symm
      · exact g_neAA hy hab (by omega) z
    have hb1 : g_A M1 b 0 246408 := S1.2.2.2.1
    have eb : g_i M22 b = g_i M b := funext fun k => by
      rw [f.2.1 b k (nA hb1 (by decide)), S1.2.2.2.2]
    have enh : g_i M1 nh = g_i M nh := (k1.A hF.1 hns.1 (fun _ z => by unfold k_n at z; omega) (H_S.nA hF hhi hns.1 (by decide) (by decide))).1
    have hnA : g_A M1 nh 1 200 := hns.1.up k1.1
    refine c_found (dd := dd + 226) (hd := hd) (ds := ds) hR (f.O a0) (by rw [f.2.2]; exact a1) (by rw [f.2.2]; exact a2) (by rw [f.2.2]; exact a4) (by rw [f.2.2]; exact a5) (f.A hb1) (f.A a6) (f.O a7) (by rw [f.2.2]; exact a8) (f.A a9) (by rw [f.2.2]; exact a10) ⟨f.A hnA, fun i n hi2 => ?_⟩ ⟨?_, hds.2.1, fun i es hi2 => ?_⟩ (fun k es hk2 => ?_) hrr hrrR W22 fun M30 f30 W30 => ?_
    · rw [f.2.1 nh i (nA hnA (by decide)), enh]
      exact hns.2 i n hi2
    · rw [f.2.1 cur 6 (nO a7 (by decide)), b2]
      exact hds.1
    · rw [f.2.1 oh i (nA a9 (by decide)), b3, eb]
      exact hds.2.2 i es hi2
    · rw [f.2.1 hi k (nA a6 (by decide))]
      exact hh2 k es hk2
    · refine hq2 M30 k1 S1 (f.tr f30) ?_
      have h5 : u ++ P_an ((ds.filter fun z => hd z.2).map F_tel) = u ++ b_el 16 (b_tx 29) (b_le4 ((ds.filter fun z => hd z.2).length : Int)) ++ (4 :: (b_tx 30 ++ [0])) ++ b_doc (J_row 0 ((ds.filter fun z => hd z.2).map F_tel)) := by
        unfold P_an
        have h6 : b_el 4 (b_tx 30) (b_doc (J_row 0 ((ds.filter fun z => hd z.2).map F_tel))) = 4 :: (b_tx 30 ++ 0 :: b_doc (J_row 0 ((ds.filter fun z => hd z.2).map F_tel))) := rfl
        rw [h6, List.length_map]
        simp
      rw [h5]
      exact W30
theorem c_countQ {dd De : Nat} {Q : g_M → Prop} {pe : Int} {fe : b_E} (hH : H_o x b o hi cur oh nh ow M) (h14 : g_i M x 14 = pe) (hF : F_S r b o qo qf qt c e0 246408 (g_i M b) M []) (hds : P_sh b cur oh (ds.map Prod.snd) M) (he : b_st (g_i M b) 2100 pe De fe.1 fe.2.1 fe.2.2) (hk : fe.1 = 3) (hDe : De ≤ 20) (hW : c_Wr ow ab 8000 0 8000 u M) (hf : ((K_F 20).1 (L_ch pe fe) 0).1 ≠ 0 → ∀ M1, k_F (H_S o qo qf qt hi) r M M1 → F_S r b o qo qf qt c e0 246408 (g_i M b) M1 [] → Q (g_wi (g_wi M1 x 17 (10 + ((K_F 20).1 (L_ch pe fe) 0).1)) x 18 (((K_F 20).1 (L_ch pe fe) 0).2.1 - 4))) (hq : ((K_F 20).1 (L_ch pe fe) 0).1 = 0 → ∀ M1 M2, k_F (H_S o qo qf qt hi) r M M1 → F_S r b o qo qf qt c e0 246408 (g_i M b) M1 [] → e_fr (c_WL ow ab 0 8000) M1 M2 → c_Wr ow ab 8000 0 8000 (u ++ b_el 16 (b_tx 29) (b_le4 ((ds.filter fun z => (F_X 20).1 (b_ch fe.2.2) (3, [], b_doc z.2)).length : Int))) M2 → Q M2) : g_Call (dd + 232) 216 [.ref x] M (g_qV Q) := by
  obtain ⟨hx, x0, x1, x3, x10, x16, hhi, hcur, hoh, hoA, hnh⟩ := id hH
  refine m_X11_count fun _ => ⟨hx, c_hits (dd := dd) hx x3 x10 x16 h14 hF hhi hcur hoh hoA hds he hk hDe (fun z M1 k1 S1 => ?_) fun z M1 k1 S1 hh => ?_⟩
  · intro _ _ _
    exact ⟨fun _ => hf z M1 k1 S1, fun z2 => absurd (by decide) z2⟩
  · intro _ _ hR
    have hq2 := hq z M1
    obtain ⟨hd, hhd⟩ : ∃ hd : List b_E → Bool, hd = fun es => (F_X 20).1 (b_ch fe.2.2) (3, [], b_doc es) := ⟨_, rfl⟩
    have e9 : (fun z : Int × List b_E => (F_X 20).1 (b_ch fe.2.2) (3, [], b_doc z.2)) = fun z => hd z.2 := by rw [hhd]
    rw [e9] at hq2
    rw [← hhd] at hR ⊢
    have el : ((ds.map Prod.snd).filter hd).length = (ds.filter fun z => hd z.2).length := by
      rw [List.filter_map, List.length_map]
      rfl
    rw [el] at hR ⊢
    obtain ⟨⟨a0, a1, a2, a3, a4, a5, a6, a7, a8, a9, a10⟩, b1, b2, b3⟩ := hH.kp hF k1
    have W1 := c_WrS hF hhi hW k1
    refine ⟨fun z => absurd z (by omega), fun _ => ⟨ow, a2, W1.1.1, c_named2 (d := dd + 227) (by decide) W1 hR fun M10 f10 W10 => ?_⟩⟩
    intro _ _
    exact hq2 M10 k1 S1 f10 W10
end CFIND
