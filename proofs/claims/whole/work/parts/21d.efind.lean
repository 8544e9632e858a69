/-! REQUESTS: what find tells, the reference -/
/-- the numbers of a shelf's documents, the reference -/
def R_nm (nu : Nat) (w : Int) (ns : List Int) (M : g_M) : Prop := ∀ (i : Nat) (n : Int), ns[i]? = some n → g_i M nu (200 * w + i) = n ∧ g_InR n
section EFIND0
variable {m b cn od : Nat} {M : g_M} {w : Int}
theorem e_doc1 {d i : Nat} {s : Int} {Q : Int → g_M → Prop} (hR : e_R M m b) (hT : R_tb m cn od M) (hw : w = 0 ∨ w = 1) (hi : i < 200) (h3 : g_i M od (200 * w + i) = s) (h4 : 0 ≤ s) (h5 : s < 400) (hq : Q (2000 + 2000 * s) M) : g_Call (d + 1) 404 [.ref m, g_n w, g_n i] M (g_qI Q) := by
  obtain ⟨t1, t2, t3, t4⟩ := hT
  refine m_X12_document ⟨by omega, by omega⟩ ⟨by omega, by omega⟩ fun _ => ⟨hR.1, od, t3, ⟨by omega, by omega⟩, ⟨by omega, by omega⟩, 400, t4, ⟨by omega, by omega⟩, ?_⟩
  rw [h3]
  exact ⟨⟨by omega, by omega⟩, ⟨by omega, by omega⟩, hq⟩
end EFIND0
section EFIND
variable {m b cn od nu mt : Nat} {M : g_M} {ds : List (Int × List b_E)} {x : List Int}
theorem e_putFound {dd : Nat} {Q : g_M → Prop} {hd : List b_E → Bool} {w : Int} (hw : w = 0 ∨ w = 1) (hT : R_tb m cn od M) (h72 : g_r M m 72 = some nu) (hnu : g_A M nu 1 400) (h74 : g_r M m 74 = some mt) (hmt : g_A M mt 2 200) (hns : R_nm nu w (ds.map Prod.fst) M) (hds : R_sh b cn od w (ds.map Prod.snd) M) (hh : ∀ (k : Nat) (es : List b_E), (ds.map Prod.snd)[k]? = some es → g_i M mt k = if hd es = true then 1 else 0) (hW : e_Wr m b 2598000 2606000 x M) (hq : ∀ M1, e_fr (e_WL m b 2598000 2606000) M M1 → e_Wr m b 2598000 2606000 (x ++ b_el 4 (b_tx 30) (b_doc (J_row 0 ((ds.filter fun z => hd z.2).map F_tel)))) M1 → Q M1) : g_Call (dd + 6) 417 [.ref m, g_n w] M (g_qV Q) := by
  have hR := hW.1
  have hm := hR.1
  have hb := hR.2.2
  obtain ⟨t1, t2, t3, t4⟩ := id hT
  obtain ⟨d1, hok, hpl⟩ := id hds
  have hl200 := hok.1
  rw [List.length_map] at d1 hl200
  have hwR : g_InR w := ⟨by omega, by omega⟩
  have nA : ∀ {y t : Nat} {n k : Int}, g_A M y t n → t ≠ 0 → ¬ e_WL m b 2598000 2606000 y k := fun hy h4 z => by
    rcases z with ⟨z, -⟩ | ⟨z, -⟩
    · exact g_neOA hm hy z.symm
    · exact g_neAA hy hb (fun z => h4 z.1) z
  have nb : ∀ k, k < 802000 → ¬ e_WL m b 2598000 2606000 b k := fun k hk z => by
    rcases z with ⟨z, -⟩ | ⟨-, z, -⟩
    · exact g_neOA hm hb z.symm
    · omega
  have hTf : ∀ {M2 : g_M}, e_fr (e_WL m b 2598000 2606000) M M2 → R_tb m cn od M2 ∧ R_sh b cn od w (ds.map Prod.snd) M2 := fun f => ⟨⟨by rw [f.2.2]; exact t1, f.A t2, by rw [f.2.2]; exact t3, f.A t4⟩, hds.fr f (fun k => nA t2 (by decide)) (fun k => nA t4 (by decide)) nb⟩
  have hlp : ∀ (pre : List Int) (r2 : Int), g_InR r2 → w_r 2598000 2606000 r2 pre.length → (∀ M4, e_fr (e_WL m b 2598000 2606000) M M4 → e_Wr m b 2598000 2606000 (pre ++ b_doc (J_row 0 ((ds.filter fun z => hd z.2).map F_tel))) M4 → Q M4) → ∀ (t i : Nat) (M3 : g_M), i + t = ds.length → e_fr (e_WL m b 2598000 2606000) M M3 → e_Wr m b 2598000 2606000 (pre ++ ([0, 0, 0, 0] ++ b_ser (J_row 0 (((ds.take i).filter fun z => hd z.2).map F_tel)))) M3 → g_Run (dd + 5) 417 22 [(0, .ref m), (1, g_n w), (2, g_n r2), (3, g_n ((ds.take i).filter fun z => hd z.2).length), (4, g_n i)] [] M3 (g_qV Q) := by
    intro pre r2 hrR hr hq2 t
    induction t with
    | zero =>
      intro i M3 hi3 f3 W3
      rw [List.take_of_length_le (by omega)] at W3 ⊢
      have hlf := List.length_filter_le (fun z : Int × List b_E => hd z.2) ds
      obtain ⟨-, hs3⟩ := hTf f3
      have hl3 := hs3.1
      rw [List.length_map] at hl3
      refine s_X12_putFound_22 hwR hrR ⟨by omega, by omega⟩ ⟨by omega, by omega⟩ fun _ => ⟨W3.1.1, cn, by rw [f3.2.2]; exact t1, 2, f3.A t2, ⟨by omega, by omega⟩, fun z => absurd z (by rw [hl3]; omega), fun _ => e_close (d := dd + 3) W3 hr fun M4 f4 W4 => ?_⟩
      intro _ _
      exact hq2 M4 (f3.tr f4) W4
    | succ t ih =>
      intro i M3 hi3 f3 W3
      obtain ⟨z, hz⟩ : ∃ z, ds[i]? = some z := ⟨_, List.getElem?_eq_getElem (by omega)⟩
      have hzs : (ds.map Prod.snd)[i]? = some z.2 := by rw [List.getElem?_map, hz]; rfl
      have hzn : (ds.map Prod.fst)[i]? = some z.1 := by rw [List.getElem?_map, hz]; rfl
      obtain ⟨n1, n2⟩ := hns i z.1 hzn
      have m1 := (hok.2.2 z.2 (List.mem_of_getElem? hzs)).1
      have htk : ds.take (i + 1) = ds.take i ++ [z] := by rw [List.take_add_one, hz]; rfl
      have hlf := List.length_filter_le (fun z : Int × List b_E => hd z.2) (ds.take i)
      rw [List.length_take] at hlf
      have hhi3 := hh i z.2 hzs
      obtain ⟨fi, hfi⟩ : ∃ fi, fi = (ds.take i).filter fun z => hd z.2 := ⟨_, rfl⟩
      rw [← hfi] at W3 hlf ⊢
      obtain ⟨-, hs3⟩ := hTf f3
      have hl3 := hs3.1
      rw [List.length_map] at hl3
      refine s_X12_putFound_22 hwR hrR ⟨by omega, by omega⟩ ⟨by omega, by omega⟩ fun _ => ⟨W3.1.1, cn, by rw [f3.2.2]; exact t1, 2, f3.A t2, ⟨by omega, by omega⟩, fun _ => ⟨mt, by rw [f3.2.2]; exact h74, 200, f3.A hmt, ⟨by omega, by omega⟩, ?_⟩, fun z => absurd (by rw [hl3]; omega) z⟩
      rw [f3.2.1 mt i (nA hmt (by decide)), hhi3]
      cases hb2 : hd z.2
      · have hK : (ds.take (i + 1)).filter (fun z => hd z.2) = fi := by rw [htk, List.filter_append, List.filter_cons, hb2, hfi]; simp
        have h9 := ih (i + 1) M3 (by omega) f3 (by rw [hK]; exact W3)
        rw [hK, show ((i + 1 : Nat) : Int) = (i : Int) + 1 by omega] at h9
        exact ⟨fun _ => ⟨⟨by omega, by omega⟩, h9⟩, fun z => absurd rfl z⟩
      · have hK : (ds.take (i + 1)).filter (fun z => hd z.2) = fi ++ [z] := by rw [htk, List.filter_append, List.filter_cons, hb2, hfi]; simp
        refine ⟨fun z => absurd z (by decide), fun _ => e_put (d := dd + 4) (v := 3) W3 ⟨by decide, by decide⟩ fun M4 f4 W4 => ?_⟩
        intro _ _
        refine e_putDigits (d := dd + 3) (i := fi.length) W4 (by omega) fun M5 f5 W5 => ?_
        intro _ _
        refine e_open (d := dd + 2) W5 fun rr M6 f6 W6 hrr => ?_
        intro _ _ hrrR
        have f06 := f3.tr (f4.tr (f5.tr f6))
        refine ⟨nu, by rw [f06.2.2]; exact h72, ⟨by omega, by omega⟩, ⟨by omega, by omega⟩, 400, f06.A hnu, ⟨by omega, by omega⟩, ?_⟩
        rw [f06.2.1 nu _ (nA hnu (by decide)), n1]
        refine e_putNumber (d := dd + 1) (j := 130) (by decide) W6 n2 fun M7 f7 W7 => ?_
        intro _ _
        refine e_put (d := dd + 4) (v := 3) W7 ⟨by decide, by decide⟩ fun M8 f8 W8 => ?_
        intro _ _
        refine e_putWord (d := dd + 2) (j := 139) (by decide) W8 fun M9 f9 W9 => ?_
        intro _ _
        have f09 := f06.tr (f7.tr (f8.tr f9))
        obtain ⟨hT9, hs9⟩ := hTf f09
        obtain ⟨s, s1, s2, s3, s4⟩ := hs9.2.2 i z.2 hzs
        refine e_doc1 (d := dd + 4) W9.1 hT9 hw (by omega) s1 s2 s3 ?_
        intro _ _ _
        refine e_doc1 (d := dd + 4) W9.1 hT9 hw (by omega) s1 s2 s3 ?_
        intro _ _ _
        refine e_doc1 (d := dd + 4) W9.1 hT9 hw (by omega) s1 s2 s3 ?_
        intro _ _ _
        have hdl := b_doc_len z.2
        refine e_int4 (d := dd + 3) W9.1 (by omega) (by omega) ?_
        intro _ _ _
        rw [e_w4doc s4 (by omega)]
        refine ⟨⟨by omega, by omega⟩, e_putBytes (d := dd + 3) W9 s4 (by omega) (by omega) (Or.inl (by omega)) fun M10 f10 W10 => ?_⟩
        intro _ _
        have f010 := f09.tr f10
        rw [show g_w8 3 = 3 from by decide, show b_tx 130 = b_tx 13 from rfl, show b_tx 139 = b_tx 31 from rfl] at W10
        rw [show g_w8 3 = 3 from by decide] at hrr
        obtain ⟨pr2, hpr2⟩ : ∃ pr2 : List Int, pr2 = pre ++ ([0, 0, 0, 0] ++ b_ser (J_row 0 (fi.map F_tel))) ++ [3] ++ (b_dg fi.length ++ [0]) := ⟨_, rfl⟩
        rw [← hpr2] at W10 hrr
        have W10' : e_Wr m b 2598000 2606000 (pr2 ++ ([0, 0, 0, 0] ++ (b_el 16 (b_tx 13) (b_le4 z.1) ++ (3 :: (b_tx 31 ++ [0])) ++ b_doc z.2))) M10 := by
          have h6 : pr2 ++ ([0, 0, 0, 0] ++ (b_el 16 (b_tx 13) (b_le4 z.1) ++ (3 :: (b_tx 31 ++ [0])) ++ b_doc z.2)) = pr2 ++ [0, 0, 0, 0] ++ b_el 16 (b_tx 13) (b_le4 z.1) ++ [3] ++ (b_tx 31 ++ [0]) ++ b_doc z.2 := by simp
          rw [h6]
          exact W10
        refine e_close (d := dd + 3) W10' hrr fun M11 f11 W11 => ?_
        intro _ _
        rw [← F_telD] at W11
        have h9 := ih (i + 1) M11 (by omega) (f010.tr f11) (by
          rw [hK, List.map_append, List.map_singleton, J_row_snoc, b_ser_app, b_ser_1, List.length_map, Nat.zero_add]
          have h5 : b_el 3 (b_dg fi.length) (b_doc (F_tel z)) = 3 :: (b_dg fi.length ++ 0 :: b_doc (F_tel z)) := rfl
          show e_Wr m b 2598000 2606000 (pre ++ ([0, 0, 0, 0] ++ (b_ser (J_row 0 (fi.map F_tel)) ++ b_el 3 (b_dg fi.length) (b_doc (F_tel z))))) M11
          rw [h5]
          have h6 : pre ++ ([0, 0, 0, 0] ++ (b_ser (J_row 0 (fi.map F_tel)) ++ (3 :: (b_dg fi.length ++ 0 :: b_doc (F_tel z))))) = pr2 ++ b_doc (F_tel z) := by rw [hpr2]; simp
          rw [h6]
          exact W11)
        rw [hK, List.length_append, List.length_singleton, show ((i + 1 : Nat) : Int) = (i : Int) + 1 by omega, show ((fi.length + 1 : Nat) : Int) = (fi.length : Int) + 1 by omega] at h9
        exact ⟨⟨by omega, by omega⟩, ⟨by omega, by omega⟩, h9⟩
  refine m_X12_putFound hwR fun _ => ⟨hm, e_put (d := dd + 4) (v := 4) hW ⟨by decide, by decide⟩ fun M2 f2 W2 => ?_⟩
  intro _ _
  refine e_putWord (d := dd + 2) (j := 129) (by decide) W2 fun M3 f3 W3 => ?_
  intro _ _
  refine e_open (d := dd + 2) W3 fun rr M4 f4 W4 hrr => ?_
  intro _ _ hrrR
  rw [show g_w8 4 = 4 from by decide, show b_tx 129 = b_tx 30 from rfl] at W4
  rw [show g_w8 4 = 4 from by decide, show b_tx 129 = b_tx 30 from rfl] at hrr
  have f04 := f2.tr (f3.tr f4)
  exact hlp _ rr hrrR hrr (fun M5 f5 W5 => hq M5 f5 (by
    have h5 : b_el 4 (b_tx 30) (b_doc (J_row 0 ((ds.filter fun z => hd z.2).map F_tel))) = 4 :: (b_tx 30 ++ 0 :: b_doc (J_row 0 ((ds.filter fun z => hd z.2).map F_tel))) := rfl
    rw [h5]
    have h6 : x ++ (4 :: (b_tx 30 ++ 0 :: b_doc (J_row 0 ((ds.filter fun z => hd z.2).map F_tel)))) = x ++ [4] ++ (b_tx 30 ++ [0]) ++ b_doc (J_row 0 ((ds.filter fun z => hd z.2).map F_tel)) := by simp
    rw [h6]
    exact W5)) ds.length 0 M4 (by omega) f04 (by
    rw [List.take_zero]
    exact W4)
end EFIND
