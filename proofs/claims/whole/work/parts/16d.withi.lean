/-! LEAVES WITH ITEMS: the reference -/
section WITHI
variable {d m b l : Nat} {F : Int → Int} {M : g_M} {L : List Int}
theorem e_addL {Q : g_M → Prop} {v : Int} (hS : E_S m b l F M L) (hl : L.length < 80000) (hv : g_InR v) (h : ∀ M1, e_fr (E_lf m l) M M1 → E_S m b l F M1 (L ++ [v]) → Q M1) : g_Call (d + 1) 277 [.ref m, g_n v] M (g_qV Q) := by
  obtain ⟨p1, p2⟩ := hS.push v hl
  exact e_addLeaf hS.1 hS.LF (by omega) (by omega) hv (h _ p2 p1)
noncomputable def L_wi (ls : List (Option (Int × b_E))) : List (Option (Int × b_E)) := ls.flatMap fun y => y :: L_its y
theorem L_wi_len : ∀ ls : List (Option (Int × b_E)), (L_wi ls).length = ls.length + (ls.flatMap L_its).length := by
  intro ls
  induction ls with
  | nil => rfl
  | cons y ls ih =>
    unfold L_wi at ih ⊢
    rw [List.flatMap_cons, List.flatMap_cons, List.length_append, List.length_append, List.length_cons, List.length_cons, ih]
    omega
theorem e_withItems {Q : Int → g_M → Prop} {D : Nat} {c p : Int} {x : List Int} {de : b_E} {ls : List (Option (Int × b_E))} (hS : E_S m b l F M L) (hdc : E_dc F c D de) (hD : D ≤ 17) (hx : b_at F p x) (hp : 0 ≤ p) (hp1 : p + x.length < 2706200) (hdl : de.2.2.length ≤ 19000) (hls : ls = L_doc D (L_at (c + 4) (b_ch de.2.2)) (p_sp x)) (hst : ∀ y, some y ∈ ls → ∃ D1, b_st F 2706210 y.1 D1 y.2.1 y.2.2.1 y.2.2.2) (hl : L.length + ls.length + (L_wi ls).length ≤ 70000) (h : ∀ M1, e_fr (E_lf m l) M M1 → E_S m b l F M1 (L ++ (ls.map L_opt ++ (L_wi ls).map L_opt)) → Q (L.length + ls.length) M1) : g_Call (d + 51) 281 [.ref m, g_n c, g_n p, g_n (p + x.length)] M (g_qI Q) := by
  have hcR : g_InR c := by
    obtain ⟨-, -, h1, h2, h3, -⟩ := hdc
    exact ⟨by omega, by omega⟩
  refine m_X12_withItems hcR ⟨by omega, by omega⟩ ⟨by omega, by omega⟩ fun _ => ⟨hS.1.1, e_goDocS hS hdc hD hx hp hp1 hdl (by rw [← hls]; omega) (by omega) fun M1 f1 S1 => ?_⟩
  rw [← hls] at S1
  intro _ _
  have h10 : g_i M m 10 = L.length := hS.2.2.2.1
  have h101 : g_i M1 m 10 = ((L.length + ls.length : Nat) : Int) := by rw [S1.2.2.2.1, List.length_append, List.length_map]
  rw [h10, h101]
  have hq0 : ∀ M2, e_fr (E_lf m l) M M2 → E_S m b l F M2 (L ++ (ls.map L_opt ++ (L_wi ls).map L_opt)) → Q ((L.length + ls.length : Nat) : Int) M2 := fun M2 f2 S2 => by
    rw [show ((L.length + ls.length : Nat) : Int) = L.length + ls.length by omega]
    exact h M2 f2 S2
  have hlp : ∀ (l2 l1 : List (Option (Int × b_E))) (T : List Int) (M2 : g_M), ls = l1 ++ l2 → e_fr (E_lf m l) M M2 → E_S m b l F M2 (L ++ (ls.map L_opt ++ T)) → L.length + ls.length + T.length + (L_wi l2).length ≤ 70000 → T ++ (L_wi l2).map L_opt = (L_wi ls).map L_opt → g_Run (d + 50) 281 23 [(0, .ref m), (1, g_n c), (2, g_n p), (3, g_n (p + x.length)), (4, g_n L.length), (5, g_n ((L.length + ls.length : Nat) : Int)), (6, g_n ((L.length + l1.length : Nat) : Int))] [] M2 (g_qI Q) := by
    intro l2
    induction l2 with
    | nil =>
      intro l1 T M2 h1 f2 S2 hl2 hT
      rw [List.append_nil] at h1
      have hls1 := congrArg List.length h1
      refine s_X12_withItems_23 hcR ⟨by omega, by omega⟩ ⟨by omega, by omega⟩ ⟨by omega, by omega⟩ ⟨by omega, by omega⟩ ⟨by omega, by omega⟩ fun _ => ⟨fun z => absurd z (by omega), fun _ => hq0 M2 f2 ?_⟩
      rw [← hT, show (L_wi []).map L_opt = [] from rfl, List.append_nil]
      exact S2
    | cons y l2 ih =>
      intro l1 T M2 h1 f2 S2 hl2 hT
      have hls2 := congrArg List.length h1
      rw [List.length_append, List.length_cons] at hls2
      have hwi : L_wi (y :: l2) = y :: (L_its y ++ L_wi l2) := rfl
      have hwl := congrArg List.length hwi
      rw [List.length_cons, List.length_append] at hwl
      rw [hwi] at hT
      have hat : ∀ T2 : List Int, (L ++ (ls.map L_opt ++ T2))[L.length + l1.length]? = some (L_opt y) := by
        intro T2
        rw [List.getElem?_append_right (by omega), show L.length + l1.length - L.length = l1.length by omega, h1, List.map_append, List.append_assoc, List.getElem?_append_right (by rw [List.length_map]; omega), List.length_map, Nat.sub_self]
        rfl
      have hyl : ∀ {T2 : List Int} {M3 : g_M}, E_S m b l F M3 (L ++ (ls.map L_opt ++ T2)) → g_i M3 l ((L.length + l1.length : Nat) : Int) = L_opt y := fun S => (S.get (hat _)).1
      have hyR : g_InR (L_opt y) := by
        rcases y with _ | z
        · exact ⟨by decide, by decide⟩
        · obtain ⟨D1, hs⟩ := hst z (by rw [h1]; simp)
          exact hs.R (by decide)
      -- the next leaf
      have hnext : ∀ (M3 : g_M) (T3 : List Int), e_fr (E_lf m l) M M3 → E_S m b l F M3 (L ++ (ls.map L_opt ++ T3)) → T3 = T ++ L_opt y :: (L_its y).map L_opt → g_InR (((L.length + l1.length : Nat) : Int) + 1) ∧ g_Run (d + 50) 281 23 [(0, .ref m), (1, g_n c), (2, g_n p), (3, g_n (p + x.length)), (4, g_n L.length), (5, g_n ((L.length + ls.length : Nat) : Int)), (6, g_n (((L.length + l1.length : Nat) : Int) + 1))] [] M3 (g_qI Q) := by
        intro M3 T3 f3 S3 hT3
        refine ⟨⟨by omega, by omega⟩, ?_⟩
        have h9 := ih (l1 ++ [y]) T3 M3 (by rw [h1]; simp) f3 S3 (by rw [hT3, List.length_append, List.length_cons, List.length_map]; omega) (by
          rw [hT3, ← hT, List.map_cons, List.map_append]
          simp)
        rw [List.length_append, List.length_singleton] at h9
        rwa [show ((L.length + (l1.length + 1) : Nat) : Int) = ((L.length + l1.length : Nat) : Int) + 1 by omega] at h9
      refine s_X12_withItems_23 hcR ⟨by omega, by omega⟩ ⟨by omega, by omega⟩ ⟨by omega, by omega⟩ ⟨by omega, by omega⟩ ⟨by omega, by omega⟩ fun _ => ⟨fun _ => ⟨S2.1.1, l, S2.2.1, _, S2.2.2.1, ⟨by omega, by omega⟩, ?_⟩, fun z => absurd (by omega) z⟩
      rw [hyl S2]
      refine e_addL (d := d + 49) S2 (by rw [List.length_append, List.length_append, List.length_map]; omega) hyR fun M7 f7 S7 => ?_
      rw [List.append_assoc, List.append_assoc] at S7
      intro _ _
      have f27 := f2.tr f7
      refine ⟨l, S7.2.1, _, S7.2.2.1, ⟨by omega, by omega⟩, ?_⟩
      rw [hyl S7]
      rcases y with _ | z
      · exact ⟨fun _ => hnext M7 (T ++ [L_opt none]) f27 S7 rfl, fun g => absurd rfl g⟩
      · obtain ⟨D1, hs⟩ := hst z (by rw [h1]; simp)
        have hs7 : ∀ {M3 : g_M} {T2 : List Int}, E_S m b l F M3 (L ++ (ls.map L_opt ++ T2)) → b_st (g_i M3 b) 2706210 z.1 D1 z.2.1 z.2.2.1 z.2.2.2 := fun S => by rw [S.2.2.2.2.2.1]; exact hs
        have hz0 := hs.2.2.2.1
        have hz1 := hs.2.2.2.2
        have hzl := b_el_len z.2.1 z.2.2.1 z.2.2.2
        have hop : L_opt (some z) = z.1 := rfl
        rw [hop]
        refine ⟨fun g => absurd g (by omega), fun _ => ⟨b, S7.1.2.1, l, S7.2.1, _, S7.2.2.1, ⟨by omega, by omega⟩, ?_⟩⟩
        rw [hyl S7, hop]
        refine ⟨_, S7.1.2.2, ⟨by omega, by omega⟩, ?_⟩
        rw [(hs7 S7).val.2.2.2]
        refine ⟨fun g4 => ⟨l, S7.2.1, _, S7.2.2.1, ⟨by omega, by omega⟩, ?_⟩, fun g4 => hnext M7 (T ++ [z.1]) f27 S7 (by rw [show L_its (some z) = [] from if_neg g4]; rfl)⟩
        rw [hyl S7, hop]
        refine e_vl2 (d := d + 48) S7.1 (hs7 S7) ?_
        intro _ _ _
        obtain ⟨D2, es, e1, e2, e3, e4, e5, -⟩ := hs.tl (Or.inr g4)
        have hdl5 := e4.2.2.1
        rw [b_doc_len] at hdl5
        refine e_first (d := d + 49) (by omega) (by omega) ?_
        intro _ _ _
        have hits : L_its (some z) = (L_at (z.1 + 6 + z.2.2.1.length) es).map some := by
          rw [show L_its (some z) = (L_ch z.1 z.2).map some from if_pos g4, show L_ch z.1 z.2 = L_at (z.1 + 6 + z.2.2.1.length) (b_ch z.2.2.2) from rfl, e5]
        have hitl : (L_its (some z)).length = es.length := by
          rw [hits, List.length_map]
          exact L_at_len _ _
        have h84 : ∀ (xs cs : List b_E) (q : Int) (T2 : List Int) (M3 : g_M), es = cs ++ xs → q = z.1 + 6 + z.2.2.1.length + (b_ser cs).length → T2.length + xs.length ≤ T.length + 1 + es.length → e_fr (E_lf m l) M M3 → E_S m b l F M3 (L ++ (ls.map L_opt ++ T2)) → T2 ++ (L_at q xs).map Prod.fst = T ++ z.1 :: (L_its (some z)).map L_opt → g_Run (d + 50) 281 84 [(0, .ref m), (1, g_n c), (2, g_n p), (3, g_n (p + x.length)), (4, g_n L.length), (5, g_n ((L.length + ls.length : Nat) : Int)), (6, g_n ((L.length + l1.length : Nat) : Int)), (7, g_n q)] [] M3 (g_qI Q) := by
          intro xs
          induction xs with
          | nil =>
            intro cs q T2 M3 k1 k2 k3 f3 S3 hT2
            rw [List.append_nil] at k1
            have ht : e_tl (g_i M3 b) (z.1 + 2 + z.2.2.1.length) q D2 es [] := by
              rw [S3.2.2.2.2.2.1]
              have h9 : e_tl F (z.1 + 2 + z.2.2.1.length) (z.1 + 6 + z.2.2.1.length) D2 es (es ++ []) := by
                rw [List.append_nil]
                exact e4
              rw [k2, ← k1]
              exact h9.app
            have hqR : g_InR q := by
              have := ht.2.2.2.1.2.2.1
              have := ht.2.2.2.1.2.2.2.1
              exact ⟨by omega, by omega⟩
            refine s_X12_withItems_84 hcR ⟨by omega, by omega⟩ ⟨by omega, by omega⟩ ⟨by omega, by omega⟩ ⟨by omega, by omega⟩ ⟨by omega, by omega⟩ hqR fun _ => ⟨S3.1.1, l, S3.2.1, _, S3.2.2.1, ⟨by omega, by omega⟩, ?_⟩
            rw [hyl S3, hop]
            refine e_vl2 (d := d + 48) S3.1 (hs7 S3) ?_
            intro _ _ _
            refine e_lastE (d := d + 47) S3.1 ht ?_
            intro _ _ _
            refine ⟨fun g => absurd g (by omega), fun _ => hnext M3 T2 f3 S3 ?_⟩
            rw [hop, ← hT2]
            exact (List.append_nil T2).symm
          | cons w xs ihx =>
            intro cs q T2 M3 k1 k2 k3 f3 S3 hT2
            rw [List.length_cons] at k3
            have ht : e_tl F (z.1 + 2 + z.2.2.1.length) q D2 es (w :: xs) := by
              have h9 := e4
              have k1' : e_tl F (z.1 + 2 + z.2.2.1.length) (z.1 + 6 + z.2.2.1.length) D2 es (cs ++ w :: xs) := by
                rw [← k1]
                exact h9
              have := k1'.app
              rwa [← k2] at this
            have hw := ht.cons.1
            have hwR := hw.R (by decide)
            have htM : e_tl (g_i M3 b) (z.1 + 2 + z.2.2.1.length) q D2 es (w :: xs) := by rw [S3.2.2.2.2.2.1]; exact ht
            refine s_X12_withItems_84 hcR ⟨by omega, by omega⟩ ⟨by omega, by omega⟩ ⟨by omega, by omega⟩ ⟨by omega, by omega⟩ ⟨by omega, by omega⟩ hwR fun _ => ⟨S3.1.1, l, S3.2.1, _, S3.2.2.1, ⟨by omega, by omega⟩, ?_⟩
            rw [hyl S3, hop]
            refine e_vl2 (d := d + 48) S3.1 (hs7 S3) ?_
            intro _ _ _
            refine e_lastC (d := d + 47) S3.1 htM fun r hr1 hr2 => ?_
            intro _ _ _
            refine ⟨fun _ => e_addL (d := d + 49) S3 (by rw [List.length_append, List.length_append, List.length_map]; omega) hwR fun M4 f4 S4 => ?_, fun g => absurd hr1 g⟩
            rw [List.append_assoc, List.append_assoc] at S4
            intro _ _
            have hwM : b_st (g_i M4 b) 2706210 q D2 w.1 w.2.1 w.2.2 := by rw [S4.2.2.2.2.2.1]; exact hw
            refine e_behind (d := d + 46) S4.1 hwM.1 hwM.2.1 (b_gv_vs hwM.2.2.1) hwM.2.2.2.1 hwM.2.2.2.2 ?_
            intro _ _ _
            refine ihx (cs ++ [w]) (q + (b_el w.1 w.2.1 w.2.2).length) (T2 ++ [q]) M4 (by rw [k1]; simp) (by rw [b_ser_app, List.length_append, b_ser_1]; omega) (by rw [List.length_append, List.length_singleton]; omega) (f3.tr f4) S4 ?_
            rw [← hT2, List.append_assoc]
            rfl
        exact h84 es [] _ (T ++ [z.1]) M7 rfl (by show z.1 + 2 + (z.2.2.1.length : Int) + 4 = z.1 + 6 + z.2.2.1.length + ((0 : Nat) : Int); omega) (by rw [List.length_append, List.length_singleton]; omega) f27 S7 (by
          rw [hits, List.map_map, List.append_assoc, show z.1 + 2 + (z.2.2.1.length : Int) + 4 = z.1 + 6 + z.2.2.1.length by omega]
          rfl)
  exact hlp ls [] [] M1 rfl f1 (by rw [List.append_nil]; exact S1) (by rw [List.length_nil]; omega) rfl
end WITHI
