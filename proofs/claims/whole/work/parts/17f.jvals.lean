/-! STAGES: $lookup, the reference: the values of a path; whether some are the same -/
section EVALS
variable {m b l : Nat} {F : Int → Int} {M : g_M}
theorem E_ct.dc {c : Int} {es : List b_E} (h : E_ct F c 15 es) (hl : (b_doc es).length ≤ 2000) : E_dc F c 15 (3, [], b_doc es) := by
  refine ⟨rfl, X_gv (Or.inl rfl) h.2.2.2 (by rw [b_doc_len] at hl; omega) fun z => absurd z (by decide), ?_⟩
  show e_tl F c (c + 4) 15 (b_ch (b_doc es)) (b_ch (b_doc es))
  rw [b_ch_doc h.2.2.2.ok]
  exact h.tl fun _ _ => rfl
/-- the values with their places, each place once -/
noncomputable def J_kl (c : Int) (es : List b_E) (st : List (List Int)) : List (Option (Int × b_E)) := if L_doc 15 (L_at (c + 4) es) st = [] then [none] else L_wi (L_doc 15 (L_at (c + 4) es) st)
noncomputable def J_ka (c : Int) (es : List b_E) (st : List (List Int)) : List Int := J_1 [] ((J_kl c es st).map L_opt)
theorem J_kl_at {c : Int} {es : List b_E} {st : List (List Int)} (hct : E_ct F c 15 es) (hl : (b_doc es).length ≤ 2000) (hst : st ≠ []) (h8 : st.length ≤ 8) : (J_kl c es st).length ≤ 14001 ∧ (∀ y ∈ J_kl c es st, O_at F 2706210 y) ∧ (J_kl c es st).map L_nop = O_ke (O_lv es st) := by
  obtain ⟨k1, k2, k3, k4⟩ := e_keyVals hct hl hst h8 rfl
  unfold J_kl
  refine ⟨?_, fun y hy => ?_, k4⟩
  · split
    · rw [List.length_singleton]
      omega
    · omega
  · split at hy
    · rw [List.mem_singleton.mp hy]
      exact fun z hz => absurd hz (by simp)
    · exact k3 y hy
theorem J_ka_mem {c : Int} {es : List b_E} {st : List (List Int)} {v : Int} : v ∈ J_ka c es st ↔ ∃ y ∈ J_kl c es st, L_opt y = v := by
  unfold J_ka
  rw [J_1_mem, List.mem_map]
  simp
theorem J_ka_len {c : Int} {es : List b_E} {st : List (List Int)} (hct : E_ct F c 15 es) (hl : (b_doc es).length ≤ 2000) (hst : st ≠ []) (h8 : st.length ≤ 8) : (J_ka c es st).length ≤ 14001 := by
  have h1 := J_1_len ((J_kl c es st).map L_opt) []
  have h2 := (J_kl_at hct hl hst h8).1
  rw [List.length_map, List.length_nil] at h1
  unfold J_ka
  omega
theorem e_valsOn {d D : Nat} {R : Int → g_M → Prop} {c q : Int} {es : List b_E} {x : b_E} {L : List Int} (hS : E_S m b l F M L) (hct : E_ct F c 15 es) (hl : (b_doc es).length ≤ 2000) (hx : b_st F 2706210 q D x.1 x.2.1 x.2.2) (hq2 : q + (b_el x.1 x.2.1 x.2.2).length ≤ 2100) (hk : x.1 = 2) (hpl : p_plain (s_tx x.2.2)) (hL : L.length ≤ 20000) (h : ∀ M1 P, e_fr (E_lf m l) M M1 → (∃ T, P = L ++ T ∧ T.length ≤ 3301) → E_S m b l F M1 (P ++ J_ka c es (p_sp (s_tx x.2.2))) → R P.length M1) : g_Call (d + 51) 233 [.ref m, g_n q] M (g_qI fun r17 M14 => g_ext M M14 → g_ok M14 → g_InR r17 → g_InR (r17 + 4) ∧ g_Call (d + 51) 322 [.ref m, g_n q] M14 (g_qI fun r23 M20 => g_ext M14 M20 → g_ok M20 → g_InR r23 → g_Call (d + 51) 281 [.ref m, g_n c, g_n (r17 + 4), g_n r23] M20 (g_qI fun r28 M25 => g_ext M20 M25 → g_ok M25 → g_InR r28 → ((r28 = g_i M25 m 10 → g_Call (d + 51) 277 [.ref m, g_n (-1)] M25 (g_qV fun M33 => g_ext M25 M33 → g_ok M33 → g_Call (d + 51) 345 [.ref m, g_n r28] M33 (g_qV fun M36 => g_ext M33 M36 → g_ok M36 → R r28 M36))) ∧ (¬ r28 = g_i M25 m 10 → g_Call (d + 51) 345 [.ref m, g_n r28] M25 (g_qV fun M30 => g_ext M25 M30 → g_ok M30 → R r28 M30)))))) := by
  have hR := hS.1
  have hb := hS.2.2.2.2.2.1
  have hxM : b_st (g_i M b) 2706210 q D x.1 x.2.1 x.2.2 := by rw [hb]; exact hx
  obtain ⟨x1, x2, x3, x4⟩ := hx.text hk
  have hx4 := hx.2.2.2.1
  have hx5 := hx.2.2.2.2
  have hxl := b_el_len x.1 x.2.1 x.2.2
  obtain ⟨ls, hls⟩ : ∃ ls, ls = L_doc 15 (L_at (c + 4) es) (p_sp (s_tx x.2.2)) := ⟨_, rfl⟩
  have hne : p_sp (s_tx x.2.2) ≠ [] := by rw [p_sp_eq]; simp
  obtain ⟨k1, k2, k3, k4⟩ := e_keyVals hct hl hne hpl.1.2.1 hls
  refine e_vl2 (d := d + 49) hR hxM ?_
  intro _ _ _
  refine ⟨⟨by omega, by omega⟩, e_textEnd (d := d + 48) hR hxM hk ?_⟩
  intro _ _ _
  refine e_withItems (d := d) (de := (3, [], b_doc es)) (x := s_tx x.2.2) (ls := ls) hS (hct.dc hl) (by decide) x3 (by omega) (by omega) (by show (b_doc es).length ≤ _; omega) (by rw [hls]; show _ = L_doc 15 (L_at (c + 4) (b_ch (b_doc es))) _; rw [b_ch_doc hct.2.2.2.ok]) (fun y hy => ⟨15, L_doc_st hct y (by rw [← hls]; exact hy)⟩) (by omega) fun M19 f19 S19 => ?_
  intro _ _ _
  have h10 := S19.2.2.2.1
  rw [List.length_append, List.length_append, List.length_map, List.length_map] at h10
  have hP : (((L ++ ls.map L_opt).length : Nat) : Int) = (L.length : Int) + ls.length := by rw [List.length_append, List.length_map]; omega
  rw [← List.append_assoc] at S19
  have hka : ∀ K : List Int, K = (J_kl c es (p_sp (s_tx x.2.2))).map L_opt → J_1 [] K = J_ka c es (p_sp (s_tx x.2.2)) := fun K hK => by rw [hK]; rfl
  have hT : ∃ T, L ++ ls.map L_opt = L ++ T ∧ T.length ≤ 3301 := ⟨_, rfl, by rw [List.length_map]; exact k1⟩
  rw [← hP]
  have hkl : J_kl c es (p_sp (s_tx x.2.2)) = if ls = [] then [none] else L_wi ls := by
    unfold J_kl
    rw [← hls]
  have hwl : (L_wi ls).length = 0 ↔ ls = [] := by
    rcases ls with _ | ⟨y, ls⟩
    · exact ⟨fun _ => rfl, fun _ => rfl⟩
    · refine ⟨fun z => ?_, fun z => absurd z (by simp)⟩
      unfold L_wi at z
      rw [List.flatMap_cons, List.length_append, List.length_cons] at z
      omega
  refine ⟨fun g0 => ?_, fun g0 => ?_⟩
  · have hl0 : ls = [] := hwl.mp (by rw [h10] at g0; omega)
    refine e_addL (d := d + 50) S19 (by rw [List.length_append, List.length_append, List.length_map, List.length_map]; omega) ⟨by decide, by decide⟩ fun M33 f33 S33 => ?_
    intro _ _
    have hw0 : L_wi ls = [] := by rw [hl0]; rfl
    rw [hw0, List.map_nil, List.append_nil] at S33
    refine e_once (d := d + 50) S33 fun M36 f36 S36 => ?_
    intro _ _
    rw [hka [-1] (by rw [hkl, if_pos hl0]; rfl)] at S36
    exact h M36 _ ((f19.tr f33).tr f36) hT S36
  · have hl0 : ls ≠ [] := fun z => g0 (by rw [h10, hwl.mpr z]; omega)
    refine e_once (d := d + 50) S19 fun M36 f36 S36 => ?_
    intro _ _
    rw [hka _ (by rw [hkl, if_neg hl0])] at S36
    exact h M36 _ (f19.tr f36) hT S36
/-- two loops over the places -/
theorem e_someSame {d : Nat} {Q : g_M → Prop} {P P2 A B : List Int} {K1 K2 : List (Option (Int × b_E))} {w1 w2 w3 w4 w5 w6 w7 w8 w11 : Int} (hS : E_S m b l F M (P ++ A ++ P2 ++ B)) (hno : b_at F 2706200 [10, 0]) (hA : ∀ v, v ∈ A ↔ ∃ y ∈ K1, L_opt y = v) (hB : ∀ v, v ∈ B ↔ ∃ y ∈ K2, L_opt y = v) (h1 : ∀ y ∈ K1, O_at F 2706210 y) (h2 : ∀ y ∈ K2, O_at F 2706210 y) (q1 : g_InR w1) (q2 : g_InR w2) (q3 : g_InR w3) (q4 : g_InR w4) (q5 : g_InR w5) (q6 : g_InR w6) (q7 : g_InR w7) (q8 : g_InR w8) (q11 : g_InR w11) (hl : (P ++ A ++ P2 ++ B).length ≤ 80000) (hq : ∀ w13 w14 : Int, g_InR w14 → ((w13 = 1 ∧ ∃ y ∈ K1, ∃ z ∈ K2, J_same (J_no 2706200 y) (J_no 2706200 z)) ∨ (w13 = 0 ∧ ∀ y ∈ K1, ∀ z ∈ K2, ¬ J_same (J_no 2706200 y) (J_no 2706200 z))) → g_Run (d + 47) 346 210 [(0, .ref m), (1, g_n w1), (2, g_n w2), (3, g_n w3), (4, g_n w4), (5, g_n w5), (6, g_n w6), (7, g_n w7), (8, g_n w8), (9, g_n P.length), (10, g_n (P ++ A).length), (11, g_n w11), (12, g_n (P ++ A ++ P2).length), (13, g_n w13), (14, g_n w14)] [] M (g_qV Q)) : g_Run (d + 47) 346 142 [(0, .ref m), (1, g_n w1), (2, g_n w2), (3, g_n w3), (4, g_n w4), (5, g_n w5), (6, g_n w6), (7, g_n w7), (8, g_n w8), (9, g_n P.length), (10, g_n (P ++ A).length), (11, g_n w11), (12, g_n (P ++ A ++ P2).length), (13, g_n 0), (14, g_n P.length)] [] M (g_qV Q) := by
  have hR := hS.1
  have hb := hS.2.2.2.2.2.1
  have h10 := hS.2.2.2.1
  have hl9 := hS.2.1
  have hlA := hS.2.2.1
  simp only [List.length_append] at hl h10
  have hst : ∀ {y : Option (Int × b_E)}, O_at F 2706210 y → b_st (g_i M b) 2706210 (J_no 2706200 y).1 20 (J_no 2706200 y).2.1 (J_no 2706200 y).2.2.1 (J_no 2706200 y).2.2.2 := fun {y} h => by
    rw [hb]
    rcases y with _ | z
    · exact b_st_no hno (by decide) (by decide) 20
    · exact h z rfl
  have hpos : ∀ {y : Option (Int × b_E)}, O_at F 2706210 y → ∀ z, y = some z → 0 ≤ z.1 := fun h z hz => (h z hz).2.2.2.1
  have hlenA : ∀ n : Nat, (((P ++ A).length : Nat) : Int) = (P.length : Int) + A.length := fun _ => by rw [List.length_append]; omega
  have hlenP : (((P ++ A ++ P2).length : Nat) : Int) = (P.length : Int) + A.length + P2.length := by rw [List.length_append, List.length_append]; omega
  -- the places of A ahead have nothing the same
  have hlp : ∀ (A2 A1 : List Int), A = A1 ++ A2 → (∀ y ∈ K1, L_opt y ∈ A1 → ∀ z ∈ K2, ¬ J_same (J_no 2706200 y) (J_no 2706200 z)) → g_Run (d + 47) 346 142 [(0, .ref m), (1, g_n w1), (2, g_n w2), (3, g_n w3), (4, g_n w4), (5, g_n w5), (6, g_n w6), (7, g_n w7), (8, g_n w8), (9, g_n P.length), (10, g_n (P ++ A).length), (11, g_n w11), (12, g_n (P ++ A ++ P2).length), (13, g_n 0), (14, g_n ((P.length + A1.length : Nat) : Int))] [] M (g_qV Q) := by
    intro A2
    induction A2 with
    | nil =>
      intro A1 k1 hn
      rw [List.append_nil] at k1
      have hkl := congrArg List.length k1
      refine s_X12_putJoined_142 q1 q2 q3 q4 q5 q6 q7 q8 ⟨by omega, by omega⟩ (by rw [hlenA 0]; exact ⟨by omega, by omega⟩) q11 (by rw [hlenP]; exact ⟨by omega, by omega⟩) ⟨by decide, by decide⟩ ⟨by omega, by omega⟩ fun _ => ⟨fun z => absurd z (by rw [hlenA 0]; omega), fun _ => hq 0 _ ⟨by omega, by omega⟩ (Or.inr ⟨rfl, fun y hy z hz => hn y hy (by rw [← k1]; exact (hA _).mpr ⟨y, hy, rfl⟩) z hz⟩)⟩
    | cons v A2 ih =>
      intro A1 k1 hn
      have hkl := congrArg List.length k1
      rw [List.length_append, List.length_cons] at hkl
      obtain ⟨y, hy, hyv⟩ := (hA v).mp (by rw [k1]; simp)
      have hyat := h1 y hy
      have hvl : g_i M l ((P.length + A1.length : Nat) : Int) = v := (hS.get (by
        rw [List.append_assoc, List.append_assoc, List.getElem?_append_right (by omega), show P.length + A1.length - P.length = A1.length by omega, k1, List.append_assoc, List.getElem?_append_right (Nat.le_refl _), Nat.sub_self]
        rfl)).1
      -- on to the next of A
      have hnx : (∀ z ∈ K2, ¬ J_same (J_no 2706200 y) (J_no 2706200 z)) → g_InR (((P.length + A1.length : Nat) : Int) + 1) ∧ g_Run (d + 47) 346 142 [(0, .ref m), (1, g_n w1), (2, g_n w2), (3, g_n w3), (4, g_n w4), (5, g_n w5), (6, g_n w6), (7, g_n w7), (8, g_n w8), (9, g_n P.length), (10, g_n (P ++ A).length), (11, g_n w11), (12, g_n (P ++ A ++ P2).length), (13, g_n 0), (14, g_n (((P.length + A1.length : Nat) : Int) + 1))] [] M (g_qV Q) := by
        intro hz
        refine ⟨⟨by omega, by omega⟩, ?_⟩
        have h9 := ih (A1 ++ [v]) (by rw [k1]; simp) fun u hu hum => ?_
        · rwa [show ((P.length + (A1 ++ [v]).length : Nat) : Int) = ((P.length + A1.length : Nat) : Int) + 1 by rw [List.length_append, List.length_singleton]; omega] at h9
        · rcases List.mem_append.mp hum with hum | hum
          · exact hn u hu hum
          · rw [O_at_un (h1 u hu) hyat ((List.mem_singleton.mp hum).trans hyv.symm)]
            exact hz
      have h158 : ∀ (B2 B1 : List Int), B = B1 ++ B2 → (∀ z ∈ K2, L_opt z ∈ B1 → ¬ J_same (J_no 2706200 y) (J_no 2706200 z)) → g_Run (d + 47) 346 158 [(0, .ref m), (1, g_n w1), (2, g_n w2), (3, g_n w3), (4, g_n w4), (5, g_n w5), (6, g_n w6), (7, g_n w7), (8, g_n w8), (9, g_n P.length), (10, g_n (P ++ A).length), (11, g_n w11), (12, g_n (P ++ A ++ P2).length), (13, g_n 0), (14, g_n ((P.length + A1.length : Nat) : Int)), (15, g_n (((P ++ A ++ P2).length + B1.length : Nat) : Int))] [] M (g_qV Q) := by
        intro B2
        induction B2 with
        | nil =>
          intro B1 j1 hm
          rw [List.append_nil] at j1
          have hjl := congrArg List.length j1
          refine s_X12_putJoined_158 q1 q2 q3 q4 q5 q6 q7 q8 ⟨by omega, by omega⟩ (by rw [hlenA 0]; exact ⟨by omega, by omega⟩) q11 (by rw [hlenP]; exact ⟨by omega, by omega⟩) ⟨by decide, by decide⟩ ⟨by omega, by omega⟩ (by simp only [List.length_append]; exact ⟨by omega, by omega⟩) fun _ => ⟨hR.1, fun z => absurd z (by rw [h10]; simp only [List.length_append]; omega), fun _ => hnx fun z hz => hm z hz (by rw [← j1]; exact (hB _).mpr ⟨z, hz, rfl⟩)⟩
        | cons w B2 ihb =>
          intro B1 j1 hm
          have hjl := congrArg List.length j1
          rw [List.length_append, List.length_cons] at hjl
          obtain ⟨z, hz, hzw⟩ := (hB w).mp (by rw [j1]; simp)
          have hzat := h2 z hz
          have hwl : g_i M l (((P ++ A ++ P2).length + B1.length : Nat) : Int) = w := (hS.get (by
            rw [List.getElem?_append_right (by omega), show (P ++ A ++ P2).length + B1.length - (P ++ A ++ P2).length = B1.length by omega, j1, List.getElem?_append_right (Nat.le_refl _), Nat.sub_self]
            rfl)).1
          have hlb : (((P ++ A ++ P2).length + B1.length : Nat) : Int) = (P.length : Int) + A.length + P2.length + B1.length := by simp only [List.length_append]; omega
          refine s_X12_putJoined_158 q1 q2 q3 q4 q5 q6 q7 q8 ⟨by omega, by omega⟩ (by rw [hlenA 0]; exact ⟨by omega, by omega⟩) q11 (by rw [hlenP]; exact ⟨by omega, by omega⟩) ⟨by decide, by decide⟩ ⟨by omega, by omega⟩ (by rw [hlb]; exact ⟨by omega, by omega⟩) fun _ => ⟨hR.1, fun _ => ⟨fun _ => ⟨l, hl9, _, hlA, ⟨by omega, by omega⟩, ?_⟩, fun g => absurd rfl g⟩, fun g => absurd (by rw [hlb, h10]; omega) g⟩
          rw [hvl, ← hyv]
          refine e_orNothing (d := d + 46) (hyat.R (by decide)) (hpos hyat) ?_
          intro _ _ _
          refine ⟨l, hl9, _, hlA, ⟨by omega, by omega⟩, ?_⟩
          rw [hwl, ← hzw]
          refine e_orNothing (d := d + 46) (hzat.R (by decide)) (hpos hzat) ?_
          intro _ _ _
          refine e_isSameS (d := d + 1) (D := 20) hR (hst hyat) (by decide) (hst hzat) ?_
          intro _ _ _
          refine ⟨by rw [hlb]; exact ⟨by omega, by omega⟩, ?_⟩
          by_cases hs : J_same (J_no 2706200 y) (J_no 2706200 z)
          · have hF : F_eq (J_no 2706200 y).2 (J_no 2706200 z).2 = true := decide_eq_true hs
            rw [hF, if_pos rfl]
            refine s_X12_putJoined_158 q1 q2 q3 q4 q5 q6 q7 q8 ⟨by omega, by omega⟩ (by rw [hlenA 0]; exact ⟨by omega, by omega⟩) q11 (by rw [hlenP]; exact ⟨by omega, by omega⟩) ⟨by decide, by decide⟩ ⟨by omega, by omega⟩ (by rw [hlb]; exact ⟨by omega, by omega⟩) fun _ => ?_
            have hend : g_InR (((P.length + A1.length : Nat) : Int) + 1) ∧ g_Run (d + 47) 346 142 [(0, .ref m), (1, g_n w1), (2, g_n w2), (3, g_n w3), (4, g_n w4), (5, g_n w5), (6, g_n w6), (7, g_n w7), (8, g_n w8), (9, g_n P.length), (10, g_n (P ++ A).length), (11, g_n w11), (12, g_n (P ++ A ++ P2).length), (13, g_n 1), (14, g_n (((P.length + A1.length : Nat) : Int) + 1))] [] M (g_qV Q) := by
              have hyes := hq 1 (((P.length + A1.length : Nat) : Int) + 1) ⟨by omega, by omega⟩ (Or.inl ⟨rfl, y, hy, z, hz, hs⟩)
              refine ⟨⟨by omega, by omega⟩, s_X12_putJoined_142 q1 q2 q3 q4 q5 q6 q7 q8 ⟨by omega, by omega⟩ (by rw [hlenA 0]; exact ⟨by omega, by omega⟩) q11 (by rw [hlenP]; exact ⟨by omega, by omega⟩) ⟨by decide, by decide⟩ ⟨by omega, by omega⟩ fun _ => ⟨fun _ => ⟨fun g => absurd g (by decide), fun _ => hyes⟩, fun _ => hyes⟩⟩
            exact ⟨hR.1, fun _ => ⟨fun g => absurd g (by decide), fun _ => hend⟩, fun _ => hend⟩
          · have hF : F_eq (J_no 2706200 y).2 (J_no 2706200 z).2 = false := decide_eq_false hs
            rw [hF, if_neg (by decide)]
            have h9 := ihb (B1 ++ [w]) (by rw [j1]; simp) fun u hu hum => ?_
            · rwa [show (((P ++ A ++ P2).length + (B1 ++ [w]).length : Nat) : Int) = (((P ++ A ++ P2).length + B1.length : Nat) : Int) + 1 by rw [List.length_append (as := B1), List.length_singleton]; omega] at h9
            · rcases List.mem_append.mp hum with hum | hum
              · exact hm u hu hum
              · rw [O_at_un (h2 u hu) hzat ((List.mem_singleton.mp hum).trans hzw.symm)]
                exact hs
      refine s_X12_putJoined_142 q1 q2 q3 q4 q5 q6 q7 q8 ⟨by omega, by omega⟩ (by rw [hlenA 0]; exact ⟨by omega, by omega⟩) q11 (by rw [hlenP]; exact ⟨by omega, by omega⟩) ⟨by decide, by decide⟩ ⟨by omega, by omega⟩ fun _ => ⟨fun _ => ⟨fun _ => ?_, fun g => absurd rfl g⟩, fun g => absurd (by rw [hlenA 0]; omega) g⟩
      exact h158 B [] rfl fun z _ hz => absurd hz (by simp)
  exact hlp A [] rfl fun y _ hy => absurd hy (by simp)
end EVALS
