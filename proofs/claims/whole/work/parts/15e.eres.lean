/-! STAGES: the reference finds an expression's value -/
section ERES
variable {m b : Nat} {F : Int → Int} {M M1 : g_M} {x : List Int}
theorem b_st.upW {B : Int → Int} {q : Int} {D : Nat} {k : Int} {nm vb : List Int} (h : b_st F 922000 q D k nm vb) (hB : ∀ k, k < 922000 → B k = F k) : b_st B 2706210 q D k nm vb := by
  obtain ⟨h1, h2, h3, h4, h5⟩ := h
  exact ⟨b_at_keep h1 fun k k1 k2 => hB k (by omega), h2, h3, h4, by omega⟩
def E_RS (m : Nat) (y : Nat) (k : Int) : Prop := y = m ∧ (k = 27 ∨ k = 28 ∨ k = 29)
/-- where the element stands that a path leads to -/
noncomputable def U_pl : List (List Int) → Int → List b_E → Int
  | [], _, _ => -1
  | s :: r, c, es => match L_find s (L_at (c + 4) es) with
    | none => -1
    | some z => if r.isEmpty = true then z.1 else U_pl r (z.1 + 2 + z.2.2.1.length) (b_ch z.2.2.2)
theorem U_pl_cons {s : List Int} {r : List (List Int)} {c : Int} {es : List b_E} {z : Int × b_E} (h : L_find s (L_at (c + 4) es) = some z) : U_pl (s :: r) c es = if r.isEmpty = true then z.1 else U_pl r (z.1 + 2 + z.2.2.1.length) (b_ch z.2.2.2) := by
  show (match L_find s (L_at (c + 4) es) with
    | none => -1
    | some z => if r.isEmpty = true then z.1 else U_pl r (z.1 + 2 + z.2.2.1.length) (b_ch z.2.2.2)) = _
  rw [h]
/-- a document's elements stand in a container -/
def E_ct (F : Int → Int) (c : Int) (D : Nat) (ys : List b_E) : Prop := b_at F c (b_doc ys) ∧ 0 ≤ c ∧ c + (b_doc ys).length ≤ 922000 ∧ X_gd D ys
theorem E_ct.sts {c : Int} {D : Nat} {ys : List b_E} (h : E_ct F c D ys) : b_sts F 922000 (c + 4) D ys := by
  obtain ⟨h1, h2, h3, h4⟩ := h
  obtain ⟨w1, w2, w3⟩ := b_doc_at h1
  rw [b_doc_len] at h3
  exact ⟨w2, h4, by omega, by omega, w3⟩
theorem E_ct.tl {B : Int → Int} {c : Int} {D : Nat} {ys : List b_E} (h : E_ct F c D ys) (hB : ∀ k, k < 922000 → B k = F k) : e_tl B c (c + 4) D ys ys := by
  obtain ⟨h1, h2, h3, h4⟩ := h
  exact e_tl.start (b_at_keep h1 fun k k1 k2 => hB k (by omega)) h4 h2 (by omega)
theorem E_ct.of {q : Int} {D : Nat} {z : b_E} (h : b_st F 922000 q D z.1 z.2.1 z.2.2) (hk : z.1 = 3 ∨ z.1 = 4) : ∃ D1, D = D1 + 1 ∧ E_ct F (q + 2 + z.2.1.length) D1 (b_ch z.2.2) ∧ (b_doc (b_ch z.2.2)).length = z.2.2.length := by
  obtain ⟨D1, es, e1, e2, e3, e4, e5, e6, e7⟩ := b_gv_doc h.2.2.1 hk
  have h5 := h.2.2.2.2
  have h4 := h.2.2.2.1
  have hl := b_el_len z.1 z.2.1 z.2.2
  have hv : b_at F (q + 2 + z.2.1.length) z.2.2 := (b_el_at h.1).2.2.2
  rw [e7]
  refine ⟨D1, e1, ⟨by rw [← e2]; exact hv, by omega, by rw [← e2]; omega, e5⟩, by rw [← e2]⟩
theorem e_resolve {d : Nat} {to c0 p0 : Int} {Q : g_M → Prop} {D0 : Nat} {ys0 : List b_E} {y0 : List Int} (hR : e_R M m b) (hF : ∀ k, k < 922000 → g_i M b k = F k) (hz : E_ct F c0 D0 ys0) (hy0 : b_at F p0 y0) (hp0 : 0 ≤ p0) (hto : p0 + y0.length = to) (hto9 : to ≤ 922000) (hl0 : (b_doc ys0).length ≤ 15000) (hq0 : V_res (p_sp y0) ys0 = none → ∀ M1, e_fr (E_RS m) M M1 → g_i M1 m 27 = 0 → Q M1) (hq1 : ∀ (e : b_E) (q : Int) (D : Nat), V_res (p_sp y0) ys0 = some (e, []) → q = U_pl (p_sp y0) c0 ys0 → D ≤ D0 → b_st F 922000 q D e.1 e.2.1 e.2.2 → c0 ≤ q → q + (b_el e.1 e.2.1 e.2.2).length ≤ c0 + (b_doc ys0).length → ∀ M1, e_fr (E_RS m) M M1 → g_i M1 m 27 = 1 → g_i M1 m 28 = q → Q M1) (hq2 : ∀ (e : b_E) (r : List (List Int)) (q f29 : Int) (D : Nat) (z : List Int), V_res (p_sp y0) ys0 = some (e, r) → r ≠ [] → D ≤ D0 → b_st F 922000 q D e.1 e.2.1 e.2.2 → e.1 = 4 → e.2.2.length ≤ 15000 → b_at F f29 z → 0 ≤ f29 → f29 + z.length = to → r = p_sp z → ∀ M1, e_fr (E_RS m) M M1 → g_i M1 m 27 = 2 → g_i M1 m 28 = q + 2 + e.2.1.length → g_i M1 m 29 = f29 → Q M1) : g_Call (d + 6) 325 [.ref m, g_n c0, g_n p0, g_n to] M (g_qV Q) := by
  have hmb : m ≠ b := g_neOA hR.1 hR.2.2
  have hz5 := hz.2.2.1
  have hz4 := hz.2.1
  have hc0R : g_InR c0 := ⟨by omega, by omega⟩
  have hp0R : g_InR p0 := ⟨by omega, by omega⟩
  have htoR : g_InR to := ⟨by omega, by omega⟩
  have hlp : ∀ (n : Nat) (y : List Int) (p c : Int) (ys : List b_E) (D : Nat) (M2 : g_M), (p_sp y).length ≤ n → e_fr (E_RS m) M M2 → g_i M2 m 27 = 0 → E_ct F c D ys → D ≤ D0 → (b_doc ys).length ≤ 15000 → c0 ≤ c → c + (b_doc ys).length ≤ c0 + (b_doc ys0).length → b_at F p y → 0 ≤ p → p + y.length = to → V_res (p_sp y) ys = V_res (p_sp y0) ys0 → U_pl (p_sp y) c ys = U_pl (p_sp y0) c0 ys0 → g_Run (d + 5) 325 11 [(0, .ref m), (1, g_n c0), (2, g_n p0), (3, g_n to), (4, g_n c), (5, g_n p)] [] M2 (g_qV Q) := by
    intro n
    induction n with
    | zero =>
      intro y p c ys D M2 hn
      have := p_sp_pos y
      omega
    | succ n ih =>
      intro y p c ys D M2 hn f2 h27 hb hDD hl hcc1 hcc2 hy hp hpt hV hU
      have hR2 := f2.R hR
      have hF2 : ∀ k, k < 922000 → g_i M2 b k = F k := fun k hk => by
        rw [f2.2.1 b k fun w => hmb w.1.symm]
        exact hF k hk
      have hb5 := hb.2.2.1
      have hb4 := hb.2.1
      have hbl := b_doc_len ys
      have hyM : b_at (g_i M2 b) p y := b_at_keep hy fun k k1 k2 => hF2 k (by omega)
      have hsp := p_sp_eq y
      have hhd : p_hd y ++ (match p_tl y with | none => [] | some z => 46 :: z) = y := by
        rcases p_hd_tl y with ⟨g1, g2⟩ | ⟨z, g1, g2⟩
        · rw [g1, List.append_nil]
          exact g2
        · rw [g1]
          exact g2.symm
      have hhl : (p_hd y).length ≤ y.length := by
        have := congrArg List.length hhd
        rw [List.length_append] at this
        omega
      have hxM : b_at (g_i M2 b) p (p_hd y) := by
        rw [← hhd] at hyM
        exact (b_app.mp hyM).1
      have e4 := hb.tl hF2
      have hkids := hb.sts
      have hcR : g_InR c := ⟨by omega, by omega⟩
      refine s_X12_resolve_11 hc0R hp0R htoR hcR ⟨by omega, by omega⟩ fun _ => ⟨hR2.1, ?_⟩
      rw [← hpt]
      refine e_stepEnd (d := d + 3) hR2 hyM hp (by omega) ?_
      intro _ _ _
      refine e_findE (d := d) hR2 e4 hxM hp (by omega) ?_
      intro _ _ hzR
      obtain ⟨hno, hso⟩ := L_opt_fn (x := p_hd y) (es := ys) (c + 4)
      rcases hf0 : L_fn (p_hd y) ys with _ | e0
      · have hlo : L_opt none = -1 := rfl
        rw [hno hf0, hlo]
        refine ⟨fun _ => hq0 ?_ M2 f2 h27, fun g => absurd rfl g⟩
        rw [← hV, hsp]
        exact V_res_none hf0
      · obtain ⟨l, t, l1, l2, l3, l4, l5⟩ := hso e0 hf0
        have hfd : L_find (p_hd y) (L_at (c + 4) ys) = some (c + 4 + (b_ser l).length, e0) := by
          rcases hL : L_find (p_hd y) (L_at (c + 4) ys) with _ | z
          · rw [hL] at l5
            have : L_opt none = -1 := rfl
            have := hb.2.1
            omega
          · rw [hL] at l5
            have h1 : z.1 = c + 4 + (b_ser l).length := l5
            have h2 := L_find_fn (p_hd y) ys (c + 4)
            rw [hL, hf0] at h2
            have h3 : z.2 = e0 := Option.some.inj h2
            rw [← h1, ← h3]
        rw [l5] at hzR ⊢
        have hk2 := hkids
        rw [l1] at hk2
        have he0 := hk2.app.cons.1
        have hlen := congrArg List.length (congrArg b_ser l1)
        rw [b_ser_app, List.length_append, b_ser_len] at hlen
        have hst0 := he0.upW hF2
        have he4 := he0.2.2.2.1
        have he5 := he0.2.2.2.2
        have hel := b_el_len e0.1 e0.2.1 e0.2.2
        obtain ⟨v1, v2, v3, hkd⟩ := hst0.val
        have hle0 : e0.2.2.length ≤ 15000 := by omega
        refine ⟨fun g => absurd g (by omega), fun _ => ⟨fun gl => ?_, fun gl => ?_⟩⟩
        · have hV1 : V_res (p_sp y0) ys0 = some (e0, []) := by
            rw [← hV]
            rcases p_hd_tl y with ⟨g1, g2⟩ | ⟨w, g1, g2⟩
            · rw [p_sp_none g1, V_res_some hf0, if_pos (show ([] : List (List Int)).isEmpty = true from rfl)]
            · have := congrArg List.length g2
              rw [List.length_append, List.length_cons] at this
              omega
          have hU1 : c + 4 + ((b_ser l).length : Int) = U_pl (p_sp y0) c0 ys0 := by
            rw [← hU]
            rcases p_hd_tl y with ⟨g1, g2⟩ | ⟨w, g1, g2⟩
            · rw [p_sp_none g1, U_pl_cons hfd, if_pos (show ([] : List (List Int)).isEmpty = true from rfl)]
            · have := congrArg List.length g2
              rw [List.length_append, List.length_cons] at this
              omega
          rintro M45 rfl _ M49 rfl _
          refine hq1 e0 _ D hV1 hU1 (by omega) he0 (by omega) (by omega) _ ((f2.tr (e_fr.wi _ ⟨rfl, Or.inl rfl⟩)).tr (e_fr.wi _ ⟨rfl, Or.inr (Or.inl rfl)⟩)) ?_ ?_
          · rw [g_i_wi, if_neg (by omega), g_i_wi, if_pos ⟨rfl, rfl⟩]
          · rw [g_i_wi, if_pos ⟨rfl, rfl⟩]
        · rcases p_hd_tl y with ⟨g1, g2⟩ | ⟨w, g1, g2⟩
          · rw [g2] at gl
            exact absurd rfl gl
          · have hspw := p_sp_some g1
            obtain ⟨s2, r2, hsr⟩ : ∃ s r, p_sp w = s :: r := ⟨_, _, p_sp_eq w⟩
            have hwl := congrArg List.length g2
            rw [List.length_append, List.length_cons] at hwl
            have hspl := congrArg List.length hspw
            rw [List.length_cons] at hspl
            have hwF : b_at F (p + (p_hd y).length + 1) w := by
              rw [g2] at hy
              exact (b_cons.mp (b_app.mp hy).2).2
            have hV1 : V_res (p_sp y0) ys0 = if e0.1 = 4 then some (e0, p_sp w) else if e0.1 = 3 then V_res (p_sp w) (b_ch e0.2.2) else none := by
              rw [← hV, hspw, V_res_some hf0, if_neg (by rw [hsr]; simp)]
            refine ⟨⟨by omega, by omega⟩, b, hR2.2.1, _, hR2.2.2, ⟨by omega, by omega⟩, ?_⟩
            rw [hkd]
            refine ⟨fun g4 => ?_, fun g4 => ⟨b, hR2.2.1, _, hR2.2.2, ⟨by omega, by omega⟩, ?_⟩⟩
            · rintro M28 rfl _
              have f28 : e_fr (E_RS m) M2 (g_wi M2 m 27 2) := e_fr.wi _ ⟨rfl, Or.inl rfl⟩
              have hR28 := f28.R hR2
              have hst28 : b_st (g_i (g_wi M2 m 27 2) b) 2706210 _ D e0.1 e0.2.1 e0.2.2 := he0.upW fun k hk => by
                rw [g_i_wi, if_neg fun w => hmb w.1.symm]
                exact hF2 k hk
              refine e_vl2 (d := d + 3) hR28 hst28 ?_
              intro _ _ _
              rintro M37 rfl _ M41 rfl _
              rw [if_pos g4] at hV1
              refine hq2 e0 (p_sp w) _ _ D w hV1 (by rw [hsr]; simp) (by omega) he0 g4 hle0 hwF (by omega) (by omega) rfl _ (((f2.tr f28).tr (e_fr.wi _ ⟨rfl, Or.inr (Or.inl rfl)⟩)).tr (e_fr.wi _ ⟨rfl, Or.inr (Or.inr rfl)⟩)) ?_ ?_ ?_
              · rw [g_i_wi, if_neg (by omega), g_i_wi, if_neg (by omega), g_i_wi, if_pos ⟨rfl, rfl⟩]
              · rw [g_i_wi, if_neg (by omega), g_i_wi, if_pos ⟨rfl, rfl⟩]
              · rw [g_i_wi, if_pos ⟨rfl, rfl⟩]
            · rw [hkd]
              rw [if_neg g4] at hV1
              refine ⟨fun g3 => e_vl2 (d := d + 3) hR2 hst0 ?_, fun g3 => ?_⟩
              · intro _ _ _
                rw [if_pos g3] at hV1
                obtain ⟨D1, eD1, hct, hcl⟩ := E_ct.of he0 (Or.inl g3)
                have h9 := ih w (p + (p_hd y).length + 1) _ (b_ch e0.2.2) D1 M2 (by omega) f2 h27 hct (by omega) (by omega) (by omega) (by omega) hwF (by omega) (by omega) hV1.symm (by rw [← hU, hspw, U_pl_cons hfd, if_neg (by rw [hsr]; simp)])
                rw [hpt]
                exact h9
              · rw [if_neg g3] at hV1
                exact hq0 hV1 M2 f2 h27
  refine m_X12_resolve hc0R hp0R htoR fun _ => ⟨hR.1, ?_⟩
  rintro M2 rfl _
  exact hlp _ y0 p0 c0 ys0 D0 _ (Nat.le_refl _) (e_fr.wi _ ⟨rfl, Or.inl rfl⟩) (by rw [g_i_wi, if_pos ⟨rfl, rfl⟩]) hz (Nat.le_refl _) hl0 (Int.le_refl _) (Int.le_refl _) hy0 hp0 hto rfl rfl
end ERES
