/-! the order of values: the reference's compare -/
theorem v_sg_ok {s : Int} (h : s = -1 ∨ s = 0 ∨ s = 1) : v_ok s s := by
  refine ⟨?_, by omega, by omega⟩
  unfold v_sg
  rcases h with h | h | h <;> subst h <;> rfl
section V12b
variable {m b : Nat} {M : g_M} {D : Nat} {c c2 : Int} {es0 es20 : List b_E}
theorem e_tl.st {B : Int → Int} {q : Int} {es : List b_E} (h : e_tl B c q D es0 es) : 0 ≤ q ∧ q ≤ 2706210 ∧ 0 ≤ c ∧ c < 2706210 := by
  obtain ⟨h1, h2, h3, ⟨h4, h5, h6, h7, h8⟩, h9⟩ := h
  rw [b_doc_len] at h3
  omega
theorem e_cmpAll {d : Nat} {Q : Int → g_M → Prop} {f : Int → List Int → Int → List Int → Int} {rows : Bool} {w : Int} (hw : w = (bif rows then 1 else 0)) (hR : e_R M m b)
    (hf1 : ∀ e g : b_E, b_cl e.1 < b_cl g.1 → f e.1 e.2.2 g.1 g.2.2 = -1) (hf2 : ∀ e g : b_E, b_cl g.1 < b_cl e.1 → f e.1 e.2.2 g.1 g.2.2 = 1)
    (hc : ∀ (e g : b_E) (q q2 : Int) (Q1 : Int → g_M → Prop), b_st (g_i M b) 2706210 q D e.1 e.2.1 e.2.2 → b_st (g_i M b) 2706210 q2 D g.1 g.2.1 g.2.2 → (∀ r, v_ok r (f e.1 e.2.2 g.1 g.2.2) → Q1 r M) → g_Call (d + 4) 269 [.ref m, g_n q, g_n q2] M (g_qI Q1))
    (h1 : e_tl (g_i M b) c (c + 4) D es0 es0) (h2 : e_tl (g_i M b) c2 (c2 + 4) D es20 es20) (h : ∀ r, v_ok r (v_cmpL f rows es0 es20) → Q r M) : g_Call (d + 5) 270 [.ref m, g_n c, g_n c2, g_n w] M (g_qI Q) := by
  have hwR : g_InR w := by
    rw [hw]
    cases rows <;> exact ⟨by decide, by decide⟩
  have z1 := h1.st
  have z2 := h2.st
  have hl : ∀ (es es2 : List b_E) (q q2 : Int), e_tl (g_i M b) c q D es0 es → e_tl (g_i M b) c2 q2 D es20 es2 → (∀ r, v_ok r (v_cmpL f rows es es2) → Q r M) → g_Run (d + 4) 270 12 [(0, .ref m), (1, g_n c), (2, g_n c2), (3, g_n w), (4, g_n q), (5, g_n q2)] [] M (g_qI Q) := by
    intro es
    induction es with
    | nil =>
      intro es2 q q2 t1 t2 hq
      have y1 := t1.st
      have y2 := t2.st
      refine s_X12_compareAll_12 ⟨by omega, by omega⟩ ⟨by omega, by omega⟩ hwR ⟨by omega, by omega⟩ ⟨by omega, by omega⟩ fun _ => ⟨hR.1, e_lastE hR t1 fun _ _ _ => ⟨fun g => absurd g (by omega), fun _ => ?_⟩⟩
      cases es2 with
      | nil => exact s_X12_compareAll_136 ⟨by omega, by omega⟩ ⟨by omega, by omega⟩ hwR ⟨by omega, by omega⟩ ⟨by omega, by omega⟩ fun _ => ⟨hR.1, e_lastE hR t1 fun _ _ _ => ⟨fun g => absurd g (by omega), fun _ => e_lastE hR t2 fun _ _ _ => ⟨fun g => absurd g (by omega), fun _ => hq _ (v_sg_ok (Or.inr (Or.inl rfl)))⟩⟩⟩
      | cons g gs => exact s_X12_compareAll_136 ⟨by omega, by omega⟩ ⟨by omega, by omega⟩ hwR ⟨by omega, by omega⟩ ⟨by omega, by omega⟩ fun _ => ⟨hR.1, e_lastE hR t1 fun _ _ _ => ⟨fun g => absurd g (by omega), fun _ => e_lastC hR t2 fun r hr _ _ _ _ => ⟨fun _ => hq _ (v_sg_ok (Or.inl rfl)), fun g => absurd hr g⟩⟩⟩
    | cons e es ih =>
      intro es2 q q2 t1 t2 hq
      have y1 := t1.st
      have y2 := t2.st
      obtain ⟨h5, h6⟩ := t1.cons
      have y5 := h6.st
      cases es2 with
      | nil =>
        refine s_X12_compareAll_12 ⟨by omega, by omega⟩ ⟨by omega, by omega⟩ hwR ⟨by omega, by omega⟩ ⟨by omega, by omega⟩ fun _ => ⟨hR.1, e_lastC hR t1 fun r hr _ _ _ _ => ⟨fun _ => e_lastE hR t2 fun _ _ _ => ⟨fun g => absurd g (by omega), fun _ => ?_⟩, fun g => absurd hr g⟩⟩
        exact s_X12_compareAll_136 ⟨by omega, by omega⟩ ⟨by omega, by omega⟩ hwR ⟨by omega, by omega⟩ ⟨by omega, by omega⟩ fun _ => ⟨hR.1, e_lastC hR t1 fun r hr _ _ _ _ => ⟨fun _ => hq _ (v_sg_ok (Or.inr (Or.inr rfl))), fun g => absurd hr g⟩⟩
      | cons g gs =>
        obtain ⟨h3, h4⟩ := t2.cons
        have y3 := h4.st
        obtain ⟨h51, h52, h53, h54, h55⟩ := id h5
        obtain ⟨h31, h32, h33, h34, h35⟩ := id h3
        have hle := b_el_len e.1 e.2.1 e.2.2
        have hlg := b_el_len g.1 g.2.1 g.2.2
        have hc1 := b_cl_R e.1
        have hc2 := b_cl_R g.1
        unfold v_cmpL at hq
        have hx : (b_cl e.1 = b_cl g.1 → (bif rows then 0 else b_cmp e.2.1 g.2.1) = 0) → (b_cl e.1 = b_cl g.1 ∨ rows = true) → g_Run (d + 4) 270 99 [(0, .ref m), (1, g_n c), (2, g_n c2), (3, g_n w), (4, g_n q), (5, g_n q2)] [] M (g_qI Q) := by
          intro hnm hcl
          refine s_X12_compareAll_99 ⟨by omega, by omega⟩ ⟨by omega, by omega⟩ hwR ⟨by omega, by omega⟩ ⟨by omega, by omega⟩ fun _ => ⟨hR.1, hc e g q q2 _ h5 h3 fun r hr _ _ _ => ⟨fun e0 => e_bh2 hR h5 fun _ _ _ => e_bh2 hR h3 fun _ _ _ => ?_, fun e0 => hq _ ?_⟩⟩
          · have hf0 := hr.zero.mp e0
            refine ih gs _ _ h6 h4 ?_
            have q1 : ¬ b_cl e.1 < b_cl g.1 := fun g1 => by
              have := hf1 e g g1
              omega
            have q2 : ¬ b_cl g.1 < b_cl e.1 := fun g1 => by
              have := hf2 e g g1
              omega
            rwa [if_neg q1, if_neg q2, if_pos (hnm (by omega)), if_pos hf0] at hq
          · have hf0 : ¬ f e.1 e.2.2 g.1 g.2.2 = 0 := fun g1 => e0 (hr.zero.mpr g1)
            by_cases q1 : b_cl e.1 < b_cl g.1
            · rw [if_pos q1]
              rwa [hf1 e g q1] at hr
            · by_cases q2 : b_cl g.1 < b_cl e.1
              · rw [if_neg q1, if_pos q2]
                rwa [hf2 e g q2] at hr
              · rwa [if_neg q1, if_neg q2, if_pos (hnm (by omega)), if_neg hf0]
        refine s_X12_compareAll_12 ⟨by omega, by omega⟩ ⟨by omega, by omega⟩ hwR ⟨by omega, by omega⟩ ⟨by omega, by omega⟩ fun _ => ⟨hR.1, e_lastC hR t1 fun r hr _ _ _ _ => ⟨fun _ => e_lastC hR t2 fun r2 hr2 _ _ _ _ => ⟨fun _ => ⟨fun e0 => ?_, fun e0 => ?_⟩, fun g => absurd hr2 g⟩, fun g => absurd hr g⟩⟩
        · have hrows : rows = false := by
            cases rows
            · rfl
            · rw [cond_true] at hw
              omega
          subst hrows
          refine e_cl2 hR h5 fun _ _ _ => e_cl2 hR h3 fun _ _ _ => ⟨fun ec => ⟨⟨by omega, by omega⟩, e_nm2 hR h5 fun _ _ _ => ⟨⟨by omega, by omega⟩, e_nm2 hR h3 fun _ _ _ => e_cmpB hR (b_el_at h51).2.1 (b_el_at h31).2.1 (by omega) (by omega) (by omega) (by omega) fun r3 hr3 _ _ _ => ⟨fun g0 => hx (fun _ => hr3.zero.mp g0) (Or.inl ec), fun g0 => hq _ ?_⟩⟩⟩, fun ec => e_cl2 hR h5 fun _ _ _ => e_cl2 hR h3 fun _ _ _ => ⟨⟨by omega, by omega⟩, hq _ ?_⟩⟩
          · rw [if_neg (by omega), if_neg (by omega), cond_false, if_neg (fun g1 => g0 (hr3.zero.mpr g1))]
            exact hr3
          · by_cases q1 : b_cl e.1 < b_cl g.1
            · rw [if_pos q1]
              exact ⟨by unfold v_sg; rw [if_pos (by omega)], by omega, by omega⟩
            · rw [if_neg q1, if_pos (by omega)]
              exact ⟨by unfold v_sg; rw [if_neg (by omega), if_neg (by omega)], by omega, by omega⟩
        · have hrows : rows = true := by
            cases rows
            · exact absurd hw e0
            · rfl
          subst hrows
          exact hx (fun _ => rfl) (Or.inr rfl)
  exact m_X12_compareAll ⟨by omega, by omega⟩ ⟨by omega, by omega⟩ hwR fun _ => e_first (by omega) (by omega) fun _ _ _ => e_first (by omega) (by omega) fun _ _ _ => hl es0 es20 _ _ h1 h2 h
theorem v_cmp_lt {F : Nat} {k k2 : Int} {vb vb2 : List Int} (h : b_cl k < b_cl k2) : v_cmp (F + 1) k vb k2 vb2 = -1 := by
  unfold v_cmp
  rw [if_pos h]
theorem v_cmp_gt {F : Nat} {k k2 : Int} {vb vb2 : List Int} (h : b_cl k2 < b_cl k) : v_cmp (F + 1) k vb k2 vb2 = 1 := by
  unfold v_cmp
  rw [if_neg (by omega), if_pos h]
theorem b_gv8 {vb : List Int} (h : b_gv D 8 vb) : vb = [0] ∨ vb = [1] := by
  have hlf : b_lf 8 vb := by
    cases D with
    | zero => exact h
    | succ D =>
      rcases h with h | ⟨hk, -⟩
      · exact h
      · omega
  rcases hlf with ⟨h, -⟩ | ⟨h, -⟩ | ⟨-, h⟩ | ⟨h, -⟩ | ⟨h, -⟩
  · omega
  · omega
  · exact h
  · omega
  · omega
theorem e_cmp1 {d : Nat} {Q : Int → g_M → Prop} {p p2 k k2 : Int} {nm nm2 vb vb2 : List Int} {D D2 F : Nat} (hR : e_R M m b) (hs : b_st (g_i M b) 2706210 p D k nm vb) (hs2 : b_st (g_i M b) 2706210 p2 D2 k2 nm2 vb2)
    (hin : ∀ (Q1 : Int → g_M → Prop) (rows : Bool) (w : Int), w = (bif rows then 1 else 0) → rows = (b_cl k == 5) → (b_cl k = 4 ∨ b_cl k = 5) → b_cl k = b_cl k2 → (∀ r, v_ok r (v_cmpL (v_cmp F) (b_cl k == 5) (b_ch vb) (b_ch vb2)) → Q1 r M) → g_Call (d + 4) 270 [.ref m, g_n (p + 2 + nm.length), g_n (p2 + 2 + nm2.length), g_n w] M (g_qI Q1)) (h : ∀ r, v_ok r (v_cmp (F + 1) k vb k2 vb2) → Q r M) : g_Call (d + 5) 269 [.ref m, g_n p, g_n p2] M (g_qI Q) := by
  obtain ⟨v1, v2, v3, v4⟩ := hs.val
  obtain ⟨w1, w2, w3, w4⟩ := hs2.val
  have hc := b_cl_R k
  have hc2 := b_cl_R k2
  have hkk := b_cl_k hs.2.2.1
  have hkk2 := b_cl_k hs2.2.2.1
  refine m_X12_compare ⟨by omega, by omega⟩ ⟨by omega, by omega⟩ fun _ => ⟨hR.1, e_cl2 hR hs fun _ _ _ => e_cl2 hR hs2 fun _ _ _ => ⟨fun ec => ?_, fun ec => e_cl2 hR hs2 fun _ _ _ => ⟨⟨by omega, by omega⟩, h _ ?_⟩⟩⟩
  · unfold v_cmp at h
    rw [if_neg (by omega), if_neg (by omega)] at h
    refine ⟨fun e2 => ?_, fun e2 => ⟨fun e3 => ?_, fun e3 => e_vl2 hR hs fun _ _ _ => e_vl2 hR hs2 fun _ _ _ => ⟨fun e4 => ?_, fun e4 => ⟨fun e5 => ?_, fun e5 => ⟨fun e6 => ?_, fun e6 => ?_⟩⟩⟩⟩⟩
    · rw [if_pos e2] at h
      exact h _ (v_sg_ok (Or.inr (Or.inl rfl)))
    · rw [if_neg e2, if_pos e3] at h
      have k1 := hkk.2.1 e3
      have k2' := hkk2.2.1 (by omega)
      unfold v_ncmp at h
      refine e_num hR hs k1 fun _ _ => e_num hR hs2 k2' fun _ _ => ⟨fun g => ?_, fun g => e_num hR hs k1 fun _ _ => e_num hR hs2 k2' fun _ _ => ⟨fun g2 => ?_, fun g2 => ?_⟩⟩
      · rw [if_pos g] at h
        exact h _ (v_sg_ok (Or.inl rfl))
      · rw [if_neg g, if_neg (by omega)] at h
        exact h _ (v_sg_ok (Or.inr (Or.inr rfl)))
      · rw [if_neg g, if_pos (by omega)] at h
        exact h _ (v_sg_ok (Or.inr (Or.inl rfl)))
    · rw [if_neg e2, if_neg e3, if_pos e4] at h
      have k1 := hkk.2.2.1 e4
      have k2' := hkk2.2.2.1 (by omega)
      subst k1
      subst k2'
      obtain ⟨s, rfl, s1, s2⟩ := b_gv_txt hs.2.2.1
      obtain ⟨t, rfl, t1, t2⟩ := b_gv_txt hs2.2.2.1
      rw [s2, t2] at h
      have r4 : ∀ z : Int, (b_le4 z).length = 4 := fun _ => rfl
      rw [List.length_append, List.length_append, r4, List.length_singleton] at v2 w2
      obtain ⟨a1, a2'⟩ := b_app.mp v1
      obtain ⟨c1, c2⟩ := b_app.mp w1
      rw [r4] at a2' c2
      refine ⟨⟨by omega, by omega⟩, ⟨by omega, by omega⟩, e_int4 hR (by omega) (by omega) fun _ _ _ => ?_⟩
      rw [b_w4_le4 (by omega) (by omega) a1]
      refine ⟨⟨by omega, by omega⟩, ⟨by omega, by omega⟩, ⟨by omega, by omega⟩, e_int4 hR (by omega) (by omega) fun _ _ _ => ?_⟩
      rw [b_w4_le4 (by omega) (by omega) c1]
      refine ⟨⟨by omega, by omega⟩, ?_⟩
      rw [show p + 2 + (nm.length : Int) + 3 + ((s.length : Int) + 1) = p + 2 + nm.length + 4 + s.length by omega, show p2 + 2 + (nm2.length : Int) + 3 + ((t.length : Int) + 1) = p2 + 2 + nm2.length + 4 + t.length by omega]
      exact e_cmpB hR (b_app.mp a2').1 (b_app.mp c2).1 (by omega) (by omega) (by omega) (by omega) fun r hr _ _ _ => h r hr
    · rw [if_neg e2, if_neg e3, if_neg e4, if_pos e5] at h
      have k1 := hkk.2.2.2.2.2 e5
      have k2' := hkk2.2.2.2.2.2 (by omega)
      subst k1
      subst k2'
      have x0 := b_gv8 hs.2.2.1
      have y0 := b_gv8 hs2.2.2.1
      have l1 : vb.length = 1 := by rcases x0 with g | g <;> rw [g] <;> rfl
      have l2 : vb2.length = 1 := by rcases y0 with g | g <;> rw [g] <;> rfl
      have x1 := b_fn_at v1 (i := 0) (by omega) (by omega)
      have y1 := b_fn_at w1 (i := 0) (by omega) (by omega)
      rw [show p + 2 + (nm.length : Int) + 0 = p + 2 + nm.length by omega] at x1
      rw [show p2 + 2 + (nm2.length : Int) + 0 = p2 + 2 + nm2.length by omega] at y1
      have x2 : b_fn vb 0 = 0 ∨ b_fn vb 0 = 1 := by rcases x0 with g | g <;> rw [g] <;> simp [b_fn]
      have y2 : b_fn vb2 0 = 0 ∨ b_fn vb2 0 = 1 := by rcases y0 with g | g <;> rw [g] <;> simp [b_fn]
      refine e_at hR (by omega) (by omega) fun _ _ _ => e_at hR (by omega) (by omega) fun _ _ _ => ?_
      rw [x1, y1, g_and255 (by omega) (by omega), g_and255 (by omega) (by omega)]
      refine ⟨⟨by omega, by omega⟩, h _ ⟨?_, by omega, by omega⟩⟩
      unfold v_sg v_tcmp
      rcases x2 with g | g <;> rcases y2 with g2 | g2 <;> rw [g, g2] <;> rfl
    · rw [if_neg e2, if_neg e3, if_neg e4, if_neg e5] at h
      exact hin _ true 1 rfl (by simp [e6]) (Or.inr e6) ec fun r hr _ _ _ => h r hr
    · rw [if_neg e2, if_neg e3, if_neg e4, if_neg e5] at h
      exact hin _ false 0 rfl (by simp [e6]) (Or.inl (by omega)) ec fun r hr _ _ _ => h r hr
  · by_cases q1 : b_cl k < b_cl k2
    · rw [v_cmp_lt q1]
      exact ⟨by unfold v_sg; rw [if_pos (by omega)], by omega, by omega⟩
    · rw [v_cmp_gt (by omega)]
      exact ⟨by unfold v_sg; rw [if_neg (by omega), if_neg (by omega)], by omega, by omega⟩
theorem e_compare (hR : e_R M m b) : ∀ (D : Nat) {F : Nat} {k k2 : Int} {nm nm2 vb vb2 : List Int} {p p2 : Int} {d : Nat} {Q : Int → g_M → Prop}, b_st (g_i M b) 2706210 p D k nm vb → b_st (g_i M b) 2706210 p2 D k2 nm2 vb2 → D ≤ F → (∀ r, v_ok r (v_cmp (F + 1) k vb k2 vb2) → Q r M) → g_Call (d + 2 * D + 5) 269 [.ref m, g_n p, g_n p2] M (g_qI Q) := by
  intro D
  induction D with
  | zero =>
    intro F k k2 nm nm2 vb vb2 p p2 d Q hs hs2 hF h
    refine e_cmp1 hR hs hs2 (fun Q1 rows w _ _ hk _ _ => ?_) h
    have hkk := b_cl_k hs.2.2.1
    exact absurd (hk.elim (fun g => Or.inl (hkk.2.2.2.1 g)) (fun g => Or.inr (hkk.2.2.2.2.1 g))) (b_gv0 hs.2.2.1)
  | succ D ih =>
    intro F k k2 nm nm2 vb vb2 p p2 d Q hs hs2 hF h
    refine e_cmp1 (d := d + 2 * D + 2) hR hs hs2 (fun Q1 rows w hw hrows hk he hq => ?_) h
    have hkk := b_cl_k hs.2.2.1
    have hkk2 := b_cl_k hs2.2.2.1
    have hk1 : k = 3 ∨ k = 4 := hk.elim (fun g => Or.inl (hkk.2.2.2.1 g)) (fun g => Or.inr (hkk.2.2.2.2.1 g))
    have hk2 : k2 = 3 ∨ k2 = 4 := hk.elim (fun g => Or.inl (hkk2.2.2.2.1 (by omega))) (fun g => Or.inr (hkk2.2.2.2.2.1 (by omega)))
    obtain ⟨v1, v2, v3, v4⟩ := hs.val
    obtain ⟨w1, w2, w3, w4⟩ := hs2.val
    obtain ⟨D1, es, eD, rfl, hle, hok, hes, -, hch⟩ := b_gv_doc hs.2.2.1 hk1
    obtain ⟨D2, es2, eD2, rfl, hle2, hok2, hes2, -, hch2⟩ := b_gv_doc hs2.2.2.1 hk2
    have eD : D1 = D := by omega
    have eD2 : D2 = D := by omega
    subst eD
    subst eD2
    rw [hch, hch2, ← hrows] at hq
    obtain ⟨G, rfl⟩ : ∃ G, F = G + 1 := ⟨F - 1, by omega⟩
    exact e_cmpAll (d := d + 2 * D2 + 1) (f := v_cmp (G + 1)) hw hR (fun e g => v_cmp_lt) (fun e g => v_cmp_gt) (fun e g q q2 Q2 h1 h2 h3 => ih h1 h2 (by omega) h3) (e_tl.start v1 hes (by omega) (by omega)) (e_tl.start w1 hes2 (by omega) (by omega)) hq
end V12b
