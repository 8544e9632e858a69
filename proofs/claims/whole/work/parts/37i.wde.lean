/-! WHAT A REQUEST DOES: the reference, any of them -/
section WDE
variable {m d : Nat} {ρ : Nat → Nat} {M M1 M2 : g_M} {S : W_S} {q : Nat → List (Nat × Int × List b_E)} {Q : Int → g_M → Prop} {w : Nat}
theorem W_w_n {s : b_E} (h : Q_sh s) : (v_num s.1 s.2.2).toInt32.toInt = (W_w s : Nat) := by
  unfold W_w
  rcases h.2.2 with e | e
  · rw [if_pos e, e]
    decide
  · rw [if_neg (by rw [e]; decide), e]
    decide
theorem W_does_e {h s : b_E} {r es : List b_E} (H : E_H m ρ S.1 q S.2.2 M) (hS : E_S m (ρ 0) (ρ 9) (g_i M (ρ 0)) M []) (h40 : g_i M m 40 = 0 ∨ g_i M m 40 = 1) (h24 : g_i M m 24 = 0 ∨ g_i M m 24 = 1) (hd : ∀ w, w < 2 → R_dn (q w) = S.2.1 w) (hok : W_ok S) (hgv : ∀ w, w < 2 → S.2.2 w ≤ 1000000) (hct : E_ct (g_i M (ρ 0)) 0 15 es) (hes : es = h :: s :: r) (hlen : (b_doc es).length ≤ 2000) (hrq : Q_rq 4 es = -1) (hg : Q_op h.2.1 = 9 → ((K_F 20).1 (L_ch 4 h) 0).1 = 0 → ∀ F, b_st F 922000 4 15 h.1 h.2.1 h.2.2 → ∀ x, x < 8 → ∀ V T m1 m2, S.1 x = some (V, T, m1, m2) → D_fg F (p_jn V.2.2.1) (L_ch 4 h) ∧ ∀ s2, V.2.2.2 = some s2 → D_fg F (p_jn s2) (L_ch 4 h)) (hq : W_E m ρ M (W_do 4 (4 + (b_el h.1 h.2.1 h.2.2).length + (b_el s.1 s.2.1 s.2.2).length) (W_w s) h (r.head?.getD (0, [], [])) S) Q) : g_Call (d + 233) 416 [.ref m] M (g_qI Q) := by
  subst hes
  obtain ⟨r1, r2, r3, r4⟩ := Q_rq_hs (by decide) hrq
  obtain ⟨q2, hq2⟩ : ∃ q2 : Int, q2 = 4 + (b_el h.1 h.2.1 h.2.2).length + (b_el s.1 s.2.1 s.2.2).length := ⟨_, rfl⟩
  rw [← hq2] at hq r4
  have hB := H.1
  have hR := hB.R
  have hsts := hct.sts
  obtain ⟨t1, tr1⟩ := hsts.cons
  obtain ⟨t2, tr2⟩ := tr1.cons
  have htl := hct.tl (B := g_i M (ρ 0)) fun _ _ => rfl
  have hdl := b_doc_len (h :: s :: r)
  have hsl : (b_ser (h :: s :: r)).length = (b_el h.1 h.2.1 h.2.2).length + ((b_el s.1 s.2.1 s.2.2).length + (b_ser r).length) := by
    have e1 : b_ser (h :: s :: r) = b_el h.1 h.2.1 h.2.2 ++ (b_el s.1 s.2.1 s.2.2 ++ b_ser r) := rfl
    rw [e1, List.length_append, List.length_append]
  have hel := b_el_len h.1 h.2.1 h.2.2
  have hw := W_w_2 s
  have he : b_st (g_i M (ρ 0)) 2000 4 15 h.1 h.2.1 h.2.2 := ⟨t1.1, t1.2.1, t1.2.2.1, by decide, by omega⟩
  have up : ∀ {n : Int}, 2000 ≤ n → b_st (g_i M (ρ 0)) n 4 15 h.1 h.2.1 h.2.2 := fun hn => ⟨he.1, he.2.1, he.2.2.1, by decide, by have := he.2.2.2.2; omega⟩
  have hop := Q_op_le h.2.1
  refine m_X12_does (a0 := m) (d := d + 232) fun _ => ⟨hB.1, e_itemE (d := d + 227) (k := 0) hR htl (by decide) ⟨by decide, by decide⟩ ?_⟩
  intro _ _ _
  refine e_itemE (d := d + 227) (k := 1) hR htl (by decide) ⟨by decide, by decide⟩ ?_
  intro _ _ _
  have p0 : L_opt ((L_at (0 + 4) (h :: s :: r))[(0 : Int).toNat]?) = 4 := rfl
  have p1 : L_opt ((L_at (0 + 4) (h :: s :: r))[(1 : Int).toNat]?) = 4 + (b_el h.1 h.2.1 h.2.2).length := rfl
  rw [p0, p1]
  have t2' : b_st (g_i M (ρ 0)) 2706210 (4 + (b_el h.1 h.2.1 h.2.2).length) 15 s.1 s.2.1 s.2.2 := ⟨t2.1, t2.2.1, t2.2.2.1, by omega, by omega⟩
  refine e_num (d := d + 228) hR t2' r3.1 ?_
  intro _ _
  rw [W_w_n r3]
  have isN : ∀ {j : Nat} {Q1 : Int → g_M → Prop}, j < q_nS → Q1 (if h.2.1 = b_tx j then 1 else 0) M → g_Call (d + 232) 236 [.ref m, g_n 4, .ref (4 * j + 1)] M (g_qI Q1) := fun hj hQ => e_isName (d := d + 228) hj hR he.1 he.2.1 (by decide) (by omega) hQ
  have h01 : ∀ {R : W_R}, W_E m ρ M R Q → W_E m ρ M R fun r M1 => g_ext M M1 → g_ok M1 → g_InR r → (r = 0 ∨ r = 1) ∧ Q r M1 := fun hq => hq.mono (fun M1 h9 _ _ _ => ⟨Or.inl rfl, h9⟩) fun M1 h9 _ _ _ => ⟨Or.inr rfl, h9⟩
  obtain ⟨j0, j1, j2, j3, j4, j5, j6, j7, j8, j9⟩ := W_op_j
  have val : ∀ {Q1 : Int → g_M → Prop}, Q1 (4 + 2 + h.2.1.length) M → g_Call (d + 232) 233 [.ref m, g_n 4] M (g_qI Q1) := fun hQ => e_vl2 (d := d + 230) hR (up (by decide)) hQ
  refine isN (by decide) ?_
  intro _ _ _
  by_cases g79 : h.2.1 = b_tx 79
  · rw [if_pos g79]
    refine ⟨fun z => absurd z (by decide), fun _ => W_drp_e (d := d + 159) H hS h40 hw hd hok t1 (Q_hd_7 (by decide) r2 (Or.inl (by rw [g79]; exact j6))) ?_⟩
    rw [if_pos g79]
    have e9 : W_do 4 q2 (W_w s) h (r.head?.getD (0, [], [])) S = W_drp (W_w s) h S := by
      unfold W_do
      rw [g79, j6]
      rfl
    rw [e9] at hq
    exact h01 hq
  rw [if_neg g79]
  refine ⟨fun _ => isN (by decide) ?_, fun z => absurd rfl z⟩
  intro _ _ _
  by_cases g80 : h.2.1 = b_tx 80
  · rw [if_pos g80]
    refine ⟨fun z => absurd z (by decide), fun _ => W_drp_e (d := d + 159) H hS h40 hw hd hok t1 (Q_hd_7 (by decide) r2 (Or.inr (by rw [g80]; exact j9))) ?_⟩
    rw [if_neg g79]
    have e9 : W_do 4 q2 (W_w s) h (r.head?.getD (0, [], [])) S = W_shp (W_w s) h S := by
      unfold W_do
      rw [g80, j9]
      rfl
    rw [e9] at hq
    exact h01 hq
  rw [if_neg g80]
  refine ⟨fun _ => isN (by decide) ?_, fun z => absurd rfl z⟩
  intro _ _ _
  by_cases g82 : h.2.1 = b_tx 82
  · rw [if_pos g82]
    refine ⟨fun z => absurd z (by decide), fun _ => ?_⟩
    have o6 : Q_op h.2.1 = 6 := by rw [g82]; exact j5
    obtain ⟨t, et, k4t, e3, e4⟩ := Q_r3_6 (by omega) r4 o6
    subst et
    obtain ⟨k4, ea, ra, c1, c2, c3⟩ := Q_hd_6 (by decide) r2 o6
    rw [c1] at e3
    obtain ⟨D1, eD, hk1, hl1⟩ := t1.kids (Or.inr k4)
    rw [c1] at hk1 hl1
    have hix : ∀ e ∈ ea :: ra, I_ptx e := fun e hee => by
      refine Q_tx_ok (c3 e hee) ?_
      have h1 := c3 e hee
      unfold Q_tx at h1
      rw [Bool.and_eq_true] at h1
      have h2 : e.1 = 2 := by simpa using h1.1
      have h3 := s_tx_le (hk1.2.1 e hee).2 h2
      have h4 : ∀ (l : List b_E), e ∈ l → e.2.2.length ≤ (b_ser l).length := by
        intro l
        induction l with
        | nil => exact fun h => absurd h (by simp)
        | cons y l ih =>
          intro hy
          have h5 : b_ser (y :: l) = b_el y.1 y.2.1 y.2.2 ++ b_ser l := rfl
          have h6 := b_el_len y.1 y.2.1 y.2.2
          rw [h5, List.length_append]
          rcases List.mem_cons.mp hy with h7 | h7
          · rw [h7]
            omega
          · have := ih h7
            omega
      have := h4 _ hee
      omega
    obtain ⟨ed, rd, c4⟩ : ∃ ed rd, b_ch t.2.2 = ed :: rd := by
      cases hb : b_ch t.2.2 with
      | nil =>
        rw [hb, List.length_nil, List.length_cons] at e3
        omega
      | cons ed rd => exact ⟨ed, rd, rfl⟩
    rw [c4] at e3 e4
    rw [List.length_cons, List.length_cons] at e3
    have t3 := tr2.cons.1
    have e9 : W_do 4 q2 (W_w s) h (([t] : List b_E).head?.getD (0, [], [])) S = W_idx (W_w s) h t S := by
      unfold W_do
      rw [g82, j5]
      rfl
    rw [e9] at hq
    rw [show (0 : Int) + 4 + ((b_el h.1 h.2.1 h.2.2).length : Int) + ((b_el s.1 s.2.1 s.2.2).length : Int) = q2 by omega] at t3
    exact W_idx_e (d := d + 159) (D1 := 14) (D2 := 14) (es0 := h :: s :: [t]) H hS h40 hw hd hok hct (by rw [hq2]; rfl) k4 k4t t1 t3 c1 c4 (by omega) c2 hix e4 (h01 hq)
  rw [if_neg g82]
  refine ⟨fun _ => isN (by decide) ?_, fun z => absurd rfl z⟩
  intro _ _ _
  by_cases g81 : h.2.1 = b_tx 81
  · rw [if_pos g81]
    refine ⟨fun z => absurd z (by decide), fun _ => val ?_⟩
    intro _ _ _
    obtain ⟨k4, k3⟩ := Q_hd_8 (by decide) r2 (by rw [g81]; exact j7)
    have e9 : W_do 4 q2 (W_w s) h (r.head?.getD (0, [], [])) S = W_ppl 4 (W_w s) h S := by
      unfold W_do
      rw [g81, j7]
      rfl
    rw [e9] at hq
    exact W_ppl_e (d := d + 1) (De := 14) (by decide) H hS h40 h24 hw hd (up (by decide)) k4 k3 (h01 hq)
  rw [if_neg g81]
  refine ⟨fun _ => isN (by decide) ?_, fun z => absurd rfl z⟩
  intro _ _ _
  by_cases g73 : h.2.1 = b_tx 73
  · rw [if_pos g73]
    refine ⟨fun z => absurd z (by decide), fun _ => val ?_⟩
    intro _ _ _
    have k3 := Q_hd_3 (by decide) r2 (by rw [g73, j0]; decide)
    obtain ⟨D1, eD, hc, hl1⟩ := E_ct.of t1 (Or.inl k3)
    obtain ⟨d1, es1, f1, f2, f3, f4, f5, f6, f7⟩ := b_gv_doc t1.2.2.1 (Or.inl k3)
    have hX : X_gd 15 es1 := fun e hee => ⟨(f5 e hee).1, b_gv_le (f5 e hee).2 (by omega)⟩
    have e9 : W_do 4 q2 (W_w s) h (r.head?.getD (0, [], [])) S = W_ins (W_w s) h S := by
      unfold W_do
      rw [g73, j0]
      rfl
    rw [e9] at hq
    rw [f7] at hc
    have hvl := congrArg List.length f2
    exact W_ins_e (d := d + 159) H hS hw hd hok (hgv _ hw) f7 f2 hX ⟨hc.1, hc.2.1, hc.2.2.1, hX⟩ (by omega) (by omega) (h01 hq)
  rw [if_neg g73]
  refine ⟨fun _ => val ?_, fun z => absurd rfl z⟩
  intro _ _ _
  have hop5 : Q_op h.2.1 = 2 ∨ Q_op h.2.1 = 3 ∨ Q_op h.2.1 = 4 ∨ Q_op h.2.1 = 5 ∨ Q_op h.2.1 = 9 := by
    rcases W_op_n r1 with e | e | e | e | e | e | e | e | e | e
    · exact absurd e g73
    · exact Or.inl (by rw [e]; exact j1)
    · exact Or.inr (Or.inl (by rw [e]; exact j2))
    · exact Or.inr (Or.inr (Or.inl (by rw [e]; exact j3)))
    · exact Or.inr (Or.inr (Or.inr (Or.inl (by rw [e]; exact j4))))
    · exact absurd e g82
    · exact absurd e g79
    · exact absurd e g81
    · exact Or.inr (Or.inr (Or.inr (Or.inr (by rw [e]; exact j8))))
    · exact absurd e g80
  have k3 := Q_hd_3 (by decide) r2 (by omega)
  obtain ⟨D1, eD, hc, hl1⟩ := E_ct.of t1 (Or.inl k3)
  have eD1 : D1 = 14 := by omega
  subst eD1
  have hL : L_at (4 + 2 + (h.2.1.length : Int) + 4) (b_ch h.2.2) = L_ch 4 h := by
    unfold L_ch
    rw [show (4 : Int) + 2 + (h.2.1.length : Int) + 4 = 4 + 6 + (h.2.1.length : Int) by omega]
  have hgv3 : b_gv 15 3 h.2.2 := by
    have h9 := t1.2.2.1
    rw [k3] at h9
    exact h9
  have hKf : ((K_F 20).1 (L_ch 4 h) 0).1 ≠ 0 → W_do 4 q2 (W_w s) h (r.head?.getD (0, [], [])) S = W_f S (10 + ((K_F 20).1 (L_ch 4 h) 0).1) ((K_F 20).1 (L_ch 4 h) 0).2.1 := fun hK => by
    have hK2 : ∀ R : W_R, W_K 4 h S R = W_f S (10 + ((K_F 20).1 (L_ch 4 h) 0).1) ((K_F 20).1 (L_ch 4 h) 0).2.1 := fun R => if_neg hK
    unfold W_do
    rcases hop5 with e | e | e | e | e
    · rw [e]
      exact hK2 _
    · rw [e]
      exact hK2 _
    · rw [e]
      exact hK2 _
    · rw [e]
      exact hK2 _
    · rw [e]
      exact hK2 _
  have stp : ∀ {M1 : g_M}, e_fr (E_CS m) M M1 → E_H m ρ S.1 q S.2.2 M1 ∧ E_S m (ρ 0) (ρ 9) (g_i M1 (ρ 0)) M1 [] ∧ (g_i M1 m 40 = 0 ∨ g_i M1 m 40 = 1) ∧ E_k m M M1 ∧ g_i M1 (ρ 0) = g_i M (ρ 0) := fun f => by
    refine ⟨H.pp f fun y k z => Or.inl ⟨z.1, by have := z.2; omega⟩, hS.fx f (fun z => by have := z.2; omega) (fun k z => hS.ne.2.1 z.1), ?_, f.k (fun z => by have := z.2; omega) (fun z => by have := z.2; omega), funext fun k => f.2.1 _ _ fun z => hB.nm (by decide) z.1⟩
    rw [f.2.1 m 40 fun z => by have := z.2; omega]
    exact h40
  refine e_filterIsRight (dd := d + 31) (D := 14) (fe := h) hR ⟨k3, hgv3, hc.tl fun _ _ => rfl⟩ (by decide) (by omega) ⟨by omega, by omega⟩ (fun hK M1 f1 => ?_) fun hK M1 f1 e7 e8 => ?_
  · intro _ _ _
    rw [hL] at hK
    obtain ⟨H1, S1, a40, k1, b1⟩ := stp f1
    have hq1 := hq.fr k1.k2
    have isN1 : ∀ {j : Nat} {Q1 : Int → g_M → Prop}, j < q_nS → Q1 (if h.2.1 = b_tx j then 1 else 0) M1 → g_Call (d + 232) 236 [.ref m, g_n 4, .ref (4 * j + 1)] M1 (g_qI Q1) := fun hj hQ => e_isName (d := d + 228) hj H1.1.R (by rw [b1]; exact he.1) he.2.1 (by decide) (by omega) hQ
    have hV : (F_V 20).1 (b_ch h.2.2) := (K_good 20 (b_ch h.2.2) (4 + 6 + h.2.1.length) 0).1 hK
    have up1 : ∀ {n : Int}, 2000 ≤ n → b_st (g_i M1 (ρ 0)) n 4 15 h.1 h.2.1 h.2.2 := fun hn => by
      rw [b1]
      exact up hn
    refine ⟨fun z => absurd z (by decide), fun _ => isN1 (by decide) ?_⟩
    intro _ _ _
    by_cases g78 : h.2.1 = b_tx 78
    · rw [if_pos g78]
      have o9 : Q_op h.2.1 = 9 := by rw [g78]; exact j8
      have e9 : W_do 4 q2 (W_w s) h (r.head?.getD (0, [], [])) S = W_exp 4 (W_w s) h S := by
        unfold W_do
        rw [o9]
        rfl
      rw [e9] at hq1
      have hc15 : E_ct (g_i M1 (ρ 0)) (4 + 2 + h.2.1.length) 15 (b_ch h.2.2) := by
        rw [b1]
        exact ⟨hc.1, hc.2.1, hc.2.2.1, hc.2.2.2.le (by decide)⟩
      exact ⟨fun z => absurd z (by decide), fun _ => W_exp_e (d := d + 160) H1 S1 a40 hw hd hc15 hL.symm hK (fun x x1 x2 V T m1 m2 e => hg o9 hK _ (up1 (by decide)) x (by omega) V T m1 m2 e) (hq1.mono (fun M2 h9 _ _ _ => ⟨Or.inl rfl, h9⟩) fun M2 h9 _ _ _ => ⟨Or.inr rfl, h9⟩)⟩
    rw [if_neg g78]
    refine ⟨fun _ => isN1 (by decide) ?_, fun z => absurd rfl z⟩
    intro _ _ _
    by_cases g76 : h.2.1 = b_tx 76
    · rw [if_pos g76]
      have o4 : Q_op h.2.1 = 4 := by rw [g76]; exact j3
      obtain ⟨t, et, k3t⟩ := Q_r3_4 (by omega) r4 o4
      subst et
      have t3 := tr2.cons.1
      rw [show (0 : Int) + 4 + ((b_el h.1 h.2.1 h.2.2).length : Int) + ((b_el s.1 s.2.1 s.2.2).length : Int) = q2 by omega] at t3
      have e9 : W_do 4 q2 (W_w s) h (([t] : List b_E).head?.getD (0, [], [])) S = W_upd 4 q2 (W_w s) h t S := by
        unfold W_do
        rw [o4]
        rfl
      rw [e9] at hq1
      have hst : (b_ser [t]).length = (b_el t.1 t.2.1 t.2.2).length + 0 := by
        have e1 : b_ser [t] = b_el t.1 t.2.1 t.2.2 ++ [] := rfl
        rw [e1, List.length_append]
        rfl
      have t3' : b_st (g_i M1 (ρ 0)) 2000 q2 22 t.1 t.2.1 t.2.2 := by
        rw [b1]
        exact ⟨t3.1, t3.2.1, b_gv_le t3.2.2.1 (by decide), by omega, by omega⟩
      exact ⟨fun z => absurd z (by decide), fun _ => W_upd_e (d := d) (pe := 4) (es0 := h :: s :: [t]) H1 S1 a40 hw hd hok (by rw [b1]; exact hct) (by rw [hq2]; rfl) t3' k3t (up1 (by decide)) k3 (by decide) hV hK (hq1.mono (fun M2 h9 _ _ _ => ⟨Or.inl rfl, h9⟩) fun M2 h9 _ _ _ => ⟨Or.inr rfl, h9⟩)⟩
    rw [if_neg g76]
    refine ⟨fun _ => W_fcd_e (d := d) H1 S1 a40 hw hd hok (up1 (by decide)) k3 (by decide) hV hK ?_, fun z => absurd rfl z⟩
    have e9 : W_do 4 q2 (W_w s) h (r.head?.getD (0, [], [])) S = if h.2.1 = b_tx 74 then W_find 4 (W_w s) h S else if h.2.1 = b_tx 77 then W_del 4 (W_w s) h S else W_cnt 4 (W_w s) h S := by
      rcases W_op_n r1 with e | e | e | e | e | e | e | e | e | e
      · exact absurd e g73
      · rw [if_pos e]
        unfold W_do
        rw [e, j1]
        rfl
      · rw [if_neg (by rw [e]; decide), if_neg (by rw [e]; decide)]
        unfold W_do
        rw [e, j2]
        rfl
      · exact absurd e g76
      · rw [if_neg (by rw [e]; decide), if_pos e]
        unfold W_do
        rw [e, j4]
        rfl
      · exact absurd e g82
      · exact absurd e g79
      · exact absurd e g81
      · exact absurd e g78
      · exact absurd e g80
    rw [e9] at hq1
    exact hq1
  · intro _ _ _
    rw [hL] at hK e7 e8
    rw [hKf hK] at hq
    obtain ⟨H1, S1, a40, k1, b1⟩ := stp f1
    have hk1 := ((K_F_ok 20).1 (L_ch 4 h) 0).1
    exact ⟨fun _ => hq.told (by omega) k1.k2 H1 S1 a40 hd e7 e8, fun z => absurd rfl z⟩
end WDE
