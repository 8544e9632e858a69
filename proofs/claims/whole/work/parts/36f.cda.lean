/-! WHAT A REQUEST DOES: the class, any of them -/
theorem W_P.mono {ι : Nat → Nat} {κ : Nat → Nat → Nat} {cB eB : Int} {n : Nat} {M0 : g_M} {u : List Int} {R : W_R} {Q Q2 : g_M → Prop} (h : W_P ι κ cB eB n M0 u R Q) (hQ : ∀ M, Q M → Q2 M) : W_P ι κ cB eB n M0 u R Q2 := fun a1 a2 a3 a4 M1 b1 b2 b3 b4 b5 => hQ _ (h a1 a2 a3 a4 M1 b1 b2 b3 b4 b5)
theorem Q_op_nm {nm : List Int} (h : Q_op nm ≠ 0) : nm.length ≤ 50 := by
  unfold Q_op at h
  repeat' (split at h)
  all_goals first
    | exact absurd rfl h
    | (rename_i g; rw [g]; decide)
/-- a text is shorter than its element -/
theorem s_tx_le {D : Nat} {e : b_E} (h : b_gv D e.1 e.2.2) (hk : e.1 = 2) : (s_tx e.2.2).length ≤ e.2.2.length := by
  rw [hk] at h
  obtain ⟨s, e1, -⟩ := b_gv_txt h
  rw [e1, s_tx_eq, List.length_append, List.length_append]
  omega
section CDA
variable {d : Nat} {ι : Nat → Nat} {κ : Nat → Nat → Nat} {al sz : Nat → Nat × Nat} {cB eB : Int} {S : W_S} {M M0 M1 : g_M} {x w n : Nat} {u : List Int} {Q : Int → g_M → Prop}
theorem c_doH {h s : b_E} {r : List b_E} {v1 : Int} (hv1 : g_InR v1) (H : C_H ι κ al sz cB eB S.1 S.2.1 S.2.2 M) (hok : W_ok S) (hgv : S.2.2 w ≤ 1000000) (hw : w < 2) (h16 : g_r M (ι 0) 16 = some (ι (67 + w))) (h13 : g_i M (ι 0) 13 = Q_op h.2.1) (h14 : g_i M (ι 0) 14 = 8) (h15 : g_i M (ι 0) 15 = 8 + (b_el h.1 h.2.1 h.2.2).length + (b_el s.1 s.2.1 s.2.2).length) (hes : b_sts (g_i M (ι 2)) 2008 8 15 (h :: s :: r)) (hrq : Q_rq 8 (h :: s :: r) = -1) (hn : (b_el h.1 h.2.1 h.2.2).length ≤ n) (hbq : Q_op h.2.1 = 9 → ((K_F 20).1 (L_ch 8 h) 0).1 = 0 → ∀ x, 4 * w ≤ x → x < 4 * w + 4 → ∀ V T m1 m2, S.1 x = some (V, T, m1, m2) → C_bq (g_i M (ι 2)) (p_jn V.2.2.1) (L_ch 8 h) ∧ ∀ s2, V.2.2.2 = some s2 → C_bq (g_i M (ι 2)) (p_jn s2) (L_ch 8 h)) (hW : c_Wr (ι 3) (ι 4) 8000 0 8000 u M) (h17 : g_i M (ι 0) 17 = 0) (hq : W_P ι κ cB eB n M u (W_do 8 (8 + (b_el h.1 h.2.1 h.2.2).length + (b_el s.1 s.2.1 s.2.2).length) w h (r.head?.getD (0, [], [])) S) fun M1 => g_Run (d + 232) 195 219 [(0, .ref (ι 0)), (1, g_n v1)] [] M1 (g_qI Q)) : g_Run (d + 232) 195 91 [(0, .ref (ι 0)), (1, g_n v1)] [] M (g_qI Q) := by
  obtain ⟨r1, r2, r3, r4⟩ := Q_rq_hs (by decide) hrq
  obtain ⟨q2, hq2⟩ : ∃ q2 : Int, q2 = 8 + (b_el h.1 h.2.1 h.2.2).length + (b_el s.1 s.2.1 s.2.2).length := ⟨_, rfl⟩
  rw [← hq2] at h15 hq r4
  have hq20 : 0 ≤ q2 := by omega
  obtain ⟨t1, tr1⟩ := hes.cons
  obtain ⟨t2, tr2⟩ := tr1.cons
  rw [← hq2] at tr2
  have hop := Q_op_le h.2.1
  have hel := b_el_len h.1 h.2.1 h.2.2
  have t5 := t1.2.2.2.2
  unfold W_do at hq
  refine s_X11_ask_91 (a0 := ι 0) hv1 fun _ => ⟨H.1.O (by decide), fun _ => ?_, fun z => absurd h17 z⟩
  rw [h13]
  refine ⟨fun g => ?_, fun g1 => ⟨fun g => ?_, fun g2 => ⟨fun g => ?_, fun g3 => ⟨fun g => ?_, fun g4 => ⟨fun g => ?_, fun g5 => ⟨fun g => ?_, fun g6 => ⟨fun g => ?_, fun g7 => ⟨fun g => ?_, fun g8 => ⟨fun g => ?_, fun g9 => ?_⟩⟩⟩⟩⟩⟩⟩⟩⟩
  · rw [if_pos g] at hq
    exact W_ins_c (d := d + 169) H hok hgv hw h16 h14 t1 (Q_hd_3 (by decide) r2 (by omega)) (Q_op_nm r1) hW h17 (hq.mono fun M1 h9 _ _ => h9)
  · rw [if_neg g1, if_pos g] at hq
    exact W_find_c (d := d) H hw h16 h14 t1 (Q_hd_3 (by decide) r2 (by omega)) hW h17 (hq.mono fun M1 h9 _ _ => h9)
  · rw [if_neg g1, if_neg g2, if_pos g] at hq
    exact W_cnt_c (d := d) H hw h16 h14 t1 (Q_hd_3 (by decide) r2 (by omega)) hW h17 (hq.mono fun M1 h9 _ _ => h9)
  · rw [if_neg g1, if_neg g2, if_neg g3, if_pos g] at hq
    obtain ⟨t, e1, e2⟩ := Q_r3_4 hq20 r4 g
    subst e1
    have hq : W_P ι κ cB eB n M u (W_upd 8 q2 w h t S) _ := hq
    exact W_upd_c (d := d) H hok hw h16 h14 h15 t1 (Q_hd_3 (by decide) r2 (by omega)) tr2.cons.1 e2 hW h17 (hq.mono fun M1 h9 _ _ => h9)
  · rw [if_neg g1, if_neg g2, if_neg g3, if_neg g4, if_pos g] at hq
    exact W_del_c (d := d) H hok hw h16 h14 t1 (Q_hd_3 (by decide) r2 (by omega)) hW h17 (hq.mono fun M1 h9 _ _ => h9)
  · rw [if_neg g1, if_neg g2, if_neg g3, if_neg g4, if_neg g5, if_pos g] at hq
    obtain ⟨t, e1, e2, e3, e4⟩ := Q_r3_6 hq20 r4 g
    subst e1
    obtain ⟨k4, ea, ra, c1, c2, c3⟩ := Q_hd_6 (by decide) r2 g
    rw [c1] at e3
    obtain ⟨D1, eD, hk1, hl1⟩ := t1.kids (Or.inr k4)
    rw [c1] at hk1 hl1
    have hpt : ∀ e ∈ ea :: ra, e.1 = 2 ∧ (s_tx e.2.2).length ≤ e.2.2.length := fun e hee => by
      have h1 := c3 e hee
      unfold Q_tx at h1
      rw [Bool.and_eq_true] at h1
      have h2 : e.1 = 2 := by simpa using h1.1
      exact ⟨h2, s_tx_le (hk1.2.1 e hee).2 h2⟩
    have hla := b_el_len ea.1 ea.2.1 ea.2.2
    have hsa : (b_ser (ea :: ra)).length = (b_el ea.1 ea.2.1 ea.2.2).length + (b_ser ra).length := by
      have h1 : b_ser (ea :: ra) = b_el ea.1 ea.2.1 ea.2.2 ++ b_ser ra := rfl
      rw [h1, List.length_append]
    have hra : (I_c2 ra : Nat) ≤ (b_ser ra).length := by
      cases ra with
      | nil => exact Nat.zero_le _
      | cons ec rc =>
        have h1 : b_ser (ec :: rc) = b_el ec.1 ec.2.1 ec.2.2 ++ b_ser rc := rfl
        have h2 := b_el_len ec.1 ec.2.1 ec.2.2
        have h3 := (hpt ec (List.mem_cons_of_mem _ List.mem_cons_self)).2
        rw [h1, List.length_append]
        show (s_tx ec.2.2).length ≤ _
        omega
    have hpa := (hpt ea List.mem_cons_self).2
    have hix : ∀ e ∈ ea :: ra, I_ptx e := fun e hee => by
      refine Q_tx_ok (c3 e hee) ?_
      have h1 := (hpt e hee).2
      have h2 : e.2.2.length ≤ (b_ser (ea :: ra)).length := by
        have h4 : ∀ (l : List b_E), e ∈ l → e.2.2.length ≤ (b_ser l).length := by
          intro l
          induction l with
          | nil => exact fun h => absurd h (by simp)
          | cons y l ih =>
            intro hy
            have h5 : b_ser (y :: l) = b_el y.1 y.2.1 y.2.2 ++ b_ser l := rfl
            have h6 := b_el_len y.1 y.2.1 y.2.2
            rw [h5, List.length_append]
            rcases List.mem_cons.mp hy with h7 | h7
            · rw [h7]
              omega
            · have := ih h7
              omega
        exact h4 _ hee
      omega
    obtain ⟨ed, rd, c4⟩ : ∃ ed rd, b_ch t.2.2 = ed :: rd := by
      cases hb : b_ch t.2.2 with
      | nil =>
        rw [hb, List.length_nil, List.length_cons] at e3
        omega
      | cons ed rd => exact ⟨ed, rd, rfl⟩
    rw [c4, List.length_cons, List.length_cons] at e3
    have hq : W_P ι κ cB eB n M u (W_idx w h t S) _ := hq
    exact W_idx_c (d := d + 168) H hok hw h16 h14 h15 t1 k4 tr2.cons.1 e2 c1 c4 (by omega) c2 hix (by omega) hW h17 (hq.mono fun M1 h9 _ _ => h9)
  · rw [if_neg g1, if_neg g2, if_neg g3, if_neg g4, if_neg g5, if_neg g6, if_pos g] at hq
    exact W_drp_c (d := d + 225) H hw h16 h14 t1 (Q_hd_7 (by decide) r2 (Or.inl g)) hW h17 (hq.mono fun M1 h9 _ _ => h9)
  · rw [if_neg g1, if_neg g2, if_neg g3, if_neg g4, if_neg g5, if_neg g6, if_neg g7, if_pos g] at hq
    obtain ⟨k4, k3⟩ := Q_hd_8 (by decide) r2 g
    exact W_ppl_c (d := d + 1) H hw h16 h14 t1 k4 k3 hW h17 (hq.mono fun M1 h9 _ _ => h9)
  · rw [if_neg g1, if_neg g2, if_neg g3, if_neg g4, if_neg g5, if_neg g6, if_neg g7, if_neg g8, if_pos g] at hq
    exact W_exp_c (d := d) H hw h16 h14 t1 (Q_hd_3 (by decide) r2 (by omega)) (hbq g) hW h17 (hq.mono fun M1 h9 _ _ => h9)
  · rw [if_neg g1, if_neg g2, if_neg g3, if_neg g4, if_neg g5, if_neg g6, if_neg g7, if_neg g8, if_neg g9] at hq
    exact W_shp_c (d := d + 225) H hok hw h16 h14 t1 (Q_hd_7 (by decide) r2 (Or.inr (by omega))) hW h17 (hq.mono fun M1 h9 _ _ => h9)
end CDA
