/-! TREES OF THE CLASS: a tree is emptied; its levels -/
/-- a tree object, whatever it holds -/
def C_t0 (t j i : Nat) (M : g_M) : Prop := ∃ S, B_t t S M ∧ (S.1 0 = 132 * B_cs j ∧ S.1 1 = B_cs j ∧ S.1 2 = B_cs j ∧ j ≤ 12) ∧ (S.1 4 = 9 * B_cn i ∧ S.1 5 = 9 * B_cn i ∧ S.1 6 = B_cn i ∧ S.1 7 = B_cn i ∧ S.1 8 = B_cn i ∧ i ≤ 11) ∧ S.1 10 = 16 ∧ S.1 11 = 16
theorem C_tr.t0 {t j i : Nat} {w1 w2 : Int} {T : N_T I_E} {M : g_M} (h : C_tr t w1 w2 T j i M) : C_t0 t j i M := by
  obtain ⟨S, FS, FN, sg, hh, rt, l, ⟨hB, ha, -⟩, -⟩ := h
  exact ⟨S, hB, ha.1.1, ha.2.1.1, ha.2.2.2.1, ha.2.2.2.2⟩
theorem B_dn_0 (n : Nat) : (B_dn 0 n ++ []).Perm (List.range n) := by
  rw [List.append_nil, List.range_eq_range']
  exact List.reverse_perm _
section CCLR
variable {d t j i : Nat} {w1 w2 : Int} {M : g_M}
theorem c_clear {Q : g_M → Prop} (h : C_t0 t j i M) (hw1 : I_w w1) (hw2 : I_w w2) (hq : ∀ (j1 i1 : Nat) (M1 : g_M), C_tr t w1 w2 N_nil j1 i1 M1 → B_Fc t j i j1 i1 M M1 → Q M1) : g_Call (d + 3) 173 [.ref t, g_n w1, g_n w2] M (g_qV Q) := by
  obtain ⟨S, hB, hl, hn, l10, l11⟩ := h
  obtain ⟨l0, l1, l2, hj⟩ := id hl
  obtain ⟨l4, l5, l6, l7, l8, hi⟩ := id hn
  have hcs := B_cs_le ⟨j, by omega⟩
  have hcn := B_cn_le ⟨i, by omega⟩
  simp only at hcs hcn
  have hw1R : g_InR w1 := by rcases hw1 with z | z <;> rw [z] <;> exact ⟨by decide, by decide⟩
  have hw2R : g_InR w2 := by rcases hw2 with z | z <;> rw [z] <;> exact ⟨by decide, by decide⟩
  refine m_X10_clear hw1R hw2R fun _ => ⟨hB.1, fun M2 e2 _ M6 e6 _ M10 e10 _ M14 e14 _ M18 e18 _ M22 e22 _ => ?_⟩
  obtain ⟨t1, f1⟩ := hB.fld 12 w1
  rw [← e2] at t1 f1
  obtain ⟨t2, f2⟩ := t1.fld 13 w2
  rw [← e6] at t2 f2
  obtain ⟨t3, f3⟩ := t2.fld 15 0
  rw [← e10] at t3 f3
  obtain ⟨t4, f4⟩ := t3.fld 16 0
  rw [← e14] at t4 f4
  obtain ⟨t5, f5⟩ := t4.fld 17 0
  rw [← e18] at t5 f5
  obtain ⟨t6, f6⟩ := t5.fld 3 0
  rw [← e22] at t6 f6
  have F6 := ((((f1.tr0 f2).tr0 f3).tr0 f4).tr0 f5).tr0 f6
  obtain ⟨S6, hS6⟩ : ∃ S6, S6 = B_fld (B_fld (B_fld (B_fld (B_fld (B_fld S 12 w1) 13 w2) 15 0) 16 0) 17 0) 3 0 := ⟨_, rfl⟩
  rw [← hS6] at t6
  have e6l : S6.1 = S.1 := by rw [hS6]; rfl
  have k3 : S6.2.2 3 = 0 := by rw [hS6, B_fld_v, if_pos rfl]
  have k12 : S6.2.2 12 = w1 := by
    rw [hS6, B_fld_v, if_neg (by decide), B_fld_v, if_neg (by decide), B_fld_v, if_neg (by decide), B_fld_v, if_neg (by decide), B_fld_v, if_neg (by decide), B_fld_v, if_pos rfl]
  have k13 : S6.2.2 13 = w2 := by
    rw [hS6, B_fld_v, if_neg (by decide), B_fld_v, if_neg (by decide), B_fld_v, if_neg (by decide), B_fld_v, if_neg (by decide), B_fld_v, if_pos rfl]
  have k15 : S6.2.2 15 = 0 := by
    rw [hS6, B_fld_v, if_neg (by decide), B_fld_v, if_neg (by decide), B_fld_v, if_neg (by decide), B_fld_v, if_pos rfl]
  have k16 : S6.2.2 16 = 0 := by
    rw [hS6, B_fld_v, if_neg (by decide), B_fld_v, if_neg (by decide), B_fld_v, if_pos rfl]
  have k17 : S6.2.2 17 = 0 := by
    rw [hS6, B_fld_v, if_neg (by decide), B_fld_v, if_pos rfl]
  obtain ⟨nu, n1, n2, -⟩ := t6.at (k := 1) (by decide)
  have n2 : g_A M22 nu 1 (S6.1 1) := n2
  have hl1 : S6.1 1 = B_cs j := by rw [e6l]; exact l1
  rw [hl1] at n2
  refine ⟨nu, n1, B_cs j, n2, ⟨by omega, by omega⟩, ⟨by omega, by omega⟩, ?_⟩
  -- all nodes are free
  have hnl : ∀ (S7 : B_S) (M7 : g_M), B_t t S7 M7 → B_F t 0 0 M22 M7 → S7.1 = S.1 → B_sl S7 j (B_dn 0 (B_cs j).toNat) [] → S7.2.2 12 = w1 → S7.2.2 13 = w2 → S7.2.2 15 = 0 → S7.2.2 16 = 0 → S7.2.2 17 = 0 → ∀ (r cnt : Nat) (S8 : B_S) (M8 : g_M), (r : Int) + cnt = B_cn i → B_t t S8 M8 → B_F t 0 0 M7 M8 → B_ag (fun k _ => k = 8) (fun k => k = 9) S7 S8 → S8.1 = S7.1 → S8.2.2 9 = cnt → b_at (S8.2.1 8) 0 (B_il (B_dn r cnt)) → g_Run (d + 2) 173 81 [(0, .ref t), (1, g_n w1), (2, g_n w2), (3, g_n ((r : Int) - 1))] [] M8 (g_qV Q) := by
    intro S7 M7 t7 f7 e7 hs7 h12 h13 h15 h16 h17 r
    induction r with
    | zero =>
      intro cnt S8 M8 hr t8 f8 g8 e8 c8 at8
      refine s_X10_clear_81 hw1R hw2R ⟨by omega, by omega⟩ fun _ => ⟨fun _ => ⟨t8.1, ?_⟩, fun z => absurd (by omega) z⟩
      have hcnt : (B_cn i).toNat = cnt := by omega
      have hnd8 : B_nd S8 i (B_dn 0 cnt) [] := ⟨by rw [e8, e7]; exact hn, by rw [c8, B_dn_len], at8, by rw [hcnt]; exact B_dn_0 cnt⟩
      have hsl8 := hs7.ag g8 (fun k _ => by rw [e8]) (fun q z => absurd (show (2 : Nat) = 8 from z) (by decide)) (by decide)
      have ha8 : B_all S8 j i (B_dn 0 (B_cs j).toNat) [] (B_dn 0 cnt) [] w1 w2 := ⟨hsl8, hnd8, ⟨by rw [g8.2.2 12 (by decide)]; exact h12, by rw [g8.2.2 13 (by decide)]; exact h13, hw1, hw2⟩, by rw [e8, e7]; exact l10, by rw [e8, e7]; exact l11⟩
      refine c_newNodeA (d := d) (v := 1) t8 ha8 (by decide) (Or.inr rfl) (by rw [g8.2.2 16 (by decide), h16]; decide) (by rw [g8.2.2 17 (by decide), h17]; decide) fun rt i1 FN1 S9 M9 t9 f9 g9 a9 y6 y7 y17 y16 => ?_
      intro _ _ _ M10' e10' _
      obtain ⟨ta, fa⟩ := t9.fld 14 (rt : Int)
      rw [← e10'] at ta fa
      have ga : B_ag (fun _ _ => False) (fun k => k = 14) S9 (B_fld S9 14 rt) := B_ag.fld _ _ _ _ _ rfl
      have aa := a9.ag ga rfl (fun _ z => z) (fun _ z => z) (by decide) (by decide) (by decide) (by decide)
      refine c_newSlotA (d := d) ta aa (by decide) fun sg j1 FS1 Sb Mb tb fb gb ab _ => ?_
      intro _ _ _ M16 e16 _
      obtain ⟨tc, fc⟩ := tb.fld 18 (sg : Int)
      rw [← e16] at tc fc
      have gc : B_ag (fun _ _ => False) (fun k => k = 18) Sb (B_fld Sb 18 sg) := B_ag.fld _ _ _ _ _ rfl
      have ac := ab.ag gc rfl (fun _ z => z) (fun _ z => z) (by decide) (by decide) (by decide) (by decide)
      have nG : ∀ k : Int, k ≠ 9 → k ≠ 16 → k ≠ 17 → ¬ B_nG k := fun k z1 z2 z3 z => by rcases z with z | z | z <;> omega
      have hrl := a9.2.1.lt (n := rt) List.mem_cons_self
      have hnoA : B_no S9 rt 1 [] [] := ⟨y7, y6, b_nil _ _, b_nil _ _⟩
      have hno2 := ((hnoA.ag a9.ln hrl (by decide) (by decide) ga (fun _ _ _ => ⟨fun z => z, fun z => z⟩) (fun z => z) fun z => z).ag aa.ln hrl (by decide) (by decide) gb (B_2_nav rt).1 (B_2_nav rt).2.1 (B_2_nav rt).2.2).ag ab.ln hrl (by decide) (by decide) gc (fun _ _ _ => ⟨fun z => z, fun z => z⟩) (fun z => z) fun z => z
      refine hq j1 i1 M16 ⟨B_fld Sb 18 sg, FS1, FN1, sg, 0, rt, [], ⟨tc, ac, C_D_0.mpr ⟨hno2, by decide, fun x hx => absurd hx (by simp)⟩, ⟨?_, ?_, ?_, ?_, ?_⟩, N_nil_good⟩, rfl⟩ ((((F6.tr0 f7).tr0 f8).c j i).tr (f9.tr ((fa.c j i1).tr (fb.tr (fc.c j1 i1)))))
      · rw [B_fld_v, if_neg (by decide), gb.2.2 14 (by decide), B_fld_v, if_pos rfl]
      · rw [B_fld_v, if_pos rfl]
      · rw [B_fld_v, if_neg (by decide), gb.2.2 15 (by decide), B_fld_v, if_neg (by decide), g9.2.2 15 (nG 15 (by decide) (by decide) (by decide)), g8.2.2 15 (by decide), h15]
        rfl
      · rw [B_fld_v, if_neg (by decide), gb.2.2 16 (by decide), B_fld_v, if_neg (by decide), y16, g8.2.2 16 (by decide), h16]
        rfl
      · rw [B_fld_v, if_neg (by decide), gb.2.2 17 (by decide), B_fld_v, if_neg (by decide), y17, g8.2.2 17 (by decide), h17]
        rfl
    | succ r ih =>
      intro cnt S8 M8 hr t8 f8 g8 e8 c8 at8
      obtain ⟨a, b1, b2, -⟩ := t8.at (k := 8) (by decide)
      have b2 : g_A M8 a 1 (S8.1 8) := b2
      have hl8 : S8.1 8 = B_cn i := by rw [e8, e7]; exact l8
      rw [hl8] at b2
      refine s_X10_clear_81 hw1R hw2R ⟨by omega, by omega⟩ fun _ => ⟨fun z => absurd z (by omega), fun _ => ⟨t8.1, a, b1, B_cn i, b2, ?_⟩⟩
      rw [t8.2.1 9, c8]
      refine ⟨⟨by omega, by omega⟩, fun M26 e26 _ => ?_⟩
      obtain ⟨t9, f9⟩ := t8.set (k := 8) (by decide) b1 (cnt : Int) (((r + 1 : Nat) : Int) - 1)
      rw [← e26] at t9 f9
      have h93 : g_i M26 t 9 = cnt := by rw [t9.2.1 9]; exact c8
      rw [h93]
      refine ⟨⟨by omega, by omega⟩, fun M31 e31 _ => ⟨⟨by omega, by omega⟩, ?_⟩⟩
      obtain ⟨ta, fa⟩ := t9.fld 9 ((cnt : Int) + 1)
      rw [← e31] at ta fa
      have h9 := ih (cnt + 1) _ M31 (by omega) ta (f8.tr0 (f9.tr0 fa)) (g8.tr ((B_ag.set _ _ _ _ _ _ rfl).tr (B_ag.fld _ _ _ _ _ rfl))) e8 (by rw [B_fld_v, if_pos rfl]; omega) (by
        rw [B_dn_s]
        unfold B_il
        rw [List.map_append]
        refine b_app.mpr ⟨fun q x hq2 => ?_, b_cons.mpr ⟨?_, b_nil _ _⟩⟩
        · have := (List.getElem?_eq_some_iff.mp hq2).1
          rw [List.length_map, B_dn_len] at this
          rw [B_fld_r, B_set_v, if_neg (by omega)]
          exact at8 q x hq2
        · rw [List.length_map, B_dn_len, B_fld_r, B_set_v, if_pos ⟨rfl, by omega⟩]
          show ((r + 1 : Nat) : Int) - 1 = ((r : Nat) : Int)
          omega)
      rw [show ((r + 1 : Nat) : Int) - 1 + -1 = (r : Int) - 1 by omega]
      exact h9
  -- all slots are free
  have hsl : ∀ (r cnt : Nat) (S8 : B_S) (M8 : g_M), (r : Int) + cnt = B_cs j → B_t t S8 M8 → B_F t 0 0 M22 M8 → B_ag (fun k _ => k = 2) (fun k => k = 3) S6 S8 → S8.1 = S6.1 → S8.2.2 3 = cnt → b_at (S8.2.1 2) 0 (B_il (B_dn r cnt)) → g_Run (d + 2) 173 38 [(0, .ref t), (1, g_n w1), (2, g_n w2), (3, g_n ((r : Int) - 1))] [] M8 (g_qV Q) := by
    intro r
    induction r with
    | zero =>
      intro cnt S8 M8 hr t8 f8 g8 e8 c8 at8
      refine s_X10_clear_38 hw1R hw2R ⟨by omega, by omega⟩ fun _ => ⟨fun _ => ⟨t8.1, fun M26 e26 _ => ?_⟩, fun z => absurd (by omega) z⟩
      obtain ⟨t9, f9⟩ := t8.fld 9 0
      rw [← e26] at t9 f9
      have hcnt : (B_cs j).toNat = cnt := by omega
      have hsl8 : B_sl S8 j (B_dn 0 cnt) [] := ⟨by rw [e8, e6l]; exact hl, by rw [c8, B_dn_len], at8, by rw [hcnt]; exact B_dn_0 cnt⟩
      have g9 : B_ag (fun _ _ => False) (fun k => k = 9) S8 (B_fld S8 9 0) := B_ag.fld _ _ _ _ _ rfl
      have hsl9 := hsl8.ag g9 (fun k _ => rfl) (fun _ z => z) (by decide)
      obtain ⟨cn, c1, c2, -⟩ := t9.at (k := 6) (by decide)
      have c2 : g_A M26 cn 1 (S8.1 6) := c2
      have hl6 : S8.1 6 = B_cn i := by rw [e8, e6l]; exact l6
      rw [hl6] at c2
      refine ⟨cn, c1, B_cn i, c2, ⟨by omega, by omega⟩, ⟨by omega, by omega⟩, ?_⟩
      have h9 := hnl _ M26 t9 (f8.tr0 f9) (by show S8.1 = S.1; rw [e8, e6l]) (by rw [hcnt]; exact hsl9) (by rw [B_fld_v, if_neg (by decide), g8.2.2 12 (by decide)]; exact k12) (by rw [B_fld_v, if_neg (by decide), g8.2.2 13 (by decide)]; exact k13) (by rw [B_fld_v, if_neg (by decide), g8.2.2 15 (by decide)]; exact k15) (by rw [B_fld_v, if_neg (by decide), g8.2.2 16 (by decide)]; exact k16) (by rw [B_fld_v, if_neg (by decide), g8.2.2 17 (by decide)]; exact k17) (B_cn i).toNat 0 _ M26 (by omega) t9 (B_F.rf _ _) (B_ag.rf _ _ _) rfl (by rw [B_fld_v, if_pos rfl]; rfl) (b_nil _ _)
      rw [show (((B_cn i).toNat : Nat) : Int) - 1 = B_cn i - 1 by omega] at h9
      exact h9
    | succ r ih =>
      intro cnt S8 M8 hr t8 f8 g8 e8 c8 at8
      obtain ⟨a, b1, b2, -⟩ := t8.at (k := 2) (by decide)
      have b2 : g_A M8 a 1 (S8.1 2) := b2
      have hl8 : S8.1 2 = B_cs j := by rw [e8, e6l]; exact l2
      rw [hl8] at b2
      refine s_X10_clear_38 hw1R hw2R ⟨by omega, by omega⟩ fun _ => ⟨fun z => absurd z (by omega), fun _ => ⟨t8.1, a, b1, B_cs j, b2, ?_⟩⟩
      rw [t8.2.1 3, c8]
      refine ⟨⟨by omega, by omega⟩, fun M26 e26 _ => ?_⟩
      obtain ⟨t9, f9⟩ := t8.set (k := 2) (by decide) b1 (cnt : Int) (((r + 1 : Nat) : Int) - 1)
      rw [← e26] at t9 f9
      have h93 : g_i M26 t 3 = cnt := by rw [t9.2.1 3]; exact c8
      rw [h93]
      refine ⟨⟨by omega, by omega⟩, fun M31 e31 _ => ⟨⟨by omega, by omega⟩, ?_⟩⟩
      obtain ⟨ta, fa⟩ := t9.fld 3 ((cnt : Int) + 1)
      rw [← e31] at ta fa
      have h9 := ih (cnt + 1) _ M31 (by omega) ta (f8.tr0 (f9.tr0 fa)) (g8.tr ((B_ag.set _ _ _ _ _ _ rfl).tr (B_ag.fld _ _ _ _ _ rfl))) e8 (by rw [B_fld_v, if_pos rfl]; omega) (by
        rw [B_dn_s]
        unfold B_il
        rw [List.map_append]
        refine b_app.mpr ⟨fun q x hq2 => ?_, b_cons.mpr ⟨?_, b_nil _ _⟩⟩
        · have := (List.getElem?_eq_some_iff.mp hq2).1
          rw [List.length_map, B_dn_len] at this
          rw [B_fld_r, B_set_v, if_neg (by omega)]
          exact at8 q x hq2
        · rw [List.length_map, B_dn_len, B_fld_r, B_set_v, if_pos ⟨rfl, by omega⟩]
          show ((r + 1 : Nat) : Int) - 1 = ((r : Nat) : Int)
          omega)
      rw [show ((r + 1 : Nat) : Int) - 1 + -1 = (r : Int) - 1 by omega]
      exact h9
  have h9 := hsl (B_cs j).toNat 0 S6 M22 (by omega) t6 (B_F.rf _ _) (B_ag.rf _ _ _) rfl k3 (b_nil _ _)
  rw [show (((B_cs j).toNat : Nat) : Int) - 1 = B_cs j - 1 by omega] at h9
  exact h9
theorem c_levels {Q : Int → g_M → Prop} {T : N_T I_E} (hT : C_tr t w1 w2 T j i M) (hl : (N_all T).length ≤ 1001) (hq : Q (T.1 + 1 : Nat) M) : g_Call (d + 1) 181 [.ref t] M (g_qI Q) := by
  obtain ⟨S, FS, FN, sg, h, rt, l, ⟨hB, ha, hD, ⟨h14, -⟩, hgd⟩, hTe⟩ := hT
  subst hTe
  rw [V_ins_len] at hl
  obtain ⟨z1, -, -, -, z5, -, z7, -⟩ := V_size (rt := rt) hgd hl
  change Q ((h + 1 : Nat) : Int) M at hq
  obtain ⟨l4, l5, l6, l7, lN⟩ := id ha.ln
  obtain ⟨lf, f1, f2, f3⟩ := hB.at (k := 7) (by decide)
  obtain ⟨kd, k1, k2, k3⟩ := hB.at (k := 4) (by decide)
  have f2 : g_A M lf 2 (S.1 7) := f2
  have k2 : g_A M kd 1 (S.1 4) := k2
  have hlp : ∀ (h2 n : Nat) (l2 : List (N_i V_W h2)) (v : Nat), C_D S h2 n l2 → N_fl h2 l2 → (0 < h2 → l2 ≠ []) → (∀ m ∈ V_ns h2 n l2, (m : Int) < B_cn i) → v + h2 = h + 1 → 1 ≤ v → g_Run d 181 7 [(0, .ref t), (1, g_n n), (2, g_n v)] [] M (g_qI Q) := by
    intro h2
    induction h2 with
    | zero =>
      intro n l2 v hD2 _ _ hn hv hv1
      have hnl := hn n (V_ns_m 0 n l2)
      refine s_X10_levels_7 ⟨by omega, by omega⟩ ⟨by omega, by omega⟩ fun _ => ⟨fun _ => ⟨hB.1, lf, f1, S.1 7, f2, ⟨by omega, by omega⟩, ?_⟩, fun z => absurd (by omega) z⟩
      rw [f3 _ (by omega) (by omega), hD2.1.1]
      refine ⟨fun z => absurd z (by decide), fun _ => ?_⟩
      rw [show v = h + 1 by omega]
      exact hq
    | succ h2 ih =>
      intro n l2 v hD2 hf2 hne hn hv hv1
      have hnl := hn n (V_ns_m (h2 + 1) n l2)
      cases l2 with
      | nil => exact absurd rfl (hne (by omega))
      | cons x r =>
        obtain ⟨⟨⟨q1, -⟩, q2⟩, -⟩ := N_fl_c.mp hf2
        have hkv : g_i M kd ((n : Int) * 9) = V_n x.1 := by
          rw [k3 _ (by omega) (by omega)]
          have := hD2.1.2.2.1 0 (V_n x.1) rfl
          exact (congrArg (S.2.1 4) (by omega)).trans this
        refine s_X10_levels_7 ⟨by omega, by omega⟩ ⟨by omega, by omega⟩ fun _ => ⟨fun _ => ⟨hB.1, lf, f1, S.1 7, f2, ⟨by omega, by omega⟩, ?_⟩, fun z => absurd (by omega) z⟩
        rw [f3 _ (by omega) (by omega), hD2.1.1]
        refine ⟨fun _ => ⟨kd, k1, ⟨by omega, by omega⟩, S.1 4, k2, ⟨by omega, by omega⟩, ⟨by omega, by omega⟩, ?_⟩, fun z => absurd rfl z⟩
        rw [hkv]
        have h9 := ih (V_n x.1) x.2 (v + 1) (hD2.2.2.2 x List.mem_cons_self) q2 (fun _ z => by rw [z, List.length_nil] at q1; omega) (fun m hm => hn m (List.mem_cons_of_mem _ (List.mem_flatMap.mpr ⟨x, List.mem_cons_self, hm⟩))) (by omega) (by omega)
        rw [show ((v + 1 : Nat) : Int) = (v : Int) + 1 by omega] at h9
        exact h9
  refine m_X10_levels fun _ => ⟨hB.1, ?_⟩
  rw [hB.2.1 14, h14]
  exact hlp h rt l 1 hD z5 z7 (fun m hm => ha.2.1.lt hm) (by omega) (Nat.le_refl 1)
end CCLR
