section CEX2
variable {d : Nat} {ι : Nat → Nat} {κ : Nat → Nat → Nat} {al sz : Nat → Nat × Nat} {cB eB : Int} {st : Nat → I_T} {D : Nat → List (Int × List b_E)} {gv : Nat → Int} {M M0 M1 : g_M} {x w w' : Nat} {u : List Int}
theorem Bd_S.sm {s : Nat} {A : List D_i} (h : Bd_S (ι 52) (C_r ι) s A M) (e1 : g_i M1 (ι 52) = g_i M (ι 52)) (e2 : g_i M1 (C_r ι s) = g_i M (C_r ι s)) : Bd_S (ι 52) (C_r ι) s A M1 := by
  unfold Bd_S
  rw [e1, e2]
  exact h
theorem D_rk_bd (b1 b2 : Option (List D_i)) : 0 ≤ D_rk b1 b2 ∧ D_rk b1 b2 ≤ 3 ∧ (b1 = none → D_rk b1 b2 = 0) ∧ (b1 ≠ none → 1 ≤ D_rk b1 b2) := by
  cases b1 with
  | none => exact ⟨Int.le_refl 0, (by decide : (0 : Int) ≤ 3), fun _ => rfl, fun g => absurd rfl g⟩
  | some A =>
    rw [D_rk_s]
    by_cases g : A.all D_isp = true
    · rw [if_pos g]
      cases b2 with
      | none => exact ⟨(by decide : (0 : Int) ≤ 2), (by decide : (2 : Int) ≤ 3), fun z => absurd z (by simp), fun _ => (by decide : (1 : Int) ≤ 2)⟩
      | some B => exact ⟨(by decide : (0 : Int) ≤ 3), (by decide : (3 : Int) ≤ 3), fun z => absurd z (by simp), fun _ => (by decide : (1 : Int) ≤ 3)⟩
    · rw [if_neg g]
      exact ⟨by decide, by decide, fun z => absurd z (by simp), fun _ => by decide⟩
theorem D_rn_bd {b1 b2 : Option (List D_i)} (h1 : ∀ A, b1 = some A → A.length ≤ 690) (h2 : ∀ A, b2 = some A → A.length ≤ 690) : 0 ≤ D_rn b1 b2 ∧ D_rn b1 b2 ≤ 490000 := by
  cases b1 with
  | none => exact ⟨(by decide : (0 : Int) ≤ 1), (by decide : (1 : Int) ≤ 490000)⟩
  | some A =>
    have hA := h1 A rfl
    rw [D_rn_s]
    by_cases g : A.all D_isp = true
    · rw [if_pos g]
      cases b2 with
      | none =>
        show (0 : Int) ≤ (A.length : Int) ∧ (A.length : Int) ≤ 490000
        omega
      | some B =>
        have hB := h2 B rfl
        have hm1 : (A.length : Int) * (B.length : Int) ≤ 700 * 700 := Int.mul_le_mul (by omega) (by omega) (by omega) (by omega)
        have hm2 : 0 ≤ (A.length : Int) * (B.length : Int) := Int.mul_nonneg (by omega) (by omega)
        show 0 ≤ (A.length : Int) * (B.length : Int) ∧ (A.length : Int) * (B.length : Int) ≤ 490000
        omega
    · rw [if_neg g]
      omega
theorem c_explainH {dd De : Nat} {Q : g_M → Prop} {pe : Int} {fe : b_E} {l : List (Int × b_E)} (h : C_H ι κ al sz cB eB st D gv M) (hw : w < 2) (h16 : g_r M (ι 0) 16 = some (ι (67 + w))) (h14 : g_i M (ι 0) 14 = pe) (he : b_st (g_i M (ι 2)) 2008 pe De fe.1 fe.2.1 fe.2.2) (hk : fe.1 = 3) (hDe : De ≤ 16) (hl : l = L_ch pe fe) (hbq : ((K_F 20).1 (L_ch pe fe) 0).1 = 0 → ∀ x, 4 * w ≤ x → x < 4 * w + 4 → ∀ V T m1 m2, st x = some (V, T, m1, m2) → C_bq (g_i M (ι 2)) (p_jn V.2.2.1) l ∧ ∀ s2, V.2.2.2 = some s2 → C_bq (g_i M (ι 2)) (p_jn s2) l) (hW : c_Wr (ι 3) (ι 4) 8000 0 8000 u M) (hf : ((K_F 20).1 (L_ch pe fe) 0).1 ≠ 0 → ∀ M1, C_H ι κ al sz cB eB st D gv M1 → C_fx Ck_h ι M M1 → Q (g_wi (g_wi M1 (ι 0) 17 (10 + ((K_F 20).1 (L_ch pe fe) 0).1)) (ι 0) 18 (((K_F 20).1 (L_ch pe fe) 0).2.1 - 4))) (hq : ((K_F 20).1 (L_ch pe fe) 0).1 = 0 → ∀ M1, C_H ι κ al sz cB eB st D gv M1 → g_i M1 (ι 0) = g_i M (ι 0) ∧ g_r M1 (ι 0) = g_r M (ι 0) → c_Wr (ι 3) (ι 4) 8000 0 8000 (u ++ F_exp w (D_chs (D_fx st l) w 4) (D_lkn st l (D_chs (D_fx st l) w 4).1 ((D w).map Prod.snd)) 5 62 63 64) M1 → Q M1) : g_Call (dd + 232) 224 [.ref (ι 0)] M (g_qV Q) := by
  have he4 := he.2.2.2.1
  have he5 := he.2.2.2.2
  have hel := b_el_len fe.1 fe.2.1 fe.2.2
  have hb : b_st (g_i M (ι 2)) 2100 pe De fe.1 fe.2.1 fe.2.2 := ⟨he.1, he.2.1, he.2.2.1, he4, by omega⟩
  have hF := h.FS
  obtain ⟨hP, ⟨o1, o2, o3, o4⟩, hp, hA, -⟩ := id hF
  obtain ⟨P1, P2, P3, P4, P5, P6⟩ := id hp
  obtain ⟨R, hR⟩ : ∃ R, R = (K_F 20).1 (L_ch pe fe) 0 := ⟨_, rfl⟩
  have hk1 := (K_F_ok 20).1 (L_ch pe fe) 0
  have hk2 := (K_F_G (lo := 0) 20).1 (L_ch pe fe) 0 (L_ch_lo (z := (pe, fe)) he4)
  rw [← hR] at hf hq hk1 hk2 hbq
  have hk11 := hk1.1
  have hk12 := hk1.2
  refine m_X11_explain (d := dd + 231) fun _ => ⟨h.1.O (by decide), ι 6, h.1.r (by decide), o1, ?_⟩
  rw [h14]
  refine c_isRight (rm := some (ι 1)) (N := 246408) (F := g_i M (ι 2)) (by decide) ⟨_, ⟨o1, o3, o4, o2⟩, hp, hA, rfl, rfl⟩ hb.lim hk (show De ≤ 20 by omega) (by omega) (by omega) ?_
  rw [← hR]
  intro M1 f1 hC1 hw1 _ _ hok1 _
  have nrF : ¬ F_CS (ι 6) (ι 7) (ι 8) (ι 9) (ι 1) := fun z => by
    obtain ⟨a, ha, e⟩ := H_S_k (ι := ι) (Or.inl z)
    have hsc : ∀ a ∈ Ck_h, a ∈ Ck_k ∧ a ≠ 1 := by decide
    exact h.2.1.ne (by decide) (hsc a ha).1 (hsc a ha).2.symm e
  have k1 : k_F (H_S (ι 6) (ι 7) (ι 8) (ι 9) (ι 90)) (ι 1) M M1 := (k_F.of f1 nrF).up fun y z => Or.inl z
  obtain ⟨⟨c1, c2, c3, c0⟩, c4, c5, c6, -⟩ := hC1
  have S1 : F_S (ι 1) (ι 2) (ι 6) (ι 7) (ι 8) (ι 9) (cB + C_sm (C_c sz) 8) (eB + C_sm (C_e sz) 8) 246408 (g_i M (ι 2)) M1 [] := ⟨hP.of f1 nrF fun a n ha hn z => by
    rcases z with z | z | z | z
    · exact g_neOA o1 ha z.symm
    · exact g_neOA P1 ha z.symm
    · exact g_neAA ha P4 (by unfold k_n at hn; omega) z
    · exact g_neAA ha P5 (by unfold k_n at hn; omega) z, ⟨c1, c0, c2, c3⟩, c4, c5, c6⟩
  obtain ⟨H1, fx1⟩ := h.hS k1 S1
  have k01 := fx1.2.2 0 (by decide) (by decide) (by decide)
  by_cases h0 : R.1 = 0
  · rw [if_pos h0]
    have hbq := hbq h0
    have hq := hq h0
    have hs1 := H1.2.2.2.2.1 w hw
    refine ⟨fun z => absurd z (by decide), fun _ => ⟨ι (67 + w), by rw [k01.2]; exact h16, hs1.1.1, ?_⟩⟩
    rw [hs1.2.2.1.1]
    have hl200 : (D w).length ≤ 200 := by
      have := hs1.2.2.2.2.1.1
      rw [List.length_map] at this
      exact this
    have hnR : ∀ x, D_lkn st l x ((D w).map Prod.snd) ≤ 200 := fun x => by
      unfold D_lkn
      split
      · rw [List.length_map]
        exact hl200
      · split
        · exact Nat.zero_le _
        · refine Nat.le_trans (List.length_filter_le _ _) ?_
          rw [List.length_map]
          exact hl200
    -- the indexes one by one
    have hlp : ∀ (j i : Nat) (s : Nat × Int × Int) (M' : g_M), i + j = 4 → s = D_chs (D_fx st l) w i → (0 ≤ s.2.1 ∧ s.2.1 ≤ 3) ∧ (0 ≤ s.2.2 ∧ s.2.2 ≤ 490000) ∧ (s.1 = 8 ∨ (4 * w ≤ s.1 ∧ s.1 < 4 * w + 4)) → C_H ι κ al sz cB eB st D gv M' → C_fx Ck_e ι M M' → g_Run (dd + 231) 224 54 [(0, .ref (ι 0)), (1, g_n (if s.1 = 8 then -1 else (s.1 : Int) - 4 * (w : Int))), (2, g_n s.2.1), (3, g_n s.2.2), (4, g_n (D_lkn st l s.1 ((D w).map Prod.snd) : Nat)), (5, g_n (i : Int))] [] M' (g_qV Q) := by
      intro j
      induction j with
      | zero =>
        intro i s M' hij hs hsR H' f'
        have hi4 : i = 4 := by omega
        subst hi4
        have hv1 : g_InR (if s.1 = 8 then -1 else (s.1 : Int) - 4 * (w : Int)) := by
          split
          · exact ⟨by decide, by decide⟩
          · exact ⟨by omega, by omega⟩
        have hn4 := hnR s.1
        have W' := f'.Wr (by decide) (by decide) hW
        have k' := f'.2.2 0 (by decide) (by decide) (by decide)
        refine s_X11_explain_54 (a0 := ι 0) hv1 ⟨by omega, by omega⟩ ⟨by omega, by omega⟩ ⟨by omega, by omega⟩ ⟨by omega, by omega⟩ fun _ => ⟨fun g => absurd g (by decide), fun _ => ⟨H'.1.O (by decide), ι 3, H'.1.r (by decide), H'.1.O (by decide), c_named2 (d := dd + 227) (j := 5) (by decide) W' hv1 fun M2 f2 W2 => ?_⟩⟩
        intro _ _
        obtain ⟨H2, k2⟩ := H'.wr f2
        refine ⟨ι 3, H2.1.r (by decide), H2.1.O (by decide), c_named2 (d := dd + 227) (j := 62) (by decide) W2 ⟨by omega, by omega⟩ fun M3 f3 W3 => ?_⟩
        intro _ _
        obtain ⟨H3, k3⟩ := H2.wr f3
        refine ⟨ι 3, H3.1.r (by decide), H3.1.O (by decide), c_named2 (d := dd + 227) (j := 63) (by decide) W3 ⟨by omega, by omega⟩ fun M4 f4 W4 => ?_⟩
        intro _ _
        obtain ⟨H4, k4⟩ := H3.wr f4
        refine ⟨ι 3, H4.1.r (by decide), H4.1.O (by decide), c_named2 (d := dd + 227) (j := 64) (by decide) W4 ⟨by omega, by omega⟩ fun M5 f5 W5 => ?_⟩
        intro _ _
        obtain ⟨H5, k5⟩ := H4.wr f5
        have e2 := k2 0 (by decide) (by decide) (by decide)
        have e3 := k3 0 (by decide) (by decide) (by decide)
        have e4 := k4 0 (by decide) (by decide) (by decide)
        have e5 := k5 0 (by decide) (by decide) (by decide)
        refine hq M5 H5 ⟨e5.1.trans (e4.1.trans (e3.1.trans (e2.1.trans k'.1))), e5.2.trans (e4.2.trans (e3.2.trans (e2.2.trans k'.2)))⟩ ?_
        rw [← hs]
        unfold F_exp
        rw [← List.append_assoc, ← List.append_assoc, ← List.append_assoc]
        exact W5
      | succ j ih =>
        intro i s M' hij hs hsR H' f'
        obtain ⟨xx, hxx⟩ : ∃ xx, xx = 4 * w + i := ⟨_, rfl⟩
        have hx8 : xx < 8 := by omega
        have hv1 : g_InR (if s.1 = 8 then -1 else (s.1 : Int) - 4 * (w : Int)) := by
          split
          · exact ⟨by decide, by decide⟩
          · exact ⟨by omega, by omega⟩
        have hn4 := hnR s.1
        obtain ⟨g0', gs', gh', gr10', gr1', gr0'⟩ := H'.gF hw
        obtain ⟨r', rk', rr', rA', ri'⟩ := H'.xs hw
        have k' := f'.2.2 0 (by decide) (by decide) (by decide)
        have b' := (f'.2.2 2 (by decide) (by decide) (by decide)).1
        obtain ⟨n1, n2⟩ := H'.n9 hx8
        have hc : D_chs (D_fx st l) w (i + 1) = D_cst (D_fx st l xx) xx s := by
          rw [hxx, hs]
          rfl
        -- on with the next
        have hnext : ∀ (s' : Nat × Int × Int) (M2 : g_M), s' = D_chs (D_fx st l) w (i + 1) → (0 ≤ s'.2.1 ∧ s'.2.1 ≤ 3) ∧ (0 ≤ s'.2.2 ∧ s'.2.2 ≤ 490000) ∧ (s'.1 = 8 ∨ (4 * w ≤ s'.1 ∧ s'.1 < 4 * w + 4)) → C_H ι κ al sz cB eB st D gv M2 → C_fx Ck_e ι M M2 → g_InR ((i : Int) + 1) ∧ g_Run (dd + 231) 224 54 [(0, .ref (ι 0)), (1, g_n (if s'.1 = 8 then -1 else (s'.1 : Int) - 4 * (w : Int))), (2, g_n s'.2.1), (3, g_n s'.2.2), (4, g_n (D_lkn st l s'.1 ((D w).map Prod.snd) : Nat)), (5, g_n ((i : Int) + 1))] [] M2 (g_qV Q) := fun s' M2 e1 e2 e3 e4 => by
          refine ⟨⟨by omega, by omega⟩, ?_⟩
          have h9 := ih (i + 1) s' M2 (by omega) e1 e2 e3 e4
          rw [show ((i + 1 : Nat) : Int) = (i : Int) + 1 by omega] at h9
          exact h9
        refine s_X11_explain_54 (a0 := ι 0) hv1 ⟨by omega, by omega⟩ ⟨by omega, by omega⟩ ⟨by omega, by omega⟩ ⟨by omega, by omega⟩ fun _ => ⟨fun _ => ⟨g0', ι (67 + w), by rw [k'.2]; exact h16, gs', ι r', rr', 4, rA', ⟨by omega, by omega⟩, κ xx 0, by rw [hxx]; exact ri' i (by omega), n1, fun g => ?_, fun g => ?_⟩, fun g => absurd (by omega) g⟩
        · have hst := n2.mp g
          have hfx : D_fx st l xx = none := by
            unfold D_fx
            rw [hst]
          rw [hfx] at hc
          exact hnext s M' hc.symm hsR H' f'
        · cases hst : st xx with
          | none => exact absurd (n2.mpr hst) g
          | some t =>
          obtain ⟨V, T, m1, m2⟩ := t
          obtain ⟨q1, q2⟩ := hbq xx (by omega) (by omega) V T m1 m2 hst
          obtain ⟨B1, B2, B3, ⟨B4, B5⟩, B6, B7⟩ := H'.bc hx8 hst
          have he' : b_st (g_i M' (ι 2)) 2008 pe De fe.1 fe.2.1 fe.2.2 := by
            rw [b']
            exact he
          have hfx : D_fx st l xx = some (D_rk (D_B m1 V.2.2.1 l) (D_B2 m2 V.2.2.2 l), D_rn (D_B m1 V.2.2.1 l) (D_B2 m2 V.2.2.2 l)) := by
            unfold D_fx
            rw [hst]
          rw [hfx] at hc
          have h145 : ∀ (b1 b2 : Option (List D_i)) (M3 : g_M), C_H ι κ al sz cB eB st D gv M3 → C_fx Ck_e ι M M3 → D_O b1 (D_B m1 V.2.2.1 l) → D_O b2 (D_B2 m2 V.2.2.2 l) → (∀ E, b1 = some E → Bd_S (ι 52) (C_r ι) 0 E M3 ∧ E.length ≤ 690 ∧ ∀ i ∈ E, Bd_io (g_i M (ι 2)) 246408 i) → (∀ E, b2 = some E → Bd_S (ι 52) (C_r ι) 1 E M3 ∧ E.length ≤ 690 ∧ ∀ i ∈ E, Bd_io (g_i M (ι 2)) 246408 i) → g_Run (dd + 231) 224 145 [(0, .ref (ι 0)), (1, g_n (if s.1 = 8 then -1 else (s.1 : Int) - 4 * (w : Int))), (2, g_n s.2.1), (3, g_n s.2.2), (4, g_n (D_lkn st l s.1 ((D w).map Prod.snd) : Nat)), (5, g_n (i : Int)), (6, .ref (κ xx 0)), (7, g_n (if b1.isSome = true then 1 else 0))] [g_n (if b2.isSome = true then 1 else 0)] M3 (g_qV Q) := fun b1 b2 M3 H3 f3 d1 d2 t1 t2 => by
            have b3 := (f3.2.2 2 (by decide) (by decide) (by decide)).1
            have hbR : ∀ q : Bool, g_InR (if q = true then 1 else 0) := fun q => by cases q <;> exact ⟨by decide, by decide⟩
            obtain ⟨rO, nO⟩ := D_rk_O d1 d2
            rw [← rO, ← nO] at hc
            have hrb := D_rk_bd b1 b2
            have hnb := D_rn_bd (b1 := b1) (b2 := b2) (fun A e => (t1 A e).2.1) (fun A e => (t2 A e).2.1)
            refine s_X11_explain_145 (a0 := ι 0) (a6 := κ xx 0) hv1 ⟨by omega, by omega⟩ ⟨by omega, by omega⟩ ⟨by omega, by omega⟩ ⟨by omega, by omega⟩ (hbR _) (hbR _) fun _ => ⟨H3.1.O (by decide), ι 50, H3.1.r (by decide), H3.1.O (by decide), c_rankBy (d := dd + 185) H3.bo (H3.1.A (by decide) : g_A M3 (ι 2) 0 246408) (by decide) (fun A e => ⟨(t1 A e).1, by have := (t1 A e).2.1; omega, by rw [b3]; exact (t1 A e).2.2⟩) (fun A e => ⟨(t2 A e).1, by have := (t2 A e).2.1; omega⟩) fun M5 f5 v4 v5 => ?_⟩
            intro _ _
            have H5 : C_H ι κ al sz cB eB st D gv M5 := H3.es (T := [50]) f5 (by decide) fun y k z => ⟨50, by decide, z.1, fun g => absurd g (by decide)⟩
            have sm5 : ∀ {a : Nat}, a ∈ Ck_k → a ≠ 50 → g_i M5 (ι a) = g_i M3 (ι a) ∧ g_r M5 (ι a) = g_r M3 (ι a) := fun {a} ha hn => ⟨funext fun k => f5.2.1 _ _ fun z => H3.2.1.ne ha (by decide) hn z.1, funext fun k => f5.2.2 _ _⟩
            have f35 : C_fx Ck_e ι M3 M5 := ⟨fun a c hc => by
              rw [f5.sh]
              exact hc, by rw [f5.1]; exact Nat.le_refl _, fun a ha h1 hn => sm5 ha fun e => by
              rw [e] at hn
              exact hn (by decide)⟩
            have f5x := f3.tr f35
            have k5 := f5x.2.2 0 (by decide) (by decide) (by decide)
            have h196 : s.2.1 < D_rk b1 b2 ∨ (D_rk b1 b2 = s.2.1 ∧ 0 < D_rk b1 b2 ∧ D_rn b1 b2 < s.2.2) → g_Run (dd + 231) 224 196 [(0, .ref (ι 0)), (1, g_n (if s.1 = 8 then -1 else (s.1 : Int) - 4 * (w : Int))), (2, g_n s.2.1), (3, g_n s.2.2), (4, g_n (D_lkn st l s.1 ((D w).map Prod.snd) : Nat)), (5, g_n (i : Int)), (6, .ref (κ xx 0)), (7, g_n (if b1.isSome = true then 1 else 0)), (8, g_n (if b2.isSome = true then 1 else 0))] [] M5 (g_qV Q) := fun hyes => by
              have hc2 : D_chs (D_fx st l) w (i + 1) = (xx, D_rk b1 b2, D_rn b1 b2) := hc.trans (if_pos hyes)
              cases hb1 : b1 with
              | none =>
                have := hrb.2.2.1 hb1
                exfalso
                omega
              | some E1 =>
              rw [hb1] at v4 v5 hc2 hrb hnb d1
              obtain ⟨u1, u2, u3⟩ := t1 E1 hb1
              have e52 := (sm5 (a := 52) (by decide) (by decide)).1
              have er : ∀ {s : Nat}, s < 5 → g_i M5 (C_r ι s) = g_i M3 (C_r ι s) := fun hs => (sm5 (C_r_k hs).1 (by omega)).1
              have b5 := (f5x.2.2 2 (by decide) (by decide) (by decide)).1
              refine s_X11_explain_196 (a0 := ι 0) (a6 := κ xx 0) hv1 ⟨by omega, by omega⟩ ⟨by omega, by omega⟩ ⟨by omega, by omega⟩ ⟨by omega, by omega⟩ (hbR _) (hbR _) fun _ => ⟨H5.1.O (by decide), ι 50, H5.1.r (by decide), H5.1.O (by decide), ι 50, H5.1.r (by decide), H5.1.O (by decide), ι 50, H5.1.r (by decide), ι (67 + w), by rw [k5.2]; exact h16, H5.1.O (by decide), ?_⟩
              rw [v4, v5]
              have h9 : g_Call (dd + 169 + 62) 2 [.ref (ι 50), .ref (κ xx 0), .ref (ι (67 + w))] M5 (g_qI fun r16 M13 => g_ext M5 M13 → g_ok M13 → g_InR r16 → g_InR ((i : Int) + 1) ∧ g_Run (dd + 231) 224 54 [(0, .ref (ι 0)), (1, g_n (i : Int)), (2, g_n (D_rk (some E1) b2)), (3, g_n (D_rn (some E1) b2)), (4, g_n r16), (5, g_n ((i : Int) + 1))] [] M13 (g_qV Q)) := by
                refine c_looksAtH (d := dd + 169) (E1 := E1) (b2 := b2) H5 hx8 hst hw ⟨u1.sm e52 (er (by decide)), by omega, by rw [b5]; exact u3⟩ (fun E2 hE2 => ⟨(t2 E2 hE2).1.sm e52 (er (by decide)), by have := (t2 E2 hE2).2.1; omega, by rw [b5]; exact (t2 E2 hE2).2.2⟩) v4 fun M6 H6 f6 => ?_
                intro _ _ _
                have h9 := hnext (xx, D_rk (some E1) b2, D_rn (some E1) b2) M6 hc2.symm ⟨⟨hrb.1, hrb.2.1⟩, hnb, Or.inr ⟨by show 4 * w ≤ xx; omega, by show xx < 4 * w + 4; omega⟩⟩ H6 (f5x.tr f6.x)
                have e1 : (if ((xx, D_rk (some E1) b2, D_rn (some E1) b2) : Nat × Int × Int).1 = 8 then (-1 : Int) else ((xx : Nat) : Int) - 4 * (w : Int)) = i := by
                  show (if xx = 8 then (-1 : Int) else ((xx : Nat) : Int) - 4 * (w : Int)) = i
                  rw [if_neg (by omega)]
                  omega
                have e2 : D_lkn st l xx ((D w).map Prod.snd) = (((D w).map Prod.snd).filter (D_lkd V (some E1) b2)).length := by
                  unfold D_lkn
                  rw [if_neg (by omega), hst]
                  show (List.filter (D_lkd V (D_B m1 V.2.2.1 l) (D_B2 m2 V.2.2.2 l)) _).length = _
                  have e3 : D_lkd V (D_B m1 V.2.2.1 l) (D_B2 m2 V.2.2.2 l) = D_lkd V (some E1) b2 := funext fun es => (D_lkd_O d1 d2 es).symm
                  rw [e3]
                rw [e1] at h9
                have e4 : D_lkn st l ((xx, D_rk (some E1) b2, D_rn (some E1) b2) : Nat × Int × Int).1 ((D w).map Prod.snd) = (((D w).map Prod.snd).filter (D_lkd V (some E1) b2)).length := e2
                rw [e4] at h9
                exact h9
              exact h9
            have hno : ¬ (s.2.1 < D_rk b1 b2 ∨ (D_rk b1 b2 = s.2.1 ∧ 0 < D_rk b1 b2 ∧ D_rn b1 b2 < s.2.2)) → g_InR ((i : Int) + 1) ∧ g_Run (dd + 231) 224 54 [(0, .ref (ι 0)), (1, g_n (if s.1 = 8 then -1 else (s.1 : Int) - 4 * (w : Int))), (2, g_n s.2.1), (3, g_n s.2.2), (4, g_n (D_lkn st l s.1 ((D w).map Prod.snd) : Nat)), (5, g_n ((i : Int) + 1))] [] M5 (g_qV Q) := fun hn => by
              have hc2 : D_chs (D_fx st l) w (i + 1) = s := hc.trans (if_neg hn)
              exact hnext s M5 hc2.symm hsR H5 f5x
            refine ⟨ι 50, H5.1.r (by decide), H5.1.O (by decide), fun g1 => ?_, fun g1 => ⟨fun g2 => ?_, fun g2 => ⟨ι 50, H5.1.r (by decide), H5.1.O (by decide), fun g3 => ⟨ι 50, H5.1.r (by decide), H5.1.O (by decide), fun g4 => ?_, fun g4 => ?_⟩, fun g3 => ?_⟩⟩⟩
            · rw [v4] at g1
              exact h196 (Or.inl g1)
            · refine hno fun z => ?_
              have hb1 : b1 = none := by
                cases hb : b1 with
                | none => rfl
                | some E =>
                  rw [hb] at g2
                  exact absurd (show (1 : Int) = 0 from g2) (by decide)
              have := hrb.2.2.1 hb1
              omega
            · have hb1 : b1 ≠ none := fun hb => by
                rw [hb] at g2
                exact g2 rfl
              have := hrb.2.2.2 hb1
              rw [v4] at g3
              rw [v5] at g4
              exact h196 (Or.inr ⟨g3, by omega, g4⟩)
            · rw [v5] at g4
              rw [v4] at g1
              exact hno fun z => by omega
            · rw [v4] at g3 g1
              exact hno fun z => by omega
          refine ⟨ι 50, H'.1.r (by decide), κ xx 1, H'.1.xr hx8 (a := 0) (by decide), H'.1.O (by decide), ?_⟩
          rw [k'.1, h14, B4]
          have hb1c : g_Call (dd + 181 + 50) 6 [.ref (ι 50), g_n pe, .ref (κ xx 1), g_n m1, g_n ((0 : Nat) : Int)] M' (g_qI fun r46 M43 => g_ext M' M43 → g_ok M43 → g_InR r46 → ((g_i M43 (κ xx 0) 10 = 0 → g_Run (dd + 231) 224 145 [(0, .ref (ι 0)), (1, g_n (if s.1 = 8 then -1 else (s.1 : Int) - 4 * (w : Int))), (2, g_n s.2.1), (3, g_n s.2.2), (4, g_n (D_lkn st l s.1 ((D w).map Prod.snd) : Nat)), (5, g_n (i : Int)), (6, .ref (κ xx 0)), (7, g_n r46)] [g_n 0] M43 (g_qV Q)) ∧ (¬ g_i M43 (κ xx 0) 10 = 0 → ∃ b48, g_r M43 (ι 0) 6 = some b48 ∧ ∃ b50, g_r M43 (κ xx 0) 3 = some b50 ∧ g_O M43 b48 0 ∧ g_Call (dd + 231) 6 [.ref b48, g_n (g_i M43 (ι 0) 14), .ref b50, g_n (g_i M43 (κ xx 0) 12), g_n 1] M43 (g_qI fun r56 M53 => g_ext M43 M53 → g_ok M53 → g_InR r56 → ((r56 = 0 → g_Run (dd + 231) 224 145 [(0, .ref (ι 0)), (1, g_n (if s.1 = 8 then -1 else (s.1 : Int) - 4 * (w : Int))), (2, g_n s.2.1), (3, g_n s.2.2), (4, g_n (D_lkn st l s.1 ((D w).map Prod.snd) : Nat)), (5, g_n (i : Int)), (6, .ref (κ xx 0)), (7, g_n r46)] [g_n 0] M53 (g_qV Q)) ∧ (¬ r56 = 0 → g_Run (dd + 231) 224 145 [(0, .ref (ι 0)), (1, g_n (if s.1 = 8 then -1 else (s.1 : Int) - 4 * (w : Int))), (2, g_n s.2.1), (3, g_n s.2.2), (4, g_n (D_lkn st l s.1 ((D w).map Prod.snd) : Nat)), (5, g_n (i : Int)), (6, .ref (κ xx 0)), (7, g_n r46)] [g_n 1] M53 (g_qV Q))))))) := by
            refine c_bindH (d := dd + 181) (s := 0) H' B1 B6 (by decide) he' hk hDe (by rw [b', ← hl]; exact q1) fun b1 M2 H2 f2 d1 t1 o1 => ?_
            rw [← hl] at d1
            rw [b'] at t1
            intro _ _ _
            have f2x : C_fx Ck_e ι M M2 := f'.tr (f2.up (by decide))
            have k2 := f2x.2.2 0 (by decide) (by decide) (by decide)
            have b2m := (f2x.2.2 2 (by decide) (by decide) (by decide)).1
            obtain ⟨-, C2, C3, ⟨-, C5⟩, -, -⟩ := H2.bc hx8 hst
            refine ⟨fun g10 => ?_, fun g10 => ⟨ι 50, H2.1.r (by decide), κ xx 4, H2.1.xr hx8 (a := 0) (by decide), H2.1.O (by decide), ?_⟩⟩
            · have hv2 := C3.mpr g10
              refine h145 b1 none M2 H2 f2x d1 ?_ t1 fun E hE => absurd hE (by simp)
              rw [hv2]
              exact trivial
            · obtain ⟨s2, hs2⟩ : ∃ s2, V.2.2.2 = some s2 := by
                cases hv : V.2.2.2 with
                | none => exact absurd (C3.mp hv) g10
                | some s2 => exact ⟨s2, rfl⟩
              rw [k2.1, h14, C5]
              have he2 : b_st (g_i M2 (ι 2)) 2008 pe De fe.1 fe.2.1 fe.2.2 := by
                rw [b2m]
                exact he
              refine c_bindH (d := dd + 181) (s := 1) H2 (C2 s2 hs2) B7 (by decide) he2 hk hDe (by rw [b2m, ← hl]; exact q2 s2 hs2) fun b2 M3 H3 f3 d2 t2 o2 => ?_
              rw [← hl] at d2
              rw [b2m] at t2
              intro _ _ _
              have h9 := h145 b1 b2 M3 H3 (f2x.tr (f3.up (by decide))) d1 (by rw [hs2]; exact d2) (fun E hE => ⟨o2 0 E (by decide) (by decide) (t1 E hE).1, (t1 E hE).2⟩) t2
              cases hb : b2 with
              | none =>
                rw [hb] at h9
                exact ⟨fun _ => h9, fun g => absurd rfl g⟩
              | some E2 =>
                rw [hb] at h9
                exact ⟨fun g => absurd (show (1 : Int) = 0 from g) (by decide), fun _ => h9⟩
          exact hb1c
    have h9 := hlp 4 0 (8, 0, 1) M1 rfl rfl ⟨⟨by decide, by decide⟩, ⟨by decide, by decide⟩, Or.inl rfl⟩ H1 (fx1.up (by decide))
    have e1 : D_lkn st l 8 ((D w).map Prod.snd) = (D w).length := by
      unfold D_lkn
      rw [if_pos rfl, List.length_map]
    have e2 : (if ((8, 0, 1) : Nat × Int × Int).1 = 8 then (-1 : Int) else ((((8, 0, 1) : Nat × Int × Int).1 : Nat) : Int) - 4 * (w : Int)) = -1 := if_pos rfl
    rw [e2] at h9
    have e3 : D_lkn st l ((8, 0, 1) : Nat × Int × Int).1 ((D w).map Prod.snd) = (D w).length := e1
    rw [e3] at h9
    exact h9
  · rw [if_neg h0]
    obtain ⟨w1', w2'⟩ := hw1 h0
    have hwR : g_InR (10 + R.1) := ⟨by omega, by omega⟩
    have hpR : g_InR R.2.1 := by
      rw [← w2']
      exact hok1.1 (ι 6) 5
    refine ⟨fun _ => ⟨ι 6, H1.1.r (by decide), c1, by rw [w1']; exact hwR, ι 6, H1.1.r (by decide), c1, ?_⟩, fun z => absurd rfl z⟩
    rw [w1', w2']
    refine c_failAt (d := dd + 229) (H1.1.O (by decide)) hwR hpR (hk2 h0) ?_
    exact fun _ _ => hf h0 M1 H1 fx1
end CEX2
