/-! CHANGES: whether a change is right: the class -/
section ISR
variable {d o b po pf pt ch wo : Nat} {F : Int → Int} {M M1 : g_M} {c : List h_F} {e p : b_E} {es l t mid mid2 : List b_E} {Q : Int → g_M → Prop}
theorem Y_all_snoc (cs : List b_E) (z : b_E) : Y_all (cs ++ [z]) = Y_all cs ++ Y_nm (b_ch z.2.2) := by
  unfold Y_all
  rw [List.flatMap_append]
  simp
theorem Y_nm_snoc (ys : List b_E) (y : b_E) : Y_nm (ys ++ [y]) = Y_nm ys ++ [y.2.1] := by
  unfold Y_nm
  simp
theorem c_isRightC {pc : Int} {D : Nat} {ce : b_E} (hO : X_O o b po pf pt ch wo M) (hs : b_st (g_i M b) 246408 pc D ce.1 ce.2.1 ce.2.2) (hk : ce.1 = 3) (hl : ce.2.2.length ≤ 3000) (h : Y_post o b po pf pt ch wo M Q (Y_os [] (L_ch pc ce))) : g_Call (d + 8) 20 [.ref o, g_n pc] M (g_qI Q) := by
  obtain ⟨⟨o1, o2, o3, o4, o5⟩, hP, och, ob, ow, owb⟩ := id hO
  obtain ⟨D1, eD, hsts, hlen⟩ := hs.kids (Or.inl hk)
  have hsR := hs.R (by decide)
  have hmany := b_ser_many (b_ch ce.2.2)
  have hB : ∃ B, B = g_i M b := ⟨_, rfl⟩
  obtain ⟨B, hB⟩ := hB
  rw [← hB] at hs hsts
  have hinn : ∀ (cs1 cs2 : List b_E) (z : b_E) (i : Nat) (zo : Int) (D2 : Nat), b_ch ce.2.2 = cs1 ++ z :: cs2 → (∀ e ∈ cs1, e.1 = 3) → z.1 = 3 → zo = pc + 6 + ce.2.1.length + (b_ser cs1).length → b_st B 246408 zo D2 z.1 z.2.1 z.2.2 → i < 2000 → ∀ (ys2 ys1 : List b_E) (M1 : g_M) (k : Nat) (q : Int), b_ch z.2.2 = ys1 ++ ys2 → X_O o b po pf pt ch wo M1 → g_i M1 b = B → k + ys2.length < 2000 → q = zo + 6 + z.2.1.length + (b_ser ys1).length → Y_post o b po pf pt ch wo M1 Q (if (Y_ps (X_op z.2.1) (Y_all cs1 ++ Y_nm ys1) (L_at q ys2)).1 = 0 then Y_os (Y_all cs1 ++ Y_nm (b_ch z.2.2)) (L_at (zo + (b_el z.1 z.2.1 z.2.2).length) cs2) else Y_ps (X_op z.2.1) (Y_all cs1 ++ Y_nm ys1) (L_at q ys2)) → (∀ M2, X_O o b po pf pt ch wo M2 → g_i M2 b = B → Y_post o b po pf pt ch wo M2 Q (Y_os (Y_all cs1 ++ Y_nm (b_ch z.2.2)) (L_at (zo + (b_el z.1 z.2.1 z.2.2).length) cs2)) → g_Run (d + 7) 20 11 [(0, .ref o), (1, g_n pc), (2, g_n (zo + (b_el z.1 z.2.1 z.2.2).length)), (3, g_n ((i : Int) + 1))] [] M2 (g_qI Q)) → g_Run (d + 7) 20 83 [(0, .ref o), (1, g_n pc), (2, g_n zo), (3, g_n i), (4, g_n (X_op z.2.1)), (5, g_n q), (6, g_n k)] [] M1 (g_qI Q) := by
    intro cs1 cs2 z i zo D2 hcs hk3 hz3 hzo hz hi ys2
    obtain ⟨D3, eD3, hysts, hylen⟩ := hz.kids (Or.inl hz3)
    have hzR := hz.R (by decide)
    have hzl := b_el_len z.1 z.2.1 z.2.2
    have hz5 := hz.2.2.2.2
    have hz4 := hz.2.2.2.1
    have hopR := X_op_R z.2.1
    have hopR2 : g_InR (X_op z.2.1) := ⟨by omega, by omega⟩
    induction ys2 with
    | nil =>
      intro ys1 M1 k q h1 h2 h3 h4 h5 h6 h7
      obtain ⟨⟨t1, t2, t3, t4, t5⟩, tP, tch, tb, tw, twb⟩ := id h2
      have hk2 := hysts
      rw [h1] at hk2
      have hk3 := hk2.app
      rw [← h5] at hk3
      have hqR : g_InR q := by
        have := hk3.2.2.1
        have := hk3.2.2.2.1
        exact ⟨by omega, by omega⟩
      have hps : Y_ps (X_op z.2.1) (Y_all cs1 ++ Y_nm ys1) (L_at q []) = (0, 0) := rfl
      rw [hps, if_pos rfl] at h6
      exact s_X1_isRight_83 hsR hzR ⟨by omega, by omega⟩ hopR2 hqR ⟨by omega, by omega⟩ fun _ => ⟨fun _ => ⟨t1, b, t2, c_kdE tb (by decide) (by rw [h3]; exact hk3) fun _ _ _ => ⟨fun _ => ⟨b, t2, c_nx2 tb (by decide) (by rw [h3]; exact hz) fun _ _ _ => ⟨⟨by omega, by omega⟩, h7 M1 h2 h3 h6⟩⟩, fun g => absurd rfl g⟩⟩, fun g => absurd (by rw [List.length_nil] at h4; omega) g⟩
    | cons y ys2 ih =>
      intro ys1 M1 k q h1 h2 h3 h4 h5 h6 h7
      obtain ⟨⟨t1, t2, t3, t4, t5⟩, tP, tch, tb, tw, twb⟩ := id h2
      rw [List.length_cons] at h4
      have hk2 := hysts
      rw [h1] at hk2
      have hk3' := hk2.app
      rw [← h5] at hk3'
      have hy := hk3'.cons.1
      have hyR := hy.R (by decide)
      have hyk := b_vs_pos (b_gv_vs hy.2.2.1)
      have hy5 := hy.2.2.2.2
      have hy4 := hy.2.2.2.1
      have hybl := b_el_len y.1 y.2.1 y.2.2
      have hps : Y_ps (X_op z.2.1) (Y_all cs1 ++ Y_nm ys1) (L_at q (y :: ys2)) = if Y_ok y.2.1 = true then (if X_op z.2.1 = 3 ∧ ¬ (y.1 = 16 ∨ y.1 = 18) then (4, q) else if ((Y_all cs1 ++ Y_nm ys1).any fun x => X_bg x y.2.1) = true then (5, q) else Y_ps (X_op z.2.1) (Y_all cs1 ++ Y_nm ys1 ++ [y.2.1]) (L_at (q + (b_el y.1 y.2.1 y.2.2).length) ys2)) else (3, q) := rfl
      rw [hps] at h6
      have hkeep : ∀ M2, g_fr (p_S po pf pt) M1 M2 → p_P M2 po pf pt → X_O o b po pf pt ch wo M2 ∧ g_i M2 b = B ∧ ∀ R, Y_post o b po pf pt ch wo M1 Q R → Y_post o b po pf pt ch wo M2 Q R := fun M2 f2 hP2 => by
        obtain ⟨a1, a2, a3⟩ := h2.nm f2 hP2
        exact ⟨a1, a2.trans h3, fun R hR => hR.tr (f2.up fun y hy => Or.inr hy) a2 fun k _ _ => by rw [a3]⟩
      refine s_X1_isRight_83 hsR hzR ⟨by omega, by omega⟩ hopR2 hyR ⟨by omega, by omega⟩ fun _ => ⟨fun _ => ⟨t1, b, t2, c_kd2 tb (by decide) (by rw [h3]; exact hy) fun _ _ _ => ⟨fun g => absurd g (by omega), fun _ => ⟨po, t3, b, t2, tP.1, ?_⟩⟩⟩, fun g => absurd (by omega) g⟩
      refine c_name (d := d + 5) tP tb (by decide) (by rw [h3]; exact hy) (fun hok M2 f2 hP2 _ => ?_) (fun hok M2 f2 hP2 => ?_)
      · obtain ⟨hO2, hb2, hpo⟩ := hkeep M2 f2 hP2
        obtain ⟨⟨u1, u2, u3, u4, u5⟩, uP, uch, ub, uw, uwb⟩ := id hO2
        rw [if_pos (Y_ok_iff.mpr hok)] at h6
        intro _ _ _
        have h153 : ¬ (X_op z.2.1 = 3 ∧ ¬ (y.1 = 16 ∨ y.1 = 18)) → g_Run (d + 7) 20 153 [(0, .ref o), (1, g_n pc), (2, g_n zo), (3, g_n i), (4, g_n (X_op z.2.1)), (5, g_n q), (6, g_n k)] [] M2 (g_qI Q) := by
          intro hnn
          rw [if_neg hnn] at h6
          refine s_X1_isRight_153 hsR hzR ⟨by omega, by omega⟩ hopR2 hyR ⟨by omega, by omega⟩ fun hg2 => ⟨u1, ?_⟩
          have hcl := c_clashes (d := d + 1) (Q := fun r5 M3 => g_ext M2 M3 → g_ok M3 → g_InR r5 → ((r5 = 0 → ∃ b7, g_r M3 o 0 = some b7 ∧ g_Call (d + 7) 111 [.ref b7, g_n q] M3 (g_qI fun r12 M9 => g_ext M3 M9 → g_ok M9 → g_InR r12 → g_InR ((k : Int) + 1) ∧ g_Run (d + 7) 20 83 [(0, .ref o), (1, g_n pc), (2, g_n zo), (3, g_n i), (4, g_n (X_op z.2.1)), (5, g_n r12), (6, g_n ((k : Int) + 1))] [] M9 (g_qI Q))) ∧ (¬ r5 = 0 → g_Call (d + 7) 19 [.ref o, g_n 5, g_n q] M3 (g_qI fun r18 M15 => g_ext M3 M15 → g_ok M15 → g_InR r18 → (r18 = 0 ∨ r18 = 1) ∧ Q r18 M15)))) hg2 hO2 (by rw [hb2]; exact hs) hk hl hcs hk3 hz3 h1 ?_
          · rw [← hzo, ← h5] at hcl
            exact hcl
          · intro _ _ _
            by_cases hcb : ((Y_all cs1 ++ Y_nm ys1).any fun x => X_bg x y.2.1) = true
            · rw [if_pos hcb] at h6 ⊢
              rw [if_neg (show ¬ ((5 : Int), q).1 = 0 by show ¬ (5 : Int) = 0; decide)] at h6
              exact ⟨fun g => absurd g (by decide), fun _ => c_failsC hO2 ⟨by decide, by decide⟩ (by decide) hyR (hpo _ h6)⟩
            · rw [if_neg hcb] at h6 ⊢
              refine ⟨fun _ => ⟨b, u2, c_nx2 ub (by decide) (by rw [hb2]; exact hy) fun _ _ _ => ⟨⟨by omega, by omega⟩, ?_⟩⟩, fun g => absurd rfl g⟩
              refine ih (ys1 ++ [y]) M2 (k + 1) (q + (b_el y.1 y.2.1 y.2.2).length) (by rw [h1]; simp) hO2 hb2 (by omega) ?_ ?_ h7
              · rw [b_ser_app, List.length_append, b_ser_1]
                omega
              · rw [Y_nm_snoc, ← List.append_assoc]
                exact hpo _ h6
        refine ⟨fun g => absurd g (by decide), fun _ => ⟨fun g3 => ⟨b, u2, c_isNum ub ⟨by decide, by decide⟩ hyR ?_⟩, fun g3 => h153 fun z => g3 z.1⟩⟩
        rw [b_kd_in (by omega) (by omega), hb2, hy.val.2.2.2]
        intro _ _ _
        by_cases hn : y.1 = 16 ∨ y.1 = 18
        · rw [if_pos hn]
          exact ⟨fun g => absurd g (by decide), fun _ => h153 fun z => z.2 hn⟩
        · rw [if_neg hn]
          rw [if_pos (show X_op z.2.1 = 3 ∧ ¬ (y.1 = 16 ∨ y.1 = 18) from ⟨g3, hn⟩), if_neg (show ¬ ((4 : Int), q).1 = 0 by show ¬ (4 : Int) = 0; decide)] at h6
          exact ⟨fun _ => c_failsC hO2 ⟨by decide, by decide⟩ (by decide) hyR (hpo _ h6), fun g => absurd rfl g⟩
      · obtain ⟨hO2, hb2, hpo⟩ := hkeep M2 f2 hP2
        rw [if_neg fun z => hok (Y_ok_iff.mp z), if_neg (show ¬ ((3 : Int), q).1 = 0 by show ¬ (3 : Int) = 0; decide)] at h6
        intro _ _ _
        exact ⟨fun _ => c_failsC hO2 ⟨by decide, by decide⟩ (by decide) hyR (hpo _ h6), fun g => absurd rfl g⟩
  have hout : ∀ (cs2 cs1 : List b_E) (M1 : g_M) (i : Nat) (q : Int), b_ch ce.2.2 = cs1 ++ cs2 → (∀ e ∈ cs1, e.1 = 3) → q = pc + 6 + ce.2.1.length + (b_ser cs1).length → X_O o b po pf pt ch wo M1 → g_i M1 b = B → i + cs2.length < 2000 → Y_post o b po pf pt ch wo M1 Q (Y_os (Y_all cs1) (L_at q cs2)) → g_Run (d + 7) 20 11 [(0, .ref o), (1, g_n pc), (2, g_n q), (3, g_n i)] [] M1 (g_qI Q) := by
    intro cs2
    induction cs2 with
    | nil =>
      intro cs1 M1 i q h1 h2 h3 h4 h5 h6 h7
      obtain ⟨⟨t1, t2, t3, t4, t5⟩, tP, tch, tb, tw, twb⟩ := id h4
      have hk2 := hsts
      rw [h1] at hk2
      have hk3 := hk2.app
      rw [← h3] at hk3
      have hqR : g_InR q := by
        have := hk3.2.2.1
        have := hk3.2.2.2.1
        exact ⟨by omega, by omega⟩
      have hq1 := h7 M1 (g_fr.rf _ _) h4 rfl (fun _ _ _ => rfl) fun g => absurd rfl g
      exact s_X1_isRight_11 hsR hqR ⟨by omega, by omega⟩ fun _ => ⟨fun _ => ⟨t1, b, t2, c_kdE tb (by decide) (by rw [h5]; exact hk3) fun _ _ _ => ⟨fun _ => hq1, fun g => absurd rfl g⟩⟩, fun g => absurd (by rw [List.length_nil] at h6; omega) g⟩
    | cons z cs2 ih =>
      intro cs1 M1 i q h1 h2 h3 h4 h5 h6 h7
      obtain ⟨⟨t1, t2, t3, t4, t5⟩, tP, tch, tb, tw, twb⟩ := id h4
      rw [List.length_cons] at h6
      have hk2 := hsts
      rw [h1] at hk2
      have hk3 := hk2.app
      rw [← h3] at hk3
      have hz := hk3.cons.1
      have hzR := hz.R (by decide)
      have hzk := b_vs_pos (b_gv_vs hz.2.2.1)
      have hz' : b_st (g_i M1 b) 246408 q D1 z.1 z.2.1 z.2.2 := by rw [h5]; exact hz
      have hos : Y_os (Y_all cs1) (L_at q (z :: cs2)) = if X_op z.2.1 = 0 then (1, q) else if z.1 = 3 then (if (Y_ps (X_op z.2.1) (Y_all cs1) (L_ch q z)).1 = 0 then Y_os (Y_all cs1 ++ Y_nm (b_ch z.2.2)) (L_at (q + (b_el z.1 z.2.1 z.2.2).length) cs2) else Y_ps (X_op z.2.1) (Y_all cs1) (L_ch q z)) else (2, q) := rfl
      rw [hos] at h7
      refine s_X1_isRight_11 hsR hzR ⟨by omega, by omega⟩ fun _ => ⟨fun _ => ⟨t1, b, t2, c_kd2 tb (by decide) hz' fun _ _ _ => ⟨fun g => absurd g (by omega), fun _ => ⟨b, t2, c_opOf (d := d + 3) tb (by decide) hz' fun _ _ _ => ⟨fun g => ?_, fun g => ⟨b, t2, c_kd2 tb (by decide) hz' fun _ _ _ => ⟨fun g3 => ⟨b, t2, c_fi2 tb (by decide) hz' fun _ _ _ => ?_⟩, fun g3 => ?_⟩⟩⟩⟩⟩⟩, fun g => absurd (by omega) g⟩
      · rw [if_pos g] at h7
        exact c_failsC h4 ⟨by decide, by decide⟩ (by decide) hzR h7
      · rw [if_neg g, if_pos g3] at h7
        have hzl := (hz.kids (Or.inl g3))
        obtain ⟨D3, -, -, hkl⟩ := hzl
        have hkm := b_ser_many (b_ch z.2.2)
        have hzb := b_el_len z.1 z.2.1 z.2.2
        have hcl := congrArg List.length (b_ser_app cs1 (z :: cs2))
        rw [List.length_append, b_ser_len, ← h1] at hcl
        refine hinn cs1 cs2 z i q D1 h1 h2 g3 h3 hz (by omega) (b_ch z.2.2) [] M1 0 _ rfl h4 h5 (by omega) ?_ ?_ fun M2 hO2 hb2 hP2 => ?_
        · show q + 6 + (z.2.1.length : Int) = q + 6 + z.2.1.length + ((0 : Nat) : Int)
          omega
        · have hY : Y_all cs1 ++ Y_nm [] = Y_all cs1 := List.append_nil _
          rw [hY]
          exact h7
        · refine ih (cs1 ++ [z]) M2 (i + 1) _ (by rw [h1]; simp) (fun e he => ?_) ?_ hO2 hb2 (by omega) (by rw [Y_all_snoc]; exact hP2)
          · rcases List.mem_append.mp he with he | he
            · exact h2 e he
            · have := List.mem_singleton.mp he
              subst this
              exact g3
          · rw [b_ser_app, List.length_append, b_ser_1]
            omega
      · rw [if_neg g, if_neg g3] at h7
        exact c_failsC h4 ⟨by decide, by decide⟩ (by decide) hzR h7
  refine m_X1_isRight hsR fun _ => ⟨o1, b, o2, c_fi2 ob (by decide) (by rw [← hB]; exact hs) fun _ _ _ => ?_⟩
  refine hout (b_ch ce.2.2) [] M 0 _ rfl (fun e he => absurd he (by simp)) ?_ hO hB.symm (by omega) h
  show pc + 6 + (ce.2.1.length : Int) = pc + 6 + ce.2.1.length + ((0 : Nat) : Int)
  omega
end ISR
