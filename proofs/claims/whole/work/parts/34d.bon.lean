/-! EXPLAIN, THE CLASS: the bounds of one condition, of $elem -/
theorem L_at_sn0 {A : List b_E} {z : b_E} {c qq : Int} (hq : qq = c + (b_ser A).length) : L_at c (A ++ [z]) = L_at c A ++ [(qq, z)] := by
  rw [L_at_ap, hq]
  rfl
section BDD
variable {o rm b ss cn d : Nat} {r : Nat → Nat} {n : Int} {M M1 : g_M} {A B : List D_i}
theorem L_ch_stc {F : Int → Int} {y : Int × b_E} {D : Nat} (hy : b_st F n y.1 D y.2.1 y.2.2.1 y.2.2.2) (hk : y.2.1 = 3 ∨ y.2.1 = 4) : ∃ (D1 : Nat) (xs : List b_E), D = D1 + 1 ∧ b_sts F n (y.1 + 6 + y.2.2.1.length) D1 xs ∧ L_ch y.1 y.2 = L_at (y.1 + 6 + y.2.2.1.length) xs ∧ y.2.2.2 = b_doc xs ∧ 2 * xs.length + 5 ≤ y.2.2.2.length := by
  obtain ⟨D1, xs, e1, e2, -, e4, -, -, e7, e8⟩ := hy.ch hk
  exact ⟨D1, xs, e1, e4, e7, e2, e8⟩
theorem b_sts.at {F : Int → Int} {D : Nat} {A : List b_E} {z : b_E} {B : List b_E} {c : Int} (h : b_sts F n c D (A ++ z :: B)) : b_st F n (c + (b_ser A).length) D z.1 z.2.1 z.2.2 := h.app.cons.1
theorem L_at_stc {F : Int → Int} {D : Nat} {xs : List b_E} {c : Int} (h : b_sts F n c D xs) : ∀ z ∈ L_at c xs, b_st F n z.1 D z.2.1 z.2.2.1 z.2.2.2 := by
  have : ∀ (B A : List b_E), xs = A ++ B → ∀ z ∈ L_at (c + (b_ser A).length) B, b_st F n z.1 D z.2.1 z.2.2.1 z.2.2.2 := by
    intro B
    induction B with
    | nil => exact fun A _ z hz => absurd hz (by simp [L_at])
    | cons x B ih =>
      intro A hA z hz
      rcases List.mem_cons.mp hz with g | g
      · rw [g]
        rw [hA] at h
        exact h.at
      · refine ih (A ++ [x]) (by rw [hA]; simp) z ?_
        rw [b_ser_app, List.length_append]
        have e : (b_ser [x]).length = (b_el x.1 x.2.1 x.2.2).length := by
          show (b_el x.1 x.2.1 x.2.2 ++ []).length = _
          rw [List.append_nil]
        rw [e, Int.natCast_add, ← Int.add_assoc]
        exact g
  intro z hz
  refine this xs [] rfl z ?_
  have e : c + ((b_ser ([] : List b_E)).length : Int) = c := by
    show c + ((0 : Nat) : Int) = c
    omega
  rw [e]
  exact hz
theorem c_bindOne {Q : Int → g_M → Prop} {s : Nat} {y : Int × b_E} (h : Bd_o o rm b ss cn r M) (hb : g_A M b 0 n) (hn : n ≤ 1000000000) (hs : s < 5) (hy : b_st (g_i M b) n y.1 20 y.2.1 y.2.2.1 y.2.2.2) (hvl : y.2.2.2.length ≤ 199000) (hin : F_cd y.2.2.1 = 3 → y.2.1 = 4) (hl : F_cd y.2.2.1 = 3 → (L_ch y.1 y.2).length ≤ 700) (hno : D_bo (decide (F_cd y.2.2.1 = 0)) y = none → ∀ M1, e_fr (Bd_F cn r (fun j => j = s)) M M1 → Q 0 M1) (hq : ∀ P M1, D_bo (decide (F_cd y.2.2.1 = 0)) y = some P → e_fr (Bd_F cn r (fun j => j = s)) M M1 → Bd_S cn r s P M1 → Q 1 M1) : g_Call (d + 48) 10 [.ref o, g_n y.1, g_n (s : Int)] M (g_qI Q) := by
  obtain ⟨k1, ⟨q1, q2, q3, q4⟩, A1, A2, hr, hinj⟩ := id h
  have hyR := hy.R hn
  have hsR : g_InR (s : Int) := ⟨by omega, by omega⟩
  have hcd := F_cd_R y.2.2.1
  refine m_X0_bindOne (a0 := o) (d := d + 47) hyR hsR fun _ => ⟨k1, b, q2, c_condOf (d := d + 43) hb hn hy ?_⟩
  intro _ _ _
  refine ⟨cn, q4, 5, A2, ⟨by omega, by omega⟩, fun M14 x14 _ => ?_⟩
  have f14 : e_fr (Bd_F cn r (fun j => j = s)) M M14 := by
    rw [x14]
    exact e_fr.wi _ (Or.inl ⟨rfl, s, rfl, rfl⟩)
  have S14 : Bd_S cn r s [] M14 := ⟨by
    rw [x14, g_i_ws, if_pos rfl]
    rfl, fun i x hi => absurd hi (by simp)⟩
  have bF : ∀ {M' : g_M}, e_fr (Bd_F cn r (fun j => j = s)) M M' → g_i M' b = g_i M b := fun f => funext fun k => f.2.1 _ _ (Bd_F_A h hb fun g => absurd g (by decide))
  have h14 := h.fr f14
  have F14 := bF f14
  obtain ⟨al, hal⟩ : ∃ al, al = decide (F_cd y.2.2.1 = 0) := ⟨_, rfl⟩
  rw [← hal] at hno hq
  have hDk : D_k al y = if F_cd y.2.2.1 = 0 then 1 else F_cd y.2.2.1 := by
    unfold D_k
    rw [hal]
    by_cases g : F_cd y.2.2.1 = 0
    · rw [if_pos (decide_eq_true g), if_pos g]
    · rw [if_neg (by rw [decide_eq_false g]; decide), if_neg g]
  refine ⟨fun g3 => ?_, fun g3 => ?_⟩
  case refine_2 =>
    refine c_bindSimple (d := d + 43) (al := al) h14 (f14.A hb) hn hs S14 (by rw [F14]; exact hy) hcd hDk g3 (fun e => ?_) fun P M1 e f1 S1 => ?_
    · intro _ _ _
      exact ⟨Or.inl rfl, hno e M14 f14⟩
    · intro _ _ _
      exact ⟨Or.inr rfl, hq P M1 e (f14.tr f1) S1⟩
  have hk4 := hin g3
  have hlch := hl g3
  obtain ⟨D1, xs, eD, hsts, hLc, hvb, -⟩ := L_ch_stc hy (Or.inr hk4)
  obtain ⟨c, hc⟩ : ∃ c, c = y.1 + 6 + (y.2.2.1.length : Int) := ⟨_, rfl⟩
  rw [← hc] at hsts hLc
  have hD3 : D_k al y = 3 := by
    rw [hDk, if_neg (by omega)]
    exact g3
  have hbo : D_bo al y = if ((L_at c xs).any fun z => decide (z.2.1 = 4)) = true then none else some ((D_aps [] (L_at c xs)).map D_pt) := by
    unfold D_bo
    rw [if_pos hD3, hLc]
  rw [hLc] at hlch
  have hzl : ∀ z ∈ L_at c xs, z.2.2.2.length ≤ 199000 := fun z hz => by
    have h1 : z.2 ∈ xs := by
      have := List.mem_map_of_mem (f := Prod.snd) hz
      rwa [L_at_snd] at this
    have h2 := b_ser_mem h1
    rw [hvb, b_doc_len] at hvl
    omega
  refine ⟨b, h14.2.1.2.1, c_fi2 (d := d + 46) (f14.A hb) hn (by rw [F14]; exact hy) ?_⟩
  intro _ _ _
  rw [← hc]
  have hlp : ∀ (X2 X1 : List b_E) (M' : g_M), xs = X1 ++ X2 → ((L_at c X1).any fun z => decide (z.2.1 = 4)) = false → e_fr (Bd_F cn r (fun j => j = s)) M M' → Bd_S cn r s ((D_aps [] (L_at c X1)).map D_pt) M' → g_Run (d + 47) 10 42 [(0, .ref o), (1, g_n y.1), (2, g_n (s : Int)), (3, g_n (F_cd y.2.2.1)), (4, g_n (c + (b_ser X1).length)), (5, g_n (X1.length : Int))] [] M' (g_qI Q) := by
    intro X2
    induction X2 with
    | nil =>
      intro X1 M' hX hany f' S'
      rw [List.append_nil] at hX
      have h' := h.fr f'
      have hb' := f'.A hb
      have hE : b_sts (g_i M' b) n (c + (b_ser X1).length) D1 [] := by
        rw [bF f', ← hX]
        have h9 : b_sts (g_i M b) n c D1 (xs ++ []) := by
          rw [List.append_nil]
          exact hsts
        exact h9.app
      have hq0 := hE.2.2
      have hXl : X1.length ≤ 700 := by
        rw [← hX]
        rw [L_at_len] at hlch
        exact hlch
      rw [hX, if_neg (by rw [hany]; decide)] at hbo
      have hfin := hq _ M' hbo f' S'
      refine s_X0_bindOne_42 hyR hsR ⟨by omega, by omega⟩ ⟨by omega, by omega⟩ ⟨by omega, by omega⟩ fun _ => ⟨fun _ => ⟨h'.1, b, h'.2.1.2.1, c_kdE (d := d + 46) hb' hn hE ?_⟩, fun g => absurd (by omega) g⟩
      intro _ _ _
      exact ⟨fun _ => hfin, fun g => absurd rfl g⟩
    | cons z X2 ih =>
      intro X1 M' hX hany f' S'
      have h' := h.fr f'
      have hb' := f'.A hb
      obtain ⟨q, hqq⟩ : ∃ q, q = c + ((b_ser X1).length : Int) := ⟨_, rfl⟩
      have hz : b_st (g_i M b) n q D1 z.1 z.2.1 z.2.2 := by
        rw [hX] at hsts
        rw [hqq]
        exact hsts.at
      have hz' : b_st (g_i M' b) n q D1 z.1 z.2.1 z.2.2 := by
        rw [bF f']
        exact hz
      have hzR := hz.R hn
      have hzk := b_vs_pos (b_gv_vs hz.2.2.1)
      have hsn : L_at c (X1 ++ [z]) = L_at c X1 ++ [(q, z)] := L_at_sn0 hqq
      have hXl := congrArg List.length hX
      rw [List.length_append, List.length_cons] at hXl
      rw [L_at_len] at hlch
      have hzm : (q, z) ∈ L_at c xs := by
        have e : xs = (X1 ++ [z]) ++ X2 := by rw [hX]; simp
        rw [e, L_at_ap, hsn]
        simp
      have hLX : ∀ u ∈ L_at c X1, u ∈ L_at c xs := fun u hu => by
        rw [hX, L_at_ap]
        exact List.mem_append_left _ hu
      have hPl := (D_aps_len (L_at c X1) []).1
      have hPm := (D_aps_len (L_at c X1) []).2
      rw [L_at_len, List.length_nil] at hPl
      rw [← hqq]
      obtain ⟨P, hP⟩ : ∃ P, P = D_aps [] (L_at c X1) := ⟨_, rfl⟩
      rw [← hP] at S' hPl hPm
      have hPst : ∀ u ∈ P, b_st (g_i M b) n u.1 20 u.2.1 u.2.2.1 u.2.2.2 ∧ u.2.2.2.length ≤ 199000 := fun u hu => by
        rcases hPm u hu with g | g
        · exact absurd g (by simp)
        · exact ⟨(L_at_stc hsts u (hLX u g)).le (by omega), hzl u (hLX u g)⟩
      refine s_X0_bindOne_42 hyR hsR ⟨by omega, by omega⟩ hzR ⟨by omega, by omega⟩ fun _ => ⟨fun _ => ⟨h'.1, b, h'.2.1.2.1, c_kd2 (d := d + 46) hb' hn hz' ?_⟩, fun g => absurd (by omega) g⟩
      intro _ _ _
      refine ⟨fun g => absurd g (by omega), fun _ => ⟨b, h'.2.1.2.1, c_kd2 (d := d + 46) hb' hn hz' ?_⟩⟩
      intro _ _ _
      refine ⟨fun g4 => ?_, fun g4 => ?_⟩
      · refine hno ?_ M' f'
        rw [hbo, if_pos]
        exact List.any_eq_true.mpr ⟨(q, z), hzm, decide_eq_true g4⟩
      · have hany2 : ((L_at c (X1 ++ [z])).any fun z => decide (z.2.1 = 4)) = false := by
          rw [hsn, List.any_append, hany]
          simp [g4]
        have hnext : ∀ M2, e_fr (Bd_F cn r (fun j => j = s)) M' M2 → Bd_S cn r s ((D_ap P (q, z)).map D_pt) M2 → g_Run (d + 47) 10 42 [(0, .ref o), (1, g_n y.1), (2, g_n (s : Int)), (3, g_n (F_cd y.2.2.1)), (4, g_n (q + (b_el z.1 z.2.1 z.2.2).length)), (5, g_n ((X1.length : Int) + 1))] [] M2 (g_qI Q) := fun M2 f2 S2 => by
          have h9 := ih (X1 ++ [z]) M2 (by rw [hX]; simp) hany2 (f'.tr f2) (by rw [hsn, D_aps_snoc, ← hP]; exact S2)
          have e : (b_ser [z]).length = (b_el z.1 z.2.1 z.2.2).length := by
            show (b_el z.1 z.2.1 z.2.2 ++ []).length = _
            rw [List.append_nil]
          rw [show ((X1 ++ [z]).length : Int) = (X1.length : Int) + 1 by rw [List.length_append, List.length_singleton]; omega, b_ser_app, List.length_append, e, Int.natCast_add, ← Int.add_assoc, ← hqq] at h9
          exact h9
        have hadv : ∀ M2, e_fr (Bd_F cn r (fun j => j = s)) M' M2 → Bd_S cn r s ((D_ap P (q, z)).map D_pt) M2 → g_Call (d + 47) 111 [.ref b, g_n q] M2 (g_qI fun r7 M4 => g_ext M2 M4 → g_ok M4 → g_InR r7 → g_InR ((X1.length : Int) + 1) ∧ g_Run (d + 47) 10 42 [(0, .ref o), (1, g_n y.1), (2, g_n (s : Int)), (3, g_n (F_cd y.2.2.1)), (4, g_n r7), (5, g_n ((X1.length : Int) + 1))] [] M4 (g_qI Q)) := fun M2 f2 S2 => by
          refine c_nx2 (d := d + 46) (f2.A hb') hn (by rw [bF (f'.tr f2)]; exact hz) ?_
          intro _ _ _
          exact ⟨⟨by omega, by omega⟩, hnext M2 f2 S2⟩
        have h142 : ∀ (t : Bool) (v7 : Int), g_InR v7 → t = (P.any fun u => F_eq u.2 z) → g_Run (d + 47) 10 142 [(0, .ref o), (1, g_n y.1), (2, g_n (s : Int)), (3, g_n (F_cd y.2.2.1)), (4, g_n q), (5, g_n (X1.length : Int)), (6, g_n (if t = true then 1 else 0)), (7, g_n v7)] [] M' (g_qI Q) := fun t v7 h7 ht => by
          have hap : D_ap P (q, z) = if (P.any fun u => F_eq u.2 z) = true then P else P ++ [(q, z)] := rfl
          refine s_X0_bindOne_142 hyR hsR ⟨by omega, by omega⟩ hzR ⟨by omega, by omega⟩ (by cases t <;> exact ⟨by decide, by decide⟩) h7 fun _ => ⟨fun g => ⟨h'.1, ?_⟩, fun g => ⟨h'.1, b, h'.2.1.2.1, hadv M' (e_fr.rf _ _) ?_⟩⟩
          · have t0 : t = false := by
              cases t
              · rfl
              · exact absurd g (by decide)
            refine c_addPoint (d := d + 44) (y := (q, z)) h' hb' hn hs S' (by rw [List.length_map]; omega) (hz'.le (by omega)) fun M1 f1 S1 => ?_
            intro _ _
            have h1 := h'.fr f1
            refine ⟨b, h1.2.1.2.1, hadv M1 f1 ?_⟩
            rw [hap, if_neg (by rw [← ht, t0]; decide), List.map_append]
            exact S1
          · have t1 : t = true := by
              cases t
              · exact absurd rfl g
              · rfl
            rw [hap, if_pos (by rw [← ht]; exact t1)]
            exact S'
        have h83 : ∀ (P2 P1 : List (Int × b_E)) (t : Bool), P = P1 ++ P2 → t = (P1.any fun u => F_eq u.2 z) → g_Run (d + 47) 10 83 [(0, .ref o), (1, g_n y.1), (2, g_n (s : Int)), (3, g_n (F_cd y.2.2.1)), (4, g_n q), (5, g_n (X1.length : Int)), (6, g_n (if t = true then 1 else 0)), (7, g_n (P1.length : Int))] [] M' (g_qI Q) := by
          intro P2
          induction P2 with
          | nil =>
            intro P1 t hPP ht
            rw [List.append_nil] at hPP
            have hPPl := congrArg List.length hPP
            have hc2 := S'.1
            rw [List.length_map] at hc2
            refine s_X0_bindOne_83 hyR hsR ⟨by omega, by omega⟩ hzR ⟨by omega, by omega⟩ (by cases t <;> exact ⟨by decide, by decide⟩) ⟨by omega, by omega⟩ fun _ => ⟨h'.1, cn, h'.2.1.2.2.2, 5, h'.2.2.2.1, ⟨by omega, by omega⟩, fun g => absurd g (by rw [hc2, hPP]; omega), fun _ => h142 t _ ⟨by omega, by omega⟩ (by rw [hPP]; exact ht)⟩
          | cons u P2 ihp =>
            intro P1 t hPP ht
            have hll := congrArg List.length hPP
            rw [List.length_append, List.length_cons] at hll
            have hc2 := S'.1
            rw [List.length_map] at hc2
            have hui : (P.map D_pt)[P1.length]? = some (D_pt u) := by
              rw [List.getElem?_map, hPP, List.getElem?_append_right (Nat.le_refl _), Nat.sub_self]
              rfl
            obtain ⟨-, u1, -, -⟩ := S'.2 _ _ hui
            have u1 : g_i M' (r s) ((P1.length : Int) * 4 + 1) = u.1 := u1
            obtain ⟨s1, s2⟩ := h'.2.2.2.2.1 s hs
            obtain ⟨w1, w2⟩ := hPst u (by rw [hPP]; simp)
            refine s_X0_bindOne_83 hyR hsR ⟨by omega, by omega⟩ hzR ⟨by omega, by omega⟩ (by cases t <;> exact ⟨by decide, by decide⟩) ⟨by omega, by omega⟩ fun _ => ⟨h'.1, cn, h'.2.1.2.2.2, 5, h'.2.2.2.1, ⟨by omega, by omega⟩, fun _ => ⟨fun g => ⟨b, h'.2.1.2.1, b, h'.2.1.2.1, ss, h'.2.1.2.2.1, 5, h'.2.2.1, ⟨by omega, by omega⟩, r s, s1, ⟨by omega, by omega⟩, ⟨by omega, by omega⟩, 2800, s2, ⟨by omega, by omega⟩, ?_⟩, fun g => h142 t _ ⟨by omega, by omega⟩ ?_⟩, fun g => absurd (by rw [hc2]; omega) g⟩
            · rw [u1]
              have hcq : v_cmp 61 z.1 z.2.2 u.2.1 u.2.2.2 = 0 ↔ F_eq u.2 z = true := by
                refine ⟨fun e => F_eq_sy (decide_eq_true e), fun e => of_decide_eq_true (F_eq_sy e)⟩
              have t0 : t = false := by
                cases t
                · rfl
                · exact absurd g (by decide)
              have hn2 : ∀ t2 : Bool, t2 = F_eq u.2 z → g_Run (d + 47) 10 83 [(0, .ref o), (1, g_n y.1), (2, g_n (s : Int)), (3, g_n (F_cd y.2.2.1)), (4, g_n q), (5, g_n (X1.length : Int)), (6, g_n (if t2 = true then 1 else 0)), (7, g_n ((P1.length : Int) + 1))] [] M' (g_qI Q) := fun t2 ht2 => by
                have h9 := ihp (P1 ++ [u]) t2 (by rw [hPP]; simp) (by
                  rw [List.any_append, ← ht, t0, Bool.false_or, ht2]
                  simp)
                rw [show ((P1 ++ [u]).length : Int) = (P1.length : Int) + 1 by rw [List.length_append, List.length_singleton]; omega] at h9
                exact h9
              refine c_compare 20 (F := 60) (d := d + 3) hb' hb' hn hn (hzl _ hzm) (hz'.le (by omega)) (by rw [bF f']; exact w1) (by decide) (by decide) (by decide) ?_
              intro _ _ _
              refine ⟨fun e => ⟨⟨by omega, by omega⟩, hn2 true (hcq.mp e).symm⟩, fun e => ⟨⟨by omega, by omega⟩, hn2 false ?_⟩⟩
              cases hf : F_eq u.2 z
              · rfl
              · exact absurd (hcq.mpr hf) e
            · have t1 : t = true := by
                cases t
                · exact absurd rfl g
                · rfl
              rw [t1] at ht ⊢
              rw [hPP, List.any_append, ← ht, Bool.true_or]
        exact h83 P [] false rfl rfl
  have h9 := hlp xs [] M14 rfl rfl f14 S14
  rw [show c + ((b_ser ([] : List b_E)).length : Int) = c by show c + ((0 : Nat) : Int) = c; omega] at h9
  exact h9
end BDD
