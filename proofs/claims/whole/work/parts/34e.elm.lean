/-! EXPLAIN, THE CLASS: the bounds of $elem -/
/-- there is room for all that is met -/
def Bd_rm (l : List (Int × b_E)) : Prop := ∀ l1 f l2, l = l1 ++ f :: l2 → F_cd f.2.2.1 ≠ 0 ∧ (F_cd f.2.2.1 = 3 → f.2.1 = 4) ∧ (F_cd f.2.2.1 = 3 → (L_ch f.1 f.2).length ≤ 690) ∧ ∀ P, D_bo false f = some P → P.length ≤ 690 ∧ ∀ A, D_els none l1 = some A → A.length ≤ 690 ∧ (D_mts A P).length ≤ 690
section BDE
variable {o rm b ss cn d : Nat} {r : Nat → Nat} {n : Int} {M M1 : g_M} {A B : List D_i}
theorem Bd_pt_io {F : Int → Int} {y : Int × b_E} (hy : b_st F n y.1 20 y.2.1 y.2.2.1 y.2.2.2) (hl : y.2.2.2.length ≤ 199000) : Bd_io F n (D_pt y) := by
  have hc := b_cl_R y.2.1
  exact ⟨⟨hc, fun _ => ⟨hy, rfl, hl⟩⟩, ⟨hc, fun _ => ⟨hy, rfl, hl⟩⟩⟩
theorem Bd_bo_io {F : Int → Int} {al : Bool} {y : Int × b_E} {P : List D_i} (hy : b_st F n y.1 20 y.2.1 y.2.2.1 y.2.2.2) (hl : y.2.2.2.length ≤ 199000) (hk : D_k al y = 3 → y.2.1 = 4) (h : D_bo al y = some P) : ∀ x ∈ P, Bd_io F n x := by
  have hc := b_cl_R y.2.1
  by_cases g3 : D_k al y = 3
  · have hk4 := hk g3
    obtain ⟨D1, xs, eD, hsts, hLc, hvb, -⟩ := L_ch_stc hy (Or.inr hk4)
    unfold D_bo at h
    rw [if_pos g3] at h
    split at h
    · exact absurd h (by simp)
    · have h := Option.some.inj h
      intro x hx
      rw [← h] at hx
      obtain ⟨z, hz, rfl⟩ := List.mem_map.mp hx
      rcases (D_aps_len (L_ch y.1 y.2) []).2 z hz with g | g
      · exact absurd g (by simp)
      · rw [hLc] at g
        have h1 : z.2 ∈ xs := by
          have := List.mem_map_of_mem (f := Prod.snd) g
          rwa [L_at_snd] at this
        have h2 := b_ser_mem h1
        rw [hvb, b_doc_len] at hl
        exact Bd_pt_io ((L_at_stc hsts z g).le (by omega)) (by omega)
  · by_cases g4 : y.2.1 = 4
    · rw [D_bo_4 g3 g4] at h
      exact absurd h (by simp)
    · by_cases g1 : D_k al y = 1
      · rw [D_bo_1 g1 g4] at h
        intro x hx
        rw [← Option.some.inj h] at hx
        rw [List.mem_singleton.mp hx]
        exact Bd_pt_io hy hl
      · by_cases g5 : D_k al y = 5 ∨ D_k al y = 6
        · rw [D_bo_5 g5 g4] at h
          intro x hx
          rw [← Option.some.inj h] at hx
          split at hx
          · split at hx
            · rw [List.mem_singleton.mp hx]
              exact Bd_pt_io hy hl
            · exact absurd hx (by simp)
          · rw [List.mem_singleton.mp hx]
            exact ⟨⟨hc, fun z => absurd z (show ¬ (0 : Int) = 1 by decide)⟩, ⟨hc, fun _ => ⟨hy, rfl, hl⟩⟩⟩
        · by_cases g7 : D_k al y = 7 ∨ D_k al y = 8
          · rw [D_bo_7 g7 g4] at h
            intro x hx
            rw [← Option.some.inj h] at hx
            split at hx
            · split at hx
              · rw [List.mem_singleton.mp hx]
                exact Bd_pt_io hy hl
              · exact absurd hx (by simp)
            · rw [List.mem_singleton.mp hx]
              exact ⟨⟨hc, fun _ => ⟨hy, rfl, hl⟩⟩, ⟨hc, fun z => absurd z (show ¬ (2 : Int) = 1 by decide)⟩⟩
          · rw [D_bo_no g1 g3 g5 g7] at h
            exact absurd h (by simp)
theorem Bd_row_io {F : Int → Int} : Bd_io F n D_row := ⟨⟨⟨by decide, by decide⟩, fun z => absurd z (show ¬ (0 : Int) = 1 by decide)⟩, ⟨⟨by decide, by decide⟩, fun z => absurd z (show ¬ (2 : Int) = 1 by decide)⟩⟩
theorem c_bindElem {Q : Int → g_M → Prop} {s : Nat} {y : Int × b_E} (h : Bd_o o rm b ss cn r M) (hb : g_A M b 0 n) (hn : n ≤ 1000000000) (hs : s < 3) (hy : b_st (g_i M b) n y.1 20 y.2.1 y.2.2.1 y.2.2.2) (hvl : y.2.2.2.length ≤ 3000) (hrm : F_ci y.2 = true → (y.2.1 = 3 ∨ y.2.1 = 4) ∧ Bd_rm (L_ch y.1 y.2)) (hno : (F_ci y.2 = false ∨ D_els none (L_ch y.1 y.2) = none) → ∀ M1, e_fr (Bd_F cn r (fun j => j = 3 ∨ j = 4 ∨ j = s)) M M1 → Q 0 M1) (hq : ∀ P E M1, F_ci y.2 = true → D_els none (L_ch y.1 y.2) = some P → D_2 D_R E (P ++ [D_row]) → (∀ z ∈ E, Bd_io (g_i M b) n z) → e_fr (Bd_F cn r (fun j => j = 3 ∨ j = 4 ∨ j = s)) M M1 → Bd_S cn r s E M1 → Q 1 M1) : g_Call (d + 49) 9 [.ref o, g_n y.1, g_n (s : Int)] M (g_qI Q) := by
  obtain ⟨k1, ⟨q1, q2, q3, q4⟩, A1, A2, hr, hinj⟩ := id h
  have hyR := hy.R hn
  have hsR : g_InR (s : Int) := ⟨by omega, by omega⟩
  refine m_X0_bindElem (a0 := o) (d := d + 48) hyR hsR fun _ => ⟨k1, b, q2, c_isCondsI (d := d + 43) hb hn hy (fun gc => ?_) fun gc => ?_⟩
  case refine_2 =>
    intro _ _ _
    exact ⟨fun _ => hno (Or.inl gc) M (e_fr.rf _ _), fun g => absurd rfl g⟩
  intro _ _ _
  refine ⟨fun g => absurd g (by decide), fun _ => ⟨b, q2, c_fi2 (d := d + 47) hb hn hy ?_⟩⟩
  intro _ _ _
  obtain ⟨hk34, hbr⟩ := hrm gc
  obtain ⟨D1, xs, eD, hsts, hLc, hvb, hxl⟩ := L_ch_stc hy hk34
  obtain ⟨c, hc⟩ : ∃ c, c = y.1 + 6 + (y.2.2.1.length : Int) := ⟨_, rfl⟩
  rw [← hc] at hsts hLc ⊢
  rw [hLc] at hbr hno hq
  have bF : ∀ {M' : g_M}, e_fr (Bd_F cn r (fun j => j = 3 ∨ j = 4 ∨ j = s)) M M' → g_i M' b = g_i M b := fun f => funext fun k => f.2.1 _ _ (Bd_F_A h hb fun g => absurd g (by decide))
  have hlp : ∀ (X2 X1 : List b_E) (M' : g_M) (E : List D_i) (v3 : Int), xs = X1 ++ X2 → e_fr (Bd_F cn r (fun j => j = 3 ∨ j = 4 ∨ j = s)) M M' → (D_els none (L_at c X1) = none → v3 = 0) → (∀ P, D_els none (L_at c X1) = some P → v3 = 1 ∧ D_2 D_R E P ∧ (∀ z ∈ E, Bd_io (g_i M b) n z) ∧ Bd_S cn r s E M' ∧ P.length ≤ 690) → g_Run (d + 48) 9 28 [(0, .ref o), (1, g_n y.1), (2, g_n (s : Int)), (3, g_n v3), (4, g_n (c + (b_ser X1).length)), (5, g_n (X1.length : Int))] [] M' (g_qI Q) := by
    intro X2
    induction X2 with
    | nil =>
      intro X1 M' E v3 hX f' hnn hss
      rw [List.append_nil] at hX
      have h' := h.fr f'
      have hb' := f'.A hb
      have hE : b_sts (g_i M' b) n (c + (b_ser X1).length) D1 [] := by
        rw [bF f', ← hX]
        have h9 : b_sts (g_i M b) n c D1 (xs ++ []) := by
          rw [List.append_nil]
          exact hsts
        exact h9.app
      have hq0 := hE.2.2
      rw [← hX] at hnn hss ⊢
      have h3R : g_InR v3 := by
        cases hD : D_els none (L_at c xs) with
        | none =>
          rw [hnn hD]
          exact ⟨by decide, by decide⟩
        | some P =>
          rw [(hss P hD).1]
          exact ⟨by decide, by decide⟩
      rw [← hX] at hE hq0
      have h96 : ∀ (q v5 : Int), g_InR q → g_InR v5 → g_Run (d + 48) 9 96 [(0, .ref o), (1, g_n y.1), (2, g_n (s : Int)), (3, g_n v3), (4, g_n q), (5, g_n v5)] [] M' (g_qI Q) := fun q v5 hqR h5R => by
        refine s_X0_bindElem_96 hyR hsR h3R hqR h5R fun _ => ⟨fun g => ?_, fun g => ?_⟩
        · cases hD : D_els none (L_at c xs) with
          | none =>
            rw [g]
            exact ⟨Or.inl rfl, hno (Or.inr hD) M' f'⟩
          | some P =>
            have := (hss P hD).1
            omega
        · cases hD : D_els none (L_at c xs) with
          | none => exact absurd (hnn hD) g
          | some P =>
            obtain ⟨e3, hE2, hio, S', hPl⟩ := hss P hD
            have hel := hE2.len
            rw [e3]
            refine ⟨h'.1, ?_⟩
            refine c_addTo (d := d + 47) (x := D_row) h' (by omega) S' (by omega) rfl rfl rfl rfl ⟨by decide, by decide⟩ ⟨by decide, by decide⟩ ⟨by decide, by decide⟩ fun M1 f1 S1 => ?_
            intro _ _
            refine ⟨Or.inr rfl, hq P _ M1 gc hD (D_2.app (R := D_R) (l2 := [D_row]) (m2 := [D_row]) hE2 ⟨D_R.rf _, trivial⟩) (fun z hz => ?_) (f'.tr (f1.up fun _ _ z => Bd_F_up (fun j z => Or.inr (Or.inr z)) z)) S1⟩
            rcases List.mem_append.mp hz with g | g
            · exact hio z g
            · rw [List.mem_singleton.mp g]
              exact Bd_row_io
      refine s_X0_bindElem_28 hyR hsR h3R ⟨by omega, by omega⟩ ⟨by omega, by omega⟩ fun _ => ⟨fun _ => ⟨h'.1, b, h'.2.1.2.1, c_kdE (d := d + 47) hb' hn hE ?_⟩, fun g => absurd (by omega) g⟩
      intro _ _ _
      exact ⟨fun _ => h96 _ _ ⟨by omega, by omega⟩ ⟨by omega, by omega⟩, fun g => absurd rfl g⟩
    | cons z X2 ih =>
      intro X1 M' E v3 hX f' hnn hss
      have h' := h.fr f'
      have hb' := f'.A hb
      obtain ⟨q, hqq⟩ : ∃ q, q = c + ((b_ser X1).length : Int) := ⟨_, rfl⟩
      have hz : b_st (g_i M b) n q D1 z.1 z.2.1 z.2.2 := by
        have hX2 := hsts
        rw [hX] at hX2
        rw [hqq]
        exact hX2.at
      have hz' : b_st (g_i M' b) n q D1 z.1 z.2.1 z.2.2 := by
        rw [bF f']
        exact hz
      have hzR := hz.R hn
      have hzk := b_vs_pos (b_gv_vs hz.2.2.1)
      have hsn : L_at c (X1 ++ [z]) = L_at c X1 ++ [(q, z)] := L_at_sn0 hqq
      have hXl := congrArg List.length hX
      rw [List.length_append, List.length_cons] at hXl
      have hzl : z.2.2.length ≤ 199000 := by
        have h2 := b_ser_mem (es := xs) (e := z) (by rw [hX]; simp)
        rw [hvb, b_doc_len] at hvl
        omega
      have hLx : L_at c xs = L_at c X1 ++ (q, z) :: L_at (q + (b_el z.1 z.2.1 z.2.2).length) X2 := by
        rw [hX, L_at_ap, hqq]
        rfl
      obtain ⟨r0, r1, r2, r3⟩ := hbr _ _ _ hLx
      rw [← hqq]
      have h3R : g_InR v3 := by
        cases hD : D_els none (L_at c X1) with
        | none =>
          rw [hnn hD]
          exact ⟨by decide, by decide⟩
        | some P =>
          rw [(hss P hD).1]
          exact ⟨by decide, by decide⟩
      have hal : decide (F_cd (q, z).2.2.1 = 0) = false := decide_eq_false r0
      have hadv : ∀ (M2 : g_M) (E2 : List D_i) (u3 : Int), e_fr (Bd_F cn r (fun j => j = 3 ∨ j = 4 ∨ j = s)) M M2 → (D_el (D_els none (L_at c X1)) (q, z) = none → u3 = 0) → (∀ P, D_el (D_els none (L_at c X1)) (q, z) = some P → u3 = 1 ∧ D_2 D_R E2 P ∧ (∀ z ∈ E2, Bd_io (g_i M b) n z) ∧ Bd_S cn r s E2 M2 ∧ P.length ≤ 690) → g_Call (d + 48) 111 [.ref b, g_n q] M2 (g_qI fun r7 M4 => g_ext M2 M4 → g_ok M4 → g_InR r7 → g_InR ((X1.length : Int) + 1) ∧ g_Run (d + 48) 9 28 [(0, .ref o), (1, g_n y.1), (2, g_n (s : Int)), (3, g_n u3), (4, g_n r7), (5, g_n ((X1.length : Int) + 1))] [] M4 (g_qI Q)) := fun M2 E2 u3 f2 hn2 hs2 => by
        refine c_nx2 (d := d + 47) (f2.A hb) hn (by rw [bF f2]; exact hz) ?_
        intro _ _ _
        refine ⟨⟨by omega, by omega⟩, ?_⟩
        have h9 := ih (X1 ++ [z]) M2 E2 u3 (by rw [hX]; simp) f2 (by rw [hsn, D_els_snoc]; exact hn2) (by rw [hsn, D_els_snoc]; exact hs2)
        have e : (b_ser [z]).length = (b_el z.1 z.2.1 z.2.2).length := by
          show (b_el z.1 z.2.1 z.2.2 ++ []).length = _
          rw [List.append_nil]
        rw [show ((X1 ++ [z]).length : Int) = (X1.length : Int) + 1 by rw [List.length_append, List.length_singleton]; omega, b_ser_app, List.length_append, e, Int.natCast_add, ← Int.add_assoc, ← hqq] at h9
        exact h9
      refine s_X0_bindElem_28 hyR hsR h3R hzR ⟨by omega, by omega⟩ fun _ => ⟨fun _ => ⟨h'.1, b, h'.2.1.2.1, c_kd2 (d := d + 47) hb' hn hz' ?_⟩, fun g => absurd (by omega) g⟩
      intro _ _ _
      refine ⟨fun g => absurd g (by omega), fun _ => ?_⟩
      refine c_bindOne (d := d) (s := 3) (y := (q, z)) h' hb' hn (by decide) (hz'.le (by omega)) hzl r1 (fun g => by have := r2 g; omega) (fun e M1 f1 => ?_) fun P M1 e f1 S1 => ?_
      · rw [hal] at e
        intro _ _ _
        have f1' := f'.tr (f1.up fun _ _ z => Bd_F_up (fun j z => Or.inl z) z)
        have eD : D_el (D_els none (L_at c X1)) (q, z) = D_els none (L_at c X1) := by
          rw [D_el_me, e]
          rfl
        have h1 := h'.fr f1
        refine ⟨fun _ => ⟨b, h1.2.1.2.1, hadv M1 E v3 f1' (by rw [eD]; exact hnn) (fun P hP => ?_)⟩, fun g => absurd rfl g⟩
        rw [eD] at hP
        obtain ⟨a1, a2, a3, a4, a5⟩ := hss P hP
        exact ⟨a1, a2, a3, a4.fr h' f1 (by omega) (by omega), a5⟩
      · rw [hal] at e
        intro _ _ _
        have f1' := f'.tr (f1.up fun _ _ z => Bd_F_up (fun j z => Or.inl z) z)
        have h1 := h'.fr f1
        have hb1 := f1'.A hb
        obtain ⟨pl, pm⟩ := r3 P e
        have hPio : ∀ x ∈ P, Bd_io (g_i M b) n x := Bd_bo_io (al := false) (y := (q, z)) (hz.le (by omega)) hzl (fun g => r1 g) e
        refine ⟨fun g => absurd g (by decide), fun _ => ?_⟩
        cases hD : D_els none (L_at c X1) with
        | none =>
          rw [hnn hD]
          refine ⟨fun _ => ?_, fun g => absurd rfl g⟩
          have eD : D_el (D_els none (L_at c X1)) (q, z) = some P := by
            rw [D_el_me, e, hD]
            rfl
          refine c_copySet (d := d + 47) (s := 3) (t := s) h1 (by decide) (by omega) (by omega) S1 (by omega) fun M2 f2 S2 => ?_
          intro _ _
          have h2 := h1.fr f2
          refine ⟨b, h2.2.1.2.1, hadv M2 P 1 (f1'.tr (f2.up fun _ _ z => Bd_F_up (fun j z => Or.inr (Or.inr z)) z)) (fun e2 => by rw [eD] at e2; exact absurd e2 (by simp)) fun P2 hP2 => ?_⟩
          rw [eD] at hP2
          have hP2 := Option.some.inj hP2
          subst hP2
          exact ⟨rfl, D_2.rf D_R.rf, hPio, S2, pl⟩
        | some A0 =>
          obtain ⟨a1, a2, a3, a4, a5⟩ := hss A0 hD
          obtain ⟨m1, m2⟩ := pm A0 hD
          rw [a1]
          refine ⟨fun g => absurd g (by decide), fun _ => ?_⟩
          have eD : D_el (D_els none (L_at c X1)) (q, z) = some (D_mts A0 P) := by
            rw [D_el_me, e, hD]
            rfl
          have hER : D_2 D_R (D_mts E P) (D_mts A0 P) := D_mts_R a2 (D_2.rf D_R.rf)
          have hel := a2.len
          refine c_meetSets (d := d + 1) (s := s) (u := 3) (A := E) (B := P) h1 hb1 hn (by omega) (by decide) (a4.fr h' f1 (by omega) (by omega)) S1 (by omega) (by omega) (by rw [bF f1']; exact a3) (by rw [bF f1']; exact hPio) (by rw [hER.len]; omega) fun M2 E2 hE2 hio2 f2 S2 => ?_
          intro _ _
          have h2 := h1.fr f2
          rw [bF f1'] at hio2
          refine ⟨b, h2.2.1.2.1, hadv M2 E2 1 (f1'.tr (f2.up fun _ _ z => Bd_F_up (fun j z => by omega) z)) (fun e2 => by rw [eD] at e2; exact absurd e2 (by simp)) fun P2 hP2 => ?_⟩
          rw [eD] at hP2
          have hP2 := Option.some.inj hP2
          subst hP2
          exact ⟨rfl, D_2.tr (R := D_R) (R2 := D_R) (R3 := D_R) (fun _ _ _ g g2 => g.tr g2) hE2 hER, hio2, S2, m2⟩
  have h9 := hlp xs [] M [] 0 rfl (e_fr.rf _ _) (fun _ => rfl) (fun P hP => absurd hP (by intro z; cases z))
  rw [show c + ((b_ser ([] : List b_E)).length : Int) = c by show c + ((0 : Nat) : Int) = c; omega] at h9
  exact h9
end BDE
