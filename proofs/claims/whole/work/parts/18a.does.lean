/-! STAGES: what a stage that is no filter tells, and the class doing it -/
noncomputable def T_f (e : b_E) : Int := if S_cd e.2.1 = 1 then S_pf e else if S_cd e.2.1 = 2 then (if S_dol e = false then 2 else if S_ef e = true then 3 else 0) else if S_cd e.2.1 = 3 then G_gf e else if S_cd e.2.1 = 4 then O_sf e else if S_cd e.2.1 = 5 ∨ S_cd e.2.1 = 6 then (@ite _ (S_sk e 0 = none) (Classical.propDecidable _) 2 0) else if S_cd e.2.1 = 7 then J_sf e else 1
noncomputable def T_b (ds : List (List b_E)) : Int × List (List b_E) := @ite _ (S_bad ds) (Classical.propDecidable _) (5, []) (0, ds)
noncomputable def T_m (n : Nat) (os : List (List b_E)) (e : b_E) (ds : List (List b_E)) : Int × List (List b_E) := if S_cd e.2.1 = 1 then T_b (ds.map (S_pj n (b_ch e.2.2))) else if S_cd e.2.1 = 2 then T_b (ds.flatMap (U_doc (p_sp (S_pt e)))) else if S_cd e.2.1 = 3 then (@ite _ (G_tbE n e ds) (Classical.propDecidable _) (4, []) (T_b (G_mkE n e ds))) else if S_cd e.2.1 = 4 then (0, O_srt (b_ch e.2.2) ds) else if S_cd e.2.1 = 5 then (0, ds.drop ((S_sk e ds.length).getD 0)) else if S_cd e.2.1 = 6 then (0, ds.take ((S_sk e ds.length).getD 0)) else T_b (ds.map (J_mk os e))
noncomputable def T_st (n : Nat) (os : List (List b_E)) (it : b_E) (ds : List (List b_E)) : Int × List (List b_E) := match b_ch it.2.2 with
  | [e] => if T_f e = 0 then T_m n os e ds else (T_f e, [])
  | _ => (1, [])
section TST
variable {n : Nat} {os ds : List (List b_E)} {it e : b_E}
theorem T_st_no (h : ∀ e, b_ch it.2.2 ≠ [e]) : T_st n os it ds = (1, []) := by
  unfold T_st
  split
  · rename_i e z
    exact absurd z (h e)
  · rfl
theorem T_st_f (h : b_ch it.2.2 = [e]) (hf : T_f e ≠ 0) : T_st n os it ds = (T_f e, []) := by
  unfold T_st
  rw [h]
  exact if_neg hf
theorem T_st_m (h : b_ch it.2.2 = [e]) (hf : T_f e = 0) : T_st n os it ds = T_m n os e ds := by
  unfold T_st
  rw [h]
  exact if_pos hf
theorem T_b_1 (h : S_bad ds) : T_b ds = (5, []) := if_pos h
theorem T_b_0 (h : ¬ S_bad ds) : T_b ds = (0, ds) := if_neg h
theorem T_f1 (h : S_cd e.2.1 = 1) : T_f e = S_pf e := by
  unfold T_f
  rw [h]
  exact if_pos rfl
theorem T_f2 (h : S_cd e.2.1 = 2) : T_f e = if S_dol e = false then 2 else if S_ef e = true then 3 else 0 := by
  unfold T_f
  rw [h, if_neg (by decide), if_pos rfl]
theorem T_f3 (h : S_cd e.2.1 = 3) : T_f e = G_gf e := by
  unfold T_f
  rw [h, if_neg (by decide), if_neg (by decide), if_pos rfl]
theorem T_f4 (h : S_cd e.2.1 = 4) : T_f e = O_sf e := by
  unfold T_f
  rw [h, if_neg (by decide), if_neg (by decide), if_neg (by decide), if_pos rfl]
theorem T_f56 (h : S_cd e.2.1 = 5 ∨ S_cd e.2.1 = 6) : T_f e = @ite _ (S_sk e 0 = none) (Classical.propDecidable _) 2 0 := by
  unfold T_f
  rcases h with h | h <;> rw [h, if_neg (by decide), if_neg (by decide), if_neg (by decide), if_neg (by decide), if_pos (by decide)]
theorem T_f7 (h : S_cd e.2.1 = 7) : T_f e = J_sf e := by
  unfold T_f
  rw [h, if_neg (by decide), if_neg (by decide), if_neg (by decide), if_neg (by decide), if_neg (by decide), if_pos rfl]
theorem T_f0 (h : S_cd e.2.1 = 0) : T_f e = 1 := by
  unfold T_f
  rw [h, if_neg (by decide), if_neg (by decide), if_neg (by decide), if_neg (by decide), if_neg (by decide), if_neg (by decide)]
theorem T_m1 (h : S_cd e.2.1 = 1) : T_m n os e ds = T_b (ds.map (S_pj n (b_ch e.2.2))) := by
  unfold T_m
  rw [h]
  exact if_pos rfl
theorem T_m2 (h : S_cd e.2.1 = 2) : T_m n os e ds = T_b (ds.flatMap (U_doc (p_sp (S_pt e)))) := by
  unfold T_m
  rw [h, if_neg (by decide), if_pos rfl]
theorem T_m3a (h : S_cd e.2.1 = 3) (h4 : G_tbE n e ds) : T_m n os e ds = (4, []) := by
  unfold T_m
  rw [h, if_neg (by decide), if_neg (by decide), if_pos rfl, if_pos h4]
theorem T_m3b (h : S_cd e.2.1 = 3) (h4 : ¬ G_tbE n e ds) : T_m n os e ds = T_b (G_mkE n e ds) := by
  unfold T_m
  rw [h, if_neg (by decide), if_neg (by decide), if_pos rfl, if_neg h4]
theorem T_m4 (h : S_cd e.2.1 = 4) : T_m n os e ds = (0, O_srt (b_ch e.2.2) ds) := by
  unfold T_m
  rw [h, if_neg (by decide), if_neg (by decide), if_neg (by decide), if_pos rfl]
theorem T_m5 (h : S_cd e.2.1 = 5) : T_m n os e ds = (0, ds.drop ((S_sk e ds.length).getD 0)) := by
  unfold T_m
  rw [h, if_neg (by decide), if_neg (by decide), if_neg (by decide), if_neg (by decide), if_pos rfl]
theorem T_m6 (h : S_cd e.2.1 = 6) : T_m n os e ds = (0, ds.take ((S_sk e ds.length).getD 0)) := by
  unfold T_m
  rw [h, if_neg (by decide), if_neg (by decide), if_neg (by decide), if_neg (by decide), if_neg (by decide), if_pos rfl]
theorem T_m7 (h : S_cd e.2.1 = 7) : T_m n os e ds = T_b (ds.map (J_mk os e)) := by
  unfold T_m
  rw [h, if_neg (by decide), if_neg (by decide), if_neg (by decide), if_neg (by decide), if_neg (by decide), if_neg (by decide)]
theorem S_sk_no (c c2 : Nat) : S_sk e c = none → S_sk e c2 = none := fun h => by
  by_cases g : (e.1 = 16 ∨ e.1 = 18) ∧ 0 ≤ (v_num e.1 e.2.2).toInt
  · rw [S_sk_some g] at h
    exact absurd h (by simp)
  · exact S_sk_none g
theorem S_cd_R (nm : List Int) : S_cd nm = 0 ∨ S_cd nm = 1 ∨ S_cd nm = 2 ∨ S_cd nm = 3 ∨ S_cd nm = 4 ∨ S_cd nm = 5 ∨ S_cd nm = 6 ∨ S_cd nm = 7 := by
  unfold S_cd
  split
  · exact Or.inr (Or.inl rfl)
  split
  · exact Or.inr (Or.inr (Or.inl rfl))
  split
  · exact Or.inr (Or.inr (Or.inr (Or.inl rfl)))
  split
  · exact Or.inr (Or.inr (Or.inr (Or.inr (Or.inl rfl))))
  split
  · exact Or.inr (Or.inr (Or.inr (Or.inr (Or.inr (Or.inl rfl)))))
  split
  · exact Or.inr (Or.inr (Or.inr (Or.inr (Or.inr (Or.inr (Or.inl rfl))))))
  split
  · exact Or.inr (Or.inr (Or.inr (Or.inr (Or.inr (Or.inr (Or.inr rfl))))))
  exact Or.inl rfl
end TST
section DOES
variable {so r b po pf pt tp tf tt ou sc be fr sv oa ke gr va kk wa : Nat} {M M1 : g_M} {g c e0 : Int} {L : List Int} {A : Nat → Prop} {os ds : List (List b_E)}
theorem O_sS.noP (hT : S_T so b po pf pt ou sc be fr M) (hK : O_so7 so r b kk wa va be fr c e0 L M) {x : Nat} (hx : g_O M x 5) (hp : po ≠ x) : ¬ O_sS po pf pt kk wa va be fr M x := by
  obtain ⟨-, -, ⟨P1, -, -, P4, P5, -⟩, -, ⟨hbe, hfr, -⟩, -⟩ := hT
  obtain ⟨-, -, ⟨-, hva, -, -⟩, -, ⟨-, hwa⟩, hrows, -⟩ := hK
  rintro (((z | z | z) | ⟨s, hs, z⟩) | z | z | z | z)
  · exact hp z.symm
  · exact g_neOA hx P4 z
  · exact g_neOA hx P5 z
  · obtain ⟨row, hr1, hr2, -⟩ := hrows s hs
    rw [hr1] at z
    cases z
    exact g_neOA hx hr2 rfl
  · exact g_neOA hx hwa z
  · exact g_neOA hx hva z
  · exact g_neOA hx hfr z
  · exact g_neOA hx hbe z
theorem p_P.keep (h : p_P M po pf pt) (hx : g_ext M M1) (hr : g_r M1 po = g_r M po) : p_P M1 po pf pt := by
  obtain ⟨P1, P2, P3, P4, P5, P6⟩ := h
  exact ⟨P1.up hx, by rw [hr]; exact P2, by rw [hr]; exact P3, P4.up hx, P5.up hx, P6⟩
theorem O_sS.U (hJ : J_T so r b po pf pt tp tf tt ou sc be fr sv oa M) (hK : O_so7 so r b kk wa va be fr c e0 L M) (k : k_F (O_sS po pf pt kk wa va be fr M) r M M1) (hP1 : k_P M1 r b c e0 L) (hp : p_P M1 po pf pt) (hA : ∀ y, O_sS po pf pt kk wa va be fr M y → A y) : S_U A so r b po pf pt tp tf tt ou sc c e0 L M M1 ∧ g_i M1 so = g_i M so := by
  obtain ⟨hT, -, ⟨-, htp, hne⟩, -⟩ := id hJ
  obtain ⟨z1, z2⟩ := O_sS.z hT hK k hp hA
  exact ⟨⟨z1, hP1, z2, htp.keep k.1 (k.O hK.2.1 htp.1 (by decide) (O_sS.noP hT hK htp.1 hne.1)).2⟩, (k.O hK.2.1 hT.1.1 (by decide) (O_sS.no hT hK (Or.inl ⟨9, hT.1.1, by decide⟩))).1⟩
theorem c_stDoes {d n De : Nat} {Q : Int → g_M → Prop} {pi : Int} {it : b_E} (hJ : J_T so r b po pf pt tp tf tt ou sc be fr sv oa M) (hG : G_T so b po pf pt ou sc be fr ke gr va M) (hK : O_so7 so r b kk wa va be fr c e0 L M) (hL : L.length ≤ 100) (ho : J_os b sv oa os M) (hno : b_at (g_i M b) 0 [10, 0]) (hg : g_i M so 17 = g) (hg01 : g = 0 ∨ g = 1) (hbt : S_belt so b be g ds M) (hs : b_st (g_i M b) 2100 pi De it.1 it.2.1 it.2.2) (hk : it.1 = 3) (hDe : De ≤ 18) (hn : 16 ≤ n) (hA : ∀ y, G_9 so b po pf pt tp tf tt ou sc be fr ke gr va y → A y) (hA2 : ∀ y, O_sS po pf pt kk wa va be fr M y → A y) (hq : (T_st n os it ds).1 ≠ 0 → ∀ M1, S_U A so r b po pf pt tp tf tt ou sc c e0 L M M1 → Q (T_st n os it ds).1 M1) (hq0 : (T_st n os it ds).1 = 0 → ∀ M1 g1, S_U A so r b po pf pt tp tf tt ou sc c e0 L M M1 → (g1 = 0 ∨ g1 = 1) → g_i M1 so 17 = g1 → S_belt so b be g1 (T_st n os it ds).2 M1 → Q 0 M1) : g_Call (d + 78) 139 [.ref so, g_n pi] M (g_qI Q) := by
  obtain ⟨s1, s2, s3⟩ := hJ.1.1
  have hP := hK.2.1
  have hA' : ∀ y, S_9 so b po pf pt ou sc be fr y ∨ p_S tp tf tt y → A y := fun y z => hA y (z.elim Or.inl fun z => Or.inr (Or.inl z))
  have hrf : S_U A so r b po pf pt tp tf tt ou sc c e0 L M M := ⟨⟨k_F.rf _ _ _, fun _ _ => rfl, fun _ => rfl, fun _ _ => rfl, hJ.1.2.2.1, hJ.1.2.2.2.2.2.2.1.2⟩, hP, hJ.1.2.2.2.2.2.1.2, hJ.2.2.1.2.1⟩
  have hs4 := hs.2.2.2.1
  have hs5 := hs.2.2.2.2
  have hs' : b_st (g_i M b) 246408 pi De it.1 it.2.1 it.2.2 := ⟨hs.1, hs.2.1, hs.2.2.1, hs4, by omega⟩
  obtain ⟨D1, eD, hkids, -⟩ := hs.kids (Or.inl hk)
  obtain ⟨D2, eD2, hkids', -⟩ := hs'.kids (Or.inl hk)
  obtain ⟨q, hqd⟩ : ∃ q : Int, q = pi + 6 + it.2.1.length := ⟨_, rfl⟩
  refine m_X9_does (hs'.R (by decide)) fun _ => ⟨s1, b, s2, c_fi2 (d := d + 76) s3 (by decide) hs' ?_⟩
  rw [← hqd] at hkids hkids' ⊢
  intro _ _ _
  have hno1 : (∀ e, b_ch it.2.2 ≠ [e]) → Q 1 M := fun h => by
    rw [T_st_no h] at hq
    exact hq (by decide) M hrf
  cases hch : b_ch it.2.2 with
  | nil =>
    rw [hch] at hkids'
    refine ⟨b, s2, c_kdE (d := d + 76) s3 (by decide) hkids' ?_⟩
    intro _ _ _
    exact ⟨fun _ => hno1 fun e z => by rw [hch] at z; exact absurd z (by simp), fun z => absurd rfl z⟩
  | cons e rest =>
    rw [hch] at hkids hkids'
    obtain ⟨he, -⟩ := hkids.cons
    obtain ⟨he', hr'⟩ := hkids'.cons
    have hkp := (b_vs_pos (b_gv_vs he.2.2.1)).1
    refine ⟨b, s2, c_kd2 (d := d + 76) s3 (by decide) he' ?_⟩
    intro _ _ _
    refine ⟨fun z => absurd z (by omega), fun _ => ⟨b, s2, b, s2, c_nx2 (d := d + 76) s3 (by decide) he' ?_⟩⟩
    intro _ _ _
    cases rest with
    | cons e2 rest =>
      obtain ⟨he2, -⟩ := hr'.cons
      have hkp2 := (b_vs_pos (b_gv_vs he2.2.2.1)).1
      refine c_kd2 (d := d + 76) s3 (by decide) he2 ?_
      intro _ _ _
      exact ⟨fun z => absurd z (by omega), fun _ => hno1 fun e z => by rw [hch] at z; exact absurd z (by simp)⟩
    | nil =>
      refine c_kdE (d := d + 76) s3 (by decide) hr' ?_
      intro _ _ _
      refine ⟨fun _ => ⟨b, s2, c_stageOf (d := d + 73) s3 he' ?_⟩, fun z => absurd rfl z⟩
      intro _ _ _
      have hqf : T_f e ≠ 0 → ∀ M1, S_U A so r b po pf pt tp tf tt ou sc c e0 L M M1 → Q (T_f e) M1 := fun z => by
        rw [T_st_f hch z] at hq
        exact hq z
      have hqb : T_f e = 0 → ∀ ms, T_m n os e ds = T_b ms → S_bad ms → ∀ M1, S_U A so r b po pf pt tp tf tt ou sc c e0 L M M1 → Q 5 M1 := fun z ms z2 z3 => by
        rw [T_st_m hch z, z2, T_b_1 z3] at hq
        exact hq (by decide)
      have hqg : T_f e = 0 → ∀ ms, (T_m n os e ds = (0, ms) ∨ (T_m n os e ds = T_b ms ∧ ¬ S_bad ms)) → ∀ M1 g1, S_U A so r b po pf pt tp tf tt ou sc c e0 L M M1 → (g1 = 0 ∨ g1 = 1) → g_i M1 so 17 = g1 → S_belt so b be g1 ms M1 → Q 0 M1 := fun z ms z2 => by
        have z4 : T_st n os it ds = (0, ms) := by
          rw [T_st_m hch z]
          rcases z2 with z2 | ⟨z2, z3⟩
          · exact z2
          · rw [z2, T_b_0 z3]
        rw [z4] at hq0
        exact hq0 rfl
      have hg10 : (1 - g = 0 ∨ 1 - g = 1) := by omega
      have hfin : T_f e = 0 → ∀ ms, T_m n os e ds = T_b ms → S_fin so b po pf pt ou sc be fr M g (fun r M1 => g_ext M M1 → g_ok M1 → g_InR r → Q r M1) ms := fun z ms z2 => ⟨fun z3 M4 h4 => fun _ _ _ => hqb z ms z2 z3 M4 (J_T.Y hJ hP h4 hA').1, fun z3 M4 h4 k1 k2 => fun _ _ _ => hqg z ms (Or.inr ⟨z2, z3⟩) M4 (1 - g) (J_T.Y hJ hP h4 hA').1 hg10 k1 k2⟩
      rcases S_cd_R e.2.1 with hc | hc | hc | hc | hc | hc | hc | hc
      · rw [hc]
        refine ⟨fun z => absurd z (by decide), fun _ => ⟨fun z => absurd z (by decide), fun _ => ⟨fun z => absurd z (by decide), fun _ => ⟨fun z => absurd z (by decide), fun _ => ⟨fun z => absurd z (by decide), fun _ => ⟨fun z => absurd z (by decide), fun _ => ⟨fun z => absurd z (by decide), fun _ => ?_⟩⟩⟩⟩⟩⟩⟩
        have h9 := T_f0 hc
        rw [h9] at hqf
        exact hqf (by decide) M hrf
      · rw [hc]
        refine ⟨fun _ => ?_, fun z => absurd rfl z⟩
        have h9 := T_f1 hc
        rw [h9] at hqf hfin
        refine c_project (d := d) (n := n) hJ.1 hg hg01 hbt he (by omega) hn (fun z M1 hy => ?_) fun z => hfin z _ (T_m1 hc)
        exact fun _ _ _ => hqf z M1 (J_T.Y hJ hP hy hA').1
      · rw [hc]
        refine ⟨fun z => absurd z (by decide), fun _ => ⟨fun _ => ?_, fun z => absurd rfl z⟩⟩
        have h9 := T_f2 hc
        refine c_unwind (d := d + 5) hJ.1 hg hg01 hbt he (fun z => ?_) (fun z z2 M1 hy => ?_) fun z z2 => ?_
        · intro _ _ _
          rw [if_pos z] at h9
          rw [h9] at hqf
          exact hqf (by decide) M hrf
        · intro _ _ _
          rw [if_neg (by rw [z]; decide), if_pos z2] at h9
          rw [h9] at hqf
          exact hqf (by decide) M1 (J_T.Y hJ hP hy hA').1
        · rw [if_neg (by rw [z]; decide), if_neg (by rw [z2]; decide)] at h9
          exact hfin h9 _ (T_m2 hc)
      · rw [hc]
        refine ⟨fun z => absurd z (by decide), fun _ => ⟨fun z => absurd z (by decide), fun _ => ⟨fun _ => ?_, fun z => absurd rfl z⟩⟩⟩
        have h9 := T_f3 hc
        rw [h9] at hqf hqb hqg
        refine c_group (d := d + 6) (n := n) hJ hG hP hno hg hg01 hbt he (by omega) hn hA (fun z M1 h1 => ?_) (fun z z2 M1 h1 => ?_) (fun z z2 z3 M1 h1 => ?_) fun z z2 z3 M1 h1 k1 k2 => ?_
        · exact fun _ _ _ => hqf z M1 h1
        · intro _ _ _
          rw [T_st_m hch (h9.trans z), T_m3a hc z2] at hq
          exact hq (by decide) M1 h1
        · exact fun _ _ _ => hqb z _ (T_m3b hc z2) z3 M1 h1
        · exact fun _ _ _ => hqg z _ (Or.inr ⟨T_m3b hc z2, z3⟩) M1 (1 - g) h1 hg10 k1 k2
      · rw [hc]
        refine ⟨fun z => absurd z (by decide), fun _ => ⟨fun z => absurd z (by decide), fun _ => ⟨fun z => absurd z (by decide), fun _ => ⟨fun _ => ?_, fun z => absurd rfl z⟩⟩⟩⟩
        have h9 := T_f4 hc
        rw [h9] at hqf hqg
        refine c_sort (d := d + 15) hJ.1 hK hL hbt he (fun z M1 k1 k2 k3 => ?_) fun z M1 k1 k2 k3 k4 => ?_
        · exact fun _ _ _ => hqf z M1 (O_sS.U hJ hK k1 k2 k3 hA2).1
        · obtain ⟨u1, u2⟩ := O_sS.U hJ hK k1 k2 k3 hA2
          exact fun _ _ _ => hqg z _ (Or.inl (T_m4 hc)) M1 g u1 hg01 (by rw [u2]; exact hg) k4
      · rw [hc]
        refine ⟨fun z => absurd z (by decide), fun _ => ⟨fun z => absurd z (by decide), fun _ => ⟨fun z => absurd z (by decide), fun _ => ⟨fun z => absurd z (by decide), fun _ => ⟨fun _ => ?_, fun z => absurd rfl z⟩⟩⟩⟩⟩
        have h9 := T_f56 (Or.inl hc)
        refine c_skip (d := d + 74) hJ.1.1 hJ.1.2.2.2.1.2.2.1 hJ.1.2.2.2.2.1.1 hbt he' (fun z => ?_) fun t z M1 f h1 => ?_
        · intro _ _ _
          rw [if_pos (S_sk_no _ _ z)] at h9
          rw [h9] at hqf
          exact hqf (by decide) M hrf
        · intro _ _ _
          rw [if_neg fun z2 => by rw [S_sk_no _ _ z2] at z; cases z] at h9
          have h8 := T_m5 (n := n) (os := os) (ds := ds) hc
          rw [z, Option.getD_some] at h8
          exact hqg h9 _ (Or.inl h8) M1 g (J_T.Y hJ hP (S_Y.e hJ.1 f fun y k z => by
            rcases z with ⟨z, z2⟩ | z
            · exact Or.inl ⟨z, by omega, by omega⟩
            · exact Or.inr (Or.inr (Or.inr (Or.inr (Or.inl z))))) hA').1 hg01 (by
              rw [f.2.1 so 17 fun z => ?_]
              · exact hg
              · rcases z with ⟨-, z⟩ | z
                · exact absurd z (by decide)
                · exact hJ.1.n1.2.2.2.2.2.2.1 z) h1
      · rw [hc]
        refine ⟨fun z => absurd z (by decide), fun _ => ⟨fun z => absurd z (by decide), fun _ => ⟨fun z => absurd z (by decide), fun _ => ⟨fun z => absurd z (by decide), fun _ => ⟨fun z => absurd z (by decide), fun _ => ⟨fun _ => ?_, fun z => absurd rfl z⟩⟩⟩⟩⟩⟩
        have h9 := T_f56 (Or.inr hc)
        refine c_limit (d := d + 74) hJ.1.1 hJ.1.2.2.2.2.1.1 hbt he' (fun z => ?_) fun t z M1 f h1 => ?_
        · intro _ _ _
          rw [if_pos (S_sk_no _ _ z)] at h9
          rw [h9] at hqf
          exact hqf (by decide) M hrf
        · intro _ _ _
          rw [if_neg fun z2 => by rw [S_sk_no _ _ z2] at z; cases z] at h9
          have h8 := T_m6 (n := n) (os := os) (ds := ds) hc
          rw [z, Option.getD_some] at h8
          exact hqg h9 _ (Or.inl h8) M1 g (J_T.Y hJ hP (S_Y.e hJ.1 f fun y k z => by
            rcases z with ⟨z, z2⟩ | z
            · exact Or.inl ⟨z, by omega, by omega⟩
            · exact Or.inr (Or.inr (Or.inr (Or.inr (Or.inl z))))) hA').1 hg01 (by
              rw [f.2.1 so 17 fun z => ?_]
              · exact hg
              · rcases z with ⟨-, z⟩ | z
                · exact absurd z (by decide)
                · exact hJ.1.n1.2.2.2.2.2.2.1 z) h1
      · rw [hc]
        refine ⟨fun z => absurd z (by decide), fun _ => ⟨fun z => absurd z (by decide), fun _ => ⟨fun z => absurd z (by decide), fun _ => ⟨fun z => absurd z (by decide), fun _ => ⟨fun z => absurd z (by decide), fun _ => ⟨fun z => absurd z (by decide), fun _ => ⟨fun _ => ?_, fun z => absurd rfl z⟩⟩⟩⟩⟩⟩⟩
        have h9 := T_f7 hc
        rw [h9] at hqf hqb hqg
        refine c_lookup (d := d + 6) hJ hP hL ho hno hg hg01 hbt he hA' (fun z M1 h1 => ?_) (fun z z2 M1 h1 => ?_) fun z z2 M1 h1 k1 k2 => ?_
        · exact fun _ _ _ => hqf z M1 h1
        · exact fun _ _ _ => hqb z _ (T_m7 hc) z2 M1 h1
        · exact fun _ _ _ => hqg z _ (Or.inr ⟨T_m7 hc, z2⟩) M1 (1 - g) h1 hg10 k1 k2
end DOES
