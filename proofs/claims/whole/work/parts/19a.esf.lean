/-! STAGES: what a stage that is no filter tells, the reference -/
noncomputable def T_fx (it : b_E) : Int := match b_ch it.2.2 with
  | [e] => T_f e
  | _ => 1
theorem T_fx_no {it : b_E} (h : ∀ e, b_ch it.2.2 ≠ [e]) : T_fx it = 1 := by
  unfold T_fx
  split
  · rename_i e z
    exact absurd z (h e)
  · rfl
theorem T_fx_1 {it e : b_E} (h : b_ch it.2.2 = [e]) : T_fx it = T_f e := by
  unfold T_fx
  rw [h]
theorem T_ok_T_fx (it : b_E) : T_ok (T_fx it) := by
  unfold T_fx
  split
  · exact T_ok_T_f _
  · exact T_okc (by decide)
theorem T_st_fx {n : Nat} {os ds : List (List b_E)} {it : b_E} (h : T_fx it ≠ 0) : T_st n os it ds = (T_fx it, []) := by
  by_cases g : ∃ e, b_ch it.2.2 = [e]
  · obtain ⟨e, g⟩ := g
    rw [T_fx_1 g] at h ⊢
    exact T_st_f g h
  · rw [T_fx_no fun e z => g ⟨e, z⟩]
    exact T_st_no fun e z => g ⟨e, z⟩
theorem T_fx_0 {it : b_E} (h : T_fx it = 0) : ∃ e, b_ch it.2.2 = [e] ∧ T_f e = 0 := by
  by_cases g : ∃ e, b_ch it.2.2 = [e]
  · obtain ⟨e, g⟩ := g
    rw [T_fx_1 g] at h
    exact ⟨e, g, h⟩
  · rw [T_fx_no fun e z => g ⟨e, z⟩] at h
    exact absurd h (by decide)
theorem S_cd_1 {nm : List Int} : S_cd nm = 1 ↔ nm = b_tx 41 := by
  unfold S_cd
  constructor
  · intro h
    by_cases g : nm = b_tx 41
    · exact g
    · rw [if_neg g] at h
      repeat' split at h
      all_goals exact absurd h (by decide)
  · exact fun h => if_pos h
theorem S_cd_ne {nm : List Int} (j : Nat) (k : Int) (h : (j = 42 ∧ k = 2) ∨ (j = 43 ∧ k = 3) ∨ (j = 44 ∧ k = 4) ∨ (j = 45 ∧ k = 5) ∨ (j = 46 ∧ k = 6) ∨ (j = 47 ∧ k = 7)) : S_cd nm = k ↔ nm = b_tx j := by
  have h2 : S_cd (b_tx 42) = 2 := by decide +kernel
  have h3 : S_cd (b_tx 43) = 3 := by decide +kernel
  have h4 : S_cd (b_tx 44) = 4 := by decide +kernel
  have h5 : S_cd (b_tx 45) = 5 := by decide +kernel
  have h6 : S_cd (b_tx 46) = 6 := by decide +kernel
  have h7 : S_cd (b_tx 47) = 7 := by decide +kernel
  constructor
  · intro hk
    unfold S_cd at hk
    rcases h with ⟨rfl, rfl⟩ | ⟨rfl, rfl⟩ | ⟨rfl, rfl⟩ | ⟨rfl, rfl⟩ | ⟨rfl, rfl⟩ | ⟨rfl, rfl⟩
    all_goals
      repeat' split at hk
      all_goals first | assumption | exact absurd hk (by decide)
  · rintro rfl
    rcases h with ⟨rfl, rfl⟩ | ⟨rfl, rfl⟩ | ⟨rfl, rfl⟩ | ⟨rfl, rfl⟩ | ⟨rfl, rfl⟩ | ⟨rfl, rfl⟩ <;> assumption
section ESF
variable {m b : Nat} {M : g_M} {Q : Int → g_M → Prop}
theorem e_stageFault {d De : Nat} {pi : Int} {it : b_E} (hR : e_R M m b) (hs : b_st (g_i M b) 2100 pi De it.1 it.2.1 it.2.2) (hk : it.1 = 3) (hq : Q (T_fx it) M) : g_Call (d + 10) 330 [.ref m, g_n (pi + 2 + it.2.1.length)] M (g_qI Q) := by
  have hs4 := hs.2.2.2.1
  have hs5 := hs.2.2.2.2
  have hel := b_el_len it.1 it.2.1 it.2.2
  have hs' : b_st (g_i M b) 2706210 pi De it.1 it.2.1 it.2.2 := ⟨hs.1, hs.2.1, hs.2.2.1, hs4, by omega⟩
  obtain ⟨D1, es, eD, ee, -, htl, hch, -⟩ := hs'.tl (Or.inl hk)
  obtain ⟨D2, eD2, hkids, -⟩ := hs.kids (Or.inl hk)
  rw [hch] at hkids
  obtain ⟨c, hc⟩ : ∃ c : Int, c = pi + 2 + it.2.1.length := ⟨_, rfl⟩
  rw [show pi + 6 + (it.2.1.length : Int) = c + 4 by omega] at htl hkids
  rw [← hc] at htl ⊢
  have hcR : g_InR c := ⟨by omega, by omega⟩
  refine m_X12_stageFault hcR fun _ => ⟨hR.1, e_countE (d := d + 4) hR htl ?_⟩
  intro _ _ _
  by_cases g : ∃ e, es = [e]
  · obtain ⟨e, rfl⟩ := g
    rw [T_fx_1 hch] at hq
    obtain ⟨he, -⟩ := hkids.cons
    have he4 := he.2.2.2.1
    have he5 := he.2.2.2.2
    have hel2 := b_el_len e.1 e.2.1 e.2.2
    have he' : b_st (g_i M b) 2706210 (c + 4) D2 e.1 e.2.1 e.2.2 := ⟨he.1, he.2.1, he.2.2.1, he4, by omega⟩
    have heR := he'.R
    have h4R : g_InR (c + 4) := ⟨by omega, by omega⟩
    refine ⟨fun _ => e_first (d := d + 8) (by omega) (by omega) ?_, fun z => absurd rfl z⟩
    intro _ _ _
    -- $skip and $limit
    have hcut : S_cd e.2.1 = 5 ∨ S_cd e.2.1 = 6 → g_Run (d + 9) 330 128 [(0, .ref m), (1, g_n c), (2, g_n (c + 4))] [] M (g_qI Q) := fun hcd => by
      rw [T_f56 hcd] at hq
      refine s_X12_stageFault_128 hcR h4R fun _ => ⟨hR.1, e_isNumR (d := d + 8) hR he' ?_⟩
      intro _ _ _
      by_cases hn : e.1 = 16 ∨ e.1 = 18
      · rw [if_pos hn]
        refine ⟨fun z => absurd z (by decide), fun _ => e_num (d := d + 5) hR he' hn ?_⟩
        intro _ _
        rw [u_lt, show (0 : Int64).toInt = 0 from rfl]
        constructor
        · intro z
          rw [if_pos (S_sk_none fun y => by have := y.2; omega)] at hq
          exact hq
        · intro z
          rw [if_neg (by rw [S_sk_some ⟨hn, by omega⟩]; simp)] at hq
          exact hq
      · rw [if_neg hn]
        rw [if_pos (S_sk_none fun y => hn y.1)] at hq
        exact ⟨fun _ => hq, fun z => absurd rfl z⟩
    refine e_nm3 (d := d + 5) (j := 109) (j2 := 41) (by decide) rfl hR he' (fun h => ?_) fun h1 => ?_
    · intro _ _ _
      rw [T_f1 (S_cd_1.mpr h)] at hq
      refine ⟨fun z => absurd z (by decide), fun _ => e_projFault (d := d + 2) hR he' ?_⟩
      exact fun _ _ _ => hq
    intro _ _ _
    refine ⟨fun _ => e_nm3 (d := d + 5) (j := 110) (j2 := 42) (by decide) rfl hR he' (fun h => ?_) fun h2 => ?_, fun z => absurd rfl z⟩
    · intro _ _ _
      rw [T_f2 ((S_cd_ne 42 2 (by decide)).mpr h)] at hq
      have hkb : g_i M b (c + 4) = e.1 := he'.val.2.2.2
      refine ⟨fun z => absurd z (by decide), fun _ => ⟨b, hR.2.1, 2706210, hR.2.2, ⟨by omega, by omega⟩, fun hk2 => e_isRef (d := d + 5) hR he' ?_, fun hk2 => ?_⟩⟩
      · intro _ _ _
        cases hdl : S_dol e with
        | false =>
          rw [if_pos hdl] at hq
          exact ⟨fun _ => hq, fun z => absurd (if_neg (by decide)) z⟩
        | true =>
          rw [if_neg (by rw [hdl]; decide)] at hq
          refine ⟨fun z => absurd z (by rw [if_pos rfl]; decide), fun _ => e_exprFault (d := d + 4) hR he' ?_⟩
          exact fun _ _ _ => hq
      · rw [if_pos (by
          unfold S_dol
          rw [← hkb]
          simp [hk2])] at hq
        exact hq
    intro _ _ _
    refine ⟨fun _ => e_nm3 (d := d + 5) (j := 111) (j2 := 43) (by decide) rfl hR he' (fun h => ?_) fun h3 => ?_, fun z => absurd rfl z⟩
    · intro _ _ _
      rw [T_f3 ((S_cd_ne 43 3 (by decide)).mpr h)] at hq
      refine ⟨fun z => absurd z (by decide), fun _ => e_groupFault (d := d + 2) hR he' ?_⟩
      exact fun _ _ _ => hq
    intro _ _ _
    refine ⟨fun _ => e_nm3 (d := d + 5) (j := 121) (j2 := 44) (by decide) rfl hR he' (fun h => ?_) fun h4 => ?_, fun z => absurd rfl z⟩
    · intro _ _ _
      rw [T_f4 ((S_cd_ne 44 4 (by decide)).mpr h)] at hq
      refine ⟨fun z => absurd z (by decide), fun _ => e_sortFault (d := d) (De := D2) hR ⟨he.1, he.2.1, he.2.2.1, he4, by omega⟩ ?_⟩
      exact fun _ _ _ => hq
    intro _ _ _
    refine ⟨fun _ => e_nm3 (d := d + 5) (j := 122) (j2 := 45) (by decide) rfl hR he' (fun h => ?_) fun h5 => ?_, fun z => absurd rfl z⟩
    · intro _ _ _
      exact ⟨fun z => absurd z (by decide), fun _ => hcut (Or.inl ((S_cd_ne 45 5 (by decide)).mpr h))⟩
    intro _ _ _
    refine ⟨fun _ => e_nm3 (d := d + 5) (j := 123) (j2 := 46) (by decide) rfl hR he' (fun h => ?_) fun h6 => ?_, fun z => absurd rfl z⟩
    · intro _ _ _
      exact ⟨fun z => absurd z (by decide), fun _ => hcut (Or.inr ((S_cd_ne 46 6 (by decide)).mpr h))⟩
    intro _ _ _
    refine ⟨fun _ => e_nm3 (d := d + 5) (j := 124) (j2 := 47) (by decide) rfl hR he' (fun h => ?_) fun h7 => ?_, fun z => absurd rfl z⟩
    · intro _ _ _
      rw [T_f7 ((S_cd_ne 47 7 (by decide)).mpr h)] at hq
      refine ⟨fun z => absurd z (by decide), fun _ => e_lookupFault (d := d + 2) (De := D2) hR ⟨he.1, he.2.1, he.2.2.1, he4, by omega⟩ ?_⟩
      exact fun _ _ _ => hq
    intro _ _ _
    refine ⟨fun _ => ?_, fun z => absurd rfl z⟩
    have h0 : S_cd e.2.1 = 0 := by
      unfold S_cd
      rw [if_neg h1, if_neg h2, if_neg h3, if_neg h4, if_neg h5, if_neg h6, if_neg h7]
    rw [T_f0 h0] at hq
    exact hq
  · rw [T_fx_no fun e z => g ⟨e, by rw [← hch]; exact z⟩] at hq
    refine ⟨fun z => ?_, fun _ => hq⟩
    exfalso
    cases es with
    | nil => exact absurd z (by simp)
    | cons e rest =>
      cases rest with
      | nil => exact g ⟨e, rfl⟩
      | cons x y =>
        rw [List.length_cons, List.length_cons] at z
        omega
end ESF
