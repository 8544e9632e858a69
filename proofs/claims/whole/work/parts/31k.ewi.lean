/-! REQUESTS, THE REFERENCE: an index is dropped, or told of -/
/-- what shape tells of an index -/
def F_shp (T : N_T I_E) (m1 m2 : Int) (a b c d e f : Nat) : List Int := b_el 16 (b_tx a) (b_le4 ((N_all T).length : Int)) ++ (b_el 16 (b_tx b) (b_le4 ((T.1 + 1 : Nat) : Int)) ++ (b_el 16 (b_tx c) (b_le4 ((N_lv T.1 T.2 : Nat) : Int)) ++ (b_el 16 (b_tx d) (b_le4 ((N_lv T.1 T.2 + N_im T.1 T.2 : Nat) : Int)) ++ (b_el 8 (b_tx e) [m1] ++ b_el 8 (b_tx f) [m2]))))
section EWI
variable {m d : Nat} {ρ : Nat → Nat} {M M1 : g_M} {st : Nat → I_T} {q : Nat → List (Nat × Int × List b_E)} {v : Nat → Int}
theorem E_HP_al (h : E_bk m ρ M) {y : Nat} {k : Int} (g : E_HP m ρ y k) : ¬ A_L m (ρ 0) y k := by
  have hb : y = ρ 0 → k < 2598000 ∨ 2606000 ≤ k := fun e => by
    rcases g with ⟨x, hx, z⟩ | ⟨w, hw, z⟩ | ⟨z, -⟩ | ⟨-, z⟩
    · rcases z with z | ⟨z | z, -⟩ | ⟨z | z | z, -⟩ | ⟨-, z1, z2⟩
      · rcases z with ⟨z | z, -⟩ | ⟨-, z1, z2⟩ | ⟨z | z | z, -⟩ | ⟨z | z, -⟩ | ⟨z | z, -⟩
        · exact absurd (h.key (by decide) (by decide) e z) (by decide)
        · exact absurd (h.key (by decide) (by decide) e z) (by decide)
        · omega
        · exact absurd (h.key (by decide) (by decide) e z) (by decide)
        · exact absurd (h.key (by decide) (by decide) e z) (by decide)
        · exact absurd (h.key (by decide) (by decide) e z) (by decide)
        · exact absurd (h.key (by decide) (by decide) e z) (by decide)
        · exact absurd (h.key (by decide) (by decide) e z) (by decide)
        · exact absurd (h.key (by decide) (by decide) e z) (by decide)
        · exact absurd (h.key (by decide) (by decide) e z) (by decide)
      · exact absurd (h.key (by decide) (by decide) e z) (by decide)
      · exact absurd (h.key (by decide) (by decide) e z) (by decide)
      · exact absurd (h.key (by decide) (by decide) e z) (by decide)
      · exact absurd (h.key (by decide) (by decide) e z) (by decide)
      · exact absurd (h.key (by decide) (by decide) e z) (by decide)
      · omega
    · rcases z with ⟨z | z | z, -⟩ | ⟨z | z | z, -⟩ | ⟨-, z1, z2⟩
      · exact absurd (h.key (by decide) (by decide) e z) (by decide)
      · exact absurd (h.key (by decide) (by decide) e z) (by decide)
      · exact absurd (h.key (by decide) (by decide) e z) (by decide)
      · exact absurd (h.key (by decide) (by decide) e z) (by decide)
      · exact absurd (h.key (by decide) (by decide) e z) (by decide)
      · exact absurd (h.key (by decide) (by decide) e z) (by decide)
      · omega
    · exact absurd (e.symm.trans z) (h.nm (by decide))
    · omega
  have hm : y = m → k = 47 := fun e => by
    rcases g with ⟨x, hx, z⟩ | ⟨w, hw, z⟩ | ⟨-, z⟩ | ⟨z, -⟩
    · obtain ⟨j, hj, -, e2, -⟩ := R_xP_k z
      exact absurd (e2.symm.trans e) (h.nm hj)
    · obtain ⟨j, hj, -, -, e2⟩ := R_hP_k z
      exact absurd (e2.symm.trans e) (h.nm hj)
    · exact z
    · exact absurd (z.symm.trans e) (h.nm (by decide))
  rintro (⟨z1, z2⟩ | ⟨z1, z2, z3⟩)
  · have := hm z1
    omega
  · have := hb z1
    omega
theorem E_H.al (h : E_H m ρ st q v M) (f : e_fr (A_L m (ρ 0)) M M1) : E_H m ρ st q v M1 := h.fr f fun y k z => E_HP_al h.1 z
theorem e_withIndex {Q : Int → g_M → Prop} {w D : Nat} {q1 k : Int} {nm vb : List Int} (h : E_H m ρ st q v M) (hw : w < 2) (hs1 : b_st (g_i M (ρ 0)) 922000 q1 D k nm vb) (hk : k = 16 ∨ k = 18) (hT : ∀ x, x < 8 → ∀ V T m1 m2, st x = some (V, T, m1, m2) → (N_all T).length ≤ 1000) (hn : (v_num k vb).toInt < 0 ∨ 3 < (v_num k vb).toInt ∨ (∀ j : Nat, (v_num k vb).toInt = j → st (4 * w + j) = none) → Q 0 (g_wi (g_wi M m 7 41) m 8 (-1))) (hdr : nm = b_tx 79 → ∀ j : Nat, (v_num k vb).toInt = j → j < 4 → st (4 * w + j) ≠ none → ∀ M1, E_k m M M1 → (∀ y k, y ≠ m → y ≠ ρ 35 → y ≠ ρ 0 → g_i M1 y k = g_i M y k) → g_i M1 m 10 = g_i M m 10 → g_i M1 m 40 = g_i M m 40 → E_H m ρ (I_up st (4 * w + j) none) q v M1 → e_Wr m (ρ 0) 2598000 2606000 (A_doc (b_el 8 (b_tx 86) [1])) M1 → (g_i M1 m 6 = 0 → Q 1 M1) ∧ (¬ g_i M1 m 6 = 0 → Q 0 (g_wi (g_wi M1 m 7 40) m 8 (-1)))) (hsh : nm ≠ b_tx 79 → ∀ j : Nat, (v_num k vb).toInt = j → j < 4 → ∀ V T m1 m2, st (4 * w + j) = some (V, T, m1, m2) → ∀ M1, E_k m M M1 → e_fr (A_L m (ρ 0)) M M1 → E_H m ρ st q v M1 → e_Wr m (ρ 0) 2598000 2606000 (A_doc (F_shp T m1 m2 87 88 89 90 91 92)) M1 → (g_i M1 m 6 = 0 → Q 1 M1) ∧ (¬ g_i M1 m 6 = 0 → Q 0 (g_wi (g_wi M1 m 7 40) m 8 (-1)))) : g_Call (d + 73) 422 [.ref m, g_n q1, g_n w] M (g_qI Q) := by
  have hB := h.1
  have hR := hB.R
  have hwR : g_InR (w : Int) := ⟨by omega, by omega⟩
  have hq1R : g_InR q1 := hs1.R (by decide)
  have b35 := hB.at (k := 35) (by decide)
  have b35A : g_A M (ρ 35) 2 8 := b35.2
  have hmne : ∀ k ∈ E_bf, m ≠ ρ k := fun k hk z => hB.nm hk z.symm
  have ne : ∀ {i j : Nat}, i ∈ E_bf → j ∈ E_bf → i ≠ j → ρ i ≠ ρ j := fun h1 h2 h3 => hB.ne h1 h2 h3
  obtain ⟨X, hX⟩ : ∃ X : Int64, X = v_num k vb := ⟨_, rfl⟩
  rw [← hX] at hn hdr hsh
  have refuse : Q 0 (g_wi (g_wi M m 7 41) m 8 (-1)) → g_Call (d + 72) 405 [.ref m, g_n 41, g_n (-1)] M (g_qI fun r37 M34 => g_ext M M34 → g_ok M34 → g_InR r37 → (r37 = 0 ∨ r37 = 1) ∧ Q r37 M34) := fun hQ => by
    refine m_X12_refuses ⟨by decide, by decide⟩ ⟨by decide, by decide⟩ fun _ => ⟨hB.1, fun M3 e3 _ M4 e4 _ => ?_⟩
    subst e3
    subst e4
    intro _ _ _
    exact ⟨Or.inl rfl, hQ⟩
  have z0 : (0 : Int64).toInt = 0 := by decide
  have z3 : (3 : Int64).toInt = 3 := by decide
  have alm : ∀ {k : Int}, k = 2 ∨ k = 24 → ¬ A_L m (ρ 0) m k := fun hk z => by
    rcases z with ⟨-, z⟩ | ⟨z, -⟩
    · omega
    · exact hmne 0 (by decide) z
  have n77 : ∀ {M2 M3 : g_M}, e_fr (e_WL m (ρ 0) 2598000 2606000) M2 M3 → g_i M3 m 77 = g_i M2 m 77 := fun f => f.2.1 m 77 fun z => by
    rcases z with ⟨-, z⟩ | ⟨z, -⟩
    · omega
    · exact hmne 0 (by decide) z
  have wal : ∀ {M2 M3 : g_M}, e_fr (e_WL m (ρ 0) 2598000 2606000) M2 M3 → e_fr (A_L m (ρ 0)) M2 M3 := fun f => f.up fun y k z => A_L.w z
  refine m_X12_withIndex (d := d + 72) hq1R hwR fun _ => ⟨hR.1, e_num (d := d + 68) hR (hs1.upW fun _ _ => rfl) hk ?_⟩
  intro _ _
  rw [← hX]
  refine ⟨fun z => refuse (hn (Or.inl ?_)), fun z => ⟨fun z2 => refuse (hn (Or.inr (Or.inl ?_))), fun z2 => ?_⟩⟩
  · have := (u_lt X 0).mp z
    rwa [z0] at this
  · have := (u_gt X 3).mp z2
    rwa [z3] at this
  have h0 : 0 ≤ X.toInt := by
    have : ¬ X.toInt < 0 := fun g => z ((u_lt X 0).mpr (by rw [z0]; exact g))
    omega
  have h3 : X.toInt ≤ 3 := by
    have : ¬ 3 < X.toInt := fun g => z2 ((u_gt X 3).mpr (by rw [z3]; exact g))
    omega
  obtain ⟨j, hj⟩ : ∃ j : Nat, X.toInt = j := ⟨X.toInt.toNat, by omega⟩
  have hj4 : j < 4 := by omega
  have h32 : X.toInt32.toInt = j := by
    rw [Int64.toInt_toInt32, hj]
    refine Int.bmod_eq_of_le ?_ ?_ <;> omega
  rw [h32]
  obtain ⟨x, hxe⟩ : ∃ x, x = 4 * w + j := ⟨_, rfl⟩
  have hx : x < 8 := by omega
  rw [show 4 * (w : Int) + j = (x : Nat) by omega]
  obtain ⟨hth0, hth1⟩ := (h.2.2.2.1 x hx).there
  refine ⟨ρ 35, b35.1, ⟨by omega, by omega⟩, ⟨by omega, by omega⟩, 8, b35A, ⟨by omega, by omega⟩, ?_⟩
  cases hst : st x with
  | none =>
    rw [hth0 hst]
    refine ⟨fun _ => refuse (hn (Or.inr (Or.inr fun j2 hj2 => ?_))), fun z => absurd rfl z⟩
    have : j2 = j := by omega
    rw [this, ← hxe]
    exact hst
  | some t =>
    obtain ⟨V, T, m1, m2⟩ := t
    rw [(hth1 V T m1 m2 hst).1]
    refine ⟨fun z => absurd z (by decide), fun _ => ⟨⟨by omega, by omega⟩, ⟨by omega, by omega⟩, e_beginAnswer (d := d + 68) hR fun M25 f25 W25 h77 => ?_⟩⟩
    intro _ _
    have H25 := h.al f25
    have hB25 := H25.1
    have h5 := hs1.2.2.2.2
    have h4 := hs1.2.2.2.1
    have hel := b_el_len k nm vb
    have hat25 : b_at (g_i M25 (ρ 0)) q1 (b_el k nm vb) := b_at_keep hs1.1 fun i i1 i2 => f25.2.1 _ i fun z => by
      rcases z with ⟨z, -⟩ | ⟨-, z, -⟩
      · exact hmne 0 (by decide) z.symm
      · omega
    refine e_isName (d := d + 68) (j := 79) (by decide) hB25.R hat25 hs1.2.1 h4 (by omega) ?_
    intro _ _ _
    have K25 : E_k m M M25 := f25.k (alm (Or.inl rfl)) (alm (Or.inr rfl))
    refine ⟨fun g => ?_, fun g => ?_⟩
    · have hnm : nm ≠ b_tx 79 := fun z => by
        rw [if_pos z] at g
        exact absurd g (by decide)
      have hix := H25.2.2.2.1 x hx
      rw [hst] at hix
      obtain ⟨k1, k2, k3, ⟨k4, k5⟩, k6, k7⟩ := hix
      have hTl := hT x hx V T m1 m2 hst
      obtain ⟨-, -, -, -, hh, nn, l, us, hTe, hrt, hD, hnd, hup, hus, hgd, hct, hkp⟩ := id k3
      have b54 := hB25.at (k := 54) (by decide)
      have b54A : g_A M25 (ρ 54) 1 8 := b54.2
      have hsz : (V_ns hh nn l).length = N_lv T.1 T.2 + N_im T.1 T.2 := by
        rw [V_ns_len, hTe]
        show _ = N_lv hh (l.map (V_er hh)) + N_im hh (l.map (V_er hh))
        rw [V_er_lv, V_er_im]
      have hlv : N_lv hh l = N_lv T.1 T.2 := by
        rw [hTe]
        show _ = N_lv hh (l.map (V_er hh))
        rw [V_er_lv]
      have hbd : hh ≤ 4 ∧ N_lv hh l ≤ 251 ∧ (V_ns hh nn l).length ≤ 335 := by
        have hg2 := hgd
        rw [hTe] at hg2
        have hl2 : (N_ins hh l).length ≤ 1001 := by
          rw [hTe, V_ins_len] at hTl
          omega
        obtain ⟨z1, z2, z3, -⟩ := V_size (rt := nn) hg2 hl2
        exact ⟨z1, z2, z3⟩
      have hT1 : T.1 = hh := by rw [hTe]
      refine ⟨ρ 54, b54.1, 8, b54A, ⟨by omega, by omega⟩, ?_⟩
      rw [hct]
      refine e_putNumber (d := d + 68) (j := 87) (by decide) W25 ⟨by omega, by omega⟩ fun M38 f38 W38 => ?_
      intro _ _
      have H38 := H25.al (wal f38)
      have hix38 := H38.2.2.2.1 x hx
      rw [hst] at hix38
      refine e_levels (d := d + 70) hix38.2.2.1 ?_ hTl
      intro _ _ _
      refine e_putNumber (d := d + 68) (j := 88) (by decide) W38 ⟨by omega, by omega⟩ fun M46 f46 W46 => ?_
      intro _ _
      have H46 := H38.al (wal f46)
      have hD46 : R_D (ρ 0) ρ x M46 hh nn l ∧ R_us ρ x M46 us := by
        have F46 := ((wal f38).tr (wal f46))
        have hPX : ∀ y k, R_PX (ρ 0) ρ x y k → ¬ A_L m (ρ 0) y k := fun y k z => E_HP_al hB25 (Or.inl ⟨x, hx, Or.inl z⟩)
        exact ⟨hD.frX F46 hPX, ⟨fun i hi => by
          rw [F46.2.1 _ _ (hPX _ _ (Or.inr (Or.inr (Or.inl ⟨Or.inl rfl, by omega, by omega⟩))))]
          exact hus.1 i hi, hus.2⟩⟩
      refine e_nodes (d := d + 70) H46.1.rw hx hD46.1 hnd hD46.2 hup (Or.inr rfl) ?_
      intro _ _ _
      rw [if_neg (by decide), hlv]
      refine e_putNumber (d := d + 68) (j := 89) (by decide) W46 ⟨by omega, by omega⟩ fun M54 f54 W54 => ?_
      intro _ _
      have H54 := H46.al (wal f54)
      have hD54 : R_D (ρ 0) ρ x M54 hh nn l ∧ R_us ρ x M54 us := by
        have hPX : ∀ y k, R_PX (ρ 0) ρ x y k → ¬ A_L m (ρ 0) y k := fun y k z => E_HP_al hB25 (Or.inl ⟨x, hx, Or.inl z⟩)
        exact ⟨hD46.1.frX (wal f54) hPX, ⟨fun i hi => by
          rw [(wal f54).2.1 _ _ (hPX _ _ (Or.inr (Or.inr (Or.inl ⟨Or.inl rfl, by omega, by omega⟩))))]
          exact hD46.2.1 i hi, hD46.2.2⟩⟩
      refine e_nodes (d := d + 70) H54.1.rw hx hD54.1 hnd hD54.2 hup (Or.inl rfl) ?_
      intro _ _ _
      rw [if_pos rfl, hsz]
      refine e_putNumber (d := d + 68) (j := 90) (by decide) W54 ⟨by omega, by omega⟩ fun M62 f62 W62 => ?_
      intro _ _
      have H62 := H54.al (wal f62)
      have hix62 := H62.2.2.2.1 x hx
      rw [hst] at hix62
      obtain ⟨-, -, -, ⟨k4', k5'⟩, -, -⟩ := hix62
      have b39 := H62.1.at (k := 39) (by decide)
      have b39A : g_A M62 (ρ 39) 2 16 := b39.2
      have c0 : (2 : Int) * (x : Nat) = ((2 * x : Nat) : Int) := by omega
      have c1 : ((2 * x : Nat) : Int) + 1 = ((2 * x + 1 : Nat) : Int) := by omega
      have tb : ∀ {mm : Int}, (mm = 0 ∨ mm = 1) → ∃ bb : Bool, mm = (if bb = true then 1 else 0) := fun hm => by
        rcases hm with g | g
        · exact ⟨false, g⟩
        · exact ⟨true, g⟩
      refine ⟨ρ 39, b39.1, ⟨by omega, by omega⟩, 16, b39A, ⟨by omega, by omega⟩, ?_⟩
      rw [c0, k4']
      obtain ⟨b1, hb1⟩ := tb k6
      obtain ⟨b2, hb2⟩ := tb k7
      rw [hb1]
      refine e_putTruth (d := d + 68) (j := 91) (v := b1) (by decide) W62 fun M71 f71 W71 => ?_
      intro _ _
      have H71 := H62.al (wal f71)
      have hix71 := H71.2.2.2.1 x hx
      rw [hst] at hix71
      obtain ⟨-, -, -, ⟨-, k5''⟩, -, -⟩ := hix71
      have b39' := H71.1.at (k := 39) (by decide)
      have b39A' : g_A M71 (ρ 39) 2 16 := b39'.2
      refine ⟨ρ 39, b39'.1, ⟨by omega, by omega⟩, ⟨by omega, by omega⟩, 16, b39A', ⟨by omega, by omega⟩, ?_⟩
      rw [c1, k5'', hb2]
      refine e_putTruth (d := d + 68) (j := 92) (v := b2) (by decide) W71 fun M81 f81 W81 => ?_
      intro _ _
      rw [← hb1] at W81
      rw [← hb2] at W81
      have Wx : e_Wr m (ρ 0) 2598000 2606000 ([0, 0, 0, 0] ++ F_shp T m1 m2 87 88 89 90 91 92) M81 := by
        unfold F_shp
        have e1 : ([0, 0, 0, 0] : List Int) ++ (b_el 16 (b_tx 87) (b_le4 ((N_all T).length : Int)) ++ (b_el 16 (b_tx 88) (b_le4 ((T.1 + 1 : Nat) : Int)) ++ (b_el 16 (b_tx 89) (b_le4 ((N_lv T.1 T.2 : Nat) : Int)) ++ (b_el 16 (b_tx 90) (b_le4 ((N_lv T.1 T.2 + N_im T.1 T.2 : Nat) : Int)) ++ (b_el 8 (b_tx 91) [m1] ++ b_el 8 (b_tx 92) [m2]))))) = [0, 0, 0, 0] ++ b_el 16 (b_tx 87) (b_le4 ((N_all T).length : Int)) ++ b_el 16 (b_tx 88) (b_le4 ((T.1 + 1 : Nat) : Int)) ++ b_el 16 (b_tx 89) (b_le4 ((N_lv T.1 T.2 : Nat) : Int)) ++ b_el 16 (b_tx 90) (b_le4 ((N_lv T.1 T.2 + N_im T.1 T.2 : Nat) : Int)) ++ b_el 8 (b_tx 91) [m1] ++ b_el 8 (b_tx 92) [m2] := by simp
        rw [e1]
        exact W81
      have F81 := (f25.tr ((wal f38).tr ((wal f46).tr ((wal f54).tr ((wal f62).tr ((wal f71).tr (wal f81)))))))
      refine e_endAnswer (d := d + 69) Wx (by rw [n77 f81, n77 f71, n77 f62, n77 f54, n77 f46, n77 f38]; exact h77) fun M84 f84 W84 => ?_
      have F84 := F81.tr f84
      have hfin := hsh hnm j hj hj4 V T m1 m2 (by rw [← hxe]; exact hst) M84 (F84.k (alm (Or.inl rfl)) (alm (Or.inr rfl))) F84 (h.al F84) W84
      exact ⟨fun z => by
        intro _ _ _
        exact ⟨Or.inr rfl, hfin.1 z⟩, fun z => by
        intro _ _ _
        exact ⟨Or.inl rfl, hfin.2 z⟩⟩
    · have hnm : nm = b_tx 79 := by
        by_cases z : nm = b_tx 79
        · exact z
        · rw [if_neg z] at g
          exact absurd rfl g
      have b35' := hB25.at (k := 35) (by decide)
      have b35A' : g_A M25 (ρ 35) 2 8 := b35'.2
      refine ⟨ρ 35, b35'.1, 8, b35A', ⟨by omega, by omega⟩, ?_⟩
      rintro M94 e94 _
      have f94 : e_fr (fun y k => y = ρ 35 ∧ k = x) M25 M94 := by rw [e94]; exact e_fr.wi _ ⟨rfl, rfl⟩
      have h4794 : g_i M94 m 47 = -1 := by
        rw [f94.2.1 m 47 fun z => hmne 35 (by decide) z.1]
        exact H25.2.1
      have H94 : E_H m ρ (I_up st x none) q v M94 := H25.upd f94 hx (fun w2 hw2 y k z g2 => R_hP_xP hB hw2 (x := x) (Or.inr (Or.inl ⟨Or.inl g2.1, g2.2⟩)) z) (fun x2 hx2 hxx y k z g2 => by
        rcases z with z | ⟨z, z1⟩ | ⟨z, -⟩ | ⟨z, -⟩
        · rcases R_PX_y hB.rw z with e | ⟨i, hi, e⟩
          · exact ne (i := 35) (j := 0) (by decide) (by decide) (by decide) (g2.1.symm.trans e)
          · have := hB.key (by decide) (E_fs_bf i hi).1 g2.1 e
            rw [← this] at hi
            exact absurd hi (by decide)
        · have := g2.2
          omega
        · rcases z with z | z | z
          · exact absurd (hB.key (by decide) (by decide) g2.1 z) (by decide)
          · exact absurd (hB.key (by decide) (by decide) g2.1 z) (by decide)
          · exact absurd (hB.key (by decide) (by decide) g2.1 z) (by decide)
        · exact absurd (hB.key (by decide) (by decide) g2.1 z) (by decide)) (fun k hk g2 => ne (i := 0) (j := 35) (by decide) (by decide) (by decide) g2.1) h4794 (by
        show g_i M94 (ρ 35) x = 0
        rw [e94, g_i_wi, if_pos ⟨rfl, rfl⟩])
      have W94 : e_Wr m (ρ 0) 2598000 2606000 [0, 0, 0, 0] M94 := W25.kp f94 (fun k _ _ z => hmne 35 (by decide) z.1) fun k _ _ z => ne (i := 0) (j := 35) (by decide) (by decide) (by decide) z.1
      have h7794 : g_i M94 m 77 = g_i M25 m 77 := f94.2.1 m 77 fun z => hmne 35 (by decide) z.1
      have ht1 : g_n (1 : Int) = g_n (if true = true then 1 else 0) := rfl
      refine e_putTruth (d := d + 68) (j := 86) (v := true) (by decide) W94 fun M98 f98 W98 => ?_
      intro _ _
      refine e_endAnswer (d := d + 69) (x := b_el 8 (b_tx 86) [1]) W98 (by rw [n77 f98, h7794]; exact h77) fun M101 f101 W101 => ?_
      have F101 := (wal f98).tr f101
      have hfin := hdr hnm j hj hj4 (by rw [← hxe, hst]; simp) M101 ((K25.tr (f94.k (fun z => hmne 35 (by decide) z.1) fun z => hmne 35 (by decide) z.1)).tr (F101.k (alm (Or.inl rfl)) (alm (Or.inr rfl)))) (fun y k y1 y2 y3 => by
        have al : ¬ A_L m (ρ 0) y k := fun z => z.elim (fun z => y1 z.1) fun z => y3 z.1
        rw [F101.2.1 y k al, f94.2.1 y k fun z => y2 z.1, f25.2.1 y k al]) (by
        have al : ¬ A_L m (ρ 0) m 10 := fun z => by
          rcases z with ⟨-, z⟩ | ⟨z, -⟩
          · omega
          · exact hmne 0 (by decide) z
        rw [F101.2.1 m 10 al, f94.2.1 m 10 fun z => hmne 35 (by decide) z.1, f25.2.1 m 10 al]) (by
        have al : ¬ A_L m (ρ 0) m 40 := fun z => by
          rcases z with ⟨-, z⟩ | ⟨z, -⟩
          · omega
          · exact hmne 0 (by decide) z
        rw [F101.2.1 m 40 al, f94.2.1 m 40 fun z => hmne 35 (by decide) z.1, f25.2.1 m 40 al]) (by
        rw [← hxe]
        exact H94.al F101) W101
      exact ⟨fun z => by
        intro _ _ _
        exact ⟨Or.inr rfl, hfin.1 z⟩, fun z => by
        intro _ _ _
        exact ⟨Or.inl rfl, hfin.2 z⟩⟩
end EWI
