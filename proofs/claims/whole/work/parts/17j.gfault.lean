/-! STAGES: $group: what may be wrong -/
theorem G_cd_R (nm : List Int) : 0 ≤ G_cd nm ∧ G_cd nm ≤ 8 := by
  unfold G_cd
  repeat' split
  all_goals exact ⟨by decide, by decide⟩
section CACC
variable {so b po pf pt : Nat} {M M1 : g_M} {Q : Int → g_M → Prop}
theorem c_accumulatorOf {d De : Nat} {pe : Int} {e : b_E} (hA : g_A M b 0 246408) (hs : b_st (g_i M b) 246408 pe De e.1 e.2.1 e.2.2) (hq : Q (G_cd e.2.1) M) : g_Call (d + 4) 155 [.ref b, g_n pe] M (g_qI Q) := by
  have hpeR := hs.R (by decide)
  have hs5 := hs.2.2.2.2
  rw [b_el_len] at hs5
  have hnm : ∀ {j : Nat} {w : Int} {P : Prop} {Q1 : Int → g_M → Prop}, j < q_nS → (e.2.1 = b_tx j → Q1 1 M) → (e.2.1 ≠ b_tx j → Q1 0 M) → g_Call (d + 3) 115 [.ref b, g_n pe, .ref (4 * j + 1)] M (g_qI Q1) := fun {j} _ _ {Q1} hj h1 h0 => by
    refine c_named (d := d) hj hA (by decide) hs.1 hs.2.1 hs.2.2.2.1 (by omega) ?_
    by_cases g : e.2.1 = b_tx j
    · rw [if_pos g]
      exact h1 g
    · rw [if_neg g]
      exact h0 g
  unfold G_cd at hq
  refine m_X9_accumulatorOf hpeR fun _ => hnm (w := 0) (P := True) (by decide) (fun g => ?_) fun g => ?_
  · rw [if_pos g] at hq
    exact fun _ _ _ => ⟨fun z => absurd z (by decide), fun _ => hq⟩
  rw [if_neg g] at hq
  refine fun _ _ _ => ⟨fun _ => hnm (w := 0) (P := True) (by decide) (fun g => ?_) fun g => ?_, fun z => absurd rfl z⟩
  · rw [if_pos g] at hq
    exact fun _ _ _ => ⟨fun z => absurd z (by decide), fun _ => hq⟩
  rw [if_neg g] at hq
  refine fun _ _ _ => ⟨fun _ => hnm (w := 0) (P := True) (by decide) (fun g => ?_) fun g => ?_, fun z => absurd rfl z⟩
  · rw [if_pos g] at hq
    exact fun _ _ _ => ⟨fun z => absurd z (by decide), fun _ => hq⟩
  rw [if_neg g] at hq
  refine fun _ _ _ => ⟨fun _ => hnm (w := 0) (P := True) (by decide) (fun g => ?_) fun g => ?_, fun z => absurd rfl z⟩
  · rw [if_pos g] at hq
    exact fun _ _ _ => ⟨fun z => absurd z (by decide), fun _ => hq⟩
  rw [if_neg g] at hq
  refine fun _ _ _ => ⟨fun _ => hnm (w := 0) (P := True) (by decide) (fun g => ?_) fun g => ?_, fun z => absurd rfl z⟩
  · rw [if_pos g] at hq
    exact fun _ _ _ => ⟨fun z => absurd z (by decide), fun _ => hq⟩
  rw [if_neg g] at hq
  refine fun _ _ _ => ⟨fun _ => hnm (w := 0) (P := True) (by decide) (fun g => ?_) fun g => ?_, fun z => absurd rfl z⟩
  · rw [if_pos g] at hq
    exact fun _ _ _ => ⟨fun z => absurd z (by decide), fun _ => hq⟩
  rw [if_neg g] at hq
  refine fun _ _ _ => ⟨fun _ => hnm (w := 0) (P := True) (by decide) (fun g => ?_) fun g => ?_, fun z => absurd rfl z⟩
  · rw [if_pos g] at hq
    exact fun _ _ _ => ⟨fun z => absurd z (by decide), fun _ => hq⟩
  rw [if_neg g] at hq
  refine fun _ _ _ => ⟨fun _ => hnm (w := 0) (P := True) (by decide) (fun g => ?_) fun g => ?_, fun z => absurd rfl z⟩
  · rw [if_pos g] at hq
    exact fun _ _ _ => ⟨fun z => absurd z (by decide), fun _ => hq⟩
  rw [if_neg g] at hq
  exact fun _ _ _ => ⟨fun _ => hq, fun z => absurd rfl z⟩
theorem c_wrongInGroup {d : Nat} {pe : Int} {De : Nat} {e : b_E} (hS : S_B so b M) (h2 : g_r M so 2 = some po) (hP : p_P M po pf pt) (hs : b_st (g_i M b) 246408 pe De e.1 e.2.1 e.2.2) (hl : e.2.2.length ≤ 3000) (hq : ∀ M1, g_fr (p_S po pf pt) M M1 → p_P M1 po pf pt → Q (G_gf e) M1) : g_Call (d + 6) 156 [.ref so, g_n pe] M (g_qI Q) := by
  have hpR := hs.R (by decide)
  obtain ⟨s1, s2, s3⟩ := id hS
  obtain ⟨v1, v2, v3, v4⟩ := hs.val
  have hq0 := hq M (g_fr.rf _ _) hP
  unfold G_gf at hq hq0
  have hfR : g_InR (pe + 6 + e.2.1.length) := ⟨by omega, by omega⟩
  refine m_X9_wrongInGroup hpR fun _ => ⟨s1, b, s2, c_fi2 (d := d + 4) s3 (by decide) hs ?_⟩
  intro _ _ _
  refine ⟨b, s2, c_kd2 (d := d + 4) s3 (by decide) hs ?_⟩
  intro _ _ _
  refine ⟨fun g3 => ⟨b, s2, ?_⟩, fun g3 => by rwa [if_neg g3] at hq0⟩
  rw [if_pos g3] at hq hq0
  obtain ⟨D1, eD, hk, hkl⟩ := hs.kids (Or.inl g3)
  have hmany := b_ser_many (b_ch e.2.2)
  have hlp : ∀ (xs : List b_E) (q : Int) (i : Nat) (M1 : g_M), b_sts (g_i M b) 246408 q D1 xs → g_fr (p_S po pf pt) M M1 → p_P M1 po pf pt → i + xs.length < 2000 → (∀ M2, g_fr (p_S po pf pt) M M2 → p_P M2 po pf pt → Q (G_gfL xs) M2) → g_Run (d + 5) 156 69 [(0, .ref so), (1, g_n pe), (2, g_n q), (3, g_n i)] [] M1 (g_qI Q) := by
    intro xs
    induction xs with
    | nil =>
      intro q i M1 h1 f1 P1 hi hq
      obtain ⟨⟨t1, t2, t3⟩, eb, -, -⟩ := hS.pth hP f1
      have hqR : g_InR q := by
        have := h1.2.2.1
        have := h1.2.2.2.1
        exact ⟨by omega, by omega⟩
      rw [List.length_nil] at hi
      exact s_X9_wrongInGroup_69 hpR hqR ⟨by omega, by omega⟩ fun _ => ⟨fun _ => ⟨t1, b, t2, c_kdE (d := d + 4) t3 (by decide) (by rw [eb]; exact h1) fun _ _ _ => ⟨fun _ => hq M1 f1 P1, fun g => absurd rfl g⟩⟩, fun g => absurd (by omega) g⟩
    | cons x xs ih =>
      intro q i M1 h1 f1 P1 hi hq
      obtain ⟨⟨t1, t2, t3⟩, eb, -, er⟩ := hS.pth hP f1
      obtain ⟨hx, hr⟩ := h1.cons
      have hxR := hx.R (by decide)
      have hxk := b_vs_pos (b_gv_vs hx.2.2.1)
      obtain ⟨x1v, x2v, x3v, x4v⟩ := hx.val
      rw [List.length_cons] at hi
      have hx1 : b_st (g_i M1 b) 246408 q D1 x.1 x.2.1 x.2.2 := by rw [eb]; exact hx
      have hfL : G_gfL (x :: xs) = G_g1 x (G_gfL xs) := rfl
      rw [hfL] at hq
      have h2q : G_g1 x (G_gfL xs) = 2 → Q 2 M1 := fun z => by
        have := hq M1 f1 P1
        rwa [z] at this
      have hxfR : g_InR (q + 6 + x.2.1.length) := ⟨by omega, by omega⟩
      refine s_X9_wrongInGroup_69 hpR hxR ⟨by omega, by omega⟩ fun _ => ⟨fun _ => ⟨t1, b, t2, c_kd2 (d := d + 4) t3 (by decide) hx1 fun _ _ _ => ⟨fun g => absurd g (by omega), fun _ => ⟨b, t2, c_fi2 (d := d + 4) t3 (by decide) hx1 ?_⟩⟩⟩, fun g => absurd (by omega) g⟩
      intro _ _ _
      refine c_plainName (d := d + 3) ⟨t1, t2, t3⟩ hx1 ?_
      intro _ _ _
      by_cases hpl : S_pl x.2.1 = true
      rotate_left
      · rw [if_neg hpl]
        refine ⟨fun _ => h2q ?_, fun g => absurd rfl g⟩
        unfold G_g1
        rw [if_neg fun z => hpl z.1]
      rw [if_pos hpl]
      refine ⟨fun g => absurd g (by decide), fun _ => ⟨b, t2, c_kd2 (d := d + 4) t3 (by decide) hx1 ?_⟩⟩
      intro _ _ _
      refine ⟨fun hk3 => ⟨b, t2, ?_⟩, fun hk3 => h2q ?_⟩
      rotate_left
      · unfold G_g1
        rw [if_neg fun z => hk3 z.2]
      have hg1 : G_g1 x (G_gfL xs) = G_m1 (b_ch x.2.2) (G_gfL xs) := by
        unfold G_g1
        rw [if_pos ⟨hpl, hk3⟩]
      obtain ⟨D2, eD2, hk2, hkl2⟩ := hx1.kids (Or.inl hk3)
      rcases hc : b_ch x.2.2 with _ | ⟨a, as⟩
      · rw [hc] at hk2 hg1
        refine c_kdE (d := d + 4) t3 (by decide) hk2 ?_
        intro _ _ _
        exact ⟨fun _ => h2q hg1, fun g => absurd rfl g⟩
      rw [hc] at hk2 hg1
      obtain ⟨ha, hr2⟩ := hk2.cons
      have hak := b_vs_pos (b_gv_vs ha.2.2.1)
      have haR := ha.R (by decide)
      refine c_kd2 (d := d + 4) t3 (by decide) ha ?_
      intro _ _ _
      refine ⟨fun g => absurd g (by omega), fun _ => ⟨b, t2, b, t2, c_nx2 (d := d + 4) t3 (by decide) ha ?_⟩⟩
      intro _ _ _
      rcases as with _ | ⟨a2, as⟩
      rotate_left
      · have ha2 := hr2.cons.1
        have ha2k := b_vs_pos (b_gv_vs ha2.2.2.1)
        refine c_kd2 (d := d + 4) t3 (by decide) ha2 ?_
        intro _ _ _
        exact ⟨fun g => absurd g (by omega), fun _ => h2q hg1⟩
      change G_g1 x (G_gfL xs) = G_gx a (G_gfL xs) at hg1
      rw [hg1] at hq
      refine c_kdE (d := d + 4) t3 (by decide) hr2 ?_
      intro _ _ _
      refine ⟨fun _ => ⟨b, t2, c_accumulatorOf (d := d + 1) t3 ha ?_⟩, fun g => absurd rfl g⟩
      intro _ _ hcR
      have h188 : G_ac a = true → g_Run (d + 5) 156 188 [(0, .ref so), (1, g_n pe), (2, g_n q), (3, g_n i), (4, g_n (q + 6 + x.2.1.length)), (5, g_n (G_cd a.2.1))] [] M1 (g_qI Q) := by
        intro hac
        unfold G_gx at hq
        rw [if_pos hac] at hq
        refine s_X9_wrongInGroup_188 hpR hxR ⟨by omega, by omega⟩ haR hcR fun _ => ⟨t1, c_wrongExpr (d := d + 2) ⟨t1, t2, t3⟩ (by rw [er]; exact h2) P1 ha fun M2 f2 P2 => ?_⟩
        intro _ _ _
        have f12 := f1.tr f2
        obtain ⟨⟨u1, u2, u3⟩, eb2, -, -⟩ := hS.pth hP f12
        by_cases he : S_ef a = true
        · rw [if_pos he]
          rw [if_pos he] at hq
          exact ⟨fun g => absurd g (by decide), fun _ => hq M2 f12 P2⟩
        · rw [if_neg he]
          rw [if_neg he] at hq
          refine ⟨fun _ => ⟨b, u2, c_nx2 (d := d + 4) u3 (by decide) (by rw [eb2]; exact hx) ?_⟩, fun g => absurd rfl g⟩
          intro _ _ _
          exact ⟨⟨by omega, by omega⟩, ih _ (i + 1) M2 hr f12 P2 (by omega) hq⟩
      have h2a : G_ac a = false → Q 2 M1 := fun z => by
        have := hq M1 f1 P1
        unfold G_gx at this
        rwa [if_neg (by rw [z]; decide)] at this
      refine ⟨fun g => h2a ?_, fun g => ⟨fun g1 => ⟨b, t2, c_kd2 (d := d + 4) t3 (by decide) ha ?_⟩, fun g1 => h188 ?_⟩⟩
      · unfold G_ac
        rw [g]
        rfl
      · intro _ _ _
        refine ⟨fun g10 => h188 ?_, fun g10 => h2a ?_⟩
        · unfold G_ac
          rw [g1, g10]
          rfl
        · unfold G_ac
          rw [g1, beq_false_of_ne g10]
          rfl
      · unfold G_ac
        have e1 : (G_cd a.2.1 != 0) = true := by simpa using g
        have e2 : (G_cd a.2.1 != 1) = true := by simpa using g1
        rw [e1, e2]
        rfl
  rcases hch : b_ch e.2.2 with _ | ⟨y, ys⟩
  · rw [hch] at hk hq0
    refine c_kdE (d := d + 4) s3 (by decide) hk ?_
    intro _ _ _
    exact ⟨fun _ => hq0, fun g => absurd rfl g⟩
  · rw [hch] at hk hq hq0 hmany hkl
    obtain ⟨hy, hr⟩ := hk.cons
    have hyk := b_vs_pos (b_gv_vs hy.2.2.1)
    have hy5 := hy.2.2.2.2
    rw [b_el_len] at hy5
    refine c_kd2 (d := d + 4) s3 (by decide) hy ?_
    intro _ _ _
    refine ⟨fun g => absurd g (by omega), fun _ => ⟨b, s2, c_named (d := d + 2) (j := 48) (by decide) s3 (by decide) hy.1 hy.2.1 hy.2.2.2.1 (by omega) ?_⟩⟩
    intro _ _ _
    change ∀ M1, g_fr (p_S po pf pt) M M1 → p_P M1 po pf pt → Q (if y.2.1 = b_tx 48 then (if S_ef y = true then 3 else G_gfL ys) else 2) M1 at hq
    by_cases hn : y.2.1 = b_tx 48
    rotate_left
    · rw [if_neg hn]
      have := hq M (g_fr.rf _ _) hP
      rw [if_neg hn] at this
      exact ⟨fun _ => this, fun g => absurd rfl g⟩
    rw [if_pos hn]
    rw [if_pos hn] at hq
    refine ⟨fun g => absurd g (by decide), fun _ => c_wrongExpr (d := d + 2) hS h2 hP hy fun M2 f2 P2 => ?_⟩
    intro _ _ _
    obtain ⟨⟨u1, u2, u3⟩, eb2, -, -⟩ := hS.pth hP f2
    by_cases he : S_ef y = true
    · rw [if_pos he]
      rw [if_pos he] at hq
      exact ⟨fun g => absurd g (by decide), fun _ => hq M2 f2 P2⟩
    · rw [if_neg he]
      rw [if_neg he] at hq
      refine ⟨fun _ => ⟨b, u2, c_nx2 (d := d + 4) u3 (by decide) (by rw [eb2]; exact hy) ?_⟩, fun g => absurd rfl g⟩
      intro _ _ _
      rw [List.length_cons] at hmany
      exact hlp ys _ 0 M2 hr f2 P2 (by omega) hq
end CACC
section EACC
variable {m b : Nat} {M : g_M} {Q : Int → g_M → Prop}
theorem e_isGathering {d De : Nat} {pe : Int} {e : b_E} (hR : e_R M m b) (hs : b_st (g_i M b) 2706210 pe De e.1 e.2.1 e.2.2) (hq : Q (if G_ac e = true then 1 else 0) M) : g_Call (d + 5) 332 [.ref m, g_n pe] M (g_qI Q) := by
  have hpeR := hs.R (by decide)
  obtain ⟨v1, v2, v3, v4⟩ := hs.val
  have hno : ∀ {i j : Nat}, e.2.1 = b_tx i → b_tx i ≠ b_tx j → e.2.1 ≠ b_tx j := fun h1 h2 z => h2 (h1.symm.trans z)
  have hac : ∀ {w : Int}, G_cd e.2.1 = w → w ≠ 0 → w ≠ 1 → Q 1 M := fun {w} h1 h2 h3 => by
    have : G_ac e = true := by
      unfold G_ac
      have e1 : (G_cd e.2.1 != 0) = true := by rw [h1]; simpa using h2
      have e2 : (G_cd e.2.1 != 1) = true := by rw [h1]; simpa using h3
      rw [e1, e2]
      rfl
    rwa [if_pos this] at hq
  -- the codes
  have c2 : e.2.1 = b_tx 50 → G_cd e.2.1 = 2 := fun g => by unfold G_cd; rw [if_neg (hno g (by decide +kernel)), if_pos g]
  have c3 : e.2.1 = b_tx 51 → G_cd e.2.1 = 3 := fun g => by unfold G_cd; rw [if_neg (hno g (by decide +kernel)), if_neg (hno g (by decide +kernel)), if_pos g]
  have c4 : e.2.1 = b_tx 52 → G_cd e.2.1 = 4 := fun g => by unfold G_cd; rw [if_neg (hno g (by decide +kernel)), if_neg (hno g (by decide +kernel)), if_neg (hno g (by decide +kernel)), if_pos g]
  have c5 : e.2.1 = b_tx 53 → G_cd e.2.1 = 5 := fun g => by unfold G_cd; rw [if_neg (hno g (by decide +kernel)), if_neg (hno g (by decide +kernel)), if_neg (hno g (by decide +kernel)), if_neg (hno g (by decide +kernel)), if_pos g]
  have c6 : e.2.1 = b_tx 54 → G_cd e.2.1 = 6 := fun g => by unfold G_cd; rw [if_neg (hno g (by decide +kernel)), if_neg (hno g (by decide +kernel)), if_neg (hno g (by decide +kernel)), if_neg (hno g (by decide +kernel)), if_neg (hno g (by decide +kernel)), if_pos g]
  have c7 : e.2.1 = b_tx 55 → G_cd e.2.1 = 7 := fun g => by unfold G_cd; rw [if_neg (hno g (by decide +kernel)), if_neg (hno g (by decide +kernel)), if_neg (hno g (by decide +kernel)), if_neg (hno g (by decide +kernel)), if_neg (hno g (by decide +kernel)), if_neg (hno g (by decide +kernel)), if_pos g]
  have c8 : e.2.1 = b_tx 56 → G_cd e.2.1 = 8 := fun g => by unfold G_cd; rw [if_neg (hno g (by decide +kernel)), if_neg (hno g (by decide +kernel)), if_neg (hno g (by decide +kernel)), if_neg (hno g (by decide +kernel)), if_neg (hno g (by decide +kernel)), if_neg (hno g (by decide +kernel)), if_neg (hno g (by decide +kernel)), if_pos g]
  have h60 : ∀ w : Int, (w = 1 ∧ Q 1 M) ∨ (w = 0 ∧ e.2.1 ≠ b_tx 50 ∧ e.2.1 ≠ b_tx 51 ∧ e.2.1 ≠ b_tx 52 ∧ e.2.1 ≠ b_tx 53 ∧ e.2.1 ≠ b_tx 54) → g_Run (d + 4) 332 60 [(0, .ref m), (1, g_n pe)] [g_n w] M (g_qI Q) := by
    rintro w (⟨rfl, h1⟩ | ⟨rfl, k2, k3, k4, k5, k6⟩)
    · exact s_X12_isGathering_60 hpeR ⟨by decide, by decide⟩ fun _ => ⟨fun g => absurd g (by decide), fun _ => h1⟩
    · refine s_X12_isGathering_60 hpeR ⟨by decide, by decide⟩ fun _ => ⟨fun _ => ⟨hR.1, e_nm3 (d := d) (j := 118) (j2 := 55) (by decide) rfl hR hs (fun g => ?_) fun k7 => ?_⟩, fun g => absurd rfl g⟩
      · exact fun _ _ _ => ⟨fun z => absurd z (by decide), fun _ => hac (c7 g) (by decide) (by decide)⟩
      refine fun _ _ _ => ⟨fun _ => e_nm3 (d := d) (j := 119) (j2 := 56) (by decide) rfl hR hs (fun g => ?_) fun k8 => ?_, fun z => absurd rfl z⟩
      · exact fun _ _ _ => ⟨fun z => absurd z (by decide), fun _ => hac (c8 g) (by decide) (by decide)⟩
      refine fun _ _ _ => ⟨fun _ => e_nm3 (d := d) (j := 120) (j2 := 49) (by decide) rfl hR hs (fun g => ?_) fun k1 => ?_, fun z => absurd rfl z⟩
      · refine fun _ _ _ => ⟨fun z => absurd z (by decide), fun _ => ⟨b, hR.2.1, _, hR.2.2, ⟨by omega, by omega⟩, ?_⟩⟩
        have hc1 : G_cd e.2.1 = 1 := by unfold G_cd; rw [if_pos g]
        rw [v4]
        refine ⟨fun g10 => ?_, fun g10 => ?_⟩
        · have : G_ac e = true := by unfold G_ac; rw [hc1, g10]; rfl
          rwa [if_pos this] at hq
        · have : G_ac e = false := by unfold G_ac; rw [hc1, beq_false_of_ne g10]; rfl
          rwa [if_neg (by rw [this]; decide)] at hq
      · have hc0 : G_cd e.2.1 = 0 := by unfold G_cd; rw [if_neg k1, if_neg k2, if_neg k3, if_neg k4, if_neg k5, if_neg k6, if_neg k7, if_neg k8]
        have : G_ac e = false := by unfold G_ac; rw [hc0]; rfl
        rw [if_neg (by rw [this]; decide)] at hq
        exact fun _ _ _ => ⟨fun _ => hq, fun z => absurd rfl z⟩
  refine m_X12_isGathering hpeR fun _ => ⟨hR.1, e_nm3 (d := d) (j := 113) (j2 := 50) (by decide) rfl hR hs (fun g => ?_) fun k2 => ?_⟩
  · exact fun _ _ _ => ⟨fun z => absurd z (by decide), fun _ => h60 1 (Or.inl ⟨rfl, hac (c2 g) (by decide) (by decide)⟩)⟩
  refine fun _ _ _ => ⟨fun _ => e_nm3 (d := d) (j := 114) (j2 := 51) (by decide) rfl hR hs (fun g => ?_) fun k3 => ?_, fun z => absurd rfl z⟩
  · exact fun _ _ _ => ⟨fun z => absurd z (by decide), fun _ => h60 1 (Or.inl ⟨rfl, hac (c3 g) (by decide) (by decide)⟩)⟩
  refine fun _ _ _ => ⟨fun _ => e_nm3 (d := d) (j := 115) (j2 := 52) (by decide) rfl hR hs (fun g => ?_) fun k4 => ?_, fun z => absurd rfl z⟩
  · exact fun _ _ _ => ⟨fun z => absurd z (by decide), fun _ => h60 1 (Or.inl ⟨rfl, hac (c4 g) (by decide) (by decide)⟩)⟩
  refine fun _ _ _ => ⟨fun _ => e_nm3 (d := d) (j := 116) (j2 := 53) (by decide) rfl hR hs (fun g => ?_) fun k5 => ?_, fun z => absurd rfl z⟩
  · exact fun _ _ _ => ⟨fun z => absurd z (by decide), fun _ => h60 1 (Or.inl ⟨rfl, hac (c5 g) (by decide) (by decide)⟩)⟩
  refine fun _ _ _ => ⟨fun _ => e_nm3 (d := d) (j := 117) (j2 := 54) (by decide) rfl hR hs (fun g => ?_) fun k6 => ?_, fun z => absurd rfl z⟩
  · exact fun _ _ _ => ⟨fun z => absurd z (by decide), fun _ => h60 1 (Or.inl ⟨rfl, hac (c6 g) (by decide) (by decide)⟩)⟩
  exact fun _ _ _ => ⟨fun _ => h60 0 (Or.inr ⟨rfl, k2, k3, k4, k5, k6⟩), fun z => absurd rfl z⟩
theorem e_groupFault {d : Nat} {pe : Int} {De : Nat} {e : b_E} (hR : e_R M m b) (hs : b_st (g_i M b) 2706210 pe De e.1 e.2.1 e.2.2) (h : Q (G_gf e) M) : g_Call (d + 7) 333 [.ref m, g_n pe] M (g_qI Q) := by
  have hpR := hs.R (by decide)
  unfold G_gf at h
  refine m_X12_groupFault hpR fun _ => ⟨hR.1, e_kd hR hs (P := fun w => (w = 3 → _) ∧ (¬ w = 3 → _)) ⟨fun g3 => ?_, fun g3 => by rwa [if_neg g3] at h⟩⟩
  rw [if_pos g3] at h
  obtain ⟨D1, ys, eD, e2, e3, e4, e5, -⟩ := hs.tl (Or.inl g3)
  rw [e5] at h
  rw [show pe + 6 + (e.2.1.length : Int) = pe + 2 + e.2.1.length + 4 by omega] at e4
  have hst := e4.st
  obtain ⟨cp, hcp⟩ : ∃ cp : Int, cp = pe + 2 + e.2.1.length := ⟨_, rfl⟩
  rw [← hcp] at e4 hst
  have hval : ∀ {Q1 : Int → g_M → Prop}, Q1 cp M → g_Call (d + 6) 233 [.ref m, g_n pe] M (g_qI Q1) := fun h1 => e_vl2 (d := d + 4) hR hs (by rw [← hcp]; exact h1)
  refine hval ?_
  intro _ _ _
  refine e_countE (d := d + 1) hR e4 ?_
  intro _ _ _
  rcases ys with _ | ⟨y, ys⟩
  · exact ⟨fun _ => h, fun g => absurd rfl g⟩
  change Q (if y.2.1 = b_tx 48 then (if S_ef y = true then 3 else G_gfL ys) else 2) M at h
  obtain ⟨hy, hr⟩ := e4.cons
  have hyR := hy.R (by decide)
  refine ⟨fun g => absurd g (by rw [List.length_cons]; omega), fun _ => hval ?_⟩
  intro _ _ _
  refine e_first (d := d + 5) (by omega) (by omega) ?_
  intro _ _ _
  refine e_nm3 (d := d + 2) (j := 112) (j2 := 48) (by decide) rfl hR hy (fun hn => ?_) fun hn => ?_
  rotate_left
  · rw [if_neg hn] at h
    exact fun _ _ _ => ⟨fun _ => h, fun z => absurd rfl z⟩
  rw [if_pos hn] at h
  refine fun _ _ _ => ⟨fun z => absurd z (by decide), fun _ => hval ?_⟩
  intro _ _ _
  refine e_first (d := d + 5) (by omega) (by omega) ?_
  intro _ _ _
  -- behind the first
  have hlp : ∀ (xs : List b_E) (q : Int), e_tl (g_i M b) cp q D1 (y :: ys) xs → cp + 4 < q → Q (G_gfL xs) M → g_Run (d + 6) 333 51 [(0, .ref m), (1, g_n pe), (2, g_n q)] [] M (g_qI Q) := by
    intro xs
    induction xs with
    | nil =>
      intro q h1 h4 h2
      have hq := h1.st
      refine s_X12_groupFault_51 hpR ⟨by omega, by omega⟩ fun _ => ⟨hR.1, hval ?_⟩
      intro _ _ _
      refine e_lastE (d := d + 3) hR h1 ?_
      intro _ _ _
      exact ⟨fun g => absurd g (by omega), fun _ => h2⟩
    | cons x xs ih =>
      intro q h1 h4 h2
      have hq := h1.st
      obtain ⟨hx, hr⟩ := h1.cons
      have hx5 := hx.2.2.2.2
      have hxl := b_el_len x.1 x.2.1 x.2.2
      obtain ⟨x1v, x2v, x3v, x4v⟩ := hx.val
      have hfL : G_gfL (x :: xs) = G_g1 x (G_gfL xs) := rfl
      rw [hfL] at h2
      have h2q : G_g1 x (G_gfL xs) = 2 → Q 2 M := fun z => by rwa [z] at h2
      refine s_X12_groupFault_51 hpR ⟨by omega, by omega⟩ fun _ => ⟨hR.1, hval ?_⟩
      intro _ _ _
      refine e_lastC (d := d + 3) hR h1 fun r hr1 hr2 => ?_
      intro _ _ _
      refine ⟨fun _ => hval ?_, fun g => absurd hr1 g⟩
      intro _ _ _
      refine e_first (d := d + 5) (by omega) (by omega) ?_
      intro _ _ _
      refine ⟨fun _ => ⟨⟨by omega, by omega⟩, e_nameEnd (d := d + 5) hR hx.nm ?_⟩, fun g => absurd h4 g⟩
      intro _ _ _
      refine e_isPlain (d := d + 4) hR hx.nmb (by omega) (by omega) ?_
      intro _ _ _
      by_cases hpl : S_pl x.2.1 = true
      rotate_left
      · rw [if_neg hpl]
        refine ⟨fun _ => h2q ?_, fun g => absurd rfl g⟩
        unfold G_g1
        rw [if_neg fun z => hpl z.1]
      rw [if_pos hpl]
      refine ⟨fun g => absurd g (by decide), fun _ => ⟨b, hR.2.1, _, hR.2.2, ⟨by omega, by omega⟩, ?_⟩⟩
      rw [x4v]
      refine ⟨fun hk3 => e_vl2 (d := d + 4) hR hx ?_, fun hk3 => h2q ?_⟩
      rotate_left
      · unfold G_g1
        rw [if_neg fun z => hk3 z.2]
      have hg1 : G_g1 x (G_gfL xs) = G_m1 (b_ch x.2.2) (G_gfL xs) := by
        unfold G_g1
        rw [if_pos ⟨hpl, hk3⟩]
      intro _ _ _
      obtain ⟨D2, as, eD2, f2, f3, f4, f5, -⟩ := hx.tl (Or.inl hk3)
      rw [f5] at hg1
      rw [show q + 6 + (x.2.1.length : Int) = q + 2 + x.2.1.length + 4 by omega] at f4
      have hast := f4.st
      refine e_countE (d := d + 1) hR f4 ?_
      intro _ _ _
      rcases as with _ | ⟨a, _ | ⟨a2, as⟩⟩
      · exact ⟨fun g => absurd g (by decide), fun _ => h2q hg1⟩
      rotate_left
      · exact ⟨fun g => absurd g (by rw [List.length_cons, List.length_cons]; omega), fun _ => h2q hg1⟩
      change G_g1 x (G_gfL xs) = G_gx a (G_gfL xs) at hg1
      rw [hg1] at h2
      have ha := f4.cons.1
      have haR := ha.R (by decide)
      refine ⟨fun _ => e_vl2 (d := d + 4) hR hx ?_, fun g => absurd rfl g⟩
      intro _ _ _
      refine e_first (d := d + 5) (by omega) (by omega) ?_
      intro _ _ _
      refine e_isGathering (d := d + 1) hR ha ?_
      intro _ _ _
      unfold G_gx at h2
      by_cases hac : G_ac a = true
      rotate_left
      · rw [if_neg hac] at h2 ⊢
        exact ⟨fun _ => h2, fun g => absurd rfl g⟩
      rw [if_pos hac] at h2 ⊢
      refine ⟨fun g => absurd g (by decide), fun _ => ?_⟩
      refine s_X12_groupFault_137 hpR ⟨by omega, by omega⟩ haR fun _ => ⟨hR.1, e_exprFault (d := d + 1) hR ha ?_⟩
      intro _ _ _
      by_cases he : S_ef a = true
      · rw [if_pos he] at h2 ⊢
        exact ⟨fun _ => h2, fun g => absurd (by decide) g⟩
      · rw [if_neg he] at h2 ⊢
        refine ⟨fun g => absurd g (by decide), fun _ => e_bh2 (d := d + 2) hR hx ?_⟩
        intro _ _ _
        exact ih _ hr (by omega) h2
  refine s_X12_groupFault_51 hpR hyR fun _ => ⟨hR.1, hval ?_⟩
  intro _ _ _
  refine e_lastC (d := d + 3) hR e4 fun r hr1 hr2 => ?_
  intro _ _ _
  refine ⟨fun _ => hval ?_, fun g => absurd hr1 g⟩
  intro _ _ _
  refine e_first (d := d + 5) (by omega) (by omega) ?_
  intro _ _ _
  refine ⟨fun g => absurd g (by omega), fun _ => ?_⟩
  refine s_X12_groupFault_137 hpR hyR hyR fun _ => ⟨hR.1, e_exprFault (d := d + 1) hR hy ?_⟩
  intro _ _ _
  by_cases he : S_ef y = true
  · rw [if_pos he] at h ⊢
    exact ⟨fun _ => h, fun g => absurd (by decide) g⟩
  · rw [if_neg he] at h ⊢
    refine ⟨fun g => absurd g (by decide), fun _ => e_bh2 (d := d + 2) hR hy ?_⟩
    intro _ _ _
    have hyl := b_el_len y.1 y.2.1 y.2.2
    exact hlp ys _ hr (by omega) h
end EACC
