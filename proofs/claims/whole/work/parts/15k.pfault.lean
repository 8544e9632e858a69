/-! STAGES: the faults of $project -/
def S_tr (e : b_E) : Bool := e.1 == 8 && e.2.2 == [1]
noncomputable def S_pfL : List b_E → Int
  | [] => 0
  | e :: r => if S_pl e.2.1 = true then (if S_ef e = true then 3 else S_pfL r) else 2
noncomputable def S_pf (s : b_E) : Int := if s.1 = 3 then (if b_ch s.2.2 = [] then 2 else S_pfL (b_ch s.2.2)) else 2
theorem b_gv_lf {D : Nat} {k : Int} {vb : List Int} (h : b_gv D k vb) (h3 : k ≠ 3) (h4 : k ≠ 4) : b_lf k vb := by
  cases D with
  | zero => exact h
  | succ D =>
    rcases h with h | ⟨h, -⟩
    · exact h
    · exact absurd h (by omega)
theorem b_gv_tr {D : Nat} {vb : List Int} (h : b_gv D 8 vb) : vb = [0] ∨ vb = [1] := by
  rcases b_gv_lf h (by decide) (by decide) with ⟨h, -⟩ | ⟨h, -⟩ | ⟨-, h⟩ | ⟨h, -⟩ | ⟨h, -⟩
  · exact absurd h (by decide)
  · exact absurd h (by decide)
  · exact h
  · exact absurd h (by decide)
  · exact absurd h (by decide)
section SPF
variable {d a so b po pf pt : Nat} {M M1 : g_M} {Q : Int → g_M → Prop} {n : Int}
theorem c_isTr {p : Int} {D : Nat} {e : b_E} (hA : g_A M a 0 n) (hn : n ≤ 1000000000) (hs : b_st (g_i M a) n p D e.1 e.2.1 e.2.2) (h : Q (if S_tr e = true then 1 else 0) M) : g_Call (d + 2) 119 [.ref a, g_n p, g_n 1] M (g_qI Q) := by
  have hnl := hA.len
  have hpR := hs.R hn
  obtain ⟨v1, v2, v3, v4⟩ := hs.val
  refine m_X7_isTruth hpR ⟨by decide, by decide⟩ fun _ => c_kd2 (d := d) hA hn hs ?_
  intro _ _ _
  by_cases hk : e.1 = 8
  · refine ⟨fun _ => c_va2 (d := d) hA hn hs ?_, fun g => absurd hk g⟩
    intro _ _ _
    have hg := hs.2.2.1
    rw [hk] at hg
    rcases b_gv_tr hg with g | g
    · have ht : S_tr e = false := by
        unfold S_tr
        rw [hk, g]
        rfl
      rw [if_neg (by rw [ht]; decide)] at h
      rw [g] at v1 v2
      have hb := (b_cons.mp v1).1
      have hl : ([0] : List Int).length = 1 := rfl
      refine c_kind (d := d) hA ⟨by omega, by omega⟩ ⟨by omega, by omega⟩ ?_
      rw [b_kd_in (by omega) (by omega), hb]
      intro _ _ _
      exact ⟨fun z => absurd z (by decide), fun _ => h⟩
    · have ht : S_tr e = true := by
        unfold S_tr
        rw [hk, g]
        rfl
      rw [if_pos ht] at h
      rw [g] at v1 v2
      have hb := (b_cons.mp v1).1
      have hl : ([1] : List Int).length = 1 := rfl
      refine c_kind (d := d) hA ⟨by omega, by omega⟩ ⟨by omega, by omega⟩ ?_
      rw [b_kd_in (by omega) (by omega), hb]
      intro _ _ _
      exact ⟨fun _ => h, fun z => absurd rfl z⟩
  · have ht : S_tr e = false := by
      unfold S_tr
      rw [beq_false_of_ne hk]
      rfl
    rw [if_neg (by rw [ht]; decide)] at h
    exact ⟨fun z => absurd z hk, fun _ => h⟩
theorem S_B.pth (h : S_B so b M) (hP : p_P M po pf pt) (f : g_fr (p_S po pf pt) M M1) : S_B so b M1 ∧ g_i M1 b = g_i M b ∧ (∀ k, g_i M1 so k = g_i M so k) ∧ ∀ k, g_r M1 so k = g_r M so k := by
  obtain ⟨s1, s2, s3⟩ := h
  obtain ⟨P1, P2, P3, P4, P5, P6⟩ := hP
  obtain ⟨e1, e2⟩ := f.2 so fun z => by
    rcases z with g | g | g
    · exact g_neOO s1 P1 (by decide) g
    · exact g_neOA s1 P4 g
    · exact g_neOA s1 P5 g
  obtain ⟨e3, e4⟩ := f.2 b fun z => by
    rcases z with g | g | g
    · exact g_neOA P1 s3 g.symm
    · exact g_neAA P4 s3 (by omega) g.symm
    · exact g_neAA P5 s3 (by omega) g.symm
  exact ⟨⟨f.O s1, by rw [e2]; exact s2, f.A s3⟩, e3, fun k => by rw [e1], fun k => by rw [e2]⟩
theorem c_wrongProject {pe : Int} {De : Nat} {e : b_E} (hS : S_B so b M) (h2 : g_r M so 2 = some po) (hP : p_P M po pf pt) (hs : b_st (g_i M b) 246408 pe De e.1 e.2.1 e.2.2) (hl : e.2.2.length ≤ 3000) (hq : ∀ M1, g_fr (p_S po pf pt) M M1 → p_P M1 po pf pt → Q (S_pf e) M1) : g_Call (d + 5) 151 [.ref so, g_n pe] M (g_qI Q) := by
  have hpR := hs.R (by decide)
  obtain ⟨s1, s2, s3⟩ := id hS
  obtain ⟨v1, v2, v3, v4⟩ := hs.val
  have hq0 := hq M (g_fr.rf _ _) hP
  unfold S_pf at hq hq0
  have hfR : g_InR (pe + 6 + e.2.1.length) := ⟨by omega, by omega⟩
  refine m_X9_wrongInProject hpR fun _ => ⟨s1, b, s2, c_fi2 (d := d + 3) s3 (by decide) hs ?_⟩
  intro _ _ _
  refine ⟨b, s2, c_kd2 (d := d + 3) s3 (by decide) hs ?_⟩
  intro _ _ _
  refine ⟨fun g3 => ⟨b, s2, ?_⟩, fun g3 => by rwa [if_neg g3] at hq0⟩
  rw [if_pos g3] at hq hq0
  obtain ⟨D1, eD, hk, hkl⟩ := hs.kids (Or.inl g3)
  have hmany := b_ser_many (b_ch e.2.2)
  have hlp : ∀ (xs : List b_E) (q : Int) (i : Nat) (M1 : g_M), b_sts (g_i M b) 246408 q D1 xs → g_fr (p_S po pf pt) M M1 → p_P M1 po pf pt → i + xs.length < 2000 → (∀ M2, g_fr (p_S po pf pt) M M2 → p_P M2 po pf pt → Q (S_pfL xs) M2) → g_Run (d + 4) 151 36 [(0, .ref so), (1, g_n pe), (2, g_n q), (3, g_n i)] [] M1 (g_qI Q) := by
    intro xs
    induction xs with
    | nil =>
      intro q i M1 h1 f1 P1 hi hq
      obtain ⟨⟨t1, t2, t3⟩, eb, -, -⟩ := hS.pth hP f1
      have hqR : g_InR q := by
        have := h1.2.2.1
        have := h1.2.2.2.1
        exact ⟨by omega, by omega⟩
      rw [List.length_nil] at hi
      exact s_X9_wrongInProject_36 hpR hqR ⟨by omega, by omega⟩ fun _ => ⟨fun _ => ⟨t1, b, t2, c_kdE (d := d + 3) t3 (by decide) (by rw [eb]; exact h1) fun _ _ _ => ⟨fun _ => hq M1 f1 P1, fun g => absurd rfl g⟩⟩, fun g => absurd (by omega) g⟩
    | cons x xs ih =>
      intro q i M1 h1 f1 P1 hi hq
      obtain ⟨⟨t1, t2, t3⟩, eb, -, er⟩ := hS.pth hP f1
      obtain ⟨hx, hr⟩ := h1.cons
      have hxR := hx.R (by decide)
      have hxk := b_vs_pos (b_gv_vs hx.2.2.1)
      rw [List.length_cons] at hi
      have hx1 : b_st (g_i M1 b) 246408 q D1 x.1 x.2.1 x.2.2 := by rw [eb]; exact hx
      have hfL : S_pfL (x :: xs) = if S_pl x.2.1 = true then (if S_ef x = true then 3 else S_pfL xs) else 2 := rfl
      rw [hfL] at hq
      refine s_X9_wrongInProject_36 hpR hxR ⟨by omega, by omega⟩ fun _ => ⟨fun _ => ⟨t1, b, t2, c_kd2 (d := d + 3) t3 (by decide) hx1 fun _ _ _ => ⟨fun g => absurd g (by omega), fun _ => c_plainName (d := d + 2) ⟨t1, t2, t3⟩ hx1 ?_⟩⟩, fun g => absurd (by omega) g⟩
      intro _ _ _
      by_cases hpl : S_pl x.2.1 = true
      · rw [if_pos hpl]
        rw [if_pos hpl] at hq
        refine ⟨fun g => absurd g (by decide), fun _ => c_wrongExpr (d := d + 1) ⟨t1, t2, t3⟩ (by rw [er]; exact h2) P1 hx1 fun M2 f2 P2 => ?_⟩
        intro _ _ _
        have f12 := f1.tr f2
        obtain ⟨⟨u1, u2, u3⟩, eb2, -, -⟩ := hS.pth hP f12
        by_cases he : S_ef x = true
        · rw [if_pos he]
          rw [if_pos he] at hq
          exact ⟨fun g => absurd g (by decide), fun _ => hq M2 f12 P2⟩
        · rw [if_neg he]
          rw [if_neg he] at hq
          refine ⟨fun _ => ⟨b, u2, c_nx2 (d := d + 3) u3 (by decide) (by rw [eb2]; exact hx) fun _ _ _ => ⟨⟨by omega, by omega⟩, ih _ (i + 1) M2 hr f12 P2 (by omega) hq⟩⟩, fun g => absurd rfl g⟩
      · rw [if_neg hpl]
        rw [if_neg hpl] at hq
        exact ⟨fun _ => hq M1 f1 P1, fun g => absurd rfl g⟩
  rcases hch : b_ch e.2.2 with _ | ⟨x, xs⟩
  · rw [hch] at hk hq0
    rw [if_pos rfl] at hq0
    exact c_kdE (d := d + 3) s3 (by decide) hk fun _ _ _ => ⟨fun _ => hq0, fun g => absurd rfl g⟩
  · rw [hch] at hk hq hmany hkl
    rw [if_neg (by simp)] at hq
    have hx := hk.cons.1
    have hxk := b_vs_pos (b_gv_vs hx.2.2.1)
    exact c_kd2 (d := d + 3) s3 (by decide) hx fun _ _ _ => ⟨fun g => absurd g (by omega), fun _ => hlp (x :: xs) _ 0 M hk (g_fr.rf _ _) hP (by omega) hq⟩
end SPF
section EPF
variable {d m b : Nat} {M : g_M} {Q : Int → g_M → Prop}
theorem e_isTr {p : Int} {D : Nat} {e : b_E} (hR : e_R M m b) (hok : g_ok M) (hs : b_st (g_i M b) 2706210 p D e.1 e.2.1 e.2.2) : (e.1 = 8 → u_at (g_i M b) (p + 2 + e.2.1.length) = 1 → S_tr e = true) ∧ (¬ (e.1 = 8 ∧ u_at (g_i M b) (p + 2 + e.2.1.length) = 1) → S_tr e = false) := by
  obtain ⟨v1, v2, v3, v4⟩ := hs.val
  have hby := hok.byte hR.2.2 (p + 2 + e.2.1.length)
  have hu1 : u_at (g_i M b) (p + 2 + e.2.1.length) = 1 ↔ g_i M b (p + 2 + e.2.1.length) = 1 := u_at_eq hby (by decide) (by decide)
  constructor
  · intro hk h1
    have hg := hs.2.2.1
    rw [hk] at hg
    rcases b_gv_tr hg with g | g
    · rw [g] at v1
      have := (b_cons.mp v1).1
      have h2 := hu1.mp h1
      rw [this] at h2
      exact absurd h2 (by decide)
    · unfold S_tr
      rw [hk, g]
      rfl
  · intro h
    by_cases hk : e.1 = 8
    · have hg := hs.2.2.1
      rw [hk] at hg
      rcases b_gv_tr hg with g | g
      · unfold S_tr
        rw [hk, g]
        rfl
      · rw [g] at v1
        exact absurd ⟨hk, hu1.mpr (b_cons.mp v1).1⟩ h
    · unfold S_tr
      rw [beq_false_of_ne hk]
      rfl
theorem e_projFault {pe : Int} {De : Nat} {e : b_E} (hR : e_R M m b) (hs : b_st (g_i M b) 2706210 pe De e.1 e.2.1 e.2.2) (h : Q (S_pf e) M) : g_Call (d + 7) 331 [.ref m, g_n pe] M (g_qI Q) := by
  have hpR := hs.R (by decide)
  unfold S_pf at h
  refine m_X12_projectFault hpR fun _ => ⟨hR.1, e_kd hR hs (P := fun w => (w = 3 → _) ∧ (¬ w = 3 → _)) ⟨fun g3 => ?_, fun g3 => by rwa [if_neg g3] at h⟩⟩
  rw [if_pos g3] at h
  obtain ⟨D1, ys, eD, e2, e3, e4, e5, -⟩ := hs.tl (Or.inl g3)
  rw [e5] at h
  rw [show pe + 6 + (e.2.1.length : Int) = pe + 2 + e.2.1.length + 4 by omega] at e4
  have hst := e4.st
  refine e_vl2 (d := d + 4) hR hs ?_
  intro _ _ _
  refine e_countE (d := d + 1) hR e4 ?_
  intro _ _ _
  have hlp : ∀ (xs : List b_E) (q : Int), e_tl (g_i M b) (pe + 2 + e.2.1.length) q D1 ys xs → Q (S_pfL xs) M → g_Run (d + 6) 331 33 [(0, .ref m), (1, g_n pe), (2, g_n q)] [] M (g_qI Q) := by
    intro xs
    induction xs with
    | nil =>
      intro q h1 h2
      have hq := h1.st
      refine s_X12_projectFault_33 hpR ⟨by omega, by omega⟩ fun _ => ⟨hR.1, e_vl2 (d := d + 4) hR hs fun _ _ _ => e_lastE (d := d + 3) hR h1 ?_⟩
      intro _ _ _
      exact ⟨fun g => absurd g (by omega), fun _ => h2⟩
    | cons x xs ih =>
      intro q h1 h2
      have hq := h1.st
      obtain ⟨hx, hr⟩ := h1.cons
      have hx5 := hx.2.2.2.2
      have hxl := b_el_len x.1 x.2.1 x.2.2
      have hfL : S_pfL (x :: xs) = if S_pl x.2.1 = true then (if S_ef x = true then 3 else S_pfL xs) else 2 := rfl
      rw [hfL] at h2
      refine s_X12_projectFault_33 hpR ⟨by omega, by omega⟩ fun _ => ⟨hR.1, e_vl2 (d := d + 4) hR hs fun _ _ _ => e_lastC (d := d + 3) hR h1 fun r hr1 hr2 => fun _ _ _ => ⟨fun _ => ⟨⟨by omega, by omega⟩, e_nameEnd (d := d + 5) hR hx.nm ?_⟩, fun g => absurd hr1 g⟩⟩
      intro _ _ _
      refine e_isPlain (d := d + 4) hR hx.nmb (by omega) (by omega) ?_
      intro _ _ _
      by_cases hpl : S_pl x.2.1 = true
      · rw [if_pos hpl] at h2 ⊢
        refine ⟨fun g => absurd g (by decide), fun _ => e_exprFault (d := d + 1) hR hx ?_⟩
        intro _ _ _
        by_cases he : S_ef x = true
        · rw [if_pos he] at h2 ⊢
          exact ⟨fun _ => h2, fun g => absurd (by decide) g⟩
        · rw [if_neg he] at h2 ⊢
          exact ⟨fun g => absurd g (by decide), fun _ => e_bh2 (d := d + 2) hR hx fun _ _ _ => ih _ hr h2⟩
      · rw [if_neg hpl] at h2 ⊢
        exact ⟨fun _ => h2, fun g => absurd rfl g⟩
  rcases ys with _ | ⟨y, ys⟩
  · rw [if_pos rfl] at h
    exact ⟨fun _ => h, fun g => absurd rfl g⟩
  · rw [if_neg (by simp)] at h
    refine ⟨fun g => absurd g (by rw [List.length_cons]; omega), fun _ => e_vl2 (d := d + 4) hR hs fun _ _ _ => e_first (d := d + 5) (by omega) (by omega) ?_⟩
    intro _ _ _
    exact hlp _ _ e4 h
end EPF
