/-! STAGES: plain names, texts, expressions -/
def S_pl (x : List Int) : Bool := !x.isEmpty && (x.head? != some 36) && x.all fun c => c != 46 && c != 0
def s_tx (vb : List Int) : List Int := (vb.drop 4).dropLast
theorem s_tx_eq {n : Int} {s : List Int} : s_tx (b_le4 n ++ (s ++ [0])) = s := by
  unfold s_tx
  have h : List.drop 4 (b_le4 n ++ (s ++ [0])) = s ++ [0] := rfl
  rw [h]
  simp
/-- an element is a text that begins with $ -/
def S_dol (e : b_E) : Bool := e.1 == 2 && ((s_tx e.2.2).head? == some 36)
def S_pt (e : b_E) : List Int := (s_tx e.2.2).drop 1
noncomputable def S_ef (e : b_E) : Bool := S_dol e && !F_pl (S_pt e)
/-- a text's bytes -/
theorem b_st.text {B : Int → Int} {n p k : Int} {D : Nat} {nm vb : List Int} (h : b_st B n p D k nm vb) (hk : k = 2) : vb.length = (s_tx vb).length + 5 ∧ b_w4 B (p + 2 + nm.length) = (s_tx vb).length + 1 ∧ b_at B (p + 2 + nm.length + 4) (s_tx vb) ∧ B (p + 2 + nm.length + 4 + (s_tx vb).length) = 0 := by
  obtain ⟨v1, v2, v3, v4⟩ := h.val
  have hlf : ∃ s : List Int, vb = b_le4 (s.length + 1) ++ (s ++ [0]) ∧ s.length < 16777000 := by
    have hg := h.2.2.1
    cases D with
    | zero =>
      rcases hg with ⟨h1, -⟩ | ⟨h1, -⟩ | ⟨h1, -⟩ | ⟨h1, -⟩ | ⟨-, hs⟩
      · omega
      · omega
      · omega
      · omega
      · exact hs
    | succ D =>
      rcases hg with (⟨h1, -⟩ | ⟨h1, -⟩ | ⟨h1, -⟩ | ⟨h1, -⟩ | ⟨-, hs⟩) | ⟨h1, -⟩
      · omega
      · omega
      · omega
      · omega
      · exact hs
      · omega
  obtain ⟨s, hs, hl⟩ := hlf
  have hst : s_tx vb = s := by rw [hs, s_tx_eq]
  rw [hst]
  rw [hs] at v1
  obtain ⟨w1, w2⟩ := b_app.mp v1
  have h4 : ((b_le4 ((s.length : Int) + 1)).length : Int) = 4 := rfl
  rw [h4] at w2
  obtain ⟨w3, w4⟩ := b_app.mp w2
  refine ⟨?_, b_w4_le4 (by omega) (by omega) w1, w3, (b_cons.mp w4).1⟩
  rw [hs, List.length_append, List.length_append, List.length_singleton]
  have : (b_le4 ((s.length : Int) + 1)).length = 4 := rfl
  omega
theorem S_dol_tx {e : b_E} (h : S_dol e = true) : e.1 = 2 ∧ s_tx e.2.2 = 36 :: S_pt e := by
  unfold S_dol at h
  obtain ⟨h1, h2⟩ := Bool.and_eq_true_iff.mp h
  refine ⟨eq_of_beq h1, ?_⟩
  unfold S_pt
  rcases hs : s_tx e.2.2 with _ | ⟨a, s⟩
  · rw [hs] at h2
    exact absurd h2 (by decide)
  · rw [hs] at h2
    have : a = 36 := by simpa using h2
    rw [this]
    rfl
def S_B (so b : Nat) (M : g_M) : Prop := g_O M so 9 ∧ g_r M so 1 = some b ∧ g_A M b 0 246408
section SPL
variable {d so b : Nat} {M : g_M} {Q : Int → g_M → Prop}
theorem c_isPlainL {p : Int} {x : List Int} (hS : S_B so b M) (hx : b_at (g_i M b) p x) (h0 : 0 ≤ p) (h1 : p + x.length ≤ 246408) : ∀ (y u : List Int), x = u ++ y → Q (if (y.all fun c => c != 46 && c != 0) = true then 1 else 0) M → g_Run d 145 33 [(0, .ref so), (1, g_n p), (2, g_n (p + x.length)), (3, g_n (p + u.length))] [] M (g_qI Q) := by
  obtain ⟨s1, s2, s3⟩ := hS
  intro y
  induction y with
  | nil =>
    intro u hxu h
    have hl := congrArg List.length hxu
    rw [List.length_append, List.length_nil] at hl
    exact s_X9_isPlain_33 ⟨by omega, by omega⟩ ⟨by omega, by omega⟩ ⟨by omega, by omega⟩ fun _ => ⟨fun g => absurd g (by omega), fun _ => h⟩
  | cons c y ih =>
    intro u hxu h
    have hl := congrArg List.length hxu
    rw [List.length_append, List.length_cons] at hl
    have hc : g_i M b (p + u.length) = c := by
      rw [hxu] at hx
      exact (b_cons.mp (b_app.mp hx).2).1
    refine s_X9_isPlain_33 ⟨by omega, by omega⟩ ⟨by omega, by omega⟩ ⟨by omega, by omega⟩ fun _ => ⟨fun _ => ⟨s1, b, s2, _, s3, ⟨by omega, by omega⟩, ?_⟩, fun g => absurd (by omega) g⟩
    rw [hc]
    rw [List.all_cons] at h
    refine ⟨fun g => ?_, fun g => ⟨b, s2, _, s3, ⟨by omega, by omega⟩, ?_⟩⟩
    · rw [g] at h
      exact h
    rw [hc]
    refine ⟨fun g2 => ?_, fun g2 => ⟨⟨by omega, by omega⟩, ?_⟩⟩
    · rw [g2] at h
      exact h
    · have hcc : (c != 46 && c != 0) = true := by simp [g, g2]
      rw [hcc, Bool.true_and] at h
      have h9 := ih (u ++ [c]) (by rw [hxu]; simp) h
      rwa [List.length_append, List.length_singleton, show p + ((u.length + 1 : Nat) : Int) = p + u.length + 1 by omega] at h9
theorem c_isPlain {p : Int} {x : List Int} (hS : S_B so b M) (hx : b_at (g_i M b) p x) (h0 : 0 ≤ p) (h1 : p + x.length ≤ 246408) (h : Q (if S_pl x = true then 1 else 0) M) : g_Call (d + 1) 145 [.ref so, g_n p, g_n (p + x.length)] M (g_qI Q) := by
  have hS0 := hS
  obtain ⟨s1, s2, s3⟩ := hS
  refine m_X9_isPlain ⟨by omega, by omega⟩ ⟨by omega, by omega⟩ fun _ => ⟨fun g => absurd g (by omega), fun _ => ⟨fun g => ⟨s1, b, s2, _, s3, ⟨by decide, by decide⟩, fun g2 => absurd g2 (by omega), fun _ => ⟨b, s2, _, s3, ⟨by omega, by omega⟩, ?_⟩⟩, fun g => ?_⟩⟩
  · rcases x with _ | ⟨c, x⟩
    · rw [List.length_nil] at g
      omega
    · have hc := (b_cons.mp hx).1
      rw [hc]
      refine ⟨fun g2 => ?_, fun g2 => ?_⟩
      · rw [g2] at h
        exact h
      · have h9 := c_isPlainL (d := d) (Q := Q) hS0 hx h0 h1 (c :: x) [] rfl ?_
        · rwa [List.length_nil, show p + ((0 : Nat) : Int) = p by omega] at h9
        · have hq : S_pl (c :: x) = (c :: x).all fun c => c != 46 && c != 0 := by
            unfold S_pl
            simp [g2]
          rw [hq] at h
          exact h
  · have hx0 : x = [] := List.eq_nil_of_length_eq_zero (by omega)
    rw [hx0] at h
    exact h
theorem c_plainName {p k : Int} {D : Nat} {nm vb : List Int} (hS : S_B so b M) (hs : b_st (g_i M b) 246408 p D k nm vb) (h : Q (if S_pl nm = true then 1 else 0) M) : g_Call (d + 2) 146 [.ref so, g_n p] M (g_qI Q) := by
  have hpR := hs.R (by decide)
  have h4 := hs.2.2.2.1
  have h5 := hs.2.2.2.2
  have hl := b_el_len k nm vb
  obtain ⟨s1, s2, s3⟩ := id hS
  refine m_X9_hasPlainName hpR fun _ => ⟨⟨by omega, by omega⟩, s1, b, s2, c_va2 s3 (by decide) hs ?_⟩
  intro _ _ _
  rw [show p + 2 + (nm.length : Int) - 1 = p + 1 + nm.length by omega]
  refine ⟨⟨by omega, by omega⟩, c_isPlain hS hs.nmb (by omega) (by omega) ?_⟩
  intro _ _ _
  exact ⟨by split <;> simp, h⟩
theorem c_dolText {p : Int} {D : Nat} {e : b_E} (hS : S_B so b M) (hs : b_st (g_i M b) 246408 p D e.1 e.2.1 e.2.2) (h : Q (if S_dol e = true then 1 else 0) M) : g_Call (d + 2) 147 [.ref so, g_n p] M (g_qI Q) := by
  have hpR := hs.R (by decide)
  have h4 := hs.2.2.2.1
  have h5 := hs.2.2.2.2
  have hl := b_el_len e.1 e.2.1 e.2.2
  obtain ⟨s1, s2, s3⟩ := id hS
  refine m_X9_isDollarText hpR fun _ => ⟨s1, b, s2, c_va2 s3 (by decide) hs ?_⟩
  intro _ _ _
  refine ⟨b, s2, c_kd2 s3 (by decide) hs ?_⟩
  intro _ _ _
  refine ⟨fun g => ?_, fun g => ?_⟩
  · obtain ⟨t1, t2, t3, t4⟩ := hs.text g
    refine ⟨b, s2, c_w4 s3 ⟨by decide, by decide⟩ (by omega) (by omega) ?_⟩
    rw [t2]
    intro _ _ _
    refine ⟨fun g2 => ⟨b, s2, ⟨by omega, by omega⟩, c_kind s3 ⟨by decide, by decide⟩ ⟨by omega, by omega⟩ ?_⟩, fun g2 => ?_⟩
    · rw [b_kd_in (by omega) (by omega)]
      intro _ _ _
      rcases hts : s_tx e.2.2 with _ | ⟨a, s⟩
      · rw [hts, List.length_nil] at g2
        omega
      · rw [hts] at t3
        have ha := (b_cons.mp t3).1
        rw [ha]
        have hd : S_dol e = (a == 36) := by
          unfold S_dol
          rw [hts, g]
          simp
        rw [hd] at h
        refine ⟨fun g3 => ?_, fun g3 => ?_⟩
        · rwa [if_pos (by simp [g3])] at h
        · rwa [if_neg (by simp [g3])] at h
    · have hts : s_tx e.2.2 = [] := List.eq_nil_of_length_eq_zero (by omega)
      have hd : S_dol e = false := by
        unfold S_dol
        rw [hts]
        simp
      rwa [if_neg (by rw [hd]; decide)] at h
  · have hd : S_dol e = false := by
      unfold S_dol
      simp [g]
    rwa [if_neg (by rw [hd]; decide)] at h
end SPL
section SPLE
variable {d m b : Nat} {M : g_M} {Q : Int → g_M → Prop}
theorem e_isPlain {p : Int} {x : List Int} (hR : e_R M m b) (hx : b_at (g_i M b) p x) (h0 : 0 ≤ p) (h1 : p + x.length ≤ 2706210) (h : Q (if S_pl x = true then 1 else 0) M) : g_Call (d + 2) 321 [.ref m, g_n p, g_n (p + x.length)] M (g_qI Q) := by
  have hlp : g_ok M → ∀ (y u : List Int), x = u ++ y → Q (if (y.all fun c => c != 46 && c != 0) = true then 1 else 0) M → g_Run (d + 1) 321 19 [(0, .ref m), (1, g_n p), (2, g_n (p + x.length)), (3, g_n (p + u.length))] [] M (g_qI Q) := by
    intro hok y
    induction y with
    | nil =>
      intro u hxu h
      have hl := congrArg List.length hxu
      rw [List.length_append, List.length_nil] at hl
      exact s_X12_isPlain_19 ⟨by omega, by omega⟩ ⟨by omega, by omega⟩ ⟨by omega, by omega⟩ fun _ => ⟨fun g => absurd g (by omega), fun _ => h⟩
    | cons c y ih =>
      intro u hxu h
      have hl := congrArg List.length hxu
      rw [List.length_append, List.length_cons] at hl
      have hc : g_i M b (p + u.length) = c := by
        rw [hxu] at hx
        exact (b_cons.mp (b_app.mp hx).2).1
      have hby := hok.byte hR.2.2 (p + u.length)
      have h46 : u_at (g_i M b) (p + u.length) = 46 ↔ g_i M b (p + u.length) = 46 := u_at_eq hby (by decide) (by decide)
      rw [hc] at h46
      rw [List.all_cons] at h
      refine s_X12_isPlain_19 ⟨by omega, by omega⟩ ⟨by omega, by omega⟩ ⟨by omega, by omega⟩ fun _ => ⟨fun _ => ⟨hR.1, e_u (d := d) hR (by omega) (by omega) ?_ hok⟩, fun g => absurd (by omega) g⟩
      intro _ _ _
      refine ⟨fun g => ?_, fun g => ⟨b, hR.2.1, _, hR.2.2, ⟨by omega, by omega⟩, ?_⟩⟩
      · rw [h46.mp g] at h
        exact h
      rw [hc]
      refine ⟨fun g2 => ?_, fun g2 => ⟨⟨by omega, by omega⟩, ?_⟩⟩
      · rw [g2] at h
        exact h
      · have hcc : (c != 46 && c != 0) = true := by
          have : c ≠ 46 := fun z => g (h46.mpr z)
          simp [this, g2]
        rw [hcc, Bool.true_and] at h
        have h9 := ih (u ++ [c]) (by rw [hxu]; simp) h
        rwa [List.length_append, List.length_singleton, show p + ((u.length + 1 : Nat) : Int) = p + u.length + 1 by omega] at h9
  refine m_X12_isPlain ⟨by omega, by omega⟩ ⟨by omega, by omega⟩ fun hok => ⟨fun g => ?_, fun g => ?_⟩
  · have hx0 : x = [] := List.eq_nil_of_length_eq_zero (by omega)
    rw [hx0] at h
    exact h
  · rcases x with _ | ⟨c, x⟩
    · rw [List.length_nil] at g
      exact absurd (by omega) g
    · have hc := (b_cons.mp hx).1
      have hby := hok.byte hR.2.2 p
      have h36 : u_at (g_i M b) p = 36 ↔ g_i M b p = 36 := u_at_eq hby (by decide) (by decide)
      rw [hc] at h36
      rw [List.length_cons] at h1
      refine ⟨hR.1, e_u (d := d) hR (by omega) (by omega) ?_ hok⟩
      intro _ _ _
      refine ⟨fun g2 => ?_, fun g2 => ?_⟩
      · rw [h36.mp g2] at h
        exact h
      · have h9 := hlp hok (c :: x) [] rfl ?_
        · rwa [List.length_nil, show p + ((0 : Nat) : Int) = p by omega] at h9
        · have hne : c ≠ 36 := fun z => g2 (h36.mpr z)
          have hq : S_pl (c :: x) = (c :: x).all fun c => c != 46 && c != 0 := by
            unfold S_pl
            simp [hne]
          rw [hq] at h
          exact h
theorem e_textEnd {p : Int} {D : Nat} {e : b_E} (hR : e_R M m b) (hs : b_st (g_i M b) 2706210 p D e.1 e.2.1 e.2.2) (hk : e.1 = 2) (h : Q (p + 2 + e.2.1.length + 4 + (s_tx e.2.2).length) M) : g_Call (d + 3) 322 [.ref m, g_n p] M (g_qI Q) := by
  have hpR := hs.R (by decide)
  have h4 := hs.2.2.2.1
  have h5 := hs.2.2.2.2
  have hl := b_el_len e.1 e.2.1 e.2.2
  obtain ⟨t1, t2, t3, t4⟩ := hs.text hk
  refine m_X12_textEnd hpR fun _ => ⟨hR.1, e_vl2 (d := d) hR hs ?_⟩
  intro _ _ _
  refine ⟨⟨by omega, by omega⟩, e_vl2 (d := d) hR hs ?_⟩
  intro _ _ _
  refine e_int4 (d := d) hR (by omega) (by omega) ?_
  rw [t2]
  intro _ _ _
  refine ⟨⟨by omega, by omega⟩, ?_⟩
  rwa [show p + 2 + (e.2.1.length : Int) + 3 + ((s_tx e.2.2).length + 1) = p + 2 + e.2.1.length + 4 + (s_tx e.2.2).length by omega]
theorem e_isRef {p : Int} {D : Nat} {e : b_E} (hR : e_R M m b) (hs : b_st (g_i M b) 2706210 p D e.1 e.2.1 e.2.2) (h : Q (if S_dol e = true then 1 else 0) M) : g_Call (d + 4) 323 [.ref m, g_n p] M (g_qI Q) := by
  have hpR := hs.R (by decide)
  have h4 := hs.2.2.2.1
  have h5 := hs.2.2.2.2
  have hl := b_el_len e.1 e.2.1 e.2.2
  refine m_X12_isReference hpR fun hok => ⟨hR.1, e_kd hR hs (P := fun z => (z = 2 → _) ∧ (¬ z = 2 → _)) ⟨fun g => ?_, fun g => ?_⟩⟩
  · obtain ⟨t1, t2, t3, t4⟩ := hs.text g
    refine e_textEnd (d := d) hR hs g ?_
    intro _ _ _
    refine e_vl2 (d := d + 1) hR hs ?_
    intro _ _ _
    refine ⟨⟨by omega, by omega⟩, fun g2 => e_vl2 (d := d + 1) hR hs ?_, fun g2 => ?_⟩
    · intro _ _ _
      refine ⟨⟨by omega, by omega⟩, e_u (d := d + 2) hR (by omega) (by omega) ?_ hok⟩
      intro _ _ _
      rcases hts : s_tx e.2.2 with _ | ⟨a, s⟩
      · rw [hts, List.length_nil] at g2
        omega
      · rw [hts] at t3
        have ha := (b_cons.mp t3).1
        have hby := hok.byte hR.2.2 (p + 2 + e.2.1.length + 4)
        have h36 : u_at (g_i M b) (p + 2 + e.2.1.length + 4) = 36 ↔ g_i M b (p + 2 + e.2.1.length + 4) = 36 := u_at_eq hby (by decide) (by decide)
        rw [ha] at h36
        have hd : S_dol e = (a == 36) := by
          unfold S_dol
          rw [hts, g]
          simp
        rw [hd] at h
        refine ⟨fun g3 => ?_, fun g3 => ?_⟩
        · rwa [if_pos (by simp [h36.mp g3])] at h
        · rwa [if_neg (by simp; exact fun z => g3 (h36.mpr z))] at h
    · have hts : s_tx e.2.2 = [] := List.eq_nil_of_length_eq_zero (by omega)
      have hd : S_dol e = false := by
        unfold S_dol
        rw [hts]
        simp
      rwa [if_neg (by rw [hd]; decide)] at h
  · have hd : S_dol e = false := by
      unfold S_dol
      simp [g]
    rwa [if_neg (by rw [hd]; decide)] at h
theorem e_exprFault {p : Int} {D : Nat} {e : b_E} (hR : e_R M m b) (hs : b_st (g_i M b) 2706210 p D e.1 e.2.1 e.2.2) (h : Q (if S_ef e = true then 3 else 0) M) : g_Call (d + 5) 324 [.ref m, g_n p] M (g_qI Q) := by
  have hpR := hs.R (by decide)
  have h4 := hs.2.2.2.1
  have h5 := hs.2.2.2.2
  have hl := b_el_len e.1 e.2.1 e.2.2
  refine m_X12_expressionFault hpR fun _ => ⟨hR.1, e_isRef (d := d) hR hs ?_⟩
  intro _ _ _
  by_cases hd : S_dol e = true
  · rw [if_pos hd]
    obtain ⟨hk, hts⟩ := S_dol_tx hd
    obtain ⟨t1, t2, t3, t4⟩ := hs.text hk
    refine ⟨fun g => absurd g (by decide), fun _ => e_vl2 (d := d + 2) hR hs ?_⟩
    intro _ _ _
    refine ⟨⟨by omega, by omega⟩, e_textEnd (d := d + 1) hR hs hk ?_⟩
    intro _ _ _
    rw [hts] at t1 t3 ⊢
    rw [List.length_cons] at t1 ⊢
    have hx := (b_cons.mp t3).2
    rw [show p + 2 + (e.2.1.length : Int) + 4 + 1 = p + 2 + e.2.1.length + 5 by omega] at hx
    rw [show p + 2 + (e.2.1.length : Int) + 4 + (((S_pt e).length + 1 : Nat) : Int) = p + 2 + e.2.1.length + 5 + (S_pt e).length by omega]
    refine e_plain (d := d) hR hx (by omega) (by omega) (fun hok => ?_) fun hno => ?_
    · intro _ _ _
      have : S_ef e = false := by
        unfold S_ef
        rw [F_pl_t hok]
        simp
      rw [if_neg (by rw [this]; decide)] at h
      exact ⟨fun g => absurd g (by decide), fun _ => h⟩
    · intro _ _ _
      have : S_ef e = true := by
        unfold S_ef
        rw [hd, F_pl_f hno]
        rfl
      rw [if_pos this] at h
      exact ⟨fun _ => h, fun g => absurd rfl g⟩
  · rw [if_neg hd]
    have : S_ef e = false := by
      unfold S_ef
      have : S_dol e = false := by simpa using hd
      rw [this]
      rfl
    rw [if_neg (by rw [this]; decide)] at h
    exact ⟨fun _ => h, fun g => absurd rfl g⟩
end SPLE
