/-! FILTERS: the class asks leaves, further conditions -/
section HOLD2
variable {d r b o po pf pt : Nat} {c e N : Int} {F : Int → Int} {M : g_M} {L : List Int} {Q : Int → g_M → Prop}
theorem c_someIsIn {pv : Int} {v : b_E} {fr : Nat} {ls : List (Option (Int × b_E))} (hS : F_S r b o po pf pt c e N F M L) (hN : N ≤ 1000000000) (hv : b_st F N pv 20 v.1 v.2.1 v.2.2) (hk : v.1 = 4) (hl : v.2.2.length ≤ 3000) (hw : F_w F N L fr ls) (hb : fr + ls.length ≤ 40000) (h : Q (if F_in v (ls.map L_nop) = true then 1 else 0) M) : g_Call (d + 47) 57 [.ref o, g_n pv, g_n fr, g_n ((fr : Int) + ls.length)] M (g_qI Q) := by
  have hS0 := hS
  obtain ⟨hP, ⟨o1, o2, o3, o4⟩, hpp, hA, hF⟩ := hS
  have hpv := hv.R hN
  obtain ⟨D1, es, e1, e2, e3, e4, e5, e6, e7, e8⟩ := hv.ch (Or.inr hk)
  have hin : F_in v (ls.map L_nop) = es.any fun y => F_eqs y (ls.map L_nop) := by
    unfold F_in
    rw [e5]
  rw [hin] at h
  have hlp : ∀ (fs : List b_E) (q : Int) (i : Nat), b_sts F N q D1 fs → i + fs.length < 2000 → Q (if (fs.any fun y => F_eqs y (ls.map L_nop)) = true then 1 else 0) M → g_Run (d + 46) 57 13 [(0, .ref o), (1, g_n pv), (2, g_n fr), (3, g_n ((fr : Int) + ls.length)), (4, g_n q), (5, g_n i)] [] M (g_qI Q) := by
    intro fs
    induction fs with
    | nil =>
      intro q i s1 hi2 h
      have hq0 := s1.2.2
      rw [List.length_nil] at hi2
      exact s_X2_someIsIn_13 hpv ⟨by omega, by omega⟩ ⟨by omega, by omega⟩ ⟨by omega, by omega⟩ ⟨by omega, by omega⟩ fun _ => ⟨fun _ => ⟨o1, b, o3, c_kdE hA hN (by rw [hF]; exact s1) fun _ _ _ => ⟨fun _ => h, fun g => absurd rfl g⟩⟩, fun g => absurd (by omega) g⟩
    | cons x fs ihf =>
      intro q i s1 hi2 h
      rw [List.length_cons] at hi2
      obtain ⟨t1, t2⟩ := s1.cons
      have hq0 := s1.2.2
      have hxk := b_vs_pos (b_gv_vs t1.2.2.1)
      have hca : ((x :: fs).any fun y => F_eqs y (ls.map L_nop)) = (F_eqs x (ls.map L_nop) || fs.any fun y => F_eqs y (ls.map L_nop)) := rfl
      rw [hca] at h
      refine s_X2_someIsIn_13 hpv ⟨by omega, by omega⟩ ⟨by omega, by omega⟩ ⟨by omega, by omega⟩ ⟨by omega, by omega⟩ fun _ => ⟨fun _ => ⟨o1, b, o3, c_kd2 hA hN (by rw [hF]; exact t1) fun _ _ _ => ⟨fun g => absurd g (by omega), fun _ => c_someIs (d := d) hS0 hN (t1.le (by omega)) hw hb fun _ _ _ => ?_⟩⟩, fun g => absurd (by omega) g⟩
      cases hx : F_eqs x (ls.map L_nop)
      · rw [hx, Bool.false_or] at h
        refine ⟨fun _ => ⟨b, o3, c_nx2 hA hN (by rw [hF]; exact t1) fun _ _ _ => ⟨⟨by omega, by omega⟩, ?_⟩⟩, fun g => absurd rfl g⟩
        have := ihf (q + (b_el x.1 x.2.1 x.2.2).length) (i + 1) t2 (by omega) h
        rwa [show ((i + 1 : Nat) : Int) = (i : Int) + 1 by omega] at this
      · rw [hx, Bool.true_or] at h
        exact ⟨fun g => absurd g (by decide), fun _ => h⟩
  exact m_X2_someIsIn hpv ⟨by omega, by omega⟩ ⟨by omega, by omega⟩ fun _ => ⟨o1, b, o3, c_fi2 hA hN (by rw [hF]; exact hv) fun _ _ _ => hlp es _ 0 e4 (by omega) h⟩
theorem c_isSo {k p pv : Int} {x v : b_E} {D : Nat} (hS : F_S r b o po pf pt c e N F M L) (hN : N ≤ 1000000000) (hk : 5 ≤ k) (hk8 : k ≤ 8) (hx : b_st F N p D x.1 x.2.1 x.2.2) (hD : D ≤ 20) (hl : x.2.2.length ≤ 190000) (hv : b_st F N pv 20 v.1 v.2.1 v.2.2) (h : Q (if F_so k x v = true then 1 else 0) M) : g_Call (d + 45) 59 [.ref o, g_n k, g_n p, g_n pv] M (g_qI Q) := by
  obtain ⟨hP, ⟨o1, o2, o3, o4⟩, hpp, hA, hF⟩ := hS
  subst hF
  refine m_X2_isSo ⟨by omega, by omega⟩ (hx.R hN) (hv.R hN) fun _ => ⟨o1, b, o3, c_cl2 hA hN hx fun _ _ _ => ⟨b, o3, c_cl2 hA hN hv fun _ _ _ => ⟨fun g => ⟨b, o3, b, o3, c_eq2 hA hN hx hD hl hv fun _ _ _ => ?_⟩, fun g => ?_⟩⟩⟩
  · have hc : F_so k x v = (if k = 5 then decide (v_cmp 61 x.1 x.2.2 v.1 v.2.2 < 0) else if k = 6 then !decide (0 < v_cmp 61 x.1 x.2.2 v.1 v.2.2) else if k = 7 then decide (0 < v_cmp 61 x.1 x.2.2 v.1 v.2.2) else !decide (v_cmp 61 x.1 x.2.2 v.1 v.2.2 < 0)) := by
      unfold F_so
      rw [show (b_cl x.1 == b_cl v.1) = true by simpa using g, Bool.true_and]
    rw [hc] at h
    refine ⟨fun g5 => ?_, fun g5 => ⟨fun g6 => ?_, fun g6 => ⟨fun g7 => ?_, fun g7 => ?_⟩⟩⟩
    · rw [if_pos g5] at h
      exact ⟨fun g => by simpa [g] using h, fun g => by simpa [g] using h⟩
    · rw [if_neg g5, if_pos g6] at h
      exact ⟨fun g => by simpa [g] using h, fun g => by simpa [g] using h⟩
    · rw [if_neg g5, if_neg g6, if_pos g7] at h
      exact ⟨fun g => by simpa [g] using h, fun g => by simpa [g] using h⟩
    · rw [if_neg g5, if_neg g6, if_neg g7] at h
      exact ⟨fun g => by simpa [g] using h, fun g => by simpa [g] using h⟩
  · have hc : F_so k x v = false := by
      unfold F_so
      rw [show (b_cl x.1 == b_cl v.1) = false by simpa using g, Bool.false_and]
    rw [hc] at h
    exact h
theorem c_isSoM {k pv : Int} {v : b_E} (hS : F_S r b o po pf pt c e N F M L) (hN : N ≤ 1000000000) (hk : 5 ≤ k) (hk8 : k ≤ 8) (hv : b_st F N pv 20 v.1 v.2.1 v.2.2) (h : Q 0 M) : g_Call (d + 45) 59 [.ref o, g_n k, g_n (-1), g_n pv] M (g_qI Q) := by
  obtain ⟨hP, ⟨o1, o2, o3, o4⟩, hpp, hA, hF⟩ := hS
  subst hF
  have hcl := b_cl_R v.1
  have hN0 := hA.len
  refine m_X2_isSo ⟨by omega, by omega⟩ ⟨by decide, by decide⟩ (hv.R hN) fun _ => ⟨o1, b, o3, c_classOf hA ⟨by omega, by omega⟩ ⟨by decide, by decide⟩ fun _ _ _ => ?_⟩
  rw [if_pos (by decide)]
  exact ⟨b, o3, c_cl2 hA hN hv fun _ _ _ => ⟨fun g => absurd g (by omega), fun _ => h⟩⟩
theorem c_someIsSo {k pv : Int} {v : b_E} {fr : Nat} {ls : List (Option (Int × b_E))} (hS : F_S r b o po pf pt c e N F M L) (hN : N ≤ 1000000000) (hk : 5 ≤ k) (hk8 : k ≤ 8) (hv : b_st F N pv 20 v.1 v.2.1 v.2.2) (hw : F_w F N L fr ls) (hb : fr + ls.length ≤ 40000) (h : Q (if F_sos k v (ls.map L_nop) = true then 1 else 0) M) : g_Call (d + 47) 58 [.ref o, g_n k, g_n pv, g_n fr, g_n ((fr : Int) + ls.length)] M (g_qI Q) := by
  have hS0 := hS
  obtain ⟨hP, ⟨o1, o2, o3, o4⟩, hpp, hA, hF⟩ := hS
  subst hF
  have hpv := hv.R hN
  have hN0 := hA.len
  have h45 : ∀ (ls : List (Option (Int × b_E))) (f : Nat) (to f0 : Int), g_InR f0 → F_w (g_i M b) N L f ls → to = f + ls.length → f + ls.length ≤ 40000 → Q (if ((ls.map L_nop).any fun z => match z with
      | none => false
      | some x => F_so k x v || (F_its x).any fun y => F_so k y v) = true then 1 else 0) M → g_Run (d + 46) 58 45 [(0, .ref o), (1, g_n k), (2, g_n pv), (3, g_n f0), (4, g_n to), (5, g_n f)] [] M (g_qI Q) := by
    intro ls
    induction ls with
    | nil =>
      intro f to f0 hf0 hw hto hb h
      rw [List.length_nil] at hto hb
      exact s_X2_someIsSo_45 ⟨by omega, by omega⟩ hpv hf0 ⟨by omega, by omega⟩ ⟨by omega, by omega⟩ fun _ => ⟨fun g => absurd g (by omega), fun _ => h⟩
    | cons z ls ih =>
      intro f to f0 hf0 hw hto hb h
      rw [List.length_cons] at hto hb
      obtain ⟨w1, w2⟩ := hw.cons
      have hi : Q (if ((ls.map L_nop).any fun z => match z with
          | none => false
          | some x => F_so k x v || (F_its x).any fun y => F_so k y v) = true then 1 else 0) M → g_Run (d + 46) 58 45 [(0, .ref o), (1, g_n k), (2, g_n pv), (3, g_n f0), (4, g_n to), (5, g_n ((f : Int) + 1))] [] M (g_qI Q) := by
        intro hq2
        have := ih (f + 1) to f0 hf0 w2 (by omega) (by omega) hq2
        rwa [show ((f + 1 : Nat) : Int) = (f : Int) + 1 by omega] at this
      rcases z with _ | y
      · refine s_X2_someIsSo_45 ⟨by omega, by omega⟩ hpv hf0 ⟨by omega, by omega⟩ ⟨by omega, by omega⟩ fun _ => ⟨fun _ => ⟨o1, r, o2, hP.1, c_leaf hP w1 fun _ _ _ => c_isSoM (d := d + 1) hS0 hN hk hk8 hv fun _ _ _ => ⟨fun _ => ⟨b, o3, c_kind hA ⟨by omega, by omega⟩ ⟨by decide, by decide⟩ fun _ _ _ => ?_⟩, fun g => absurd rfl g⟩⟩, fun g => absurd (by omega) g⟩
        rw [show L_opt none = -1 from rfl, b_kd_neg]
        exact ⟨fun g => absurd g (by decide), fun _ => ⟨⟨by omega, by omega⟩, hi h⟩⟩
      · obtain ⟨y1, y2⟩ := hw.2 y List.mem_cons_self
        have hyR := y1.R hN
        have hc : (((some y :: ls).map L_nop).any fun z => match z with
          | none => false
          | some x => F_so k x v || (F_its x).any fun y => F_so k y v) = ((F_so k y.2 v || (F_its y.2).any fun x => F_so k x v) || ((ls.map L_nop).any fun z => match z with
          | none => false
          | some x => F_so k x v || (F_its x).any fun y => F_so k y v)) := rfl
        rw [hc] at h
        refine s_X2_someIsSo_45 ⟨by omega, by omega⟩ hpv hf0 ⟨by omega, by omega⟩ ⟨by omega, by omega⟩ fun _ => ⟨fun _ => ⟨o1, r, o2, hP.1, c_leaf hP w1 fun _ _ _ => c_isSo (d := d + 1) hS0 hN hk hk8 y1 (by decide) y2 hv fun _ _ _ => ?_⟩, fun g => absurd (by omega) g⟩
        cases he : F_so k y.2 v
        · rw [he, Bool.false_or] at h
          refine ⟨fun _ => ⟨b, o3, c_kd2 hA hN y1 fun _ _ _ => ⟨fun g4 => ?_, fun g4 => ⟨⟨by omega, by omega⟩, hi ?_⟩⟩⟩, fun g => absurd rfl g⟩
          · obtain ⟨D1, es, e1, e2, e3, e4, e5, e6, e7, e8⟩ := y1.ch (Or.inr g4)
            have hits : F_its y.2 = es := by
              unfold F_its F_it
              rw [if_pos g4]
              exact e5
            rw [hits] at h
            have h106 : ∀ (fs : List b_E) (q : Int) (i : Nat), b_sts (g_i M b) N q D1 fs → (∀ x ∈ fs, x ∈ es) → i + fs.length < 100000 → Q (if ((fs.any fun x => F_so k x v) || ((ls.map L_nop).any fun z => match z with
                | none => false
                | some x => F_so k x v || (F_its x).any fun y => F_so k y v)) = true then 1 else 0) M → g_Run (d + 46) 58 106 [(0, .ref o), (1, g_n k), (2, g_n pv), (3, g_n f0), (4, g_n to), (5, g_n f), (6, g_n y.1), (7, g_n q), (8, g_n i)] [] M (g_qI Q) := by
              intro fs
              induction fs with
              | nil =>
                intro q i s1 _ hi2 h
                have hq0 := s1.2.2
                rw [List.length_nil] at hi2
                exact s_X2_someIsSo_106 ⟨by omega, by omega⟩ hpv hf0 ⟨by omega, by omega⟩ ⟨by omega, by omega⟩ hyR ⟨by omega, by omega⟩ ⟨by omega, by omega⟩ fun _ => ⟨fun _ => ⟨o1, b, o3, c_kdE hA hN s1 fun _ _ _ => ⟨fun _ => ⟨⟨by omega, by omega⟩, hi h⟩, fun g => absurd rfl g⟩⟩, fun g => absurd (by omega) g⟩
              | cons x fs ihf =>
                intro q i s1 hm hi2 h
                rw [List.length_cons] at hi2
                obtain ⟨t1, t2⟩ := s1.cons
                have hq0 := s1.2.2
                have hxk := b_vs_pos (b_gv_vs t1.2.2.1)
                have hxl := b_ser_mem (hm x List.mem_cons_self)
                have hyl := congrArg List.length e2
                rw [b_doc_len] at hyl
                have hca : ((x :: fs).any fun x => F_so k x v) = (F_so k x v || fs.any fun x => F_so k x v) := rfl
                rw [hca] at h
                refine s_X2_someIsSo_106 ⟨by omega, by omega⟩ hpv hf0 ⟨by omega, by omega⟩ ⟨by omega, by omega⟩ hyR ⟨by omega, by omega⟩ ⟨by omega, by omega⟩ fun _ => ⟨fun _ => ⟨o1, b, o3, c_kd2 hA hN t1 fun _ _ _ => ⟨fun g => absurd g (by omega), fun _ => c_isSo (d := d + 1) hS0 hN hk hk8 t1 (by omega) (by omega) hv fun _ _ _ => ?_⟩⟩, fun g => absurd (by omega) g⟩
                cases he : F_so k x v
                · rw [he, Bool.false_or] at h
                  refine ⟨fun _ => ⟨b, o3, c_nx2 hA hN t1 fun _ _ _ => ⟨⟨by omega, by omega⟩, ?_⟩⟩, fun g => absurd rfl g⟩
                  have := ihf (q + (b_el x.1 x.2.1 x.2.2).length) (i + 1) t2 (fun z hz => hm z (List.mem_cons_of_mem _ hz)) (by omega) h
                  rwa [show ((i + 1 : Nat) : Int) = (i : Int) + 1 by omega] at this
                · rw [he, Bool.true_or, Bool.true_or] at h
                  exact ⟨fun g => absurd g (by decide), fun _ => h⟩
            exact ⟨b, o3, c_fi2 hA hN y1 fun _ _ _ => h106 es _ 0 e4 (fun _ h => h) (by omega) h⟩
          · have hits : F_its y.2 = [] := if_neg g4
            rw [hits] at h
            exact h
        · rw [he, Bool.true_or, Bool.true_or] at h
          exact ⟨fun g => absurd g (by decide), fun _ => h⟩
  have h25 : v.1 = 10 → (k = 6 ∨ k = 8) → g_Run (d + 46) 58 25 [(0, .ref o), (1, g_n k), (2, g_n pv), (3, g_n fr), (4, g_n ((fr : Int) + ls.length))] [] M (g_qI Q) := by
    intro g10 gk
    have hc : F_sos k v (ls.map L_nop) = F_eqs v (ls.map L_nop) := by
      unfold F_sos
      rw [if_pos g10, show (k == 6 || k == 8) = true by rcases gk with rfl | rfl <;> rfl, Bool.true_and]
    rw [hc] at h
    refine s_X2_someIsSo_25 ⟨by omega, by omega⟩ hpv ⟨by omega, by omega⟩ ⟨by omega, by omega⟩ fun _ => ⟨o1, c_someIs (d := d) hS0 hN hv hw hb fun _ _ _ => ?_⟩
    cases he : F_eqs v (ls.map L_nop)
    · rw [he] at h
      exact ⟨fun _ => h, fun g => absurd rfl g⟩
    · rw [he] at h
      exact ⟨fun g => absurd g (by decide), fun _ => h⟩
  refine m_X2_someIsSo ⟨by omega, by omega⟩ hpv ⟨by omega, by omega⟩ ⟨by omega, by omega⟩ fun _ => ⟨o1, b, o3, c_kd2 hA hN hv fun _ _ _ => ⟨fun g10 => ⟨fun g6 => h25 g10 (Or.inl g6), fun g6 => ⟨fun g8 => h25 g10 (Or.inr g8), fun g8 => ?_⟩⟩, fun g10 => h45 ls fr _ _ ⟨by omega, by omega⟩ hw rfl hb ?_⟩⟩
  · have hc : F_sos k v (ls.map L_nop) = false := by
      unfold F_sos
      rw [if_pos g10, show (k == 6 || k == 8) = false by simp [g6, g8], Bool.false_and]
    rw [hc] at h
    exact h
  · have hc : F_sos k v (ls.map L_nop) = ((ls.map L_nop).any fun z => match z with
      | none => false
      | some x => F_so k x v || (F_its x).any fun y => F_so k y v) := if_neg g10
    rw [hc] at h
    exact h
theorem c_someExists {fr : Nat} {ls : List (Option (Int × b_E))} (hS : F_S r b o po pf pt c e N F M L) (hN : N ≤ 1000000000) (hw : F_w F N L fr ls) (hb : fr + ls.length ≤ 40000) (h : Q (if F_ex (ls.map L_nop) = true then 1 else 0) M) : g_Call (d + 2) 60 [.ref o, g_n fr, g_n ((fr : Int) + ls.length)] M (g_qI Q) := by
  obtain ⟨hP, ⟨o1, o2, o3, o4⟩, hpp, hA, hF⟩ := hS
  have hlp : ∀ (ls : List (Option (Int × b_E))) (f : Nat) (to f0 : Int), g_InR f0 → F_w F N L f ls → to = f + ls.length → f + ls.length ≤ 40000 → Q (if F_ex (ls.map L_nop) = true then 1 else 0) M → g_Run (d + 1) 60 2 [(0, .ref o), (1, g_n f0), (2, g_n to), (3, g_n f)] [] M (g_qI Q) := by
    intro ls
    induction ls with
    | nil =>
      intro f to f0 hf0 hw hto hb h
      rw [List.length_nil] at hto hb
      exact s_X2_someExists_2 hf0 ⟨by omega, by omega⟩ ⟨by omega, by omega⟩ fun _ => ⟨fun g => absurd g (by omega), fun _ => h⟩
    | cons z ls ih =>
      intro f to f0 hf0 hw hto hb h
      rw [List.length_cons] at hto hb
      obtain ⟨w1, w2⟩ := hw.cons
      refine s_X2_someExists_2 hf0 ⟨by omega, by omega⟩ ⟨by omega, by omega⟩ fun _ => ⟨fun _ => ⟨o1, r, o2, hP.1, c_leaf hP w1 fun _ _ _ => ?_⟩, fun g => absurd (by omega) g⟩
      rcases z with _ | y
      · refine ⟨fun _ => ⟨⟨by omega, by omega⟩, ?_⟩, fun g => absurd (show (-1 : Int) < 0 by decide) g⟩
        have := ih (f + 1) to f0 hf0 w2 (by omega) (by omega) h
        rwa [show ((f + 1 : Nat) : Int) = (f : Int) + 1 by omega] at this
      · have hy := (hw.2 y List.mem_cons_self).1.2.2.2.1
        exact ⟨fun g => absurd (show y.1 < 0 from g) (by omega), fun _ => h⟩
  exact m_X2_someExists ⟨by omega, by omega⟩ ⟨by omega, by omega⟩ fun _ => hlp ls fr _ _ ⟨by omega, by omega⟩ hw rfl hb h
theorem c_someCounts {X : Int64} {fr : Nat} {ls : List (Option (Int × b_E))} (hS : F_S r b o po pf pt c e N F M L) (hN : N ≤ 1000000000) (hw : F_w F N L fr ls) (hb : fr + ls.length ≤ 40000) (h : Q (if F_cnt X (ls.map L_nop) = true then 1 else 0) M) : g_Call (d + 3) 61 [.ref o, .long X, g_n fr, g_n ((fr : Int) + ls.length)] M (g_qI Q) := by
  obtain ⟨hP, ⟨o1, o2, o3, o4⟩, hpp, hA, hF⟩ := hS
  subst hF
  have hN0 := hA.len
  have hlp : ∀ (ls : List (Option (Int × b_E))) (f : Nat) (to f0 : Int), g_InR f0 → F_w (g_i M b) N L f ls → to = f + ls.length → f + ls.length ≤ 40000 → Q (if F_cnt X (ls.map L_nop) = true then 1 else 0) M → g_Run (d + 2) 61 3 [(0, .ref o), (1, .long X), (3, g_n f0), (4, g_n to), (5, g_n f)] [] M (g_qI Q) := by
    intro ls
    induction ls with
    | nil =>
      intro f to f0 hf0 hw hto hb h
      rw [List.length_nil] at hto hb
      exact s_X2_someCounts_3 hf0 ⟨by omega, by omega⟩ ⟨by omega, by omega⟩ fun _ => ⟨fun g => absurd g (by omega), fun _ => h⟩
    | cons z ls ih =>
      intro f to f0 hf0 hw hto hb h
      rw [List.length_cons] at hto hb
      obtain ⟨w1, w2⟩ := hw.cons
      have hi : Q (if F_cnt X (ls.map L_nop) = true then 1 else 0) M → g_Run (d + 2) 61 3 [(0, .ref o), (1, .long X), (3, g_n f0), (4, g_n to), (5, g_n ((f : Int) + 1))] [] M (g_qI Q) := by
        intro hq2
        have := ih (f + 1) to f0 hf0 w2 (by omega) (by omega) hq2
        rwa [show ((f + 1 : Nat) : Int) = (f : Int) + 1 by omega] at this
      rcases z with _ | y
      · refine s_X2_someCounts_3 hf0 ⟨by omega, by omega⟩ ⟨by omega, by omega⟩ fun _ => ⟨fun _ => ⟨o1, r, o2, hP.1, c_leaf hP w1 fun _ _ _ => ⟨b, o3, c_kind hA ⟨by omega, by omega⟩ ⟨by decide, by decide⟩ fun _ _ _ => ?_⟩⟩, fun g => absurd (by omega) g⟩
        rw [show L_opt none = -1 from rfl, b_kd_neg]
        exact ⟨fun g => absurd g (by decide), fun _ => ⟨⟨by omega, by omega⟩, hi h⟩⟩
      · obtain ⟨y1, y2⟩ := hw.2 y List.mem_cons_self
        have hc : F_cnt X ((some y :: ls).map L_nop) = ((y.2.1 == 4 && decide (g_lc (Int64.ofInt (b_ch y.2.2.2).length) X = 0)) || F_cnt X (ls.map L_nop)) := rfl
        rw [hc] at h
        refine s_X2_someCounts_3 hf0 ⟨by omega, by omega⟩ ⟨by omega, by omega⟩ fun _ => ⟨fun _ => ⟨o1, r, o2, hP.1, c_leaf hP w1 fun _ _ _ => ⟨b, o3, c_kd2 hA hN y1 fun _ _ _ => ⟨fun g4 => ?_, fun g4 => ⟨⟨by omega, by omega⟩, hi ?_⟩⟩⟩⟩, fun g => absurd (by omega) g⟩
        · obtain ⟨D1, es, e1, e2, e3, e4, e5, e6, e7, e8⟩ := y1.ch (Or.inr g4)
          rw [e5, show (y.2.1 == 4) = true by simpa using g4, Bool.true_and] at h
          have hat := y1.1
          have hle := y1.2.2.2.2
          rw [e2] at hat hle
          refine ⟨b, o3, c_items hA hN hat y1.2.1 e3 y1.2.2.2.1 hle (by omega) fun _ _ _ => ⟨fun g => ?_, fun g => ⟨⟨by omega, by omega⟩, hi ?_⟩⟩⟩
          · rw [decide_eq_true g, Bool.true_or] at h
            exact h
          · rw [decide_eq_false g, Bool.false_or] at h
            exact h
        · rw [show (y.2.1 == 4) = false by simpa using g4, Bool.false_and, Bool.false_or] at h
          exact h
  exact m_X2_someCounts ⟨by omega, by omega⟩ ⟨by omega, by omega⟩ fun _ => hlp ls fr _ _ ⟨by omega, by omega⟩ hw rfl hb h
end HOLD2
