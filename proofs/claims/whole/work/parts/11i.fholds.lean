/-! FILTERS: the class holds them, all -/
theorem k_P.of {S : Nat → Prop} {M M1 : g_M} {r b : Nat} {c e : Int} {L : List Int} (hP : k_P M r b c e L) (h : g_fr S M M1) (hr : ¬ S r) (hS : ∀ (a : Nat) (n : Int), g_A M a 1 n → k_n n → ¬ S a) : k_P M1 r b c e L := by
  obtain ⟨o1, o2, a, n, o3, o4, o5, o6, o7, o8, o9, o10⟩ := hP
  obtain ⟨e1, e2⟩ := h.2 r hr
  obtain ⟨e3, e4⟩ := h.2 a (hS a n o4 o7)
  have hsl : g_sl M1 = g_sl M := by
    unfold g_sl
    rw [h.1]
  exact ⟨h.O o1, by rw [e2]; exact o2, a, n, by rw [e2]; exact o3, h.A o4, by rw [e1]; exact o5, o6, o7, by rw [hsl]; exact o8, by rw [h.1]; exact o9, by rw [e3]; exact o10⟩
theorem p_S.pile {M : g_M} {po pf pt : Nat} (h : p_P M po pf pt) : (∀ r : Nat, g_O M r 7 → ¬ p_S po pf pt r) ∧ ∀ (a : Nat) (n : Int), g_A M a 1 n → k_n n → ¬ p_S po pf pt a := by
  obtain ⟨p1, p2, p3, p4, p5, p6⟩ := h
  constructor
  · rintro r hr (g | g | g)
    · exact g_neOO hr p1 (by decide) g
    · exact g_neOA hr p4 g
    · exact g_neOA hr p5 g
  · rintro a n ha hn (g | g | g)
    · exact g_neOA p1 ha g.symm
    · subst g
      have := (ha.fn p4).2
      subst this
      exact absurd hn (by unfold k_n; omega)
    · subst g
      have := (ha.fn p5).2
      subst this
      exact absurd hn (by unfold k_n; omega)
theorem p_P.kF {M M1 : g_M} {r b po pf pt : Nat} {c e : Int} {L : List Int} (h : p_P M po pf pt) (hP : k_P M r b c e L) (f : k_F k_0 r M M1) : p_P M1 po pf pt := by
  obtain ⟨q1, q2, q3, q4, q5, q6⟩ := h
  obtain ⟨i1, r1⟩ := f.O hP q1 (by decide) id
  exact ⟨q1.up f.1, by rw [r1]; exact q2, by rw [r1]; exact q3, q4.up f.1, q5.up f.1, q6⟩
theorem c_walkA {r b o f t a : Nat} {c e n n2 : Int} {D dd : Nat} {M : g_M} {Q : g_M → Prop} {z : Int × b_E} {st : List (List Int)} {s : Nat} {lv : Int} {L : List Int} (hd : D + 4 ≤ dd) (h1 : k_P M r b c e L) (h2 : g_A M b 0 n) (h3 : n ≤ 1000000000) (h4 : p_W M o f t a n2 s st) (h5 : b_st (g_i M b) n z.1 D z.2.1 z.2.2.1 z.2.2.2) (h6 : z.2.2.2.length ≤ 190000) (h7 : s + st.length ≤ 8) (h8 : 0 ≤ lv) (h9 : lv + D ≤ 60) (h10 : L.length + (L_go D z.1 z.2 st).length ≤ 32000) (h : ∀ M1, k_F k_0 r M M1 → k_P M1 r b c e (L ++ (L_go D z.1 z.2 st).map L_opt) → Q M1) : g_Call dd 94 [.ref o, .ref r, g_n z.1, g_n s, g_n lv] M (g_qV Q) := by
  obtain ⟨d, rfl⟩ : ∃ d, dd = d + D + 4 := ⟨dd - D - 4, by omega⟩
  exact c_walk D h1 h2 h3 h4 h5 h6 h7 h8 h9 h10 h
section HOLD4
variable {r b o po pf pt : Nat} {c e N : Int} {F : Int → Int} {n : Nat}
/-- the leaves of a path at a document come on the pile -/
theorem c_goPath (hN : N ≤ 1000000000) {M : g_M} {L : List Int} {Q : g_M → Prop} {dd : Nat} {pe pd : Int} {nm : List Int} {de : b_E} {Dd : Nat} (hS : F_S r b o po pf pt c e N F M L) (hi : p_is M po pf pt b pe nm) (hat : b_at F pe nm) (h0 : 0 ≤ pe) (h1 : pe + nm.length ≤ N) (hp : (p_sp nm).length ≤ 8) (hd2 : b_st F N pd (Dd + 1) de.1 de.2.1 de.2.2) (hDd : Dd ≤ 17) (hdl : de.2.2.length ≤ 190000) (hr : L.length + (L_go (Dd + 1) pd de (p_sp nm)).length ≤ 32000) (hd : 22 ≤ dd) (h : ∀ M1, k_F (p_S po pf pt) r M M1 → F_S r b o po pf pt c e N F M1 (L ++ (L_go (Dd + 1) pd de (p_sp nm)).map L_opt) → Q M1) : g_Call dd 94 [.ref po, .ref r, g_n pd, g_n 0, g_n 0] M (g_qV Q) := by
  have hS0 := hS
  obtain ⟨hP, ho, hpp, hA, hF⟩ := hS
  have hW : p_W M po pf pt b N 0 (p_sp nm) := p_W.of hpp hA hN hi (by rw [hF]; exact hat) h0 h1
  exact c_walkA (z := (pd, de)) (s := 0) (lv := 0) (D := Dd + 1) (by omega) hP hA hN hW (by rw [hF]; exact hd2) hdl (by omega) (by decide) (by omega) hr fun M1 f1 p1 => h M1 f1.up0 (hS0.st f1.up0 p1 (hpp.kF hP f1))
theorem c_hOne (hN : N ≤ 1000000000) (hHA : H_A r b o po pf pt c e N F n) (hB : H_B r b o po pf pt c e N F n) {M : g_M} {L : List Int} {Q : Int → g_M → Prop} {d : Nat} {lv pe pd : Int} {fe de : b_E} {D Dd : Nat} (hS : F_S r b o po pf pt c e N F M L) (hs : b_st F N pe D fe.1 fe.2.1 fe.2.2) (hD : D ≤ n) (hD20 : D ≤ 20) (hl : fe.2.2.length ≤ 3000) (hVa : F_dl fe.2.1 = true → F_jo fe.2.1 = true ∧ fe.1 = 4 ∧ ∀ x ∈ b_ch fe.2.2, x.1 = 3 ∧ (F_V n).1 (b_ch x.2.2)) (hVb : F_dl fe.2.1 = false → p_plain fe.2.1 ∧ (F_cs fe = true → (F_V n).2 (b_ch fe.2.2))) (hds : b_st F N pd (Dd + 1) de.1 de.2.1 de.2.2) (hdk : de.1 = 3) (hDd : Dd ≤ 17) (hdl : de.2.2.length ≤ 190000) (hr : L.length + 2 + L_W L_c1 (L_C (Dd + 1)) de ≤ 32000) (h0 : 0 ≤ lv) (h1 : lv + 2 * n + 1 ≤ 60) (hn20 : n ≤ 30) (hd : 8 * n + 60 ≤ d) (h : ∀ M1, k_F (p_S po pf pt) r M M1 → F_S r b o po pf pt c e N F M1 L → Q (if F_one (F_X n) fe de = true then 1 else 0) M1) : g_Call (d + 4) 52 [.ref o, g_n pe, g_n pd, g_n lv] M (g_qI Q) := by
  have hS0 := hS
  obtain ⟨hP, ⟨o1, o2, o3, o4⟩, hpp, hA, hF⟩ := hS
  have hs' : b_st (g_i M b) N pe D fe.1 fe.2.1 fe.2.2 := by rw [hF]; exact hs
  obtain ⟨v1, v2, v3, v4⟩ := hs.val
  have hz : ∀ x : Bool, ((if x = true then 1 else 0 : Int) = 0 ∨ (if x = true then 1 else 0 : Int) = 1) := fun x => by cases x <;> simp
  obtain ⟨d, rfl⟩ : ∃ d', d = d' + 60 := ⟨d - 60, by omega⟩
  have hpd := hds.R hN
  refine m_X2_elementHolds (hs.R hN) hpd ⟨by omega, by omega⟩ fun _ => ⟨o1, b, o3, c_dl2 hA hN hs' (fun g => fun _ _ _ => ⟨fun g => absurd g (by decide), fun _ => ?_⟩) fun g => fun _ _ _ => ⟨fun _ => ?_, fun g => absurd rfl g⟩⟩
  · -- a joining
    obtain ⟨j1, j2, j3⟩ := hVa g
    obtain ⟨D1, es, e1, e2, e3, e4, e5, e6, e7, e8⟩ := hs.ch (Or.inr j2)
    rw [e5] at j3
    have hl37 : ∀ (A O : Bool) (Q : Int → g_M → Prop) (fs : List b_E) (q : Int) (i : Nat) (M1 : g_M), b_sts F N q D1 fs → (∀ x ∈ fs, x ∈ es) → i + fs.length < 2000 → k_F (p_S po pf pt) r M M1 → F_S r b o po pf pt c e N F M1 L → (∀ M2, k_F (p_S po pf pt) r M M2 → F_S r b o po pf pt c e N F M2 L → Q (if (if fs.all (fun x => (F_X n).1 (b_ch x.2.2) de == A) = true then !O else O) = true then 1 else 0) M2) → g_Run (d + 62) 53 37 [(0, .ref o), (1, g_n pe), (2, g_n pd), (3, g_n lv), (4, g_n (if A = true then 1 else 0)), (5, g_n (if O = true then 1 else 0)), (6, g_n q), (7, g_n i)] [] M1 (g_qI Q) := by
      intro A O Q fs
      have rA : g_InR (if A = true then 1 else 0) := by cases A <;> exact ⟨by decide, by decide⟩
      have rO : g_InR (if O = true then 1 else 0) := by cases O <;> exact ⟨by decide, by decide⟩
      induction fs with
      | nil =>
        intro q i M1 s1 _ hi2 f1 hS1 h
        obtain ⟨hP1, ⟨q1, q2, q3, q4⟩, hpp1, hA1, hF1⟩ := id hS1
        have hq0 := s1.2.2
        rw [List.length_nil] at hi2
        refine s_X2_logicHolds_37 (hs.R hN) hpd ⟨by omega, by omega⟩ rA rO ⟨by omega, by omega⟩ ⟨by omega, by omega⟩ fun _ => ⟨fun _ => ⟨q1, b, q3, c_kdE hA1 hN (by rw [hF1]; exact s1) fun _ _ _ => ⟨fun _ => ?_, fun g => absurd rfl g⟩⟩, fun g => absurd (by omega) g⟩
        have h2 := h M1 f1 hS1
        cases O
        · exact ⟨fun _ => h2, fun g => absurd rfl g⟩
        · exact ⟨fun g => absurd g (by decide), fun _ => h2⟩
      | cons x fs ihf =>
        intro q i M1 s1 hm hi2 f1 hS1 h
        obtain ⟨hP1, ⟨q1, q2, q3, q4⟩, hpp1, hA1, hF1⟩ := id hS1
        rw [List.length_cons] at hi2
        obtain ⟨t1, t2⟩ := s1.cons
        have t1' : b_st (g_i M1 b) N q D1 x.1 x.2.1 x.2.2 := by rw [hF1]; exact t1
        have hq0 := s1.2.2
        have hxm := hm x List.mem_cons_self
        obtain ⟨x1, x2⟩ := j3 x hxm
        have hxl := b_ser_mem hxm
        have hyl := congrArg List.length e2
        rw [b_doc_len] at hyl
        have hca : ((x :: fs).all fun x => (F_X n).1 (b_ch x.2.2) de == A) = (((F_X n).1 (b_ch x.2.2) de == A) && fs.all fun x => (F_X n).1 (b_ch x.2.2) de == A) := rfl
        rw [hca] at h
        refine s_X2_logicHolds_37 (hs.R hN) hpd ⟨by omega, by omega⟩ rA rO ⟨by omega, by omega⟩ ⟨by omega, by omega⟩ fun _ => ⟨fun _ => ⟨q1, b, q3, c_kd2 hA1 hN t1' fun _ _ _ => ⟨fun g => absurd g (by omega), fun _ => ⟨⟨by omega, by omega⟩, ?_⟩⟩⟩, fun g => absurd (by omega) g⟩
        refine hHA M1 L _ (d + 62) (lv + 1) q pd x de D1 Dd hS1 t1 x1 (by omega) (by omega) x2 hds hdk hDd hdl hr (by omega) (by omega) (by omega) fun M2 f2 hS2 => ?_
        intro _ _ _
        obtain ⟨hP2, ⟨q5, q6, q7, q8⟩, hpp2, hA2, hF2⟩ := id hS2
        have hgo : (F_X n).1 (b_ch x.2.2) de = A → ∃ b15, g_r M2 o 1 = some b15 ∧ g_Call (d + 62) 111 [.ref b15, g_n q] M2 (g_qI fun r20 M17 => g_ext M2 M17 → g_ok M17 → g_InR r20 → g_InR ((i : Int) + 1) ∧ g_Run (d + 62) 53 37 [(0, .ref o), (1, g_n pe), (2, g_n pd), (3, g_n lv), (4, g_n (if A = true then 1 else 0)), (5, g_n (if O = true then 1 else 0)), (6, g_n r20), (7, g_n ((i : Int) + 1))] [] M17 (g_qI Q)) := by
          intro he
          rw [show ((F_X n).1 (b_ch x.2.2) de == A) = true by simpa using he, Bool.true_and] at h
          refine ⟨b, q7, c_nx2 hA2 hN (by rw [hF2]; exact t1) fun _ _ _ => ⟨⟨by omega, by omega⟩, ?_⟩⟩
          have := ihf (q + (b_el x.1 x.2.1 x.2.2).length) (i + 1) M2 t2 (fun z hz => hm z (List.mem_cons_of_mem _ hz)) (by omega) (f1.tr f2) hS2 h
          rwa [show ((i + 1 : Nat) : Int) = (i : Int) + 1 by omega] at this
        have hst : (F_X n).1 (b_ch x.2.2) de ≠ A → ((if O = true then 1 else 0 : Int) = 0 ∨ (if O = true then 1 else 0 : Int) = 1) ∧ Q (if O = true then 1 else 0) M2 := by
          intro he
          refine ⟨hz O, ?_⟩
          have h2 := h M2 (f1.tr f2) hS2
          rw [show ((F_X n).1 (b_ch x.2.2) de == A) = false by simpa using he, Bool.false_and] at h2
          exact h2
        rcases hv : (F_X n).1 (b_ch x.2.2) de
        · cases A
          · exact ⟨fun _ => hgo hv, fun g => absurd rfl g⟩
          · exact ⟨fun g => absurd g (by decide), fun _ => hst (by rw [hv]; decide)⟩
        · cases A
          · exact ⟨fun g => absurd g (by decide), fun _ => hst (by rw [hv]; decide)⟩
          · exact ⟨fun _ => hgo hv, fun g => absurd rfl g⟩
    have hany : ∀ l : List b_E, (if (l.all fun x => (F_X n).1 (b_ch x.2.2) de == false) = true then true else false) = !(l.any fun x => (F_X n).1 (b_ch x.2.2) de) := by
      intro l
      induction l with
      | nil => rfl
      | cons x l ihl =>
        rw [List.all_cons, List.any_cons]
        cases hv : (F_X n).1 (b_ch x.2.2) de
        · simpa using ihl
        · simp
    have hone : F_one (F_X n) fe de = (if fe.2.1 = b_tx 14 then es.all (fun x => (F_X n).1 (b_ch x.2.2) de) else if fe.2.1 = b_tx 15 then es.any (fun x => (F_X n).1 (b_ch x.2.2) de) else !es.any (fun x => (F_X n).1 (b_ch x.2.2) de)) := by
      unfold F_one
      rw [if_pos g, e5]
    have hn45 : b_tx 14 ≠ b_tx 15 := by decide +kernel
    rw [hone] at h
    refine m_X2_logicHolds (hs.R hN) hpd ⟨by omega, by omega⟩ fun _ => ⟨o1, b, o3, ?_⟩
    refine c_nm3 (by decide) hA hN hs' (fun a1 => ?_) (fun a0 => ?_)
    · refine fun _ _ _ => ⟨b, o3, c_nm3 (by decide) hA hN hs' (fun a2 => absurd (a1.symm.trans a2) hn45) fun a2 => fun _ _ _ => ⟨b, o3, c_fi2 hA hN hs' fun _ _ _ => ?_⟩⟩
      refine hl37 true false _ es _ 0 M e4 (fun _ h => h) (by omega) (k_F.rf _ _ _) hS0 fun M2 f2 hS2 _ _ _ => ⟨hz _, ?_⟩
      have h2 := h M2 f2 hS2
      rw [if_pos a1] at h2
      have : (if (es.all fun x => (F_X n).1 (b_ch x.2.2) de == true) = true then !false else false) = es.all fun x => (F_X n).1 (b_ch x.2.2) de := by simp
      rw [this]
      exact h2
    · refine fun _ _ _ => ⟨b, o3, c_nm3 (by decide) hA hN hs' (fun a2 => fun _ _ _ => ⟨b, o3, c_fi2 hA hN hs' fun _ _ _ => ?_⟩) fun a2 => fun _ _ _ => ⟨b, o3, c_fi2 hA hN hs' fun _ _ _ => ?_⟩⟩
      · refine hl37 false true _ es _ 0 M e4 (fun _ h => h) (by omega) (k_F.rf _ _ _) hS0 fun M2 f2 hS2 _ _ _ => ⟨hz _, ?_⟩
        have h2 := h M2 f2 hS2
        rw [if_neg a0, if_pos a2] at h2
        have : (if (es.all fun x => (F_X n).1 (b_ch x.2.2) de == false) = true then !true else true) = es.any fun x => (F_X n).1 (b_ch x.2.2) de := by
          have := hany es
          cases hb : (es.any fun x => (F_X n).1 (b_ch x.2.2) de)
          · rw [hb] at this
            cases hc : (es.all fun x => (F_X n).1 (b_ch x.2.2) de == false)
            · rw [hc] at this
              exact absurd this (by decide)
            · rfl
          · rw [hb] at this
            cases hc : (es.all fun x => (F_X n).1 (b_ch x.2.2) de == false)
            · rfl
            · rw [hc] at this
              exact absurd this (by decide)
        rw [this]
        exact h2
      · refine hl37 false false _ es _ 0 M e4 (fun _ h => h) (by omega) (k_F.rf _ _ _) hS0 fun M2 f2 hS2 _ _ _ => ⟨hz _, ?_⟩
        have h2 := h M2 f2 hS2
        rw [if_neg a0, if_neg a2, ← hany] at h2
        exact h2
  · -- a path
    obtain ⟨j1, j2⟩ := hVb g
    obtain ⟨j3, j4⟩ := id j1
    obtain ⟨n1, n2⟩ := p_S.pile hpp
    have htop := hP.top
    have hsp1 := p_sp_pos fe.2.1
    obtain ⟨hA1, hA2, hA3⟩ := L_go_room (st := p_sp fe.2.1) hDd hds hdk hsp1 j3.2.1
    refine ⟨r, o2, hP.1, po, o4, b, o3, hpp.1, c_name hpp hA hN hs' (fun _ M1 f1 q1 q2 => ?_) (fun g => absurd j3 g)⟩
    intro _ _ _
    have fk1 := k_F.of f1 (n1 r hP.1)
    have hP1 : k_P M1 r b c e L := hP.of f1 (n1 r hP.1) n2
    have hS1 := hS0.st fk1 hP1 q1
    obtain ⟨-, ⟨t1, t2, t3, t4⟩, -, hA1', hF1⟩ := id hS1
    refine ⟨po, t4, r, t2, q1.1, c_goPath hN hS1 q2 (b_el_at hs.1).2.1 (by omega) (by omega) j3.2.1 hds hDd hdl (by omega) (by omega) fun M2 f2 hS2 => ?_⟩
    intro _ _
    obtain ⟨hP2, ⟨u1, u2, u3, u4⟩, hpp2, hA2', hF2⟩ := id hS2
    have fk2 := fk1.tr f2
    rw [htop]
    have h75 : ∀ M3, k_F (p_S po pf pt) r M M3 → F_S r b o po pf pt c e N F M3 (L ++ (L_pad (L_go (Dd + 1) pd de (p_sp fe.2.1))).map L_opt) → g_Run (d + 63) 52 75 [(0, .ref o), (1, g_n pe), (2, g_n pd), (3, g_n lv), (4, g_n (L.length : Int))] [] M3 (g_qI Q) := by
      intro M3 f3 hS3
      obtain ⟨hP3, ⟨w1, w2, w3, w4⟩, hpp3, hA3', hF3⟩ := id hS3
      have hs3 : b_st (g_i M3 b) N pe D fe.1 fe.2.1 fe.2.2 := by rw [hF3]; exact hs
      have htop3 := hP3.top
      rw [List.length_append, List.length_map] at htop3
      have hpl : (L_pad (L_go (Dd + 1) pd de (p_sp fe.2.1))).length ≤ (L_go (Dd + 1) pd de (p_sp fe.2.1)).length + 1 := by
        rcases L_go (Dd + 1) pd de (p_sp fe.2.1) with _ | ⟨a, l⟩
        · exact Nat.le_refl _
        · exact Nat.le_succ _
      have hpm : ∀ y, some y ∈ L_pad (L_go (Dd + 1) pd de (p_sp fe.2.1)) → some y ∈ L_go (Dd + 1) pd de (p_sp fe.2.1) := by
        intro y hy
        rcases hgo : L_go (Dd + 1) pd de (p_sp fe.2.1) with _ | ⟨a, l⟩
        · rw [hgo] at hy
          exact absurd (List.mem_singleton.mp hy) (by simp)
        · rw [hgo] at hy
          exact hy
      have hw : F_w F N (L ++ (L_pad (L_go (Dd + 1) pd de (p_sp fe.2.1))).map L_opt) L.length (L_pad (L_go (Dd + 1) pd de (p_sp fe.2.1))) := by
        refine ⟨fun i z hz => ?_, fun y hy => ?_⟩
        · rw [List.getElem?_append_right (Nat.le_add_right _ _), Nat.add_sub_cancel_left, List.getElem?_map, hz]
          rfl
        · obtain ⟨y1, y2⟩ := L_go_st (Dd + 1) hds y (hpm y hy)
          exact ⟨y1.le (by omega), by omega⟩
      have hlv : F_lv de fe.2.1 = (L_pad (L_go (Dd + 1) pd de (p_sp fe.2.1))).map L_nop := F_lv_go hds.2.2.1 (by omega)
      have hone : F_one (F_X n) fe de = (if F_cs fe = true then (F_X n).2 (b_ch fe.2.2) ((L_pad (L_go (Dd + 1) pd de (p_sp fe.2.1))).map L_nop) else F_eqs fe ((L_pad (L_go (Dd + 1) pd de (p_sp fe.2.1))).map L_nop)) := by
        unfold F_one
        rw [g, if_neg Bool.false_ne_true, hlv]
      have hlen : (L ++ (L_pad (L_go (Dd + 1) pd de (p_sp fe.2.1))).map L_opt).length = L.length + (L_pad (L_go (Dd + 1) pd de (p_sp fe.2.1))).length := by rw [List.length_append, List.length_map]
      have hend : ∀ (v : Int) (M4 : g_M), k_F (p_S po pf pt) r M M4 → F_S r b o po pf pt c e N F M4 (L ++ (L_pad (L_go (Dd + 1) pd de (p_sp fe.2.1))).map L_opt) → (v = 0 ∨ v = 1) → (∀ M1, k_F (p_S po pf pt) r M M1 → F_S r b o po pf pt c e N F M1 L → Q v M1) → ∃ b32, g_r M4 o 0 = some b32 ∧ g_O M4 b32 7 ∧ (∀ M35, M35 = g_wi M4 b32 2 (L.length : Int) → g_ok M35 → (v = 0 ∨ v = 1) ∧ Q v M35) := by
        intro v M4 f4 hS4 hv hq
        refine ⟨r, hS4.2.1.2.1, hS4.1.1, fun M35 e35 _ => ⟨hv, ?_⟩⟩
        subst e35
        exact hq _ (f4.tr (k_F.top M4 _)) hS4.cut
      refine s_X2_elementHolds_75 (hs.R hN) hpd ⟨by omega, by omega⟩ ⟨by omega, by omega⟩ fun _ => ⟨w1, b, w3, c_isConds hA3' hN hs3 (fun gc => fun _ _ _ => ?_) (fun gc => fun _ _ _ => ?_)⟩
      · refine ⟨fun g => absurd g (by decide), fun _ => ⟨r, w2, hP3.1, ?_⟩⟩
        rw [htop3]
        have gc : F_cs fe = true := gc
        refine hB M3 _ _ (d + 63) lv pe fe D L.length _ hS3 hs (F_cs_k gc) hD hl (j2 gc) hw (by omega) (fun y hy hy4 => ?_) (by omega) h0 (by omega) (by omega) fun M4 f4 hS4 => ?_
        · obtain ⟨D1, g1, g2, g3, g4, g5⟩ := hA3 y (hpm y hy)
          refine ⟨D1, by omega, g2, ?_⟩
          rw [hlen]
          rcases hgo : L_go (Dd + 1) pd de (p_sp fe.2.1) with _ | ⟨a, l⟩
          · have := hpm y hy
            rw [hgo] at this
            exact absurd this (by simp)
          · rw [hgo] at g4
            show L.length + (a :: l).length + 3 + _ ≤ 32000
            omega
        · intro _ _ _
          refine hend _ M4 (f3.tr f4) hS4 (hz _) fun M5 f5 hS5 => ?_
          have h2 := h M5 f5 hS5
          rw [hone, if_pos gc] at h2
          exact h2
      · refine ⟨fun _ => ⟨r, w2, hP3.1, ?_⟩, fun g => absurd rfl g⟩
        rw [htop3]
        have gc : F_cs fe = false := gc
        refine c_someIs hS3 hN (hs.le hD20) hw (by omega) fun _ _ _ => ?_
        refine hend _ M3 f3 hS3 (hz _) fun M5 f5 hS5 => ?_
        have h2 := h M5 f5 hS5
        rw [hone, gc, if_neg Bool.false_ne_true] at h2
        exact h2
    have htop2 := hP2.top
    rw [List.length_append, List.length_map] at htop2
    refine ⟨r, u2, hP2.1, ?_⟩
    rw [htop2]
    rcases hgo : L_go (Dd + 1) pd de (p_sp fe.2.1) with _ | ⟨a, l⟩
    · rw [hgo] at hS2 h75
      rw [show L ++ ([] : List (Option (Int × b_E))).map L_opt = L from List.append_nil L] at hS2
      refine ⟨fun _ => ⟨r, u2, hP2.1, c_push hS2.1 ⟨by decide, by decide⟩ (by omega) fun M3 f3 p3 => fun _ _ => h75 M3 (fk2.tr f3.up0) (hS2.st f3.up0 p3 (hS2.2.2.1.kF hS2.1 f3))⟩, fun g => absurd (by simp) g⟩
    · rw [hgo] at hS2 h75
      exact ⟨fun g => absurd g (by rw [List.length_cons]; omega), fun _ => h75 M2 fk2 hS2⟩
theorem c_hX (hN : N ≤ 1000000000) : ∀ n : Nat, n ≤ 20 → H_A r b o po pf pt c e N F n ∧ H_B r b o po pf pt c e N F n := by
  intro n
  induction n with
  | zero =>
    intro _
    constructor
    · intro M L Q dd lv pe pd fe de D Dd hS hs hk hD
      obtain rfl : D = 0 := by omega
      exact absurd (Or.inl hk) (b_gv0 hs.2.2.1)
    · intro M L Q dd lv pe fe D fr ls hS hs hk hD
      obtain rfl : D = 0 := by omega
      exact absurd (Or.inl hk) (b_gv0 hs.2.2.1)
  | succ n ih =>
    intro hn
    obtain ⟨hHA, hHB⟩ := ih (by omega)
    constructor
    · intro M L Q dd lv pe pd fe de D Dd hS hs hk hD hl hV hds hdk hDd hdl hr h0 h1 hd h
      obtain ⟨D1, es, e1, e2, e3, e4, e5, e6, e7, e8⟩ := hs.ch (Or.inl hk)
      rw [e5] at hV h
      have hpd := hds.R hN
      obtain ⟨d, rfl⟩ : ∃ d', dd = d' + 65 := ⟨dd - 65, by omega⟩
      have hyl := congrArg List.length e2
      rw [b_doc_len] at hyl
      have hlp : ∀ (fs : List b_E) (q : Int) (i : Nat) (M1 : g_M), b_sts F N q D1 fs → (∀ x ∈ fs, x ∈ es) → i + fs.length < 2000 → k_F (p_S po pf pt) r M M1 → F_S r b o po pf pt c e N F M1 L → (∀ M2, k_F (p_S po pf pt) r M M2 → F_S r b o po pf pt c e N F M2 L → Q (if fs.all (fun x => F_one (F_X n) x de) = true then 1 else 0) M2) → g_Run (d + 64) 51 13 [(0, .ref o), (1, g_n pe), (2, g_n pd), (3, g_n lv), (4, g_n q), (5, g_n i)] [] M1 (g_qI Q) := by
        intro fs
        induction fs with
        | nil =>
          intro q i M1 s1 _ hi2 f1 hS1 h
          obtain ⟨hP1, ⟨q1, q2, q3, q4⟩, hpp1, hA1, hF1⟩ := id hS1
          have hq0 := s1.2.2
          rw [List.length_nil] at hi2
          exact s_X2_holds_13 (hs.R hN) hpd ⟨by omega, by omega⟩ ⟨by omega, by omega⟩ ⟨by omega, by omega⟩ fun _ => ⟨fun _ => ⟨q1, b, q3, c_kdE hA1 hN (by rw [hF1]; exact s1) fun _ _ _ => ⟨fun _ => h M1 f1 hS1, fun g => absurd rfl g⟩⟩, fun g => absurd (by omega) g⟩
        | cons x fs ihf =>
          intro q i M1 s1 hm hi2 f1 hS1 h
          obtain ⟨hP1, ⟨q1, q2, q3, q4⟩, hpp1, hA1, hF1⟩ := id hS1
          rw [List.length_cons] at hi2
          obtain ⟨t1, t2⟩ := s1.cons
          have t1' : b_st (g_i M1 b) N q D1 x.1 x.2.1 x.2.2 := by rw [hF1]; exact t1
          have hq0 := s1.2.2
          have hxm := hm x List.mem_cons_self
          have hxl := b_ser_mem hxm
          have hxk := b_vs_pos (b_gv_vs t1.2.2.1)
          have hca : ((x :: fs).all fun x => F_one (F_X n) x de) = (F_one (F_X n) x de && fs.all fun x => F_one (F_X n) x de) := rfl
          rw [hca] at h
          obtain ⟨V1, V2⟩ := hV x hxm
          refine s_X2_holds_13 (hs.R hN) hpd ⟨by omega, by omega⟩ ⟨by omega, by omega⟩ ⟨by omega, by omega⟩ fun _ => ⟨fun _ => ⟨q1, b, q3, c_kd2 hA1 hN t1' fun _ _ _ => ⟨fun g => absurd g (by omega), fun _ => ⟨fun g => absurd g (by omega), fun _ => ⟨⟨by omega, by omega⟩, ?_⟩⟩⟩⟩, fun g => absurd (by omega) g⟩
          refine c_hOne (d := d + 60) hN hHA hHB hS1 t1 (by omega) (by omega) (by omega) V1 V2 hds hdk hDd hdl hr (by omega) (by omega) (by omega) (by omega) fun M2 f2 hS2 => ?_
          intro _ _ _
          obtain ⟨hP2, ⟨q5, q6, q7, q8⟩, hpp2, hA2, hF2⟩ := id hS2
          cases hv : F_one (F_X n) x de
          · refine ⟨fun _ => ?_, fun g => absurd rfl g⟩
            have h2 := h M2 (f1.tr f2) hS2
            rw [hv, Bool.false_and] at h2
            exact h2
          · refine ⟨fun g => absurd g (by decide), fun _ => ⟨b, q7, c_nx2 hA2 hN (by rw [hF2]; exact t1) fun _ _ _ => ⟨⟨by omega, by omega⟩, ?_⟩⟩⟩
            rw [hv, Bool.true_and] at h
            have := ihf (q + (b_el x.1 x.2.1 x.2.2).length) (i + 1) M2 t2 (fun z hz => hm z (List.mem_cons_of_mem _ hz)) (by omega) (f1.tr f2) hS2 h
            rwa [show ((i + 1 : Nat) : Int) = (i : Int) + 1 by omega] at this
      have hS0 := hS
      obtain ⟨hP, ⟨o1, o2, o3, o4⟩, hpp, hA, hF⟩ := hS
      exact m_X2_holds (hs.R hN) hpd ⟨by omega, by omega⟩ fun _ => ⟨o1, b, o3, c_fi2 hA hN (by rw [hF]; exact hs) fun _ _ _ => hlp es _ 0 M e4 (fun _ h => h) (by omega) (k_F.rf _ _ _) hS0 h⟩
    · intro M L Q dd lv pe fe D fr ls hS hs hk hD hl hV hw hb hlr hr h0 h1 hd h
      obtain ⟨D1, es, e1, e2, e3, e4, e5, e6, e7, e8⟩ := hs.ch (Or.inl hk)
      rw [e5] at hV h
      obtain ⟨d, rfl⟩ : ∃ d', dd = d' + 64 := ⟨dd - 64, by omega⟩
      have hyl := congrArg List.length e2
      rw [b_doc_len] at hyl
      have hlp : ∀ (fs : List b_E) (q : Int) (i : Nat) (M1 : g_M), b_sts F N q D1 fs → (∀ x ∈ fs, x ∈ es) → i + fs.length < 2000 → k_F (p_S po pf pt) r M M1 → F_S r b o po pf pt c e N F M1 L → (∀ M2, k_F (p_S po pf pt) r M M2 → F_S r b o po pf pt c e N F M2 L → Q (if fs.all (fun x => F_cdn (F_X n) x (ls.map L_nop)) = true then 1 else 0) M2) → g_Run (d + 63) 54 13 [(0, .ref o), (1, g_n pe), (2, g_n fr), (3, g_n ((fr : Int) + ls.length)), (4, g_n lv), (5, g_n q), (6, g_n i)] [] M1 (g_qI Q) := by
        intro fs
        induction fs with
        | nil =>
          intro q i M1 s1 _ hi2 f1 hS1 h
          obtain ⟨hP1, ⟨q1, q2, q3, q4⟩, hpp1, hA1, hF1⟩ := id hS1
          have hq0 := s1.2.2
          rw [List.length_nil] at hi2
          exact s_X2_conditionsHold_13 (hs.R hN) ⟨by omega, by omega⟩ ⟨by omega, by omega⟩ ⟨by omega, by omega⟩ ⟨by omega, by omega⟩ ⟨by omega, by omega⟩ fun _ => ⟨fun _ => ⟨q1, b, q3, c_kdE hA1 hN (by rw [hF1]; exact s1) fun _ _ _ => ⟨fun _ => h M1 f1 hS1, fun g => absurd rfl g⟩⟩, fun g => absurd (by omega) g⟩
        | cons x fs ihf =>
          intro q i M1 s1 hm hi2 f1 hS1 h
          obtain ⟨hP1, ⟨q1, q2, q3, q4⟩, hpp1, hA1, hF1⟩ := id hS1
          rw [List.length_cons] at hi2
          obtain ⟨t1, t2⟩ := s1.cons
          have t1' : b_st (g_i M1 b) N q D1 x.1 x.2.1 x.2.2 := by rw [hF1]; exact t1
          have hq0 := s1.2.2
          have hxm := hm x List.mem_cons_self
          have hxl := b_ser_mem hxm
          have hxk := b_vs_pos (b_gv_vs t1.2.2.1)
          have hca : ((x :: fs).all fun x => F_cdn (F_X n) x (ls.map L_nop)) = (F_cdn (F_X n) x (ls.map L_nop) && fs.all fun x => F_cdn (F_X n) x (ls.map L_nop)) := rfl
          rw [hca] at h
          obtain ⟨V1, V2, V3, V4, V5⟩ := hV x hxm
          refine s_X2_conditionsHold_13 (hs.R hN) ⟨by omega, by omega⟩ ⟨by omega, by omega⟩ ⟨by omega, by omega⟩ ⟨by omega, by omega⟩ ⟨by omega, by omega⟩ fun _ => ⟨fun _ => ⟨q1, b, q3, c_kd2 hA1 hN t1' fun _ _ _ => ⟨fun g => absurd g (by omega), fun _ => ⟨fun g => absurd g (by omega), fun _ => ⟨⟨by omega, by omega⟩, ?_⟩⟩⟩⟩, fun g => absurd (by omega) g⟩
          refine c_hCond (d := d + 60) hN hHA hHB hS1 t1 (by omega) (by omega) (by omega) V1 V2 V3 V4 V5 hw hb hlr (by omega) (by omega) (by omega) (by omega) fun M2 f2 hS2 => ?_
          intro _ _ _
          obtain ⟨hP2, ⟨q5, q6, q7, q8⟩, hpp2, hA2, hF2⟩ := id hS2
          cases hv : F_cdn (F_X n) x (ls.map L_nop)
          · refine ⟨fun _ => ?_, fun g => absurd rfl g⟩
            have h2 := h M2 (f1.tr f2) hS2
            rw [hv, Bool.false_and] at h2
            exact h2
          · refine ⟨fun g => absurd g (by decide), fun _ => ⟨b, q7, c_nx2 hA2 hN (by rw [hF2]; exact t1) fun _ _ _ => ⟨⟨by omega, by omega⟩, ?_⟩⟩⟩
            rw [hv, Bool.true_and] at h
            have := ihf (q + (b_el x.1 x.2.1 x.2.2).length) (i + 1) M2 t2 (fun z hz => hm z (List.mem_cons_of_mem _ hz)) (by omega) (f1.tr f2) hS2 h
            rwa [show ((i + 1 : Nat) : Int) = (i : Int) + 1 by omega] at this
      have hS0 := hS
      obtain ⟨hP, ⟨o1, o2, o3, o4⟩, hpp, hA, hF⟩ := hS
      exact m_X2_conditionsHold (hs.R hN) ⟨by omega, by omega⟩ ⟨by omega, by omega⟩ ⟨by omega, by omega⟩ fun _ => ⟨o1, b, o3, c_fi2 hA hN (by rw [hF]; exact hs) fun _ _ _ => hlp es _ 0 M e4 (fun _ h => h) (by omega) (k_F.rf _ _ _) hS0 h⟩
end HOLD4
