/-! FILTERS: the reference holds them, all -/
section EHOLD4
variable {m b l : Nat} {F : Int → Int} {n : Nat}
theorem b_st.dce {F : Int → Int} {p : Int} {D : Nat} {x : b_E} (h : b_st F 2706210 p D x.1 x.2.1 x.2.2) (hk : x.1 = 3) : ∃ D', D = D' + 1 ∧ E_dc F (p + 2 + x.2.1.length) D' x := by
  obtain ⟨D', _, e9, -⟩ := h.ch (Or.inl hk)
  subst e9
  refine ⟨D', rfl, ?_⟩
  rw [hk] at h
  have := h.dc
  rw [← hk] at this
  exact this
theorem e_hOne (hHA : G_A m b l F n) (hB : G_B m b l F n) {M : g_M} {L : List Int} {Q : Int → g_M → Prop} {d : Nat} {pe cd : Int} {fe de : b_E} {D Dd : Nat} (hS : E_S m b l F M L) (hs : b_st F 2706210 pe D fe.1 fe.2.1 fe.2.2) (hpq : pe + 2 + fe.2.1.length + fe.2.2.length ≤ 80000) (hD : D ≤ n) (hD20 : D ≤ 20) (hl : fe.2.1.length + fe.2.2.length ≤ 3000) (hVa : F_dl fe.2.1 = true → F_jo fe.2.1 = true ∧ fe.1 = 4 ∧ ∀ x ∈ b_ch fe.2.2, x.1 = 3 ∧ (F_V n).1 (b_ch x.2.2)) (hVb : F_dl fe.2.1 = false → p_plain fe.2.1 ∧ (F_cs fe = true → (F_V n).2 (b_ch fe.2.2))) (hds : E_dc F cd Dd de) (hDd : Dd ≤ 17) (hdl : de.2.2.length ≤ 19000) (hr : L.length + 2 + L_W L_c1 (L_C (Dd + 1)) de ≤ 32000) (hn20 : n ≤ 30) (hd : 8 * n + 60 ≤ d) (h : ∀ M1, e_fr (E_lf m l) M M1 → E_S m b l F M1 L → Q (if F_one (F_X n) fe de = true then 1 else 0) M1) : g_Call (d + 4) 294 [.ref m, g_n pe, g_n cd] M (g_qI Q) := by
  have hS0 := hS
  obtain ⟨hR, L1, L2, L3, L4, hF, L5⟩ := hS
  have hs' : b_st (g_i M b) 2706210 pe D fe.1 fe.2.1 fe.2.2 := by rw [hF]; exact hs
  have hpe := hs.R (by decide)
  have hcd0 := hds.2.2.st
  obtain ⟨v1, v2, v3, v4⟩ := hs.val
  obtain ⟨d, rfl⟩ : ∃ d', d = d' + 60 := ⟨d - 60, by omega⟩
  refine m_X12_holdsOne hpe ⟨by omega, by omega⟩ fun _ => ⟨hR.1, e_begins hR hs' (fun g => fun _ _ _ => ⟨fun g => absurd g (by decide), fun _ => ?_⟩) fun g => fun _ _ _ => ⟨fun _ => ?_, fun g => absurd rfl g⟩⟩
  · -- a joining
    obtain ⟨j1, j2, j3⟩ := hVa g
    obtain ⟨D1, es, e1, e2, e3, e4, e5, e6, e7, e8⟩ := hs.tl (Or.inr j2)
    rw [e5] at j3
    have hyl := congrArg List.length e2
    rw [b_doc_len] at hyl
    have hone : F_one (F_X n) fe de = (if fe.2.1 = b_tx 14 then es.all (fun x => (F_X n).1 (b_ch x.2.2) de) else if fe.2.1 = b_tx 15 then es.any (fun x => (F_X n).1 (b_ch x.2.2) de) else !es.any (fun x => (F_X n).1 (b_ch x.2.2) de)) := by
      unfold F_one
      rw [if_pos g, e5]
    rw [hone] at h
    have hlp : ∀ (fs : List b_E) (q : Int) (A O : Bool) (M1 : g_M), e_tl F (pe + 2 + fe.2.1.length) q D1 es fs → (∀ x ∈ fs, x ∈ es) → e_fr (E_lf m l) M M1 → E_S m b l F M1 L → (∀ M2, e_fr (E_lf m l) M M2 → E_S m b l F M2 L → Q (if (if fe.2.1 = b_tx 14 then (A && fs.all (fun x => (F_X n).1 (b_ch x.2.2) de)) else if fe.2.1 = b_tx 15 then (O || fs.any (fun x => (F_X n).1 (b_ch x.2.2) de)) else !(O || fs.any (fun x => (F_X n).1 (b_ch x.2.2) de))) = true then 1 else 0) M2) → g_Run (d + 63) 294 25 [(0, .ref m), (1, g_n pe), (2, g_n cd), (3, g_n (if A = true then 1 else 0)), (4, g_n (if O = true then 1 else 0)), (5, g_n q)] [] M1 (g_qI Q) := by
      intro fs
      induction fs with
      | nil =>
        intro q A O M1 s1 _ f1 hS1 h
        obtain ⟨hR1, N1, N2, N3, N4, hF1, N5⟩ := id hS1
        have hs1 : b_st (g_i M1 b) 2706210 pe D fe.1 fe.2.1 fe.2.2 := by rw [hF1]; exact hs
        have hq := s1.st
        have h2 := h M1 f1 hS1
        refine s_X12_holdsOne_25 hpe ⟨by omega, by omega⟩ (u_bR A) (u_bR O) ⟨by omega, by omega⟩ fun _ => ⟨hR1.1, e_vl2 hR1 hs1 fun _ _ _ => e_lastE hR1 (by rw [hF1]; exact s1) fun _ _ _ => ⟨fun g => absurd g (by omega), fun _ => e_nm3 (j2 := 14) (by decide) (by decide +kernel) hR1 hs1 (fun n1 => ?_) (fun n1 => ?_)⟩⟩
        · rw [if_pos n1] at h2
          have h2 : Q (if (A && true) = true then 1 else 0) M1 := h2
          rw [Bool.and_true] at h2
          exact fun _ _ _ => ⟨fun g => absurd g (by decide), fun _ => ⟨u_b01 A, h2⟩⟩
        · rw [if_neg n1] at h2
          refine fun _ _ _ => ⟨fun _ => e_nm3 (j2 := 15) (by decide) (by decide +kernel) hR1 hs1 (fun n2 => ?_) (fun n2 => ?_), fun g => absurd rfl g⟩
          · rw [if_pos n2] at h2
            have h2 : Q (if (O || false) = true then 1 else 0) M1 := h2
            rw [Bool.or_false] at h2
            cases O
            · exact fun _ _ _ => ⟨fun g => absurd g (by decide), fun _ => h2⟩
            · exact fun _ _ _ => ⟨fun _ => h2, fun g => absurd rfl g⟩
          · rw [if_neg n2] at h2
            have h2 : Q (if (!(O || false)) = true then 1 else 0) M1 := h2
            rw [Bool.or_false] at h2
            cases O
            · exact fun _ _ _ => ⟨fun _ => h2, fun g => absurd rfl g⟩
            · exact fun _ _ _ => ⟨fun g => absurd g (by decide), fun _ => h2⟩
      | cons x fs ihf =>
        intro q A O M1 s1 hm f1 hS1 h
        obtain ⟨hR1, N1, N2, N3, N4, hF1, N5⟩ := id hS1
        have hs1 : b_st (g_i M1 b) 2706210 pe D fe.1 fe.2.1 fe.2.2 := by rw [hF1]; exact hs
        have hq := s1.st
        obtain ⟨t1, t2⟩ := s1.cons
        have t1' : b_st (g_i M1 b) 2706210 q D1 x.1 x.2.1 x.2.2 := by rw [hF1]; exact t1
        have hxm := hm x List.mem_cons_self
        have hxl := b_ser_mem hxm
        obtain ⟨x1, x2⟩ := j3 x hxm
        obtain ⟨D2, rfl, xdc⟩ := t1.dce x1
        have hs5 := s1.2.2.2.2
        rw [b_ser_len, b_el_len] at hs5
        refine s_X12_holdsOne_25 hpe ⟨by omega, by omega⟩ (u_bR A) (u_bR O) ⟨by omega, by omega⟩ fun _ => ⟨hR1.1, e_vl2 hR1 hs1 fun _ _ _ => e_lastC hR1 (by rw [hF1]; exact s1) fun r hr1 hr2 => fun _ _ _ => ⟨fun _ => e_vl2 hR1 t1' fun _ _ _ => ?_, fun g => absurd (by omega) g⟩⟩
        refine hHA M1 L _ (d + 63) _ cd x de D2 Dd hS1 xdc (by omega) (by omega) (by omega) x2 hds hDd hdl hr (by omega) fun M2 f2 hS2 => ?_
        intro _ _ _
        obtain ⟨hR2, -, -, -, -, hF2, -⟩ := id hS2
        refine e_bh2 hR2 (by rw [hF2]; exact t1) fun _ _ _ => ?_
        rw [g_andb, g_orb]
        refine ihf _ _ _ M2 t2 (fun z hz => hm z (List.mem_cons_of_mem _ hz)) (f1.tr f2) hS2 fun M3 f3 hS3 => ?_
        have h3 := h M3 f3 hS3
        rw [List.all_cons, List.any_cons, ← Bool.and_assoc, ← Bool.or_assoc] at h3
        exact h3
    have h9 := hlp es _ true false M e4 (fun _ h => h) (e_fr.rf _ _) hS0 (fun M2 f2 hS2 => by
      have := h M2 f2 hS2
      rw [Bool.true_and, Bool.false_or]
      exact this)
    rw [show pe + 6 + (fe.2.1.length : Int) = pe + 2 + fe.2.1.length + 4 by omega] at h9
    exact e_vl2 hR hs' fun _ _ _ => e_first e4.st.2.2.1 e4.st.2.2.2 fun _ _ _ => h9
  · -- a path
    obtain ⟨j1, j2⟩ := hVb g
    obtain ⟨j3, j4⟩ := id j1
    have hsp1 := p_sp_pos fe.2.1
    obtain ⟨hA1, hA2, hlv0, hA3⟩ := L_doc_room (st := p_sp fe.2.1) hDd hds hsp1 j3.2.1
    have hat := (b_el_at hs.1).2.1
    refine ⟨⟨by omega, by omega⟩, e_nm2 hR hs' fun _ _ _ => ?_⟩
    refine e_goDocS hS0 hds hDd hat (by omega) (by omega) hdl (by omega) (by omega) fun M2 f2 hS2 => ?_
    intro _ _
    obtain ⟨hR2, N1, N2, N3, N4, hF2, N5⟩ := id hS2
    rw [L3]
    have h140 : ∀ M3, e_fr (E_lf m l) M M3 → E_S m b l F M3 (L ++ (L_pad (L_doc Dd (L_at (cd + 4) (b_ch de.2.2)) (p_sp fe.2.1))).map L_opt) → g_Run (d + 63) 294 140 [(0, .ref m), (1, g_n pe), (2, g_n cd), (3, g_n (L.length : Int))] [] M3 (g_qI Q) := by
      intro M3 f3 hS3
      obtain ⟨hR3, W1, W2, W3, W4, hF3, W5⟩ := id hS3
      have hs3 : b_st (g_i M3 b) 2706210 pe D fe.1 fe.2.1 fe.2.2 := by rw [hF3]; exact hs
      rw [List.length_append, List.length_map] at W3
      have hpl : (L_pad (L_doc Dd (L_at (cd + 4) (b_ch de.2.2)) (p_sp fe.2.1))).length ≤ (L_doc Dd (L_at (cd + 4) (b_ch de.2.2)) (p_sp fe.2.1)).length + 1 := by
        rcases L_doc Dd (L_at (cd + 4) (b_ch de.2.2)) (p_sp fe.2.1) with _ | ⟨a, l⟩
        · exact Nat.le_refl _
        · exact Nat.le_succ _
      have hpm : ∀ y, some y ∈ L_pad (L_doc Dd (L_at (cd + 4) (b_ch de.2.2)) (p_sp fe.2.1)) → some y ∈ L_doc Dd (L_at (cd + 4) (b_ch de.2.2)) (p_sp fe.2.1) := by
        intro y hy
        rcases hgo : L_doc Dd (L_at (cd + 4) (b_ch de.2.2)) (p_sp fe.2.1) with _ | ⟨a, l⟩
        · rw [hgo] at hy
          exact absurd (List.mem_singleton.mp hy) (by simp)
        · rw [hgo] at hy
          exact hy
      have hw : F_w F 2706210 (L ++ (L_pad (L_doc Dd (L_at (cd + 4) (b_ch de.2.2)) (p_sp fe.2.1))).map L_opt) L.length (L_pad (L_doc Dd (L_at (cd + 4) (b_ch de.2.2)) (p_sp fe.2.1))) := by
        refine ⟨fun i z hz => ?_, fun y hy => ?_⟩
        · rw [List.getElem?_append_right (Nat.le_add_right _ _), Nat.add_sub_cancel_left, List.getElem?_map, hz]
          rfl
        · obtain ⟨D1, y0, y1, y2, -⟩ := hA3 y (hpm y hy)
          exact ⟨y1.le (by omega), by omega⟩
      have hlv : F_lv de fe.2.1 = (L_pad (L_doc Dd (L_at (cd + 4) (b_ch de.2.2)) (p_sp fe.2.1))).map L_nop := by
        rw [L_pad_nop, hlv0, L_v_up (D2 := 20) (by rw [hds.1]; exact hds.2.1) (by omega)]
        unfold F_lv
        generalize L_v 20 de (p_sp fe.2.1) = x
        cases x <;> rfl
      have hone : F_one (F_X n) fe de = (if F_cs fe = true then (F_X n).2 (b_ch fe.2.2) ((L_pad (L_doc Dd (L_at (cd + 4) (b_ch de.2.2)) (p_sp fe.2.1))).map L_nop) else F_eqs fe ((L_pad (L_doc Dd (L_at (cd + 4) (b_ch de.2.2)) (p_sp fe.2.1))).map L_nop)) := by
        unfold F_one
        rw [g, if_neg Bool.false_ne_true, hlv]
      have hlen : (L ++ (L_pad (L_doc Dd (L_at (cd + 4) (b_ch de.2.2)) (p_sp fe.2.1))).map L_opt).length = L.length + (L_pad (L_doc Dd (L_at (cd + 4) (b_ch de.2.2)) (p_sp fe.2.1))).length := by rw [List.length_append, List.length_map]
      refine s_X12_holdsOne_140 hpe ⟨by omega, by omega⟩ ⟨by omega, by omega⟩ fun _ => ⟨hR3.1, e_areConds hR3 hs3 (fun gc => fun _ _ _ => ?_) (fun gc => fun _ _ _ => ?_)⟩
      · have gc : F_cs fe = true := gc
        obtain ⟨D', rfl, hdc⟩ := hs.dce (F_cs_k gc)
        refine ⟨fun g => absurd g (by decide), fun _ => e_vl2 hR3 hs3 fun _ _ _ => ?_⟩
        rw [W3]
        refine hB M3 _ _ (d + 63) _ fe D' L.length _ hS3 hdc (by omega) (by omega) (by omega) (j2 gc) hw (by omega) (fun y hy => ?_) (fun y hy hy4 => ?_) (by omega) (by omega) fun M4 f4 hS4 => ?_
        · obtain ⟨D1, g1, g2, g3, -⟩ := hA3 y (hpm y hy)
          omega
        · obtain ⟨D1, g1, g2, g3, g4, g5⟩ := hA3 y (hpm y hy)
          refine ⟨D1, by omega, g2, ?_⟩
          rw [hlen]
          rcases hgo : L_doc Dd (L_at (cd + 4) (b_ch de.2.2)) (p_sp fe.2.1) with _ | ⟨a, l⟩
          · have := hpm y hy
            rw [hgo] at this
            exact absurd this (by simp)
          · rw [hgo] at g4
            show L.length + (a :: l).length + 3 + _ ≤ 32000
            omega
        · intro _ _ _ M26 e26 _
          refine ⟨u_b01 _, ?_⟩
          subst e26
          have h2 := h _ (f3.tr (f4.tr hS4.cut.2)) hS4.cut.1
          rw [hone, if_pos gc] at h2
          exact h2
      · refine ⟨fun _ => ?_, fun g => absurd rfl g⟩
        rw [W3]
        have gc : F_cs fe = false := gc
        refine e_equals hS3 (hs.le hD20) hw (by omega) fun _ _ _ => ?_
        intro M12 e12 _
        refine ⟨u_b01 _, ?_⟩
        subst e12
        have h2 := h _ (f3.tr hS3.cut.2) hS3.cut.1
        rw [hone, gc, if_neg Bool.false_ne_true] at h2
        exact h2
    rw [N3, List.length_append, List.length_map]
    rcases hgo : L_doc Dd (L_at (cd + 4) (b_ch de.2.2)) (p_sp fe.2.1) with _ | ⟨a, l⟩
    · rw [hgo] at hS2 h140
      rw [show L ++ ([] : List (Option (Int × b_E))).map L_opt = L from List.append_nil L] at hS2
      exact ⟨fun _ => e_addLeafS hS2 ⟨by decide, by decide⟩ (by omega) fun M3 f3 hS3 => fun _ _ => h140 M3 (f2.tr f3) hS3, fun g => absurd (by simp) g⟩
    · rw [hgo] at hS2 h140
      exact ⟨fun g => absurd g (by rw [List.length_cons]; omega), fun _ => h140 M2 f2 hS2⟩
theorem e_hX : ∀ n : Nat, n ≤ 20 → G_A m b l F n ∧ G_B m b l F n := by
  intro n
  induction n with
  | zero =>
    intro _
    constructor
    · intro M L Q dd cf cd fe de D Dd hS hs hD
      omega
    · intro M L Q dd cf fe D fr ls hS hs hD
      omega
  | succ n ih =>
    intro hn
    obtain ⟨hHA, hHB⟩ := ih (by omega)
    constructor
    · intro M L Q dd cf cd fe de D Dd hS hs hD hl hpq hV hds hDd hdl hr hd h
      obtain ⟨hk, hg, ht⟩ := id hs
      obtain ⟨D1, es, e1, e2, e3, e4, e5, e6, e7⟩ := b_gv_doc hg (Or.inl rfl)
      obtain rfl : D = D1 := by omega
      have hyl := congrArg List.length e2
      rw [b_doc_len] at hyl
      rw [e7] at hV h ht
      have hcd0 := hds.2.2.st
      have hc0 := ht.st
      obtain ⟨d, rfl⟩ : ∃ d', dd = d' + 65 := ⟨dd - 65, by omega⟩
      have hlp : ∀ (fs : List b_E) (q : Int) (M1 : g_M), e_tl F cf q D es fs → (∀ x ∈ fs, x ∈ es) → e_fr (E_lf m l) M M1 → E_S m b l F M1 L → (∀ M2, e_fr (E_lf m l) M M2 → E_S m b l F M2 L → Q (if fs.all (fun x => F_one (F_X n) x de) = true then 1 else 0) M2) → g_Run (d + 64) 293 5 [(0, .ref m), (1, g_n cf), (2, g_n cd), (3, g_n q)] [] M1 (g_qI Q) := by
        intro fs
        induction fs with
        | nil =>
          intro q M1 s1 _ f1 hS1 h
          obtain ⟨hR1, N1, N2, N3, N4, hF1, N5⟩ := id hS1
          have hq := s1.st
          exact s_X12_holds_5 ⟨by omega, by omega⟩ ⟨by omega, by omega⟩ ⟨by omega, by omega⟩ fun _ => ⟨hR1.1, e_lastE hR1 (by rw [hF1]; exact s1) fun _ _ _ => ⟨fun g => absurd g (by omega), fun _ => h M1 f1 hS1⟩⟩
        | cons x fs ihf =>
          intro q M1 s1 hm f1 hS1 h
          obtain ⟨hR1, N1, N2, N3, N4, hF1, N5⟩ := id hS1
          have hq := s1.st
          obtain ⟨t1, t2⟩ := s1.cons
          have hxm := hm x List.mem_cons_self
          have hxl := b_ser_mem hxm
          have hs5 := s1.2.2.2.2
          rw [b_ser_len, b_el_len] at hs5
          obtain ⟨V1, V2⟩ := hV x hxm
          have hca : ((x :: fs).all fun x => F_one (F_X n) x de) = (F_one (F_X n) x de && fs.all fun x => F_one (F_X n) x de) := rfl
          rw [hca] at h
          refine s_X12_holds_5 ⟨by omega, by omega⟩ ⟨by omega, by omega⟩ ⟨by omega, by omega⟩ fun _ => ⟨hR1.1, e_lastC hR1 (by rw [hF1]; exact s1) fun r hr1 hr2 => fun _ _ _ => ⟨fun _ => ?_, fun g => absurd (by omega) g⟩⟩
          refine e_hOne (d := d + 60) hHA hHB hS1 t1 (by omega) (by omega) (by omega) (by omega) V1 V2 hds hDd hdl hr (by omega) (by omega) fun M2 f2 hS2 => ?_
          intro _ _ _
          obtain ⟨hR2, -, -, -, -, hF2, -⟩ := id hS2
          cases hv : F_one (F_X n) x de
          · refine ⟨fun _ => ?_, fun g => absurd rfl g⟩
            have h2 := h M2 (f1.tr f2) hS2
            rw [hv, Bool.false_and] at h2
            exact h2
          · rw [hv, Bool.true_and] at h
            exact ⟨fun g => absurd g (by decide), fun _ => e_bh2 hR2 (by rw [hF2]; exact t1) fun _ _ _ => ihf _ M2 t2 (fun z hz => hm z (List.mem_cons_of_mem _ hz)) (f1.tr f2) hS2 h⟩
      exact m_X12_holds ⟨by omega, by omega⟩ ⟨by omega, by omega⟩ fun _ => e_first hc0.2.2.1 hc0.2.2.2 fun _ _ _ => hlp es _ M ht (fun _ h => h) (e_fr.rf _ _) hS h
    · intro M L Q dd cf fe D fr ls hS hs hD hl hpq hV hw hb hw2 hlr hr hd h
      obtain ⟨hk, hg, ht⟩ := id hs
      obtain ⟨D1, es, e1, e2, e3, e4, e5, e6, e7⟩ := b_gv_doc hg (Or.inl rfl)
      obtain rfl : D = D1 := by omega
      have hyl := congrArg List.length e2
      rw [b_doc_len] at hyl
      rw [e7] at hV h ht
      have hc0 := ht.st
      obtain ⟨d, rfl⟩ : ∃ d', dd = d' + 64 := ⟨dd - 64, by omega⟩
      have hlp : ∀ (fs : List b_E) (q : Int) (M1 : g_M), e_tl F cf q D es fs → (∀ x ∈ fs, x ∈ es) → e_fr (E_lf m l) M M1 → E_S m b l F M1 L → (∀ M2, e_fr (E_lf m l) M M2 → E_S m b l F M2 L → Q (if fs.all (fun x => F_cdn (F_X n) x (ls.map L_nop)) = true then 1 else 0) M2) → g_Run (d + 63) 295 6 [(0, .ref m), (1, g_n cf), (2, g_n fr), (3, g_n ((fr : Int) + ls.length)), (4, g_n q)] [] M1 (g_qI Q) := by
        intro fs
        induction fs with
        | nil =>
          intro q M1 s1 _ f1 hS1 h
          obtain ⟨hR1, N1, N2, N3, N4, hF1, N5⟩ := id hS1
          have hq := s1.st
          exact s_X12_hold_6 ⟨by omega, by omega⟩ ⟨by omega, by omega⟩ ⟨by omega, by omega⟩ ⟨by omega, by omega⟩ fun _ => ⟨hR1.1, e_lastE hR1 (by rw [hF1]; exact s1) fun _ _ _ => ⟨fun g => absurd g (by omega), fun _ => h M1 f1 hS1⟩⟩
        | cons x fs ihf =>
          intro q M1 s1 hm f1 hS1 h
          obtain ⟨hR1, N1, N2, N3, N4, hF1, N5⟩ := id hS1
          have hq := s1.st
          obtain ⟨t1, t2⟩ := s1.cons
          have hxm := hm x List.mem_cons_self
          have hxl := b_ser_mem hxm
          have hs5 := s1.2.2.2.2
          rw [b_ser_len, b_el_len] at hs5
          obtain ⟨V1, V2, V3, V4, V5⟩ := hV x hxm
          have hca : ((x :: fs).all fun x => F_cdn (F_X n) x (ls.map L_nop)) = (F_cdn (F_X n) x (ls.map L_nop) && fs.all fun x => F_cdn (F_X n) x (ls.map L_nop)) := rfl
          rw [hca] at h
          refine s_X12_hold_6 ⟨by omega, by omega⟩ ⟨by omega, by omega⟩ ⟨by omega, by omega⟩ ⟨by omega, by omega⟩ fun _ => ⟨hR1.1, e_lastC hR1 (by rw [hF1]; exact s1) fun r hr1 hr2 => fun _ _ _ => ⟨fun _ => ?_, fun g => absurd (by omega) g⟩⟩
          refine e_hCond (d := d + 61) hHA hHB hS1 t1 (by omega) (by omega) (by omega) (by omega) V1 V2 V3 V4 V5 hw hb hw2 hlr (by omega) (by omega) fun M2 f2 hS2 => ?_
          intro _ _ _
          obtain ⟨hR2, -, -, -, -, hF2, -⟩ := id hS2
          cases hv : F_cdn (F_X n) x (ls.map L_nop)
          · refine ⟨fun _ => ?_, fun g => absurd rfl g⟩
            have h2 := h M2 (f1.tr f2) hS2
            rw [hv, Bool.false_and] at h2
            exact h2
          · rw [hv, Bool.true_and] at h
            exact ⟨fun g => absurd g (by decide), fun _ => e_bh2 hR2 (by rw [hF2]; exact t1) fun _ _ _ => ihf _ M2 t2 (fun z hz => hm z (List.mem_cons_of_mem _ hz)) (f1.tr f2) hS2 h⟩
      exact m_X12_hold ⟨by omega, by omega⟩ ⟨by omega, by omega⟩ ⟨by omega, by omega⟩ fun _ => e_first hc0.2.2.1 hc0.2.2.2 fun _ _ _ => hlp es _ M ht (fun _ h => h) (e_fr.rf _ _) hS h
end EHOLD4
