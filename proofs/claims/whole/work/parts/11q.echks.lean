/-! FILTERS: their faults in the reference, all -/
section ECHK2
variable {m b : Nat} {F : Int → Int} {k : Nat}
theorem b_st.lch {p : Int} {D : Nat} {x : b_E} (_h : b_st F 2706210 p D x.1 x.2.1 x.2.2) : L_ch p x = L_at (p + 2 + x.2.1.length + 4) (b_ch x.2.2) := by
  unfold L_ch
  rw [show p + 2 + (x.2.1.length : Int) + 4 = p + 6 + x.2.1.length by omega]
theorem e_jJoin (hA : J_A m b F k) {d : Nat} {M : g_M} {Q : Int → g_M → Prop} {pe n : Int} {fe : b_E} {D : Nat} (hC : E_C m b F M n) (h0 : 0 ≤ n) (h1 : n ≤ 100) (hs : b_st F 2706210 pe D fe.1 fe.2.1 fe.2.2) (hD : D ≤ k) (hl : fe.2.2.length ≤ 3000) (hd : 8 * k + 20 ≤ d) (gd : F_dl fe.2.1 = true) (h : J_post m b F M Q (K_one (K_F k) (pe, fe) n)) : g_Call (d + 1) 289 [.ref m, g_n pe] M (g_qI Q) := by
  have hC0 := hC
  obtain ⟨hR, g6, g7⟩ := hC
  have hs' : b_st (g_i M b) 2706210 pe D fe.1 fe.2.1 fe.2.2 := by rw [g6]; exact hs
  have hpe := hs.R (by decide)
  obtain ⟨d, rfl⟩ : ∃ d', d = d' + 20 := ⟨d - 20, by omega⟩
  unfold K_one at h
  simp only at h
  rw [if_pos gd] at h
  refine m_X12_checkJoining hpe fun _ => ⟨hR.1, e_isJoin hR hs' (fun gj => fun _ _ _ => ⟨fun g => absurd g (by decide), fun _ => e_kd hR hs' (P := fun z => (z = 4 → _) ∧ (¬ z = 4 → _)) ⟨fun hk4 => ?_, fun hk4 => ?_⟩⟩) fun gj => fun _ _ _ => ⟨fun _ => ?_, fun g => absurd rfl g⟩⟩
  · rw [if_pos gj, if_pos hk4] at h
    obtain ⟨D1, es, e1, e2, e3, e4, e5, e6, e7, e8⟩ := hs.tl (Or.inr hk4)
    have e4' := e4
    rw [show pe + 6 + (fe.2.1.length : Int) = pe + 2 + fe.2.1.length + 4 by omega] at e4'
    have hyl := congrArg List.length e2
    rw [b_doc_len] at hyl
    rw [hs.lch, e5] at h
    refine e_vl2 hR hs' fun _ _ _ => e_countE hR (by rw [g6]; exact e4') fun _ _ _ => ?_
    rcases es with _ | ⟨x0, es0⟩
    · rw [if_pos rfl] at h
      exact ⟨fun _ => e_failsF hC0 ⟨by decide, by decide⟩ (by decide) hpe fun M1 f1 hC1 hf hg => fun _ _ _ => ⟨u_i01 _, h M1 f1 hC1 hf hg⟩, fun g => absurd rfl g⟩
    · rw [if_neg (by simp)] at h
      generalize hes : x0 :: es0 = es at *
      have hlen : ¬ (es.length : Int) = 0 := by
        rw [← hes, List.length_cons]
        omega
      refine ⟨fun g => absurd g hlen, fun _ => ?_⟩
      have hlp : ∀ (fs : List b_E) (q : Int) (M1 : g_M) (n1 : Int), e_tl F (pe + 2 + fe.2.1.length) q D1 es fs → (∀ x ∈ fs, x ∈ es) → E_C m b F M1 n1 → 0 ≤ n1 → n1 ≤ 100 → J_post m b F M1 Q (K_seq (K_item (K_F k).1) (L_at q fs) n1) → g_Run (d + 20) 289 64 [(0, .ref m), (1, g_n pe), (2, g_n q)] [] M1 (g_qI Q) := by
        intro fs
        induction fs with
        | nil =>
          intro q M1 n1 s1 _ hC1 hn0 hn1 h
          obtain ⟨hR1, q6, q7⟩ := id hC1
          have hs1 : b_st (g_i M1 b) 2706210 pe D fe.1 fe.2.1 fe.2.2 := by rw [q6]; exact hs
          have hq := s1.st
          have h2 := h M1 (e_fr.rf _ _) hC1 (fun g => absurd rfl g) (fun _ => ⟨hn0, hn1⟩)
          exact s_X12_checkJoining_64 hpe ⟨by omega, by omega⟩ fun _ => ⟨hR1.1, e_vl2 hR1 hs1 fun _ _ _ => e_lastE hR1 (by rw [q6]; exact s1) fun _ _ _ => ⟨fun g => absurd g (by omega), fun _ => h2⟩⟩
        | cons x fs ihf =>
          intro q M1 n1 s1 hm hC1 hn0 hn1 h
          obtain ⟨hR1, q6, q7⟩ := id hC1
          have hs1 : b_st (g_i M1 b) 2706210 pe D fe.1 fe.2.1 fe.2.2 := by rw [q6]; exact hs
          have hq := s1.st
          obtain ⟨t1, t2⟩ := s1.cons
          have t1' : b_st (g_i M1 b) 2706210 q D1 x.1 x.2.1 x.2.2 := by rw [q6]; exact t1
          have hxl := b_ser_mem (hm x List.mem_cons_self)
          have hsq : K_seq (K_item (K_F k).1) (L_at q (x :: fs)) n1 = if (K_item (K_F k).1 (q, x) n1).1 = 0 then K_seq (K_item (K_F k).1) (L_at (q + (b_el x.1 x.2.1 x.2.2).length) fs) (K_item (K_F k).1 (q, x) n1).2.2 else K_item (K_F k).1 (q, x) n1 := rfl
          rw [hsq] at h
          refine s_X12_checkJoining_64 hpe ⟨by omega, by omega⟩ fun _ => ⟨hR1.1, e_vl2 hR1 hs1 fun _ _ _ => e_lastC hR1 (by rw [q6]; exact s1) fun r hr1 hr2 => fun _ _ _ => ⟨fun _ => e_kd hR1 t1' (P := fun z => (z = 3 → _) ∧ (¬ z = 3 → _)) ⟨fun g3 => ?_, fun g3 => ?_⟩, fun g => absurd (by omega) g⟩⟩
          · have hit : K_item (K_F k).1 (q, x) n1 = (K_F k).1 (L_ch q x) n1 := if_pos g3
            obtain ⟨D2, eD2, xdc⟩ := t1.dce g3
            rw [hit, t1.lch] at h
            refine e_vl2 hR1 t1' fun _ _ _ => ?_
            refine hA M1 _ (d + 20) _ n1 x D2 hC1 hn0 hn1 xdc (by omega) (by omega) (by omega) fun M2 f2 hC2 hf hg => ?_
            intro _ _ _
            by_cases hz : ((K_F k).1 (L_at (q + 2 + x.2.1.length + 4) (b_ch x.2.2)) n1).1 = 0
            · rw [if_pos hz] at h ⊢
              obtain ⟨r1, r6, r7⟩ := id hC2
              obtain ⟨c0, c1⟩ := hg hz
              exact ⟨fun g => absurd g (by decide), fun _ => e_bh2 r1 (by rw [r6]; exact t1) fun _ _ _ => ihf _ M2 _ t2 (fun z hz => hm z (List.mem_cons_of_mem _ hz)) hC2 c0 c1 (h.tr f2)⟩
            · rw [if_neg hz] at h ⊢
              have h2 := h M2 f2 hC2 hf (fun g => absurd g hz)
              rw [if_neg hz] at h2
              exact ⟨fun _ => h2, fun g => absurd rfl g⟩
          · have hit : K_item (K_F k).1 (q, x) n1 = (2, q, n1) := if_neg g3
            rw [hit, if_neg (by simp)] at h
            exact e_failsF hC1 ⟨by decide, by decide⟩ (by decide) ⟨by omega, by omega⟩ fun M2 f2 hC2 hf hg => fun _ _ _ => ⟨u_i01 _, h M2 f2 hC2 hf hg⟩
      refine e_counts hC0 (by decide) (by decide) h0 h1 hpe fun M1 f1 hC1 hf hg => ?_
      intro _ _ _
      unfold K_more at h hf hg hC1 ⊢
      by_cases hov : 100 < n + 1
      · rw [if_pos hov] at h hf hg hC1 ⊢
        exact ⟨fun _ => h M1 f1 hC1 hf hg, fun g => absurd rfl g⟩
      · rw [if_neg hov] at h hf hg hC1 ⊢
        obtain ⟨hR1, q6, q7⟩ := id hC1
        refine ⟨fun g => absurd g (by simp), fun _ => e_vl2 hR1 (by rw [q6]; exact hs) fun _ _ _ => e_first e4.st.2.2.1 e4.st.2.2.2 fun _ _ _ => hlp es _ M1 (n + 1) e4' (fun _ h => h) hC1 (by omega) (by omega) (h.tr f1)⟩
  · rw [if_pos gj, if_neg hk4] at h
    exact e_failsF hC0 ⟨by decide, by decide⟩ (by decide) hpe fun M1 f1 hC1 hf hg => fun _ _ _ => ⟨u_i01 _, h M1 f1 hC1 hf hg⟩
  · rw [if_neg (by rw [gj]; decide)] at h
    exact e_failsF hC0 ⟨by decide, by decide⟩ (by decide) hpe fun M1 f1 hC1 hf hg => fun _ _ _ => ⟨u_i01 _, h M1 f1 hC1 hf hg⟩
theorem e_jX : ∀ k : Nat, k ≤ 25 → J_A m b F k ∧ J_B m b F k := by
  intro k
  induction k with
  | zero =>
    intro _
    constructor
    · intro M Q dd cf n fe D hC h0 h1 hs hD
      omega
    · intro M Q dd cf n fe D hC h0 h1 hs hD
      omega
  | succ k ih =>
    intro hk25
    obtain ⟨hA, hB⟩ := ih (by omega)
    constructor
    · intro M Q dd cf n fe D hC h0 h1 hs hD hl hd h
      obtain ⟨hk, hg0, ht⟩ := id hs
      obtain ⟨D1, es, e1, e2, e3, e4, e5, e6, e7⟩ := b_gv_doc hg0 (Or.inl rfl)
      obtain rfl : D = D1 := by omega
      have hyl := congrArg List.length e2
      rw [b_doc_len] at hyl
      rw [e7] at h ht
      have hc0 := ht.st
      obtain ⟨d, rfl⟩ : ∃ d', dd = d' + 25 := ⟨dd - 25, by omega⟩
      have hlp : ∀ (fs : List b_E) (q : Int) (M1 : g_M) (n1 : Int), e_tl F cf q D es fs → (∀ x ∈ fs, x ∈ es) → E_C m b F M1 n1 → 0 ≤ n1 → n1 ≤ 100 → J_post m b F M1 Q (K_seq (K_one (K_F k)) (L_at q fs) n1) → g_Run (d + 24) 288 5 [(0, .ref m), (1, g_n cf), (2, g_n q)] [] M1 (g_qI Q) := by
        intro fs
        induction fs with
        | nil =>
          intro q M1 n1 s1 _ hC1 hn0 hn1 h
          obtain ⟨hR1, q6, q7⟩ := id hC1
          have hq := s1.st
          have h2 := h M1 (e_fr.rf _ _) hC1 (fun g => absurd rfl g) (fun _ => ⟨hn0, hn1⟩)
          exact s_X12_checkFilter_5 ⟨by omega, by omega⟩ ⟨by omega, by omega⟩ fun _ => ⟨hR1.1, e_lastE hR1 (by rw [q6]; exact s1) fun _ _ _ => ⟨fun g => absurd g (by omega), fun _ => h2⟩⟩
        | cons x fs ihf =>
          intro q M1 n1 s1 hm hC1 hn0 hn1 h
          obtain ⟨hR1, q6, q7⟩ := id hC1
          have hq := s1.st
          obtain ⟨t1, t2⟩ := s1.cons
          have t1' : b_st (g_i M1 b) 2706210 q D x.1 x.2.1 x.2.2 := by rw [q6]; exact t1
          have hxl := b_ser_mem (hm x List.mem_cons_self)
          have hxv := t1.val
          have hsq : K_seq (K_one (K_F k)) (L_at q (x :: fs)) n1 = if (K_one (K_F k) (q, x) n1).1 = 0 then K_seq (K_one (K_F k)) (L_at (q + (b_el x.1 x.2.1 x.2.2).length) fs) (K_one (K_F k) (q, x) n1).2.2 else K_one (K_F k) (q, x) n1 := rfl
          rw [hsq] at h
          have hgo : ∀ (M2 : g_M) (n2 : Int), (K_one (K_F k) (q, x) n1).1 = 0 → (K_one (K_F k) (q, x) n1).2.2 = n2 → e_fr (E_CS m) M1 M2 → E_C m b F M2 n2 → 0 ≤ n2 → n2 ≤ 100 → g_Call (d + 24) 235 [.ref m, g_n q] M2 (g_qI fun r M3 => g_ext M2 M3 → g_ok M3 → g_InR r → g_Run (d + 24) 288 5 [(0, .ref m), (1, g_n cf), (2, g_n r)] [] M3 (g_qI Q)) := by
            intro M2 n2 hz hn2 f2 hC2 c0 c1
            rw [if_pos hz, hn2] at h
            obtain ⟨r1, r6, r7⟩ := id hC2
            exact e_bh2 r1 (by rw [r6]; exact t1) fun _ _ _ => ihf _ M2 _ t2 (fun z hz => hm z (List.mem_cons_of_mem _ hz)) hC2 c0 c1 (h.tr f2)
          refine s_X12_checkFilter_5 ⟨by omega, by omega⟩ ⟨by omega, by omega⟩ fun _ => ⟨hR1.1, e_lastC hR1 (by rw [q6]; exact s1) fun r hr1 hr2 => fun _ _ _ => ⟨fun _ => e_begins hR1 t1' (fun gd => ?_) (fun gd => ?_), fun g => absurd (by omega) g⟩⟩
          · refine fun _ _ _ => ⟨fun g => absurd g (by decide), fun _ => e_jJoin (d := d + 23) hA hC1 hn0 hn1 t1 (by omega) (by omega) (by omega) gd fun M2 f2 hC2 hf hg => ?_⟩
            intro _ _ _
            by_cases hz : (K_one (K_F k) (q, x) n1).1 = 0
            · rw [if_pos hz]
              obtain ⟨c0, c1⟩ := hg hz
              exact ⟨fun g => absurd g (by decide), fun _ => hgo M2 _ hz rfl f2 hC2 c0 c1⟩
            · rw [if_neg hz]
              rw [if_neg hz] at h
              have h2 := h M2 f2 hC2 hf (fun g => absurd g hz)
              rw [if_neg hz] at h2
              exact ⟨fun _ => h2, fun g => absurd rfl g⟩
          · have hone : K_one (K_F k) (q, x) n1 = if F_pl x.2.1 = true then (if F_cs x = true then K_more 1 q n1 ((K_F k).2 (L_ch q x) (n1 + 1)) else K_more 2 q n1 (0, 0, n1 + 2)) else (3, q, n1) := by
              unfold K_one
              rw [if_neg (by rw [gd]; decide)]
            rw [hone] at h hgo
            refine fun _ _ _ => ⟨fun _ => ⟨⟨by omega, by omega⟩, e_nm2 hR1 t1' fun _ _ _ => e_plain hR1 (b_el_at t1'.1).2.1 (by omega) (by omega) (fun gp => ?_) (fun gp => ?_)⟩, fun g => absurd rfl g⟩
            · rw [if_pos (F_pl_t gp)] at h hgo
              refine fun _ _ _ => ⟨fun g => absurd g (by decide), fun _ => e_areConds hR1 t1' (fun gc => ?_) (fun gc => ?_)⟩
              · have gc : F_cs x = true := gc
                rw [if_pos gc] at h hgo
                refine fun _ _ _ => ⟨fun g => absurd g (by decide), fun _ => s_X12_checkFilter_72 ⟨by omega, by omega⟩ ⟨by omega, by omega⟩ ⟨by decide, by decide⟩ ⟨by decide, by decide⟩ fun _ => ⟨hR1.1, e_counts hC1 (by decide) (by decide) hn0 hn1 ⟨by omega, by omega⟩ fun M2 f2 hC2 hf hg => ?_⟩⟩
                intro _ _ _
                unfold K_more at h hgo hf hg hC2 ⊢
                by_cases hov : 100 < n1 + 1
                · rw [if_pos hov] at h hf hg hC2 ⊢
                  rw [if_neg (by simp)] at h
                  exact ⟨fun _ => h M2 f2 hC2 hf hg, fun g => absurd rfl g⟩
                · rw [if_neg hov] at h hgo hf hg hC2 ⊢
                  obtain ⟨r1, r6, r7⟩ := id hC2
                  obtain ⟨D2, eD2, xdc⟩ := t1.dce (F_cs_k gc)
                  rw [t1.lch] at h hgo
                  refine ⟨fun g => absurd g (by simp), fun _ => ⟨fun g => absurd g (by decide), fun _ => ⟨r1.1, e_vl2 r1 (by rw [r6]; exact t1) fun _ _ _ => ?_⟩⟩⟩
                  refine hB M2 _ (d + 24) _ (n1 + 1) x D2 hC2 (by omega) (by omega) xdc (by omega) (by omega) (by omega) fun M3 f3 hC3 hf3 hg3 => ?_
                  intro _ _ _
                  by_cases hz : ((K_F k).2 (L_at (q + 2 + x.2.1.length + 4) (b_ch x.2.2)) (n1 + 1)).1 = 0
                  · rw [if_pos hz]
                    obtain ⟨c0, c1⟩ := hg3 hz
                    exact ⟨fun g => absurd g (by decide), fun _ => hgo M3 _ hz rfl (f2.tr f3) hC3 c0 c1⟩
                  · rw [if_neg hz]
                    rw [if_neg hz] at h
                    have h2 := h M3 (f2.tr f3) hC3 hf3 (fun g => absurd g hz)
                    rw [if_neg hz] at h2
                    exact ⟨fun _ => h2, fun g => absurd rfl g⟩
              · have gc : F_cs x = false := gc
                rw [if_neg (show ¬ F_cs x = true by rw [gc]; decide)] at h hgo
                refine fun _ _ _ => ⟨fun _ => s_X12_checkFilter_72 ⟨by omega, by omega⟩ ⟨by omega, by omega⟩ ⟨by decide, by decide⟩ ⟨by decide, by decide⟩ fun _ => ⟨hR1.1, e_counts hC1 (by decide) (by decide) hn0 hn1 ⟨by omega, by omega⟩ fun M2 f2 hC2 hf hg => ?_⟩, fun g => absurd rfl g⟩
                intro _ _ _
                unfold K_more at h hgo hf hg hC2 ⊢
                by_cases hov : 100 < n1 + 2
                · rw [if_pos hov] at h hf hg hC2 ⊢
                  rw [if_neg (by simp)] at h
                  exact ⟨fun _ => h M2 f2 hC2 hf hg, fun g => absurd rfl g⟩
                · rw [if_neg hov] at h hgo hf hg hC2 ⊢
                  obtain ⟨r1, r6, r7⟩ := id hC2
                  exact ⟨fun g => absurd g (by simp), fun _ => ⟨fun _ => ⟨r1.1, hgo M2 _ rfl rfl f2 hC2 (by simp only; omega) (by simp only; omega)⟩, fun g => absurd rfl g⟩⟩
            · rw [if_neg (show ¬ F_pl x.2.1 = true by rw [F_pl_f gp]; decide)] at h
              rw [if_neg (by simp)] at h
              exact fun _ _ _ => ⟨fun _ => e_failsF hC1 ⟨by decide, by decide⟩ (by decide) ⟨by omega, by omega⟩ fun M2 f2 hC2 hf hg => fun _ _ _ => ⟨u_i01 _, h M2 f2 hC2 hf hg⟩, fun g => absurd rfl g⟩
      exact m_X12_checkFilter ⟨by omega, by omega⟩ fun _ => e_first hc0.2.2.1 hc0.2.2.2 fun _ _ _ => hlp es _ M n ht (fun _ h => h) hC h0 h1 h
    · intro M Q dd cf n fe D hC h0 h1 hs hD hl hd h
      obtain ⟨hk, hg0, ht⟩ := id hs
      obtain ⟨D1, es, e1, e2, e3, e4, e5, e6, e7⟩ := b_gv_doc hg0 (Or.inl rfl)
      obtain rfl : D = D1 := by omega
      have hyl := congrArg List.length e2
      rw [b_doc_len] at hyl
      rw [e7] at h ht
      have hc0 := ht.st
      obtain ⟨d, rfl⟩ : ∃ d', dd = d' + 25 := ⟨dd - 25, by omega⟩
      have hlp : ∀ (fs : List b_E) (q : Int) (M1 : g_M) (n1 : Int), e_tl F cf q D es fs → (∀ x ∈ fs, x ∈ es) → E_C m b F M1 n1 → 0 ≤ n1 → n1 ≤ 100 → J_post m b F M1 Q (K_seq (K_cd (K_F k)) (L_at q fs) n1) → g_Run (d + 24) 292 5 [(0, .ref m), (1, g_n cf), (2, g_n q)] [] M1 (g_qI Q) := by
        intro fs
        induction fs with
        | nil =>
          intro q M1 n1 s1 _ hC1 hn0 hn1 h
          obtain ⟨hR1, q6, q7⟩ := id hC1
          have hq := s1.st
          have h2 := h M1 (e_fr.rf _ _) hC1 (fun g => absurd rfl g) (fun _ => ⟨hn0, hn1⟩)
          exact s_X12_checkConditions_5 ⟨by omega, by omega⟩ ⟨by omega, by omega⟩ fun _ => ⟨hR1.1, e_lastE hR1 (by rw [q6]; exact s1) fun _ _ _ => ⟨fun g => absurd g (by omega), fun _ => h2⟩⟩
        | cons x fs ihf =>
          intro q M1 n1 s1 hm hC1 hn0 hn1 h
          obtain ⟨hR1, q6, q7⟩ := id hC1
          have hq := s1.st
          obtain ⟨t1, t2⟩ := s1.cons
          have t1' : b_st (g_i M1 b) 2706210 q D x.1 x.2.1 x.2.2 := by rw [q6]; exact t1
          have hxl := b_ser_mem (hm x List.mem_cons_self)
          have i11 : F_cd x.2.1 = 11 ↔ x.2.1 = b_tx 27 := @F_cd_i x.2.1 11 (by decide) (by decide)
          have i12 : F_cd x.2.1 = 12 ↔ x.2.1 = b_tx 28 := @F_cd_i x.2.1 12 (by decide) (by decide)
          have hsq : K_seq (K_cd (K_F k)) (L_at q (x :: fs)) n1 = if (K_cd (K_F k) (q, x) n1).1 = 0 then K_seq (K_cd (K_F k)) (L_at (q + (b_el x.1 x.2.1 x.2.2).length) fs) (K_cd (K_F k) (q, x) n1).2.2 else K_cd (K_F k) (q, x) n1 := rfl
          rw [hsq] at h
          have hgo : ∀ (M2 : g_M) (n2 : Int), (K_cd (K_F k) (q, x) n1).1 = 0 → (K_cd (K_F k) (q, x) n1).2.2 = n2 → e_fr (E_CS m) M1 M2 → E_C m b F M2 n2 → 0 ≤ n2 → n2 ≤ 100 → g_Call (d + 24) 235 [.ref m, g_n q] M2 (g_qI fun r M3 => g_ext M2 M3 → g_ok M3 → g_InR r → g_Run (d + 24) 292 5 [(0, .ref m), (1, g_n cf), (2, g_n r)] [] M3 (g_qI Q)) := by
            intro M2 n2 hz hn2 f2 hC2 c0 c1
            rw [if_pos hz, hn2] at h
            obtain ⟨r1, r6, r7⟩ := id hC2
            exact e_bh2 r1 (by rw [r6]; exact t1) fun _ _ _ => ihf _ M2 _ t2 (fun z hz => hm z (List.mem_cons_of_mem _ hz)) hC2 c0 c1 (h.tr f2)
          refine s_X12_checkConditions_5 ⟨by omega, by omega⟩ ⟨by omega, by omega⟩ fun _ => ⟨hR1.1, e_lastC hR1 (by rw [q6]; exact s1) fun r hr1 hr2 => fun _ _ _ => ⟨fun _ => e_isCond hR1 t1' fun _ _ _ => ?_, fun g => absurd (by omega) g⟩⟩
          have hcd : K_cd (K_F k) (q, x) n1 = (if F_cd x.2.1 = 0 then (1, q, n1) else if F_rv (F_cd x.2.1) x = true then K_more 1 q n1 (if F_cd x.2.1 = 12 then (K_F k).2 (L_ch q x) (n1 + 1) else if F_cd x.2.1 = 11 then (if F_ci x = true then (K_F k).2 (L_ch q x) (n1 + 1) else (K_F k).1 (L_ch q x) (n1 + 1)) else (0, 0, n1 + 1)) else (4, q, n1)) := rfl
          rw [hcd] at h hgo
          by_cases gk : F_cd x.2.1 = 0
          · rw [if_pos gk] at h ⊢
            rw [if_neg (by simp)] at h
            exact ⟨fun _ => e_failsF hC1 ⟨by decide, by decide⟩ (by decide) ⟨by omega, by omega⟩ fun M2 f2 hC2 hf hg => fun _ _ _ => ⟨u_i01 _, h M2 f2 hC2 hf hg⟩, fun g => absurd rfl g⟩
          rw [if_neg gk] at h hgo ⊢
          refine ⟨fun g => absurd g (by decide), fun _ => e_rightVal hR1 t1' gk fun _ _ _ => ?_⟩
          cases hv : F_rv (F_cd x.2.1) x
          · rw [if_neg (show ¬ F_rv (F_cd x.2.1) x = true by rw [hv]; decide), if_neg (by simp)] at h
            exact ⟨fun _ => e_failsF hC1 ⟨by decide, by decide⟩ (by decide) ⟨by omega, by omega⟩ fun M2 f2 hC2 hf hg => fun _ _ _ => ⟨u_i01 _, h M2 f2 hC2 hf hg⟩, fun g => absurd rfl g⟩
          rw [if_pos hv] at h hgo
          refine ⟨fun g => absurd g (by decide), fun _ => e_counts hC1 (by decide) (by decide) hn0 hn1 ⟨by omega, by omega⟩ fun M2 f2 hC2 hf hg => ?_⟩
          intro _ _ _
          unfold K_more at h hgo hf hg hC2 ⊢
          by_cases hov : 100 < n1 + 1
          · rw [if_pos hov] at h hf hg hC2 ⊢
            rw [if_neg (by simp)] at h
            exact ⟨fun _ => h M2 f2 hC2 hf hg, fun g => absurd rfl g⟩
          rw [if_neg hov] at h hgo hf hg hC2 ⊢
          obtain ⟨r1, r6, r7⟩ := id hC2
          have t12 : b_st (g_i M2 b) 2706210 q D x.1 x.2.1 x.2.2 := by rw [r6]; exact t1
          rw [t1.lch] at h hgo
          refine ⟨fun g => absurd g (by simp), fun _ => ?_⟩
          have h80n : F_cd x.2.1 = 12 → ∀ M3, e_fr (E_CS m) M1 M3 → E_C m b F M3 ((K_F k).2 (L_at (q + 2 + x.2.1.length + 4) (b_ch x.2.2)) (n1 + 1)).2.2 → ((K_F k).2 (L_at (q + 2 + x.2.1.length + 4) (b_ch x.2.2)) (n1 + 1)).1 = 0 → 0 ≤ ((K_F k).2 (L_at (q + 2 + x.2.1.length + 4) (b_ch x.2.2)) (n1 + 1)).2.2 → ((K_F k).2 (L_at (q + 2 + x.2.1.length + 4) (b_ch x.2.2)) (n1 + 1)).2.2 ≤ 100 → g_Run (d + 24) 292 80 [(0, .ref m), (1, g_n cf), (2, g_n q)] [] M3 (g_qI Q) := by
            intro g12 M3 f3 hC3 hz c0 c1
            rw [if_pos g12] at hgo
            obtain ⟨u1, u6, u7⟩ := id hC3
            refine s_X12_checkConditions_80 ⟨by omega, by omega⟩ ⟨by omega, by omega⟩ fun _ => ⟨u1.1, e_nm3 (j2 := 27) (by decide) (by decide +kernel) u1 (by rw [u6]; exact t1) (fun n11 => ?_) (fun n11 => fun _ _ _ => ⟨fun _ => hgo M3 _ hz rfl f3 hC3 c0 c1, fun g => absurd rfl g⟩)⟩
            have := i11.mpr n11
            omega
          refine e_nm3 (j2 := 28) (by decide) (by decide +kernel) r1 t12 (fun n12 => ?_) (fun n12 => ?_)
          · have g12 := i12.mpr n12
            rw [if_pos g12] at h
            have hk3 : x.1 = 3 := by
              rw [g12] at hv
              exact F_cs_k hv
            obtain ⟨D2, eD2, xdc⟩ := t1.dce hk3
            refine fun _ _ _ => ⟨fun g => absurd g (by decide), fun _ => e_vl2 r1 t12 fun _ _ _ => ?_⟩
            refine hB M2 _ (d + 24) _ (n1 + 1) x D2 hC2 (by omega) (by omega) xdc (by omega) (by omega) (by omega) fun M3 f3 hC3 hf3 hg3 => ?_
            intro _ _ _
            by_cases hz : ((K_F k).2 (L_at (q + 2 + x.2.1.length + 4) (b_ch x.2.2)) (n1 + 1)).1 = 0
            · rw [if_pos hz]
              obtain ⟨c0, c1⟩ := hg3 hz
              exact ⟨fun g => absurd g (by decide), fun _ => h80n g12 M3 (f2.tr f3) hC3 hz c0 c1⟩
            · rw [if_neg hz]
              rw [if_neg hz] at h
              have h2 := h M3 (f2.tr f3) hC3 hf3 (fun g => absurd g hz)
              rw [if_neg hz] at h2
              exact ⟨fun _ => h2, fun g => absurd rfl g⟩
          · have g12 : ¬ F_cd x.2.1 = 12 := fun z => n12 (i12.mp z)
            rw [if_neg g12] at h hgo
            refine fun _ _ _ => ⟨fun _ => s_X12_checkConditions_80 ⟨by omega, by omega⟩ ⟨by omega, by omega⟩ fun _ => ⟨r1.1, e_nm3 (j2 := 27) (by decide) (by decide +kernel) r1 t12 (fun n11 => ?_) (fun n11 => ?_)⟩, fun g => absurd rfl g⟩
            · have g11 := i11.mpr n11
              rw [if_pos g11] at h hgo
              have hk3 : x.1 = 3 := by
                rw [g11] at hv
                exact eq_of_beq hv
              obtain ⟨D2, eD2, xdc⟩ := t1.dce hk3
              refine fun _ _ _ => ⟨fun g => absurd g (by decide), fun _ => e_areItems r1 t12 (fun gc => ?_) (fun gc => ?_)⟩
              · have gc : F_ci x = true := gc
                rw [if_pos gc] at h hgo
                refine fun _ _ _ => ⟨fun g => absurd g (by decide), fun _ => e_vl2 r1 t12 fun _ _ _ => ?_⟩
                refine hB M2 _ (d + 24) _ (n1 + 1) x D2 hC2 (by omega) (by omega) xdc (by omega) (by omega) (by omega) fun M3 f3 hC3 hf3 hg3 => ?_
                intro _ _ _
                by_cases hz : ((K_F k).2 (L_at (q + 2 + x.2.1.length + 4) (b_ch x.2.2)) (n1 + 1)).1 = 0
                · rw [if_pos hz]
                  obtain ⟨c0, c1⟩ := hg3 hz
                  exact ⟨fun g => absurd g (by decide), fun _ => hgo M3 _ hz rfl (f2.tr f3) hC3 c0 c1⟩
                · rw [if_neg hz]
                  rw [if_neg hz] at h
                  have h2 := h M3 (f2.tr f3) hC3 hf3 (fun g => absurd g hz)
                  rw [if_neg hz] at h2
                  exact ⟨fun _ => h2, fun g => absurd rfl g⟩
              · have gc : F_ci x = false := gc
                rw [if_neg (show ¬ F_ci x = true by rw [gc]; decide)] at h hgo
                refine fun _ _ _ => ⟨fun _ => e_vl2 r1 t12 fun _ _ _ => ?_, fun g => absurd rfl g⟩
                refine hA M2 _ (d + 24) _ (n1 + 1) x D2 hC2 (by omega) (by omega) xdc (by omega) (by omega) (by omega) fun M3 f3 hC3 hf3 hg3 => ?_
                intro _ _ _
                by_cases hz : ((K_F k).1 (L_at (q + 2 + x.2.1.length + 4) (b_ch x.2.2)) (n1 + 1)).1 = 0
                · rw [if_pos hz]
                  obtain ⟨c0, c1⟩ := hg3 hz
                  exact ⟨fun g => absurd g (by decide), fun _ => hgo M3 _ hz rfl (f2.tr f3) hC3 c0 c1⟩
                · rw [if_neg hz]
                  rw [if_neg hz] at h
                  have h2 := h M3 (f2.tr f3) hC3 hf3 (fun g => absurd g hz)
                  rw [if_neg hz] at h2
                  exact ⟨fun _ => h2, fun g => absurd rfl g⟩
            · have g11 : ¬ F_cd x.2.1 = 11 := fun z => n11 (i11.mp z)
              rw [if_neg g11] at h hgo
              have hC2' : E_C m b F M2 (n1 + 1) := hC2
              exact fun _ _ _ => ⟨fun _ => hgo M2 _ rfl rfl f2 hC2' (by simp only; omega) (by simp only; omega), fun g => absurd rfl g⟩
      exact m_X12_checkConditions ⟨by omega, by omega⟩ fun _ => e_first hc0.2.2.1 hc0.2.2.2 fun _ _ _ => hlp es _ M n ht (fun _ h => h) hC h0 h1 h
theorem e_isFilter {dd : Nat} {M : g_M} {Q : Int → g_M → Prop} {cf : Int} {fe : b_E} {D : Nat} (hR : e_R M m b) (hF : g_i M b = F) (hs : E_dc F cf D fe) (hD : D < 20) (hl : fe.2.2.length ≤ 3000) (hd : 200 ≤ dd) (h : J_post m b F M Q ((K_F 20).1 (L_at (cf + 4) (b_ch fe.2.2)) 0)) : g_Call dd 287 [.ref m, g_n cf] M (g_qI Q) := by
  obtain ⟨d, rfl⟩ : ∃ d', dd = d' + 1 := ⟨dd - 1, by omega⟩
  have hc := hs.2.2.st
  have hb : m ≠ b := g_neOA hR.1 hR.2.2
  refine m_X12_isFilter ⟨by omega, by omega⟩ fun _ => ⟨hR.1, fun M2 e2 _ => ?_⟩
  subst e2
  have hfr : e_fr (E_CS m) M (g_wi M m 11 0) := e_fr.wi _ ⟨rfl, Or.inr (Or.inr rfl)⟩
  refine (e_jX 20 (by decide)).1 _ _ d cf 0 fe D ⟨hR, ?_, ?_⟩ (by decide) (by decide) hs hD hl (by omega) fun M1 f1 hC1 hf hg => fun _ _ _ => ⟨u_i01 _, h M1 (hfr.tr f1) hC1 hf hg⟩
  · funext j
    rw [g_i_wi, if_neg (fun z => hb z.1.symm), hF]
  · rw [g_i_wi, if_pos ⟨rfl, rfl⟩]
end ECHK2
