/-! FILTERS: their faults in the class, all -/
section CHK3
variable {o b po pf pt : Nat} {rm : Option Nat} {N : Int} {F : Int → Int} {k : Nat}
theorem c_kCd (hN : N ≤ 1000000000) (hA : K_A rm o b po pf pt N F k) (hB : K_B rm o b po pf pt N F k) {d : Nat} {M : g_M} {Q : Int → g_M → Prop} {lv pe n : Int} {fe : b_E} {D : Nat} (hC : F_C rm o b po pf pt N F M n) (h0 : 0 ≤ n) (h1 : n ≤ 100) (hs : b_st F N pe D fe.1 fe.2.1 fe.2.2) (hD : D ≤ k) (hl : fe.2.2.length ≤ 3000) (hl0 : 0 ≤ lv) (hl1 : lv + 2 * k ≤ 60) (hd : 8 * k + 20 ≤ d) (h : K_post rm o b po pf pt N F M Q (K_cd (K_F k) (pe, fe) n)) : g_Call (d + 4) 49 [.ref o, g_n pe, g_n lv] M (g_qI Q) := by
  have hC0 := hC
  obtain ⟨⟨g1, g2, g3, g0⟩, g4, g5, g6, g7⟩ := hC
  have hs' : b_st (g_i M b) N pe D fe.1 fe.2.1 fe.2.2 := by rw [g6]; exact hs
  have hpe := hs.R hN
  have hcR := F_cd_R fe.2.1
  obtain ⟨d, rfl⟩ : ∃ d', d = d' + 20 := ⟨d - 20, by omega⟩
  unfold K_cd at h
  simp only at h
  refine m_X2_conditionIsRight hpe ⟨by omega, by omega⟩ fun _ => ⟨g1, b, g2, c_condOf g5 hN hs' fun _ _ _ => ⟨fun gk => ?_, fun gk => ?_⟩⟩
  · rw [if_pos gk] at h
    exact c_failsF hC0 ⟨by decide, by decide⟩ (by decide) hpe fun M1 f1 hC1 hf hg => fun _ _ _ => ⟨u_i01 _, h M1 f1 hC1 hf hg⟩
  rw [if_neg gk] at h
  refine c_valueRight hC0 hN hs (by omega) (by omega) fun _ _ _ => ?_
  cases hv : F_rv (F_cd fe.2.1) fe
  · rw [if_neg (by rw [hv]; decide)] at h
    exact ⟨fun _ => c_failsF hC0 ⟨by decide, by decide⟩ (by decide) hpe fun M1 f1 hC1 hf hg => fun _ _ _ => ⟨u_i01 _, h M1 f1 hC1 hf hg⟩, fun g => absurd rfl g⟩
  rw [if_pos hv] at h
  refine ⟨fun g => absurd g (by decide), fun _ => c_counts hC0 (by decide) (by decide) h0 h1 hpe fun M1 f1 hC1 hf hg => ?_⟩
  intro _ _ _
  unfold K_more at h hf hg hC1 ⊢
  by_cases hov : 100 < n + 1
  · rw [if_pos hov] at h hf hg hC1 ⊢
    exact ⟨fun _ => h M1 f1 hC1 hf hg, fun g => absurd rfl g⟩
  rw [if_neg hov] at h hf hg hC1 ⊢
  obtain ⟨⟨r1, r2, r3, r0⟩, r4, r5, r6, r7⟩ := id hC1
  have hs1 : b_st (g_i M1 b) N pe D fe.1 fe.2.1 fe.2.2 := by rw [r6]; exact hs
  refine ⟨fun g => absurd g (by simp), fun _ => ⟨fun g12 => ?_, fun g12 => ⟨fun g11 => ⟨b, r2, ?_⟩, fun g11 => ?_⟩⟩⟩
  · rw [if_pos g12] at h
    have hk3 : fe.1 = 3 := by
      rw [g12] at hv
      exact F_cs_k hv
    exact hB M1 _ (d + 23) lv pe (n + 1) fe D hC1 (by omega) (by omega) hs hk3 hD hl hl0 (by omega) (by omega) fun M2 f2 hC2 hf hg => fun _ _ _ => ⟨u_i01 _, h M2 (f1.tr f2) hC2 hf hg⟩
  · rw [if_neg g12, if_pos g11] at h
    have hk3 : fe.1 = 3 := by
      rw [g11] at hv
      exact eq_of_beq hv
    refine c_isCondsI r5 hN hs1 (fun gc => ?_) (fun gc => ?_)
    · have gc : F_ci fe = true := gc
      rw [if_pos gc] at h
      refine fun _ _ _ => ⟨fun g => absurd g (by decide), fun _ => ?_⟩
      exact hB M1 _ (d + 23) lv pe (n + 1) fe D hC1 (by omega) (by omega) hs hk3 hD hl hl0 (by omega) (by omega) fun M2 f2 hC2 hf hg => fun _ _ _ => ⟨u_i01 _, h M2 (f1.tr f2) hC2 hf hg⟩
    · have gc : F_ci fe = false := gc
      rw [if_neg (by rw [gc]; decide)] at h
      refine fun _ _ _ => ⟨fun _ => s_X2_conditionIsRight_77 hpe ⟨by omega, by omega⟩ ⟨by omega, by omega⟩ fun _ => ⟨fun _ => ⟨r1, ?_⟩, fun g => absurd g11 g⟩, fun g => absurd rfl g⟩
      refine hA M1 _ (d + 23) lv pe (n + 1) fe D hC1 (by omega) (by omega) hs hk3 hD hl hl0 (by omega) (by omega) fun M2 f2 hC2 hf hg => ?_
      intro _ _ _
      have h3 := h M2 (f1.tr f2) hC2 hf hg
      by_cases hR : ((K_F k).1 (L_ch pe fe) (n + 1)).1 = 0
      · rw [if_pos hR] at h3 ⊢
        exact ⟨fun g => absurd g (by decide), fun _ => h3⟩
      · rw [if_neg hR] at h3 ⊢
        exact ⟨fun _ => h3, fun g => absurd rfl g⟩
  · rw [if_neg g12, if_neg g11] at h
    exact s_X2_conditionIsRight_77 hpe ⟨by omega, by omega⟩ ⟨by omega, by omega⟩ fun _ => ⟨fun g => absurd g g11, fun _ => h M1 f1 hC1 hf hg⟩
theorem c_kX (hN : N ≤ 1000000000) : ∀ k : Nat, k ≤ 25 → K_A rm o b po pf pt N F k ∧ K_B rm o b po pf pt N F k := by
  intro k
  induction k with
  | zero =>
    intro _
    constructor
    · intro M Q dd lv pe n fe D hC h0 h1 hs hk hD
      obtain rfl : D = 0 := by omega
      exact absurd (Or.inl hk) (b_gv0 hs.2.2.1)
    · intro M Q dd lv pe n fe D hC h0 h1 hs hk hD
      obtain rfl : D = 0 := by omega
      exact absurd (Or.inl hk) (b_gv0 hs.2.2.1)
  | succ k ih =>
    intro hk25
    obtain ⟨hA, hB⟩ := ih (by omega)
    constructor
    · intro M Q dd lv pe n fe D hC h0 h1 hs hk hD hl hl0 hl1 hd h
      obtain ⟨D1, es, e1, e2, e3, e4, e5, e6, e7, e8⟩ := hs.ch (Or.inl hk)
      have e7 : L_ch pe fe = L_at (pe + 6 + fe.2.1.length) es := e7
      have hyl := congrArg List.length e2
      rw [b_doc_len] at hyl
      have hpe := hs.R hN
      rw [e7] at h
      obtain ⟨d, rfl⟩ : ∃ d', dd = d' + 25 := ⟨dd - 25, by omega⟩
      have hlp : ∀ (fs : List b_E) (q : Int) (i : Nat) (M1 : g_M) (n1 : Int), b_sts F N q D1 fs → (∀ x ∈ fs, x ∈ es) → i + fs.length < 2000 → F_C rm o b po pf pt N F M1 n1 → 0 ≤ n1 → n1 ≤ 100 → K_post rm o b po pf pt N F M1 Q (K_seq (K_one (K_F k)) (L_at q fs) n1) → g_Run (d + 24) 45 12 [(0, .ref o), (1, g_n pe), (2, g_n lv), (3, g_n q), (4, g_n i)] [] M1 (g_qI Q) := by
        intro fs
        induction fs with
        | nil =>
          intro q i M1 n1 s1 _ hi2 hC1 hn0 hn1 h
          obtain ⟨⟨q1, q2, q3, q0⟩, q4, q5, q6, q7⟩ := id hC1
          have hq0 := s1.2.2
          rw [List.length_nil] at hi2
          have h2 := h M1 (g_fr.rf _ _) hC1 (fun g => absurd rfl g) (fun _ => ⟨hn0, hn1⟩)
          exact s_X2_filterIsRight_12 hpe ⟨by omega, by omega⟩ ⟨by omega, by omega⟩ ⟨by omega, by omega⟩ fun _ => ⟨fun _ => ⟨q1, b, q2, c_kdE q5 hN (by rw [q6]; exact s1) fun _ _ _ => ⟨fun _ => h2, fun g => absurd rfl g⟩⟩, fun g => absurd (by omega) g⟩
        | cons x fs ihf =>
          intro q i M1 n1 s1 hm hi2 hC1 hn0 hn1 h
          obtain ⟨⟨q1, q2, q3, q0⟩, q4, q5, q6, q7⟩ := id hC1
          rw [List.length_cons] at hi2
          obtain ⟨t1, t2⟩ := s1.cons
          have t1' : b_st (g_i M1 b) N q D1 x.1 x.2.1 x.2.2 := by rw [q6]; exact t1
          have hq0 := s1.2.2
          have hxk := b_vs_pos (b_gv_vs t1.2.2.1)
          have hxl := b_ser_mem (hm x List.mem_cons_self)
          have hsq : K_seq (K_one (K_F k)) (L_at q (x :: fs)) n1 = if (K_one (K_F k) (q, x) n1).1 = 0 then K_seq (K_one (K_F k)) (L_at (q + (b_el x.1 x.2.1 x.2.2).length) fs) (K_one (K_F k) (q, x) n1).2.2 else K_one (K_F k) (q, x) n1 := rfl
          rw [hsq] at h
          refine s_X2_filterIsRight_12 hpe ⟨by omega, by omega⟩ ⟨by omega, by omega⟩ ⟨by omega, by omega⟩ fun _ => ⟨fun _ => ⟨q1, b, q2, c_kd2 q5 hN t1' fun _ _ _ => ⟨fun g => absurd g (by omega), fun _ => ⟨fun g => absurd g (by omega), fun _ => ⟨⟨by omega, by omega⟩, ?_⟩⟩⟩⟩, fun g => absurd (by omega) g⟩
          refine c_kOne (d := d + 20) hN hA hB hC1 hn0 hn1 t1 (by omega) (by omega) (by omega) (by omega) (by omega) fun M2 f2 hC2 hf hg => ?_
          intro _ _ _
          by_cases hR : (K_one (K_F k) (q, x) n1).1 = 0
          · rw [if_pos hR] at h ⊢
            obtain ⟨⟨r1, r2, r3, r0⟩, r4, r5, r6, r7⟩ := id hC2
            refine ⟨fun g => absurd g (by decide), fun _ => ⟨b, r2, c_nx2 r5 hN (by rw [r6]; exact t1) fun _ _ _ => ⟨⟨by omega, by omega⟩, ?_⟩⟩⟩
            obtain ⟨c0, c1⟩ := hg hR
            have := ihf (q + (b_el x.1 x.2.1 x.2.2).length) (i + 1) M2 _ t2 (fun z hz => hm z (List.mem_cons_of_mem _ hz)) (by omega) hC2 c0 c1 (h.tr f2)
            rwa [show ((i + 1 : Nat) : Int) = (i : Int) + 1 by omega] at this
          · rw [if_neg hR] at h ⊢
            have h2 := h M2 f2 hC2 hf (fun g => absurd g hR)
            rw [if_neg hR] at h2
            exact ⟨fun _ => h2, fun g => absurd rfl g⟩
      have hC0 := hC
      obtain ⟨⟨g1, g2, g3, g0⟩, g4, g5, g6, g7⟩ := hC
      exact m_X2_filterIsRight hpe ⟨by omega, by omega⟩ fun _ => ⟨g1, b, g2, c_fi2 g5 hN (by rw [g6]; exact hs) fun _ _ _ => hlp es _ 0 M n e4 (fun _ h => h) (by omega) hC0 h0 h1 h⟩
    · intro M Q dd lv pe n fe D hC h0 h1 hs hk hD hl hl0 hl1 hd h
      obtain ⟨D1, es, e1, e2, e3, e4, e5, e6, e7, e8⟩ := hs.ch (Or.inl hk)
      have e7 : L_ch pe fe = L_at (pe + 6 + fe.2.1.length) es := e7
      have hyl := congrArg List.length e2
      rw [b_doc_len] at hyl
      have hpe := hs.R hN
      rw [e7] at h
      obtain ⟨d, rfl⟩ : ∃ d', dd = d' + 25 := ⟨dd - 25, by omega⟩
      have hlp : ∀ (fs : List b_E) (q : Int) (i : Nat) (M1 : g_M) (n1 : Int), b_sts F N q D1 fs → (∀ x ∈ fs, x ∈ es) → i + fs.length < 2000 → F_C rm o b po pf pt N F M1 n1 → 0 ≤ n1 → n1 ≤ 100 → K_post rm o b po pf pt N F M1 Q (K_seq (K_cd (K_F k)) (L_at q fs) n1) → g_Run (d + 24) 48 12 [(0, .ref o), (1, g_n pe), (2, g_n lv), (3, g_n q), (4, g_n i)] [] M1 (g_qI Q) := by
        intro fs
        induction fs with
        | nil =>
          intro q i M1 n1 s1 _ hi2 hC1 hn0 hn1 h
          obtain ⟨⟨q1, q2, q3, q0⟩, q4, q5, q6, q7⟩ := id hC1
          have hq0 := s1.2.2
          rw [List.length_nil] at hi2
          have h2 := h M1 (g_fr.rf _ _) hC1 (fun g => absurd rfl g) (fun _ => ⟨hn0, hn1⟩)
          exact s_X2_conditionsAreRight_12 hpe ⟨by omega, by omega⟩ ⟨by omega, by omega⟩ ⟨by omega, by omega⟩ fun _ => ⟨fun _ => ⟨q1, b, q2, c_kdE q5 hN (by rw [q6]; exact s1) fun _ _ _ => ⟨fun _ => h2, fun g => absurd rfl g⟩⟩, fun g => absurd (by omega) g⟩
        | cons x fs ihf =>
          intro q i M1 n1 s1 hm hi2 hC1 hn0 hn1 h
          obtain ⟨⟨q1, q2, q3, q0⟩, q4, q5, q6, q7⟩ := id hC1
          rw [List.length_cons] at hi2
          obtain ⟨t1, t2⟩ := s1.cons
          have t1' : b_st (g_i M1 b) N q D1 x.1 x.2.1 x.2.2 := by rw [q6]; exact t1
          have hq0 := s1.2.2
          have hxk := b_vs_pos (b_gv_vs t1.2.2.1)
          have hxl := b_ser_mem (hm x List.mem_cons_self)
          have hsq : K_seq (K_cd (K_F k)) (L_at q (x :: fs)) n1 = if (K_cd (K_F k) (q, x) n1).1 = 0 then K_seq (K_cd (K_F k)) (L_at (q + (b_el x.1 x.2.1 x.2.2).length) fs) (K_cd (K_F k) (q, x) n1).2.2 else K_cd (K_F k) (q, x) n1 := rfl
          rw [hsq] at h
          refine s_X2_conditionsAreRight_12 hpe ⟨by omega, by omega⟩ ⟨by omega, by omega⟩ ⟨by omega, by omega⟩ fun _ => ⟨fun _ => ⟨q1, b, q2, c_kd2 q5 hN t1' fun _ _ _ => ⟨fun g => absurd g (by omega), fun _ => ⟨fun g => absurd g (by omega), fun _ => ⟨⟨by omega, by omega⟩, ?_⟩⟩⟩⟩, fun g => absurd (by omega) g⟩
          refine c_kCd (d := d + 20) hN hA hB hC1 hn0 hn1 t1 (by omega) (by omega) (by omega) (by omega) (by omega) fun M2 f2 hC2 hf hg => ?_
          intro _ _ _
          by_cases hR : (K_cd (K_F k) (q, x) n1).1 = 0
          · rw [if_pos hR] at h ⊢
            obtain ⟨⟨r1, r2, r3, r0⟩, r4, r5, r6, r7⟩ := id hC2
            refine ⟨fun g => absurd g (by decide), fun _ => ⟨b, r2, c_nx2 r5 hN (by rw [r6]; exact t1) fun _ _ _ => ⟨⟨by omega, by omega⟩, ?_⟩⟩⟩
            obtain ⟨c0, c1⟩ := hg hR
            have := ihf (q + (b_el x.1 x.2.1 x.2.2).length) (i + 1) M2 _ t2 (fun z hz => hm z (List.mem_cons_of_mem _ hz)) (by omega) hC2 c0 c1 (h.tr f2)
            rwa [show ((i + 1 : Nat) : Int) = (i : Int) + 1 by omega] at this
          · rw [if_neg hR] at h ⊢
            have h2 := h M2 f2 hC2 hf (fun g => absurd g hR)
            rw [if_neg hR] at h2
            exact ⟨fun _ => h2, fun g => absurd rfl g⟩
      have hC0 := hC
      obtain ⟨⟨g1, g2, g3, g0⟩, g4, g5, g6, g7⟩ := hC
      exact m_X2_conditionsAreRight hpe ⟨by omega, by omega⟩ fun _ => ⟨g1, b, g2, c_fi2 g5 hN (by rw [g6]; exact hs) fun _ _ _ => hlp es _ 0 M n e4 (fun _ h => h) (by omega) hC0 h0 h1 h⟩
/-- isRight, of a filter's element -/
theorem c_isRight (hN : N ≤ 1000000000) {dd : Nat} {M : g_M} {Q : Int → g_M → Prop} {pe : Int} {fe : b_E} {D : Nat} (hC : ∃ n, F_C rm o b po pf pt N F M n) (hs : b_st F N pe D fe.1 fe.2.1 fe.2.2) (hk : fe.1 = 3) (hD : D ≤ 20) (hl : fe.2.2.length ≤ 3000) (hd : 200 ≤ dd) (h : K_post rm o b po pf pt N F M Q ((K_F 20).1 (L_ch pe fe) 0)) : g_Call dd 42 [.ref o, g_n pe] M (g_qI Q) := by
  obtain ⟨n, ⟨g1, g2, g3, g0⟩, g4, g5, g6, g7⟩ := hC
  obtain ⟨d, rfl⟩ : ∃ d', dd = d' + 1 := ⟨dd - 1, by omega⟩
  have hb : o ≠ b := g_neOA g1 g5
  refine m_X2_isRight (hs.R hN) fun _ => ⟨g1, fun M2 e2 _ M6 e6 _ => ?_⟩
  subst e2
  subst e6
  have hfr : g_fr (F_CS o po pf pt) M (g_wi (g_wi M o 3 0) o 4 0) := (g_fr.wi _ _ (Or.inl rfl)).tr (g_fr.wi _ _ (Or.inl rfl))
  refine (c_kX hN 20 (by decide)).1 _ _ d 0 pe 0 fe D ⟨⟨g1, g2, g3, g0⟩, g4, g5, ?_, ?_⟩ (by decide) (by decide) hs hk hD hl (by decide) (by decide) (by omega) fun M1 f1 hC1 hf hg => fun _ _ _ => ⟨u_i01 _, h M1 (hfr.tr f1) hC1 hf hg⟩
  · funext j
    rw [g_i_wi, if_neg (fun z => hb z.1.symm), g_i_wi, if_neg (fun z => hb z.1.symm), g6]
  · rw [g_i_wi, if_neg (by omega), g_i_wi, if_pos ⟨rfl, rfl⟩]
end CHK3
/-- a filter without faults is a good one -/
theorem K_seq0 {f : Int × b_E → Int → Int × Int × Int} : ∀ (zs : List (Int × b_E)) (n : Int), (K_seq f zs n).1 = 0 → ∀ z ∈ zs, ∃ n2, (f z n2).1 = 0 := by
  intro zs
  induction zs with
  | nil => exact fun _ _ z hz => absurd hz (by simp)
  | cons z zs ih =>
    intro n h y hy
    unfold K_seq at h
    split at h
    · rename_i h1
      rcases List.mem_cons.mp hy with rfl | hy
      · exact ⟨n, h1⟩
      · exact ih _ h y hy
    · rename_i h1
      exact absurd h h1
theorem L_at_mem : ∀ {es : List b_E} {q : Int} {e : b_E}, e ∈ es → ∃ p, (p, e) ∈ L_at q es := by
  intro es
  induction es with
  | nil => exact fun h => absurd h (by simp)
  | cons x es ih =>
    intro q e he
    rcases List.mem_cons.mp he with rfl | he
    · exact ⟨q, List.mem_cons_self⟩
    · obtain ⟨p, hp⟩ := ih (q := q + (b_el x.1 x.2.1 x.2.2).length) he
      exact ⟨p, List.mem_cons_of_mem _ hp⟩
theorem K_good : ∀ (k : Nat) (es : List b_E) (q n : Int), (((K_F k).1 (L_at q es) n).1 = 0 → (F_V k).1 es) ∧ (((K_F k).2 (L_at q es) n).1 = 0 → (F_V k).2 es) := by
  intro k
  induction k with
  | zero => exact fun _ _ _ => ⟨fun _ => trivial, fun _ => trivial⟩
  | succ k ih =>
    intro es q n
    have hmore : ∀ (k q n : Int) (R : Int × Int × Int), (K_more k q n R).1 = 0 → R.1 = 0 := by
      intro k q n R h
      unfold K_more at h
      split at h
      · exact absurd h (by simp)
      · exact h
    constructor
    · intro h e he
      obtain ⟨p, hp⟩ := L_at_mem (q := q) he
      obtain ⟨n2, h2⟩ := K_seq0 _ _ h _ hp
      unfold K_one at h2
      simp only at h2
      constructor
      · intro hd
        rw [if_pos hd] at h2
        split at h2
        · rename_i hj
          split at h2
          · rename_i hk
            split at h2
            · exact absurd h2 (by simp)
            · refine ⟨hj, hk, fun x hx => ?_⟩
              have h3 := hmore _ _ _ _ h2
              obtain ⟨px, hpx⟩ := L_at_mem (q := p + 6 + e.2.1.length) hx
              obtain ⟨n3, h4⟩ := K_seq0 _ _ h3 _ hpx
              unfold K_item at h4
              split at h4
              · rename_i hx3
                exact ⟨hx3, (ih _ _ _).1 h4⟩
              · exact absurd h4 (by simp)
          · exact absurd h2 (by simp)
        · exact absurd h2 (by simp)
      · intro hd
        rw [if_neg (by rw [hd]; decide)] at h2
        split at h2
        · rename_i hp
          refine ⟨?_, fun hc => ?_⟩
          · apply Classical.byContradiction
            intro hn
            rw [F_pl_f hn] at hp
            cases hp
          · rw [if_pos hc] at h2
            exact (ih _ _ _).2 (hmore _ _ _ _ h2)
        · exact absurd h2 (by simp)
    · intro h c hc
      obtain ⟨p, hp⟩ := L_at_mem (q := q) hc
      obtain ⟨n2, h2⟩ := K_seq0 _ _ h _ hp
      unfold K_cd at h2
      simp only at h2
      split at h2
      · exact absurd h2 (by simp)
      · rename_i h0
        split at h2
        · rename_i hv
          have h3 := hmore _ _ _ _ h2
          refine ⟨h0, hv, fun g => ?_, fun g gi => ?_, fun g gi => ?_⟩
          · rw [if_pos g] at h3
            exact (ih _ _ _).2 h3
          · rw [if_neg (by rw [g]; decide), if_pos g, if_pos gi] at h3
            exact (ih _ _ _).2 h3
          · rw [if_neg (by rw [g]; decide), if_pos g, if_neg (by rw [gi]; decide)] at h3
            exact (ih _ _ _).1 h3
        · exact absurd h2 (by simp)
