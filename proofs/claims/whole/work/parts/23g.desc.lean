/-! TREES OF THE CLASS: the way down -/
noncomputable def V_c (w1 w2 : Int) (x y : V_W) : Int := I_c w1 w2 (V_e x) (V_e y)
theorem V_c_T {w1 w2 : Int} (h1 : I_w w1) (h2 : I_w w2) : v_T (V_c w1 w2) := (I_c_T h1 h2).pb V_e
def B_cx (S : B_S) (j : Nat) (N w1 w2 : Int) : Prop := B_ln S N ∧ (S.1 0 = 132 * B_cs j ∧ S.1 1 = B_cs j ∧ j ≤ 12) ∧ (S.2.2 12 = w1 ∧ S.2.2 13 = w2 ∧ I_w w1 ∧ I_w w2) ∧ S.1 10 = 16 ∧ S.1 11 = 16
theorem B_cx.us {S : B_S} {j : Nat} {N w1 w2 : Int} (h : B_cx S j N w1 w2) : B_us S (B_cs j) := by
  obtain ⟨-, ⟨h0, h1, h2⟩, -⟩ := h
  have hcs := B_cs_le ⟨j, by omega⟩
  simp only at hcs
  exact ⟨h0, h1, by omega⟩
theorem B_cx.ag {A : Nat → Int → Prop} {G : Int → Prop} {S S1 : B_S} {j : Nat} {N w1 w2 : Int} (h : B_cx S j N w1 w2) (g : B_ag A G S S1) (e : S1.1 = S.1) (h12 : ¬ G 12) (h13 : ¬ G 13) : B_cx S1 j N w1 w2 := by
  obtain ⟨⟨a1, a2, a3, a4, a5⟩, ⟨b1, b2, b3⟩, ⟨c1, c2, c3⟩, d1, d2⟩ := h
  unfold B_cx B_ln
  rw [e, g.2.2 12 h12, g.2.2 13 h13]
  exact ⟨⟨a1, a2, a3, a4, a5⟩, ⟨b1, b2, b3⟩, ⟨c1, c2, c3⟩, d1, d2⟩
/-- the nodes and turns of the way are kept from a level on -/
def C_way (cW : V_W → V_W → Int) (e : V_W) (S : B_S) : (h : Nat) → Nat → Nat → List (N_i V_W h) → Prop
  | 0, lv, n, _ => S.2.1 10 lv = n
  | h + 1, lv, n, l => S.2.1 10 lv = n ∧ ∀ (A : List (N_i V_W (h + 1))) (x : N_i V_W (h + 1)) (B : List (N_i V_W (h + 1))), l = A ++ x :: B → A.length = N_dn cW e h l → S.2.1 11 lv = A.length ∧ C_way cW e S h (lv + 1) (V_n x.1) x.2
def B_wA (lv : Nat) (k : Nat) (q : Int) : Prop := (k = 10 ∧ (lv : Int) < q) ∨ (k = 11 ∧ (lv : Int) ≤ q)
theorem B_wA_nav (lv m : Nat) : B_nav (B_wA lv) m := by
  refine ⟨fun q q1 q2 => ⟨fun z => ?_, fun z => ?_⟩, fun z => ?_, fun z => ?_⟩
  · rcases z with ⟨z, -⟩ | ⟨z, -⟩ <;> omega
  · rcases z with ⟨z, -⟩ | ⟨z, -⟩ <;> omega
  · rcases z with ⟨z, -⟩ | ⟨z, -⟩ <;> omega
  · rcases z with ⟨z, -⟩ | ⟨z, -⟩ <;> omega
theorem B_wA_sav (lv s : Nat) : B_sav (B_wA lv) s := by
  refine ⟨fun q _ _ z => ?_, fun z => ?_⟩
  · rcases z with ⟨z, -⟩ | ⟨z, -⟩ <;> omega
  · rcases z with ⟨z, -⟩ | ⟨z, -⟩ <;> omega
theorem C_way.keep {cW : V_W → V_W → Int} {e : V_W} {S S1 : B_S} : ∀ {h lv n : Nat} {l : List (N_i V_W h)}, C_way cW e S h lv n l → (∀ q : Int, (lv : Int) ≤ q → q ≤ lv + h → S1.2.1 10 q = S.2.1 10 q ∧ S1.2.1 11 q = S.2.1 11 q) → C_way cW e S1 h lv n l := by
  intro h
  induction h with
  | zero =>
    intro lv n l hw hk
    show S1.2.1 10 lv = n
    rw [(hk lv (by omega) (by omega)).1]
    exact hw
  | succ h ih =>
    intro lv n l hw hk
    obtain ⟨w1, w2⟩ := hw
    refine ⟨by rw [(hk lv (by omega) (by omega)).1]; exact w1, fun A x B h1 h2 => ?_⟩
    obtain ⟨w3, w4⟩ := w2 A x B h1 h2
    exact ⟨by rw [(hk lv (by omega) (by omega)).2]; exact w3, ih w4 fun q q1 q2 => hk q (by omega) (by omega)⟩
section CDESC
variable {d t j : Nat} {N w1 w2 : Int} {sg : Nat} {e : I_E}
/-- which turn one takes at a node -/
theorem c_turn {Q : Int → g_M → Prop} {h lv n : Nat} {l : List (N_i V_W (h + 1))} {S : B_S} {M : g_M} (hB : B_t t S M) (hx : B_cx S j N w1 w2) (h18 : S.2.2 18 = sg) (he : B_eg S sg e) (hsg : (sg : Int) < B_cs j) (hD : C_D S (h + 1) n l) (hn : (n : Int) < N) (hus : ∀ s ∈ V_us (h + 1) l, (s : Int) < B_cs j) (hlv : lv ≤ 14) (hl : l ≠ []) (hq : g_Run (d + 46) 182 84 [(0, .ref t), (1, g_n lv), (2, g_n n), (3, g_n (N_dn (V_c w1 w2) ((sg, 0), e) h l))] [] M (g_qI Q)) : g_Run (d + 46) 182 41 [(0, .ref t), (1, g_n lv), (2, g_n n), (3, g_n 0)] [] M (g_qI Q) := by
  obtain ⟨⟨l4, l5, l6, l7, lN⟩, ⟨s0, s1, sj⟩, ⟨c12, c13, cw1, cw2⟩, y1, y2⟩ := id hx
  obtain ⟨⟨n1, n2, n3, n4⟩, d2, d3, d4⟩ := C_D_s.mp hD
  rw [List.length_map] at n2
  have hpos := List.length_pos_iff.mpr hl
  obtain ⟨cn, c1, c2, c3⟩ := hB.at (k := 6) (by decide)
  obtain ⟨mk, m1, m2, m3⟩ := hB.at (k := 5) (by decide)
  have c2 : g_A M cn 1 (S.1 6) := c2
  have m2 : g_A M mk 1 (S.1 5) := m2
  have hcv : g_i M cn n = l.length := by rw [c3 _ (by omega) (by omega), n2]
  have hnR : g_InR (n : Int) := ⟨by omega, by omega⟩
  have hlR : g_InR (lv : Int) := ⟨by omega, by omega⟩
  have htl : l.tail.length = l.length - 1 := List.length_tail
  have hlp : ∀ (r P : List (N_i V_W (h + 1))), l.tail = P ++ r → N_dm (V_c w1 w2) ((sg, 0), e) (N_ms h l.tail) = P.length + N_dm (V_c w1 w2) ((sg, 0), e) (N_ms h r) → g_Run (d + 46) 182 41 [(0, .ref t), (1, g_n lv), (2, g_n n), (3, g_n P.length)] [] M (g_qI Q) := by
    intro r
    induction r with
    | nil =>
      intro P h1 h2
      rw [List.append_nil] at h1
      have hpl := congrArg List.length h1
      have h3 : N_dm (V_c w1 w2) ((sg, 0), e) (N_ms h []) = 0 := rfl
      rw [h3] at h2
      have hq' : g_Run (d + 46) 182 84 [(0, .ref t), (1, g_n lv), (2, g_n n), (3, g_n P.length)] [] M (g_qI Q) := by
        unfold N_dn at hq
        rw [h2] at hq
        exact hq
      refine s_X10_descend_41 hlR hnR ⟨by omega, by omega⟩ fun _ => ⟨hB.1, cn, c1, S.1 6, c2, ⟨by omega, by omega⟩, ?_⟩
      rw [hcv]
      exact ⟨⟨by omega, by omega⟩, fun z => absurd z (by omega), fun _ => hq'⟩
    | cons y r ih =>
      intro P h1 h2
      have hpl := congrArg List.length h1
      rw [List.length_append, List.length_cons] at hpl
      have hy : y ∈ l.tail := by rw [h1]; exact List.mem_append_right _ List.mem_cons_self
      have hyu : V_s y.1 ∈ V_us (h + 1) l := List.mem_append_left _ (List.mem_map.mpr ⟨y, hy, rfl⟩)
      have hys := hus _ hyu
      have hye := d3 y hy
      refine s_X10_descend_41 hlR hnR ⟨by omega, by omega⟩ fun _ => ⟨hB.1, cn, c1, S.1 6, c2, ⟨by omega, by omega⟩, ?_⟩
      rw [hcv]
      refine ⟨⟨by omega, by omega⟩, fun _ => ⟨mk, m1, ⟨by omega, by omega⟩, ⟨by omega, by omega⟩, S.1 5, m2, ⟨by omega, by omega⟩, ?_⟩, fun z => absurd (by omega) z⟩
      have hmv : g_i M mk ((n : Int) * 9 + P.length) = V_s y.1 := by
        rw [m3 _ (by omega) (by omega)]
        have := n4 P.length (V_s y.1) (by
          unfold V_ts B_il
          rw [h1, List.getElem?_map, List.getElem?_map, List.getElem?_append_right (Nat.le_refl _), Nat.sub_self]
          rfl)
        exact (congrArg (S.2.1 5) (by omega)).trans this
      rw [hmv, hB.2.1 18, h18]
      refine c_compareSlots (d := d + 1) hB s0 s1 sj hys hsg hye.1 he.1 hye.2 he.2 cw1 cw2 c12 c13 ?_
      intro _ _ _
      have hdm : N_dm (V_c w1 w2) ((sg, 0), e) (N_ms h (y :: r)) = if I_c w1 w2 (V_e y.1) e ≤ 0 then N_dm (V_c w1 w2) ((sg, 0), e) (N_ms h r) + 1 else 0 := rfl
      rw [hdm] at h2
      refine ⟨fun z => ?_, fun z => ⟨⟨by omega, by omega⟩, ?_⟩⟩
      · rw [if_neg (by omega)] at h2
        have h3 : N_dm (V_c w1 w2) ((sg, 0), e) (N_ms h l.tail) = P.length := h2
        unfold N_dn at hq
        rw [h3] at hq
        exact hq
      · rw [if_pos (by omega)] at h2
        have h9 := ih (P ++ [y]) (by rw [h1]; simp) (by rw [List.length_append, List.length_singleton]; omega)
        rw [List.length_append, List.length_singleton, show ((P.length + 1 : Nat) : Int) = (P.length : Int) + 1 by omega] at h9
        exact h9
  exact hlp l.tail [] rfl (by rw [List.length_nil]; omega)
theorem c_desc {Q : Int → g_M → Prop} : ∀ (h lv n : Nat) (l : List (N_i V_W h)) (S : B_S) (M : g_M), B_t t S M → B_cx S j N w1 w2 → S.2.2 18 = sg → B_eg S sg e → (sg : Int) < B_cs j → C_D S h n l → N_fl h l → (0 < h → l ≠ []) → (∀ m ∈ V_ns h n l, (m : Int) < N) → (∀ s ∈ V_us h l, (s : Int) < B_cs j) → S.2.1 10 lv = n → lv + h ≤ 14 → (∀ S1 M1, B_t t S1 M1 → B_F t 0 0 M M1 → B_ag (B_wA lv) B_0 S S1 → S1.1 = S.1 → C_way (V_c w1 w2) ((sg, 0), e) S1 h lv n l → Q (lv + h : Nat) M1) → g_Run (d + 46) 182 12 [(0, .ref t), (1, g_n lv)] [] M (g_qI Q) := by
  intro h
  induction h with
  | zero =>
    intro lv n l S M hB hx h18 he hsg hD hf hne hns hus hw hlv hq
    obtain ⟨⟨l4, l5, l6, l7, lN⟩, ⟨s0, s1, sj⟩, ⟨c12, c13, cw1, cw2⟩, y1, y2⟩ := id hx
    obtain ⟨⟨n1, n2, n3, n4⟩, d2, d3⟩ := C_D_0.mp hD
    have hn := hns n (V_ns_m 0 n l)
    obtain ⟨lf, f1, f2, f3⟩ := hB.at (k := 7) (by decide)
    obtain ⟨wn, g1, g2, g3⟩ := hB.at (k := 10) (by decide)
    have f2 : g_A M lf 2 (S.1 7) := f2
    have g2 : g_A M wn 1 (S.1 10) := g2
    refine s_X10_descend_12 ⟨by omega, by omega⟩ fun _ => ⟨fun _ => ⟨hB.1, lf, f1, wn, g1, S.1 10, g2, ⟨by omega, by omega⟩, ?_⟩, fun z => absurd (by omega) z⟩
    rw [g3 _ (by omega) (by omega), hw]
    refine ⟨S.1 7, f2, ⟨by omega, by omega⟩, ?_⟩
    rw [f3 _ (by omega) (by omega), n1]
    exact ⟨fun z => absurd z (by decide), fun _ => hq S M hB (B_F.rf _ _) (B_ag.rf _ _ _) rfl hw⟩
  | succ h ih =>
    intro lv n l S M hB hx h18 he hsg hD hf hne hns hus hw hlv hq
    obtain ⟨⟨l4, l5, l6, l7, lN⟩, ⟨s0, s1, sj⟩, ⟨c12, c13, cw1, cw2⟩, y1, y2⟩ := id hx
    obtain ⟨⟨n1, n2, n3, n4⟩, d2, d3, d4⟩ := C_D_s.mp hD
    have hn := hns n (V_ns_m (h + 1) n l)
    obtain ⟨lf, f1, f2, f3⟩ := hB.at (k := 7) (by decide)
    obtain ⟨wn, g1, g2, g3⟩ := hB.at (k := 10) (by decide)
    have f2 : g_A M lf 2 (S.1 7) := f2
    have g2 : g_A M wn 1 (S.1 10) := g2
    have hnR : g_InR (n : Int) := ⟨by omega, by omega⟩
    have hlR : g_InR (lv : Int) := ⟨by omega, by omega⟩
    have hlne := hne (by omega)
    refine s_X10_descend_12 hlR fun _ => ⟨fun _ => ⟨hB.1, lf, f1, wn, g1, S.1 10, g2, ⟨by omega, by omega⟩, ?_⟩, fun z => absurd (by omega) z⟩
    rw [g3 _ (by omega) (by omega), hw]
    refine ⟨S.1 7, f2, ⟨by omega, by omega⟩, ?_⟩
    rw [f3 _ (by omega) (by omega), n1]
    refine ⟨fun _ => ⟨wn, g1, S.1 10, g2, ⟨by omega, by omega⟩, ?_⟩, fun z => absurd rfl z⟩
    rw [g3 _ (by omega) (by omega), hw]
    refine c_turn hB hx h18 he hsg hD hn hus (by omega) hlne ?_
    obtain ⟨A, x, B, hs, hA⟩ := N_dn_split (V_c w1 w2) ((sg, 0), e) hlne
    rw [← hA]
    have hxm : x ∈ l := by rw [hs]; exact List.mem_append_right _ List.mem_cons_self
    have hll := congrArg List.length hs
    rw [List.length_append, List.length_cons] at hll
    obtain ⟨wt, t1, t2, -⟩ := hB.at (k := 11) (by decide)
    have t2 : g_A M wt 1 (S.1 11) := t2
    refine s_X10_descend_84 hlR hnR ⟨by omega, by omega⟩ fun _ => ⟨hB.1, wt, t1, S.1 11, t2, ⟨by omega, by omega⟩, fun M7 e7 _ => ?_⟩
    obtain ⟨b7, f7⟩ := hB.set (k := 11) (by decide) t1 (lv : Int) (A.length : Int)
    rw [← e7] at b7 f7
    obtain ⟨wn2, g4, g5, -⟩ := b7.at (k := 10) (by decide)
    have g5 : g_A M7 wn2 1 (S.1 10) := g5
    obtain ⟨kd, k1, k2, k3⟩ := b7.at (k := 4) (by decide)
    have k2 : g_A M7 kd 1 (S.1 4) := k2
    have hkv : g_i M7 kd ((n : Int) * 9 + A.length) = V_n x.1 := by
      rw [k3 _ (by omega) (by show _ < S.1 4; omega)]
      show S.2.1 4 _ = _
      have := n3 A.length (V_n x.1) (by
        unfold B_il
        rw [hs, List.getElem?_map, List.getElem?_map, List.getElem?_append_right (Nat.le_refl _), Nat.sub_self]
        rfl)
      exact (congrArg (S.2.1 4) (by omega)).trans this
    refine ⟨wn2, g4, ⟨by omega, by omega⟩, kd, k1, ⟨by omega, by omega⟩, ⟨by omega, by omega⟩, S.1 4, k2, ⟨by omega, by omega⟩, S.1 10, g5, ⟨by omega, by omega⟩, ?_⟩
    rw [hkv]
    intro M24 e24 _
    obtain ⟨b24, f24⟩ := b7.set (k := 10) (by decide) g4 ((lv : Int) + 1) (V_n x.1 : Int)
    rw [← e24] at b24 f24
    obtain ⟨S4, hS4⟩ : ∃ S4, S4 = B_set (B_set S 11 lv A.length) 10 ((lv : Int) + 1) (V_n x.1) := ⟨_, rfl⟩
    rw [← hS4] at b24
    have ag4 : B_ag (B_wA lv) B_0 S S4 := by
      rw [hS4]
      exact (B_ag.set _ _ _ _ _ _ (Or.inr ⟨rfl, by omega⟩)).tr (B_ag.set _ _ _ _ _ _ (Or.inl ⟨rfl, by omega⟩))
    have e4 : S4.1 = S.1 := by rw [hS4]; rfl
    have hU := hx.us
    have hns2 : ∀ m ∈ V_ns h (V_n x.1) x.2, m ∈ V_ns (h + 1) n l := fun m hm => List.mem_cons_of_mem _ (List.mem_flatMap.mpr ⟨x, hxm, hm⟩)
    have hus2 : ∀ s ∈ V_us h x.2, s ∈ V_us (h + 1) l := fun s hm => List.mem_append_right _ (List.mem_flatMap.mpr ⟨x, hxm, hm⟩)
    obtain ⟨⟨hf1, -⟩, hf2⟩ := N_fl_s.mp hf x hxm
    refine ⟨⟨by omega, by omega⟩, ?_⟩
    have h9 := ih (lv + 1) (V_n x.1) x.2 S4 M24 b24 (hx.ag ag4 e4 (fun z => z) fun z => z) (by rw [ag4.2.2 18 fun z => z]; exact h18) (he.ag hU hsg ag4 (B_wA_sav _ _)) hsg ((d4 x hxm).ag hx.1 hU (fun m hm => hns m (hns2 m hm)) (fun s hm => hus s (hus2 s hm)) ag4 (fun m _ => B_wA_nav _ _) fun s _ => B_wA_sav _ _) hf2 (fun _ z => by rw [z, List.length_nil] at hf1; omega) (fun m hm => hns m (hns2 m hm)) (fun s hm => hus s (hus2 s hm)) (by
      rw [hS4, B_set_v, if_pos ⟨rfl, by omega⟩]) (by omega) fun S1 M1 b1 f1 g1 e1 w1 => by
      have hkeep : S1.2.1 10 lv = S.2.1 10 lv ∧ S1.2.1 11 lv = A.length := by
        constructor
        · rw [g1.2.1 10 lv (fun z => by rcases z with ⟨-, z⟩ | ⟨z, -⟩ <;> omega) (by omega) (by rw [e4]; omega), hS4, B_set_v, if_neg (by omega), B_set_v, if_neg (by omega)]
        · rw [g1.2.1 11 lv (fun z => by rcases z with ⟨z, -⟩ | ⟨-, z⟩ <;> omega) (by omega) (by rw [e4]; omega), hS4, B_set_v, if_neg (by omega), B_set_v, if_pos ⟨rfl, rfl⟩]
      have h8 := hq S1 M1 b1 ((f7.tr0 f24).tr0 f1) (ag4.tr (g1.up (fun k q z => z.elim (fun z => Or.inl ⟨z.1, by have := z.2; omega⟩) fun z => Or.inr ⟨z.1, by have := z.2; omega⟩) fun k z => z)) (by rw [e1, e4]) ⟨by rw [hkeep.1]; exact hw, fun A2 x2 B2 h1 h2 => ?_⟩
      · rw [show lv + (h + 1) = lv + 1 + h by omega] at h8
        exact h8
      · have hAA : A2.length = A.length := by rw [h2, hA]
        rw [hs] at h1
        obtain ⟨q1, q2⟩ := List.append_inj h1.symm hAA
        cases q1
        cases q2
        exact ⟨hkeep.2, w1⟩
    rw [show ((lv + 1 : Nat) : Int) = (lv : Int) + 1 by omega] at h9
    exact h9
end CDESC
