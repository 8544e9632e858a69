/-! TREES OF THE CLASS: an entry goes, from its leaf up -/
section NEX
variable {E : Type} {c : E → E → Int}
/-- the entry is below the child that one goes down to -/
theorem N_ex (hc : v_T c) {e : E} {h : Nat} {A B : List (N_i E (h + 1))} {x : N_i E (h + 1)} (hA : A.length = N_dn c e h (A ++ x :: B)) (hk : N_ok c (h + 1) (A ++ x :: B)) (hf : N_fl (h + 1) (A ++ x :: B)) (hex : ∃ a ∈ N_ins (h + 1) (A ++ x :: B), c a e = 0) : ∃ a ∈ N_ins h x.2, c a e = 0 := by
  obtain ⟨m1, m2⟩ := N_dn_marks hc hA hk hf
  obtain ⟨q1, q2⟩ := (N_ok_s c).mp hk
  obtain ⟨p1, p2, p3⟩ := List.pairwise_append.mp q1
  obtain ⟨p4, p5⟩ := List.pairwise_cons.mp p2
  obtain ⟨a, ha, hae⟩ := hex
  refine ⟨a, ?_, hae⟩
  obtain ⟨z, hz, haz⟩ := N_mem_ins.mp ha
  rcases List.mem_append.mp hz with g | g
  · have k1 := (p3 z g x List.mem_cons_self).1 a haz
    have k2 := m1 fun w => by rw [w] at g; exact absurd g (by simp)
    have := N_lt_le hc k1 k2
    omega
  · rcases List.mem_cons.mp g with g | g
    · exact g ▸ haz
    · have k1 := m2 z g
      have k2 := (p4 z g).2 a haz
      have k3 := N_lt_le hc k1 k2
      have := hc.s a e
      omega
end NEX
section CDN
variable {d t : Nat} {w1 w2 : Int} {sg : Nat} {e : I_E}
/-- the loop that mends: it ends where a node has enough, or at the root -/
theorem c_lpd {Q : g_M → Prop} {j i a1 n lv : Nat} {FS us FN ns : List Nat} {v2 v3 v4 v5 v6 : Int} {h : Nat} {lg : List (N_i V_W h)} {S : B_S} {M : g_M} (hv2 : g_InR v2) (hv3 : g_InR v3) (hv4 : g_InR v4) (hv5 : g_InR v5) (hv6 : g_InR v6) (hB : B_t t S M) (ha : B_all S j i FS us FN ns w1 w2) (hD : C_D S h n lg) (hn : n ∈ ns) (hw : S.2.1 10 lv = n) (hlv : lv ≤ 14) (hK1 : 0 < lv → lg.length < 4 → g_Run (d + 47) 187 108 [(0, .ref t), (1, .ref a1), (2, g_n v2), (3, g_n v3), (4, g_n v4), (5, g_n v5), (6, g_n v6), (7, g_n lv)] [] M (g_qV Q)) (hK2 : ¬ (0 < lv ∧ lg.length < 4) → ∀ v7, g_InR v7 → g_Run (d + 47) 187 141 [(0, .ref t), (1, .ref a1), (2, g_n v2), (3, g_n v3), (4, g_n v4), (5, g_n v5), (6, g_n v6), (7, g_n v7)] [] M (g_qV Q)) : g_Run (d + 47) 187 108 [(0, .ref t), (1, .ref a1), (2, g_n v2), (3, g_n v3), (4, g_n v4), (5, g_n v5), (6, g_n v6), (7, g_n lv)] [] M (g_qV Q) := by
  have hlR : g_InR (lv : Int) := ⟨by omega, by omega⟩
  by_cases g : 0 < lv ∧ lg.length < 4
  · exact hK1 g.1 g.2
  · obtain ⟨⟨n1, n2, n3, n4⟩, d2⟩ := hD.no
    rw [List.length_map] at n2
    obtain ⟨l4, l5, l6, l7, lN⟩ := ha.ln
    have hnl := ha.2.1.lt hn
    obtain ⟨-, -, -, y1, y2⟩ := id ha
    obtain ⟨cn, c1, c2, c3⟩ := hB.at (k := 6) (by decide)
    obtain ⟨wn, p1, p2, p3⟩ := hB.at (k := 10) (by decide)
    have c2 : g_A M cn 1 (S.1 6) := c2
    have p2 : g_A M wn 1 (S.1 10) := p2
    refine s_X10_goes_108 hv2 hv3 hv4 hv5 hv6 hlR fun _ => ⟨fun z => ⟨hB.1, cn, c1, wn, p1, S.1 10, p2, ⟨by omega, by omega⟩, ?_⟩, fun z => hK2 g _ hlR⟩
    rw [p3 _ (by omega) (by omega), hw]
    refine ⟨S.1 6, c2, ⟨by omega, by omega⟩, ?_⟩
    rw [c3 _ (by omega) (by omega), n2]
    exact ⟨fun z2 => absurd ⟨by omega, by omega⟩ g, fun _ => hK2 g _ hlR⟩
theorem c_dn {Q : g_M → Prop} {a1 : Nat} {v2 v3 v4 : Int} (hv2 : g_InR v2) (hv3 : g_InR v3) (hv4 : g_InR v4) (hw1 : I_w w1) (hw2 : I_w w2) : ∀ (h lv n : Nat) (l : List (N_i V_W h)) (S : B_S) (M : g_M) (j i : Nat) (FS us FN ns R R' : List Nat), B_t t S M → B_all S j i FS us FN ns w1 w2 → C_D S h n l → N_ok (I_c w1 w2) h (l.map (V_er h)) → N_fl h l → (0 < h → 2 ≤ l.length) → l.length ≤ 8 → (0 < lv → 4 ≤ l.length) → (∃ a ∈ N_ins h (l.map (V_er h)), I_c w1 w2 a e = 0) → us.Perm (V_us h l ++ R) → ns.Perm (V_ns h n l ++ R') → S.2.2 18 = sg → B_eg S sg e → (sg : Int) < B_cs j → C_way (V_c w1 w2) ((sg, 0), e) S h lv n l → lv + h ≤ 13 → us.length < 1360 → (0 ≤ S.2.2 15 ∧ S.2.2 15 ≤ 2000) → (1 ≤ S.2.2 16 ∧ S.2.2 16 ≤ 990) → (h ≤ S.2.2 17 ∧ S.2.2 17 ≤ 990) → (∀ (S1 : B_S) (M1 : g_M) (lg : List (N_i V_W h)) (j1 : Nat) (FS1 us1 FN1 ns1 : List Nat), B_t t S1 M1 → B_Fc t j i j1 i M M1 → B_ag (V_A R' R) V_GC S S1 → B_all S1 j1 i FS1 us1 FN1 ns1 w1 w2 → C_D S1 h n lg → us1.Perm (V_us h lg ++ R) → ns1.Perm (V_ns h n lg ++ R') → lg.map (V_er h) = N_gone (I_c w1 w2) e h (l.map (V_er h)) → S1.2.2 18 = sg → S1.2.2 15 = S.2.2 15 - 1 → S1.2.2 16 + N_lv h l = S.2.2 16 + N_lv h lg → S1.2.2 17 + ns.length = S.2.2 17 + ns1.length → us1.length ≤ us.length → ns1.length ≤ ns.length → ns.length ≤ ns1.length + h → S1.2.2 16 ≤ S.2.2 16 → S.2.2 16 ≤ S1.2.2 16 + (if h = 0 then 0 else 1) → (0 < lv → lg.length < 4 → g_Run (d + 47) 187 108 [(0, .ref t), (1, .ref a1), (2, g_n v2), (3, g_n v3), (4, g_n v4), (5, g_n (lv + h : Nat)), (6, g_n (V_lf (V_c w1 w2) ((sg, 0), e) h n l).1), (7, g_n lv)] [] M1 (g_qV Q)) ∧ (¬ (0 < lv ∧ lg.length < 4) → ∀ v7, g_InR v7 → g_Run (d + 47) 187 141 [(0, .ref t), (1, .ref a1), (2, g_n v2), (3, g_n v3), (4, g_n v4), (5, g_n (lv + h : Nat)), (6, g_n (V_lf (V_c w1 w2) ((sg, 0), e) h n l).1), (7, g_n v7)] [] M1 (g_qV Q))) → g_Run (d + 47) 187 31 [(0, .ref t), (1, .ref a1), (2, g_n v2), (3, g_n v3), (4, g_n v4), (5, g_n (lv + h : Nat)), (6, g_n (V_lf (V_c w1 w2) ((sg, 0), e) h n l).1), (7, g_n 0)] [] M (g_qV Q) := by
  have hc := I_c_T hw1 hw2
  intro h
  induction h with
  | zero =>
    intro lv n l S M j i FS us FN ns R R' hB ha hD hok hf h2l hl8 hl4 hex hpu hpn h18 he hsg hw hlv hu h15 h16 h17 hK
    change g_Run (d + 47) 187 31 [(0, .ref t), (1, .ref a1), (2, g_n v2), (3, g_n v3), (4, g_n v4), (5, g_n (lv + 0 : Nat)), (6, g_n n), (7, g_n 0)] [] M (g_qV Q)
    obtain ⟨A, B, h1, h2, h3, h4⟩ := N_pl_split hc (e := e) ((N_ok_0 _).mp hok)
    obtain ⟨p, hp⟩ : ∃ p, p = A.length := ⟨_, rfl⟩
    have hll : l.length = A.length + B.length := by
      have := congrArg List.length h1
      rw [List.length_append] at this
      rw [← this]
      show l.length = (l.map (V_er 0)).length
      rw [List.length_map]
    have hnm : n ∈ ns := hpn.mem_iff.mpr (List.mem_append_left _ (V_ns_m 0 n l))
    have hn := ha.2.1.lt hnm
    have hx := ha.cx
    obtain ⟨⟨l4, l5, l6, l7, lN⟩, ⟨s0, s1, sj⟩, ⟨c12, c13, cw1, cw2⟩, y1, y2⟩ := id hx
    have hcs := B_cs_le ⟨j, by omega⟩
    simp only at hcs
    obtain ⟨no1, d2⟩ := hD.no
    have hus : ∀ s ∈ V_us 0 l, s ∈ us := fun s hs => hpu.mem_iff.mpr (List.mem_append_left _ hs)
    have hv5 : g_InR ((lv + 0 : Nat) : Int) := ⟨by omega, by omega⟩
    have hv6 : g_InR (n : Int) := ⟨by omega, by omega⟩
    -- the entry stands behind A
    obtain ⟨b, B1, hB1, hbe⟩ : ∃ b B1, B = b :: B1 ∧ I_c w1 w2 b e = 0 := by
      obtain ⟨a, ha1, ha2⟩ := hex
      obtain ⟨a2, ha3, ha4⟩ := N_mem_ins.mp ha1
      have : a = a2 := List.mem_singleton.mp ha4
      subst this
      have haB : a ∈ A ++ B := by rw [← h1]; exact ha3
      have hp1 : (A ++ B).Pairwise fun a b => I_c w1 w2 a b < 0 := h1 ▸ (N_ok_0 _).mp hok
      obtain ⟨p1, p2, p3⟩ := List.pairwise_append.mp hp1
      rcases List.mem_append.mp haB with z | z
      · have := h3 a z
        omega
      · cases B with
        | nil => exact absurd z (by simp)
        | cons b B1 =>
          refine ⟨b, B1, rfl, ?_⟩
          rcases List.mem_cons.mp z with w | w
          · rw [← w]
            exact ha2
          · have k1 := (List.pairwise_cons.mp p2).1 a w
            have k2 := h4 b List.mem_cons_self
            exact absurd (N_lt_le hc k1 (by omega)) k2
    -- the same of the items with their slots
    obtain ⟨x, hx1, hx2⟩ : ∃ x, l = l.take p ++ x :: l.drop (p + 1) ∧ V_e x = b := by
      have hpl : p < l.length := by rw [hll, hp, hB1, List.length_cons]; omega
      refine ⟨l[p], ?_, ?_⟩
      · rw [← List.drop_eq_getElem_cons hpl, List.take_append_drop]
      · have h9 : (l.map (V_er 0))[p]? = some b := by
          have : @Eq (List I_E) (l.map (V_er 0)) (A ++ B) := h1
          have h8 := congrArg (fun L : List I_E => L[p]?) this
          have h7 : (A ++ B)[p]? = some b := by
            rw [hB1, List.getElem?_append_right (by omega), hp, Nat.sub_self]
            rfl
          exact h8.trans h7
        rw [List.getElem?_map, List.getElem?_eq_getElem hpl] at h9
        exact Option.some.inj h9
    have hTl : (l.take p).length = p := by rw [List.length_take]; omega
    have hlt : ∀ y ∈ l.take p, I_c w1 w2 (V_e y) e < 0 := fun y hy => by
      refine h3 (V_e y) ?_
      have h9 : @Eq (List I_E) ((l.map (V_er 0)).take p) A := by
        have : @Eq (List I_E) (l.map (V_er 0)) (A ++ B) := h1
        have h7 : (A ++ B).take p = A := by rw [hp, List.take_left]
        exact (congrArg (fun L : List I_E => L.take p) this).trans h7
      have h10 : V_er 0 y ∈ (l.map (V_er 0)).take p := by
        rw [← List.map_take]
        exact List.mem_map.mpr ⟨y, hy, rfl⟩
      exact Eq.mp (congrArg (fun L : List I_E => V_e y ∈ L) h9) h10
    obtain ⟨cn, c1, c2, c3⟩ := hB.at (k := 6) (by decide)
    obtain ⟨kd, k1, k2, k3⟩ := hB.at (k := 4) (by decide)
    have c2 : g_A M cn 1 (S.1 6) := c2
    have k2 : g_A M kd 1 (S.1 4) := k2
    have hcv : g_i M cn n = l.length := by rw [c3 _ (by omega) (by omega), no1.2.1, List.length_map]
    have hkv : ∀ (C D : List (N_i V_W 0)) (y : N_i V_W 0), l = C ++ y :: D → g_i M kd ((n : Int) * 9 + C.length) = V_k 0 y ∧ y ∈ l ∧ C.length < l.length := fun C D y hCD => by
      have hl := congrArg List.length hCD
      rw [List.length_append, List.length_cons] at hl
      refine ⟨?_, by rw [hCD]; exact List.mem_append_right _ List.mem_cons_self, by omega⟩
      rw [k3 _ (by omega) (by omega)]
      have := no1.2.2.1 C.length (V_k 0 y) (by
        unfold B_il
        rw [hCD, List.getElem?_map, List.getElem?_map, List.getElem?_append_right (Nat.le_refl _), Nat.sub_self]
        rfl)
      exact (congrArg (S.2.1 4) (by omega)).trans this
    have hloop : ∀ (r P : List (N_i V_W 0)), l.take p = P ++ r → g_Run (d + 47) 187 31 [(0, .ref t), (1, .ref a1), (2, g_n v2), (3, g_n v3), (4, g_n v4), (5, g_n (lv + 0 : Nat)), (6, g_n n), (7, g_n P.length)] [] M (g_qV Q) := by
      intro r
      induction r with
      | cons y r ih =>
        intro P hP
        have hlP : l = P ++ y :: (r ++ x :: l.drop (p + 1)) := by
          have h9 := hx1
          rw [hP, List.append_assoc] at h9
          exact h9
        obtain ⟨q1, q2, q3⟩ := hkv _ _ _ hlP
        have hym : V_k 0 y ∈ V_us 0 l := List.mem_map.mpr ⟨y, q2, rfl⟩
        have hye := hD.2.2 y q2
        have hneg := hlt y (by rw [hP]; exact List.mem_append_right _ List.mem_cons_self)
        refine s_X10_goes_31 hv2 hv3 hv4 hv5 hv6 ⟨by omega, by omega⟩ fun _ => ⟨hB.1, cn, c1, S.1 6, c2, ⟨by omega, by omega⟩, ?_⟩
        rw [hcv]
        refine ⟨fun _ => ⟨kd, k1, ⟨by omega, by omega⟩, ⟨by omega, by omega⟩, S.1 4, k2, ⟨by omega, by omega⟩, ?_⟩, fun z => absurd (by omega) z⟩
        rw [q1, hB.2.1 18, h18]
        refine c_compareSlots (d := d + 2) hB s0 s1 sj (ha.1.lt (hus _ hym)) hsg hye.1 he.1 hye.2 he.2 cw1 cw2 c12 c13 ?_
        intro _ _ _
        refine ⟨fun z => by omega, fun _ => ⟨⟨by omega, by omega⟩, ?_⟩⟩
        have h9 := ih (P ++ [y]) (by rw [hP]; simp)
        rw [List.length_append, List.length_singleton, show ((P.length + 1 : Nat) : Int) = (P.length : Int) + 1 by omega] at h9
        exact h9
      | nil =>
        intro P hP
        rw [List.append_nil] at hP
        rw [hP] at hx1 hTl
        obtain ⟨q1, q2, q3⟩ := hkv P (l.drop (p + 1)) x hx1
        have hym : V_k 0 x ∈ V_us 0 l := List.mem_map.mpr ⟨x, q2, rfl⟩
        have hye := hD.2.2 x q2
        refine s_X10_goes_31 hv2 hv3 hv4 hv5 hv6 ⟨by omega, by omega⟩ fun _ => ⟨hB.1, cn, c1, S.1 6, c2, ⟨by omega, by omega⟩, ?_⟩
        rw [hcv]
        refine ⟨fun _ => ⟨kd, k1, ⟨by omega, by omega⟩, ⟨by omega, by omega⟩, S.1 4, k2, ⟨by omega, by omega⟩, ?_⟩, fun z => absurd (by omega) z⟩
        rw [q1, hB.2.1 18, h18]
        refine c_compareSlots (d := d + 2) hB s0 s1 sj (ha.1.lt (hus _ hym)) hsg hye.1 he.1 hye.2 he.2 cw1 cw2 c12 c13 ?_
        rw [hx2, hbe]
        intro _ _ _
        refine ⟨fun _ => ?_, fun z => absurd rfl z⟩
        obtain ⟨D, hDd⟩ : ∃ D, D = l.drop (p + 1) := ⟨_, rfl⟩
        rw [← hDd] at hx1
        have hks : l.map (V_k 0) = P.map (V_k 0) ++ V_k 0 x :: D.map (V_k 0) := by
          rw [hx1, List.map_append, List.map_cons]
        rw [hks] at no1
        have hPk : (P.map (V_k 0)).length = P.length := List.length_map _
        rw [← hPk]
        have hll2 := congrArg List.length hx1
        rw [List.length_append, List.length_cons] at hll2
        refine c_removeKid (d := d + 46) (N := B_cn i) hB ha.ln hn no1 (by rw [List.length_append, List.length_cons, List.length_map, List.length_map]; omega) (Nat.zero_le _) fun S1 M1 t1 f1 g1 e1 no2 => ?_
        intro _ _
        have a2 := ha.ag g1 e1 (fun q z => by rcases z with ⟨z, -⟩ | ⟨z, -⟩ <;> omega) (fun q z => by rcases z with ⟨z, -⟩ | ⟨z, -⟩ <;> omega) (fun z => z) (fun z => z) (fun z => z) fun z => z
        have hpu0 : us.Perm (V_k 0 x :: (V_us 0 (P ++ D) ++ R)) := hpu.trans (List.perm_iff_count.mpr fun a => by
          rw [V_us_0, V_us_0, hks, List.map_append]
          simp only [List.count_append, List.count_cons]
          omega)
        refine c_freeSlotA (d := d + 46) t1 a2 hpu0 fun S2 M2 t2 f2 g2 e2 a3 => ?_
        intro _ _
        have h152 : g_i M2 t 15 = S.2.2 15 := by rw [t2.2.1 15, g2.2.2 15 (by decide), g1.2.2 15 fun z => z]
        rw [h152]
        refine ⟨⟨by omega, by omega⟩, fun M3 e3 _ => ?_⟩
        obtain ⟨t3, f3⟩ := t2.fld 15 (S.2.2 15 - 1)
        rw [← e3] at t3 f3
        obtain ⟨S3, hS3⟩ : ∃ S3, S3 = B_fld S2 15 (S.2.2 15 - 1) := ⟨_, rfl⟩
        rw [← hS3] at t3
        have g3 : B_ag (fun _ _ => False) (fun k => k = 15) S2 S3 := by
          rw [hS3]
          exact B_ag.fld _ _ _ _ _ rfl
        have a4 := a3.ag g3 (by rw [hS3]; rfl) (fun _ z => z) (fun _ z => z) (by decide) (by decide) (by decide) (by decide)
        have G : B_ag (fun k q => B_kA n k q ∨ k = 2) (fun k => k = 3 ∨ k = 15) S S3 := ((g1.up (fun k q z => Or.inl z) fun k z => z.elim).tr (g2.up (fun k q z => Or.inr z) fun k z => Or.inl z)).tr (g3.up (fun k q z => z.elim) fun k z => Or.inr z)
        have nav : ∀ m, m ≠ n → B_nav (fun k q => B_kA n k q ∨ k = 2) m := fun m hm => by
          obtain ⟨b1, b2, b3⟩ := B_kA_nav hm
          exact ⟨fun q q1 q2 => ⟨fun z => z.elim (b1 q q1 q2).1 fun z => by omega, fun z => z.elim (b1 q q1 q2).2 fun z => by omega⟩, fun z => z.elim b2 fun z => by omega, fun z => z.elim b3 fun z => by omega⟩
        have sav : ∀ s, B_sav (fun k q => B_kA n k q ∨ k = 2) s := fun s => by
          obtain ⟨b1, b2⟩ := B_kA_sav n s
          exact ⟨fun q q1 q2 z => z.elim (b1 q q1 q2) fun z => by omega, fun z => z.elim b2 fun z => by omega⟩
        have way : ∀ q : Int, ¬ (B_kA n 10 q ∨ (10 : Nat) = 2) ∧ ¬ (B_kA n 11 q ∨ (11 : Nat) = 2) := fun q => by
          constructor
          · rintro ((⟨z, -⟩ | ⟨z, -⟩) | z) <;> omega
          · rintro ((⟨z, -⟩ | ⟨z, -⟩) | z) <;> omega
        have hPD : ∀ y ∈ P ++ D, y ∈ l := fun y hy => by
          rw [hx1]
          rcases List.mem_append.mp hy with z | z
          · exact List.mem_append_left _ z
          · exact List.mem_append_right _ (List.mem_cons_of_mem _ z)
        have hPDl : (P.map (V_k 0) ++ D.map (V_k 0)).length ≤ 9 := by rw [List.length_append, List.length_map, List.length_map]; omega
        have no3 : B_no S3 n (V_f 0) ((P ++ D).map (V_k 0)) (V_m 0 (P ++ D)) := by
          rw [List.map_append]
          exact (no2.ag a2.ln hn hPDl (Nat.zero_le _) g2 (B_2_nav n).1 (B_2_nav n).2.1 (B_2_nav n).2.2).ag a3.ln hn hPDl (Nat.zero_le _) g3 (fun _ _ _ => ⟨fun z => z, fun z => z⟩) (fun z => z) fun z => z
        have hD3 : C_D S3 0 n (P ++ D) := hD.re (l' := P ++ D) ha.ln ha.uu (fun m hm => absurd hm (by simp [V_nk])) (fun s hs => ha.1.lt (hus s hs)) G no3 (by rw [List.length_append]; omega) hPD (fun y hy => by
          rw [hx1]
          cases P with
          | nil =>
            have : y ∈ D := List.mem_of_mem_tail hy
            exact this
          | cons a P =>
            rcases List.mem_append.mp (show y ∈ P ++ D from hy) with z | z
            · exact List.mem_append_left _ z
            · exact List.mem_append_right _ (List.mem_cons_of_mem _ z)) (fun m hm => absurd hm (by simp [V_nk])) fun s _ => sav s
        have hRn : ∀ m ∈ R', m ≠ n := fun m hm z => (List.nodup_append.mp ((hpn.nodup_iff).mp ha.2.1.nd)).2.2 n (V_ns_m 0 n l) m hm z.symm
        have hfin := hK S3 M3 (P ++ D) j _ _ FN ns t3 (((f1.tr0 f2).tr0 f3).c j i) (G.up (V_A.of (fun m hm => nav m (hRn m hm)) (fun s _ => sav s) way) fun k z => z.elim (fun z => Or.inl (Or.inl z)) fun z => Or.inr (Or.inl z)) a4 hD3 (List.Perm.refl _) hpn (by
          rw [N_gone_0, ← h2, ← hp, List.eraseIdx_eq_take_drop_succ, ← List.map_take, ← List.map_drop, hP, ← hDd, List.map_append]) (by rw [G.2.2 18 (by decide)]; exact h18) (by rw [hS3, B_fld_v, if_pos rfl]) (by
          rw [G.2.2 16 (by decide)]
          rfl) (by rw [G.2.2 17 (by decide)]) (by rw [hpu0.length_eq, List.length_cons]; omega) (Nat.le_refl _) (by omega) (by rw [G.2.2 16 (by decide)]; exact Int.le_refl _) (by rw [G.2.2 16 (by decide), if_pos rfl]; omega)
        exact c_lpd (d := d) (lv := lv) hv2 hv3 hv4 hv5 hv6 t3 a4 hD3 hnm (by
          rw [G.2.1 10 lv (way lv).1 (by omega) (by omega)]
          exact hw) (by omega) hfin.1 hfin.2
    exact hloop (l.take p) [] rfl
  | succ h ih =>
    intro lv n l S M j i FS us FN ns R R' hB ha hD hok hf h2l hl8 hl4 hex hpu hpn h18 he hsg hw hlv hu h15 h16 h17 hK
    have h2 := h2l (by omega)
    obtain ⟨A, x, B, hs, hA⟩ := N_dn_split (V_c w1 w2) ((sg, 0), e) (l := l) (fun z => by rw [z, List.length_nil] at h2; omega)
    obtain ⟨wq1, wq2⟩ := hw
    obtain ⟨wq3, wq4⟩ := wq2 A x B hs hA
    subst hs
    rw [V_lf_s hA] at hK ⊢
    rw [show lv + (h + 1) = lv + 1 + h by omega] at hK ⊢
    have hxm : x ∈ A ++ x :: B := List.mem_append_right _ List.mem_cons_self
    obtain ⟨⟨fx1, fx2⟩, fx⟩ := N_fl_s.mp hf x hxm
    have hl8' : A.length + (B.length + 1) ≤ 8 := by
      rw [List.length_append, List.length_cons] at hl8
      exact hl8
    have hmap : (A ++ x :: B).map (V_er (h + 1)) = A.map (V_er (h + 1)) ++ V_er (h + 1) x :: B.map (V_er (h + 1)) := by rw [List.map_append, List.map_cons]
    have hdn : (A.map (V_er (h + 1))).length = N_dn (I_c w1 w2) e h (A.map (V_er (h + 1)) ++ V_er (h + 1) x :: B.map (V_er (h + 1))) := by
      have := V_er_dn (w1 := w1) (w2 := w2) ((sg, 0), e) h (A ++ x :: B)
      rw [hmap] at this
      rw [List.length_map, hA]
      exact this.symm
    have hfe := V_er_fl.mp hf
    rw [hmap] at hok hex hfe hK
    have hgone := N_gone_s (I_c w1 w2) e hdn
    have hexx := N_ex hc hdn hok hfe hex
    have hokx : N_ok (I_c w1 w2) h (x.2.map (V_er h)) := hok.2 (V_er (h + 1) x) (List.mem_append_right _ List.mem_cons_self)
    have hexx' : ∃ a ∈ N_ins h (x.2.map (V_er h)), I_c w1 w2 a e = 0 := hexx
    obtain ⟨-, -, gk1, gk2, -⟩ := N_gone_ok hc e h (x.2.map (V_er h)) hokx (V_er_fl.mp fx) (fun _ => by rw [List.length_map]; omega) hexx'
    rw [List.length_map] at gk1 gk2
    rw [hgone] at hK
    obtain ⟨R2, hR2⟩ : ∃ R2, R2 = V_ts h (A ++ x :: B) ++ (V_uk h A ++ V_uk h B) ++ R := ⟨_, rfl⟩
    obtain ⟨R3, hR3⟩ : ∃ R3, R3 = n :: (V_nk (h + 1) A ++ V_nk (h + 1) B) ++ R' := ⟨_, rfl⟩
    have hpu2 : us.Perm (V_us h x.2 ++ R2) := hpu.trans (List.perm_iff_count.mpr fun a => by
      rw [V_us_k, V_uk_app, V_uk_c, hR2]
      simp only [List.count_append, List.count_cons]
      omega)
    have hpn2 : ns.Perm (V_ns h (V_n x.1) x.2 ++ R3) := hpn.trans (List.perm_iff_count.mpr fun a => by
      rw [V_ns_e (h + 1), V_nk_app, V_nk_c, hR3]
      simp only [List.count_append, List.count_cons]
      omega)
    have hcw := V_lf_D (hD.2.2.2 x hxm) fx (fun _ z => by rw [z, List.length_nil] at fx1; omega) wq4
    obtain ⟨lf, hlf⟩ : ∃ lf, lf = V_lf (V_c w1 w2) ((sg, 0), e) h (V_n x.1) x.2 := ⟨_, rfl⟩
    have hcn := B_cn_le ⟨i, by have := ha.2.1.1.2.2.2.2.2; omega⟩
    simp only at hcn
    have hlfl := ha.2.1.lt (hpn2.mem_iff.mpr (List.mem_append_left _ hcw.2.1))
    have hv5 : g_InR ((lv + 1 + h : Nat) : Int) := ⟨by omega, by omega⟩
    have hf01 : 0 ≤ V_f h ∧ V_f h ≤ 1 ∧ ((h = 0 ∧ V_f h = 1) ∨ (h ≠ 0 ∧ V_f h = 0)) := by
      unfold V_f
      by_cases g : h = 0
      · rw [if_pos g]
        exact ⟨by decide, by decide, Or.inl ⟨g, rfl⟩⟩
      · rw [if_neg g]
        exact ⟨by decide, by decide, Or.inr ⟨g, rfl⟩⟩
    refine ih (lv + 1) (V_n x.1) x.2 S M j i FS us FN ns R2 R3 hB ha (hD.2.2.2 x hxm) hokx fx (fun _ => by omega) fx2 (fun _ => fx1) hexx' hpu2 hpn2 h18 he hsg wq4 (by omega) hu h15 h16 (by omega) fun S1 M1 lg j1 FS1 us1 FN1 ns1 t1 f1 g1 a1 D1 pu1 pn1 er1 k18 k15 k16 k17 lu ln1 ln2 lv1 lv2 => ?_
    rw [← hlf] at hK ⊢
    rw [← hlf] at hcw hlfl
    have hv6 : g_InR (lf.1 : Int) := ⟨by omega, by omega⟩
    have hlgl : lg.length ≤ x.2.length ∧ x.2.length ≤ lg.length + 1 := by
      have := congrArg List.length er1
      rw [List.length_map] at this
      omega
    obtain ⟨y0, hy0⟩ : ∃ y0, y0 = N_mk h x.1 lg := ⟨_, rfl⟩
    have e1 : y0.1 = x.1 := by rw [hy0]; rfl
    have e2 : y0.2 = lg := by rw [hy0]; rfl
    have hR2u : ∀ s ∈ R2, s ∈ us := fun s hs => hpu2.mem_iff.mpr (List.mem_append_right _ hs)
    have hR3n : ∀ m ∈ R3, m ∈ ns := fun m hm => hpn2.mem_iff.mpr (List.mem_append_right _ hm)
    have hnR : n ∈ R3 := by rw [hR3]; exact List.mem_cons_self
    have hRR3 : ∀ m ∈ R', m ∈ R3 := fun m hm => by rw [hR3]; exact List.mem_append_right _ hm
    have hRR2 : ∀ s ∈ R, s ∈ R2 := fun s hs => by rw [hR2]; exact List.mem_append_right _ hs
    have D2 : C_D S1 (h + 1) n (A ++ y0 :: B) := hD.sw ha.ln ha.uu (ha.2.1.lt (hR3n n hnR)) (N1 := 0) (fun m hm => by
      have : m ∈ R3 := by
        rw [hR3]
        exact List.mem_append_left _ (List.mem_cons_of_mem _ (List.mem_append.mpr hm))
      exact ⟨ha.2.1.lt (hR3n m this), V_A.nav this⟩) (fun s hs => by
      have : s ∈ R2 := by
        rw [hR2]
        refine List.mem_append_left _ ?_
        rcases hs with z | z
        · exact List.mem_append_left _ z
        · exact List.mem_append_right _ (List.mem_append.mpr z)
      exact ⟨ha.1.lt (hR2u s this), V_A.sav this⟩) g1 (V_A.nav hnR) e1 (by rw [e2]; exact D1)
    have hto : V_ts h (A ++ y0 :: B) = V_ts h (A ++ x :: B) := V_ts_m h A B (by rw [e1])
    have pu2 : us1.Perm (V_us (h + 1) (A ++ y0 :: B) ++ R) := pu1.trans (List.perm_iff_count.mpr fun a => by
      rw [V_us_k, V_uk_app, V_uk_c, e2, hto, hR2]
      simp only [List.count_append]
      omega)
    have pn2 : ns1.Perm (V_ns (h + 1) n (A ++ y0 :: B) ++ R') := pn1.trans (List.perm_iff_count.mpr fun a => by
      rw [V_ns_e (h + 1), V_nk_app, V_nk_c, e1, e2, hR3]
      simp only [List.count_append, List.count_cons]
      omega)
    have y10 := ha.2.2.2.1
    have y11 := ha.2.2.2.2
    have wy : ∀ (q : Int), 0 ≤ q → q < 16 → S1.2.1 10 q = S.2.1 10 q ∧ S1.2.1 11 q = S.2.1 11 q := fun q q1 q2 => ⟨g1.2.1 10 q (fun z => z.1 rfl) q1 (by omega), g1.2.1 11 q (fun z => z.2.1 rfl) q1 (by omega)⟩
    have hW1 : S1.2.1 10 lv = n := by rw [(wy lv (by omega) (by omega)).1]; exact wq1
    have hW2 : S1.2.1 11 lv = A.length := by rw [(wy lv (by omega) (by omega)).2]; exact wq3
    have hW3 : S1.2.1 10 ((lv : Int) + 1) = V_n x.1 := by
      rw [(wy _ (by omega) (by omega)).1]
      have := C_way_1 wq4
      rwa [show ((lv + 1 : Nat) : Int) = (lv : Int) + 1 by omega] at this
    have hnm1 : n ∈ ns1 := pn2.mem_iff.mpr (List.mem_append_left _ (V_ns_m (h + 1) n _))
    have hlvA : ∀ z : N_i V_W (h + 1), N_lv (h + 1) (A ++ z :: B) = N_lv (h + 1) A + (N_lv h z.2 + N_lv (h + 1) B) := fun z => by rw [N_lv_app, N_lv_c]
    have hlv3 : (N_lv (h + 1) (A ++ y0 :: B) : Int) + N_lv h x.2 = N_lv (h + 1) (A ++ x :: B) + N_lv h lg := by
      rw [hlvA, hlvA, e2]
      omega
    have gR : B_ag (V_A R' R) V_GC S S1 := g1.up (V_A.sub hRR3 hRR2) fun k z => z
    have hye : V_er (h + 1) y0 = N_mk h (V_er (h + 1) x).1 (N_gone (I_c w1 w2) e h (V_er (h + 1) x).2) := by
      rw [hy0, V_er_mk, er1]
      rfl
    refine ⟨fun _ g4 => ?_, fun g4 => ?_⟩
    · -- the child has too few
      have hnm3 : V_n x.1 ∈ ns1 := pn1.mem_iff.mpr (List.mem_append_left _ (V_ns_m h _ _))
      have hnl3 := a1.2.1.lt hnm3
      obtain ⟨⟨b1, b2, b3, b4⟩, -⟩ := D1.no
      rw [List.length_map] at b2
      obtain ⟨l4, l5, l6, l7, lN⟩ := a1.ln
      obtain ⟨cn, c1, c2, c3⟩ := t1.at (k := 6) (by decide)
      obtain ⟨wn, p1, p2, p3⟩ := t1.at (k := 10) (by decide)
      have c2 : g_A M1 cn 1 (S1.1 6) := c2
      have p2 : g_A M1 wn 1 (S1.1 10) := p2
      have z10 := a1.2.2.2.1
      rw [show ((lv + 1 : Nat) : Int) = (lv : Int) + 1 by omega]
      refine s_X10_goes_108 hv2 hv3 hv4 hv5 hv6 ⟨by omega, by omega⟩ fun _ => ⟨fun _ => ⟨t1.1, cn, c1, wn, p1, S1.1 10, p2, ⟨by omega, by omega⟩, ?_⟩, fun z => absurd (by omega) z⟩
      rw [p3 _ (by omega) (by omega), hW3]
      refine ⟨S1.1 6, c2, ⟨by omega, by omega⟩, ?_⟩
      rw [c3 _ (by omega) (by omega), b2]
      refine ⟨fun _ => ?_, fun z => absurd (by omega) z⟩
      refine c_mend (d := d + 42) (x := y0) t1 a1 D2 (by rw [e2]; omega) (fun z hz => (N_fl_s.mp hf z (hz.elim (fun w => List.mem_append_left _ w) fun w => List.mem_append_right _ (List.mem_cons_of_mem _ w))).1) (by rw [List.length_append, List.length_cons] at h2 ⊢; exact h2) (by rw [List.length_append, List.length_cons]; exact hl8') pu2 pn2 hW1 hW2 (by omega) (by omega) (by split at lv2 <;> omega) (by omega) fun l' j2 FS2 us2 FN2 ns2 S2 M2 t2 f2 g2 a2 pu3 pn3 D3 er2 x17 x16 xu xn1 xn2 xv1 xv2 => ?_
      intro _ _
      rw [show (lv : Int) + 1 + -1 = lv by omega]
      refine ⟨⟨by omega, by omega⟩, ?_⟩
      have g12 : B_ag (V_A R' R) V_GC S S2 := gR.tr (g2.up (fun k q z => z) fun k z => Or.inl z)
      have hfin := hK S2 M2 l' j2 FS2 us2 FN2 ns2 t2 (f1.tr f2) g12 a2 D3 pu3 pn3 (by rw [er2, hye]) (by rw [g2.2.2 18 (by unfold V_G4; omega)]; exact k18) (by rw [g2.2.2 15 (by unfold V_G4; omega)]; exact k15) (by omega) (by omega) (by omega) (by omega) (by omega) (by omega) (by
        rw [if_neg (by omega)]
        rcases hf01.2.2 with ⟨q1, q2⟩ | ⟨q1, q2⟩
        · rw [if_pos q1] at lv2
          omega
        · rw [if_neg q1] at lv2
          omega)
      refine c_lpd (d := d) (lv := lv) hv2 hv3 hv4 hv5 hv6 t2 a2 D3 (pn3.mem_iff.mpr (List.mem_append_left _ (V_ns_m (h + 1) n _))) ?_ (by omega) hfin.1 hfin.2
      rw [g2.2.1 10 lv (fun z => z.1 rfl) (by omega) (by omega)]
      exact hW1
    · -- it has enough
      refine (hK S1 M1 (A ++ y0 :: B) j1 FS1 us1 FN1 ns1 t1 f1 gR a1 D2 pu2 pn2 ?_ k18 k15 (by omega) k17 lu ln1 (by omega) lv1 (by
        rw [if_neg (by omega)]
        split at lv2 <;> omega)).2 fun z => ?_
      · rw [N_fix_0 (by
          rw [N_mk_2]
          have := congrArg List.length er1
          rw [List.length_map] at this
          show 4 ≤ (N_gone (I_c w1 w2) e h (x.2.map (V_er h))).length
          omega), List.map_append, List.map_cons, hye]
      · have := hl4 z.1
        rw [List.length_append, List.length_cons] at this
        have h9 := z.2
        rw [List.length_append, List.length_cons] at h9
        omega
end CDN
