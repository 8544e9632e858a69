/-! TREES OF THE CLASS: an entry goes from a tree -/
section CGO
variable {d t : Nat} {w1 w2 : Int}
/-- there are as many nodes as levels -/
theorem V_ns_ge : ∀ (h n : Nat) (l : List (N_i V_W h)), N_fl h l → (0 < h → l ≠ []) → h + 1 ≤ (V_ns h n l).length := by
  intro h
  induction h with
  | zero => exact fun n l _ _ => Nat.le_refl 1
  | succ h ih =>
    intro n l hf hl
    cases l with
    | nil => exact absurd rfl (hl (by omega))
    | cons x r =>
      obtain ⟨⟨⟨f1, -⟩, f2⟩, -⟩ := N_fl_c.mp hf
      have := ih (V_n x.1) x.2 f2 fun _ z => by rw [z, List.length_nil] at f1; omega
      rw [V_ns_e, V_nk_c, List.length_cons, List.length_append]
      omega
theorem c_goes {Q : g_M → Prop} {T : N_T I_E} {j i a : Nat} {n p q v : Int} {D D2 : Nat} {k k2 : Int} {nm nm2 vb vb2 : List Int} {M : g_M} (hT : C_tr t w1 w2 T j i M) (hA : g_A M a 0 n) (hn : n ≤ 1000000000) (hna : ¬ B_own t M a) (h1 : b_st (g_i M a) n p D k nm vb) (h2 : b_st (g_i M a) n q D2 k2 nm2 vb2) (hg : I_eg ((k, vb), (k2, vb2), v)) (hl : (N_all T).length ≤ 1000) (hex : ∃ x ∈ N_all T, I_c w1 w2 x ((k, vb), (k2, vb2), v) = 0) (hq : ∀ (j1 : Nat) (M1 : g_M), C_tr t w1 w2 (N_leave (I_c w1 w2) ((k, vb), (k2, vb2), v) T) j1 i M1 → B_Fc t j i j1 i M M1 → Q M1) : g_Call (d + 48) 187 [.ref t, .ref a, g_n p, g_n q, g_n v] M (g_qV Q) := by
  obtain ⟨S, FS, FN, sg, h, rt, l, ⟨hB, ha, hD, ⟨h14, h18, h15, h16, h17⟩, hgd⟩, hTe⟩ := hT
  obtain ⟨e, he⟩ : ∃ e : I_E, e = ((k, vb), (k2, vb2), v) := ⟨_, rfl⟩
  rw [← he] at hg hex hq
  subst hTe
  rw [V_ins_len] at hl
  obtain ⟨z1, z2, z3, z4, z5, z6, z7, z8⟩ := V_size (rt := rt) hgd (by omega)
  have hc := I_c_T ha.2.2.1.2.2.1 ha.2.2.1.2.2.2
  have hud := ha.1.nd
  have hsgn : ∀ s ∈ V_us h l, s ≠ sg := fun s hs z => (List.nodup_cons.mp hud).1 (z ▸ hs)
  have hsgl := ha.1.lt (s := sg) List.mem_cons_self
  have hcs := B_cs_le ⟨j, by have := ha.1.1.2.2.2; omega⟩
  have hcn := B_cn_le ⟨i, by have := ha.2.1.1.2.2.2.2.2; omega⟩
  simp only at hcs hcn
  have p4 := h1.2.2.2.1
  have p5 := h1.2.2.2.2
  have q4 := h2.2.2.2.1
  have q5 := h2.2.2.2.2
  have b1 := b_el_len k nm vb
  have b2 := b_el_len k2 nm2 vb2
  have hpR : g_InR p := ⟨by omega, by omega⟩
  have hqR : g_InR q := ⟨by omega, by omega⟩
  have hvR : g_InR v := by have := hg.2.2; rw [he] at this; exact this
  have y10 := ha.2.2.2.1
  have y11 := ha.2.2.2.2
  refine m_X10_goes hpR hqR hvR fun _ => ⟨hB.1, ?_⟩
  rw [hB.2.1 18, h18]
  refine c_fill (d := d + 44) hB ha.uu hsgl hA hn hna h1 h2 (by have := hg.1.2; rw [he] at this; exact this) (by have := hg.2.1.2; rw [he] at this; exact this) hvR fun S1 M2 t1 f1 g1 e1 eb => ?_
  intro _ _
  rw [← he] at eb
  have a1 : B_all S1 j i FS (sg :: V_us h l) FN (V_ns h rt l) w1 w2 := ha.ag g1 e1 (fun q z => by rcases z with ⟨z, -⟩ | ⟨z, -⟩ <;> omega) (fun q z => by rcases z with ⟨z, -⟩ | ⟨z, -⟩ <;> omega) (fun z => z) (fun z => z) (fun z => z) fun z => z
  have D1 : C_D S1 h rt l := hD.ag ha.ln ha.uu (fun m hm => ha.2.1.lt hm) (fun s hs => ha.1.lt (List.mem_cons_of_mem _ hs)) g1 (fun m _ => B_sA_nav sg m) fun s hs => B_sA_sav (hsgn s hs)
  have hf1 : ∀ k, S1.2.2 k = S.2.2 k := fun k => g1.2.2 k fun z => z
  obtain ⟨wn, w3, w4, -⟩ := t1.at (k := 10) (by decide)
  have w4 : g_A M2 wn 1 (S1.1 10) := w4
  have e10 : S1.1 10 = 16 := by rw [e1]; exact y10
  refine m_X10_descend (d := d + 46) fun _ => ⟨t1.1, wn, w3, S1.1 10, w4, ⟨by decide, by omega⟩, ?_⟩
  rw [t1.2.1 14, hf1, h14]
  intro M7 e7 _
  obtain ⟨t2, f2⟩ := t1.set (k := 10) (by decide) w3 0 (rt : Int)
  rw [← e7] at t2 f2
  have g2 : B_ag (fun k _ => k = 10) B_0 S1 (B_set S1 10 0 rt) := B_ag.set _ _ _ _ _ _ rfl
  have nav10 : ∀ m, B_nav (fun k _ => k = 10) m := fun m => ⟨fun _ _ _ => ⟨fun z => absurd (show (4 : Nat) = 10 from z) (by decide), fun z => absurd (show (5 : Nat) = 10 from z) (by decide)⟩, fun z => absurd (show (6 : Nat) = 10 from z) (by decide), fun z => absurd (show (7 : Nat) = 10 from z) (by decide)⟩
  have sav10 : ∀ s, B_sav (fun k _ => k = 10) s := fun s => ⟨fun _ _ _ z => absurd (show (0 : Nat) = 10 from z) (by decide), fun z => absurd (show (1 : Nat) = 10 from z) (by decide)⟩
  have a2 : B_all (B_set S1 10 0 rt) j i FS (sg :: V_us h l) FN (V_ns h rt l) w1 w2 := a1.ag g2 rfl (fun _ z => absurd (show (2 : Nat) = 10 from z) (by decide)) (fun _ z => absurd (show (8 : Nat) = 10 from z) (by decide)) (fun z => z) (fun z => z) (fun z => z) fun z => z
  have D2 : C_D (B_set S1 10 0 rt) h rt l := D1.ag a1.ln a1.uu (fun m hm => a1.2.1.lt hm) (fun s hs => a1.1.lt (List.mem_cons_of_mem _ hs)) g2 (fun m _ => nav10 m) fun s _ => sav10 s
  have eb1 : B_eg S1 sg e := ⟨eb, hg⟩
  have eb2 : B_eg (B_set S1 10 0 rt) sg e := eb1.ag a1.uu (a1.1.lt List.mem_cons_self) g2 (sav10 sg)
  have h182 : (B_set S1 10 0 rt).2.2 18 = sg := by rw [B_set_f, hf1]; exact h18
  refine c_desc (d := d) h 0 rt l _ M7 t2 a2.cx h182 eb2 (a2.1.lt List.mem_cons_self) D2 z5 z7 (fun m hm => a2.2.1.lt hm) (fun s hs => a2.1.lt (List.mem_cons_of_mem _ hs)) (by rw [B_set_v, if_pos ⟨rfl, rfl⟩]) (by omega) fun S3 M8 t3 f3 g3 e3 hw => ?_
  intro _ _ hrR
  have a3 : B_all S3 j i FS (sg :: V_us h l) FN (V_ns h rt l) w1 w2 := a2.ag g3 e3 (fun q z => by rcases z with ⟨z, -⟩ | ⟨z, -⟩ <;> omega) (fun q z => by rcases z with ⟨z, -⟩ | ⟨z, -⟩ <;> omega) (fun z => z) (fun z => z) (fun z => z) fun z => z
  have D3 : C_D S3 h rt l := D2.ag a2.ln a2.uu (fun m hm => a2.2.1.lt hm) (fun s hs => a2.1.lt (List.mem_cons_of_mem _ hs)) g3 (fun m _ => B_wA_nav 0 m) fun s _ => B_wA_sav 0 s
  have eb3 : B_eg S3 sg e := eb2.ag a2.uu (a2.1.lt List.mem_cons_self) g3 (B_wA_sav 0 sg)
  have hf3 : ∀ k, S3.2.2 k = S.2.2 k := fun k => by rw [g3.2.2 k fun z => z, B_set_f, hf1]
  obtain ⟨v1, v2, v3, v4, v5⟩ := V_lf_D D3 z5 z7 hw
  obtain ⟨lf, hlf⟩ : ∃ lf, lf = V_lf (V_c w1 w2) ((sg, 0), e) h rt l := ⟨_, rfl⟩
  rw [← hlf] at v1 v2 v3 v4 v5
  obtain ⟨wn3, w5, w6, w7⟩ := t3.at (k := 10) (by decide)
  have w6 : g_A M8 wn3 1 (S3.1 10) := w6
  have e310 : S3.1 10 = 16 := by rw [e3]; exact e10
  have hlfl := a3.2.1.lt v2
  have hl9 : lf.2.length ≤ 9 := v1.2.1
  refine ⟨wn3, w5, S3.1 10, w6, ⟨by omega, by omega⟩, ?_⟩
  rw [w7 _ (by omega) (by omega), v5]
  have hns := V_ns_ge h rt l z5 z7
  have hg2 : 0 < h → 2 ≤ l.length := fun z => by
    have := hgd.2.2.2 z
    change 2 ≤ (l.map (V_er h)).length at this
    rwa [List.length_map] at this
  have hdn := c_dn (d := d) (t := t) (w1 := w1) (w2 := w2) (sg := sg) (e := e) (Q := Q) (a1 := a) hpR hqR hvR ha.2.2.1.2.2.1 ha.2.2.1.2.2.2 h 0 rt l S3 M8 j i FS (sg :: V_us h l) FN (V_ns h rt l) [sg] [] t3 a3 D3 hgd.1 z5 hg2 z6 (fun z => absurd z (by decide)) hex (List.perm_iff_count.mpr fun a => by
    simp only [List.count_append, List.count_cons, List.count_nil]
    omega) (by rw [List.append_nil]) (by rw [hf3]; exact h18) eb3 (a3.1.lt List.mem_cons_self) hw (by omega) (by rw [List.length_cons]; omega) (by rw [hf3, h15]; omega) (by rw [hf3, h16]; omega) (by rw [hf3, h17]; omega)
  rw [← hlf] at hdn
  refine hdn fun S4 M9 lg j1 FS1 us1 FN1 ns1 t4 f4 g4 a4 D4 pu4 pn4 er4 k18 k15 k16 k17 lu ln1 ln2 lv1 lv2 => ⟨fun z => absurd z (by decide), fun _ v7 hv7 => ?_⟩
  rw [List.append_nil] at pn4
  have F : B_Fc t j i j1 i M M9 := (((f1.tr0 f2).tr0 f3).c j i).tr f4
  have hpn4 := pn4.length_eq
  obtain ⟨hen1, b0, hb1, hb2⟩ := N_leave_ok hc (e := e) hgd hex
  have hlen0 := hb2.length_eq
  rw [V_ins_len, List.length_cons] at hlen0
  have hlv : N_leave (I_c w1 w2) e ⟨h, l.map (V_er h)⟩ = N_shrink h (lg.map (V_er h)) := by
    unfold N_leave
    show N_shrink h (N_gone (I_c w1 w2) e h (l.map (V_er h))) = _
    rw [er4]
  have h144 : S4.2.2 14 = rt := by rw [g4.2.2 14 (by unfold V_GC V_G4; omega), hf3]; exact h14
  have h164 : S4.2.2 16 = N_lv h lg := by
    rw [hf3, h16] at k16
    omega
  have h174 : S4.2.2 17 = (V_ns h rt lg).length := by
    rw [hf3, h17] at k17
    omega
  have h154 : S4.2.2 15 = (N_ins h l).length - 1 := by rw [k15, hf3, h15]
  have hnm : rt ∈ ns1 := pn4.mem_iff.mpr (V_ns_m h rt lg)
  have hnl := a4.2.1.lt hnm
  obtain ⟨⟨n1, n2, n3, n4⟩, d2⟩ := D4.no
  rw [List.length_map] at n2
  obtain ⟨l4, l5, l6, l7, lN⟩ := id a4.ln
  obtain ⟨lf4, c1, c2, c3⟩ := t4.at (k := 7) (by decide)
  have c2 : g_A M9 lf4 2 (S4.1 7) := c2
  obtain ⟨cn4, x1, x2, x3⟩ := t4.at (k := 6) (by decide)
  have x2 : g_A M9 cn4 1 (S4.1 6) := x2
  have hv6 : g_InR (lf.1 : Int) := ⟨by omega, by omega⟩
  have puA : us1.Perm (sg :: V_us h lg) := pu4.trans (List.perm_iff_count.mpr fun a => by
    simp only [List.count_append, List.count_cons, List.count_nil]
    omega)
  refine s_X10_goes_141 hpR hqR hvR hrR hv6 hv7 fun _ => ⟨t4.1, lf4, c1, S4.1 7, c2, ?_⟩
  rw [t4.2.1 14, h144, c3 _ (by omega) (by omega), n1]
  refine ⟨⟨by omega, by omega⟩, ?_⟩
  have hstay : N_shrink h (lg.map (V_er h)) = ⟨h, lg.map (V_er h)⟩ → Q M9 := fun hsh => by
    rw [hlv, hsh] at hen1 hq
    rw [hlv, hsh, V_ins_len] at hlen0
    exact hq j1 M9 ⟨S4, FS1, FN1, sg, h, rt, lg, ⟨t4, a4.pm puA pn4, D4, ⟨h144, k18, by omega, h164, h174⟩, hen1⟩, rfl⟩ F
  cases h with
  | zero => exact ⟨fun z => absurd z (by decide), fun _ => hstay rfl⟩
  | succ h =>
    refine ⟨fun _ => ⟨cn4, x1, S4.1 6, x2, ⟨by omega, by omega⟩, ?_⟩, fun z => absurd rfl z⟩
    rw [x3 _ (by omega) (by omega), n2]
    refine ⟨fun g => ?_, fun g => hstay ?_⟩
    · -- the root has one child
      obtain ⟨x, hx⟩ : ∃ x, lg = [x] := by
        cases lg with
        | nil => rw [List.length_nil] at g; exact absurd g (by decide)
        | cons x r =>
          cases r with
          | nil => exact ⟨x, rfl⟩
          | cons y r => rw [List.length_cons, List.length_cons] at g; omega
      subst hx
      obtain ⟨kd, k1, k2, k3⟩ := t4.at (k := 4) (by decide)
      have k2 : g_A M9 kd 1 (S4.1 4) := k2
      have hkv : g_i M9 kd ((rt : Int) * 9) = V_n x.1 := by
        rw [k3 _ (by omega) (by omega)]
        have := n3 0 (V_n x.1) rfl
        exact (congrArg (S4.2.1 4) (by omega)).trans this
      refine ⟨kd, k1, ⟨by omega, by omega⟩, S4.1 4, k2, ⟨by omega, by omega⟩, ?_⟩
      rw [hkv]
      intro M18 e18 _
      obtain ⟨t5, f5⟩ := t4.fld 14 (V_n x.1 : Int)
      rw [← e18] at t5 f5
      obtain ⟨S5, hS5⟩ : ∃ S5, S5 = B_fld S4 14 (V_n x.1) := ⟨_, rfl⟩
      rw [← hS5] at t5
      have g5 : B_ag (fun _ _ => False) (fun k => k = 14) S4 S5 := by
        rw [hS5]
        exact B_ag.fld _ _ _ _ _ rfl
      have a5 := a4.ag g5 (by rw [hS5]; rfl) (fun _ z => z) (fun _ z => z) (by decide) (by decide) (by decide) (by decide)
      have hns2 : V_ns (h + 1) rt [x] = rt :: V_ns h (V_n x.1) x.2 := by
        rw [V_ns_e, V_nk_c]
        show rt :: (_ ++ []) = _
        rw [List.append_nil]
      rw [hns2] at pn4
      have hnd := (pn4.nodup_iff).mp a4.2.1.nd
      have hlf5 : S5.2.1 7 rt = 0 := by rw [hS5, B_fld_r]; exact n1
      have h165 : S5.2.2 16 = N_lv (h + 1) [x] := by rw [g5.2.2 16 (by decide)]; exact h164
      have h175 : S5.2.2 17 = (V_ns (h + 1) rt [x]).length := by rw [g5.2.2 17 (by decide)]; exact h174
      have hlvx : N_lv (h + 1) [x] = N_lv h x.2 := by
        rw [N_lv_c]
        show _ + 0 = _
        omega
      rw [hf3, h16] at lv1
      rw [h164] at lv1
      rw [hns2, List.length_cons] at h175
      rw [hns2, List.length_cons] at hpn4
      refine c_freeNodeA (d := d + 46) t5 a5 pn4 hlf5 (Or.inl rfl) (by omega) (by omega) fun S6 M6 t6 f6 g6 e6 a6 x17 x16 => ?_
      intro _ _
      have D5 : C_D S5 h (V_n x.1) x.2 := (D4.2.2.2 x List.mem_cons_self).ag a4.ln a4.uu (fun m hm => a4.2.1.lt (pn4.mem_iff.mpr (List.mem_cons_of_mem _ hm))) (fun s hs => a4.1.lt (puA.mem_iff.mpr (List.mem_cons_of_mem _ (List.mem_append_right _ (List.mem_flatMap.mpr ⟨x, List.mem_cons_self, hs⟩))))) g5 (fun m _ => ⟨fun _ _ _ => ⟨fun z => z, fun z => z⟩, fun z => z, fun z => z⟩) fun s _ => ⟨fun _ _ _ z => z, fun z => z⟩
      have D6 : C_D S6 h (V_n x.1) x.2 := D5.ag a5.ln a5.uu (fun m hm => a5.2.1.lt (pn4.mem_iff.mpr (List.mem_cons_of_mem _ hm))) (fun s hs => a5.1.lt (puA.mem_iff.mpr (List.mem_cons_of_mem _ (List.mem_append_right _ (List.mem_flatMap.mpr ⟨x, List.mem_cons_self, hs⟩))))) g6 (fun m _ => B_8_nav m) fun s _ => B_8_sav s
      have hsh : N_shrink (h + 1) ([x].map (V_er (h + 1))) = ⟨h, x.2.map (V_er h)⟩ := rfl
      rw [hlv, hsh] at hen1 hq
      rw [hlv, hsh, V_ins_len] at hlen0
      have nG : ∀ k : Int, k ≠ 9 → k ≠ 16 → k ≠ 17 → ¬ B_nG k := fun k z1 z2 z3 z => by rcases z with z | z | z <;> omega
      have hus2 : V_us (h + 1) [x] = V_us h x.2 := by
        rw [V_us_k, V_uk_c]
        show [] ++ (_ ++ []) = _
        rw [List.nil_append, List.append_nil]
      rw [hus2] at puA
      refine hq j1 M6 ⟨S6, FS1, FN1 ++ [rt], sg, h, V_n x.1, x.2, ⟨t6, a6.pm puA (List.Perm.refl _), D6, ⟨?_, ?_, ?_, ?_, ?_⟩, hen1⟩, rfl⟩ (F.tr ((f5.tr0 f6).c j1 i))
      · rw [g6.2.2 14 (nG 14 (by decide) (by decide) (by decide)), hS5, B_fld_v, if_pos rfl]
      · rw [g6.2.2 18 (nG 18 (by decide) (by decide) (by decide)), g5.2.2 18 (by decide)]
        exact k18
      · rw [g6.2.2 15 (nG 15 (by decide) (by decide) (by decide)), g5.2.2 15 (by decide), h154]
        omega
      · rw [x16, h165, hlvx]
        omega
      · rw [x17, h175]
        omega
    · -- it has more
      refine N_shrink_2 fun _ => ?_
      rw [List.length_map]
      have hg := N_gone_ok hc e (h + 1) (l.map (V_er (h + 1))) hgd.1 hgd.2.1 hgd.2.2.2 hex
      have hg3 := hg.2.2.1
      rw [← er4, List.length_map, List.length_map] at hg3
      have := hg2 (by omega)
      omega
end CGO
