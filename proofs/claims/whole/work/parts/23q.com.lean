/-! TREES OF THE CLASS: an entry comes to a tree -/
def C_T (t : Nat) (w1 w2 : Int) (S : B_S) (M : g_M) (j i : Nat) (FS FN : List Nat) (sg h rt : Nat) (l : List (N_i V_W h)) : Prop := B_t t S M ∧ B_all S j i FS (sg :: V_us h l) FN (V_ns h rt l) w1 w2 ∧ C_D S h rt l ∧ (S.2.2 14 = rt ∧ S.2.2 18 = sg ∧ S.2.2 15 = (N_ins h l).length ∧ S.2.2 16 = N_lv h l ∧ S.2.2 17 = (V_ns h rt l).length) ∧ N_good (I_c w1 w2) ⟨h, l.map (V_er h)⟩
/-- the tree object t holds this tree, with so much room -/
def C_tr (t : Nat) (w1 w2 : Int) (T : N_T I_E) (j i : Nat) (M : g_M) : Prop := ∃ S FS FN sg h rt l, C_T t w1 w2 S M j i FS FN sg h rt l ∧ T = ⟨h, l.map (V_er h)⟩
theorem B_F.own {t x : Nat} {y w : Int} {M M1 : g_M} (h : B_F t y w M M1) (hx : x < 2 * M.1.length) (hn : ¬ B_own t M x) : ¬ B_own t M1 x := (h.out hx hn).2.2
section CCOM
variable {d t : Nat} {w1 w2 : Int}
theorem V_ins_len {h : Nat} (l : List (N_i V_W h)) : (N_all (⟨h, l.map (V_er h)⟩ : N_T I_E)).length = (N_ins h l).length := by
  show (N_ins h (l.map (V_er h))).length = _
  rw [V_er_ins, List.length_map]
/-- how great it is -/
theorem V_size {h rt : Nat} {l : List (N_i V_W h)} (hg : N_good (I_c w1 w2) ⟨h, l.map (V_er h)⟩) (hn : (N_ins h l).length ≤ 1001) : h ≤ 4 ∧ N_lv h l ≤ 251 ∧ (V_ns h rt l).length ≤ 335 ∧ (V_us h l).length ≤ (N_ins h l).length + 250 ∧ N_fl h l ∧ l.length ≤ 8 ∧ (0 < h → l ≠ []) ∧ 1 ≤ N_lv h l := by
  obtain ⟨s1, s2, s3, s4, s5⟩ := N_size hg (by rw [V_ins_len]; exact hn)
  obtain ⟨-, g2, g3, g4⟩ := hg
  change h ≤ 4 at s1
  change N_lv h (l.map (V_er h)) ≤ 251 at s2
  change N_mk2 h (l.map (V_er h)) ≤ 250 at s3
  change N_lv h (l.map (V_er h)) + N_im h (l.map (V_er h)) ≤ 335 at s4
  change 1 ≤ N_lv h (l.map (V_er h)) at s5
  rw [V_er_lv] at s2 s4 s5
  rw [V_er_mk2] at s3
  rw [V_er_im] at s4
  change (l.map (V_er h)).length ≤ 8 at g3
  rw [List.length_map] at g3
  refine ⟨s1, s2, by rw [V_ns_len]; exact s4, by rw [V_us_len]; omega, V_er_fl.mpr g2, g3, fun z w => ?_, s5⟩
  have := g4 z
  change 2 ≤ (l.map (V_er h)).length at this
  rw [List.length_map, w, List.length_nil] at this
  omega
theorem c_comes {Q : g_M → Prop} {T : N_T I_E} {j i a : Nat} {n p q v : Int} {D D2 : Nat} {k k2 : Int} {nm nm2 vb vb2 : List Int} {M : g_M} (hT : C_tr t w1 w2 T j i M) (hA : g_A M a 0 n) (hn : n ≤ 1000000000) (hna : ¬ B_own t M a) (h1 : b_st (g_i M a) n p D k nm vb) (h2 : b_st (g_i M a) n q D2 k2 nm2 vb2) (hg : I_eg ((k, vb), (k2, vb2), v)) (hl : (N_all T).length ≤ 999) (hnew : ∀ x ∈ N_all T, I_c w1 w2 x ((k, vb), (k2, vb2), v) ≠ 0) (hq : ∀ (j1 i1 : Nat) (M1 : g_M), C_tr t w1 w2 (N_enter (I_c w1 w2) ((k, vb), (k2, vb2), v) T) j1 i1 M1 → B_Fc t j i j1 i1 M M1 → Q M1) : g_Call (d + 48) 183 [.ref t, .ref a, g_n p, g_n q, g_n v] M (g_qV Q) := by
  obtain ⟨S, FS, FN, sg, h, rt, l, ⟨hB, ha, hD, ⟨h14, h18, h15, h16, h17⟩, hgd⟩, hTe⟩ := hT
  obtain ⟨e, he⟩ : ∃ e : I_E, e = ((k, vb), (k2, vb2), v) := ⟨_, rfl⟩
  rw [← he] at hg hnew hq
  subst hTe
  rw [V_ins_len] at hl
  obtain ⟨z1, z2, z3, z4, z5, z6, z7, z8⟩ := V_size (rt := rt) hgd (by omega)
  have hc := I_c_T ha.2.2.1.2.2.1 ha.2.2.1.2.2.2
  have hud := ha.1.nd
  have hsgn : ∀ s ∈ V_us h l, s ≠ sg := fun s hs z => (List.nodup_cons.mp hud).1 (z ▸ hs)
  have hsgl := ha.1.lt (s := sg) List.mem_cons_self
  have hcs := B_cs_le ⟨j, by have := ha.1.1.2.2.2; omega⟩
  have hcn := B_cn_le ⟨i, by have := ha.2.1.1.2.2.2.2.2; omega⟩
  simp only at hcs hcn
  have p4 := h1.2.2.2.1
  have p5 := h1.2.2.2.2
  have q4 := h2.2.2.2.1
  have q5 := h2.2.2.2.2
  have b1 := b_el_len k nm vb
  have b2 := b_el_len k2 nm2 vb2
  have hpR : g_InR p := ⟨by omega, by omega⟩
  have hqR : g_InR q := ⟨by omega, by omega⟩
  have hvR : g_InR v := by have := hg.2.2; rw [he] at this; exact this
  have y10 := ha.2.2.2.1
  have y11 := ha.2.2.2.2
  refine m_X10_comes hpR hqR hvR fun _ => ⟨hB.1, ?_⟩
  rw [hB.2.1 18, h18]
  refine c_fill (d := d + 44) hB ha.uu hsgl hA hn hna h1 h2 (by have := hg.1.2; rw [he] at this; exact this) (by have := hg.2.1.2; rw [he] at this; exact this) hvR fun S1 M2 t1 f1 g1 e1 eb => ?_
  intro _ _
  rw [← he] at eb
  have a1 : B_all S1 j i FS (sg :: V_us h l) FN (V_ns h rt l) w1 w2 := ha.ag g1 e1 (fun q z => by rcases z with ⟨z, -⟩ | ⟨z, -⟩ <;> omega) (fun q z => by rcases z with ⟨z, -⟩ | ⟨z, -⟩ <;> omega) (fun z => z) (fun z => z) (fun z => z) fun z => z
  have D1 : C_D S1 h rt l := hD.ag ha.ln ha.uu (fun m hm => ha.2.1.lt hm) (fun s hs => ha.1.lt (List.mem_cons_of_mem _ hs)) g1 (fun m _ => B_sA_nav sg m) fun s hs => B_sA_sav (hsgn s hs)
  have hf1 : ∀ k, S1.2.2 k = S.2.2 k := fun k => g1.2.2 k fun z => z
  obtain ⟨wn, w3, w4, -⟩ := t1.at (k := 10) (by decide)
  have w4 : g_A M2 wn 1 (S1.1 10) := w4
  have e10 : S1.1 10 = 16 := by rw [e1]; exact y10
  refine m_X10_descend (d := d + 46) fun _ => ⟨t1.1, wn, w3, S1.1 10, w4, ⟨by decide, by omega⟩, ?_⟩
  rw [t1.2.1 14, hf1, h14]
  intro M7 e7 _
  obtain ⟨t2, f2⟩ := t1.set (k := 10) (by decide) w3 0 (rt : Int)
  rw [← e7] at t2 f2
  have g2 : B_ag (fun k _ => k = 10) B_0 S1 (B_set S1 10 0 rt) := B_ag.set _ _ _ _ _ _ rfl
  have nav10 : ∀ m, B_nav (fun k _ => k = 10) m := fun m => ⟨fun _ _ _ => ⟨fun z => absurd (show (4 : Nat) = 10 from z) (by decide), fun z => absurd (show (5 : Nat) = 10 from z) (by decide)⟩, fun z => absurd (show (6 : Nat) = 10 from z) (by decide), fun z => absurd (show (7 : Nat) = 10 from z) (by decide)⟩
  have sav10 : ∀ s, B_sav (fun k _ => k = 10) s := fun s => ⟨fun _ _ _ z => absurd (show (0 : Nat) = 10 from z) (by decide), fun z => absurd (show (1 : Nat) = 10 from z) (by decide)⟩
  have a2 : B_all (B_set S1 10 0 rt) j i FS (sg :: V_us h l) FN (V_ns h rt l) w1 w2 := a1.ag g2 rfl (fun _ z => absurd (show (2 : Nat) = 10 from z) (by decide)) (fun _ z => absurd (show (8 : Nat) = 10 from z) (by decide)) (fun z => z) (fun z => z) (fun z => z) fun z => z
  have D2 : C_D (B_set S1 10 0 rt) h rt l := D1.ag a1.ln a1.uu (fun m hm => a1.2.1.lt hm) (fun s hs => a1.1.lt (List.mem_cons_of_mem _ hs)) g2 (fun m _ => nav10 m) fun s _ => sav10 s
  have eb1 : B_eg S1 sg e := ⟨eb, hg⟩
  have eb2 : B_eg (B_set S1 10 0 rt) sg e := eb1.ag a1.uu (a1.1.lt List.mem_cons_self) g2 (sav10 sg)
  have h182 : (B_set S1 10 0 rt).2.2 18 = sg := by rw [B_set_f, hf1]; exact h18
  refine c_desc (d := d) h 0 rt l _ M7 t2 a2.cx h182 eb2 (a2.1.lt List.mem_cons_self) D2 z5 z7 (fun m hm => a2.2.1.lt hm) (fun s hs => a2.1.lt (List.mem_cons_of_mem _ hs)) (by rw [B_set_v, if_pos ⟨rfl, rfl⟩]) (by omega) fun S3 M8 t3 f3 g3 e3 hw => ?_
  intro _ _ hrR
  have a3 : B_all S3 j i FS (sg :: V_us h l) FN (V_ns h rt l) w1 w2 := a2.ag g3 e3 (fun q z => by rcases z with ⟨z, -⟩ | ⟨z, -⟩ <;> omega) (fun q z => by rcases z with ⟨z, -⟩ | ⟨z, -⟩ <;> omega) (fun z => z) (fun z => z) (fun z => z) fun z => z
  have D3 : C_D S3 h rt l := D2.ag a2.ln a2.uu (fun m hm => a2.2.1.lt hm) (fun s hs => a2.1.lt (List.mem_cons_of_mem _ hs)) g3 (fun m _ => B_wA_nav 0 m) fun s _ => B_wA_sav 0 s
  have eb3 : B_eg S3 sg e := eb2.ag a2.uu (a2.1.lt List.mem_cons_self) g3 (B_wA_sav 0 sg)
  have hf3 : ∀ k, S3.2.2 k = S.2.2 k := fun k => by rw [g3.2.2 k fun z => z, B_set_f, hf1]
  obtain ⟨v1, v2, v3, v4, v5⟩ := V_lf_D D3 z5 z7 hw
  obtain ⟨lf, hlf⟩ : ∃ lf, lf = V_lf (V_c w1 w2) ((sg, 0), e) h rt l := ⟨_, rfl⟩
  rw [← hlf] at v1 v2 v3 v4 v5
  obtain ⟨wn3, w5, w6, w7⟩ := t3.at (k := 10) (by decide)
  have w6 : g_A M8 wn3 1 (S3.1 10) := w6
  have e310 : S3.1 10 = 16 := by rw [e3]; exact e10
  have hlfl := a3.2.1.lt v2
  have hple : N_pl (V_c w1 w2) ((sg, 0), e) (N_es lf.2) ≤ lf.2.length := (N_pl_spec (c := V_c w1 w2) ((sg, 0), e) (N_es lf.2)).1
  have hl9 : lf.2.length ≤ 9 := v1.2.1
  refine ⟨wn3, w5, S3.1 10, w6, ⟨by omega, by omega⟩, ?_⟩
  rw [w7 _ (by omega) (by omega), v5]
  refine c_place (d := d) hpR hqR hvR hrR t3 a3.cx (by rw [hf3]; exact h18) eb3 (a3.1.lt List.mem_cons_self) v1 hlfl (fun s hs => a3.1.lt (List.mem_cons_of_mem _ (v3 s hs))) (fun x hx => hnew _ (by
    show V_e x ∈ N_ins h (l.map (V_er h))
    rw [V_er_ins]
    exact List.mem_map.mpr ⟨x, v4 x hx, rfl⟩)) ?_
  have hup := c_up (d := d) (t := t) (w1 := w1) (w2 := w2) (sg := sg) (e := e) (Q := Q) (a1 := a) hpR hqR hvR h 0 rt l S3 M8 j i FS (sg :: V_us h l) FN (V_ns h rt l) [] [] t3 a3 D3 z5 z7 z6 (by rw [List.append_nil]) (by rw [List.append_nil]) (by rw [hf3]; exact h18) eb3 hw (by omega) (by rw [List.length_cons]; omega) (by omega) (by rw [hf3, h15]; omega) (by rw [hf3, h16]; omega) (by rw [hf3, h17]; omega)
  rw [← hlf] at hup
  refine hup fun S4 M9 lp sg1 j1 i1 FS1 us1 FN1 ns1 t4 f4 g4 a4 D4 pu4 pn4 er4 k18 k15 k16 k17 lu ln1 ln2 lv1 lv2 => ?_
  rw [List.append_nil] at pu4 pn4
  have F : B_Fc t j i j1 i1 M M9 := (((f1.tr0 f2).tr0 f3).c j i).tr f4
  have hpn4 := pn4.length_eq
  have ht0 : (0 < h → l.map (V_er h) ≠ []) := fun z w => z7 z (List.map_eq_nil_iff.mp w)
  have hen := N_enter_ok hc (e := e) hgd hnew
  have hcome : N_come (I_c w1 w2) e h (l.map (V_er h)) = N_spl h (lp.map (V_er h)) := by rw [N_come_pre _ e ht0, er4]
  have hent : N_enter (I_c w1 w2) e ⟨h, l.map (V_er h)⟩ = N_grow h (N_spl h (lp.map (V_er h))).1 (N_spl h (lp.map (V_er h))).2 := by
    unfold N_enter
    show N_grow h (N_come (I_c w1 w2) e h (l.map (V_er h))).1 (N_come (I_c w1 w2) e h (l.map (V_er h))).2 = _
    rw [hcome]
  have h144 : S4.2.2 14 = rt := by rw [g4.2.2 14 (by unfold V_GC V_G4; omega), hf3]; exact h14
  have hwy : S4.2.1 10 0 = rt := by
    rw [g4.2.1 10 0 (fun z => z.1 rfl) (by decide) (by omega)]
    exact C_way_1 hw
  have h164 : S4.2.2 16 = N_lv h lp := by
    rw [hf3, h16] at k16
    omega
  have h174 : S4.2.2 17 = (V_ns h rt lp).length := by
    rw [hf3, h17] at k17
    omega
  have h154 : S4.2.2 15 = (N_ins h l).length + 1 := by rw [k15, hf3, h15]
  refine ⟨fun g8 => ?_, fun g8 => ?_⟩
  · rw [N_spl_n (by rw [List.length_map]; exact g8)] at hent
    change N_enter (I_c w1 w2) e ⟨h, l.map (V_er h)⟩ = ⟨h, lp.map (V_er h)⟩ at hent
    rw [hent] at hen hq
    have hlen := hen.2.length_eq
    rw [V_ins_len, List.length_cons, V_ins_len] at hlen
    exact hq j1 i1 M9 ⟨S4, FS1, FN1, sg1, h, rt, lp, ⟨t4, a4.pm pu4 pn4, D4, ⟨h144, k18, by rw [h154, hlen]; omega, h164, h174⟩, hen.1⟩, rfl⟩ F
  · have hlp9 : lp.length = 9 := by
      have := D4.no.2
      omega
    have hnm : rt ∈ ns1 := pn4.mem_iff.mpr (V_ns_m h rt lp)
    have hnl := a4.2.1.lt hnm
    obtain ⟨⟨b1, b2, b3, b4⟩, -⟩ := D4.no
    rw [List.length_map, hlp9] at b2
    obtain ⟨l4, l5, l6, l7, lN⟩ := a4.ln
    obtain ⟨cn, c1, c2, c3⟩ := t4.at (k := 6) (by decide)
    obtain ⟨wn4, p1, p2, p3⟩ := t4.at (k := 10) (by decide)
    have c2 : g_A M9 cn 1 (S4.1 6) := c2
    have p2 : g_A M9 wn4 1 (S4.1 10) := p2
    have z10 := a4.2.2.2.1
    have hv6 : g_InR (lf.1 : Int) := ⟨by omega, by omega⟩
    have hv7 : g_InR ((N_pl (V_c w1 w2) ((sg, 0), e) (N_es lf.2) : Nat) : Int) := ⟨by omega, by omega⟩
    refine s_X10_comes_110 hpR hqR hvR hrR hv6 hv7 ⟨by decide, by decide⟩ fun _ => ⟨fun z => absurd z (by decide), fun _ => ⟨t4.1, cn, c1, wn4, p1, S4.1 10, p2, ⟨by decide, by omega⟩, ?_⟩⟩
    have hp30 : g_i M9 wn4 ((0 : Nat) : Int) = rt := by rw [p3 _ (by decide) (by omega)]; exact hwy
    rw [hp30]
    refine ⟨S4.1 6, c2, ⟨by omega, by omega⟩, ?_⟩
    rw [c3 _ (by omega) (by omega), b2]
    refine ⟨fun _ => ?_, fun z => absurd z (by decide)⟩
    have hlu : us1.length ≤ 1260 := by
      rw [List.length_cons] at lu
      split at lu <;> omega
    have hr := c_splitR (d := d + 1) (R := [sg1]) (R' := []) (Q := fun M12 => g_ext M9 M12 → g_ok M12 → g_InR (((0 : Nat) : Int) + -1) ∧ g_Run (d + 47) 183 110 [(0, .ref t), (1, .ref a), (2, g_n p), (3, g_n q), (4, g_n v), (5, g_n (0 + h : Nat)), (6, g_n lf.1), (7, g_n (N_pl (V_c w1 w2) ((sg, 0), e) (N_es lf.2))), (8, g_n (((0 : Nat) : Int) + -1))] [] M12 (g_qV Q)) t4 a4 D4 hlp9 (pu4.trans (List.perm_iff_count.mpr fun a => by
      simp only [List.count_append, List.count_cons, List.count_nil]
      omega)) (by rw [List.append_nil]; exact pn4) hwy (by omega) (by omega) (by omega) (by omega) fun nn nr ms j2 i2 FS2 us2 FN2 ns2 S5 M5 y r hd t5 f5 g5 a5 pu5 pn5 D5 k14 x17 x16 => by
      intro _ _
      refine ⟨⟨by decide, by decide⟩, s_X10_comes_110 hpR hqR hvR hrR hv6 hv7 ⟨by decide, by decide⟩ fun _ => ⟨fun _ => ?_, fun z => absurd (by decide) z⟩⟩
      rw [V_er_spl g8 hd] at hent
      obtain ⟨l2, hl2⟩ : ∃ l2, l2 = [N_mk h ((ms, rt), V_e (N_f h y)) (lp.take 4), N_mk h ((ms, nr), V_e (N_f h y)) (lp.drop 4)] := ⟨_, rfl⟩
      have hent2 : N_enter (I_c w1 w2) e ⟨h, l.map (V_er h)⟩ = ⟨h + 1, l2.map (V_er (h + 1))⟩ := by
        rw [hent, hl2, List.map_cons, List.map_cons, V_er_mk, V_er_mk]
        rfl
      rw [hent2] at hen hq
      have hlen := hen.2.length_eq
      rw [V_ins_len, List.length_cons, V_ins_len] at hlen
      rw [← hl2] at pu5 pn5 D5
      have hcl := N_lv_cut h lp
      have hlv5 : N_lv (h + 1) l2 = N_lv h (lp.take 4) + (N_lv h (lp.drop 4) + 0) := by rw [hl2, N_lv_c, N_lv_c]; rfl
      have hns5 : (V_ns (h + 1) nn l2).length = (V_ns h rt lp).length + 2 := by
        have q3 := V_ns_cutl h rt nr lp
        rw [hl2, V_ns_e (h + 1), V_nk_c, V_nk_c, List.length_cons, List.length_append, List.length_append]
        change (V_ns h rt (lp.take 4)).length + ((V_ns h nr (lp.drop 4)).length + 0) + 1 = _
        omega
      rw [List.append_nil] at pn5
      have e18 : S5.2.2 18 = sg1 := by rw [g5.2.2 18 (by unfold V_G5 V_G4; omega)]; exact k18
      have e15 : S5.2.2 15 = (N_ins h l).length + 1 := by rw [g5.2.2 15 (by unfold V_G5 V_G4; omega)]; exact h154
      exact hq j2 i2 M5 ⟨S5, FS2, FN2, sg1, h + 1, nn, l2, ⟨t5, a5.pm (pu5.trans (List.perm_iff_count.mpr fun a => by
        simp only [List.count_append, List.count_cons, List.count_nil]
        omega)) pn5, D5, ⟨k14, e18, by rw [e15, hlen]; omega, by omega, by omega⟩, hen.1⟩, rfl⟩ (F.tr f5)
    exact hr
end CCOM
