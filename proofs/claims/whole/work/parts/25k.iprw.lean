/-! INDEX: it is prepared, class: the whole -/
theorem I_PF.then {x p1 f1 t1 p2 f2 t2 t r : Nat} {S : Nat → Prop} {M M1 M2 : g_M} (h : I_PF x p1 f1 t1 p2 f2 t2 t r M M1) (f : k_F S r M1 M2) (hS : ∀ y, S y → y = x ∨ p_S p1 f1 t1 y ∨ p_S p2 f2 t2 y ∨ B_own t M1 y) (ho : ∀ y, B_own t M2 y → B_own t M1 y ∨ 2 * M1.1.length ≤ y) (hx : ∀ k : Int, k ≠ 9 → k ≠ 10 → k ≠ 11 → k ≠ 12 → g_i M2 x k = g_i M1 x k) (hr : g_r M2 x = g_r M1 x) : I_PF x p1 f1 t1 p2 f2 t2 t r M M2 := by
  obtain ⟨a1, a2, a3, a4⟩ := h
  refine ⟨a1.trN f fun y hy => ?_, fun y hy => ?_, fun k h1 h2 h3 h4 => (hx k h1 h2 h3 h4).trans (a3 k h1 h2 h3 h4), hr.trans a4⟩
  · rcases hS y hy with z | z | z | z
    · exact Or.inl (Or.inl z)
    · exact Or.inl (Or.inr (Or.inl z))
    · exact Or.inl (Or.inr (Or.inr (Or.inl z)))
    · rcases a2 y z with g | g
      · exact Or.inl (Or.inr (Or.inr (Or.inr g)))
      · exact Or.inr g
  · rcases ho y hy with z | z
    · exact a2 y z
    · exact Or.inr (by have := a1.2.1; omega)
theorem I_PF.rf {x p1 f1 t1 p2 f2 t2 t r : Nat} {M : g_M} : I_PF x p1 f1 t1 p2 f2 t2 t r M M := ⟨k_F.rf _ _ _, fun _ h => Or.inl h, fun _ _ _ _ _ => rfl, rfl⟩
section PREPW
variable {d x r b p1 f1 t1 p2 f2 t2 t k1 k2 j i : Nat} {c e n : Int} {L : List Int} {M : g_M} {Y : Nat → Prop}
theorem c_prepare {Q : g_M → Prop} {q1 q2 : Int} {D1 D2 : Nat} {nm1 vb1 nm2 vb2 : List Int} {ea ed : b_E} {ra rd : List b_E} (hG : I_G x r b p1 f1 t1 p2 f2 t2 t k1 k2 n (c + (B_ws j + B_wn i)) (e + (3 * j + 5 * i)) L Y M) (h0 : C_t0 t j i M) (hY : I_Yf Y b f1 t1 f2 t2 k1 k2) (hpd : I_pd p1 f1 t1 p2 f2 t2) (hs1 : b_st (g_i M b) n q1 D1 4 nm1 vb1) (hs2 : b_st (g_i M b) n q2 D2 4 nm2 vb2) (hc1 : b_ch vb1 = ea :: ra) (hc2 : b_ch vb2 = ed :: rd) (hlen : ra.length = rd.length) (hra : ra.length ≤ 1) (ha : ∀ e ∈ ea :: ra, I_ptx e) (hq : ∀ M1 a1 a2 j1 i1, I_Z (I_mkV ea ra ed rd) (fun y => Y y ∨ y = a1 ∨ y = a2) x r b p1 f1 t1 a1 p2 f2 t2 a2 t k1 k2 n (c + ((s_tx ea.2.2).length + I_c2 ra)) (e + (1 + ra.length)) L N_nil j1 i1 M1 → I_PF x p1 f1 t1 p2 f2 t2 t r M M1 → g_i M1 x 9 = 1 → g_i M1 x 11 = 0 → g_i M1 x 12 = 0 → 2 * M.1.length ≤ a1 → 2 * M.1.length ≤ a2 → Q M1) : g_Call (d + 4) 65 [.ref x, g_n q1, g_n q2] M (g_qV Q) := by
  obtain ⟨y1, y2, y3, y4, y5, y6, y7⟩ := hY
  obtain ⟨n1, n2, n3, n4, n5⟩ := hpd
  obtain ⟨o1, o2, o3, o4, o5, o6, o7, o8, o9, o10, o11, o12⟩ := id hG.1
  have hA := hG.2.1.1
  have hn := hG.2.1.2.1
  have hP := hG.2.2.1
  have hp1 := hG.2.2.2.2.1
  have hp2 := hG.2.2.2.2.2.1
  have hdj := hG.2.2.2.2.2.2
  have hnl := hA.len
  obtain ⟨E1, eE1, hk1, hl1⟩ := hs1.kids (e := (4, nm1, vb1)) (Or.inr rfl)
  obtain ⟨E2, eE2, hk2, hl2⟩ := hs2.kids (e := (4, nm2, vb2)) (Or.inr rfl)
  have hk1 : b_sts (g_i M b) n (q1 + 6 + nm1.length) E1 (b_ch vb1) := hk1
  have hk2 : b_sts (g_i M b) n (q2 + 6 + nm2.length) E2 (b_ch vb2) := hk2
  rw [hc1] at hk1
  rw [hc2] at hk2
  obtain ⟨ta, tra⟩ := hk1.cons
  obtain ⟨td, trd⟩ := hk2.cons
  have haa := ha ea List.mem_cons_self
  have hxr : r ≠ x := g_neOO hP.1 o1 (by decide)
  have htx : t ≠ x := g_neOO o12 o1 (by decide)
  have hbx : b ≠ x := fun g => g_neOA o1 hA g.symm
  -- refs of the paths
  have hS1 : ∀ y, p_S p1 f1 t1 y → ¬ p_S p2 f2 t2 y := by
    intro y hy z
    obtain ⟨a1, a2, a3, a4, a5, a6⟩ := hp1
    obtain ⟨b1, b2, b3, b4, b5, b6⟩ := hp2
    rcases hy with hy | hy | hy <;> rcases z with z | z | z <;> rw [hy] at z
    · exact n1 z
    · exact g_neOA a1 b4 z
    · exact g_neOA a1 b5 z
    · exact g_neOA b1 a4 z.symm
    · exact n2 z
    · exact n3 z
    · exact g_neOA b1 a5 z.symm
    · exact n4 z
    · exact n5 z
  have how1 : ∀ y, p_S p1 f1 t1 y → ¬ B_own t M y := fun y hy => by
    rcases hy with z | z | z
    · rw [z]; exact h0.O hp1.1 (by decide)
    · rw [z]; exact (hdj f1 y4).2
    · rw [z]; exact (hdj t1 y5).2
  -- the end
  have hfin : ∀ (M3 : g_M) (a1 a2 j1 i1 : Nat) (v3 v4 : Int), g_InR v3 → g_InR v4 → I_G x r b p1 f1 t1 p2 f2 t2 t k1 k2 n (c + ((s_tx ea.2.2).length + I_c2 ra) + (B_ws j1 + B_wn i1)) (e + (1 + ra.length) + (3 * j1 + 5 * i1)) L Y M3 → C_tr t (I_wy (ed :: rd)) (I_wy rd) N_nil j1 i1 M3 → I_PF x p1 f1 t1 p2 f2 t2 t r M M3 → 2 * M.1.length ≤ a1 → 2 * M.1.length ≤ a2 → (a1 < 2 * M3.1.length ∧ ¬ B_own t M3 a1) → (a2 < 2 * M3.1.length ∧ ¬ B_own t M3 a2) → (∃ m, p_W M3 p1 f1 t1 a1 m 0 (p_sp (s_tx ea.2.2))) → (g_i M3 x 10 = (if ra = [] then 0 else 1)) → (∀ st, I_p2 ra = some st → (∃ m, p_W M3 p2 f2 t2 a2 m 0 st) ∧ st.length ≤ 8) → g_Run (d + 3) 65 132 [(0, .ref x), (1, g_n q1), (2, g_n q2), (3, g_n v3), (4, g_n v4)] [] M3 (g_qV Q) := by
    intro M3 a1 a2 j1 i1 v3 v4 hv3 hv4 hG3 hT3 hF3 hl1 hl2 hn1 hn2 hW1 h10 hW2
    refine s_X3_prepare_132 (hs1.R hn) (hs2.R hn) hv3 hv4 fun _ => ⟨hG3.1.1, fun M4 e4 _ M5 e5 _ M6 e6 _ => ?_⟩
    obtain ⟨g4, f4, ne4, gr4, ow4⟩ := hG3.w e4
    obtain ⟨g5, f5, ne5, gr5, ow5⟩ := g4.w e5
    obtain ⟨g6, f6, ne6, gr6, ow6⟩ := g5.w e6
    have hne : ∀ y, y ≠ x → g_i M6 y = g_i M3 y := fun y hy => by rw [ne6 y hy, ne5 y hy, ne4 y hy]
    have hgr : ∀ y, g_r M6 y = g_r M3 y := fun y => by rw [gr6, gr5, gr4]
    have hff : k_F (fun y => y = x) r M3 M6 := (f4.tr f5).tr f6
    have hxk : ∀ k : Int, k ≠ 9 → k ≠ 11 → k ≠ 12 → g_i M6 x k = g_i M3 x k := fun k h1 h2 h3 => by rw [e6, g_i_wi, if_neg (fun z => h1 z.2), e5, g_i_wi, if_neg (fun z => h3 z.2), e4, g_i_wi, if_neg (fun z => h2 z.2)]
    have how : ∀ y, B_own t M6 y ↔ B_own t M3 y := B_own.of (hgr t)
    have hxo : ¬ B_own t M3 x := hT3.t0.O hG3.1.1 (by decide)
    have hT6 := (hT3.kF hG3.2.2.1 hff (fun y hy => by rw [hy]; exact hxo)).1
    have hlen6 : M3.1.length ≤ M6.1.length := hff.2.1
    have hpx : ∀ {o ff tt aa : Nat} {m : Int} {st : List (List Int)}, p_W M3 o ff tt aa m 0 st → p_W M6 o ff tt aa m 0 st := fun {o ff tt aa m st} g => by
      obtain ⟨⟨z1, z2, z3, z4, z5, z6⟩, w2, w3, -⟩ := id g
      exact g.sm hff.1 ⟨hne _ (g_neOO z1 hG3.1.1 (by decide)), hgr _⟩ (hne _ (fun z => g_neOA hG3.1.1 z4 z.symm)) (hne _ (fun z => g_neOA hG3.1.1 z5 z.symm)) (hne _ (fun z => g_neOA hG3.1.1 w3 z.symm))
    obtain ⟨m1, hW1⟩ := hW1
    have hnone : I_p2 ra = none ↔ ra = [] := by
      rcases ra with _ | ⟨ec, ra⟩
      · exact ⟨fun _ => rfl, fun _ => rfl⟩
      · exact ⟨fun z => absurd z (Option.some_ne_none _), fun z => absurd z (List.cons_ne_nil _ _)⟩
    have h106 : g_i M6 x 10 = if ra = [] then 0 else 1 := by rw [hxk 10 (by decide) (by decide) (by decide)]; exact h10
    have htt : g_i M6 t 12 = I_wy (ed :: rd) ∧ g_i M6 t 13 = I_wy rd := by
      obtain ⟨S, FS, FN, sg, hh, rt, l, ⟨hB, ha, -⟩, -⟩ := hT6
      rw [hB.2.1 12, hB.2.1 13]
      exact ⟨ha.2.2.1.1, ha.2.2.1.2.1⟩
    refine hq M6 a1 a2 j1 i1 ⟨⟨g6.1, ⟨⟨m1, hpx hW1⟩, haa.2.2.2.1, ?_, ?_, fun st hst => ?_, I_wy_w (ed :: rd), I_wy_w rd⟩, g6.2.1, htt.1, htt.2, g6.2.2.1, g6.2.2.2.1⟩, hT6, fun y hy => ?_, Or.inl y1, Or.inl y2, Or.inl y3, ⟨Or.inl y4, Or.inl y5, Or.inr (Or.inl rfl)⟩, fun _ => ⟨Or.inl y6, Or.inl y7, Or.inr (Or.inr rfl)⟩⟩ (hF3.then hff (fun y hy => Or.inl hy) (fun y hy => Or.inl ((how y).mp hy)) (fun k h1 _ h3 h4 => hxk k h1 h3 h4) (hgr x)) (by rw [e6, g_i_wi, if_pos ⟨rfl, rfl⟩]) ?_ ?_ hl1 hl2
    · rw [h106]
      split
      · exact Or.inl rfl
      · exact Or.inr rfl
    · refine hnone.trans ?_
      rw [h106]
      by_cases h : ra = []
      · rw [if_pos h]
        exact ⟨fun _ => rfl, fun _ => h⟩
      · rw [if_neg h]
        exact ⟨fun z => absurd z h, fun z => absurd z (by decide)⟩
    · obtain ⟨⟨m2, g1⟩, g2⟩ := hW2 st hst
      exact ⟨⟨m2, hpx g1⟩, g2⟩
    · rcases hy with hy | hy | hy
      · exact ⟨(g6.2.2.2.2.2.2 y hy).1, (g6.2.2.2.2.2.2 y hy).2⟩
      · rw [hy]
        exact ⟨by omega, fun z => hn1.2 ((how _).mp z)⟩
      · rw [hy]
        exact ⟨by omega, fun z => hn2.2 ((how _).mp z)⟩
    · rw [e6, g_i_wi, if_neg (fun z => absurd z.2 (by decide)), e5, g_i_wi, if_neg (fun z => absurd z.2 (by decide)), e4, g_i_wi, if_pos ⟨rfl, rfl⟩]
    · rw [e6, g_i_wi, if_neg (fun z => absurd z.2 (by decide)), e5, g_i_wi, if_pos ⟨rfl, rfl⟩]
  refine m_X3_prepare (hs1.R hn) (hs2.R hn) fun _ => ⟨o1, b, o3, c_fi2 (d := d + 2) hA hn hs1 ?_⟩
  intro _ _ _
  refine ⟨b, o3, c_fi2 (d := d + 2) hA hn hs2 ?_⟩
  intro _ _ _
  have haR := ta.R hn
  have hdR := td.R hn
  have hta : b_st (g_i M b) n (q1 + 6 + nm1.length) E1 2 ea.2.1 ea.2.2 := by rw [← haa.1]; exact ta
  refine ⟨p1, o4, c_takePath (d := d + 1) o1 o3 hA hn hP hp1 hta haa.2.1 haa.2.2 fun M1 f1' hP1 hW1 hpp1 hl1' => ?_⟩
  intro _ _
  have hp21 := hp2.kS hP f1' (fun z => hS1 p2 z (Or.inl rfl))
  obtain ⟨hG1, hb1, hx1, hw1⟩ := hG.pt f1' (fun y hy => Or.inl hy) hP1 hpp1 hp21
  obtain ⟨h01, -⟩ := h0.kF hP f1' how1
  have hF1 : I_PF x p1 f1 t1 p2 f2 t2 t r M M1 := I_PF.rf.then f1' (fun y hy => Or.inr (Or.inl hy)) (fun y hy => Or.inl ((hw1 y).mp hy)) (fun k _ _ _ _ => by rw [hx1.1]) hx1.2
  refine ⟨t, by rw [hx1.2]; exact o6, b, by rw [hx1.2]; exact o3, c_isTr (d := d + 1) (e := ed) hG1.2.1.1 hn (by rw [hb1]; exact td) ?_⟩
  intro _ _ _
  -- from the tree on
  have h50 : ∀ w0 : Int, w0 = I_wy (ed :: rd) → g_Run (d + 3) 65 50 [(0, .ref x), (1, g_n q1), (2, g_n q2), (3, g_n (q1 + 6 + nm1.length)), (4, g_n (q2 + 6 + nm2.length))] [g_n w0, .ref t] M1 (g_qV Q) := by
    intro w0 hw0
    have hww : I_w w0 := by rw [hw0]; exact I_wy_w _
    have hwR : g_InR w0 := by rcases hww with g | g <;> rw [g] <;> exact ⟨by decide, by decide⟩
    refine s_X3_prepare_50 (hs1.R hn) (hs2.R hn) haR hdR hwR fun _ => ⟨o12.up f1'.1, c_clear (d := d) h01 hww (Or.inl rfl) fun j1 i1 M2 hT2 f2' => ?_⟩
    intro _ _
    obtain ⟨hG2, hk2', hb2, hx2⟩ := hG1.go h01 y1 f2'.1
    rw [show c + (B_ws j + B_wn i) + ((s_tx ea.2.2).length : Int) + (B_ws j1 + B_wn i1 - (B_ws j + B_wn i)) = c + (s_tx ea.2.2).length + (B_ws j1 + B_wn i1) by omega, show e + (3 * (j : Int) + 5 * i) + 1 + (3 * j1 + 5 * i1 - (3 * j + 5 * i)) = e + 1 + (3 * j1 + 5 * i1) by omega] at hG2
    have hF2 := hF1.then hk2' (fun y hy => Or.inr (Or.inr (Or.inr hy))) f2'.1.2.2.2.1 (fun k _ _ _ _ => by rw [hx2.1]) hx2.2
    have ha1 : 2 * M.1.length < 2 * M1.1.length ∧ ¬ B_own t M1 (2 * M.1.length) := ⟨by omega, fun z => by
      have := ((hw1 _).mp z).lt h0
      omega⟩
    have ha2 : 2 * M.1.length < 2 * M2.1.length ∧ ¬ B_own t M2 (2 * M.1.length) := ⟨by have := f2'.1.2.1; omega, fun z => by
      rcases f2'.1.2.2.2.1 _ z with g | g
      · exact ha1.2 g
      · omega⟩
    have hsm : ∀ y, y < 2 * M1.1.length → ¬ B_own t M1 y → g_i M2 y = g_i M1 y ∧ g_r M2 y = g_r M1 y := f2'.1.2.2.1
    have hdj1 := hG1.2.2.2.2.2.2
    have hW2 : p_W M2 p1 f1 t1 (2 * M.1.length) (s_tx ea.2.2).length 0 (p_sp (s_tx ea.2.2)) := hW1.sm f2'.1.1 (hsm p1 hpp1.1.lt (h01.O hpp1.1 (by decide))) (hsm f1 (hdj1 f1 y4).1 (hdj1 f1 y4).2).1 (hsm t1 (hdj1 t1 y5).1 (hdj1 t1 y5).2).1 (hsm _ ha1.1 ha1.2).1
    have hb20 : g_i M2 b = g_i M b := hb2.trans hb1
    have hr2 : g_r M2 x = g_r M x := hx2.2.trans hx1.2
    refine ⟨hG2.1.1, b, by rw [hr2]; exact o3, c_nx2 (d := d + 2) hG2.2.1.1 hn (by rw [hb20]; exact ta) ?_⟩
    intro _ _ _
    refine ⟨b, by rw [hr2]; exact o3, ?_⟩
    rcases ra with _ | ⟨ec, ra⟩
    · -- one path
      have hrd : rd = [] := List.length_eq_zero_iff.mp hlen.symm
      subst hrd
      have htR : g_InR (q1 + 6 + nm1.length + (b_el ea.1 ea.2.1 ea.2.2).length) := by
        have := tra.2.2.1
        have := tra.2.2.2.1
        exact ⟨by omega, by omega⟩
      refine c_kdE (d := d + 2) (D := E1) hG2.2.1.1 hn (by rw [hb20]; exact tra) ?_
      intro _ _ _
      refine ⟨fun z => absurd z (by decide), fun _ => s_X3_prepare_81 (hs1.R hn) (hs2.R hn) htR hdR ⟨by decide, by decide⟩ fun _ => ⟨hG2.1.1, Or.inl rfl, fun M3 e3 _ => ?_⟩⟩
      obtain ⟨hG3, hf3, hne3, hgr3, how3⟩ := hG2.w e3
      refine ⟨hG3.1.1, fun _ => ?_, fun z => absurd (by rw [e3, g_i_wi, if_pos ⟨rfl, rfl⟩]) z⟩
      have hxo : ¬ B_own t M2 x := hT2.t0.O hG2.1.1 (by decide)
      have hT3 := (hT2.kF hG2.2.2.1 hf3 (fun y hy => by rw [hy]; exact hxo)).1
      have hF3 := hF2.then hf3 (fun y hy => Or.inl hy) (fun y hy => Or.inl ((how3 y).mp hy)) (fun k _ h10 _ _ => by rw [e3, g_i_wi, if_neg (fun z => h10 z.2)]) (hgr3 x)
      have hl3 := hf3.2.1
      have ha3 : 2 * M.1.length < 2 * M3.1.length ∧ ¬ B_own t M3 (2 * M.1.length) := ⟨by omega, fun z => ha2.2 ((how3 _).mp z)⟩
      have hW3 : p_W M3 p1 f1 t1 (2 * M.1.length) (s_tx ea.2.2).length 0 (p_sp (s_tx ea.2.2)) := by
        obtain ⟨⟨z1, z2, z3, z4, z5, z6⟩, w2, w3, -⟩ := id hW2
        exact hW2.sm hf3.1 ⟨hne3 _ (g_neOO z1 hG2.1.1 (by decide)), hgr3 _⟩ (hne3 _ (fun z => g_neOA hG2.1.1 z4 z.symm)) (hne3 _ (fun z => g_neOA hG2.1.1 z5 z.symm)) (hne3 _ (fun z => g_neOA hG2.1.1 w3 z.symm))
      rw [hw0] at hT3
      refine hfin M3 (2 * M.1.length) (2 * M.1.length) j1 i1 _ _ htR hdR ?_ hT3 hF3 (Nat.le_refl _) (Nat.le_refl _) ha3 ha3 ⟨_, hW3⟩ (by rw [e3, g_i_wi, if_pos ⟨rfl, rfl⟩, if_pos rfl]) fun st hst => absurd hst (by simp [I_p2])
      have hcc : c + (((s_tx ea.2.2).length : Int) + ((I_c2 [] : Nat) : Int)) + (B_ws j1 + B_wn i1) = c + (s_tx ea.2.2).length + (B_ws j1 + B_wn i1) := by
        show c + (((s_tx ea.2.2).length : Int) + ((0 : Nat) : Int)) + (B_ws j1 + B_wn i1) = _
        omega
      have hee : e + (1 + ((([] : List b_E).length : Nat) : Int)) + (3 * (j1 : Int) + 5 * i1) = e + 1 + (3 * j1 + 5 * i1) := by
        rw [List.length_nil]
        omega
      rw [hcc, hee]
      exact hG3
    · -- two paths
      have hra0 : ra = [] := by
        rw [List.length_cons] at hra
        exact List.length_eq_zero_iff.mp (by omega)
      subst hra0
      obtain ⟨ed2, hrd⟩ : ∃ ed2, rd = [ed2] := by
        rcases rd with _ | ⟨ed2, rd⟩
        · rw [List.length_cons, List.length_nil] at hlen
          omega
        · rw [List.length_cons, List.length_cons, List.length_nil] at hlen
          have : rd = [] := List.length_eq_zero_iff.mp (by omega)
          rw [this]
          exact ⟨ed2, rfl⟩
      subst hrd
      obtain ⟨tc, -⟩ := tra.cons
      obtain ⟨td2, -⟩ := trd.cons
      have hac := ha ec (List.mem_cons_of_mem _ List.mem_cons_self)
      have htR := tc.R hn
      refine c_kd2 (d := d + 2) hG2.2.1.1 hn (by rw [hb20]; exact tc) ?_
      intro _ _ _
      rw [hac.1]
      refine ⟨fun _ => s_X3_prepare_81 (hs1.R hn) (hs2.R hn) htR hdR ⟨by decide, by decide⟩ fun _ => ⟨hG2.1.1, Or.inr rfl, fun M3 e3 _ => ?_⟩, fun z => absurd rfl z⟩
      obtain ⟨hG3, hf3, hne3, hgr3, how3⟩ := hG2.w e3
      have hx310 : g_i M3 x 10 = 1 := by rw [e3, g_i_wi, if_pos ⟨rfl, rfl⟩]
      have hxo : ¬ B_own t M2 x := hT2.t0.O hG2.1.1 (by decide)
      have hT3 := (hT2.kF hG2.2.2.1 hf3 (fun y hy => by rw [hy]; exact hxo)).1
      have hF3 := hF2.then hf3 (fun y hy => Or.inl hy) (fun y hy => Or.inl ((how3 y).mp hy)) (fun k _ h10 _ _ => by rw [e3, g_i_wi, if_neg (fun z => h10 z.2)]) (hgr3 x)
      have hl3 := hf3.2.1
      have ha3 : 2 * M.1.length < 2 * M3.1.length ∧ ¬ B_own t M3 (2 * M.1.length) := ⟨by omega, fun z => ha2.2 ((how3 _).mp z)⟩
      have hW3 : p_W M3 p1 f1 t1 (2 * M.1.length) (s_tx ea.2.2).length 0 (p_sp (s_tx ea.2.2)) := by
        obtain ⟨⟨z1, z2, z3, z4, z5, z6⟩, w2, w3, -⟩ := id hW2
        exact hW2.sm hf3.1 ⟨hne3 _ (g_neOO z1 hG2.1.1 (by decide)), hgr3 _⟩ (hne3 _ (fun z => g_neOA hG2.1.1 z4 z.symm)) (hne3 _ (fun z => g_neOA hG2.1.1 z5 z.symm)) (hne3 _ (fun z => g_neOA hG2.1.1 w3 z.symm))
      have hb30 : g_i M3 b = g_i M b := (hne3 b hbx).trans hb20
      have hr3 : g_r M3 x = g_r M x := (hgr3 x).trans hr2
      have htc : b_st (g_i M3 b) n (q1 + 6 + nm1.length + (b_el ea.1 ea.2.1 ea.2.2).length) E1 2 ec.2.1 ec.2.2 := by rw [hb30, ← hac.1]; exact tc
      refine ⟨hG3.1.1, fun z => absurd (hx310.symm.trans z) (by decide), fun _ => ⟨p2, by rw [hr3]; exact o5, c_takePath (d := d + 1) hG3.1.1 (by rw [hr3]; exact o3) hG3.2.1.1 hn hG3.2.2.1 hG3.2.2.2.2.2.1 htc hac.2.1 hac.2.2 fun M4 f4 hP4 hW4 hpp4 hl4 => ?_⟩⟩
      intro _ _
      have hp14 := hG3.2.2.2.2.1.kS hG3.2.2.1 f4 (fun z => hS1 p1 (Or.inl rfl) z)
      obtain ⟨hG4, hb4, hx4, hw4⟩ := hG3.pt f4 (fun y hy => Or.inr hy) hP4 hp14 hpp4
      have hdj3 := hG3.2.2.2.2.2.2
      have how2 : ∀ y, p_S p2 f2 t2 y → ¬ B_own t M3 y := fun y hy => by
        rcases hy with z | z | z
        · rw [z]; exact hT3.t0.O hG3.2.2.2.2.2.1.1 (by decide)
        · rw [z]; exact (hdj3 f2 y6).2
        · rw [z]; exact (hdj3 t2 y7).2
      have hT4 := (hT3.kF hG3.2.2.1 f4 how2).1
      have hF4 := hF3.then f4 (fun y hy => Or.inr (Or.inr (Or.inl hy))) (fun y hy => Or.inl ((hw4 y).mp hy)) (fun k _ _ _ _ => by rw [hx4.1]) hx4.2
      have ha4 : 2 * M.1.length < 2 * M4.1.length ∧ ¬ B_own t M4 (2 * M.1.length) := ⟨by omega, fun z => ha3.2 ((hw4 _).mp z)⟩
      have hb4' : 2 * M3.1.length < 2 * M4.1.length ∧ ¬ B_own t M4 (2 * M3.1.length) := ⟨by omega, fun z => by
        have := ((hw4 _).mp z).lt hT3.t0
        omega⟩
      have hW14 : p_W M4 p1 f1 t1 (2 * M.1.length) (s_tx ea.2.2).length 0 (p_sp (s_tx ea.2.2)) := by
        obtain ⟨z1, z2, w2, -⟩ := id hW3
        obtain ⟨z3, z4, z5, z6, z7, z8⟩ := hG3.2.2.2.2.2.1
        refine hW3.kS hG3.2.2.1 f4 (fun z => hS1 p1 (Or.inl rfl) z) (fun z => hS1 f1 (Or.inr (Or.inl rfl)) z) (fun z => hS1 t1 (Or.inr (Or.inr rfl)) z) fun z => ?_
        rcases z with z | z | z
        · exact g_neOA z3 w2 z.symm
        · rw [z] at w2
          exact absurd (w2.fn z6).1 (by decide)
        · rw [z] at w2
          exact absurd (w2.fn z7).1 (by decide)
      have hr4 : g_r M4 x = g_r M x := hx4.2.trans hr3
      have hb40 : g_i M4 b = g_i M b := hb4.trans hb30
      refine ⟨t, by rw [hr4]; exact o6, b, by rw [hr4]; exact o3, b, by rw [hr4]; exact o3, c_nx2 (d := d + 2) hG4.2.1.1 hn (by rw [hb40]; exact td) ?_⟩
      intro _ _ _
      refine c_isTr (d := d + 1) (e := ed2) hG4.2.1.1 hn (by rw [hb40]; exact td2) ?_
      intro _ _ _
      have hend : ∀ (M5 : g_M) (w3 : Int), w3 = I_wy [ed2] → M5 = g_wi M4 t 13 w3 → g_Run (d + 3) 65 132 [(0, .ref x), (1, g_n q1), (2, g_n q2), (3, g_n (q1 + 6 + nm1.length + (b_el ea.1 ea.2.1 ea.2.2).length)), (4, g_n (q2 + 6 + nm2.length))] [] M5 (g_qV Q) := by
        intro M5 w3 hw3 e5
        obtain ⟨hT5, hB5⟩ := hT4.way (w3 := w3) (by rw [hw3]; exact I_wy_w _)
        rw [← e5] at hT5 hB5
        obtain ⟨hG5, hk5, hb5, hx5⟩ := hG4.go hT4.t0 y1 hB5
        have hF5 := hF4.then hk5 (fun y hy => Or.inr (Or.inr (Or.inr hy))) hB5.2.2.2.1 (fun k _ _ _ _ => by rw [hx5.1]) hx5.2
        have hdj4 := hG4.2.2.2.2.2.2
        have hsm5 : ∀ y, y < 2 * M4.1.length → ¬ B_own t M4 y → g_i M5 y = g_i M4 y ∧ g_r M5 y = g_r M4 y := hB5.2.2.1
        have hpx : ∀ {o ff tt aa : Nat} {m : Int} {st : List (List Int)}, (ff < 2 * M4.1.length ∧ ¬ B_own t M4 ff) → (tt < 2 * M4.1.length ∧ ¬ B_own t M4 tt) → (aa < 2 * M4.1.length ∧ ¬ B_own t M4 aa) → p_W M4 o ff tt aa m 0 st → p_W M5 o ff tt aa m 0 st := fun g1 g2 g3 g => g.sm hB5.1 (hsm5 _ g.1.1.lt (hT4.t0.O g.1.1 (by decide))) (hsm5 _ g1.1 g1.2).1 (hsm5 _ g2.1 g2.2).1 (hsm5 _ g3.1 g3.2).1
        have hl5 := hB5.2.1
        rw [hw0, hw3] at hT5
        refine hfin M5 (2 * M.1.length) (2 * M3.1.length) j1 i1 _ _ htR hdR ?_ hT5 hF5 (Nat.le_refl _) (by omega) ⟨by omega, ?_⟩ ⟨by omega, ?_⟩ ⟨_, hpx (hdj4 f1 y4) (hdj4 t1 y5) ha4 hW14⟩ ?_ ?_
        · have hcc : c + (((s_tx ea.2.2).length : Int) + ((I_c2 [ec] : Nat) : Int)) + (B_ws j1 + B_wn i1) = c + (s_tx ea.2.2).length + (B_ws j1 + B_wn i1) + (s_tx ec.2.2).length + 0 := by
            show c + (((s_tx ea.2.2).length : Int) + (((s_tx ec.2.2).length : Nat) : Int)) + (B_ws j1 + B_wn i1) = _
            omega
          have hee : e + (1 + (([ec].length : Nat) : Int)) + (3 * (j1 : Int) + 5 * i1) = e + 1 + (3 * j1 + 5 * i1) + 1 + 0 := by
            rw [List.length_singleton]
            omega
          rw [hcc, hee]
          exact hG5
        · exact fun z => by
            rcases hB5.2.2.2.1 _ z with g | g
            · exact ha4.2 g
            · omega
        · exact fun z => by
            rcases hB5.2.2.2.1 _ z with g | g
            · exact hb4'.2 g
            · omega
        · rw [hx5.1, hx4.1, hx310, if_neg (List.cons_ne_nil _ _)]
        · intro st hst
          have hst : p_sp (s_tx ec.2.2) = st := Option.some.inj hst
          subst hst
          exact ⟨⟨_, hpx (hdj4 f2 y6) (hdj4 t2 y7) hb4' hW4⟩, hac.2.2.2.1⟩
      refine ⟨fun z => ⟨o12.up (hF4.1.1), fun M5 e5 _ => hend M5 1 ?_ e5⟩, fun z => ⟨o12.up (hF4.1.1), fun M5 e5 _ => hend M5 (-1) ?_ e5⟩⟩
      · have hs : ¬ S_tr ed2 = true := fun h => by rw [if_pos h] at z; exact absurd z (by decide)
        show (1 : Int) = if S_tr ed2 = true then -1 else 1
        rw [if_neg hs]
      · have hs : S_tr ed2 = true := by
          by_cases h : S_tr ed2 = true
          · exact h
          · rw [if_neg h] at z
            exact absurd rfl z
        show (-1 : Int) = if S_tr ed2 = true then -1 else 1
        rw [if_pos hs]
  refine ⟨fun z => h50 1 ?_, fun z => h50 (-1) ?_⟩
  · have hs : ¬ S_tr ed = true := fun h => by rw [if_pos h] at z; exact absurd z (by decide)
    show (1 : Int) = if S_tr ed = true then -1 else 1
    rw [if_neg hs]
  · have hs : S_tr ed = true := by
      by_cases h : S_tr ed = true
      · exact h
      · rw [if_neg h] at z
        exact absurd rfl z
    show (-1 : Int) = if S_tr ed = true then -1 else 1
    rw [if_pos hs]
end PREPW
