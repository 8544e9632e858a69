/-! PATHS OF INDEXES, THE CLASS: their texts, whole -/
/-- a Path object holds the text X, which stands at 0 in the bytes a -/
def p_WT (M : g_M) (o f t a : Nat) (X : List Int) : Prop := (∃ n, p_W M o f t a n 0 (p_sp X)) ∧ p_rg (g_i M f) (g_i M t) 0 0 (p_sp X) ∧ b_at (g_i M a) 0 X
theorem p_WT.P {M : g_M} {o f t a : Nat} {X : List Int} (h : p_WT M o f t a X) : p_P M o f t := by
  obtain ⟨⟨n, h1, -⟩, -⟩ := h
  exact h1
theorem p_WT.sm {M M1 : g_M} {o f t a : Nat} {X : List Int} (h : p_WT M o f t a X) (hx : g_ext M M1) (ho : g_i M1 o = g_i M o ∧ g_r M1 o = g_r M o) (hf : g_i M1 f = g_i M f) (ht : g_i M1 t = g_i M t) (ha : g_i M1 a = g_i M a) : p_WT M1 o f t a X := by
  obtain ⟨⟨n, h1⟩, h2, h3⟩ := h
  refine ⟨⟨n, h1.sm hx ho hf ht ha⟩, ?_, ?_⟩
  · rw [hf, ht]
    exact h2
  · rw [ha]
    exact h3
theorem p_WT.kS {S : Nat → Prop} {M M1 : g_M} {r b o f t a : Nat} {c e : Int} {L : List Int} {X : List Int} (h : p_WT M o f t a X) (hP : k_P M r b c e L) (k : k_F S r M M1) (h1 : ¬ S o) (h2 : ¬ S f) (h3 : ¬ S t) (h4 : ¬ S a) : p_WT M1 o f t a X := by
  obtain ⟨⟨n, ⟨o1, o2, o3, o4, o5, o6⟩, w2, w3, -⟩, -⟩ := id h
  obtain ⟨i1, r1⟩ := k.O hP o1 (by decide) h1
  obtain ⟨i2, -⟩ := k.A hP o4 (by unfold k_n; omega) h2
  obtain ⟨i3, -⟩ := k.A hP o5 (by unfold k_n; omega) h3
  obtain ⟨i4, -⟩ := k.A hP w3 (fun g => absurd g (by decide)) h4
  exact h.sm k.1 ⟨i1, r1⟩ i2 i3 i4
theorem p_rg_end : ∀ (l : Nat) {X : List Int} {A B : Int → Int} {k : Nat} {p : Int}, X.length ≤ l → p_rg A B k p (p_sp X) → A k = p ∧ B ((k : Int) + (p_sp X).length - 1) = p + X.length := by
  intro l
  induction l with
  | zero =>
    intro X A B k p hl h
    have hX : X = [] := List.length_eq_zero_iff.mp (by omega)
    subst hX
    have h : A k = p ∧ B k = p + (([] : List Int).length : Int) ∧ True := h
    refine ⟨h.1, ?_⟩
    have e : (k : Int) + ((p_sp ([] : List Int)).length : Int) - 1 = k := by
      show (k : Int) + ((1 : Nat) : Int) - 1 = k
      omega
    rw [e]
    exact h.2.1
  | succ l ih =>
    intro X A B k p hl h
    rcases p_hd_tl X with ⟨h1, h2⟩ | ⟨y, h1, h2⟩
    · rw [p_sp_none h1] at h ⊢
      have h : A k = p ∧ B k = p + ((p_hd X).length : Int) ∧ True := h
      refine ⟨h.1, ?_⟩
      have e : (k : Int) + (([p_hd X] : List (List Int)).length : Int) - 1 = k := by
        rw [List.length_singleton]
        omega
      rw [e, h.2.1, h2]
    · rw [p_sp_some h1] at h ⊢
      have h : A k = p ∧ B k = p + ((p_hd X).length : Int) ∧ p_rg A B (k + 1) (p + (p_hd X).length + 1) (p_sp y) := h
      have hXl : X.length = (p_hd X).length + (y.length + 1) := by
        conv => lhs; rw [h2]
        rw [List.length_append, List.length_cons]
      obtain ⟨-, g2⟩ := ih (X := y) (by omega) h.2.2
      refine ⟨h.1, ?_⟩
      rw [List.length_cons, show (k : Int) + (((p_sp y).length + 1 : Nat) : Int) - 1 = ((k + 1 : Nat) : Int) + (p_sp y).length - 1 by omega, g2]
      omega
section PRET
variable {d x r b o f t q : Nat} {c e n : Int} {L : List Int} {M : g_M}
theorem c_takePathT {Q : g_M → Prop} {v2 : Int} {D : Nat} {nm vb : List Int} (hx : g_O M x 3) (h1 : g_r M x 1 = some b) (hA : g_A M b 0 n) (hn : n ≤ 1000000000) (hP : k_P M r b c e L) (hp : p_P M o f t) (hs : b_st (g_i M b) n v2 D 2 nm vb) (hl : (s_tx vb).length ≤ 2000) (hok : p_ok (s_tx vb)) (hq : ∀ M1, k_F (p_S o f t) r M M1 → k_P M1 r b (c + (s_tx vb).length) (e + 1) L → p_WT M1 o f t (2 * M.1.length) (s_tx vb) → p_P M1 o f t → M1.1.length = M.1.length + 1 → Q M1) : g_Call (d + 2) 66 [.ref x, .ref o, g_n v2] M (g_qV Q) := by
  have hnl := hA.len
  obtain ⟨v1, w2, v3, v4⟩ := hs.val
  obtain ⟨s, e1, e2, -⟩ := b_gv_txt hs.2.2.1
  have htx : s_tx vb = s := by rw [e1]; exact s_tx_eq
  rw [htx] at hl hok hq
  have hvl : vb.length = s.length + 5 := by
    rw [e1, List.length_append, List.length_append]
    have h4 : (b_le4 ((s.length : Int) + 1)).length = 4 := rfl
    have h5 : ([0] : List Int).length = 1 := rfl
    omega
  rw [e1] at v1
  obtain ⟨a1, a2⟩ := b_app.mp v1
  have h4 : (b_le4 ((s.length : Int) + 1)).length = 4 := rfl
  rw [h4] at a2
  obtain ⟨a3, -⟩ := b_app.mp a2
  refine m_X3_takePath (hs.R hn) fun _ => ⟨hx, b, h1, c_va (d := d) hA ⟨by omega, by omega⟩ hs.nm ?_⟩
  intro _ _ _
  refine ⟨b, h1, c_w4 (d := d) hA ⟨by omega, by omega⟩ (by omega) (by omega) ?_⟩
  intro _ _ _
  rw [show v2 + 1 + nm.length + 1 = v2 + 2 + nm.length by omega, b_w4_le4 (by omega) (by omega) a1]
  rw [show max (0 : Int) (min ((s.length : Int) + 1 - 1) 2000) = s.length by omega]
  refine ⟨⟨by omega, by omega⟩, ⟨by omega, by omega⟩, fun M18 e18 _ => ?_⟩
  rw [Int.toNat_natCast] at e18
  have hb := hA.lt
  have hAn : g_A M18 (2 * M.1.length) 0 (s.length : Nat) := by rw [e18]; exact g_A_nw
  have hx18 : g_ext M M18 := g_extN e18
  have hxl := hx.lt
  refine ⟨b, by rw [e18, g_r_nw, if_neg (by omega)]; exact h1, ⟨by omega, by omega⟩, (s.length : Nat), hAn, ⟨by omega, by omega⟩, n, hA.up hx18, ⟨by omega, by omega, by omega, by omega, by omega⟩, fun M31 e31 _ => ?_⟩
  obtain ⟨z1, z2, z3, z4, z5, z6⟩ := id hp
  have hol := z1.lt
  have hfl := z4.lt
  have htl := z5.lt
  have hP18 : k_P M18 r b (c + s.length) (e + 1) L := by rw [e18]; exact hP.nw 0 s.length
  have f18 : k_F (p_S o f t) r M M18 := by rw [e18]; exact k_F.nw hP.1.lt 0 s.length
  have hrl := hP.1.lt
  have f31 : k_F (fun y => y = 2 * M.1.length) r M18 M31 := by
    refine k_F.of ⟨by rw [e31]; rfl, fun y hy => ⟨funext fun j => by rw [e31, g_i_cp, if_neg (fun z => hy z.1)], funext fun j => by rw [e31, g_r_cp]⟩⟩ (by omega)
  have hP31 : k_P M31 r b (c + s.length) (e + 1) L := by
    refine hP18.of (S := fun y => y = 2 * M.1.length) ⟨by rw [e31]; rfl, fun y hy => ⟨funext fun j => by rw [e31, g_i_cp, if_neg (fun z => hy z.1)], funext fun j => by rw [e31, g_r_cp]⟩⟩ (by omega) fun a m h1 h2 z => ?_
    subst z
    exact absurd (h1.fn hAn).1 (by decide)
  have ff31 : k_F (p_S o f t) r M M31 := f18.trN f31 fun y hy => Or.inr (by omega)
  have hp31 : p_P M31 o f t := by
    have hr : g_r M31 o = g_r M o := funext fun j => by rw [e31, g_r_cp, e18, g_r_nw, if_neg (by omega)]
    exact ⟨z1.up ff31.1, by rw [hr]; exact z2, by rw [hr]; exact z3, z4.up ff31.1, z5.up ff31.1, z6⟩
  have hat : b_at (g_i M31 (2 * M.1.length)) 0 s := by
    have h9 := b_at_move (B2 := g_i M31 (2 * M.1.length)) (s := -(v2 + 2 + nm.length + 4)) a3 fun j j1 j2 => by
      rw [e31, g_i_cp, if_pos ⟨rfl, by omega, by omega⟩, e18, g_i_nw, if_neg (by omega)]
      congr 1
      omega
    rwa [show v2 + 2 + (nm.length : Int) + ((4 : Nat) : Int) + -(v2 + 2 + nm.length + 4) = 0 by omega] at h9
  have hl31 : M31.1.length = M.1.length + 1 := by
    rw [e31]
    show M18.1.length = _
    rw [e18]
    unfold g_nw
    rw [List.length_append, List.length_singleton]
  refine ⟨⟨by omega, by omega⟩, z1.up ff31.1, ?_⟩
  have h9 := c_set (d := d) (r0 := none) (x := s) (p := 0) (Q := fun r40 M37 => g_ext M31 M37 → g_ok M37 → g_InR r40 → Q M37) hp31 (hAn.up f31.1) (by omega) (by omega) (by omega) (by omega) hat (by decide) (by omega) (fun _ M1 g1 g2 g3 => fun _ _ _ => ?_) (fun z => absurd hok z)
  · rwa [Int.zero_add] at h9
  · have hne : ∀ y, p_S o f t y → y ≠ r ∧ y ≠ 2 * M.1.length := by
      intro y hy
      rcases hy with hy | hy | hy
      · rw [hy]
        exact ⟨fun z => g_neOO z1 hP.1 (by decide) z, by omega⟩
      · rw [hy]
        exact ⟨fun z => g_neOA hP.1 z4 z.symm, by omega⟩
      · rw [hy]
        exact ⟨fun z => g_neOA hP.1 z5 z.symm, by omega⟩
    have fl : k_F (p_S o f t) r M31 M1 := k_F.of g1 fun z => (hne r z).1 rfl
    have hP1 : k_P M1 r b (c + s.length) (e + 1) L := by
      refine hP31.of g1 (fun z => (hne r z).1 rfl) fun a m h1 h2 z => ?_
      rcases z with z | z | z
      · rw [z] at h1
        exact g_neOA (z1.up ff31.1) h1 rfl
      · rw [z] at h1
        have := (h1.fn (z4.up ff31.1)).2
        rw [this] at h2
        exact absurd h2 (by unfold k_n; omega)
      · rw [z] at h1
        have := (h1.fn (z5.up ff31.1)).2
        rw [this] at h2
        exact absurd h2 (by unfold k_n; omega)
    have hac : g_i M1 (2 * M.1.length) = g_i M31 (2 * M.1.length) := (g1.2 _ fun z => (hne _ z).2 rfl).1
    refine hq M1 (ff31.tr fl) hP1 ?_ g2 (by rw [g1.1]; exact hl31)
    exact ⟨⟨_, p_W.of g2 (g1.A (hAn.up f31.1)) (by omega) g3 (by rw [hac]; exact hat) (by decide) (by omega)⟩, g3.2.2.2, by rw [hac]; exact hat⟩
end PRET
section PREPT
variable {d x r b p1 f1 t1 p2 f2 t2 t k1 k2 j i : Nat} {c e n : Int} {L : List Int} {M : g_M} {Y : Nat → Prop}
theorem c_prepareT {Q : g_M → Prop} {q1 q2 : Int} {D1 D2 : Nat} {nm1 vb1 nm2 vb2 : List Int} {ea ed : b_E} {ra rd : List b_E} (hG : I_G x r b p1 f1 t1 p2 f2 t2 t k1 k2 n (c + (B_ws j + B_wn i)) (e + (3 * j + 5 * i)) L Y M) (h0 : C_t0 t j i M) (hY : I_Yf Y b f1 t1 f2 t2 k1 k2) (hpd : I_pd p1 f1 t1 p2 f2 t2) (hs1 : b_st (g_i M b) n q1 D1 4 nm1 vb1) (hs2 : b_st (g_i M b) n q2 D2 4 nm2 vb2) (hc1 : b_ch vb1 = ea :: ra) (hc2 : b_ch vb2 = ed :: rd) (hlen : ra.length = rd.length) (hra : ra.length ≤ 1) (ha : ∀ e ∈ ea :: ra, I_ptx e) (hq : ∀ M1 a1 a2 j1 i1, I_Z (I_mkV ea ra ed rd) (fun y => Y y ∨ y = a1 ∨ y = a2) x r b p1 f1 t1 a1 p2 f2 t2 a2 t k1 k2 n (c + ((s_tx ea.2.2).length + I_c2 ra)) (e + (1 + ra.length)) L N_nil j1 i1 M1 → I_PF x p1 f1 t1 p2 f2 t2 t r M M1 → g_i M1 x 9 = 1 → g_i M1 x 11 = 0 → g_i M1 x 12 = 0 → 2 * M.1.length ≤ a1 → 2 * M.1.length ≤ a2 → p_P M1 p1 f1 t1 → p_P M1 p2 f2 t2 → p_WT M1 p1 f1 t1 a1 (s_tx ea.2.2) → (∀ ec, ra = [ec] → p_WT M1 p2 f2 t2 a2 (s_tx ec.2.2)) → Q M1) : g_Call (d + 4) 65 [.ref x, g_n q1, g_n q2] M (g_qV Q) := by
  obtain ⟨y1, y2, y3, y4, y5, y6, y7⟩ := hY
  obtain ⟨n1, n2, n3, n4, n5⟩ := hpd
  obtain ⟨o1, o2, o3, o4, o5, o6, o7, o8, o9, o10, o11, o12⟩ := id hG.1
  have hA := hG.2.1.1
  have hn := hG.2.1.2.1
  have hP := hG.2.2.1
  have hp1 := hG.2.2.2.2.1
  have hp2 := hG.2.2.2.2.2.1
  have hdj := hG.2.2.2.2.2.2
  have hnl := hA.len
  obtain ⟨E1, eE1, hk1, hl1⟩ := hs1.kids (e := (4, nm1, vb1)) (Or.inr rfl)
  obtain ⟨E2, eE2, hk2, hl2⟩ := hs2.kids (e := (4, nm2, vb2)) (Or.inr rfl)
  have hk1 : b_sts (g_i M b) n (q1 + 6 + nm1.length) E1 (b_ch vb1) := hk1
  have hk2 : b_sts (g_i M b) n (q2 + 6 + nm2.length) E2 (b_ch vb2) := hk2
  rw [hc1] at hk1
  rw [hc2] at hk2
  obtain ⟨ta, tra⟩ := hk1.cons
  obtain ⟨td, trd⟩ := hk2.cons
  have haa := ha ea List.mem_cons_self
  have hxr : r ≠ x := g_neOO hP.1 o1 (by decide)
  have htx : t ≠ x := g_neOO o12 o1 (by decide)
  have hbx : b ≠ x := fun g => g_neOA o1 hA g.symm
  -- refs of the paths
  have hS1 : ∀ y, p_S p1 f1 t1 y → ¬ p_S p2 f2 t2 y := by
    intro y hy z
    obtain ⟨a1, a2, a3, a4, a5, a6⟩ := hp1
    obtain ⟨b1, b2, b3, b4, b5, b6⟩ := hp2
    rcases hy with hy | hy | hy <;> rcases z with z | z | z <;> rw [hy] at z
    · exact n1 z
    · exact g_neOA a1 b4 z
    · exact g_neOA a1 b5 z
    · exact g_neOA b1 a4 z.symm
    · exact n2 z
    · exact n3 z
    · exact g_neOA b1 a5 z.symm
    · exact n4 z
    · exact n5 z
  have how1 : ∀ y, p_S p1 f1 t1 y → ¬ B_own t M y := fun y hy => by
    rcases hy with z | z | z
    · rw [z]; exact h0.O hp1.1 (by decide)
    · rw [z]; exact (hdj f1 y4).2
    · rw [z]; exact (hdj t1 y5).2
  -- the end
  have hfin : ∀ (M3 : g_M) (a1 a2 j1 i1 : Nat) (v3 v4 : Int), g_InR v3 → g_InR v4 → I_G x r b p1 f1 t1 p2 f2 t2 t k1 k2 n (c + ((s_tx ea.2.2).length + I_c2 ra) + (B_ws j1 + B_wn i1)) (e + (1 + ra.length) + (3 * j1 + 5 * i1)) L Y M3 → C_tr t (I_wy (ed :: rd)) (I_wy rd) N_nil j1 i1 M3 → I_PF x p1 f1 t1 p2 f2 t2 t r M M3 → 2 * M.1.length ≤ a1 → 2 * M.1.length ≤ a2 → (a1 < 2 * M3.1.length ∧ ¬ B_own t M3 a1) → (a2 < 2 * M3.1.length ∧ ¬ B_own t M3 a2) → p_WT M3 p1 f1 t1 a1 (s_tx ea.2.2) → (g_i M3 x 10 = (if ra = [] then 0 else 1)) → (∀ ec, ra = [ec] → p_WT M3 p2 f2 t2 a2 (s_tx ec.2.2) ∧ (p_sp (s_tx ec.2.2)).length ≤ 8) → g_Run (d + 3) 65 132 [(0, .ref x), (1, g_n q1), (2, g_n q2), (3, g_n v3), (4, g_n v4)] [] M3 (g_qV Q) := by
    intro M3 a1 a2 j1 i1 v3 v4 hv3 hv4 hG3 hT3 hF3 hl1 hl2 hn1 hn2 hW1 h10 hW2
    refine s_X3_prepare_132 (hs1.R hn) (hs2.R hn) hv3 hv4 fun _ => ⟨hG3.1.1, fun M4 e4 _ M5 e5 _ M6 e6 _ => ?_⟩
    obtain ⟨g4, f4, ne4, gr4, ow4⟩ := hG3.w e4
    obtain ⟨g5, f5, ne5, gr5, ow5⟩ := g4.w e5
    obtain ⟨g6, f6, ne6, gr6, ow6⟩ := g5.w e6
    have hne : ∀ y, y ≠ x → g_i M6 y = g_i M3 y := fun y hy => by rw [ne6 y hy, ne5 y hy, ne4 y hy]
    have hgr : ∀ y, g_r M6 y = g_r M3 y := fun y => by rw [gr6, gr5, gr4]
    have hff : k_F (fun y => y = x) r M3 M6 := (f4.tr f5).tr f6
    have hxk : ∀ k : Int, k ≠ 9 → k ≠ 11 → k ≠ 12 → g_i M6 x k = g_i M3 x k := fun k h1 h2 h3 => by rw [e6, g_i_wi, if_neg (fun z => h1 z.2), e5, g_i_wi, if_neg (fun z => h3 z.2), e4, g_i_wi, if_neg (fun z => h2 z.2)]
    have how : ∀ y, B_own t M6 y ↔ B_own t M3 y := B_own.of (hgr t)
    have hxo : ¬ B_own t M3 x := hT3.t0.O hG3.1.1 (by decide)
    have hT6 := (hT3.kF hG3.2.2.1 hff (fun y hy => by rw [hy]; exact hxo)).1
    have hlen6 : M3.1.length ≤ M6.1.length := hff.2.1
    have hpx : ∀ {o ff tt aa : Nat} {m : Int} {st : List (List Int)}, p_W M3 o ff tt aa m 0 st → p_W M6 o ff tt aa m 0 st := fun {o ff tt aa m st} g => by
      obtain ⟨⟨z1, z2, z3, z4, z5, z6⟩, w2, w3, -⟩ := id g
      exact g.sm hff.1 ⟨hne _ (g_neOO z1 hG3.1.1 (by decide)), hgr _⟩ (hne _ (fun z => g_neOA hG3.1.1 z4 z.symm)) (hne _ (fun z => g_neOA hG3.1.1 z5 z.symm)) (hne _ (fun z => g_neOA hG3.1.1 w3 z.symm))
    have hpT : ∀ {o ff tt aa : Nat} {X : List Int}, p_WT M3 o ff tt aa X → p_WT M6 o ff tt aa X := fun {o ff tt aa X} g => by
      obtain ⟨⟨m9, ⟨z1, z2, z3, z4, z5, z6⟩, w2, w3, -⟩, -⟩ := id g
      exact g.sm hff.1 ⟨hne _ (g_neOO z1 hG3.1.1 (by decide)), hgr _⟩ (hne _ (fun z => g_neOA hG3.1.1 z4 z.symm)) (hne _ (fun z => g_neOA hG3.1.1 z5 z.symm)) (hne _ (fun z => g_neOA hG3.1.1 w3 z.symm))
    have hWT1 := hW1
    obtain ⟨⟨m1, hW1⟩, -⟩ := hW1
    have hnone : I_p2 ra = none ↔ ra = [] := by
      rcases ra with _ | ⟨ec, ra⟩
      · exact ⟨fun _ => rfl, fun _ => rfl⟩
      · exact ⟨fun z => absurd z (Option.some_ne_none _), fun z => absurd z (List.cons_ne_nil _ _)⟩
    have h106 : g_i M6 x 10 = if ra = [] then 0 else 1 := by rw [hxk 10 (by decide) (by decide) (by decide)]; exact h10
    have htt : g_i M6 t 12 = I_wy (ed :: rd) ∧ g_i M6 t 13 = I_wy rd := by
      obtain ⟨S, FS, FN, sg, hh, rt, l, ⟨hB, ha, -⟩, -⟩ := hT6
      rw [hB.2.1 12, hB.2.1 13]
      exact ⟨ha.2.2.1.1, ha.2.2.1.2.1⟩
    refine hq M6 a1 a2 j1 i1 ⟨⟨g6.1, ⟨⟨m1, hpx hW1⟩, haa.2.2.2.1, ?_, ?_, fun st hst => ?_, I_wy_w (ed :: rd), I_wy_w rd⟩, g6.2.1, htt.1, htt.2, g6.2.2.1, g6.2.2.2.1⟩, hT6, fun y hy => ?_, Or.inl y1, Or.inl y2, Or.inl y3, ⟨Or.inl y4, Or.inl y5, Or.inr (Or.inl rfl)⟩, fun _ => ⟨Or.inl y6, Or.inl y7, Or.inr (Or.inr rfl)⟩⟩ (hF3.then hff (fun y hy => Or.inl hy) (fun y hy => Or.inl ((how y).mp hy)) (fun k h1 _ h3 h4 => hxk k h1 h3 h4) (hgr x)) (by rw [e6, g_i_wi, if_pos ⟨rfl, rfl⟩]) ?_ ?_ hl1 hl2 g6.2.2.2.2.1 g6.2.2.2.2.2.1 (hpT hWT1) (fun ec hec => hpT (hW2 ec hec).1)
    · rw [h106]
      split
      · exact Or.inl rfl
      · exact Or.inr rfl
    · refine hnone.trans ?_
      rw [h106]
      by_cases h : ra = []
      · rw [if_pos h]
        exact ⟨fun _ => rfl, fun _ => h⟩
      · rw [if_neg h]
        exact ⟨fun z => absurd z h, fun z => absurd z (by decide)⟩
    · rcases ra with _ | ⟨ec, ra⟩
      · have hst : (none : Option (List (List Int))) = some st := hst
        exact absurd hst (by simp)
      · have hra0 : ra = [] := by
          rw [List.length_cons] at hra
          exact List.length_eq_zero_iff.mp (by omega)
        subst hra0
        have hst : p_sp (s_tx ec.2.2) = st := Option.some.inj hst
        subst hst
        obtain ⟨⟨⟨m2, g1⟩, -⟩, g2⟩ := hW2 ec rfl
        exact ⟨⟨m2, hpx g1⟩, g2⟩
    · rcases hy with hy | hy | hy
      · exact ⟨(g6.2.2.2.2.2.2 y hy).1, (g6.2.2.2.2.2.2 y hy).2⟩
      · rw [hy]
        exact ⟨by omega, fun z => hn1.2 ((how _).mp z)⟩
      · rw [hy]
        exact ⟨by omega, fun z => hn2.2 ((how _).mp z)⟩
    · rw [e6, g_i_wi, if_neg (fun z => absurd z.2 (by decide)), e5, g_i_wi, if_neg (fun z => absurd z.2 (by decide)), e4, g_i_wi, if_pos ⟨rfl, rfl⟩]
    · rw [e6, g_i_wi, if_neg (fun z => absurd z.2 (by decide)), e5, g_i_wi, if_pos ⟨rfl, rfl⟩]
  refine m_X3_prepare (hs1.R hn) (hs2.R hn) fun _ => ⟨o1, b, o3, c_fi2 (d := d + 2) hA hn hs1 ?_⟩
  intro _ _ _
  refine ⟨b, o3, c_fi2 (d := d + 2) hA hn hs2 ?_⟩
  intro _ _ _
  have haR := ta.R hn
  have hdR := td.R hn
  have hta : b_st (g_i M b) n (q1 + 6 + nm1.length) E1 2 ea.2.1 ea.2.2 := by rw [← haa.1]; exact ta
  refine ⟨p1, o4, c_takePathT (d := d + 1) o1 o3 hA hn hP hp1 hta haa.2.1 haa.2.2 fun M1 f1' hP1 hW1 hpp1 hl1' => ?_⟩
  intro _ _
  have hp21 := hp2.kS hP f1' (fun z => hS1 p2 z (Or.inl rfl))
  obtain ⟨hG1, hb1, hx1, hw1⟩ := hG.pt f1' (fun y hy => Or.inl hy) hP1 hpp1 hp21
  obtain ⟨h01, -⟩ := h0.kF hP f1' how1
  have hF1 : I_PF x p1 f1 t1 p2 f2 t2 t r M M1 := I_PF.rf.then f1' (fun y hy => Or.inr (Or.inl hy)) (fun y hy => Or.inl ((hw1 y).mp hy)) (fun k _ _ _ _ => by rw [hx1.1]) hx1.2
  refine ⟨t, by rw [hx1.2]; exact o6, b, by rw [hx1.2]; exact o3, c_isTr (d := d + 1) (e := ed) hG1.2.1.1 hn (by rw [hb1]; exact td) ?_⟩
  intro _ _ _
  -- from the tree on
  have h50 : ∀ w0 : Int, w0 = I_wy (ed :: rd) → g_Run (d + 3) 65 50 [(0, .ref x), (1, g_n q1), (2, g_n q2), (3, g_n (q1 + 6 + nm1.length)), (4, g_n (q2 + 6 + nm2.length))] [g_n w0, .ref t] M1 (g_qV Q) := by
    intro w0 hw0
    have hww : I_w w0 := by rw [hw0]; exact I_wy_w _
    have hwR : g_InR w0 := by rcases hww with g | g <;> rw [g] <;> exact ⟨by decide, by decide⟩
    refine s_X3_prepare_50 (hs1.R hn) (hs2.R hn) haR hdR hwR fun _ => ⟨o12.up f1'.1, c_clear (d := d) h01 hww (Or.inl rfl) fun j1 i1 M2 hT2 f2' => ?_⟩
    intro _ _
    obtain ⟨hG2, hk2', hb2, hx2⟩ := hG1.go h01 y1 f2'.1
    rw [show c + (B_ws j + B_wn i) + ((s_tx ea.2.2).length : Int) + (B_ws j1 + B_wn i1 - (B_ws j + B_wn i)) = c + (s_tx ea.2.2).length + (B_ws j1 + B_wn i1) by omega, show e + (3 * (j : Int) + 5 * i) + 1 + (3 * j1 + 5 * i1 - (3 * j + 5 * i)) = e + 1 + (3 * j1 + 5 * i1) by omega] at hG2
    have hF2 := hF1.then hk2' (fun y hy => Or.inr (Or.inr (Or.inr hy))) f2'.1.2.2.2.1 (fun k _ _ _ _ => by rw [hx2.1]) hx2.2
    have ha1 : 2 * M.1.length < 2 * M1.1.length ∧ ¬ B_own t M1 (2 * M.1.length) := ⟨by omega, fun z => by
      have := ((hw1 _).mp z).lt h0
      omega⟩
    have ha2 : 2 * M.1.length < 2 * M2.1.length ∧ ¬ B_own t M2 (2 * M.1.length) := ⟨by have := f2'.1.2.1; omega, fun z => by
      rcases f2'.1.2.2.2.1 _ z with g | g
      · exact ha1.2 g
      · omega⟩
    have hsm : ∀ y, y < 2 * M1.1.length → ¬ B_own t M1 y → g_i M2 y = g_i M1 y ∧ g_r M2 y = g_r M1 y := f2'.1.2.2.1
    have hdj1 := hG1.2.2.2.2.2.2
    have hW2 : p_WT M2 p1 f1 t1 (2 * M.1.length) (s_tx ea.2.2) := hW1.sm f2'.1.1 (hsm p1 hpp1.1.lt (h01.O hpp1.1 (by decide))) (hsm f1 (hdj1 f1 y4).1 (hdj1 f1 y4).2).1 (hsm t1 (hdj1 t1 y5).1 (hdj1 t1 y5).2).1 (hsm _ ha1.1 ha1.2).1
    have hb20 : g_i M2 b = g_i M b := hb2.trans hb1
    have hr2 : g_r M2 x = g_r M x := hx2.2.trans hx1.2
    refine ⟨hG2.1.1, b, by rw [hr2]; exact o3, c_nx2 (d := d + 2) hG2.2.1.1 hn (by rw [hb20]; exact ta) ?_⟩
    intro _ _ _
    refine ⟨b, by rw [hr2]; exact o3, ?_⟩
    rcases ra with _ | ⟨ec, ra⟩
    · -- one path
      have hrd : rd = [] := List.length_eq_zero_iff.mp hlen.symm
      subst hrd
      have htR : g_InR (q1 + 6 + nm1.length + (b_el ea.1 ea.2.1 ea.2.2).length) := by
        have := tra.2.2.1
        have := tra.2.2.2.1
        exact ⟨by omega, by omega⟩
      refine c_kdE (d := d + 2) (D := E1) hG2.2.1.1 hn (by rw [hb20]; exact tra) ?_
      intro _ _ _
      refine ⟨fun z => absurd z (by decide), fun _ => s_X3_prepare_81 (hs1.R hn) (hs2.R hn) htR hdR ⟨by decide, by decide⟩ fun _ => ⟨hG2.1.1, Or.inl rfl, fun M3 e3 _ => ?_⟩⟩
      obtain ⟨hG3, hf3, hne3, hgr3, how3⟩ := hG2.w e3
      refine ⟨hG3.1.1, fun _ => ?_, fun z => absurd (by rw [e3, g_i_wi, if_pos ⟨rfl, rfl⟩]) z⟩
      have hxo : ¬ B_own t M2 x := hT2.t0.O hG2.1.1 (by decide)
      have hT3 := (hT2.kF hG2.2.2.1 hf3 (fun y hy => by rw [hy]; exact hxo)).1
      have hF3 := hF2.then hf3 (fun y hy => Or.inl hy) (fun y hy => Or.inl ((how3 y).mp hy)) (fun k _ h10 _ _ => by rw [e3, g_i_wi, if_neg (fun z => h10 z.2)]) (hgr3 x)
      have hl3 := hf3.2.1
      have ha3 : 2 * M.1.length < 2 * M3.1.length ∧ ¬ B_own t M3 (2 * M.1.length) := ⟨by omega, fun z => ha2.2 ((how3 _).mp z)⟩
      have hW3 : p_WT M3 p1 f1 t1 (2 * M.1.length) (s_tx ea.2.2) := by
        obtain ⟨⟨m9, ⟨z1, z2, z3, z4, z5, z6⟩, w2, w3, -⟩, -⟩ := id hW2
        exact hW2.sm hf3.1 ⟨hne3 _ (g_neOO z1 hG2.1.1 (by decide)), hgr3 _⟩ (hne3 _ (fun z => g_neOA hG2.1.1 z4 z.symm)) (hne3 _ (fun z => g_neOA hG2.1.1 z5 z.symm)) (hne3 _ (fun z => g_neOA hG2.1.1 w3 z.symm))
      rw [hw0] at hT3
      refine hfin M3 (2 * M.1.length) (2 * M.1.length) j1 i1 _ _ htR hdR ?_ hT3 hF3 (Nat.le_refl _) (Nat.le_refl _) ha3 ha3 hW3 (by rw [e3, g_i_wi, if_pos ⟨rfl, rfl⟩, if_pos rfl]) fun ec hec => absurd hec (by simp)
      have hcc : c + (((s_tx ea.2.2).length : Int) + ((I_c2 [] : Nat) : Int)) + (B_ws j1 + B_wn i1) = c + (s_tx ea.2.2).length + (B_ws j1 + B_wn i1) := by
        show c + (((s_tx ea.2.2).length : Int) + ((0 : Nat) : Int)) + (B_ws j1 + B_wn i1) = _
        omega
      have hee : e + (1 + ((([] : List b_E).length : Nat) : Int)) + (3 * (j1 : Int) + 5 * i1) = e + 1 + (3 * j1 + 5 * i1) := by
        rw [List.length_nil]
        omega
      rw [hcc, hee]
      exact hG3
    · -- two paths
      have hra0 : ra = [] := by
        rw [List.length_cons] at hra
        exact List.length_eq_zero_iff.mp (by omega)
      subst hra0
      obtain ⟨ed2, hrd⟩ : ∃ ed2, rd = [ed2] := by
        rcases rd with _ | ⟨ed2, rd⟩
        · rw [List.length_cons, List.length_nil] at hlen
          omega
        · rw [List.length_cons, List.length_cons, List.length_nil] at hlen
          have : rd = [] := List.length_eq_zero_iff.mp (by omega)
          rw [this]
          exact ⟨ed2, rfl⟩
      subst hrd
      obtain ⟨tc, -⟩ := tra.cons
      obtain ⟨td2, -⟩ := trd.cons
      have hac := ha ec (List.mem_cons_of_mem _ List.mem_cons_self)
      have htR := tc.R hn
      refine c_kd2 (d := d + 2) hG2.2.1.1 hn (by rw [hb20]; exact tc) ?_
      intro _ _ _
      rw [hac.1]
      refine ⟨fun _ => s_X3_prepare_81 (hs1.R hn) (hs2.R hn) htR hdR ⟨by decide, by decide⟩ fun _ => ⟨hG2.1.1, Or.inr rfl, fun M3 e3 _ => ?_⟩, fun z => absurd rfl z⟩
      obtain ⟨hG3, hf3, hne3, hgr3, how3⟩ := hG2.w e3
      have hx310 : g_i M3 x 10 = 1 := by rw [e3, g_i_wi, if_pos ⟨rfl, rfl⟩]
      have hxo : ¬ B_own t M2 x := hT2.t0.O hG2.1.1 (by decide)
      have hT3 := (hT2.kF hG2.2.2.1 hf3 (fun y hy => by rw [hy]; exact hxo)).1
      have hF3 := hF2.then hf3 (fun y hy => Or.inl hy) (fun y hy => Or.inl ((how3 y).mp hy)) (fun k _ h10 _ _ => by rw [e3, g_i_wi, if_neg (fun z => h10 z.2)]) (hgr3 x)
      have hl3 := hf3.2.1
      have ha3 : 2 * M.1.length < 2 * M3.1.length ∧ ¬ B_own t M3 (2 * M.1.length) := ⟨by omega, fun z => ha2.2 ((how3 _).mp z)⟩
      have hW3 : p_WT M3 p1 f1 t1 (2 * M.1.length) (s_tx ea.2.2) := by
        obtain ⟨⟨m9, ⟨z1, z2, z3, z4, z5, z6⟩, w2, w3, -⟩, -⟩ := id hW2
        exact hW2.sm hf3.1 ⟨hne3 _ (g_neOO z1 hG2.1.1 (by decide)), hgr3 _⟩ (hne3 _ (fun z => g_neOA hG2.1.1 z4 z.symm)) (hne3 _ (fun z => g_neOA hG2.1.1 z5 z.symm)) (hne3 _ (fun z => g_neOA hG2.1.1 w3 z.symm))
      have hb30 : g_i M3 b = g_i M b := (hne3 b hbx).trans hb20
      have hr3 : g_r M3 x = g_r M x := (hgr3 x).trans hr2
      have htc : b_st (g_i M3 b) n (q1 + 6 + nm1.length + (b_el ea.1 ea.2.1 ea.2.2).length) E1 2 ec.2.1 ec.2.2 := by rw [hb30, ← hac.1]; exact tc
      refine ⟨hG3.1.1, fun z => absurd (hx310.symm.trans z) (by decide), fun _ => ⟨p2, by rw [hr3]; exact o5, c_takePathT (d := d + 1) hG3.1.1 (by rw [hr3]; exact o3) hG3.2.1.1 hn hG3.2.2.1 hG3.2.2.2.2.2.1 htc hac.2.1 hac.2.2 fun M4 f4 hP4 hW4 hpp4 hl4 => ?_⟩⟩
      intro _ _
      have hp14 := hG3.2.2.2.2.1.kS hG3.2.2.1 f4 (fun z => hS1 p1 (Or.inl rfl) z)
      obtain ⟨hG4, hb4, hx4, hw4⟩ := hG3.pt f4 (fun y hy => Or.inr hy) hP4 hp14 hpp4
      have hdj3 := hG3.2.2.2.2.2.2
      have how2 : ∀ y, p_S p2 f2 t2 y → ¬ B_own t M3 y := fun y hy => by
        rcases hy with z | z | z
        · rw [z]; exact hT3.t0.O hG3.2.2.2.2.2.1.1 (by decide)
        · rw [z]; exact (hdj3 f2 y6).2
        · rw [z]; exact (hdj3 t2 y7).2
      have hT4 := (hT3.kF hG3.2.2.1 f4 how2).1
      have hF4 := hF3.then f4 (fun y hy => Or.inr (Or.inr (Or.inl hy))) (fun y hy => Or.inl ((hw4 y).mp hy)) (fun k _ _ _ _ => by rw [hx4.1]) hx4.2
      have ha4 : 2 * M.1.length < 2 * M4.1.length ∧ ¬ B_own t M4 (2 * M.1.length) := ⟨by omega, fun z => ha3.2 ((hw4 _).mp z)⟩
      have hb4' : 2 * M3.1.length < 2 * M4.1.length ∧ ¬ B_own t M4 (2 * M3.1.length) := ⟨by omega, fun z => by
        have := ((hw4 _).mp z).lt hT3.t0
        omega⟩
      have hW14 : p_WT M4 p1 f1 t1 (2 * M.1.length) (s_tx ea.2.2) := by
        obtain ⟨⟨m9, z1, z2, w2, -⟩, -⟩ := id hW3
        obtain ⟨z3, z4, z5, z6, z7, z8⟩ := hG3.2.2.2.2.2.1
        refine hW3.kS hG3.2.2.1 f4 (fun z => hS1 p1 (Or.inl rfl) z) (fun z => hS1 f1 (Or.inr (Or.inl rfl)) z) (fun z => hS1 t1 (Or.inr (Or.inr rfl)) z) fun z => ?_
        rcases z with z | z | z
        · exact g_neOA z3 w2 z.symm
        · rw [z] at w2
          exact absurd (w2.fn z6).1 (by decide)
        · rw [z] at w2
          exact absurd (w2.fn z7).1 (by decide)
      have hr4 : g_r M4 x = g_r M x := hx4.2.trans hr3
      have hb40 : g_i M4 b = g_i M b := hb4.trans hb30
      refine ⟨t, by rw [hr4]; exact o6, b, by rw [hr4]; exact o3, b, by rw [hr4]; exact o3, c_nx2 (d := d + 2) hG4.2.1.1 hn (by rw [hb40]; exact td) ?_⟩
      intro _ _ _
      refine c_isTr (d := d + 1) (e := ed2) hG4.2.1.1 hn (by rw [hb40]; exact td2) ?_
      intro _ _ _
      have hend : ∀ (M5 : g_M) (w3 : Int), w3 = I_wy [ed2] → M5 = g_wi M4 t 13 w3 → g_Run (d + 3) 65 132 [(0, .ref x), (1, g_n q1), (2, g_n q2), (3, g_n (q1 + 6 + nm1.length + (b_el ea.1 ea.2.1 ea.2.2).length)), (4, g_n (q2 + 6 + nm2.length))] [] M5 (g_qV Q) := by
        intro M5 w3 hw3 e5
        obtain ⟨hT5, hB5⟩ := hT4.way (w3 := w3) (by rw [hw3]; exact I_wy_w _)
        rw [← e5] at hT5 hB5
        obtain ⟨hG5, hk5, hb5, hx5⟩ := hG4.go hT4.t0 y1 hB5
        have hF5 := hF4.then hk5 (fun y hy => Or.inr (Or.inr (Or.inr hy))) hB5.2.2.2.1 (fun k _ _ _ _ => by rw [hx5.1]) hx5.2
        have hdj4 := hG4.2.2.2.2.2.2
        have hsm5 : ∀ y, y < 2 * M4.1.length → ¬ B_own t M4 y → g_i M5 y = g_i M4 y ∧ g_r M5 y = g_r M4 y := hB5.2.2.1
        have hpx : ∀ {o ff tt aa : Nat} {X : List Int}, (ff < 2 * M4.1.length ∧ ¬ B_own t M4 ff) → (tt < 2 * M4.1.length ∧ ¬ B_own t M4 tt) → (aa < 2 * M4.1.length ∧ ¬ B_own t M4 aa) → p_WT M4 o ff tt aa X → p_WT M5 o ff tt aa X := fun g1 g2 g3 g => g.sm hB5.1 (hsm5 _ g.P.1.lt (hT4.t0.O g.P.1 (by decide))) (hsm5 _ g1.1 g1.2).1 (hsm5 _ g2.1 g2.2).1 (hsm5 _ g3.1 g3.2).1
        have hl5 := hB5.2.1
        rw [hw0, hw3] at hT5
        refine hfin M5 (2 * M.1.length) (2 * M3.1.length) j1 i1 _ _ htR hdR ?_ hT5 hF5 (Nat.le_refl _) (by omega) ⟨by omega, ?_⟩ ⟨by omega, ?_⟩ (hpx (hdj4 f1 y4) (hdj4 t1 y5) ha4 hW14) ?_ ?_
        · have hcc : c + (((s_tx ea.2.2).length : Int) + ((I_c2 [ec] : Nat) : Int)) + (B_ws j1 + B_wn i1) = c + (s_tx ea.2.2).length + (B_ws j1 + B_wn i1) + (s_tx ec.2.2).length + 0 := by
            show c + (((s_tx ea.2.2).length : Int) + (((s_tx ec.2.2).length : Nat) : Int)) + (B_ws j1 + B_wn i1) = _
            omega
          have hee : e + (1 + (([ec].length : Nat) : Int)) + (3 * (j1 : Int) + 5 * i1) = e + 1 + (3 * j1 + 5 * i1) + 1 + 0 := by
            rw [List.length_singleton]
            omega
          rw [hcc, hee]
          exact hG5
        · exact fun z => by
            rcases hB5.2.2.2.1 _ z with g | g
            · exact ha4.2 g
            · omega
        · exact fun z => by
            rcases hB5.2.2.2.1 _ z with g | g
            · exact hb4'.2 g
            · omega
        · rw [hx5.1, hx4.1, hx310, if_neg (List.cons_ne_nil _ _)]
        · intro ec2 hec
          have hec : ec = ec2 := (List.cons.inj hec).1
          subst hec
          exact ⟨hpx (hdj4 f2 y6) (hdj4 t2 y7) hb4' hW4, hac.2.2.2.1⟩
      refine ⟨fun z => ⟨o12.up (hF4.1.1), fun M5 e5 _ => hend M5 1 ?_ e5⟩, fun z => ⟨o12.up (hF4.1.1), fun M5 e5 _ => hend M5 (-1) ?_ e5⟩⟩
      · have hs : ¬ S_tr ed2 = true := fun h => by rw [if_pos h] at z; exact absurd z (by decide)
        show (1 : Int) = if S_tr ed2 = true then -1 else 1
        rw [if_neg hs]
      · have hs : S_tr ed2 = true := by
          by_cases h : S_tr ed2 = true
          · exact h
          · rw [if_neg h] at z
            exact absurd rfl z
        show (-1 : Int) = if S_tr ed2 = true then -1 else 1
        rw [if_pos hs]
  refine ⟨fun z => h50 1 ?_, fun z => h50 (-1) ?_⟩
  · have hs : ¬ S_tr ed = true := fun h => by rw [if_pos h] at z; exact absurd z (by decide)
    show (1 : Int) = if S_tr ed = true then -1 else 1
    rw [if_neg hs]
  · have hs : S_tr ed = true := by
      by_cases h : S_tr ed = true
      · exact h
      · rw [if_neg h] at z
        exact absurd rfl z
    show (-1 : Int) = if S_tr ed = true then -1 else 1
    rw [if_pos hs]
end PREPT
