/-! INDEX: it takes its paths and ways, and stands, class -/
theorem k_P.nw {M : g_M} {r b : Nat} {c e : Int} {L : List Int} (h : k_P M r b c e L) (t m : Nat) : k_P (g_nw M t m) r b (c + m) (e + 1) L := by
  obtain ⟨o1, o2, a, n, o3, o4, o5, o6, o7, o8, o9, o10⟩ := h
  have hr := o1.lt
  have ha := o4.lt
  have hx : g_ext M (g_nw M t m) := g_extN rfl
  refine ⟨o1.up hx, by rw [g_r_nw, if_neg (by omega)]; exact o2, a, n, by rw [g_r_nw, if_neg (by omega)]; exact o3, o4.up hx, by rw [g_i_nw, if_neg (by omega)]; exact o5, o6, o7, by rw [g_sl_nw]; omega, ?_, b_at_keep o10 fun q _ _ => by rw [g_i_nw, if_neg (by omega)]⟩
  have : (g_nw M t m).1.length = M.1.length + 1 := by
    unfold g_nw
    rw [List.length_append, List.length_singleton]
  omega
theorem k_F.nw {S : Nat → Prop} {M : g_M} {r : Nat} (hr : r < 2 * M.1.length) (t m : Nat) : k_F S r M (g_nw M t m) := by
  refine ⟨g_extN rfl, ?_, fun a h => Or.inl (by rwa [g_r_nw, if_neg (by omega)] at h), fun k _ => by rw [g_i_nw, if_neg (by omega)], fun k _ => by rw [g_r_nw, if_neg (by omega)], fun x h1 _ _ _ => ⟨funext fun j => by rw [g_i_nw, if_neg (by omega)], funext fun j => by rw [g_r_nw, if_neg (by omega)]⟩⟩
  unfold g_nw
  rw [List.length_append]
  exact Nat.le_add_right _ _
section PREP
variable {d x r b o f t q : Nat} {c e n : Int} {L : List Int} {M : g_M}
theorem c_takePath {Q : g_M → Prop} {v2 : Int} {D : Nat} {nm vb : List Int} (hx : g_O M x 3) (h1 : g_r M x 1 = some b) (hA : g_A M b 0 n) (hn : n ≤ 1000000000) (hP : k_P M r b c e L) (hp : p_P M o f t) (hs : b_st (g_i M b) n v2 D 2 nm vb) (hl : (s_tx vb).length ≤ 2000) (hok : p_ok (s_tx vb)) (hq : ∀ M1, k_F (p_S o f t) r M M1 → k_P M1 r b (c + (s_tx vb).length) (e + 1) L → p_W M1 o f t (2 * M.1.length) (s_tx vb).length 0 (p_sp (s_tx vb)) → p_P M1 o f t → M1.1.length = M.1.length + 1 → Q M1) : g_Call (d + 2) 66 [.ref x, .ref o, g_n v2] M (g_qV Q) := by
  have hnl := hA.len
  obtain ⟨v1, w2, v3, v4⟩ := hs.val
  obtain ⟨s, e1, e2, -⟩ := b_gv_txt hs.2.2.1
  have htx : s_tx vb = s := by rw [e1]; exact s_tx_eq
  rw [htx] at hl hok hq
  have hvl : vb.length = s.length + 5 := by
    rw [e1, List.length_append, List.length_append]
    have h4 : (b_le4 ((s.length : Int) + 1)).length = 4 := rfl
    have h5 : ([0] : List Int).length = 1 := rfl
    omega
  rw [e1] at v1
  obtain ⟨a1, a2⟩ := b_app.mp v1
  have h4 : (b_le4 ((s.length : Int) + 1)).length = 4 := rfl
  rw [h4] at a2
  obtain ⟨a3, -⟩ := b_app.mp a2
  refine m_X3_takePath (hs.R hn) fun _ => ⟨hx, b, h1, c_va (d := d) hA ⟨by omega, by omega⟩ hs.nm ?_⟩
  intro _ _ _
  refine ⟨b, h1, c_w4 (d := d) hA ⟨by omega, by omega⟩ (by omega) (by omega) ?_⟩
  intro _ _ _
  rw [show v2 + 1 + nm.length + 1 = v2 + 2 + nm.length by omega, b_w4_le4 (by omega) (by omega) a1]
  rw [show max (0 : Int) (min ((s.length : Int) + 1 - 1) 2000) = s.length by omega]
  refine ⟨⟨by omega, by omega⟩, ⟨by omega, by omega⟩, fun M18 e18 _ => ?_⟩
  rw [Int.toNat_natCast] at e18
  have hb := hA.lt
  have hAn : g_A M18 (2 * M.1.length) 0 (s.length : Nat) := by rw [e18]; exact g_A_nw
  have hx18 : g_ext M M18 := g_extN e18
  have hxl := hx.lt
  refine ⟨b, by rw [e18, g_r_nw, if_neg (by omega)]; exact h1, ⟨by omega, by omega⟩, (s.length : Nat), hAn, ⟨by omega, by omega⟩, n, hA.up hx18, ⟨by omega, by omega, by omega, by omega, by omega⟩, fun M31 e31 _ => ?_⟩
  obtain ⟨z1, z2, z3, z4, z5, z6⟩ := id hp
  have hol := z1.lt
  have hfl := z4.lt
  have htl := z5.lt
  have hP18 : k_P M18 r b (c + s.length) (e + 1) L := by rw [e18]; exact hP.nw 0 s.length
  have f18 : k_F (p_S o f t) r M M18 := by rw [e18]; exact k_F.nw hP.1.lt 0 s.length
  have hrl := hP.1.lt
  have f31 : k_F (fun y => y = 2 * M.1.length) r M18 M31 := by
    refine k_F.of ⟨by rw [e31]; rfl, fun y hy => ⟨funext fun j => by rw [e31, g_i_cp, if_neg (fun z => hy z.1)], funext fun j => by rw [e31, g_r_cp]⟩⟩ (by omega)
  have hP31 : k_P M31 r b (c + s.length) (e + 1) L := by
    refine hP18.of (S := fun y => y = 2 * M.1.length) ⟨by rw [e31]; rfl, fun y hy => ⟨funext fun j => by rw [e31, g_i_cp, if_neg (fun z => hy z.1)], funext fun j => by rw [e31, g_r_cp]⟩⟩ (by omega) fun a m h1 h2 z => ?_
    subst z
    exact absurd (h1.fn hAn).1 (by decide)
  have ff31 : k_F (p_S o f t) r M M31 := f18.trN f31 fun y hy => Or.inr (by omega)
  have hp31 : p_P M31 o f t := by
    have hr : g_r M31 o = g_r M o := funext fun j => by rw [e31, g_r_cp, e18, g_r_nw, if_neg (by omega)]
    exact ⟨z1.up ff31.1, by rw [hr]; exact z2, by rw [hr]; exact z3, z4.up ff31.1, z5.up ff31.1, z6⟩
  have hat : b_at (g_i M31 (2 * M.1.length)) 0 s := by
    have h9 := b_at_move (B2 := g_i M31 (2 * M.1.length)) (s := -(v2 + 2 + nm.length + 4)) a3 fun j j1 j2 => by
      rw [e31, g_i_cp, if_pos ⟨rfl, by omega, by omega⟩, e18, g_i_nw, if_neg (by omega)]
      congr 1
      omega
    rwa [show v2 + 2 + (nm.length : Int) + ((4 : Nat) : Int) + -(v2 + 2 + nm.length + 4) = 0 by omega] at h9
  have hl31 : M31.1.length = M.1.length + 1 := by
    rw [e31]
    show M18.1.length = _
    rw [e18]
    unfold g_nw
    rw [List.length_append, List.length_singleton]
  refine ⟨⟨by omega, by omega⟩, z1.up ff31.1, ?_⟩
  have h9 := c_set (d := d) (r0 := none) (x := s) (p := 0) (Q := fun r40 M37 => g_ext M31 M37 → g_ok M37 → g_InR r40 → Q M37) hp31 (hAn.up f31.1) (by omega) (by omega) (by omega) (by omega) hat (by decide) (by omega) (fun _ M1 g1 g2 g3 => fun _ _ _ => ?_) (fun z => absurd hok z)
  · rwa [Int.zero_add] at h9
  · have hne : ∀ y, p_S o f t y → y ≠ r ∧ y ≠ 2 * M.1.length := by
      intro y hy
      rcases hy with hy | hy | hy
      · rw [hy]
        exact ⟨fun z => g_neOO z1 hP.1 (by decide) z, by omega⟩
      · rw [hy]
        exact ⟨fun z => g_neOA hP.1 z4 z.symm, by omega⟩
      · rw [hy]
        exact ⟨fun z => g_neOA hP.1 z5 z.symm, by omega⟩
    have fl : k_F (p_S o f t) r M31 M1 := k_F.of g1 fun z => (hne r z).1 rfl
    have hP1 : k_P M1 r b (c + s.length) (e + 1) L := by
      refine hP31.of g1 (fun z => (hne r z).1 rfl) fun a m h1 h2 z => ?_
      rcases z with z | z | z
      · rw [z] at h1
        exact g_neOA (z1.up ff31.1) h1 rfl
      · rw [z] at h1
        have := (h1.fn (z4.up ff31.1)).2
        rw [this] at h2
        exact absurd h2 (by unfold k_n; omega)
      · rw [z] at h1
        have := (h1.fn (z5.up ff31.1)).2
        rw [this] at h2
        exact absurd h2 (by unfold k_n; omega)
    have hac : g_i M1 (2 * M.1.length) = g_i M31 (2 * M.1.length) := (g1.2 _ fun z => (hne _ z).2 rfl).1
    refine hq M1 (ff31.tr fl) hP1 ?_ g2 (by rw [g1.1]; exact hl31)
    exact p_W.of g2 (g1.A (hAn.up f31.1)) (by omega) g3 (by rw [hac]; exact hat) (by decide) (by omega)
end PREP
