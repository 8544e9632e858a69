/-! STAGES: $lookup, the reference, whole -/
section ELOOKUP
variable {m b ma be l ob : Nat} {M0 M M1 : g_M} {lo g : Int} {L : List Int} {os ds : List (List b_E)}
theorem E_S.fx {S : Nat → Int → Prop} (h : E_S m b l (g_i M b) M L) (f : e_fr S M M1) (h1 : ¬ S m 10) (h2 : ∀ k, ¬ S l k) : E_S m b l (g_i M1 b) M1 L := by
  obtain ⟨a1, a2, a3, a4, a5, a6, a7⟩ := h
  exact ⟨f.R a1, by rw [f.2.2]; exact a2, f.A a3, by rw [f.2.1 m 10 h1]; exact a4, b_at_keep a5 fun k _ _ => f.2.1 l k (h2 k), rfl, a7⟩
theorem e_lookDoc {d De : Nat} {Q : g_M → Prop} {pe dc : Int} {e h t a : b_E} {es : List b_E} (hT : E_T m b ma be M0) (hlA : g_A M0 l 1 80000) (hlo : 802000 ≤ lo) (hlo2 : lo ≤ 862000) (ho : E_os m b ob os M0) (hom : ob ≠ ma) (hno : b_at (g_i M0 b) 2706200 [10, 0]) (he : b_st (g_i M0 b) 2100 pe De e.1 e.2.1 e.2.2) (hk : e.1 = 3) (hch : b_ch e.2.2 = [h, t, a]) (h3 : J_3 h t a = 0) (hd : b_at (g_i M0 b) dc (b_doc es)) (hd1 : 2000 ≤ dc) (hd2 : dc + (b_doc es).length ≤ 922000) (hd3 : dc + (b_doc es).length ≤ lo ∨ lo + 60000 ≤ dc) (hl : (b_doc es).length ≤ 2000) (hg : X_gd 15 es) (hL : L.length ≤ 100) (hX : e_fr (J_E m b ma l lo) M0 M) (hS : E_S m b l (g_i M b) M L) (hW : e_Wr m b lo (lo + 60000) (E_wr ds) M) (hF : E_F m ma lo ds M) (hq : ∀ M1, e_fr (J_E m b ma l lo) M0 M1 → E_S m b l (g_i M1 b) M1 L → e_Wr m b lo (lo + 60000) (E_wr (ds ++ [J_mk os e es])) M1 → E_F m ma lo (ds ++ [J_mk os e es]) M1 → Q M1) : g_Call (d + 55) 344 [.ref m, g_n (pe + 2 + e.2.1.length), g_n dc] M (g_qV Q) := by
  obtain ⟨n1, n2, n3, n4, n5, n6⟩ := hT.ne
  obtain ⟨j1, j2, j3, j4, j5⟩ := J_E.no (lo := lo) hT hlA
  obtain ⟨⟨k1, -, k2, -, k3, -, k4⟩, k5, k6⟩ := J_3_inv h3
  have hlm : m ≠ l := g_neOA hT.1.1 hlA
  have hlma : ma ≠ l := g_neAA hT.2.2.2.1 hlA (by omega)
  have hmk : J_mk os e es = J_doc (s_tx a.2.2) (p_sp (s_tx h.2.2)) (p_sp (s_tx t.2.2)) os es := by
    unfold J_mk
    rw [hch]
  rw [hmk] at hq
  obtain ⟨D1, eD, hkids, hkl⟩ := he.kids (Or.inl hk)
  rw [hch] at hkids
  obtain ⟨hh0, hr1⟩ := hkids.cons
  obtain ⟨ht0, hr2⟩ := hr1.cons
  obtain ⟨ha0, -⟩ := hr2.cons
  obtain ⟨cp, hcp⟩ : ∃ cp : Int, cp = pe + 2 + e.2.1.length := ⟨_, rfl⟩
  obtain ⟨qh, hqh⟩ : ∃ q : Int, q = pe + 6 + e.2.1.length := ⟨_, rfl⟩
  rw [← hqh] at hh0 ht0 ha0
  obtain ⟨qt, hqt⟩ : ∃ q : Int, q = qh + (b_el h.1 h.2.1 h.2.2).length := ⟨_, rfl⟩
  rw [← hqt] at ht0 ha0
  obtain ⟨qa, hqa⟩ : ∃ q : Int, q = qt + (b_el t.1 t.2.1 t.2.2).length := ⟨_, rfl⟩
  rw [← hqa] at ha0
  have he4 := he.2.2.2.1
  have he5 := he.2.2.2.2
  have hel := b_el_len e.1 e.2.1 e.2.2
  have hh5 := hh0.2.2.2.2
  have ht5 := ht0.2.2.2.2
  have ha5 := ha0.2.2.2.2
  rw [b_el_len] at hh5 ht5 ha5
  have hh4 := hh0.2.2.2.1
  have ht4 := ht0.2.2.2.1
  have ha4 := ha0.2.2.2.1
  have hcpR : g_InR cp := ⟨by omega, by omega⟩
  have hdl := b_doc_len es
  have hdcR : g_InR dc := ⟨by omega, by omega⟩
  have hbk : ∀ {M2 : g_M}, e_fr (J_E m b ma l lo) M0 M2 → ∀ k, k < 922000 → (k < lo ∨ lo + 60000 ≤ k) → g_i M2 b k = g_i M0 b k := fun f k k1 k2 => f.2.1 b k (j1 k k1 k2)
  have hreq : ∀ {M2 : g_M}, e_fr (J_E m b ma l lo) M0 M2 → ∀ {q : Int} {D : Nat} {k : Int} {nm vb : List Int}, b_st (g_i M0 b) 2100 q D k nm vb → b_st (g_i M2 b) 2706210 q D k nm vb := by
    intro M2 f q D k nm vb hs
    exact ⟨b_at_keep hs.1 fun j j1 j2 => hbk f j (by have := hs.2.2.2.2; omega) (by have := hs.2.2.2.2; omega), hs.2.1, hs.2.2.1, hs.2.2.2.1, by have := hs.2.2.2.2; omega⟩
  have hct : ∀ {M2 : g_M}, e_fr (J_E m b ma l lo) M0 M2 → E_ct (g_i M2 b) dc 15 es := fun f => ⟨b_at_keep hd fun k k1 k2 => hbk f k (by omega) (by omega), by omega, hd2, hg⟩
  obtain ⟨z1, z2, z3, z4⟩ := ha0.text k3
  obtain ⟨nm, hnmd⟩ : ∃ nm, nm = s_tx a.2.2 := ⟨_, rfl⟩
  obtain ⟨fm, hfm⟩ : ∃ fm : Int, fm = qa + 2 + a.2.1.length + 4 := ⟨_, rfl⟩
  rw [← hfm, ← hnmd] at z3
  rw [← hnmd] at z1 z2 k4 hq
  have hnm2 : ∀ {M2 : g_M}, e_fr (J_E m b ma l lo) M0 M2 → b_at (g_i M2 b) fm nm := fun f => b_at_keep z3 fun k k1 k2 => hbk f k (by omega) (by omega)
  obtain ⟨sh, hsh⟩ : ∃ sh, sh = p_sp (s_tx h.2.2) := ⟨_, rfl⟩
  obtain ⟨st, hst⟩ : ∃ st, st = p_sp (s_tx t.2.2) := ⟨_, rfl⟩
  rw [← hsh, ← hst] at hq
  have hwu : ∀ {y : Nat} {k : Int}, e_WL m b lo (lo + 60000) y k → J_E m b ma l lo y k := fun z => J_EW.up (Or.inl z)
  have hFw : ∀ {Ma Mb : g_M}, E_F m ma lo ds Ma → e_fr (J_EW m b l lo) Ma Mb → E_F m ma lo ds Mb := fun h f => h.fr (fun k hk => f.2.1 m k fun z => by
      rcases z with (⟨-, z⟩ | ⟨z, -⟩) | z | ⟨-, z⟩
      · omega
      · exact n1 z
      · exact hlm z
      · omega) fun k => f.2.1 ma k fun z => by
      rcases z with (⟨z, -⟩ | ⟨z, -⟩) | z | ⟨z, -⟩
      · exact n2 z.symm
      · exact n4 z.symm
      · exact hlma z
      · exact n2 z.symm
  -- its elements
  have htl : e_tl (g_i M b) cp (cp + 4) D1 [h, t, a] [h, t, a] := by
    obtain ⟨D2, ys, eD2, e2, -, e4, e5, -⟩ := (hreq hX he).tl (Or.inl hk)
    have eD2' : D2 = D1 := by omega
    subst eD2'
    rw [hch] at e5
    subst e5
    rw [← hcp, show pe + 6 + (e.2.1.length : Int) = cp + 4 by omega] at e4
    exact e4
  have hL3 : L_at (cp + 4) [h, t, a] = [(qh, h), (qt, t), (qa, a)] := by rw [hqa, hqt, hqh, hcp, show pe + 2 + (e.2.1.length : Int) + 4 = pe + 6 + e.2.1.length by omega]; rfl
  have hitem : ∀ {k : Int} {x : Int × b_E} {Q1 : Int → g_M → Prop}, 0 ≤ k → k ≤ 2 → [(qh, h), (qt, t), (qa, a)][k.toNat]? = some x → Q1 x.1 M → g_Call (d + 54) 241 [.ref m, g_n cp, g_n k] M (g_qI Q1) := fun k0 k1 hx h1 => e_itemE (d := d + 49) (D := D1) hS.1 htl k0 ⟨by omega, by omega⟩ (by rw [hL3, hx]; exact h1)
  rw [← hcp]
  refine m_X12_lookup hcpR hdcR fun _ => ⟨hS.1.1, hitem (x := (qh, h)) (by decide) (by decide) rfl ?_⟩
  intro _ _ hqhR
  refine hitem (x := (qt, t)) (by decide) (by decide) rfl ?_
  intro _ _ hqtR
  refine hitem (x := (qa, a)) (by decide) (by decide) rfl ?_
  intro _ _ hqaR
  refine e_vl2 (d := d + 52) hS.1 (hreq hX ha0) ?_
  intro _ _ _
  refine ⟨⟨by omega, by omega⟩, e_textEnd (d := d + 51) hS.1 (hreq hX ha0) k3 ?_⟩
  rw [← hnmd, ← hfm]
  intro _ _ _
  refine e_findE (d := d + 49) hS.1 ((hct hX).tl fun _ _ => rfl) (hnm2 hX) (by omega) (by omega) ?_
  intro _ _ hownR
  refine e_open (d := d + 51) hW fun r36 M2 f2 W2 hr36 => ?_
  intro _ _ h36R
  have X2 := hX.tr (f2.up fun _ _ => hwu)
  have S2 := hS.wr f2
  have F2 := hFw hF (f2.up fun _ _ z => Or.inl z)
  refine e_first (d := d + 53) (by omega) (by omega) ?_
  intro _ _ _
  have hgood := J_doc_good (sh := sh) (st := st) (es := es) (S_pl_nz k4) ho.2.2.2.1 hg
  obtain ⟨hnn, hss⟩ := L_opt_fn (x := nm) (es := es) (dc + 4)
  obtain ⟨own, hown⟩ : ∃ own, own = L_opt (L_find nm (L_at (dc + 4) es)) := ⟨_, rfl⟩
  rw [← hown] at hownR ⊢
  rw [← hown] at hss
  -- where it is with the documents
  have hrun : ∀ (xs l1 rest : List b_E) (body : List Int) (q q2 : Int) (M1 : g_M), es = l1 ++ (xs ++ rest) → q = dc + 4 + (b_ser l1).length → q2 = q + (b_ser xs).length → (own < q ∨ q2 ≤ own) → e_fr (J_E m b ma l lo) M0 M1 → E_S m b l (g_i M1 b) M1 L → E_F m ma lo ds M1 → e_Wr m b lo (lo + 60000) (E_wr ds ++ ([0, 0, 0, 0] ++ body)) M1 → (∀ M3, e_fr (J_E m b ma l lo) M0 M3 → E_S m b l (g_i M3 b) M3 L → E_F m ma lo ds M3 → e_Wr m b lo (lo + 60000) (E_wr ds ++ ([0, 0, 0, 0] ++ (body ++ b_ser xs))) M3 → g_Run (d + 54) 344 64 [(0, .ref m), (1, g_n cp), (2, g_n dc), (3, g_n qh), (4, g_n qt), (5, g_n qa), (6, g_n fm), (7, g_n (fm + nm.length)), (8, g_n own), (9, g_n r36), (10, g_n q2)] [] M3 (g_qV Q)) → g_Run (d + 54) 344 64 [(0, .ref m), (1, g_n cp), (2, g_n dc), (3, g_n qh), (4, g_n qt), (5, g_n qa), (6, g_n fm), (7, g_n (fm + nm.length)), (8, g_n own), (9, g_n r36), (10, g_n q)] [] M1 (g_qV Q) := by
    intro xs
    induction xs with
    | nil =>
      intro l1 rest body q q2 M1 _ _ e3 _ x1 s1 f1 w1 hnext
      have h9 := hnext M1 x1 s1 f1 (by
        have : b_ser [] = [] := rfl
        rw [this, List.append_nil]
        exact w1)
      rwa [e3, show q + ((b_ser []).length : Int) = q from by show q + ((0 : Nat) : Int) = q; omega] at h9
    | cons y xs ih =>
      intro l1 rest body q q2 M1 e1 e2 e3 e5 x1 s1 f1 w1 hnext
      have hyl := b_el_len y.1 y.2.1 y.2.2
      rw [b_ser_len] at e3
      have htl1 : e_tl (g_i M1 b) dc q 15 es (y :: (xs ++ rest)) := by
        have h9 : e_tl (g_i M1 b) dc (dc + 4) 15 es es := (hct x1).tl fun _ _ => rfl
        have h10 : e_tl (g_i M1 b) dc (dc + 4) 15 es (l1 ++ (y :: (xs ++ rest))) := by
          have h11 := h9
          conv at h11 => arg 6; rw [e1]
          exact h11
        rw [e2]
        exact h10.app
      have hy := htl1.cons.1
      have hyR := hy.R (by decide)
      have hy4 := hy.2.2.2.1
      have hy5 := hy.2.2.2.2
      have hle : q + (b_el y.1 y.2.1 y.2.2).length ≤ dc + (b_doc es).length := by
        have := congrArg (fun z => (b_ser z).length) e1
        simp only [b_ser_app, List.length_append, List.cons_append, b_ser_len] at this
        omega
      refine s_X12_lookup_64 hcpR hdcR hqhR hqtR hqaR ⟨by omega, by omega⟩ ⟨by omega, by omega⟩ hownR h36R hyR fun _ => ⟨s1.1.1, e_lastC (d := d + 51) s1.1 htl1 fun r5 hr5 hr5' => ?_⟩
      intro _ _ _
      refine ⟨fun _ => ⟨fun g0 => absurd g0 (by omega), fun _ => e_bh2 (d := d + 50) s1.1 hy ?_⟩, fun g0 => absurd hr5 g0⟩
      intro _ _ _
      refine e_putBytes (d := d + 52) w1 hy.1 hy4 (by omega) (by omega) fun M27 f27 W27 => ?_
      intro _ _
      have x27 := x1.tr (f27.up fun _ _ => hwu)
      have s27 := s1.wr f27
      have hy27 : b_st (g_i M27 b) 2706210 q 15 y.1 y.2.1 y.2.2 := ⟨b_at_keep hy.1 fun k k1 k2 => by rw [hbk x27 k (by omega) (by omega), hbk x1 k (by omega) (by omega)], hy.2.1, hy.2.2.1, hy4, hy5⟩
      refine e_bh2 (d := d + 50) s27.1 hy27 ?_
      intro _ _ _
      refine ih (l1 ++ [y]) rest (body ++ b_el y.1 y.2.1 y.2.2) _ q2 M27 (by rw [e1]; simp) (by rw [b_ser_app, List.length_append, b_ser_1]; omega) (by omega) (by omega) x27 s27 (hFw f1 (f27.up fun _ _ z => Or.inl z)) (by
        have ew : E_wr ds ++ ([0, 0, 0, 0] ++ body) ++ b_el y.1 y.2.1 y.2.2 = E_wr ds ++ ([0, 0, 0, 0] ++ (body ++ b_el y.1 y.2.1 y.2.2)) := by simp
        rw [ew] at W27
        exact W27) fun M3 x3 s3 f3 w3 => ?_
      refine hnext M3 x3 s3 f3 ?_
      have : body ++ b_el y.1 y.2.1 y.2.2 ++ b_ser xs = body ++ b_ser (y :: xs) := by rw [List.append_assoc]; rfl
      rw [this] at w3
      exact w3
  -- the row
  have hjoin : ∀ (M1 : g_M) (body : List Int) (Q1 : g_M → Prop), e_fr (J_E m b ma l lo) M0 M1 → E_S m b l (g_i M1 b) M1 L → E_F m ma lo ds M1 → e_Wr m b lo (lo + 60000) (E_wr ds ++ ([0, 0, 0, 0] ++ body)) M1 → (∀ M3, e_fr (J_E m b ma l lo) M0 M3 → E_S m b l (g_i M3 b) M3 L → E_F m ma lo ds M3 → e_Wr m b lo (lo + 60000) (E_wr ds ++ ([0, 0, 0, 0] ++ (body ++ b_el 4 nm (b_doc (J_row 0 (J_fd sh st os es)))))) M3 → Q1 M3) → g_Call (d + 54) 346 [.ref m, g_n qh, g_n qt, g_n fm, g_n (fm + nm.length), g_n dc] M1 (g_qV Q1) := by
    intro M1 body Q1 x1 s1 f1 w1 hn
    rw [hsh, hst] at hn
    refine e_putJoined (d := d + 1) hT hlA hlo hlo2 ho hom hno hh0 ht0 k1 k2 k5 k6 z3 (by omega) (by omega) hd hd1 hd2 hd3 hl hg hL x1 s1 w1 fun M3 f3 s3 w3 => ?_
    refine hn M3 (x1.tr (f3.up fun _ _ z => z.up)) s3 (hFw f1 f3) ?_
    have ew : ∀ z : List Int, E_wr ds ++ ([0, 0, 0, 0] ++ body) ++ z = E_wr ds ++ ([0, 0, 0, 0] ++ (body ++ z)) := fun z => by simp
    rw [ew] at w3
    exact w3
  -- the end
  have hclose : ∀ (M1 : g_M), e_fr (J_E m b ma l lo) M0 M1 → E_S m b l (g_i M1 b) M1 L → E_F m ma lo ds M1 → e_Wr m b lo (lo + 60000) (E_wr ds ++ ([0, 0, 0, 0] ++ b_ser (J_doc nm sh st os es))) M1 → g_Call (d + 54) 252 [.ref m, g_n r36] M1 (g_qV fun M7 => g_ext M1 M7 → g_ok M7 → g_Call (d + 54) 336 [.ref m, g_n r36] M7 (g_qV fun M10 => g_ext M7 M10 → g_ok M10 → Q M10)) := by
    intro M1 x1 s1 f1 w1
    refine e_close (d := d + 52) w1 hr36 fun M7 f7 W7 => ?_
    intro _ _
    have x7 := x1.tr (f7.up fun _ _ => hwu)
    have s7 := s1.wr f7
    rw [← b_doc_app, ← E_wr_snoc] at W7
    refine e_deliver (d := d + 53) (es := J_doc nm sh st os es) W7.1 (by rw [x7.2.2]; exact hT.2.1) (x7.A hT.2.2.2.1) hr36 h36R (hFw f1 (f7.up fun _ _ z => Or.inl z)) fun M10 f10 hF10 => ?_
    intro _ _
    refine hq M10 (x7.tr (f10.up fun y k z => ?_)) (s7.fx f10 (fun z => ?_) fun k z => ?_) (W7.kp f10 (fun k k1 k2 z => ?_) fun k _ _ z => ?_) hF10
    · rcases z with ⟨z, z2⟩ | z
      · exact Or.inl (Or.inl ⟨z, by omega⟩)
      · exact Or.inl (Or.inr (Or.inl z))
    · rcases z with ⟨-, z⟩ | z
      · omega
      · exact n2 z
    · rcases z with ⟨z, -⟩ | z
      · exact hlm z.symm
      · exact hlma z.symm
    · rcases z with ⟨-, z⟩ | z
      · omega
      · exact n2 z
    · rcases z with ⟨z, -⟩ | z
      · exact n1 z.symm
      · exact n4 z
  -- behind the last element
  have hE : ∀ (M1 : g_M) (q : Int), e_fr (J_E m b ma l lo) M0 M1 → q = dc + 4 + (b_ser es).length → e_tl (g_i M1 b) dc q 15 es [] := fun M1 q x1 hqe => by
    have h9 : e_tl (g_i M1 b) dc (dc + 4) 15 es (es ++ []) := by
      rw [List.append_nil]
      exact (hct x1).tl fun _ _ => rfl
    rw [hqe]
    exact h9.app
  rcases hf0 : L_fn nm es with _ | e0
  · have hov : own = -1 := by
      rw [hown, hnn hf0]
      rfl
    have hjd : J_doc nm sh st os es = es ++ [J_w nm sh st os es] := by unfold J_doc; rw [J_put_n hf0]
    refine hrun es [] [] [] _ _ M2 (by simp) (by show dc + 4 = dc + 4 + ((0 : Nat) : Int); omega) rfl (by omega) X2 S2 F2 (by rw [List.append_nil]; exact W2) fun M3 x3 s3 f3 w3 => ?_
    have hq2R : g_InR (dc + 4 + ((b_ser es).length : Int)) := ⟨by omega, by omega⟩
    refine s_X12_lookup_64 hcpR hdcR hqhR hqtR hqaR ⟨by omega, by omega⟩ ⟨by omega, by omega⟩ hownR h36R hq2R fun _ => ⟨s3.1.1, e_lastE (d := d + 51) s3.1 (hE M3 _ x3 rfl) ?_⟩
    intro _ _ _
    refine ⟨fun z => absurd z (by omega), fun _ => ⟨fun _ => hjoin M3 _ _ x3 s3 f3 w3 fun M13 x13 s13 f13 w13 => ?_, fun z => absurd hov z⟩⟩
    intro _ _
    refine hclose M13 x13 s13 f13 ?_
    rw [hjd, b_ser_app, b_ser_1]
    exact w13
  · obtain ⟨l1, t1, l2, l3, l4, l5, l6⟩ := hss e0 hf0
    have hjd : J_doc nm sh st os es = l1 ++ J_w nm sh st os es :: t1 := by unfold J_doc; rw [J_put_s hf0 l3]
    have hel0 := b_el_len e0.1 e0.2.1 e0.2.2
    have hlen := congrArg (fun z => (b_ser z).length) l2
    simp only [b_ser_app, List.length_append, b_ser_len] at hlen
    refine hrun l1 [] (e0 :: t1) [] _ own M2 l2 (by show dc + 4 = dc + 4 + ((0 : Nat) : Int); omega) (by omega) (by omega) X2 S2 F2 (by rw [List.append_nil]; exact W2) fun M3 x3 s3 f3 w3 => ?_
    have htl3 : ∀ {M4 : g_M}, e_fr (J_E m b ma l lo) M0 M4 → e_tl (g_i M4 b) dc own 15 es (e0 :: t1) := fun x4 => by
      have h9 : e_tl (g_i _ b) dc (dc + 4) 15 es es := (hct x4).tl fun _ _ => rfl
      conv at h9 => arg 6; rw [l2]
      have := h9.app
      rwa [← l6] at this
    refine s_X12_lookup_64 hcpR hdcR hqhR hqtR hqaR ⟨by omega, by omega⟩ ⟨by omega, by omega⟩ hownR h36R hownR fun _ => ⟨s3.1.1, e_lastC (d := d + 51) s3.1 (htl3 x3) fun r5 hr5 hr5' => ?_⟩
    intro _ _ _
    refine ⟨fun _ => ⟨fun _ => hjoin M3 _ _ x3 s3 f3 w3 fun M35 x35 s35 f35 w35 => ?_, fun z => absurd rfl z⟩, fun z => absurd hr5 z⟩
    intro _ _
    refine e_bh2 (d := d + 50) s35.1 (htl3 x35).cons.1 ?_
    intro _ _ _
    refine hrun t1 (l1 ++ [e0]) [] _ _ _ M35 (by rw [l2]; simp) (by rw [b_ser_app, List.length_append, b_ser_1]; omega) rfl (Or.inl (by omega)) x35 s35 f35 w35 fun M4 x4 s4 f4 w4 => ?_
    have hq2R : g_InR (own + (b_el e0.1 e0.2.1 e0.2.2).length + ((b_ser t1).length : Int)) := ⟨by omega, by omega⟩
    refine s_X12_lookup_64 hcpR hdcR hqhR hqtR hqaR ⟨by omega, by omega⟩ ⟨by omega, by omega⟩ hownR h36R hq2R fun _ => ⟨s4.1.1, e_lastE (d := d + 51) s4.1 (hE M4 (own + (b_el e0.1 e0.2.1 e0.2.2).length + ((b_ser t1).length : Int)) x4 (by omega)) ?_⟩
    intro _ _ _
    refine ⟨fun z => absurd z (by omega), fun _ => ⟨fun z => absurd z (by omega), fun _ => hclose M4 x4 s4 f4 ?_⟩⟩
    rw [hjd, b_ser_app]
    show e_Wr m b lo (lo + 60000) (E_wr ds ++ ([0, 0, 0, 0] ++ (b_ser l1 ++ (b_el 4 nm (b_doc (J_row 0 (J_fd sh st os es))) ++ b_ser t1)))) M4
    have h9 : [] ++ b_ser l1 ++ b_el 4 nm (b_doc (J_row 0 (J_fd sh st os es))) ++ b_ser t1 = b_ser l1 ++ (b_el 4 nm (b_doc (J_row 0 (J_fd sh st os es))) ++ b_ser t1) := by simp
    rw [h9] at w4
    exact w4
/-- what comes of it -/
def J_SG (m b ma be l : Nat) (y : Nat) (k : Int) : Prop := E_SG m b ma be y k ∨ E_lf m l y k
def E_finL (m b ma be l : Nat) (L : List Int) (M : g_M) (g : Int) (Q : Int → g_M → Prop) (ds : List (List b_E)) : Prop := (S_bad ds → ∀ M1, e_fr (J_SG m b ma be l) M M1 → E_S m b l (g_i M1 b) M1 L → g_i M1 m 24 = 1 - g → Q 5 M1) ∧ (¬ S_bad ds → ∀ M1, e_fr (J_SG m b ma be l) M M1 → E_S m b l (g_i M1 b) M1 L → g_i M1 m 24 = 1 - g → E_belt m b be (1 - g) ds M1 → Q 0 M1)
theorem E_finL.tr {Q : Int → g_M → Prop} (h : E_finL m b ma be l L M g Q ds) (f : e_fr (J_SG m b ma be l) M M1) : E_finL m b ma be l L M1 g Q ds := ⟨fun z M2 h2 => h.1 z M2 (f.tr h2), fun z M2 h2 => h.2 z M2 (f.tr h2)⟩
theorem E_finL.fin {Q : Int → g_M → Prop} (h : E_finL m b ma be l L M g Q ds) (hT : E_T m b ma be M) (hS : E_S m b l (g_i M b) M L) : E_fin m b ma be M g Q ds := by
  obtain ⟨n1, n2, n3, n4, n5, n6⟩ := hT.ne
  have hs : ∀ {M2 : g_M}, e_fr (E_SG m b ma be) M M2 → E_S m b l (g_i M2 b) M2 L := fun f => hS.fx f (fun z => by
    rcases z with ⟨-, z⟩ | z | z | ⟨z, -⟩
    · omega
    · exact n2 z
    · exact n3 z
    · exact n1 z) fun k z => by
    have hl := hS.2.2.1
    rcases z with ⟨z, -⟩ | z | z | ⟨z, -⟩
    · exact g_neOA hT.1.1 hl z.symm
    · exact g_neAA hl hT.2.2.2.1 (by omega) z
    · exact g_neAA hl hT.2.2.2.2.1 (by omega) z
    · exact g_neAA hl hT.1.2.2 (by omega) z
  exact ⟨fun z M2 f k1 => h.1 z M2 (f.up fun _ _ z => Or.inl z) (hs f) k1, fun z M2 f k1 k2 => h.2 z M2 (f.up fun _ _ z => Or.inl z) (hs f) k1 k2⟩
theorem e_lookup {d De : Nat} {Q : Int → g_M → Prop} {pe : Int} {e : b_E} (hT : E_T m b ma be M0) (hg : g_i M0 m 24 = 1 - g) (hg01 : g = 0 ∨ g = 1) (hbt : E_belt m b be g ds M0) (ho : E_os m b ob os M0) (hom : ob ≠ ma) (hno : b_at (g_i M0 b) 2706200 [10, 0]) (he : b_st (g_i M0 b) 2100 pe De e.1 e.2.1 e.2.2) (hnm : e.2.1 = b_tx 47) (hsf : J_sf e = 0) (hL : L.length ≤ 100) (hS : E_S m b l (g_i M0 b) M0 L) (hW : e_Wr m b (E_lo g) (E_lo g + 60000) [] M0) (hF : E_F m ma (E_lo g) [] M0) (hf : E_finL m b ma be l L M0 g Q (ds.map (J_mk os e))) : g_Run (d + 70) 339 169 [(0, .ref m), (1, g_n pe), (2, g_n 0)] [] M0 (g_qI Q) := by
  obtain ⟨n1, n2, n3, n4, n5, n6⟩ := hT.ne
  obtain ⟨hlo1, hlo2, hlo3⟩ := E_lo_R hg01
  obtain ⟨h19, hok, hpl⟩ := id hbt
  have hlA := hS.2.2.1
  obtain ⟨j1, j2, j3, j4, j5⟩ := J_E.no (lo := E_lo g) hT hlA
  have he4 := he.2.2.2.1
  have he5 := he.2.2.2.2
  have hel := b_el_len e.1 e.2.1 e.2.2
  have hpeR : g_InR pe := ⟨by omega, by omega⟩
  have hl200 := hok.1
  obtain ⟨hk, h, t, a, hch, h3⟩ : e.1 = 3 ∧ ∃ h t a, b_ch e.2.2 = [h, t, a] ∧ J_3 h t a = 0 := by
    by_cases hc : e.1 = 3 ∧ (b_ch e.2.2).length = 3
    · obtain ⟨hk, hc3⟩ := hc
      obtain ⟨h, t, a, hch⟩ : ∃ h t a, b_ch e.2.2 = [h, t, a] := by
        generalize b_ch e.2.2 = l at hc3
        rcases l with _ | ⟨x, _ | ⟨y, _ | ⟨z, _ | ⟨w, l⟩⟩⟩⟩
        · exact absurd hc3 (by decide)
        · exact absurd hc3 (by simp)
        · exact absurd hc3 (by simp)
        · exact ⟨x, y, z, rfl⟩
        · exact absurd hc3 (by simp)
      exact ⟨hk, h, t, a, hch, by rw [← J_sf_3 hk hch]; exact hsf⟩
    · rw [J_sf_n hc] at hsf
      exact absurd hsf (by decide)
  have hgdk : ∀ es ∈ ds, X_gd 30 (J_mk os e es) := fun es hes => by
    obtain ⟨⟨-, -, -, -, -, -, k4⟩, -⟩ := J_3_inv h3
    unfold J_mk
    rw [hch]
    exact J_doc_good (S_pl_nz k4) ho.2.2.2.1 (hok.2.2 es hes).2
  have hlp : ∀ (n i : Nat) (M1 : g_M), i + n = ds.length → e_fr (J_E m b ma l (E_lo g)) M0 M1 → E_S m b l (g_i M1 b) M1 L → e_Wr m b (E_lo g) (E_lo g + 60000) (E_wr ((ds.take i).map (J_mk os e))) M1 → E_F m ma (E_lo g) ((ds.take i).map (J_mk os e)) M1 → g_Run (d + 70) 339 169 [(0, .ref m), (1, g_n pe), (2, g_n i)] [] M1 (g_qI Q) := by
    intro n
    induction n with
    | zero =>
      intro i M1 hi f S W F
      have hT1 := hT.fr f
      rw [List.take_of_length_le (by omega)] at W F
      refine s_X12_stage_169 hpeR ⟨by omega, by omega⟩ fun _ => ⟨hT1.1.1, fun z => absurd z (by rw [f.2.1 m 19 (j3 19 (by decide)), h19]; omega), fun _ => ?_⟩
      have hf1 := (hf.tr (f.up fun y k z => z.elim (fun z => Or.inl (z.sg (be := be) hlo1 hlo2)) Or.inr)).fin hT1 S
      refine e_endE (d := d) (g := g) hT1 (by rw [f.2.1 m 24 (j3 24 (by decide))]; exact hg) hg01 W F ?_ ⟨fun z M4 h4 k1 => fun _ _ _ => hf1.1 z M4 h4 k1, fun z M4 h4 k1 k2 => fun _ _ _ => hf1.2 z M4 h4 k1 k2⟩
      intro es2 hes2
      obtain ⟨es, hes, rfl⟩ := List.mem_map.mp hes2
      exact hgdk es hes
    | succ n ih =>
      intro i M1 hi f S W F
      obtain ⟨es, hes⟩ : ∃ es, ds[i]? = some es := ⟨_, List.getElem?_eq_getElem (by omega)⟩
      obtain ⟨dp, p1, p2, p3, p4, p5⟩ := hpl i es hes
      obtain ⟨m1, m2⟩ := hok.2.2 es (List.mem_of_getElem? hes)
      have htk : ds.take (i + 1) = ds.take i ++ [es] := by rw [List.take_add_one, hes]; rfl
      have hT1 := hT.fr f
      have he1 : b_st (g_i M1 b) 2706210 pe De e.1 e.2.1 e.2.2 := ⟨b_at_keep he.1 fun j k1 k2 => f.2.1 b j (j1 j (by omega) (by omega)), he.2.1, he.2.2.1, he4, by omega⟩
      refine s_X12_stage_169 hpeR ⟨by omega, by omega⟩ fun _ => ⟨hT1.1.1, fun _ => e_nm3 (d := d + 66) (j := 109) (j2 := 41) (by decide) rfl hT1.1 he1 (fun z => absurd (hnm.symm.trans z) (by decide +kernel)) fun _ => ?_, fun z => absurd (by rw [f.2.1 m 19 (j3 19 (by decide)), h19]; omega) z⟩
      intro _ _ _
      refine ⟨fun _ => e_nm3 (d := d + 66) (j := 110) (j2 := 42) (by decide) rfl hT1.1 he1 (fun z => absurd (hnm.symm.trans z) (by decide +kernel)) fun _ => ?_, fun z => absurd rfl z⟩
      intro _ _ _
      refine ⟨fun _ => e_vl2 (d := d + 68) hT1.1 he1 ?_, fun z => absurd rfl z⟩
      intro _ _ _
      refine ⟨be, hT1.2.2.1, _, hT1.2.2.2.2.1, ⟨by omega, by omega⟩, ?_⟩
      rw [f.2.1 be i (j4 i), p1]
      refine e_lookDoc (d := d + 15) hT hlA hlo1 hlo2 ho hom hno he hk hch h3 p2 p3 p4 p5 m1 m2 hL f S W F fun M2 f2 S2 W2 F2 => ?_
      intro _ _
      refine ⟨⟨by omega, by omega⟩, ?_⟩
      have h9 := ih (i + 1) M2 (by omega) f2 S2 (by rw [htk, List.map_append]; exact W2) (by rw [htk, List.map_append]; exact F2)
      rwa [show ((i + 1 : Nat) : Int) = (i : Int) + 1 by omega] at h9
  exact hlp ds.length 0 M0 (by omega) (e_fr.rf _ _) hS hW hF
theorem e_stLookup {d De : Nat} {Q : Int → g_M → Prop} {pe : Int} {e : b_E} (hT : E_T m b ma be M) (hg : g_i M m 24 = g) (hg01 : g = 0 ∨ g = 1) (hbt : E_belt m b be g ds M) (ho : E_os m b ob os M) (hom : ob ≠ ma) (hob : ob ≠ be) (hno : b_at (g_i M b) 2706200 [10, 0]) (he : b_st (g_i M b) 2100 pe De e.1 e.2.1 e.2.2) (hnm : e.2.1 = b_tx 47) (hsf : J_sf e = 0) (hL : L.length ≤ 100) (hS : E_S m b l (g_i M b) M L) (hf : E_finL m b ma be l L M g Q (ds.map (J_mk os e))) : g_Call (d + 71) 339 [.ref m, g_n pe] M (g_qI Q) := by
  obtain ⟨n1, n2, n3, n4, n5, n6⟩ := hT.ne
  have he5 := he.2.2.2.2
  have heM : b_st (g_i M b) 2706210 pe De e.1 e.2.1 e.2.2 := ⟨he.1, he.2.1, he.2.2.1, he.2.2.2.1, by omega⟩
  have hl := hS.2.2.1
  refine e_stMake (d := d + 66) hT.1 heM (Or.inr (Or.inr hnm)) fun Q2 hq2 => ?_
  -- what the beginning changes
  have hfi : ∀ P : g_M → Prop, (∀ M1, e_fr (fun y k => y = m ∧ ((4 ≤ k ∧ k ≤ 6) ∨ (23 ≤ k ∧ k ≤ 25))) M M1 → g_i M1 m 24 = 1 - g → e_Wr m b (E_lo g) (E_lo g + 60000) [] M1 → E_F m ma (E_lo g) [] M1 → P M1) → g_Call (d + 70) 337 [.ref m] M (g_qV P) := fun P hP => e_beginMaking (d := d + 68) (ma := ma) hT.1 hT.2.2.2.1 hg hg01 fun M1 f W h24 hF => hP M1 f h24 W hF
  refine hfi _ fun M1 f h24 W F => ?_
  have hb : g_i M1 b = g_i M b := funext fun k => f.2.1 b k fun z => n1 z.1.symm
  have hbt1 : E_belt m b be g ds M1 := hbt.keep f (fun z => by have := z.2; omega) (fun k z => n3 z.1.symm) fun k _ _ z => n1 z.1.symm
  have ho1 : E_os m b ob os M1 := by
    obtain ⟨o1, o2, o3, o4, o5⟩ := ho
    refine ⟨by rw [f.2.2]; exact o1, f.A o2, by rw [f.2.1 m 21 fun z => by have := z.2; omega]; exact o3, o4, fun i es hi => ?_⟩
    rw [hb, f.2.1 ob i fun z => g_neOA hT.1.1 o2 z.1.symm]
    exact o5 i es hi
  refine hq2 M1 (f.R hT.1) (by rw [hb]; exact heM) ?_
  exact e_lookup (d := d) (hT.fr f) h24 hg01 hbt1 ho1 hom (by rw [hb]; exact hno) (by rw [hb]; exact he) hnm hsf hL (hS.fx f (fun z => by have := z.2; omega) fun k z => g_neOA hT.1.1 hl z.1.symm) W F (hf.tr (f.up fun y k z => Or.inl (Or.inl ⟨z.1, by have := z.2; omega⟩)))
end ELOOKUP
