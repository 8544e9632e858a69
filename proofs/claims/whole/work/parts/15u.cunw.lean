/-! STAGES: $unwind, the class -/
theorem U_doc_none {st : List (List Int)} {es : List b_E} (h : ∀ x, V_res st es ≠ some (x, [])) : U_doc st es = [] := by
  unfold U_doc
  rcases hv : V_res st es with _ | z
  · rfl
  · show (if z.2.isEmpty = true then _ else []) = []
    rw [if_neg]
    intro hz
    refine h z.1 ?_
    rw [hv]
    have : z.2 = [] := by
      rcases hz2 : z.2 with _ | ⟨a, r⟩
      · rfl
      · rw [hz2] at hz
        exact absurd hz (by simp)
    rw [← this]
theorem U_doc_some {st : List (List Int)} {es : List b_E} {x : b_E} (h : V_res st es = some (x, [])) : U_doc st es = if x.1 = 10 then [] else if x.1 = 4 then (b_ch x.2.2).map (fun it => U_put st it es) else [es] := by
  unfold U_doc
  rw [h]
  rfl
theorem U_doc_good {st : List (List Int)} {es : List b_E} (hg : X_gd 15 es) (hl : (b_ser es).length ≤ 15000) : ∀ ys ∈ U_doc st es, X_gd 15 ys := by
  intro ys hys
  rcases hv : V_res st es with _ | ⟨x, r⟩
  · rw [U_doc_none (fun x hx => by rw [hv] at hx; exact absurd hx (by simp))] at hys
    exact absurd hys (by simp)
  · rcases r with _ | ⟨s, r⟩
    · rw [U_doc_some hv] at hys
      split at hys
      · exact absurd hys (by simp)
      · split at hys
        · rename_i h4
          obtain ⟨it, hit, rfl⟩ := List.mem_map.mp hys
          exact (U_put_good st 15 es hg hl hv h4 hit).1
        · rw [List.mem_singleton.mp hys]
          exact hg
    · rw [U_doc_none (fun x hx => by rw [hv] at hx; exact absurd (congrArg Prod.snd (Option.some.inj hx)) (by simp))] at hys
      exact absurd hys (by simp)
section CUNW
variable {so b po pf pt ou sc be fr : Nat} {M0 M M1 : g_M} {lo g : Int} {ds : List (List b_E)}
theorem c_unwind {d De : Nat} {Q : Int → g_M → Prop} {pe : Int} {e : b_E} (hT : S_T so b po pf pt ou sc be fr M) (hg : g_i M so 17 = g) (hg01 : g = 0 ∨ g = 1) (hbt : S_belt so b be g ds M) (he : b_st (g_i M b) 2100 pe De e.1 e.2.1 e.2.2) (hq2 : S_dol e = false → Q 2 M) (hq3 : S_dol e = true → S_ef e = true → ∀ M1, S_Y so b po pf pt ou sc be fr M M1 → Q 3 M1) (hf : S_dol e = true → S_ef e = false → S_fin so b po pf pt ou sc be fr M g Q (ds.flatMap (U_doc (p_sp (S_pt e))))) : g_Call (d + 72) 153 [.ref so, g_n pe] M (g_qI Q) := by
  obtain ⟨hS, w2, hP, -⟩ := id hT
  have hpeR := he.R (by decide)
  have he4 := he.2.2.2.1
  have he5 := he.2.2.2.2
  have hel := b_el_len e.1 e.2.1 e.2.2
  have heM : b_st (g_i M b) 246408 pe De e.1 e.2.1 e.2.2 := ⟨he.1, he.2.1, he.2.2.1, he.2.2.2.1, by omega⟩
  refine m_X9_unwind hpeR fun _ => ⟨hS.1, c_dolText (d := d + 69) hS heM ?_⟩
  intro _ _ _
  by_cases hdol : S_dol e = true
  rotate_left
  · rw [if_neg hdol]
    exact ⟨fun _ => hq2 (by simpa using hdol), fun z => absurd rfl z⟩
  rw [if_pos hdol]
  obtain ⟨hk, hts⟩ := S_dol_tx hdol
  obtain ⟨st, hst⟩ : ∃ st, st = p_sp (S_pt e) := ⟨_, rfl⟩
  rw [← hst] at hf
  refine ⟨fun z => absurd z (by decide), fun _ => ⟨po, w2, b, hS.2.1, hP.1, ?_⟩⟩
  refine c_plainText (d := d + 69) (sk := 1) (pre := [36]) (w := S_pt e) hP hS.2.2 (by decide) heM hk hts rfl (fun hok M1 f1 q1 q2 => ?_) fun hno M1 f1 q1 => ?_
  rotate_left
  · intro _ _ _
    have hef : S_ef e = true := by
      unfold S_ef
      rw [hdol, F_pl_f hno]
      rfl
    exact ⟨fun _ => hq3 hdol hef M1 (S_Y.path hT f1 q1).1, fun z => absurd rfl z⟩
  intro _ _ _
  have hef : S_ef e = false := by
    unfold S_ef
    rw [F_pl_t hok]
    simp
  have hf0 := hf hdol hef
  refine ⟨fun z => absurd z (by decide), fun _ => ?_⟩
  obtain ⟨hY1, hT1, hi1⟩ := S_Y.path hT f1 q1
  have eso := hi1 so hT.n1.2.1 hT.n1.2.2.1 hT.n1.2.2.2.1
  have eb := hi1 b hT.n2.1 hT.n2.2.1 hT.n2.2.2.1
  have ebe := hi1 be hT.n3.1.2.2.1.symm hT.n3.2.1.2.2.1.symm hT.n3.2.2.1.2.2.1.symm
  have hbt1 : S_belt so b be g ds M1 := hbt.keep (by rw [eso]) (fun k => by rw [ebe]) fun k _ _ => by rw [eb]
  obtain ⟨t1, t2, t3, -⟩ := he.text hk
  rw [hts, List.length_cons] at t1
  have hpb : b_at (g_i M b) (pe + 2 + e.2.1.length + 4 + ((1 : Nat) : Int)) (S_pt e) := by
    rw [hts] at t3
    exact (b_cons.mp t3).2
  obtain ⟨i1, i2, i3, i4⟩ := q2
  have hPa1 : S_Pa (g_i M1 b) b po pf pt 0 st M1 := ⟨i1, by rw [i2, hst]; omega, by rw [eb, hst]; exact p_rb_of _ (Nat.le_refl _) hpb i4 (by omega) (by omega)⟩
  have hst8 : st.length ≤ 8 := by rw [hst]; exact hok.1.2.1
  have hstne : st ≠ [] := by rw [hst, p_sp_eq]; simp
  refine c_beginM (d := d + 69) (g := g) hT1 (by rw [eso]; exact hg) hg01 hbt1 fun M2 hY2 hT2 h17 _ hbt2 hD2 _ hb2 f12 => ?_
  intro _ _
  have hPa2 : S_Pa (g_i M2 b) b po pf pt 0 st M2 := by
    rw [hb2]
    refine hPa1.ef f12 (fun k z => ?_) (fun k z => ?_) fun k z => ?_
    · rcases z with z | z | z
      · exact hT.n1.2.1 z.symm
      · exact hT.n3.1.1 z
      · exact hT.n3.1.2.1 z
    · rcases z with z | z | z
      · exact hT.n1.2.2.1 z.symm
      · exact hT.n3.2.1.1 z
      · exact hT.n3.2.1.2.1 z
    · rcases z with z | z | z
      · exact hT.n1.2.2.2.1 z.symm
      · exact hT.n3.2.2.1.1 z
      · exact hT.n3.2.2.1.2.1 z
  obtain ⟨h14, hokb, hpl⟩ := id hbt2
  have hlo := S_lo_R hg01
  have hl200 := hokb.1
  have hlp : ∀ (r i : Nat) (M3 : g_M) (u : List Int) (J : Int), i + r = ds.length → S_X so b po pf pt ou sc fr M2 M3 (S_lo g) → S_Pa (g_i M2 b) b po pf pt 0 st M3 → S_D so b ou fr (S_lo g) J ((ds.take i).flatMap (U_doc st)) u M3 → U_J i u J → g_Run (d + 71) 153 34 [(0, .ref so), (1, g_n pe), (2, g_n i)] [] M3 (g_qI Q) := by
    intro r
    induction r with
    | zero =>
      intro i M3 u J hi hX3 _ hD3 _
      have hT3 := hX3.T hT2
      have h143 : g_i M3 so 14 = ds.length := by rw [hX3.2.2.2.1 14 (by decide) (by decide) (by decide)]; exact h14
      rw [List.take_of_length_le (by omega)] at hD3
      refine s_X9_unwind_34 hpeR ⟨by omega, by omega⟩ fun _ => ⟨hT3.1.1, fun z => absurd z (by omega), fun _ => c_endM (d := d + 70) (g := g) hT3 (by rw [hX3.2.2.2.1 17 (by decide) (by decide) (by decide)]; exact h17) hg01 hD3 ?_ ?_⟩
      · intro es2 hes2
        obtain ⟨es, hes, hes3⟩ := List.mem_flatMap.mp hes2
        have hm := hokb.2.2 es hes
        exact (U_doc_good hm.2 (by have h9 := hm.1; rw [b_doc_len] at h9; omega) es2 hes3).le (by decide)
      · have hf3 := ((hf0.tr hY1).tr hY2).tr (S_Y.x (be := be) hX3 hlo.1)
        exact ⟨fun z M4 h4 => fun _ _ _ => hf3.1 z M4 h4, fun z M4 h4 k1 k2 => fun _ _ _ => hf3.2 z M4 h4 k1 k2⟩
    | succ r ih =>
      intro i M3 u J hi hX3 hP3 hD3 hJ3
      obtain ⟨es, hes⟩ : ∃ es, ds[i]? = some es := ⟨_, List.getElem?_eq_getElem (by omega)⟩
      obtain ⟨dp, p1, p2, p3⟩ := hpl i es hes
      obtain ⟨m1, m2⟩ := hokb.2.2 es (List.mem_of_getElem? hes)
      have hT3 := hX3.T hT2
      have h143 : g_i M3 so 14 = ds.length := by rw [hX3.2.2.2.1 14 (by decide) (by decide) (by decide)]; exact h14
      have hbe3 : ∀ {M4 : g_M}, S_X so b po pf pt ou sc fr M2 M4 (S_lo g) → g_i M4 be i = dp := fun h => by
        obtain ⟨-, -, -, -, -, -, a7, -⟩ := hT2.n1
        obtain ⟨-, -, -, -, -, b6, -⟩ := hT2.n2
        obtain ⟨⟨-, -, c3, -⟩, ⟨-, -, d3, -⟩, ⟨-, -, e3, -⟩, ⟨-, f2, -⟩, ⟨g1, -⟩, g3⟩ := hT2.n3
        rw [h.2.2.1 be a7.symm b6.symm c3.symm d3.symm e3.symm f2.symm g1.symm g3 i]
        exact p1
      have htk : ds.take (i + 1) = ds.take i ++ [es] := by rw [List.take_add_one, hes]; rfl
      have hdp4 := p2.2.2.2.1
      have hdp5 := p2.2.2.2.2
      have hdel := b_el_len 3 [] (b_doc es)
      rw [List.length_nil] at hdel
      have hdR := p2.R (by decide)
      have hser : (b_ser es).length ≤ 15000 := by rw [b_doc_len] at m1; omega
      have hi1' : ((i + 1 : Nat) : Int) = (i : Int) + 1 := by omega
      -- the next document
      have hnext : ∀ (M4 : g_M) (u4 : List Int) (J4 : Int) (xs : List (List b_E)), xs = U_doc st es → S_X so b po pf pt ou sc fr M2 M4 (S_lo g) → S_Pa (g_i M2 b) b po pf pt 0 st M4 → S_D so b ou fr (S_lo g) J4 ((ds.take i).flatMap (U_doc st) ++ xs) u4 M4 → U_J (i + 1) u4 J4 → g_InR ((i : Int) + 1) ∧ g_Run (d + 71) 153 34 [(0, .ref so), (1, g_n pe), (2, g_n ((i : Int) + 1))] [] M4 (g_qI Q) := by
        intro M4 u4 J4 xs hxs k1 k2 k3 k4
        refine ⟨⟨by omega, by omega⟩, ?_⟩
        have h9 := ih (i + 1) M4 u4 J4 (by omega) k1 k2 (by rw [htk, List.flatMap_append]; rw [hxs] at k3; simpa using k3) k4
        rwa [hi1'] at h9
      have hJup : ∀ {u4 : List Int} {J4 : Int}, U_J i u4 J4 → U_J (i + 1) u4 J4 := fun h => ⟨h.1, by have := h.2.1; omega, fun z => by have := h.2.2 z; omega⟩
      -- nothing, or MISSING
      have hnone : (∀ x, V_res st es ≠ some (x, [])) → ∀ s9 : Nat, s9 ≤ 9 → g_Run (d + 71) 153 126 [(0, .ref so), (1, g_n pe), (2, g_n i), (3, g_n (-1)), (4, g_n s9)] [] M3 (g_qI Q) := by
        intro hn s9 hs9
        refine s_X9_unwind_126 hpeR ⟨by omega, by omega⟩ ⟨by decide, by decide⟩ ⟨by omega, by omega⟩ fun _ => ⟨hT3.1.1, b, hT3.1.2.1, c_kind (d := d + 70) hT3.1.2.2 ⟨by decide, by decide⟩ ⟨by decide, by decide⟩ ?_⟩
        intro _ _ _
        exact ⟨fun _ => hnext M3 u J [] (U_doc_none hn).symm hX3 hP3 (by rw [List.append_nil]; exact hD3) (hJup hJ3), fun z => absurd (by decide) z⟩
      -- an element
      have hsome : ∀ (x : b_E) (c : List h_F) (q : Int) (s9 : Nat), s9 ≤ 9 → V_res st es = some (x, []) → U_cx x st (3, [], b_doc es) c → c.length = st.length → q = h_at dp c → b_st (g_i M2 b) 163608 q 15 x.1 x.2.1 x.2.2 → dp ≤ q → q + (b_el x.1 x.2.1 x.2.2).length ≤ dp + (b_el 3 [] (b_doc es)).length → g_Run (d + 71) 153 126 [(0, .ref so), (1, g_n pe), (2, g_n i), (3, g_n q), (4, g_n s9)] [] M3 (g_qI Q) := by
        intro x c q s9 hs9 hv hcx hcl hqc hxs hq1 hq2'
        have hxR := hxs.R (by decide)
        have hxin : ∀ {M4 : g_M}, S_X so b po pf pt ou sc fr M2 M4 (S_lo g) → b_st (g_i M4 b) 246408 q 15 x.1 x.2.1 x.2.2 := fun h => ⟨b_at_keep hxs.1 fun k k1 k2 => h.2.2.2.2.1 k (by omega) (p3 k (by omega) (by omega)).2, hxs.2.1, hxs.2.2.1, hxs.2.2.2.1, by have := hxs.2.2.2.2; omega⟩
        have hu := U_doc_some hv
        refine s_X9_unwind_126 hpeR ⟨by omega, by omega⟩ hxR ⟨by omega, by omega⟩ fun hok3 => ⟨hT3.1.1, b, hT3.1.2.1, c_kd2 (d := d + 70) hT3.1.2.2 (by decide) (hxin hX3) ?_⟩
        intro _ _ _
        refine ⟨fun z => absurd z (by omega), fun _ => ⟨fun g10 => ?_, fun g10 => ⟨fun g4 => ⟨b, hT3.1.2.1, c_fi2 (d := d + 70) hT3.1.2.2 (by decide) (hxin hX3) ?_⟩, fun g4 => ?_⟩⟩⟩
        · rw [if_pos g10] at hu
          exact hnext M3 u J [] hu.symm hX3 hP3 (by rw [List.append_nil]; exact hD3) (hJup hJ3)
        · -- the items
          rw [if_neg g10, if_pos g4] at hu
          intro _ _ _
          obtain ⟨D1, eD, hkids, hkl⟩ := hxs.kids (Or.inr g4)
          have hmany := b_ser_many (b_ch x.2.2)
          have hxel := b_el_len x.1 x.2.1 x.2.2
          have hil : ∀ (xs cs1 : List b_E) (q6 : Int) (n6 : Nat) (M4 : g_M) (u4 : List Int) (J4 : Int), b_ch x.2.2 = cs1 ++ xs → q6 = q + 6 + x.2.1.length + (b_ser cs1).length → n6 + xs.length < 100000 → S_X so b po pf pt ou sc fr M2 M4 (S_lo g) → S_Pa (g_i M2 b) b po pf pt 0 st M4 → S_D so b ou fr (S_lo g) J4 ((ds.take i).flatMap (U_doc st) ++ cs1.map (fun it => U_put st it es)) u4 M4 → U_J i u4 J4 → g_Run (d + 71) 153 219 [(0, .ref so), (1, g_n pe), (2, g_n i), (3, g_n q), (4, g_n x.1), (5, g_n q6), (6, g_n n6)] [] M4 (g_qI Q) := by
            have hxkR : g_InR x.1 := by rw [g4]; exact ⟨by decide, by decide⟩
            intro xs
            induction xs with
            | nil =>
              intro cs1 q6 n6 M4 u4 J4 h1 h2 hn6 k1 k2 k3 k4
              have hT4 := k1.T hT2
              rw [List.append_nil] at h1
              have hq6 : g_InR q6 := by
                rw [h1] at hkl
                have := hxs.2.2.2.2
                exact ⟨by omega, by omega⟩
              have hsE : b_sts (g_i M4 b) 246408 q6 D1 [] := by
                obtain ⟨D1', eD', hk', -⟩ := (hxin k1).kids (Or.inr g4)
                have eDD : D1' = D1 := by omega
                subst eDD
                rw [h1, ← List.append_nil cs1] at hk'
                have := hk'.app
                rwa [← h2] at this
              refine s_X9_unwind_219 hpeR ⟨by omega, by omega⟩ hxR hxkR hq6 ⟨by omega, by omega⟩ fun _ => ⟨fun _ => ⟨hT4.1.1, b, hT4.1.2.1, c_kdE (d := d + 70) hT4.1.2.2 (by decide) hsE fun _ _ _ => ⟨fun _ => hnext M4 u4 J4 _ (by rw [hu, h1]) k1 k2 k3 (hJup k4), fun z => absurd rfl z⟩⟩, fun z => absurd (by rw [List.length_nil] at hn6; omega) z⟩
            | cons it xs ihi =>
              intro cs1 q6 n6 M4 u4 J4 h1 h2 hn6 k1 k2 k3 k4
              have hT4 := k1.T hT2
              rw [List.length_cons] at hn6
              have hit2 : b_st (g_i M2 b) 163608 q6 D1 it.1 it.2.1 it.2.2 := by
                have := hkids
                rw [h1] at this
                have h9 := this.app.cons.1
                rwa [← h2] at h9
              have hlen := congrArg List.length (congrArg b_ser h1)
              rw [b_ser_app, List.length_append, b_ser_len] at hlen
              have hqin : ∀ {M5 : g_M}, S_X so b po pf pt ou sc fr M2 M5 (S_lo g) → b_st (g_i M5 b) 246408 q6 D1 it.1 it.2.1 it.2.2 := fun h => ⟨b_at_keep hit2.1 fun k k1 k2 => h.2.2.2.2.1 k (by omega) (p3 k (by omega) (by omega)).2, hit2.2.1, hit2.2.2.1, hit2.2.2.2.1, by have := hit2.2.2.2.2; omega⟩
              have hitR := hit2.R (by decide)
              have hitk := b_vs_pos (b_gv_vs hit2.2.2.1)
              refine s_X9_unwind_219 hpeR ⟨by omega, by omega⟩ hxR hxkR hitR ⟨by omega, by omega⟩ fun _ => ⟨fun _ => ⟨hT4.1.1, b, hT4.1.2.1, c_kd2 (d := d + 70) hT4.1.2.2 (by decide) (hqin k1) fun _ _ _ => ⟨fun z => absurd z (by omega), fun _ => ⟨be, hT4.2.2.2.1.2.2.1, _, hT4.2.2.2.2.1.1, ⟨by omega, by omega⟩, ?_⟩⟩⟩, fun z => absurd (by omega) z⟩
              rw [hbe3 k1]
              refine c_unwItem (d := d + 1) (iD := i) (J := J4) hT2 hlo.1 hlo.2.1 p2 (fun k j1 j2 => (p3 k j1 j2).2) m1 m2 hcx hv g4 (by rw [h1]; simp) hcl hst8 hqc hit2 (by omega) (by omega) hxs (by omega) k1 k2 k3 k4 fun M5 u5 J5 k6 k7 k8 k9 => ?_
              intro _ _
              have hT5 := k6.T hT2
              refine ⟨b, hT5.1.2.1, c_nx2 (d := d + 70) hT5.1.2.2 (by decide) (hqin k6) ?_⟩
              intro _ _ _
              refine ⟨⟨by omega, by omega⟩, ?_⟩
              have h9 := ihi (cs1 ++ [it]) (q6 + (b_el it.1 it.2.1 it.2.2).length) (n6 + 1) M5 u5 J5 (by rw [h1]; simp) (by rw [b_ser_app, List.length_append, b_ser_1]; omega) (by omega) k6 k7 (by rw [List.map_append, ← List.append_assoc]; exact k8) k9
              rwa [show ((n6 + 1 : Nat) : Int) = (n6 : Int) + 1 by omega] at h9
          exact hil (b_ch x.2.2) [] _ 0 M3 u J rfl (by show q + 6 + (x.2.1.length : Int) = q + 6 + x.2.1.length + ((0 : Nat) : Int); omega) (by omega) hX3 hP3 (by rw [List.map_nil, List.append_nil]; exact hD3) hJ3
        · -- as it is
          rw [if_neg g10, if_neg g4] at hu
          obtain ⟨hu3, hF3, h183⟩ := hD3
          obtain ⟨⟨s1, s2, s3⟩, -, -, ⟨w4, -, w6, w7⟩, ⟨q1, q2, -⟩, -⟩ := id hT3
          have hdM : b_st (g_i M3 b) 246408 dp 16 3 [] (b_doc es) := ⟨b_at_keep p2.1 fun k k1 k2 => hX3.2.2.2.2.1 k (by omega) (p3 k k1 k2).2, p2.2.1, p2.2.2.1, p2.2.2.2.1, by omega⟩
          refine ⟨ou, w4, hu3.1.1, ou, w4, b, s2, be, w6, _, q1, ⟨by omega, by omega⟩, b, s2, be, w6, _, q1, ⟨by omega, by omega⟩, ?_⟩
          rw [hbe3 hX3]
          refine c_nx2 (d := d + 70) s3 (by decide) hdM ?_
          intro _ _ _
          refine ⟨hu3.1.1, c_copyT (d := d + 70) hu3 s3 (by decide) hdM.1 hdp4 (by omega) rfl fun M4 f4 W4 => ?_⟩
          intro _ _
          have hX4 : S_X so b po pf pt ou sc fr M2 M4 (S_lo g) := hX3.e hT2 f4 fun y k z => by
            rcases z with ⟨z, -⟩ | ⟨z, z2⟩
            · exact Or.inr (Or.inl z)
            · exact Or.inr (Or.inr (Or.inr (Or.inr ⟨z, Or.inr z2⟩)))
          obtain ⟨hS4, -, -, ⟨x4, -, -, x7⟩, ⟨-, xq2, -⟩, -⟩ := hX4.T hT2
          have hso4 : ∀ k, g_i M4 so k = g_i M3 so k := fun k => f4.2.1 so k fun z => by
            rcases z with ⟨z, -⟩ | ⟨z, -⟩
            · exact hT2.n1.2.2.2.2.1 z
            · exact hT2.n1.1 z
          have hF4 := hF3.fr (fun k _ => hso4 k) fun k => f4.2.1 fr k fun z => by
            rcases z with ⟨z, -⟩ | ⟨z, -⟩
            · exact hT2.n3.2.2.2.1.2.2 z.symm
            · exact hT2.n2.2.2.2.2.2.2 z.symm
          have hP4 := hP3.ef f4 (fun k z => by
              rcases z with ⟨z, -⟩ | ⟨z, -⟩
              · exact hT2.n3.1.1 z
              · exact hT2.n2.1 z.symm) (fun k z => by
              rcases z with ⟨z, -⟩ | ⟨z, -⟩
              · exact hT2.n3.2.1.1 z
              · exact hT2.n2.2.1 z.symm) fun k z => by
              rcases z with ⟨z, -⟩ | ⟨z, -⟩
              · exact hT2.n3.2.2.1.1 z
              · exact hT2.n2.2.2.1 z.symm
          obtain ⟨j0, j1, j2⟩ := hJ3
          have hwR := hu3.2.2.2.R
          have hstt : S_lo g ≤ g_i M3 ou 1 + 2 ∧ g_i M3 ou 1 + 2 ≤ S_lo g + 40402 ∧ (g_i M3 ou 1 + 2 = S_lo g + (u.length + 2) ∨ S_lo g + 40400 < S_lo g + (u.length + 2)) := by
            have h1 := hwR.1
            have h2 := hwR.2
            refine ⟨by omega, by omega, ?_⟩
            rcases hu3.2.2.2.2 with ⟨a1, a2, a3, a4⟩ | ⟨a1, a2, a3, a4⟩
            · exact Or.inl (by omega)
            · exact Or.inr (by omega)
          refine ⟨by have h1 := hwR.1; have h2 := hwR.2; exact ⟨by omega, by omega⟩, ?_⟩
          refine c_finish (d := d + 3) (es := es) (ds := (ds.take i).flatMap (U_doc st)) (u := u) (J := J) (J2 := J + 40402) hS4 x4 x7 xq2 (by omega) (by omega) (fun z => h183 (by rw [← hso4]; exact z)) W4 hstt (m2.le (by decide)) hF4 (by omega) (by omega) (Or.inr (Or.inl (Int.le_refl _))) fun M5 f5 hF5 h185 => ?_
          intro _ _
          have hX5 : S_X so b po pf pt ou sc fr M2 M5 (S_lo g) := hX4.e hT2 f5 fun y k z => by
            rcases z with z | z
            · exact Or.inl z
            · exact Or.inr (Or.inr (Or.inr (Or.inl z)))
          obtain ⟨a1, a2, a3, a4, a5, -, -, a8⟩ := hT2.n1
          obtain ⟨b1, b2, b3, -, -, -, b7⟩ := hT2.n2
          obtain ⟨⟨-, -, -, c4⟩, ⟨-, -, -, d4'⟩, ⟨-, -, -, e4⟩, ⟨-, -, f3'⟩, -⟩ := hT2.n3
          have hkp5 : c_Wr ou b 246408 (S_lo g) (S_lo g + 40400) (u ++ b_el 3 [] (b_doc es)) M5 := W4.kp f5.1 (f5.2.2 _ _) (fun k => f5.2.1 ou k fun z => by
            rcases z with ⟨z, -⟩ | z
            · exact a5 z.symm
            · exact f3' z) fun k _ _ => f5.2.1 b k fun z => by
            rcases z with ⟨z, -⟩ | z
            · exact a1 z.symm
            · exact b7 z
          refine hnext M5 (u ++ b_el 3 [] (b_doc es)) (J + 40402) _ hu.symm hX5 (hP4.ef f5 (fun k z => ?_) (fun k z => ?_) fun k z => ?_) ⟨hkp5, hF5, fun z => ?_⟩ ⟨by omega, ?_, fun _ => ?_⟩
          · rcases z with ⟨z, -⟩ | z
            · exact a2 z.symm
            · exact c4 z
          · rcases z with ⟨z, -⟩ | z
            · exact a3 z.symm
            · exact d4' z
          · rcases z with ⟨z, -⟩ | z
            · exact a4 z.symm
            · exact e4 z
          · rw [S_wr_snoc, h183 (by rw [← hso4]; exact h185 z)]
          · omega
          · clear a1 a2 a3 a4 a5 a8 b1 b2 b3 b7 c4 d4' e4 f3'
            rename_i hul
            rw [List.length_append] at hul
            have := j2 (by omega)
            rw [List.length_append]
            omega
      -- the steps
      have hwalk : ∀ (st2 : List (List Int)) (s : Nat) (e2 : b_E) (p : Int) (D2 : Nat), st2 ≠ [] → s + st2.length ≤ 8 → S_Pa (g_i M2 b) b po pf pt s st2 M3 → b_st (g_i M2 b) 163608 p D2 e2.1 e2.2.1 e2.2.2 → D2 ≤ 16 → e2.1 = 3 → dp ≤ p → p + (b_el e2.1 e2.2.1 e2.2.2).length ≤ dp + (b_el 3 [] (b_doc es)).length → ((∀ x, V_res st2 (b_ch e2.2.2) ≠ some (x, [])) → ∀ x, V_res st es ≠ some (x, [])) → (∀ (x : b_E) (c : List h_F) (q : Int) (s9 : Nat), s9 ≤ 9 → V_res st2 (b_ch e2.2.2) = some (x, []) → U_cx x st2 e2 c → c.length = st2.length → q = h_at p c → b_st (g_i M2 b) 163608 q 15 x.1 x.2.1 x.2.2 → dp ≤ q → q + (b_el x.1 x.2.1 x.2.2).length ≤ dp + (b_el 3 [] (b_doc es)).length → g_Run (d + 71) 153 126 [(0, .ref so), (1, g_n pe), (2, g_n i), (3, g_n q), (4, g_n s9)] [] M3 (g_qI Q)) → g_Run (d + 71) 153 52 [(0, .ref so), (1, g_n pe), (2, g_n i), (3, g_n p), (4, g_n s)] [] M3 (g_qI Q) := by
        intro st2
        induction st2 with
        | nil => exact fun _ _ _ _ h => absurd rfl h
        | cons w r2 ihw =>
          intro s e2 p D2 _ hs8 hPa hb hD2 hk2 hp1 hp2 hn hs
          obtain ⟨⟨z1, z2, z3⟩, zz2, ⟨R1, R2, R3, R4, R5, R6⟩, -⟩ := id hT3
          obtain ⟨x1, x2', x3', x4'⟩ := hPa.x
          have hbR := hb.R (by decide)
          have hb4 := hb.2.2.2.1
          have hb5 := hb.2.2.2.2
          have hbl := b_el_len e2.1 e2.2.1 e2.2.2
          have hbM : b_st (g_i M3 b) 246408 p D2 e2.1 e2.2.1 e2.2.2 := ⟨b_at_keep hb.1 fun k k1 k2 => hX3.2.2.2.2.1 k (by omega) (p3 k (by omega) (by omega)).2, hb.2.1, hb.2.2.1, hb.2.2.2.1, by omega⟩
          have hPb := hPa.2.1
          rw [List.length_cons] at hs8 hPb
          have hs1 : ((s : Int) + 1) = ((s + 1 : Nat) : Int) := by omega
          obtain ⟨D1, eD, hkids, hkl⟩ := hb.kids (Or.inl hk2)
          have hmiss : (∀ x, V_res (w :: r2) (b_ch e2.2.2) ≠ some (x, [])) → g_Run (d + 71) 153 52 [(0, .ref so), (1, g_n pe), (2, g_n i), (3, g_n (-1)), (4, g_n ((s + 1 : Nat) : Int))] [] M3 (g_qI Q) := by
            intro hm
            exact s_X9_unwind_52 hpeR ⟨by omega, by omega⟩ ⟨by decide, by decide⟩ ⟨by omega, by omega⟩ fun _ => ⟨z1, po, zz2, R1, fun _ => ⟨fun _ => hnone (hn hm) (s + 1) (by omega), fun z => absurd (by decide) z⟩, fun _ => hnone (hn hm) (s + 1) (by omega)⟩
          refine s_X9_unwind_52 hpeR ⟨by omega, by omega⟩ hbR ⟨by omega, by omega⟩ fun _ => ⟨z1, po, zz2, R1, fun _ => ⟨fun z => absurd z (by omega), fun _ => ⟨b, z2, c_kd2 (d := d + 70) z3 (by decide) hbM ?_⟩⟩, fun z => absurd (by omega) z⟩
          intro _ _ _
          refine ⟨fun _ => ⟨b, z2, po, zz2, R1, b, hPa.1, po, zz2, R1, pf, R2, _, R4, ⟨by omega, by omega⟩, po, zz2, R1, pt, R3, _, R5, ⟨by omega, by omega⟩, ?_⟩, fun z => absurd hk2 z⟩
          rw [x2']
          refine c_find2 (d := d + 68) z3 (by decide) z3 (by decide) (b_at_keep x4' fun k j1 j2 => hX3.2.2.2.2.1 k (by omega) (by omega)) x1 (by omega) hbM (Or.inl hk2) (by omega) ?_
          have hLc : L_ch p (e2.1, e2.2.1, e2.2.2) = L_at (p + 6 + e2.2.1.length) (b_ch e2.2.2) := rfl
          rw [hLc]
          intro _ _ hvR
          rw [hs1]
          refine ⟨⟨by omega, by omega⟩, ?_⟩
          rcases hf : L_fn w (b_ch e2.2.2) with _ | e1
          · rw [L_find_none _ _ (L_fn_none hf)]
            exact hmiss fun x hx => by rw [V_res_none hf] at hx; exact absurd hx (by simp)
          · obtain ⟨l, t, l1, l2, l3, l4, l5⟩ := L_fn_split hf
            have hfa : L_find w (L_at (p + 6 + e2.2.1.length) (b_ch e2.2.2)) = some (p + 6 + e2.2.1.length + (b_ser l).length, e1) := by
              rw [l1]
              exact L_find_app l e1 t _ l5 l2
            rw [hfa] at hvR ⊢
            have hop : L_opt (some (p + 6 + e2.2.1.length + (b_ser l).length, e1)) = p + 6 + e2.2.1.length + (b_ser l).length := rfl
            rw [hop] at hvR ⊢
            have hlen := congrArg List.length (congrArg b_ser l1)
            rw [b_ser_app, List.length_append, b_ser_len] at hlen
            have hk3 := hkids
            rw [l1] at hk3
            have he1 := hk3.app.cons.1
            have hvres := V_res_some (r := r2) hf
            have heq : e2.2.2 = b_doc (l ++ e1 :: t) := by
              obtain ⟨D9, ys, -, q2, -, -, -, -, q7⟩ := b_gv_doc hb.2.2.1 (Or.inl hk2)
              rw [← l1, q7]
              exact q2
            have hqd : h_q p (e2.1, e2.2.1, l, t) = p + 6 + e2.2.1.length + (b_ser l).length := rfl
            rcases r2 with _ | ⟨w2, r2⟩
            · rw [if_pos (show ([] : List (List Int)).isEmpty = true from rfl)] at hvres
              have h9 := hs e1 [(e2.1, e2.2.1, l, t)] (p + 6 + e2.2.1.length + (b_ser l).length) (s + 1) (by omega) hvres ⟨l, t, e1, [], hk2, l1, heq, l5, l2, rfl, Or.inl ⟨rfl, rfl, rfl⟩⟩ rfl rfl (he1.le (by omega)) (by omega) (by omega)
              rw [List.length_nil] at hPb
              exact s_X9_unwind_52 hpeR ⟨by omega, by omega⟩ hvR ⟨by omega, by omega⟩ fun _ => ⟨z1, po, zz2, R1, fun z => absurd z (by omega), fun _ => h9⟩
            · rw [if_neg (by simp)] at hvres
              rw [List.length_cons] at hs8 hPb
              by_cases h3 : e1.1 = 3
              · rw [if_neg (by omega), if_pos h3] at hvres
                refine ihw (s + 1) e1 _ D1 (by simp) (by rw [List.length_cons]; omega) hPa.tl he1 (by omega) h3 (by omega) (by omega) (fun hm => hn fun x hx => hm x (by rw [← hvres]; exact hx)) fun x c q s9 k1 k2 k3 k4 k5 k6 k7 k8 => ?_
                refine hs x ((e2.1, e2.2.1, l, t) :: c) q s9 k1 (by rw [hvres]; exact k2) ⟨l, t, e1, c, hk2, l1, heq, l5, l2, rfl, Or.inr ⟨by simp, k3⟩⟩ (by rw [List.length_cons, k4]; rfl) k5 k6 k7 k8
              · have hm : ∀ x, V_res (w :: w2 :: r2) (b_ch e2.2.2) ≠ some (x, []) := by
                  intro x hx
                  rw [hvres] at hx
                  by_cases h4 : e1.1 = 4
                  · rw [if_pos h4] at hx
                    exact absurd (congrArg Prod.snd (Option.some.inj hx)) (by simp)
                  · rw [if_neg h4, if_neg h3] at hx
                    exact absurd hx (by simp)
                have he1M : b_st (g_i M3 b) 246408 (p + 6 + e2.2.1.length + (b_ser l).length) D1 e1.1 e1.2.1 e1.2.2 := ⟨b_at_keep he1.1 fun k k1 k2 => hX3.2.2.2.2.1 k (by omega) (p3 k (by omega) (by omega)).2, he1.2.1, he1.2.2.1, he1.2.2.2.1, by omega⟩
                refine s_X9_unwind_52 hpeR ⟨by omega, by omega⟩ hvR ⟨by omega, by omega⟩ fun _ => ⟨z1, po, zz2, R1, fun _ => ⟨fun z => absurd z (by omega), fun _ => ⟨b, z2, c_kd2 (d := d + 70) z3 (by decide) he1M ?_⟩⟩, fun z => absurd (by omega) z⟩
                intro _ _ _
                refine ⟨fun z => absurd z h3, fun _ => ⟨⟨by omega, by omega⟩, ?_⟩⟩
                rw [show (((s + 1 : Nat) : Int) + 1) = ((s + 2 : Nat) : Int) by omega]
                exact s_X9_unwind_52 hpeR ⟨by omega, by omega⟩ ⟨by decide, by decide⟩ ⟨by omega, by omega⟩ fun _ => ⟨z1, po, zz2, R1, fun _ => ⟨fun _ => hnone (hn hm) (s + 2) (by omega), fun z => absurd (by decide) z⟩, fun _ => hnone (hn hm) (s + 2) (by omega)⟩
      refine s_X9_unwind_34 hpeR ⟨by omega, by omega⟩ fun _ => ⟨hT3.1.1, fun _ => ⟨be, hT3.2.2.2.1.2.2.1, _, hT3.2.2.2.2.1.1, ⟨by omega, by omega⟩, ?_⟩, fun z => absurd (by omega) z⟩
      rw [hbe3 hX3]
      have hch : b_ch (b_doc es) = es := b_ch_doc m2.ok
      refine hwalk st 0 (3, [], b_doc es) dp 16 hstne (by omega) hP3 p2 (by omega) rfl (Int.le_refl _) (Int.le_refl _) (fun h x => ?_) fun x c q s9 k1 k2 k3 k4 k5 k6 k7 k8 => hsome x c q s9 k1 ?_ k3 k4 k5 k6 k7 k8
      · have := h x
        rwa [show b_ch ((3, [], b_doc es) : b_E).2.2 = es from hch] at this
      · rwa [show b_ch ((3, [], b_doc es) : b_E).2.2 = es from hch] at k2
  exact hlp ds.length 0 M2 [] 40000 (by omega) (S_X.rf hT2) hPa2 hD2 ⟨by decide, by omega, fun _ => by simp⟩
end CUNW
