/-! STAGES: the class writes rows of values -/
def S_W (F : Int → Int) (so b po pf pt sc : Nat) (x : List Int) (M : g_M) : Prop := S_B so b M ∧ g_r M so 2 = some po ∧ p_P M po pf pt ∧ g_r M so 5 = some sc ∧ c_Wr sc b 246408 163608 246408 x M ∧ ∀ k, k < 163608 → g_i M b k = F k
abbrev S_L (sc b : Nat) : Nat → Int → Prop := c_WL sc b 163608 246408
section SROW
variable {so b po pf pt sc : Nat} {F : Int → Int} {M M1 : g_M} {x y : List Int}
theorem S_W.ne (h : S_W F so b po pf pt sc x M) : sc ≠ b ∧ so ≠ sc ∧ po ≠ sc ∧ pf ≠ sc ∧ pt ≠ sc ∧ po ≠ b ∧ pf ≠ b ∧ pt ≠ b ∧ so ≠ b := by
  obtain ⟨⟨s1, s2, s3⟩, w2, ⟨P1, P2, P3, P4, P5, P6⟩, w5, ⟨⟨o1, o2, o3, o4⟩, -⟩, hF⟩ := h
  exact ⟨g_neOA o1 s3, g_neOO s1 o1 (by decide), g_neOO P1 o1 (by decide), (g_neOA o1 P4).symm, (g_neOA o1 P5).symm, g_neOA P1 s3, g_neAA P4 s3 (by omega), g_neAA P5 s3 (by omega), g_neOA s1 s3⟩
theorem S_W.to (h : S_W F so b po pf pt sc x M) (f : e_fr (S_L sc b) M M1) (hw : c_Wr sc b 246408 163608 246408 y M1) : S_W F so b po pf pt sc y M1 := by
  obtain ⟨n1, -⟩ := h.ne
  obtain ⟨⟨s1, s2, s3⟩, w2, ⟨P1, P2, P3, P4, P5, P6⟩, w5, -, hF⟩ := h
  refine ⟨⟨f.O s1, by rw [f.2.2]; exact s2, f.A s3⟩, by rw [f.2.2]; exact w2, ⟨f.O P1, by rw [f.2.2]; exact P2, by rw [f.2.2]; exact P3, f.A P4, f.A P5, P6⟩, by rw [f.2.2]; exact w5, hw, fun k hk => ?_⟩
  rw [f.2.1 b k fun z => ?_]
  · exact hF k hk
  · rcases z with ⟨z, -⟩ | ⟨-, z, -⟩
    · exact n1 z.symm
    · omega
theorem S_W.Pa {s : Nat} {st : List (List Int)} (h : S_W F so b po pf pt sc x M) (f : e_fr (S_L sc b) M M1) (hP : X_Pa F b po pf pt s st M) : X_Pa F b po pf pt s st M1 := by
  obtain ⟨n1, n2, n3, n4, n5, n6, n7, n8, -⟩ := h.ne
  obtain ⟨h1, h2, h3⟩ := hP
  have hk : ∀ y, y ≠ sc → y ≠ b → ∀ k, g_i M1 y k = g_i M y k := fun y y1 y2 k => f.2.1 y k fun z => by
    rcases z with ⟨z, -⟩ | ⟨z, -⟩
    · exact y1 z
    · exact y2 z
  have e2 := funext (hk pf n4 n7)
  have e3 := funext (hk pt n5 n8)
  exact ⟨by rw [f.2.2]; exact h1, by rw [hk po n3 n6]; exact h2, by rw [e2, e3]; exact h3⟩
theorem b_st.ofW {B : Int → Int} {p k : Int} {D : Nat} {nm vb : List Int} (h : b_st F 163608 p D k nm vb) (hF : ∀ k, k < 163608 → B k = F k) : b_st B 246408 p D k nm vb := by
  obtain ⟨h1, h2, h3, h4, h5⟩ := h
  exact ⟨b_at_keep h1 fun k k1 k2 => hF k (by omega), h2, h3, h4, by omega⟩
theorem b_sts.ofW {B : Int → Int} {q : Int} {D : Nat} {es : List b_E} (h : b_sts F 163608 q D es) (hF : ∀ k, k < 163608 → B k = F k) : b_sts B 246408 q D es := by
  obtain ⟨h1, h2, h3, h4, h5⟩ := h
  exact ⟨b_at_keep h1 fun k k1 k2 => hF k (by omega), h2, h3, by omega, by rw [hF _ (by omega)]; exact h5⟩
/-- a step of a path in a document -/
theorem c_pfind {d s D : Nat} {Q : Int → g_M → Prop} {q : Int} {e : b_E} {w : List Int} {r : List (List Int)} (h : S_W F so b po pf pt sc x M) (hP : X_Pa F b po pf pt s (w :: r) M) (hs : b_st F 163608 q D e.1 e.2.1 e.2.2) (hk : e.1 = 3) (h0 : L_fn w (b_ch e.2.2) = none → Q (-1) M) (h1 : ∀ (e1 : b_E) (q1 : Int) (D1 : Nat), L_fn w (b_ch e.2.2) = some e1 → D = D1 + 1 → b_st F 163608 q1 D1 e1.1 e1.2.1 e1.2.2 → q ≤ q1 → q1 + (b_el e1.1 e1.2.1 e1.2.2).length ≤ q + (b_el e.1 e.2.1 e.2.2).length → Q q1 M) : g_Call (d + 3) 114 [.ref b, g_n q, .ref b, g_n (g_i M pf s), g_n (g_i M pt s)] M (g_qI Q) := by
  obtain ⟨⟨s1, s2, s3⟩, -, -, -, -, hF⟩ := h
  obtain ⟨x1, x2, x3, x4⟩ := hP.x
  have hs5 := hs.2.2.2.2
  have hs4 := hs.2.2.2.1
  have hl := b_el_len e.1 e.2.1 e.2.2
  obtain ⟨D1, eD, hk2, hkl⟩ := hs.kids (Or.inl hk)
  rw [x2]
  refine c_find2 (d := d) s3 (by decide) s3 (by decide) (b_at_keep x4 fun k k1 k2 => hF k (by omega)) x1 (by omega) (hs.ofW hF) (Or.inl hk) (by omega) ?_
  have hLc : L_ch q (e.1, e.2.1, e.2.2) = L_at (q + 6 + e.2.1.length) (b_ch e.2.2) := rfl
  rw [hLc]
  rcases hf : L_fn w (b_ch e.2.2) with _ | e1
  · rw [L_find_none _ _ (L_fn_none hf)]
    exact h0 hf
  · obtain ⟨l, t, l1, l2, l3, l4, l5⟩ := L_fn_split hf
    rw [l1, L_find_app l e1 t _ l5 l2]
    rw [l1] at hk2
    have hlen := congrArg List.length (congrArg b_ser l1)
    rw [b_ser_app, List.length_append, b_ser_len] at hlen
    exact h1 e1 (q + 6 + e.2.1.length + (b_ser l).length) D1 hf eD hk2.app.cons.1 (by omega) (by omega)
theorem b_doc_app (es : List b_E) : b_doc es = b_le4 ((b_ser es).length + 5) ++ (b_ser es ++ [0]) := by
  unfold b_doc
  simp
theorem c_writeRow : ∀ (D : Nat) {n dd : Nat} {M : g_M} {Q : g_M → Prop} {z : b_E} {q lv : Int} {st : List (List Int)} {s : Nat} {x : List Int}, D ≤ n → D + 5 ≤ dd → 0 ≤ lv → lv + D ≤ 60 → S_W F so b po pf pt sc x M → X_Pa F b po pf pt s st M → st ≠ [] → s + st.length ≤ 8 → b_st F 163608 q D z.1 z.2.1 z.2.2 → z.1 = 4 → z.2.2.length ≤ 15000 → (∀ M1, e_fr (S_L sc b) M M1 → S_W F so b po pf pt sc (x ++ b_doc (V_rows n st (b_ch z.2.2))) M1 → Q M1) → g_Call dd 150 [.ref so, g_n q, g_n s, g_n lv] M (g_qV Q) := by
  intro D
  induction D using Nat.strongRecOn with
  | ind D IH =>
  intro n dd M Q z q lv st s x hDn hdd hlv0 hlv hW hP hst hs8 hz hk hzl hq
  obtain ⟨D1, eD, hkids, hkl⟩ := hz.kids (Or.inr hk)
  obtain ⟨n1, rfl⟩ : ∃ n1, n = n1 + 1 := ⟨n - 1, by omega⟩
  obtain ⟨d, rfl⟩ : ∃ d, dd = d + 1 := ⟨dd - 1, by omega⟩
  obtain ⟨d, rfl⟩ : ∃ d', d = d' + 4 := ⟨d - 4, by omega⟩
  obtain ⟨T, hT⟩ : ∃ T, T = V_rows (n1 + 1) st (b_ch z.2.2) := ⟨_, rfl⟩
  rw [← hT] at hq
  have hzR := hz.R (by decide)
  have hmany := b_ser_many (b_ch z.2.2)
  have hz5 := hz.2.2.2.2
  have hz4 := hz.2.2.2.1
  have hzbl := b_el_len z.1 z.2.1 z.2.2
  obtain ⟨⟨s1, s2, s3⟩, w2, ⟨P1, P2, P3, P4, P5, P6⟩, w5, hwr, hF⟩ := id hW
  have hlp : ∀ (r : Int), g_InR r → w_r 163608 246408 r x.length → ∀ (xs : List b_E) (q6 : Int) (k i : Nat) (body : List Int) (M1 : g_M), b_sts F 163608 q6 D1 xs → S_W F so b po pf pt sc (x ++ ([0, 0, 0, 0] ++ body)) M1 → e_fr (S_L sc b) M M1 → body ++ b_ser (X_num k (xs.filterMap (V_it n1 st))) = b_ser T → i + xs.length < 100000 → k + xs.length < 10000 → (b_ser xs).length ≤ 15000 → g_Run (d + 4) 150 25 [(0, .ref so), (1, g_n q), (2, g_n s), (3, g_n lv), (4, g_n r), (5, g_n k), (6, g_n q6), (7, g_n i)] [] M1 (g_qV Q) := by
    intro r hrR hr xs
    induction xs with
    | nil =>
      intro q6 k i body M1 h1 h2 h3 h4 h5 h6 _
      obtain ⟨⟨t1, t2, t3⟩, u2, uP, u5, uw, uF⟩ := id h2
      have hq6R : g_InR q6 := by
        have := h1.2.2.1
        have := h1.2.2.2.1
        exact ⟨by omega, by omega⟩
      rw [List.filterMap_nil, show b_ser (X_num k []) = [] from rfl, List.append_nil] at h4
      refine s_X9_writeRow_25 hzR ⟨by omega, by omega⟩ ⟨by omega, by omega⟩ hrR ⟨by omega, by omega⟩ hq6R ⟨by omega, by omega⟩ fun _ => ⟨fun _ => ⟨t1, b, t2, c_kdE t3 (by decide) (h1.ofW uF) fun _ _ _ => ⟨fun _ => ⟨sc, u5, uw.1.1, c_close (d := d + 2) uw hr fun M2 f2 W2 => ?_⟩, fun g => absurd rfl g⟩⟩, fun g => absurd (by rw [List.length_nil] at h5; omega) g⟩
      intro _ _
      refine hq M2 (h3.tr f2) (h2.to f2 ?_)
      rw [h4] at W2
      rw [b_doc_app]
      exact W2
    | cons f xs ih =>
      intro q6 k i body M1 h1 h2 h3 h4 h5 h6 h7
      obtain ⟨hf, hr2⟩ := h1.cons
      obtain ⟨⟨t1, t2, t3⟩, u2, ⟨R1, R2, R3, R4, R5, R6⟩, u5, uw, uF⟩ := id h2
      rw [List.length_cons] at h5 h6
      rw [b_ser_len] at h7
      have hfbl := b_el_len f.1 f.2.1 f.2.2
      have hfR := hf.R (by decide)
      have hfk := b_vs_pos (b_gv_vs hf.2.2.1)
      have hP1 := hW.Pa h3 hP
      have hst3 := hP1.2.1
      have hiR : g_InR ((i : Int) + 1) := ⟨by omega, by omega⟩
      have hnext : ∀ (M2 : g_M) (k2 : Nat) (body2 : List Int), S_W F so b po pf pt sc (x ++ ([0, 0, 0, 0] ++ body2)) M2 → e_fr (S_L sc b) M M2 → body2 ++ b_ser (X_num k2 (xs.filterMap (V_it n1 st))) = b_ser T → k2 + xs.length < 10000 → g_Call (d + 4) 111 [.ref b, g_n q6] M2 (g_qI fun r41 M38 => g_ext M2 M38 → g_ok M38 → g_InR r41 → g_InR ((i : Int) + 1) ∧ g_Run (d + 4) 150 25 [(0, .ref so), (1, g_n q), (2, g_n s), (3, g_n lv), (4, g_n r), (5, g_n k2), (6, g_n r41), (7, g_n ((i : Int) + 1))] [] M38 (g_qV Q)) := by
        intro M2 k2 body2 g1 g2 g3 g4
        refine c_nx2 (d := d + 3) g1.1.2.2 (by decide) (hf.ofW g1.2.2.2.2.2) ?_
        intro _ _ _
        exact ⟨hiR, ih _ k2 (i + 1) body2 M2 hr2 g1 g2 g3 (by omega) g4 (by omega)⟩
      have hskip : V_it n1 st f = none → g_Call (d + 4) 111 [.ref b, g_n q6] M1 (g_qI fun r41 M38 => g_ext M1 M38 → g_ok M38 → g_InR r41 → g_InR ((i : Int) + 1) ∧ g_Run (d + 4) 150 25 [(0, .ref so), (1, g_n q), (2, g_n s), (3, g_n lv), (4, g_n r), (5, g_n k), (6, g_n r41), (7, g_n ((i : Int) + 1))] [] M38 (g_qV Q)) := by
        intro hn
        rw [List.filterMap_cons_none hn] at h4
        exact hnext M1 k body h2 h3 h4 (by omega)
      -- MISSING, or a value with steps left that is no document or row
      have h191 : ∀ (p : Int) (s9 : Nat), g_InR p → s9 ≤ 8 → b_kd (g_i M1 b) 246408 p ≠ 4 → V_it n1 st f = none → g_Run (d + 4) 150 191 [(0, .ref so), (1, g_n q), (2, g_n s), (3, g_n lv), (4, g_n r), (5, g_n k), (6, g_n q6), (7, g_n i), (8, g_n p), (9, g_n s9)] [] M1 (g_qV Q) := by
        intro p s9 hpR hs9 hkp hn
        refine s_X9_writeRow_191 hzR ⟨by omega, by omega⟩ ⟨by omega, by omega⟩ hrR ⟨by omega, by omega⟩ hfR ⟨by omega, by omega⟩ hpR ⟨by omega, by omega⟩ fun _ => ⟨t1, b, t2, c_kind t3 ⟨by decide, by decide⟩ hpR ?_⟩
        intro _ _ _
        exact ⟨fun g => absurd g hkp, fun _ => ⟨b, t2, hskip hn⟩⟩
      have hmiss : ∀ (s9 : Nat), s9 ≤ 8 → V_it n1 st f = none → g_Run (d + 4) 150 68 [(0, .ref so), (1, g_n q), (2, g_n s), (3, g_n lv), (4, g_n r), (5, g_n k), (6, g_n q6), (7, g_n i), (8, g_n (-1)), (9, g_n s9)] [] M1 (g_qV Q) := by
        intro s9 hs9 hn
        have h137 : g_Run (d + 4) 150 137 [(0, .ref so), (1, g_n q), (2, g_n s), (3, g_n lv), (4, g_n r), (5, g_n k), (6, g_n q6), (7, g_n i), (8, g_n (-1)), (9, g_n s9)] [] M1 (g_qV Q) := s_X9_writeRow_137 hzR ⟨by omega, by omega⟩ ⟨by omega, by omega⟩ hrR ⟨by omega, by omega⟩ hfR ⟨by omega, by omega⟩ ⟨by decide, by decide⟩ ⟨by omega, by omega⟩ fun _ => ⟨fun _ => h191 (-1) s9 ⟨by decide, by decide⟩ hs9 (by rw [b_kd_neg]; decide) hn, fun g => absurd (by decide) g⟩
        refine s_X9_writeRow_68 hzR ⟨by omega, by omega⟩ ⟨by omega, by omega⟩ hrR ⟨by omega, by omega⟩ hfR ⟨by omega, by omega⟩ ⟨by decide, by decide⟩ ⟨by omega, by omega⟩ fun _ => ⟨t1, po, u2, R1, fun _ => ⟨b, t2, c_kind t3 ⟨by decide, by decide⟩ ⟨by decide, by decide⟩ ?_⟩, fun _ => h137⟩
        rw [b_kd_neg]
        intro _ _ _
        exact ⟨fun g => absurd g (by decide), fun _ => h137⟩
      -- a value at the path's end
      have hend : ∀ (e : b_E) (p : Int) (D2 : Nat), b_st F 163608 p D2 e.1 e.2.1 e.2.2 → V_it n1 st f = some e → g_Run (d + 4) 150 137 [(0, .ref so), (1, g_n q), (2, g_n s), (3, g_n lv), (4, g_n r), (5, g_n k), (6, g_n q6), (7, g_n i), (8, g_n p), (9, g_n ((s : Int) + st.length))] [] M1 (g_qV Q) := by
        intro e p D2 he hv
        have heR := he.R (by decide)
        have he4 := he.2.2.2.1
        have hek := b_vs_pos (b_gv_vs he.2.2.1)
        refine s_X9_writeRow_137 hzR ⟨by omega, by omega⟩ ⟨by omega, by omega⟩ hrR ⟨by omega, by omega⟩ hfR ⟨by omega, by omega⟩ heR ⟨by omega, by omega⟩ fun _ => ⟨fun g => absurd g (by omega), fun _ => ⟨t1, po, u2, R1, fun _ => ⟨sc, u5, b, t2, c_kd2 t3 (by decide) (he.ofW uF) ?_⟩, fun g => absurd hst3.symm g⟩⟩
        intro _ _ _
        refine ⟨uw.1.1, c_item (d := d + 2) uw (by omega) (by omega) (i := k) (by omega) fun M2 f2 W2 => ?_⟩
        intro _ _
        have g2 := h2.to f2 W2
        refine ⟨sc, g2.2.2.2.1, b, g2.1.2.1, W2.1.1, c_outVal (d := d + 2) W2 g2.1.2.2 (by decide) (he.ofW g2.2.2.2.2.2) fun M3 f3 W3 => ?_⟩
        intro _ _
        have g3 := g2.to f3 W3
        refine ⟨⟨by omega, by omega⟩, b, g3.1.2.1, ?_⟩
        have h9 := hnext M3 (k + 1) (body ++ b_el e.1 (b_dg k) e.2.2) ?_ ((h3.tr f2).tr f3) ?_ (by omega)
        · rwa [show ((k + 1 : Nat) : Int) = (k : Int) + 1 by omega] at h9
        · have ew : x ++ ([0, 0, 0, 0] ++ body) ++ (e.1 :: (b_dg k ++ [0])) ++ e.2.2 = x ++ ([0, 0, 0, 0] ++ (body ++ b_el e.1 (b_dg k) e.2.2)) := by
            unfold b_el
            simp
          rw [← ew]
          exact g3
        · rw [← h4, List.filterMap_cons_some hv]
          show _ = body ++ b_ser ((e.1, b_dg k, e.2.2) :: X_num (k + 1) (xs.filterMap (V_it n1 st)))
          rw [List.append_assoc]
          rfl
      -- a row with steps left
      have hrow : ∀ (e : b_E) (p : Int) (D2 s9 : Nat) (r9 : List (List Int)), b_st F 163608 p D2 e.1 e.2.1 e.2.2 → e.1 = 4 → D2 + 2 ≤ D → r9 ≠ [] → s9 + r9.length = s + st.length → X_Pa F b po pf pt s9 r9 M1 → e.2.2.length ≤ 15000 → V_it n1 st f = some (4, [], b_doc (V_rows n1 r9 (b_ch e.2.2))) → g_Run (d + 4) 150 191 [(0, .ref so), (1, g_n q), (2, g_n s), (3, g_n lv), (4, g_n r), (5, g_n k), (6, g_n q6), (7, g_n i), (8, g_n p), (9, g_n s9)] [] M1 (g_qV Q) := by
        intro e p D2 s9 r9 he he4 hD2 hr9 hs9 hP9 hel hv
        have heR := he.R (by decide)
        refine s_X9_writeRow_191 hzR ⟨by omega, by omega⟩ ⟨by omega, by omega⟩ hrR ⟨by omega, by omega⟩ hfR ⟨by omega, by omega⟩ heR ⟨by omega, by omega⟩ fun _ => ⟨t1, b, t2, c_kd2 t3 (by decide) (he.ofW uF) ?_⟩
        intro _ _ _
        refine ⟨fun _ => ⟨fun _ => ⟨sc, u5, uw.1.1, c_item (d := d + 2) uw (by decide) (by decide) (i := k) (by omega) fun M2 f2 W2 => ?_⟩, fun g => absurd (by omega) g⟩, fun g => absurd he4 g⟩
        intro _ _
        have g2 := h2.to f2 W2
        refine ⟨⟨by omega, by omega⟩, IH D2 (by omega) (n := n1) (by omega) (by omega) (by omega) (by omega) g2 (h2.Pa f2 hP9) hr9 (by omega) he he4 hel fun M3 f3 g3 => ?_⟩
        intro _ _
        refine ⟨⟨by omega, by omega⟩, b, g3.1.2.1, ?_⟩
        have h9 := hnext M3 (k + 1) (body ++ b_el 4 (b_dg k) (b_doc (V_rows n1 r9 (b_ch e.2.2)))) ?_ ((h3.tr f2).tr f3) ?_ (by omega)
        · rwa [show ((k + 1 : Nat) : Int) = (k : Int) + 1 by omega] at h9
        · have ew : x ++ ([0, 0, 0, 0] ++ body) ++ (4 :: (b_dg k ++ [0])) ++ b_doc (V_rows n1 r9 (b_ch e.2.2)) = x ++ ([0, 0, 0, 0] ++ (body ++ b_el 4 (b_dg k) (b_doc (V_rows n1 r9 (b_ch e.2.2))))) := by
            unfold b_el
            simp
          rw [← ew]
          exact g3
        · rw [← h4, List.filterMap_cons_some hv]
          show _ = body ++ b_ser ((4, b_dg k, b_doc (V_rows n1 r9 (b_ch e.2.2))) :: X_num (k + 1) (xs.filterMap (V_it n1 st)))
          rw [List.append_assoc]
          rfl
      -- the steps
      have hwalk : ∀ (st2 : List (List Int)) (s2 : Nat) (e2 : b_E) (p2 : Int) (D2 : Nat), st2 ≠ [] → s2 + st2.length = s + st.length → X_Pa F b po pf pt s2 st2 M1 → b_st F 163608 p2 D2 e2.1 e2.2.1 e2.2.2 → e2.1 = 3 → D2 + 1 ≤ D → e2.2.2.length ≤ 15000 → V_it n1 st f = (V_res st2 (b_ch e2.2.2)).map (V_at n1) → g_Run (d + 4) 150 68 [(0, .ref so), (1, g_n q), (2, g_n s), (3, g_n lv), (4, g_n r), (5, g_n k), (6, g_n q6), (7, g_n i), (8, g_n p2), (9, g_n s2)] [] M1 (g_qV Q) := by
        intro st2
        induction st2 with
        | nil => exact fun _ _ _ _ h => absurd rfl h
        | cons w r9 ihw =>
          intro s2 e2 p2 D2 _ hs2 hP2 he2 hk2 hD2 hel2 hv
          have heR := he2.R (by decide)
          have hP3 := hP2.2.1
          rw [List.length_cons] at hs2 hP3
          refine s_X9_writeRow_68 hzR ⟨by omega, by omega⟩ ⟨by omega, by omega⟩ hrR ⟨by omega, by omega⟩ hfR ⟨by omega, by omega⟩ heR ⟨by omega, by omega⟩ fun _ => ⟨t1, po, u2, R1, fun _ => ⟨b, t2, c_kd2 t3 (by decide) (he2.ofW uF) ?_⟩, fun g => absurd (by omega) g⟩
          intro _ _ _
          refine ⟨fun _ => ⟨b, t2, po, u2, R1, b, hP2.1, po, u2, R1, pf, R2, _, R4, ⟨by omega, by omega⟩, po, u2, R1, pt, R3, _, R5, ⟨by omega, by omega⟩, ?_⟩, fun g => absurd hk2 g⟩
          have hs1' : ((s2 : Int) + 1) = ((s2 + 1 : Nat) : Int) := by omega
          refine c_pfind (d := d + 1) h2 hP2 he2 hk2 (fun hn => ?_) fun e1 q1 D3 hn eD3 he1 _ _ => ?_
          · intro _ _ _
            rw [V_res_none hn] at hv
            rw [hs1']
            exact ⟨⟨by omega, by omega⟩, hmiss (s2 + 1) (by omega) hv⟩
          · intro _ _ hq1R
            rw [V_res_some hn] at hv
            have hP4 := hP2.tl
            have hle1 : e1.2.2.length ≤ 15000 := by
              obtain ⟨hm, -⟩ := L_fn_mem hn
              have h8 := b_ser_memL hm
              obtain ⟨-, -, -, h7'⟩ := he2.kids (Or.inl hk2)
              omega
            have hq10 := he1.2.2.2.1
            have hek := b_vs_pos (b_gv_vs he1.2.2.1)
            rw [hs1']
            refine ⟨⟨by omega, by omega⟩, ?_⟩
            rcases r9 with _ | ⟨w2, r9⟩
            · rw [if_pos (show ([] : List (List Int)).isEmpty = true from rfl)] at hv
              have hv2 : V_it n1 st f = some e1 := hv
              rw [show ((s2 + 1 : Nat) : Int) = (s : Int) + st.length by rw [List.length_nil] at hs2; omega]
              refine s_X9_writeRow_68 hzR ⟨by omega, by omega⟩ ⟨by omega, by omega⟩ hrR ⟨by omega, by omega⟩ hfR ⟨by omega, by omega⟩ hq1R ⟨by omega, by omega⟩ fun _ => ⟨t1, po, u2, R1, fun g => absurd g (by omega), fun _ => hend e1 q1 D3 he1 hv2⟩
            · rw [if_neg (by simp)] at hv
              rw [List.length_cons] at hs2
              have hP5 := hP4.2.1
              rw [List.length_cons] at hP5
              have h137 : ∀ (_ : e1.1 ≠ 3), (e1.1 = 4 → V_it n1 st f = some (4, [], b_doc (V_rows n1 (w2 :: r9) (b_ch e1.2.2)))) → (e1.1 ≠ 4 → V_it n1 st f = none) → g_Run (d + 4) 150 68 [(0, .ref so), (1, g_n q), (2, g_n s), (3, g_n lv), (4, g_n r), (5, g_n k), (6, g_n q6), (7, g_n i), (8, g_n q1), (9, g_n ((s2 + 1 : Nat) : Int))] [] M1 (g_qV Q) := by
                intro h3' h4y h4n
                have h9 : g_Run (d + 4) 150 137 [(0, .ref so), (1, g_n q), (2, g_n s), (3, g_n lv), (4, g_n r), (5, g_n k), (6, g_n q6), (7, g_n i), (8, g_n q1), (9, g_n ((s2 + 1 : Nat) : Int))] [] M1 (g_qV Q) := by
                  refine s_X9_writeRow_137 hzR ⟨by omega, by omega⟩ ⟨by omega, by omega⟩ hrR ⟨by omega, by omega⟩ hfR ⟨by omega, by omega⟩ hq1R ⟨by omega, by omega⟩ fun _ => ⟨fun g => absurd g (by omega), fun _ => ⟨t1, po, u2, R1, fun g => absurd g (by omega), fun _ => ?_⟩⟩
                  by_cases h4' : e1.1 = 4
                  · exact hrow e1 q1 D3 (s2 + 1) (w2 :: r9) he1 h4' (by omega) (by simp) (by rw [List.length_cons]; omega) hP4 hle1 (h4y h4')
                  · refine h191 q1 (s2 + 1) hq1R (by omega) ?_ (h4n h4')
                    obtain ⟨v1, v2, v3, v4⟩ := (he1.ofW uF).val
                    rw [b_kd_in (by omega) (by omega), v4]
                    exact h4'
                refine s_X9_writeRow_68 hzR ⟨by omega, by omega⟩ ⟨by omega, by omega⟩ hrR ⟨by omega, by omega⟩ hfR ⟨by omega, by omega⟩ hq1R ⟨by omega, by omega⟩ fun _ => ⟨t1, po, u2, R1, fun _ => ⟨b, t2, c_kd2 t3 (by decide) (he1.ofW uF) ?_⟩, fun _ => h9⟩
                intro _ _ _
                exact ⟨fun g => absurd g h3', fun _ => h9⟩
              by_cases h4' : e1.1 = 4
              · rw [if_pos h4'] at hv
                refine h137 (by omega) (fun _ => ?_) fun g => absurd h4' g
                rw [hv]
                rfl
              · rw [if_neg h4'] at hv
                by_cases h3' : e1.1 = 3
                · rw [if_pos h3'] at hv
                  exact ihw (s2 + 1) e1 q1 D3 (by simp) (by rw [List.length_cons]; omega) hP4 he1 h3' (by omega) hle1 hv
                · rw [if_neg h3'] at hv
                  exact h137 h3' (fun g => absurd g h4') fun _ => hv
      refine s_X9_writeRow_25 hzR ⟨by omega, by omega⟩ ⟨by omega, by omega⟩ hrR ⟨by omega, by omega⟩ hfR ⟨by omega, by omega⟩ fun _ => ⟨fun _ => ⟨t1, b, t2, c_kd2 t3 (by decide) (hf.ofW uF) fun _ _ _ => ⟨fun g => absurd g (by omega), fun _ => ⟨b, t2, c_kd2 t3 (by decide) (hf.ofW uF) ?_⟩⟩⟩, fun g => absurd (by omega) g⟩
      intro _ _ _
      refine ⟨fun g3 => ?_, fun g3 => ?_⟩
      · exact hwalk st s f q6 D1 hst rfl hP1 hf g3 (by omega) (by omega) (if_pos g3)
      · have hv : V_it n1 st f = none := if_neg g3
        exact hmiss s (by omega) hv
  refine m_X9_writeRow hzR ⟨by omega, by omega⟩ ⟨by omega, by omega⟩ fun _ => ⟨s1, sc, w5, hwr.1.1, c_open (d := d + 2) hwr fun r M2 f2 W2 hr => ?_⟩
  intro _ _ hrR
  have g2 := hW.to f2 W2
  refine ⟨b, g2.1.2.1, c_fi2 (d := d + 3) g2.1.2.2 (by decide) (hz.ofW g2.2.2.2.2.2) ?_⟩
  intro _ _ _
  refine hlp r hrR hr (b_ch z.2.2) _ 0 0 [] M2 hkids ?_ f2 ?_ (by omega) (by omega) (by omega)
  · rw [List.append_nil]
    exact g2
  · rw [hT, V_rows_eq]
    rfl
end SROW
