/-! CHANGES: the class takes; a whole path -/
theorem X_tk_n {op : Int} {p : b_E} {row : Bool} {es : List b_E} {x : List Int} {r : List (List Int)} (h : L_fn x es = none) : X_take op p row es (x :: r) = (0, es) := by
  rw [X_take.eq_def]
  simp only [h]
theorem X_tk_s1 {op : Int} {p e : b_E} {row : Bool} {es : List b_E} {x : List Int} (h : L_fn x es = some e) : X_take op p row es [x] = if op = 2 then (0, if row = true then X_rep x (10, e.2.1, []) es else X_del x es) else if e.1 = 4 then (0, X_rep x (4, e.2.1, b_doc (X_num 0 ((b_ch e.2.2).filter fun y => !F_eq y p))) es) else (7, es) := by
  rw [X_take.eq_def]
  simp only [h]
theorem X_tk_s2 {op : Int} {p e : b_E} {row : Bool} {es : List b_E} {x y : List Int} {r : List (List Int)} (h : L_fn x es = some e) (hk : e.1 = 3 ∨ e.1 = 4) : X_take op p row es (x :: y :: r) = ((X_take op p (e.1 == 4) (b_ch e.2.2) (y :: r)).1, X_rep x (e.1, e.2.1, b_doc (X_take op p (e.1 == 4) (b_ch e.2.2) (y :: r)).2) es) := by
  rw [X_take.eq_def]
  simp only [h]
  rw [if_pos hk]
theorem X_tk_s3 {op : Int} {p e : b_E} {row : Bool} {es : List b_E} {x y : List Int} {r : List (List Int)} (h : L_fn x es = some e) (hk : ¬ (e.1 = 3 ∨ e.1 = 4)) : X_take op p row es (x :: y :: r) = (0, es) := by
  rw [X_take.eq_def]
  simp only [h]
  rw [if_neg hk]
theorem X_num_ok {q : b_E → Bool} {D : Nat} {fs : List b_E} (h : X_gd D fs) (hn : fs.length < 10000) : X_gd D (X_num 0 (fs.filter q)) := by
  intro f hf
  obtain ⟨j, hj⟩ := List.getElem?_of_mem hf
  obtain ⟨g1, g, g2, g3, g4⟩ := X_num_get _ _ _ _ hj
  have hjl := (List.getElem?_eq_some_iff.mp hj).1
  rw [X_num_len] at hjl
  have hfl := List.length_filter_le q fs
  rw [g1, g3, g4]
  exact ⟨b_dg_nz (by omega), (h g (List.mem_filter.mp g2).1).2⟩
section TAKES
variable {d o b po pf pt ch wo : Nat} {F : Int → Int} {M M1 : g_M} {c : List h_F} {e p : b_E} {es l t mid mid2 : List b_E} {Q : Int → g_M → Prop}
theorem c_takesL {op pp : Int} (hp : b_st F 100000 pp 20 p.1 p.2.1 p.2.2) (hop : op = 2 ∨ op = 5) : ∀ (st : List (List Int)) (s D : Nat) (c : List h_F) (e : b_E) (es : List b_E) (M : g_M), st ≠ [] → X_St F o b po pf pt ch wo c e M → s = c.length → c.length + st.length ≤ 8 → X_E D e es → D ≤ 30 → X_Pa F b po pf pt s st M → h_hs (b_el e.1 e.2.1 e.2.2).length c ≤ 15000 → X_post o b ch wo c e es M Q (X_take op p (e.1 == 4) es st) → g_Run (d + 70) 34 11 [(0, .ref o), (1, g_n op), (2, g_n pp), (3, g_n (h_at 163608 c)), (4, g_n s)] [] M (g_qI Q) := by
  intro st
  induction st with
  | nil => exact fun s D c e es M h => absurd rfl h
  | cons x r ih =>
    intro s D c e es M _ hSt hsc hcl hE hD30 hPa hmx hpost
    have hlE : (b_ser es).length + 5 ≤ 15000 := by
      have h9 := h_hs_ge (b_el e.1 e.2.1 e.2.2).length c
      have := b_el_len e.1 e.2.1 e.2.2
      have h8 := congrArg List.length hE.2.2.1
      rw [b_doc_len] at h8
      omega
    have hgv := hE.gv (by omega)
    have hchE := hE.ch
    obtain ⟨e1, e2, e3, e4, e5⟩ := id hE
    have hs := hSt.st e1 hgv (by omega)
    have hel := b_el_len e.1 e.2.1 e.2.2
    have hdl := congrArg List.length e3
    rw [b_doc_len] at hdl
    rw [List.length_cons] at hcl
    obtain ⟨hO, hF, hok, hln, hZ, h5, h4, hch⟩ := id hSt.1
    obtain ⟨⟨o1, o2, o3, o4, o5⟩, ⟨p1, p2, p3, p4, p5, p6⟩, och, ob, ow, owb⟩ := id hO
    have hin := h_at_in (b_el e.1 e.2.1 e.2.2).length c 163608
    have hge := h_at_ge c 163608
    have hhs := h_hs_ge (b_el e.1 e.2.1 e.2.2).length c
    have hpR := hp.R (by decide)
    have hsR := hs.R (by decide)
    have hopR : g_InR op := ⟨by omega, by omega⟩
    have hmany := b_ser_many es
    have hpo3 := hPa.2.1
    rw [List.length_cons] at hpo3
    have h47 : g_Run (d + 70) 34 47 [(0, .ref o), (1, g_n op), (2, g_n pp), (3, g_n (h_at 163608 c)), (4, g_n s), (5, g_n e.1)] [] M (g_qI Q) := by
      have hk1R : g_InR e.1 := ⟨by omega, by omega⟩
      refine s_X1_takes_47 hopR hpR hsR ⟨by omega, by omega⟩ hk1R fun _ => ⟨o1, c_lk hSt e1 (by omega) (by omega) fun M2 f2 eb2 e62 hLk => ?_⟩
      intro _ _
      obtain ⟨hO2, hF2, hin2⟩ := hLk
      obtain ⟨⟨t1, t2, t3, t4, t5⟩, ⟨q1, q2, q3, q4, q5, q6⟩, tch, tb, tw, twb⟩ := id hO2
      have hPa2 := hPa.cl hO f2
      obtain ⟨x1, x2, x3, x4⟩ := hPa2.x
      have hpo3' := hPa2.2.1
      rw [List.length_cons] at hpo3'
      have hs2 : b_st (g_i M2 b) 246408 (h_at 163608 c) (D + 1) e.1 e.2.1 e.2.2 := by rw [eb2]; exact hs
      have hx2 : b_at (g_i M2 b) (g_i M2 pf s) x := b_at_keep x4 fun k k1 k2 => hF2 k (by omega)
      have hsame : X_take op p (e.1 == 4) es (x :: r) = (0, es) → Q 0 M2 := by
        intro hR
        rw [hR] at hpost
        obtain ⟨⟨-, -, -, -, a1, a3, -⟩, a2⟩ := hin2 es [] [] (by rw [e3]; simp)
        exact X_leaf hpost rfl (l := es) (t := []) (mid := []) (mid2 := []) (by simp) (by simp) f2 a1 a2 a3 (by rw [e62, if_pos rfl])
      refine ⟨b, t2, po, t3, q1, b, hPa2.1, po, t3, q1, pf, q2, _, q4, ⟨by omega, by omega⟩, po, t3, q1, pt, q3, _, q5, ⟨by omega, by omega⟩, ?_⟩
      rw [x2]
      refine c_find2 (d := d + 67) tb (by decide) tb (by decide) hx2 x1 (by omega) hs2 e2 (by omega) ?_
      have hLc : L_ch (h_at 163608 c) (e.1, e.2.1, e.2.2) = L_at (h_at 163608 c + 6 + e.2.1.length) es := by
        show L_at (h_at 163608 c + 6 + e.2.1.length) (b_ch e.2.2) = _
        rw [hchE]
      rw [hLc]
      intro _ _ hzR
      rcases hf0 : L_fn x es with _ | e0
      · rw [L_find_none es _ (L_fn_none hf0)] at hzR ⊢
        exact ⟨fun _ => hsame (X_tk_n hf0), fun g => absurd (show (-1 : Int) < 0 by decide) g⟩
      · obtain ⟨l, t, l1, l2, l3, l4, l5⟩ := L_fn_split hf0
        have hfa : L_find x (L_at (h_at 163608 c + 6 + e.2.1.length) es) = some (h_at 163608 c + 6 + e.2.1.length + (b_ser l).length, e0) := by
          rw [l1]
          exact L_find_app l e0 t _ l5 l2
        rw [hfa] at hzR ⊢
        have hop0 : L_opt (some (h_at 163608 c + 6 + e.2.1.length + (b_ser l).length, e0)) = h_at 163608 (c ++ [(e.1, e.2.1, l, t)]) := by
          rw [h_at_snoc]
          rfl
        rw [hop0] at hzR ⊢
        have hge1 := h_at_ge (c ++ [(e.1, e.2.1, l, t)]) 163608
        refine ⟨fun g => absurd g (by omega), fun _ => ⟨⟨by omega, by omega⟩, ?_⟩⟩
        obtain ⟨hShc, hatc⟩ := hin2 l [e0] t (by rw [e3, l1]; simp)
        have hgd0 := e4 e0 (L_fn_mem hf0).1
        have hStc : X_St F o b po pf pt ch wo (c ++ [(e.1, e.2.1, l, t)]) e0 M2 := by
          rw [b_ser_1] at hShc hatc
          exact ⟨hShc, hatc⟩
        have hhsc : h_hs (b_el e0.1 e0.2.1 e0.2.2).length (c ++ [(e.1, e.2.1, l, t)]) = h_hs (b_el e.1 e.2.1 e.2.2).length c := by
          rw [← b_ser_1, h_hs_snoc, h_hs_one, e3, l1]
          simp
        have hcl1 : (c ++ [((e.1, e.2.1, l, t) : h_F)]).length = c.length + 1 := by rw [List.length_append, List.length_singleton]
        have hsc0 := hStc.st hgd0.1 hgd0.2 (by omega)
        rcases r with _ | ⟨y, r⟩
        · rw [List.length_nil] at hpo3'
          rw [X_tk_s1 hf0] at hpost
          refine s_X1_takes_11 hopR hpR hzR ⟨by omega, by omega⟩ fun _ => ⟨t1, po, t3, q1, fun g => absurd g (by omega), fun _ => ⟨fun g2 => ?_, fun n2 => ⟨b, t2, c_kd2 tb (by decide) hsc0 fun _ _ _ => ⟨fun gk => ?_, fun gk => ?_⟩⟩⟩⟩
          · rw [if_pos g2] at hpost
            refine c_unset (d := d + 66) (f := (e.1, e.2.1, l, t)) hStc (by omega) hgd0.1 hgd0.2 e2 (by omega) (fun g3 M3 f3 hS3 h63 => ?_) (fun g4 M3 f3 hS3 h63 => ?_)
            · intro _ _
              have g3 : e.1 = 3 := g3
              have hrow : ¬ (e.1 == 4) = true := by rw [g3]; decide
              rw [if_neg hrow] at hpost
              obtain ⟨-, -, -, -, a1, a3, -⟩ := hS3
              exact X_leaf hpost rfl (l := l) (t := t) (mid := [e0]) (mid2 := []) (by show X_del x es = _; rw [l4]; simp) (by rw [l1]; simp) (f2.tr (X_SL.cl f3)) a1 (b_nil _ _) a3 (by rw [h63, if_neg (by simp)])
            · intro _ _
              have g4 : e.1 = 4 := g4
              have hrow : (e.1 == 4) = true := by rw [g4]; decide
              rw [if_pos hrow] at hpost
              obtain ⟨a1, a2, a3⟩ := hS3.aft
              refine X_leaf hpost rfl (l := l) (t := t) (mid := [e0]) (mid2 := [(10, e0.2.1, [])]) (by show X_rep x _ es = _; rw [l3]; simp) (by rw [l1]; simp) (f2.tr (X_SL.cl f3)) (by rw [b_ser_1]; exact a1) (by rw [b_ser_1]; exact a2) (by rw [b_ser_1]; exact a3) ?_
              rw [h63, e62]
              by_cases g : ((10, e0.2.1, []) : b_E) = e0
              · rw [if_pos g, if_pos (by rw [g])]
              · rw [if_neg g, if_neg fun zz => g (List.cons.inj zz).1]
          · rw [if_neg n2, if_pos gk] at hpost
            refine c_pull (d := d) hStc (by omega) hgd0.1 (b_gv_le hgd0.2 (by omega)) gk hp (by omega) fun M3 f3 hA h63 => ?_
            intro _ _ _
            obtain ⟨D1, hD1, hE0⟩ := X_E.mk hgd0.1 hgd0.2 (Or.inr gk)
            obtain ⟨a1, a2, a3⟩ := hA
            have hfl : (b_ch e0.2.2).length < 10000 := by
              have g1 := congrArg List.length hE0.2.2.1
              rw [b_doc_len] at g1
              have g2 := b_el_len e0.1 e0.2.1 e0.2.2
              have g3 := h_hs_ge (b_el e0.1 e0.2.1 e0.2.2).length (c ++ [(e.1, e.2.1, l, t)])
              have g4 := b_ser_many (b_ch e0.2.2)
              omega
            refine X_leaf hpost rfl (l := l) (t := t) (mid := [e0]) (mid2 := [(4, e0.2.1, b_doc (X_num 0 ((b_ch e0.2.2).filter fun y => !F_eq y p)))]) (by show X_rep x _ es = _; rw [l3]; simp) (by rw [l1]; simp) (f2.tr f3) (by rw [b_ser_1]; exact a1) (by rw [b_ser_1]; exact a2) (by rw [b_ser_1]; exact a3) ?_
            rw [h63, e62]
            by_cases g : X_num 0 ((b_ch e0.2.2).filter fun y => !F_eq y p) = b_ch e0.2.2
            · rw [if_pos g, if_pos ?_]
              rw [g, ← hE0.2.2.1, ← gk]
            · rw [if_neg g, if_neg fun zz => g ?_]
              have z1 := congrArg (fun w : b_E => w.2.2) ((List.cons.inj zz).1)
              have z2 : b_doc (X_num 0 ((b_ch e0.2.2).filter fun y => !F_eq y p)) = e0.2.2 := z1
              exact b_doc_inj (X_num_ok hE0.2.2.2.1 hfl).ok hE0.2.2.2.1.ok (z2.trans hE0.2.2.1)
          · rw [if_neg n2, if_neg gk] at hpost
            exact hpost M2 f2 fun zz => absurd zz (show ¬ (7 : Int) = 0 by decide)
        · by_cases hk : e0.1 = 3 ∨ e0.1 = 4
          · rw [X_tk_s2 hf0 hk] at hpost
            obtain ⟨D1, hD1, hE0⟩ := X_E.mk hgd0.1 hgd0.2 hk
            rw [List.length_cons] at hcl
            have hlen0 : (b_ser (b_ch e0.2.2)).length ≤ 15000 := by
              have g1 := congrArg List.length hE0.2.2.1
              rw [b_doc_len] at g1
              have g2 := b_el_len e0.1 e0.2.1 e0.2.2
              have g3 := h_hs_ge (b_el e0.1 e0.2.1 e0.2.2).length (c ++ [(e.1, e.2.1, l, t)])
              omega
            obtain ⟨gd, -, -⟩ := X_take_good (op := op) (p := p) (y :: r) (e0.1 == 4) (b_ch e0.2.2) D1 hE0.2.2.2.1 hE0.2.2.2.2 hlen0
            have hIH := ih (s + 1) D1 (c ++ [(e.1, e.2.1, l, t)]) e0 (b_ch e0.2.2) M2 (by simp) hStc (by omega) (by rw [List.length_cons]; omega) hE0 (by omega) hPa2.tl (by omega) fun M3 f3 h3 => ?_
            · exact hIH
            · by_cases hR : (X_take op p (e0.1 == 4) (b_ch e0.2.2) (y :: r)).1 = 0
              · obtain ⟨a1, a2, a3, a4⟩ := h3 hR
                rw [hR]
                refine X_leaf hpost hR (l := l) (t := t) (mid := [e0]) (mid2 := [(e0.1, e0.2.1, b_doc (X_take op p (e0.1 == 4) (b_ch e0.2.2) (y :: r)).2)]) (by show X_rep x _ es = _; rw [l3]; simp) (by rw [l1]; simp) (f2.tr f3) (by rw [b_ser_1]; exact a1) (by rw [b_ser_1]; exact a2) (by rw [b_ser_1]; exact a3) ?_
                rw [a4, e62]
                by_cases g : (X_take op p (e0.1 == 4) (b_ch e0.2.2) (y :: r)).2 = b_ch e0.2.2
                · rw [if_pos g, if_pos (by rw [g, ← hE0.2.2.1])]
                · rw [if_neg g, if_neg fun zz => g ?_]
                  have z1 := congrArg (fun w : b_E => w.2.2) ((List.cons.inj zz).1)
                  have z2 : b_doc (X_take op p (e0.1 == 4) (b_ch e0.2.2) (y :: r)).2 = e0.2.2 := z1
                  exact b_doc_inj gd.ok hE0.2.2.2.1.ok (z2.trans hE0.2.2.1)
              · exact hpost M3 (f2.tr f3) fun zz => absurd zz hR
          · refine s_X1_takes_11 hopR hpR hzR ⟨by omega, by omega⟩ fun _ => ⟨t1, po, t3, q1, fun _ => ⟨b, t2, c_kd2 tb (by decide) hsc0 fun _ _ _ => ⟨fun g => absurd (Or.inl g) hk, fun _ => ⟨fun g => absurd (Or.inr g) hk, fun _ => hsame (X_tk_s3 hf0 hk)⟩⟩⟩, fun g => absurd ?_ g⟩
            rw [List.length_cons] at hpo3'
            omega
    refine s_X1_takes_11 hopR hpR hsR ⟨by omega, by omega⟩ fun _ => ⟨o1, po, o3, p1, fun _ => ⟨b, o2, c_kd2 ob (by decide) hs fun _ _ _ => ⟨fun g => h47, fun g => ⟨fun g2 => h47, fun g2 => absurd e2 (by omega)⟩⟩⟩, fun g => absurd (by omega) g⟩
/-- the document at the place of work -/
def X_rt (F : Int → Int) (o b po pf pt ch wo : Nat) (e : b_E) (M : g_M) : Prop := X_O o b po pf pt ch wo M ∧ (∀ k, k < 163608 → g_i M b k = F k) ∧ b_at (g_i M b) 163608 (b_el e.1 e.2.1 e.2.2) ∧ g_i M o 5 = 163608 + (b_el e.1 e.2.1 e.2.2).length
theorem X_rt.St (h : X_rt F o b po pf pt ch wo e M) : X_St F o b po pf pt ch wo [] e (g_wi M o 4 0) ∧ e_fr (X_CL o b ch wo) M (g_wi M o 4 0) ∧ g_i (g_wi M o 4 0) o 6 = g_i M o 6 := by
  obtain ⟨hO, hF, hat, h5⟩ := h
  obtain ⟨n1, n2, n3, n4, n5, n6⟩ := hO.ne
  have f : e_fr (X_CL o b ch wo) M (g_wi M o 4 0) := e_fr.wi 0 (Or.inl ⟨rfl, Or.inl rfl⟩)
  have hb : ∀ k, g_i (g_wi M o 4 0) b k = g_i M b k := fun k => by rw [g_i_wi, if_neg fun z => n1 z.1.symm]
  have ho : ∀ k, k ≠ 4 → g_i (g_wi M o 4 0) o k = g_i M o k := fun k hk => by rw [g_i_wi, if_neg fun z => hk z.2]
  refine ⟨⟨⟨hO.fr f, fun k hk => by rw [hb]; exact hF k hk, fun f hf => absurd hf (by simp), by simp, trivial, ?_, ?_, b_nil _ _⟩, b_at_keep hat fun k _ _ => hb k⟩, f, ho 6 (by decide)⟩
  · rw [ho 5 (by decide), h5]
    rfl
  · rw [g_i_wi, if_pos ⟨rfl, rfl⟩]
    rfl
theorem X_aft.rt (hO : X_O o b po pf pt ch wo M) (hF : ∀ k, k < 163608 → g_i M b k = F k) (h : X_aft o b [] e M) : X_rt F o b po pf pt ch wo e M := ⟨hO, hF, h.2.1, h.2.2⟩
/-- an operator's path: what it does, and whether it changed a byte -/
theorem c_path {op pp : Int} {D : Nat} {Qv : Int → g_M → Prop} (hR : X_rt F o b po pf pt ch wo e M) (hE : X_E D e es) (hk3 : e.1 = 3) (hp : b_st F 100000 pp 20 p.1 p.2.1 p.2.2) (hop : 1 ≤ op) (hop6 : op ≤ 6) (hpn : op = 3 → p.1 = 16 ∨ p.1 = 18) (hst : (p_sp p.2.1).length ≤ 8) (hD : 30 ≤ D) (hD2 : D ≤ 30) (hPa : X_Pa F b po pf pt 0 (p_sp p.2.1) M) (hmx : (b_el e.1 e.2.1 e.2.2).length + X_G p (p_sp p.2.1) ≤ 14900) (hq : ∀ M1, e_fr (X_CL o b ch wo) M M1 → ((X_path op p es).1 = 0 → X_rt F o b po pf pt ch wo (e.1, e.2.1, b_doc (X_path op p es).2) M1 ∧ g_i M1 o 6 = (if (X_path op p es).2 = es then g_i M o 6 else 1)) → Qv (X_path op p es).1 M1) : g_Call (d + 71) (if op = 2 ∨ op = 5 then 34 else 26) [.ref o, g_n op, g_n pp] M (g_qI Qv) := by
  have hne : p_sp p.2.1 ≠ [] := by
    rcases p_hd_tl p.2.1 with ⟨h2, h3⟩ | ⟨y, h2, h3⟩
    · rw [p_sp_none h2]; simp
    · rw [p_sp_some h2]; simp
  have hpR := hp.R (by decide)
  have hopR : g_InR op := ⟨by omega, by omega⟩
  obtain ⟨hO, hF, -, -⟩ := id hR
  obtain ⟨⟨o1, o2, o3, o4, o5⟩, -⟩ := id hO
  have hrow : (e.1 == 4) = false := by rw [hk3]; decide
  obtain ⟨hSt, f2, e62⟩ := hR.St
  have hPa2 := hPa.cl hO f2
  have hpost : X_post o b ch wo [] e es (g_wi M o 4 0) Qv (X_path op p es) := by
    intro M1 f1 h1
    refine hq M1 (f2.tr f1) fun z => ?_
    obtain ⟨a1, a2, a3, a4⟩ := h1 z
    have f12 := f2.tr f1
    exact ⟨X_aft.rt (hO.fr f12) (X_F (ch := ch) hO hF f12) ⟨a1, a2, a3⟩, by rw [a4, e62]⟩
  by_cases h25 : op = 2 ∨ op = 5
  · rw [if_pos h25]
    refine m_X1_takes hopR hpR fun _ => ⟨o1, ?_⟩
    rintro _ rfl _
    refine c_takesL hp h25 (p_sp p.2.1) 0 D [] e es _ hne hSt rfl (by rw [List.length_nil]; omega) hE hD2 hPa2 (by show (b_el e.1 e.2.1 e.2.2).length ≤ _; omega) ?_
    unfold X_path at hpost
    rw [if_pos h25] at hpost
    rw [hrow]
    exact hpost
  · rw [if_neg h25]
    refine m_X1_makes hopR hpR fun _ => ⟨o1, ?_⟩
    rintro _ rfl _
    refine c_makesL hp (by omega) hpn (p_sp p.2.1) 0 D [] e es _ hne hSt rfl (by rw [List.length_nil]; omega) hE (by omega) hD2 (p_sp_nz hp.2.1) hPa2 hmx ?_
    unfold X_path at hpost
    rw [if_neg h25] at hpost
    rw [hrow]
    exact hpost
end TAKES
