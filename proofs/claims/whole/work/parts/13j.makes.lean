/-! CHANGES: the class makes -/
theorem X_mk_bad {op : Int} {p : b_E} {row : Bool} {es : List b_E} {x : List Int} {r : List (List Int)} (h : L_fn x es = none) (h1 : row = true) (h2 : x ≠ b_dg es.length) : X_make op p row es (x :: r) = (6, es) := by
  rw [X_make.eq_def]
  simp only [h]
  rw [if_pos ⟨h1, h2⟩]
theorem X_mk_n1 {op : Int} {p : b_E} {row : Bool} {es : List b_E} {x : List Int} (h : L_fn x es = none) (h1 : row = true → x = b_dg es.length) : X_make op p row es [x] = (0, es ++ [(X_last op p x none).2]) := by
  rw [X_make.eq_def]
  simp only [h]
  rw [if_neg fun z => z.2 (h1 z.1)]
theorem X_mk_n2 {op : Int} {p : b_E} {row : Bool} {es : List b_E} {x y : List Int} {r : List (List Int)} (h : L_fn x es = none) (h1 : row = true → x = b_dg es.length) : X_make op p row es (x :: y :: r) = ((X_make op p false [] (y :: r)).1, es ++ [(3, x, b_doc (X_make op p false [] (y :: r)).2)]) := by
  rw [X_make.eq_def]
  simp only [h]
  rw [if_neg fun z => z.2 (h1 z.1)]
theorem X_mk_s1 {op : Int} {p e : b_E} {row : Bool} {es : List b_E} {x : List Int} (h : L_fn x es = some e) : X_make op p row es [x] = ((X_last op p x (some e)).1, X_rep x (X_last op p x (some e)).2 es) := by
  rw [X_make.eq_def]
  simp only [h]
theorem X_mk_s2 {op : Int} {p e : b_E} {row : Bool} {es : List b_E} {x y : List Int} {r : List (List Int)} (h : L_fn x es = some e) (hk : e.1 = 3 ∨ e.1 = 4) : X_make op p row es (x :: y :: r) = ((X_make op p (e.1 == 4) (b_ch e.2.2) (y :: r)).1, X_rep x (e.1, e.2.1, b_doc (X_make op p (e.1 == 4) (b_ch e.2.2) (y :: r)).2) es) := by
  rw [X_make.eq_def]
  simp only [h]
  rw [if_pos hk]
theorem X_mk_s3 {op : Int} {p e : b_E} {row : Bool} {es : List b_E} {x y : List Int} {r : List (List Int)} (h : L_fn x es = some e) (hk : ¬ (e.1 = 3 ∨ e.1 = 4)) : X_make op p row es (x :: y :: r) = (6, es) := by
  rw [X_make.eq_def]
  simp only [h]
  rw [if_neg hk]
/-- a document or row -/
def X_E (D : Nat) (e : b_E) (es : List b_E) : Prop := b_nz e.2.1 ∧ (e.1 = 3 ∨ e.1 = 4) ∧ e.2.2 = b_doc es ∧ X_gd D es ∧ X_rn (e.1 == 4) es
theorem X_E.gv {D : Nat} {e : b_E} {es : List b_E} (h : X_E D e es) (hl : (b_ser es).length < 16000000) : b_gv (D + 1) e.1 e.2.2 := by
  obtain ⟨h1, h2, h3, h4, h5⟩ := h
  rw [h3]
  exact X_gv h2 h4 hl fun hk => h5 (by simp [hk])
theorem X_E.ch {D : Nat} {e : b_E} {es : List b_E} (h : X_E D e es) : b_ch e.2.2 = es := by
  rw [h.2.2.1]
  exact b_ch_doc h.2.2.2.1.ok
theorem X_E.mk {D : Nat} {e : b_E} (h1 : b_nz e.2.1) (h2 : b_gv D e.1 e.2.2) (hk : e.1 = 3 ∨ e.1 = 4) : ∃ D1, D = D1 + 1 ∧ X_E D1 e (b_ch e.2.2) := by
  obtain ⟨D1, es, e1, e2, e3, e4, e5, e6, e7⟩ := b_gv_doc h2 hk
  rw [e7]
  exact ⟨D1, e1, h1, hk, e2, e5, fun h => e6 (eq_of_beq h)⟩
theorem b_ser_1 (e : b_E) : b_ser [e] = b_el e.1 e.2.1 e.2.2 := by
  simp [b_ser]
section MAKES
variable {d o b po pf pt ch wo : Nat} {F : Int → Int} {M M1 : g_M} {c : List h_F} {e p : b_E} {es l t mid mid2 : List b_E} {Q : Int → g_M → Prop}
theorem X_Pa.tl {s : Nat} {x : List Int} {r : List (List Int)} (h : X_Pa F b po pf pt s (x :: r) M) : X_Pa F b po pf pt (s + 1) r M := by
  obtain ⟨h1, h2, -, -, -, -, h3⟩ := h
  rw [List.length_cons] at h2
  exact ⟨h1, by omega, h3⟩
theorem c_makesL {op pp : Int} (hp : b_st F 100000 pp 20 p.1 p.2.1 p.2.2) (hop : op = 1 ∨ op = 3 ∨ op = 4 ∨ op = 6) (hpn : op = 3 → p.1 = 16 ∨ p.1 = 18) : ∀ (st : List (List Int)) (s D : Nat) (c : List h_F) (e : b_E) (es : List b_E) (M : g_M), st ≠ [] → X_St F o b po pf pt ch wo c e M → s = c.length → c.length + st.length ≤ 8 → X_E D e es → 22 + st.length ≤ D → D ≤ 30 → (∀ x ∈ st, b_nz x) → X_Pa F b po pf pt s st M → h_hs (b_el e.1 e.2.1 e.2.2).length c + X_G p st ≤ 14900 → X_post o b ch wo c e es M Q (X_make op p (e.1 == 4) es st) → g_Run (d + 70) 26 11 [(0, .ref o), (1, g_n op), (2, g_n pp), (3, g_n (h_at 163608 c)), (4, g_n s)] [] M (g_qI Q) := by
  intro st
  induction st with
  | nil => exact fun s D c e es M h => absurd rfl h
  | cons x r ih =>
    intro s D c e es M _ hSt hsc hcl hE hD hD30 hst hPa hmx hpost
    have hlE : (b_ser es).length < 16000000 := by
      have h9 := h_hs_ge (b_el e.1 e.2.1 e.2.2).length c
      have := b_el_len e.1 e.2.1 e.2.2
      have h8 := congrArg List.length hE.2.2.1
      rw [b_doc_len] at h8
      omega
    have hgv := hE.gv hlE
    have hchE := hE.ch
    obtain ⟨e1, e2, e3, e4, e5⟩ := id hE
    have hs := hSt.st e1 hgv (by omega)
    have hel := b_el_len e.1 e.2.1 e.2.2
    have hdl := congrArg List.length e3
    rw [b_doc_len] at hdl
    rw [List.length_cons] at hcl hD
    have hG := X_G_cons p x r
    have hG0 : p.2.2.length + 3 ≤ X_G p r := by unfold X_G; omega
    have hxz := hst x List.mem_cons_self
    have hst2 := fun y hy => hst y (List.mem_cons_of_mem _ hy)
    obtain ⟨hO, hF, hok, hln, hZ, h5, h4, hch⟩ := id hSt.1
    obtain ⟨⟨o1, o2, o3, o4, o5⟩, ⟨p1, p2, p3, p4, p5, p6⟩, och, ob, ow, owb⟩ := id hO
    have hin := h_at_in (b_el e.1 e.2.1 e.2.2).length c 163608
    have hge := h_at_ge c 163608
    have hhs := h_hs_ge (b_el e.1 e.2.1 e.2.2).length c
    have hpR := hp.R (by decide)
    have hsR := hs.R (by decide)
    have hopR : g_InR op := ⟨by omega, by omega⟩
    have hmany := b_ser_many es
    have hpo3 := hPa.2.1
    rw [List.length_cons] at hpo3
    have hx0 : X_G p [] = p.2.2.length + 3 := by
      unfold X_G
      simp
    have h48 : g_Run (d + 70) 26 48 [(0, .ref o), (1, g_n op), (2, g_n pp), (3, g_n (h_at 163608 c)), (4, g_n s), (5, g_n e.1)] [] M (g_qI Q) := by
      have hk1R : g_InR e.1 := ⟨by omega, by omega⟩
      refine s_X1_makes_48 hopR hpR hsR ⟨by omega, by omega⟩ hk1R fun _ => ⟨o1, c_lk hSt e1 (by omega) (by omega) fun M2 f2 eb2 e62 hLk => ?_⟩
      intro _ _
      obtain ⟨hO2, hF2, hin2⟩ := hLk
      obtain ⟨⟨t1, t2, t3, t4, t5⟩, ⟨q1, q2, q3, q4, q5, q6⟩, tch, tb, tw, twb⟩ := id hO2
      have hPa2 := hPa.cl hO f2
      obtain ⟨x1, x2, x3, x4⟩ := hPa2.x
      have hpo3' := hPa2.2.1
      rw [List.length_cons] at hpo3'
      have hs2 : b_st (g_i M2 b) 246408 (h_at 163608 c) (D + 1) e.1 e.2.1 e.2.2 := by rw [eb2]; exact hs
      have hx2 : b_at (g_i M2 b) (g_i M2 pf s) x := b_at_keep x4 fun k k1 k2 => hF2 k (by omega)
      have h145 : ∀ z : Int, g_InR z → ((∃ e0, L_fn x es = some e0 ∧ 0 ≤ z ∧ ∀ l t, es = l ++ e0 :: t → (∀ f ∈ l, f.2.1 ≠ x) → z = h_at 163608 (c ++ [(e.1, e.2.1, l, t)])) ∨ (L_fn x es = none ∧ z < 0 ∧ (e.1 = 4 → x = b_dg es.length))) → g_Run (d + 70) 26 145 [(0, .ref o), (1, g_n op), (2, g_n pp), (3, g_n (h_at 163608 c)), (4, g_n s), (5, g_n e.1), (6, g_n z)] [] M2 (g_qI Q) := by
        intro z hzR hz
        refine s_X1_makes_145 hopR hpR hsR ⟨by omega, by omega⟩ hk1R hzR fun _ => ⟨t1, po, t3, q1, ⟨by omega, by omega⟩, ?_⟩
        rcases hz with ⟨e0, hf0, hz0, hz1⟩ | ⟨hf0, hz0, hrow⟩
        · obtain ⟨l, t, l1, l2, l3, l4, l5⟩ := L_fn_split hf0
          have hzz := hz1 l t l1 l5
          subst hzz
          obtain ⟨hShc, hatc⟩ := hin2 l [e0] t (by rw [e3, l1]; simp)
          have hgd0 := e4 e0 (L_fn_mem hf0).1
          have hStc : X_St F o b po pf pt ch wo (c ++ [(e.1, e.2.1, l, t)]) e0 M2 := by
            rw [b_ser_1] at hShc hatc
            exact ⟨hShc, hatc⟩
          have hhsc : h_hs (b_el e0.1 e0.2.1 e0.2.2).length (c ++ [(e.1, e.2.1, l, t)]) = h_hs (b_el e.1 e.2.1 e.2.2).length c := by
            rw [← b_ser_1, h_hs_snoc, h_hs_one, e3, l1]
            simp
          have hcl1 : (c ++ [((e.1, e.2.1, l, t) : h_F)]).length = c.length + 1 := by rw [List.length_append, List.length_singleton]
          refine ⟨fun gl => ⟨fun g => absurd g (by omega), fun _ => ?_⟩, fun gl => ⟨fun g => absurd g (by omega), fun _ => ⟨⟨by omega, by omega⟩, ?_⟩⟩⟩
          · have hr0 : r = [] := List.eq_nil_of_length_eq_zero (by omega)
            subst hr0
            rw [X_mk_s1 hf0] at hpost
            refine c_comesTo (d := d) (x := x) hStc (by omega) hgd0.1 (b_gv_le hgd0.2 (by omega)) hp hop hpn (by omega) fun M3 f3 h3 => ?_
            intro _ _ _
            by_cases hR : (X_last op p x (some e0)).1 = 0
            · obtain ⟨⟨a1, a2, a3⟩, a4⟩ := h3 hR
              rw [← b_ser_1] at a1 a2 a3
              rw [hR]
              refine X_leaf hpost hR (l := l) (t := t) (mid := [e0]) (mid2 := [(X_last op p x (some e0)).2]) (by show X_rep x _ es = _; rw [l3]; simp) (by rw [l1]; simp) (f2.tr f3) a1 a2 a3 ?_
              rw [a4, e62]
              by_cases g : (X_last op p x (some e0)).2 = e0
              · rw [if_pos g, if_pos (by rw [g])]
              · rw [if_neg g, if_neg fun zz => g (by simpa using zz)]
            · exact hpost M3 (f2.tr f3) fun zz => absurd zz hR
          · rcases r with _ | ⟨y, r⟩
            · rw [List.length_nil] at hpo3'
              exact absurd (by omega) gl
            · by_cases hk : e0.1 = 3 ∨ e0.1 = 4
              · rw [X_mk_s2 hf0 hk] at hpost
                obtain ⟨D1, hD1, hE0⟩ := X_E.mk hgd0.1 hgd0.2 hk
                rw [List.length_cons] at hD hcl
                have hlen0 : (b_ser (b_ch e0.2.2)).length + X_G p (y :: r) ≤ 15000 := by
                  have g1 := congrArg List.length hE0.2.2.1
                  rw [b_doc_len] at g1
                  have g2 := b_el_len e0.1 e0.2.1 e0.2.2
                  have g3 := h_hs_ge (b_el e0.1 e0.2.1 e0.2.2).length (c ++ [(e.1, e.2.1, l, t)])
                  omega
                obtain ⟨gd, -, -⟩ := X_make_good (op := op) hp.2.2.1 (y :: r) (e0.1 == 4) (b_ch e0.2.2) D1 hst2 hE0.2.2.2.1 (by rw [List.length_cons]; omega) hE0.2.2.2.2 hlen0
                have hIH := ih (s + 1) D1 (c ++ [(e.1, e.2.1, l, t)]) e0 (b_ch e0.2.2) M2 (by simp) hStc (by omega) (by rw [List.length_cons]; omega) hE0 (by rw [List.length_cons]; omega) (by omega) hst2 hPa2.tl (by omega) fun M3 f3 h3 => ?_
                · exact hIH
                · by_cases hR : (X_make op p (e0.1 == 4) (b_ch e0.2.2) (y :: r)).1 = 0
                  · obtain ⟨a1, a2, a3, a4⟩ := h3 hR
                    rw [hR]
                    refine X_leaf hpost hR (l := l) (t := t) (mid := [e0]) (mid2 := [(e0.1, e0.2.1, b_doc (X_make op p (e0.1 == 4) (b_ch e0.2.2) (y :: r)).2)]) (by show X_rep x _ es = _; rw [l3]; simp) (by rw [l1]; simp) (f2.tr f3) (by rw [b_ser_1]; exact a1) (by rw [b_ser_1]; exact a2) (by rw [b_ser_1]; exact a3) ?_
                    rw [a4, e62]
                    by_cases g : (X_make op p (e0.1 == 4) (b_ch e0.2.2) (y :: r)).2 = b_ch e0.2.2
                    · rw [if_pos g, if_pos (by rw [g, ← hE0.2.2.1])]
                    · rw [if_neg g, if_neg fun zz => g ?_]
                      have z1 := congrArg (fun w : b_E => w.2.2) ((List.cons.inj zz).1)
                      have z2 : b_doc (X_make op p (e0.1 == 4) (b_ch e0.2.2) (y :: r)).2 = e0.2.2 := z1
                      exact b_doc_inj gd.ok hE0.2.2.2.1.ok (z2.trans hE0.2.2.1)
                  · exact hpost M3 (f2.tr f3) fun zz => absurd zz hR
              · rw [X_mk_s3 hf0 hk] at hpost
                have hsc := hStc.st hgd0.1 hgd0.2 (by omega)
                have hscR := hsc.R (by decide)
                refine s_X1_makes_11 hopR hpR hscR ⟨by omega, by omega⟩ fun _ => ⟨t1, po, t3, q1, fun _ => ⟨b, t2, c_kd2 tb (by decide) hsc fun _ _ _ => ⟨fun g => absurd (Or.inl g) hk, fun _ => ⟨fun g => absurd (Or.inr g) hk, fun _ => hpost M2 f2 fun zz => absurd zz (show ¬ (6 : Int) = 0 by decide)⟩⟩⟩, fun g => absurd ?_ g⟩
                rw [List.length_cons] at hpo3'
                omega
        · obtain ⟨hShc, -⟩ := hin2 es [] [] (by rw [e3]; simp)
          have hs0 : (b_ser []).length = 0 := rfl
          have hShc : X_Sh F o b po pf pt ch wo (c ++ [(e.1, e.2.1, es, [])]) 0 M2 := hShc
          have hhs0 : h_hs 0 (c ++ [(e.1, e.2.1, es, [])]) = h_hs (b_el e.1 e.2.1 e.2.2).length c := by
            have hh := h_hs_one (f := (e.1, e.2.1, es, [])) (mid := [])
            rw [hs0] at hh
            rw [h_hs_snoc, hh, e3]
            simp
          have hcl1 : (c ++ [((e.1, e.2.1, es, []) : h_F)]).length = c.length + 1 := by rw [List.length_append, List.length_singleton]
          have hrow2 : (e.1 == 4) = true → x = b_dg es.length := fun hb => hrow (eq_of_beq hb)
          refine ⟨fun gl => ⟨fun _ => ?_, fun g => absurd hz0 g⟩, fun gl => ⟨fun _ => ?_, fun g => absurd hz0 g⟩⟩
          · have hr0 : r = [] := List.eq_nil_of_length_eq_zero (by omega)
            subst hr0
            rw [X_mk_n1 hf0 hrow2] at hpost
            refine c_free (d := d + 65) hShc (by omega) hs2 e3 hPa2 (by omega) hp (by omega) (by omega) (by omega) fun M3 f3 hS3 h63 => ?_
            intro _ _ _
            obtain ⟨a1, a2, a3⟩ := hS3.aft
            refine X_leaf hpost rfl (l := es) (t := []) (mid := []) (mid2 := [(X_last op p x none).2]) (by simp) (by simp) (f2.tr (X_SL.cl f3)) (by rw [b_ser_1]; exact a1) (by rw [b_ser_1]; exact a2) (by rw [b_ser_1]; exact a3) ?_
            rw [h63, if_neg (by simp)]
          · rcases r with _ | ⟨y, r⟩
            · rw [List.length_nil] at hpo3'
              exact absurd (by omega) gl
            · rw [X_mk_n2 hf0 hrow2] at hpost
              refine c_mkdoc (d := d + 66) hShc (by omega) hs2 e3 hPa2 (by omega) (by omega) fun M3 f3 hS3 h63 => ?_
              intro _ _ _
              rw [List.length_cons] at hD hcl
              have hPa3 := hPa2.cl hO2 (X_SL.cl f3)
              have hhs3 := h_hs_add 0 (x.length + 7) (c ++ [(e.1, e.2.1, es, [])])
              rw [Nat.zero_add] at hhs3
              have hl3 : (b_el 3 x (b_doc [])).length = x.length + 7 := by rw [b_el_len, b_doc_len]; rfl
              have hE3 : X_E D (3, x, b_doc []) [] := ⟨hxz, Or.inl rfl, rfl, fun f hf => absurd hf (by simp), fun h => absurd h (show ¬ ((3 : Int) == 4) = true by decide)⟩
              have hIH := ih (s + 1) D (c ++ [(e.1, e.2.1, es, [])]) (3, x, b_doc []) [] M3 (by simp) hS3 (by omega) (by rw [List.length_cons]; omega) hE3 (by rw [List.length_cons]; omega) (by omega) hst2 hPa3.tl (by show h_hs (b_el 3 x (b_doc [])).length _ + _ ≤ _; rw [hl3]; omega) fun M4 f4 h4 => ?_
              · exact ⟨⟨by omega, by omega⟩, hIH⟩
              · by_cases hR : (X_make op p false [] (y :: r)).1 = 0
                · obtain ⟨a1, a2, a3, a4⟩ := h4 hR
                  show Q (X_make op p false [] (y :: r)).1 M4
                  rw [hR]
                  refine X_leaf hpost hR (l := es) (t := []) (mid := []) (mid2 := [(3, x, b_doc (X_make op p false [] (y :: r)).2)]) (by simp) (by simp) ((f2.tr (X_SL.cl f3)).tr f4) (by rw [b_ser_1]; exact a1) (by rw [b_ser_1]; exact a2) (by rw [b_ser_1]; exact a3) ?_
                  have hz6 : g_i M4 o 6 = 1 := by
                    rw [a4, h63]
                    split <;> rfl
                  rw [hz6, if_neg (by simp)]
                · exact hpost M4 ((f2.tr (X_SL.cl f3)).tr f4) fun zz => absurd zz hR
      refine ⟨b, t2, po, t3, q1, b, hPa2.1, po, t3, q1, pf, q2, _, q4, ⟨by omega, by omega⟩, po, t3, q1, pt, q3, _, q5, ⟨by omega, by omega⟩, ?_⟩
      rw [x2]
      refine c_find2 (d := d + 67) tb (by decide) tb (by decide) hx2 x1 (by omega) hs2 e2 (by omega) ?_
      have hLc : L_ch (h_at 163608 c) (e.1, e.2.1, e.2.2) = L_at (h_at 163608 c + 6 + e.2.1.length) es := by
        show L_at (h_at 163608 c + 6 + e.2.1.length) (b_ch e.2.2) = _
        rw [hchE]
      rw [hLc]
      intro _ _ hzR
      rcases hf0 : L_fn x es with _ | e0
      · rw [L_find_none es _ (L_fn_none hf0)] at hzR ⊢
        refine ⟨fun _ => ⟨fun g4 => ⟨po, t3, q1, b, hPa2.1, po, t3, q1, pf, q2, _, q4, ⟨by omega, by omega⟩, po, t3, q1, pt, q3, _, q5, ⟨by omega, by omega⟩, b, t2, ?_⟩, fun g4 => h145 _ hzR (Or.inr ⟨hf0, by decide, fun z => absurd z g4⟩)⟩, fun g => absurd (show (-1 : Int) < 0 by decide) g⟩
        have hs2' := hs2
        rw [e3] at hs2'
        refine c_items (d := d + 68) tb (by decide) hs2'.1 e1 e4.ok hs2'.2.2.2.1 hs2'.2.2.2.2 (by omega) ?_
        intro _ _ _
        rw [x2]
        refine c_isDec (d := d + 69) tb (by decide) hx2 x1 (by omega) (by omega) ?_
        intro _ _ _
        by_cases hxd : x = b_dg es.length
        · rw [if_pos hxd]
          exact ⟨fun g => absurd g (by decide), fun _ => h145 _ hzR (Or.inr ⟨hf0, by decide, fun _ => hxd⟩)⟩
        · rw [if_neg hxd]
          rw [X_mk_bad hf0 (by simp [g4]) hxd] at hpost
          exact ⟨fun _ => hpost M2 f2 fun zz => absurd zz (show ¬ (6 : Int) = 0 by decide), fun g => absurd rfl g⟩
      · obtain ⟨l, t, l1, l2, l3, l4, l5⟩ := L_fn_split hf0
        have hfa : L_find x (L_at (h_at 163608 c + 6 + e.2.1.length) es) = some (h_at 163608 c + 6 + e.2.1.length + (b_ser l).length, e0) := by
          rw [l1]
          exact L_find_app l e0 t _ l5 l2
        rw [hfa] at hzR ⊢
        have hop0 : L_opt (some (h_at 163608 c + 6 + e.2.1.length + (b_ser l).length, e0)) = h_at 163608 c + 6 + e.2.1.length + (b_ser l).length := rfl
        rw [hop0] at hzR ⊢
        refine ⟨fun g => absurd g (by omega), fun _ => h145 _ hzR (Or.inl ⟨e0, hf0, by omega, fun l2 t2 g1 g2 => ?_⟩)⟩
        have hfa2 : L_find x (L_at (h_at 163608 c + 6 + e.2.1.length) es) = some (h_at 163608 c + 6 + e.2.1.length + (b_ser l2).length, e0) := by
          rw [g1]
          exact L_find_app l2 e0 t2 _ g2 (L_fn_mem hf0).2
        rw [hfa] at hfa2
        have := congrArg Prod.fst (Option.some.inj hfa2)
        rw [h_at_snoc]
        exact this
    refine s_X1_makes_11 hopR hpR hsR ⟨by omega, by omega⟩ fun _ => ⟨o1, po, o3, p1, fun _ => ⟨b, o2, c_kd2 ob (by decide) hs fun _ _ _ => ⟨fun g => h48, fun g => ⟨fun g2 => h48, fun g2 => absurd e2 (by omega)⟩⟩⟩, fun g => absurd (by omega) g⟩
end MAKES
