/-! CHANGES: the class pulls -/
section PULL
variable {d o b po pf pt ch wo : Nat} {F : Int → Int} {M M1 : g_M} {c : List h_F} {e p : b_E} {es l t mid mid2 l2 t2 : List b_E} {Q : Int → g_M → Prop}
/-- the hole moves on within the innermost one -/
theorem X_mv {k : Int} {nm : List Int} (hSh : X_Sh F o b po pf pt ch wo (c ++ [(k, nm, l, t)]) (b_ser mid).length M) (hat : b_at (g_i M b) (h_at 163608 (c ++ [(k, nm, l, t)])) (b_ser mid)) (he : l ++ mid ++ t = l2 ++ mid2 ++ t2) : X_Sh F o b po pf pt ch wo (c ++ [(k, nm, l2, t2)]) (b_ser mid2).length M ∧ b_at (g_i M b) (h_at 163608 (c ++ [(k, nm, l2, t2)])) (b_ser mid2) := by
  obtain ⟨hO, hF, hok, hln, hZ, h5, h4, hch⟩ := hSh
  have h1 := (h_in (B := g_i M b) (c := c) (f := (k, nm, l, t)) (p := 163608) (mid := mid)).mpr ⟨hZ, hat⟩
  have h2 := (h_in (B := g_i M b) (c := c) (f := (k, nm, l2, t2)) (p := 163608) (mid := mid2)).mp (by
    show h_Z _ (b_el k nm (b_doc (l2 ++ mid2 ++ t2))).length _ _ ∧ b_at _ _ (b_el k nm (b_doc (l2 ++ mid2 ++ t2)))
    rw [← he]
    exact h1)
  refine ⟨⟨hO, hF, fun f hf => ?_, ?_, h2.1, ?_, ?_, ?_⟩, h2.2⟩
  · rcases List.mem_append.mp hf with hf | hf
    · exact hok f (List.mem_append_left _ hf)
    · have := List.mem_singleton.mp hf
      subst this
      exact hok (k, nm, l, t) (List.mem_append_right _ (List.mem_singleton.mpr rfl))
  · rw [List.length_append, List.length_singleton] at hln ⊢
    exact hln
  · rw [h5, h_hs_snoc, h_hs_snoc, h_hs_one, h_hs_one]
    show (163608 : Int) + ((h_hs (b_el k nm (b_doc (l ++ mid ++ t))).length c : Nat) : Int) = 163608 + ((h_hs (b_el k nm (b_doc (l2 ++ mid2 ++ t2))).length c : Nat) : Int)
    rw [he]
  · rw [h4, List.length_append, List.length_append]
    rfl
  · rw [h_ch_snoc] at hch ⊢
    exact hch
/-- the items in the hole stand there -/
theorem X_sts {k : Int} {nm : List Int} {D : Nat} (hSh : X_Sh F o b po pf pt ch wo (c ++ [(k, nm, l, [])]) (b_ser mid).length M) (hat : b_at (g_i M b) (h_at 163608 (c ++ [(k, nm, l, [])])) (b_ser mid)) (hg : X_gd D mid) (hmx : h_hs (b_ser mid).length (c ++ [(k, nm, l, [])]) ≤ 80000) : b_sts (g_i M b) 246408 (h_at 163608 (c ++ [(k, nm, l, [])])) D mid := by
  obtain ⟨hO, hF, hok, hln, hZ, h5, h4, hch⟩ := hSh
  have hin := h_at_in (b_ser mid).length (c ++ [(k, nm, l, [])]) 163608
  have hge := h_at_ge (c ++ [(k, nm, l, [])]) 163608
  obtain ⟨-, -, -, -, -, z5⟩ := (h_Z_snoc c (k, nm, l, []) 163608).mp hZ
  have z6 := (b_cons.mp z5).1
  refine ⟨hat, hg, by omega, by omega, ?_⟩
  rw [h_at_snoc]
  exact z6
theorem X_pull_len {q : b_E → Bool} (i : Nat) (es : List b_E) : (X_num i (es.filter q)).length ≤ es.length := by
  rw [X_num_len]
  exact List.length_filter_le _ _
theorem c_pull {pp : Int} (hSt : X_St F o b po pf pt ch wo c e M) (hcl : c.length ≤ 9) (h1 : b_nz e.2.1) (h2 : b_gv 30 e.1 e.2.2) (hk4 : e.1 = 4) (hp : b_st F 100000 pp 20 p.1 p.2.1 p.2.2) (hmx : h_hs (b_el e.1 e.2.1 e.2.2).length c ≤ 15000) (hq : ∀ M1, e_fr (X_CL o b ch wo) M M1 → X_aft o b c (4, e.2.1, b_doc (X_num 0 ((b_ch e.2.2).filter fun y => !F_eq y p))) M1 → g_i M1 o 6 = (if X_num 0 ((b_ch e.2.2).filter fun y => !F_eq y p) = b_ch e.2.2 then g_i M o 6 else 1) → Q 0 M1) : g_Call (d + 70) 36 [.ref o, g_n pp, g_n (h_at 163608 c)] M (g_qI Q) := by
  have hs := hSt.st h1 h2 (by omega)
  obtain ⟨hO, hF, hok, hln, hZ, h5, h4, hch⟩ := id hSt.1
  obtain ⟨⟨o1, o2, o3, o4, o5⟩, hP, och, ob, ow, owb⟩ := id hO
  obtain ⟨D1, es, eD, e2, e3, e4, e5, e6, e7⟩ := b_gv_doc h2 (Or.inr hk4)
  rw [e7] at hq
  have hdl := congrArg List.length e2
  rw [b_doc_len] at hdl
  have hel := b_el_len e.1 e.2.1 e.2.2
  have hmany := b_ser_many es
  have hin := h_at_in (b_el e.1 e.2.1 e.2.2).length c 163608
  have hge := h_at_ge c 163608
  have hpR := hp.R (by decide)
  have hsR := hs.R (by decide)
  have hhs := h_hs_ge (b_el e.1 e.2.1 e.2.2).length c
  have hloop : ∀ (rest l : List b_E) (i j : Nat) (n0 : Int) (M : g_M), n0 + rest.length ≤ 15000 → 0 ≤ n0 → X_Sh F o b po pf pt ch wo (c ++ [(4, e.2.1, l, [])]) (b_ser rest).length M → b_at (g_i M b) (h_at 163608 (c ++ [(4, e.2.1, l, [])])) (b_ser rest) → X_gd D1 rest → h_hs (b_ser rest).length (c ++ [(4, e.2.1, l, [])]) ≤ 15000 → i ≤ j → j + rest.length < 10000 → (∀ (n : Nat) (y : b_E), rest[n]? = some y → y.2.1 = b_dg (j + n)) → (∀ M1, e_fr (X_CL o b ch wo) M M1 → X_aft o b c (4, e.2.1, b_doc (l ++ X_num i (rest.filter fun y => !F_eq y p))) M1 → g_i M1 o 6 = (if X_num i (rest.filter fun y => !F_eq y p) = rest then g_i M o 6 else 1) → Q 0 M1) → g_Run (d + 69) 36 20 [(0, .ref o), (1, g_n pp), (2, g_n (h_at 163608 c)), (3, g_n i), (4, g_n (h_at 163608 (c ++ [(4, e.2.1, l, [])]))), (5, g_n n0)] [] M (g_qI Q) := by
    intro rest
    induction rest with
    | nil =>
      intro l i j n0 M hn0 hn1 hSh hat hg hmx hij hj hnm hq
      have hsts := X_sts hSh hat hg (by omega)
      obtain ⟨⟨⟨t1, t2, t3, t4, t5⟩, -, -, tb, tw, -⟩, tF, -⟩ := id hSh
      have hatR : g_InR (h_at 163608 (c ++ [(4, e.2.1, l, [])])) := by
        have := hsts.2.2.1
        have := hsts.2.2.2.1
        exact ⟨by omega, by omega⟩
      have hout := X_out hSh hat
      rw [List.append_nil, List.append_nil] at hout
      rw [List.length_nil] at hj hn0
      refine s_X1_pull_20 hpR hsR ⟨by omega, by omega⟩ hatR ⟨by omega, by omega⟩ fun _ => ⟨fun _ => ⟨t1, b, t2, c_kdE tb (by decide) hsts fun _ _ _ => ⟨fun _ => hq M (e_fr.rf _ _) ?_ rfl, fun g => absurd rfl g⟩⟩, fun g => absurd (by omega) g⟩
      show X_aft o b c (4, e.2.1, b_doc (l ++ [])) M
      rw [List.append_nil]
      exact hout
    | cons y rest ih =>
      intro l i j n0 M hn0 hn1 hSh hat hg hmx hij hj hnm hq
      have hsts := X_sts hSh hat hg (by omega)
      obtain ⟨hsy, hsr⟩ := hsts.cons
      obtain ⟨hO, hF, hok, hln, hZ, h5, h4, hch⟩ := id hSh
      obtain ⟨⟨t1, t2, t3, t4, t5⟩, -, -, tb, tw, -⟩ := id hO
      rw [List.length_cons] at hj hn0
      have hyk := b_vs_pos (b_gv_vs hsy.2.2.1)
      have hy0 : y.2.1 = b_dg j := hnm 0 y rfl
      have hnm2 : ∀ (n : Nat) (z : b_E), rest[n]? = some z → z.2.1 = b_dg (j + 1 + n) := fun n z hz => by
        rw [show j + 1 + n = j + (n + 1) by omega]
        exact hnm (n + 1) z hz
      have hgy := hg y List.mem_cons_self
      have hgr : X_gd D1 rest := fun z hz => hg z (List.mem_cons_of_mem _ hz)
      have hsl := b_ser_len y rest
      have hyl := b_el_len y.1 y.2.1 y.2.2
      have hin2 := h_at_in (b_ser (y :: rest)).length (c ++ [(4, e.2.1, l, [])]) 163608
      have hge2 := h_at_ge (c ++ [(4, e.2.1, l, [])]) 163608
      have hp' : b_st (g_i M b) 246408 pp 20 p.1 p.2.1 p.2.2 := hp.of hF
      have hyR := hsy.R (by decide)
      have hln' : (b_ser (y :: rest)).length ≤ h_hs (b_ser (y :: rest)).length (c ++ [(4, e.2.1, l, [])]) := h_hs_ge _ _
      have hlens : ∀ n : Nat, (h_hs n (c ++ [(4, e.2.1, l, [])])) + (b_ser (y :: rest)).length = h_hs (b_ser (y :: rest)).length (c ++ [(4, e.2.1, l, [])]) + n := fun n => by
        have g1 := h_hs_add 0 n (c ++ [(4, e.2.1, l, [])])
        have g2 := h_hs_add 0 (b_ser (y :: rest)).length (c ++ [(4, e.2.1, l, [])])
        rw [Nat.zero_add] at g1 g2
        omega
      have hser : b_ser (y :: rest) = b_el y.1 y.2.1 y.2.2 ++ b_ser rest := rfl
      have hat2 := hat
      rw [hser] at hat2
      obtain ⟨hatY, hatR⟩ := b_app.mp hat2
      have hnum : ∀ z : b_E, X_num i (z :: rest.filter fun y => !F_eq y p) = (z.1, b_dg i, z.2.2) :: X_num (i + 1) (rest.filter fun y => !F_eq y p) := fun _ => rfl
      refine s_X1_pull_20 hpR hsR ⟨by omega, by omega⟩ hyR ⟨by omega, by omega⟩ fun _ => ⟨fun _ => ⟨t1, b, t2, c_kd2 tb (by decide) hsy fun _ _ _ => ⟨fun g => absurd g (by omega), fun _ => ⟨b, t2, b, t2, ?_⟩⟩⟩, fun g => absurd (by omega) g⟩
      refine c_eq30 (d := d + 5) (x := y) (v := p) tb (by decide) hsy (by omega) (by omega) hp' ?_
      intro _ _ _
      refine ⟨fun g0 => ⟨b, t2, c_nx2 tb (by decide) hsy fun _ _ _ => ⟨⟨by omega, by omega⟩, ?_⟩⟩, fun g0 => ⟨⟨by omega, by omega⟩, b, t2, c_va2 tb (by decide) hsy fun _ _ _ => ⟨⟨by omega, by omega⟩, b, t2, ?_⟩⟩⟩
      · -- it goes
        have hfe : F_eq y p = true := decide_eq_true g0
        have hflt : (y :: rest).filter (fun y => !F_eq y p) = rest.filter fun y => !F_eq y p := by
          rw [List.filter_cons, hfe]
          rfl
        rw [hflt] at hq
        rw [show h_at 163608 (c ++ [(4, e.2.1, l, [])]) + ((b_el y.1 y.2.1 y.2.2).length : Int) - h_at 163608 (c ++ [(4, e.2.1, l, [])]) = ((b_el y.1 y.2.1 y.2.2).length : Int) by omega]
        have hl0 := hlens (b_ser rest).length
        refine c_splice (h2 := (b_ser rest).length) hO hok hln hZ h4 hch h5 (Int.le_refl _) (by omega) (by decide) (by omega) (by omega) (by omega) (by omega) fun M2 f2 hZ2 e52 e62 kp1 kp2 W2 => ?_
        intro _ _ _
        have hSh2 := hSh.cl f2 hZ2 e52
        have hat3 : b_at (g_i M2 b) (h_at 163608 (c ++ [(4, e.2.1, l, [])])) (b_ser rest) := by
          have := b_at_move (B2 := g_i M2 b) (s := 0 - ((b_el y.1 y.2.1 y.2.2).length : Int)) hatR fun k k1 k2 => kp2 k k1 (by omega)
          rwa [show h_at 163608 (c ++ [(4, e.2.1, l, [])]) + ((b_el y.1 y.2.1 y.2.2).length : Int) + (0 - (b_el y.1 y.2.1 y.2.2).length) = h_at 163608 (c ++ [(4, e.2.1, l, [])]) by omega] at this
        refine ⟨⟨by omega, by omega⟩, ih l i (j + 1) (n0 + 1) M2 (by omega) (by omega) hSh2 hat3 hgr (by omega) (by omega) (by omega) hnm2 fun M3 f3 hA h6 => hq M3 ((X_SL.cl f2).tr f3) hA ?_⟩
        have hx1 := X_pull_len (q := fun y => !F_eq y p) i rest
        have hz6 : g_i M3 o 6 = 1 := by
          rw [h6, e62]
          split <;> rfl
        rw [hz6, if_neg fun zz => ?_]
        have := congrArg List.length zz
        rw [List.length_cons] at this
        omega
      · have hfe : F_eq y p = false := decide_eq_false g0
        have hflt : (y :: rest).filter (fun y => !F_eq y p) = y :: rest.filter fun y => !F_eq y p := by
          rw [List.filter_cons, hfe]
          rfl
        rw [hflt, hnum] at hq
        have hdj := b_dg_len j
        have hdi := b_dg_len i
        have hdm := b_dg_mono hij (by omega)
        have hynm : b_at (g_i M b) (h_at 163608 (c ++ [(4, e.2.1, l, [])]) + 1) y.2.1 := by
          have he : b_el y.1 y.2.1 y.2.2 = y.1 :: (y.2.1 ++ ([0] ++ y.2.2)) := by unfold b_el; simp
          rw [he] at hatY
          exact (b_app.mp (b_cons.mp hatY).2).1
        rw [show h_at 163608 (c ++ [(4, e.2.1, l, [])]) + 2 + (y.2.1.length : Int) - 1 = h_at 163608 (c ++ [(4, e.2.1, l, [])]) + 1 + y.2.1.length by omega]
        refine c_isDec (d := d + 68) tb (by decide) hynm (by omega) (by omega) (by omega) ?_
        intro _ _ _
        by_cases hyi : y.2.1 = b_dg i
        · rw [if_pos hyi]
          have hye : (y.1, b_dg i, y.2.2) = y := Prod.ext rfl (Prod.ext hyi.symm rfl)
          rw [hye] at hq
          obtain ⟨m1, m2⟩ := X_mv (l2 := l ++ [y]) (mid2 := rest) (t2 := []) hSh hat (by simp)
          have hpos : h_at 163608 (c ++ [(4, e.2.1, l ++ [y], [])]) = h_at 163608 (c ++ [(4, e.2.1, l, [])]) + (b_el y.1 y.2.1 y.2.2).length := by
            rw [h_at_snoc, h_at_snoc]
            unfold h_q
            show h_at 163608 c + 6 + (e.2.1.length : Int) + ((b_ser (l ++ [y])).length : Nat) = h_at 163608 c + 6 + (e.2.1.length : Int) + ((b_ser l).length : Nat) + _
            rw [b_ser_app, List.length_append, b_ser_1]
            omega
          have hmx2 : h_hs (b_ser rest).length (c ++ [(4, e.2.1, l ++ [y], [])]) ≤ 15000 := by
            have g1 : h_hs (b_ser rest).length (c ++ [(4, e.2.1, l ++ [y], [])]) = h_hs (b_ser (y :: rest)).length (c ++ [(4, e.2.1, l, [])]) := by
              rw [h_hs_snoc, h_hs_snoc, h_hs_one, h_hs_one]
              simp
            omega
          refine ⟨fun g => absurd g (by decide), fun _ => ⟨⟨by omega, by omega⟩, b, t2, c_nx2 tb (by decide) hsy fun _ _ _ => ⟨⟨by omega, by omega⟩, ?_⟩⟩⟩
          rw [← hpos]
          refine ih (l ++ [y]) (i + 1) (j + 1) (n0 + 1) M (by omega) (by omega) m1 m2 hgr hmx2 (by omega) (by omega) hnm2 fun M3 f3 hA h6 => hq M3 f3 (by rw [List.append_assoc] at hA; exact hA) ?_
          rw [h6]
          by_cases g : X_num (i + 1) (rest.filter fun y => !F_eq y p) = rest
          · rw [if_pos g, if_pos (by rw [g])]
          · rw [if_neg g, if_neg fun zz => g (List.cons.inj zz).2]
        · rw [if_neg hyi]
          refine ⟨fun _ => ⟨⟨by omega, by omega⟩, ⟨by omega, by omega⟩, c_digits (by omega) fun _ _ _ => ⟨⟨by omega, by omega⟩, ?_⟩⟩, fun g => absurd rfl g⟩
          have hne : (y.1, b_dg i, y.2.2) :: X_num (i + 1) (rest.filter fun y => !F_eq y p) ≠ y :: rest := fun zz => hyi (congrArg (fun w : b_E => w.2.1) (List.cons.inj zz).1).symm
          rw [show h_at 163608 (c ++ [(4, e.2.1, l, [])]) + 1 + (y.2.1.length : Int) + 1 - h_at 163608 (c ++ [(4, e.2.1, l, [])]) = (y.2.1.length : Int) + 2 by omega]
          have hnl := b_ser_len (y.1, b_dg i, y.2.2) rest
          have hnl2 := b_el_len y.1 (b_dg i) y.2.2
          have hnl3 : (b_ser ((y.1, b_dg i, y.2.2) :: rest)).length = (b_dg i).length + y.2.2.length + 2 + (b_ser rest).length := by rw [hnl, ← hnl2]
          have hl0 := hlens (b_ser ((y.1, b_dg i, y.2.2) :: rest)).length
          have hyj : y.2.1.length = (b_dg j).length := by rw [hy0]
          refine c_splice (h2 := (b_ser ((y.1, b_dg i, y.2.2) :: rest)).length) hO hok hln hZ h4 hch h5 (Int.le_refl _) (by omega) (by omega) (by omega) (by omega) (by omega) (by omega) fun M2 f2 hZ2 e52 e62 kp1 kp2 W2 => ?_
          intro _ _ _
          have hSh2 := hSh.cl f2 hZ2 e52
          obtain ⟨⟨⟨q1, q2, q3, q4, q5⟩, -, -, qb, qw, -⟩, qF, -⟩ := id hSh2
          have hkb : g_i M2 b (h_at 163608 (c ++ [(4, e.2.1, l, [])])) = y.1 := by
            rw [kp1 _ (Int.le_refl _) (by omega)]
            exact hsy.val.2.2.2
          refine ⟨fun g => absurd g (by decide), fun _ => ⟨wo, q5, b, q2, c_kind qb ⟨by decide, by decide⟩ hyR ?_⟩⟩
          rw [b_kd_in (by omega) (by omega), hkb]
          intro _ _ _
          refine ⟨qw, c_item W2 (by omega) (by omega) (by omega) fun M3 f3 W3 => ?_⟩
          intro _ _
          obtain ⟨hSh3, f3'⟩ := hSh2.wr2 f3 (Int.le_refl _) (by omega)
          obtain ⟨⟨⟨u1, u2, u3, u4, u5⟩, -, -, ub, uw, -⟩, uF, -⟩ := id hSh3
          obtain ⟨-, -, nwb, -⟩ := hSh2.1.ne
          rw [List.nil_append] at W3
          have hdl3 : (((y.1 :: (b_dg i ++ [0]) : List Int)).length : Int) = (b_dg i).length + 2 := by
            rw [List.length_cons, List.length_append, List.length_singleton]
            omega
          rw [← hdl3] at W3
          have hhd := c_Wr.hole (wo := wo) W3
          have hrest : b_at (g_i M3 b) (h_at 163608 (c ++ [(4, e.2.1, l, [])]) + ((b_dg i).length + 2)) (y.2.2 ++ b_ser rest) := by
            have he : b_el y.1 y.2.1 y.2.2 ++ b_ser rest = (y.1 :: (y.2.1 ++ [0])) ++ (y.2.2 ++ b_ser rest) := by unfold b_el; simp
            rw [he] at hat2
            obtain ⟨-, hz⟩ := b_app.mp hat2
            have hdl4 : (((y.1 :: (y.2.1 ++ [0]) : List Int)).length : Int) = y.2.1.length + 2 := by
              rw [List.length_cons, List.length_append, List.length_singleton]
              omega
            rw [hdl4] at hz
            have hzl : (y.2.2 ++ b_ser rest).length = y.2.2.length + (b_ser rest).length := List.length_append
            have := b_at_move (B2 := g_i M3 b) (s := ((b_dg i).length : Int) + 2 - (y.2.1.length + 2)) hz fun k k1 k2 => by
              rw [f3.2.1 b _ (fun zz => ?_)]
              · exact kp2 k k1 (by omega)
              · rcases zz with ⟨zz, -⟩ | ⟨-, -, zz⟩
                · exact nwb zz.symm
                · omega
            rwa [show h_at 163608 (c ++ [(4, e.2.1, l, [])]) + ((y.2.1.length : Int) + 2) + ((b_dg i).length + 2 - (y.2.1.length + 2)) = h_at 163608 (c ++ [(4, e.2.1, l, [])]) + ((b_dg i).length + 2) by omega] at this
          have hat3 : b_at (g_i M3 b) (h_at 163608 (c ++ [(4, e.2.1, l, [])])) (b_ser ((y.1, b_dg i, y.2.2) :: rest)) := by
            have he : b_ser ((y.1, b_dg i, y.2.2) :: rest) = (y.1 :: (b_dg i ++ [0])) ++ (y.2.2 ++ b_ser rest) := by
              show b_el y.1 (b_dg i) y.2.2 ++ b_ser rest = _
              unfold b_el
              simp
            rw [he]
            refine b_app.mpr ⟨hhd, ?_⟩
            rw [hdl3]
            exact hrest
          have hgy2 : X_gd D1 ((y.1, b_dg i, y.2.2) :: rest) := fun z hz => by
            rcases List.mem_cons.mp hz with rfl | hz
            · exact ⟨b_dg_nz (by omega), hgy.2⟩
            · exact hgr z hz
          have hsts3 := X_sts hSh3 hat3 hgy2 (by omega)
          obtain ⟨hsy3, -⟩ := hsts3.cons
          obtain ⟨m1, m2⟩ := X_mv (l2 := l ++ [(y.1, b_dg i, y.2.2)]) (mid2 := rest) (t2 := []) hSh3 hat3 (by simp)
          have hpos : h_at 163608 (c ++ [(4, e.2.1, l ++ [(y.1, b_dg i, y.2.2)], [])]) = h_at 163608 (c ++ [(4, e.2.1, l, [])]) + (b_el y.1 (b_dg i) y.2.2).length := by
            rw [h_at_snoc, h_at_snoc]
            unfold h_q
            show h_at 163608 c + 6 + (e.2.1.length : Int) + ((b_ser (l ++ [(y.1, b_dg i, y.2.2)])).length : Nat) = h_at 163608 c + 6 + (e.2.1.length : Int) + ((b_ser l).length : Nat) + _
            rw [b_ser_app, List.length_append, b_ser_1]
            show _ + ((_ + (b_el y.1 (b_dg i) y.2.2).length : Nat) : Int) = _
            omega
          have hmx2 : h_hs (b_ser rest).length (c ++ [(4, e.2.1, l ++ [(y.1, b_dg i, y.2.2)], [])]) ≤ 15000 := by
            have g1 : h_hs (b_ser rest).length (c ++ [(4, e.2.1, l ++ [(y.1, b_dg i, y.2.2)], [])]) = h_hs (b_ser ((y.1, b_dg i, y.2.2) :: rest)).length (c ++ [(4, e.2.1, l, [])]) := by
              rw [h_hs_snoc, h_hs_snoc, h_hs_one, h_hs_one]
              simp
            omega
          refine ⟨⟨by omega, by omega⟩, b, u2, c_nx2 ub (by decide) hsy3 fun _ _ _ => ⟨⟨by omega, by omega⟩, ?_⟩⟩
          show g_Run (d + 69) 36 20 [_, _, _, _, (4, g_n (h_at 163608 (c ++ [(4, e.2.1, l, [])]) + ((b_el y.1 (b_dg i) y.2.2).length : Int))), _] [] M3 (g_qI Q)
          rw [← hpos]
          refine ih (l ++ [(y.1, b_dg i, y.2.2)]) (i + 1) (j + 1) (n0 + 1) M3 (by omega) (by omega) m1 m2 hgr hmx2 (by omega) (by omega) hnm2 fun M4 f4 hA h6 => hq M4 ((X_SL.cl (f2.tr f3')).tr f4) (by rw [List.append_assoc] at hA; exact hA) ?_
          rw [h6, X_6 hSh2 f3, e62, if_neg hne]
          split <;> rfl
  refine m_X1_pull hpR hsR fun _ => ⟨o1, c_lk hSt h1 hcl (by omega) fun M2 f2 eb2 e62 hLk => ?_⟩
  intro _ _
  obtain ⟨hO2, hF2, hin2⟩ := hLk
  obtain ⟨⟨t1, t2, t3, t4, t5⟩, tP, tch, tb, tw, twb⟩ := id hO2
  obtain ⟨hSh2, hat2⟩ := hin2 [] es [] (by rw [e2]; simp)
  rw [hk4] at hSh2 hat2
  have hs2 : b_st (g_i M2 b) 246408 (h_at 163608 c) 30 e.1 e.2.1 e.2.2 := by rw [eb2]; exact hs
  refine ⟨b, t2, c_fi2 (d := d + 68) tb (by decide) hs2 fun _ _ _ => ?_⟩
  have hpos : h_at 163608 (c ++ [(4, e.2.1, [], [])]) = h_at 163608 c + 6 + e.2.1.length := by
    rw [h_at_snoc]
    show h_at 163608 c + 6 + (e.2.1.length : Int) + ((0 : Nat) : Int) = _
    omega
  rw [← hpos]
  refine hloop es [] 0 0 0 M2 (by omega) (by decide) hSh2 hat2 e5 ?_ (Nat.le_refl _) (by omega) (fun n y hy => by rw [Nat.zero_add]; exact e6 hk4 n y hy) fun M3 f3 hA h6 => hq M3 (f2.tr f3) hA (by rw [h6, e62])
  have g1 : h_hs (b_ser es).length (c ++ [(4, e.2.1, [], [])]) = h_hs (b_el e.1 e.2.1 e.2.2).length c := by
    rw [h_hs_snoc, h_hs_one, e2, ← hk4]
    simp
  omega
end PULL
