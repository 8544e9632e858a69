/-! CHANGES: the class does one -/
noncomputable def Z_ps (op : Int) : List b_E × Int → List (Int × b_E) → (Int × Int) × (List b_E × Int)
  | s, [] => ((0, 0), s)
  | s, z :: r => if (X_path op z.2 s.1).1 = 0 then Z_ps op ((X_path op z.2 s.1).2, if (X_path op z.2 s.1).2 = s.1 then s.2 else 1) r else (((X_path op z.2 s.1).1, z.1), s)
noncomputable def Z_os : List b_E × Int → List (Int × b_E) → (Int × Int) × (List b_E × Int)
  | s, [] => ((0, 0), s)
  | s, z :: r => if (Z_ps (X_op z.2.2.1) s (L_ch z.1 z.2)).1.1 = 0 then Z_os (Z_ps (X_op z.2.2.1) s (L_ch z.1 z.2)).2 r else Z_ps (X_op z.2.2.1) s (L_ch z.1 z.2)
noncomputable def Z_end (pc : Int) (R : (Int × Int) × (List b_E × Int)) : (Int × Int) × (List b_E × Int) := if R.1.1 = 0 then (if 2000 < (b_doc R.2.1).length then ((9, pc), R.2) else if 16 < b_dp 31 1 R.2.1 then ((9, pc), R.2) else R) else R
theorem b_sts.of {B F : Int → Int} {q : Int} {D : Nat} {es : List b_E} (h : b_sts F 100000 q D es) (hF : ∀ k, k < 163608 → B k = F k) : b_sts B 246408 q D es := by
  obtain ⟨h1, h2, h3, h4, h5⟩ := h
  exact ⟨b_at_keep h1 fun k k1 k2 => hF k (by omega), h2, h3, by omega, by rw [hF _ (by omega)]; exact h5⟩
def X_GS (o b po pf pt ch wo : Nat) (y : Nat) : Prop := y = o ∨ p_S po pf pt y ∨ y = wo ∨ y = ch ∨ y = b
theorem e_fr.gs {S : Nat → Int → Prop} {T : Nat → Prop} {M M1 : g_M} (h : e_fr S M M1) (hST : ∀ x k, S x k → T x) : g_fr T M M1 := ⟨h.1, fun x hx => ⟨funext fun k => h.2.1 x k fun z => hx (hST x k z), funext fun k => h.2.2 x k⟩⟩
def D_post (F : Int → Int) (o b po pf pt ch wo : Nat) (M0 : g_M) (Q : Int → g_M → Prop) (R : (Int × Int) × (List b_E × Int)) : Prop := ∀ M1, g_fr (X_GS o b po pf pt ch wo) M0 M1 → X_O o b po pf pt ch wo M1 → (∀ k, k < 163608 → g_i M1 b k = F k) → (R.1.1 ≠ 0 → g_i M1 o 7 = R.1.1 ∧ g_i M1 o 8 = R.1.2) → (R.1.1 = 0 → X_rt F o b po pf pt ch wo (3, [], b_doc R.2.1) M1 ∧ g_i M1 o 6 = R.2.2) → Q (if R.1.1 = 0 then 1 else 0) M1
section DOES
variable {d o b po pf pt ch wo : Nat} {F : Int → Int} {M M0 M1 : g_M} {e p : b_E} {es : List b_E} {Q : Int → g_M → Prop}
theorem X_CL.gs {x : Nat} {k : Int} (h : X_CL o b ch wo x k) : X_GS o b po pf pt ch wo x := by
  rcases h with ⟨h, -⟩ | ⟨h, -⟩ | ⟨h, -⟩ | h
  · exact Or.inl h
  · exact Or.inr (Or.inr (Or.inl h))
  · exact Or.inr (Or.inr (Or.inr (Or.inr h)))
  · exact Or.inr (Or.inr (Or.inr (Or.inl h)))
theorem c_failsD {w q : Int} {s : List b_E × Int} (hO : X_O o b po pf pt ch wo M) (hF : ∀ k, k < 163608 → g_i M b k = F k) (hf : g_fr (X_GS o b po pf pt ch wo) M0 M) (hw : g_InR w) (hw0 : w ≠ 0) (hq : g_InR q) (h : D_post F o b po pf pt ch wo M0 Q ((w, q), s)) : g_Call (d + 1) 19 [.ref o, g_n w, g_n q] M (g_qI fun r M1 => g_ext M M1 → g_ok M1 → g_InR r → (r = 0 ∨ r = 1) ∧ Q r M1) := by
  obtain ⟨⟨o1, o2, o3, o4, o5⟩, hP, och, ob, ow, owb⟩ := id hO
  have hb : o ≠ b := g_neOA o1 ob
  refine m_X1_fails hw hq fun _ => ⟨o1, ?_⟩
  rintro M2 rfl _ M6 rfl _
  intro _ _ _
  refine ⟨Or.inl rfl, ?_⟩
  have fe : e_fr (fun y k => y = o ∧ (k = 7 ∨ k = 8)) M (g_wi (g_wi M o 7 w) o 8 q) := (e_fr.wi _ ⟨rfl, Or.inl rfl⟩).tr (e_fr.wi _ ⟨rfl, Or.inr rfl⟩)
  have := h (g_wi (g_wi M o 7 w) o 8 q) (hf.tr (fe.gs fun x k z => Or.inl z.1)) (hO.fr fe) (fun k hk => by rw [fe.2.1 b k fun z => hb z.1.symm]; exact hF k hk) (fun _ => ⟨?_, ?_⟩) fun z => absurd z hw0
  · rwa [if_neg (show ¬ (((w, q), s) : (Int × Int) × (List b_E × Int)).1.1 = 0 from hw0)] at this
  · rw [g_i_wi, if_neg (by omega), g_i_wi, if_pos ⟨rfl, rfl⟩]
  · rw [g_i_wi, if_pos ⟨rfl, rfl⟩]
theorem X_rt.E {D : Nat} (hg : X_gd D es) : X_E D (3, [], b_doc es) es := ⟨fun c hc => absurd hc (by simp), Or.inl rfl, rfl, hg, fun h => absurd h (show ¬ ((3 : Int) == 4) = true by decide)⟩
theorem X_path_good {op : Int} (hp : b_gv 20 p.1 p.2.2) (hnz : b_nz p.2.1) (hok : p_ok p.2.1) (hg : X_gd 30 es) (hl : (b_ser es).length + X_G p (p_sp p.2.1) ≤ 15000) : X_gd 30 (X_path op p es).2 ∧ (b_ser (X_path op p es).2).length ≤ (b_ser es).length + X_G p (p_sp p.2.1) := by
  unfold X_path
  split
  · obtain ⟨h1, -, h3⟩ := X_take_good (op := op) (p := p) (p_sp p.2.1) false es 30 hg (fun h => absurd h (by decide)) (by omega)
    exact ⟨h1, by omega⟩
  · have := hok.2.1
    obtain ⟨h1, -, h3⟩ := X_make_good (op := op) hp (p_sp p.2.1) false es 30 (p_sp_nz hnz) hg (by omega) (fun h => absurd h (by decide)) hl
    exact ⟨h1, h3⟩
theorem c_does {pc dp : Int} {ce : b_E} (hO : X_O o b po pf pt ch wo M) (hF : ∀ k, k < 163608 → g_i M b k = F k) (hs : b_st F 100000 pc 22 ce.1 ce.2.1 ce.2.2) (hk : ce.1 = 3) (hgood : ∀ z ∈ b_ch ce.2.2, X_op z.2.1 ≠ 0 ∧ z.1 = 3 ∧ ∀ y ∈ b_ch z.2.2, p_ok y.2.1 ∧ (X_op z.2.1 = 3 → y.1 = 16 ∨ y.1 = 18)) (hd0 : 0 ≤ dp) (hd1 : dp + (b_el 3 [] (b_doc es)).length ≤ 163608) (hdat : b_at F dp (b_el 3 [] (b_doc es))) (hdg : X_gd 30 es) (hmx : (b_ser es).length + 7 + 4 * ce.2.2.length ≤ 14900) (h : D_post F o b po pf pt ch wo M Q (Z_end pc (Z_os (es, 0) (L_ch pc ce)))) : g_Call (d + 72) 23 [.ref o, g_n dp, g_n pc] M (g_qI Q) := by
  obtain ⟨⟨o1, o2, o3, o4, o5⟩, hP, och, ob, ow, owb⟩ := id hO
  obtain ⟨n1, n2, n3, n4, n5, n6⟩ := hO.ne
  obtain ⟨D1, eD, hsts, hlen⟩ := hs.kids (Or.inl hk)
  have hsR := hs.R (by decide)
  have hdl := b_el_len 3 [] (b_doc es)
  rw [b_doc_len, List.length_nil] at hdl
  have hmany := b_ser_many (b_ch ce.2.2)
  have hgvd : b_gv 31 3 (b_doc es) := X_gv (Or.inl rfl) hdg (by omega) fun z => absurd z (by decide)
  have hds : b_st (g_i M b) 246408 dp 31 3 [] (b_doc es) := ⟨b_at_keep hdat fun k k1 k2 => hF k (by omega), fun c hc => absurd hc (by simp), hgvd, hd0, by omega⟩
  have hdR := hds.R (by decide)
  have hL : ∃ L : Nat, L = (b_el 3 [] (b_doc es)).length := ⟨_, rfl⟩
  obtain ⟨L, hL⟩ := hL
  have hinn : ∀ (z : b_E) (cs2 : List b_E) (i : Nat) (zo : Int) (D2 : Nat), b_st F 100000 zo 21 z.1 z.2.1 z.2.2 → z.1 = 3 → 1 ≤ X_op z.2.1 → (∀ y ∈ b_ch z.2.2, p_ok y.2.1 ∧ (X_op z.2.1 = 3 → y.1 = 16 ∨ y.1 = 18)) → i < 2000 → z.2.2.length ≤ 3800 → ∀ (ys2 ys1 : List b_E) (M1 : g_M) (s : List b_E × Int) (k : Nat) (q : Int), b_ch z.2.2 = ys1 ++ ys2 → g_fr (X_GS o b po pf pt ch wo) M M1 → X_rt F o b po pf pt ch wo (3, [], b_doc s.1) M1 → g_i M1 o 6 = s.2 → X_gd 30 s.1 → (b_ser s.1).length + 7 + 4 * ((b_ser ys2).length + (b_ser cs2).length) ≤ 14900 → k + ys2.length < 2000 → q = zo + 6 + z.2.1.length + (b_ser ys1).length → D_post F o b po pf pt ch wo M Q (Z_end pc (if (Z_ps (X_op z.2.1) s (L_at q ys2)).1.1 = 0 then Z_os (Z_ps (X_op z.2.1) s (L_at q ys2)).2 (L_at (zo + (b_el z.1 z.2.1 z.2.2).length) cs2) else Z_ps (X_op z.2.1) s (L_at q ys2))) → (∀ M2 s2, g_fr (X_GS o b po pf pt ch wo) M M2 → X_rt F o b po pf pt ch wo (3, [], b_doc s2.1) M2 → g_i M2 o 6 = s2.2 → X_gd 30 s2.1 → (b_ser s2.1).length + 7 + 4 * (b_ser cs2).length ≤ 14900 → D_post F o b po pf pt ch wo M Q (Z_end pc (Z_os s2 (L_at (zo + (b_el z.1 z.2.1 z.2.2).length) cs2))) → g_Run (d + 71) 23 85 [(0, .ref o), (1, g_n dp), (2, g_n pc), (3, g_n L), (4, g_n (zo + (b_el z.1 z.2.1 z.2.2).length)), (5, g_n ((i : Int) + 1))] [] M2 (g_qI Q)) → g_Run (d + 71) 23 130 [(0, .ref o), (1, g_n dp), (2, g_n pc), (3, g_n L), (4, g_n zo), (5, g_n i), (6, g_n (X_op z.2.1)), (7, g_n q), (8, g_n k)] [] M1 (g_qI Q) := by
    intro z cs2 i zo D2 hz hz3 hop1 hzg hi hzl ys2
    obtain ⟨D3, eD3, hysts, hylen⟩ := hz.kids (Or.inl hz3)
    have eD3 : D3 = 20 := by omega
    subst eD3
    have hzR := hz.R (by decide)
    have hzbl := b_el_len z.1 z.2.1 z.2.2
    have hz5 := hz.2.2.2.2
    have hz4 := hz.2.2.2.1
    have hopR := X_op_R z.2.1
    have hopR2 : g_InR (X_op z.2.1) := ⟨by omega, by omega⟩
    have hLR : g_InR (L : Int) := ⟨by omega, by omega⟩
    induction ys2 with
    | nil =>
      intro ys1 M1 s k q h1 hfr hrt h6 hgd hmx2 hk2 hq hpost hcont
      obtain ⟨hO1, hF1, -, -⟩ := id hrt
      obtain ⟨⟨t1, t2, t3, t4, t5⟩, tP, tch, tb, tw, twb⟩ := id hO1
      have hk3 := hysts
      rw [h1] at hk3
      have hk4 := hk3.app
      rw [← hq] at hk4
      have hqR : g_InR q := by
        have := hk4.2.2.1
        have := hk4.2.2.2.1
        exact ⟨by omega, by omega⟩
      have hps : Z_ps (X_op z.2.1) s (L_at q []) = ((0, 0), s) := rfl
      rw [hps, if_pos rfl] at hpost
      refine s_X1_does_130 hdR hsR hLR hzR ⟨by omega, by omega⟩ hopR2 hqR ⟨by omega, by omega⟩ fun _ => ⟨fun _ => ⟨t1, b, t2, c_kdE tb (by decide) (hk4.of hF1) fun _ _ _ => ⟨fun _ => ⟨b, t2, c_nx2 tb (by decide) (hz.of hF1) fun _ _ _ => ⟨⟨by omega, by omega⟩, hcont M1 s hfr hrt h6 hgd (by omega) hpost⟩⟩, fun g => absurd rfl g⟩⟩, fun g => absurd (by rw [List.length_nil] at hk2; omega) g⟩
    | cons y ys2 ih =>
      intro ys1 M1 s k q h1 hfr hrt h6 hgd hmx2 hk2 hq hpost hcont
      obtain ⟨hO1, hF1, -, -⟩ := id hrt
      obtain ⟨⟨t1, t2, t3, t4, t5⟩, tP, tch, tb, tw, twb⟩ := id hO1
      rw [List.length_cons] at hk2
      rw [b_ser_len] at hmx2
      have hk3 := hysts
      rw [h1] at hk3
      have hk4 := hk3.app
      rw [← hq] at hk4
      have hy := hk4.cons.1
      have hyR := hy.R (by decide)
      have hyk := b_vs_pos (b_gv_vs hy.2.2.1)
      have hy5 := hy.2.2.2.2
      have hy4 := hy.2.2.2.1
      have hybl := b_el_len y.1 y.2.1 y.2.2
      obtain ⟨hok, hnum⟩ := hzg y (by rw [h1]; simp)
      have hXG := X_G_le hok
      have hps : Z_ps (X_op z.2.1) s (L_at q (y :: ys2)) = if (X_path (X_op z.2.1) y s.1).1 = 0 then Z_ps (X_op z.2.1) ((X_path (X_op z.2.1) y s.1).2, if (X_path (X_op z.2.1) y s.1).2 = s.1 then s.2 else 1) (L_at (q + (b_el y.1 y.2.1 y.2.2).length) ys2) else (((X_path (X_op z.2.1) y s.1).1, q), s) := rfl
      rw [hps] at hpost
      have hgdl : X_gd 30 (X_path (X_op z.2.1) y s.1).2 ∧ (b_ser (X_path (X_op z.2.1) y s.1).2).length ≤ (b_ser s.1).length + X_G y (p_sp y.2.1) := X_path_good hy.2.2.1 hy.2.1 hok hgd (by omega)
      refine s_X1_does_130 hdR hsR hLR hzR ⟨by omega, by omega⟩ hopR2 hyR ⟨by omega, by omega⟩ fun _ => ⟨fun _ => ⟨t1, b, t2, c_kd2 tb (by decide) (hy.of hF1) fun _ _ _ => ⟨fun g => absurd g (by omega), fun _ => ⟨po, t3, b, t2, tP.1, ?_⟩⟩⟩, fun g => absurd (by omega) g⟩
      refine c_name (d := d + 69) tP tb (by decide) (hy.of hF1) (fun _ M2 f2 hP2 his => ?_) (fun hno => absurd hok hno)
      intro _ _ _
      obtain ⟨hO2, hb2, ho2⟩ := hO1.nm f2 hP2
      obtain ⟨⟨u1, u2, u3, u4, u5⟩, uP, uch, ub, uw, uwb⟩ := id hO2
      obtain ⟨-, -, hat0, h50⟩ := id hrt
      have hrt2 : X_rt F o b po pf pt ch wo (3, [], b_doc s.1) M2 := ⟨hO2, by rw [hb2]; exact hF1, by rw [hb2]; exact hat0, by rw [ho2]; exact h50⟩
      have hfr2 : g_fr (X_GS o b po pf pt ch wo) M M2 := hfr.tr (f2.up fun x hx => Or.inr (Or.inl hx))
      have hPa2 : X_Pa F b po pf pt 0 (p_sp y.2.1) M2 := by
        obtain ⟨i1, i2, i3, i4⟩ := his
        exact ⟨i1, by rw [i2]; omega, p_rb_of _ (Nat.le_refl _) hy.nmb i4 (by omega) (by omega)⟩
      have hser0 : (b_el 3 [] (b_doc s.1)).length = (b_ser s.1).length + 7 := by rw [b_el_len, b_doc_len]; show 0 + _ + 2 = _; omega
      have hp195 : ∀ M3, e_fr (X_CL o b ch wo) M2 M3 → ((X_path (X_op z.2.1) y s.1).1 = 0 → X_rt F o b po pf pt ch wo (3, [], b_doc (X_path (X_op z.2.1) y s.1).2) M3 ∧ g_i M3 o 6 = (if (X_path (X_op z.2.1) y s.1).2 = s.1 then g_i M2 o 6 else 1)) → g_InR (X_path (X_op z.2.1) y s.1).1 → g_Run (d + 71) 23 195 [(0, .ref o), (1, g_n dp), (2, g_n pc), (3, g_n L), (4, g_n zo), (5, g_n i), (6, g_n (X_op z.2.1)), (7, g_n q), (8, g_n k)] [g_n (X_path (X_op z.2.1) y s.1).1] M3 (g_qI Q) := by
        intro M3 f3 h3 hR3
        have hfr3 : g_fr (X_GS o b po pf pt ch wo) M M3 := hfr2.tr (f3.gs fun x k z => X_CL.gs z)
        have hO3 : X_O o b po pf pt ch wo M3 := hO2.fr f3
        have hF3 : ∀ k, k < 163608 → g_i M3 b k = F k := X_F (ch := ch) hO2 hrt2.2.1 f3
        obtain ⟨⟨v1, v2, v3, v4, v5⟩, vP, vch, vb, vw, vwb⟩ := id hO3
        refine s_X1_does_195 hdR hsR hLR hzR ⟨by omega, by omega⟩ hopR2 hyR ⟨by omega, by omega⟩ hR3 fun _ => ⟨fun g0 => ⟨v1, b, v2, c_nx2 vb (by decide) (hy.of hF3) fun _ _ _ => ⟨⟨by omega, by omega⟩, ?_⟩⟩, fun g0 => ⟨v1, ?_⟩⟩
        · obtain ⟨h31, h32⟩ := h3 g0
          rw [if_pos g0] at hpost
          refine ih (ys1 ++ [y]) M3 ((X_path (X_op z.2.1) y s.1).2, if (X_path (X_op z.2.1) y s.1).2 = s.1 then s.2 else 1) (k + 1) _ (by rw [h1]; simp) hfr3 h31 ?_ hgdl.1 ?_ (by omega) ?_ hpost hcont
          · rw [h32, ho2, h6]
          · show (b_ser (X_path (X_op z.2.1) y s.1).2).length + 7 + 4 * ((b_ser ys2).length + (b_ser cs2).length) ≤ 14900
            omega
          · rw [b_ser_app, List.length_append, b_ser_1]
            omega
        · rw [if_neg g0, if_neg (show ¬ ((((X_path (X_op z.2.1) y s.1).1, q), s) : (Int × Int) × (List b_E × Int)).1.1 = 0 from g0)] at hpost
          unfold Z_end at hpost
          rw [if_neg (show ¬ ((((X_path (X_op z.2.1) y s.1).1, q), s) : (Int × Int) × (List b_E × Int)).1.1 = 0 from g0)] at hpost
          exact c_failsD hO3 hF3 hfr3 hR3 g0 hyR hpost
      have hcp : ∀ mm : Nat, (if X_op z.2.1 = 2 ∨ X_op z.2.1 = 5 then 34 else 26) = mm → ∀ Qv : Int → g_M → Prop, (∀ M3, e_fr (X_CL o b ch wo) M2 M3 → ((X_path (X_op z.2.1) y s.1).1 = 0 → X_rt F o b po pf pt ch wo (3, [], b_doc (X_path (X_op z.2.1) y s.1).2) M3 ∧ g_i M3 o 6 = (if (X_path (X_op z.2.1) y s.1).2 = s.1 then g_i M2 o 6 else 1)) → Qv (X_path (X_op z.2.1) y s.1).1 M3) → g_Call (d + 71) mm [.ref o, g_n (X_op z.2.1), g_n q] M2 (g_qI Qv) := fun mm hmm Qv hQv => by
        rw [← hmm]
        exact c_path (e := (3, [], b_doc s.1)) hrt2 (X_rt.E hgd) rfl hy hop1 hopR.2 hnum hok.2.1 (by decide) (by decide) hPa2 (by show (b_el 3 [] (b_doc s.1)).length + _ ≤ _; omega) hQv
      refine ⟨fun g2 => ?_, fun g2 => ⟨fun g5 => ?_, fun g5 => ?_⟩⟩
      · refine hcp 34 (if_pos (Or.inl g2)) _ fun M3 f3 h3 => ?_
        intro _ _ hr
        exact hp195 M3 f3 h3 hr
      · refine hcp 34 (if_pos (Or.inr g5)) _ fun M3 f3 h3 => ?_
        intro _ _ hr
        exact hp195 M3 f3 h3 hr
      · refine hcp 26 (if_neg fun zz => zz.elim g2 g5) _ fun M3 f3 h3 => ?_
        intro _ _ hr
        exact hp195 M3 f3 h3 hr
  have hend : ∀ (M1 : g_M) (s : List b_E × Int) (q i : Int), g_InR q → g_InR i → g_fr (X_GS o b po pf pt ch wo) M M1 → X_rt F o b po pf pt ch wo (3, [], b_doc s.1) M1 → g_i M1 o 6 = s.2 → X_gd 30 s.1 → (b_ser s.1).length + 7 ≤ 14900 → D_post F o b po pf pt ch wo M Q (Z_end pc ((0, 0), s)) → g_Run (d + 71) 23 245 [(0, .ref o), (1, g_n dp), (2, g_n pc), (3, g_n L), (4, g_n q), (5, g_n i)] [] M1 (g_qI Q) := by
    intro M1 s q i hqR hiR hfr hrt h6 hgd hln hpost
    obtain ⟨hO1, hF1, hat, h5⟩ := id hrt
    obtain ⟨⟨t1, t2, t3, t4, t5⟩, tP, tch, tb, tw, twb⟩ := id hO1
    have hser0 : (b_el 3 [] (b_doc s.1)).length = (b_ser s.1).length + 7 := by rw [b_el_len, b_doc_len]; show 0 + _ + 2 = _; omega
    have hgv : b_gv 31 3 (b_doc s.1) := X_gv (Or.inl rfl) hgd (by omega) fun z => absurd z (by decide)
    have hst : b_st (g_i M1 b) 246408 163608 31 3 [] (b_doc s.1) := ⟨hat, fun c hc => absurd hc (by simp), hgv, by decide, by omega⟩
    have hw : b_w4 (g_i M1 b) 163610 = (b_ser s.1).length + 5 := by
      obtain ⟨v1, -, -, -⟩ := hst.val
      obtain ⟨w1, -, -⟩ := b_doc_at v1
      have := b_w4_le4 (by omega) (by omega) w1
      exact this
    have hdl2 : (b_doc s.1).length = (b_ser s.1).length + 5 := b_doc_len _
    have hZ0 : Z_end pc ((0, 0), s) = if 2000 < (b_doc s.1).length then ((9, pc), s) else if 16 < b_dp 31 1 s.1 then ((9, pc), s) else ((0, 0), s) := rfl
    rw [hZ0] at hpost
    refine s_X1_does_245 hdR hsR ⟨by omega, by omega⟩ hqR hiR fun _ => ⟨t1, b, t2, c_w4 tb ⟨by decide, by decide⟩ (by decide) (by decide) ?_⟩
    rw [hw]
    intro _ _ _
    refine ⟨fun g => ?_, fun g => ⟨b, t2, ?_⟩⟩
    · rw [if_pos (by omega)] at hpost
      exact c_failsD hO1 hF1 hfr ⟨by decide, by decide⟩ (by decide) hsR hpost
    · rw [if_neg (by omega)] at hpost
      refine c_deepest tb (by decide) 31 (e := (3, [], b_doc s.1)) (by omega) hst (Or.inl rfl) (by show (b_doc s.1).length ≤ _; omega) (by decide) (by decide) ?_
      intro _ _ _
      show (16 < b_dp 31 1 (b_ch (b_doc s.1)) → _) ∧ (¬ 16 < b_dp 31 1 (b_ch (b_doc s.1)) → _)
      rw [b_ch_doc hgd.ok]
      refine ⟨fun g2 => ?_, fun g2 => ?_⟩
      · rw [if_pos g2] at hpost
        exact c_failsD hO1 hF1 hfr ⟨by decide, by decide⟩ (by decide) hsR hpost
      · rw [if_neg g2] at hpost
        exact hpost M1 hfr hO1 hF1 (fun z => absurd rfl z) fun _ => ⟨hrt, h6⟩
  have hout : ∀ (cs2 cs1 : List b_E) (M1 : g_M) (s : List b_E × Int) (i : Nat) (q : Int), b_ch ce.2.2 = cs1 ++ cs2 → q = pc + 6 + ce.2.1.length + (b_ser cs1).length → g_fr (X_GS o b po pf pt ch wo) M M1 → X_rt F o b po pf pt ch wo (3, [], b_doc s.1) M1 → g_i M1 o 6 = s.2 → X_gd 30 s.1 → (b_ser s.1).length + 7 + 4 * (b_ser cs2).length ≤ 14900 → i + cs2.length < 2000 → D_post F o b po pf pt ch wo M Q (Z_end pc (Z_os s (L_at q cs2))) → g_Run (d + 71) 23 85 [(0, .ref o), (1, g_n dp), (2, g_n pc), (3, g_n L), (4, g_n q), (5, g_n i)] [] M1 (g_qI Q) := by
    intro cs2
    induction cs2 with
    | nil =>
      intro cs1 M1 s i q h1 h2 hfr hrt h6 hgd hmx2 hi hpost
      obtain ⟨hO1, hF1, -, -⟩ := id hrt
      obtain ⟨⟨t1, t2, t3, t4, t5⟩, tP, tch, tb, tw, twb⟩ := id hO1
      have hk2 := hsts
      rw [h1] at hk2
      have hk3 := hk2.app
      rw [← h2] at hk3
      have hqR : g_InR q := by
        have := hk3.2.2.1
        have := hk3.2.2.2.1
        exact ⟨by omega, by omega⟩
      rw [List.length_nil] at hi
      have hLR : g_InR (L : Int) := ⟨by omega, by omega⟩
      exact s_X1_does_85 hdR hsR hLR hqR ⟨by omega, by omega⟩ fun _ => ⟨fun _ => ⟨t1, b, t2, c_kdE tb (by decide) (hk3.of hF1) fun _ _ _ => ⟨fun _ => hend M1 s q i hqR ⟨by omega, by omega⟩ hfr hrt h6 hgd (by omega) hpost, fun g => absurd rfl g⟩⟩, fun g => absurd (by omega) g⟩
    | cons z cs2 ih =>
      intro cs1 M1 s i q h1 h2 hfr hrt h6 hgd hmx2 hi hpost
      obtain ⟨hO1, hF1, -, -⟩ := id hrt
      obtain ⟨⟨t1, t2, t3, t4, t5⟩, tP, tch, tb, tw, twb⟩ := id hO1
      rw [List.length_cons] at hi
      rw [b_ser_len] at hmx2
      have hk2 := hsts
      rw [h1] at hk2
      have hk3 := hk2.app
      rw [← h2] at hk3
      have hz := hk3.cons.1
      have eD1 : D1 = 21 := by omega
      rw [eD1] at hz
      have hzR := hz.R (by decide)
      have hzk := b_vs_pos (b_gv_vs hz.2.2.1)
      obtain ⟨hop, hz3, hzg⟩ := hgood z (by rw [h1]; simp)
      have hopR := X_op_R z.2.1
      obtain ⟨D3, -, -, hkl⟩ := hz.kids (Or.inl hz3)
      have hkm := b_ser_many (b_ch z.2.2)
      have hzb := b_el_len z.1 z.2.1 z.2.2
      have hLR : g_InR (L : Int) := ⟨by omega, by omega⟩
      have hos : Z_os s (L_at q (z :: cs2)) = if (Z_ps (X_op z.2.1) s (L_ch q z)).1.1 = 0 then Z_os (Z_ps (X_op z.2.1) s (L_ch q z)).2 (L_at (q + (b_el z.1 z.2.1 z.2.2).length) cs2) else Z_ps (X_op z.2.1) s (L_ch q z) := rfl
      rw [hos] at hpost
      refine s_X1_does_85 hdR hsR hLR hzR ⟨by omega, by omega⟩ fun _ => ⟨fun _ => ⟨t1, b, t2, c_kd2 tb (by decide) (hz.of hF1) fun _ _ _ => ⟨fun g => absurd g (by omega), fun _ => ⟨b, t2, c_opOf (d := d + 67) tb (by decide) (hz.of hF1) fun _ _ _ => ⟨b, t2, c_fi2 tb (by decide) (hz.of hF1) fun _ _ _ => ?_⟩⟩⟩⟩, fun g => absurd (by omega) g⟩
      refine hinn z cs2 i q 21 hz hz3 (by omega) hzg (by omega) (by omega) (b_ch z.2.2) [] M1 s 0 _ rfl hfr hrt h6 hgd (by omega) (by omega) ?_ hpost fun M2 s2 hfr2 hrt2 h62 hgd2 hmx3 hpost2 => ?_
      · show q + 6 + (z.2.1.length : Int) = q + 6 + z.2.1.length + ((0 : Nat) : Int)
        omega
      · refine ih (cs1 ++ [z]) M2 s2 (i + 1) _ (by rw [h1]; simp) ?_ hfr2 hrt2 h62 hgd2 hmx3 (by omega) hpost2
        rw [b_ser_app, List.length_append, b_ser_1]
        omega
  refine m_X1_does hdR hsR fun _ => ⟨o1, b, o2, c_nx2 ob (by decide) hds fun _ _ _ => ⟨⟨by omega, by omega⟩, fun g => absurd g (by omega), fun _ => ⟨fun g => absurd g (by omega), fun _ => ⟨fun g => absurd g (by omega), fun _ => ⟨⟨by omega, by omega⟩, b, o2, _, ob, ⟨by decide, by decide⟩, fun g => absurd g (by omega), fun _ => ⟨b, o2, b, o2, _, ob, _, ob, ⟨by omega, by decide, by omega, by omega, by omega⟩, ?_⟩⟩⟩⟩⟩⟩
  rw [show dp + ((b_el 3 [] (b_doc es)).length : Int) - dp = (L : Int) by omega]
  rintro M40 rfl _
  refine ⟨⟨by omega, by omega⟩, ?_⟩
  rintro M45 rfl _ M49 rfl _
  have f40 : e_fr (X_CL o b ch wo) M (g_cp M b b dp 163608 L) := ⟨rfl, fun x k hx => if_neg fun z => hx (Or.inr (Or.inr (Or.inl ⟨z.1, z.2.1⟩))), fun _ _ => rfl⟩
  have f49 : e_fr (X_CL o b ch wo) M (g_wi (g_wi (g_cp M b b dp 163608 L) o 5 (163608 + L)) o 6 0) := (f40.tr (e_fr.wi _ (Or.inl ⟨rfl, Or.inr (Or.inl rfl)⟩))).tr (e_fr.wi _ (Or.inl ⟨rfl, Or.inr (Or.inr rfl)⟩))
  have hO49 := hO.fr f49
  have hF49 := X_F (ch := ch) hO hF f49
  have hrt49 : X_rt F o b po pf pt ch wo (3, [], b_doc es) (g_wi (g_wi (g_cp M b b dp 163608 L) o 5 (163608 + L)) o 6 0) := by
    refine ⟨hO49, hF49, ?_, ?_⟩
    · have hm := b_at_move (B2 := g_i (g_wi (g_wi (g_cp M b b dp 163608 L) o 5 (163608 + L)) o 6 0) b) (s := 163608 - dp) hds.1 fun k k1 k2 => by
        rw [g_i_wi, if_neg fun z => n1 z.1.symm, g_i_wi, if_neg fun z => n1 z.1.symm]
        show (if b = b ∧ 163608 ≤ k + (163608 - dp) ∧ k + (163608 - dp) < 163608 + (L : Int) then M.2.1 b (dp + (k + (163608 - dp) - 163608)) else M.2.1 b (k + (163608 - dp))) = M.2.1 b k
        rw [if_pos ⟨rfl, by omega, by omega⟩, show dp + (k + (163608 - dp) - 163608) = k by omega]
      rwa [show dp + (163608 - dp) = (163608 : Int) by omega] at hm
    · rw [g_i_wi, if_neg (by omega), g_i_wi, if_pos ⟨rfl, rfl⟩, hL]
  obtain ⟨⟨t1, t2, t3, t4, t5⟩, tP, tch, tb, tw, twb⟩ := id hO49
  refine ⟨b, t2, c_fi2 tb (by decide) (hs.of hF49) fun _ _ _ => ?_⟩
  refine hout (b_ch ce.2.2) [] _ (es, 0) 0 _ rfl ?_ (f49.gs fun x k z => X_CL.gs z) hrt49 ?_ hdg ?_ (by omega) h
  · show pc + 6 + (ce.2.1.length : Int) = pc + 6 + ce.2.1.length + ((0 : Nat) : Int)
    omega
  · rw [g_i_wi, if_pos ⟨rfl, rfl⟩]
  · show (b_ser es).length + 7 + 4 * (b_ser (b_ch ce.2.2)).length ≤ 14900
    omega
end DOES
