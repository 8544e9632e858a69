/-! CHANGES: the reference does one -/
def R_CH (m b ch : Nat) (y : Nat) (k : Int) : Prop := R_FL m b ch y k ∨ (y = b ∧ 952000 ≤ k ∧ k < 982000) ∨ (y = m ∧ (k = 7 ∨ k = 8 ∨ k = 17))
def D_postE (m b ch : Nat) (M0 : g_M) (Q : Int → g_M → Prop) (R : (Int × Int) × (List b_E × Int)) : Prop := ∀ M1, e_fr (R_CH m b ch) M0 M1 → (R.1.1 ≠ 0 → g_i M1 m 7 = R.1.1 ∧ g_i M1 m 8 = R.1.2) → (R.1.1 = 0 → b_at (g_i M1 b) 922000 (b_doc R.2.1) ∧ g_i M1 m 17 = R.2.2) → Q (if R.1.1 = 0 then 1 else 0) M1
theorem X_inc_ge (e p : b_E) : 0 ≤ (X_inc e p).1 := by
  unfold X_inc
  repeat' split
  all_goals simp
theorem X_last_ge (op : Int) (p : b_E) (s : List Int) (o : Option b_E) : 0 ≤ (X_last op p s o).1 := by
  rcases o with _ | e
  · exact (by decide : (0 : Int) ≤ 0)
  · unfold X_last
    simp only
    split
    · exact (by decide : (0 : Int) ≤ 0)
    · split
      · exact X_inc_ge _ _
      · split
        · split
          · exact (by decide : (0 : Int) ≤ 0)
          · exact (by decide : (0 : Int) ≤ 0)
        · exact (by decide : (0 : Int) ≤ 7)
theorem X_make_ge (op : Int) (p : b_E) : ∀ (st : List (List Int)) (row : Bool) (es : List b_E), 0 ≤ (X_make op p row es st).1 := by
  intro st
  induction st with
  | nil =>
    intro row es
    rw [X_make.eq_def]
    exact (by decide : (0 : Int) ≤ 0)
  | cons x r ih =>
    intro row es
    rcases hf : L_fn x es with _ | e
    · by_cases hb : row = true ∧ x ≠ b_dg es.length
      · rw [X_mk_bad hf hb.1 hb.2]
        exact (by decide : (0 : Int) ≤ 6)
      · have hb2 : row = true → x = b_dg es.length := fun h => Classical.byContradiction fun z => hb ⟨h, z⟩
        rcases r with _ | ⟨y, r⟩
        · rw [X_mk_n1 hf hb2]
          exact (by decide : (0 : Int) ≤ 0)
        · rw [X_mk_n2 hf hb2]
          exact ih _ _
    · rcases r with _ | ⟨y, r⟩
      · rw [X_mk_s1 hf]
        exact X_last_ge _ _ _ _
      · by_cases hk : e.1 = 3 ∨ e.1 = 4
        · rw [X_mk_s2 hf hk]
          exact ih _ _
        · rw [X_mk_s3 hf hk]
          exact (by decide : (0 : Int) ≤ 6)
theorem X_take_ge (op : Int) (p : b_E) : ∀ (st : List (List Int)) (row : Bool) (es : List b_E), 0 ≤ (X_take op p row es st).1 := by
  intro st
  induction st with
  | nil =>
    intro row es
    rw [X_take.eq_def]
    exact (by decide : (0 : Int) ≤ 0)
  | cons x r ih =>
    intro row es
    rcases hf : L_fn x es with _ | e
    · rw [X_tk_n hf]
      exact (by decide : (0 : Int) ≤ 0)
    · rcases r with _ | ⟨y, r⟩
      · rw [X_tk_s1 hf]
        split
        · exact (by decide : (0 : Int) ≤ 0)
        · split
          · exact (by decide : (0 : Int) ≤ 0)
          · exact (by decide : (0 : Int) ≤ 7)
      · by_cases hk : e.1 = 3 ∨ e.1 = 4
        · rw [X_tk_s2 hf hk]
          exact ih _ _
        · rw [X_tk_s3 hf hk]
          exact (by decide : (0 : Int) ≤ 0)
theorem X_path_ge (op : Int) (p : b_E) (es : List b_E) : 0 ≤ (X_path op p es).1 := by
  unfold X_path
  split
  · exact X_take_ge _ _ _ _ _
  · exact X_make_ge _ _ _ _ _
section RDOES
variable {d m b ch : Nat} {F : Int → Int} {M M0 M1 : g_M} {e p : b_E} {es : List b_E} {Q : Int → g_M → Prop}
theorem R_CH.lo (hO : R_O m b ch M) (hF : ∀ k, k < 922000 → g_i M b k = F k) (f : e_fr (R_CH m b ch) M M1) : ∀ k, k < 922000 → g_i M1 b k = F k := fun k hk => by
  obtain ⟨n1, n2, n3⟩ := hO.ne
  rw [f.2.1 b k fun z => ?_]
  · exact hF k hk
  · rcases z with (⟨z, -⟩ | z | ⟨-, z⟩) | ⟨-, z, -⟩ | ⟨z, -⟩
    · exact n1 z.symm
    · exact n2 z.symm
    · omega
    · omega
    · exact n1 z.symm
theorem e_failsD {w q : Int} {s : List b_E × Int} (hR : e_R M m b) (f : e_fr (R_CH m b ch) M0 M) (hw : g_InR w) (hw0 : w ≠ 0) (hq : g_InR q) (h : D_postE m b ch M0 Q ((w, q), s)) {P : Int → g_M → Prop} (hP : ∀ M1, Q 0 M1 → P 0 M1) : g_Call (d + 1) 257 [.ref m, g_n w, g_n q] M (g_qI P) := by
  refine e_fails hR hw hq (hP _ ?_)
  have fe : e_fr (R_CH m b ch) M (e_f M m w q) := (e_fr.wi _ (Or.inr (Or.inr ⟨rfl, Or.inl rfl⟩))).tr (e_fr.wi _ (Or.inr (Or.inr ⟨rfl, Or.inr (Or.inl rfl)⟩)))
  have := h (e_f M m w q) (f.tr fe) (fun _ => ⟨?_, ?_⟩) fun z => absurd z hw0
  · rwa [if_neg (show ¬ (((w, q), s) : (Int × Int) × (List b_E × Int)).1.1 = 0 from hw0)] at this
  · unfold e_f
    rw [g_i_wi, if_neg (by omega), g_i_wi, if_pos ⟨rfl, rfl⟩]
  · unfold e_f
    rw [g_i_wi, if_pos ⟨rfl, rfl⟩]
theorem e_tlF {pc : Int} {D : Nat} {ce : b_E} {cs1 cs2 : List b_E} {B : Int → Int} (hs : b_st F 900000 pc (D + 1) ce.1 ce.2.1 ce.2.2) (hk : ce.1 = 3 ∨ ce.1 = 4) (hB : ∀ k, k < 922000 → B k = F k) (h1 : b_ch ce.2.2 = cs1 ++ cs2) : e_tl B (pc + 2 + ce.2.1.length) (pc + 6 + ce.2.1.length + (b_ser cs1).length) D (b_ch ce.2.2) cs2 := by
  obtain ⟨D1, ys, eD, e2, e3, e4, e5, -⟩ := (hs.up hB).tl hk
  have eD : D1 = D := by omega
  subst eD
  rw [e5]
  rw [e5] at h1
  have e4' : e_tl B (pc + 2 + ce.2.1.length) (pc + 6 + ce.2.1.length) D1 ys (cs1 ++ cs2) := by rw [← h1]; exact e4
  exact e4'.app
theorem e_w4doc {B : Int → Int} {p : Int} {es : List b_E} (h : b_at B p (b_doc es)) (hl : (b_doc es).length < 16777216) : b_w4 B p = (b_doc es).length := by
  obtain ⟨w1, -, -⟩ := b_doc_at h
  rw [b_doc_len] at hl ⊢
  rw [b_w4_le4 (by omega) (by omega) w1]
  omega
theorem e_change {pc dp : Int} {ce : b_E} (hO : R_O m b ch M) (hF : ∀ k, k < 922000 → g_i M b k = F k) (hs : b_st F 900000 pc 22 ce.1 ce.2.1 ce.2.2) (hk : ce.1 = 3) (hgood : ∀ z ∈ b_ch ce.2.2, X_op z.2.1 ≠ 0 ∧ z.1 = 3 ∧ ∀ y ∈ b_ch z.2.2, p_ok y.2.1 ∧ (X_op z.2.1 = 3 → y.1 = 16 ∨ y.1 = 18)) (hd0 : 0 ≤ dp) (hd1 : dp + (b_doc es).length ≤ 922000) (hdat : b_at F dp (b_doc es)) (hdg : X_gd 30 es) (hmx : (b_ser es).length + 7 + 4 * ce.2.2.length ≤ 14900) (h : D_postE m b ch M Q (Z_end (-1) (Z_os (es, 0) (L_ch pc ce)))) : g_Call (d + 72) 320 [.ref m, g_n (pc + 2 + ce.2.1.length), g_n dp] M (g_qI Q) := by
  obtain ⟨n1, n2, n3⟩ := hO.ne
  have hR := hO.1
  obtain ⟨D1, eD, hsts, hlen⟩ := hs.kids (Or.inl hk)
  have hsR := hs.R (by decide)
  have hs4 := hs.2.2.2.1
  have hs5 := hs.2.2.2.2
  have hsl := b_el_len ce.1 ce.2.1 ce.2.2
  have hdl := b_doc_len es
  have hdR : g_InR dp := ⟨by omega, by omega⟩
  obtain ⟨cp, hcp⟩ : ∃ cp : Int, cp = pc + 2 + ce.2.1.length := ⟨_, rfl⟩
  have hcpR : g_InR cp := ⟨by omega, by omega⟩
  have hmany := b_ser_many (b_ch ce.2.2)
  have hinn : ∀ (z : b_E) (cs2 : List b_E) (zo : Int), b_st F 900000 zo 21 z.1 z.2.1 z.2.2 → z.1 = 3 → X_op z.2.1 ≠ 0 → (∀ y ∈ b_ch z.2.2, p_ok y.2.1 ∧ (X_op z.2.1 = 3 → y.1 = 16 ∨ y.1 = 18)) → z.2.2.length ≤ 3800 → ∀ (ys2 ys1 : List b_E) (M1 : g_M) (s : List b_E × Int) (q : Int), b_ch z.2.2 = ys1 ++ ys2 → e_fr (R_CH m b ch) M M1 → b_at (g_i M1 b) 922000 (b_doc s.1) → g_i M1 m 17 = s.2 → (s.2 = 0 ∨ s.2 = 1) → X_gd 30 s.1 → (b_ser s.1).length + 7 + 4 * ((b_ser ys2).length + (b_ser cs2).length) ≤ 14900 → q = zo + 6 + z.2.1.length + (b_ser ys1).length → D_postE m b ch M Q (Z_end (-1) (if (Z_ps (X_op z.2.1) s (L_at q ys2)).1.1 = 0 then Z_os (Z_ps (X_op z.2.1) s (L_at q ys2)).2 (L_at (zo + (b_el z.1 z.2.1 z.2.2).length) cs2) else Z_ps (X_op z.2.1) s (L_at q ys2))) → (∀ M2 s2, e_fr (R_CH m b ch) M M2 → b_at (g_i M2 b) 922000 (b_doc s2.1) → g_i M2 m 17 = s2.2 → (s2.2 = 0 ∨ s2.2 = 1) → X_gd 30 s2.1 → (b_ser s2.1).length + 7 + 4 * (b_ser cs2).length ≤ 14900 → D_postE m b ch M Q (Z_end (-1) (Z_os s2 (L_at (zo + (b_el z.1 z.2.1 z.2.2).length) cs2))) → g_Run (d + 71) 320 23 [(0, .ref m), (1, g_n cp), (2, g_n dp), (3, g_n (zo + (b_el z.1 z.2.1 z.2.2).length))] [] M2 (g_qI Q)) → g_Run (d + 71) 320 42 [(0, .ref m), (1, g_n cp), (2, g_n dp), (3, g_n zo), (4, g_n q)] [] M1 (g_qI Q) := by
    intro z cs2 zo hz hz3 hop1 hzg hzl ys2
    have hzR := hz.R (by decide)
    have hzbl := b_el_len z.1 z.2.1 z.2.2
    have hz5 := hz.2.2.2.2
    have hz4 := hz.2.2.2.1
    induction ys2 with
    | nil =>
      intro ys1 M1 s q h1 hfr hat h17 h01 hgd hmx2 hq hpost hcont
      have hO1 := hO.fr hfr
      have hF1 := R_CH.lo hO hF hfr
      have htl := e_tlF hz (Or.inl hz3) hF1 h1
      rw [← hq] at htl
      have hq6 := htl.st
      have hps : Z_ps (X_op z.2.1) s (L_at q []) = ((0, 0), s) := rfl
      rw [hps, if_pos rfl] at hpost
      refine s_X12_change_42 hcpR hdR hzR ⟨by omega, by omega⟩ fun _ => ⟨hO1.1.1, e_vl2 (d := d + 69) hO1.1 (hz.up hF1) fun _ _ _ => e_lastE (d := d + 68) hO1.1 htl ?_⟩
      intro _ _ _
      exact ⟨fun g => absurd g (by omega), fun _ => e_bh2 (d := d + 67) hO1.1 (hz.up hF1) fun _ _ _ => hcont M1 s hfr hat h17 h01 hgd (by omega) hpost⟩
    | cons y ys2 ih =>
      intro ys1 M1 s q h1 hfr hat h17 h01 hgd hmx2 hq hpost hcont
      have hO1 := hO.fr hfr
      have hF1 := R_CH.lo hO hF hfr
      have hR1 := hO1.1
      have htl := e_tlF hz (Or.inl hz3) hF1 h1
      rw [← hq] at htl
      have hq6 := htl.st
      rw [b_ser_len] at hmx2
      obtain ⟨D3, eD3, hysts, hylen⟩ := hz.kids (Or.inl hz3)
      have eD3 : D3 = 20 := by omega
      subst eD3
      rw [h1] at hysts
      have hy := hysts.app.cons.1
      rw [← hq] at hy
      have hyR := hy.R (by decide)
      have hy5 := hy.2.2.2.2
      have hy4 := hy.2.2.2.1
      have hybl := b_el_len y.1 y.2.1 y.2.2
      obtain ⟨hok, hnum⟩ := hzg y (by rw [h1]; simp)
      have hXG := X_G_le hok
      have hsd := b_doc_len s.1
      have hps : Z_ps (X_op z.2.1) s (L_at q (y :: ys2)) = if (X_path (X_op z.2.1) y s.1).1 = 0 then Z_ps (X_op z.2.1) ((X_path (X_op z.2.1) y s.1).2, if (X_path (X_op z.2.1) y s.1).2 = s.1 then s.2 else 1) (L_at (q + (b_el y.1 y.2.1 y.2.2).length) ys2) else (((X_path (X_op z.2.1) y s.1).1, q), s) := rfl
      rw [hps] at hpost
      have hgdl : X_gd 30 (X_path (X_op z.2.1) y s.1).2 ∧ (b_ser (X_path (X_op z.2.1) y s.1).2).length ≤ (b_ser s.1).length + X_G y (p_sp y.2.1) := X_path_good hy.2.2.1 hy.2.1 hok hgd (by omega)
      have hnd := b_doc_len (X_path (X_op z.2.1) y s.1).2
      refine s_X12_change_42 hcpR hdR hzR hyR fun _ => ⟨hR1.1, e_vl2 (d := d + 69) hR1 (hz.up hF1) fun _ _ _ => e_lastC (d := d + 68) hR1 htl fun r hr1 hr2 => fun _ _ _ => ⟨fun _ => e_int4 (d := d + 69) hR1 (by decide) (by decide) ?_, fun g => absurd hr1 g⟩⟩
      rw [e_w4doc hat (by omega)]
      intro _ _ _
      refine e_copy (d := d + 70) hR1 hat (by decide) (by omega) (by decide) (by omega) (Or.inl (by omega)) fun M2 f2 hb2 => ?_
      intro _ _
      have f2' : e_fr (R_CH m b ch) M1 M2 := f2.up fun y k hy => Or.inr (Or.inl ⟨hy.1, by omega, by omega⟩)
      have hO2 := hO1.fr f2
      have hF2 := R_CH.lo hO hF (hfr.tr f2')
      have hat2 : b_at (g_i M2 b) 922000 (b_doc s.1) := b_at_keep hat fun k k1 k2 => f2.2.1 b k fun w => by omega
      have h172 : g_i M2 m 17 = s.2 := by rw [f2.2.1 m 17 fun w => n1 w.1]; exact h17
      refine e_path (d := d + 2) hO2 hF2 hat2 (X_rt.E hgd) hz hop1 hy hnum hok.2.1 (by omega) fun M3 f3 h3 => ?_
      intro _ _ hR3
      have f3' : e_fr (R_CH m b ch) M2 M3 := f3.up fun y k hy => Or.inl hy
      have hfr3 := (hfr.tr f2').tr f3'
      have hO3 := hO2.fr f3
      have hF3 := R_CH.lo hO hF hfr3
      have h173 : g_i M3 m 17 = s.2 := by
        rw [f3.2.1 m 17 fun w => ?_]
        · exact h172
        · rcases w with ⟨-, w⟩ | w | ⟨w, -⟩
          · omega
          · exact n3 w
          · exact n1 w
      have hb3 : b_at (g_i M3 b) 952000 (b_doc s.1) := b_at_keep hb2 fun k k1 k2 => f3.2.1 b k fun w => by
        rcases w with ⟨w, -⟩ | w | ⟨-, w⟩
        · exact n1 w.symm
        · exact n2 w.symm
        · omega
      refine ⟨fun gf => ?_, fun gf => ?_⟩
      · have g0 : ¬ (X_path (X_op z.2.1) y s.1).1 = 0 := by omega
        rw [if_neg g0, if_neg (show ¬ ((((X_path (X_op z.2.1) y s.1).1, q), s) : (Int × Int) × (List b_E × Int)).1.1 = 0 from g0)] at hpost
        unfold Z_end at hpost
        rw [if_neg (show ¬ ((((X_path (X_op z.2.1) y s.1).1, q), s) : (Int × Int) × (List b_E × Int)).1.1 = 0 from g0)] at hpost
        exact e_failsD (d := d + 70) hO3.1 hfr3 hR3 g0 hyR hpost fun M9 h9 => fun _ _ _ => ⟨Or.inl rfl, h9⟩
      · have hge0 : 0 ≤ (X_path (X_op z.2.1) y s.1).1 := X_path_ge _ _ _
        have g0 : (X_path (X_op z.2.1) y s.1).1 = 0 := by omega
        rw [if_pos g0] at hpost
        have hat3 := h3 g0
        refine e_int4 (d := d + 69) hO3.1 (by decide) (by decide) ?_
        rw [e_w4doc hat3 (by omega)]
        intro _ _ _
        refine ⟨⟨by omega, by omega⟩, e_int4 (d := d + 69) hO3.1 (by decide) (by decide) ?_⟩
        rw [e_w4doc hb3 (by omega)]
        intro _ _ _
        refine ⟨⟨by omega, by omega⟩, e_same (d := d + 70) hO3.1 hat3 hb3 (by decide) (by omega) (by decide) (by omega) ?_⟩
        intro _ _ _
        have hnext : ∀ v : Int, v = (if (X_path (X_op z.2.1) y s.1).2 = s.1 then s.2 else 1) → g_Call (d + 71) 235 [.ref m, g_n q] (g_wi M3 m 17 v) (g_qI fun r65 M62 => g_ext (g_wi M3 m 17 v) M62 → g_ok M62 → g_InR r65 → g_Run (d + 71) 320 42 [(0, .ref m), (1, g_n cp), (2, g_n dp), (3, g_n zo), (4, g_n r65)] [] M62 (g_qI Q)) := by
          intro v hv
          have f4 : e_fr (R_CH m b ch) M3 (g_wi M3 m 17 v) := e_fr.wi _ (Or.inr (Or.inr ⟨rfl, Or.inr (Or.inr rfl)⟩))
          have hfr4 := hfr3.tr f4
          have hF4 := R_CH.lo hO hF hfr4
          have hO4 := hO3.fr f4
          refine e_bh2 (d := d + 67) hO4.1 (hy.up hF4) ?_
          intro _ _ _
          refine ih (ys1 ++ [y]) _ ((X_path (X_op z.2.1) y s.1).2, if (X_path (X_op z.2.1) y s.1).2 = s.1 then s.2 else 1) _ (by rw [h1]; simp) hfr4 ?_ ?_ ?_ hgdl.1 ?_ ?_ hpost hcont
          · exact b_at_keep hat3 fun k _ _ => by rw [g_i_wi, if_neg fun w => n1 w.1.symm]
          · rw [g_i_wi, if_pos ⟨rfl, rfl⟩, hv]
          · show (if _ then s.2 else 1) = 0 ∨ (if _ then s.2 else 1) = 1
            split
            · exact h01
            · exact Or.inr rfl
          · show (b_ser (X_path (X_op z.2.1) y s.1).2).length + 7 + 4 * ((b_ser ys2).length + (b_ser cs2).length) ≤ 14900
            omega
          · rw [b_ser_app, List.length_append, b_ser_1]
            omega
        have hor1 : g_or s.2 1 = 1 := by rcases h01 with w | w <;> rw [w] <;> decide
        have hor0 : g_or s.2 0 = s.2 := by rcases h01 with w | w <;> rw [w] <;> decide
        rw [h173, hor1, hor0]
        by_cases hsm : (X_path (X_op z.2.1) y s.1).2 = s.1
        · rw [if_pos (by rw [hsm])]
          refine ⟨fun g => absurd g (by decide), fun _ => ⟨h01, ?_⟩⟩
          rintro M48 rfl _
          exact hnext _ (by rw [if_pos hsm])
        · rw [if_neg fun w => hsm (b_doc_inj hgdl.1.ok hgd.ok w)]
          refine ⟨fun _ => ⟨Or.inr rfl, ?_⟩, fun g => absurd rfl g⟩
          rintro M58 rfl _
          exact hnext _ (by rw [if_neg hsm])
  have hout : ∀ (cs2 cs1 : List b_E) (M1 : g_M) (s : List b_E × Int) (q : Int), b_ch ce.2.2 = cs1 ++ cs2 → q = pc + 6 + ce.2.1.length + (b_ser cs1).length → e_fr (R_CH m b ch) M M1 → b_at (g_i M1 b) 922000 (b_doc s.1) → g_i M1 m 17 = s.2 → (s.2 = 0 ∨ s.2 = 1) → X_gd 30 s.1 → (b_ser s.1).length + 7 + 4 * (b_ser cs2).length ≤ 14900 → D_postE m b ch M Q (Z_end (-1) (Z_os s (L_at q cs2))) → g_Run (d + 71) 320 23 [(0, .ref m), (1, g_n cp), (2, g_n dp), (3, g_n q)] [] M1 (g_qI Q) := by
    intro cs2
    induction cs2 with
    | nil =>
      intro cs1 M1 s q h1 h2 hfr hat h17 h01 hgd hmx2 hpost
      have hO1 := hO.fr hfr
      have hF1 := R_CH.lo hO hF hfr
      have hR1 := hO1.1
      have htl := e_tlF hs (Or.inl hk) hF1 h1
      rw [← h2, ← hcp] at htl
      have hq6 := htl.st
      have hsd := b_doc_len s.1
      have hZ0 : Z_end (-1) ((0, 0), s) = if 2000 < (b_doc s.1).length then ((9, -1), s) else if 16 < b_dp 31 1 s.1 then ((9, -1), s) else ((0, 0), s) := rfl
      have hps : Z_os s (L_at q []) = ((0, 0), s) := rfl
      rw [hps, hZ0] at hpost
      refine s_X12_change_23 hcpR hdR ⟨by omega, by omega⟩ fun _ => ⟨hR1.1, e_lastE (d := d + 68) hR1 htl ?_⟩
      intro _ _ _
      refine ⟨fun g => absurd g (by omega), fun _ => e_int4 (d := d + 69) hR1 (by decide) (by decide) ?_⟩
      rw [e_w4doc hat (by omega)]
      intro _ _ _
      refine ⟨fun g => ?_, fun g => ?_⟩
      · rw [if_pos (by omega)] at hpost
        exact e_failsD (d := d + 70) hR1 hfr ⟨by decide, by decide⟩ (by decide) ⟨by decide, by decide⟩ hpost fun M9 h9 => fun _ _ _ => ⟨fun _ => h9, fun g => absurd rfl g⟩
      · rw [if_neg (by omega)] at hpost
        have htd : e_tl (g_i M1 b) 922000 (922000 + 4) 30 s.1 s.1 := e_tl.start hat hgd (by decide) (by omega)
        refine e_depth (dd := d + 71) hR1 30 (by omega) htd (by decide) ?_
        intro _ _ _
        refine ⟨fun g2 => ?_, fun g2 => ?_⟩
        · rw [if_pos g2] at hpost
          exact e_failsD (d := d + 70) hR1 hfr ⟨by decide, by decide⟩ (by decide) ⟨by decide, by decide⟩ hpost fun M9 h9 => fun _ _ _ => ⟨fun _ => h9, fun g => absurd rfl g⟩
        · rw [if_neg g2] at hpost
          exact hpost M1 hfr (fun z => absurd rfl z) fun _ => ⟨hat, h17⟩
    | cons z cs2 ih =>
      intro cs1 M1 s q h1 h2 hfr hat h17 h01 hgd hmx2 hpost
      have hO1 := hO.fr hfr
      have hF1 := R_CH.lo hO hF hfr
      have hR1 := hO1.1
      have htl := e_tlF hs (Or.inl hk) hF1 h1
      rw [← h2, ← hcp] at htl
      have hq6 := htl.st
      rw [b_ser_len] at hmx2
      have hk2 := hsts
      rw [h1] at hk2
      have hz := hk2.app.cons.1
      rw [← h2] at hz
      have eD1 : D1 = 21 := by omega
      rw [eD1] at hz
      have hzR := hz.R (by decide)
      have hz4 := hz.2.2.2.1
      have hz5 := hz.2.2.2.2
      obtain ⟨hop, hz3, hzg⟩ := hgood z (by rw [h1]; simp)
      obtain ⟨D3, -, -, hkl⟩ := hz.kids (Or.inl hz3)
      have hzb := b_el_len z.1 z.2.1 z.2.2
      have hos : Z_os s (L_at q (z :: cs2)) = if (Z_ps (X_op z.2.1) s (L_ch q z)).1.1 = 0 then Z_os (Z_ps (X_op z.2.1) s (L_ch q z)).2 (L_at (q + (b_el z.1 z.2.1 z.2.2).length) cs2) else Z_ps (X_op z.2.1) s (L_ch q z) := rfl
      rw [hos] at hpost
      refine s_X12_change_23 hcpR hdR hzR fun _ => ⟨hR1.1, e_lastC (d := d + 68) hR1 htl fun r hr1 hr2 => fun _ _ _ => ⟨fun _ => e_vl2 (d := d + 69) hR1 (hz.up hF1) fun _ _ _ => e_first (d := d + 70) (by omega) (by omega) ?_, fun g => absurd hr1 g⟩⟩
      intro _ _ _
      rw [show q + 2 + (z.2.1.length : Int) + 4 = q + 6 + z.2.1.length by omega]
      refine hinn z cs2 q hz hz3 hop hzg (by omega) (b_ch z.2.2) [] M1 s _ rfl hfr hat h17 h01 hgd (by omega) ?_ hpost fun M2 s2 hfr2 hat2 h172 h012 hgd2 hmx3 hpost2 => ?_
      · show q + 6 + (z.2.1.length : Int) = q + 6 + z.2.1.length + ((0 : Nat) : Int)
        omega
      · refine ih (cs1 ++ [z]) M2 s2 _ (by rw [h1]; simp) ?_ hfr2 hat2 h172 h012 hgd2 hmx3 hpost2
        rw [b_ser_app, List.length_append, b_ser_1]
        omega
  have hLc : L_ch pc ce = L_at (cp + 4) (b_ch ce.2.2) := by
    unfold L_ch
    rw [show pc + 6 + (ce.2.1.length : Int) = cp + 4 by omega]
  rw [hLc] at h
  rw [← hcp]
  have hdM : b_at (g_i M b) dp (b_doc es) := b_at_keep hdat fun k k1 k2 => hF k (by omega)
  refine m_X12_change hcpR hdR fun _ => ⟨hR.1, e_int4 (d := d + 69) hR hd0 (by omega) ?_⟩
  rw [e_w4doc hdM (by omega)]
  intro _ _ _
  refine e_copy (d := d + 70) hR hdM hd0 (by omega) (by decide) (by omega) (Or.inl hd1) fun M2 f2 hb2 => ?_
  intro _ _
  rintro M10 rfl _
  have f2' : e_fr (R_CH m b ch) M M2 := f2.up fun y k hy => Or.inl (Or.inr (Or.inr ⟨hy.1, Or.inl ⟨by omega, by omega⟩⟩))
  have f10 : e_fr (R_CH m b ch) M (g_wi M2 m 17 0) := f2'.tr (e_fr.wi _ (Or.inr (Or.inr ⟨rfl, Or.inr (Or.inr rfl)⟩)))
  refine e_first (d := d + 70) (by omega) (by omega) ?_
  intro _ _ _
  refine hout (b_ch ce.2.2) [] _ (es, 0) _ rfl ?_ f10 (b_at_keep hb2 fun k _ _ => by rw [g_i_wi, if_neg fun w => n1 w.1.symm]) ?_ (Or.inl rfl) hdg ?_ h
  · show cp + 4 = pc + 6 + ce.2.1.length + ((0 : Nat) : Int)
    omega
  · rw [g_i_wi, if_pos ⟨rfl, rfl⟩]
  · show (b_ser es).length + 7 + 4 * (b_ser (b_ch ce.2.2)).length ≤ 14900
    omega
end RDOES
