/-! CHANGES: the reference pushes to a row that is there -/
section RPUSH1
variable {d m b ch : Nat} {F : Int → Int} {M M1 : g_M} {c : List h_F} {e e1 p : b_E} {es l t : List b_E} {Q : Int → g_M → Prop}
theorem e_isSame30 {p q : Int} {x v : b_E} {D : Nat} (hR : e_R M m b) (hx : b_st (g_i M b) 2706210 p D x.1 x.2.1 x.2.2) (hD : D ≤ 30) (hv : b_st (g_i M b) 2706210 q 20 v.1 v.2.1 v.2.2) (h : Q (if F_eq x v = true then 1 else 0) M) : g_Call (d + 66) 271 [.ref m, g_n p, g_n q] M (g_qI Q) := by
  refine m_X12_isSame (hx.R (by decide)) (hv.R (by decide)) fun _ => ⟨hR.1, e_compare hR 30 (F := 60) (d := d) (hx.le hD) (hv.le (by decide)) (by decide) fun r hr _ _ _ => ⟨fun g => ?_, fun g => ?_⟩⟩
  · have : F_eq x v = true := decide_eq_true (hr.zero.mp g)
    rwa [this] at h
  · have : F_eq x v = false := decide_eq_false fun z => g (hr.zero.mpr z)
    rwa [this] at h
theorem e_push1 {pp w3 : Int} {D : Nat} (hw3 : w3 = 0 ∨ w3 = 1) (hSt : R_St F m b ch c e M) (hE : X_E D e es) (hD : D ≤ 30) (hes : es = l ++ e1 :: t) (hk : e1.1 = 4) (hcl9 : c.length ≤ 9) (hp : b_st F 900000 pp 20 p.1 p.2.1 p.2.2) (hmx : h_hs (b_el e.1 e.2.1 e.2.2).length c + p.2.2.length + 20 ≤ 15000) (hq : ∀ M1, e_fr (R_FL m b ch) M M1 → ∀ E2 : b_E, E2 = (if (w3 == 1 && (b_ch e1.2.2).any fun y => F_eq y p) = true then e1 else (4, e1.2.1, b_doc (b_ch e1.2.2 ++ [(p.1, b_dg (b_ch e1.2.2).length, p.2.2)]))) → h_Z (e_B M1 b) (b_el E2.1 E2.2.1 E2.2.2).length 921998 (c ++ [(e.1, e.2.1, l, t)]) → b_at (e_B M1 b) (h_at 921998 (c ++ [(e.1, e.2.1, l, t)])) (b_el E2.1 E2.2.1 E2.2.2) → Q 0 M1) : g_Call (d + 68) 317 [.ref m, g_n (h_at 921998 (c ++ [(e.1, e.2.1, l, t)])), g_n pp, g_n w3] M (g_qI Q) := by
  obtain ⟨hst1, hZ1, hat1, hhs1, hpos, hge1⟩ := hSt.item hE hes (by omega)
  obtain ⟨hO, hF, -⟩ := id hSt
  obtain ⟨n1, n2, n3⟩ := hO.ne
  have hR := hO.1
  have hpR := hp.R (by decide)
  have hqR := hst1.R (by decide)
  have hst5 := hst1.2.2.2.2
  have hel1 := b_el_len e1.1 e1.2.1 e1.2.2
  have hp5 := hp.2.2.2.2
  have hp4 := hp.2.2.2.1
  have hpl := b_el_len p.1 p.2.1 p.2.2
  have hpk := b_vs_pos (b_gv_vs hp.2.2.1)
  have hp' := hp.up hF
  have hw3R : g_InR w3 := by
    rcases hw3 with g | g
    · rw [g]; exact ⟨by decide, by decide⟩
    · rw [g]; exact ⟨by decide, by decide⟩
  have hg1 := hE.2.2.2.1 e1 (by rw [hes]; simp)
  obtain ⟨D1, hD1, hE1⟩ := X_E.mk hg1.1 hg1.2 (Or.inr hk)
  have hin := h_at_in (b_el e1.1 e1.2.1 e1.2.2).length (c ++ [(e.1, e.2.1, l, t)]) 921998
  have hhs := h_hs_ge (b_el e1.1 e1.2.1 e1.2.2).length (c ++ [(e.1, e.2.1, l, t)])
  obtain ⟨fs, hfs⟩ : ∃ fs, fs = b_ch e1.2.2 := ⟨_, rfl⟩
  rw [← hfs] at hE1 hq
  have hdl := congrArg List.length hE1.2.2.1
  rw [b_doc_len] at hdl
  have hmany := b_ser_many fs
  obtain ⟨v1, v2, v3, v4⟩ := hst1.val
  rw [hE1.2.2.1] at v1
  have htl := e_tl.start v1 hE1.2.2.2.1 (by omega) (by rw [b_doc_len]; omega)
  obtain ⟨q, hqe⟩ : ∃ q, q = h_at 921998 (c ++ [(e.1, e.2.1, l, t)]) := ⟨_, rfl⟩
  rw [← hqe] at hst1 hqR hst5 hin htl v1 v2 v3 v4 hge1
  have hval : ∀ {Q1 : Int → g_M → Prop}, Q1 (q + 2 + e1.2.1.length) M → g_Call (d + 67) 233 [.ref m, g_n q] M (g_qI Q1) := fun hq1 => e_value (d := d + 65) hR hst1.nm (by rwa [show q + 1 + (e1.2.1.length : Int) + 1 = q + 2 + e1.2.1.length by omega])
  have h113 : ¬ (w3 == 1 && fs.any fun y => F_eq y p) = true → ∀ v : Int, g_InR v → g_Run (d + 67) 317 113 [(0, .ref m), (1, g_n q), (2, g_n pp), (3, g_n w3), (4, g_n v)] [] M (g_qI Q) := by
    intro hno v hv
    refine s_X12_push_113 hqR hpR hw3R hv fun _ => ⟨hR.1, hval ?_⟩
    intro _ _ _
    refine e_countE (d := d + 62) hR htl ?_
    intro _ _ _
    have hinto := e_into (d := d + 64) (Qv := fun M12 => g_ext M M12 → g_ok M12 → g_Call (d + 67) 307 [.ref m] M12 (g_qV fun M15 => g_ext M12 M15 → g_ok M15 → ∃ b18, g_r M15 m 0 = some b18 ∧ ∃ n20, g_A M15 b18 0 n20 ∧ ((0 : Int) ≤ pp ∧ pp < n20) ∧ g_Call (d + 67) 246 [.ref m, g_n (g_i M15 b18 pp)] M15 (g_qV fun M23 => g_ext M15 M23 → g_ok M23 → g_Call (d + 67) 250 [.ref m, g_n fs.length] M23 (g_qV fun M26 => g_ext M23 M26 → g_ok M26 → g_Call (d + 67) 253 [.ref m, g_n pp] M26 (g_qV fun M29 => g_ext M26 M29 → g_ok M29 → g_Call (d + 67) 308 [.ref m] M29 (g_qI fun r35 M32 => g_ext M29 M32 → g_ok M32 → g_InR r35 → Q 0 M32)))))) hSt hE hes (Or.inr hk) hcl9 (by omega) fun M2 f2 hSt2 => ?_
    · rw [← hqe] at hinto
      exact hinto
    · intro _ _
      refine e_loose (d := d + 65) hSt2.1.1 fun M3 f3 W3 => ?_
      intro _ _
      have g3 : e_fr (R_LW m b) M2 M3 := f3.up fun y k hy => Or.inl hy
      have hF2 := hSt2.2.1
      have hF3 : ∀ k, k < 922000 → g_i M3 b k = F k := fun k hk => by rw [R_LW.lo n1 g3 (by omega)]; exact hF2 k hk
      have hkp : g_i M3 b pp = p.1 := (hp.up hF3).val.2.2.2
      refine ⟨b, W3.1.2.1, _, W3.1.2.2, ⟨by omega, by omega⟩, ?_⟩
      rw [hkp]
      refine e_put (d := d + 66) W3 ⟨by omega, by omega⟩ fun M4 f4 W4 => ?_
      intro _ _
      have g4 := g3.tr (f4.up fun y k hy => R_LW.wl hy)
      refine e_putDigits (d := d + 65) (i := fs.length) W4 (by omega) fun M5 f5 W5 => ?_
      intro _ _
      have g5 := g4.tr (f5.up fun y k hy => R_LW.wl hy)
      have hF5 : ∀ k, k < 922000 → g_i M5 b k = F k := fun k hk => by rw [R_LW.lo n1 g5 (by omega)]; exact hF2 k hk
      refine e_putValue (d := d + 63) W5 (hp.up hF5) (Or.inl (by omega)) fun M6 f6 W6 => ?_
      intro _ _
      have g6 := g5.tr (f6.up fun y k hy => R_LW.wl hy)
      have ew : [] ++ [g_w8 p.1] ++ (b_dg fs.length ++ [0]) ++ p.2.2 = b_ser [(p.1, b_dg fs.length, p.2.2)] := by
        rw [g_w8_of (by omega) (by omega)]
        simp [b_ser, b_el]
      rw [ew] at W6
      have hdg := b_dg_len fs.length
      have hsl := b_ser_one (p.1, b_dg fs.length, p.2.2)
      have hsl2 : (b_ser [(p.1, b_dg fs.length, p.2.2)]).length = (b_dg fs.length).length + p.2.2.length + 2 := hsl
      obtain ⟨w1, w2⟩ := W6.at (by omega)
      refine e_append (d := d + 62) (hSt2.lw g6 (by omega)) hE1.2.2.1 w1 w2 (by omega) fun M7 f7 hZ7 hb7 => ?_
      intro _ _ _
      obtain ⟨a1, a2⟩ := (h_in (B := e_B M7 b) (c := c ++ [(e.1, e.2.1, l, t)]) (f := (e1.1, e1.2.1, fs, [])) (p := 921998) (mid := [(p.1, b_dg fs.length, p.2.2)])).mpr ⟨hZ7, hb7⟩
      have hfr : e_fr (R_FL m b ch) M M7 := ((f2.up fun y k hy => by
        rcases hy with ⟨y1, y2⟩ | y1
        · exact Or.inl ⟨y1, Or.inr (by omega)⟩
        · exact Or.inr (Or.inl y1)).tr (g6.up fun y k hy => R_LW.fl hy)).tr (f7.up fun y k hy => R_WK.fl hy)
      have ea1 : h_Z (e_B M7 b) (b_el e1.1 e1.2.1 (b_doc (fs ++ [(p.1, b_dg fs.length, p.2.2)] ++ []))).length 921998 (c ++ [(e.1, e.2.1, l, t)]) := a1
      have ea2 : b_at (e_B M7 b) (h_at 921998 (c ++ [(e.1, e.2.1, l, t)])) (b_el e1.1 e1.2.1 (b_doc (fs ++ [(p.1, b_dg fs.length, p.2.2)] ++ []))) := a2
      rw [List.append_nil, hk] at ea1 ea2
      exact hq M7 hfr (4, e1.2.1, b_doc (fs ++ [(p.1, b_dg fs.length, p.2.2)])) (by rw [if_neg hno]) ea1 ea2
  have hloop : ∀ (rest : List b_E) (q2 : Int), e_tl (g_i M b) (q + 2 + e1.2.1.length) q2 D1 fs rest → ((w3 == 1 && rest.any fun y => F_eq y p) = true ↔ (w3 == 1 && fs.any fun y => F_eq y p) = true) → g_Run (d + 67) 317 72 [(0, .ref m), (1, g_n q), (2, g_n pp), (3, g_n w3), (4, g_n q2)] [] M (g_qI Q) := by
    intro rest
    induction rest with
    | nil =>
      intro q2 h1 h2
      have hq2 := h1.st
      refine s_X12_push_72 hqR hpR hw3R ⟨by omega, by omega⟩ fun _ => ⟨hR.1, hval ?_⟩
      intro _ _ _
      refine e_lastE (d := d + 64) hR h1 ?_
      intro _ _ _
      exact ⟨fun g => absurd g (by omega), fun _ => h113 (by rw [← h2]; simp) _ ⟨by omega, by omega⟩⟩
    | cons f rest ih =>
      intro q2 h1 h2
      have hq2 := h1.st
      obtain ⟨hf, hr⟩ := h1.cons
      have hfvs := b_gv_vs hf.2.2.1
      have hfl := b_el_len f.1 f.2.1 f.2.2
      have hf5 := hf.2.2.2.2
      have hf4 := hf.2.2.2.1
      refine s_X12_push_72 hqR hpR hw3R ⟨by omega, by omega⟩ fun _ => ⟨hR.1, hval ?_⟩
      intro _ _ _
      refine e_lastC (d := d + 64) hR h1 fun r hr1 hr2 => ?_
      intro _ _ _
      refine ⟨fun _ => ⟨fun g => h113 (by rw [show (w3 == 1) = false by rw [g]; rfl, Bool.false_and]; decide) _ ⟨by omega, by omega⟩, fun g => ?_⟩, fun g => absurd hr1 g⟩
      have hw1 : w3 = 1 := hw3.resolve_left g
      refine e_isSame30 (d := d + 1) hR hf (by omega) hp' ?_
      intro _ _ _
      by_cases hb : F_eq f p = true
      · rw [if_pos hb]
        refine ⟨fun g => absurd g (by decide), fun _ => ?_⟩
        have hany : (w3 == 1 && fs.any fun y => F_eq y p) = true := by
          rw [← h2, List.any_cons, hb, hw1]
          rfl
        refine hq M (e_fr.rf _ _) e1 (by rw [if_pos hany]) hZ1 hat1
      · rw [if_neg hb]
        refine ⟨fun _ => e_behind (d := d + 63) hR hf.1 hf.2.1 hfvs hf4 hf5 ?_, fun g => absurd rfl g⟩
        intro _ _ _
        refine ih _ hr ?_
        rw [← h2, List.any_cons]
        have hb2 : F_eq f p = false := by simpa using hb
        rw [hb2, Bool.false_or]
  rw [← hqe]
  refine m_X12_push hqR hpR hw3R fun _ => ⟨fun g => absurd g (by omega), fun _ => ⟨hR.1, b, hR.2.1, _, hR.2.2, ⟨by omega, by omega⟩, fun g => hval ?_, fun g => absurd (by rw [v4]; exact hk) g⟩⟩
  intro _ _ _
  refine e_first (d := d + 66) (by omega) (by omega) ?_
  intro _ _ _
  exact hloop fs _ htl Iff.rfl
end RPUSH1
