/-! CHANGES: the reference pulls -/
section RPULL
variable {d m b ch : Nat} {F : Int → Int} {M M1 : g_M} {c : List h_F} {e e1 p : b_E} {es l t : List b_E} {Q : Int → g_M → Prop}
theorem e_pull {pp : Int} {D : Nat} (hSt : R_St F m b ch c e M) (hE : X_E D e es) (hD : D ≤ 30) (hes : es = l ++ e1 :: t) (hk : e1.1 = 4) (hcl9 : c.length ≤ 9) (hp : b_st F 900000 pp 20 p.1 p.2.1 p.2.2) (hmx : h_hs (b_el e.1 e.2.1 e.2.2).length c ≤ 15000) (hg : X_gd D (X_num 0 ((b_ch e1.2.2).filter fun y => !F_eq y p))) (hser : (b_ser (X_num 0 ((b_ch e1.2.2).filter fun y => !F_eq y p))).length ≤ (b_ser (b_ch e1.2.2)).length) (hq : ∀ M1, e_fr (R_FL m b ch) M M1 → h_Z (e_B M1 b) (b_el 4 e1.2.1 (b_doc (X_num 0 ((b_ch e1.2.2).filter fun y => !F_eq y p)))).length 921998 (c ++ [(e.1, e.2.1, l, t)]) → b_at (e_B M1 b) (h_at 921998 (c ++ [(e.1, e.2.1, l, t)])) (b_el 4 e1.2.1 (b_doc (X_num 0 ((b_ch e1.2.2).filter fun y => !F_eq y p)))) → Q 0 M1) : g_Call (d + 68) 318 [.ref m, g_n (h_at 921998 (c ++ [(e.1, e.2.1, l, t)])), g_n pp] M (g_qI Q) := by
  obtain ⟨hst1, hZ1, hat1, hhs1, hpos, hge1⟩ := hSt.item hE hes (by omega)
  have hSt0 := hSt
  obtain ⟨hO, hF, hcl, hrt, hZ, hat, h13, hch, h14⟩ := hSt
  obtain ⟨n1, n2, n3⟩ := hO.ne
  have hR := hO.1
  have hpR := hp.R (by decide)
  have hqR := hst1.R (by decide)
  have hst5 := hst1.2.2.2.2
  have hel1 := b_el_len e1.1 e1.2.1 e1.2.2
  have hg1 := hE.2.2.2.1 e1 (by rw [hes]; simp)
  obtain ⟨D1, hD1, hE1⟩ := X_E.mk hg1.1 hg1.2 (Or.inr hk)
  have hin := h_at_in (b_el e1.1 e1.2.1 e1.2.2).length (c ++ [(e.1, e.2.1, l, t)]) 921998
  have hhs := h_hs_ge (b_el e1.1 e1.2.1 e1.2.2).length (c ++ [(e.1, e.2.1, l, t)])
  obtain ⟨fs, hfs⟩ : ∃ fs, fs = b_ch e1.2.2 := ⟨_, rfl⟩
  rw [← hfs] at hE1 hq hg hser
  have hdl := congrArg List.length hE1.2.2.1
  rw [b_doc_len] at hdl
  have hmany := b_ser_many fs
  obtain ⟨v1, v2, v3, v4⟩ := hst1.val
  rw [hE1.2.2.1] at v1
  have htl := e_tl.start v1 hE1.2.2.2.1 (by omega) (by rw [b_doc_len]; omega)
  have hcl1 : (c ++ [((e.1, e.2.1, l, t) : h_F)]).length = c.length + 1 := by rw [List.length_append, List.length_singleton]
  obtain ⟨f0, c0, hc0, hf0⟩ := hrt.hd l t
  obtain ⟨q, hqe⟩ : ∃ q, q = h_at 921998 (c ++ [(e.1, e.2.1, l, t)]) := ⟨_, rfl⟩
  rw [← hqe] at hst1 hqR hst5 hin htl v1 v2 v3 v4 hge1 hat1 hq ⊢
  have hq9 : q + 2 + e1.2.1.length + e1.2.2.length < 940000 := by omega
  have hkeep : ∀ {M2 : g_M}, e_fr (R_LW m b) M M2 → ∀ {B : Int} {z : List Int}, B + z.length ≤ 952000 → b_at (g_i M b) B z → b_at (g_i M2 b) B z := by
    intro M2 f2 B z hB hz
    exact b_at_keep hz fun k k1 k2 => R_LW.lo n1 f2 (by omega)
  have hst2 : ∀ {M2 : g_M}, e_fr (R_LW m b) M M2 → ∀ {B k : Int} {D2 : Nat} {nm vb : List Int}, B + (b_el k nm vb).length ≤ 952000 → b_st (g_i M b) 2706210 B D2 k nm vb → b_st (g_i M2 b) 2706210 B D2 k nm vb := by
    intro M2 f2 B k D2 nm vb hB hz
    exact ⟨hkeep f2 hB hz.1, hz.2.1, hz.2.2.1, hz.2.2.2.1, hz.2.2.2.2⟩
  have hval : ∀ {M2 : g_M} {Q1 : Int → g_M → Prop}, e_fr (R_LW m b) M M2 → Q1 (q + 2 + e1.2.1.length) M2 → g_Call (d + 67) 233 [.ref m, g_n q] M2 (g_qI Q1) := fun f2 hq1 => e_value (d := d + 65) (f2.R hR) (hst2 f2 (by omega) hst1).nm (by rwa [show q + 1 + (e1.2.1.length : Int) + 1 = q + 2 + e1.2.1.length by omega])
  have hloop : ∀ (rest kl : List b_E) (q2 rr : Int) (M2 : g_M), e_fr (R_LW m b) M M2 → e_tl (g_i M b) (q + 2 + e1.2.1.length) q2 D1 fs rest → e_Wr m b 2606200 2666200 ([] ++ ([0, 0, 0, 0] ++ b_ser kl)) M2 → w_r 2606200 2666200 rr ([] : List Int).length → g_InR rr → kl.length + rest.length ≤ fs.length → (b_ser kl).length + 3 * (b_ser rest).length ≤ 50000 → kl ++ X_num kl.length (rest.filter fun y => !F_eq y p) = X_num 0 (fs.filter fun y => !F_eq y p) → g_Run (d + 67) 318 35 [(0, .ref m), (1, g_n q), (2, g_n pp), (3, g_n rr), (4, g_n kl.length), (5, g_n q2)] [] M2 (g_qI Q) := by
    intro rest
    induction rest with
    | nil =>
      intro kl q2 rr M2 f2 h1 W2 hr hrR hlen hsz hfin
      have hq2 := h1.st
      have hR2 := f2.R hR
      have hfin' : kl = X_num 0 (fs.filter fun y => !F_eq y p) := by
        rw [← hfin]
        show kl = kl ++ []
        rw [List.append_nil]
      have h1' : e_tl (g_i M2 b) (q + 2 + e1.2.1.length) q2 D1 fs [] := by
        obtain ⟨a1, a2, a3, a4, a5⟩ := h1
        obtain ⟨s1, s2, s3, s4, s5⟩ := a4
        have hs0 : ((b_ser []).length : Int) = 0 := rfl
        have hdl5 := b_doc_len fs
        exact ⟨hkeep f2 (by omega) a1, a2, a3, ⟨b_nil _ _, s2, s3, s4, by rw [R_LW.lo n1 f2 (by omega)]; exact s5⟩, a5⟩
      refine s_X12_pull_35 hqR hpR hrR ⟨by omega, by omega⟩ ⟨by omega, by omega⟩ fun _ => ⟨hR2.1, hval f2 ?_⟩
      intro _ _ _
      refine e_lastE (d := d + 64) hR2 h1' ?_
      intro _ _ _
      refine ⟨fun g => absurd g (by omega), fun _ => e_close (d := d + 65) W2 hr fun M3 f3 W3 => ?_⟩
      intro _ _
      have f3' := f2.tr (f3.up fun y k hy => R_LW.wl hy)
      have hR3 := f3'.R hR
      have ex : [] ++ (b_le4 ((b_ser kl).length + 5) ++ (b_ser kl ++ [0])) = b_doc kl := by
        unfold b_doc
        simp
      rw [ex] at W3
      have hdk := b_doc_len kl
      obtain ⟨w1, w2⟩ := W3.at (by omega)
      refine hval f3' ?_
      intro _ _ _
      refine hval f3' ?_
      intro _ _ _
      refine e_int4 (d := d + 65) hR3 (by omega) (by omega) ?_
      obtain ⟨z1, -, -⟩ := b_doc_at v1
      rw [b_w4_le4 (by omega) (by omega) (hkeep f3' (by show _ + ((4 : Nat) : Int) ≤ _; omega) z1)]
      intro _ _ _
      rw [hfin'] at w1 w2 hdk
      have hZ3 : h_Z (e_B M3 b) (b_el e1.1 e1.2.1 e1.2.2).length 921998 (c ++ [(e.1, e.2.1, l, t)]) := h_Z_keep _ 921998 hZ1 fun k k1 k2' k3 => e_B_eq (fun _ => R_LW.lo n1 f3' (by omega)) k1
      have hO3 := hO.fr f3'
      have hel2 := b_el_len 4 e1.2.1 (b_doc (X_num 0 (fs.filter fun y => !F_eq y p)))
      have hg2 := h_hs_add 0 (b_el 4 e1.2.1 (b_doc (X_num 0 (fs.filter fun y => !F_eq y p)))).length (c ++ [(e.1, e.2.1, l, t)])
      have hg3 := h_hs_add 0 (b_el e1.1 e1.2.1 e1.2.2).length (c ++ [(e.1, e.2.1, l, t)])
      rw [Nat.zero_add] at hg2 hg3
      refine e_splice (d := d + 63) (h2 := (b_el 4 e1.2.1 (b_doc (X_num 0 (fs.filter fun y => !F_eq y p)))).length) hO3.1 hO3.2.1 hO3.2.2 hc0 hf0 (by omega) hZ3 (by rw [R_LW.mk n1 f3' (Or.inr (by decide))]; omega) (b_at_keep (by rw [h_vc_snoc]; exact hch) fun k _ _ => f3'.2.1 ch k fun z => ?_) w1 w2 (by omega) (by rw [← hqe]; omega) (by omega) (by rw [← hqe]; omega) (by omega) (by omega) (by omega) fun M5 f5 hZ5 kp1 _ hx5 => ?_
      · rcases z with ⟨z, -⟩ | ⟨z, -⟩
        · exact n3 z.symm
        · exact n2 z
      · intro _ _
        rw [← hqe] at kp1
        refine hq M5 ((f3'.up fun y k hy => R_LW.fl hy).tr (f5.up fun y k hy => R_WK.fl hy)) hZ5 ?_
        have he2 : b_el 4 e1.2.1 (b_doc (X_num 0 (fs.filter fun y => !F_eq y p))) = 4 :: ((e1.2.1 ++ [0]) ++ b_doc (X_num 0 (fs.filter fun y => !F_eq y p))) := by unfold b_el; simp
        have he1 : b_el e1.1 e1.2.1 e1.2.2 = e1.1 :: ((e1.2.1 ++ [0]) ++ e1.2.2) := by unfold b_el; simp
        have hst1' := hst1.1
        rw [he1] at hst1'
        have hnm0 := (b_app.mp (b_cons.mp hst1').2).1
        have hnl0 : ((e1.2.1 ++ [0] : List Int)).length = e1.2.1.length + 1 := by rw [List.length_append, List.length_singleton]
        rw [he2]
        refine b_cons.mpr ⟨?_, b_app.mpr ⟨b_at_keep hnm0 fun k k1 k2 => ?_, ?_⟩⟩
        · rw [e_B_ge (by omega), kp1 q (Int.le_refl _) (by omega), R_LW.lo n1 f3' (by omega), v4, hk]
        · rw [e_B_ge (by omega), kp1 k (by omega) (by omega), R_LW.lo n1 f3' (by omega)]
        · rw [hnl0, show q + 1 + ((e1.2.1.length + 1 : Nat) : Int) = q + 2 + e1.2.1.length by omega]
          exact (e_B_at (by omega)).mpr hx5
    | cons f rest ih =>
      intro kl q2 rr M2 f2 h1 W2 hr hrR hlen hsz hfin
      have hq2 := h1.st
      have hR2 := f2.R hR
      obtain ⟨hf, hr1⟩ := h1.cons
      have hq3 := hr1.st
      have hfvs := b_gv_vs hf.2.2.1
      have hfk := b_vs_pos hfvs
      have hfl := b_el_len f.1 f.2.1 f.2.2
      have hf5 := hf.2.2.2.2
      have hf4 := hf.2.2.2.1
      have hsl := b_ser_len f rest
      have h5 := h1.2.2.2.2
      have hq2b : q2 + (b_el f.1 f.2.1 f.2.2).length < 940000 := by omega
      rw [List.length_cons] at hlen
      have h1' : e_tl (g_i M2 b) (q + 2 + e1.2.1.length) q2 D1 fs (f :: rest) := by
        obtain ⟨a1, a2, a3, a4, a5⟩ := h1
        obtain ⟨s1, s2, s3, s4, s5⟩ := a4
        have hdl5 := b_doc_len fs
        exact ⟨hkeep f2 (by omega) a1, a2, a3, ⟨hkeep f2 (by omega) s1, s2, s3, s4, by rw [R_LW.lo n1 f2 (by omega)]; exact s5⟩, a5⟩
      have hfM2 := hst2 f2 (by omega) hf
      have hF2 : ∀ k, k < 922000 → g_i M2 b k = F k := fun k hk => by rw [R_LW.lo n1 f2 (by omega)]; exact hF k hk
      refine s_X12_pull_35 hqR hpR hrR ⟨by omega, by omega⟩ ⟨by omega, by omega⟩ fun _ => ⟨hR2.1, hval f2 ?_⟩
      intro _ _ _
      refine e_lastC (d := d + 64) hR2 h1' fun r9 hr9 hr9R => ?_
      intro _ _ _
      refine ⟨fun _ => e_isSame30 (d := d + 1) hR2 hfM2 (by omega) (hp.up hF2) ?_, fun g => absurd hr9 g⟩
      intro _ _ _
      by_cases hb : F_eq f p = true
      · rw [if_pos hb]
        refine ⟨fun g => absurd g (by decide), fun _ => e_behind (d := d + 63) hR2 hfM2.1 hf.2.1 hfvs hf4 hf5 ?_⟩
        intro _ _ _
        refine ih kl _ rr M2 f2 hr1 W2 hr hrR (by omega) (by omega) ?_
        rw [List.filter_cons, hb] at hfin
        exact hfin
      · rw [if_neg hb]
        have hb2 : F_eq f p = false := by simpa using hb
        refine ⟨fun _ => ⟨b, hR2.2.1, _, hR2.2.2, ⟨by omega, by omega⟩, ?_⟩, fun g => absurd rfl g⟩
        rw [hfM2.val.2.2.2]
        refine e_put (d := d + 66) W2 ⟨by omega, by omega⟩ fun M4 f4 W4 => ?_
        intro _ _
        have g4 := f2.tr (f4.up fun y k hy => R_LW.wl hy)
        refine e_putDigits (d := d + 65) (i := kl.length) W4 (by omega) fun M5 f5 W5 => ?_
        intro _ _
        have g5 := g4.tr (f5.up fun y k hy => R_LW.wl hy)
        refine e_putValue (d := d + 63) W5 (hst2 g5 (by omega) hf) (Or.inl (by omega)) fun M6 f6 W6 => ?_
        intro _ _
        have g6 := g5.tr (f6.up fun y k hy => R_LW.wl hy)
        refine ⟨⟨by omega, by omega⟩, e_behind (d := d + 63) (g6.R hR) (hst2 g6 (by omega) hf).1 hf.2.1 hfvs hf4 hf5 ?_⟩
        intro _ _ _
        have ew : [] ++ ([0, 0, 0, 0] ++ b_ser kl) ++ [g_w8 f.1] ++ (b_dg kl.length ++ [0]) ++ f.2.2 = [] ++ ([0, 0, 0, 0] ++ b_ser (kl ++ [(f.1, b_dg kl.length, f.2.2)])) := by
          rw [g_w8_of (by omega) (by omega), b_ser_app]
          simp [b_ser, b_el]
        rw [ew] at W6
        have hkl1 : (kl ++ [(f.1, b_dg kl.length, f.2.2)]).length = kl.length + 1 := by rw [List.length_append, List.length_singleton]
        have hdg := b_dg_len kl.length
        have hsl2 : (b_ser (kl ++ [(f.1, b_dg kl.length, f.2.2)])).length = (b_ser kl).length + ((b_dg kl.length).length + f.2.2.length + 2) := by
          rw [b_ser_app, List.length_append, b_ser_one]
        have h9 := ih (kl ++ [(f.1, b_dg kl.length, f.2.2)]) _ rr M6 g6 hr1 W6 hr hrR (by omega) (by omega) (by
          rw [List.filter_cons, hb2] at hfin
          rw [hkl1, List.append_assoc]
          exact hfin)
        rwa [hkl1] at h9
  refine m_X12_pull hqR hpR fun _ => ⟨hR.1, b, hR.2.1, _, hR.2.2, ⟨by omega, by omega⟩, fun g => e_loose (d := d + 65) hR fun M3 f3 W3 => ?_, fun g => absurd (by rw [v4]; exact hk) g⟩
  intro _ _
  have g3 : e_fr (R_LW m b) M M3 := f3.up fun y k hy => Or.inl hy
  refine e_open (d := d + 64) W3 fun rr M4 f4 W4 hr4 => ?_
  intro _ _ hrR
  have g4 := g3.tr (f4.up fun y k hy => R_LW.wl hy)
  refine hval g4 ?_
  intro _ _ _
  refine e_first (d := d + 66) (by omega) (by omega) ?_
  intro _ _ _
  exact hloop fs [] _ rr M4 g4 htl W4 hr4 hrR (by simp) (by show 0 + _ ≤ _; omega) rfl
end RPULL
