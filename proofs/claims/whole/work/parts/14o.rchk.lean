/-! CHANGES: the reference finds their faults -/
theorem e_tl.app {B : Int → Int} {c q : Int} {D : Nat} {es0 l r : List b_E} (h : e_tl B c q D es0 (l ++ r)) : e_tl B c (q + (b_ser l).length) D es0 r := by
  obtain ⟨h1, h2, h3, h4, h5⟩ := h
  rw [b_ser_app, List.length_append] at h5
  exact ⟨h1, h2, h3, h4.app, by omega⟩
def Y_postE (m : Nat) (M : g_M) (Q : Int → g_M → Prop) (R : Int × Int) : Prop := ∀ M1, e_fr (fun y k => y = m ∧ (k = 7 ∨ k = 8)) M M1 → (R.1 ≠ 0 → g_i M1 m 7 = R.1 ∧ g_i M1 m 8 = R.2) → Q (if R.1 = 0 then 1 else 0) M1
section RCHK
variable {d m b : Nat} {M : g_M} {Q : Int → g_M → Prop}
theorem e_failsY {w q : Int} (hR : e_R M m b) (hw : g_InR w) (hw0 : w ≠ 0) (hq : g_InR q) (h : Y_postE m M Q (w, q)) : g_Call (d + 1) 257 [.ref m, g_n w, g_n q] M (g_qI fun r M1 => g_ext M M1 → g_ok M1 → g_InR r → (r = 0 ∨ r = 1) ∧ Q r M1) := by
  refine e_fails hR hw hq ?_
  intro _ _ _
  refine ⟨Or.inl rfl, ?_⟩
  have := h (e_f M m w q) ((e_fr.wi _ ⟨rfl, Or.inl rfl⟩).tr (e_fr.wi _ ⟨rfl, Or.inr rfl⟩)) fun _ => ⟨?_, ?_⟩
  · rwa [if_neg hw0] at this
  · unfold e_f
    rw [g_i_wi, if_neg (by omega), g_i_wi, if_pos ⟨rfl, rfl⟩]
  · unfold e_f
    rw [g_i_wi, if_pos ⟨rfl, rfl⟩]
theorem e_taken {cp pY : Int} {D : Nat} {z y : b_E} {cs0 cs1 cs2 ys1 ys2 : List b_E} (hR : e_R M m b) (hs : e_tl (g_i M b) cp (cp + 4) D cs0 cs0) (hcs : cs0 = cs1 ++ z :: cs2) (hk3 : ∀ e ∈ cs1, e.1 = 3) (hz3 : z.1 = 3) (hys : b_ch z.2.2 = ys1 ++ y :: ys2) (hpY : pY = cp + 4 + (b_ser cs1).length + 6 + z.2.1.length + (b_ser ys1).length) (h : Q (if ((Y_all cs1 ++ Y_nm ys1).any fun x => X_bg x y.2.1) = true then 1 else 0) M) : g_Call (d + 6) 304 [.ref m, g_n cp, g_n pY] M (g_qI Q) := by
  have hst := hs.st
  have hs1 := hs
  obtain ⟨hs4a, -, hs4, -⟩ := id hs
  have hsz : e_tl (g_i M b) cp (cp + 4 + (b_ser cs1).length) D cs0 (z :: cs2) := by
    have : e_tl (g_i M b) cp (cp + 4) D cs0 (cs1 ++ z :: cs2) := by rw [← hcs]; exact hs
    exact this.app
  obtain ⟨hz, hz2⟩ := hsz.cons
  obtain ⟨D1, ys, eD, e2, e3, e4, e5, -⟩ := hz.tl (Or.inl hz3)
  rw [hys] at e5
  subst e5
  have hyt := e4.app
  obtain ⟨hyy, hyr⟩ := hyt.cons
  rw [show cp + 4 + ((b_ser cs1).length : Int) + 6 + z.2.1.length + (b_ser ys1).length = pY by omega] at hyy hyt
  have hyyR := hyy.R (by decide)
  have hyyl := b_el_len y.1 y.2.1 y.2.2
  have hcpR : g_InR cp := ⟨by omega, by omega⟩
  have hmap : ∀ fs : List b_E, ((Y_nm fs).any fun x => X_bg x y.2.1) = fs.any fun x => X_bg x.2.1 y.2.1 := fun fs => by
    unfold Y_nm
    rw [List.any_map]
    rfl
  have hin : ∀ (fs tl ys0 : List b_E) (D' Do : Nat) (q qo : Int) (o : b_E), b_st (g_i M b) 2706210 qo Do o.1 o.2.1 o.2.2 → e_tl (g_i M b) (qo + 2 + o.2.1.length) q D' ys0 (fs ++ tl) → q + (b_ser fs).length ≤ pY → ((fs.any fun x => X_bg x.2.1 y.2.1) = true → Q 1 M) → ((fs.any fun x => X_bg x.2.1 y.2.1) = false → g_Run (d + 5) 304 29 [(0, .ref m), (1, g_n cp), (2, g_n pY), (3, g_n qo), (4, g_n (q + (b_ser fs).length))] [] M (g_qI Q)) → g_Run (d + 5) 304 29 [(0, .ref m), (1, g_n cp), (2, g_n pY), (3, g_n qo), (4, g_n q)] [] M (g_qI Q) := by
    intro fs
    induction fs with
    | nil =>
      intro tl ys0 D' Do q qo o h1 h2 h3 h6 h7
      have := h7 rfl
      rwa [show q + ((b_ser []).length : Int) = q from by show q + ((0 : Nat) : Int) = q; omega] at this
    | cons f fs ih =>
      intro tl ys0 D' Do q qo o h1 h2 h3 h6 h7
      obtain ⟨hf, hr⟩ := e_tl.cons (e := f) (es := fs ++ tl) h2
      have hsl := b_ser_len f fs
      have hfl := b_el_len f.1 f.2.1 f.2.2
      have hqs := h2.st
      refine s_X12_isTaken_29 hcpR hyyR (h1.R (by decide)) ⟨by omega, by omega⟩ fun _ => ⟨hR.1, e_vl2 hR h1 fun _ _ _ => e_lastC hR h2 fun r hr1 hr2 => fun _ _ _ => ⟨fun _ => ⟨fun _ => e_along (d := d + 2) hR hf hyy ?_, fun g => absurd (by omega) g⟩, fun g => absurd hr1 g⟩⟩
      intro _ _ _
      by_cases hb : X_bg f.2.1 y.2.1 = true
      · rw [if_pos hb]
        exact ⟨fun g => absurd g (by decide), fun _ => h6 (by rw [List.any_cons, hb]; rfl)⟩
      · rw [if_neg hb]
        have hb2 : X_bg f.2.1 y.2.1 = false := by simpa using hb
        refine ⟨fun _ => e_bh2 (d := d + 1) hR hf fun _ _ _ => ?_, fun g => absurd rfl g⟩
        refine ih tl ys0 D' Do (q + (b_el f.1 f.2.1 f.2.2).length) qo o h1 hr (by omega) (fun g => h6 (by rw [List.any_cons, g, Bool.or_true])) fun g => ?_
        have := h7 (by rw [List.any_cons, g, hb2]; rfl)
        rwa [show q + ((b_ser (f :: fs)).length : Int) = q + (b_el f.1 f.2.1 f.2.2).length + (b_ser fs).length by omega] at this
  have hout : ∀ (c1 : List b_E) (q : Int), e_tl (g_i M b) cp q D cs0 (c1 ++ z :: cs2) → (∀ e ∈ c1, e.1 = 3) → pY = q + (b_ser c1).length + 6 + z.2.1.length + (b_ser ys1).length → Q (if ((Y_all c1 ++ Y_nm ys1).any fun x => X_bg x y.2.1) = true then 1 else 0) M → g_Run (d + 5) 304 5 [(0, .ref m), (1, g_n cp), (2, g_n pY), (3, g_n q)] [] M (g_qI Q) := by
    intro c1
    induction c1 with
    | nil =>
      intro q h1 h2 h3 h6
      obtain ⟨hq, hr⟩ := e_tl.cons (e := z) (es := cs2) h1
      have hb0 : ((b_ser []).length : Int) = 0 := rfl
      rw [hb0] at h3
      have hqs := h1.st
      have hq5 := hq.2.2.2.2
      have hY : Y_all [] ++ Y_nm ys1 = Y_nm ys1 := rfl
      rw [hY, hmap] at h6
      have hpz : q = cp + 4 + (b_ser cs1).length := by omega
      rw [← hpz] at e4 hz
      refine s_X12_isTaken_5 hcpR hyyR ⟨by omega, by omega⟩ fun _ => ⟨hR.1, e_lastC (d := d + 2) hR h1 fun r hr1 hr2 => fun _ _ _ => ⟨fun _ => ⟨fun _ => e_vl2 (d := d + 3) hR hq fun _ _ _ => ?_, fun g => absurd (by omega) g⟩, fun g => absurd hr1 g⟩⟩
      refine e_first (d := d + 4) (by omega) (by have := e4.st; omega) ?_
      intro _ _ _
      rw [show q + 2 + (z.2.1.length : Int) + 4 = q + 6 + z.2.1.length by omega]
      refine hin ys1 (y :: ys2) _ D1 D (q + 6 + z.2.1.length) q z hq e4 (by omega) (fun g => by rwa [if_pos g] at h6) fun g => ?_
      rw [if_neg (by rw [g]; decide)] at h6
      rw [show q + 6 + (z.2.1.length : Int) + (b_ser ys1).length = pY by omega]
      refine s_X12_isTaken_29 hcpR hyyR ⟨by omega, by omega⟩ hyyR fun _ => ⟨hR.1, e_vl2 (d := d + 3) hR hq fun _ _ _ => e_lastC (d := d + 2) hR (by rw [← hpz] at hyt; exact hyt) fun r2 hr1' hr2' => fun _ _ _ => ⟨fun _ => ⟨fun g2 => absurd g2 (by omega), fun _ => e_bh2 (d := d + 1) hR hq fun _ _ _ => ?_⟩, fun g2 => absurd hr1' g2⟩⟩
      have hrs := hr.st
      have hzl := b_el_len z.1 z.2.1 z.2.2
      have hysl := congrArg List.length (b_ser_app ys1 (y :: ys2))
      rw [List.length_append, b_ser_len] at hysl
      have hzv := congrArg List.length e2
      rw [b_doc_len] at hzv
      refine s_X12_isTaken_5 hcpR hyyR ⟨by omega, by omega⟩ fun _ => ⟨hR.1, e_last (d := d + 2) hR hs4a (by omega) hs4 ?_⟩
      intro _ _ _
      exact ⟨fun _ => ⟨fun g2 => absurd g2 (by omega), fun _ => h6⟩, fun _ => h6⟩
    | cons f c1 ih =>
      intro q h1 h2 h3 h6
      obtain ⟨hf, hr⟩ := e_tl.cons (e := f) (es := c1 ++ z :: cs2) h1
      have hf3 := h2 f List.mem_cons_self
      have hsl := b_ser_len f c1
      have hfl := b_el_len f.1 f.2.1 f.2.2
      have hqs := h1.st
      obtain ⟨D3, fs, eD3, f2, -, f4, f5, -⟩ := hf.tl (Or.inl hf3)
      have hfv := congrArg List.length f2
      rw [b_doc_len] at hfv
      have hYa : Y_all (f :: c1) ++ Y_nm ys1 = Y_nm (b_ch f.2.2) ++ (Y_all c1 ++ Y_nm ys1) := by
        unfold Y_all
        rw [List.flatMap_cons, List.append_assoc]
      rw [hYa, List.any_append, hmap (b_ch f.2.2), f5] at h6
      refine s_X12_isTaken_5 hcpR hyyR ⟨by omega, by omega⟩ fun _ => ⟨hR.1, e_lastC (d := d + 2) hR h1 fun r hr1 hr2 => fun _ _ _ => ⟨fun _ => ⟨fun _ => e_vl2 (d := d + 3) hR hf fun _ _ _ => ?_, fun g => absurd (by omega) g⟩, fun g => absurd hr1 g⟩⟩
      refine e_first (d := d + 4) (by omega) (by have := f4.st; omega) ?_
      intro _ _ _
      rw [show q + 2 + (f.2.1.length : Int) + 4 = q + 6 + f.2.1.length by omega]
      refine hin fs [] fs D3 D (q + 6 + f.2.1.length) q f hf (by rw [List.append_nil]; exact f4) (by omega) (fun g => ?_) fun g => ?_
      · rw [g, Bool.true_or, if_pos rfl] at h6
        exact h6
      · rw [g, Bool.false_or] at h6
        have f4' := f4
        rw [← List.append_nil fs] at f4'
        have f6 : e_tl (g_i M b) (q + 2 + f.2.1.length) (q + 6 + f.2.1.length + (b_ser fs).length) D3 (fs ++ []) [] := f4'.app
        have hq6 := f6.st
        refine s_X12_isTaken_29 hcpR hyyR ⟨by omega, by omega⟩ ⟨by omega, by omega⟩ fun _ => ⟨hR.1, e_vl2 (d := d + 3) hR hf fun _ _ _ => e_lastE (d := d + 2) hR f6 ?_⟩
        intro _ _ _
        refine ⟨fun g2 => absurd g2 (by omega), fun _ => e_bh2 (d := d + 1) hR hf fun _ _ _ => ?_⟩
        exact ih _ hr (fun e he => h2 e (List.mem_cons_of_mem _ he)) (by omega) h6
  refine m_X12_isTaken hcpR hyyR fun _ => e_first (d := d + 4) (by omega) (by omega) ?_
  intro _ _ _
  exact hout cs1 (cp + 4) (by rw [← hcs]; exact hs) hk3 hpY h
theorem e_isChange {cp : Int} {D : Nat} {cs : List b_E} (hR : e_R M m b) (hs : e_tl (g_i M b) cp (cp + 4) D cs cs) (h : Y_postE m M Q (Y_os [] (L_at (cp + 4) cs))) : g_Call (d + 8) 305 [.ref m, g_n cp] M (g_qI Q) := by
  have hst := hs.st
  obtain ⟨hs4a, -, hs4, -⟩ := id hs
  have hcpR : g_InR cp := ⟨by omega, by omega⟩
  have hinn : ∀ (cs1 cs2 : List b_E) (z : b_E) (zo : Int), cs = cs1 ++ z :: cs2 → (∀ e ∈ cs1, e.1 = 3) → z.1 = 3 → zo = cp + 4 + (b_ser cs1).length → ∀ (ys2 ys1 : List b_E) (q : Int), b_ch z.2.2 = ys1 ++ ys2 → q = zo + 6 + z.2.1.length + (b_ser ys1).length → Y_postE m M Q (if (Y_ps (X_op z.2.1) (Y_all cs1 ++ Y_nm ys1) (L_at q ys2)).1 = 0 then Y_os (Y_all cs1 ++ Y_nm (b_ch z.2.2)) (L_at (zo + (b_el z.1 z.2.1 z.2.2).length) cs2) else Y_ps (X_op z.2.1) (Y_all cs1 ++ Y_nm ys1) (L_at q ys2)) → (Y_postE m M Q (Y_os (Y_all cs1 ++ Y_nm (b_ch z.2.2)) (L_at (zo + (b_el z.1 z.2.1 z.2.2).length) cs2)) → g_Run (d + 7) 305 5 [(0, .ref m), (1, g_n cp), (2, g_n (zo + (b_el z.1 z.2.1 z.2.2).length))] [] M (g_qI Q)) → g_Run (d + 7) 305 55 [(0, .ref m), (1, g_n cp), (2, g_n zo), (3, g_n q)] [] M (g_qI Q) := by
    intro cs1 cs2 z zo hcs hk3 hz3 hzo ys2
    have hsz : e_tl (g_i M b) cp zo D cs (z :: cs2) := by
      have : e_tl (g_i M b) cp (cp + 4) D cs (cs1 ++ z :: cs2) := by rw [← hcs]; exact hs
      rw [hzo]
      exact this.app
    obtain ⟨hz, hz2⟩ := hsz.cons
    have hzR := hz.R (by decide)
    obtain ⟨D1, ys, eD, e2, e3, e4, e5, -⟩ := hz.tl (Or.inl hz3)
    obtain ⟨i1, i2, i3, i4, i5, i6⟩ := X_op_iff z.2.1
    induction ys2 with
    | nil =>
      intro ys1 q h1 h5 h6 h7
      have e5' := e5
      rw [h1] at e5'
      have e4' : e_tl (g_i M b) (zo + 2 + z.2.1.length) (zo + 6 + z.2.1.length) D1 ys (ys1 ++ []) := by rw [e5']; exact e4
      have e6 := e4'.app
      rw [← h5] at e6
      have hq6 := e6.st
      have hps : Y_ps (X_op z.2.1) (Y_all cs1 ++ Y_nm ys1) (L_at q []) = (0, 0) := rfl
      rw [hps, if_pos rfl] at h6
      refine s_X12_isChange_55 hcpR hzR ⟨by omega, by omega⟩ fun _ => ⟨hR.1, e_vl2 (d := d + 5) hR hz fun _ _ _ => e_lastE (d := d + 4) hR e6 ?_⟩
      intro _ _ _
      exact ⟨fun g => absurd g (by omega), fun _ => e_bh2 (d := d + 3) hR hz fun _ _ _ => h7 h6⟩
    | cons y ys2 ih =>
      intro ys1 q h1 h5 h6 h7
      have e5' := e5
      rw [h1] at e5'
      have e4' : e_tl (g_i M b) (zo + 2 + z.2.1.length) (zo + 6 + z.2.1.length) D1 ys (ys1 ++ y :: ys2) := by rw [e5']; exact e4
      have e6 := e4'.app
      rw [← h5] at e6
      have hq6 := e6.st
      obtain ⟨hy, hyr⟩ := e6.cons
      have hyR := hy.R (by decide)
      have hy5 := hy.2.2.2.2
      have hyl := b_el_len y.1 y.2.1 y.2.2
      have hps : Y_ps (X_op z.2.1) (Y_all cs1 ++ Y_nm ys1) (L_at q (y :: ys2)) = if Y_ok y.2.1 = true then (if X_op z.2.1 = 3 ∧ ¬ (y.1 = 16 ∨ y.1 = 18) then (4, q) else if ((Y_all cs1 ++ Y_nm ys1).any fun x => X_bg x y.2.1) = true then (5, q) else Y_ps (X_op z.2.1) (Y_all cs1 ++ Y_nm ys1 ++ [y.2.1]) (L_at (q + (b_el y.1 y.2.1 y.2.2).length) ys2)) else (3, q) := rfl
      rw [hps] at h6
      have hfail : ∀ w : Int, g_InR w → w ≠ 0 → (if Y_ok y.2.1 = true then (if X_op z.2.1 = 3 ∧ ¬ (y.1 = 16 ∨ y.1 = 18) then (4, q) else if ((Y_all cs1 ++ Y_nm ys1).any fun x => X_bg x y.2.1) = true then (5, q) else Y_ps (X_op z.2.1) (Y_all cs1 ++ Y_nm ys1 ++ [y.2.1]) (L_at (q + (b_el y.1 y.2.1 y.2.2).length) ys2)) else (3, q)) = (w, q) → g_Call (d + 7) 257 [.ref m, g_n w, g_n q] M (g_qI fun r M1 => g_ext M M1 → g_ok M1 → g_InR r → (r = 0 ∨ r = 1) ∧ Q r M1) := by
        intro w hw hw0 he
        rw [he, if_neg (show ¬ ((w, q) : Int × Int).1 = 0 from hw0)] at h6
        exact e_failsY (d := d + 6) hR hw hw0 hyR h6
      refine s_X12_isChange_55 hcpR hzR hyR fun _ => ⟨hR.1, e_vl2 (d := d + 5) hR hz fun _ _ _ => e_lastC (d := d + 4) hR e6 fun r hr1 hr2 => fun _ _ _ => ⟨fun _ => ⟨⟨by omega, by omega⟩, e_nameEnd (d := d + 6) hR hy.nm ?_⟩, fun g => absurd hr1 g⟩⟩
      intro _ _ _
      refine e_isPath (d := d + 4) hR hy.nmb (by omega) (by omega) (fun hok => ?_) fun hno => ?_
      · intro _ _ _
        have hYok : Y_ok y.2.1 = true := Y_ok_iff.mpr hok
        rw [if_pos hYok] at h6 hfail
        have h116 : ¬ (X_op z.2.1 = 3 ∧ ¬ (y.1 = 16 ∨ y.1 = 18)) → g_Run (d + 7) 305 116 [(0, .ref m), (1, g_n cp), (2, g_n zo), (3, g_n q)] [] M (g_qI Q) := by
          intro hnn
          rw [if_neg hnn] at h6 hfail
          refine s_X12_isChange_116 hcpR hzR hyR fun _ => ⟨hR.1, e_taken (d := d + 1) hR hs hcs hk3 hz3 h1 (by omega) ?_⟩
          intro _ _ _
          by_cases hb : ((Y_all cs1 ++ Y_nm ys1).any fun x => X_bg x y.2.1) = true
          · rw [if_pos hb] at hfail ⊢
            exact ⟨fun g => absurd g (by decide), fun _ => hfail 5 ⟨by decide, by decide⟩ (by decide) rfl⟩
          · rw [if_neg hb] at h6 ⊢
            refine ⟨fun _ => e_bh2 (d := d + 3) hR hy fun _ _ _ => ?_, fun g => absurd rfl g⟩
            refine ih (ys1 ++ [y]) _ (by rw [h1]; simp) ?_ ?_ h7
            · rw [b_ser_app, List.length_append, b_ser_1]
              omega
            · rw [Y_nm_snoc, ← List.append_assoc]
              exact h6
        refine ⟨fun g => absurd g (by decide), fun _ => e_opIs (d := d + 3) (j := 136) (j2 := 34) (i := 3) (by decide) (by decide) i3 hR hz ?_⟩
        intro _ _ _
        by_cases h3 : X_op z.2.1 = 3
        · rw [if_pos h3]
          refine ⟨fun g => absurd g (by decide), fun _ => e_isNumR (d := d + 6) hR hy ?_⟩
          intro _ _ _
          by_cases hk : y.1 = 16 ∨ y.1 = 18
          · rw [if_pos hk]
            exact ⟨fun g => absurd g (by decide), fun _ => h116 fun g => g.2 hk⟩
          · rw [if_neg hk]
            rw [if_pos (⟨h3, hk⟩ : X_op z.2.1 = 3 ∧ ¬ (y.1 = 16 ∨ y.1 = 18))] at hfail
            exact ⟨fun _ => hfail 4 ⟨by decide, by decide⟩ (by decide) rfl, fun g => absurd rfl g⟩
        · rw [if_neg h3]
          exact ⟨fun _ => h116 fun g => h3 g.1, fun g => absurd rfl g⟩
      · intro _ _ _
        have hYok : ¬ Y_ok y.2.1 = true := fun g => hno (Y_ok_iff.mp g)
        rw [if_neg hYok] at hfail
        exact ⟨fun _ => hfail 3 ⟨by decide, by decide⟩ (by decide) rfl, fun g => absurd rfl g⟩
  have hout : ∀ (cs2 cs1 : List b_E) (q : Int), cs = cs1 ++ cs2 → (∀ e ∈ cs1, e.1 = 3) → q = cp + 4 + (b_ser cs1).length → Y_postE m M Q (Y_os (Y_all cs1) (L_at q cs2)) → g_Run (d + 7) 305 5 [(0, .ref m), (1, g_n cp), (2, g_n q)] [] M (g_qI Q) := by
    intro cs2
    induction cs2 with
    | nil =>
      intro cs1 q h1 h2 h3 h6
      have hsq : e_tl (g_i M b) cp q D cs [] := by
        have : e_tl (g_i M b) cp (cp + 4) D cs (cs1 ++ []) := by rw [← h1]; exact hs
        rw [h3]
        exact this.app
      have hq6 := hsq.st
      refine s_X12_isChange_5 hcpR ⟨by omega, by omega⟩ fun _ => ⟨hR.1, e_lastE (d := d + 4) hR hsq ?_⟩
      intro _ _ _
      exact ⟨fun g => absurd g (by omega), fun _ => h6 M (e_fr.rf _ _) fun g => absurd rfl g⟩
    | cons z cs2 ih =>
      intro cs1 q h1 h2 h3 h6
      have hsq : e_tl (g_i M b) cp q D cs (z :: cs2) := by
        have : e_tl (g_i M b) cp (cp + 4) D cs (cs1 ++ z :: cs2) := by rw [← h1]; exact hs
        rw [h3]
        exact this.app
      have hq6 := hsq.st
      obtain ⟨hz, hzr⟩ := hsq.cons
      have hzR := hz.R (by decide)
      have hos : Y_os (Y_all cs1) (L_at q (z :: cs2)) = if X_op z.2.1 = 0 then (1, q) else if z.1 = 3 then (if (Y_ps (X_op z.2.1) (Y_all cs1) (L_ch q z)).1 = 0 then Y_os (Y_all cs1 ++ Y_nm (b_ch z.2.2)) (L_at (q + (b_el z.1 z.2.1 z.2.2).length) cs2) else Y_ps (X_op z.2.1) (Y_all cs1) (L_ch q z)) else (2, q) := rfl
      rw [hos] at h6
      refine s_X12_isChange_5 hcpR hzR fun _ => ⟨hR.1, e_lastC (d := d + 4) hR hsq fun r hr1 hr2 => fun _ _ _ => ⟨fun _ => e_isOp (d := d + 2) hR hz ?_, fun g => absurd hr1 g⟩⟩
      intro _ _ _
      by_cases h0 : X_op z.2.1 = 0
      · rw [if_pos h0] at h6 ⊢
        exact ⟨fun _ => e_failsY (d := d + 6) hR ⟨by decide, by decide⟩ (by decide) hzR h6, fun g => absurd rfl g⟩
      · rw [if_neg h0] at h6 ⊢
        refine ⟨fun g => absurd g (by decide), fun _ => e_kd hR hz (P := fun w => (w = 3 → _) ∧ (¬ w = 3 → _)) ⟨fun hk => ?_, fun hk => ?_⟩⟩
        · rw [if_pos hk, hz.lch] at h6
          refine e_vl2 (d := d + 5) hR hz fun _ _ _ => ?_
          have hv := hz.val
          refine e_first (d := d + 6) (by omega) ?_ ?_
          · have := b_gv_vs hz.2.2.1
            have h9 : 0 < z.2.2.length := by
              obtain ⟨D1, ys, -, e2, -⟩ := hz.tl (Or.inl hk)
              rw [e2, b_doc_len]
              omega
            omega
          intro _ _ _
          refine hinn cs1 cs2 z q h1 h2 hk h3 (b_ch z.2.2) [] _ rfl ?_ ?_ fun h9 => ?_
          · show q + 2 + (z.2.1.length : Int) + 4 = q + 6 + z.2.1.length + ((0 : Nat) : Int)
            omega
          · have : Y_all cs1 ++ Y_nm [] = Y_all cs1 := List.append_nil _
            rw [this]
            exact h6
          · refine ih (cs1 ++ [z]) _ (by rw [h1]; simp) (fun e he => ?_) ?_ ?_
            · rcases List.mem_append.mp he with g | g
              · exact h2 e g
              · rw [List.mem_singleton.mp g]
                exact hk
            · rw [b_ser_app, List.length_append, b_ser_1]
              omega
            · rw [Y_all_snoc]
              exact h9
        · rw [if_neg hk] at h6
          exact e_failsY (d := d + 6) hR ⟨by decide, by decide⟩ (by decide) hzR h6
  refine m_X12_isChange hcpR fun _ => e_first (d := d + 6) (by omega) (by omega) ?_
  intro _ _ _
  exact hout cs [] (cp + 4) rfl (fun e he => absurd he (by simp)) (by show cp + 4 = cp + 4 + ((0 : Nat) : Int); omega) h
end RCHK
