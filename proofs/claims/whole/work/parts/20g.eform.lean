/-! REQUESTS: their form, the reference, whole -/
section QREF3
variable {m b : Nat} {M : g_M} {Q : Int → g_M → Prop}
theorem e_noR {d : Nat} {v : Int} {Q : Int → g_M → Prop} (hR : e_R M m b) (hv : g_InR v) (hne : v ≠ -1) (h : Q_no m M Q v) : g_Call (d + 2) 406 [.ref m, g_n v] M (g_qI fun r1 M2 => g_ext M M2 → g_ok M2 → g_InR r1 → (r1 = 0 ∨ r1 = 1) ∧ Q r1 M2) := by
  refine e_isNoneP hR hv hne ?_
  unfold Q_no
  intro _ _ _
  exact ⟨Or.inl rfl, h⟩
theorem e_noE {d : Nat} {es : List b_E} {Q : Int → g_M → Prop} (hR : e_R M m b) (hat : b_at (g_i M b) 0 (b_doc es)) (h1 : (b_doc es).length ≤ 2100) (h : Q_no m M Q (4 + (b_ser es).length)) : g_Call (d + 4) 406 [.ref m, g_n (-1)] M (g_qI fun r1 M2 => g_ext M M2 → g_ok M2 → g_InR r1 → (r1 = 0 ∨ r1 = 1) ∧ Q r1 M2) := by
  refine e_isNoneE hR hat h1 ?_
  unfold Q_no
  intro _ _ _
  exact ⟨Or.inl rfl, h⟩
theorem e_areDirections {d De Dt : Nat} {q qt : Int} {h t : b_E} (hR : e_R M m b) (hs : b_st (g_i M b) 2706210 q De h.1 h.2.1 h.2.2) (hk4 : h.1 = 4) (ht : b_st (g_i M b) 2706210 qt Dt t.1 t.2.1 t.2.2) (h1 : Q_dn qt h t = -1 → Q 1 M) (h0 : Q_dn qt h t ≠ -1 → Q_no m M Q (Q_dn qt h t)) : g_Call (d + 8) 411 [.ref m, g_n q, g_n qt] M (g_qI Q) := by
  have hqR := hs.R (by decide)
  have htR := ht.R (by decide)
  have ht4 := ht.2.2.2.1
  have ht5 := ht.2.2.2.2
  have hel := b_el_len t.1 t.2.1 t.2.2
  have hkb : g_i M b qt = t.1 := ht.val.2.2.2
  unfold Q_dn at h1 h0
  have hno : ¬ (t.1 = 4 ∧ t.2.1 = b_tx 12 ∧ (b_ch t.2.2).length = (b_ch h.2.2).length) → Q_no m M Q qt := fun g => by
    rw [if_neg g] at h0
    exact h0 (by omega)
  refine m_X12_areDirections hqR htR fun _ => ⟨fun z => absurd z (by omega), fun _ => ⟨hR.1, e_nm3 (d := d + 3) (j := 85) (j2 := 12) (by decide) rfl hR ht (fun g => ?_) fun g => ?_⟩⟩
  · intro _ _ _
    refine ⟨fun z => absurd z (by decide), fun _ => ⟨b, hR.2.1, 2706210, hR.2.2, ⟨by omega, by omega⟩, fun z => ?_, fun z => e_noR (d := d + 5) hR htR (by omega) (hno fun y => z (hkb.trans y.1))⟩⟩
    have ht44 : t.1 = 4 := hkb.symm.trans z
    obtain ⟨D1, es, eD, ee, -, htl, hch, -⟩ := ht.tl (Or.inr ht44)
    obtain ⟨D2, es2, eD2, ee2, -, htl2, hch2, -⟩ := hs.tl (Or.inr hk4)
    obtain ⟨c, hc⟩ : ∃ c : Int, c = qt + 2 + t.2.1.length := ⟨_, rfl⟩
    obtain ⟨c2, hc2⟩ : ∃ c2 : Int, c2 = q + 2 + h.2.1.length := ⟨_, rfl⟩
    rw [← hc, show qt + 6 + (t.2.1.length : Int) = c + 4 by omega] at htl
    rw [← hc2, show q + 6 + (h.2.1.length : Int) = c2 + 4 by omega] at htl2
    have hst := htl.st
    refine e_vl2 (d := d + 5) hR ht ?_
    rw [← hc]
    intro _ _ _
    refine e_countE (d := d + 2) hR htl ?_
    intro _ _ _
    refine e_vl2 (d := d + 5) hR hs ?_
    rw [← hc2]
    intro _ _ _
    refine e_countE (d := d + 2) hR htl2 ?_
    intro _ _ _
    rw [hch, hch2] at h1 h0 hno
    refine ⟨fun g2 => ?_, fun g2 => e_noR (d := d + 5) hR htR (by omega) (hno fun y => g2 (by rw [y.2.2]))⟩
    have hall : t.1 = 4 ∧ t.2.1 = b_tx 12 ∧ es.length = es2.length := ⟨ht44, g, by omega⟩
    rw [if_pos hall, show qt + 6 + (t.2.1.length : Int) = c + 4 by omega] at h1 h0
    refine e_vl2 (d := d + 5) hR ht ?_
    rw [← hc]
    intro _ _ _
    refine e_first (d := d + 6) hst.2.2.1 hst.2.2.2 ?_
    intro _ _ _
    have hlp : ∀ (r : List b_E) (q' : Int), e_tl (g_i M b) c q' D1 es r → (Q_fk 8 q' r = -1 → Q 1 M) → (Q_fk 8 q' r ≠ -1 → Q_no m M Q (Q_fk 8 q' r)) → g_Run (d + 7) 411 62 [(0, .ref m), (1, g_n q), (2, g_n qt), (3, g_n q')] [] M (g_qI Q) := by
      intro r
      induction r with
      | nil =>
        intro q' hr k1 k0
        obtain ⟨t1, t2, -, -⟩ := hr.st
        refine s_X12_areDirections_62 hqR htR ⟨by omega, by omega⟩ fun _ => ⟨hR.1, e_vl2 (d := d + 5) hR ht ?_⟩
        rw [← hc]
        intro _ _ _
        refine e_lastE (d := d + 4) hR hr ?_
        intro _ _ _
        exact ⟨fun y => absurd y (by omega), fun _ => k1 rfl⟩
      | cons e r ih =>
        intro q' hr k1 k0
        obtain ⟨t1, t2, -, -⟩ := hr.st
        obtain ⟨he, hr2⟩ := hr.cons
        have he5 := he.2.2.2.2
        have hel2 := b_el_len e.1 e.2.1 e.2.2
        have hkb2 : g_i M b q' = e.1 := he.val.2.2.2
        unfold Q_fk at k1 k0
        refine s_X12_areDirections_62 hqR htR ⟨by omega, by omega⟩ fun _ => ⟨hR.1, e_vl2 (d := d + 5) hR ht ?_⟩
        rw [← hc]
        intro _ _ _
        refine e_lastC (d := d + 4) hR hr fun rr hrr _ => ?_
        intro _ _ _
        refine ⟨fun _ => ⟨b, hR.2.1, 2706210, hR.2.2, ⟨by omega, by omega⟩, fun k8 => e_bh2 (d := d + 3) hR he ?_, fun k8 => ?_⟩, fun y => absurd hrr y⟩
        · intro _ _ _
          rw [if_pos (hkb2.symm.trans k8)] at k1 k0
          exact ih _ hr2 k1 k0
        · rw [if_neg fun y => k8 (hkb2.trans y)] at k0
          exact e_noR (d := d + 5) hR ⟨by omega, by omega⟩ (by omega) (k0 (by omega))
    exact hlp es (c + 4) htl h1 h0
  · intro _ _ _
    exact ⟨fun _ => e_noR (d := d + 5) hR htR (by omega) (hno fun y => g y.2.1), fun z => absurd rfl z⟩
theorem Q_nx_0 {q : Int} {r : List b_E} (hq : 0 ≤ q) : Q_nx q r = -1 ↔ r = [] := by
  cases r with
  | nil => exact ⟨fun _ => rfl, fun _ => rfl⟩
  | cons a r => exact ⟨fun z => by have : q = -1 := z; omega, fun z => by cases z⟩
theorem e_isRequest {d De : Nat} {es : List b_E} (hR : e_R M m b) (htl : e_tl (g_i M b) 0 4 De es es) (h21 : (b_doc es).length ≤ 2100) (hDe : De ≤ 20) (h1 : Q_rq 4 es = -1 → Q 1 M) (h0 : Q_rq 4 es ≠ -1 → Q_no m M Q (Q_rq 4 es)) : g_Call (d + 69) 409 [.ref m] M (g_qI Q) := by
  have hat : b_at (g_i M b) 0 (b_doc es) := htl.1
  have hnoE : ∀ Q1 : Int → g_M → Prop, Q_no m M Q1 (4 + (b_ser es).length) → g_Call (d + 68) 406 [.ref m, g_n (-1)] M (g_qI fun r1 M2 => g_ext M M2 → g_ok M2 → g_InR r1 → (r1 = 0 ∨ r1 = 1) ∧ Q1 r1 M2) := fun Q1 h => e_noE (d := d + 64) hR hat h21 h
  have hitem : ∀ {k : Int} {Q1 : Int → g_M → Prop}, 0 ≤ k → g_InR k → Q1 (L_opt ((L_at (0 + 4) es)[k.toNat]?)) M → g_Call (d + 68) 241 [.ref m, g_n 0, g_n k] M (g_qI Q1) := fun k1 k2 h => e_itemE (d := d + 63) hR htl k1 k2 h
  refine m_X12_isRequest fun _ => ⟨hR.1, hitem (by decide) ⟨by decide, by decide⟩ ?_⟩
  cases es with
  | nil =>
    intro _ _ _
    refine ⟨fun _ => hnoE Q ?_, fun z => absurd rfl z⟩
    exact h0 (by decide)
  | cons h r =>
    rw [Q_rq_c] at h1 h0
    have e0 : L_opt ((L_at (0 + 4) (h :: r))[(0 : Int).toNat]?) = 4 := rfl
    rw [e0]
    intro _ _ _
    obtain ⟨hh, htl2⟩ := htl.cons
    have hh5 := hh.2.2.2.2
    have hel := b_el_len h.1 h.2.1 h.2.2
    have hkb : g_i M b 4 = h.1 := hh.val.2.2.2
    have h4R : g_InR 4 := ⟨by decide, by decide⟩
    obtain ⟨q2, hq2⟩ : ∃ q2 : Int, q2 = 4 + (b_el h.1 h.2.1 h.2.2).length := ⟨_, rfl⟩
    rw [← hq2] at h1 h0 htl2
    have hno4 : ∀ {p : Int}, g_InR p → p ≠ -1 → Q_no m M Q p → g_Call (d + 68) 406 [.ref m, g_n p] M (g_qI fun r1 M2 => g_ext M M2 → g_ok M2 → g_InR r1 → (r1 = 0 ∨ r1 = 1) ∧ Q r1 M2) := fun a1 a2 a3 => e_noR (d := d + 66) hR a1 a2 a3
    -- the head is right
    have h182 : Q_op h.2.1 ≠ 0 → Q_hd 4 h = -1 → g_Run (d + 68) 409 182 [(0, .ref m), (1, g_n 4)] [] M (g_qI Q) := by
      intro ho hhd
      rw [if_neg ho, if_pos hhd] at h1 h0
      refine s_X12_isRequest_182 h4R fun _ => ⟨hR.1, hitem (by decide) ⟨by decide, by decide⟩ ?_⟩
      cases r with
      | nil =>
        have e1 : L_opt ((L_at (0 + 4) [h])[(1 : Int).toNat]?) = -1 := rfl
        rw [e1]
        intro _ _ _
        refine m_X12_isShelf ⟨by decide, by decide⟩ fun _ => ⟨fun _ => ?_, fun z => absurd rfl z⟩
        intro _ _ _
        refine ⟨fun _ => hnoE Q ?_, fun z => absurd rfl z⟩
        have e2 : (4 : Int) + (b_ser [h]).length = q2 := by rw [b_ser_1, hq2]
        rw [e2]
        exact h0 (by have := htl2.st.1; show q2 ≠ -1; omega)
      | cons s r =>
        obtain ⟨hs, htl3⟩ := htl2.cons
        have hs4 := hs.2.2.2.1
        have hs5 := hs.2.2.2.2
        have hsR := hs.R (by decide)
        have e1 : L_opt ((L_at (0 + 4) (h :: s :: r))[(1 : Int).toNat]?) = q2 := by rw [hq2]; rfl
        rw [e1]
        intro _ _ _
        refine e_isShelf (d := d + 63) hR hs (fun zs => ?_) fun zs => ?_
        · have hv : Q_r2 h q2 (s :: r) = Q_r3 h (q2 + (b_el s.1 s.2.1 s.2.2).length) r := by
            unfold Q_r2
            exact if_pos zs
          rw [hv] at h1 h0
          obtain ⟨q3, hq3⟩ : ∃ q3 : Int, q3 = q2 + (b_el s.1 s.2.1 s.2.2).length := ⟨_, rfl⟩
          rw [← hq3] at h1 h0 htl3
          intro _ _ _
          refine ⟨fun z => absurd z (by decide), fun _ => hitem (by decide) ⟨by decide, by decide⟩ ?_⟩
          -- the last: nothing more, or something more
          have h292 : ∀ (r5 : Int) (v3 : Int), g_InR r5 → g_InR v3 → (v3 = -1 → Q 1 M) → (v3 ≠ -1 → Q_no m M Q v3) → g_Run (d + 68) 409 292 [(0, .ref m), (1, g_n 4), (2, g_n r5), (3, g_n v3)] [] M (g_qI Q) := by
            intro r5 v3 hr5 hv3 a1 a2
            refine s_X12_isRequest_292 h4R hr5 hv3 fun _ => ⟨a1, fun z => ⟨hR.1, e_isNoneP (d := d + 66) hR hv3 z ?_⟩⟩
            have := a2 z
            unfold Q_no at this ⊢
            intro _ _ _
            exact ⟨fun _ => this, fun y => absurd rfl y⟩
          have hend3 : r = [] → (4 : Int) + (b_ser (h :: s :: r)).length = q3 := fun z => by
            rw [z, hq3, hq2]
            show (4 : Int) + ((b_el h.1 h.2.1 h.2.2 ++ (b_el s.1 s.2.1 s.2.2 ++ [])).length : Nat) = _
            rw [List.append_nil, List.length_append]
            omega
          have h3st := htl3.st
          have e2 : L_opt ((L_at (0 + 4) (h :: s :: r))[(2 : Int).toNat]?) = Q_nx q3 r := by
            cases r with
            | nil => rfl
            | cons t r =>
              show (0 : Int) + 4 + (b_el h.1 h.2.1 h.2.2).length + (b_el s.1 s.2.1 s.2.2).length = q3
              omega
          rw [e2]
          intro _ _ hR15
          -- the third of four
          have e3 : ∀ t r2, r = t :: r2 → L_opt ((L_at (0 + 4) (h :: s :: r))[(3 : Int).toNat]?) = Q_nx (q3 + (b_el t.1 t.2.1 t.2.2).length) r2 := fun t r2 z => by
            subst z
            cases r2 with
            | nil => rfl
            | cons t2 r2 =>
              show (0 : Int) + 4 + (b_el h.1 h.2.1 h.2.2).length + (b_el s.1 s.2.1 s.2.2).length + (b_el t.1 t.2.1 t.2.2).length = q3 + (b_el t.1 t.2.1 t.2.2).length
              omega
          have hfour : ∀ t r2, r = t :: r2 → (Q_r3 h q3 r = Q_nx (q3 + (b_el t.1 t.2.1 t.2.2).length) r2) → g_Call (d + 68) 241 [.ref m, g_n 0, g_n 3] M (g_qI fun r60 M57 => g_ext M M57 → g_ok M57 → g_InR r60 → g_Run (d + 68) 409 292 [(0, .ref m), (1, g_n 4), (2, g_n q2), (3, g_n r60)] [] M57 (g_qI Q)) := fun t r2 z hv => by
            refine hitem (by decide) ⟨by decide, by decide⟩ ?_
            rw [e3 t r2 z]
            intro _ _ hRr
            rw [hv] at h1 h0
            exact h292 q2 _ hsR hRr h1 h0
          refine e_nm3 (d := d + 64) (j := 76) (j2 := 3) (by decide) rfl hR hh (fun g => ?_) fun g => ?_
          · have o4 : Q_op h.2.1 = 4 := (Q_op_iff 3 (by decide)).mp g
            intro _ _ _
            refine ⟨fun z => absurd z (by decide), fun _ => ?_⟩
            cases r with
            | nil =>
              refine ⟨fun _ => ?_, fun z => absurd rfl z⟩
              refine hnoE Q ?_
              rw [hend3 rfl]
              have hv2 : Q_r3 h q3 [] = q3 := by
                unfold Q_r3
                rw [if_pos o4]
              rw [hv2] at h0
              exact h0 (by omega)
            | cons t r2 =>
              obtain ⟨ht, htl4⟩ := htl3.cons
              have ht5 := ht.2.2.2.2
              have helt := b_el_len t.1 t.2.1 t.2.2
              have hkt : g_i M b q3 = t.1 := ht.val.2.2.2
              have hv2 : Q_r3 h q3 (t :: r2) = if t.1 = 3 ∧ t.2.1 = b_tx 11 then Q_nx (q3 + (b_el t.1 t.2.1 t.2.2).length) r2 else q3 := by
                unfold Q_r3
                rw [if_pos o4]
              have hbad : ¬ (t.1 = 3 ∧ t.2.1 = b_tx 11) → Q_no m M Q q3 := fun y => by
                rw [hv2, if_neg y] at h0
                exact h0 (by omega)
              refine ⟨fun z => absurd z (by show q3 ≠ -1; omega), fun _ => e_nm3 (d := d + 64) (j := 84) (j2 := 11) (by decide) rfl hR ht (fun g2 => ?_) fun g2 => ?_⟩
              · intro _ _ _
                refine ⟨fun z => absurd z (by decide), fun _ => ⟨b, hR.2.1, 2706210, hR.2.2, ⟨by show 0 ≤ q3; omega, by show q3 < _; omega⟩, fun k3 => ?_, fun k3 => hno4 hR15 (by show q3 ≠ -1; omega) (hbad fun y => k3 (hkt.trans y.1))⟩⟩
                exact hfour t r2 rfl (by rw [hv2, if_pos ⟨hkt.symm.trans k3, g2⟩])
              · intro _ _ _
                exact ⟨fun _ => hno4 hR15 (by show q3 ≠ -1; omega) (hbad fun y => g2 y.2), fun z => absurd rfl z⟩
          · have o4 : Q_op h.2.1 ≠ 4 := fun z => g ((Q_op_iff 3 (by decide)).mpr z)
            intro _ _ _
            refine ⟨fun _ => e_nm3 (d := d + 64) (j := 82) (j2 := 5) (by decide) rfl hR hh (fun g2 => ?_) fun g2 => ?_, fun z => absurd rfl z⟩
            · have o6 : Q_op h.2.1 = 6 := (Q_op_iff 5 (by decide)).mp g2
              intro _ _ _
              refine ⟨fun z => absurd z (by decide), fun _ => ?_⟩
              cases r with
              | nil =>
                have hv2 : Q_r3 h q3 [] = q3 := by
                  unfold Q_r3
                  rw [if_neg o4, if_pos o6]
                rw [hv2] at h0
                refine m_X12_areDirections h4R hR15 fun _ => ⟨fun _ => ⟨hR.1, ?_⟩, fun z => absurd rfl z⟩
                refine e_noE (d := d + 63) hR hat h21 ?_
                rw [hend3 rfl]
                have h9 := h0 (by omega)
                unfold Q_no at h9 ⊢
                intro _ _ _
                exact ⟨fun _ => h9, fun z => absurd rfl z⟩
              | cons t r2 =>
                obtain ⟨ht, htl4⟩ := htl3.cons
                have hv2 : Q_r3 h q3 (t :: r2) = if Q_dn q3 h t = -1 then Q_nx (q3 + (b_el t.1 t.2.1 t.2.2).length) r2 else Q_dn q3 h t := by
                  unfold Q_r3
                  rw [if_neg o4, if_pos o6]
                have hk4 : h.1 = 4 := by
                  unfold Q_hd at hhd
                  rw [if_neg (by omega), if_neg (by omega), if_pos o6] at hhd
                  unfold Q_pa at hhd
                  by_cases g4 : h.1 = 4
                  · exact g4
                  · rw [if_neg g4] at hhd
                    exact absurd hhd (by decide)
                refine e_areDirections (d := d + 60) hR hh hk4 ht (fun z => ?_) fun z => ?_
                · intro _ _ _
                  have z3 : Q_dn q3 h t = -1 := z
                  exact ⟨fun y => absurd y (by decide), fun _ => hfour t r2 rfl (by rw [hv2, if_pos z3])⟩
                · have z3 : Q_dn q3 h t ≠ -1 := z
                  rw [hv2, if_neg z3] at h0
                  have h9 := h0 z3
                  unfold Q_no at h9 ⊢
                  intro _ _ _
                  exact ⟨fun _ => h9, fun y => absurd rfl y⟩
            · have o6 : Q_op h.2.1 ≠ 6 := fun z => g2 ((Q_op_iff 5 (by decide)).mpr z)
              intro _ _ _
              refine ⟨fun _ => ?_, fun z => absurd rfl z⟩
              have hv2 : Q_r3 h q3 r = Q_nx q3 r := by
                unfold Q_r3
                rw [if_neg o4, if_neg o6]
              rw [hv2] at h1 h0
              refine h292 q2 _ hsR hR15 (fun z => ?_) fun z => ?_
              · cases r with
                | nil => exact h1 rfl
                | cons t r2 => exact absurd z (by show q3 ≠ -1; omega)
              · cases r with
                | nil => exact absurd rfl z
                | cons t r2 => exact h0 z
        · have hv : Q_r2 h q2 (s :: r) = q2 := by
            unfold Q_r2
            exact if_neg zs
          rw [hv] at h0
          intro _ _ _
          exact ⟨fun _ => hno4 hsR (by omega) (h0 (by omega)), fun z => absurd rfl z⟩
    have hbad : ∀ p : Int, Q_op h.2.1 ≠ 0 → Q_hd 4 h = p → p ≠ -1 → Q_no m M Q p := fun p a1 a2 a3 => by
      rw [if_neg a1, a2, if_neg a3] at h0
      exact h0 a3
    refine ⟨fun z => absurd z (by decide), fun _ => e_takesDocument (d := d + 63) hR hh (fun g => ?_) fun g => ?_⟩
    · have hv : Q_hd 4 h = if h.1 = 3 then -1 else 4 := by
        unfold Q_hd
        rw [if_neg (by omega), if_neg (by omega), if_neg (by omega)]
      intro _ _ _
      refine ⟨fun z => absurd z (by decide), fun _ => ⟨b, hR.2.1, 2706210, hR.2.2, ⟨by decide, by decide⟩, fun k3 => h182 (by omega) (by rw [hv, if_pos (hkb.symm.trans k3)]), fun k3 => hno4 h4R (by decide) (hbad 4 (by omega) (by rw [hv, if_neg fun y => k3 (hkb.trans y)]) (by decide))⟩⟩
    · intro _ _ _
      have hdrop : ∀ (Q1 : Int → g_M → Prop), (Q_op h.2.1 = 7 ∨ Q_op h.2.1 = 10) → Q1 = (fun r20 M17 => g_ext M M17 → g_ok M17 → g_InR r20 → ((r20 = 0 → g_Call (d + 68) 406 [.ref m, g_n 4] M17 (g_qI fun r25 M22 => g_ext M17 M22 → g_ok M22 → g_InR r25 → (r25 = 0 ∨ r25 = 1) ∧ Q r25 M22)) ∧ (¬ r20 = 0 → g_Run (d + 68) 409 182 [(0, .ref m), (1, g_n 4)] [] M17 (g_qI Q)))) → g_Call (d + 68) 242 [.ref m, g_n 4] M (g_qI Q1) := fun Q1 o e => by
        have hv : Q_hd 4 h = if h.1 = 16 ∨ h.1 = 18 then -1 else 4 := by
          unfold Q_hd
          rw [if_pos o]
        subst e
        refine e_isNumR (d := d + 67) hR hh ?_
        by_cases hk : h.1 = 16 ∨ h.1 = 18
        · rw [if_pos hk]
          intro _ _ _
          exact ⟨fun z => absurd z (by decide), fun _ => h182 (by omega) (by rw [hv, if_pos hk])⟩
        · rw [if_neg hk]
          intro _ _ _
          exact ⟨fun _ => hno4 h4R (by decide) (hbad 4 (by omega) (by rw [hv, if_neg hk]) (by decide)), fun z => absurd rfl z⟩
      refine ⟨fun _ => e_nm3 (d := d + 64) (j := 79) (j2 := 6) (by decide) rfl hR hh (fun n => ?_) fun n6 => ?_, fun z => absurd rfl z⟩
      · intro _ _ _
        exact ⟨fun z => absurd z (by decide), fun _ => hdrop _ (Or.inl ((Q_op_iff 6 (by decide)).mp n)) rfl⟩
      intro _ _ _
      refine ⟨fun _ => e_nm3 (d := d + 64) (j := 80) (j2 := 9) (by decide) rfl hR hh (fun n => ?_) fun n9 => ?_, fun z => absurd rfl z⟩
      · intro _ _ _
        exact ⟨fun z => absurd z (by decide), fun _ => hdrop _ (Or.inr ((Q_op_iff 9 (by decide)).mp n)) rfl⟩
      intro _ _ _
      refine ⟨fun _ => e_nm3 (d := d + 64) (j := 81) (j2 := 7) (by decide) rfl hR hh (fun n => ?_) fun n7 => ?_, fun z => absurd rfl z⟩
      · have o8 : Q_op h.2.1 = 8 := (Q_op_iff 7 (by decide)).mp n
        have hv : Q_hd 4 h = Q_pl 4 h := by
          unfold Q_hd
          rw [if_neg (by omega), if_pos o8]
        unfold Q_pl at hv
        intro _ _ _
        refine ⟨fun z => absurd z (by decide), fun _ => ⟨b, hR.2.1, 2706210, hR.2.2, ⟨by decide, by decide⟩, fun k4 => ?_, fun k4 => hno4 h4R (by decide) (hbad 4 (by omega) (by rw [hv, if_neg fun y => k4 (hkb.trans y)]) (by decide))⟩⟩
        have hk4 : h.1 = 4 := hkb.symm.trans k4
        rw [if_pos hk4] at hv
        obtain ⟨D1, es1, eD, ee, -, htk, hch, -⟩ := hh.tl (Or.inr hk4)
        obtain ⟨c, hc⟩ : ∃ c : Int, c = 4 + 2 + h.2.1.length := ⟨_, rfl⟩
        rw [← hc, show (4 : Int) + 6 + (h.2.1.length : Int) = c + 4 by omega] at htk
        rw [hch, show (4 : Int) + 6 + (h.2.1.length : Int) = c + 4 by omega] at hv
        have hst := htk.st
        refine e_vl2 (d := d + 66) hR hh ?_
        rw [← hc]
        intro _ _ _
        refine e_first (d := d + 67) hst.2.2.1 hst.2.2.2 ?_
        intro _ _ _
        have hlp : ∀ (r : List b_E) (q' : Int), e_tl (g_i M b) c q' D1 es1 r → (Q_fk 3 q' r = Q_hd 4 h) → g_Run (d + 68) 409 114 [(0, .ref m), (1, g_n 4), (2, g_n q')] [] M (g_qI Q) := by
          intro r
          induction r with
          | nil =>
            intro q' hr k1
            obtain ⟨t1, t2, -, -⟩ := hr.st
            refine s_X12_isRequest_114 h4R ⟨by omega, by omega⟩ fun _ => ⟨hR.1, e_vl2 (d := d + 66) hR hh ?_⟩
            rw [← hc]
            intro _ _ _
            refine e_lastE (d := d + 65) hR hr ?_
            intro _ _ _
            exact ⟨fun y => absurd y (by omega), fun _ => h182 (by omega) k1.symm⟩
          | cons e r ih =>
            intro q' hr k1
            obtain ⟨t1, t2, -, -⟩ := hr.st
            obtain ⟨he, hr2⟩ := hr.cons
            have he5 := he.2.2.2.2
            have hel2 := b_el_len e.1 e.2.1 e.2.2
            have hkb2 : g_i M b q' = e.1 := he.val.2.2.2
            unfold Q_fk at k1
            refine s_X12_isRequest_114 h4R ⟨by omega, by omega⟩ fun _ => ⟨hR.1, e_vl2 (d := d + 66) hR hh ?_⟩
            rw [← hc]
            intro _ _ _
            refine e_lastC (d := d + 65) hR hr fun rr hrr _ => ?_
            intro _ _ _
            refine ⟨fun _ => ⟨b, hR.2.1, 2706210, hR.2.2, ⟨by omega, by omega⟩, fun k3 => e_bh2 (d := d + 64) hR he ?_, fun k3 => ?_⟩, fun y => absurd hrr y⟩
            · intro _ _ _
              rw [if_pos (hkb2.symm.trans k3)] at k1
              exact ih _ hr2 k1
            · rw [if_neg fun y => k3 (hkb2.trans y)] at k1
              exact hno4 ⟨by omega, by omega⟩ (by omega) (hbad q' (by omega) k1.symm (by omega))
        exact hlp es1 (c + 4) htk hv.symm
      intro _ _ _
      refine ⟨fun _ => e_nm3 (d := d + 64) (j := 82) (j2 := 5) (by decide) rfl hR hh (fun n => ?_) fun n5 => ?_, fun z => absurd rfl z⟩
      · have o6 : Q_op h.2.1 = 6 := (Q_op_iff 5 (by decide)).mp n
        have hv : Q_hd 4 h = Q_pa 4 h := by
          unfold Q_hd
          rw [if_neg (by omega), if_neg (by omega), if_pos o6]
        intro _ _ _
        refine ⟨fun z => absurd z (by decide), fun _ => e_arePaths (d := d) hR hh hDe (fun z => ?_) fun z => ?_⟩
        · intro _ _ _
          exact ⟨fun y => absurd y (by decide), fun _ => h182 (by omega) (hv.trans z)⟩
        · have h9 := hbad _ (by omega) hv z
          unfold Q_no at h9 ⊢
          intro _ _ _
          exact ⟨fun _ => h9, fun y => absurd rfl y⟩
      · intro _ _ _
        have k6 : Q_op h.2.1 ≠ 7 := fun z => n6 ((Q_op_iff 6 (by decide)).mpr z)
        have k9 : Q_op h.2.1 ≠ 10 := fun z => n9 ((Q_op_iff 9 (by decide)).mpr z)
        have k7 : Q_op h.2.1 ≠ 8 := fun z => n7 ((Q_op_iff 7 (by decide)).mpr z)
        have k5 : Q_op h.2.1 ≠ 6 := fun z => n5 ((Q_op_iff 5 (by decide)).mpr z)
        have hz : Q_op h.2.1 = 0 := by
          have hu : 0 ≤ Q_op h.2.1 ∧ Q_op h.2.1 ≤ 10 := by
            unfold Q_op
            repeat' split
            all_goals exact ⟨by decide, by decide⟩
          omega
        rw [if_pos hz] at h0
        exact ⟨fun _ => hno4 h4R (by decide) (h0 (by decide)), fun z => absurd rfl z⟩
end QREF3
