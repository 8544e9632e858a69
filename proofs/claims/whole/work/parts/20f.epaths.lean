/-! REQUESTS: paths and directions of an index, the reference -/
section QREF2
variable {m b : Nat} {M : g_M} {Q : Int → g_M → Prop}
theorem e_arePaths {d De : Nat} {q : Int} {h : b_E} (hR : e_R M m b) (hs : b_st (g_i M b) 2706210 q De h.1 h.2.1 h.2.2) (hDe : De ≤ 20) (h1 : Q_pa q h = -1 → Q 1 M) (h0 : Q_pa q h ≠ -1 → Q_no m M Q (Q_pa q h)) : g_Call (d + 68) 410 [.ref m, g_n q] M (g_qI Q) := by
  have hq0 := hs.2.2.2.1
  have hq5 := hs.2.2.2.2
  have hqR := hs.R (by decide)
  have hel := b_el_len h.1 h.2.1 h.2.2
  have hkb : g_i M b q = h.1 := hs.val.2.2.2
  refine m_X12_arePaths hqR fun _ => ⟨hR.1, b, hR.2.1, 2706210, hR.2.2, ⟨by omega, by omega⟩, fun z => ?_, fun z => ?_⟩
  · have hk4 : h.1 = 4 := hkb.symm.trans z
    obtain ⟨D1, es, eD, ee, -, htl, hch, -⟩ := hs.tl (Or.inr hk4)
    obtain ⟨c, hc⟩ : ∃ c : Int, c = q + 2 + h.2.1.length := ⟨_, rfl⟩
    rw [← hc, show q + 6 + (h.2.1.length : Int) = c + 4 by omega] at htl
    unfold Q_pa at h1 h0
    rw [if_pos hk4, hch, show q + 6 + (h.2.1.length : Int) = c + 4 by omega] at h1 h0
    have hcst := htl.st
    have hcR : g_InR c := ⟨by omega, by omega⟩
    refine e_vl2 (d := d + 65) hR hs ?_
    rw [← hc]
    intro _ _ _
    refine e_countE (d := d + 62) hR htl ?_
    intro _ _ _
    cases es with
    | nil =>
      have hn := h0 (by show q ≠ -1; omega)
      refine ⟨fun _ => e_isNoneP (d := d + 65) hR hqR (by omega) ?_, fun y => absurd rfl y⟩
      unfold Q_no
      intro _ _ _
      exact ⟨Or.inl rfl, hn⟩
    | cons a r =>
      change (if Q_tx a = true then Q_pb (c + 4 + (b_el a.1 a.2.1 a.2.2).length) a r else c + 4) = -1 → Q 1 M at h1
      change (if Q_tx a = true then Q_pb (c + 4 + (b_el a.1 a.2.1 a.2.2).length) a r else c + 4) ≠ -1 → Q_no m M Q (if Q_tx a = true then Q_pb (c + 4 + (b_el a.1 a.2.1 a.2.2).length) a r else c + 4) at h0
      have ha := htl.cons.1
      have haR := ha.R (by decide)
      refine ⟨fun y => absurd y (by rw [List.length_cons]; omega), fun _ => e_vl2 (d := d + 65) hR hs ?_⟩
      rw [← hc]
      intro _ _ _
      refine e_first (d := d + 66) hcst.2.2.1 hcst.2.2.2 ?_
      intro _ _ _
      have hrun : ∀ (n : Int) (q' : Int) (es' : List b_E), g_InR n → g_InR (n + 1) → e_tl (g_i M b) c q' D1 (a :: r) es' → (es' = [] → Q 1 M) → (∀ e r', es' = e :: r' → (n = 2 → Q_no m M Q q') ∧ (n ≠ 2 → (Q_tx e = false → Q_no m M Q q') ∧ (Q_tx e = true → (n = 1 → F_eq e a = true → Q_no m M Q q') ∧ (¬ (n = 1 ∧ F_eq e a = true) → g_Run (d + 67) 410 42 [(0, .ref m), (1, g_n q), (2, g_n (n + 1)), (3, g_n (c + 4)), (4, g_n (q' + (b_el e.1 e.2.1 e.2.2).length))] [] M (g_qI Q))))) → g_Run (d + 67) 410 42 [(0, .ref m), (1, g_n q), (2, g_n n), (3, g_n (c + 4)), (4, g_n q')] [] M (g_qI Q) := by
        intro n q' es' hn hn1 ht g0 g1
        obtain ⟨t1, t2, t3, t4⟩ := ht.st
        have hq'R : g_InR q' := ⟨by omega, by omega⟩
        refine s_X12_arePaths_42 hqR hn haR hq'R fun _ => ⟨hR.1, e_vl2 (d := d + 65) hR hs ?_⟩
        rw [← hc]
        intro _ _ _
        cases es' with
        | nil =>
          refine e_lastE (d := d + 64) hR ht ?_
          intro _ _ _
          exact ⟨fun y => absurd y (by omega), fun _ => g0 rfl⟩
        | cons e r' =>
          obtain ⟨g2, g3⟩ := g1 e r' rfl
          refine e_lastC (d := d + 64) hR ht fun rr hrr hrR => ?_
          intro _ _ _
          obtain ⟨he, -⟩ := ht.cons
          have hno : Q_no m M Q q' → ∀ Q1 : Int → g_M → Prop, Q1 = (fun r15 M12 => g_ext M M12 → g_ok M12 → g_InR r15 → (r15 = 0 ∨ r15 = 1) ∧ Q r15 M12) → g_Call (d + 67) 406 [.ref m, g_n q'] M (g_qI Q1) := fun y Q1 e1 => by
            subst e1
            refine e_isNoneP (d := d + 65) hR hq'R (by omega) ?_
            unfold Q_no
            intro _ _ _
            exact ⟨Or.inl rfl, y⟩
          have hkb' : g_i M b q' = e.1 := he.val.2.2.2
          have he5 := he.2.2.2.2
          have hel' := b_el_len e.1 e.2.1 e.2.2
          refine ⟨fun _ => ⟨fun n2 => hno (g2 n2) _ rfl, fun n2 => ⟨b, hR.2.1, 2706210, hR.2.2, ⟨by omega, by omega⟩, fun k2 => ?_, fun k2 => hno ((g3 n2).1 (by unfold Q_tx; rw [← hkb']; simp [k2])) _ rfl⟩⟩, fun y => absurd hrr y⟩
          have hk2 : e.1 = 2 := hkb'.symm.trans k2
          obtain ⟨x1, x2, x3, x4⟩ := he.text hk2
          refine e_vl2 (d := d + 65) hR he ?_
          intro _ _ _
          refine ⟨⟨by omega, by omega⟩, e_textEnd (d := d + 64) hR he hk2 ?_⟩
          intro _ _ _
          refine e_plain (d := d + 63) hR x3 (by omega) (by omega) (fun g => ?_) fun g => ?_
          · intro _ _ _
            have htx : Q_tx e = true := by unfold Q_tx; rw [F_pl_t g]; simp [hk2]
            obtain ⟨g4, g5⟩ := (g3 n2).2 htx
            refine ⟨fun y => absurd y (by decide), fun _ => ⟨fun n1 => ?_, fun n1 => ⟨hn1, e_bh2 (d := d + 63) hR he ?_⟩⟩⟩
            · refine e_isSame3 (d := d + 1) hR (he.le (by omega)) (ha.le (by omega)) ?_
              cases y : F_eq e a with
              | true =>
                rw [if_pos rfl]
                intro _ _ _
                exact ⟨fun w => absurd w (by decide), fun _ => hno (g4 n1 y) _ rfl⟩
              | false =>
                rw [if_neg (by decide)]
                intro _ _ _
                refine ⟨fun _ => ⟨hn1, e_bh2 (d := d + 63) hR he ?_⟩, fun w => absurd rfl w⟩
                exact fun _ _ _ => g5 fun w => by rw [y] at w; exact absurd w.2 (by decide)
            · exact fun _ _ _ => g5 fun w => n1 w.1
          · intro _ _ _
            have htx : Q_tx e = false := by unfold Q_tx; rw [F_pl_f g]; simp
            exact ⟨fun _ => hno ((g3 n2).1 htx) _ rfl, fun y => absurd rfl y⟩
      refine hrun 0 (c + 4) (a :: r) ⟨by decide, by decide⟩ ⟨by decide, by decide⟩ htl (fun y => absurd y (by simp)) fun e1 r1 y1 => ?_
      cases y1
      refine ⟨fun y => absurd y (by decide), fun _ => ⟨fun y => ?_, fun y => ⟨fun w => absurd w (by decide), fun _ => ?_⟩⟩⟩
      · rw [if_neg (by rw [y]; decide)] at h0
        exact h0 (by omega)
      rw [if_pos y] at h0 h1
      have ht2 := htl.cons.2
      have hcn := ht2.st
      refine hrun (0 + 1) _ r ⟨by decide, by decide⟩ ⟨by decide, by decide⟩ ht2 (fun w => ?_) fun e2 r2 y2 => ?_
      · rw [w] at h1
        exact h1 rfl
      subst y2
      rw [Q_pb_c] at h0 h1
      refine ⟨fun w => absurd w (by decide), fun _ => ⟨fun w => ?_, fun w => ⟨fun _ w2 => ?_, fun w2 => ?_⟩⟩⟩
      · rw [if_neg (by rw [w]; simp)] at h0
        exact h0 (by omega)
      · rw [if_neg (by rw [w, w2]; simp)] at h0
        exact h0 (by omega)
      have hf : F_eq e2 a = false := by
        cases v : F_eq e2 a with
        | false => rfl
        | true => exact absurd ⟨rfl, v⟩ w2
      rw [if_pos (by rw [w, hf]; rfl)] at h0 h1
      have ht3 := ht2.cons.2
      have hcn3 := ht3.st
      refine hrun (0 + 1 + 1) _ r2 ⟨by decide, by decide⟩ ⟨by decide, by decide⟩ ht3 (fun v => ?_) fun e3 r3 y3 => ?_
      · rw [v] at h1
        exact h1 rfl
      subst y3
      exact ⟨fun _ => h0 (by show c + 4 + ((b_el a.1 a.2.1 a.2.2).length : Int) + (b_el e2.1 e2.2.1 e2.2.2).length ≠ -1; omega), fun v => absurd rfl v⟩
  · have hk4 : ¬ h.1 = 4 := fun y => z (hkb.trans y)
    unfold Q_pa at h0
    rw [if_neg hk4] at h0
    have hn := h0 (by omega)
    refine e_isNoneP (d := d + 65) hR hqR (by omega) ?_
    unfold Q_no
    intro _ _ _
    exact ⟨Or.inl rfl, hn⟩
end QREF2
