/-! REQUESTS: the paths of an index, the class -/
section QPATHS
variable {x b p7 f7 t7 p8 f8 t8 : Nat} {M M1 : g_M}
def Q_F (p7 f7 t7 p8 f8 t8 : Nat) (y : Nat) : Prop := p_S p7 f7 t7 y ∨ p_S p8 f8 t8 y
theorem Q_F.no (h7 : p_P M p7 f7 t7) (h8 : p_P M p8 f8 t8) : (∀ {y ci : Nat}, g_O M y ci → ci ≠ 5 → ¬ Q_F p7 f7 t7 p8 f8 t8 y) ∧ ∀ {y t : Nat} {n : Int}, g_A M y t n → t ≠ 1 → ¬ Q_F p7 f7 t7 p8 f8 t8 y := by
  obtain ⟨a1, -, -, a4, a5, -⟩ := h7
  obtain ⟨b1, -, -, b4, b5, -⟩ := h8
  constructor
  · rintro y ci hy hc ((z | z | z) | z | z | z)
    · exact g_neOO hy a1 hc z
    · exact g_neOA hy a4 z
    · exact g_neOA hy a5 z
    · exact g_neOO hy b1 hc z
    · exact g_neOA hy b4 z
    · exact g_neOA hy b5 z
  · rintro y t n hy ht ((z | z | z) | z | z | z)
    · exact g_neOA a1 hy z.symm
    · exact g_neAA hy a4 (fun q => ht q.1) z
    · exact g_neAA hy a5 (fun q => ht q.1) z
    · exact g_neOA b1 hy z.symm
    · exact g_neAA hy b4 (fun q => ht q.1) z
    · exact g_neAA hy b5 (fun q => ht q.1) z
theorem c_wrongPaths {d De : Nat} {Q : Int → g_M → Prop} {pe : Int} {h : b_E} (hx : g_O M x 11) (x0 : g_r M x 0 = some b) (x7 : g_r M x 7 = some p7) (x8 : g_r M x 8 = some p8) (h7 : p_P M p7 f7 t7) (h8 : p_P M p8 f8 t8) (h78 : p7 ≠ p8) (hA : g_A M b 0 246408) (h14 : g_i M x 14 = pe) (hs : b_st (g_i M b) 2100 pe De h.1 h.2.1 h.2.2) (hDe : De ≤ 20) (hq : ∀ M1, g_fr (Q_F p7 f7 t7 p8 f8 t8) M M1 → p_P M1 p7 f7 t7 → p_P M1 p8 f8 t8 → Q (Q_pa pe h) M1) : g_Call (d + 45) 210 [.ref x] M (g_qI Q) := by
  have hrf : g_fr (Q_F p7 f7 t7 p8 f8 t8) M M := g_fr.rf _ _
  have hs4 := hs.2.2.2.1
  have hs5 := hs.2.2.2.2
  have hkeep : ∀ {M2 : g_M}, g_fr (Q_F p7 f7 t7 p8 f8 t8) M M2 → g_O M2 x 11 ∧ g_r M2 x = g_r M x ∧ g_i M2 x = g_i M x ∧ g_A M2 b 0 246408 ∧ g_i M2 b = g_i M b := fun f => by
    obtain ⟨n1, n2⟩ := Q_F.no h7 h8
    have e1 := f.2 x (n1 hx (by decide))
    have e2 := f.2 b (n2 hA (by decide))
    exact ⟨f.O hx, e1.2, e1.1, f.A hA, e2.1⟩
  refine m_X11_wrongPaths fun _ => ⟨hx, b, x0, ?_⟩
  rw [h14]
  refine c_fi2 (d := d + 43) hA (by decide) hs.lim ?_
  intro _ _ _
  refine ⟨b, x0, ?_⟩
  rw [h14]
  refine c_kd2 (d := d + 43) hA (by decide) hs.lim ?_
  intro _ _ _
  rw [h14]
  unfold Q_pa at hq
  refine ⟨fun k4 => ?_, fun k4 => by rw [if_neg k4] at hq; exact hq M hrf h7 h8⟩
  rw [if_pos k4] at hq
  obtain ⟨D1, eD, hkids, -⟩ := hs.kids (Or.inr k4)
  obtain ⟨qa, hqa⟩ : ∃ qa : Int, qa = pe + 6 + h.2.1.length := ⟨_, rfl⟩
  rw [← hqa] at hkids hq ⊢
  refine ⟨b, x0, c_kdR (d := d + 43) hA (by decide) hkids.lim ?_⟩
  intro _ _ _
  cases hch : b_ch h.2.2 with
  | nil =>
    rw [hch] at hq
    exact ⟨fun _ => by rw [h14]; exact hq M hrf h7 h8, fun z => absurd rfl z⟩
  | cons a r =>
    rw [hch] at hq hkids
    obtain ⟨ha, hr⟩ := hkids.cons
    have haR := ha.lim.R (by decide)
    refine ⟨fun z => absurd z ha.k0, fun _ => ⟨b, x0, c_kd2 (d := d + 43) hA (by decide) ha.lim ?_⟩⟩
    intro _ _ _
    have hno : Q_tx a = false → ∀ M2, g_fr (Q_F p7 f7 t7 p8 f8 t8) M M2 → p_P M2 p7 f7 t7 → p_P M2 p8 f8 t8 → Q qa M2 := fun g => by
      have hq1 := hq
      change ∀ M1, _ → _ → _ → Q (if Q_tx a = true then _ else qa) M1 at hq1
      rw [if_neg (by rw [g]; decide)] at hq1
      exact hq1
    refine ⟨fun k2 => ⟨p7, x7, b, x0, h7.1, c_plainText (d := d + 42) (sk := 0) (pre := []) (w := s_tx a.2.2) h7 hA (by decide) ha.lim k2 rfl rfl (fun g M2 f2 h72 _ => ?_) fun g M2 f2 h72 => ?_⟩, fun k2 => hno (by unfold Q_tx; simp [k2]) M hrf h7 h8⟩
    · intro _ _ _
      have g2 : g_fr (Q_F p7 f7 t7 p8 f8 t8) M M2 := f2.up fun y z => Or.inl z
      obtain ⟨k1, k3, k4', k5, k6⟩ := hkeep g2
      have h82 : p_P M2 p8 f8 t8 := by
        obtain ⟨b1, b2, b3, b4, b5, b6⟩ := h8
        have e8 := f2.2 p8 (by
          rintro (z | z | z)
          · exact h78 z.symm
          · exact g_neOA b1 h7.2.2.2.1 z
          · exact g_neOA b1 h7.2.2.2.2.1 z)
        exact ⟨f2.O b1, by rw [e8.2]; exact b2, by rw [e8.2]; exact b3, f2.A b4, f2.A b5, b6⟩
      have hta : Q_tx a = true := by unfold Q_tx; rw [F_pl_t g]; simp [k2]
      have hq1 : ∀ M1, g_fr (Q_F p7 f7 t7 p8 f8 t8) M M1 → p_P M1 p7 f7 t7 → p_P M1 p8 f8 t8 → Q (Q_pb (qa + (b_el a.1 a.2.1 a.2.2).length) a r) M1 := by
        have hq1 := hq
        change ∀ M1, _ → _ → _ → Q (if Q_tx a = true then _ else qa) M1 at hq1
        rw [if_pos hta] at hq1
        exact hq1
      have ha2 : b_st (g_i M2 b) 246408 qa D1 a.1 a.2.1 a.2.2 := by rw [k6]; exact ha.lim
      have hr2 : b_sts (g_i M2 b) 2100 (qa + (b_el a.1 a.2.1 a.2.2).length) D1 r := by rw [k6]; exact hr
      refine ⟨fun z => absurd z (by decide), fun _ => ⟨b, by rw [k3]; exact x0, c_nx2 (d := d + 43) k5 (by decide) ha2 ?_⟩⟩
      intro _ _ _
      refine ⟨b, by rw [k3]; exact x0, c_kdR (d := d + 43) k5 (by decide) hr2.lim ?_⟩
      intro _ _ _
      cases r with
      | nil => exact ⟨fun _ => hq1 M2 g2 h72 h82, fun z => absurd rfl z⟩
      | cons c r =>
        obtain ⟨hc, hrr⟩ := hr2.cons
        refine ⟨fun z => absurd z hc.k0, fun _ => ⟨b, by rw [k3]; exact x0, c_kd2 (d := d + 43) k5 (by decide) hc.lim ?_⟩⟩
        intro _ _ _
        obtain ⟨qc, hqc⟩ : ∃ qc : Int, qc = qa + (b_el a.1 a.2.1 a.2.2).length := ⟨_, rfl⟩
        rw [← hqc] at hq1 hc hrr ⊢
        change ∀ M1, _ → _ → _ → Q (if (Q_tx c && !F_eq c a) = true then Q_nx (qc + (b_el c.1 c.2.1 c.2.2).length) r else qc) M1 at hq1
        have hn0 : (Q_tx c && !F_eq c a) = false → ∀ M2, g_fr (Q_F p7 f7 t7 p8 f8 t8) M M2 → p_P M2 p7 f7 t7 → p_P M2 p8 f8 t8 → Q qc M2 := fun g => by
          rw [if_neg (by rw [g]; decide)] at hq1
          exact hq1
        refine ⟨fun c2 => ⟨p8, by rw [k3]; exact x8, b, by rw [k3]; exact x0, h82.1, c_plainText (d := d + 42) (sk := 0) (pre := []) (w := s_tx c.2.2) h82 k5 (by decide) hc.lim c2 rfl rfl (fun gg M3 f3 h83 _ => ?_) fun gg M3 f3 h83 => ?_⟩, fun c2 => hn0 (by unfold Q_tx; simp [c2]) M2 g2 h72 h82⟩
        · intro _ _ _
          have g3 : g_fr (Q_F p7 f7 t7 p8 f8 t8) M M3 := g2.tr (f3.up fun y z => Or.inr z)
          obtain ⟨l1, l3, l4, l5, l6⟩ := hkeep g3
          have h73 : p_P M3 p7 f7 t7 := by
            obtain ⟨b1, b2, b3, b4, b5, b6⟩ := h72
            have e8 := f3.2 p7 (by
              rintro (z | z | z)
              · exact h78 z
              · exact g_neOA b1 h82.2.2.2.1 z
              · exact g_neOA b1 h82.2.2.2.2.1 z)
            exact ⟨f3.O b1, by rw [e8.2]; exact b2, by rw [e8.2]; exact b3, f3.A b4, f3.A b5, b6⟩
          have e63 : g_i M3 b = g_i M2 b := by rw [l6, k6]
          have ha3 : b_st (g_i M3 b) 246408 qa D1 a.1 a.2.1 a.2.2 := by rw [l6]; exact ha.lim
          have hc3 : b_st (g_i M3 b) 246408 qc D1 c.1 c.2.1 c.2.2 := by rw [e63]; exact hc.lim
          have hrr3 : b_sts (g_i M3 b) 2100 (qc + (b_el c.1 c.2.1 c.2.2).length) D1 r := by rw [e63]; exact hrr
          have hel := b_el_len a.1 a.2.1 a.2.2
          have ha5 := ha.2.2.2.2
          have ha4 := ha.2.2.2.1
          refine ⟨fun z => absurd z (by decide), fun _ => ⟨b, by rw [l3]; exact x0, b, by rw [l3]; exact x0, c_compare 20 (F := 60) (d := d) l5 l5 (by decide) (by decide) (by omega) (ha3.le (by omega)) (hc3.le (by omega)) (by decide) (by decide) (by decide) ?_⟩⟩
          intro _ _ _
          have hnum : (v_cmp (60 + 1) a.1 a.2.2 c.1 c.2.2 = 0) ↔ F_eq a c = true := by
            unfold F_eq
            exact decide_eq_true_iff.symm
          constructor
          · intro z
            have z2 := F_eq_sy (hnum.mp z)
            exact hn0 (by rw [z2]; simp) M3 g3 h73 h83
          · intro z
            have z2 : F_eq c a = false := by
              cases y : F_eq c a with
              | false => rfl
              | true => exact absurd (hnum.mpr (F_eq_sy y)) z
            have htc : Q_tx c = true := by unfold Q_tx; rw [F_pl_t gg]; simp [c2]
            rw [if_pos (by rw [htc, z2]; rfl)] at hq1
            refine ⟨b, by rw [l3]; exact x0, c_nx2 (d := d + 43) l5 (by decide) hc3 ?_⟩
            intro _ _ _
            refine ⟨b, by rw [l3]; exact x0, c_kdR (d := d + 43) l5 (by decide) hrr3.lim ?_⟩
            intro _ _ _
            cases r with
            | nil => exact ⟨fun _ => hq1 M3 g3 h73 h83, fun z => absurd rfl z⟩
            | cons e r => exact ⟨fun z => absurd z hrr3.cons.1.k0, fun _ => hq1 M3 g3 h73 h83⟩
        · intro _ _ _
          have g3 : g_fr (Q_F p7 f7 t7 p8 f8 t8) M M3 := g2.tr (f3.up fun y z => Or.inr z)
          have h73 : p_P M3 p7 f7 t7 := by
            obtain ⟨b1, b2, b3, b4, b5, b6⟩ := h72
            have e8 := f3.2 p7 (by
              rintro (z | z | z)
              · exact h78 z
              · exact g_neOA b1 h82.2.2.2.1 z
              · exact g_neOA b1 h82.2.2.2.2.1 z)
            exact ⟨f3.O b1, by rw [e8.2]; exact b2, by rw [e8.2]; exact b3, f3.A b4, f3.A b5, b6⟩
          exact ⟨fun _ => hn0 (by unfold Q_tx; rw [F_pl_f gg]; simp) M3 g3 h73 h83, fun z => absurd rfl z⟩
    · intro _ _ _
      have g2 : g_fr (Q_F p7 f7 t7 p8 f8 t8) M M2 := f2.up fun y z => Or.inl z
      have h82 : p_P M2 p8 f8 t8 := by
        obtain ⟨b1, b2, b3, b4, b5, b6⟩ := h8
        have e8 := f2.2 p8 (by
          rintro (z | z | z)
          · exact h78 z.symm
          · exact g_neOA b1 h7.2.2.2.1 z
          · exact g_neOA b1 h7.2.2.2.2.1 z)
        exact ⟨f2.O b1, by rw [e8.2]; exact b2, by rw [e8.2]; exact b3, f2.A b4, f2.A b5, b6⟩
      exact ⟨fun _ => hno (by unfold Q_tx; rw [F_pl_f g]; simp) M2 g2 h72 h82, fun z => absurd rfl z⟩
end QPATHS
