/-! REQUESTS: their form, the class -/
noncomputable def Q_r3 (h : b_E) (q : Int) (r : List b_E) : Int := if Q_op h.2.1 = 4 then (match r with
  | [] => q
  | t :: r2 => if t.1 = 3 ∧ t.2.1 = b_tx 11 then Q_nx (q + (b_el t.1 t.2.1 t.2.2).length) r2 else q) else if Q_op h.2.1 = 6 then (match r with
  | [] => q
  | t :: r2 => if Q_dn q h t = -1 then Q_nx (q + (b_el t.1 t.2.1 t.2.2).length) r2 else Q_dn q h t) else Q_nx q r
noncomputable def Q_r2 (h : b_E) (q : Int) : List b_E → Int
  | [] => q
  | s :: r => @ite _ (Q_sh s) (Classical.propDecidable _) (Q_r3 h (q + (b_el s.1 s.2.1 s.2.2).length) r) q
/-- the place of the first thing for which elements from q on are no request; -1: they are one -/
noncomputable def Q_rq (q : Int) : List b_E → Int
  | [] => q
  | h :: r => if Q_op h.2.1 = 0 then q else if Q_hd q h = -1 then Q_r2 h (q + (b_el h.1 h.2.1 h.2.2).length) r else Q_hd q h
section QFORM
variable {x b : Nat} {M : g_M} {Q : Int → g_M → Prop}
theorem c_operationOf {d D : Nat} {q : Int} {r : List b_E} (hx : g_O M x 11) (x0 : g_r M x 0 = some b) (hA : g_A M b 0 246408) (hs : b_sts (g_i M b) 2100 q D r) (h0 : r = [] → Q 0 M) (h1 : ∀ e r2, r = e :: r2 → Q (Q_op e.2.1) M) : g_Call (d + 4) 206 [.ref x, g_n q] M (g_qI Q) := by
  refine m_X11_operationOf hs.R.1 fun _ => ⟨hx, b, x0, c_kdR (d := d + 2) hA (by decide) hs.lim ?_⟩
  intro _ _ _
  cases r with
  | nil => exact ⟨fun _ => h0 rfl, fun z => absurd rfl z⟩
  | cons e r =>
    obtain ⟨he, -⟩ := hs.cons
    have he4 := he.2.2.2.1
    have he5 := he.2.2.2.2
    have hel := b_el_len e.1 e.2.1 e.2.2
    have hq := h1 e r rfl
    unfold Q_op at hq
    have hnm : ∀ {j : Nat} {Q1 : Int → g_M → Prop}, j < q_nS → (e.2.1 = b_tx j → Q1 1 M) → (e.2.1 ≠ b_tx j → Q1 0 M) → g_Call (d + 3) 115 [.ref b, g_n q, .ref (4 * j + 1)] M (g_qI Q1) := fun {j} {Q1} hj h1 h0 => by
      refine c_named (d := d) hj hA (by decide) he.1 he.2.1 he4 (by omega) ?_
      by_cases g : e.2.1 = b_tx j
      · rw [if_pos g]
        exact h1 g
      · rw [if_neg g]
        exact h0 g
    refine ⟨fun z => absurd z he.k0, fun _ => ⟨b, x0, hnm (by decide) (fun g => ?_) fun g => ?_⟩⟩
    · rw [if_pos g] at hq
      exact fun _ _ _ => ⟨fun z => absurd z (by decide), fun _ => hq⟩
    rw [if_neg g] at hq
    refine fun _ _ _ => ⟨fun _ => ⟨b, x0, hnm (by decide) (fun g => ?_) fun g => ?_⟩, fun z => absurd rfl z⟩
    · rw [if_pos g] at hq
      exact fun _ _ _ => ⟨fun z => absurd z (by decide), fun _ => hq⟩
    rw [if_neg g] at hq
    refine fun _ _ _ => ⟨fun _ => ⟨b, x0, hnm (by decide) (fun g => ?_) fun g => ?_⟩, fun z => absurd rfl z⟩
    · rw [if_pos g] at hq
      exact fun _ _ _ => ⟨fun z => absurd z (by decide), fun _ => hq⟩
    rw [if_neg g] at hq
    refine fun _ _ _ => ⟨fun _ => ⟨b, x0, hnm (by decide) (fun g => ?_) fun g => ?_⟩, fun z => absurd rfl z⟩
    · rw [if_pos g] at hq
      exact fun _ _ _ => ⟨fun z => absurd z (by decide), fun _ => hq⟩
    rw [if_neg g] at hq
    refine fun _ _ _ => ⟨fun _ => ⟨b, x0, hnm (by decide) (fun g => ?_) fun g => ?_⟩, fun z => absurd rfl z⟩
    · rw [if_pos g] at hq
      exact fun _ _ _ => ⟨fun z => absurd z (by decide), fun _ => hq⟩
    rw [if_neg g] at hq
    refine fun _ _ _ => ⟨fun _ => ⟨b, x0, hnm (by decide) (fun g => ?_) fun g => ?_⟩, fun z => absurd rfl z⟩
    · rw [if_pos g] at hq
      exact fun _ _ _ => ⟨fun z => absurd z (by decide), fun _ => hq⟩
    rw [if_neg g] at hq
    refine fun _ _ _ => ⟨fun _ => ⟨b, x0, hnm (by decide) (fun g => ?_) fun g => ?_⟩, fun z => absurd rfl z⟩
    · rw [if_pos g] at hq
      exact fun _ _ _ => ⟨fun z => absurd z (by decide), fun _ => hq⟩
    rw [if_neg g] at hq
    refine fun _ _ _ => ⟨fun _ => ⟨b, x0, hnm (by decide) (fun g => ?_) fun g => ?_⟩, fun z => absurd rfl z⟩
    · rw [if_pos g] at hq
      exact fun _ _ _ => ⟨fun z => absurd z (by decide), fun _ => hq⟩
    rw [if_neg g] at hq
    refine fun _ _ _ => ⟨fun _ => ⟨b, x0, hnm (by decide) (fun g => ?_) fun g => ?_⟩, fun z => absurd rfl z⟩
    · rw [if_pos g] at hq
      exact fun _ _ _ => ⟨fun z => absurd z (by decide), fun _ => hq⟩
    rw [if_neg g] at hq
    refine fun _ _ _ => ⟨fun _ => ⟨b, x0, hnm (by decide) (fun g => ?_) fun g => ?_⟩, fun z => absurd rfl z⟩
    · rw [if_pos g] at hq
      exact fun _ _ _ => ⟨fun z => absurd z (by decide), fun _ => hq⟩
    rw [if_neg g] at hq
    exact fun _ _ _ => ⟨fun _ => hq, fun z => absurd rfl z⟩
theorem c_isNumS {d D : Nat} {q : Int} {e : b_E} (hA : g_A M b 0 246408) (he : b_st (g_i M b) 2100 q D e.1 e.2.1 e.2.2) (h : Q (if e.1 = 16 ∨ e.1 = 18 then 1 else 0) M) : g_Call (d + 2) 117 [.ref b, g_n q] M (g_qI Q) := by
  have h1 := he.lim.R (by decide)
  have h5 := he.2.2.2.2
  have hel := b_el_len e.1 e.2.1 e.2.2
  refine c_isNum (d := d) hA ⟨by decide, by decide⟩ h1 ?_
  rw [b_kd_in he.2.2.2.1 (by omega), he.val.2.2.2]
  exact h
theorem c_isShelf {d D : Nat} {q : Int} {r : List b_E} (hx : g_O M x 11) (x0 : g_r M x 0 = some b) (hA : g_A M b 0 246408) (hs : b_sts (g_i M b) 2100 q D r) (h0 : (∀ s r2, r = s :: r2 → ¬ Q_sh s) → Q 0 M) (h1 : ∀ s r2, r = s :: r2 → Q_sh s → Q 1 M) : g_Call (d + 4) 207 [.ref x, g_n q] M (g_qI Q) := by
  have hqR := hs.R
  cases r with
  | nil =>
    have h5 := hs.2.2.2.2
    rw [show (b_ser ([] : List b_E)).length = 0 from rfl, show q + ((0 : Nat) : Int) = q by omega] at h5
    refine m_X11_isShelf hqR.1 fun _ => ⟨hx, b, x0, c_isNum (d := d + 1) hA ⟨by decide, by decide⟩ hqR.1 ?_⟩
    rw [b_kd_in hqR.2.1 (by omega), h5]
    intro _ _ _
    exact ⟨fun _ => h0 fun s r2 z => absurd z (by simp), fun z => absurd rfl z⟩
  | cons s r =>
    obtain ⟨he, -⟩ := hs.cons
    have he4 := he.2.2.2.1
    have he5 := he.2.2.2.2
    have hel := b_el_len s.1 s.2.1 s.2.2
    have hn : ¬ Q_sh s → Q 0 M := fun z => h0 fun s2 r2 z2 => by
      cases z2
      exact z
    have hp := h1 s r rfl
    refine m_X11_isShelf hqR.1 fun _ => ⟨hx, b, x0, c_isNumS (d := d + 1) hA he ?_⟩
    by_cases hk : s.1 = 16 ∨ s.1 = 18
    · rw [if_pos hk]
      intro _ _ _
      refine ⟨fun z => absurd z (by decide), fun _ => ⟨b, x0, c_named (d := d) (j := 10) (by decide) hA (by decide) he.1 he.2.1 he4 (by omega) ?_⟩⟩
      by_cases g : s.2.1 = b_tx 10
      · rw [if_pos g]
        intro _ _ _
        refine ⟨fun z => absurd z (by decide), fun _ => ⟨b, x0, c_wh (d := d + 1) hA (by decide) he.lim hk ?_⟩⟩
        intro _ _
        refine ⟨fun z => hp ⟨hk, g, Or.inl ((g_lc0 _ _).mp z)⟩, fun z => ⟨fun z2 => hp ⟨hk, g, Or.inr ((g_lc0 _ _).mp z2)⟩, fun z2 => hn fun y => ?_⟩⟩
        rcases y.2.2 with y | y
        · exact z ((g_lc0 _ _).mpr y)
        · exact z2 ((g_lc0 _ _).mpr y)
      · rw [if_neg g]
        intro _ _ _
        exact ⟨fun _ => hn fun y => g y.2.1, fun z => absurd rfl z⟩
    · rw [if_neg hk]
      intro _ _ _
      exact ⟨fun _ => hn fun y => hk y.1, fun z => absurd rfl z⟩
variable {p7 f7 t7 p8 f8 t8 : Nat}
theorem c_wrongInHead {d De : Nat} {pe : Int} {h : b_E} (hx : g_O M x 11) (x0 : g_r M x 0 = some b) (x7 : g_r M x 7 = some p7) (x8 : g_r M x 8 = some p8) (h7 : p_P M p7 f7 t7) (h8 : p_P M p8 f8 t8) (h78 : p7 ≠ p8) (hA : g_A M b 0 246408) (h14 : g_i M x 14 = pe) (h13 : g_i M x 13 = Q_op h.2.1) (hs : b_st (g_i M b) 2100 pe De h.1 h.2.1 h.2.2) (hDe : De ≤ 20) (hq : ∀ M1, g_fr (Q_F p7 f7 t7 p8 f8 t8) M M1 → p_P M1 p7 f7 t7 → p_P M1 p8 f8 t8 → Q (Q_hd pe h) M1) : g_Call (d + 46) 208 [.ref x] M (g_qI Q) := by
  have hrf : g_fr (Q_F p7 f7 t7 p8 f8 t8) M M := g_fr.rf _ _
  unfold Q_hd at hq
  refine m_X11_wrongInHead fun _ => ⟨hx, b, x0, ?_⟩
  rw [h14]
  refine c_kd2 (d := d + 44) hA (by decide) hs.lim ?_
  intro _ _ _
  rw [h13, h14]
  have hnum : ∀ Q1 : Int → g_M → Prop, (h.1 = 16 ∨ h.1 = 18 → Q1 1 M) → (¬ (h.1 = 16 ∨ h.1 = 18) → Q1 0 M) → g_Call (d + 45) 117 [.ref b, g_n pe] M (g_qI Q1) := fun Q1 g1 g0 => by
    refine c_isNumS (d := d + 43) hA hs ?_
    by_cases g : h.1 = 16 ∨ h.1 = 18
    · rw [if_pos g]
      exact g1 g
    · rw [if_neg g]
      exact g0 g
  have hdoc : ¬ (Q_op h.2.1 = 7 ∨ Q_op h.2.1 = 10) → Q_op h.2.1 ≠ 8 → Q_op h.2.1 ≠ 6 → (h.1 = 3 → Q (-1) M) ∧ (¬ h.1 = 3 → Q pe M) := fun a1 a2 a3 => by
    rw [if_neg a1, if_neg a2, if_neg a3] at hq
    exact ⟨fun z => by rw [if_pos z] at hq; exact hq M hrf h7 h8, fun z => by rw [if_neg z] at hq; exact hq M hrf h7 h8⟩
  have hdrop : (Q_op h.2.1 = 7 ∨ Q_op h.2.1 = 10) → (h.1 = 16 ∨ h.1 = 18 → Q (-1) M) ∧ (¬ (h.1 = 16 ∨ h.1 = 18) → Q pe M) := fun a1 => by
    rw [if_pos a1] at hq
    exact ⟨fun z => by rw [if_pos z] at hq; exact hq M hrf h7 h8, fun z => by rw [if_neg z] at hq; exact hq M hrf h7 h8⟩
  refine ⟨fun z => ?_, fun z6 => ⟨fun z => ?_, fun z7 => ⟨fun z => ?_, fun z8 => ⟨fun z => ?_, fun z9 => ⟨fun z => ?_, fun z10 => ?_⟩⟩⟩⟩⟩
  · rw [if_neg (by omega), if_neg (by omega), if_pos z] at hq
    refine c_wrongPaths (d := d) hx x0 x7 x8 h7 h8 h78 hA h14 hs hDe fun M1 f1 k1 k2 => ?_
    exact fun _ _ _ => hq M1 f1 k1 k2
  · obtain ⟨a1, a2⟩ := hdrop (Or.inl z)
    refine ⟨b, x0, hnum _ (fun y => ?_) fun y => ?_⟩
    · exact fun _ _ _ => ⟨fun w => absurd w (by decide), fun _ => a1 y⟩
    · intro _ _ _
      rw [h14]
      exact ⟨fun _ => a2 y, fun w => absurd rfl w⟩
  · rw [if_neg (by omega), if_pos z] at hq
    refine c_wrongPipeline (d := d + 42) hx x0 hA h14 hs ?_
    exact fun _ _ _ => hq M hrf h7 h8
  · exact hdoc (by omega) (by omega) (by omega)
  · obtain ⟨a1, a2⟩ := hdrop (Or.inr z)
    refine ⟨b, x0, hnum _ (fun y => ?_) fun y => ?_⟩
    · exact fun _ _ _ => ⟨fun w => absurd w (by decide), fun _ => a1 y⟩
    · intro _ _ _
      rw [h14]
      exact ⟨fun _ => a2 y, fun w => absurd rfl w⟩
  · exact hdoc (by omega) (by omega) (by omega)
end QFORM
