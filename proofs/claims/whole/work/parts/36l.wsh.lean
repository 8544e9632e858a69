/-! PURE: where a request stands does not matter -/
theorem D_P_sh (s : Int) : ∀ l : List (Int × b_E), D_2 D_P l (l.map (L_sh s))
  | [] => trivial
  | z :: r => ⟨rfl, D_P_sh s r⟩
theorem D_fx_S (st : Nat → I_T) (l : List (Int × b_E)) (s : Int) : D_fx st (l.map (L_sh s)) = D_fx st l := by
  funext x
  unfold D_fx
  cases hs : st x with
  | none => rfl
  | some t =>
    obtain ⟨V, T, m1, m2⟩ := t
    obtain ⟨e1, e2⟩ := D_rk_O (D_B_P (mv := m1) (s := V.2.2.1) (D_P_sh s l)) (D_B2_P (mv := m2) (s := V.2.2.2) (D_P_sh s l))
    show some (_, _) = some (_, _)
    rw [e1, e2]
theorem D_lkn_S (st : Nat → I_T) (l : List (Int × b_E)) (s : Int) (x : Nat) (ds : List (List b_E)) : D_lkn st (l.map (L_sh s)) x ds = D_lkn st l x ds := by
  unfold D_lkn
  by_cases g : x = 8
  · rw [if_pos g, if_pos g]
  · rw [if_neg g, if_neg g]
    cases hs : st x with
    | none => rfl
    | some t =>
      obtain ⟨V, T, m1, m2⟩ := t
      have e : D_lkd V (D_B m1 V.2.2.1 (l.map (L_sh s))) (D_B2 m2 V.2.2.2 (l.map (L_sh s))) = D_lkd V (D_B m1 V.2.2.1 l) (D_B2 m2 V.2.2.2 l) := funext fun es => (D_lkd_O (D_B_P (D_P_sh s l)) (D_B2_P (D_P_sh s l)) es).symm
      show (List.filter _ ds).length = (List.filter _ ds).length
      rw [e]
/-- the same, told of four bytes further on -/
def W_Q (R R2 : W_R) : Prop := R2.2 = R.2 ∧ R2.1.1 = R.1.1 ∧ (R.1.1 ≠ 0 → (R.1.2 = -1 ∧ R2.1.2 = -1) ∨ (0 ≤ R.1.2 ∧ R2.1.2 = R.1.2 + 4))
theorem W_Q.ans {R R2 : W_R} (h : W_Q R R2) : W_ans R2 = W_an R.1.1 R.1.2 R.2.1 := by
  obtain ⟨h1, h2, h3⟩ := h
  unfold W_ans
  rw [h1, h2]
  by_cases g : R.1.1 = 0
  · unfold W_an
    rw [if_pos g, if_pos g]
  · have e : W_q4 R2.1.2 = R.1.2 := by
      rcases h3 g with ⟨a, b⟩ | ⟨a, b⟩
      · rw [b, a]
        rfl
      · rw [b, W_q4_p (by omega)]
        omega
    rw [e]
/-- an answer that tells of no place -/
theorem W_Q.rf {R : W_R} (h : R.1.1 ≠ 0 → R.1.2 = -1) : W_Q R R := ⟨rfl, rfl, fun z => Or.inl ⟨h z, h z⟩⟩
theorem W_Q.f {S : W_S} {c p : Int} (h : 0 ≤ p) : W_Q (W_f S c p) (W_f S c (p + 4)) := ⟨rfl, rfl, fun _ => Or.inr ⟨h, rfl⟩⟩
theorem W_Q.t (t : List Int) (S : W_S) : W_Q ((0, 0), t, S) ((0, 0), t, S) := ⟨rfl, rfl, fun z => absurd rfl z⟩
theorem W_K_S {q : Int} {h : b_E} {S : W_S} {R R2 : W_R} (hq : 0 ≤ q) (hR : W_Q R R2) : W_Q (W_K q h S R) (W_K (q + 4) h S R2) := by
  have h1 := (K_F_S 4 20).1 (L_ch q h) 0
  rw [← L_ch_sh] at h1
  unfold W_K
  by_cases g : ((K_F 20).1 (L_ch q h) 0).1 = 0
  · rw [if_pos g, if_pos (h1.1.trans g)]
    exact hR
  · rw [if_neg g, if_neg (fun k => g (h1.1.symm.trans k)), h1.1, h1.2.2 g]
    exact W_Q.f ((K_F_G (lo := 0) 20).1 (L_ch q h) 0 (L_ch_lo (z := (q, h)) hq) g)
theorem W_bad_S {p : List b_E → Bool} {g g2 : List b_E → Int × Int} (h : ∀ es, Y_S 4 (g es) (g2 es)) : ∀ l : List (Int × List b_E), (W_bad p g l = none → W_bad p g2 l = none) ∧ ∀ c, W_bad p g l = some c → c.1 ≠ 0 ∧ (∃ es, c = g es) ∧ W_bad p g2 l = some (c.1, c.2 + 4) := by
  intro l
  induction l with
  | nil => exact ⟨fun _ => rfl, fun c hc => absurd hc (by simp [W_bad])⟩
  | cons z r ih =>
    have e1 : W_bad p g (z :: r) = if p z.2 = true ∧ (g z.2).1 ≠ 0 then some (g z.2) else W_bad p g r := rfl
    have e2 : W_bad p g2 (z :: r) = if p z.2 = true ∧ (g2 z.2).1 ≠ 0 then some (g2 z.2) else W_bad p g2 r := rfl
    have hz := h z.2
    rw [e1, e2, hz.1]
    by_cases k : p z.2 = true ∧ (g z.2).1 ≠ 0
    · rw [if_pos k, if_pos k]
      refine ⟨fun z => absurd z (by simp), fun c hc => ?_⟩
      have hc : g z.2 = c := Option.some.inj hc
      rw [← hc]
      refine ⟨k.2, ⟨z.2, rfl⟩, ?_⟩
      rw [← hz.1, ← hz.2 k.2]
    · rw [if_neg k, if_neg k]
      exact ih
theorem W_upd_S {q q2 : Int} {w : Nat} {h t : b_E} {S : W_S} (hq : 0 ≤ q) (hq2 : 0 ≤ q2) : W_Q (W_upd q q2 w h t S) (W_upd (q + 4) (q2 + 4) w h t S) := by
  unfold W_upd
  refine W_K_S hq ?_
  have hy := Y_os_S 4 (L_ch q2 t) []
  rw [← L_ch_sh] at hy
  have e6 : q2 + 4 + 6 + (t.2.1.length : Int) = q2 + 6 + t.2.1.length + 4 := by omega
  rw [e6]
  obtain ⟨v1, v2, v3, v4⟩ := V_S (W_p h) (q2 + 6 + t.2.1.length) (b_ch t.2.2) 4
  obtain ⟨v5, v6⟩ := U_nd_S (W_p h) (q2 + 6 + t.2.1.length) (b_ch t.2.2) 4
  rw [v1, v2, v3, v4, v6]
  have hb := W_bad_S (p := W_p h) (g := fun es => (U_R q2 (q2 + 6 + t.2.1.length) (b_ch t.2.2) es).1) (g2 := fun es => (U_R (q2 + 4) (q2 + 6 + t.2.1.length + 4) (b_ch t.2.2) es).1) (fun es => (U_R_S 4).1) (S.2.1 w)
  by_cases g : (Y_os [] (L_ch q2 t)).1 = 0
  · rw [if_pos g, if_pos (hy.1.trans g)]
    cases hw : W_bad (W_p h) (fun es => (U_R q2 (q2 + 6 + t.2.1.length) (b_ch t.2.2) es).1) (S.2.1 w) with
    | none =>
      rw [hb.1 hw]
      refine W_Q.rf fun z => ?_
      by_cases k : V_Fit (W_p h) (q2 + 6 + t.2.1.length) (b_ch t.2.2) S.1 w (S.2.1 w)
      · exfalso
        apply z
        show (@ite W_R _ (Classical.propDecidable _) _ _).1.1 = 0
        rw [if_pos k]
      · show (@ite W_R _ (Classical.propDecidable _) _ _).1.2 = -1
        rw [if_neg k]
        rfl
    | some c =>
      obtain ⟨c1, ⟨es, c2⟩, c3⟩ := hb.2 c hw
      rw [c3]
      refine W_Q.f ?_
      rw [c2]
      exact U_R_lo hq2 (by omega) (by rw [c2] at c1; exact c1)
  · rw [if_neg g, if_neg (fun k => g (hy.1.symm.trans k)), hy.1, hy.2 g]
    exact W_Q.f (Y_os_lo (lo := 0) (L_ch q2 t) [] (fun y hyy => L_ch_lo (lo := 0) (z := (q2, t)) hq2 y hyy) g)
theorem W_do_S {q q2 : Int} {w : Nat} {h t : b_E} {S : W_S} (hq : 0 ≤ q) (hq2 : 0 ≤ q2) : W_Q (W_do q q2 w h t S) (W_do (q + 4) (q2 + 4) w h t S) := by
  unfold W_do
  by_cases g1 : Q_op h.2.1 = 1
  · rw [if_pos g1, if_pos g1]
    refine W_Q.rf fun z => ?_
    unfold W_ins at z ⊢
    split at z
    · exact absurd rfl z
    · rename_i k
      rw [if_neg k]
      rfl
  rw [if_neg g1, if_neg g1]
  by_cases g2 : Q_op h.2.1 = 2
  · rw [if_pos g2, if_pos g2]
    exact W_K_S hq (W_Q.t _ _)
  rw [if_neg g2, if_neg g2]
  by_cases g3 : Q_op h.2.1 = 3
  · rw [if_pos g3, if_pos g3]
    exact W_K_S hq (W_Q.t _ _)
  rw [if_neg g3, if_neg g3]
  by_cases g4 : Q_op h.2.1 = 4
  · rw [if_pos g4, if_pos g4]
    exact W_upd_S hq hq2
  rw [if_neg g4, if_neg g4]
  by_cases g5 : Q_op h.2.1 = 5
  · rw [if_pos g5, if_pos g5]
    exact W_K_S hq (W_Q.t _ _)
  rw [if_neg g5, if_neg g5]
  by_cases g6 : Q_op h.2.1 = 6
  · rw [if_pos g6, if_pos g6]
    refine W_Q.rf fun z => ?_
    unfold W_idx at z ⊢
    split at z
    · unfold W_ix at z ⊢
      split at z
      · rfl
      · split at z
        · exact absurd rfl z
        · rename_i k
          rw [if_neg k]
          rfl
    · rfl
  rw [if_neg g6, if_neg g6]
  by_cases g7 : Q_op h.2.1 = 7
  · rw [if_pos g7, if_pos g7]
    refine W_Q.rf fun z => ?_
    unfold W_drp at z ⊢
    split at z
    · rename_i k
      rw [if_pos k]
      rfl
    · rename_i k
      rw [if_neg k]
      split at z
      · rfl
      · exact absurd rfl z
  rw [if_neg g7, if_neg g7]
  by_cases g8 : Q_op h.2.1 = 8
  · rw [if_pos g8, if_pos g8]
    have hp := T_pl_S (n := 16) (os := (S.2.1 (1 - w)).map Prod.snd) 4 (L_ch q h) ((S.2.1 w).map Prod.snd)
    rw [← L_ch_sh] at hp
    unfold W_ppl
    by_cases k : (T_pl 16 ((S.2.1 (1 - w)).map Prod.snd) (L_ch q h) ((S.2.1 w).map Prod.snd)).1.1 = 0
    · rw [if_pos k, if_pos (hp.1.trans k), hp.2.1]
      exact W_Q.t _ _
    · rw [if_neg k, if_neg (fun e => k (hp.1.symm.trans e)), hp.1, hp.2.2 k]
      exact W_Q.f (T_pl_lo _ _ (fun y hy => L_ch_lo (lo := 0) (z := (q, h)) hq y hy) k)
  rw [if_neg g8, if_neg g8]
  by_cases g9 : Q_op h.2.1 = 9
  · rw [if_pos g9, if_pos g9]
    unfold W_exp
    rw [L_ch_sh, D_fx_S, D_lkn_S]
    exact W_K_S hq (W_Q.t _ _)
  rw [if_neg g9, if_neg g9]
  refine W_Q.rf fun z => ?_
  unfold W_shp at z ⊢
  split at z
  · rename_i k
    rw [if_pos k]
    rfl
  · rename_i k
    rw [if_neg k]
    split at z
    · rfl
    · exact absurd rfl z
