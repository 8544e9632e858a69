/-! EXPLAIN, THE CLASS: what is in two sets; the bounds of one condition -/
theorem D_2.sp {α β : Type} {R : α → β → Prop} {a : α} {l : List α} {m : List β} (h : D_2 R (a :: l) m) : ∃ b m2, m = b :: m2 ∧ R a b ∧ D_2 R l m2 := by
  cases m with
  | nil => exact h.elim
  | cons b m2 => exact ⟨b, m2, rfl, h.1, h.2⟩
theorem b_cl_1 {k : Int} : b_cl k = 1 ↔ k = 10 := by
  unfold b_cl
  by_cases g : k = 10
  · rw [if_pos g]
    exact ⟨fun _ => g, fun _ => rfl⟩
  · rw [if_neg g]
    refine ⟨fun h => ?_, fun h => absurd h g⟩
    split at h
    · omega
    · split at h
      · omega
      · split at h
        · omega
        · split at h <;> omega
section BDC
variable {o rm b ss cn d : Nat} {r : Nat → Nat} {n : Int} {M M1 : g_M} {A B : List D_i}
theorem c_meetSets {Q : g_M → Prop} {s u : Nat} (h : Bd_o o rm b ss cn r M) (hb : g_A M b 0 n) (hn : n ≤ 1000000000) (hs : s < 4) (hu : u < 4) (hA : Bd_S cn r s A M) (hB : Bd_S cn r u B M) (hAl : A.length ≤ 700) (hBl : B.length ≤ 700) (hx : ∀ x ∈ A, Bd_io (g_i M b) n x) (hy : ∀ y ∈ B, Bd_io (g_i M b) n y) (hm : (D_mts A B).length ≤ 700) (hq : ∀ M1 E, D_2 D_R E (D_mts A B) → (∀ z ∈ E, Bd_io (g_i M b) n z) → e_fr (Bd_F cn r (fun j => j = 4 ∨ j = s)) M M1 → Bd_S cn r s E M1 → Q M1) : g_Call (d + 47) 15 [.ref o, g_n (s : Int), g_n (u : Int)] M (g_qV Q) := by
  obtain ⟨k1, ⟨q1, q2, q3, q4⟩, A1, A2, hr, hinj⟩ := id h
  have hsR : g_InR (s : Int) := ⟨by omega, by omega⟩
  have huR : g_InR (u : Int) := ⟨by omega, by omega⟩
  refine m_X0_meet (a0 := o) (d := d + 46) hsR huR fun _ => ⟨k1, cn, q4, 5, A2, ⟨by decide, by decide⟩, fun M7 x7 _ => ?_⟩
  have f7 : e_fr (Bd_F cn r (fun j => j = 4)) M M7 := by
    rw [x7]
    exact e_fr.wi _ (Or.inl ⟨rfl, 4, rfl, rfl⟩)
  have S7 : Bd_S cn r 4 [] M7 := ⟨by
    rw [x7, g_i_ws, if_pos (show ((4 : Nat) : Int) = 4 from rfl)]
    rfl, fun i x hi => absurd hi (by simp)⟩
  have bF : ∀ {M' : g_M}, e_fr (Bd_F cn r (fun j => j = 4)) M M' → g_i M' b = g_i M b := fun f => funext fun k => f.2.1 _ _ (Bd_F_A h hb fun g => absurd g (by decide))
  have hout : ∀ (X2 X1 : List D_i) (M' : g_M) (E : List D_i), A = X1 ++ X2 → e_fr (Bd_F cn r (fun j => j = 4)) M M' → D_2 D_R E (D_mts X1 B) → (∀ z ∈ E, Bd_io (g_i M b) n z) → Bd_S cn r 4 E M' → g_Run (d + 46) 15 9 [(0, .ref o), (1, g_n (s : Int)), (2, g_n (u : Int)), (3, g_n (X1.length : Int))] [] M' (g_qV Q) := by
    intro X2
    induction X2 with
    | nil =>
      intro X1 M' E hX f' hE hio S'
      rw [List.append_nil] at hX
      have hXl := congrArg List.length hX
      have h' := h.fr f'
      have A' := hA.fr h f' (by omega) (by omega)
      refine s_X0_meet_9 hsR huR ⟨by omega, by omega⟩ fun _ => ⟨h'.1, cn, h'.2.1.2.2.2, 5, h'.2.2.2.1, ⟨by omega, by omega⟩, fun g => absurd g (by rw [A'.1, hX]; omega), fun _ => ?_⟩
      rw [← hX] at hE
      have hEl := hE.len
      refine c_copySet (d := d + 45) (s := 4) (t := s) h' (by decide) (by omega) (by omega) S' (by omega) fun M1 f1 S1 => ?_
      intro _ _
      exact hq M1 E hE hio ((f'.up fun _ _ z => Bd_F_up (fun j z => Or.inl z) z).tr (f1.up fun _ _ z => Bd_F_up (fun j z => Or.inr z) z)) S1
    | cons x X2 ih =>
      intro X1 M' E hX f' hE hio S'
      have hXl := congrArg List.length hX
      rw [List.length_append, List.length_cons] at hXl
      have hxm : x ∈ A := by rw [hX]; simp
      have hxi : A[X1.length]? = some x := by
        rw [hX, List.getElem?_append_right (Nat.le_refl _), Nat.sub_self]
        rfl
      have hin : ∀ (Y2 Y1 : List D_i) (M2 : g_M) (E2 : List D_i), B = Y1 ++ Y2 → e_fr (Bd_F cn r (fun j => j = 4)) M M2 → D_2 D_R E2 (D_mts X1 B ++ D_mtr x Y1) → (∀ z ∈ E2, Bd_io (g_i M b) n z) → Bd_S cn r 4 E2 M2 → g_Run (d + 46) 15 22 [(0, .ref o), (1, g_n (s : Int)), (2, g_n (u : Int)), (3, g_n (X1.length : Int)), (4, g_n (Y1.length : Int))] [] M2 (g_qV Q) := by
        intro Y2
        induction Y2 with
        | nil =>
          intro Y1 M2 E2 hY f2 hE2 hio2 S2
          rw [List.append_nil] at hY
          have hYl := congrArg List.length hY
          have h2 := h.fr f2
          have B2 := hB.fr h f2 (by omega) (by omega)
          refine s_X0_meet_22 hsR huR ⟨by omega, by omega⟩ ⟨by omega, by omega⟩ fun _ => ⟨h2.1, cn, h2.2.1.2.2.2, 5, h2.2.2.2.1, ⟨by omega, by omega⟩, fun g => absurd g (by rw [B2.1, hY]; omega), fun _ => ⟨⟨by omega, by omega⟩, ?_⟩⟩
          have h9 := ih (X1 ++ [x]) M2 E2 (by rw [hX]; simp) f2 (by
            rw [D_mts_app, D_mts_1, hY]
            rw [hY] at hE2
            exact hE2) hio2 S2
          rw [show ((X1 ++ [x]).length : Int) = (X1.length : Int) + 1 by rw [List.length_append, List.length_singleton]; omega] at h9
          exact h9
        | cons y Y2 ihy =>
          intro Y1 M2 E2 hY f2 hE2 hio2 S2
          have hYl := congrArg List.length hY
          rw [List.length_append, List.length_cons] at hYl
          have hym : y ∈ B := by rw [hY]; simp
          have hyi : B[Y1.length]? = some y := by
            rw [hY, List.getElem?_append_right (Nat.le_refl _), Nat.sub_self]
            rfl
          have h2 := h.fr f2
          have B2 := hB.fr h f2 (by omega) (by omega)
          have A2' := hA.fr h f2 (by omega) (by omega)
          have F2 := bF f2
          have hb2 := f2.A hb
          obtain ⟨r1, r2⟩ := h2.2.2.2.2.1 s (by omega)
          obtain ⟨u1, u2⟩ := h2.2.2.2.2.1 u (by omega)
          refine s_X0_meet_22 hsR huR ⟨by omega, by omega⟩ ⟨by omega, by omega⟩ fun _ => ⟨h2.1, cn, h2.2.1.2.2.2, 5, h2.2.2.2.1, ⟨by omega, by omega⟩, fun _ => ⟨ss, h2.2.1.2.2.1, 5, h2.2.2.1, ⟨by omega, by omega⟩, r s, r1, ⟨by omega, by omega⟩, ss, h2.2.1.2.2.1, 5, h2.2.2.1, ⟨by omega, by omega⟩, r u, u1, ⟨by omega, by omega⟩, ?_⟩, fun g => absurd (by rw [B2.1]; omega) g⟩
          refine c_meetOne (d := d + 1) (s := s) (u := u) (i := X1.length) (j := Y1.length) (x := x) (y := y) h2 hb2 hn (by omega) (by omega) A2' B2 hxi hyi hAl hBl (by rw [F2]; exact hx x hxm) (by rw [F2]; exact hy y hym) S2 (fun hk => ?_) fun M3 E3 hE3 hio3 f3 S3 => ?_
          · have e1 : D_mt x y = [D_rs x y] := if_pos hk
            have e2 : D_mts A B = D_mts X1 B ++ ((D_mtr x Y1 ++ (D_mt x y ++ D_mtr x Y2)) ++ D_mts X2 B) := by
              have e3 : D_mts (x :: X2) B = D_mtr x B ++ D_mts X2 B := List.flatMap_cons
              have e4 : D_mtr x (y :: Y2) = D_mt x y ++ D_mtr x Y2 := List.flatMap_cons
              rw [hX, D_mts_app, e3]
              conv => lhs; rhs; rw [hY, D_mtr_app, e4]
              rw [← hY]
            have e5 := congrArg List.length e2
            rw [e1] at e5
            simp only [List.length_append, List.length_singleton] at e5
            have e6 := hE2.len
            rw [List.length_append] at e6
            omega
          · intro _ _
            refine ⟨⟨by omega, by omega⟩, ?_⟩
            have h9 := ihy (Y1 ++ [y]) M3 (E2 ++ E3) (by rw [hY]; simp) (f2.tr f3) (by
              rw [D_mtr_app, D_mtr_1, ← List.append_assoc]
              exact hE2.app hE3) (fun z hz => by
              rcases List.mem_append.mp hz with g | g
              · exact hio2 z g
              · have := hio3 z g
                rwa [F2] at this) S3
            rw [show ((Y1 ++ [y]).length : Int) = (Y1.length : Int) + 1 by rw [List.length_append, List.length_singleton]; omega] at h9
            exact h9
      have h' := h.fr f'
      have A' := hA.fr h f' (by omega) (by omega)
      refine s_X0_meet_9 hsR huR ⟨by omega, by omega⟩ fun _ => ⟨h'.1, cn, h'.2.1.2.2.2, 5, h'.2.2.2.1, ⟨by omega, by omega⟩, fun _ => ?_, fun g => absurd (by rw [A'.1]; omega) g⟩
      exact hin B [] M' E rfl f' (by
        have e : D_mtr x [] = [] := rfl
        rw [e, List.append_nil]
        exact hE) hio S'
  exact hout A [] M7 [] rfl f7 trivial (fun z hz => absurd hz (by simp)) S7
/-- a simple condition -/
theorem c_bindSimple {Q : Int → g_M → Prop} {s : Nat} {v1 : Int} {al : Bool} {y : Int × b_E} (h : Bd_o o rm b ss cn r M) (hb : g_A M b 0 n) (hn : n ≤ 1000000000) (hs : s < 5) (hA : Bd_S cn r s [] M) (hy : b_st (g_i M b) n y.1 20 y.2.1 y.2.2.1 y.2.2.2) (h1 : 0 ≤ v1 ∧ v1 ≤ 12) (hk : D_k al y = if v1 = 0 then 1 else v1) (h3 : v1 ≠ 3) (hno : D_bo al y = none → Q 0 M) (hq : ∀ P M1, D_bo al y = some P → e_fr (Bd_F cn r (fun j => j = s)) M M1 → Bd_S cn r s P M1 → Q 1 M1) : g_Call (d + 4) 11 [.ref o, g_n v1, g_n y.1, g_n (s : Int)] M (g_qI Q) := by
  have hyR := hy.R hn
  have hsR : g_InR (s : Int) := ⟨by omega, by omega⟩
  have h1R : g_InR v1 := ⟨by omega, by omega⟩
  have hkR : g_InR y.2.1 := by
    rcases b_gv_vs hy.2.2.1 with g | g | ⟨g, -⟩ | ⟨g, -⟩ | ⟨g, -⟩ | ⟨g, -⟩ <;> exact ⟨by omega, by omega⟩
  have hc := b_cl_R y.2.1
  obtain ⟨K, hK⟩ : ∃ K, K = D_k al y := ⟨_, rfl⟩
  have hKv : (v1 = 0 ∧ K = 1) ∨ (v1 ≠ 0 ∧ K = v1) := by
    rw [hK, hk]
    by_cases g : v1 = 0
    · exact Or.inl ⟨g, if_pos g⟩
    · exact Or.inr ⟨g, if_neg g⟩
  have h110 : ∀ v5 v6 v7 v8 : Int, D_f v5 (K = 1) → D_f v6 (K = 5 ∨ K = 6) → D_f v7 (K = 7 ∨ K = 8) → D_f v8 (K = 1 ∨ K = 6 ∨ K = 8) → y.2.1 ≠ 4 → (K = 1 ∨ (K = 5 ∨ K = 6) ∨ (K = 7 ∨ K = 8)) → g_Run (d + 3) 11 110 [(0, .ref o), (1, g_n v1), (2, g_n y.1), (3, g_n (s : Int)), (4, g_n y.2.1), (5, g_n v5), (6, g_n v6), (7, g_n v7), (8, g_n v8)] [] M (g_qI Q) := by
    intro v5 v6 v7 v8 f5 f6 f7 f8 h4 hK3
    have hpt : D_bo al y = some [D_pt y] → g_Call (d + 3) 12 [.ref o, g_n (s : Int), g_n y.1] M (g_qV fun M2 => g_ext M M2 → g_ok M2 → Q 1 M2) := fun e => by
      refine c_addPoint (d := d) h hb hn hs hA (by decide) hy fun M1 f1 S1 => ?_
      intro _ _
      exact hq _ M1 e f1 S1
    have hemp : D_bo al y = some [] → Q 1 M := fun e => hq _ M e (e_fr.rf _ _) hA
    refine s_X0_bindSimple_110 h1R hyR hsR hkR f5.R f6.R f7.R f8.R fun _ => ⟨fun g10 => ⟨fun g8 => ?_, fun g8 => ⟨h.1, hpt ?_⟩⟩, fun g10 => ⟨fun g5 => ⟨fun g6 => ⟨h.1, b, h.2.1.2.1, c_cl2 (d := d + 2) hb hn hy ?_⟩, fun g6 => ⟨h.1, b, h.2.1.2.1, c_cl2 (d := d + 2) hb hn hy ?_⟩⟩, fun g5 => ⟨fun g8 => ?_, fun g8 => ⟨h.1, hpt ?_⟩⟩⟩⟩
    · have n8 := f8.n g8
      refine hemp ?_
      rcases hK3 with g | g | g
      · omega
      · rw [D_bo_5 (by rw [← hK]; exact g) h4, if_pos (b_cl_1.mpr g10), if_neg (by rw [← hK]; omega)]
      · rw [D_bo_7 (by rw [← hK]; exact g) h4, if_pos (b_cl_1.mpr g10), if_neg (by rw [← hK]; omega)]
    · have y8 := f8.y g8
      rcases hK3 with g | g | g
      · exact D_bo_1 (by rw [← hK]; exact g) h4
      · rw [D_bo_5 (by rw [← hK]; exact g) h4, if_pos (b_cl_1.mpr g10), if_pos (by rw [← hK]; omega)]
      · rw [D_bo_7 (by rw [← hK]; exact g) h4, if_pos (b_cl_1.mpr g10), if_pos (by rw [← hK]; omega)]
    · intro _ _ _
      have n5 := f5.n g5
      have n6 := f6.n g6
      have g7 : K = 7 ∨ K = 8 := by
        rcases hK3 with g | g | g
        · exact absurd g n5
        · exact absurd g n6
        · exact g
      have hbo := D_bo_7 (al := al) (y := y) (by rw [← hK]; exact g7) h4
      rw [if_neg (fun z => g10 (b_cl_1.mp z)), ← hK] at hbo
      refine ⟨fun g8 => ?_, fun g8 => ?_⟩
      · have n8 := f8.n g8
        refine c_addTo (d := d + 2) (x := (b_cl y.2.1, some y, decide (K = 8), none, false)) h hs hA (by decide) rfl rfl rfl (by rw [decide_eq_false (by omega)]; rfl) ⟨by omega, by omega⟩ hyR ⟨by decide, by decide⟩ fun M1 f1 S1 => ?_
        intro _ _
        exact hq _ M1 hbo f1 S1
      · have y8 := f8.y g8
        refine c_addTo (d := d + 2) (x := (b_cl y.2.1, some y, decide (K = 8), none, false)) h hs hA (by decide) rfl rfl rfl (by rw [decide_eq_true (show K = 8 by omega)]; rfl) ⟨by omega, by omega⟩ hyR ⟨by decide, by decide⟩ fun M1 f1 S1 => ?_
        intro _ _
        exact hq _ M1 hbo f1 S1
    · intro _ _ _
      have g5' := f6.y g6
      have hbo := D_bo_5 (al := al) (y := y) (by rw [← hK]; exact g5') h4
      rw [if_neg (fun z => g10 (b_cl_1.mp z)), ← hK] at hbo
      refine ⟨fun g8 => ?_, fun g8 => ?_⟩
      · have n8 := f8.n g8
        refine c_addTo (d := d + 2) (x := (b_cl y.2.1, none, false, some y, decide (K = 6))) h hs hA (by decide) rfl rfl rfl (by rw [decide_eq_false (by omega)]; rfl) ⟨by omega, by omega⟩ ⟨by decide, by decide⟩ hyR fun M1 f1 S1 => ?_
        intro _ _
        exact hq _ M1 hbo f1 S1
      · have y8 := f8.y g8
        refine c_addTo (d := d + 2) (x := (b_cl y.2.1, none, false, some y, decide (K = 6))) h hs hA (by decide) rfl rfl rfl (by rw [decide_eq_true (show K = 6 by omega)]; rfl) ⟨by omega, by omega⟩ ⟨by decide, by decide⟩ hyR fun M1 f1 S1 => ?_
        intro _ _
        exact hq _ M1 hbo f1 S1
    · have n8 := f8.n g8
      have y5 := f5.y g5
      omega
    · exact D_bo_1 (by rw [← hK]; exact f5.y g5) h4
  have hnone : K ≠ 1 → ¬ (K = 5 ∨ K = 6) → ¬ (K = 7 ∨ K = 8) → D_bo al y = none := fun n1 n5 n7 => D_bo_no (by rw [← hK]; exact n1) (by rw [← hK]; omega) (by rw [← hK]; exact n5) (by rw [← hK]; exact n7)
  have h85 : ∀ v5 v6 v7 w0 : Int, D_f v5 (K = 1) → D_f v6 (K = 5 ∨ K = 6) → D_f v7 (K = 7 ∨ K = 8) → D_f w0 (K = 1 ∨ K = 6 ∨ K = 8) → g_Run (d + 3) 11 85 [(0, .ref o), (1, g_n v1), (2, g_n y.1), (3, g_n (s : Int)), (4, g_n y.2.1), (5, g_n v5), (6, g_n v6), (7, g_n v7)] [g_n w0] M (g_qI Q) := by
    intro v5 v6 v7 w0 f5 f6 f7 f8
    refine s_X0_bindSimple_85 h1R hyR hsR hkR f5.R f6.R f7.R f8.R fun _ => ⟨fun g4 => hno (D_bo_4 (by rw [← hK]; omega) g4), fun g4 => ⟨fun g6 => ⟨fun g7 => ⟨fun g8 => hno (hnone (by have := f8.n g8; omega) (f6.n g6) (f7.n g7)), fun g8 => h110 v5 v6 v7 w0 f5 f6 f7 f8 g4 ?_⟩, fun g7 => h110 v5 v6 v7 w0 f5 f6 f7 f8 g4 (Or.inr (Or.inr (f7.y g7)))⟩, fun g6 => h110 v5 v6 v7 w0 f5 f6 f7 f8 g4 (Or.inr (Or.inl (f6.y g6)))⟩⟩
    have y8 := f8.y g8
    have n6 := f6.n g6
    have n7 := f7.n g7
    omega
  have h61 : ∀ v5 v6 w0 : Int, D_f v5 (K = 1) → D_f v6 (K = 5 ∨ K = 6) → D_f w0 (K = 7 ∨ K = 8) → g_Run (d + 3) 11 61 [(0, .ref o), (1, g_n v1), (2, g_n y.1), (3, g_n (s : Int)), (4, g_n y.2.1), (5, g_n v5), (6, g_n v6)] [g_n w0] M (g_qI Q) := by
    intro v5 v6 w0 f5 f6 f7
    refine s_X0_bindSimple_61 h1R hyR hsR hkR f5.R f6.R f7.R fun _ => ⟨fun g5 => ⟨fun g6 => h85 v5 v6 w0 1 f5 f6 f7 (Or.inl ⟨by omega, rfl⟩), fun g6 => ⟨fun g8 => h85 v5 v6 w0 1 f5 f6 f7 (Or.inl ⟨by omega, rfl⟩), fun g8 => h85 v5 v6 w0 0 f5 f6 f7 (Or.inr ⟨?_, rfl⟩)⟩⟩, fun g5 => h85 v5 v6 w0 1 f5 f6 f7 (Or.inl ⟨Or.inl (f5.y g5), rfl⟩)⟩
    have n5 := f5.n g5
    omega
  have h42 : ∀ v5 w0 : Int, D_f v5 (K = 1) → D_f w0 (K = 5 ∨ K = 6) → g_Run (d + 3) 11 42 [(0, .ref o), (1, g_n v1), (2, g_n y.1), (3, g_n (s : Int)), (4, g_n y.2.1), (5, g_n v5)] [g_n w0] M (g_qI Q) := by
    intro v5 w0 f5 f6
    exact s_X0_bindSimple_42 h1R hyR hsR hkR f5.R f6.R fun _ => ⟨fun g => h61 v5 w0 1 f5 f6 (Or.inl ⟨by omega, rfl⟩), fun g => ⟨fun g2 => h61 v5 w0 1 f5 f6 (Or.inl ⟨by omega, rfl⟩), fun g2 => h61 v5 w0 0 f5 f6 (Or.inr ⟨by omega, rfl⟩)⟩⟩
  have h24 : ∀ w0 : Int, D_f w0 (K = 1) → g_Run (d + 3) 11 24 [(0, .ref o), (1, g_n v1), (2, g_n y.1), (3, g_n (s : Int)), (4, g_n y.2.1)] [g_n w0] M (g_qI Q) := by
    intro w0 f5
    exact s_X0_bindSimple_24 h1R hyR hsR hkR f5.R fun _ => ⟨fun g => h42 w0 1 f5 (Or.inl ⟨by omega, rfl⟩), fun g => ⟨fun g2 => h42 w0 1 f5 (Or.inl ⟨by omega, rfl⟩), fun g2 => h42 w0 0 f5 (Or.inr ⟨by omega, rfl⟩)⟩⟩
  refine m_X0_bindSimple (a0 := o) (d := d + 3) h1R hyR hsR fun _ => ⟨h.1, b, h.2.1.2.1, c_kd2 (d := d + 2) hb hn hy ?_⟩
  intro _ _ _
  exact ⟨fun g => h24 1 (Or.inl ⟨by omega, rfl⟩), fun g => ⟨fun g2 => h24 1 (Or.inl ⟨by omega, rfl⟩), fun g2 => h24 0 (Or.inr ⟨by omega, rfl⟩)⟩⟩
end BDC
