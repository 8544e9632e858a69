/-! EXPLAIN, THE CLASS: rank, ranges, the documents that are looked at -/
theorem D_any_zk (A : List D_i) (K : List (Int × b_E)) : (K.any fun z => A.any fun x => D_w x (D_kz z)) = (K.map I_zk).any (D_ink A) := by
  rw [List.any_map]
  rfl
theorem D_rk_s (A : List D_i) (b2 : Option (List D_i)) : D_rk (some A) b2 = if A.all D_isp = true then (match b2 with
  | none => 2
  | some _ => 3) else 1 := rfl
theorem D_rn_s (A : List D_i) (b2 : Option (List D_i)) : D_rn (some A) b2 = if A.all D_isp = true then (match b2 with
  | none => (A.length : Int)
  | some B => (A.length : Int) * (B.length : Int)) else (A.length : Int) := rfl
section BDJ
variable {o rm b ss cn d : Nat} {r : Nat → Nat} {n c e : Int} {M M1 : g_M} {A : List D_i} {L0 : List Int}
theorem Bd_o.kS {S : Nat → Prop} (h : Bd_o o rm b ss cn r M) (hP : k_P M rm b c e L0) (k : k_F S rm M M1) (hS : ∀ y, (y = o ∨ y = ss ∨ y = cn ∨ ∃ j : Nat, j < 5 ∧ y = r j) → ¬ S y) : Bd_o o rm b ss cn r M1 := by
  obtain ⟨k1, ⟨q1, q2, q3, q4⟩, A1, A2, hr, hi⟩ := h
  obtain ⟨-, r1⟩ := k.O hP k1 (by decide) (hS o (Or.inl rfl))
  obtain ⟨-, r2⟩ := k.A hP A1 (fun g => absurd g (by decide)) (hS ss (Or.inr (Or.inl rfl)))
  exact ⟨k1.up k.1, ⟨by rw [r1]; exact q1, by rw [r1]; exact q2, by rw [r1]; exact q3, by rw [r1]; exact q4⟩, A1.up k.1, A2.up k.1, fun j hj => ⟨by rw [r2]; exact (hr j hj).1, (hr j hj).2.up k.1⟩, hi⟩
theorem Bd_S.kS {S : Nat → Prop} {s : Nat} (hA : Bd_S cn r s A M) (hs : s < 5) (h : Bd_o o rm b ss cn r M) (hP : k_P M rm b c e L0) (k : k_F S rm M M1) (hS : ∀ y, (y = o ∨ y = ss ∨ y = cn ∨ ∃ j : Nat, j < 5 ∧ y = r j) → ¬ S y) : Bd_S cn r s A M1 := by
  obtain ⟨i1, -⟩ := k.A hP h.2.2.2.1 (by unfold k_n; omega) (hS cn (Or.inr (Or.inr (Or.inl rfl))))
  obtain ⟨i2, -⟩ := k.A hP (h.2.2.2.2.1 s hs).2 (by unfold k_n; omega) (hS (r s) (Or.inr (Or.inr (Or.inr ⟨s, hs, rfl⟩))))
  unfold Bd_S
  rw [i1, i2]
  exact hA
theorem c_isIn {Q : Int → g_M → Prop} {s i : Nat} {x : D_i} {z : Int × b_E} (h : Bd_o o rm b ss cn r M) (hb : g_A M b 0 n) (hn : n ≤ 1000000000) (hs : s < 5) (hA : Bd_S cn r s A M) (hi : A[i]? = some x) (hAl : A.length ≤ 700) (hx : Bd_io (g_i M b) n x) (hz : Bd_at (g_i M b) n (D_kz z)) (hq : Q (if D_w x (D_kz z) = true then 1 else 0) M) : g_Call (d + 45) 4 [.ref o, .ref (r s), g_n ((i : Int) * 4), g_n z.1] M (g_qI Q) := by
  have hil := (List.getElem?_eq_some_iff.mp hi).1
  obtain ⟨k1, ⟨q1, q2, q3, q4⟩, A1, A2, hr, hinj⟩ := id h
  have rs := (hr s hs).2
  obtain ⟨x0, x1, x2, x3⟩ := hA.2 i x hi
  obtain ⟨zs, zc, zl⟩ := hz.2 rfl
  have zs : b_st (g_i M b) n z.1 20 z.2.1 z.2.2.1 z.2.2.2 := zs
  have zR := zs.R hn
  have hiR : g_InR ((i : Int) * 4) := ⟨by omega, by omega⟩
  obtain ⟨cl, hcl⟩ : ∃ cl, cl = D_c (D_lo x) (D_kz z) := ⟨_, rfl⟩
  obtain ⟨ch, hch⟩ : ∃ ch, ch = D_c (D_kz z) (D_hi x) := ⟨_, rfl⟩
  have cl3 : cl = -1 ∨ cl = 0 ∨ cl = 1 := by
    rw [hcl]
    exact D_c_T.r _ _
  have ch3 : ch = -1 ∨ ch = 0 ∨ ch = 1 := by
    rw [hch]
    exact D_c_T.r _ _
  have hw : D_w x (D_kz z) = ((decide (cl < 0) || (decide (cl = 0) && x.2.2.1)) && (decide (ch < 0) || (decide (ch = 0) && x.2.2.2.2))) := by
    rw [hcl, hch]
    rfl
  rw [hw] at hq
  have inR := Bd_in_R x.2.2.1 x.2.2.2.2
  have h100 : (decide (cl < 0) || (decide (cl = 0) && x.2.2.1)) = true → ∀ v4, g_InR v4 → g_Run (d + 44) 4 100 [(0, .ref o), (1, .ref (r s)), (2, g_n ((i : Int) * 4)), (3, g_n z.1), (4, g_n v4), (5, g_n ch)] [] M (g_qI Q) := fun hlo v4 h4 => by
    rw [hlo, Bool.true_and] at hq
    refine s_X0_isIn_100 (a0 := o) hiR zR h4 (by rcases ch3 with g | g | g <;> rw [g] <;> exact ⟨by decide, by decide⟩) fun _ => ⟨fun g => ?_, fun g => ⟨fun g0 => ⟨⟨by omega, by omega⟩, 2800, rs, ⟨by omega, by omega⟩, ?_⟩, fun g0 => ?_⟩⟩
    · rw [decide_eq_true g, Bool.true_or] at hq
      exact hq
    · rw [x3]
      rw [decide_eq_false g, decide_eq_true g0, Bool.false_or, Bool.true_and] at hq
      refine ⟨fun g2 => ?_, fun g2 => ?_⟩
      · rw [(Bd_in_2 _ _).mp g2] at hq
        exact hq
      · have : x.2.2.2.2 = true := by
          cases hb2 : x.2.2.2.2
          · exact absurd ((Bd_in_2 _ _).mpr hb2) g2
          · rfl
        rw [this] at hq
        exact hq
    · rw [decide_eq_false g, decide_eq_false g0] at hq
      exact hq
  have h78 : g_Run (d + 44) 4 78 [(0, .ref o), (1, .ref (r s)), (2, g_n ((i : Int) * 4)), (3, g_n z.1), (4, g_n (-cl))] [g_n ch] M (g_qI Q) := by
    have h4R : g_InR (-cl) := by rcases cl3 with g | g | g <;> rw [g] <;> exact ⟨by decide, by decide⟩
    refine s_X0_isIn_78 (a0 := o) hiR zR h4R (by rcases ch3 with g | g | g <;> rw [g] <;> exact ⟨by decide, by decide⟩) fun _ => ⟨fun g => h100 ?_ _ h4R, fun g => ⟨fun g0 => ⟨⟨by omega, by omega⟩, 2800, rs, ⟨by omega, by omega⟩, ?_⟩, fun g0 => ?_⟩⟩
    · rw [decide_eq_true (show cl < 0 by omega), Bool.true_or]
    · rw [x3]
      refine ⟨fun g2 => ?_, fun g2 => h100 ?_ _ h4R⟩
      · rw [decide_eq_false (show ¬ cl < 0 by omega), (Bd_in_1 _ _).mp g2, Bool.and_false, Bool.false_or, Bool.false_and] at hq
        exact hq
      · have : x.2.2.1 = true := by
          cases hb2 : x.2.2.1
          · exact absurd ((Bd_in_1 _ _).mpr hb2) g2
          · rfl
        rw [this, decide_eq_true (show cl = 0 by omega), Bool.true_and, Bool.or_true]
    · rw [decide_eq_false (show ¬ cl < 0 by omega), decide_eq_false (show ¬ cl = 0 by omega), Bool.false_and, Bool.false_or, Bool.false_and] at hq
      exact hq
  have hcR := b_cl_R z.2.1
  refine m_X0_isIn (a0 := o) (d := d + 44) hiR zR fun _ => ⟨k1, b, q2, c_cl2 (d := d + 43) hb hn zs ?_⟩
  intro _ _ _
  refine ⟨2800, rs, ⟨by omega, by omega⟩, fun g => ⟨⟨by omega, by omega⟩, ⟨by omega, by omega⟩, ?_⟩, fun g => ?_⟩
  · rw [x0] at g
    rw [x1]
    have e1 : (D_lo x).1 = (D_kz z).1 := by
      rw [D_lo_1]
      exact g.symm
    have e2 : (D_kz z).1 = (D_hi x).1 := by
      rw [D_hi_1]
      exact g
    have h46 : g_Run (d + 44) 4 46 [(0, .ref o), (1, .ref (r s)), (2, g_n ((i : Int) * 4)), (3, g_n z.1)] [g_n (-cl)] M (g_qI Q) := by
      refine s_X0_isIn_46 (a0 := o) hiR zR (by rcases cl3 with g | g | g <;> rw [g] <;> exact ⟨by decide, by decide⟩) fun _ => ⟨⟨by omega, by omega⟩, 2800, rs, ⟨by omega, by omega⟩, ?_⟩
      rw [x2]
      rcases D_hi_k x with ⟨h0, e0⟩ | ⟨h0, y, e0, e3⟩
      · have hc1 : ch = -1 := by
          rw [hch, D_c_n e2 (by omega), h0]
          rfl
        rw [hc1] at h78
        refine ⟨fun _ => h78, fun w => absurd ?_ w⟩
        rw [e0]
        decide
      · have hy := hx.2
        rw [e3] at hy
        obtain ⟨yR, y0⟩ := Bd_at.R (k := 0) hy hn
        have e4 : L_opt x.2.2.2.1 = y.1 := by
          rw [e0]
          rfl
        rw [e4]
        refine ⟨fun w => absurd w (by omega), fun _ => ⟨k1, b, q2, b, q2, ⟨by omega, by omega⟩, ⟨by omega, by omega⟩, ?_⟩⟩
        have e5 : x.1 = b_cl z.2.1 := g.symm
        rw [e5] at hy e3
        refine c_cmpE (d := d) (c := b_cl z.2.1) hb hn hz hy ?_
        intro _ _ _
        have e6 : D_c (b_cl z.2.1, 1, z) (b_cl z.2.1, 1, y) = ch := by
          rw [hch, e3]
          rfl
        rw [e6]
        exact h78
    rcases D_lo_k x with ⟨h0, e0⟩ | ⟨h0, y, e0, e3⟩
    · have hc1 : cl = -1 := by
        rw [hcl, D_c_n e1 (by omega), h0]
        rfl
      rw [hc1] at h46
      refine ⟨fun _ => h46, fun w => absurd ?_ w⟩
      rw [e0]
      decide
    · have hy := hx.1
      rw [e3] at hy
      obtain ⟨yR, y0⟩ := Bd_at.R (k := 0) hy hn
      have e4 : L_opt x.2.1 = y.1 := by
        rw [e0]
        rfl
      rw [e4]
      refine ⟨fun w => absurd w (by omega), fun _ => ⟨b, q2, b, q2, ⟨by omega, by omega⟩, ⟨by omega, by omega⟩, ?_⟩⟩
      have e5 : x.1 = b_cl z.2.1 := g.symm
      rw [e5] at hy e3
      refine c_cmpE (d := d) (c := b_cl z.2.1) hb hn hz hy ?_
      intro _ _ _
      have e6 : D_c (b_cl z.2.1, 1, z) (b_cl z.2.1, 1, y) = -cl := by
        rw [hcl, e3]
        exact D_c_T.s _ _
      rw [e6]
      exact h46
  · rw [x0] at g
    have hfalse : ((decide (cl < 0) || (decide (cl = 0) && x.2.2.1)) && (decide (ch < 0) || (decide (ch = 0) && x.2.2.2.2))) = false := by
      have e1 : (D_lo x).1 = x.1 := D_lo_1 x
      have e2 : (D_hi x).1 = x.1 := D_hi_1 x
      have e3 : (D_kz z).1 = b_cl z.2.1 := rfl
      by_cases hlt : x.1 < b_cl z.2.1
      · have : ch = 1 := by
          rw [hch]
          exact D_c_gt (by rw [e2, e3]; exact hlt)
        rw [this]
        simp
      · have : cl = 1 := by
          rw [hcl]
          exact D_c_gt (by rw [e1, e3]; omega)
        rw [this]
        simp
    rw [hfalse] at hq
    exact hq
theorem c_someIn {Q : Int → g_M → Prop} {s ky : Nat} {K : List (Int × b_E)} (h : Bd_o o rm b ss cn r M) (hb : g_A M b 0 n) (hn : n ≤ 1000000000) (hs : s < 5) (hA : Bd_S cn r s A M) (hAl : A.length ≤ 700) (hx : ∀ x ∈ A, Bd_io (g_i M b) n x) (hky : g_A M ky 1 700) (hKl : K.length ≤ 700) (hat : b_at (g_i M ky) 0 (K.map Prod.fst)) (hK : ∀ z ∈ K, I_zs (g_i M b) n z) (hq : Q (if (K.map I_zk).any (D_ink A) = true then 1 else 0) M) : g_Call (d + 46) 3 [.ref o, g_n (s : Int), .ref ky, g_n (K.length : Int)] M (g_qI Q) := by
  obtain ⟨k1, ⟨q1, q2, q3, q4⟩, A1, A2, hr, hinj⟩ := id h
  obtain ⟨r1, r2⟩ := hr s hs
  have hsR : g_InR (s : Int) := ⟨by omega, by omega⟩
  have hkR : g_InR (K.length : Int) := ⟨by omega, by omega⟩
  rw [← D_any_zk] at hq
  have hlp : ∀ (B C : List (Int × b_E)), K = C ++ B → (C.any fun z => A.any fun x => D_w x (D_kz z)) = false → g_Run (d + 45) 3 3 [(0, .ref o), (1, g_n (s : Int)), (2, .ref ky), (3, g_n (K.length : Int)), (4, g_n (C.length : Int))] [] M (g_qI Q) := by
    intro B
    induction B with
    | nil =>
      intro C hC hf
      rw [List.append_nil] at hC
      rw [hC, hf] at hq
      have hCl := congrArg List.length hC
      exact s_X0_someIn_3 (a0 := o) hsR hkR ⟨by omega, by omega⟩ fun _ => ⟨fun g => absurd g (by omega), fun _ => hq⟩
    | cons z B ih =>
      intro C hC hf
      have hCl := congrArg List.length hC
      rw [List.length_append, List.length_cons] at hCl
      have hzm : z ∈ K := by rw [hC]; simp
      obtain ⟨z1, z2⟩ := hK z hzm
      have hzat : Bd_at (g_i M b) n (D_kz z) := ⟨b_cl_R _, fun _ => ⟨z1.le (by decide), rfl, z2⟩⟩
      have hzv : g_i M ky (C.length : Int) = z.1 := by
        have h9 := hat C.length z.1 (by
          rw [List.getElem?_map, hC, List.getElem?_append_right (Nat.le_refl _), Nat.sub_self]
          rfl)
        rw [Int.zero_add] at h9
        exact h9
      have hin : ∀ (Y X : List D_i), A = X ++ Y → (X.any fun x => D_w x (D_kz z)) = false → g_Run (d + 45) 3 12 [(0, .ref o), (1, g_n (s : Int)), (2, .ref ky), (3, g_n (K.length : Int)), (4, g_n (C.length : Int)), (5, g_n (X.length : Int))] [] M (g_qI Q) := by
        intro Y
        induction Y with
        | nil =>
          intro X hX hfx
          rw [List.append_nil] at hX
          have hXl := congrArg List.length hX
          have h9 := ih (C ++ [z]) (by rw [hC]; simp) (by
            rw [List.any_append, hf, Bool.false_or, List.any_cons, List.any_nil, Bool.or_false, hX]
            exact hfx)
          rw [show ((C ++ [z]).length : Int) = (C.length : Int) + 1 by rw [List.length_append, List.length_singleton]; omega] at h9
          exact s_X0_someIn_12 (a0 := o) hsR hkR ⟨by omega, by omega⟩ ⟨by omega, by omega⟩ fun _ => ⟨k1, cn, q4, 5, A2, ⟨by omega, by omega⟩, fun g => absurd g (by rw [hA.1]; omega), fun _ => ⟨⟨by omega, by omega⟩, h9⟩⟩
        | cons x Y ihy =>
          intro X hX hfx
          have hXl := congrArg List.length hX
          rw [List.length_append, List.length_cons] at hXl
          have hxi : A[X.length]? = some x := by
            rw [hX, List.getElem?_append_right (Nat.le_refl _), Nat.sub_self]
            rfl
          refine s_X0_someIn_12 (a0 := o) hsR hkR ⟨by omega, by omega⟩ ⟨by omega, by omega⟩ fun _ => ⟨k1, cn, q4, 5, A2, ⟨by omega, by omega⟩, fun _ => ⟨ss, q3, 5, A1, ⟨by omega, by omega⟩, r s, r1, ⟨by omega, by omega⟩, 700, hky, ⟨by omega, by omega⟩, ?_⟩, fun g => absurd (by rw [hA.1]; omega) g⟩
          rw [hzv]
          refine c_isIn (d := d) (s := s) (i := X.length) (x := x) (z := z) h hb hn hs hA hxi hAl (hx x (by rw [hX]; simp)) hzat ?_
          intro _ _ _
          cases hw : D_w x (D_kz z)
          · refine ⟨fun _ => ⟨⟨by omega, by omega⟩, ?_⟩, fun g => absurd (if_neg (by decide)) g⟩
            have h9 := ihy (X ++ [x]) (by rw [hX]; simp) (by
              rw [List.any_append, hfx, Bool.false_or, List.any_cons, List.any_nil, Bool.or_false]
              exact hw)
            rw [show ((X ++ [x]).length : Int) = (X.length : Int) + 1 by rw [List.length_append, List.length_singleton]; omega] at h9
            exact h9
          · refine ⟨fun g => absurd g (by decide), fun _ => ?_⟩
            have htrue : (K.any fun z => A.any fun x => D_w x (D_kz z)) = true := by
              refine List.any_eq_true.mpr ⟨z, hzm, ?_⟩
              exact List.any_eq_true.mpr ⟨x, by rw [hX]; simp, hw⟩
            rw [htrue] at hq
            exact hq
      exact s_X0_someIn_3 (a0 := o) hsR hkR ⟨by omega, by omega⟩ fun _ => ⟨fun _ => hin A [] rfl rfl, fun g => absurd (by omega) g⟩
  exact m_X0_someIn (a0 := o) (d := d + 45) hsR hkR fun _ => hlp K [] rfl rfl
theorem c_isPoints {Q : Int → g_M → Prop} {s : Nat} (h : Bd_o o rm b ss cn r M) (hb : g_A M b 0 n) (hn : n ≤ 1000000000) (hs : s < 5) (hA : Bd_S cn r s A M) (hAl : A.length ≤ 700) (hx : ∀ x ∈ A, Bd_io (g_i M b) n x) (hq : Q (if A.all D_isp = true then 1 else 0) M) : g_Call (d + 45) 5 [.ref o, g_n (s : Int)] M (g_qI Q) := by
  obtain ⟨k1, ⟨q1, q2, q3, q4⟩, A1, A2, hr, hinj⟩ := id h
  obtain ⟨r1, r2⟩ := hr s hs
  have hsR : g_InR (s : Int) := ⟨by omega, by omega⟩
  have hlp : ∀ (Y X : List D_i), A = X ++ Y → X.all D_isp = true → g_Run (d + 44) 5 2 [(0, .ref o), (1, g_n (s : Int)), (2, g_n (X.length : Int))] [] M (g_qI Q) := by
    intro Y
    induction Y with
    | nil =>
      intro X hX hf
      rw [List.append_nil] at hX
      have hXl := congrArg List.length hX
      rw [hX, hf] at hq
      exact s_X0_isPoints_2 (a0 := o) hsR ⟨by omega, by omega⟩ fun _ => ⟨k1, cn, q4, 5, A2, ⟨by omega, by omega⟩, fun g => absurd g (by rw [hA.1]; omega), fun _ => hq⟩
    | cons x Y ih =>
      intro X hX hf
      have hXl := congrArg List.length hX
      rw [List.length_append, List.length_cons] at hXl
      have hxm : x ∈ A := by rw [hX]; simp
      have hxi : A[X.length]? = some x := by
        rw [hX, List.getElem?_append_right (Nat.le_refl _), Nat.sub_self]
        rfl
      obtain ⟨x0, x1, x2, x3⟩ := hA.2 _ x hxi
      obtain ⟨xa, xb⟩ := hx x hxm
      have hno : D_isp x = false → Q 0 M := fun hp => by
        have : A.all D_isp = false := by
          rw [hX, List.all_append, List.all_cons, hp, Bool.false_and, Bool.and_false]
        rw [this] at hq
        exact hq
      refine s_X0_isPoints_2 (a0 := o) hsR ⟨by omega, by omega⟩ fun _ => ⟨k1, cn, q4, 5, A2, ⟨by omega, by omega⟩, fun _ => ⟨ss, q3, 5, A1, ⟨by omega, by omega⟩, r s, r1, ⟨by omega, by omega⟩, ⟨by omega, by omega⟩, 2800, r2, ⟨by omega, by omega⟩, ss, q3, 5, A1, ⟨by omega, by omega⟩, r s, r1, ⟨by omega, by omega⟩, ⟨by omega, by omega⟩, 2800, r2, ⟨by omega, by omega⟩, ?_⟩, fun g => absurd (by rw [hA.1]; omega) g⟩
      rw [x1, x2]
      rcases D_lo_k x with ⟨h0, e0⟩ | ⟨h0, y, e0, e3⟩
      · have hp : D_isp x = false := by
          unfold D_isp
          rw [e0]
        refine ⟨fun _ => hno hp, fun w => absurd ?_ w⟩
        rw [e0]
        decide
      · rcases D_hi_k x with ⟨h4, e4⟩ | ⟨h4, w, e4, e5⟩
        · have hp : D_isp x = false := by
            unfold D_isp
            rw [e0, e4]
          refine ⟨fun _ => hno hp, fun _ => ⟨fun _ => hno hp, fun w => absurd ?_ w⟩⟩
          rw [e4]
          decide
        · rw [e3] at xa
          rw [e5] at xb
          have y0 := (Bd_at.R (k := 0) xa hn).2
          have w0 := (Bd_at.R (k := 0) xb hn).2
          have ey : L_opt x.2.1 = y.1 := by
            rw [e0]
            rfl
          have ew : L_opt x.2.2.2.1 = w.1 := by
            rw [e4]
            rfl
          rw [ey, ew]
          refine ⟨fun g => absurd g (by omega), fun _ => ⟨fun g => absurd g (by omega), fun _ => ⟨b, q2, b, q2, c_cmpE (d := d) (c := x.1) hb hn xa xb ?_⟩⟩⟩
          intro _ _ _
          have hp : D_isp x = F_eq y.2 w.2 := by
            unfold D_isp
            rw [e0, e4]
          have hcv : D_c (x.1, 1, y) (x.1, 1, w) = v_cmp 61 y.2.1 y.2.2.2 w.2.1 w.2.2.2 := D_c_v (e := (x.1, 1, y)) (f := (x.1, 1, w)) rfl rfl rfl
          rw [hcv]
          refine ⟨fun g => ⟨⟨by omega, by omega⟩, ?_⟩, fun g => hno ?_⟩
          · have hp1 : D_isp x = true := hp.trans (decide_eq_true g)
            have h9 := ih (X ++ [x]) (by rw [hX]; simp) (by rw [List.all_append, hf, Bool.true_and, List.all_cons, List.all_nil, Bool.and_true]; exact hp1)
            rw [show ((X ++ [x]).length : Int) = (X.length : Int) + 1 by rw [List.length_append, List.length_singleton]; omega] at h9
            exact h9
          · exact hp.trans (decide_eq_false g)
  exact m_X0_isPoints (a0 := o) (d := d + 44) hsR fun _ => hlp A [] rfl rfl
theorem c_rankBy {Q : g_M → Prop} {b1 b2 : Option (List D_i)} (h : Bd_o o rm b ss cn r M) (hb : g_A M b 0 n) (hn : n ≤ 1000000000) (h1 : ∀ A, b1 = some A → Bd_S cn r 0 A M ∧ A.length ≤ 700 ∧ ∀ x ∈ A, Bd_io (g_i M b) n x) (h2 : ∀ A, b2 = some A → Bd_S cn r 1 A M ∧ A.length ≤ 700) (hq : ∀ M1, e_fr (fun y k => y = o ∧ (k = 4 ∨ k = 5)) M M1 → g_i M1 o 4 = D_rk b1 b2 → g_i M1 o 5 = D_rn b1 b2 → Q M1) : g_Call (d + 46) 1 [.ref o, g_n (if b1.isSome = true then 1 else 0), g_n (if b2.isSome = true then 1 else 0)] M (g_qV Q) := by
  have hbR : ∀ q : Bool, g_InR (if q = true then 1 else 0) := fun q => by cases q <;> exact ⟨by decide, by decide⟩
  refine m_X0_rankBy (a0 := o) (d := d + 45) (hbR _) (hbR _) fun _ => ⟨h.1, fun M2 x2 _ M6 x6 _ => ?_⟩
  have f6 : e_fr (fun y k => y = o ∧ (k = 4 ∨ k = 5)) M M6 := by
    rw [x6, x2]
    exact (e_fr.wi _ ⟨rfl, Or.inl rfl⟩).tr (e_fr.wi _ ⟨rfl, Or.inr rfl⟩)
  cases hb1 : b1 with
  | none =>
    rw [hb1] at hq
    refine ⟨fun _ => hq M6 f6 ?_ ?_, fun g => absurd rfl g⟩
    · rw [x6, g_i_ws, if_neg (by decide), x2, g_i_ws, if_pos rfl]
      rfl
    · rw [x6, g_i_ws, if_pos rfl]
      rfl
  | some A =>
    rw [hb1] at hq
    obtain ⟨S1, l1, io1⟩ := h1 A hb1
    refine ⟨fun g => absurd (show (1 : Int) = 0 from g) (by decide), fun _ => ?_⟩
    have noA : ∀ {y t : Nat} {l k : Int}, g_A M y t l → ¬ (y = o ∧ (k = 4 ∨ k = 5)) := fun g z => g_neOA h.1 g z.1.symm
    have h6 := h.fr f6
    have cnA := h.2.2.2.1
    have hSet : ∀ {s : Nat} {B : List D_i} {M' : g_M}, s < 5 → Bd_S cn r s B M → e_fr (fun y k => y = o ∧ (k = 4 ∨ k = 5)) M M' → Bd_S cn r s B M' := fun {s B M'} hs5 g f => by
      refine ⟨by rw [f.2.1 _ _ (noA cnA)]; exact g.1, fun i x hi => ?_⟩
      have ra := (h.2.2.2.2.1 s hs5).2
      rw [f.2.1 _ _ (noA ra), f.2.1 _ _ (noA ra), f.2.1 _ _ (noA ra), f.2.1 _ _ (noA ra)]
      exact g.2 i x hi
    have bF : g_i M6 b = g_i M b := funext fun k => f6.2.1 _ _ (noA hb)
    have hrk := D_rk_s A b2
    have hrn := D_rn_s A b2
    have h38 : ∀ (v3 w0 : Int), g_InR v3 → g_InR w0 → w0 = D_rk (some A) b2 → g_Run (d + 45) 1 38 [(0, .ref o), (1, g_n 1), (2, g_n (if b2.isSome = true then 1 else 0)), (3, g_n v3)] [g_n w0, .ref o] M6 (g_qV Q) := fun v3 w0 h3 h0 hw => by
      refine s_X0_rankBy_38 (a0 := o) ⟨by decide, by decide⟩ (hbR _) h3 h0 fun _ => ⟨h6.1, fun M7 x7 _ => ?_⟩
      have f7 : e_fr (fun y k => y = o ∧ (k = 4 ∨ k = 5)) M M7 := f6.tr (by
        rw [x7]
        exact e_fr.wi _ ⟨rfl, Or.inl rfl⟩)
      have h7 := h.fr f7
      have v4 : g_i M7 o 4 = w0 := by rw [x7, g_i_ws, if_pos rfl]
      have c0 : g_i M7 cn 0 = A.length := (hSet (by decide) S1 f7).1
      refine ⟨h7.1, fun g3 => ?_, fun g3 => ?_⟩
      · rw [v4] at g3
        rw [g3] at hw
        cases hb2 : b2 with
        | none =>
          rw [hb2] at hw hrk
          rw [hrk] at hw
          split at hw
          · exact absurd hw (by decide)
          · exact absurd hw (by decide)
        | some B =>
          obtain ⟨S2, l2⟩ := h2 B hb2
          have c1 : g_i M7 cn 1 = B.length := (hSet (by decide) S2 f7).1
          rw [hb2] at hw hrk hrn hq
          have hall : A.all D_isp = true := by
            rw [hrk] at hw
            split at hw
            · assumption
            · exact absurd hw (by decide)
          have hmul1 : (A.length : Int) * (B.length : Int) ≤ 700 * 700 := Int.mul_le_mul (by omega) (by omega) (by omega) (by omega)
          have hmul2 : 0 ≤ (A.length : Int) * (B.length : Int) := Int.mul_nonneg (by omega) (by omega)
          refine ⟨cn, h7.2.1.2.2.2, 5, h7.2.2.2.1, ⟨by decide, by decide⟩, cn, h7.2.1.2.2.2, 5, h7.2.2.2.1, ⟨by decide, by decide⟩, ?_⟩
          rw [c0, c1]
          refine ⟨⟨by omega, by omega⟩, fun M27 x27 _ => hq M27 (f7.tr (by rw [x27]; exact e_fr.wi _ ⟨rfl, Or.inr rfl⟩)) ?_ ?_⟩
          · rw [x27, g_i_ws, if_neg (by decide), v4, g3]
            exact hw
          · rw [x27, g_i_ws, if_pos rfl, hrn, if_pos hall]
      · rw [v4] at g3
        refine ⟨cn, h7.2.1.2.2.2, 5, h7.2.2.2.1, ⟨by decide, by decide⟩, fun M12 x12 _ => hq M12 (f7.tr (by rw [x12]; exact e_fr.wi _ ⟨rfl, Or.inr rfl⟩)) ?_ ?_⟩
        · rw [x12, g_i_ws, if_neg (by decide), v4]
          exact hw
        · rw [x12, g_i_ws, if_pos rfl, c0, hrn]
          by_cases hall : A.all D_isp = true
          · rw [if_pos hall]
            cases hb2 : b2 with
            | none => rfl
            | some B =>
              rw [hb2] at hw hrk
              rw [hrk, if_pos hall] at hw
              exact absurd hw g3
          · rw [if_neg hall]
    have S16 := hSet (by decide) S1 f6
    refine c_isPoints (d := d) (s := 0) (A := A) h6 (f6.A hb) hn (by decide) S16 l1 (by rw [bF]; exact io1) ?_
    intro _ _ _
    cases hall : A.all D_isp
    · refine ⟨fun _ => h38 _ 1 ⟨by decide, by decide⟩ ⟨by decide, by decide⟩ ?_, fun g => absurd (if_neg (by decide)) g⟩
      rw [hrk, if_neg (by rw [hall]; decide)]
    · refine ⟨fun g => absurd g (by decide), fun _ => ?_⟩
      rw [if_pos hall] at hrk
      cases hb2 : b2 with
      | none =>
        rw [hb2] at h38 hrk
        exact ⟨fun _ => h38 _ 2 ⟨by decide, by decide⟩ ⟨by decide, by decide⟩ hrk.symm, fun g => absurd rfl g⟩
      | some B =>
        rw [hb2] at h38 hrk
        exact ⟨fun g => absurd (show (1 : Int) = 0 from g) (by decide), fun _ => h38 _ 3 ⟨by decide, by decide⟩ ⟨by decide, by decide⟩ hrk.symm⟩
end BDJ
