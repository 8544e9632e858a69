/-! EXPLAIN, THE CLASS: the conditions that a filter has for a path, all -/
section BDH
variable {o rm b ss cn po f t a : Nat} {r : Nat → Nat} {X : List Int} {n c e : Int} {F : Int → Int}
theorem c_collect (hn : n ≤ 1000000000) (h8 : (p_sp X).length ≤ 8) : ∀ (n0 D : Nat) (p : Int) (y : b_E) (L : List Int) (M : g_M) (Q : g_M → Prop) (d : Nat) (v3 : Int), Bd_c o rm b ss cn r po f t a X n F c e L M → b_st F n p D y.1 y.2.1 y.2.2 → y.1 = 3 → y.2.2.length ≤ 3000 → D ≤ 2 * n0 → D_cv n0 X (L_ch p y) → L.length + (D_co n0 X (L_ch p y)).length ≤ 1000 → 0 ≤ v3 → v3 + n0 ≤ 59 → (∀ M1, k_F k_0 rm M M1 → Bd_c o rm b ss cn r po f t a X n F c e (L ++ (D_co n0 X (L_ch p y)).map (fun z => z.2.1)) M1 → Q M1) → g_Call (d + n0 + 6) 8 [.ref o, g_n p, .ref po, g_n v3] M (g_qV Q) := by
  intro n0
  induction n0 with
  | zero =>
    intro D p y L M Q d v3 _ hs hk _ hD
    obtain ⟨D1, xs, e1, -⟩ := hs.ch (Or.inl hk)
    omega
  | succ n0 ih =>
    intro D p y L M Q d v3 hB hs hk hvl hD hcv hLl h30 h3n hq
    obtain ⟨D1, xs, eD, hsts, hLc, hvb, hxl⟩ := L_ch_stc (y := (p, y)) hs (Or.inl hk)
    have hLc : L_ch p y = L_at (p + 6 + y.2.1.length) xs := hLc
    have hsts : b_sts F n (p + 6 + y.2.1.length) D1 xs := hsts
    have hvb : y.2.2 = b_doc xs := hvb
    have hxl : 2 * xs.length + 5 ≤ y.2.2.length := hxl
    obtain ⟨c0, hc0⟩ : ∃ c0, c0 = p + 6 + (y.2.1.length : Int) := ⟨_, rfl⟩
    rw [← hc0] at hsts hLc
    rw [hLc] at hcv hLl hq
    rw [D_co_s] at hLl hq
    have hpR := hs.R hn
    have h3R : g_InR v3 := ⟨by omega, by omega⟩
    have hvls : ∀ z ∈ xs, z.2.2.length ≤ 3000 := fun z hz => by
      have h2 := b_ser_mem hz
      rw [hvb, b_doc_len] at hvl
      omega
    obtain ⟨K, hK⟩ : ∃ K : List b_E → List Int, K = fun A => ((L_at c0 A).flatMap (D_co1 n0 X)).map fun z => z.2.1 := ⟨_, rfl⟩
    have hKe : ∀ A, K A = ((L_at c0 A).flatMap (D_co1 n0 X)).map fun z => z.2.1 := fun A => by rw [hK]
    have hlp : ∀ (X2 X1 : List b_E) (M' : g_M), xs = X1 ++ X2 → k_F k_0 rm M M' → Bd_c o rm b ss cn r po f t a X n F c e (L ++ K X1) M' → g_Run (d + n0 + 6) 8 13 [(0, .ref o), (1, g_n p), (2, .ref po), (3, g_n v3), (4, g_n (c0 + (b_ser X1).length)), (5, g_n (X1.length : Int))] [] M' (g_qV Q) := by
      intro X2
      induction X2 with
      | nil =>
        intro X1 M' hX k' B'
        rw [List.append_nil] at hX
        have hXl := congrArg List.length hX
        obtain ⟨h', hP', hb', hF', hT'⟩ := id B'
        have hE : b_sts (g_i M' b) n (c0 + (b_ser X1).length) D1 [] := by
          rw [hF', ← hX]
          have h9 : b_sts F n c0 D1 (xs ++ []) := by
            rw [List.append_nil]
            exact hsts
          exact h9.app
        have hq0 := hE.2.2
        rw [hKe, ← hX] at B'
        refine s_X0_collect_13 hpR h3R ⟨by omega, by omega⟩ ⟨by omega, by omega⟩ fun _ => ⟨fun _ => ⟨h'.1, b, h'.2.1.2.1, c_kdE (d := d + n0 + 5) hb' hn hE ?_⟩, fun g => absurd (by omega) g⟩
        intro _ _ _
        exact ⟨fun _ => hq M' k' B', fun g => absurd rfl g⟩
      | cons z X2 ihx =>
        intro X1 M' hX k' B'
        obtain ⟨h', hP', hb', hF', hT'⟩ := id B'
        obtain ⟨q, hqq⟩ : ∃ q, q = c0 + ((b_ser X1).length : Int) := ⟨_, rfl⟩
        have hz : b_st F n q D1 z.1 z.2.1 z.2.2 := by
          have hX2 := hsts
          rw [hX] at hX2
          rw [hqq]
          exact hX2.at
        have hzR := hz.R hn
        have hzk := b_vs_pos (b_gv_vs hz.2.2.1)
        have hsn : L_at c0 (X1 ++ [z]) = L_at c0 X1 ++ [(q, z)] := L_at_sn0 hqq
        have hXl := congrArg List.length hX
        rw [List.length_append, List.length_cons] at hXl
        have hzv := hvls z (by rw [hX]; simp)
        have hLx : L_at c0 xs = L_at c0 X1 ++ (q, z) :: L_at (q + (b_el z.1 z.2.1 z.2.2).length) X2 := by
          rw [hX, L_at_ap, hqq]
          rfl
        have hKs : K (X1 ++ [z]) = K X1 ++ (D_co1 n0 X (q, z)).map fun z => z.2.1 := by
          rw [hKe, hKe, hsn, List.flatMap_append, List.map_append, List.flatMap_cons, List.flatMap_nil, List.append_nil]
        have hKl : (L ++ K X1).length + (D_co1 n0 X (q, z)).length ≤ 1000 := by
          rw [hLx, List.flatMap_append, List.flatMap_cons, List.length_append, List.length_append] at hLl
          rw [List.length_append, hKe, List.length_map]
          omega
        obtain ⟨cv1, cv2⟩ := hcv (q, z) (by rw [hLx]; simp)
        rw [← hqq]
        -- on to the next element
        have hadv : ∀ M2, k_F k_0 rm M M2 → Bd_c o rm b ss cn r po f t a X n F c e ((L ++ K X1) ++ (D_co1 n0 X (q, z)).map fun z => z.2.1) M2 → g_Call (d + n0 + 6) 111 [.ref b, g_n q] M2 (g_qI fun r7 M4 => g_ext M2 M4 → g_ok M4 → g_InR r7 → g_InR ((X1.length : Int) + 1) ∧ g_Run (d + n0 + 6) 8 13 [(0, .ref o), (1, g_n p), (2, .ref po), (3, g_n v3), (4, g_n r7), (5, g_n ((X1.length : Int) + 1))] [] M4 (g_qV Q)) := fun M2 k2 B2 => by
          refine c_nx2 (d := d + n0 + 5) B2.2.2.1 hn (by rw [B2.2.2.2.1]; exact hz) ?_
          intro _ _ _
          refine ⟨⟨by omega, by omega⟩, ?_⟩
          have h9 := ihx (X1 ++ [z]) M2 (by rw [hX]; simp) k2 (by rw [hKs, ← List.append_assoc]; exact B2)
          have e1 : (b_ser [z]).length = (b_el z.1 z.2.1 z.2.2).length := by
            show (b_el z.1 z.2.1 z.2.2 ++ []).length = _
            rw [List.append_nil]
          rw [show ((X1 ++ [z]).length : Int) = (X1.length : Int) + 1 by rw [List.length_append, List.length_singleton]; omega, b_ser_app, List.length_append, e1, Int.natCast_add, ← Int.add_assoc, ← hqq] at h9
          exact h9
        have hz' : b_st (g_i M' b) n q D1 z.1 z.2.1 z.2.2 := by
          rw [hF']
          exact hz
        refine s_X0_collect_13 hpR h3R hzR ⟨by omega, by omega⟩ fun _ => ⟨fun _ => ⟨h'.1, b, h'.2.1.2.1, c_kd2 (d := d + n0 + 5) hb' hn hz' ?_⟩, fun g => absurd (by omega) g⟩
        intro _ _ _
        refine ⟨fun g => absurd g (by omega), fun _ => ⟨fun _ => ⟨b, h'.2.1.2.1, c_nm3 (d := d + n0 + 3) (j := 60) (by decide) hb' hn hz' (fun hnm => ?_) fun hnm => ?_⟩, fun g => absurd (by omega) g⟩⟩
        · -- $and
          intro _ _ _
          refine ⟨fun g => absurd g (by decide), fun _ => ⟨b, h'.2.1.2.1, c_fi2 (d := d + n0 + 5) hb' hn hz' ?_⟩⟩
          intro _ _ _
          have hnm2 : z.2.1 = b_tx 94 := hnm
          obtain ⟨zk4, zit⟩ := cv1 hnm2
          have hco1 : D_co1 n0 X (q, z) = (L_ch q z).flatMap fun i => D_co n0 X (L_ch i.1 i.2) := if_pos hnm2
          obtain ⟨D2, ys, eD2, hsty, hLy, hvy, hyl⟩ := L_ch_stc (y := (q, z)) hz (Or.inr zk4)
          have hLy : L_ch q z = L_at (q + 6 + z.2.1.length) ys := hLy
          have hsty : b_sts F n (q + 6 + z.2.1.length) D2 ys := hsty
          have hvy : z.2.2 = b_doc ys := hvy
          have hyl : 2 * ys.length + 5 ≤ z.2.2.length := hyl
          obtain ⟨c2, hc2⟩ : ∃ c2, c2 = q + 6 + (z.2.1.length : Int) := ⟨_, rfl⟩
          rw [← hc2] at hsty hLy ⊢
          rw [hLy] at hco1 zit
          rw [hco1] at hKl hadv
          have hin : ∀ (Y2 Y1 : List b_E) (M2 : g_M), ys = Y1 ++ Y2 → k_F k_0 rm M M2 → Bd_c o rm b ss cn r po f t a X n F c e ((L ++ K X1) ++ ((L_at c2 Y1).flatMap fun i => D_co n0 X (L_ch i.1 i.2)).map fun z => z.2.1) M2 → g_Run (d + n0 + 6) 8 67 [(0, .ref o), (1, g_n p), (2, .ref po), (3, g_n v3), (4, g_n q), (5, g_n (X1.length : Int)), (6, g_n (c2 + (b_ser Y1).length)), (7, g_n (Y1.length : Int))] [] M2 (g_qV Q) := by
            intro Y2
            induction Y2 with
            | nil =>
              intro Y1 M2 hY k2 B2
              rw [List.append_nil] at hY
              have hYl := congrArg List.length hY
              obtain ⟨h2, hP2, hb2, hF2, hT2⟩ := id B2
              have hE : b_sts (g_i M2 b) n (c2 + (b_ser Y1).length) D2 [] := by
                rw [hF2, ← hY]
                have h9 : b_sts F n c2 D2 (ys ++ []) := by
                  rw [List.append_nil]
                  exact hsty
                exact h9.app
              have hq0 := hE.2.2
              rw [← hY] at B2
              refine s_X0_collect_67 hpR h3R hzR ⟨by omega, by omega⟩ ⟨by omega, by omega⟩ ⟨by omega, by omega⟩ fun _ => ⟨fun _ => ⟨h2.1, b, h2.2.1.2.1, c_kdE (d := d + n0 + 5) hb2 hn hE ?_⟩, fun g => absurd (by omega) g⟩
              intro _ _ _
              exact ⟨fun _ => ⟨b, h2.2.1.2.1, hadv M2 k2 B2⟩, fun g => absurd rfl g⟩
            | cons u Y2 ihy =>
              intro Y1 M2 hY k2 B2
              obtain ⟨h2, hP2, hb2, hF2, hT2⟩ := id B2
              obtain ⟨uq, huq⟩ : ∃ uq, uq = c2 + ((b_ser Y1).length : Int) := ⟨_, rfl⟩
              have hu : b_st F n uq D2 u.1 u.2.1 u.2.2 := by
                have hX2 := hsty
                rw [hY] at hX2
                rw [huq]
                exact hX2.at
              have huR := hu.R hn
              have huk := b_vs_pos (b_gv_vs hu.2.2.1)
              have hsn2 : L_at c2 (Y1 ++ [u]) = L_at c2 Y1 ++ [(uq, u)] := L_at_sn0 huq
              have hYl := congrArg List.length hY
              rw [List.length_append, List.length_cons] at hYl
              have huv : u.2.2.length ≤ 3000 := by
                have h3 := b_ser_mem (es := ys) (e := u) (by rw [hY]; simp)
                rw [hvy, b_doc_len] at hzv
                omega
              have hLy2 : L_at c2 ys = L_at c2 Y1 ++ (uq, u) :: L_at (uq + (b_el u.1 u.2.1 u.2.2).length) Y2 := by
                rw [hY, L_at_ap, huq]
                rfl
              obtain ⟨u3, ucv⟩ := zit (uq, u) (by rw [hLy2]; simp)
              have u3 : u.1 = 3 := u3
              have hu' : b_st (g_i M2 b) n uq D2 u.1 u.2.1 u.2.2 := by
                rw [hF2]
                exact hu
              rw [← huq]
              refine s_X0_collect_67 hpR h3R hzR ⟨by omega, by omega⟩ huR ⟨by omega, by omega⟩ fun _ => ⟨fun _ => ⟨h2.1, b, h2.2.1.2.1, c_kd2 (d := d + n0 + 5) hb2 hn hu' ?_⟩, fun g => absurd (by omega) g⟩
              intro _ _ _
              refine ⟨fun g => absurd g (by omega), fun _ => ⟨⟨by omega, by omega⟩, ?_⟩⟩
              refine ih D2 uq u _ M2 _ d (v3 + 1) B2 hu u3 huv (by omega) ucv ?_ (by omega) (by omega) fun M3 k3 B3 => ?_
              · rw [hLy2, List.flatMap_append, List.flatMap_cons] at hKl
                simp only [List.length_append, List.length_map] at hKl ⊢
                omega
              · intro _ _
                refine ⟨b, B3.1.2.1.2.1, c_nx2 (d := d + n0 + 5) B3.2.2.1 hn (by rw [B3.2.2.2.1]; exact hu) ?_⟩
                intro _ _ _
                refine ⟨⟨by omega, by omega⟩, ?_⟩
                have h9 := ihy (Y1 ++ [u]) M3 (by rw [hY]; simp) (k2.tr k3) (by
                  rw [hsn2, List.flatMap_append, List.map_append, List.flatMap_cons, List.flatMap_nil, List.append_nil, ← List.append_assoc]
                  exact B3)
                have e1 : (b_ser [u]).length = (b_el u.1 u.2.1 u.2.2).length := by
                  show (b_el u.1 u.2.1 u.2.2 ++ []).length = _
                  rw [List.append_nil]
                rw [show ((Y1 ++ [u]).length : Int) = (Y1.length : Int) + 1 by rw [List.length_append, List.length_singleton]; omega, b_ser_app, List.length_append, e1, Int.natCast_add, ← Int.add_assoc, ← huq] at h9
                exact h9
          have h9 := hin ys [] M' rfl k' (by
            have e1 : (((L_at c2 []).flatMap fun i => D_co n0 X (L_ch i.1 i.2)).map fun z : Bool × (Int × b_E) => z.2.1) = [] := rfl
            rw [e1, List.append_nil]
            exact B')
          rw [show c2 + ((b_ser ([] : List b_E)).length : Int) = c2 by show c2 + ((0 : Nat) : Int) = c2; omega] at h9
          exact h9
        · intro _ _ _
          have hnm2 : ¬ z.2.1 = b_tx 94 := hnm
          refine ⟨fun _ => ⟨b, h'.2.1.2.1, hT'.P.1, c_isNameOf (d := d + n0 + 3) hT' h8 hb' hn hz' (fun hX1 => ?_) fun hX1 => ?_⟩, fun g => absurd rfl g⟩
          · -- its name is the path
            intro _ _ _
            refine ⟨fun g => absurd g (by decide), fun _ => ⟨b, h'.2.1.2.1, c_isConds (d := d + n0 + 4) hb' hn hz' (fun hcs => ?_) fun hcs => ?_⟩⟩
            · -- conditions
              intro _ _ _
              refine ⟨fun g => absurd g (by decide), fun _ => ?_⟩
              have hco1 : D_co1 n0 X (q, z) = (L_ch q z).map fun f => (false, f) := (if_neg hnm2).trans ((if_pos hX1).trans (if_pos hcs))
              have hk3 : z.1 = 3 := cv2 hcs
              obtain ⟨D2, ys, eD2, hsty, hLy, hvy, hyl⟩ := L_ch_stc (y := (q, z)) hz (Or.inl hk3)
              have hLy : L_ch q z = L_at (q + 6 + z.2.1.length) ys := hLy
              have hsty : b_sts F n (q + 6 + z.2.1.length) D2 ys := hsty
              have hyl : 2 * ys.length + 5 ≤ z.2.2.length := hyl
              obtain ⟨c2, hc2⟩ : ∃ c2, c2 = q + 6 + (z.2.1.length : Int) := ⟨_, rfl⟩
              rw [← hc2] at hsty hLy
              rw [hLy] at hco1
              rw [hco1] at hKl hadv
              rw [List.length_map, L_at_len] at hKl
              have hmm : ∀ l : List (Int × b_E), (l.map fun f => ((false, f) : Bool × (Int × b_E))).map (fun z => z.2.1) = l.map Prod.fst := fun l => by
                rw [List.map_map]
                rfl
              rw [hmm] at hadv
              have hin : ∀ (Y2 Y1 : List b_E) (M2 : g_M), ys = Y1 ++ Y2 → k_F k_0 rm M M2 → Bd_c o rm b ss cn r po f t a X n F c e ((L ++ K X1) ++ (L_at c2 Y1).map Prod.fst) M2 → g_Run (d + n0 + 6) 8 173 [(0, .ref o), (1, g_n p), (2, .ref po), (3, g_n v3), (4, g_n q), (5, g_n (X1.length : Int)), (6, g_n 0), (7, g_n (c2 + (b_ser Y1).length)), (8, g_n (Y1.length : Int))] [] M2 (g_qV Q) := by
                intro Y2
                induction Y2 with
                | nil =>
                  intro Y1 M2 hY k2 B2
                  rw [List.append_nil] at hY
                  have hYl := congrArg List.length hY
                  obtain ⟨h2, hP2, hb2, hF2, hT2⟩ := id B2
                  have hE : b_sts (g_i M2 b) n (c2 + (b_ser Y1).length) D2 [] := by
                    rw [hF2, ← hY]
                    have h9 : b_sts F n c2 D2 (ys ++ []) := by
                      rw [List.append_nil]
                      exact hsty
                    exact h9.app
                  have hq0 := hE.2.2
                  rw [← hY] at B2
                  refine s_X0_collect_173 hpR h3R hzR ⟨by omega, by omega⟩ ⟨by decide, by decide⟩ ⟨by omega, by omega⟩ ⟨by omega, by omega⟩ fun _ => ⟨fun _ => ⟨h2.1, b, h2.2.1.2.1, c_kdE (d := d + n0 + 5) hb2 hn hE ?_⟩, fun g => absurd (by omega) g⟩
                  intro _ _ _
                  exact ⟨fun _ => ⟨b, h2.2.1.2.1, hadv M2 k2 B2⟩, fun g => absurd rfl g⟩
                | cons u Y2 ihy =>
                  intro Y1 M2 hY k2 B2
                  obtain ⟨h2, hP2, hb2, hF2, hT2⟩ := id B2
                  obtain ⟨uq, huq⟩ : ∃ uq, uq = c2 + ((b_ser Y1).length : Int) := ⟨_, rfl⟩
                  have hu : b_st F n uq D2 u.1 u.2.1 u.2.2 := by
                    have hX2 := hsty
                    rw [hY] at hX2
                    rw [huq]
                    exact hX2.at
                  have huR := hu.R hn
                  have huk := b_vs_pos (b_gv_vs hu.2.2.1)
                  have hsn2 : L_at c2 (Y1 ++ [u]) = L_at c2 Y1 ++ [(uq, u)] := L_at_sn0 huq
                  have hYl := congrArg List.length hY
                  rw [List.length_append, List.length_cons] at hYl
                  have hu' : b_st (g_i M2 b) n uq D2 u.1 u.2.1 u.2.2 := by
                    rw [hF2]
                    exact hu
                  rw [← huq]
                  refine s_X0_collect_173 hpR h3R hzR ⟨by omega, by omega⟩ ⟨by decide, by decide⟩ huR ⟨by omega, by omega⟩ fun _ => ⟨fun _ => ⟨h2.1, b, h2.2.1.2.1, c_kd2 (d := d + n0 + 5) hb2 hn hu' ?_⟩, fun g => absurd (by omega) g⟩
                  intro _ _ _
                  refine ⟨fun g => absurd g (by omega), fun _ => ⟨rm, h2.2.1.1, hP2.1, c_push (d := d + n0 + 4) hP2 huR (by rw [List.length_append (as := L ++ K X1), List.length_map, L_at_len]; omega) fun M3 k3 hP3 => ?_⟩⟩
                  intro _ _
                  have B3 := B2.k k3 hP3
                  refine ⟨fun _ => ⟨b, B3.1.2.1.2.1, c_nx2 (d := d + n0 + 5) B3.2.2.1 hn (by rw [B3.2.2.2.1]; exact hu) ?_⟩, fun g => absurd rfl g⟩
                  intro _ _ _
                  refine ⟨⟨by omega, by omega⟩, ?_⟩
                  have h9 := ihy (Y1 ++ [u]) M3 (by rw [hY]; simp) (k2.tr k3) (by
                    rw [hsn2, List.map_append, ← List.append_assoc]
                    exact B3)
                  have e1 : (b_ser [u]).length = (b_el u.1 u.2.1 u.2.2).length := by
                    show (b_el u.1 u.2.1 u.2.2 ++ []).length = _
                    rw [List.append_nil]
                  rw [show ((Y1 ++ [u]).length : Int) = (Y1.length : Int) + 1 by rw [List.length_append, List.length_singleton]; omega, b_ser_app, List.length_append, e1, Int.natCast_add, ← Int.add_assoc, ← huq] at h9
                  exact h9
              refine s_X0_collect_147 hpR h3R hzR ⟨by omega, by omega⟩ ⟨by decide, by decide⟩ fun _ => ⟨fun _ => ⟨h'.1, b, h'.2.1.2.1, c_fi2 (d := d + n0 + 5) hb' hn hz' ?_⟩, fun g => absurd rfl g⟩
              intro _ _ _
              rw [← hc2]
              have h9 := hin ys [] M' rfl k' (by
                have e1 : (L_at c2 []).map Prod.fst = [] := rfl
                rw [e1, List.append_nil]
                exact B')
              rw [show c2 + ((b_ser ([] : List b_E)).length : Int) = c2 by show c2 + ((0 : Nat) : Int) = c2; omega] at h9
              exact h9
            · -- a value alone
              intro _ _ _
              refine ⟨fun _ => ?_, fun g => absurd rfl g⟩
              have hco1 : D_co1 n0 X (q, z) = [(true, (q, z))] := (if_neg hnm2).trans ((if_pos hX1).trans (if_neg (by rw [show F_cs (q, z).2 = false from hcs]; decide)))
              rw [hco1] at hadv hKl
              rw [List.length_singleton] at hKl
              refine s_X0_collect_147 hpR h3R hzR ⟨by omega, by omega⟩ ⟨by decide, by decide⟩ fun _ => ⟨fun g => absurd g (by decide), fun _ => ?_⟩
              refine s_X0_collect_173 hpR h3R hzR ⟨by omega, by omega⟩ ⟨by decide, by decide⟩ hzR ⟨by decide, by decide⟩ fun _ => ⟨fun _ => ⟨h'.1, b, h'.2.1.2.1, c_kd2 (d := d + n0 + 5) hb' hn hz' ?_⟩, fun g => absurd (by decide) g⟩
              intro _ _ _
              refine ⟨fun g => absurd g (by omega), fun _ => ⟨rm, h'.2.1.1, hP'.1, c_push (d := d + n0 + 4) hP' hzR (by omega) fun M3 k3 hP3 => ?_⟩⟩
              intro _ _
              have B3 := B'.k k3 hP3
              exact ⟨fun g => absurd g (by decide), fun _ => ⟨b, B3.1.2.1.2.1, hadv M3 (k'.tr k3) B3⟩⟩
          · -- another name
            intro _ _ _
            refine ⟨fun _ => ⟨b, h'.2.1.2.1, hadv M' k' ?_⟩, fun g => absurd rfl g⟩
            have hco1 : D_co1 n0 X (q, z) = [] := (if_neg hnm2).trans (if_neg hX1)
            rw [hco1, List.map_nil, List.append_nil]
            exact B'
    refine m_X0_collect (a0 := o) (d := d + n0 + 6) hpR h3R fun _ => ⟨hB.1.1, b, hB.1.2.1.2.1, c_fi2 (d := d + n0 + 5) hB.2.2.1 hn (by rw [hB.2.2.2.1]; exact hs) ?_⟩
    intro _ _ _
    rw [← hc0]
    have h9 := hlp xs [] M rfl (k_F.rf _ _ _) (by
      have e1 : K [] = [] := by
        rw [hKe]
        rfl
      rw [e1, List.append_nil]
      exact hB)
    rw [show c0 + ((b_ser ([] : List b_E)).length : Int) = c0 by show c0 + ((0 : Nat) : Int) = c0; omega] at h9
    exact h9
end BDH
