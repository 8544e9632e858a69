/-! EXPLAIN, THE CLASS: what is in two intervals, in two sets -/
theorem D_c_v {e f : D_e} (hc : e.1 = f.1) (h1 : e.2.1 = 1) (h2 : f.2.1 = 1) : D_c e f = v_cmp 61 e.2.2.2.1 e.2.2.2.2.2 f.2.2.2.1 f.2.2.2.2.2 := by
  unfold D_c
  rw [if_neg (by omega), if_neg (by omega), if_neg (by omega), if_neg (by omega), if_pos h1]
theorem D_c_n {e f : D_e} (hc : e.1 = f.1) (h : ¬ (e.2.1 = 1 ∧ f.2.1 = 1)) : D_c e f = D_ci e.2.1 f.2.1 := by
  rw [D_c_eq, D_ci_e hc, if_pos rfl]
  rcases D_ci_3 e.2.1 f.2.1 with ⟨a, g⟩ | ⟨a, g⟩ | ⟨a, g⟩
  · rw [g, if_neg (by decide)]
  · rw [g, if_pos rfl, if_neg (by omega)]
  · rw [g, if_neg (by decide)]
theorem Bd_in_1 (a b : Bool) : (g_and (Bd_in a b) 1 = 0 ↔ a = false) := by cases a <;> cases b <;> decide +kernel
theorem Bd_in_2 (a b : Bool) : (g_and (Bd_in a b) 2 = 0 ↔ b = false) := by cases a <;> cases b <;> decide +kernel
theorem Bd_in_o (a b a2 b2 : Bool) : g_or (g_or 0 (g_and (Bd_in a b) 1)) (g_and (Bd_in a2 b2) 2) = Bd_in a b2 := by cases a <;> cases b <;> cases a2 <;> cases b2 <;> decide +kernel
theorem Bd_in_3 (a b : Bool) : (Bd_in a b = 3 ↔ (a && b) = true) := by cases a <;> cases b <;> decide +kernel
theorem Bd_in_R1 (a b : Bool) : g_InR (g_or 0 (g_and (Bd_in a b) 1)) := by cases a <;> cases b <;> exact ⟨by decide +kernel, by decide +kernel⟩
/-- which of two ends of the class is taken -/
def Bd_t (I : Int) (xb yb : Bool) : Bool := decide (0 < I) || (decide (I = 0) && (!xb || yb))
def Bd_z (x y : D_i) (t1 t2 : Bool) (a b : Bool) : D_i := (x.1, if t1 = true then x.2.1 else y.2.1, a, if t2 = true then x.2.2.2.1 else y.2.2.2.1, b)
theorem Bd_z_lo {x y : D_i} {t1 t2 a b : Bool} (h : x.1 = y.1) : D_lo (Bd_z x y t1 t2 a b) = if t1 = true then D_lo x else D_lo y := by
  cases t1
  · show D_lo (x.1, y.2.1, a, _, b) = D_lo y
    unfold D_lo
    rw [h]
  · rfl
theorem Bd_z_hi {x y : D_i} {t1 t2 a b : Bool} (h : x.1 = y.1) : D_hi (Bd_z x y t1 t2 a b) = if t2 = true then D_hi x else D_hi y := by
  cases t2
  · show D_hi (x.1, _, a, y.2.2.2.1, b) = D_hi y
    unfold D_hi
    rw [h]
  · rfl
theorem D_lo_k (x : D_i) : ((D_lo x).2.1 = 0 ∧ x.2.1 = none) ∨ ((D_lo x).2.1 = 1 ∧ ∃ y, x.2.1 = some y ∧ D_lo x = (x.1, 1, y)) := by
  obtain ⟨c, lo, li, hi, hj⟩ := x
  cases lo with
  | none => exact Or.inl ⟨rfl, rfl⟩
  | some y => exact Or.inr ⟨rfl, y, rfl, rfl⟩
theorem D_hi_k (x : D_i) : ((D_hi x).2.1 = 2 ∧ x.2.2.2.1 = none) ∨ ((D_hi x).2.1 = 1 ∧ ∃ y, x.2.2.2.1 = some y ∧ D_hi x = (x.1, 1, y)) := by
  obtain ⟨c, lo, li, hi, hj⟩ := x
  cases hi with
  | none => exact Or.inl ⟨rfl, rfl⟩
  | some y => exact Or.inr ⟨rfl, y, rfl, rfl⟩
section BDB
variable {o rm b ss cn d : Nat} {r : Nat → Nat} {n : Int} {M M1 : g_M} {A B C : List D_i}
theorem Bd_at.R {F : Int → Int} {c k : Int} {y : Int × b_E} (h : Bd_at F n (c, 1, y)) (hn : n ≤ 1000000000) : g_InR y.1 ∧ 0 ≤ y.1 := by
  obtain ⟨h1, -⟩ := h.2 rfl
  exact ⟨h1.R hn, h1.2.2.2.1⟩
theorem c_cmpE {Q : Int → g_M → Prop} {c : Int} {y z : Int × b_E} (hb : g_A M b 0 n) (hn : n ≤ 1000000000) (hy : Bd_at (g_i M b) n (c, 1, y)) (hz : Bd_at (g_i M b) n (c, 1, z)) (h : Q (D_c (c, 1, y) (c, 1, z)) M) : g_Call (d + 44) 121 [.ref b, g_n y.1, .ref b, g_n z.1, g_n 0] M (g_qI Q) := by
  obtain ⟨y1, y2, y3⟩ := hy.2 rfl
  obtain ⟨z1, z2, z3⟩ := hz.2 rfl
  have ee : D_c (c, 1, y) (c, 1, z) = v_cmp 61 y.2.1 y.2.2.2 z.2.1 z.2.2.2 := D_c_v (e := (c, 1, y)) (f := (c, 1, z)) rfl rfl rfl
  rw [ee] at h
  exact c_compare 20 (F := 60) (d := d) hb hb hn hn y3 y1 z1 (by decide) (by decide) (by decide) h
theorem c_meetOne {Q : g_M → Prop} {s u : Nat} {i j : Nat} {x y : D_i} (h : Bd_o o rm b ss cn r M) (hb : g_A M b 0 n) (hn : n ≤ 1000000000) (hs : s < 5) (hu : u < 5) (hA : Bd_S cn r s A M) (hB : Bd_S cn r u B M) (hi : A[i]? = some x) (hj : B[j]? = some y) (hAl : A.length ≤ 700) (hBl : B.length ≤ 700) (hx : Bd_io (g_i M b) n x) (hy : Bd_io (g_i M b) n y) (hC : Bd_S cn r 4 C M) (hCl : D_kp x y = true → C.length < 700) (hq : ∀ M1 E, D_2 D_R E (D_mt x y) → (∀ z ∈ E, Bd_io (g_i M b) n z) → e_fr (Bd_F cn r (fun j => j = 4)) M M1 → Bd_S cn r 4 (C ++ E) M1 → Q M1) : g_Call (d + 45) 16 [.ref o, .ref (r s), g_n ((i : Int) * 4), .ref (r u), g_n ((j : Int) * 4)] M (g_qV Q) := by
  have hil := (List.getElem?_eq_some_iff.mp hi).1
  have hjl := (List.getElem?_eq_some_iff.mp hj).1
  obtain ⟨k1, ⟨q1, q2, q3, q4⟩, A1, A2, hr, hinj⟩ := id h
  have rs := (hr s hs).2
  have ru := (hr u hu).2
  obtain ⟨x0, x1, x2, x3⟩ := hA.2 i x hi
  obtain ⟨y0, y1, y2, y3⟩ := hB.2 j y hj
  have hiR : g_InR ((i : Int) * 4) := ⟨by omega, by omega⟩
  have hjR : g_InR ((j : Int) * 4) := ⟨by omega, by omega⟩
  refine m_X0_meetOne (a0 := o) (d := d + 44) hiR hjR fun _ => ⟨2800, rs, ⟨by omega, by omega⟩, 2800, ru, ⟨by omega, by omega⟩, fun g => ?_, fun g => ?_⟩
  case refine_2 =>
    rw [x0, y0] at g
    have hk : ¬ D_kp x y = true := fun z => g (D_kp_cl z)
    have e : D_mt x y = [] := if_neg hk
    refine hq M [] (by rw [e]; trivial) (fun z hz => absurd hz (by simp)) (e_fr.rf _ _) ?_
    rw [List.append_nil]
    exact hC
  rw [x0, y0] at g
  have xc := (D_lo_1 x)
  have oR : ∀ (w : D_i), Bd_io (g_i M b) n w → g_InR (L_opt w.2.1) ∧ g_InR (L_opt w.2.2.2.1) := fun w hw => by
    refine ⟨L_opt_R fun y hy => ?_, L_opt_R fun y hy => ?_⟩
    · rcases D_lo_k w with ⟨-, e⟩ | ⟨-, y2, e, e2⟩
      · rw [e] at hy
        exact absurd hy (by simp)
      · rw [e] at hy
        have hy : y2 = y := Option.some.inj hy
        have h1 := hw.1
        rw [e2, hy] at h1
        exact (Bd_at.R (k := 0) h1 hn).1
    · rcases D_hi_k w with ⟨-, e⟩ | ⟨-, y2, e, e2⟩
      · rw [e] at hy
        exact absurd hy (by simp)
      · rw [e] at hy
        have hy : y2 = y := Option.some.inj hy
        have h1 := hw.2
        rw [e2, hy] at h1
        exact (Bd_at.R (k := 0) h1 hn).1
  obtain ⟨xlR, xhR⟩ := oR x hx
  obtain ⟨ylR, yhR⟩ := oR y hy
  obtain ⟨xin, hxin⟩ : ∃ v, v = Bd_in x.2.2.1 x.2.2.2.2 := ⟨_, rfl⟩
  obtain ⟨yin, hyin⟩ : ∃ v, v = Bd_in y.2.2.1 y.2.2.2.2 := ⟨_, rfl⟩
  rw [← hxin] at x3
  rw [← hyin] at y3
  have xinR : g_InR xin := by
    rw [hxin]
    exact Bd_in_R _ _
  have yinR : g_InR yin := by
    rw [hyin]
    exact Bd_in_R _ _
  have bR : ∀ t : Bool, g_InR (if t = true then 1 else 0) := fun t => by cases t <;> exact ⟨by decide, by decide⟩
  have ftR : ∀ t : Bool, g_InR (if t = true then xin else yin) := fun t => by
    cases t
    · exact yinR
    · exact xinR
  -- the choice
  have h103 : ∀ (v5 v6 v7 v8 mine yours I : Int) (xb yb : Bool), g_InR v5 → g_InR v6 → g_InR v7 → g_InR v8 → g_InR mine → g_InR yours → g_InR I → (g_and xin v8 = 0 ↔ xb = false) → (g_and yin v8 = 0 ↔ yb = false) → (∀ t : Bool, t = Bd_t I xb yb → g_Run (d + 44) 16 164 [(0, .ref o), (1, .ref (r s)), (2, g_n ((i : Int) * 4)), (3, .ref (r u)), (4, g_n ((j : Int) * 4)), (5, g_n v5), (6, g_n v6), (7, g_n v7), (8, g_n v8), (9, g_n mine), (10, g_n yours), (11, g_n I), (12, g_n (if t = true then 1 else 0))] [g_n (if t = true then xin else yin), g_n v7] M (g_qV Q)) → g_Run (d + 44) 16 103 [(0, .ref o), (1, .ref (r s)), (2, g_n ((i : Int) * 4)), (3, .ref (r u)), (4, g_n ((j : Int) * 4)), (5, g_n v5), (6, g_n v6), (7, g_n v7), (8, g_n v8), (9, g_n mine), (10, g_n yours), (11, g_n I)] [] M (g_qV Q) := by
    intro v5 v6 v7 v8 mine yours I xb yb R5 R6 R7 R8 Rm Ry RI hxb hyb hk
    have h141 : ∀ t : Bool, t = Bd_t I xb yb → g_Run (d + 44) 16 141 [(0, .ref o), (1, .ref (r s)), (2, g_n ((i : Int) * 4)), (3, .ref (r u)), (4, g_n ((j : Int) * 4)), (5, g_n v5), (6, g_n v6), (7, g_n v7), (8, g_n v8), (9, g_n mine), (10, g_n yours), (11, g_n I)] [g_n (if t = true then 1 else 0)] M (g_qV Q) := fun t ht => by
      refine s_X0_meetOne_141 hiR hjR R5 R6 R7 R8 Rm Ry RI (bR t) fun _ => ⟨fun z => ?_, fun z => ?_⟩
      · have h9 := hk t ht
        have t0 : t = false := by
          cases t
          · rfl
          · exact absurd z (by decide)
        refine ⟨⟨by omega, by omega⟩, 2800, ru, ⟨by omega, by omega⟩, ?_⟩
        rw [y3]
        rw [t0] at h9 ⊢
        exact h9
      · have h9 := hk t ht
        have t1 : t = true := by
          cases t
          · exact absurd rfl z
          · rfl
        refine ⟨⟨by omega, by omega⟩, 2800, rs, ⟨by omega, by omega⟩, ?_⟩
        rw [x3]
        rw [t1] at h9 ⊢
        exact h9
    refine s_X0_meetOne_103 hiR hjR R5 R6 R7 R8 Rm Ry RI fun _ => ⟨fun z => h141 true ?_, fun z => ⟨fun z2 => ⟨⟨by omega, by omega⟩, 2800, rs, ⟨by omega, by omega⟩, ?_⟩, fun z2 => h141 false ?_⟩⟩
    · unfold Bd_t
      rw [decide_eq_true z, Bool.true_or]
    · rw [x3]
      refine ⟨fun z3 => h141 true ?_, fun z3 => ⟨⟨by omega, by omega⟩, 2800, ru, ⟨by omega, by omega⟩, ?_⟩⟩
      · unfold Bd_t
        rw [decide_eq_true z2, hxb.mp z3]
        simp
      · rw [y3]
        have xt : xb = true := by
          cases xb
          · exact absurd (hxb.mpr rfl) z3
          · rfl
        refine ⟨fun z4 => h141 false ?_, fun z4 => h141 true ?_⟩
        · unfold Bd_t
          rw [decide_eq_false z, hyb.mp z4, xt]
          simp
        · have yt : yb = true := by
            cases yb
            · exact absurd (hyb.mpr rfl) z4
            · rfl
          unfold Bd_t
          rw [decide_eq_true z2, yt]
          simp
    · unfold Bd_t
      rw [decide_eq_false z, decide_eq_false z2]
      simp
  -- what is then put behind the others, or is not
  obtain ⟨cl, hcl⟩ : ∃ v, v = D_c (D_lo x) (D_lo y) := ⟨_, rfl⟩
  obtain ⟨ch, hch⟩ : ∃ v, v = D_c (D_hi x) (D_hi y) := ⟨_, rfl⟩
  obtain ⟨t1, ht1⟩ : ∃ t, t = Bd_t cl x.2.2.1 y.2.2.1 := ⟨_, rfl⟩
  obtain ⟨t2, ht2⟩ : ∃ t, t = Bd_t (-ch) x.2.2.2.2 y.2.2.2.2 := ⟨_, rfl⟩
  have i1 : D_1in x y = if t1 = true then x.2.2.1 else y.2.2.1 := by
    rw [ht1]
    unfold D_1in Bd_t
    rw [← hcl]
    rcases D_c_T.r (D_lo x) (D_lo y) with e | e | e
    · rw [← hcl] at e
      rw [e]
      rfl
    · rw [← hcl] at e
      rw [e]
      cases x.2.2.1 <;> cases y.2.2.1 <;> rfl
    · rw [← hcl] at e
      rw [e]
      rfl
  have i2 : D_2in x y = if t2 = true then x.2.2.2.2 else y.2.2.2.2 := by
    rw [ht2]
    unfold D_2in Bd_t
    rw [← hch]
    rcases D_c_T.r (D_hi x) (D_hi y) with e | e | e
    · rw [← hch] at e
      rw [e]
      rfl
    · rw [← hch] at e
      rw [e]
      cases x.2.2.2.2 <;> cases y.2.2.2.2 <;> rfl
    · rw [← hch] at e
      rw [e]
      rfl
  obtain ⟨z, hz⟩ : ∃ z, z = Bd_z x y t1 t2 (D_1in x y) (D_2in x y) := ⟨_, rfl⟩
  have zlo : D_lo z = if t1 = true then D_lo x else D_lo y := by
    rw [hz]
    exact Bd_z_lo g
  have zhi : D_hi z = if t2 = true then D_hi x else D_hi y := by
    rw [hz]
    exact Bd_z_hi g
  have z1 : z.1 = x.1 := by
    rw [hz]
    rfl
  have zio : Bd_io (g_i M b) n z := by
    unfold Bd_io
    rw [zlo, zhi]
    refine ⟨?_, ?_⟩
    · split
      · exact hx.1
      · exact hy.1
    · split
      · exact hx.2
      · exact hy.2
  have one : D_c (D_lo z) (D_one x y) = 0 := by
    rw [zlo, ht1]
    unfold D_one Bd_t
    rw [← hcl]
    rcases D_c_T.r (D_lo x) (D_lo y) with e | e | e
    · rw [← hcl] at e
      rw [e]
      exact D_c_T.rf _
    · have e0 := e
      rw [← hcl] at e
      rw [e, if_neg (show ¬ (0 : Int) < 0 by decide)]
      split
      · exact D_c_T.rf _
      · exact D_c_T.e0 e0
    · rw [← hcl] at e
      rw [e]
      exact D_c_T.rf _
  have two : D_c (D_hi z) (D_two x y) = 0 := by
    rw [zhi, ht2]
    unfold D_two Bd_t
    rw [← hch]
    rcases D_c_T.r (D_hi x) (D_hi y) with e | e | e
    · rw [← hch] at e
      rw [e]
      exact D_c_T.rf _
    · have e0 := e
      rw [← hch] at e
      rw [e, if_neg (show ¬ (0 : Int) < 0 by decide)]
      split
      · exact D_c_T.rf _
      · exact D_c_T.e0 e0
    · rw [← hch] at e
      rw [e]
      exact D_c_T.rf _
  have zl3 : z.2.2.1 = D_1in x y := by
    rw [hz]
    rfl
  have zh3 : z.2.2.2.2 = D_2in x y := by
    rw [hz]
    rfl
  have hkp : D_kp x y = (decide (D_c (D_lo z) (D_hi z) < 0) || (decide (D_c (D_lo z) (D_hi z) = 0) && (z.2.2.1 && z.2.2.2.2))) := by
    unfold D_kp
    rw [D_c_T.cg one two, zl3, zh3]
  obtain ⟨zlR, zhR⟩ := oR z zio
  have keep : D_kp x y = true → ∀ v8, g_InR v8 → g_Run (d + 44) 16 261 [(0, .ref o), (1, .ref (r s)), (2, g_n ((i : Int) * 4)), (3, .ref (r u)), (4, g_n ((j : Int) * 4)), (5, g_n (L_opt z.2.1)), (6, g_n (L_opt z.2.2.2.1)), (7, g_n (Bd_in z.2.2.1 z.2.2.2.2)), (8, g_n v8)] [] M (g_qV Q) := fun hk v8 R8 => by
    refine s_X0_meetOne_261 hiR hjR zlR zhR (Bd_in_R _ _) R8 fun ok => ⟨2800, rs, ⟨by omega, by omega⟩, k1, ?_⟩
    have hxR : g_InR (g_i M (r s) ((i : Int) * 4)) := ok.1 _ _
    rw [x0] at hxR ⊢
    refine c_addTo (d := d + 43) (s := 4) (x := z) h (by decide) hC (hCl hk) z1.symm rfl rfl rfl hxR zlR zhR fun M1 f1 S1 => ?_
    intro _ _
    have e : D_mt x y = [D_rs x y] := if_pos hk
    obtain ⟨r1, r2⟩ := D_rs_ends hk
    refine hq M1 [z] ?_ (fun w hw => by rw [List.mem_singleton.mp hw]; exact zio) f1 S1
    rw [e]
    exact ⟨⟨by rw [r1]; exact one, zl3, by rw [r2]; exact two, zh3⟩, trivial⟩
  have drop : ¬ D_kp x y = true → Q M := fun hk => by
    have e : D_mt x y = [] := if_neg hk
    refine hq M [] (by rw [e]; trivial) (fun z hz => absurd hz (by simp)) (e_fr.rf _ _) ?_
    rw [List.append_nil]
    exact hC
  have zc : (D_lo z).1 = (D_hi z).1 := by rw [D_lo_1, D_hi_1]
  have h3 : g_Run (d + 44) 16 23 [(0, .ref o), (1, .ref (r s)), (2, g_n ((i : Int) * 4)), (3, .ref (r u)), (4, g_n ((j : Int) * 4)), (5, g_n (L_opt z.2.1)), (6, g_n (L_opt z.2.2.2.1)), (7, g_n (Bd_in z.2.2.1 z.2.2.2.2)), (8, g_n 3)] [] M (g_qV Q) := by
    have h223 : D_kp x y = true → g_Run (d + 44) 16 223 [(0, .ref o), (1, .ref (r s)), (2, g_n ((i : Int) * 4)), (3, .ref (r u)), (4, g_n ((j : Int) * 4)), (5, g_n (L_opt z.2.1)), (6, g_n (L_opt z.2.2.2.1)), (7, g_n (Bd_in z.2.2.1 z.2.2.2.2)), (8, g_n 3)] [] M (g_qV Q) := fun hk => s_X0_meetOne_223 hiR hjR zlR zhR (Bd_in_R _ _) ⟨by decide, by decide⟩ fun _ => keep hk (-1) ⟨by decide, by decide⟩
    refine s_X0_meetOne_23 hiR hjR zlR zhR (Bd_in_R _ _) ⟨by decide, by decide⟩ fun _ => ⟨fun _ => ?_, fun g3 => absurd g3 (by decide)⟩
    have hneg : D_c (D_lo z) (D_hi z) = -1 → D_kp x y = true := fun e => by
      rw [hkp, e]
      rfl
    rcases D_lo_k z with ⟨l0, ln⟩ | ⟨l0, yl, ly, l2⟩
    · have e : D_c (D_lo z) (D_hi z) = -1 := by
        rw [D_c_n zc (by omega), l0]
        rcases D_hi_k z with ⟨h0, -⟩ | ⟨h0, -⟩
        · rw [h0]
          rfl
        · rw [h0]
          rfl
      refine ⟨fun _ => h223 (hneg e), fun w => absurd ?_ w⟩
      rw [ln]
      decide
    · rcases D_hi_k z with ⟨h0, hn2⟩ | ⟨h0, yh, hy2, h2⟩
      · have e : D_c (D_lo z) (D_hi z) = -1 := by
          rw [D_c_n zc (by omega), l0, h0]
          rfl
        refine ⟨fun _ => h223 (hneg e), fun _ => ⟨fun _ => h223 (hneg e), fun w => absurd ?_ w⟩⟩
        rw [hn2]
        decide
      · have za := zio.1
        have zb := zio.2
        rw [l2] at za
        rw [h2] at zb
        have ya := (Bd_at.R (k := 0) za hn).2
        have yb := (Bd_at.R (k := 0) zb hn).2
        have el : L_opt z.2.1 = yl.1 := by
          rw [ly]
          rfl
        have eh : L_opt z.2.2.2.1 = yh.1 := by
          rw [hy2]
          rfl
        refine ⟨fun w => absurd w (by omega), fun _ => ⟨fun w => absurd w (by omega), fun _ => ⟨k1, b, q2, b, q2, ?_⟩⟩⟩
        rw [el, eh]
        refine c_cmpE (d := d) (c := z.1) hb hn za zb ?_
        intro _ _ _
        rw [← l2, ← h2]
        rw [← el, ← eh]
        have cR : g_InR (D_c (D_lo z) (D_hi z)) := by
          rcases D_c_T.r (D_lo z) (D_hi z) with e | e | e <;> rw [e] <;> exact ⟨by decide, by decide⟩
        refine ⟨fun w => keep (by rw [hkp, decide_eq_true w, Bool.true_or]) _ cR, fun w => ⟨fun w2 => ⟨fun w3 => keep ?_ _ cR, fun w3 => drop fun w4 => ?_⟩, fun w2 => drop fun w4 => ?_⟩⟩
        · rw [hkp, decide_eq_true w2, (Bd_in_3 _ _).mp w3]
          simp
        · rw [hkp, decide_eq_false w, decide_eq_true w2, Bool.false_or, Bool.true_and] at w4
          exact w3 ((Bd_in_3 _ _).mpr w4)
        · rw [hkp, decide_eq_false w, decide_eq_false w2] at w4
          exact absurd w4 (by simp)
  -- how an end's order is found
  have hin : ∀ (v5 v6 v7 v8 : Int) (e f : D_e) (ox oy : Option (Int × b_E)), g_InR v5 → g_InR v6 → g_InR v7 → (v8 = 1 ∨ v8 = 2) → g_i M (r s) ((i : Int) * 4 + v8) = L_opt ox → g_i M (r u) ((j : Int) * 4 + v8) = L_opt oy → e.1 = f.1 → Bd_at (g_i M b) n e → Bd_at (g_i M b) n f → (ox = none → ¬ e.2.1 = 1) → (oy = none → ¬ f.2.1 = 1) → (∀ y, ox = some y → e = (e.1, 1, y)) → (∀ y, oy = some y → f = (f.1, 1, y)) → (ox = none → oy = none → D_c e f = 0) → (ox = none → ∀ y, oy = some y → D_c e f = if v8 = 1 then -1 else 1) → (oy = none → ∀ y, ox = some y → D_c e f = if v8 = 1 then 1 else -1) → (g_Run (d + 44) 16 103 [(0, .ref o), (1, .ref (r s)), (2, g_n ((i : Int) * 4)), (3, .ref (r u)), (4, g_n ((j : Int) * 4)), (5, g_n v5), (6, g_n v6), (7, g_n v7), (8, g_n v8), (9, g_n (L_opt ox)), (10, g_n (L_opt oy)), (11, g_n (if v8 = 1 then D_c e f else - D_c e f))] [] M (g_qV Q)) → g_Run (d + 44) 16 23 [(0, .ref o), (1, .ref (r s)), (2, g_n ((i : Int) * 4)), (3, .ref (r u)), (4, g_n ((j : Int) * 4)), (5, g_n v5), (6, g_n v6), (7, g_n v7), (8, g_n v8)] [] M (g_qV Q) := by
    intro v5 v6 v7 v8 e f ox oy R5 R6 R7 hv8 hmx hmy hef he hf hxn hyn hxs hys c00 c01 c10 hrun
    have hcR := D_c_T.r e f
    have p1 : ∀ (w : Option (Int × b_E)) (e : D_e), Bd_at (g_i M b) n e → (∀ y, w = some y → e = (e.1, 1, y)) → (w = none ∧ L_opt w = -1) ∨ (∃ y, w = some y ∧ L_opt w = y.1 ∧ 0 ≤ y.1 ∧ g_InR y.1) := fun w e he hw => by
      cases w with
      | none => exact Or.inl ⟨rfl, rfl⟩
      | some y =>
        have := hw y rfl
        rw [this] at he
        obtain ⟨a1, a2⟩ := Bd_at.R (k := 0) he hn
        exact Or.inr ⟨y, rfl, rfl, a2, a1⟩
    have oxR : g_InR (L_opt ox) := by
      rcases p1 ox e he hxs with ⟨-, a⟩ | ⟨y, -, a, -, a2⟩
      · rw [a]
        exact ⟨by decide, by decide⟩
      · rw [a]
        exact a2
    have oyR : g_InR (L_opt oy) := by
      rcases p1 oy f hf hys with ⟨-, a⟩ | ⟨y, -, a, -, a2⟩
      · rw [a]
        exact ⟨by decide, by decide⟩
      · rw [a]
        exact a2
    refine s_X0_meetOne_23 hiR hjR R5 R6 R7 (by rcases hv8 with w | w <;> rw [w] <;> exact ⟨by decide, by decide⟩) fun _ => ⟨fun w => absurd w (by omega), fun _ => ⟨⟨by omega, by omega⟩, 2800, rs, ⟨by omega, by omega⟩, ⟨by omega, by omega⟩, 2800, ru, ⟨by omega, by omega⟩, ?_⟩⟩
    rw [hmx, hmy]
    have mR : ∀ v : Int, g_InR v → g_InR (min v 0) := fun v hv => by
      obtain ⟨a1, a2⟩ := hv
      exact ⟨by omega, by omega⟩
    have fin : ∀ v11 : Int, v11 = (if v8 = 1 then D_c e f else - D_c e f) → g_Run (d + 44) 16 103 [(0, .ref o), (1, .ref (r s)), (2, g_n ((i : Int) * 4)), (3, .ref (r u)), (4, g_n ((j : Int) * 4)), (5, g_n v5), (6, g_n v6), (7, g_n v7), (8, g_n v8), (9, g_n (L_opt ox)), (10, g_n (L_opt oy)), (11, g_n v11)] [] M (g_qV Q) := fun v11 hv => by
      rw [hv]
      exact hrun
    have hout : ∀ rr : Int, (ox = none → oy = none → rr = 0) → (ox = none → ∀ y, oy = some y → rr = -1) → (oy = none → ∀ y, ox = some y → rr = 1) → ((L_opt ox < 0 → g_Run (d + 44) 16 103 [(0, .ref o), (1, .ref (r s)), (2, g_n ((i : Int) * 4)), (3, .ref (r u)), (4, g_n ((j : Int) * 4)), (5, g_n v5), (6, g_n v6), (7, g_n v7), (8, g_n v8), (9, g_n (L_opt ox)), (10, g_n (L_opt oy)), (11, g_n rr)] [] M (g_qV Q)) ∧ (¬ L_opt ox < 0 → (L_opt oy < 0 → g_Run (d + 44) 16 103 [(0, .ref o), (1, .ref (r s)), (2, g_n ((i : Int) * 4)), (3, .ref (r u)), (4, g_n ((j : Int) * 4)), (5, g_n v5), (6, g_n v6), (7, g_n v7), (8, g_n v8), (9, g_n (L_opt ox)), (10, g_n (L_opt oy)), (11, g_n rr)] [] M (g_qV Q)))) := fun rr e00 e01 e10 => by
      refine ⟨fun w => fin rr ?_, fun w w2 => fin rr ?_⟩
      · rcases p1 ox e he hxs with ⟨a0, a⟩ | ⟨y, -, a, a1, -⟩
        · rcases p1 oy f hf hys with ⟨b0, bb⟩ | ⟨y, b0, -⟩
          · rw [e00 a0 b0, c00 a0 b0]
            split <;> rfl
          · rw [e01 a0 y b0, c01 a0 y b0]
            rcases hv8 with w8 | w8
            · rw [if_pos w8, if_pos w8]
            · rw [if_neg (by omega), if_neg (by omega)]
        · omega
      · rcases p1 ox e he hxs with ⟨a0, a⟩ | ⟨y, a0, a, a1, -⟩
        · omega
        · rcases p1 oy f hf hys with ⟨b0, bb⟩ | ⟨y2, b0, bb, b1, -⟩
          · rw [e10 b0 y a0, c10 b0 y a0]
            rcases hv8 with w8 | w8
            · rw [if_pos w8, if_pos w8]
            · rw [if_neg (by omega), if_neg (by omega)]
              decide
          · omega
    have hcmp : (¬ L_opt ox < 0 → ¬ L_opt oy < 0 → g_Call (d + 44) 121 [.ref b, g_n (L_opt ox), .ref b, g_n (L_opt oy), g_n 0] M (g_qI fun r32 M29 => g_ext M M29 → g_ok M29 → g_InR r32 → ((v8 = 1 → g_InR (r32 * 1) ∧ g_Run (d + 44) 16 103 [(0, .ref o), (1, .ref (r s)), (2, g_n ((i : Int) * 4)), (3, .ref (r u)), (4, g_n ((j : Int) * 4)), (5, g_n v5), (6, g_n v6), (7, g_n v7), (8, g_n v8), (9, g_n (L_opt ox)), (10, g_n (L_opt oy)), (11, g_n (r32 * 1))] [] M29 (g_qV Q)) ∧ (¬ v8 = 1 → g_InR (r32 * ((-1))) ∧ g_Run (d + 44) 16 103 [(0, .ref o), (1, .ref (r s)), (2, g_n ((i : Int) * 4)), (3, .ref (r u)), (4, g_n ((j : Int) * 4)), (5, g_n v5), (6, g_n v6), (7, g_n v7), (8, g_n v8), (9, g_n (L_opt ox)), (10, g_n (L_opt oy)), (11, g_n (r32 * ((-1))))] [] M29 (g_qV Q))))) := fun w w2 => by
      rcases p1 ox e he hxs with ⟨a0, a⟩ | ⟨y, a0, a, a1, -⟩
      · omega
      · rcases p1 oy f hf hys with ⟨b0, bb⟩ | ⟨y2, b0, bb, b1, -⟩
        · omega
        · have ee := hxs y a0
          have ef := hys y2 b0
          rw [← hef] at ef
          rw [a, bb]
          have he2 := he
          have hf2 := hf
          rw [ee] at he2
          rw [ef] at hf2
          refine c_cmpE (d := d) (c := e.1) hb hn he2 hf2 ?_
          intro _ _ _
          rw [← ee, ← ef, ← a, ← bb]
          refine ⟨fun w8 => ⟨⟨by omega, by omega⟩, fin _ ?_⟩, fun w8 => ⟨⟨by omega, by omega⟩, fin _ ?_⟩⟩
          · rw [if_pos w8]
            omega
          · rw [if_neg w8]
            omega
    refine m_J6_compare (mR _ oxR) (mR _ oyR) fun _ => ⟨fun w => ?_, fun w => ⟨fun w2 => ?_, fun w2 => ?_⟩⟩
    · intro _ _ _
      have ho := hout (-1) (fun a0 b0 => by rw [a0, b0] at w; exact absurd w (by decide)) (fun _ _ _ => rfl) (fun b0 y a0 => by
        rcases p1 ox e he hxs with ⟨a1, -⟩ | ⟨y2, -, a2, a3, -⟩
        · rw [a1] at a0
          exact absurd a0 (by simp)
        · have hb2 : L_opt oy = -1 := by rw [b0]; rfl
          omega)
      exact ⟨ho.1, fun w3 => ⟨ho.2 w3, fun w4 => ⟨k1, b, q2, b, q2, hcmp w3 w4⟩⟩⟩
    · intro _ _ _
      have ho := hout 0 (fun _ _ => rfl) (fun a0 y b0 => by
        rcases p1 oy f hf hys with ⟨a1, -⟩ | ⟨y2, -, a2, a3, -⟩
        · rw [a1] at b0
          exact absurd b0 (by simp)
        · have ha2 : L_opt ox = -1 := by rw [a0]; rfl
          omega) (fun b0 y a0 => by
        rcases p1 ox e he hxs with ⟨a1, -⟩ | ⟨y2, -, a2, a3, -⟩
        · rw [a1] at a0
          exact absurd a0 (by simp)
        · have hb2 : L_opt oy = -1 := by rw [b0]; rfl
          omega)
      exact ⟨ho.1, fun w3 => ⟨ho.2 w3, fun w4 => ⟨k1, b, q2, b, q2, hcmp w3 w4⟩⟩⟩
    · intro _ _ _
      have ho := hout 1 (fun a0 b0 => by rw [a0, b0] at w2; exact absurd rfl w2) (fun a0 y b0 => by
        rcases p1 oy f hf hys with ⟨a1, -⟩ | ⟨y2, -, a2, a3, -⟩
        · rw [a1] at b0
          exact absurd b0 (by simp)
        · have ha2 : L_opt ox = -1 := by rw [a0]; rfl
          omega) (fun _ _ _ => rfl)
      exact ⟨ho.1, fun w3 => ⟨ho.2 w3, fun w4 => ⟨k1, b, q2, b, q2, hcmp w3 w4⟩⟩⟩
  have clR : g_InR cl := by
    rw [hcl]
    rcases D_c_T.r (D_lo x) (D_lo y) with e | e | e <;> rw [e] <;> exact ⟨by decide, by decide⟩
  have chR : g_InR (- ch) := by
    rw [hch]
    rcases D_c_T.r (D_hi x) (D_hi y) with e | e | e <;> rw [e] <;> exact ⟨by decide, by decide⟩
  have lxy : (D_lo x).1 = (D_lo y).1 := by rw [D_lo_1, D_lo_1, g]
  have hxy : (D_hi x).1 = (D_hi y).1 := by rw [D_hi_1, D_hi_1, g]
  -- the high ends
  have h2 : g_Run (d + 44) 16 23 [(0, .ref o), (1, .ref (r s)), (2, g_n ((i : Int) * 4)), (3, .ref (r u)), (4, g_n ((j : Int) * 4)), (5, g_n (L_opt z.2.1)), (6, g_n (-1)), (7, g_n (g_or 0 (g_and (if t1 = true then xin else yin) 1))), (8, g_n 2)] [] M (g_qV Q) := by
    have w1R : g_InR (g_or 0 (g_and (if t1 = true then xin else yin) 1)) := by
      rw [hxin, hyin]
      split
      · exact Bd_in_R1 _ _
      · exact Bd_in_R1 _ _
    refine hin _ (-1) _ 2 (D_hi x) (D_hi y) x.2.2.2.1 y.2.2.2.1 zlR ⟨by decide, by decide⟩ w1R (Or.inr rfl) x2 y2 hxy hx.2 hy.2 ?_ ?_ ?_ ?_ ?_ ?_ ?_ ?_
    · intro e0
      rcases D_hi_k x with ⟨e, -⟩ | ⟨-, w, e, -⟩
      · omega
      · rw [e0] at e
        exact absurd e (by simp)
    · intro e0
      rcases D_hi_k y with ⟨e, -⟩ | ⟨-, w, e, -⟩
      · omega
      · rw [e0] at e
        exact absurd e (by simp)
    · intro w ew
      rcases D_hi_k x with ⟨-, e⟩ | ⟨-, w2, e, e2⟩
      · rw [e] at ew
        exact absurd ew (by simp)
      · rw [e] at ew
        rw [e2, Option.some.inj ew]
    · intro w ew
      rcases D_hi_k y with ⟨-, e⟩ | ⟨-, w2, e, e2⟩
      · rw [e] at ew
        exact absurd ew (by simp)
      · rw [e] at ew
        rw [e2, Option.some.inj ew]
    · intro e1 e2
      rcases D_hi_k x with ⟨a, -⟩ | ⟨-, w, e, -⟩
      · rcases D_hi_k y with ⟨a2, -⟩ | ⟨-, w, e, -⟩
        · rw [D_c_n hxy (by omega), a, a2]
          rfl
        · rw [e2] at e
          exact absurd e (by simp)
      · rw [e1] at e
        exact absurd e (by simp)
    · intro e1 w e2
      rcases D_hi_k x with ⟨a, -⟩ | ⟨-, w, e, -⟩
      · rcases D_hi_k y with ⟨-, e⟩ | ⟨a2, -⟩
        · rw [e2] at e
          exact absurd e (by simp)
        · rw [D_c_n hxy (by omega), a, a2]
          rfl
      · rw [e1] at e
        exact absurd e (by simp)
    · intro e1 w e2
      rcases D_hi_k y with ⟨a, -⟩ | ⟨-, w, e, -⟩
      · rcases D_hi_k x with ⟨-, e⟩ | ⟨a2, -⟩
        · rw [e2] at e
          exact absurd e (by simp)
        · rw [D_c_n hxy (by omega), a, a2]
          rfl
      · rw [e1] at e
        exact absurd e (by simp)
    · rw [if_neg (show ¬ (2 : Int) = 1 by decide), ← hch]
      refine h103 _ (-1) _ 2 _ _ (- ch) x.2.2.2.2 y.2.2.2.2 zlR ⟨by decide, by decide⟩ w1R ⟨by decide, by decide⟩ xhR yhR chR (by rw [hxin]; exact Bd_in_2 _ _) (by rw [hyin]; exact Bd_in_2 _ _) fun t ht => ?_
      have ht : t = t2 := ht.trans ht2.symm
      subst ht
      have e7 : g_or (g_or 0 (g_and (if t1 = true then xin else yin) 1)) (g_and (if t = true then xin else yin) 2) = Bd_in z.2.2.1 z.2.2.2.2 := by
        rw [zl3, zh3, i1, i2, hxin, hyin]
        cases t1 <;> cases t <;> exact Bd_in_o _ _ _ _
      refine s_X0_meetOne_164 hiR hjR zlR ⟨by decide, by decide⟩ w1R ⟨by decide, by decide⟩ xhR yhR chR (bR t) (ftR t) w1R fun _ => ⟨fun w => absurd w (by decide), fun _ => ⟨fun w => ⟨⟨by decide, by decide⟩, ?_⟩, fun w => ⟨⟨by decide, by decide⟩, ?_⟩⟩⟩
      · have t0 : t = false := by
          cases t
          · rfl
          · exact absurd w (by decide)
        have h9 := h3
        have e6 : z.2.2.2.1 = y.2.2.2.1 := by
          rw [hz, t0]
          rfl
        rw [← e7] at h9
        rw [e6] at h9
        exact h9
      · have t0 : t = true := by
          cases t
          · exact absurd rfl w
          · rfl
        have h9 := h3
        have e6 : z.2.2.2.1 = x.2.2.2.1 := by
          rw [hz, t0]
          rfl
        rw [← e7] at h9
        rw [e6] at h9
        exact h9
  refine hin (-1) (-1) 0 1 (D_lo x) (D_lo y) x.2.1 y.2.1 ⟨by decide, by decide⟩ ⟨by decide, by decide⟩ ⟨by decide, by decide⟩ (Or.inl rfl) x1 y1 lxy hx.1 hy.1 ?_ ?_ ?_ ?_ ?_ ?_ ?_ ?_
  · intro e0
    rcases D_lo_k x with ⟨e, -⟩ | ⟨-, w, e, -⟩
    · omega
    · rw [e0] at e
      exact absurd e (by simp)
  · intro e0
    rcases D_lo_k y with ⟨e, -⟩ | ⟨-, w, e, -⟩
    · omega
    · rw [e0] at e
      exact absurd e (by simp)
  · intro w ew
    rcases D_lo_k x with ⟨-, e⟩ | ⟨-, w2, e, e2⟩
    · rw [e] at ew
      exact absurd ew (by simp)
    · rw [e] at ew
      rw [e2, Option.some.inj ew]
  · intro w ew
    rcases D_lo_k y with ⟨-, e⟩ | ⟨-, w2, e, e2⟩
    · rw [e] at ew
      exact absurd ew (by simp)
    · rw [e] at ew
      rw [e2, Option.some.inj ew]
  · intro e1 e2
    rcases D_lo_k x with ⟨a, -⟩ | ⟨-, w, e, -⟩
    · rcases D_lo_k y with ⟨a2, -⟩ | ⟨-, w, e, -⟩
      · rw [D_c_n lxy (by omega), a, a2]
        rfl
      · rw [e2] at e
        exact absurd e (by simp)
    · rw [e1] at e
      exact absurd e (by simp)
  · intro e1 w e2
    rcases D_lo_k x with ⟨a, -⟩ | ⟨-, w, e, -⟩
    · rcases D_lo_k y with ⟨-, e⟩ | ⟨a2, -⟩
      · rw [e2] at e
        exact absurd e (by simp)
      · rw [D_c_n lxy (by omega), a, a2]
        rfl
    · rw [e1] at e
      exact absurd e (by simp)
  · intro e1 w e2
    rcases D_lo_k y with ⟨a, -⟩ | ⟨-, w, e, -⟩
    · rcases D_lo_k x with ⟨-, e⟩ | ⟨a2, -⟩
      · rw [e2] at e
        exact absurd e (by simp)
      · rw [D_c_n lxy (by omega), a, a2]
        rfl
    · rw [e1] at e
      exact absurd e (by simp)
  · rw [if_pos rfl, ← hcl]
    refine h103 (-1) (-1) 0 1 _ _ cl x.2.2.1 y.2.2.1 ⟨by decide, by decide⟩ ⟨by decide, by decide⟩ ⟨by decide, by decide⟩ ⟨by decide, by decide⟩ xlR ylR clR (by rw [hxin]; exact Bd_in_1 _ _) (by rw [hyin]; exact Bd_in_1 _ _) fun t ht => ?_
    have ht : t = t1 := ht.trans ht1.symm
    subst ht
    refine s_X0_meetOne_164 hiR hjR ⟨by decide, by decide⟩ ⟨by decide, by decide⟩ ⟨by decide, by decide⟩ ⟨by decide, by decide⟩ xlR ylR clR (bR t) (ftR t) ⟨by decide, by decide⟩ fun _ => ⟨fun _ => ⟨fun w => ⟨⟨by decide, by decide⟩, ?_⟩, fun w => ⟨⟨by decide, by decide⟩, ?_⟩⟩, fun w => absurd rfl w⟩
    · have t0 : t = false := by
        cases t
        · rfl
        · exact absurd w (by decide)
      have h9 := h2
      have e6 : z.2.1 = y.2.1 := by
        rw [hz, t0]
        rfl
      rw [e6] at h9
      exact h9
    · have t0 : t = true := by
        cases t
        · exact absurd rfl w
        · rfl
      have h9 := h2
      have e6 : z.2.1 = x.2.1 := by
        rw [hz, t0]
        rfl
      rw [e6] at h9
      exact h9
end BDB
