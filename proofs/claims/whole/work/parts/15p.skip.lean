/-! STAGES: $skip and $limit -/
noncomputable def S_sk (e : b_E) (c : Nat) : Option Nat := @ite _ ((e.1 = 16 ∨ e.1 = 18) ∧ 0 ≤ (v_num e.1 e.2.2).toInt) (Classical.propDecidable _) (some (min (v_num e.1 e.2.2).toInt.toNat c)) none
theorem S_sk_some {e : b_E} {c : Nat} (h : (e.1 = 16 ∨ e.1 = 18) ∧ 0 ≤ (v_num e.1 e.2.2).toInt) : S_sk e c = some (min (v_num e.1 e.2.2).toInt.toNat c) := by
  unfold S_sk
  rw [if_pos h]
theorem S_sk_none {e : b_E} {c : Nat} (h : ¬ ((e.1 = 16 ∨ e.1 = 18) ∧ 0 ≤ (v_num e.1 e.2.2).toInt)) : S_sk e c = none := by
  unfold S_sk
  rw [if_neg h]
theorem u_l2i {X : Int64} (h : g_InR X.toInt) : X.toInt32.toInt = X.toInt := by
  have h4 : X.toInt32.toInt = X.toInt.bmod (2 ^ 32) := Int64.toInt_toInt32 X
  rw [h4]
  have h1 := h.1
  have h2 := h.2
  exact Int.bmod_eq_of_le (by omega) (by omega)
theorem u_minl {X : Int64} {c : Int} (hc : g_InR c) (h0 : 0 ≤ c) (hX : 0 ≤ X.toInt) : (if Int64.ofInt c < X then Int64.ofInt c else X).toInt32.toInt = min X.toInt c := by
  have hc2 := u_i64 hc
  by_cases h : Int64.ofInt c < X
  · rw [if_pos h]
    have h2 := Int64.lt_iff_toInt_lt.mp h
    rw [hc2] at h2
    rw [u_l2i (by rw [hc2]; exact hc), hc2]
    omega
  · rw [if_neg h]
    have h2 : ¬ c < X.toInt := fun z => h (Int64.lt_iff_toInt_lt.mpr (by rw [hc2]; exact z))
    have := hc.2
    rw [u_l2i ⟨by omega, by omega⟩]
    omega
theorem S_sum_app (x y : List (List b_E)) : S_sum (x ++ y) = S_sum x + S_sum y := by
  unfold S_sum
  simp
theorem S_ok.l {x y : List (List b_E)} (h : S_ok (x ++ y)) : S_ok x := by
  obtain ⟨h1, h2, h3⟩ := h
  rw [List.length_append] at h1
  rw [S_sum_app] at h2
  exact ⟨by omega, by omega, fun es he => h3 es (List.mem_append_left _ he)⟩
theorem S_ok.r {x y : List (List b_E)} (h : S_ok (x ++ y)) : S_ok y := by
  obtain ⟨h1, h2, h3⟩ := h
  rw [List.length_append] at h1
  rw [S_sum_app] at h2
  exact ⟨by omega, by omega, fun es he => h3 es (List.mem_append_right _ he)⟩
theorem S_ok.take {ds : List (List b_E)} (h : S_ok ds) (t : Nat) : S_ok (ds.take t) := by
  rw [← List.take_append_drop t ds] at h
  exact h.l
theorem S_ok.drop {ds : List (List b_E)} (h : S_ok ds) (t : Nat) : S_ok (ds.drop t) := by
  rw [← List.take_append_drop t ds] at h
  exact h.r
section SKIP
variable {d so b be : Nat} {M M1 : g_M} {Q : Int → g_M → Prop} {g : Int} {ds : List (List b_E)}
theorem c_numOr {pe : Int} {De : Nat} {e : b_E} {f pc : Nat} {lv : List (Nat × Value)} {Q1 : Option Value → g_M → Prop} (hS : S_B so b M) (hs : b_st (g_i M b) 246408 pe De e.1 e.2.1 e.2.2) (hneg : ¬ (e.1 = 16 ∨ e.1 = 18) → g_Run (d + 2) f pc lv [.long (-1)] M Q1) (hnum : (e.1 = 16 ∨ e.1 = 18) → g_Run (d + 2) f pc lv [.long (v_num e.1 e.2.2)] M Q1) : ∃ b2, g_r M so 1 = some b2 ∧ g_Call (d + 2) 117 [.ref b2, g_n pe] M (g_qI fun r7 M4 => g_ext M M4 → g_ok M4 → g_InR r7 → ((r7 = 0 → g_Run (d + 2) f pc lv [.long (-1)] M4 Q1) ∧ (¬ r7 = 0 → ∃ b9, g_r M4 so 1 = some b9 ∧ g_Call (d + 2) 118 [.ref b9, g_n pe] M4 (g_qL fun R14 M11 => g_ext M4 M11 → g_ok M11 → g_Run (d + 2) f pc lv [.long R14] M11 Q1)))) := by
  obtain ⟨s1, s2, s3⟩ := hS
  have hpeR := hs.R (by decide)
  obtain ⟨v1, v2, v3, v4⟩ := hs.val
  refine ⟨b, s2, c_isNum (d := d) s3 ⟨by decide, by decide⟩ hpeR ?_⟩
  rw [b_kd_in (by omega) (by have := hs.2.2.2.2; have := b_el_len e.1 e.2.1 e.2.2; omega), v4]
  intro _ _ _
  by_cases hk : e.1 = 16 ∨ e.1 = 18
  · rw [if_pos hk]
    refine ⟨fun z => absurd z (by decide), fun _ => ⟨b, s2, c_wh (d := d) s3 (by decide) hs hk ?_⟩⟩
    intro _ _
    exact hnum hk
  · rw [if_neg hk]
    exact ⟨fun _ => hneg hk, fun z => absurd rfl z⟩
theorem c_skip {pe : Int} {De : Nat} {e : b_E} (hS : S_B so b M) (h6 : g_r M so 6 = some be) (hbe : g_A M be 1 200) (hbt : S_belt so b be g ds M) (hs : b_st (g_i M b) 246408 pe De e.1 e.2.1 e.2.2) (hq2 : S_sk e ds.length = none → Q 2 M) (hq0 : ∀ t, S_sk e ds.length = some t → ∀ M1, e_fr (fun y k => (y = so ∧ k = 14) ∨ y = be) M M1 → S_belt so b be g (ds.drop t) M1 → Q 0 M1) : g_Call (d + 3) 166 [.ref so, g_n pe] M (g_qI Q) := by
  obtain ⟨s1, s2, s3⟩ := id hS
  have n1 : so ≠ be := g_neOA s1 hbe
  have n2 : so ≠ b := g_neOA s1 s3
  have n3 : be ≠ b := g_neAA hbe s3 (by omega)
  obtain ⟨h14, hok, hpl⟩ := hbt
  have hl := hok.1
  have hpeR := hs.R (by decide)
  have h25 : ∀ W : Int64, (W.toInt < 0 → Q 2 M) → (0 ≤ W.toInt → (e.1 = 16 ∨ e.1 = 18) ∧ v_num e.1 e.2.2 = W) → g_Run (d + 2) 166 25 [(0, .ref so), (1, g_n pe)] [.long W] M (g_qI Q) := by
    intro W hn hp
    have hlt := u_lt W 0
    have h0 : (0 : Int64).toInt = 0 := by decide
    rw [h0] at hlt
    refine s_X9_skip_25 hpeR fun _ => ⟨fun z => hn (hlt.mp z), fun z => ?_⟩
    have hW0 : 0 ≤ W.toInt := by
      have : ¬ W.toInt < 0 := fun w => z (hlt.mpr w)
      omega
    obtain ⟨hk, hv⟩ := hp hW0
    have hmin := u_minl (X := W) (c := g_i M so 14) ⟨by omega, by omega⟩ (by omega) hW0
    rw [hmin]
    obtain ⟨t, ht⟩ : ∃ t : Nat, (t : Int) = min W.toInt (g_i M so 14) := ⟨(min W.toInt (g_i M so 14)).toNat, by omega⟩
    rw [← ht]
    have hst : S_sk e ds.length = some t := by
      rw [S_sk_some ⟨hk, by rw [hv]; exact hW0⟩, hv]
      congr 1
      omega
    refine ⟨s1, be, h6, be, h6, ⟨by omega, by omega⟩, _, hbe, _, hbe, ⟨by omega, by decide, by omega, by omega, by omega⟩, ?_⟩
    rintro M12 rfl _
    have hcp : ∀ y k, g_i (g_cp M be be t 0 (g_i M so 14 - t)) y k = if y = be ∧ 0 ≤ k ∧ k < 0 + (g_i M so 14 - t) then g_i M be (t + (k - 0)) else g_i M y k := fun _ _ => rfl
    have e14 : g_i (g_cp M be be t 0 (g_i M so 14 - t)) so 14 = g_i M so 14 := by rw [hcp, if_neg fun w => n1 w.1]
    rw [e14]
    refine ⟨⟨by omega, by omega⟩, ?_⟩
    rintro M17 rfl _
    have f12 : e_fr (fun y k => (y = so ∧ k = 14) ∨ y = be) M (g_cp M be be t 0 (g_i M so 14 - t)) := ⟨rfl, fun y k hy => by rw [hcp, if_neg fun w => hy (Or.inr w.1)], fun _ _ => rfl⟩
    refine hq0 t hst _ (f12.tr (e_fr.wi _ (Or.inl ⟨rfl, rfl⟩))) ⟨?_, hok.drop t, fun i es hi => ?_⟩
    · rw [g_i_wi, if_pos ⟨rfl, rfl⟩, List.length_drop]
      omega
    · rw [List.getElem?_drop] at hi
      have hil := (List.getElem?_eq_some_iff.mp hi).1
      obtain ⟨p, p1, p2, p3⟩ := hpl (t + i) es hi
      refine ⟨p, ?_, ⟨b_at_keep p2.1 fun k _ _ => ?_, p2.2⟩, p3⟩
      · rw [g_i_wi, if_neg fun w => n1 w.1.symm, hcp, if_pos ⟨rfl, by omega, by omega⟩, ← p1]
        congr 1
      · rw [g_i_wi, if_neg fun w => n2 w.1.symm, hcp, if_neg fun w => n3 w.1.symm]
  refine m_X9_skip hpeR fun _ => ⟨s1, c_numOr (d := d) hS hs (fun hk => h25 (-1) (fun _ => hq2 (S_sk_none fun z => hk z.1)) fun z => absurd z (by decide)) fun hk => h25 _ (fun hn => hq2 (S_sk_none fun z => by omega)) fun _ => ⟨hk, rfl⟩⟩
theorem c_limit {pe : Int} {De : Nat} {e : b_E} (hS : S_B so b M) (hbe : g_A M be 1 200) (hbt : S_belt so b be g ds M) (hs : b_st (g_i M b) 246408 pe De e.1 e.2.1 e.2.2) (hq2 : S_sk e ds.length = none → Q 2 M) (hq0 : ∀ t, S_sk e ds.length = some t → ∀ M1, e_fr (fun y k => (y = so ∧ k = 14) ∨ y = be) M M1 → S_belt so b be g (ds.take t) M1 → Q 0 M1) : g_Call (d + 3) 167 [.ref so, g_n pe] M (g_qI Q) := by
  obtain ⟨s1, s2, s3⟩ := id hS
  have n1 : so ≠ be := g_neOA s1 hbe
  have n2 : so ≠ b := g_neOA s1 s3
  obtain ⟨h14, hok, hpl⟩ := hbt
  have hl := hok.1
  have hpeR := hs.R (by decide)
  have h25 : ∀ W : Int64, (W.toInt < 0 → Q 2 M) → (0 ≤ W.toInt → (e.1 = 16 ∨ e.1 = 18) ∧ v_num e.1 e.2.2 = W) → g_Run (d + 2) 167 25 [(0, .ref so), (1, g_n pe)] [.long W] M (g_qI Q) := by
    intro W hn hp
    have hlt := u_lt W 0
    have h0 : (0 : Int64).toInt = 0 := by decide
    rw [h0] at hlt
    refine s_X9_limit_25 hpeR fun _ => ⟨fun z => hn (hlt.mp z), fun z => ?_⟩
    have hW0 : 0 ≤ W.toInt := by
      have : ¬ W.toInt < 0 := fun w => z (hlt.mpr w)
      omega
    obtain ⟨hk, hv⟩ := hp hW0
    have hmin := u_minl (X := W) (c := g_i M so 14) ⟨by omega, by omega⟩ (by omega) hW0
    rw [hmin]
    obtain ⟨t, ht⟩ : ∃ t : Nat, (t : Int) = min W.toInt (g_i M so 14) := ⟨(min W.toInt (g_i M so 14)).toNat, by omega⟩
    rw [← ht]
    have hst : S_sk e ds.length = some t := by
      rw [S_sk_some ⟨hk, by rw [hv]; exact hW0⟩, hv]
      congr 1
      omega
    refine ⟨s1, ?_⟩
    rintro M2 rfl _
    refine hq0 t hst _ (e_fr.wi _ (Or.inl ⟨rfl, rfl⟩)) ⟨?_, hok.take t, fun i es hi => ?_⟩
    · rw [g_i_wi, if_pos ⟨rfl, rfl⟩, List.length_take]
      omega
    · have hi2 : ds[i]? = some es := by
        rw [List.getElem?_take] at hi
        split at hi
        · exact hi
        · exact absurd hi (by simp)
      obtain ⟨p, p1, p2, p3⟩ := hpl i es hi2
      refine ⟨p, ?_, ⟨b_at_keep p2.1 fun k _ _ => ?_, p2.2⟩, p3⟩
      · rw [g_i_wi, if_neg fun w => n1 w.1.symm]
        exact p1
      · rw [g_i_wi, if_neg fun w => n2 w.1.symm]
  exact m_X9_limit hpeR fun _ => ⟨s1, c_numOr (d := d) hS hs (fun hk => h25 (-1) (fun _ => hq2 (S_sk_none fun z => hk z.1)) fun z => absurd z (by decide)) fun hk => h25 _ (fun hn => hq2 (S_sk_none fun z => by omega)) fun _ => ⟨hk, rfl⟩⟩
end SKIP
section ESKIP
variable {d m b ma be : Nat} {M M1 : g_M} {Q : Int → g_M → Prop} {g : Int} {ds : List (List b_E)}
theorem e_skipLimit {pe : Int} {De t : Nat} {e : b_E} (hT : E_T m b ma be M) (hbt : E_belt m b be g ds M) (hs : b_st (g_i M b) 2706210 pe De e.1 e.2.1 e.2.2) (ht : S_sk e ds.length = some t) (hq : ∀ M1, e_fr (fun y k => (y = m ∧ k = 19) ∨ y = be) M M1 → E_belt m b be g (if e.2.1 = b_tx 123 then ds.take t else ds.drop t) M1 → Q 0 M1) : g_Run (d + 5) 339 43 [(0, .ref m), (1, g_n pe)] [] M (g_qI Q) := by
  obtain ⟨n1, n2, n3, n4, n5, n6⟩ := hT.ne
  obtain ⟨hR, -, h18, -, hbe, -⟩ := id hT
  obtain ⟨h19, hok, hpl⟩ := id hbt
  have hl := hok.1
  have hpeR := hs.R (by decide)
  have hc : (e.1 = 16 ∨ e.1 = 18) ∧ 0 ≤ (v_num e.1 e.2.2).toInt := Classical.byContradiction fun z => by
    rw [S_sk_none z] at ht
    exact absurd ht (by simp)
  rw [S_sk_some hc] at ht
  have ht2 : (t : Int) = min (v_num e.1 e.2.2).toInt ds.length := by
    have := Option.some.inj ht
    omega
  have h70 : g_Run (d + 5) 339 70 [(0, .ref m), (1, g_n pe)] [g_n t] M (g_qI Q) := by
    refine s_X12_stage_70 hpeR ⟨by omega, by omega⟩ fun _ => ⟨hR.1, e_nm3 (d := d + 1) (j := 123) (j2 := 123) (by decide) rfl hR hs (fun hn => ?_) fun hn => ?_⟩
    · intro _ _ _
      rw [if_pos hn] at hq
      refine ⟨fun z => absurd z (by decide), fun _ => ?_⟩
      rintro M12 rfl _
      refine hq _ (e_fr.wi _ (Or.inl ⟨rfl, rfl⟩)) ⟨?_, hok.take t, fun i es hi => ?_⟩
      · rw [g_i_wi, if_pos ⟨rfl, rfl⟩, List.length_take]
        omega
      · have hi2 : ds[i]? = some es := by
          rw [List.getElem?_take] at hi
          split at hi
          · exact hi
          · exact absurd hi (by simp)
        obtain ⟨p, p1, p2, p3⟩ := hpl i es hi2
        refine ⟨p, ?_, b_at_keep p2 fun k _ _ => ?_, p3⟩
        · rw [g_i_wi, if_neg fun w => n3 w.1.symm]
          exact p1
        · rw [g_i_wi, if_neg fun w => n1 w.1.symm]
    · intro _ _ _
      rw [if_neg hn] at hq
      refine ⟨fun _ => ⟨⟨by omega, by omega⟩, ?_⟩, fun z => absurd rfl z⟩
      rintro M8 rfl _
      have hlp : ∀ (r i : Nat) (M2 : g_M), i + r + t = ds.length → e_fr (fun y k => (y = m ∧ k = 19) ∨ y = be) M M2 → g_i M2 m 19 = ds.length - t → (∀ j : Nat, j < i → g_i M2 be j = g_i M be ((t : Int) + j)) → (∀ j : Nat, i ≤ j → g_i M2 be j = g_i M be j) → g_Run (d + 5) 339 101 [(0, .ref m), (1, g_n pe), (2, g_n t), (3, g_n i)] [] M2 (g_qI Q) := by
        intro r
        induction r with
        | zero =>
          intro i M2 hi f2 k19 kj kj2
          refine s_X12_stage_101 hpeR ⟨by omega, by omega⟩ ⟨by omega, by omega⟩ fun _ => ⟨f2.O hR.1, fun z => absurd z (by omega), fun _ => hq M2 f2 ⟨?_, hok.drop t, fun j es hj => ?_⟩⟩
          · rw [k19, List.length_drop]
            omega
          · rw [List.getElem?_drop] at hj
            have hjl := (List.getElem?_eq_some_iff.mp hj).1
            obtain ⟨p, p1, p2, p3⟩ := hpl (t + j) es hj
            refine ⟨p, ?_, b_at_keep p2 fun k _ _ => f2.2.1 b k fun w => ?_, p3⟩
            · rw [kj j (by omega), ← p1]
              congr 1
            · rcases w with ⟨w, -⟩ | w
              · exact n1 w.symm
              · exact n5 w
        | succ r ih =>
          intro i M2 hi f2 k19 kj kj2
          refine s_X12_stage_101 hpeR ⟨by omega, by omega⟩ ⟨by omega, by omega⟩ fun _ => ⟨f2.O hR.1, fun _ => ⟨be, by rw [f2.2.2]; exact h18, be, by rw [f2.2.2]; exact h18, ⟨by omega, by omega⟩, _, f2.A hbe, ⟨by omega, by omega⟩, _, f2.A hbe, ⟨by omega, by omega⟩, ?_⟩, fun z => absurd (by omega) z⟩
          rintro M13 rfl _
          refine ⟨⟨by omega, by omega⟩, ?_⟩
          have h9 := ih (i + 1) (g_wi M2 be i (g_i M2 be ((i : Int) + t))) (by omega) (f2.tr (e_fr.wi _ (Or.inr rfl))) (by rw [g_i_wi, if_neg fun w => n3 w.1]; exact k19) (fun j hj => ?_) fun j hj => ?_
          · rwa [show ((i + 1 : Nat) : Int) = (i : Int) + 1 by omega] at h9
          · rw [g_i_wi]
            by_cases hji : (j : Int) = i
            · rw [if_pos ⟨rfl, hji⟩, show (i : Int) + t = ((i + t : Nat) : Int) by omega, kj2 (i + t) (by omega)]
              congr 1
              omega
            · rw [if_neg fun w => hji w.2]
              exact kj j (by omega)
          · rw [g_i_wi, if_neg fun w => by omega]
            exact kj2 j (by omega)
      refine hlp (ds.length - t) 0 _ (by omega) (e_fr.wi _ (Or.inl ⟨rfl, rfl⟩)) ?_ (fun j hj => absurd hj (by omega)) fun j _ => ?_
      · rw [g_i_wi, if_pos ⟨rfl, rfl⟩, h19]
      · rw [g_i_wi, if_neg fun w => n3 w.1.symm]
  refine s_X12_stage_43 hpeR fun _ => ⟨hR.1, e_num (d := d + 1) hR hs hc.1 ?_⟩
  intro _ _
  have hgt := u_gt (v_num e.1 e.2.2) (Int64.ofInt (g_i M m 19))
  rw [u_i64 (by rw [h19]; exact ⟨by omega, by omega⟩)] at hgt
  refine ⟨fun z => ?_, fun z => e_num (d := d + 1) hR hs hc.1 ?_⟩
  · have hz := hgt.mp z
    rw [show g_i M m 19 = (t : Int) by omega]
    exact h70
  · have hz : ¬ g_i M m 19 < (v_num e.1 e.2.2).toInt := fun w => z (hgt.mpr w)
    intro _ _
    rw [u_l2i ⟨by omega, by omega⟩, show (v_num e.1 e.2.2).toInt = (t : Int) by omega]
    exact h70
end ESKIP
