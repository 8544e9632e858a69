/-! the order of values: the class -/
section V7b
variable {a a2 : Nat} {M : g_M} {n n2 : Int}
theorem c_cmp1 {d : Nat} {Q : Int → g_M → Prop} {p p2 k k2 lv : Int} {nm nm2 vb vb2 : List Int} {D D2 F : Nat} (hA : g_A M a 0 n) (hA2 : g_A M a2 0 n2) (hn : n ≤ 1000000000) (hn2 : n2 ≤ 1000000000) (hs : b_st (g_i M a) n p D k nm vb) (hs2 : b_st (g_i M a2) n2 p2 D2 k2 nm2 vb2) (hl0 : 0 ≤ lv) (hl1 : lv ≤ 60)
    (hin : ∀ Q1 : Int → g_M → Prop, (b_cl k = 4 ∨ b_cl k = 5) → b_cl k = b_cl k2 → Q1 (v_cmpL (v_cmp F) (b_cl k == 5) (b_ch vb) (b_ch vb2)) M → g_Call (d + 3) 122 [.ref a, g_n p, .ref a2, g_n p2, g_n (lv + 1)] M (g_qI Q1)) (h : Q (v_cmp (F + 1) k vb k2 vb2) M) : g_Call (d + 4) 121 [.ref a, g_n p, .ref a2, g_n p2, g_n lv] M (g_qI Q) := by
  have hn0 := hA.len
  have hn20 := hA2.len
  obtain ⟨v1, v2, v3, v4⟩ := hs.val
  obtain ⟨w1, w2, w3, w4⟩ := hs2.val
  have hc := b_cl_R k
  have hc2 := b_cl_R k2
  have hkk := b_cl_k hs.2.2.1
  have hkk2 := b_cl_k hs2.2.2.1
  unfold v_cmp at h
  refine m_X7_compare ⟨by omega, by omega⟩ ⟨by omega, by omega⟩ ⟨by omega, by omega⟩ fun _ => c_cl2 hA hn hs fun _ _ _ => c_cl2 hA2 hn2 hs2 fun _ _ _ => ⟨fun ec => ?_, fun ec => c_cl2 hA2 hn2 hs2 fun _ _ _ => ⟨fun e1 => ?_, fun e1 => ?_⟩⟩
  · rw [if_neg (by omega), if_neg (by omega)] at h
    refine ⟨fun e2 => ?_, fun e2 => c_va2 hA hn hs fun _ _ _ => c_va2 hA2 hn2 hs2 fun _ _ _ => ⟨fun e3 => ?_, fun e3 => ⟨fun e4 => ?_, fun e4 => ⟨fun e5 => ?_, fun e5 => ⟨fun e6 => ?_, fun e6 => ⟨fun e7 => ?_, fun e7 => absurd hc (by omega)⟩⟩⟩⟩⟩⟩
    · rwa [if_pos e2] at h
    · rw [if_neg e2, if_pos e3] at h
      have k1 := hkk.2.1 e3
      have k2' := hkk2.2.1 (by omega)
      have l1 : (k = 16 ∧ vb.length = 4) ∨ (k = 18 ∧ vb.length = 8) := by
        rcases b_gv_vs hs.2.2.1 with g | g | ⟨g, -⟩ | ⟨g, -⟩ | ⟨g, -⟩ | ⟨g, -⟩ <;> omega
      have l2 : (k2 = 16 ∧ vb2.length = 4) ∨ (k2 = 18 ∧ vb2.length = 8) := by
        rcases b_gv_vs hs2.2.2.1 with g | g | ⟨g, -⟩ | ⟨g, -⟩ | ⟨g, -⟩ | ⟨g, -⟩ <;> omega
      have x0 : b_w4 (g_i M a) (p + 2 + nm.length) = b_w4 (b_fn vb) 0 := by
        have := b_fn_w4 v1 (i := 0) (by omega) (by omega)
        rwa [show p + 2 + (nm.length : Int) + 0 = p + 2 + nm.length by omega] at this
      have y0 : b_w4 (g_i M a2) (p2 + 2 + nm2.length) = b_w4 (b_fn vb2) 0 := by
        have := b_fn_w4 w1 (i := 0) (by omega) (by omega)
        rwa [show p2 + 2 + (nm2.length : Int) + 0 = p2 + 2 + nm2.length by omega] at this
      have hgo : ∀ X : Int64, X = v_num k vb → g_Run (d + 3) 121 142 [(0, .ref a), (1, g_n p), (2, .ref a2), (3, g_n p2), (4, g_n lv), (5, g_n (b_cl k)), (6, g_n (p + 2 + nm.length)), (7, g_n (p2 + 2 + nm2.length)), (8, .long (Int64.ofInt (b_w4 (g_i M a) (p + 2 + nm.length)))), (10, .long (Int64.ofInt (b_w4 (g_i M a2) (p2 + 2 + nm2.length))))] [.long X] M (g_qI Q) := by
        intro X hX
        subst hX
        refine s_X7_compare_142 ⟨by omega, by omega⟩ ⟨by omega, by omega⟩ ⟨by omega, by omega⟩ ⟨by omega, by omega⟩ ⟨by omega, by omega⟩ ⟨by omega, by omega⟩ fun _ => ⟨n2, hA2, ⟨by omega, by omega⟩, ?_⟩
        rw [w4, y0]
        refine ⟨fun g => v_ncmp_J fun _ _ _ => ?_, fun g => ⟨⟨by omega, by omega⟩, c_w4 hA2 ⟨by omega, by omega⟩ (by omega) (by omega) fun _ _ _ => ?_⟩⟩
        · have hv : v_num k2 vb2 = Int64.ofInt (b_w4 (b_fn vb2) 0) := by
            unfold v_num
            rw [if_pos g]
          rwa [hv] at h
        · rw [b_fn_w4 w1 (by omega) (by omega)]
          refine v_ncmp_J fun _ _ _ => ?_
          have hv : v_num k2 vb2 = ((Int64.ofInt (b_w4 (b_fn vb2) 0)) &&& 4294967295) ||| ((Int64.ofInt (b_w4 (b_fn vb2) 4)) <<< ((Int32.ofInt 32).toInt64 &&& 63)) := by
            unfold v_num
            rw [if_neg g]
          rwa [hv] at h
      refine c_w4 hA ⟨by omega, by omega⟩ (by omega) (by omega) fun _ _ _ => c_w4 hA2 ⟨by omega, by omega⟩ (by omega) (by omega) fun _ _ _ => ⟨n, hA, ⟨by omega, by omega⟩, ?_⟩
      rw [v4]
      refine ⟨fun g => hgo _ ?_, fun g => ⟨⟨by omega, by omega⟩, c_w4 hA ⟨by omega, by omega⟩ (by omega) (by omega) fun _ _ _ => hgo _ ?_⟩⟩
      · unfold v_num
        rw [if_pos g, x0]
      · unfold v_num
        rw [if_neg g, x0, b_fn_w4 v1 (by omega) (by omega)]
    · rw [if_neg e2, if_neg e3, if_pos e4] at h
      have k1 := hkk.2.2.1 e4
      have k2' := hkk2.2.2.1 (by omega)
      subst k1
      subst k2'
      obtain ⟨s, rfl, s1, s2⟩ := b_gv_txt hs.2.2.1
      obtain ⟨t, rfl, t1, t2⟩ := b_gv_txt hs2.2.2.1
      rw [s2, t2] at h
      have r4 : ∀ z : Int, (b_le4 z).length = 4 := fun _ => rfl
      rw [List.length_append, List.length_append, r4, List.length_singleton] at v2 w2
      obtain ⟨a1, a2'⟩ := b_app.mp v1
      obtain ⟨c1, c2⟩ := b_app.mp w1
      rw [r4] at a2' c2
      refine ⟨⟨by omega, by omega⟩, ⟨by omega, by omega⟩, c_w4 hA ⟨by omega, by omega⟩ (by omega) (by omega) fun _ _ _ => ?_⟩
      rw [b_w4_le4 (by omega) (by omega) a1]
      refine ⟨⟨by omega, by omega⟩, ⟨by omega, by omega⟩, ⟨by omega, by omega⟩, c_w4 hA2 ⟨by omega, by omega⟩ (by omega) (by omega) fun _ _ _ => ?_⟩
      rw [b_w4_le4 (by omega) (by omega) c1]
      refine ⟨⟨by omega, by omega⟩, ?_⟩
      rw [show p + 2 + (nm.length : Int) + 3 + ((s.length : Int) + 1) = p + 2 + nm.length + 4 + s.length by omega, show p2 + 2 + (nm2.length : Int) + 3 + ((t.length : Int) + 1) = p2 + 2 + nm2.length + 4 + t.length by omega]
      exact c_cmp hA hA2 hn hn2 (b_app.mp a2').1 (b_app.mp c2).1 (by omega) (by omega) (by omega) (by omega) fun _ _ _ => h
    · rw [if_neg e2, if_neg e3, if_neg e4, if_neg (by omega)] at h
      exact ⟨fun g => absurd g (by omega), fun _ => ⟨⟨by omega, by omega⟩, hin _ (Or.inl e5) ec fun _ _ _ => h⟩⟩
    · rw [if_neg e2, if_neg e3, if_neg e4, if_neg (by omega)] at h
      exact ⟨fun g => absurd g (by omega), fun _ => ⟨⟨by omega, by omega⟩, hin _ (Or.inr e6) ec fun _ _ _ => h⟩⟩
    · rw [if_neg e2, if_neg e3, if_neg e4, if_pos e7] at h
      have k1 := hkk.2.2.2.2.2 e7
      have k2' := hkk2.2.2.2.2.2 (by omega)
      have l1 : vb.length = 1 := by
        rcases b_gv_vs hs.2.2.1 with ⟨g, -⟩ | ⟨g, -⟩ | g | ⟨g, -⟩ | ⟨g, -⟩ | ⟨g, -⟩ <;> omega
      have l2 : vb2.length = 1 := by
        rcases b_gv_vs hs2.2.2.1 with ⟨g, -⟩ | ⟨g, -⟩ | g | ⟨g, -⟩ | ⟨g, -⟩ | ⟨g, -⟩ <;> omega
      have x0 := b_fn_at v1 (i := 0) (by omega) (by omega)
      have y0 := b_fn_at w1 (i := 0) (by omega) (by omega)
      rw [show p + 2 + (nm.length : Int) + 0 = p + 2 + nm.length by omega] at x0
      rw [show p2 + 2 + (nm2.length : Int) + 0 = p2 + 2 + nm2.length by omega] at y0
      refine c_kind hA ⟨by omega, by omega⟩ ⟨by omega, by omega⟩ fun _ _ r1 => c_kind hA2 ⟨by omega, by omega⟩ ⟨by omega, by omega⟩ fun _ _ r2 => v_tcmp_J r1 r2 fun _ _ _ => ?_
      rw [b_kd_in (by omega) (by omega), b_kd_in (by omega) (by omega), x0, y0]
      exact h
  · rwa [if_pos e1] at h
  · rwa [if_neg e1, if_pos (by omega)] at h
theorem b_gv0 {k : Int} {vb : List Int} (h : b_gv 0 k vb) : ¬ (k = 3 ∨ k = 4) := by
  rcases h with ⟨h, -⟩ | ⟨h, -⟩ | ⟨h, -⟩ | ⟨h, -⟩ | ⟨h, -⟩ <;> omega
theorem c_compare : ∀ (D : Nat) {F : Nat} {k k2 : Int} {nm nm2 vb vb2 : List Int} {p p2 lv : Int} {d : Nat} {Q : Int → g_M → Prop}, g_A M a 0 n → g_A M a2 0 n2 → n ≤ 1000000000 → n2 ≤ 1000000000 → vb.length ≤ 199000 → b_st (g_i M a) n p D k nm vb → b_st (g_i M a2) n2 p2 D k2 nm2 vb2 → D ≤ F → 0 ≤ lv → lv + D ≤ 60 → Q (v_cmp (F + 1) k vb k2 vb2) M → g_Call (d + 2 * D + 4) 121 [.ref a, g_n p, .ref a2, g_n p2, g_n lv] M (g_qI Q) := by
  intro D
  induction D with
  | zero =>
    intro F k k2 nm nm2 vb vb2 p p2 lv d Q hA hA2 hn hn2 hvb hs hs2 hF hl0 hl1 h
    refine c_cmp1 hA hA2 (by omega) (by omega) hs hs2 hl0 (by omega) (fun Q1 hk _ _ => ?_) h
    have hkk := b_cl_k hs.2.2.1
    exact absurd (hk.elim (fun g => Or.inl (hkk.2.2.2.1 g)) (fun g => Or.inr (hkk.2.2.2.2.1 g))) (b_gv0 hs.2.2.1)
  | succ D ih =>
    intro F k k2 nm nm2 vb vb2 p p2 lv d Q hA hA2 hn hn2 hvb hs hs2 hF hl0 hl1 h
    refine c_cmp1 (d := d + 2 * D + 2) hA hA2 (by omega) (by omega) hs hs2 hl0 (by omega) (fun Q1 hk he hq => ?_) h
    have hkk := b_cl_k hs.2.2.1
    have hkk2 := b_cl_k hs2.2.2.1
    have hk1 : k = 3 ∨ k = 4 := hk.elim (fun g => Or.inl (hkk.2.2.2.1 g)) (fun g => Or.inr (hkk.2.2.2.2.1 g))
    have hk2 : k2 = 3 ∨ k2 = 4 := hk.elim (fun g => Or.inl (hkk2.2.2.2.1 (by omega))) (fun g => Or.inr (hkk2.2.2.2.2.1 (by omega)))
    obtain ⟨D1, es, eD, rfl, hle, hok, hes, -, hch⟩ := b_gv_doc hs.2.2.1 hk1
    obtain ⟨D2, es2, eD2, rfl, hle2, hok2, hes2, -, hch2⟩ := b_gv_doc hs2.2.2.1 hk2
    have eD : D1 = D := by omega
    have eD2 : D2 = D := by omega
    subst eD
    subst eD2
    rw [hch, hch2] at hq
    obtain ⟨G, rfl⟩ : ∃ G, F = G + 1 := ⟨F - 1, by omega⟩
    refine c_inside (k := k) (f := v_cmp (G + 1)) hA hA2 hn hn2 (by rw [b_doc_len] at hvb; omega) (fun e g q q2 Q2 h1 h2 h9 h3 => ?_) ⟨by omega, by omega⟩ hs.nm hs2.nm hs.val.2.2.2 (b_st.sts hs.1 hes hs.2.2.2.1 hs.2.2.2.2) (b_st.sts hs2.1 hes2 hs2.2.2.2.1 hs2.2.2.2.2) ?_
    · exact ih hA hA2 hn hn2 h9 h1 h2 (by omega) (by omega) (by omega) h3
    · rcases hk with g | g
      · have := hkk.2.2.2.1 g
        subst this
        exact hq
      · have := hkk.2.2.2.2.1 g
        subst this
        exact hq
end V7b
