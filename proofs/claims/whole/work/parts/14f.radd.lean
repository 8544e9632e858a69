/-! CHANGES: the reference adds -/
theorem u_small (S : Int64) : g_lc S (Int64.ofInt (S.toInt32.toInt)) = 0 ↔ ¬ g_lc S (-2147483648) < 0 ∧ ¬ 0 < g_lc S 2147483647 := by
  have h1 := u_lt S (-2147483648)
  have h2 := u_gt S 2147483647
  have hr : g_InR S.toInt32.toInt := ⟨Int32.le_toInt _, by have := Int32.toInt_lt S.toInt32; omega⟩
  have h3 : (Int64.ofInt S.toInt32.toInt).toInt = S.toInt32.toInt := u_i64 hr
  have h4 : S.toInt32.toInt = S.toInt.bmod (2 ^ 32) := Int64.toInt_toInt32 S
  have e1 : ((-2147483648 : Int64)).toInt = -2147483648 := by decide
  have e2 : ((2147483647 : Int64)).toInt = 2147483647 := by decide
  rw [e1] at h1
  rw [e2] at h2
  rw [g_lc0]
  have h5 := Int64.le_toInt S
  have h6 := Int64.toInt_lt S
  constructor
  · intro h
    have h7 := congrArg Int64.toInt h
    rw [h3] at h7
    obtain ⟨r1, r2⟩ := hr
    omega
  · rintro ⟨g1, g2⟩
    apply Int64.toInt_inj.1
    rw [h3, h4]
    have : S.toInt.bmod (2 ^ 32) = S.toInt := by
      simp [Int.bmod]
      omega
    exact this.symm
section RADD
variable {d m b ch : Nat} {F : Int → Int} {M M1 : g_M} {c : List h_F} {e e1 p : b_E} {es l t : List b_E} {Q : Int → g_M → Prop}
theorem e_Wr.at {lo lim : Int} {x : List Int} (h : e_Wr m b lo lim x M) (hl : lo + x.length ≤ lim) : b_at (g_i M b) lo x ∧ g_i M m 4 = lo + x.length := by
  obtain ⟨-, -, -, -, h7⟩ := h
  rcases h7 with ⟨-, a2, -, a4⟩ | ⟨-, -, -, a4⟩
  · exact ⟨a4, a2⟩
  · omega
theorem e_add {pp : Int} {D Dp : Nat} (hSt : R_St F m b ch c e M) (hE : X_E D e es) (hes : es = l ++ e1 :: t) (hk : e1.1 = 16 ∨ e1.1 = 18) (hp : b_st F 900000 pp Dp p.1 p.2.1 p.2.2) (hpk : p.1 = 16 ∨ p.1 = 18) (hnum : ∀ Q1 : Int → g_M → Prop, Q1 1 M → g_Call (d + 7) 242 [.ref m, g_n (h_at 921998 (c ++ [(e.1, e.2.1, l, t)]))] M (g_qI Q1)) (hmx : h_hs (b_el e.1 e.2.1 e.2.2).length c + 8 ≤ 15000) (hq : ∀ M1, e_fr (R_FL m b ch) M M1 → ((X_inc e1 p).1 = 0 → h_Z (e_B M1 b) (b_el (X_inc e1 p).2.1 (X_inc e1 p).2.2.1 (X_inc e1 p).2.2.2).length 921998 (c ++ [(e.1, e.2.1, l, t)]) ∧ b_at (e_B M1 b) (h_at 921998 (c ++ [(e.1, e.2.1, l, t)])) (b_el (X_inc e1 p).2.1 (X_inc e1 p).2.2.1 (X_inc e1 p).2.2.2)) → Q (X_inc e1 p).1 M1) : g_Call (d + 8) 316 [.ref m, g_n (h_at 921998 (c ++ [(e.1, e.2.1, l, t)])), g_n pp] M (g_qI Q) := by
  have hSt0 := hSt
  obtain ⟨hst1, hZ1, hat1, hhs1, hpos, hge1⟩ := hSt.item hE hes (by omega)
  obtain ⟨hO, hF, -⟩ := hSt
  obtain ⟨n1, n2, n3⟩ := hO.ne
  obtain ⟨hR, h12, hA⟩ := id hO
  have hqR := hst1.R (by decide)
  have hpR := hp.R (by decide)
  have hst5 := hst1.2.2.2.2
  have hel1 := b_el_len e1.1 e1.2.1 e1.2.2
  have hpl := b_el_len p.1 p.2.1 p.2.2
  have hp5 := hp.2.2.2.2
  have hp4 := hp.2.2.2.1
  have hp' : b_st (g_i M b) 2706210 pp Dp p.1 p.2.1 p.2.2 := ⟨b_at_keep hp.1 fun k k1 k2 => hF k (by omega), hp.2.1, hp.2.2.1, hp4, by omega⟩
  have hX : X_inc e1 p = if g_lc ((v_num e1.1 e1.2.2 ^^^ (v_num e1.1 e1.2.2 + v_num p.1 p.2.2)) &&& (v_num p.1 p.2.2 ^^^ (v_num e1.1 e1.2.2 + v_num p.1 p.2.2))) 0 < 0 then (8, e1)
    else if e1.1 = 16 ∧ p.1 = 16 ∧ g_lc (v_num e1.1 e1.2.2 + v_num p.1 p.2.2) (Int64.ofInt ((v_num e1.1 e1.2.2 + v_num p.1 p.2.2).toInt32.toInt)) = 0 then (0, X_nv e1 p true)
    else (0, X_nv e1 p false) := by
    unfold X_inc X_nv
    rw [if_pos hk]
    rfl
  refine m_X12_add hqR hpR fun _ => ⟨hR.1, hnum _ ?_⟩
  intro _ _ _
  refine ⟨fun g => absurd g (by decide), fun _ => e_num (d := d + 3) hR hst1 hk fun _ _ => e_num (d := d + 3) hR hp' hpk fun _ _ => ⟨fun g => ?_, fun g => ?_⟩⟩
  · have hx : X_inc e1 p = (8, e1) := by rw [hX, if_pos g]
    rw [hx] at hq
    exact hq M (e_fr.rf _ _) fun z => absurd z (show ¬ (8 : Int) = 0 by decide)
  · rw [if_neg g] at hX
    have key : ∀ sm : Bool, (sm = true ↔ e1.1 = 16 ∧ p.1 = 16 ∧ g_lc (v_num e1.1 e1.2.2 + v_num p.1 p.2.2) (Int64.ofInt ((v_num e1.1 e1.2.2 + v_num p.1 p.2.2).toInt32.toInt)) = 0) → g_Run (d + 7) 316 93 [(0, .ref m), (1, g_n (h_at 921998 (c ++ [(e.1, e.2.1, l, t)]))), (2, g_n pp), (3, .long (v_num e1.1 e1.2.2)), (5, .long (v_num p.1 p.2.2)), (7, .long (v_num e1.1 e1.2.2 + v_num p.1 p.2.2))] [g_n (if sm = true then 1 else 0)] M (g_qI Q) := by
      intro sm hsm
      have hX2 : X_inc e1 p = (0, X_nv e1 p sm) := by
        cases sm
        · rw [hX, if_neg fun z => absurd (hsm.mpr z) (by decide)]
        · rw [hX, if_pos (hsm.mp rfl)]
      rw [hX2] at hq
      obtain ⟨m1, m2, m3⟩ := X_nv_len (e := e1) (p := p) (sm := sm)
      have hfin : ∀ M2, e_fr (R_FL m b ch) M M2 → R_St F m b ch c e M2 → b_at (g_i M2 b) 2606200 (X_nv e1 p sm).2.2 → g_i M2 m 4 = 2606200 + (X_nv e1 p sm).2.2.length → g_Run (d + 7) 316 121 [(0, .ref m), (1, g_n (h_at 921998 (c ++ [(e.1, e.2.1, l, t)]))), (2, g_n pp), (3, .long (v_num e1.1 e1.2.2)), (5, .long (v_num p.1 p.2.2)), (7, .long (v_num e1.1 e1.2.2 + v_num p.1 p.2.2)), (9, g_n (if sm = true then 1 else 0))] [] M2 (g_qI Q) := by
        intro M2 f2 hSt2 hx2 hw2
        have hl8 : (X_nv e1 p sm).2.2.length ≤ 8 := by rw [m2]; split <;> omega
        have hcome : ∀ kk : Int, kk = (X_nv e1 p sm).1 → g_Call (d + 7) 314 [.ref m, g_n (h_at 921998 (c ++ [(e.1, e.2.1, l, t)])), g_n kk] M2 (g_qV fun M3 => g_ext M2 M3 → g_ok M3 → Q 0 M3) := by
          intro kk hkk
          rw [hkk]
          refine e_come1 (d := d + 1) hSt2 hE hes hx2 hw2 (by rw [m3]; split <;> decide) (by rw [m3]; split <;> decide) (by omega) fun M3 f3 hZ3 hb3 => ?_
          intro _ _
          rw [← m1] at hZ3 hb3
          exact hq M3 (f2.tr (f3.up fun y k hy => R_WK.fl hy)) fun _ => ⟨hZ3, hb3⟩
        refine s_X12_add_121 hqR hpR (u_bR sm) fun _ => ⟨fun g0 => ⟨hSt2.1.1.1, hcome 18 ?_⟩, fun g0 => ⟨hSt2.1.1.1, hcome 16 ?_⟩⟩
        · rw [m3]
          cases sm
          · rfl
          · exact absurd g0 (by decide)
        · rw [m3]
          cases sm
          · exact absurd rfl g0
          · rfl
      have hfl : ∀ {y : Nat} {k : Int}, (y = m ∧ (k = 4 ∨ k = 5 ∨ k = 6)) ∨ (y = b ∧ 2606200 ≤ k ∧ k < 2666200) → R_FL m b ch y k := fun h => by
        rcases h with ⟨g1, g2⟩ | ⟨g1, g2⟩
        · exact Or.inl ⟨g1, Or.inl (by omega)⟩
        · exact Or.inr (Or.inr ⟨g1, Or.inr g2⟩)
      have hstf : ∀ {M2 : g_M}, e_fr (fun y k => (y = m ∧ (k = 4 ∨ k = 5 ∨ k = 6)) ∨ (y = b ∧ 2606200 ≤ k ∧ k < 2666200)) M M2 → R_St F m b ch c e M2 := fun f2 => hSt0.fr (f2.up fun y k hy => by
        rcases hy with ⟨y1, y2⟩ | ⟨y1, y2, -⟩
        · exact Or.inl ⟨y1, by omega, by omega⟩
        · exact Or.inr ⟨y1, by omega⟩) (by omega)
      have hWL : ∀ {y : Nat} {k : Int}, e_WL m b 2606200 2666200 y k → (y = m ∧ (k = 4 ∨ k = 5 ∨ k = 6)) ∨ (y = b ∧ 2606200 ≤ k ∧ k < 2666200) := fun h => by
        rcases h with ⟨g1, g2⟩ | g
        · exact Or.inl ⟨g1, by omega⟩
        · exact Or.inr g
      have hSR : g_InR (v_num e1.1 e1.2.2 + v_num p.1 p.2.2).toInt32.toInt := ⟨Int32.le_toInt _, by have := Int32.toInt_lt (v_num e1.1 e1.2.2 + v_num p.1 p.2.2).toInt32; omega⟩
      refine s_X12_add_93 hqR hpR (u_bR sm) fun _ => ⟨hR.1, e_loose (d := d + 5) hR fun M3 f3 W3 => ?_⟩
      intro _ _
      refine e_putInt (d := d + 5) W3 hSR fun M4 f4 W4 => ?_
      intro _ _
      rw [List.nil_append] at W4
      have f34 := (f3.up (T := fun y k => (y = m ∧ (k = 4 ∨ k = 5 ∨ k = 6)) ∨ (y = b ∧ 2606200 ≤ k ∧ k < 2666200)) fun y k hy => Or.inl hy).tr (f4.up fun y k hy => hWL hy)
      refine ⟨fun g0 => ?_, fun g0 => ?_⟩
      · have hsf : sm = false := by
          cases sm
          · rfl
          · exact absurd g0 (by decide)
        refine e_putInt (d := d + 5) W4 ⟨Int32.le_toInt _, by have := Int32.toInt_lt ((v_num e1.1 e1.2.2 + v_num p.1 p.2.2) >>> ((Int32.ofInt 32).toInt64 &&& 63)).toInt32; omega⟩ fun M5 f5 W5 => ?_
        intro _ _
        have hx : (X_nv e1 p sm).2.2 = b_le4 (v_num e1.1 e1.2.2 + v_num p.1 p.2.2).toInt32.toInt ++ b_le4 ((v_num e1.1 e1.2.2 + v_num p.1 p.2.2) >>> ((Int32.ofInt 32).toInt64 &&& 63)).toInt32.toInt := by rw [hsf]; rfl
        rw [← hx] at W5
        have f35 := f34.tr (f5.up fun y k hy => hWL hy)
        obtain ⟨w1, w2⟩ := W5.at (by rw [m2]; split <;> decide)
        exact hfin M5 (f35.up fun y k hy => hfl hy) (hstf f35) w1 w2
      · have hst : sm = true := by
          cases sm
          · exact absurd rfl g0
          · rfl
        have hx : (X_nv e1 p sm).2.2 = b_le4 (v_num e1.1 e1.2.2 + v_num p.1 p.2.2).toInt32.toInt := by rw [hst]; rfl
        rw [← hx] at W4
        obtain ⟨w1, w2⟩ := W4.at (by rw [m2]; split <;> decide)
        exact hfin M4 (f34.up fun y k hy => hfl hy) (hstf f34) w1 w2
    have sv4 := hst1.val.2.2.2
    have pv4 := hp'.val.2.2.2
    have hsm := u_small (v_num e1.1 e1.2.2 + v_num p.1 p.2.2)
    refine ⟨b, hR.2.1, _, hR.2.2, ⟨by omega, by omega⟩, fun g1 => ⟨b, hR.2.1, _, hR.2.2, ⟨by omega, by omega⟩, fun g2 => ⟨fun g3 => key false ⟨fun z => absurd z (by decide), fun z => absurd g3 (hsm.mp z.2.2).1⟩, fun g3 => ⟨fun g4 => key false ⟨fun z => absurd z (by decide), fun z => absurd g4 (hsm.mp z.2.2).2⟩, fun g4 => key true ⟨fun _ => ⟨by omega, by omega, hsm.mpr ⟨g3, g4⟩⟩, fun _ => rfl⟩⟩⟩, fun g2 => key false ⟨fun z => absurd z (by decide), fun z => absurd (by omega) g2⟩⟩, fun g1 => key false ⟨fun z => absurd z (by decide), fun z => absurd (by omega) g1⟩⟩
end RADD
