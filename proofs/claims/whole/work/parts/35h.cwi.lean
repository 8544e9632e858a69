/-! REQUESTS, THE CLASS: an index is asked for, dropped, told of -/
section CWI
variable {d : Nat} {ι : Nat → Nat} {κ : Nat → Nat → Nat} {al sz : Nat → Nat × Nat} {cB eB : Int} {st : Nat → I_T} {D : Nat → List (Int × List b_E)} {gv : Nat → Int} {M M1 : g_M} {x w : Nat} {u : List Int}
theorem C_tr.hm {t j i : Nat} {w1 w2 : Int} {T : N_T I_E} (h : C_tr t w1 w2 T j i M) (hl : (N_all T).length ≤ 1001) : g_O M t 10 ∧ g_i M t 15 = (N_all T).length ∧ g_i M t 16 = (N_lv T.1 T.2 : Nat) ∧ g_i M t 17 = (N_lv T.1 T.2 + N_im T.1 T.2 : Nat) ∧ T.1 ≤ 4 ∧ N_lv T.1 T.2 ≤ 251 ∧ N_lv T.1 T.2 + N_im T.1 T.2 ≤ 335 := by
  obtain ⟨S, FS, FN, sg, hh, rt, l, ⟨hB, ha, -, ⟨-, -, h15, h16, h17⟩, hgd⟩, rfl⟩ := h
  rw [V_ins_len] at hl
  obtain ⟨z1, z2, z3, -⟩ := V_size (rt := rt) hgd hl
  have e1 : N_lv hh (l.map (V_er hh)) = N_lv hh l := V_er_lv hh l
  have e2 : N_im hh (l.map (V_er hh)) = N_im hh l := V_er_im hh l
  have e3 := V_ns_len hh rt l
  refine ⟨hB.1, ?_, ?_, ?_, z1, ?_, ?_⟩
  · rw [hB.2.1 15, h15, V_ins_len]
  · rw [hB.2.1 16, h16]
    show _ = ((N_lv hh (l.map (V_er hh)) : Nat) : Int)
    rw [e1]
  · rw [hB.2.1 17, h17]
    show _ = ((N_lv hh (l.map (V_er hh)) + N_im hh (l.map (V_er hh)) : Nat) : Int)
    rw [e1, e2, e3]
  · show N_lv hh (l.map (V_er hh)) ≤ 251
    omega
  · show N_lv hh (l.map (V_er hh)) + N_im hh (l.map (V_er hh)) ≤ 335
    omega
/-- an index goes -/
theorem C_H.dr (h : C_H ι κ al sz cB eB st D gv M) (hx : x < 8) (hM : M1 = g_wi M (κ x 0) 9 0) : C_H ι κ al sz cB eB (I_up st x none) D gv M1 ∧ C_f1 ι M M1 := by
  have hg : g_fr (fun y => y = κ x 0) M M1 := by
    rw [hM]
    exact g_fr.wi _ _ rfl
  have hr1 : ι 1 ≠ κ x 0 := h.2.1.ix (by decide) hx (by decide)
  have k : k_F (fun y => y = κ x 0) (ι 1) M M1 := k_F.of hg hr1
  have hr : g_r M1 (κ x 0) = g_r M (κ x 0) := by
    funext j
    rw [hM]
    rfl
  have hS : ∀ y, y = κ x 0 → I_S3 (κ x 0) (κ x 8) (κ x 9) y ∨ B_own (κ x 7) M y := fun y e => Or.inl (Or.inl e)
  obtain ⟨b1, b2, b3, b4, b5⟩ := h.oth hx k hS hr
  refine ⟨?_, k.1, k.2.1, b5⟩
  obtain ⟨h1, h2, h3, h4, h5, h6, h7, h8⟩ := h
  have hown : ∀ y, y = κ x 0 → ¬ B_own (κ x 7) M y := fun y e => by
    rw [e]
    exact (h7 x hx _ (Or.inr (Or.inl ⟨x, 0, hx, by decide, by decide, rfl⟩))).2
  obtain ⟨t1, t2⟩ := (h6 x hx).1.kF h3 k hown
  have ho : ∀ x2, x2 < 8 → ∀ y, B_own (κ x2 7) M1 y ↔ B_own (κ x2 7) M y := fun x2 hx2 => by
    by_cases e : x2 = x
    · rw [e]
      exact t2
    · exact (b4 x2 hx2 e).2
  refine ⟨b1, h2, h3.of hg hr1 fun a n ha hn z => ?_, b2, b3, fun x2 hx2 => ?_, fun x2 hx2 => (h7 x2 hx2).kF k.2.1 (ho x2 hx2), fun x2 x3 hx2 hx3 hne y hy z => h8 x2 x3 hx2 hx3 hne y ((ho x2 hx2 y).mp hy) ((ho x3 hx3 y).mp z)⟩
  · rw [z] at ha
    exact g_neOA (h1.xO hx (j := 0) (c := 3) (by decide)) ha rfl
  · by_cases e : x2 = x
    · rw [e]
      have est : I_up st x none x = none := if_pos rfl
      rw [est]
      refine ⟨t1, ?_⟩
      show g_i M1 (κ x 0) 9 = 0
      rw [hM, g_i_wi, if_pos ⟨rfl, rfl⟩]
    · have est : I_up st x none x2 = st x2 := if_neg e
      rw [est]
      exact (b4 x2 hx2 e).1
theorem c_askedIndex {Q : Option Nat → g_M → Prop} {De : Nat} {pe k : Int} {nm vb : List Int} (h : C_H ι κ al sz cB eB st D gv M) (hw : w < 2) (h16 : g_r M (ι 0) 16 = some (ι (67 + w))) (h14 : g_i M (ι 0) 14 = pe) (he : b_st (g_i M (ι 2)) 2008 pe De k nm vb) (hk : k = 16 ∨ k = 18) (hn : (v_num k vb).toInt < 0 ∨ 3 < (v_num k vb).toInt ∨ (∀ j : Nat, (v_num k vb).toInt = j → st (4 * w + j) = none) → Q none (g_wi (g_wi M (ι 0) 17 41) (ι 0) 18 (-1))) (hy : ∀ j : Nat, (v_num k vb).toInt = j → j < 4 → st (4 * w + j) ≠ none → Q (some (κ (4 * w + j) 0)) M) : g_Call (d + 6) 220 [.ref (ι 0)] M (g_qR Q) := by
  obtain ⟨g0, gs, gh, gr10, gr1, gr0⟩ := h.gF hw
  obtain ⟨r', rk', rr', rA', ri'⟩ := h.xs hw
  obtain ⟨X, hX⟩ : ∃ X : Int64, X = v_num k vb := ⟨_, rfl⟩
  rw [← hX] at hn hy
  have hb : b_st (g_i M (ι 2)) 246408 pe De k nm vb := ⟨he.1, he.2.1, he.2.2.1, he.2.2.2.1, by have := he.2.2.2.2; omega⟩
  have z0 : (0 : Int64).toInt = 0 := by decide
  have z4 : (4 : Int64).toInt = 4 := by decide
  have refuse : Q none (g_wi (g_wi M (ι 0) 17 41) (ι 0) 18 (-1)) → g_Call (d + 5) 197 [.ref (ι 0), g_n 41, g_n (-1)] M (g_qV fun M25 => g_ext M M25 → g_ok M25 → Q none M25) := fun hQ => c_fail (d := d + 4) g0 ⟨by decide, by decide⟩ ⟨by decide, by decide⟩ fun _ _ => hQ
  refine m_X11_askedIndex (d := d + 5) fun _ => ⟨g0, ι 2, gr0, ?_⟩
  rw [h14]
  refine c_wh (d := d + 3) (h.1.A (by decide)) (by decide) hb hk ?_
  intro _ _
  rw [← hX]
  refine ⟨fun z => refuse (hn (Or.inl ?_)), fun z => ⟨fun z2 => ?_, fun z2 => refuse (hn (Or.inr (Or.inl ?_)))⟩⟩
  · have := (u_lt X 0).mp z
    rwa [z0] at this
  · have h0 : 0 ≤ X.toInt := by
      have : ¬ X.toInt < 0 := fun g => z ((u_lt X 0).mpr (by rw [z0]; exact g))
      omega
    have h3 : X.toInt < 4 := by
      have := (u_lt X 4).mp z2
      rwa [z4] at this
    obtain ⟨j, hj⟩ : ∃ j : Nat, X.toInt = j := ⟨X.toInt.toNat, by omega⟩
    have hj4 : j < 4 := by omega
    have h32 : X.toInt32.toInt = j := by
      rw [Int64.toInt_toInt32, hj]
      refine Int.bmod_eq_of_le ?_ ?_ <;> omega
    rw [h32]
    have hix := (h.2.2.2.2.2.1 (4 * w + j) (by omega)).2
    refine ⟨ι (67 + w), h16, gs, ι r', rr', 4, rA', ⟨by omega, by omega⟩, κ (4 * w + j) 0, ri' j hj4, h.1.xO (by omega) (by decide), fun g => refuse (hn (Or.inr (Or.inr fun j2 hj2 => ?_))), fun g => ⟨ι (67 + w), h16, gs, ι r', rr', 4, rA', ⟨by omega, by omega⟩, κ (4 * w + j) 0, ri' j hj4, hy j hj hj4 fun e => ?_⟩⟩
    · have : j2 = j := by omega
      rw [this]
      cases hst : st (4 * w + j) with
      | none => rfl
      | some t =>
        obtain ⟨V, T, m1, m2⟩ := t
        rw [hst] at hix
        exact absurd (hix.1.symm.trans g) (by decide)
    · rw [e] at hix
      exact g hix
  · have : ¬ X.toInt < 4 := fun g => z2 ((u_lt X 4).mpr (by rw [z4]; exact g))
    omega
theorem c_dropQ {Q : g_M → Prop} {De : Nat} {pe k : Int} {nm vb : List Int} (h : C_H ι κ al sz cB eB st D gv M) (hw : w < 2) (h16 : g_r M (ι 0) 16 = some (ι (67 + w))) (h14 : g_i M (ι 0) 14 = pe) (he : b_st (g_i M (ι 2)) 2008 pe De k nm vb) (hk : k = 16 ∨ k = 18) (hW : c_Wr (ι 3) (ι 4) 8000 0 8000 u M) (hn : (v_num k vb).toInt < 0 ∨ 3 < (v_num k vb).toInt ∨ (∀ j : Nat, (v_num k vb).toInt = j → st (4 * w + j) = none) → Q (g_wi (g_wi M (ι 0) 17 41) (ι 0) 18 (-1))) (hy : ∀ j : Nat, (v_num k vb).toInt = j → j < 4 → st (4 * w + j) ≠ none → ∀ M1, C_H ι κ al sz cB eB (I_up st (4 * w + j) none) D gv M1 → g_i M1 (ι 0) = g_i M (ι 0) ∧ g_r M1 (ι 0) = g_r M (ι 0) → c_Wr (ι 3) (ι 4) 8000 0 8000 (u ++ b_el 8 (b_tx 39) [1]) M1 → Q M1) : g_Call (d + 7) 221 [.ref (ι 0)] M (g_qV Q) := by
  refine m_X11_drop (d := d + 6) fun _ => ⟨h.1.O (by decide), c_askedIndex (d := d) h hw h16 h14 he hk (fun z => ?_) fun j j1 j2 j3 => ?_⟩
  · intro _ _
    exact ⟨fun _ => hn z, fun b z2 => absurd z2 (by simp)⟩
  · intro _ _
    refine ⟨fun z2 => absurd z2 (by simp), fun b z2 => ?_⟩
    have z2 : κ (4 * w + j) 0 = b := Option.some.inj z2
    rw [← z2]
    refine ⟨h.1.xO (by omega) (by decide), fun M8 e8 _ => ?_⟩
    obtain ⟨H8, f8⟩ := h.dr (x := 4 * w + j) (by omega) e8
    have W8 := C_H.Wr f8 hW
    have k8 := f8.2.2 0 (by decide) (by decide)
    refine ⟨ι 3, H8.1.r (by decide), H8.1.O (by decide), c_namedT (d := d + 2) (j := 39) (v := true) (by decide) W8 fun M9 f9 W9 => ?_⟩
    intro _ _
    obtain ⟨H9, k9⟩ := H8.wr f9
    have k09 := k9 0 (by decide) (by decide) (by decide)
    exact hy j j1 j2 j3 M9 H9 ⟨k09.1.trans k8.1, k09.2.trans k8.2⟩ W9
theorem c_shapeQ {Q : g_M → Prop} {De : Nat} {pe k : Int} {nm vb : List Int} (h : C_H ι κ al sz cB eB st D gv M) (hw : w < 2) (h16 : g_r M (ι 0) 16 = some (ι (67 + w))) (h14 : g_i M (ι 0) 14 = pe) (he : b_st (g_i M (ι 2)) 2008 pe De k nm vb) (hk : k = 16 ∨ k = 18) (hT : ∀ x, 4 * w ≤ x → x < 4 * w + 4 → ∀ V T m1 m2, st x = some (V, T, m1, m2) → (N_all T).length ≤ 1000) (hW : c_Wr (ι 3) (ι 4) 8000 0 8000 u M) (hn : (v_num k vb).toInt < 0 ∨ 3 < (v_num k vb).toInt ∨ (∀ j : Nat, (v_num k vb).toInt = j → st (4 * w + j) = none) → Q (g_wi (g_wi M (ι 0) 17 41) (ι 0) 18 (-1))) (hy : ∀ j : Nat, (v_num k vb).toInt = j → j < 4 → ∀ V T m1 m2, st (4 * w + j) = some (V, T, m1, m2) → ∀ M1, C_H ι κ al sz cB eB st D gv M1 → g_i M1 (ι 0) = g_i M (ι 0) ∧ g_r M1 (ι 0) = g_r M (ι 0) → c_Wr (ι 3) (ι 4) 8000 0 8000 (u ++ F_shp T m1 m2 65 66 67 68 69 70) M1 → Q M1) : g_Call (d + 7) 222 [.ref (ι 0)] M (g_qV Q) := by
  refine m_X11_shape (d := d + 6) fun _ => ⟨h.1.O (by decide), c_askedIndex (d := d) h hw h16 h14 he hk (fun z => ?_) fun j j1 j2 j3 => ?_⟩
  · intro _ _
    exact ⟨fun _ => hn z, fun b z2 => absurd z2 (by simp)⟩
  · intro _ _
    refine ⟨fun z2 => absurd z2 (by simp), fun b z2 => ?_⟩
    have z2 : κ (4 * w + j) 0 = b := Option.some.inj z2
    rw [← z2]
    obtain ⟨x, hx⟩ : ∃ x, x = 4 * w + j := ⟨_, rfl⟩
    rw [← hx] at j3 ⊢
    have hx8 : x < 8 := by omega
    cases hst : st x with
    | none => exact absurd hst j3
    | some t =>
    obtain ⟨V, T, m1, m2⟩ := t
    have hq2 := hy j j1 j2 V T m1 m2 (by rw [← hx]; exact hst)
    have hTl := hT x (by omega) (by omega) V T m1 m2 hst
    have tb : ∀ {mm : Int}, (mm = 0 ∨ mm = 1) → ∃ bb : Bool, mm = (if bb = true then 1 else 0) := fun hm => by
      rcases hm with g | g
      · exact ⟨false, g⟩
      · exact ⟨true, g⟩
    have key : ∀ {M' : g_M}, C_H ι κ al sz cB eB st D gv M' → g_O M' (κ x 0) 3 ∧ g_r M' (κ x 0) 4 = some (κ x 7) ∧ C_tr (κ x 7) V.1 V.2.1 T (sz x).1 (sz x).2 M' ∧ (g_i M' (κ x 0) 11 = m1 ∧ g_i M' (κ x 0) 12 = m2) ∧ (m1 = 0 ∨ m1 = 1) ∧ (m2 = 0 ∨ m2 = 1) := fun H => by
      have h9 := (H.2.2.2.2.2.1 x hx8).2
      rw [hst] at h9
      obtain ⟨-, -, -, g5, g6, g7, -⟩ := h9
      exact ⟨H.1.xO hx8 (by decide), H.1.xr hx8 (a := 0) (by decide), g5, g6, g7⟩
    obtain ⟨a1, a2, a3, a4, a5, a6⟩ := key h
    obtain ⟨s1, s2, s3, s4, s5, s6, s7⟩ := a3.hm (by omega)
    obtain ⟨b1, hb1⟩ := tb a5
    obtain ⟨b2, hb2⟩ := tb a6
    refine ⟨a1, κ x 7, a2, ι 3, h.1.r (by decide), s1, h.1.O (by decide), ?_⟩
    rw [s2]
    refine c_named2 (d := d + 2) (j := 65) (by decide) hW ⟨by omega, by omega⟩ fun M14 f14 W14 => ?_
    intro _ _
    obtain ⟨H14, k14⟩ := h.wr f14
    obtain ⟨a1', a2', a3', -⟩ := key H14
    refine ⟨ι 3, H14.1.r (by decide), c_levels (d := d + 5) a3' (by omega) ?_⟩
    intro _ _ _
    refine ⟨H14.1.O (by decide), c_named2 (d := d + 2) (j := 66) (by decide) W14 ⟨by omega, by omega⟩ fun M25 f25 W25 => ?_⟩
    intro _ _
    obtain ⟨H25, k25⟩ := H14.wr f25
    obtain ⟨a1', a2', a3', -⟩ := key H25
    obtain ⟨s1', s2', s3', s4', -⟩ := a3'.hm (by omega)
    refine ⟨ι 3, H25.1.r (by decide), H25.1.O (by decide), ?_⟩
    rw [s3']
    refine c_named2 (d := d + 2) (j := 67) (by decide) W25 ⟨by omega, by omega⟩ fun M31 f31 W31 => ?_
    intro _ _
    obtain ⟨H31, k31⟩ := H25.wr f31
    obtain ⟨a1', a2', a3', -⟩ := key H31
    obtain ⟨s1', s2', s3', s4', -⟩ := a3'.hm (by omega)
    refine ⟨ι 3, H31.1.r (by decide), H31.1.O (by decide), ?_⟩
    rw [s4']
    refine c_named2 (d := d + 2) (j := 68) (by decide) W31 ⟨by omega, by omega⟩ fun M37 f37 W37 => ?_
    intro _ _
    obtain ⟨H37, k37⟩ := H31.wr f37
    obtain ⟨a1', a2', a3', a4', -⟩ := key H37
    refine ⟨ι 3, H37.1.r (by decide), H37.1.O (by decide), ?_⟩
    rw [a4'.1, hb1]
    refine c_namedT (d := d + 2) (j := 69) (v := b1) (by decide) W37 fun M43 f43 W43 => ?_
    intro _ _
    obtain ⟨H43, k43⟩ := H37.wr f43
    obtain ⟨a1', a2', a3', a4', -⟩ := key H43
    refine ⟨ι 3, H43.1.r (by decide), H43.1.O (by decide), ?_⟩
    rw [a4'.2, hb2]
    refine c_namedT (d := d + 2) (j := 70) (v := b2) (by decide) W43 fun M49 f49 W49 => ?_
    intro _ _
    obtain ⟨H49, k49⟩ := H43.wr f49
    have z0 : (0 : Nat) ∈ Ck_k ∧ (0 : Nat) ≠ 3 ∧ (0 : Nat) ≠ 4 := by decide
    have c1 := k14 0 z0.1 z0.2.1 z0.2.2
    have c2 := k25 0 z0.1 z0.2.1 z0.2.2
    have c3 := k31 0 z0.1 z0.2.1 z0.2.2
    have c4 := k37 0 z0.1 z0.2.1 z0.2.2
    have c5 := k43 0 z0.1 z0.2.1 z0.2.2
    have c6 := k49 0 z0.1 z0.2.1 z0.2.2
    refine hq2 M49 H49 ⟨c6.1.trans (c5.1.trans (c4.1.trans (c3.1.trans (c2.1.trans c1.1)))), c6.2.trans (c5.2.trans (c4.2.trans (c3.2.trans (c2.2.trans c1.2))))⟩ ?_
    rw [← hb1, ← hb2] at W49
    unfold F_shp
    rw [← List.append_assoc, ← List.append_assoc, ← List.append_assoc, ← List.append_assoc, ← List.append_assoc]
    exact W49
end CWI
