/-! FILTERS: the reference holds them -/
theorem g_or0 (x : Bool) : g_or (if x = true then 1 else 0) 0 = (if x = true then 1 else 0) := by cases x <;> decide +kernel
theorem g_or1 (x : Bool) : g_or (if x = true then 1 else 0) 1 = 1 := by cases x <;> decide +kernel
theorem g_orb (x y : Bool) : g_or (if x = true then 1 else 0) (if y = true then 1 else 0) = (if (x || y) = true then 1 else 0) := by cases x <;> cases y <;> decide +kernel
theorem g_andb (x y : Bool) : g_and (if x = true then 1 else 0) (if y = true then 1 else 0) = (if (x && y) = true then 1 else 0) := by cases x <;> cases y <;> decide +kernel
theorem u_bR (x : Bool) : g_InR (if x = true then 1 else 0) := by cases x <;> exact ⟨by decide, by decide⟩
theorem u_b01 (x : Bool) : ((if x = true then 1 else 0 : Int) = 0 ∨ (if x = true then 1 else 0 : Int) = 1) := by cases x <;> simp
def G_A (m b l : Nat) (F : Int → Int) (n : Nat) : Prop := ∀ (M : g_M) (L : List Int) (Q : Int → g_M → Prop) (dd : Nat) (cf cd : Int) (fe de : b_E) (D Dd : Nat), E_S m b l F M L → E_dc F cf D fe → D < n → fe.2.2.length ≤ 3000 → cf + fe.2.2.length ≤ 80000 → (F_V n).1 (b_ch fe.2.2) → E_dc F cd Dd de → Dd ≤ 17 → de.2.2.length ≤ 19000 → L.length + 2 + L_W L_c1 (L_C (Dd + 1)) de ≤ 32000 → 8 * n + 60 ≤ dd → (∀ M1, e_fr (E_lf m l) M M1 → E_S m b l F M1 L → Q (if (F_X n).1 (b_ch fe.2.2) de = true then 1 else 0) M1) → g_Call dd 293 [.ref m, g_n cf, g_n cd] M (g_qI Q)
def G_B (m b l : Nat) (F : Int → Int) (n : Nat) : Prop := ∀ (M : g_M) (L : List Int) (Q : Int → g_M → Prop) (dd : Nat) (cf : Int) (fe : b_E) (D fr : Nat) (ls : List (Option (Int × b_E))), E_S m b l F M L → E_dc F cf D fe → D < n → fe.2.2.length ≤ 3000 → cf + fe.2.2.length ≤ 80000 → (F_V n).2 (b_ch fe.2.2) → F_w F 2706210 L fr ls → fr + ls.length ≤ 40000 → (∀ y, some y ∈ ls → y.2.2.2.length ≤ 19000) → F_lr F 2706210 32000 L.length ls → L.length + n ≤ 32100 → 8 * n + 60 ≤ dd → (∀ M1, e_fr (E_lf m l) M M1 → E_S m b l F M1 L → Q (if (F_X n).2 (b_ch fe.2.2) (ls.map L_nop) = true then 1 else 0) M1) → g_Call dd 295 [.ref m, g_n cf, g_n fr, g_n ((fr : Int) + ls.length)] M (g_qI Q)
section EHOLD3
variable {m b l : Nat} {F : Int → Int} {n : Nat}
noncomputable def F_el (n : Nat) (fe x : b_E) : Bool := if F_ci fe = true then (F_X n).2 (b_ch fe.2.2) [some x] else x.1 == 3 && (F_X n).1 (b_ch fe.2.2) x
/-- some item of a row -/
theorem e_hasItem (hHA : G_A m b l F n) (hB : G_B m b l F n) {M : g_M} {L : List Int} {Q : Int → g_M → Prop} {d : Nat} {pe : Int} {fe : b_E} {D : Nat} {y : Int × b_E} {Dy : Nat} (hS : E_S m b l F M L) (hs : b_st F 2706210 pe (D + 1) fe.1 fe.2.1 fe.2.2) (hk3 : fe.1 = 3) (hD : D < n) (hl : fe.2.2.length ≤ 3000) (hpq : pe + 2 + fe.2.1.length + fe.2.2.length ≤ 80000) (hV3 : F_ci fe = true → (F_V n).2 (b_ch fe.2.2)) (hV4 : F_ci fe = false → (F_V n).1 (b_ch fe.2.2)) (ys : b_st F 2706210 y.1 Dy y.2.1 y.2.2.1 y.2.2.2) (gy : y.2.1 = 4) (hDy : Dy ≤ 18) (hyl : y.2.2.2.length ≤ 19000) (hyr : L.length + 3 + L_W L_c1 (L_U Dy) y.2 ≤ 32000) (hr : L.length + n + 1 ≤ 32100) (hd : 8 * n + 60 ≤ d) (h : ∀ M1, e_fr (E_lf m l) M M1 → E_S m b l F M1 L → Q (if ((F_its y.2).any (F_el n fe)) = true then 1 else 0) M1) : g_Call (d + 1) 297 [.ref m, g_n pe, g_n (y.1 + 2 + y.2.2.1.length)] M (g_qI Q) := by
  obtain ⟨Dz, es, e1, e2, e3, e4, e5, e6, e7, e8⟩ := ys.tl (Or.inr gy)
  have hits : F_its y.2 = es := by
    unfold F_its F_it
    rw [if_pos gy]
    exact e5
  rw [hits] at h
  have hpe := hs.R (by decide)
  have hc4 := e4.st
  have hdc : E_dc F (pe + 2 + fe.2.1.length) D fe := by
    have hs2 := hs
    rw [hk3] at hs2
    have := hs2.dc
    rw [← hk3] at this
    exact this
  obtain ⟨d, rfl⟩ : ∃ d', d = d' + 60 := ⟨d - 60, by omega⟩
  have hyl2 := congrArg List.length e2
  rw [b_doc_len] at hyl2
  have hlp : ∀ (fs : List b_E) (q : Int) (M1 : g_M), e_tl F (y.1 + 2 + y.2.2.1.length) q Dz es fs → (∀ x ∈ fs, x ∈ es) → e_fr (E_lf m l) M M1 → E_S m b l F M1 L → (∀ M2, e_fr (E_lf m l) M M2 → E_S m b l F M2 L → Q (if (fs.any (F_el n fe)) = true then 1 else 0) M2) → g_Run (d + 60) 297 5 [(0, .ref m), (1, g_n pe), (2, g_n (y.1 + 2 + y.2.2.1.length)), (3, g_n q)] [] M1 (g_qI Q) := by
    intro fs
    induction fs with
    | nil =>
      intro q M1 s1 _ f1 hS1 h
      obtain ⟨hR, L1, L2, L3, L4, hF, L5⟩ := id hS1
      have hq := s1.st
      exact s_X12_hasItem_5 hpe ⟨by omega, by omega⟩ ⟨by omega, by omega⟩ fun _ => ⟨hR.1, e_lastE hR (by rw [hF]; exact s1) fun _ _ _ => ⟨fun g => absurd g (by omega), fun _ => h M1 f1 hS1⟩⟩
    | cons x fs ihf =>
      intro q M1 s1 hm f1 hS1 h
      obtain ⟨hR, L1, L2, L3, L4, hF, L5⟩ := id hS1
      have hq := s1.st
      obtain ⟨t1, t2⟩ := s1.cons
      have t1' : b_st (g_i M1 b) 2706210 q Dz x.1 x.2.1 x.2.2 := by rw [hF]; exact t1
      have hs' : b_st (g_i M1 b) 2706210 pe (D + 1) fe.1 fe.2.1 fe.2.2 := by rw [hF]; exact hs
      have hxm := hm x List.mem_cons_self
      have hxl := b_ser_mem hxm
      have hxR := t1.R (by decide)
      obtain ⟨Dz2, eDz, hu1, hu2⟩ := L_U_ch ys gy hDy (x := x) (by rw [e5]; exact hxm)
      obtain rfl : Dz = Dz2 := by omega
      have hca : ((x :: fs).any (F_el n fe)) = (F_el n fe x || fs.any (F_el n fe)) := rfl
      rw [hca] at h
      have hnx : F_el n fe x = false → ∀ M1, e_fr (E_lf m l) M M1 → E_S m b l F M1 L → g_Call (d + 60) 235 [.ref m, g_n q] M1 (g_qI fun r20 M17 => g_ext M1 M17 → g_ok M17 → g_InR r20 → g_Run (d + 60) 297 5 [(0, .ref m), (1, g_n pe), (2, g_n (y.1 + 2 + y.2.2.1.length)), (3, g_n r20)] [] M17 (g_qI Q)) := by
        intro he M1 f1 hS1
        rw [he, Bool.false_or] at h
        obtain ⟨hR, -, -, -, -, hF, -⟩ := id hS1
        exact e_bh2 hR (by rw [hF]; exact t1) fun _ _ _ => ihf _ M1 t2 (fun z hz => hm z (List.mem_cons_of_mem _ hz)) f1 hS1 h
      have hyes : F_el n fe x = true → ∀ M1, e_fr (E_lf m l) M M1 → E_S m b l F M1 L → Q 1 M1 := by
        intro he M1 f1 hS1
        have h2 := h M1 f1 hS1
        rw [he, Bool.true_or] at h2
        exact h2
      refine s_X12_hasItem_5 hpe ⟨by omega, by omega⟩ ⟨by omega, by omega⟩ fun _ => ⟨hR.1, e_lastC hR (by rw [hF]; exact s1) fun r hr1 hr2 => fun _ _ _ => ⟨fun _ => e_areItems hR hs' (fun gc => ?_) (fun gc => ?_), fun g => absurd (by omega) g⟩⟩
      · -- conditions of the item
        have gc : F_ci fe = true := gc
        refine fun _ _ _ => ⟨fun g => absurd g (by decide), fun _ => e_addLeafS hS1 hxR (by omega) fun M2 f2 hS2 => ?_⟩
        intro _ _
        obtain ⟨hR2, -, -, N3, -, hF2, -⟩ := id hS2
        refine e_vl2 hR2 (by rw [hF2]; exact hs) fun _ _ _ => ?_
        rw [L3, N3, List.length_append, List.length_singleton]
        have hb2 := hB M2 (L ++ [q]) (fun r53 M50 => g_ext M2 M50 → g_ok M50 → g_InR r53 → ∀ M55, M55 = g_wi M50 m 10 (L.length : Int) → g_ok M55 → (r53 = 0 → g_Call (d + 60) 235 [.ref m, g_n q] M55 (g_qI fun r20 M17 => g_ext M55 M17 → g_ok M17 → g_InR r20 → g_Run (d + 60) 297 5 [(0, .ref m), (1, g_n pe), (2, g_n (y.1 + 2 + y.2.2.1.length)), (3, g_n r20)] [] M17 (g_qI Q))) ∧ (¬ r53 = 0 → Q 1 M55)) (d + 60) (pe + 2 + fe.2.1.length) fe D L.length [some (q, x)] hS2 hdc hD hl hpq (hV3 gc) ⟨fun i z hz => ?_, fun y hy => ?_⟩ ?_ (fun y hy => ?_) (fun y hy hy4 => ?_) ?_ hd (fun M3 f3 hS3 => ?_)
        · have e1 : (((L.length + 1 : Nat)) : Int) = (L.length : Int) + ([some (q, x)] : List (Option (Int × b_E))).length := by rw [List.length_singleton]; omega
          rw [e1]
          exact hb2
        · have hi := (List.getElem?_eq_some_iff.mp hz).1
          rw [List.length_singleton] at hi
          obtain rfl : i = 0 := by omega
          cases hz
          rw [Nat.add_zero, List.getElem?_append_right (Nat.le_refl _), Nat.sub_self]
          rfl
        · have := List.mem_singleton.mp hy
          cases this
          exact ⟨t1.le (by omega), by show x.2.2.length ≤ _; omega⟩
        · rw [List.length_singleton]
          omega
        · have := List.mem_singleton.mp hy
          cases this
          show x.2.2.length ≤ _
          omega
        · have := List.mem_singleton.mp hy
          cases this
          have := hu2 (Or.inr hy4)
          refine ⟨Dz, by omega, t1, ?_⟩
          rw [List.length_append, List.length_singleton]
          show L.length + 1 + 3 + L_W L_c1 (L_U Dz) x ≤ 32000
          omega
        · rw [List.length_append, List.length_singleton]
          omega
        · intro _ _ _ M55 e55 _
          subst e55
          obtain ⟨c1, c2⟩ := hS3.cut
          have he2 : F_el n fe x = (F_X n).2 (b_ch fe.2.2) [some x] := if_pos gc
          have f5 := (f1.tr f2).tr (f3.tr c2)
          have hmp : ([some (q, x)] : List (Option (Int × b_E))).map L_nop = [some x] := rfl
          rw [hmp]
          cases he : (F_X n).2 (b_ch fe.2.2) [some x]
          · exact ⟨fun _ => hnx (he2.trans he) _ f5 c1, fun g => absurd rfl g⟩
          · exact ⟨fun g => absurd g (by decide), fun _ => hyes (he2.trans he) _ f5 c1⟩
      · have gc : F_ci fe = false := gc
        refine fun _ _ _ => ⟨fun _ => e_kd hR t1' (P := fun z => (z = 3 → _) ∧ (¬ z = 3 → _)) ⟨fun gx => ?_, fun gx => ?_⟩, fun g => absurd rfl g⟩
        · refine e_vl2 hR hs' fun _ _ _ => e_vl2 hR t1' fun _ _ _ => ?_
          obtain ⟨Dd, rfl⟩ : ∃ Dd, Dz = Dd + 1 := by
            obtain ⟨D3, _, e9, -⟩ := t1.ch (Or.inl gx)
            exact ⟨D3, e9⟩
          have hxdc : E_dc F (q + 2 + x.2.1.length) Dd x := by
            have t1x := t1
            rw [gx] at t1x
            have := t1x.dc
            rw [← gx] at this
            exact this
          refine hHA M1 L _ (d + 60) _ _ fe x D Dd hS1 hdc hD hl hpq (hV4 gc) hxdc (by omega) (by omega) (by omega) hd fun M3 f3 hS3 => ?_
          intro _ _ _
          have he2 : F_el n fe x = (F_X n).1 (b_ch fe.2.2) x := by
            unfold F_el
            rw [gc, if_neg Bool.false_ne_true, show (x.1 == 3) = true by simpa using gx, Bool.true_and]
          cases he : (F_X n).1 (b_ch fe.2.2) x
          · exact ⟨fun _ => hnx (he2.trans he) _ (f1.tr f3) hS3, fun g => absurd rfl g⟩
          · exact ⟨fun g => absurd g (by decide), fun _ => hyes (he2.trans he) _ (f1.tr f3) hS3⟩
        · have he : F_el n fe x = false := by
            unfold F_el
            rw [gc, if_neg Bool.false_ne_true, show (x.1 == 3) = false by simpa using gx, Bool.false_and]
          exact hnx he M1 f1 hS1
  have hS0 := hS
  refine m_X12_hasItem hpe ⟨by omega, by omega⟩ fun _ => e_first hc4.2.2.1 hc4.2.2.2 fun _ _ _ => ?_
  have h9 := hlp es _ M e4 (fun _ h => h) (e_fr.rf _ _) hS0 h
  rw [show y.1 + 6 + (y.2.2.1.length : Int) = y.1 + 2 + y.2.2.1.length + 4 by omega] at h9
  exact h9
theorem e_hCond (hHA : G_A m b l F n) (hB : G_B m b l F n) {M : g_M} {L : List Int} {Q : Int → g_M → Prop} {d : Nat} {pe : Int} {fe : b_E} {D fr : Nat} {ls : List (Option (Int × b_E))} (hS : E_S m b l F M L) (hs : b_st F 2706210 pe D fe.1 fe.2.1 fe.2.2) (hD : D ≤ n) (hD20 : D ≤ 20) (hl : fe.2.2.length ≤ 3000) (hpq : pe + 2 + fe.2.1.length + fe.2.2.length ≤ 80000) (hV0 : F_cd fe.2.1 ≠ 0) (hV1 : F_rv (F_cd fe.2.1) fe = true) (hV2 : F_cd fe.2.1 = 12 → (F_V n).2 (b_ch fe.2.2)) (hV3 : F_cd fe.2.1 = 11 → F_ci fe = true → (F_V n).2 (b_ch fe.2.2)) (hV4 : F_cd fe.2.1 = 11 → F_ci fe = false → (F_V n).1 (b_ch fe.2.2)) (hw : F_w F 2706210 L fr ls) (hb : fr + ls.length ≤ 40000) (hw2 : ∀ y, some y ∈ ls → y.2.2.2.length ≤ 19000) (hlr : F_lr F 2706210 32000 L.length ls) (hr : L.length + n + 1 ≤ 32100) (hd : 8 * n + 60 ≤ d) (h : ∀ M1, e_fr (E_lf m l) M M1 → E_S m b l F M1 L → Q (if F_cdn (F_X n) fe (ls.map L_nop) = true then 1 else 0) M1) : g_Call (d + 2) 296 [.ref m, g_n pe, g_n fr, g_n ((fr : Int) + ls.length)] M (g_qI Q) := by
  have hS0 := hS
  have hs0 := hs
  obtain ⟨hR, L1, L2, L3, L4, hF, L5⟩ := hS
  have hs' : b_st (g_i M b) 2706210 pe D fe.1 fe.2.1 fe.2.2 := by rw [hF]; exact hs
  have hcR := F_cd_R fe.2.1
  have hpe := hs.R (by decide)
  have hM := h M (e_fr.rf _ _) hS0
  obtain ⟨d, rfl⟩ : ∃ d', d = d' + 60 := ⟨d - 60, by omega⟩
  have i1 : F_cd fe.2.1 = 1 ↔ fe.2.1 = b_tx 17 := @F_cd_i fe.2.1 1 (by decide) (by decide)
  have i2 : F_cd fe.2.1 = 2 ↔ fe.2.1 = b_tx 18 := @F_cd_i fe.2.1 2 (by decide) (by decide)
  have i3 : F_cd fe.2.1 = 3 ↔ fe.2.1 = b_tx 19 := @F_cd_i fe.2.1 3 (by decide) (by decide)
  have i4 : F_cd fe.2.1 = 4 ↔ fe.2.1 = b_tx 20 := @F_cd_i fe.2.1 4 (by decide) (by decide)
  have i9 : F_cd fe.2.1 = 9 ↔ fe.2.1 = b_tx 25 := @F_cd_i fe.2.1 9 (by decide) (by decide)
  have i10 : F_cd fe.2.1 = 10 ↔ fe.2.1 = b_tx 26 := @F_cd_i fe.2.1 10 (by decide) (by decide)
  have i11 : F_cd fe.2.1 = 11 ↔ fe.2.1 = b_tx 27 := @F_cd_i fe.2.1 11 (by decide) (by decide)
  have i12 : F_cd fe.2.1 = 12 ↔ fe.2.1 = b_tx 28 := @F_cd_i fe.2.1 12 (by decide) (by decide)
  have hs20 := hs.le hD20
  generalize hkd : F_cd fe.2.1 = k at *
  unfold F_cdn at hM
  simp only [hkd] at hM
  refine m_X12_holdsCondition hpe ⟨by omega, by omega⟩ ⟨by omega, by omega⟩ fun _ => ⟨hR.1, ?_⟩
  refine e_nm3 (j2 := 17) (by decide) (by decide +kernel) hR hs' (fun g => ?_) (fun n1 => ?_)
  · rw [if_pos (i1.mpr g)] at hM
    exact fun _ _ _ => ⟨fun g => absurd g (by decide), fun _ => e_equals hS0 hs20 hw (by omega) fun _ _ _ => ⟨u_b01 _, hM⟩⟩
  have g1 : ¬ k = 1 := fun z => n1 (i1.mp z)
  rw [if_neg g1] at hM
  refine fun _ _ _ => ⟨fun _ => e_nm3 (j2 := 18) (by decide) (by decide +kernel) hR hs' (fun g => ?_) (fun n2 => ?_), fun g => absurd rfl g⟩
  · rw [if_pos (i2.mpr g)] at hM
    refine fun _ _ _ => ⟨fun g => absurd g (by decide), fun _ => e_equals hS0 hs20 hw (by omega) fun _ _ _ => ?_⟩
    cases he : F_eqs fe (ls.map L_nop)
    · rw [he] at hM
      exact ⟨fun _ => hM, fun g => absurd rfl g⟩
    · rw [he] at hM
      exact ⟨fun g => absurd g (by decide), fun _ => hM⟩
  have g2 : ¬ k = 2 := fun z => n2 (i2.mp z)
  rw [if_neg g2] at hM
  refine fun _ _ _ => ⟨fun _ => e_nm3 (j2 := 19) (by decide) (by decide +kernel) hR hs' (fun g => ?_) (fun n3 => ?_), fun g => absurd rfl g⟩
  · have gk := i3.mpr g
    have hk4 : fe.1 = 4 := by
      subst gk
      exact eq_of_beq hV1
    rw [if_pos gk] at hM
    exact fun _ _ _ => ⟨fun g => absurd g (by decide), fun _ => e_equalsSome hS0 hs20 hk4 hw (by omega) fun _ _ _ => ⟨u_b01 _, hM⟩⟩
  have g3 : ¬ k = 3 := fun z => n3 (i3.mp z)
  rw [if_neg g3] at hM
  refine fun _ _ _ => ⟨fun _ => e_nm3 (j2 := 20) (by decide) (by decide +kernel) hR hs' (fun g => ?_) (fun n4 => ?_), fun g => absurd rfl g⟩
  · have gk := i4.mpr g
    have hk4 : fe.1 = 4 := by
      subst gk
      exact eq_of_beq hV1
    rw [if_pos gk] at hM
    refine fun _ _ _ => ⟨fun g => absurd g (by decide), fun _ => e_equalsSome hS0 hs20 hk4 hw (by omega) fun _ _ _ => ?_⟩
    cases he : F_in fe (ls.map L_nop)
    · rw [he] at hM
      exact ⟨fun _ => hM, fun g => absurd rfl g⟩
    · rw [he] at hM
      exact ⟨fun g => absurd g (by decide), fun _ => hM⟩
  have g4 : ¬ k = 4 := fun z => n4 (i4.mp z)
  rw [if_neg g4] at hM
  have hdc : fe.1 = 3 → ∃ D', D = D' + 1 ∧ E_dc F (pe + 2 + fe.2.1.length) D' fe := by
    intro hk3
    obtain ⟨D', _, e9, -⟩ := hs0.ch (Or.inl hk3)
    subst e9
    refine ⟨D', rfl, ?_⟩
    have hs2 := hs0
    rw [hk3] at hs2
    have := hs2.dc
    rw [← hk3] at this
    exact this
  refine fun _ _ _ => ⟨fun _ => e_nm3 (j2 := 28) (by decide) (by decide +kernel) hR hs' (fun g => ?_) (fun n12 => ?_), fun g => absurd rfl g⟩
  · -- $not
    have gk := i12.mpr g
    have hk3 : fe.1 = 3 := by
      subst gk
      exact F_cs_k hV1
    obtain ⟨D', rfl, hdc1⟩ := hdc hk3
    have hX : ∀ vs, F_cdn (F_X n) fe vs = !(F_X n).2 (b_ch fe.2.2) vs := by
      intro vs
      unfold F_cdn
      rw [hkd, if_neg g1, if_neg g2, if_neg g3, if_neg g4, if_neg (show ¬ k = 9 by omega), if_neg (show ¬ k = 10 by omega), if_neg (show ¬ k = 11 by omega), if_pos gk]
    rw [hX] at h
    refine fun _ _ _ => ⟨fun g => absurd g (by decide), fun _ => e_vl2 hR hs' fun _ _ _ => ?_⟩
    refine hB M L _ (d + 61) _ fe D' fr ls hS0 hdc1 (by omega) hl hpq (hV2 gk) hw hb hw2 hlr (by omega) (by omega) fun M2 f2 hS2 => ?_
    intro _ _ _
    have h2 := h M2 f2 hS2
    cases he : (F_X n).2 (b_ch fe.2.2) (ls.map L_nop)
    · rw [he] at h2
      exact ⟨fun _ => h2, fun g => absurd rfl g⟩
    · rw [he] at h2
      exact ⟨fun g => absurd g (by decide), fun _ => h2⟩
  have g12 : ¬ k = 12 := fun z => n12 (i12.mp z)
  refine fun _ _ _ => ⟨fun _ => e_nm3 (j2 := 25) (by decide) (by decide +kernel) hR hs' (fun g => ?_) (fun n9 => ?_), fun g => absurd rfl g⟩
  · -- $exists
    have gk := i9.mpr g
    rw [if_pos gk] at hM
    have hk8 : fe.1 = 8 := by
      subst gk
      exact eq_of_beq hV1
    have hlf := b_gv8 (D := D) (vb := fe.2.2) (by rw [← hk8]; exact hs.2.2.1)
    obtain ⟨v1, v2, v3, v4⟩ := hs'.val
    have hvl : fe.2.2.length = 1 := by rcases hlf with hv | hv <;> rw [hv] <;> rfl
    have h140 : ∀ (ls : List (Option (Int × b_E))) (f : Nat) (to f0 : Int) (acc : Bool), g_InR f0 → F_w F 2706210 L f ls → to = f + ls.length → f + ls.length ≤ 40000 → Q (if ((acc || F_ex (ls.map L_nop)) == (fe.2.2 == [1])) = true then 1 else 0) M → g_Run (d + 61) 296 140 [(0, .ref m), (1, g_n pe), (2, g_n f0), (3, g_n to), (4, g_n (if acc = true then 1 else 0)), (5, g_n f)] [] M (g_qI Q) := by
      intro ls
      induction ls with
      | nil =>
        intro f to f0 acc hf0 hw hto hb h
        rw [List.length_nil] at hto hb
        have h : Q (if ((acc || false) == (fe.2.2 == [1])) = true then 1 else 0) M := h
        rw [Bool.or_false] at h
        refine s_X12_holdsCondition_140 hpe hf0 ⟨by omega, by omega⟩ (u_bR acc) ⟨by omega, by omega⟩ fun _ => ⟨fun g => absurd g (by omega), fun _ => ⟨hR.1, e_vl2 hR hs' fun _ _ _ => e_at hR (by omega) (by omega) fun _ _ _ => ?_⟩⟩
        rcases hlf with hv | hv
        · rw [hv] at v1 h
          rw [(b_cons.mp v1).1, show g_and 0 255 = 0 by decide +kernel]
          rw [show (([0] : List Int) == [1]) = false from rfl] at h
          refine ⟨fun g => absurd g (by decide), fun _ => ?_⟩
          cases acc
          · exact ⟨fun _ => h, fun g => absurd rfl g⟩
          · exact ⟨fun g => absurd g (by decide), fun _ => h⟩
        · rw [hv] at v1 h
          rw [(b_cons.mp v1).1, show g_and 1 255 = 1 by decide +kernel]
          rw [show (([1] : List Int) == [1]) = true from rfl] at h
          refine ⟨fun _ => ?_, fun g => absurd rfl g⟩
          cases acc
          · exact ⟨fun g => absurd g (by decide), fun _ => h⟩
          · exact ⟨fun _ => h, fun g => absurd rfl g⟩
      | cons z ls ih =>
        intro f to f0 acc hf0 hw hto hb h
        rw [List.length_cons] at hto hb
        obtain ⟨w1, w2⟩ := hw.cons
        obtain ⟨q1, q2⟩ := hS0.get w1
        refine s_X12_holdsCondition_140 hpe hf0 ⟨by omega, by omega⟩ (u_bR acc) ⟨by omega, by omega⟩ fun _ => ⟨fun _ => ⟨hR.1, l, L1, _, L2, ⟨by omega, by omega⟩, ?_⟩, fun g => absurd (by omega) g⟩
        rw [q1, g_or0, g_or1]
        rcases z with _ | y
        · refine ⟨fun _ => ⟨⟨by omega, by omega⟩, ?_⟩, fun g => absurd rfl g⟩
          have := ih (f + 1) to f0 acc hf0 w2 (by omega) (by omega) h
          rwa [show ((f + 1 : Nat) : Int) = (f : Int) + 1 by omega] at this
        · have hy0 := (hw.2 y List.mem_cons_self).1.2.2.2.1
          refine ⟨fun g => absurd (show y.1 = -1 from g) (by omega), fun _ => ⟨⟨by omega, by omega⟩, ?_⟩⟩
          have h : Q (if ((acc || (true || F_ex (ls.map L_nop))) == (fe.2.2 == [1])) = true then 1 else 0) M := h
          rw [Bool.true_or, Bool.or_true] at h
          have := ih (f + 1) to f0 true hf0 w2 (by omega) (by omega) (by rw [Bool.true_or]; exact h)
          rwa [show ((f + 1 : Nat) : Int) = (f : Int) + 1 by omega] at this
    exact fun _ _ _ => ⟨fun g => absurd g (by decide), fun _ => h140 ls fr _ _ false ⟨by omega, by omega⟩ hw rfl hb (by rw [Bool.false_or]; exact hM)⟩
  have g9 : ¬ k = 9 := fun z => n9 (i9.mp z)
  -- $size, $elem
  have h230 : ∀ (PX : b_E → Bool), (∀ M1 (y : Int × b_E) (f : Nat) (Q2 : Int → g_M → Prop), e_fr (E_lf m l) M M1 → E_S m b l F M1 L → b_st F 2706210 y.1 20 y.2.1 y.2.2.1 y.2.2.2 → some y ∈ ls → y.2.1 = 4 → L[f]? = some y.1 → f < 40000 → (∀ M2, e_fr (E_lf m l) M M2 → E_S m b l F M2 L → Q2 (if PX y.2 = true then 1 else 0) M2) → g_Call (d + 61) 236 [.ref m, g_n pe, .ref (4 * 106 + 1)] M1 (g_qI fun r22 M19 => g_ext M1 M19 → g_ok M19 → g_InR r22 → ((r22 = 0 → ∃ b24, g_r M19 m 9 = some b24 ∧ ∃ n26, g_A M19 b24 1 n26 ∧ ((0 : Int) ≤ f ∧ (f : Int) < n26) ∧ g_Call (d + 61) 233 [.ref m, g_n (g_i M19 b24 f)] M19 (g_qI fun r32 M29 => g_ext M19 M29 → g_ok M29 → g_InR r32 → g_Call (d + 61) 297 [.ref m, g_n pe, g_n r32] M29 (g_qI fun r37 M34 => g_ext M29 M34 → g_ok M34 → g_InR r37 → ((r37 = 0 → Q2 0 M34) ∧ (¬ r37 = 0 → Q2 1 M34))))) ∧ (¬ r22 = 0 → ∃ b41, g_r M19 m 9 = some b41 ∧ ∃ n43, g_A M19 b41 1 n43 ∧ ((0 : Int) ≤ f ∧ (f : Int) < n43) ∧ g_Call (d + 61) 233 [.ref m, g_n (g_i M19 b41 f)] M19 (g_qI fun r49 M46 => g_ext M19 M46 → g_ok M46 → g_InR r49 → g_Call (d + 61) 239 [.ref m, g_n r49] M46 (g_qI fun r54 M51 => g_ext M46 M51 → g_ok M51 → g_InR r54 → g_Call (d + 61) 243 [.ref m, g_n pe] M51 (g_qL fun R59 M56 => g_ext M51 M56 → g_ok M56 → ((g_lc (Int64.ofInt r54) R59 = 0 → Q2 1 M56) ∧ (¬ g_lc (Int64.ofInt r54) R59 = 0 → Q2 0 M56))))))))) → ∀ (ls2 : List (Option (Int × b_E))), (∀ z ∈ ls2, z ∈ ls) → ∀ (f : Nat) (to f0 : Int) (acc : Bool) (M1 : g_M), g_InR f0 → F_w F 2706210 L f ls2 → to = f + ls2.length → f + ls2.length ≤ 40000 → e_fr (E_lf m l) M M1 → E_S m b l F M1 L → (∀ M2, e_fr (E_lf m l) M M2 → E_S m b l F M2 L → Q (if (acc || (ls2.map L_nop).any fun z => match z with
      | none => false
      | some y => y.1 == 4 && PX y) = true then 1 else 0) M2) → g_Run (d + 61) 296 230 [(0, .ref m), (1, g_n pe), (2, g_n f0), (3, g_n to), (4, g_n (if acc = true then 1 else 0)), (5, g_n f)] [] M1 (g_qI Q) := by
    intro PX hPX ls2
    induction ls2 with
    | nil =>
      intro _ f to f0 acc M1 hf0 hw hto hb f1 hS1 h
      rw [List.length_nil] at hto hb
      refine s_X12_holdsCondition_230 hpe hf0 ⟨by omega, by omega⟩ (u_bR acc) ⟨by omega, by omega⟩ fun _ => ⟨fun g => absurd g (by omega), fun _ => ⟨u_b01 acc, ?_⟩⟩
      have h2 : Q (if (acc || false) = true then 1 else 0) M1 := h M1 f1 hS1
      rwa [Bool.or_false] at h2
    | cons z ls2 ih =>
      intro hmm f to f0 acc M1 hf0 hw hto hb f1 hS1 h
      rw [List.length_cons] at hto hb
      obtain ⟨w1, w2⟩ := hw.cons
      obtain ⟨q1, q2⟩ := hS1.get w1
      obtain ⟨hR1, N1, N2, N3, N4, hF1, N5⟩ := id hS1
      have hnx : ∀ (acc2 : Bool) (M2 : g_M), e_fr (E_lf m l) M M2 → E_S m b l F M2 L → (∀ M2, e_fr (E_lf m l) M M2 → E_S m b l F M2 L → Q (if (acc2 || (ls2.map L_nop).any fun z => match z with
          | none => false
          | some y => y.1 == 4 && PX y) = true then 1 else 0) M2) → g_InR ((f : Int) + 1) ∧ g_Run (d + 61) 296 230 [(0, .ref m), (1, g_n pe), (2, g_n f0), (3, g_n to), (4, g_n (if acc2 = true then 1 else 0)), (5, g_n ((f : Int) + 1))] [] M2 (g_qI Q) := by
        intro acc2 M2 f2 hS2 h2
        refine ⟨⟨by omega, by omega⟩, ?_⟩
        have := ih (fun z hz => hmm z (List.mem_cons_of_mem _ hz)) (f + 1) to f0 acc2 M2 hf0 w2 (by omega) (by omega) f2 hS2 h2
        rwa [show ((f + 1 : Nat) : Int) = (f : Int) + 1 by omega] at this
      refine s_X12_holdsCondition_230 hpe hf0 ⟨by omega, by omega⟩ (u_bR acc) ⟨by omega, by omega⟩ fun _ => ⟨fun _ => ⟨hR1.1, l, N1, _, N2, ⟨by omega, by omega⟩, ?_⟩, fun g => absurd (by omega) g⟩
      rw [q1, g_or0, g_or1]
      rcases z with _ | y
      · exact ⟨fun _ => hnx acc M1 f1 hS1 h, fun g => absurd rfl g⟩
      · have hym := hmm _ List.mem_cons_self
        obtain ⟨y1, y2⟩ := hw.2 y List.mem_cons_self
        have hy0 := y1.2.2.2.1
        have y1' : b_st (g_i M1 b) 2706210 y.1 20 y.2.1 y.2.2.1 y.2.2.2 := by rw [hF1]; exact y1
        obtain ⟨v1, v2, v3, v4⟩ := y1'.val
        refine ⟨fun g => absurd (show y.1 = -1 from g) (by omega), fun _ => ⟨b, hR1.2.1, l, N1, _, N2, ⟨by omega, by omega⟩, _, hR1.2.2, ?_⟩⟩
        rw [q1]
        refine ⟨⟨v3, show y.1 < _ by omega⟩, ?_⟩
        rw [show g_i M1 b (L_opt (some y)) = y.2.1 from v4]
        refine ⟨fun gy => ?_, fun gy => ?_⟩
        · refine (hPX M1 y f (fun r M2 => (r = 0 → g_InR ((f : Int) + 1) ∧ g_Run (d + 61) 296 230 [(0, .ref m), (1, g_n pe), (2, g_n f0), (3, g_n to), (4, g_n (if acc = true then 1 else 0)), (5, g_n ((f : Int) + 1))] [] M2 (g_qI Q)) ∧ (¬ r = 0 → g_InR ((f : Int) + 1) ∧ g_Run (d + 61) 296 230 [(0, .ref m), (1, g_n pe), (2, g_n f0), (3, g_n to), (4, g_n 1), (5, g_n ((f : Int) + 1))] [] M2 (g_qI Q))) f1 hS1 y1 hym gy w1 (by omega) (fun M2 f2 hS2 => ?_)).mono ?_
          · have hca : ∀ a : Bool, (a || ((some y :: ls2).map L_nop).any fun z => match z with
                | none => false
                | some y => y.1 == 4 && PX y) = ((a || PX y.2) || (ls2.map L_nop).any fun z => match z with
                | none => false
                | some y => y.1 == 4 && PX y) := by
              intro a
              show (a || ((y.2.1 == 4 && PX y.2) || _)) = _
              rw [show (y.2.1 == 4) = true by simpa using gy, Bool.true_and, Bool.or_assoc]
            rw [hca] at h
            cases hp : PX y.2
            · rw [hp, Bool.or_false] at h
              exact ⟨fun _ => hnx acc M2 f2 hS2 h, fun g => absurd rfl g⟩
            · rw [hp, Bool.or_true] at h
              exact ⟨fun g => absurd g (by decide), fun _ => hnx true M2 f2 hS2 h⟩
          · rintro v M2 - ⟨x, e1, e2, e3⟩
            refine ⟨x, e1, e2, fun a1 a2 a3 => ?_⟩
            obtain ⟨k1, k2⟩ := e3 a1 a2 a3
            refine ⟨fun g => ?_, fun g => ?_⟩
            · obtain ⟨b24, c1, n26, c2, c3, c4⟩ := k1 g
              refine ⟨b24, c1, n26, c2, c3, c4.mono ?_⟩
              rintro v M3 - ⟨x, e1, e2, e3⟩
              refine ⟨x, e1, e2, fun a1 a2 a3 => (e3 a1 a2 a3).mono ?_⟩
              rintro v M4 - ⟨x, e1, e2, e3⟩
              refine ⟨x, e1, e2, fun a1 a2 a3 => ?_⟩
              obtain ⟨k3, k4⟩ := e3 a1 a2 a3
              exact ⟨fun g => (k3 g).1 rfl, fun g => (k4 g).2 (by decide)⟩
            · obtain ⟨b24, c1, n26, c2, c3, c4⟩ := k2 g
              refine ⟨b24, c1, n26, c2, c3, c4.mono ?_⟩
              rintro v M3 - ⟨x, e1, e2, e3⟩
              refine ⟨x, e1, e2, fun a1 a2 a3 => (e3 a1 a2 a3).mono ?_⟩
              rintro v M4 - ⟨x, e1, e2, e3⟩
              refine ⟨x, e1, e2, fun a1 a2 a3 => (e3 a1 a2 a3).mono ?_⟩
              rintro v M5 - ⟨X, e1, e3⟩
              refine ⟨X, e1, fun a1 a2 => ?_⟩
              obtain ⟨k3, k4⟩ := e3 a1 a2
              exact ⟨fun g => (k3 g).2 (by decide), fun g => (k4 g).1 rfl⟩
        · refine hnx acc M1 f1 hS1 ?_
          have hca : (acc || ((some y :: ls2).map L_nop).any fun z => match z with
              | none => false
              | some y => y.1 == 4 && PX y) = (acc || (ls2.map L_nop).any fun z => match z with
              | none => false
              | some y => y.1 == 4 && PX y) := by
            show (acc || ((y.2.1 == 4 && PX y.2) || _)) = _
            rw [show (y.2.1 == 4) = false by simpa using gy, Bool.false_and, Bool.false_or]
          rw [hca] at h
          exact h
  refine fun _ _ _ => ⟨fun _ => e_nm3 (j2 := 26) (by decide) (by decide +kernel) hR hs' (fun g => ?_) (fun n10 => ?_), fun g => absurd rfl g⟩
  · -- $size
    have gk := i10.mpr g
    have hkn : fe.1 = 16 ∨ fe.1 = 18 := by
      subst gk
      have hV1 : ((fe.1 == 16 || fe.1 == 18) && _) = true := hV1
      rw [Bool.and_eq_true, Bool.or_eq_true] at hV1
      exact hV1.1.imp eq_of_beq eq_of_beq
    have hX : ∀ vs : List (Option b_E), F_cdn (F_X n) fe vs = vs.any (fun z => match z with
        | none => false
        | some y => y.1 == 4 && decide (g_lc (Int64.ofInt (b_ch y.2.2).length) (v_num fe.1 fe.2.2) = 0)) := by
      intro vs
      unfold F_cdn
      rw [hkd, if_neg g1, if_neg g2, if_neg g3, if_neg g4, if_neg g9, if_pos gk]
      rfl
    rw [hX] at h
    refine fun _ _ _ => ⟨fun g => absurd g (by decide), fun _ => h230 (fun y => decide (g_lc (Int64.ofInt (b_ch y.2.2).length) (v_num fe.1 fe.2.2) = 0)) (fun M1 y f Q2 f1 hS1 y1 hym gy hLf hf hq => ?_) ls (fun _ h => h) fr _ _ false M ⟨by omega, by omega⟩ hw rfl hb (e_fr.rf _ _) hS0 (by simpa using h)⟩
    obtain ⟨hR1, N1, N2, N3, N4, hF1, N5⟩ := id hS1
    have y1' : b_st (g_i M1 b) 2706210 y.1 20 y.2.1 y.2.2.1 y.2.2.2 := by rw [hF1]; exact y1
    have hs1 : b_st (g_i M1 b) 2706210 pe D fe.1 fe.2.1 fe.2.2 := by rw [hF1]; exact hs0
    refine e_nm3 (j2 := 26) (by decide) (by decide +kernel) hR1 hs1 (fun _ => ?_) (fun z => absurd g z)
    refine fun _ _ _ => ⟨fun g => absurd g (by decide), fun _ => ⟨l, N1, _, N2, ⟨by omega, by omega⟩, ?_⟩⟩
    rw [(hS1.get hLf).1]
    refine e_vl2 hR1 y1' fun _ _ _ => ?_
    obtain ⟨D1, es, e1, e2, e3, e4, e5, e6, e7, e8⟩ := y1'.tl (Or.inr gy)
    rw [show y.1 + 6 + (y.2.2.1.length : Int) = y.1 + 2 + y.2.2.1.length + 4 by omega] at e4
    refine e_countE hR1 e4 fun _ _ _ => e_num hR1 hs1 hkn fun _ _ => ?_
    have hq2 := hq M1 f1 hS1
    rw [e5] at hq2
    exact ⟨fun g => by rw [decide_eq_true g] at hq2; exact hq2, fun g => by rw [decide_eq_false g] at hq2; exact hq2⟩
  have g10 : ¬ k = 10 := fun z => n10 (i10.mp z)
  refine fun _ _ _ => ⟨fun _ => e_nm3 (j2 := 27) (by decide) (by decide +kernel) hR hs' (fun g => ?_) (fun n11 => ?_), fun g => absurd rfl g⟩
  · -- $elem
    have gk := i11.mpr g
    have hk3 : fe.1 = 3 := by
      subst gk
      exact eq_of_beq hV1
    have hX : ∀ vs : List (Option b_E), F_cdn (F_X n) fe vs = vs.any (fun z => match z with
        | none => false
        | some y => y.1 == 4 && (F_its y).any (F_el n fe)) := by
      intro vs
      unfold F_cdn
      rw [hkd, if_neg g1, if_neg g2, if_neg g3, if_neg g4, if_neg g9, if_neg g10, if_pos gk]
      have hpt : ∀ z : Option b_E, (match z with
          | none => false
          | some y => (F_its y).any fun x => if F_ci fe = true then (F_X n).2 (b_ch fe.2.2) [some x] else x.1 == 3 && (F_X n).1 (b_ch fe.2.2) x) = (match z with
          | none => false
          | some y => y.1 == 4 && (F_its y).any (F_el n fe)) := by
        intro z
        rcases z with _ | y
        · rfl
        · show ((F_its y).any (F_el n fe)) = (y.1 == 4 && (F_its y).any (F_el n fe))
          by_cases gy : y.1 = 4
          · rw [show (y.1 == 4) = true by simpa using gy, Bool.true_and]
          · rw [show F_its y = [] from if_neg gy]
            simp
      exact congrArg (fun f => vs.any f) (funext hpt)
    rw [hX] at h
    obtain ⟨D', rfl, -⟩ := hdc hk3
    refine fun _ _ _ => ⟨fun g => absurd g (by decide), fun _ => h230 (fun y => (F_its y).any (F_el n fe)) (fun M1 y f Q2 f1 hS1 y1 hym gy hLf hf hq => ?_) ls (fun _ h => h) fr _ _ false M ⟨by omega, by omega⟩ hw rfl hb (e_fr.rf _ _) hS0 (by simpa using h)⟩
    obtain ⟨hR1, N1, N2, N3, N4, hF1, N5⟩ := id hS1
    have y1' : b_st (g_i M1 b) 2706210 y.1 20 y.2.1 y.2.2.1 y.2.2.2 := by rw [hF1]; exact y1
    have hs1 : b_st (g_i M1 b) 2706210 pe (D' + 1) fe.1 fe.2.1 fe.2.2 := by rw [hF1]; exact hs0
    refine e_nm3 (j2 := 26) (by decide) (by decide +kernel) hR1 hs1 (fun z => absurd z n10) (fun _ => ?_)
    refine fun _ _ _ => ⟨fun _ => ⟨l, N1, _, N2, ⟨by omega, by omega⟩, ?_⟩, fun g => absurd rfl g⟩
    rw [(hS1.get hLf).1]
    refine e_vl2 hR1 y1' fun _ _ _ => ?_
    obtain ⟨Dy, hDy, ys, hyr⟩ := hlr y hym gy
    refine e_hasItem (d := d + 60) hHA hB hS1 hs0 hk3 (by omega) hl hpq (hV3 gk) (hV4 gk) ys gy hDy (hw2 y hym) hyr hr (by omega) fun M2 f2 hS2 => ?_
    intro _ _ _
    have hq2 := hq M2 (f1.tr f2) hS2
    cases he : (F_its y.2).any (F_el n fe)
    · rw [he] at hq2
      exact ⟨fun _ => hq2, fun g => absurd rfl g⟩
    · rw [he] at hq2
      exact ⟨fun g => absurd g (by decide), fun _ => hq2⟩
  have g11 : ¬ k = 11 := fun z => n11 (i11.mp z)
  rw [if_neg g9, if_neg g10, if_neg g11, if_neg g12] at hM
  exact fun _ _ _ => ⟨fun _ => e_compares (by exact hS0) (by omega) (by omega) hkd hs20 hw (by omega) fun _ _ _ => ⟨u_b01 _, hM⟩, fun g => absurd rfl g⟩
end EHOLD3
