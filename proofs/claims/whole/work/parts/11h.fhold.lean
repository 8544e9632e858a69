/-! FILTERS: the class holds them -/
theorem k_P.cut {M : g_M} {r b : Nat} {c e : Int} {L L1 : List Int} (h : k_P M r b c e (L ++ L1)) : k_P (g_wi M r 2 L.length) r b c e L := by
  obtain ⟨o1, o2, a, n, o3, o4, o5, o6, o7, o8, o9, o10⟩ := h
  rw [List.length_append] at o6
  refine ⟨o1, o2, a, n, o3, o4, ?_, by omega, o7, o8, o9, ?_⟩
  · rw [g_i_wi, if_pos ⟨rfl, rfl⟩]
  · intro i v hv
    rw [g_i_wi, if_neg (fun g => g_neOA o1 o4 g.1.symm)]
    exact (b_app.mp o10).1 i v hv
theorem k_F.top {S : Nat → Prop} {r : Nat} (M : g_M) (v : Int) : k_F S r M (g_wi M r 2 v) := by
  refine ⟨g_extW rfl, Nat.le_refl _, fun _ h => Or.inl h, fun k hk => ?_, fun _ _ => rfl, fun x _ hx _ _ => ⟨funext fun j => ?_, rfl⟩⟩
  · rw [g_i_wi, if_neg (fun z => hk z.2)]
  · rw [g_i_wi, if_neg (fun z => hx z.1)]
theorem F_S.cut {r b o po pf pt : Nat} {c e N : Int} {F : Int → Int} {M : g_M} {L L1 : List Int} (h : F_S r b o po pf pt c e N F M (L ++ L1)) : F_S r b o po pf pt c e N F (g_wi M r 2 L.length) L :=
  h.st (k_F.top M _) h.1.cut h.2.2.1
theorem L_v_up1 : ∀ {D : Nat} {e : b_E} {st : List (List Int)}, b_gv D e.1 e.2.2 → L_v D e st = L_v (D + 1) e st := by
  intro D
  induction D with
  | zero =>
    intro e st h
    rcases st with _ | ⟨s, r⟩
    · rfl
    · have hk := b_gv0 h
      show [none] = if e.1 = 3 then _ else if e.1 = 4 then _ else _
      rw [if_neg (fun g => hk (Or.inl g)), if_neg (fun g => hk (Or.inr g))]
  | succ D ih =>
    intro e st h
    rcases st with _ | ⟨s, r⟩
    · rfl
    · by_cases hk : e.1 = 3 ∨ e.1 = 4
      · obtain ⟨D1, es, e1, e2, e3, e4, e5, e6, e7⟩ := b_gv_doc h hk
        obtain rfl : D = D1 := by omega
        have hm : (match L_fn s (b_ch e.2.2) with
            | none => [none]
            | some z => L_v D z r) = (match L_fn s (b_ch e.2.2) with
            | none => [none]
            | some z => L_v (D + 1) z r) := by
          rw [e7]
          rcases hf : L_fn s es with _ | z
          · rfl
          · exact ih (e5 z (L_fn_mem hf).1).2
        have hm2 : (match L_fn s (b_ch e.2.2) with
            | none => []
            | some z => L_v D z r) = (match L_fn s (b_ch e.2.2) with
            | none => []
            | some z => L_v (D + 1) z r) := by
          rw [e7]
          rcases hf : L_fn s es with _ | z
          · rfl
          · exact ih (e5 z (L_fn_mem hf).1).2
        show (if e.1 = 3 then _ else if e.1 = 4 then _ else _ : List (Option b_E)) = if e.1 = 3 then _ else if e.1 = 4 then _ else _
        split
        · exact hm
        · split
          · refine congr (congrArg HAppend.hAppend hm2) ?_
            rw [e7]
            have : ∀ fs : List b_E, (∀ f ∈ fs, f ∈ es) → fs.flatMap (fun z => if z.1 = 3 then L_v D z (s :: r) else []) = fs.flatMap (fun z => if z.1 = 3 then L_v (D + 1) z (s :: r) else []) := by
              intro fs
              induction fs with
              | nil => exact fun _ => rfl
              | cons f fs ihf =>
                intro hf
                rw [List.flatMap_cons, List.flatMap_cons, ihf fun x hx => hf x (List.mem_cons_of_mem _ hx), ih (e5 f (hf f List.mem_cons_self)).2]
            exact this es fun _ h => h
          · rfl
      · show (if e.1 = 3 then _ else if e.1 = 4 then _ else _ : List (Option b_E)) = if e.1 = 3 then _ else if e.1 = 4 then _ else _
        rw [if_neg (fun g => hk (Or.inl g)), if_neg (fun g => hk (Or.inr g)), if_neg (fun g => hk (Or.inl g)), if_neg (fun g => hk (Or.inr g))]
theorem L_v_up {D D2 : Nat} {e : b_E} {st : List (List Int)} (h : b_gv D e.1 e.2.2) (hD : D ≤ D2) : L_v D e st = L_v D2 e st := by
  obtain ⟨c, rfl⟩ : ∃ c, D2 = D + c := ⟨D2 - D, by omega⟩
  clear hD
  induction c with
  | zero => rfl
  | succ c ih => exact ih.trans (L_v_up1 (b_gv_le h (Nat.le_add_right _ _)))
/-- MISSING is one where there is no leaf -/
def L_pad {α : Type} : List (Option α) → List (Option α)
  | [] => [none]
  | a :: l => a :: l
theorem L_pad_nop (l : List (Option (Int × b_E))) : (L_pad l).map L_nop = L_pad (l.map L_nop) := by cases l <;> rfl
theorem F_lv_go {D : Nat} {o : Int} {e : b_E} {nm : List Int} (h : b_gv D e.1 e.2.2) (hD : D ≤ 20) : F_lv e nm = (L_pad (L_go D o e (p_sp nm))).map L_nop := by
  rw [L_pad_nop, L_go_v, L_v_up h hD]
  unfold F_lv
  generalize L_v 20 e (p_sp nm) = x
  cases x <;> rfl
def H_A (r b o po pf pt : Nat) (c e N : Int) (F : Int → Int) (n : Nat) : Prop := ∀ (M : g_M) (L : List Int) (Q : Int → g_M → Prop) (dd : Nat) (lv pe pd : Int) (fe de : b_E) (D Dd : Nat), F_S r b o po pf pt c e N F M L → b_st F N pe D fe.1 fe.2.1 fe.2.2 → fe.1 = 3 → D ≤ n → fe.2.2.length ≤ 3000 → (F_V n).1 (b_ch fe.2.2) → b_st F N pd (Dd + 1) de.1 de.2.1 de.2.2 → de.1 = 3 → Dd ≤ 17 → de.2.2.length ≤ 190000 → L.length + 2 + L_W L_c1 (L_C (Dd + 1)) de ≤ 32000 → 0 ≤ lv → lv + 2 * n ≤ 60 → 8 * n + 60 ≤ dd → (∀ M1, k_F (p_S po pf pt) r M M1 → F_S r b o po pf pt c e N F M1 L → Q (if (F_X n).1 (b_ch fe.2.2) de = true then 1 else 0) M1) → g_Call dd 51 [.ref o, g_n pe, g_n pd, g_n lv] M (g_qI Q)
def F_lr (F : Int → Int) (N : Int) (mx : Nat) (l : Nat) (ls : List (Option (Int × b_E))) : Prop := ∀ y, some y ∈ ls → y.2.1 = 4 → ∃ Dy, Dy ≤ 18 ∧ b_st F N y.1 Dy y.2.1 y.2.2.1 y.2.2.2 ∧ l + 3 + L_W L_c1 (L_U Dy) y.2 ≤ mx
def H_B (r b o po pf pt : Nat) (c e N : Int) (F : Int → Int) (n : Nat) : Prop := ∀ (M : g_M) (L : List Int) (Q : Int → g_M → Prop) (dd : Nat) (lv pe : Int) (fe : b_E) (D fr : Nat) (ls : List (Option (Int × b_E))), F_S r b o po pf pt c e N F M L → b_st F N pe D fe.1 fe.2.1 fe.2.2 → fe.1 = 3 → D ≤ n → fe.2.2.length ≤ 3000 → (F_V n).2 (b_ch fe.2.2) → F_w F N L fr ls → fr + ls.length ≤ 40000 → F_lr F N 32000 L.length ls → L.length + n ≤ 32100 → 0 ≤ lv → lv + 2 * n ≤ 60 → 8 * n + 60 ≤ dd → (∀ M1, k_F (p_S po pf pt) r M M1 → F_S r b o po pf pt c e N F M1 L → Q (if (F_X n).2 (b_ch fe.2.2) (ls.map L_nop) = true then 1 else 0) M1) → g_Call dd 54 [.ref o, g_n pe, g_n fr, g_n ((fr : Int) + ls.length), g_n lv] M (g_qI Q)
section HOLD3
variable {r b o po pf pt : Nat} {c e N : Int} {F : Int → Int} {n : Nat}
theorem c_hItem (hB : H_B r b o po pf pt c e N F n) {M : g_M} {L : List Int} {Q : Int → g_M → Prop} {d : Nat} {lv pe px : Int} {fe x : b_E} {D Dx : Nat} (hS : F_S r b o po pf pt c e N F M L) (hN : N ≤ 1000000000) (hs : b_st F N pe D fe.1 fe.2.1 fe.2.2) (hk : fe.1 = 3) (hD : D ≤ n) (hl : fe.2.2.length ≤ 3000) (hV : (F_V n).2 (b_ch fe.2.2)) (hx : b_st F N px Dx x.1 x.2.1 x.2.2) (hDx : Dx ≤ 18) (hxl : x.2.2.length ≤ 190000) (hr : L.length + n + 1 ≤ 32100) (hr2 : x.1 = 4 → L.length + 4 + L_W L_c1 (L_U Dx) x ≤ 32000) (h0 : 0 ≤ lv) (h1 : lv + 2 * n ≤ 60) (hd : 8 * n + 60 ≤ d) (h : ∀ M1, k_F (p_S po pf pt) r M M1 → F_S r b o po pf pt c e N F M1 L → Q (if (F_X n).2 (b_ch fe.2.2) [some x] = true then 1 else 0) M1) : g_Call (d + 1) 63 [.ref o, g_n pe, g_n px, g_n lv] M (g_qI Q) := by
  have hS0 := hS
  obtain ⟨hP, ⟨o1, o2, o3, o4⟩, hpp, hA, hF⟩ := hS
  have htop := hP.top
  have hxR := hx.R hN
  obtain ⟨d, rfl⟩ : ∃ d', d = d' + 2 := ⟨d - 2, by omega⟩
  refine m_X2_conditionsHoldForItem (hs.R hN) hxR ⟨by omega, by omega⟩ fun _ => ⟨o1, r, o2, hP.1, r, o2, hP.1, c_push hP hxR (by omega) fun M1 f1 p1 => ?_⟩
  intro _ _
  rw [htop]
  have hpp1 : p_P M1 po pf pt := by
    obtain ⟨q1, q2, q3, q4, q5, q6⟩ := hpp
    obtain ⟨i1, r1⟩ := f1.O hP q1 (by decide) id
    exact ⟨q1.up f1.1, by rw [r1]; exact q2, by rw [r1]; exact q3, q4.up f1.1, q5.up f1.1, q6⟩
  have hS1 := hS0.st f1.up0 p1 hpp1
  refine ⟨⟨by omega, by omega⟩, ?_⟩
  have := hB M1 (L ++ [px]) (fun r15 M12 => g_ext M1 M12 → g_ok M12 → g_InR r15 → ∃ b17, g_r M12 o 0 = some b17 ∧ g_O M12 b17 7 ∧ (∀ M20, M20 = g_wi M12 b17 2 (L.length : Int) → g_ok M20 → (r15 = 0 ∨ r15 = 1) ∧ Q r15 M20)) (d + 2) lv pe fe D L.length [some (px, x)] hS1 hs hk hD hl hV ⟨fun i z hz => ?_, fun y hy => ?_⟩ ?_ (fun y hy hy4 => ?_) ?_ h0 h1 hd (fun M2 f2 hS2 => ?_)
  · exact this
  · have hi := (List.getElem?_eq_some_iff.mp hz).1
    rw [List.length_singleton] at hi
    obtain rfl : i = 0 := by omega
    cases hz
    rw [Nat.add_zero, List.getElem?_append_right (Nat.le_refl _), Nat.sub_self]
    rfl
  · have := List.mem_singleton.mp hy
    cases this
    exact ⟨hx.le (by omega), hxl⟩
  · rw [List.length_singleton]
    omega
  · have := List.mem_singleton.mp hy
    cases this
    have := hr2 hy4
    refine ⟨Dx, hDx, hx, ?_⟩
    rw [List.length_append, List.length_singleton]
    show L.length + 1 + 3 + L_W L_c1 (L_U Dx) x ≤ 32000
    omega
  · rw [List.length_append, List.length_singleton]
    omega
  · intro _ _ _
    obtain ⟨hP2, ⟨t1, t2, t3, t4⟩, hpp2, hA2, hF2⟩ := id hS2
    refine ⟨r, t2, hP2.1, fun M20 e20 _ => ⟨?_, ?_⟩⟩
    · split
      · exact Or.inr rfl
      · exact Or.inl rfl
    · subst e20
      exact h _ ((f1.up0.tr f2).tr (k_F.top M2 _)) hS2.cut
theorem c_hCond (hN : N ≤ 1000000000) (hHA : H_A r b o po pf pt c e N F n) (hB : H_B r b o po pf pt c e N F n) {M : g_M} {L : List Int} {Q : Int → g_M → Prop} {d : Nat} {lv pe : Int} {fe : b_E} {D fr : Nat} {ls : List (Option (Int × b_E))} (hS : F_S r b o po pf pt c e N F M L) (hs : b_st F N pe D fe.1 fe.2.1 fe.2.2) (hD : D ≤ n) (hD20 : D ≤ 20) (hl : fe.2.2.length ≤ 3000) (hV0 : F_cd fe.2.1 ≠ 0) (hV1 : F_rv (F_cd fe.2.1) fe = true) (hV2 : F_cd fe.2.1 = 12 → (F_V n).2 (b_ch fe.2.2)) (hV3 : F_cd fe.2.1 = 11 → F_ci fe = true → (F_V n).2 (b_ch fe.2.2)) (hV4 : F_cd fe.2.1 = 11 → F_ci fe = false → (F_V n).1 (b_ch fe.2.2)) (hw : F_w F N L fr ls) (hb : fr + ls.length ≤ 40000) (hlr : F_lr F N 32000 L.length ls) (hr : L.length + n + 1 ≤ 32100) (h0 : 0 ≤ lv) (h1 : lv + 2 * n ≤ 60) (hd : 8 * n + 60 ≤ d) (h : ∀ M1, k_F (p_S po pf pt) r M M1 → F_S r b o po pf pt c e N F M1 L → Q (if F_cdn (F_X n) fe (ls.map L_nop) = true then 1 else 0) M1) : g_Call (d + 3) 55 [.ref o, g_n pe, g_n fr, g_n ((fr : Int) + ls.length), g_n lv] M (g_qI Q) := by
  have hS0 := hS
  obtain ⟨hP, ⟨o1, o2, o3, o4⟩, hpp, hA, hF⟩ := hS
  have hs' : b_st (g_i M b) N pe D fe.1 fe.2.1 fe.2.2 := by rw [hF]; exact hs
  have hcR := F_cd_R fe.2.1
  have hM := h M (k_F.rf _ _ _) hS0
  obtain ⟨d, rfl⟩ : ∃ d', d = d' + 60 := ⟨d - 60, by omega⟩
  have hz : ∀ x : Bool, ((if x = true then 1 else 0 : Int) = 0 ∨ (if x = true then 1 else 0 : Int) = 1) := fun x => by cases x <;> simp
  refine m_X2_conditionHolds (hs.R hN) ⟨by omega, by omega⟩ ⟨by omega, by omega⟩ ⟨by omega, by omega⟩ fun _ => ⟨o1, b, o3, c_condOf hA hN hs' fun _ _ _ => ?_⟩
  generalize hkd : F_cd fe.2.1 = k at *
  unfold F_cdn at hM
  simp only [hkd] at hM
  have hs20 := hs.le hD20
  have hdef : 5 ≤ k → k ≤ 8 → g_Call (d + 62) 58 [.ref o, g_n k, g_n pe, g_n fr, g_n ((fr : Int) + ls.length)] M (g_qI fun r42 M39 => g_ext M M39 → g_ok M39 → g_InR r42 → (r42 = 0 ∨ r42 = 1) ∧ Q r42 M39) := by
    intro k5 k8
    rw [if_neg (show ¬ k = 1 by omega), if_neg (show ¬ k = 2 by omega), if_neg (show ¬ k = 3 by omega), if_neg (show ¬ k = 4 by omega), if_neg (show ¬ k = 9 by omega), if_neg (show ¬ k = 10 by omega), if_neg (show ¬ k = 11 by omega), if_neg (show ¬ k = 12 by omega)] at hM
    exact c_someIsSo hS0 hN k5 k8 hs20 hw hb fun _ _ _ => ⟨hz _, hM⟩
  refine ⟨fun g => ?_, fun g1 => ⟨fun g => ?_, fun g2 => ⟨fun g => ?_, fun g3 => ⟨fun g => ?_, fun g4 => ⟨fun g => hdef (by omega) (by omega), fun g5 => ⟨fun g => hdef (by omega) (by omega), fun g6 => ⟨fun g => hdef (by omega) (by omega), fun g7 => ⟨fun g => hdef (by omega) (by omega), fun g8 => ⟨fun g => ?_, fun g9 => ⟨fun g => ?_, fun g10 => ⟨fun g => ?_, fun g11 => ⟨fun g => ?_, fun g12 => absurd hcR.2 (by omega)⟩⟩⟩⟩⟩⟩⟩⟩⟩⟩⟩⟩
  · rw [if_pos g] at hM
    exact c_someIs hS0 hN hs20 hw hb fun _ _ _ => ⟨hz _, hM⟩
  · rw [if_neg g1, if_pos g] at hM
    refine c_someIs hS0 hN hs20 hw hb fun _ _ _ => ?_
    cases he : F_eqs fe (ls.map L_nop)
    · rw [he] at hM
      exact ⟨fun _ => hM, fun g => absurd rfl g⟩
    · rw [he] at hM
      exact ⟨fun g => absurd g (by decide), fun _ => hM⟩
  · rw [if_neg g1, if_neg g2, if_pos g] at hM
    have hk4 : fe.1 = 4 := by
      subst g
      exact eq_of_beq hV1
    exact c_someIsIn hS0 hN hs20 hk4 hl hw hb fun _ _ _ => ⟨hz _, hM⟩
  · rw [if_neg g1, if_neg g2, if_neg g3, if_pos g] at hM
    have hk4 : fe.1 = 4 := by
      subst g
      exact eq_of_beq hV1
    refine c_someIsIn hS0 hN hs20 hk4 hl hw hb fun _ _ _ => ?_
    cases he : F_in fe (ls.map L_nop)
    · rw [he] at hM
      exact ⟨fun _ => hM, fun g => absurd rfl g⟩
    · rw [he] at hM
      exact ⟨fun g => absurd g (by decide), fun _ => hM⟩
  · rw [if_neg g1, if_neg g2, if_neg g3, if_neg g4, if_pos g] at hM
    have hk8 : fe.1 = 8 := by
      subst g
      exact eq_of_beq hV1
    refine c_someExists hS0 hN hw hb fun _ _ _ => ⟨b, o3, ?_⟩
    have hlf := b_gv8 (D := D) (vb := fe.2.2) (by rw [← hk8]; exact hs.2.2.1)
    obtain ⟨v1, v2, v3, v4⟩ := hs'.val
    have hN0 := hA.len
    refine m_X7_isTruth (hs.R hN) ⟨by decide, by decide⟩ fun _ => c_kd2 hA hN hs' fun _ _ _ => ⟨fun _ => c_va2 hA hN hs' fun _ _ _ => c_kind hA ⟨by omega, by omega⟩ ⟨by omega, by omega⟩ fun _ _ _ => ?_, fun g => absurd hk8 g⟩
    rcases hlf with hv | hv
    · rw [hv] at v1 v2
      rw [List.length_singleton] at v2
      rw [b_kd_in (by omega) (by omega), (b_cons.mp v1).1]
      rw [hv, show (([0] : List Int) == [1]) = false from rfl] at hM
      refine ⟨fun g => absurd g (by decide), fun _ _ _ _ => ?_⟩
      cases he : F_ex (ls.map L_nop)
      · rw [he] at hM
        exact ⟨fun _ => hM, fun g => absurd rfl g⟩
      · rw [he] at hM
        exact ⟨fun g => absurd g (by decide), fun _ => hM⟩
    · rw [hv] at v1 v2
      rw [List.length_singleton] at v2
      rw [b_kd_in (by omega) (by omega), (b_cons.mp v1).1]
      rw [hv, show (([1] : List Int) == [1]) = true from rfl] at hM
      refine ⟨fun _ _ _ _ => ?_, fun g => absurd rfl g⟩
      cases he : F_ex (ls.map L_nop)
      · rw [he] at hM
        exact ⟨fun g => absurd g (by decide), fun _ => hM⟩
      · rw [he] at hM
        exact ⟨fun _ => hM, fun g => absurd rfl g⟩
  · rw [if_neg g1, if_neg g2, if_neg g3, if_neg g4, if_neg g9, if_pos g] at hM
    have hk : fe.1 = 16 ∨ fe.1 = 18 := by
      subst g
      have hV1 : ((fe.1 == 16 || fe.1 == 18) && _) = true := hV1
      rw [Bool.and_eq_true, Bool.or_eq_true] at hV1
      exact hV1.1.imp eq_of_beq eq_of_beq
    exact ⟨b, o3, c_wh hA hN hs' hk fun _ _ => c_someCounts hS0 hN hw hb fun _ _ _ => ⟨hz _, hM⟩⟩
  · have hk3 : fe.1 = 3 := by
      subst g
      exact eq_of_beq hV1
    -- $elem
    have hX : ∀ vs, F_cdn (F_X n) fe vs = vs.any (fun z => match z with
        | none => false
        | some y => (F_its y).any fun x => if F_ci fe = true then (F_X n).2 (b_ch fe.2.2) [some x] else x.1 == 3 && (F_X n).1 (b_ch fe.2.2) x) := by
      intro vs
      unfold F_cdn
      rw [hkd, if_neg g1, if_neg g2, if_neg g3, if_neg g4, if_neg g9, if_neg g10, if_pos g]
      rfl
    rw [hX] at h
    clear hM hX hdef
    have h13 : ∀ (Q : Int → g_M → Prop) (cb : Int), cb = (if F_ci fe = true then 1 else 0) → ∀ (ls : List (Option (Int × b_E))) (f : Nat) (to f0 : Int) (M1 : g_M), g_InR f0 → F_w F N L f ls → to = f + ls.length → f + ls.length ≤ 40000 → F_lr F N 32000 L.length ls → k_F (p_S po pf pt) r M M1 → F_S r b o po pf pt c e N F M1 L → (∀ M2, k_F (p_S po pf pt) r M M2 → F_S r b o po pf pt c e N F M2 L → Q (if ((ls.map L_nop).any fun z => match z with
        | none => false
        | some y => (F_its y).any fun x => if F_ci fe = true then (F_X n).2 (b_ch fe.2.2) [some x] else x.1 == 3 && (F_X n).1 (b_ch fe.2.2) x) = true then 1 else 0) M2) → g_Run (d + 61) 62 13 [(0, .ref o), (1, g_n pe), (2, g_n f0), (3, g_n to), (4, g_n lv), (5, g_n cb), (6, g_n f)] [] M1 (g_qI Q) := by
      intro Q cb hcb ls
      have hcbR : g_InR cb := by
        subst hcb
        split
        · exact ⟨by decide, by decide⟩
        · exact ⟨by decide, by decide⟩
      induction ls with
      | nil =>
        intro f to f0 M1 hf0 hw hto hb hlr f1 hS1 h
        rw [List.length_nil] at hto hb
        exact s_X2_someHasItem_13 (hs.R hN) hf0 ⟨by omega, by omega⟩ ⟨by omega, by omega⟩ hcbR ⟨by omega, by omega⟩ fun _ => ⟨fun g => absurd g (by omega), fun _ => h M1 f1 hS1⟩
      | cons z ls ih =>
        intro f to f0 M1 hf0 hw hto hb hlr f1 hS1 h
        rw [List.length_cons] at hto hb
        obtain ⟨w1, w2⟩ := hw.cons
        have hlr2 : F_lr F N 32000 L.length ls := fun y hy => hlr y (List.mem_cons_of_mem _ hy)
        have hi : ∀ M1, k_F (p_S po pf pt) r M M1 → F_S r b o po pf pt c e N F M1 L → (∀ M2, k_F (p_S po pf pt) r M M2 → F_S r b o po pf pt c e N F M2 L → Q (if ((ls.map L_nop).any fun z => match z with
            | none => false
            | some y => (F_its y).any fun x => if F_ci fe = true then (F_X n).2 (b_ch fe.2.2) [some x] else x.1 == 3 && (F_X n).1 (b_ch fe.2.2) x) = true then 1 else 0) M2) → g_Run (d + 61) 62 13 [(0, .ref o), (1, g_n pe), (2, g_n f0), (3, g_n to), (4, g_n lv), (5, g_n cb), (6, g_n ((f : Int) + 1))] [] M1 (g_qI Q) := by
          intro M1 f1 hS1 hq2
          have := ih (f + 1) to f0 M1 hf0 w2 (by omega) (by omega) hlr2 f1 hS1 hq2
          rwa [show ((f + 1 : Nat) : Int) = (f : Int) + 1 by omega] at this
        obtain ⟨hP1, ⟨q1, q2, q3, q4⟩, hpp1, hA1, hF1⟩ := id hS1
        have hN0 := hA1.len
        rcases z with _ | y
        · refine s_X2_someHasItem_13 (hs.R hN) hf0 ⟨by omega, by omega⟩ ⟨by omega, by omega⟩ hcbR ⟨by omega, by omega⟩ fun _ => ⟨fun _ => ⟨q1, r, q2, hP1.1, c_leaf hP1 w1 fun _ _ _ => ⟨b, q3, c_kind hA1 ⟨by omega, by omega⟩ ⟨by decide, by decide⟩ fun _ _ _ => ?_⟩⟩, fun g => absurd (by omega) g⟩
          rw [show L_opt none = -1 from rfl, b_kd_neg]
          exact ⟨fun g => absurd g (by decide), fun _ => ⟨⟨by omega, by omega⟩, hi M1 f1 hS1 h⟩⟩
        · obtain ⟨y1, y2⟩ := hw.2 y List.mem_cons_self
          have y1' : b_st (g_i M1 b) N y.1 20 y.2.1 y.2.2.1 y.2.2.2 := by rw [hF1]; exact y1
          have hyR := y1.R hN
          have hc : (((some y :: ls).map L_nop).any fun z => match z with
            | none => false
            | some y => (F_its y).any fun x => if F_ci fe = true then (F_X n).2 (b_ch fe.2.2) [some x] else x.1 == 3 && (F_X n).1 (b_ch fe.2.2) x) = (((F_its y.2).any fun x => if F_ci fe = true then (F_X n).2 (b_ch fe.2.2) [some x] else x.1 == 3 && (F_X n).1 (b_ch fe.2.2) x) || ((ls.map L_nop).any fun z => match z with
            | none => false
            | some y => (F_its y).any fun x => if F_ci fe = true then (F_X n).2 (b_ch fe.2.2) [some x] else x.1 == 3 && (F_X n).1 (b_ch fe.2.2) x)) := rfl
          rw [hc] at h
          refine s_X2_someHasItem_13 (hs.R hN) hf0 ⟨by omega, by omega⟩ ⟨by omega, by omega⟩ hcbR ⟨by omega, by omega⟩ fun _ => ⟨fun _ => ⟨q1, r, q2, hP1.1, c_leaf hP1 w1 fun _ _ _ => ⟨b, q3, c_kd2 hA1 hN y1' fun _ _ _ => ⟨fun gy => ?_, fun gy => ⟨⟨by omega, by omega⟩, hi M1 f1 hS1 ?_⟩⟩⟩⟩, fun g => absurd (by omega) g⟩
          · obtain ⟨Dy, hDy, ys, hyr⟩ := hlr y List.mem_cons_self gy
            obtain ⟨D1, es, e1, e2, e3, e4, e5, e6, e7, e8⟩ := ys.ch (Or.inr gy)
            have hits : F_its y.2 = es := by
              unfold F_its F_it
              rw [if_pos gy]
              exact e5
            rw [hits] at h
            have hyl := congrArg List.length e2
            rw [b_doc_len] at hyl
            have h60 : ∀ (fs : List b_E) (q : Int) (i : Nat) (M1 : g_M), b_sts F N q D1 fs → (∀ x ∈ fs, x ∈ es) → i + fs.length < 100000 → k_F (p_S po pf pt) r M M1 → F_S r b o po pf pt c e N F M1 L → (∀ M2, k_F (p_S po pf pt) r M M2 → F_S r b o po pf pt c e N F M2 L → Q (if ((fs.any fun x => if F_ci fe = true then (F_X n).2 (b_ch fe.2.2) [some x] else x.1 == 3 && (F_X n).1 (b_ch fe.2.2) x) || ((ls.map L_nop).any fun z => match z with
                | none => false
                | some y => (F_its y).any fun x => if F_ci fe = true then (F_X n).2 (b_ch fe.2.2) [some x] else x.1 == 3 && (F_X n).1 (b_ch fe.2.2) x)) = true then 1 else 0) M2) → g_Run (d + 61) 62 60 [(0, .ref o), (1, g_n pe), (2, g_n f0), (3, g_n to), (4, g_n lv), (5, g_n cb), (6, g_n f), (7, g_n y.1), (8, g_n q), (9, g_n i)] [] M1 (g_qI Q) := by
              intro fs
              induction fs with
              | nil =>
                intro q i M1 s1 _ hi2 f1 hS1 h
                obtain ⟨hP1, ⟨q1, q2, q3, q4⟩, hpp1, hA1, hF1⟩ := id hS1
                have hq0 := s1.2.2
                rw [List.length_nil] at hi2
                exact s_X2_someHasItem_60 (hs.R hN) hf0 ⟨by omega, by omega⟩ ⟨by omega, by omega⟩ hcbR ⟨by omega, by omega⟩ hyR ⟨by omega, by omega⟩ ⟨by omega, by omega⟩ fun _ => ⟨fun _ => ⟨q1, b, q3, c_kdE hA1 hN (by rw [hF1]; exact s1) fun _ _ _ => ⟨fun _ => ⟨⟨by omega, by omega⟩, hi M1 f1 hS1 h⟩, fun g => absurd rfl g⟩⟩, fun g => absurd (by omega) g⟩
              | cons x fs ihf =>
                intro q i M1 s1 hm hi2 f1 hS1 h
                obtain ⟨hP1, ⟨q1, q2, q3, q4⟩, hpp1, hA1, hF1⟩ := id hS1
                rw [List.length_cons] at hi2
                obtain ⟨t1, t2⟩ := s1.cons
                have t1' : b_st (g_i M1 b) N q D1 x.1 x.2.1 x.2.2 := by rw [hF1]; exact t1
                have hq0 := s1.2.2
                have hxk := b_vs_pos (b_gv_vs t1.2.2.1)
                have hxm := hm x List.mem_cons_self
                have hxl := b_ser_mem hxm
                have hnx : ∀ M1, k_F (p_S po pf pt) r M M1 → F_S r b o po pf pt c e N F M1 L → (∀ M2, k_F (p_S po pf pt) r M M2 → F_S r b o po pf pt c e N F M2 L → Q (if ((fs.any fun x => if F_ci fe = true then (F_X n).2 (b_ch fe.2.2) [some x] else x.1 == 3 && (F_X n).1 (b_ch fe.2.2) x) || ((ls.map L_nop).any fun z => match z with
                    | none => false
                    | some y => (F_its y).any fun x => if F_ci fe = true then (F_X n).2 (b_ch fe.2.2) [some x] else x.1 == 3 && (F_X n).1 (b_ch fe.2.2) x)) = true then 1 else 0) M2) → ∃ b31, g_r M1 o 1 = some b31 ∧ g_Call (d + 61) 111 [.ref b31, g_n q] M1 (g_qI fun r36 M33 => g_ext M1 M33 → g_ok M33 → g_InR r36 → g_InR ((i : Int) + 1) ∧ g_Run (d + 61) 62 60 [(0, .ref o), (1, g_n pe), (2, g_n f0), (3, g_n to), (4, g_n lv), (5, g_n cb), (6, g_n f), (7, g_n y.1), (8, g_n r36), (9, g_n ((i : Int) + 1))] [] M33 (g_qI Q)) := by
                  intro M1 f1 hS1 h
                  obtain ⟨hP1, ⟨q1, q2, q3, q4⟩, hpp1, hA1, hF1⟩ := id hS1
                  refine ⟨b, q3, c_nx2 hA1 hN (by rw [hF1]; exact t1) fun _ _ _ => ⟨⟨by omega, by omega⟩, ?_⟩⟩
                  have := ihf (q + (b_el x.1 x.2.1 x.2.2).length) (i + 1) M1 t2 (fun z hz => hm z (List.mem_cons_of_mem _ hz)) (by omega) f1 hS1 h
                  rwa [show ((i + 1 : Nat) : Int) = (i : Int) + 1 by omega] at this
                obtain ⟨Dz, eDz, hu1, hu2⟩ := L_U_ch ys gy hDy (x := x) (by rw [e5]; exact hxm)
                obtain rfl : Dz = D1 := by omega
                have hca : ((x :: fs).any fun x => if F_ci fe = true then (F_X n).2 (b_ch fe.2.2) [some x] else x.1 == 3 && (F_X n).1 (b_ch fe.2.2) x) = ((if F_ci fe = true then (F_X n).2 (b_ch fe.2.2) [some x] else x.1 == 3 && (F_X n).1 (b_ch fe.2.2) x) || (fs.any fun x => if F_ci fe = true then (F_X n).2 (b_ch fe.2.2) [some x] else x.1 == 3 && (F_X n).1 (b_ch fe.2.2) x)) := rfl
                rw [hca] at h
                refine s_X2_someHasItem_60 (hs.R hN) hf0 ⟨by omega, by omega⟩ ⟨by omega, by omega⟩ hcbR ⟨by omega, by omega⟩ hyR ⟨by omega, by omega⟩ ⟨by omega, by omega⟩ fun _ => ⟨fun _ => ⟨q1, b, q3, c_kd2 hA1 hN t1' fun _ _ _ => ⟨fun g => absurd g (by omega), fun _ => ⟨fun gc => ⟨b, q3, c_kd2 hA1 hN t1' fun _ _ _ => ⟨fun gx => ?_, fun gx => ?_⟩⟩, fun gc => ?_⟩⟩⟩, fun g => absurd (by omega) g⟩
                · have hci : F_ci fe = false := by
                    cases hh : F_ci fe
                    · rfl
                    · rw [if_pos hh] at hcb
                      omega
                  rw [hci, if_neg Bool.false_ne_true, show (x.1 == 3) = true by simpa using gx, Bool.true_and] at h
                  obtain ⟨Dd, rfl⟩ : ∃ Dd, Dz = Dd + 1 := by
                    obtain ⟨D3, _, e9, -⟩ := t1.ch (Or.inl gx)
                    exact ⟨D3, e9⟩
                  refine hHA M1 L _ (d + 61) lv pe q fe x D Dd hS1 hs hk3 hD hl (hV4 g hci) t1 gx (by omega) (by omega) (by omega) h0 h1 (by omega) fun M2 f2 hS2 => ?_
                  intro _ _ _
                  cases he : (F_X n).1 (b_ch fe.2.2) x
                  · rw [he, Bool.false_or] at h
                    exact ⟨fun _ => hnx M2 (f1.tr f2) hS2 (by rw [hci]; exact h), fun g => absurd rfl g⟩
                  · rw [he, Bool.true_or, Bool.true_or] at h
                    exact ⟨fun g => absurd g (by decide), fun _ => h M2 (f1.tr f2) hS2⟩
                · have hci : F_ci fe = false := by
                    cases hh : F_ci fe
                    · rfl
                    · rw [if_pos hh] at hcb
                      omega
                  rw [hci, if_neg Bool.false_ne_true, show (x.1 == 3) = false by simpa using gx, Bool.false_and, Bool.false_or] at h
                  exact hnx M1 f1 hS1 (by rw [hci]; exact h)
                · have hci : F_ci fe = true := by
                    cases hh : F_ci fe
                    · rw [hh, if_neg Bool.false_ne_true] at hcb
                      exact absurd hcb gc
                    · rfl
                  rw [hci, if_pos rfl] at h
                  refine c_hItem hB (d := d + 60) hS1 hN hs hk3 hD hl (hV3 g hci) t1 (by omega) (by omega) (by omega) (fun hx4 => ?_) h0 h1 (by omega) fun M2 f2 hS2 => ?_
                  · have := hu2 (Or.inr hx4)
                    omega
                  · intro _ _ _
                    cases he : (F_X n).2 (b_ch fe.2.2) [some x]
                    · rw [he, Bool.false_or] at h
                      exact ⟨fun _ => hnx M2 (f1.tr f2) hS2 (by rw [hci]; exact h), fun g => absurd rfl g⟩
                    · rw [he, Bool.true_or, Bool.true_or] at h
                      exact ⟨fun g => absurd g (by decide), fun _ => h M2 (f1.tr f2) hS2⟩
            exact ⟨b, q3, c_fi2 hA1 hN y1' fun _ _ _ => h60 es _ 0 M1 e4 (fun _ h => h) (by omega) f1 hS1 h⟩
          · have hits : F_its y.2 = [] := if_neg gy
            rw [hits] at h
            exact h
    refine m_X2_someHasItem (hs.R hN) ⟨by omega, by omega⟩ ⟨by omega, by omega⟩ ⟨by omega, by omega⟩ fun _ => ⟨o1, b, o3, c_isCondsI hA hN hs' (fun gc => fun _ _ _ => ?_) (fun gc => fun _ _ _ => ?_)⟩
    · exact h13 _ 1 (by rw [if_pos gc]) ls fr ((fr : Int) + ls.length) fr M ⟨by omega, by omega⟩ hw rfl hb hlr (k_F.rf _ _ _) hS0 fun M2 f2 hS2 _ _ _ => ⟨hz _, h M2 f2 hS2⟩
    · exact h13 _ 0 (by rw [gc]; rfl) ls fr ((fr : Int) + ls.length) fr M ⟨by omega, by omega⟩ hw rfl hb hlr (k_F.rf _ _ _) hS0 fun M2 f2 hS2 _ _ _ => ⟨hz _, h M2 f2 hS2⟩
  · have hk3 : fe.1 = 3 := by
      subst g
      exact F_cs_k hV1
    have hX : ∀ vs, F_cdn (F_X n) fe vs = !(F_X n).2 (b_ch fe.2.2) vs := by
      intro vs
      unfold F_cdn
      rw [hkd, if_neg g1, if_neg g2, if_neg g3, if_neg g4, if_neg g9, if_neg g10, if_neg g11, if_pos g]
    rw [hX] at h
    refine hB M L _ (d + 62) lv pe fe D fr ls hS0 hs hk3 hD hl (hV2 g) hw hb hlr (by omega) h0 h1 (by omega) fun M2 f2 hS2 => ?_
    intro _ _ _
    have h2 := h M2 f2 hS2
    cases he : (F_X n).2 (b_ch fe.2.2) (ls.map L_nop)
    · rw [he] at h2
      exact ⟨fun _ => h2, fun g => absurd rfl g⟩
    · rw [he] at h2
      exact ⟨fun g => absurd g (by decide), fun _ => h2⟩
end HOLD3
