/-! REQUESTS, THE CLASS: explain, in the house -/
def Ck_b : List Nat := [52, 53, 54, 55, 56, 57]
section CLK
variable {d : Nat} {ι : Nat → Nat} {κ : Nat → Nat → Nat} {al sz : Nat → Nat × Nat} {cB eB : Int} {st : Nat → I_T} {D : Nat → List (Int × List b_E)} {gv : Nat → Int} {M M0 M1 : g_M} {x w w' : Nat} {u : List Int}
def C_r (ι : Nat → Nat) (j : Nat) : Nat := ι (53 + j)
theorem C_r_k {j : Nat} (hj : j < 5) : 53 + j ∈ Ck_k ∧ 53 + j ∈ Ck_b ∧ 53 + j ≠ 1 := by
  have h : ∀ j : Nat, j < 5 → 53 + j ∈ Ck_k ∧ 53 + j ∈ Ck_b ∧ 53 + j ≠ 1 := by decide
  exact h j hj
theorem C_H.bo (h : C_H ι κ al sz cB eB st D gv M) : Bd_o (ι 50) (ι 1) (ι 2) (ι 51) (ι 52) (C_r ι) M := by
  have hb := h.1
  refine ⟨hb.O (by decide), ⟨hb.r (by decide), hb.r (by decide), hb.r (by decide), hb.r (by decide)⟩, hb.A (by decide), hb.A (by decide), fun j hj => ?_, fun i j hi hj e => ?_⟩
  · have h5 : j = 0 ∨ j = 1 ∨ j = 2 ∨ j = 3 ∨ j = 4 := by omega
    rcases h5 with e | e | e | e | e <;> subst e
    · exact ⟨hb.r (a := 51) (f := 0) (b := 53) (by decide), hb.A (k := 53) (by decide)⟩
    · exact ⟨hb.r (a := 51) (f := 1) (b := 54) (by decide), hb.A (k := 54) (by decide)⟩
    · exact ⟨hb.r (a := 51) (f := 2) (b := 55) (by decide), hb.A (k := 55) (by decide)⟩
    · exact ⟨hb.r (a := 51) (f := 3) (b := 56) (by decide), hb.A (k := 56) (by decide)⟩
    · exact ⟨hb.r (a := 51) (f := 4) (b := 57) (by decide), hb.A (k := 57) (by decide)⟩
  · have := h.2.1.1 _ (C_r_k hi).1 _ (C_r_k hj).1 e
    omega
theorem C_H.bS {S : Nat → Prop} (h : C_H ι κ al sz cB eB st D gv M) (k : k_F S (ι 1) M M1) (hP1 : k_P M1 (ι 1) (ι 2) (cB + C_sm (C_c sz) 8) (eB + C_sm (C_e sz) 8) []) (hS : ∀ y, S y → Bd_sR (ι 52) (C_r ι) y) (hb : g_i M1 (ι 2) = g_i M (ι 2)) : C_H ι κ al sz cB eB st D gv M1 ∧ C_fx Ck_b ι M M1 := by
  have hS2 : ∀ y, S y → ∃ a ∈ Ck_b, y = ι a := fun y hy => by
    rcases hS y hy with z | ⟨j, hj, z⟩
    · exact ⟨52, by decide, z⟩
    · exact ⟨53 + j, (C_r_k hj).2.1, z⟩
  have hsc : ∀ a ∈ Ck_b, a ∈ Ck_sc := by decide
  refine ⟨h.kF k hP1 (fun y hy => ?_) (fun q _ => by rw [hb]) fun l hl h1 hy => ?_, k.1, k.2.1, fun a ha h1 hn => h.1.sm h.2.2.1 k ha h1 fun z => ?_⟩
  · obtain ⟨a, ha, e⟩ := hS2 y hy
    exact ⟨a, hsc a ha, e⟩
  · obtain ⟨a, ha, e⟩ := hS2 _ hy
    have e := h.2.1.1 _ (Ck_r_k l hl).1 a (Ck_sc_k a (hsc a ha)).1 e
    have hx : ∀ l ∈ Ck_r, l.1 ∉ Ck_b := by decide
    rw [← e] at ha
    exact absurd ha (hx l hl)
  · obtain ⟨a2, ha2, e⟩ := hS2 _ z
    have e := h.2.1.1 _ ha a2 (Ck_sc_k a2 (hsc a2 ha2)).1 e
    rw [← e] at ha2
    exact hn ha2
theorem C_H.bc {V : I_V} {T : N_T I_E} {m1 m2 : Int} (h : C_H ι κ al sz cB eB st D gv M) (hx : x < 8) (hst : st x = some (V, T, m1, m2)) : Bd_c (ι 50) (ι 1) (ι 2) (ι 51) (ι 52) (C_r ι) (κ x 1) (κ x 2) (κ x 3) (al x).1 (p_jn V.2.2.1) 246408 (g_i M (ι 2)) (cB + C_sm (C_c sz) 8) (eB + C_sm (C_e sz) 8) [] M ∧ (∀ s2, V.2.2.2 = some s2 → Bd_c (ι 50) (ι 1) (ι 2) (ι 51) (ι 52) (C_r ι) (κ x 4) (κ x 5) (κ x 6) (al x).2 (p_jn s2) 246408 (g_i M (ι 2)) (cB + C_sm (C_c sz) 8) (eB + C_sm (C_e sz) 8) [] M) ∧ (V.2.2.2 = none ↔ g_i M (κ x 0) 10 = 0) ∧ (g_i M (κ x 0) 11 = m1 ∧ g_i M (κ x 0) 12 = m2) ∧ (m1 = 0 ∨ m1 = 1) ∧ (m2 = 0 ∨ m2 = 1) := by
  have h9 := (h.2.2.2.2.2.1 x hx).2
  rw [hst] at h9
  obtain ⟨k1, k2, k3, k5, k6, k8, k9, k11⟩ := h9
  exact ⟨⟨h.bo, h.2.2.1, h.1.A (by decide), rfl, k9.1⟩, fun s2 hs2 => ⟨h.bo, h.2.2.1, h.1.A (by decide), rfl, (k11 s2 hs2).1⟩, k2.2.2.2.1, k6, k8.1, k8.2⟩
theorem Bd_S.f1 {s : Nat} {A : List D_i} (h : Bd_S (ι 52) (C_r ι) s A M) (hs : s < 5) (f : C_f1 ι M M1) : Bd_S (ι 52) (C_r ι) s A M1 := by
  have e1 := (f.2.2 52 (by decide) (by decide)).1
  have e2 : g_i M1 (C_r ι s) = g_i M (C_r ι s) := (f.2.2 (53 + s) (C_r_k hs).1 (C_r_k hs).2.2).1
  unfold Bd_S
  rw [e1, e2]
  exact h
theorem c_looksAtH {Q : Int → g_M → Prop} {V : I_V} {T : N_T I_E} {m1 m2 : Int} {E1 : List D_i} {b2 : Option (List D_i)} (h : C_H ι κ al sz cB eB st D gv M) (hx : x < 8) (hst : st x = some (V, T, m1, m2)) (hw : w < 2) (h1 : Bd_S (ι 52) (C_r ι) 0 E1 M ∧ E1.length ≤ 700 ∧ ∀ i ∈ E1, Bd_io (g_i M (ι 2)) 246408 i) (h2 : ∀ E2, b2 = some E2 → Bd_S (ι 52) (C_r ι) 1 E2 M ∧ E2.length ≤ 700 ∧ ∀ i ∈ E2, Bd_io (g_i M (ι 2)) 246408 i) (h4 : g_i M (ι 50) 4 = D_rk (some E1) b2) (hq : ∀ M1, C_H ι κ al sz cB eB st D gv M1 → C_f1 ι M M1 → Q ((((D w).map Prod.snd).filter (D_lkd V (some E1) b2)).length : Nat) M1) : g_Call (d + 62) 2 [.ref (ι 50), .ref (κ x 0), .ref (ι (67 + w))] M (g_qI Q) := by
  have hl200 : (D w).length ≤ 200 := by
    have := (h.2.2.2.2.1 w hw).2.2.2.2.1.1
    rw [List.length_map] at this
    exact this
  have hlp : ∀ (B A : List (Int × List b_E)) (M' : g_M), D w = A ++ B → C_H ι κ al sz cB eB st D gv M' → C_f1 ι M M' → g_Run (d + 61) 2 5 [(0, .ref (ι 50)), (1, .ref (κ x 0)), (2, .ref (ι (67 + w))), (3, g_n (((A.map Prod.snd).filter (D_lkd V (some E1) b2)).length : Nat)), (4, g_n (A.length : Nat))] [] M' (g_qI Q) := by
    intro B
    induction B with
    | nil =>
      intro A M' hA H' f'
      rw [List.append_nil] at hA
      subst hA
      have hs' := H'.2.2.2.2.1 w hw
      have c6' : g_i M' (ι (67 + w)) 6 = (D w).length := hs'.2.2.1.1
      have hlf := List.length_filter_le (D_lkd V (some E1) b2) ((D w).map Prod.snd)
      rw [List.length_map] at hlf
      exact s_X0_looksAt_5 (a0 := ι 50) (a1 := κ x 0) (a2 := ι (67 + w)) ⟨by omega, by omega⟩ ⟨by omega, by omega⟩ fun _ => ⟨hs'.1.1, fun g => absurd g (by rw [c6']; omega), fun _ => hq M' H' f'⟩
    | cons z B ih =>
      intro A M' hA H' f'
      have hs' := H'.2.2.2.2.1 w hw
      have c6' : g_i M' (ι (67 + w)) 6 = (D w).length := hs'.2.2.1.1
      have hlD : (D w).length = A.length + (B.length + 1) := by rw [hA, List.length_append, List.length_cons]
      have hlf := List.length_filter_le (D_lkd V (some E1) b2) (A.map Prod.snd)
      rw [List.length_map] at hlf
      have hz : (D w)[A.length]? = some z := by
        rw [hA, List.getElem?_append_right (Nat.le_refl _), Nat.sub_self]
        rfl
      obtain ⟨p, p1, p2, p3, p4, p5, p6, p7, p8⟩ := hs'.at hz
      have hnext : ∀ (M2 : g_M) (b : Bool), C_H ι κ al sz cB eB st D gv M2 → C_f1 ι M M2 → D_lkd V (some E1) b2 z.2 = b → g_Run (d + 61) 2 5 [(0, .ref (ι 50)), (1, .ref (κ x 0)), (2, .ref (ι (67 + w))), (3, g_n ((((A.map Prod.snd).filter (D_lkd V (some E1) b2)).length : Int) + if b = true then 1 else 0)), (4, g_n ((A.length : Int) + 1))] [] M2 (g_qI Q) := fun M2 b H2 f2 hb => by
        have h9 := ih (A ++ [z]) M2 (by rw [hA, List.append_assoc]; rfl) H2 f2
        have e1 : ((((A ++ [z]).map Prod.snd).filter (D_lkd V (some E1) b2)).length : Int) = (((A.map Prod.snd).filter (D_lkd V (some E1) b2)).length : Int) + if b = true then 1 else 0 := by
          rw [List.map_append, List.filter_append, List.length_append, List.map_cons, List.map_nil, List.filter_cons, hb]
          cases b
          · rw [if_neg (by decide), if_neg (by decide)]
            rfl
          · rw [if_pos rfl, if_pos rfl]
            exact Int.natCast_add _ _
        rw [e1, List.length_append, List.length_singleton, show ((A.length + 1 : Nat) : Int) = (A.length : Int) + 1 by omega] at h9
        exact h9
      obtain ⟨Z, -, -⟩ := H'.Z hx hst
      refine s_X0_looksAt_5 (a0 := ι 50) (a1 := κ x 0) (a2 := ι (67 + w)) ⟨by omega, by omega⟩ ⟨by omega, by omega⟩ fun _ => ⟨hs'.1.1, fun _ => ⟨ι (69 + 4 * w), hs'.1.2.2.1, 200, hs'.1.2.2.2.2.1, ⟨by decide, by decide⟩, fun _ => ⟨ι (69 + 4 * w), hs'.1.2.2.1, 200, hs'.1.2.2.2.2.1, ⟨by omega, by omega⟩, H'.1.xO hx (by decide), ?_⟩, fun g => absurd (by omega) g⟩, fun g => absurd (by rw [c6']; omega) g⟩
      rw [p1]
      refine c_entriesI (d := d) (nm := []) (by decide) Z.1 ⟨p2.1, p2.2.1, p2.2.2.1, p2.2.2.2.1, by have := p2.2.2.2.2; omega⟩ p7 fun M2 K1 K2 fr S2 g7 g8 l1 l2 kr1 kr2 => ?_
      intro _ _ _
      obtain ⟨H2, f2⟩ := H'.fI hx hst fr S2
      have fM := f'.tr f2
      have hb2 := (fM.2.2 2 (by decide) (by decide)).1
      have h50 := (fM.2.2 50 (by decide) (by decide)).1
      refine ⟨κ x 8, H2.1.xr hx (a := 0) (by decide), H2.1.O (by decide), ?_⟩
      rw [g7]
      refine c_someIn (d := d + 15) (s := 0) (A := E1) H2.bo (H2.1.A (by decide)) (by decide) (by decide) (h1.1.f1 (by decide) fM) h1.2.1 (by rw [hb2]; exact h1.2.2) (H2.1.xA hx (by decide)) l1 kr1.1 kr1.2.1 ?_
      intro _ _ _
      rw [kr1.2.2]
      have hlk : D_lkd V (some E1) b2 z.2 = ((I_key1 V z.2).any (D_ink E1) && (decide (D_rk (some E1) b2 < 3) || (I_key2 V z.2).any (D_ink (b2.getD [])))) := rfl
      cases hk1 : (I_key1 V z.2).any (D_ink E1)
      · rw [hk1, Bool.false_and] at hlk
        have h9 := hnext M2 false H2 fM hlk
        rw [if_neg (by decide), Int.add_zero] at h9
        exact ⟨fun _ => ⟨⟨by omega, by omega⟩, h9⟩, fun g => absurd (if_neg (by decide)) g⟩
      · rw [hk1, Bool.true_and] at hlk
        refine ⟨fun g => absurd g (by decide), fun _ => ?_⟩
        rw [h50, h4]
        refine ⟨fun g3 => ?_, fun g3 => ?_⟩
        · rw [decide_eq_true g3, Bool.true_or] at hlk
          have h9 := hnext M2 true H2 fM hlk
          rw [if_pos rfl] at h9
          exact ⟨⟨by omega, by omega⟩, ⟨by omega, by omega⟩, h9⟩
        · rw [decide_eq_false g3, Bool.false_or] at hlk
          obtain ⟨E2, hE2⟩ : ∃ E2, b2 = some E2 := by
            cases hb : b2 with
            | none =>
              rw [hb, D_rk_s] at g3
              exfalso
              apply g3
              by_cases g : E1.all D_isp = true
              · rw [if_pos g]
                exact (by decide : (2 : Int) < 3)
              · rw [if_neg g]
                exact (by decide : (1 : Int) < 3)
            | some E2 => exact ⟨E2, rfl⟩
          obtain ⟨q1, q2, q3⟩ := h2 E2 hE2
          rw [hE2] at hlk
          have hlk : D_lkd V (some E1) b2 z.2 = (I_key2 V z.2).any (D_ink E2) := by rw [hE2]; exact hlk
          refine ⟨κ x 9, H2.1.xr hx (a := 0) (by decide), ?_⟩
          rw [g8]
          refine c_someIn (d := d + 15) (s := 1) (A := E2) H2.bo (H2.1.A (by decide)) (by decide) (by decide) (q1.f1 (by decide) fM) q2 (by rw [hb2]; exact q3) (H2.1.xA hx (by decide)) l2 kr2.1 kr2.2.1 ?_
          intro _ _ _
          rw [kr2.2.2]
          cases hk2 : (I_key2 V z.2).any (D_ink E2)
          · rw [hk2] at hlk
            have h9 := hnext M2 false H2 fM hlk
            rw [if_neg (by decide), Int.add_zero] at h9
            exact ⟨fun _ => ⟨⟨by omega, by omega⟩, h9⟩, fun g => absurd (if_neg (by decide)) g⟩
          · rw [hk2] at hlk
            have h9 := hnext M2 true H2 fM hlk
            rw [if_pos rfl] at h9
            exact ⟨fun g => absurd g (by decide), fun _ => ⟨⟨by omega, by omega⟩, ⟨by omega, by omega⟩, h9⟩⟩
  exact m_X0_looksAt (a0 := ι 50) (d := d + 61) fun _ => hlp (D w) [] M rfl h (C_f1.rf ι M)
end CLK
