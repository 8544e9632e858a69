/-! EXPLAIN, THE REFERENCE: whether a document is looked at -/
def D_kz (z : Int × b_E) : D_e := (b_cl z.2.1, 1, z)
/-- whether a key is in a set -/
noncomputable def D_in (A : List D_i) (q : Int) (o : Option (Int × b_E)) : Bool := A.any fun i => D_w i (D_kz (J_no q o))
noncomputable def D_lk (b1 b2 : Option (List D_i)) (q : Int) (U1 U2 : List (Option (Int × b_E))) : Bool := U1.any (D_in (b1.getD []) q) && (decide (D_rk b1 b2 < 3) || U2.any (D_in (b2.getD []) q))
theorem D_rk_le (b1 b2 : Option (List D_i)) : D_rk b1 b2 ≤ 3 := by
  cases b1 with
  | none => exact (by decide : (0 : Int) ≤ 3)
  | some A =>
    have e : D_rk (some A) b2 = if A.all D_isp = true then (match b2 with
      | none => 2
      | some _ => 3) else 1 := rfl
    rw [e]
    by_cases g : A.all D_isp = true
    · rw [if_pos g]
      cases b2 with
      | none => exact (by decide : (2 : Int) ≤ 3)
      | some B => exact (by decide : (3 : Int) ≤ 3)
    · rw [if_neg g]
      decide
section DLK
variable {m d : Nat} {ρ : Nat → Nat} {M M1 : g_M} {st : Nat → I_T} {q : Nat → List (Nat × Int × List b_E)} {v : Nat → Int}
theorem E_le_m (h : E_bk m ρ M) {k : Int} (g : E_le m (ρ 9) m k) : k = 10 ∨ (40 ≤ k ∧ k ≤ 44) := by
  rcases g with z | ⟨-, z⟩
  · exact absurd z.symm (h.nm (by decide))
  · omega
theorem D_ky_at {F : Int → Int} {o : Option (Int × b_E)} (ho : O_at F 2706210 o) (hno : b_at F 2706200 [10, 0]) : D_at F (D_kz (J_no 2706200 o)) ∧ D_p (D_kz (J_no 2706200 o)) = L_on 2706200 o := by
  cases o with
  | none => exact ⟨⟨b_cl_R 10, Or.inr (Or.inl rfl), fun _ => ⟨b_st_no hno (by decide) (by decide) 20, rfl⟩⟩, rfl⟩
  | some z => exact ⟨⟨b_cl_R z.2.1, Or.inr (Or.inl rfl), fun _ => ⟨ho z rfl, rfl⟩⟩, rfl⟩
theorem e_isLookedAt {Q : Int → g_M → Prop} {c : Int} {x : Nat} {V : I_V} {T : N_T I_E} {m1 m2 : Int} {es : List b_E} {b1 b2 : Option (List D_i)} (h : E_H m ρ st q v M) (hS : E_S m (ρ 0) (ρ 9) (g_i M (ρ 0)) M []) (h40 : g_i M m 40 = 0 ∨ g_i M m 40 = 1) (hx : x < 8) (hst : st x = some (V, T, m1, m2)) (hct : E_ct (g_i M (ρ 0)) c 15 es) (hdl : (b_doc es).length ≤ 2000) (hW : E_Wg m ρ b1 b2 M) (hi1 : ∀ i ∈ b1.getD [], D_io (g_i M (ρ 0)) i) (hi2 : ∀ i ∈ b2.getD [], D_io (g_i M (ρ 0)) i) (hl1 : (b1.getD []).length ≤ 700) (hq : ∀ M1, e_fr (E_le m (ρ 9)) M M1 → E_S m (ρ 0) (ρ 9) (g_i M1 (ρ 0)) M1 [] → (g_i M1 m 40 = 0 ∨ g_i M1 m 40 = 1) → Q (if D_lk b1 b2 2706200 (I_u c es V.2.2.1) (I_u2 V c es) = true then 1 else 0) M1) : g_Call (d + 71) 403 [.ref m, g_n (x : Int), g_n c] M (g_qI Q) := by
  have c1 := hct.2.1
  have c2 := hct.2.2.1
  have hcR : g_InR c := ⟨by omega, by omega⟩
  have hxR : g_InR (x : Int) := ⟨by omega, by omega⟩
  have hB := h.1
  have hno := h.2.2.1
  have hix := h.2.2.2.1 x hx
  rw [hst] at hix
  obtain ⟨-, k2, -⟩ := hix
  refine m_X12_isLookedAt (d := d + 70) hxR hcR fun _ => ⟨hB.1, e_entriesOf (d := d) (tl := g_i M m 40) hS k2 hct hdl hno (Nat.zero_le _) h40 rfl fun M2 P1 P2 f2 hPT S2 u1l u2l t40 h41 h42 h43 h44 => ?_⟩
  intro _ _ _
  have h10 : g_i M m 10 = 0 := hS.2.2.2.1
  rw [h10]
  have c40 : g_i M2 m 40 = 0 ∨ g_i M2 m 40 = 1 := by
    rw [t40]
    exact I_tl2_01 _ (I_tl_01 h40 _)
  obtain ⟨T1, T2, hP1, hP2, hT1, hT2⟩ := hPT
  have hP1l : P1.length ≤ 3301 := by
    rw [hP1, List.nil_append]
    exact hT1
  have hP2l : P2.length ≤ 3301 := by
    rw [hP2]
    exact hT2
  obtain ⟨U1, hU1⟩ : ∃ U1, U1 = I_u c es V.2.2.1 := ⟨_, rfl⟩
  obtain ⟨U2, hU2⟩ : ∃ U2, U2 = I_u2 V c es := ⟨_, rfl⟩
  have hky1 : ∀ u ∈ U1, R_ky (g_i M (ρ 0)) u := by
    rw [hU1]
    exact I_u_ky hct
  have hky2 : ∀ u ∈ U2, R_ky (g_i M (ρ 0)) u := by
    rw [hU2]
    exact I_u2_ky hct
  rw [← hU1, ← hU2] at hq S2 h44
  rw [← hU1] at u1l h42 h43
  rw [← hU2] at u2l
  simp only [List.length_append, List.length_map] at h43 h44
  have F2 : g_i M2 (ρ 0) = g_i M (ρ 0) := S2.leF
  have hB2 := hB.fr f2
  obtain ⟨w65, w66, w67, C, wI, wC, wl⟩ := hW
  have km : ∀ k : Int, k ≠ 10 → ¬ (40 ≤ k ∧ k ≤ 44) → g_i M2 m k = g_i M m k := fun k n1 n2 => f2.2.1 _ _ fun z => by
    have := E_le_m hB z
    omega
  have I2 : E_Iv m ρ (b1.getD [] ++ C) M2 := wI.fr f2 (fun z => by have := E_le_m hB z; omega) fun j hj k => by
    obtain ⟨e1, e2⟩ := (by decide : ∀ j ∈ [57, 58, 59, 60], j ∈ E_bf ∧ j ≠ 9) j hj
    exact E_le_n hB e1 e2
  have v65 : g_i M2 m 65 = D_rk b1 b2 := (km 65 (by decide) (by decide)).trans w65
  have v67 : g_i M2 m 67 = ((b1.getD []).length : Int) := (km 67 (by decide) (by decide)).trans w67
  obtain ⟨LL, hLL⟩ : ∃ LL, LL = P1 ++ U1.map (L_on 2706200) ++ P2 ++ U2.map (L_on 2706200) := ⟨_, rfl⟩
  rw [← hLL] at S2
  have b9 := hB2.at (k := 9) (by decide)
  have b9A : g_A M2 (ρ 9) 1 80000 := b9.2
  have g1 : ∀ (A B : List (Option (Int × b_E))) (u : Option (Int × b_E)), U1 = A ++ u :: B → g_i M2 (ρ 9) ((P1.length + A.length : Nat) : Int) = L_on 2706200 u := fun A B u hA => by
    have hi : LL[P1.length + A.length]? = some (L_on 2706200 u) := by
      rw [hLL, hA, List.append_assoc, List.append_assoc, List.getElem?_append_right (by omega), Nat.add_sub_cancel_left, List.map_append, List.append_assoc, List.getElem?_append_right (by rw [List.length_map]; exact Nat.le_refl _), List.length_map, Nat.sub_self]
      rfl
    exact (S2.get hi).1
  have g2 : ∀ (A B : List (Option (Int × b_E))) (u : Option (Int × b_E)), U2 = A ++ u :: B → g_i M2 (ρ 9) ((P1.length + U1.length + P2.length + A.length : Nat) : Int) = L_on 2706200 u := fun A B u hA => by
    have hi : LL[P1.length + U1.length + P2.length + A.length]? = some (L_on 2706200 u) := by
      have hll : (P1 ++ U1.map (L_on 2706200) ++ P2).length = P1.length + U1.length + P2.length := by
        rw [List.length_append, List.length_append, List.length_map]
      rw [hLL, List.getElem?_append_right (by rw [hll]; omega), hll, Nat.add_sub_cancel_left, hA, List.map_append, List.getElem?_append_right (by rw [List.length_map]; exact Nat.le_refl _), List.length_map, Nat.sub_self]
      rfl
    exact (S2.get hi).1
  have hO : ∀ u, R_ky (g_i M (ρ 0)) u → D_at (g_i M2 (ρ 0)) (D_kz (J_no 2706200 u)) ∧ D_p (D_kz (J_no 2706200 u)) = L_on 2706200 u := fun u hu => by
    rw [F2]
    exact D_ky_at hu.at hno
  -- the end
  have h124 : ∀ (x1 x2 : Bool) (v6 : Int), g_InR v6 → (x1 && x2) = D_lk b1 b2 2706200 U1 U2 → g_Run (d + 70) 403 124 [(0, .ref m), (1, g_n (x : Int)), (2, g_n c), (3, g_n 0), (4, g_n (if x1 = true then 1 else 0)), (5, g_n (if x2 = true then 1 else 0)), (6, g_n v6)] [] M2 (g_qI Q) := fun x1 x2 v6 h6 hxx => by
    have hR1 : ∀ z : Bool, g_InR (if z = true then 1 else 0) := fun z => by cases z <;> exact ⟨by decide, by decide⟩
    refine s_X12_isLookedAt_124 hxR hcR ⟨by decide, by decide⟩ (hR1 x1) (hR1 x2) h6 fun _ => ⟨hB2.1, fun M3 e3 _ => ?_⟩
    obtain ⟨S3, f3⟩ := S2.cut0
    rw [← e3] at S3 f3
    have h9 := hq M3 (f2.tr f3) S3.sf (by rw [e3, g_i_wi, if_neg (fun z => absurd z.2 (by decide))]; exact c40)
    rw [← hxx] at h9
    cases x1
    · exact ⟨fun _ => h9, fun z => absurd rfl z⟩
    · cases x2
      · exact ⟨fun z => absurd z (by decide), fun _ => ⟨fun _ => h9, fun z => absurd rfl z⟩⟩
      · exact ⟨fun z => absurd z (by decide), fun _ => ⟨fun z => absurd z (by decide), fun _ => h9⟩⟩
  -- the second key
  have h83 : ∀ (x1 : Bool), x1 = U1.any (D_in (b1.getD []) 2706200) → ∀ (B A : List (Option (Int × b_E))) (x2 : Bool), U2 = A ++ B → (x2 = true ∨ D_rk b1 b2 = 3) → x2 = (decide (D_rk b1 b2 < 3) || A.any (D_in (b2.getD []) 2706200)) → g_Run (d + 70) 403 83 [(0, .ref m), (1, g_n (x : Int)), (2, g_n c), (3, g_n 0), (4, g_n (if x1 = true then 1 else 0)), (5, g_n (if x2 = true then 1 else 0)), (6, g_n ((P1.length + U1.length + P2.length + A.length : Nat) : Int))] [] M2 (g_qI Q) := by
    intro x1 hx1 B
    have hR1 : ∀ z : Bool, g_InR (if z = true then 1 else 0) := fun z => by cases z <;> exact ⟨by decide, by decide⟩
    induction B with
    | nil =>
      intro A x2 hA _ hx2
      have hll := congrArg List.length hA
      rw [List.length_append, List.length_nil] at hll
      rw [List.append_nil] at hA
      refine s_X12_isLookedAt_83 hxR hcR ⟨by decide, by decide⟩ (hR1 x1) (hR1 x2) ⟨by omega, by omega⟩ fun _ => ⟨hB2.1, fun g => absurd g (by rw [h44]; omega), fun _ => h124 x1 x2 _ ⟨by omega, by omega⟩ ?_⟩
      unfold D_lk
      rw [hx1, hx2, hA]
    | cons u B ih =>
      intro A x2 hA h3 hx2
      have hll := congrArg List.length hA
      rw [List.length_append, List.length_cons] at hll
      have hum : u ∈ U2 := by rw [hA]; simp
      obtain ⟨hO1, hO2⟩ := hO u (hky2 u hum)
      refine s_X12_isLookedAt_83 hxR hcR ⟨by decide, by decide⟩ (hR1 x1) (hR1 x2) ⟨by omega, by omega⟩ fun _ => ⟨hB2.1, fun _ => ⟨fun z => ?_, fun z => h124 x1 x2 _ ⟨by omega, by omega⟩ ?_⟩, fun g => absurd (by rw [h44]; omega) g⟩
      · have hx2f : x2 = false := by
          cases x2
          · rfl
          · exact absurd z (by decide)
        have hr3 : D_rk b1 b2 = 3 := h3.resolve_left (by rw [hx2f]; decide)
        have hC := wC hr3
        rw [hC] at I2
        have e61 : g_i M2 m 61 = (((b1.getD []).length + (b2.getD []).length : Nat) : Int) := by rw [I2.1, List.length_append]
        refine ⟨ρ 9, b9.1, 80000, b9A, ⟨by omega, by omega⟩, ?_⟩
        rw [g2 A B u hA, ← hO2, v67, e61]
        refine e_isWithin (d := d + 22) (A := b1.getD []) (P := b2.getD []) (C := []) hB2 (by rw [List.append_nil]; exact I2) (by rw [List.length_nil]; rw [hC] at wl; omega) (by rw [F2]; exact hi2) hO1 ?_
        intro _ _ _
        refine ⟨⟨by omega, by omega⟩, ?_⟩
        have h9 := ih (A ++ [u]) (D_in (b2.getD []) 2706200 u) (by rw [hA]; simp) (Or.inr hr3) (by
          rw [hx2f, hr3] at hx2
          rw [hr3, List.any_append, List.any_cons, List.any_nil, Bool.or_false, ← Bool.or_assoc, ← hx2, Bool.false_or])
        rw [show ((P1.length + U1.length + P2.length + (A ++ [u]).length : Nat) : Int) = ((P1.length + U1.length + P2.length + A.length : Nat) : Int) + 1 by rw [List.length_append, List.length_singleton]; omega] at h9
        exact h9
      · have hx2t : x2 = true := by
          cases x2
          · exact absurd rfl z
          · rfl
        unfold D_lk
        rw [hx2t] at hx2 ⊢
        rw [hx1, hA, List.any_append, ← Bool.or_assoc, ← hx2, Bool.true_or]
  -- the first key
  have h36 : ∀ (x2 : Bool), x2 = decide (D_rk b1 b2 < 3) → ∀ (B A : List (Option (Int × b_E))) (x1 : Bool), U1 = A ++ B → x1 = A.any (D_in (b1.getD []) 2706200) → g_Run (d + 70) 403 36 [(0, .ref m), (1, g_n (x : Int)), (2, g_n c), (3, g_n 0), (4, g_n (if x1 = true then 1 else 0)), (5, g_n (if x2 = true then 1 else 0)), (6, g_n ((P1.length + A.length : Nat) : Int))] [] M2 (g_qI Q) := by
    intro x2 hx2 B
    have hR1 : ∀ z : Bool, g_InR (if z = true then 1 else 0) := fun z => by cases z <;> exact ⟨by decide, by decide⟩
    have hrk3 : D_rk b1 b2 ≤ 3 := D_rk_le b1 b2
    induction B with
    | nil =>
      intro A x1 hA hx1
      have hll := congrArg List.length hA
      rw [List.length_append, List.length_nil] at hll
      rw [List.append_nil] at hA
      have h9 := h83 x1 (by rw [hx1, hA]) U2 [] x2 rfl (by
        rw [hx2]
        by_cases g : D_rk b1 b2 < 3
        · exact Or.inl (decide_eq_true g)
        · exact Or.inr (by omega)) (by rw [hx2, List.any_nil, Bool.or_false])
      refine s_X12_isLookedAt_36 hxR hcR ⟨by decide, by decide⟩ (hR1 x1) (hR1 x2) ⟨by omega, by omega⟩ fun _ => ⟨hB2.1, by rw [h41, h42]; exact ⟨by omega, by omega⟩, fun g => absurd g (by rw [h41, h42]; omega), fun _ => ?_⟩
      rw [h43]
      exact h9
    | cons u B ih =>
      intro A x1 hA hx1
      have hll := congrArg List.length hA
      rw [List.length_append, List.length_cons] at hll
      have hum : u ∈ U1 := by rw [hA]; simp
      obtain ⟨hO1, hO2⟩ := hO u (hky1 u hum)
      have e67 : g_i M2 m 67 = ((([] : List D_i).length + (b1.getD []).length : Nat) : Int) := by
        rw [v67, List.length_nil, Nat.zero_add]
      refine s_X12_isLookedAt_36 hxR hcR ⟨by decide, by decide⟩ (hR1 x1) (hR1 x2) ⟨by omega, by omega⟩ fun _ => ⟨hB2.1, by rw [h41, h42]; exact ⟨by omega, by omega⟩, fun _ => ⟨ρ 9, b9.1, 80000, b9A, ⟨by omega, by omega⟩, ?_⟩, fun g => absurd (by rw [h41, h42]; omega) g⟩
      rw [g1 A B u hA, ← hO2, e67]
      refine e_isWithin (d := d + 22) (A := []) (P := b1.getD []) (C := C) hB2 I2 (by rw [List.length_nil]; omega) (by rw [F2]; exact hi1) hO1 ?_
      intro _ _ _
      refine ⟨⟨by omega, by omega⟩, ?_⟩
      have h9 := ih (A ++ [u]) (x1 || D_in (b1.getD []) 2706200 u) (by rw [hA]; simp) (by rw [hx1, List.any_append, List.any_cons, List.any_nil, Bool.or_false])
      rw [show ((P1.length + (A ++ [u]).length : Nat) : Int) = ((P1.length + A.length : Nat) : Int) + 1 by rw [List.length_append, List.length_singleton]; omega, ← g_orb] at h9
      exact h9
  have hst0 : ∀ x2 : Bool, x2 = decide (D_rk b1 b2 < 3) → g_Run (d + 70) 403 36 [(0, .ref m), (1, g_n (x : Int)), (2, g_n c), (3, g_n 0), (4, g_n 0), (5, g_n (if x2 = true then 1 else 0)), (6, g_n (P1.length : Int))] [] M2 (g_qI Q) := fun x2 hx2 => h36 x2 hx2 U1 [] false rfl rfl
  rw [v65, h41]
  exact ⟨fun g => hst0 true (decide_eq_true g).symm, fun g => hst0 false (decide_eq_false g).symm⟩
end DLK
