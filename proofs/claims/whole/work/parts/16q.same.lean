/-! STAGES: $lookup, the class: whether some are the same -/
def J_same (x y : Int × b_E) : Prop := v_cmp 61 x.2.1 x.2.2.2 y.2.1 y.2.2.2 = 0
section SAME
variable {so r b : Nat} {c e : Int} {L : List Int} {M : g_M}
theorem c_someSame {d : Nat} {Q : Int → g_M → Prop} {A1 A2 : List (Int × b_E)} (hso : g_O M so 9) (h0 : g_r M so 0 = some r) (h1 : g_r M so 1 = some b) (hA : g_A M b 0 246408) (hP : k_P M r b c e (L ++ (A1.map Prod.fst ++ A2.map Prod.fst))) (hl : L.length + (A1.length + A2.length) ≤ 32768) (hs1 : ∀ z ∈ A1, b_st (g_i M b) 246408 z.1 20 z.2.1 z.2.2.1 z.2.2.2 ∧ z.2.2.2.length ≤ 199000) (hs2 : ∀ z ∈ A2, b_st (g_i M b) 246408 z.1 20 z.2.1 z.2.2.1 z.2.2.2) (hq1 : (∃ x ∈ A1, ∃ y ∈ A2, J_same x y) → Q 1 M) (hq0 : (∀ x ∈ A1, ∀ y ∈ A2, ¬ J_same x y) → Q 0 M) : g_Call (d + 46) 171 [.ref so, g_n L.length, g_n (L.length + A1.length)] M (g_qI Q) := by
  have htop := hP.top
  rw [List.length_append, List.length_append, List.length_map, List.length_map] at htop
  have h2 : ∀ (X2 X1 : List (Int × b_E)), A1 = X1 ++ X2 → (∀ x ∈ X1, ∀ y ∈ A2, ¬ J_same x y) → g_Run (d + 45) 171 2 [(0, .ref so), (1, g_n L.length), (2, g_n (L.length + A1.length)), (3, g_n (L.length + X1.length))] [] M (g_qI Q) := by
    intro X2
    induction X2 with
    | nil =>
      intro X1 k1 hn
      rw [List.append_nil] at k1
      have hll := congrArg List.length k1
      exact s_X9_someSame_2 ⟨by omega, by omega⟩ ⟨by omega, by omega⟩ ⟨by omega, by omega⟩ fun _ => ⟨fun z => absurd z (by omega), fun _ => hq0 (by rw [k1]; exact hn)⟩
    | cons x X2 ih =>
      intro X1 k1 hn
      have hll := congrArg List.length k1
      rw [List.length_append, List.length_cons] at hll
      obtain ⟨hx, hxl⟩ := hs1 x (by rw [k1]; simp)
      have hgx : (L ++ (A1.map Prod.fst ++ A2.map Prod.fst))[L.length + X1.length]? = some x.1 := by
        rw [List.getElem?_append_right (by omega), show L.length + X1.length - L.length = X1.length by omega, k1, List.map_append, List.append_assoc, List.getElem?_append_right (by rw [List.length_map]; omega), List.length_map, Nat.sub_self]
        rfl
      have h10 : ∀ (Y2 Y1 : List (Int × b_E)), A2 = Y1 ++ Y2 → (∀ y ∈ Y1, ¬ J_same x y) → g_Run (d + 45) 171 10 [(0, .ref so), (1, g_n L.length), (2, g_n (L.length + A1.length)), (3, g_n (L.length + X1.length)), (4, g_n (L.length + A1.length + Y1.length))] [] M (g_qI Q) := by
        intro Y2
        induction Y2 with
        | nil =>
          intro Y1 q1 hy
          rw [List.append_nil] at q1
          have hyl := congrArg List.length q1
          refine s_X9_someSame_10 ⟨by omega, by omega⟩ ⟨by omega, by omega⟩ ⟨by omega, by omega⟩ ⟨by omega, by omega⟩ fun _ => ⟨hso, r, h0, hP.1, fun z => absurd z (by omega), fun _ => ⟨⟨by omega, by omega⟩, ?_⟩⟩
          have h9 := ih (X1 ++ [x]) (by rw [k1]; simp) fun u hu y hyy => ?_
          · rwa [List.length_append, List.length_singleton, show (L.length : Int) + ((X1.length + 1 : Nat) : Int) = L.length + X1.length + 1 by omega] at h9
          · rcases List.mem_append.mp hu with hu | hu
            · exact hn u hu y hyy
            · rw [List.mem_singleton.mp hu]
              exact hy y (by rw [← q1]; exact hyy)
        | cons y Y2 ihy =>
          intro Y1 q1 hy
          have hyl := congrArg List.length q1
          rw [List.length_append, List.length_cons] at hyl
          have hgy : (L ++ (A1.map Prod.fst ++ A2.map Prod.fst))[L.length + A1.length + Y1.length]? = some y.1 := by
            rw [List.getElem?_append_right (by omega), List.getElem?_append_right (by rw [List.length_map]; omega), List.length_map, show L.length + A1.length + Y1.length - L.length - A1.length = Y1.length by omega, q1, List.map_append, List.getElem?_append_right (by rw [List.length_map]; omega), List.length_map, Nat.sub_self]
            rfl
          have hym := hs2 y (by rw [q1]; simp)
          refine s_X9_someSame_10 ⟨by omega, by omega⟩ ⟨by omega, by omega⟩ ⟨by omega, by omega⟩ ⟨by omega, by omega⟩ fun _ => ⟨hso, r, h0, hP.1, fun _ => ⟨b, h1, r, h0, hP.1, ?_⟩, fun z => absurd (by omega) z⟩
          have hlf1 : ∀ {Q1 : Int → g_M → Prop}, Q1 x.1 M → g_Call (d + 45) 105 [.ref r, g_n (L.length + X1.length)] M (g_qI Q1) := fun {Q1} hq => by
            have := c_leaf (d := d + 44) (Q := Q1) hP hgx hq
            rwa [show (((L.length + X1.length : Nat)) : Int) = L.length + X1.length by omega] at this
          have hlf2 : ∀ {Q1 : Int → g_M → Prop}, Q1 y.1 M → g_Call (d + 45) 105 [.ref r, g_n (L.length + A1.length + Y1.length)] M (g_qI Q1) := fun {Q1} hq => by
            have := c_leaf (d := d + 44) (Q := Q1) hP hgy hq
            rwa [show (((L.length + A1.length + Y1.length : Nat)) : Int) = L.length + A1.length + Y1.length by omega] at this
          refine hlf1 ?_
          intro _ _ _
          refine ⟨b, h1, r, h0, hP.1, hlf2 ?_⟩
          intro _ _ _
          refine c_compare 20 (F := 60) (d := d + 1) hA hA (by decide) (by decide) hxl hx hym (by decide) (by decide) (by decide) ?_
          intro _ _ _
          refine ⟨fun g0 => hq1 ⟨x, by rw [k1]; simp, y, by rw [q1]; simp, g0⟩, fun g0 => ⟨⟨by omega, by omega⟩, ?_⟩⟩
          have h9 := ihy (Y1 ++ [y]) (by rw [q1]; simp) fun u hu => ?_
          · rwa [List.length_append, List.length_singleton, show (L.length : Int) + A1.length + ((Y1.length + 1 : Nat) : Int) = L.length + A1.length + Y1.length + 1 by omega] at h9
          · rcases List.mem_append.mp hu with hu | hu
            · exact hy u hu
            · rw [List.mem_singleton.mp hu]
              exact g0
      refine s_X9_someSame_2 ⟨by omega, by omega⟩ ⟨by omega, by omega⟩ ⟨by omega, by omega⟩ fun _ => ⟨fun _ => ?_, fun z => absurd (by omega) z⟩
      have h9 := h10 A2 [] rfl (fun y hy => absurd hy (by simp))
      rwa [show (L.length : Int) + A1.length + (([] : List (Int × b_E)).length : Nat) = L.length + A1.length by rw [List.length_nil]; omega] at h9
  refine m_X9_someSame ⟨by omega, by omega⟩ ⟨by omega, by omega⟩ fun _ => ?_
  have h9 := h2 A1 [] rfl (fun x hx => absurd hx (by simp))
  rwa [show (L.length : Int) + (([] : List (Int × b_E)).length : Nat) = L.length by rw [List.length_nil]; omega] at h9
end SAME
/-! the reference: each leaf once -/
section ONCE
variable {m b l : Nat} {F : Int → Int} {M : g_M} {P : List Int} {Q : g_M → Prop}
def J_1 : List Int → List Int → List Int
  | D, [] => D
  | D, v :: K => if v ∈ D then J_1 D K else J_1 (D ++ [v]) K
theorem J_1_mem : ∀ (K D : List Int) (v : Int), v ∈ J_1 D K ↔ v ∈ D ∨ v ∈ K := by
  intro K
  induction K with
  | nil => intro D v; simp [J_1]
  | cons w K ih =>
    intro D v
    unfold J_1
    split
    · rename_i h
      rw [ih, List.mem_cons]
      constructor
      · rintro (g | g)
        · exact Or.inl g
        · exact Or.inr (Or.inr g)
      · rintro (g | g | g)
        · exact Or.inl g
        · exact Or.inl (g ▸ h)
        · exact Or.inr g
    · rw [ih, List.mem_append, List.mem_singleton, List.mem_cons]
      constructor
      · rintro ((g | g) | g)
        · exact Or.inl g
        · exact Or.inr (Or.inl g)
        · exact Or.inr (Or.inr g)
      · rintro (g | g | g)
        · exact Or.inl (Or.inl g)
        · exact Or.inl (Or.inr g)
        · exact Or.inr g
theorem J_1_len : ∀ (K D : List Int), (J_1 D K).length ≤ D.length + K.length := by
  intro K
  induction K with
  | nil => intro D; exact Nat.le_refl _
  | cons w K ih =>
    intro D
    unfold J_1
    rw [List.length_cons]
    split
    · have := ih D
      omega
    · have := ih (D ++ [w])
      rw [List.length_append, List.length_singleton] at this
      omega
theorem e_once {d : Nat} {K : List Int} (hS : E_S m b l F M (P ++ K)) (h : ∀ M1, e_fr (E_lf m l) M M1 → E_S m b l F M1 (P ++ J_1 [] K) → Q M1) : g_Call (d + 1) 345 [.ref m, g_n P.length] M (g_qV Q) := by
  obtain ⟨a1, a2, a3, a4, a5, a6, a7⟩ := id hS
  have hne := hS.ne
  rw [List.length_append] at a4 a7
  -- D is kept behind P, the rest K2 of K stands where it stood
  have hlp : ∀ (K2 K1 D : List Int) (M1 : g_M), K = K1 ++ K2 → D.length ≤ K1.length → J_1 D K2 = J_1 [] K → e_fr (fun x _ => x = l) M M1 → b_at (g_i M1 l) 0 (P ++ D) → b_at (g_i M1 l) (P.length + K1.length) K2 → g_Run d 345 4 [(0, .ref m), (1, g_n P.length), (2, g_n ((P.length + D.length : Nat) : Int)), (3, g_n ((P.length + K1.length : Nat) : Int))] [] M1 (g_qV Q) := by
    intro K2
    induction K2 with
    | nil =>
      intro K1 D M1 k1 k2 k3 f1 v1 v2
      rw [List.append_nil] at k1
      have hKl := congrArg List.length k1
      have h10 : g_i M1 m 10 = ((P.length + K.length : Nat) : Int) := by rw [f1.2.1 m 10 fun z => hne.2.1 z.symm]; exact a4
      refine s_X12_once_4 ⟨by omega, by omega⟩ ⟨by omega, by omega⟩ ⟨by omega, by omega⟩ fun _ => ⟨f1.O a1.1, fun z => absurd z (by omega), fun _ M2 e2 _ => ?_⟩
      have hD : D = J_1 [] K := k3
      have f2 : e_fr (E_lf m l) M1 M2 := by subst e2; exact e_fr.wi _ (Or.inr ⟨rfl, rfl⟩)
      have f02 := (f1.up fun x k z => (Or.inl z : E_lf m l x k)).tr f2
      refine h M2 f02 ⟨f02.R a1, by rw [f02.2.2]; exact a2, f02.A a3, ?_, ?_, ?_, ?_⟩
      · subst e2
        rw [g_i_wi, if_pos ⟨rfl, rfl⟩, List.length_append, ← hD]
      · rw [← hD]
        subst e2
        exact b_at_keep v1 fun k _ _ => by rw [g_i_wi, if_neg fun z => hne.2.1 z.1]
      · rw [← a6]
        exact funext fun k => f02.2.1 b k fun z => by
          rcases z with z | z
          · exact hne.1 z.symm
          · exact hne.2.2 z.1.symm
      · rw [List.length_append, ← hD]
        omega
    | cons v K2 ih =>
      intro K1 D M1 k1 k2 k3 f1 v1 v2
      have hKl := congrArg List.length k1
      rw [List.length_append, List.length_cons] at hKl
      have h10 : g_i M1 m 10 = ((P.length + K.length : Nat) : Int) := by rw [f1.2.1 m 10 fun z => hne.2.1 z.symm]; exact a4
      obtain ⟨w1, w2⟩ := b_cons.mp v2
      have hl9 : g_r M1 m 9 = some l := by rw [f1.2.2]; exact a2
      have hA1 : g_A M1 l 1 80000 := f1.A a3
      have hun : J_1 D (v :: K2) = if v ∈ D then J_1 D K2 else J_1 (D ++ [v]) K2 := rfl
      rw [hun] at k3
      have hc3 : (((P.length + K1.length : Nat)) : Int) = (P.length : Int) + K1.length := by omega
      -- it is looked for
      have h15 : ∀ (D2 D1 : List Int), D = D1 ++ D2 → v ∉ D1 → g_Run d 345 15 [(0, .ref m), (1, g_n P.length), (2, g_n ((P.length + D.length : Nat) : Int)), (3, g_n ((P.length + K1.length : Nat) : Int)), (4, g_n ((P.length + D1.length : Nat) : Int))] [] M1 (g_qV Q) := by
        intro D2
        induction D2 with
        | nil =>
          intro D1 q1 q2
          rw [List.append_nil] at q1
          subst q1
          rw [if_neg q2] at k3
          refine s_X12_once_15 ⟨by omega, by omega⟩ ⟨by omega, by omega⟩ ⟨by omega, by omega⟩ ⟨by omega, by omega⟩ fun _ => ⟨fun z => absurd z (by omega), fun _ => ?_⟩
          refine s_X12_once_43 ⟨by omega, by omega⟩ ⟨by omega, by omega⟩ ⟨by omega, by omega⟩ ⟨by omega, by omega⟩ fun _ => ⟨fun z => absurd z (by omega), fun _ => ⟨f1.O a1.1, l, hl9, l, hl9, _, hA1, ⟨by omega, by omega⟩, _, hA1, ⟨by omega, by omega⟩, fun M12 e12 _ => ⟨⟨by omega, by omega⟩, ⟨by omega, by omega⟩, ?_⟩⟩⟩
          rw [hc3, w1] at e12
          have h9 := ih (K1 ++ [v]) (D ++ [v]) M12 (by rw [k1]; simp) (by rw [List.length_append, List.length_append, List.length_singleton]; omega) k3 (f1.tr (by subst e12; exact e_fr.wi _ rfl)) ?_ ?_
          · rw [List.length_append, List.length_append, List.length_singleton] at h9
            rwa [show ((P.length + (D.length + 1) : Nat) : Int) = ((P.length + D.length : Nat) : Int) + 1 by omega, show ((P.length + (K1.length + 1) : Nat) : Int) = ((P.length + K1.length : Nat) : Int) + 1 by omega] at h9
          · subst e12
            rw [← List.append_assoc]
            refine b_app.mpr ⟨b_at_keep v1 fun k k1 k2 => ?_, b_cons.mpr ⟨?_, b_nil _ _⟩⟩
            · rw [List.length_append] at k2
              rw [g_i_wi, if_neg (by omega)]
            · rw [g_i_wi, if_pos ⟨rfl, by rw [List.length_append]; omega⟩]
          · subst e12
            rw [List.length_append, List.length_singleton, show (P.length : Int) + ((K1.length + 1 : Nat) : Int) = P.length + K1.length + 1 by omega]
            refine b_at_keep w2 fun k k1 k2 => ?_
            rw [g_i_wi, if_neg (by omega)]
        | cons u D2 ihd =>
          intro D1 q1 q2
          have hdl := congrArg List.length q1
          rw [List.length_append, List.length_cons] at hdl
          have hu : g_i M1 l ((P.length + D1.length : Nat) : Int) = u := by
            have := v1 (P.length + D1.length) u (by rw [List.getElem?_append_right (by omega), show P.length + D1.length - P.length = D1.length by omega, q1, List.getElem?_append_right (Nat.le_refl _), Nat.sub_self]; rfl)
            rwa [show (0 : Int) + ((P.length + D1.length : Nat) : Int) = ((P.length + D1.length : Nat) : Int) by omega] at this
          refine s_X12_once_15 ⟨by omega, by omega⟩ ⟨by omega, by omega⟩ ⟨by omega, by omega⟩ ⟨by omega, by omega⟩ fun _ => ⟨fun _ => ⟨f1.O a1.1, l, hl9, _, hA1, ⟨by omega, by omega⟩, l, hl9, _, hA1, ⟨by omega, by omega⟩, ?_⟩, fun z => absurd (by omega) z⟩
          rw [hu, hc3, w1]
          refine ⟨fun g0 => ?_, fun g0 => ⟨⟨by omega, by omega⟩, ?_⟩⟩
          · rw [if_pos (by rw [q1, ← g0]; simp)] at k3
            have hr3 : g_InR ((P.length : Int) + K1.length) := ⟨by omega, by omega⟩
            refine s_X12_once_43 ⟨by omega, by omega⟩ ⟨by omega, by omega⟩ hr3 ⟨by omega, by omega⟩ fun _ => ⟨fun _ => ⟨⟨by omega, by omega⟩, ?_⟩, fun z => absurd (by omega) z⟩
            have h9 := ih (K1 ++ [v]) D M1 (by rw [k1]; simp) (by rw [List.length_append, List.length_singleton]; omega) k3 f1 v1 (by rw [List.length_append, List.length_singleton, show (P.length : Int) + ((K1.length + 1 : Nat) : Int) = P.length + K1.length + 1 by omega]; exact w2)
            rw [List.length_append, List.length_singleton] at h9
            rwa [show ((P.length + (K1.length + 1) : Nat) : Int) = (P.length : Int) + K1.length + 1 by omega] at h9
          · have h9 := ihd (D1 ++ [u]) (by rw [q1]; simp) (fun z => by
              rcases List.mem_append.mp z with z | z
              · exact q2 z
              · exact g0 (List.mem_singleton.mp z).symm)
            rw [List.length_append, List.length_singleton, hc3] at h9
            rwa [show ((P.length + (D1.length + 1) : Nat) : Int) = ((P.length + D1.length : Nat) : Int) + 1 by omega] at h9
      refine s_X12_once_4 ⟨by omega, by omega⟩ ⟨by omega, by omega⟩ ⟨by omega, by omega⟩ fun _ => ⟨f1.O a1.1, fun _ => ?_, fun z => absurd (by omega) z⟩
      have h9 := h15 D [] rfl (by simp)
      exact h9
  refine m_X12_once ⟨by omega, by omega⟩ fun _ => ?_
  have h9 := hlp K [] [] M rfl (Nat.le_refl _) rfl (e_fr.rf _ _) (by rw [List.append_nil]; exact (b_app.mp a5).1) (by have := (b_app.mp a5).2; rwa [show (0 : Int) + (P.length : Int) = (P.length : Int) + (([] : List Int).length : Nat) by rw [List.length_nil]; omega] at this)
  exact h9
end ONCE
