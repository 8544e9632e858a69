/-! INDEX, THE REFERENCE: keys are arranged -/
theorem I_un_w {w : Int} (hw : I_w w) (l : List (Option (Int × b_E))) : I_un (I_oc w) l = I_un (I_oc 1) l := by
  have h0 : ∀ x y : Option (Int × b_E), I_oc w x y = 0 ↔ I_oc 1 x y = 0 := fun x y => by
    show w * v_vc 61 (I_ko x) (I_ko y) = 0 ↔ 1 * v_vc 61 (I_ko x) (I_ko y) = 0
    rcases hw with g | g <;> subst g <;> constructor <;> intro h <;> omega
  have h1 : ∀ (x : Option (Int × b_E)) (u : List (Option (Int × b_E))), I_has (I_oc w) x u = I_has (I_oc 1) x u := by
    intro x u
    induction u with
    | nil => rfl
    | cons y u ih =>
      show (decide (I_oc w y x = 0) || I_has (I_oc w) x u) = (decide (I_oc 1 y x = 0) || I_has (I_oc 1) x u)
      rw [ih]
      congr 1
      exact decide_eq_decide.mpr (h0 y x)
  unfold I_un
  congr 1
  funext u x
  rw [h1]
/-- the keys as the index goes, in their places -/
noncomputable def I_ar (w : Int) (U : List (Option (Int × b_E))) : List (Option (Int × b_E)) := (I_rv (I_oc w) U).reverse
theorem I_ar_key {w : Int} (hw : I_w w) {c : Int} {es : List b_E} {s : List Int} {r : List (List Int)} (hg : X_gd 15 es) : (I_ar w (I_u c es (s :: r))).map I_ko = I_key w es (s :: r) := by
  unfold I_ar I_u I_key
  rw [← I_un_w hw, ← (I_ks_un (I_oc_T hw) _).1, List.map_reverse, I_ks_map (c := I_oc w) (c2 := I_kc w) (f := I_ko) (fun _ _ => rfl)]
  congr 2
  have h2 : (I_cs (L_doc 15 (L_at (c + 4) es) (s :: r))).map I_ko = ((I_cs (L_doc 15 (L_at (c + 4) es) (s :: r))).map L_nop).map I_kv := by
    rw [List.map_map]
    exact List.map_congr_left fun y _ => I_ko_v y
  rw [h2, I_cs_v, L_doc_lv hg]
theorem I_ins_len {α : Type} (c : α → α → Int) (x : α) : ∀ l : List α, (I_ins c x l).length = l.length + 1 := by
  intro l
  induction l with
  | nil => rfl
  | cons y l ih =>
    show (if 0 < c y x then y :: I_ins c x l else x :: y :: l).length = _
    split
    · rw [List.length_cons, ih, List.length_cons]
    · rfl
theorem I_rv_len {α : Type} (c : α → α → Int) (l : List α) : (I_rv c l).length = l.length := by
  have h : ∀ (l r : List α), (l.foldl (fun r x => I_ins c x r) r).length = r.length + l.length := by
    intro l
    induction l with
    | nil => exact fun r => rfl
    | cons y l ih =>
      intro r
      rw [List.foldl_cons, ih, I_ins_len, List.length_cons]
      omega
  have := h l []
  rw [List.length_nil, Nat.zero_add] at this
  exact this
theorem I_ar_len (w : Int) (U : List (Option (Int × b_E))) : (I_ar w U).length = U.length := by
  unfold I_ar
  rw [List.length_reverse, I_rv_len]
theorem I_rv_app {α : Type} (c : α → α → Int) (l : List α) (x : α) : I_rv c (l ++ [x]) = I_ins c x (I_rv c l) := by
  unfold I_rv
  rw [List.foldl_append]
  rfl
theorem I_rv_mem {α : Type} {c : α → α → Int} : ∀ {l : List α} {y : α}, y ∈ I_rv c l → y ∈ l := by
  intro l
  have h : ∀ (l r : List α) (y : α), y ∈ l.foldl (fun r x => I_ins c x r) r → y ∈ r ∨ y ∈ l := by
    intro l
    induction l with
    | nil => exact fun r y h => Or.inl h
    | cons x l ih =>
      intro r y h
      rcases ih (I_ins c x r) y h with g | g
      · rcases I_ins_mem.mp g with g | g
        · exact Or.inr (by rw [g]; exact List.mem_cons_self)
        · exact Or.inl g
      · exact Or.inr (List.mem_cons_of_mem _ g)
  intro y hy
  rcases h l [] y hy with g | g
  · exact absurd g (by simp)
  · exact g
section EAR
variable {m b l d : Nat} {F : Int → Int} {M : g_M} {P L R : List Int}
def E_l1 (l : Nat) (y : Nat) (_ : Int) : Prop := y = l
theorem E_S.set {X Y : List Int} {v v2 : Int} {M1 : g_M} (hS : E_S m b l F M (X ++ v :: Y)) (hM : M1 = g_wi M l X.length v2) : E_S m b l F M1 (X ++ v2 :: Y) ∧ e_fr (E_l1 l) M M1 := by
  obtain ⟨n1, n2, n3⟩ := hS.ne
  obtain ⟨a1, a2, a3, a4, a5, a6, a7⟩ := hS
  have f2 : e_fr (E_l1 l) M M1 := by
    rw [hM]
    exact e_fr.wi v2 rfl
  refine ⟨⟨f2.R a1, by rw [f2.2.2]; exact a2, f2.A a3, ?_, ?_, ?_, ?_⟩, f2⟩
  · rw [hM, g_i_wi, if_neg (fun z => n2 z.1.symm), a4, List.length_append, List.length_append, List.length_cons, List.length_cons]
  · obtain ⟨b1, b2⟩ := b_app.mp a5
    obtain ⟨b3, b4⟩ := b_cons.mp b2
    refine b_app.mpr ⟨b_at_keep b1 fun q q1 q2 => ?_, b_cons.mpr ⟨?_, b_at_keep b4 fun q q1 q2 => ?_⟩⟩
    · rw [hM, g_i_wi, if_neg (fun z => by have := z.2; omega)]
    · rw [hM, g_i_wi, if_pos ⟨rfl, by omega⟩]
    · rw [hM, g_i_wi, if_neg (fun z => by have := z.2; omega)]
  · rw [← a6]
    funext q
    rw [hM, g_i_wi, if_neg (fun z => n1 z.1.symm)]
  · rw [List.length_append, List.length_cons] at a7 ⊢
    exact a7
theorem e_cmpOn {Q : Int → g_M → Prop} {x y : Option (Int × b_E)} (hR : e_R M m b) (hF : g_i M b = F) (hno : b_at F 2706200 [10, 0]) (hx : O_at F 2706210 x) (hy : O_at F 2706210 y) (h : ∀ r, v_ok r (I_oc 1 x y) → Q r M) : g_Call (d + 45) 269 [.ref m, g_n (L_on 2706200 x), g_n (L_on 2706200 y)] M (g_qI Q) := by
  have hst : ∀ {u : Option (Int × b_E)}, O_at F 2706210 u → b_st (g_i M b) 2706210 (L_on 2706200 u) 20 (J_no 2706200 u).2.1 (J_no 2706200 u).2.2.1 (J_no 2706200 u).2.2.2 := fun {u} h => by
    rw [hF]
    rcases u with _ | z
    · exact b_st_no hno (by decide) (by decide) 20
    · exact h z rfl
  refine e_compare hR 20 (F := 60) (d := d) (hst hx) (hst hy) (by decide) fun r hr => h r ?_
  have h1 : I_oc 1 x y = v_cmp (60 + 1) (J_no 2706200 x).2.1 (J_no 2706200 x).2.2.2 (J_no 2706200 y).2.1 (J_no 2706200 y).2.2.2 := by
    have : I_oc 1 x y = v_vc 61 (I_ko x) (I_ko y) := Int.one_mul _
    rw [this]
    rcases x with _ | x <;> rcases y with _ | y <;> rfl
  rw [h1]
  exact hr
theorem e_arrange {Q : g_M → Prop} {U : List (Option (Int × b_E))} {w v3 : Int} (hS : E_S m b l F M (P ++ U.map (L_on 2706200) ++ R)) (hno : b_at F 2706200 [10, 0]) (hU : ∀ u ∈ U, O_at F 2706210 u) (hw : I_w w) (hv3 : v3 = if w = -1 then 1 else 0) (h : ∀ M1, e_fr (E_l1 l) M M1 → E_S m b l F M1 (P ++ (I_ar w U).map (L_on 2706200) ++ R) → Q M1) : g_Call (d + 47) 385 [.ref m, g_n P.length, g_n ((P.length + U.length : Nat) : Int), g_n v3] M (g_qV Q) := by
  have hlA := hS.2.2.2.2.2.2
  simp only [List.length_append, List.length_map] at hlA
  have hv3R : g_InR v3 := by
    rw [hv3]
    split
    · exact ⟨by decide, by decide⟩
    · exact ⟨by decide, by decide⟩
  have hw1 : ∀ x y : Option (Int × b_E), I_oc w x y = w * I_oc 1 x y := fun x y => by
    show w * v_vc 61 (I_ko x) (I_ko y) = w * (1 * v_vc 61 (I_ko x) (I_ko y))
    rw [Int.one_mul]
  have honR : ∀ {u : Option (Int × b_E)}, O_at F 2706210 u → g_InR (L_on 2706200 u) := fun {u} h => by
    rcases u with _ | z
    · exact ⟨by decide, by decide⟩
    · exact (h z rfl).R (by decide)
  have hend : ∀ (U2 U1 : List (Option (Int × b_E))) (M2 : g_M), U = U1 ++ U2 → e_fr (E_l1 l) M M2 → E_S m b l F M2 (P ++ (I_ar w U1).map (L_on 2706200) ++ (U2.map (L_on 2706200) ++ R)) → g_Run (d + 46) 385 5 [(0, .ref m), (1, g_n P.length), (2, g_n ((P.length + U.length : Nat) : Int)), (3, g_n v3), (4, g_n ((P.length + U1.length : Nat) : Int))] [] M2 (g_qV Q) := by
    intro U2
    induction U2 with
    | nil =>
      intro U1 M2 hUe f2 S2
      rw [List.append_nil] at hUe
      subst hUe
      refine s_X12_arrange_5 ⟨by omega, by omega⟩ ⟨by omega, by omega⟩ hv3R ⟨by omega, by omega⟩ fun _ => ⟨fun z => absurd z (by omega), fun _ => h M2 f2 ?_⟩
      exact S2
    | cons u U2 ih =>
      intro U1 M2 hUe f2 S2
      have hlen := congrArg List.length hUe
      rw [List.length_append, List.length_cons] at hlen
      have hal := I_ar_len w U1
      have hu := hU u (by rw [hUe]; simp)
      have huR := honR hu
      have S2 : E_S m b l F M2 ((P ++ (I_ar w U1).map (L_on 2706200)) ++ L_on 2706200 u :: (U2.map (L_on 2706200) ++ R)) := S2
      have hget : g_i M2 l ((P.length + U1.length : Nat) : Int) = L_on 2706200 u := (S2.get (by
        rw [List.getElem?_append_right (by rw [List.length_append, List.length_map]; omega), List.length_append, List.length_map, hal, Nat.sub_self]
        rfl)).1
      refine s_X12_arrange_5 ⟨by omega, by omega⟩ ⟨by omega, by omega⟩ hv3R ⟨by omega, by omega⟩ fun _ => ⟨fun _ => ⟨S2.1.1, l, S2.2.1, 80000, S2.2.2.1, ⟨by omega, by omega⟩, ?_⟩, fun z => absurd (by omega) z⟩
      rw [hget]
      -- its place among those ahead
      have h24 : ∀ (r Bm : List (Option (Int × b_E))) (v : Int) (M3 : g_M), e_fr (E_l1 l) M M3 → E_S m b l F M3 ((P ++ r.reverse.map (L_on 2706200)) ++ v :: (Bm.map (L_on 2706200) ++ (U2.map (L_on 2706200) ++ R))) → r.length + Bm.length = U1.length → (∀ y ∈ r, O_at F 2706210 y) → (I_ins (I_oc w) u r).reverse ++ Bm = I_ar w (U1 ++ [u]) → g_Run (d + 46) 385 24 [(0, .ref m), (1, g_n P.length), (2, g_n ((P.length + U.length : Nat) : Int)), (3, g_n v3), (4, g_n ((P.length + U1.length : Nat) : Int)), (5, g_n (L_on 2706200 u)), (6, g_n ((P.length + r.length : Nat) : Int))] [] M3 (g_qV Q) := by
        intro r
        have hput : ∀ (r Bm : List (Option (Int × b_E))) (v : Int) (M3 : g_M), e_fr (E_l1 l) M M3 → E_S m b l F M3 ((P ++ r.reverse.map (L_on 2706200)) ++ v :: (Bm.map (L_on 2706200) ++ (U2.map (L_on 2706200) ++ R))) → r.reverse ++ u :: Bm = I_ar w (U1 ++ [u]) → ∀ M4, M4 = g_wi M3 l ((P.length + r.length : Nat) : Int) (L_on 2706200 u) → g_InR (((P.length + U1.length : Nat) : Int) + 1) ∧ g_Run (d + 46) 385 5 [(0, .ref m), (1, g_n P.length), (2, g_n ((P.length + U.length : Nat) : Int)), (3, g_n v3), (4, g_n (((P.length + U1.length : Nat) : Int) + 1))] [] M4 (g_qV Q) := by
          intro r Bm v M3 f3 S3 he M4 e4
          have hXl : (P ++ r.reverse.map (L_on 2706200)).length = P.length + r.length := by rw [List.length_append, List.length_map, List.length_reverse]
          obtain ⟨S4, f4⟩ := S3.set (M1 := M4) (v2 := L_on 2706200 u) (by rw [hXl]; exact e4)
          refine ⟨⟨by omega, by omega⟩, ?_⟩
          have h9 := ih (U1 ++ [u]) M4 (by rw [hUe]; simp) (f3.tr f4) (by
            rw [← he, List.map_append, List.map_cons]
            simpa using S4)
          rwa [show ((P.length + (U1 ++ [u]).length : Nat) : Int) = ((P.length + U1.length : Nat) : Int) + 1 by rw [List.length_append, List.length_singleton]; omega] at h9
        induction r with
        | nil =>
          intro Bm v M3 f3 S3 hrl hrO he
          refine s_X12_arrange_24 ⟨by omega, by omega⟩ ⟨by omega, by omega⟩ hv3R ⟨by omega, by omega⟩ huR ⟨by rw [List.length_nil]; omega, by rw [List.length_nil]; omega⟩ fun _ => ⟨fun z => absurd z (by rw [List.length_nil]; omega), fun _ => ⟨S3.1.1, l, S3.2.1, 80000, S3.2.2.1, ⟨by omega, by rw [List.length_nil]; omega⟩, fun M7 e7 _ => ?_⟩⟩
          exact hput [] Bm v M3 f3 S3 he M7 e7
        | cons y r ihr =>
          intro Bm v M3 f3 S3 hrl hrO he
          rw [List.length_cons] at hrl
          have hyO := hrO y List.mem_cons_self
          have hins : I_ins (I_oc w) u (y :: r) = if 0 < I_oc w y u then y :: I_ins (I_oc w) u r else u :: y :: r := rfl
          rw [hins] at he
          have hylen : (P ++ r.reverse.map (L_on 2706200)).length = P.length + r.length := by rw [List.length_append, List.length_map, List.length_reverse]
          have S3' : E_S m b l F M3 ((P ++ r.reverse.map (L_on 2706200)) ++ L_on 2706200 y :: (v :: (Bm.map (L_on 2706200) ++ (U2.map (L_on 2706200) ++ R)))) := by
            simpa using S3
          have hgy : g_i M3 l (((P.length + (r.length + 1) : Nat) : Int) - 1) = L_on 2706200 y := by
            have h9 := (S3'.get (i := P.length + r.length) (by
              rw [List.getElem?_append_right (by omega), hylen, Nat.sub_self]
              rfl)).1
            rwa [show (((P.length + (r.length + 1) : Nat) : Int) - 1) = ((P.length + r.length : Nat) : Int) by omega]
          rw [List.length_cons]
          -- it moves behind
          have h73 : 0 < I_oc w y u → g_Run (d + 46) 385 73 [(0, .ref m), (1, g_n P.length), (2, g_n ((P.length + U.length : Nat) : Int)), (3, g_n v3), (4, g_n ((P.length + U1.length : Nat) : Int)), (5, g_n (L_on 2706200 u)), (6, g_n ((P.length + (r.length + 1) : Nat) : Int))] [] M3 (g_qV Q) := by
            intro hpos
            rw [if_pos hpos] at he
            refine s_X12_arrange_73 ⟨by omega, by omega⟩ ⟨by omega, by omega⟩ hv3R ⟨by omega, by omega⟩ huR ⟨by omega, by omega⟩ fun _ => ⟨S3.1.1, l, S3.2.1, l, S3.2.1, ⟨by omega, by omega⟩, 80000, S3.2.2.1, ⟨by omega, by omega⟩, 80000, S3.2.2.1, ⟨by omega, by omega⟩, ?_⟩
            rw [hgy]
            intro M13 e13 _
            have hXl : (P ++ (y :: r).reverse.map (L_on 2706200)).length = P.length + (r.length + 1) := by rw [List.length_append, List.length_map, List.length_reverse, List.length_cons]
            obtain ⟨S13, f13⟩ := S3.set (M1 := M13) (v2 := L_on 2706200 y) (by rw [hXl]; exact e13)
            refine ⟨⟨by omega, by omega⟩, ?_⟩
            have h9 := ihr (y :: Bm) (L_on 2706200 y) M13 (f3.tr f13) (by simpa using S13) (by rw [List.length_cons]; omega) (fun a ha => hrO a (List.mem_cons_of_mem _ ha)) (by rw [← he]; simp)
            rwa [show ((P.length + (r.length + 1) : Nat) : Int) + -1 = ((P.length + r.length : Nat) : Int) by omega]
          have hstay : ¬ 0 < I_oc w y u → ∀ M4, M4 = g_wi M3 l ((P.length + (r.length + 1) : Nat) : Int) (L_on 2706200 u) → g_InR (((P.length + U1.length : Nat) : Int) + 1) ∧ g_Run (d + 46) 385 5 [(0, .ref m), (1, g_n P.length), (2, g_n ((P.length + U.length : Nat) : Int)), (3, g_n v3), (4, g_n (((P.length + U1.length : Nat) : Int) + 1))] [] M4 (g_qV Q) := by
            intro hneg M4 e4
            rw [if_neg hneg] at he
            exact hput (y :: r) Bm v M3 f3 S3 (by rw [← he]; simp) M4 e4
          refine s_X12_arrange_24 ⟨by omega, by omega⟩ ⟨by omega, by omega⟩ hv3R ⟨by omega, by omega⟩ huR ⟨by omega, by omega⟩ fun _ => ⟨fun _ => ⟨fun g => ⟨S3.1.1, l, S3.2.1, ⟨by omega, by omega⟩, 80000, S3.2.2.1, ⟨by omega, by omega⟩, ?_⟩, fun g => ⟨S3.1.1, l, S3.2.1, ⟨by omega, by omega⟩, 80000, S3.2.2.1, ⟨by omega, by omega⟩, ?_⟩⟩, fun z => absurd (by omega) z⟩
          · have hw1' : w = 1 := by
              rcases hw with z | z
              · exact z
              · rw [hv3, if_pos z] at g
                exact absurd g (by decide)
            have hoc : I_oc w y u = I_oc 1 y u := by rw [hw1']
            rw [hgy]
            refine e_cmpOn (d := d + 1) S3.1 S3.2.2.2.2.2.1 hno hyO hu fun rr hrr => ?_
            intro _ _ _
            refine ⟨fun g2 => h73 (by rw [hoc]; exact hrr.sgn.2.mp g2), fun g2 => ⟨l, S3.2.1, 80000, S3.2.2.1, ⟨by omega, by omega⟩, fun M29 e29 _ => hstay (by rw [hoc]; exact fun z => g2 (hrr.sgn.2.mpr z)) M29 e29⟩⟩
          · have hw1' : w = -1 := by
              rcases hw with z | z
              · rw [hv3, z, if_neg (by decide)] at g
                exact absurd rfl g
              · exact z
            have hoc : I_oc w y u = - I_oc 1 y u := by
              rw [hw1, hw1']
              omega
            rw [hgy]
            refine e_cmpOn (d := d + 1) S3.1 S3.2.2.2.2.2.1 hno hyO hu fun rr hrr => ?_
            intro _ _ _
            refine ⟨fun g2 => h73 (by have := hrr.sgn.1.mp g2; omega), fun g2 => ⟨l, S3.2.1, 80000, S3.2.2.1, ⟨by omega, by omega⟩, fun M29 e29 _ => hstay (fun z => g2 (hrr.sgn.1.mpr (by omega))) M29 e29⟩⟩
      have h9 := h24 (I_rv (I_oc w) U1) [] (L_on 2706200 u) M2 f2 (by simpa [I_ar] using S2) (by rw [I_rv_len]; rfl) (fun y hy => hU y (by rw [hUe]; exact List.mem_append_left _ (I_rv_mem hy))) (by
        unfold I_ar
        rw [I_rv_app, List.append_nil])
      rwa [I_rv_len] at h9
  refine m_X12_arrange ⟨by omega, by omega⟩ ⟨by omega, by omega⟩ hv3R fun _ => ⟨⟨by omega, by omega⟩, ?_⟩
  rcases U with _ | ⟨u0, U⟩
  · refine s_X12_arrange_5 ⟨by omega, by omega⟩ ⟨by rw [List.length_nil]; omega, by rw [List.length_nil]; omega⟩ hv3R ⟨by omega, by omega⟩ fun _ => ⟨fun z => absurd z (by rw [List.length_nil]; omega), fun _ => h M (e_fr.rf _ _) ?_⟩
    exact hS
  · have h9 := hend U [u0] M rfl (e_fr.rf _ _) (by simpa [I_ar, I_rv, I_ins] using hS)
    rwa [show ((P.length + [u0].length : Nat) : Int) = (P.length : Int) + 1 by rw [List.length_singleton]; omega] at h9
end EAR
