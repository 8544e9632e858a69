/-! INDEX, THE REFERENCE: the different keys of a document at a path -/
def E_lk (m l : Nat) (y : Nat) (k : Int) : Prop := y = l ∨ (y = m ∧ (k = 10 ∨ k = 40))
theorem E_lf.lk {m l y : Nat} {k : Int} (h : E_lf m l y k) : E_lk m l y k := by
  rcases h with h | h
  · exact Or.inl h
  · exact Or.inr ⟨h.1, Or.inl h.2⟩
noncomputable def I_ad (U : List (Option (Int × b_E))) (y : Option (Int × b_E)) : List (Option (Int × b_E)) := if I_has (I_oc 1) y U = true then U else U ++ [y]
theorem I_un_app (l : List (Option (Int × b_E))) (y : Option (Int × b_E)) : I_un (I_oc 1) (l ++ [y]) = I_ad (I_un (I_oc 1) l) y := by
  unfold I_un
  rw [List.foldl_append]
  rfl
theorem I_ad_len (U : List (Option (Int × b_E))) (y : Option (Int × b_E)) : (I_ad U y).length ≤ U.length + 1 := by
  unfold I_ad
  split
  · exact Nat.le_add_right _ _
  · rw [List.length_append, List.length_singleton]
    exact Nat.le_refl _
theorem I_un_len : ∀ l : List (Option (Int × b_E)), (I_un (I_oc 1) l).length ≤ l.length := by
  intro l
  have h : ∀ (l U : List (Option (Int × b_E))), (l.foldl (fun u x => if I_has (I_oc 1) x u = true then u else u ++ [x]) U).length ≤ U.length + l.length := by
    intro l
    induction l with
    | nil => exact fun U => Nat.le_refl _
    | cons y l ih =>
      intro U
      have h1 := ih (I_ad U y)
      have h2 := I_ad_len U y
      rw [List.length_cons]
      show (l.foldl _ (I_ad U y)).length ≤ _
      omega
  have := h l []
  rw [List.length_nil, Nat.zero_add] at this
  exact this
theorem I_ad_mem {U : List (Option (Int × b_E))} {y u : Option (Int × b_E)} (h : u ∈ I_ad U y) : u ∈ U ∨ u = y := by
  unfold I_ad at h
  split at h
  · exact Or.inl h
  · rcases List.mem_append.mp h with h | h
    · exact Or.inl h
    · exact Or.inr (List.mem_singleton.mp h)
theorem I_un_mem2 : ∀ {l : List (Option (Int × b_E))} {u : Option (Int × b_E)}, u ∈ I_un (I_oc 1) l → u ∈ l := by
  intro l
  have h : ∀ (l U : List (Option (Int × b_E))) (u : Option (Int × b_E)), u ∈ l.foldl (fun u x => if I_has (I_oc 1) x u = true then u else u ++ [x]) U → u ∈ U ∨ u ∈ l := by
    intro l
    induction l with
    | nil => exact fun U u h => Or.inl h
    | cons y l ih =>
      intro U u h
      rcases ih (I_ad U y) u h with g | g
      · rcases I_ad_mem g with g | g
        · exact Or.inl g
        · exact Or.inr (by rw [g]; exact List.mem_cons_self)
      · exact Or.inr (List.mem_cons_of_mem _ g)
  intro u hu
  rcases h l [] u hu with g | g
  · exact absurd g (by simp)
  · exact g
theorem I_cd_len (y : Option (Int × b_E)) : (I_cd y).length ≤ 1 + (L_its y).length := by
  rcases y with _ | z
  · exact Nat.le_add_right _ _
  · show (if z.2.1 = 4 then (if L_ch z.1 z.2 = [] then [none] else (L_ch z.1 z.2).map some) else [some z] : List (Option (Int × b_E))).length ≤ 1 + (if z.2.1 = 4 then (L_ch z.1 z.2).map some else [] : List (Option (Int × b_E))).length
    split
    · split
      · exact Nat.le_add_right _ _
      · exact Nat.le_add_left _ _
    · exact Nat.le_refl _
theorem I_fm_len : ∀ ls : List (Option (Int × b_E)), (ls.flatMap I_cd).length ≤ (L_wi ls).length := by
  intro ls
  induction ls with
  | nil => exact Nat.le_refl _
  | cons y ls ih =>
    have h1 := I_cd_len y
    have h2 : L_wi (y :: ls) = y :: (L_its y ++ L_wi ls) := rfl
    rw [List.flatMap_cons, List.length_append, h2, List.length_cons, List.length_append]
    omega
theorem I_cs_len (ls : List (Option (Int × b_E))) : (I_cs ls).length ≤ (L_wi ls).length + 1 := by
  unfold I_cs
  split
  · exact Nat.le_add_left _ _
  · exact Nat.le_trans (I_fm_len ls) (Nat.le_succ _)
theorem I_hasN {y : Option (Int × b_E)} {U : List (Option (Int × b_E))} (h : ∀ u ∈ U, I_oc 1 u y ≠ 0) : ¬ I_has (I_oc 1) y U = true := fun z => by
  obtain ⟨u, h1, h2⟩ := I_has_t.mp z
  exact h u h1 h2
section EKY
variable {m b l d : Nat} {F : Int → Int} {M : g_M} {P L : List Int}
theorem e_addKey {Q : g_M → Prop} {U : List (Option (Int × b_E))} {y : Option (Int × b_E)} {tl : Int} (hS : E_S m b l F M (P ++ U.map (L_on 2706200))) (hno : b_at F 2706200 [10, 0]) (hU : ∀ u ∈ U, O_at F 2706210 u) (hy : O_at F 2706210 y) (hl : P.length + U.length < 80000) (ht : tl = 0 ∨ tl = 1) (h40 : g_i M m 40 = tl) (h : ∀ M1, e_fr (E_lk m l) M M1 → E_S m b l F M1 (P ++ (I_ad U y).map (L_on 2706200)) → g_i M1 m 40 = (if 64 < (I_ko y).2.length then 1 else tl) → Q M1) : g_Call (d + 67) 359 [.ref m, g_n P.length, g_n (L_on 2706200 y)] M (g_qV Q) := by
  have hR := hS.1
  have hb := hS.2.2.2.2.2.1
  obtain ⟨n1, n2, n3⟩ := hS.ne
  have hst : ∀ {u : Option (Int × b_E)}, O_at F 2706210 u → b_st F 2706210 (L_on 2706200 u) 20 (J_no 2706200 u).2.1 (J_no 2706200 u).2.2.1 (J_no 2706200 u).2.2.2 := fun {u} h => by
    rcases u with _ | z
    · exact b_st_no hno (by decide) (by decide) 20
    · exact h z rfl
  have hyst := hst hy
  have hyR := hyst.R (by decide)
  have hy4 := hyst.2.2.2.1
  have hy5 := hyst.2.2.2.2
  have hyl := b_el_len (J_no 2706200 y).2.1 (J_no 2706200 y).2.2.1 (J_no 2706200 y).2.2.2
  have hko : (I_ko y).2 = (J_no 2706200 y).2.2.2 := by rcases y with _ | z <;> rfl
  have heq : ∀ u : Option (Int × b_E), F_eq (J_no 2706200 u).2 (J_no 2706200 y).2 = true ↔ I_oc 1 u y = 0 := fun u => by
    have h1 : I_oc 1 u y = v_cmp 61 (J_no 2706200 u).2.1 (J_no 2706200 u).2.2.2 (J_no 2706200 y).2.1 (J_no 2706200 y).2.2.2 := by
      have : I_oc 1 u y = v_vc 61 (I_ko u) (I_ko y) := Int.one_mul _
      rw [this]
      rcases u with _ | u <;> rcases y with _ | y <;> rfl
    rw [h1]
    unfold F_eq
    exact decide_eq_true_iff
  have hlp : ∀ (M1 : g_M), E_S m b l F M1 (P ++ U.map (L_on 2706200)) → e_fr (E_lk m l) M M1 → g_i M1 m 40 = (if 64 < (I_ko y).2.length then 1 else tl) → ∀ (v3 : Int), g_InR v3 → ∀ (U2 U1 : List (Option (Int × b_E))), U = U1 ++ U2 → (∀ u ∈ U1, I_oc 1 u y ≠ 0) → g_Run (d + 66) 359 39 [(0, .ref m), (1, g_n P.length), (2, g_n (L_on 2706200 y)), (3, g_n v3), (4, g_n ((P.length + U1.length : Nat) : Int))] [] M1 (g_qV Q) := by
    intro M1 hS1 f1 t1 v3 hv3 U2
    have h10 := hS1.2.2.2.1
    rw [List.length_append, List.length_map] at h10
    induction U2 with
    | nil =>
      intro U1 hUe hn
      rw [List.append_nil] at hUe
      subst hUe
      refine s_X12_addKey_39 ⟨by omega, by omega⟩ hyR hv3 ⟨by omega, by omega⟩ fun _ => ⟨hS1.1.1, fun g => absurd g (by omega), fun _ => e_addL (d := d + 65) hS1 (by rw [List.length_append, List.length_map]; omega) hyR fun M2 f2 hS2 => ?_⟩
      intro _ _
      have hnh := I_hasN hn
      refine h M2 (f1.tr (f2.up fun _ _ z => z.lk)) ?_ ?_
      · unfold I_ad
        rw [if_neg hnh, List.map_append, ← List.append_assoc]
        exact hS2
      · rw [f2.2.1 m 40 fun z => ?_]
        · exact t1
        · rcases z with z | z
          · exact n2 z.symm
          · exact absurd z.2 (by decide)
    | cons u U2 ih =>
      intro U1 hUe hn
      have hlen := congrArg List.length hUe
      rw [List.length_append, List.length_cons] at hlen
      have hget : g_i M1 l ((P.length + U1.length : Nat) : Int) = L_on 2706200 u := (hS1.get (by
        rw [List.getElem?_append_right (by omega), show P.length + U1.length - P.length = U1.length by omega, hUe, List.map_append, List.getElem?_append_right (by rw [List.length_map]; omega), List.length_map, Nat.sub_self]
        rfl)).1
      have hust := hst (hU u (by rw [hUe]; simp))
      refine s_X12_addKey_39 ⟨by omega, by omega⟩ hyR hv3 ⟨by omega, by omega⟩ fun _ => ⟨hS1.1.1, fun _ => ⟨l, hS1.2.1, 80000, hS1.2.2.1, ⟨by omega, by omega⟩, ?_⟩, fun g => absurd (by omega) g⟩
      rw [hget]
      refine e_isSame30 (d := d) (x := (J_no 2706200 u).2) (v := (J_no 2706200 y).2) hS1.1 (by rw [hS1.2.2.2.2.2.1]; exact hust) (by decide) (by rw [hS1.2.2.2.2.2.1]; exact hyst) ?_
      intro _ _ _
      refine ⟨fun g => ⟨⟨by omega, by omega⟩, ?_⟩, fun g => ?_⟩
      · have hne : I_oc 1 u y ≠ 0 := fun z => by
          rw [if_pos ((heq u).mpr z)] at g
          exact absurd g (by decide)
        have h9 := ih (U1 ++ [u]) (by rw [hUe]; simp) fun w hw => by
          rcases List.mem_append.mp hw with hw | hw
          · exact hn w hw
          · rw [List.mem_singleton.mp hw]
            exact hne
        rwa [show ((P.length + (U1 ++ [u]).length : Nat) : Int) = ((P.length + U1.length : Nat) : Int) + 1 by rw [List.length_append, List.length_singleton]; omega] at h9
      · have hes : I_oc 1 u y = 0 := by
          refine (heq u).mp ?_
          by_cases z : F_eq (J_no 2706200 u).2 (J_no 2706200 y).2 = true
          · exact z
          · rw [if_neg z] at g
            exact absurd rfl g
        have hh : I_has (I_oc 1) y U = true := I_has_t.mpr ⟨u, by rw [hUe]; simp, hes⟩
        refine h M1 f1 ?_ t1
        unfold I_ad
        rw [if_pos hh]
        exact hS1
  have hbM : b_st (g_i M b) 2706210 (L_on 2706200 y) 20 (J_no 2706200 y).2.1 (J_no 2706200 y).2.2.1 (J_no 2706200 y).2.2.2 := by rw [hb]; exact hyst
  obtain ⟨v1, v2, v3, v4⟩ := hbM.val
  refine m_X12_addKey ⟨by omega, by omega⟩ hyR fun _ => ⟨hR.1, e_vl2 (d := d + 64) hR hbM ?_⟩
  intro _ _ _
  refine ⟨b, hR.2.1, 2706210, hR.2.2, ⟨by omega, by omega⟩, ?_⟩
  rw [v4]
  refine e_lengthOf (d := d + 63) hR (b_gv_vs hyst.2.2.1) v1 (by omega) (by omega) ?_
  intro _ _ _
  rw [h40]
  have hor0 : g_or tl 0 = tl := by rcases ht with g | g <;> rw [g] <;> decide +kernel
  have hor1 : g_or tl 1 = 1 := by rcases ht with g | g <;> rw [g] <;> decide +kernel
  have hset : ∀ (M2 : g_M) (v : Int), M2 = g_wi M m 40 v → E_S m b l F M2 (P ++ U.map (L_on 2706200)) ∧ e_fr (E_lk m l) M M2 := by
    intro M2 v e2
    obtain ⟨a1, a2, a3, a4, a5, a6, a7⟩ := hS
    have f2 : e_fr (E_lk m l) M M2 := by
      rw [e2]
      exact e_fr.wi v (Or.inr ⟨rfl, Or.inr rfl⟩)
    refine ⟨⟨f2.R a1, by rw [f2.2.2]; exact a2, f2.A a3, ?_, b_at_keep a5 fun q _ _ => ?_, ?_, a7⟩, f2⟩
    · rw [e2, g_i_wi, if_neg (fun z => absurd z.2 (by decide))]
      exact a4
    · rw [e2, g_i_wi, if_neg (fun z => n2 z.1)]
    · rw [← a6]
      funext q
      rw [e2, g_i_wi, if_neg (fun z => n3 z.1.symm)]
  refine ⟨fun g => ?_, fun g => ?_⟩
  · rw [hor1]
    refine ⟨Or.inr rfl, fun M2 e2 _ => ?_⟩
    obtain ⟨hS2, f2⟩ := hset M2 1 e2
    exact hlp M2 hS2 f2 (by rw [e2, g_i_wi, if_pos ⟨rfl, rfl⟩, hko, if_pos (by omega)]) _ ⟨by omega, by omega⟩ U [] rfl (fun _ z => absurd z (by simp))
  · rw [hor0]
    refine ⟨ht, fun M2 e2 _ => ?_⟩
    obtain ⟨hS2, f2⟩ := hset M2 tl e2
    exact hlp M2 hS2 f2 (by rw [e2, g_i_wi, if_pos ⟨rfl, rfl⟩, hko, if_neg (by omega)]) _ ⟨by omega, by omega⟩ U [] rfl (fun _ z => absurd z (by simp))
end EKY
