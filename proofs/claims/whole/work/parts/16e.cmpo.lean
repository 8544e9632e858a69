/-! THE ORDER OF VALUES, NOTHING AT ALL being the least -/
noncomputable def v_oc (x y : Option b_E) : Int := v_lex (fun a b : b_E => v_vc 61 (a.1, a.2.2) (b.1, b.2.2)) x.toList y.toList
theorem v_oc_T : v_T v_oc := ((v_vc_T 61).pb fun a : b_E => (a.1, a.2.2)).lex.pb Option.toList
theorem v_oc_ss (x y : b_E) : v_oc (some x) (some y) = v_cmp 61 x.1 x.2.2 y.1 y.2.2 := by
  show (if v_cmp 61 x.1 x.2.2 y.1 y.2.2 = 0 then (0 : Int) else v_cmp 61 x.1 x.2.2 y.1 y.2.2) = _
  split
  · rename_i h
    exact h.symm
  · rfl
def O_at (B : Int → Int) (n : Int) (y : Option (Int × b_E)) : Prop := ∀ z, y = some z → b_st B n z.1 20 z.2.1 z.2.2.1 z.2.2.2
theorem O_at.R {B : Int → Int} {n : Int} {y : Option (Int × b_E)} (h : O_at B n y) (hn : n ≤ 1000000000) : g_InR (L_opt y) := by
  rcases y with _ | z
  · exact ⟨by decide, by decide⟩
  · exact (h z rfl).R hn
section CMPO
variable {d m b : Nat} {n : Int} {M : g_M} {Q : Int → g_M → Prop} {x y : Option (Int × b_E)}
theorem c_cmpO (hA : g_A M b 0 n) (hn : n ≤ 1000000000) (hx : O_at (g_i M b) n x) (hy : O_at (g_i M b) n y) (hl : ∀ z, x = some z → z.2.2.2.length ≤ 199000) (h : Q (v_oc (L_nop x) (L_nop y)) M) : g_Call (d + 44) 121 [.ref b, g_n (L_opt x), .ref b, g_n (L_opt y), g_n 0] M (g_qI Q) := by
  have hn0 := hA.len
  have hclN : ∀ {Q1 : Int → g_M → Prop}, Q1 0 M → g_Call (d + 43) 120 [.ref b, g_n (-1)] M (g_qI Q1) := fun hq => c_classOf (d := d + 42) hA ⟨by omega, by omega⟩ ⟨by decide, by decide⟩ (by rw [if_pos (by decide)]; exact hq)
  rcases x with _ | z
  · rcases y with _ | w
    · refine m_X7_compare ⟨by decide, by decide⟩ ⟨by decide, by decide⟩ ⟨by decide, by decide⟩ fun _ => hclN ?_
      intro _ _ _
      refine hclN ?_
      intro _ _ _
      exact ⟨fun _ => ⟨fun _ => h, fun g => absurd (by decide) g⟩, fun g => absurd rfl g⟩
    · have hcl := b_cl_R w.2.1
      refine m_X7_compare ⟨by decide, by decide⟩ (hy.R hn) ⟨by decide, by decide⟩ fun _ => hclN ?_
      intro _ _ _
      refine c_cl2 (d := d + 42) hA hn (hy w rfl) ?_
      intro _ _ _
      refine ⟨fun g => absurd g (by omega), fun _ => c_cl2 (d := d + 42) hA hn (hy w rfl) ?_⟩
      intro _ _ _
      exact ⟨fun _ => h, fun g => absurd (by omega) g⟩
  · rcases y with _ | w
    · have hcl := b_cl_R z.2.1
      refine m_X7_compare (hx.R hn) ⟨by decide, by decide⟩ ⟨by decide, by decide⟩ fun _ => c_cl2 (d := d + 42) hA hn (hx z rfl) ?_
      intro _ _ _
      refine hclN ?_
      intro _ _ _
      refine ⟨fun g => absurd g (by omega), fun _ => hclN ?_⟩
      intro _ _ _
      exact ⟨fun g => absurd g (by omega), fun _ => h⟩
    · exact c_compare 20 (F := 60) (d := d) hA hA hn hn (hl z rfl) (hx z rfl) (hy w rfl) (by decide) (by decide) (by decide) (by rwa [← v_oc_ss])
theorem e_cmpO (hR : e_R M m b) (hx : O_at (g_i M b) 2706210 x) (hy : O_at (g_i M b) 2706210 y) (h : ∀ r, v_ok r (v_oc (L_nop x) (L_nop y)) → Q r M) : g_Call (d + 45) 269 [.ref m, g_n (L_opt x), g_n (L_opt y)] M (g_qI Q) := by
  have hclN : ∀ {Q1 : Int → g_M → Prop}, Q1 0 M → g_Call (d + 44) 267 [.ref m, g_n (-1)] M (g_qI Q1) := fun hq => m_X12_classOf ⟨by decide, by decide⟩ fun _ => ⟨fun _ => hq, fun g => absurd rfl g⟩
  rcases x with _ | z
  · rcases y with _ | w
    · refine m_X12_compare ⟨by decide, by decide⟩ ⟨by decide, by decide⟩ fun _ => ⟨hR.1, hclN ?_⟩
      intro _ _ _
      refine hclN ?_
      intro _ _ _
      exact ⟨fun _ => ⟨fun _ => h 0 ⟨by decide, by decide, by decide⟩, fun g => absurd (by decide) g⟩, fun g => absurd rfl g⟩
    · have hcl := b_cl_R w.2.1
      refine m_X12_compare ⟨by decide, by decide⟩ (hy.R (by decide)) fun _ => ⟨hR.1, hclN ?_⟩
      intro _ _ _
      refine e_cl2 (d := d + 43) hR (hy w rfl) ?_
      intro _ _ _
      refine ⟨fun g => absurd g (by omega), fun _ => e_cl2 (d := d + 43) hR (hy w rfl) ?_⟩
      intro _ _ _
      refine ⟨⟨by omega, by omega⟩, h _ ⟨?_, by omega, by omega⟩⟩
      show v_sg (0 - b_cl w.2.1) = -1
      unfold v_sg
      rw [if_pos (by omega)]
  · rcases y with _ | w
    · have hcl := b_cl_R z.2.1
      refine m_X12_compare (hx.R (by decide)) ⟨by decide, by decide⟩ fun _ => ⟨hR.1, e_cl2 (d := d + 43) hR (hx z rfl) ?_⟩
      intro _ _ _
      refine hclN ?_
      intro _ _ _
      refine ⟨fun g => absurd g (by omega), fun _ => hclN ?_⟩
      intro _ _ _
      refine ⟨⟨by omega, by omega⟩, h _ ⟨?_, by omega, by omega⟩⟩
      show v_sg (b_cl z.2.1 - 0) = 1
      unfold v_sg
      rw [if_neg (by omega)]
      first
        | rw [if_pos (by omega)]
        | rw [if_neg (by omega)]
    · exact e_compare hR 20 (F := 60) (d := d) (hx z rfl) (hy w rfl) (by decide) fun r hr => h r (by rw [← v_oc_ss] at hr; exact hr)
end CMPO
/-! the best of some values -/
def O_bst (w : Int) (K : List (Option b_E)) (v : Option b_E) : Prop := v ∈ K ∧ ∀ y ∈ K, w * v_oc v y ≤ 0
theorem O_bst.eq {w : Int} {K K2 : List (Option b_E)} {v v2 : Option b_E} (hw : w = 1 ∨ w = -1) (h : O_bst w K v) (h2 : O_bst w K2 v2) (hK : ∀ y, y ∈ K ↔ y ∈ K2) : v_oc v v2 = 0 := by
  have a1 := h.2 v2 ((hK v2).mpr h2.1)
  have a2 := h2.2 v ((hK v).mp h.1)
  have a3 := v_oc_T.s v v2
  rcases hw with rfl | rfl <;> omega
/-- one more -/
theorem O_bst.add {w : Int} {K : List (Option b_E)} {v y : Option b_E} (hw : w = 1 ∨ w = -1) (h : O_bst w K v) : O_bst w (K ++ [y]) (if w * v_oc y v < 0 then y else v) := by
  have a3 := v_oc_T.s y v
  split
  · rename_i g
    refine ⟨by simp, fun u hu => ?_⟩
    rcases List.mem_append.mp hu with hu | hu
    · have a1 := h.2 u hu
      rcases hw with rfl | rfl
      · have := v_oc_T.t y v u (by omega) (by omega)
        omega
      · have := v_oc_T.t u v y (by have := v_oc_T.s v u; omega) (by omega)
        have := v_oc_T.s y u
        omega
    · rw [List.mem_singleton.mp hu, v_oc_T.rf]
      omega
  · rename_i g
    refine ⟨List.mem_append_left _ h.1, fun u hu => ?_⟩
    rcases List.mem_append.mp hu with hu | hu
    · exact h.2 u hu
    · rw [List.mem_singleton.mp hu]
      rcases hw with rfl | rfl <;> omega
theorem O_bst.one (w : Int) (v : Option b_E) : O_bst w [v] v := ⟨List.mem_singleton.mpr rfl, fun y hy => by rw [List.mem_singleton.mp hy, v_oc_T.rf]; omega⟩
/-- the values of a path in a document, with their items -/
noncomputable def V_its : Option b_E → List (Option b_E)
  | none => []
  | some e => if e.1 = 4 then (b_ch e.2.2).map some else []
theorem V_its_L (y : Option (Int × b_E)) : (L_its y).map L_nop = V_its (L_nop y) := by
  rcases y with _ | z
  · rfl
  · show (if z.2.1 = 4 then (L_ch z.1 z.2).map some else []).map L_nop = if z.2.1 = 4 then (b_ch z.2.2.2).map some else []
    split
    · rw [List.map_map, show L_nop ∘ some = some ∘ (Prod.snd : Int × b_E → b_E) from rfl, ← List.map_map]
      congr 1
      have : ∀ (es : List b_E) (q : Int), (L_at q es).map Prod.snd = es := by
        intro es
        induction es with
        | nil => exact fun _ => rfl
        | cons e es ih => exact fun q => congrArg (e :: ·) (ih _)
      exact this _ _
    · rfl
noncomputable def O_ks (l : List (Option b_E)) : List (Option b_E) := (if l = [] then [none] else l) ++ l.flatMap V_its
noncomputable def O_ke (l : List (Option b_E)) : List (Option b_E) := if l = [] then [none] else l.flatMap fun y => y :: V_its y
theorem O_ke_mem (l : List (Option b_E)) (y : Option b_E) : y ∈ O_ks l ↔ y ∈ O_ke l := by
  unfold O_ks O_ke
  by_cases h : l = []
  · subst h
    simp
  · rw [if_neg h, if_neg h, List.mem_append, List.mem_flatMap, List.mem_flatMap]
    constructor
    · rintro (g | ⟨u, g1, g2⟩)
      · exact ⟨y, g, List.mem_cons_self⟩
      · exact ⟨u, g1, List.mem_cons_of_mem _ g2⟩
    · rintro ⟨u, g1, g2⟩
      rcases List.mem_cons.mp g2 with g2 | g2
      · exact Or.inl (g2 ▸ g1)
      · exact Or.inr ⟨u, g1, g2⟩
