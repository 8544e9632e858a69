/-! STAGES: $sort, the reference: a document's values; the best -/
theorem O_lv_len {es : List b_E} {st : List (List Int)} (hg : X_gd 15 es) (hl : (b_doc es).length ≤ 2000) (h8 : st.length ≤ 8) : (O_lv es st).length ≤ 3301 ∧ L_sf L_ic (O_lv es st) ≤ 10500 := by
  have hgv : b_gv 16 3 (b_doc es) := X_gv (Or.inl rfl) hg (by rw [b_doc_len] at hl; omega) fun z => absurd z (by decide)
  have h1 := (L_v_len 16 (3, [], b_doc es) st).2 rfl
  have h2 := (L_v_W L_ic 16 (3, [], b_doc es) st).2 rfl
  have h3 := L_W_size (m := 11) (c := (L_t st.length).2) (e := (3, [], b_doc es)) (fun w hw => of_decide_eq_true (List.all_eq_true.mp (L_tB ⟨st.length, by omega⟩) w hw)) hgv
  have h4 := L_W_its (m := 10) (c := (L_m st.length).2) (e := (3, [], b_doc es)) (fun w hw => of_decide_eq_true (List.all_eq_true.mp (L_mB ⟨st.length, by omega⟩) w hw)) hgv
  have h5 : (b_el 3 [] (b_doc es)).length = (b_doc es).length + 2 := by rw [b_el_len, List.length_nil]; omega
  change 7 * _ ≤ 11 * (b_el 3 [] (b_doc es)).length at h3
  change 2 * _ + _ ≤ 10 * (b_el 3 [] (b_doc es)).length at h4
  unfold O_lv
  exact ⟨by omega, by omega⟩
theorem L_doc_lv {es : List b_E} {c : Int} {s : List Int} {r : List (List Int)} (hg : X_gd 15 es) : (L_doc 15 (L_at (c + 4) es) (s :: r)).map L_nop = O_lv es (s :: r) := by
  unfold O_lv
  show (match L_find s (L_at (c + 4) es) with
    | none => [none]
    | some z => L_go 15 z.1 z.2 r).map L_nop = (match L_fn s (b_ch (b_doc es)) with
      | none => [none]
      | some z => L_v 15 z r)
  rw [b_ch_doc hg.ok, ← L_find_fn s es (c + 4)]
  rcases L_find s (L_at (c + 4) es) with _ | z
  · rfl
  · exact L_go_v 15 z.1 z.2 r
section EKEY
variable {m b l kr : Nat} {F : Int → Int} {M : g_M} {L : List Int} {Q : Int → g_M → Prop}
theorem L_doc_st {es : List b_E} {c : Int} {st : List (List Int)} (hct : E_ct F c 15 es) : ∀ y, some y ∈ L_doc 15 (L_at (c + 4) es) st → b_st F 2706210 y.1 15 y.2.1 y.2.2.1 y.2.2.2 := by
  intro y hy
  have hts := (hct.tl (B := F) fun _ _ => rfl).2.2.2.1
  rcases st with _ | ⟨s, r⟩
  · exact absurd hy (by simp [L_doc])
  · change some y ∈ (match L_find s (L_at (c + 4) es) with
      | none => [none]
      | some z => L_go 15 z.1 z.2 r) at hy
    rcases hf : L_find s (L_at (c + 4) es) with _ | z
    · rw [hf] at hy
      exact absurd hy (by simp)
    · rw [hf] at hy
      exact (L_go_st 15 (L_at_st hts z (L_find_mem hf).1).1 y hy).1
/-- the values with their items, and where they stand -/
theorem e_keyVals {es : List b_E} {c : Int} {st : List (List Int)} {ls : List (Option (Int × b_E))} (hct : E_ct F c 15 es) (hl : (b_doc es).length ≤ 2000) (hst : st ≠ []) (h8 : st.length ≤ 8) (hls : ls = L_doc 15 (L_at (c + 4) es) st) : ls.length ≤ 3301 ∧ (L_wi ls).length ≤ 14000 ∧ (∀ y ∈ L_wi ls, O_at F 2706210 y) ∧ (if ls = [] then [none] else L_wi ls).map L_nop = O_ke (O_lv es st) := by
  obtain ⟨s, r, rfl⟩ : ∃ s r, st = s :: r := by
    rcases st with _ | ⟨s, r⟩
    · exact absurd rfl hst
    · exact ⟨s, r, rfl⟩
  have hlv : ls.map L_nop = O_lv es (s :: r) := by rw [hls]; exact L_doc_lv hct.2.2.2
  obtain ⟨h1, h2⟩ := O_lv_len (st := s :: r) hct.2.2.2 hl h8
  have h3 : ls.length = (O_lv es (s :: r)).length := by rw [← hlv, List.length_map]
  have h4 := L_its_len ls
  rw [hlv] at h4
  have h5 := L_wi_len ls
  have hsd : ∀ y, some y ∈ ls → b_st F 2706210 y.1 15 y.2.1 y.2.2.1 y.2.2.2 := fun y hy => L_doc_st hct y (by rw [← hls]; exact hy)
  refine ⟨by omega, by omega, fun y hy => ?_, ?_⟩
  · unfold L_wi at hy
    obtain ⟨u, hu, hyu⟩ := List.mem_flatMap.mp hy
    rcases List.mem_cons.mp hyu with hyu | hyu
    · subst hyu
      intro z hz
      subst hz
      exact (hsd z hu).le (by decide)
    · rcases u with _ | u
      · exact absurd hyu (by simp [L_its])
      · have hit : L_its (some u) = if u.2.1 = 4 then (L_ch u.1 u.2).map some else [] := rfl
        rw [hit] at hyu
        split at hyu
        · rename_i hu4
          obtain ⟨x, hx, rfl⟩ := List.mem_map.mp hyu
          obtain ⟨D1, eD, hkids, hkl⟩ := (hsd u hu).kids (Or.inr hu4)
          have hx1 := L_at_st hkids x hx
          intro z hz
          cases hz
          exact hx1.1.le (by omega)
        · exact absurd hyu (by simp)
  · unfold O_ke
    rw [← hlv]
    by_cases h : ls = []
    · subst h
      rfl
    · rw [if_neg h, if_neg fun z => h (List.map_eq_nil_iff.mp z)]
      unfold L_wi
      rw [List.map_flatMap, List.flatMap_map]
      congr 1
      funext y
      show L_nop y :: (L_its y).map L_nop = _
      rw [V_its_L]
theorem e_bestLoop {d D i s n : Nat} {c qx : Int} {x : b_E} {K : List (Option (Int × b_E))} {P : List Int} (hS : E_S m b l F M (P ++ K.map L_opt)) (hx : b_st F 2706210 qx D x.1 x.2.1 x.2.2) (hw : O_w x = 1 ∨ O_w x = -1) (hcR : g_InR c) (hi : i < 200) (hs : s < 4) (hn : n ≤ 4) (hL : L.length ≤ 70000) (hK : ∀ y ∈ K, O_at F 2706210 y) (h34 : g_r M m 34 = some kr) (hkr : g_A M kr 1 800) (hlk : l ≠ kr) (hLP : ∃ T, P = L ++ T) (hq : ∀ M1 y, e_fr (fun z k => E_lf m l z k ∨ (z = kr ∧ k = 4 * i + s)) M M1 → E_S m b l F M1 L → O_pl (O_w x) K y → g_i M1 kr (4 * (i : Int) + s) = L_opt y → g_Run (d + 46) 356 19 [(0, .ref m), (1, g_n c), (2, g_n n), (3, g_n i), (4, g_n ((s : Int) + 1))] [] M1 (g_qI Q)) : ∀ (K2 K1 : List (Option (Int × b_E))) (v : Option (Int × b_E)) (v7 : Int), K = K1 ++ K2 → g_InR v7 → O_pl (O_w x) K1 v → g_Run (d + 46) 356 91 [(0, .ref m), (1, g_n c), (2, g_n n), (3, g_n i), (4, g_n s), (5, g_n qx), (6, g_n L.length), (7, g_n v7), (8, g_n (L_opt v)), (9, g_n ((P.length + K1.length : Nat) : Int))] [] M (g_qI Q) := by
  have hqxR := hx.R (by decide)
  have h10 : g_i M m 10 = ((P.length + K.length : Nat) : Int) := by rw [hS.2.2.2.1, List.length_append, List.length_map]
  have hl80 := hS.2.2.2.2.2.2
  rw [List.length_append, List.length_map] at hl80
  have hxM : b_st (g_i M b) 2706210 qx D x.1 x.2.1 x.2.2 := by rw [hS.2.2.2.2.2.1]; exact hx
  have hxk : x.1 = 16 ∨ x.1 = 18 := Classical.byContradiction fun z => by
    unfold O_w at hw
    rw [if_neg z] at hw
    omega
  have hxw : O_w x = (v_num x.1 x.2.2).toInt := by
    unfold O_w
    rw [if_pos hxk]
  intro K2
  induction K2 with
  | nil =>
    intro K1 v v7 h2 hv7 hv
    rw [List.append_nil] at h2
    subst h2
    have hvR := (hK v hv.1).R (by decide)
    refine s_X12_sort_91 hcR ⟨by omega, by omega⟩ ⟨by omega, by omega⟩ ⟨by omega, by omega⟩ hqxR ⟨by omega, by omega⟩ hv7 hvR ⟨by omega, by omega⟩ fun _ => ⟨hS.1.1, fun z => absurd z (by omega), fun _ => fun M2 e2 _ => ?_⟩
    have hne := hS.ne
    have hmk : m ≠ kr := g_neOA hS.1.1 hkr
    have hbk : b ≠ kr := g_neAA hS.1.2.2 hkr (by omega)
    obtain ⟨T, hT⟩ := hLP
    have hS2 : E_S m b l F (g_wi M m 10 L.length) L ∧ e_fr (E_lf m l) M (g_wi M m 10 L.length) := by
      refine E_S.cut (L1 := T ++ K.map L_opt) ?_
      rw [← List.append_assoc, ← hT]
      exact hS
    rw [← e2] at hS2
    have hkr2 : g_A M2 kr 1 800 := hS2.2.A hkr
    refine ⟨kr, by rw [hS2.2.2.2]; exact h34, ⟨by omega, by omega⟩, ⟨by omega, by omega⟩, _, hkr2, ⟨by omega, by omega⟩, fun M13 e13 _ => ⟨⟨by omega, by omega⟩, ?_⟩⟩
    refine hq M13 v ((hS2.2.up fun _ _ z => Or.inl z).tr (by subst e13; exact e_fr.wi _ (Or.inr ⟨rfl, rfl⟩))) ?_ hv (by subst e13; rw [g_i_wi, if_pos ⟨rfl, rfl⟩])
    obtain ⟨a1, a2, a3, a4, a5, a6, a7⟩ := hS2.1
    have f13 : e_fr (fun z (k : Int) => z = kr) M2 M13 := by subst e13; exact e_fr.wi _ rfl
    exact ⟨f13.R a1, by rw [f13.2.2]; exact a2, f13.A a3, by rw [f13.2.1 m 10 hmk]; exact a4, b_at_keep a5 fun k _ _ => f13.2.1 l k hlk, by rw [← a6]; exact funext fun k => f13.2.1 b k hbk, a7⟩
  | cons y K2 ih =>
    intro K1 v v7 h2 hv7 hv
    have hlen := congrArg List.length h2
    rw [List.length_append, List.length_cons] at hlen
    have hv1 := hK v (by rw [h2]; exact List.mem_append_left _ hv.1)
    have hy1 := hK y (by rw [h2]; simp)
    have hvR := hv1.R (by decide)
    have hget : (P ++ K.map L_opt)[P.length + K1.length]? = some (L_opt y) := by
      rw [List.getElem?_append_right (by omega), show P.length + K1.length - P.length = K1.length by omega, h2, List.map_append, List.getElem?_append_right (by rw [List.length_map]; omega), List.length_map, Nat.sub_self]
      rfl
    have hyl := (hS.get hget).1
    have hs1 : (((P.length + K1.length : Nat) : Int) + 1) = ((P.length + (K1 ++ [y]).length : Nat) : Int) := by rw [List.length_append, List.length_singleton]; omega
    have h9 := hv.add (y := y) hw
    refine s_X12_sort_91 hcR ⟨by omega, by omega⟩ ⟨by omega, by omega⟩ ⟨by omega, by omega⟩ hqxR ⟨by omega, by omega⟩ hv7 hvR ⟨by omega, by omega⟩ fun _ => ⟨hS.1.1, fun _ => ⟨l, hS.2.1, _, hS.2.2.1, ⟨by omega, by omega⟩, ?_⟩, fun z => absurd (by omega) z⟩
    rw [hyl]
    refine e_cmpO (d := d + 1) hS.1 (by rw [hS.2.2.2.2.2.1]; exact hy1) (by rw [hS.2.2.2.2.2.1]; exact hv1) fun o ho => ?_
    intro _ _ _
    obtain ⟨o1, o2⟩ := ho.sgn
    refine e_num (d := d + 42) hS.1 hxM hxk ?_
    intro _ _
    have hgt := u_gt (v_num x.1 x.2.2) 0
    have h0 : (0 : Int64).toInt = 0 := by decide
    rw [h0, ← hxw] at hgt
    have hyes : O_w x * v_oc (L_nop y) (L_nop v) < 0 → g_InR (((P.length + K1.length : Nat) : Int) + 1) ∧ g_Run (d + 46) 356 91 [(0, .ref m), (1, g_n c), (2, g_n n), (3, g_n i), (4, g_n s), (5, g_n qx), (6, g_n L.length), (7, g_n v7), (8, g_n (L_opt y)), (9, g_n (((P.length + K1.length : Nat) : Int) + 1))] [] M (g_qI Q) := fun g => by
      rw [if_pos g] at h9
      refine ⟨⟨by omega, by omega⟩, ?_⟩
      rw [hs1]
      exact ih (K1 ++ [y]) y v7 (by rw [h2]; simp) hv7 h9
    have hno : ¬ O_w x * v_oc (L_nop y) (L_nop v) < 0 → g_InR (((P.length + K1.length : Nat) : Int) + 1) ∧ g_Run (d + 46) 356 91 [(0, .ref m), (1, g_n c), (2, g_n n), (3, g_n i), (4, g_n s), (5, g_n qx), (6, g_n L.length), (7, g_n v7), (8, g_n (L_opt v)), (9, g_n (((P.length + K1.length : Nat) : Int) + 1))] [] M (g_qI Q) := fun g => by
      rw [if_neg g] at h9
      refine ⟨⟨by omega, by omega⟩, ?_⟩
      rw [hs1]
      exact ih (K1 ++ [y]) v v7 (by rw [h2]; simp) hv7 h9
    refine ⟨fun gw => ⟨fun go => ⟨l, hS.2.1, _, hS.2.2.1, ⟨by omega, by omega⟩, ?_⟩, fun go => hno ?_⟩, fun gw => ⟨fun go => ⟨l, hS.2.1, _, hS.2.2.1, ⟨by omega, by omega⟩, ?_⟩, fun go => hno ?_⟩⟩
    · rw [hyl]
      refine hyes ?_
      have : O_w x = 1 := by omega
      rw [this]
      omega
    · have : O_w x = 1 := by omega
      rw [this]
      omega
    · rw [hyl]
      refine hyes ?_
      have : O_w x = -1 := by omega
      rw [this]
      omega
    · have : O_w x = -1 := by omega
      rw [this]
      omega
end EKEY
