/-! STAGES: $sort, the class: a document's key -/
/-- what is best of the places -/
def O_pl (w : Int) (K : List (Option (Int × b_E))) (y : Option (Int × b_E)) : Prop := y ∈ K ∧ O_bst w (K.map L_nop) (L_nop y)
theorem O_pl.add {w : Int} {K : List (Option (Int × b_E))} {v y : Option (Int × b_E)} (hw : w = 1 ∨ w = -1) (h : O_pl w K v) : O_pl w (K ++ [y]) (if w * v_oc (L_nop y) (L_nop v) < 0 then y else v) := by
  have h9 := h.2.add (y := L_nop y) hw
  refine ⟨?_, ?_⟩
  · split
    · simp
    · exact List.mem_append_left _ h.1
  · rw [List.map_append, List.map_cons, List.map_nil]
    split
    · rename_i g
      rwa [if_pos g] at h9
    · rename_i g
      rwa [if_neg g] at h9
noncomputable def O_lv (es : List b_E) (st : List (List Int)) : List (Option b_E) := L_v 16 (3, [], b_doc es) st
section SKEY
variable {so r b po pf pt : Nat} {c e : Int} {L : List Int} {M : g_M}
/-- the class compares and takes the best -/
theorem c_bestLoop {d : Nat} {Q : Int → g_M → Prop} {dp w : Int} {K : List (Option (Int × b_E))} (hso : g_O M so 9) (h0 : g_r M so 0 = some r) (h1 : g_r M so 1 = some b) (hA : g_A M b 0 246408) (hdpR : g_InR dp) (hw : w = 1 ∨ w = -1) (hP : k_P M r b c e (L ++ K.map L_opt)) (hK : ∀ y ∈ K, O_at (g_i M b) 246408 y ∧ ∀ z, y = some z → z.2.2.2.length ≤ 199000) (hl : L.length + K.length ≤ 32768) (hq : ∀ M1 y, k_F k_0 r M M1 → k_P M1 r b c e L → O_pl w K y → Q (L_opt y) M1) : ∀ (K2 K1 : List (Option (Int × b_E))) (v : Option (Int × b_E)), K = K1 ++ K2 → O_pl w K1 v → g_Run (d + 46) 164 46 [(0, .ref so), (1, g_n dp), (2, g_n w), (3, g_n L.length), (4, g_n (L_opt v)), (5, g_n ((L.length + K1.length : Nat) : Int))] [] M (g_qI Q) := by
  have hwR : g_InR w := ⟨by omega, by omega⟩
  have htop := hP.top
  rw [List.length_append, List.length_map] at htop
  intro K2
  induction K2 with
  | nil =>
    intro K1 v h2 hv
    rw [List.append_nil] at h2
    subst h2
    have hvR := (hK v hv.1).1.R (by decide)
    refine s_X9_sortKey_46 hdpR hwR ⟨by omega, by omega⟩ hvR ⟨by omega, by omega⟩ fun _ => ⟨hso, r, h0, hP.1, fun g => absurd g (by omega), fun _ => ⟨r, h0, hP.1, fun M8 e8 _ => ?_⟩⟩
    subst e8
    obtain ⟨o1, o2, a, n, o3, o4, o5, o6, o7, o8, o9, o10⟩ := hP
    have hne : r ≠ a := g_neOA o1 o4
    rw [List.length_append] at o6
    refine hq _ v ⟨g_extW rfl, Nat.le_refl _, fun _ h => Or.inl h, fun k hk => ?_, fun _ _ => rfl, fun q _ hx _ _ => ⟨funext fun j => ?_, rfl⟩⟩ ⟨o1, o2, a, n, o3, o4, ?_, by omega, o7, o8, o9, ?_⟩ hv
    · rw [g_i_wi, if_neg (fun z => hk z.2)]
    · rw [g_i_wi, if_neg (fun z => hx z.1)]
    · rw [g_i_wi, if_pos ⟨rfl, rfl⟩]
    · exact b_at_keep (b_app.mp o10).1 fun k _ _ => by rw [g_i_wi, if_neg (fun z => hne z.1.symm)]
  | cons y K2 ih =>
    intro K1 v h2 hv
    have hlen := congrArg List.length h2
    rw [List.length_append, List.length_cons] at hlen
    obtain ⟨hv1, hv2⟩ := hK v (by rw [h2]; exact List.mem_append_left _ hv.1)
    obtain ⟨hy1, hy2⟩ := hK y (by rw [h2]; simp)
    have hvR := hv1.R (by decide)
    have hyR := hy1.R (by decide)
    have hget : (L ++ K.map L_opt)[L.length + K1.length]? = some (L_opt y) := by
      rw [List.getElem?_append_right (by omega), show L.length + K1.length - L.length = K1.length by omega, h2, List.map_append, List.getElem?_append_right (by rw [List.length_map]; omega), List.length_map, Nat.sub_self]
      rfl
    have hs : (((L.length + K1.length : Nat) : Int) + 1) = ((L.length + (K1 ++ [y]).length : Nat) : Int) := by rw [List.length_append, List.length_singleton]; omega
    have h9 := hv.add (y := y) hw
    refine s_X9_sortKey_46 hdpR hwR ⟨by omega, by omega⟩ hvR ⟨by omega, by omega⟩ fun _ => ⟨hso, r, h0, hP.1, fun _ => ⟨b, h1, r, h0, hP.1, c_leaf (d := d + 45) hP hget ?_⟩, fun g => absurd (by omega) g⟩
    intro _ _ _
    refine ⟨b, h1, c_cmpO (d := d + 2) hA (by decide) hy1 hv1 hy2 ?_⟩
    intro _ _ _
    have hr := v_oc_T.r (L_nop y) (L_nop v)
    have hcm : v_oc (L_nop y) (L_nop v) * w = w * v_oc (L_nop y) (L_nop v) := Int.mul_comm _ _
    refine ⟨by rcases hr with g | g | g <;> rcases hw with k | k <;> rw [g, k] <;> exact ⟨by decide, by decide⟩, fun g => ?_, fun g => ?_⟩
    · rw [hcm] at g
      rw [if_pos g] at h9
      refine ⟨r, h0, hP.1, c_leaf (d := d + 45) hP hget ?_⟩
      intro _ _ _
      refine ⟨⟨by omega, by omega⟩, ?_⟩
      rw [hs]
      exact ih (K1 ++ [y]) y (by rw [h2]; simp) h9
    · rw [hcm] at g
      rw [if_neg g] at h9
      refine ⟨⟨by omega, by omega⟩, ?_⟩
      rw [hs]
      exact ih (K1 ++ [y]) v (by rw [h2]; simp) h9
theorem c_sortKey {d : Nat} {Q : Int → g_M → Prop} {dp w : Int} {es : List b_E} {st : List (List Int)} (hso : g_O M so 9) (h0 : g_r M so 0 = some r) (h1 : g_r M so 1 = some b) (h2 : g_r M so 2 = some po) (hA : g_A M b 0 246408) (hP : k_P M r b c e L) (hW : p_W M po pf pt b 246408 0 st) (hst : st ≠ []) (hst8 : st.length ≤ 8) (hw : w = 1 ∨ w = -1) (hd : b_st (g_i M b) 163608 dp 16 3 [] (b_doc es)) (hl : (b_doc es).length ≤ 2000) (hL : L.length ≤ 100) (hq : ∀ M1 y, k_F k_0 r M M1 → k_P M1 r b c e L → O_at (g_i M b) 246408 y → (∀ z, y = some z → z.2.2.2.length ≤ 199000) → O_bst w (O_ks (O_lv es st)) (L_nop y) → Q (L_opt y) M1) : g_Call (d + 60) 164 [.ref so, g_n dp, g_n w] M (g_qI Q) := by
  have hwR : g_InR w := ⟨by omega, by omega⟩
  have hdpR := hd.R (by decide)
  have hdM : b_st (g_i M b) 246408 dp 16 3 [] (b_doc es) := ⟨hd.1, hd.2.1, hd.2.2.1, hd.2.2.2.1, by have := hd.2.2.2.2; omega⟩
  obtain ⟨hn1, hn2⟩ := L_go_its (st := st) (e := (3, [], b_doc es)) hdM rfl (by show (b_el 3 [] (b_doc es)).length ≤ 2100; rw [b_el_len, List.length_nil]; omega) hst8
  obtain ⟨ls, hls⟩ : ∃ ls, ls = L_go 16 dp (3, [], b_doc es) st := ⟨_, rfl⟩
  rw [← hls] at hn1 hn2
  have hlv : ls.map L_nop = O_lv es st := by rw [hls]; exact L_go_v _ _ _ _
  have hstd : ∀ y, some y ∈ ls → b_st (g_i M b) 246408 y.1 16 y.2.1 y.2.2.1 y.2.2.2 ∧ y.2.2.2.length ≤ (b_doc es).length := fun y hy => L_go_st 16 (e := (3, [], b_doc es)) hdM y (by rw [← hls]; exact hy)
  have htop := hP.top
  refine m_X9_sortKey hdpR hwR fun _ => ⟨hso, r, h0, hP.1, po, h2, r, h0, hW.1.1, ?_⟩
  rw [htop]
  refine c_walk 16 (d := d + 39) (z := (dp, 3, [], b_doc es)) (st := st) (s := 0) hP hA (by decide) hW hdM (by show (b_doc es).length ≤ _; omega) (by omega) (by decide) (by decide) (by rw [← hls]; omega) fun M1 f1 hP1 => ?_
  rw [← hls] at hP1
  intro _ _
  have hb1 : g_i M1 b = g_i M b := (f1.A hP hA (fun g => absurd g (by decide)) id).1
  have hr1 : ∀ k, g_r M1 so k = g_r M so k := fun k => by rw [(f1.O hP hso (by decide) id).2]
  have hA1 := hA.up f1.1
  refine ⟨r, by rw [hr1]; exact h0, hP1.1, ?_⟩
  refine c_addItems (d := d + 55) (n := 246408) hP1 hA1 (by decide) ⟨by decide, by decide⟩ (fun y hy => ?_) (by omega) fun M2 f2 hP2 => ?_
  · obtain ⟨s1, s2⟩ := hstd y hy
    rw [hb1]
    exact ⟨16, s1, by omega⟩
  intro _ _
  have f12 := f1.tr f2
  have hb2 : g_i M2 b = g_i M b := (f12.A hP hA (fun g => absurd g (by decide)) id).1
  have hr2 : ∀ k, g_r M2 so k = g_r M so k := fun k => by rw [(f12.O hP hso (by decide) id).2]
  have hA2 := hA.up f12.1
  have hso2 := hso.up f12.1
  -- the values on the pile
  obtain ⟨K, hK⟩ : ∃ K, K = (if ls = [] then [none] else ls) ++ ls.flatMap L_its := ⟨_, rfl⟩
  have hKo : (if ls = [] then [-1] else ls.map (L_on (-1))) ++ (ls.flatMap L_its).map L_opt = K.map L_opt := by
    rw [hK, List.map_append]
    congr 1
    split
    · rfl
    · exact List.map_congr_left fun y _ => L_on1 y
  have hKn : K.map L_nop = O_ks (O_lv es st) := by
    rw [hK, List.map_append, ← hlv]
    unfold O_ks
    congr 1
    · by_cases h : ls = []
      · subst h
        rfl
      · rw [if_neg h, if_neg (fun z => h (List.map_eq_nil_iff.mp z))]
    · rw [List.map_flatMap, List.flatMap_map]
      congr 1
      funext y
      exact V_its_L y
  rw [hKo] at hP2
  have hKs : ∀ y ∈ K, O_at (g_i M2 b) 246408 y ∧ ∀ z, y = some z → z.2.2.2.length ≤ 199000 := by
    intro y hy
    rw [hb2]
    rw [hK] at hy
    rcases List.mem_append.mp hy with hy | hy
    · split at hy
      · rw [List.mem_singleton.mp hy]
        exact ⟨fun z hz => absurd hz (by simp), fun z hz => absurd hz (by simp)⟩
      · refine ⟨fun z hz => ?_, fun z hz => ?_⟩
        · subst hz
          exact (hstd z hy).1.le (by decide)
        · subst hz
          have := (hstd z hy).2
          omega
    · obtain ⟨u, hu, hyu⟩ := List.mem_flatMap.mp hy
      rcases u with _ | u
      · exact absurd hyu (by simp [L_its])
      · have hit : L_its (some u) = if u.2.1 = 4 then (L_ch u.1 u.2).map some else [] := rfl
        rw [hit] at hyu
        split at hyu
        · rename_i hu4
          obtain ⟨x, hx, rfl⟩ := List.mem_map.mp hyu
          obtain ⟨s1, s2⟩ := hstd u hu
          obtain ⟨D1, eD, hkids, hkl⟩ := s1.kids (Or.inr hu4)
          have hx1 := L_at_st hkids x hx
          have hx2 := L_at_vb hx
          refine ⟨fun z hz => ?_, fun z hz => ?_⟩
          · cases hz
            exact hx1.1.le (by omega)
          · cases hz
            omega
        · exact absurd hyu (by simp)
  have hKl : K.length ≤ 14000 := by
    rw [hK, List.length_append]
    split
    · rw [List.length_singleton]
      omega
    · omega
  obtain ⟨y0, K2, hK0⟩ : ∃ y0 K2, K = y0 :: K2 := by
    rcases hKc : K with _ | ⟨y0, K2⟩
    · rw [hKc] at hK
      have := congrArg List.length hK
      rw [List.length_append] at this
      split at this
      · rw [List.length_nil, List.length_singleton] at this
        omega
      · rename_i h
        have h9 := List.length_pos_iff.mpr h
        rw [List.length_nil] at this
        omega
    · exact ⟨y0, K2, rfl⟩
  refine ⟨r, by rw [hr2]; exact h0, hP2.1, c_leaf (d := d + 58) hP2 (i := L.length) (v := L_opt y0) (by rw [List.getElem?_append_right (Nat.le_refl _), Nat.sub_self, hK0]; rfl) ?_⟩
  intro _ _ _
  refine ⟨⟨by omega, by omega⟩, ?_⟩
  have h9 := c_bestLoop (d := d + 13) (w := w) (dp := dp) (Q := Q) hso2 (by rw [hr2]; exact h0) (by rw [hr2]; exact h1) hA2 hdpR hw hP2 hKs (by omega) (fun M3 y f3 hP3 hy => hq M3 y (f12.tr f3) hP3 (by have := (hKs y hy.1).1; rwa [hb2] at this) (hKs y hy.1).2 (by rw [← hKn]; exact hy.2)) K2 [y0] y0 hK0 ⟨List.mem_singleton.mpr rfl, O_bst.one w _⟩
  rwa [show ((L.length + [y0].length : Nat) : Int) = (L.length : Int) + 1 by rw [List.length_singleton]; omega] at h9
end SKEY
