/-! INDEXES, THE REFERENCE: the entries of a document at the place of work -/
/-- a document's elements stand in a container, as far up as the place of work -/
def E_cu (F : Int → Int) (c : Int) (D : Nat) (ys : List b_E) : Prop := b_at F c (b_doc ys) ∧ 0 ≤ c ∧ c + (b_doc ys).length ≤ 2598000 ∧ X_gd D ys
theorem E_ct.cu {F : Int → Int} {c : Int} {D : Nat} {ys : List b_E} (h : E_ct F c D ys) : E_cu F c D ys := ⟨h.1, h.2.1, by have := h.2.2.1; omega, h.2.2.2⟩
theorem E_cu.tl {F B : Int → Int} {c : Int} {D : Nat} {ys : List b_E} (h : E_cu F c D ys) (hB : ∀ k, k < 2598000 → B k = F k) : e_tl B c (c + 4) D ys ys := by
  obtain ⟨h1, h2, h3, h4⟩ := h
  exact e_tl.start (b_at_keep h1 fun k k1 k2 => hB k (by omega)) h4 h2 (by omega)

theorem E_cu.dc {F : Int → Int} {c : Int} {es : List b_E} (h : E_cu F c 15 es) (hl : (b_doc es).length ≤ 2000) : E_dc F c 15 (3, [], b_doc es) := by
  refine ⟨rfl, X_gv (Or.inl rfl) h.2.2.2 (by rw [b_doc_len] at hl; omega) fun z => absurd z (by decide), ?_⟩
  show e_tl F c (c + 4) 15 (b_ch (b_doc es)) (b_ch (b_doc es))
  rw [b_ch_doc h.2.2.2.ok]
  exact h.tl fun _ _ => rfl
section EKEYU
variable {m b l kr d pa pe dn : Nat} {F : Int → Int} {M : g_M} {L : List Int}
theorem L_doc_stU {es : List b_E} {c : Int} {st : List (List Int)} (hct : E_cu F c 15 es) : ∀ y, some y ∈ L_doc 15 (L_at (c + 4) es) st → b_st F 2706210 y.1 15 y.2.1 y.2.2.1 y.2.2.2 := by
  intro y hy
  have hts := (hct.tl (B := F) fun _ _ => rfl).2.2.2.1
  rcases st with _ | ⟨s, r⟩
  · exact absurd hy (by simp [L_doc])
  · change some y ∈ (match L_find s (L_at (c + 4) es) with
      | none => [none]
      | some z => L_go 15 z.1 z.2 r) at hy
    rcases hf : L_find s (L_at (c + 4) es) with _ | z
    · rw [hf] at hy
      exact absurd hy (by simp)
    · rw [hf] at hy
      exact (L_go_st 15 (L_at_st hts z (L_find_mem hf).1).1 y hy).1
theorem e_keyValsU {es : List b_E} {c : Int} {st : List (List Int)} {ls : List (Option (Int × b_E))} (hct : E_cu F c 15 es) (hl : (b_doc es).length ≤ 2000) (hst : st ≠ []) (h8 : st.length ≤ 8) (hls : ls = L_doc 15 (L_at (c + 4) es) st) : ls.length ≤ 3301 ∧ (L_wi ls).length ≤ 14000 ∧ (∀ y ∈ L_wi ls, O_at F 2706210 y) ∧ (if ls = [] then [none] else L_wi ls).map L_nop = O_ke (O_lv es st) := by
  obtain ⟨s, r, rfl⟩ : ∃ s r, st = s :: r := by
    rcases st with _ | ⟨s, r⟩
    · exact absurd rfl hst
    · exact ⟨s, r, rfl⟩
  have hlv : ls.map L_nop = O_lv es (s :: r) := by rw [hls]; exact L_doc_lv hct.2.2.2
  obtain ⟨h1, h2⟩ := O_lv_len (st := s :: r) hct.2.2.2 hl h8
  have h3 : ls.length = (O_lv es (s :: r)).length := by rw [← hlv, List.length_map]
  have h4 := L_its_len ls
  rw [hlv] at h4
  have h5 := L_wi_len ls
  have hsd : ∀ y, some y ∈ ls → b_st F 2706210 y.1 15 y.2.1 y.2.2.1 y.2.2.2 := fun y hy => L_doc_stU hct y (by rw [← hls]; exact hy)
  refine ⟨by omega, by omega, fun y hy => ?_, ?_⟩
  · unfold L_wi at hy
    obtain ⟨u, hu, hyu⟩ := List.mem_flatMap.mp hy
    rcases List.mem_cons.mp hyu with hyu | hyu
    · subst hyu
      intro z hz
      subst hz
      exact (hsd z hu).le (by decide)
    · rcases u with _ | u
      · exact absurd hyu (by simp [L_its])
      · have hit : L_its (some u) = if u.2.1 = 4 then (L_ch u.1 u.2).map some else [] := rfl
        rw [hit] at hyu
        split at hyu
        · rename_i hu4
          obtain ⟨x, hx, rfl⟩ := List.mem_map.mp hyu
          obtain ⟨D1, eD, hkids, hkl⟩ := (hsd u hu).kids (Or.inr hu4)
          have hx1 := L_at_st hkids x hx
          intro z hz
          cases hz
          exact hx1.1.le (by omega)
        · exact absurd hyu (by simp)
  · unfold O_ke
    rw [← hlv]
    by_cases h : ls = []
    · subst h
      rfl
    · rw [if_neg h, if_neg fun z => h (List.map_eq_nil_iff.mp z)]
      unfold L_wi
      rw [List.map_flatMap, List.flatMap_map]
      congr 1
      funext y
      show L_nop y :: (L_its y).map L_nop = _
      rw [V_its_L]
theorem e_keys2U {Q : Int → g_M → Prop} {c p tl : Int} {x : List Int} {es : List b_E} {ls : List (Option (Int × b_E))} (hS : E_S m b l F M L) (hct : E_cu F c 15 es) (hdl : (b_doc es).length ≤ 2000) (hx : b_at F p x) (hp : 0 ≤ p) (hp1 : p + x.length < 2706200) (h8 : (p_sp x).length ≤ 8) (hno : b_at F 2706200 [10, 0]) (hL : L.length ≤ 40000) (ht : tl = 0 ∨ tl = 1) (h40 : g_i M m 40 = tl) (hls : ls = L_doc 15 (L_at (c + 4) es) (p_sp x)) (h : ∀ M1, e_fr (E_lk m l) M M1 → E_S m b l F M1 ((L ++ ls.map L_opt) ++ (I_un (I_oc 1) (I_cs ls)).map (L_on 2706200)) → g_i M1 m 40 = I_tl tl (I_cs ls) → Q ((L ++ ls.map L_opt).length : Nat) M1) : g_Call (d + 69) 360 [.ref m, g_n c, g_n p, g_n (p + x.length)] M (g_qI Q) := by
  have hcR : g_InR c := by
    have h1 := hct.2.1
    have h2 := hct.2.2.1
    exact ⟨by omega, by omega⟩
  have hne : p_sp x ≠ [] := by rw [p_sp_eq]; simp
  obtain ⟨k1, k2, -, -⟩ := e_keyValsU hct hdl hne h8 hls
  have hstd : ∀ y, some y ∈ ls → b_st F 2706210 y.1 15 y.2.1 y.2.2.1 y.2.2.2 := fun y hy => L_doc_stU hct y (by rw [← hls]; exact hy)
  have hcat := I_cs_at (by decide) hstd
  have hcsl := I_cs_len ls
  have hR := hS.1
  refine m_X12_keys hcR ⟨by omega, by omega⟩ ⟨by omega, by omega⟩ fun _ => ⟨hR.1, e_goDocS (D := 15) (de := (3, [], b_doc es)) hS (hct.dc hdl) (by decide) hx hp (by omega) (by show (b_doc es).length ≤ _; omega) ?_ (by omega) fun M1 f1 S1 => ?_⟩
  · show L.length + (L_doc 15 (L_at (c + 4) (b_ch (b_doc es))) (p_sp x)).length ≤ 80000
    rw [b_ch_doc hct.2.2.2.ok, ← hls]
    omega
  have hdoc : L_doc 15 (L_at (c + 4) (b_ch (b_doc es))) (p_sp x) = ls := by rw [b_ch_doc hct.2.2.2.ok, ← hls]
  have S1 : E_S m b l F M1 (L ++ ls.map L_opt) := by rw [← hdoc]; exact S1
  intro _ _
  obtain ⟨n1, n2, n3⟩ := hS.ne
  have h10 : g_i M m 10 = L.length := hS.2.2.2.1
  have h101 : g_i M1 m 10 = ((L ++ ls.map L_opt).length : Nat) := S1.2.2.2.1
  rw [h10, h101]
  obtain ⟨P, hPe⟩ : ∃ P, P = L ++ ls.map L_opt := ⟨_, rfl⟩
  rw [← hPe] at S1 h ⊢
  have hPl : P.length = L.length + ls.length := by rw [hPe, List.length_append, List.length_map]
  have f1' : e_fr (E_lk m l) M M1 := f1.up fun _ _ z => z.lk
  have t1 : g_i M1 m 40 = tl := by
    rw [f1.2.1 m 40 fun z => ?_]
    · exact h40
    · rcases z with z | z
      · exact n2 z.symm
      · exact absurd z.2 (by decide)
  -- a key comes
  have hadd : ∀ (U : List (Option (Int × b_E))) (y : Option (Int × b_E)) (M2 : g_M) {Q : g_M → Prop} {pl : Int}, (∃ V, I_cs ls = U ++ y :: V) → pl = L_on 2706200 y → e_fr (E_lk m l) M M2 → E_S m b l F M2 (P ++ (I_un (I_oc 1) U).map (L_on 2706200)) → g_i M2 m 40 = I_tl tl U → (∀ M3, e_fr (E_lk m l) M M3 → E_S m b l F M3 (P ++ (I_un (I_oc 1) (U ++ [y])).map (L_on 2706200)) → g_i M3 m 40 = I_tl tl (U ++ [y]) → Q M3) → g_Call (d + 68) 359 [.ref m, g_n P.length, g_n pl] M2 (g_qV Q) := by
    rintro U y M2 Q pl ⟨V, hV⟩ rfl f2 S2 t2 hq2
    have hlen := congrArg List.length hV
    rw [List.length_append, List.length_cons] at hlen
    have hul := I_un_len U
    refine e_addKey (d := d + 1) (tl := I_tl tl U) S2 hno (fun u hu => hcat u (by rw [hV]; exact List.mem_append_left _ (I_un_mem2 hu))) (hcat y (by rw [hV]; simp)) (by omega) (I_tl_01 ht U) t2 fun M3 f3 S3 t3 => ?_
    refine hq2 M3 (f2.tr f3) ?_ ?_
    · rw [I_un_app]
      exact S3
    · rw [I_tl_app2]
      exact t3
  have hcsne : ls ≠ [] → I_cs ls = ls.flatMap I_cd := fun h => if_neg h
  have h23 : ∀ (l2 l1 U : List (Option (Int × b_E))) (M2 : g_M), ls = l1 ++ l2 → ls.flatMap I_cd = U ++ l2.flatMap I_cd → e_fr (E_lk m l) M M2 → E_S m b l F M2 (P ++ (I_un (I_oc 1) U).map (L_on 2706200)) → g_i M2 m 40 = I_tl tl U → g_Run (d + 68) 360 23 [(0, .ref m), (1, g_n c), (2, g_n p), (3, g_n (p + x.length)), (4, g_n L.length), (5, g_n P.length), (6, g_n ((L.length + l1.length : Nat) : Int))] [] M2 (g_qI Q) := by
    intro l2
    induction l2 with
    | nil =>
      intro l1 U M2 hl12 hU f2 S2 t2
      rw [List.flatMap_nil, List.append_nil] at hU
      rw [List.append_nil] at hl12
      have hl1 := congrArg List.length hl12
      refine s_X12_keys_23 hcR ⟨by omega, by omega⟩ ⟨by omega, by omega⟩ ⟨by omega, by omega⟩ ⟨by omega, by omega⟩ ⟨by omega, by omega⟩ fun _ => ⟨fun z => absurd z (by omega), fun _ => ⟨fun g => ⟨S2.1.1, ?_⟩, fun g => ?_⟩⟩
      · have hls0 : ls = [] := List.length_eq_zero_iff.mp (by omega)
        have hcs0 : I_cs ls = [none] := if_pos hls0
        rw [hls0, List.flatMap_nil] at hU
        subst hU
        refine hadd [] none M2 ⟨[], by rw [hcs0]; rfl⟩ rfl f2 S2 t2 fun M3 f3 S3 t3 => ?_
        intro _ _
        rw [List.nil_append, ← hcs0] at S3 t3
        exact h M3 f3 S3 t3
      · have hls0 : ls ≠ [] := fun z => g (by rw [z, List.length_nil] at hPl; omega)
        rw [hcsne hls0, hU] at h
        exact h M2 f2 S2 t2
    | cons y l2 ih =>
      intro l1 U M2 hl12 hU f2 S2 t2
      have hlen := congrArg List.length hl12
      rw [List.length_append, List.length_cons] at hlen
      rw [List.flatMap_cons] at hU
      have hls0 : ls ≠ [] := fun z => by rw [z, List.length_nil] at hlen; omega
      have hcs := hcsne hls0
      have hls1 : ls = (l1 ++ [y]) ++ l2 := by rw [hl12]; simp
      have hc1 : ((L.length + l1.length : Nat) : Int) + 1 = ((L.length + (l1 ++ [y]).length : Nat) : Int) := by rw [List.length_append, List.length_singleton]; omega
      have hget : ∀ {M3 : g_M} {T : List Int}, E_S m b l F M3 (P ++ T) → g_i M3 l ((L.length + l1.length : Nat) : Int) = L_opt y := fun {M3 T} S => (S.get (by
        rw [List.getElem?_append_left (by omega), hPe, List.getElem?_append_right (by omega), show L.length + l1.length - L.length = l1.length by omega, hl12, List.map_append, List.getElem?_append_right (by rw [List.length_map]; omega), List.length_map, Nat.sub_self]
        rfl)).1
      have hnext : ∀ (U2 : List (Option (Int × b_E))) (M3 : g_M), ls.flatMap I_cd = U2 ++ l2.flatMap I_cd → e_fr (E_lk m l) M M3 → E_S m b l F M3 (P ++ (I_un (I_oc 1) U2).map (L_on 2706200)) → g_i M3 m 40 = I_tl tl U2 → g_InR (((L.length + l1.length : Nat) : Int) + 1) ∧ g_Run (d + 68) 360 23 [(0, .ref m), (1, g_n c), (2, g_n p), (3, g_n (p + x.length)), (4, g_n L.length), (5, g_n P.length), (6, g_n (((L.length + l1.length : Nat) : Int) + 1))] [] M3 (g_qI Q) := by
        intro U2 M3 hU2 f3 S3 t3
        refine ⟨⟨by omega, by omega⟩, ?_⟩
        rw [hc1]
        exact ih (l1 ++ [y]) U2 M3 hls1 hU2 f3 S3 t3
      refine s_X12_keys_23 hcR ⟨by omega, by omega⟩ ⟨by omega, by omega⟩ ⟨by omega, by omega⟩ ⟨by omega, by omega⟩ ⟨by omega, by omega⟩ fun _ => ⟨fun _ => ⟨S2.1.1, l, S2.2.1, 80000, S2.2.2.1, ⟨by omega, by omega⟩, ?_⟩, fun z => absurd (by omega) z⟩
      rw [hget S2]
      rcases y with _ | y
      · refine ⟨fun _ => hadd U none M2 ⟨l2.flatMap I_cd, by rw [hcs, hU]; rfl⟩ rfl f2 S2 t2 fun M3 f3 S3 t3 => ?_, fun g => absurd rfl g⟩
        intro _ _
        exact hnext _ M3 (by rw [hU]; simp [I_cd]) f3 S3 t3
      · have hs := hstd y (by rw [hl12]; simp)
        have hy0 := hs.2.2.2.1
        have hy1 := hs.2.2.2.2
        have hyl := b_el_len y.2.1 y.2.2.1 y.2.2.2
        have hop : L_opt (some y) = y.1 := rfl
        have hsM : ∀ {M3 : g_M} {T : List Int}, E_S m b l F M3 T → b_st (g_i M3 b) 2706210 y.1 15 y.2.1 y.2.2.1 y.2.2.2 := fun S => by rw [S.2.2.2.2.2.1]; exact hs
        rw [hop]
        refine ⟨fun g => absurd g (by omega), fun _ => ⟨b, S2.1.2.1, 2706210, S2.1.2.2, ⟨by omega, by omega⟩, ?_⟩⟩
        rw [(hsM S2).val.2.2.2]
        have hcdy : I_cd (some y) = if y.2.1 = 4 then (if L_ch y.1 y.2 = [] then [none] else (L_ch y.1 y.2).map some) else [some y] := rfl
        refine ⟨fun h4 => ?_, fun h4 => ?_⟩
        · rw [if_pos h4] at hcdy
          obtain ⟨D2, xs0, e1, e2, e3, e4, e5, -⟩ := hs.tl (Or.inr h4)
          have hch : L_ch y.1 y.2 = L_at (y.1 + 6 + y.2.2.1.length) xs0 := by
            show L_at _ (b_ch y.2.2.2) = _
            rw [e5]
          have e4M : ∀ {M3 : g_M} {T : List Int}, E_S m b l F M3 T → e_tl (g_i M3 b) (y.1 + 2 + y.2.2.1.length) (y.1 + 6 + y.2.2.1.length) D2 xs0 xs0 := fun S => by rw [S.2.2.2.2.2.1]; exact e4
          have hvl := congrArg List.length e2
          rw [b_doc_len] at hvl
          -- the items
          have h110 : ∀ (xs cs : List b_E) (q : Int) (U2 : List (Option (Int × b_E))) (M3 : g_M), xs0 = cs ++ xs → q = y.1 + 6 + y.2.2.1.length + (b_ser cs).length → ls.flatMap I_cd = U2 ++ ((L_at q xs).map some ++ l2.flatMap I_cd) → e_fr (E_lk m l) M M3 → E_S m b l F M3 (P ++ (I_un (I_oc 1) U2).map (L_on 2706200)) → g_i M3 m 40 = I_tl tl U2 → g_Run (d + 68) 360 110 [(0, .ref m), (1, g_n c), (2, g_n p), (3, g_n (p + x.length)), (4, g_n L.length), (5, g_n P.length), (6, g_n ((L.length + l1.length : Nat) : Int)), (7, g_n y.1), (8, g_n q)] [] M3 (g_qI Q) := by
            intro xs
            induction xs with
            | nil =>
              intro cs q U2 M3 k1 k2 hU2 f3 S3 t3
              rw [List.append_nil] at k1
              have htl : e_tl (g_i M3 b) (y.1 + 2 + y.2.2.1.length) q D2 xs0 [] := by
                have h9 : e_tl (g_i M3 b) (y.1 + 2 + y.2.2.1.length) (y.1 + 6 + y.2.2.1.length) D2 xs0 (xs0 ++ []) := by
                  rw [List.append_nil]
                  exact e4M S3
                rw [k2, ← k1]
                exact h9.app
              have hqR : g_InR q := by
                have := htl.2.2.2.1.2.2.1
                have := htl.2.2.2.1.2.2.2.1
                exact ⟨by omega, by omega⟩
              refine s_X12_keys_110 hcR ⟨by omega, by omega⟩ ⟨by omega, by omega⟩ ⟨by omega, by omega⟩ ⟨by omega, by omega⟩ ⟨by omega, by omega⟩ ⟨by omega, by omega⟩ hqR fun _ => ⟨S3.1.1, e_vl2 (d := d + 66) S3.1 (hsM S3) ?_⟩
              intro _ _ _
              refine e_lastE (d := d + 65) S3.1 htl ?_
              intro _ _ _
              exact ⟨fun g => absurd g (by omega), fun _ => hnext U2 M3 (by rw [hU2]; rfl) f3 S3 t3⟩
            | cons w xs ihx =>
              intro cs q U2 M3 k1 k2 hU2 f3 S3 t3
              have htl : e_tl F (y.1 + 2 + y.2.2.1.length) q D2 xs0 (w :: xs) := by
                have k1' : e_tl F (y.1 + 2 + y.2.2.1.length) (y.1 + 6 + y.2.2.1.length) D2 xs0 (cs ++ w :: xs) := by
                  rw [← k1]
                  exact e4
                have := k1'.app
                rwa [← k2] at this
              have hw := htl.cons.1
              have hwR := hw.R (by decide)
              have htM : e_tl (g_i M3 b) (y.1 + 2 + y.2.2.1.length) q D2 xs0 (w :: xs) := by rw [S3.2.2.2.2.2.1]; exact htl
              have hU3 : ls.flatMap I_cd = U2 ++ some (q, w) :: ((L_at (q + (b_el w.1 w.2.1 w.2.2).length) xs).map some ++ l2.flatMap I_cd) := hU2
              refine s_X12_keys_110 hcR ⟨by omega, by omega⟩ ⟨by omega, by omega⟩ ⟨by omega, by omega⟩ ⟨by omega, by omega⟩ ⟨by omega, by omega⟩ ⟨by omega, by omega⟩ hwR fun _ => ⟨S3.1.1, e_vl2 (d := d + 66) S3.1 (hsM S3) ?_⟩
              intro _ _ _
              refine e_lastC (d := d + 65) S3.1 htM fun r hr1 hr2 => ?_
              intro _ _ _
              refine ⟨fun _ => hadd U2 (some (q, w)) M3 ⟨_, by rw [hcs]; exact hU3⟩ rfl f3 S3 t3 fun M4 f4 S4 t4 => ?_, fun g => absurd hr1 g⟩
              intro _ _
              have hwM : b_st (g_i M4 b) 2706210 q D2 w.1 w.2.1 w.2.2 := by rw [S4.2.2.2.2.2.1]; exact hw
              refine e_behind (d := d + 64) S4.1 hwM.1 hwM.2.1 (b_gv_vs hwM.2.2.1) hwM.2.2.2.1 hwM.2.2.2.2 ?_
              intro _ _ _
              exact ihx (cs ++ [w]) (q + (b_el w.1 w.2.1 w.2.2).length) (U2 ++ [some (q, w)]) M4 (by rw [k1]; simp) (by rw [b_ser_app, List.length_append, b_ser_1]; omega) (by rw [hU3]; simp) f4 S4 t4
          have hq4 : y.1 + 2 + (y.2.2.1.length : Int) + 4 = y.1 + 6 + y.2.2.1.length := by omega
          refine e_vl2 (d := d + 66) S2.1 (hsM S2) ?_
          intro _ _ _
          have e4c : e_tl (g_i M2 b) (y.1 + 2 + y.2.2.1.length) (y.1 + 2 + y.2.2.1.length + 4) D2 xs0 xs0 := by rw [hq4]; exact e4M S2
          refine e_countE (d := d + 63) S2.1 e4c ?_
          intro _ _ _
          refine ⟨fun g0 => ?_, fun g0 => ?_⟩
          · have hx0 : xs0 = [] := List.length_eq_zero_iff.mp (by omega)
            have hLc : L_ch y.1 y.2 = [] := by rw [hch, hx0]; rfl
            rw [if_pos hLc] at hcdy
            rw [hcdy] at hU
            refine hadd U none M2 ⟨l2.flatMap I_cd, by rw [hcs, hU]; rfl⟩ rfl f2 S2 t2 fun M3 f3 S3 t3 => ?_
            intro _ _
            refine e_vl2 (d := d + 66) S3.1 (hsM S3) ?_
            intro _ _ _
            refine e_first (d := d + 67) (by omega) (by omega) ?_
            intro _ _ _
            rw [hq4]
            exact h110 [] [] _ _ M3 (by rw [hx0]; rfl) (by show _ = _ + ((0 : Nat) : Int); omega) (by rw [hU]; simp [L_at]) f3 S3 t3
          · have hLc : L_ch y.1 y.2 ≠ [] := by
              rw [hch]
              rcases xs0 with _ | ⟨w, xs⟩
              · exact absurd rfl g0
              · exact List.cons_ne_nil _ _
            rw [if_neg hLc, hch] at hcdy
            rw [hcdy] at hU
            refine e_vl2 (d := d + 66) S2.1 (hsM S2) ?_
            intro _ _ _
            refine e_first (d := d + 67) (by omega) (by omega) ?_
            intro _ _ _
            rw [hq4]
            exact h110 xs0 [] _ U M2 rfl (by show _ = _ + ((0 : Nat) : Int); omega) (by rw [hU]) f2 S2 t2
        · rw [if_neg h4] at hcdy
          rw [hcdy] at hU
          refine hadd U (some y) M2 ⟨l2.flatMap I_cd, by rw [hcs, hU]; rfl⟩ rfl f2 S2 t2 fun M3 f3 S3 t3 => ?_
          intro _ _
          exact hnext _ M3 (by rw [hU]; simp) f3 S3 t3
  refine h23 ls [] [] M1 rfl rfl f1' ?_ t1
  show E_S m b l F M1 (P ++ [])
  rw [List.append_nil]
  exact S1
theorem e_entriesOfU {Q : Int → g_M → Prop} {c tl : Int} {x : Nat} {V : I_V} {es : List b_E} (hS : E_S m b l F M L) (hV : R_V m pa pe dn F x V M) (hct : E_cu F c 15 es) (hdl : (b_doc es).length ≤ 2000) (hno : b_at F 2706200 [10, 0]) (hL : L.length ≤ 1000) (ht : tl = 0 ∨ tl = 1) (h40 : g_i M m 40 = tl) (h : ∀ M1 P1 P2, e_fr (E_le m l) M M1 → (∃ T1 T2, P1 = L ++ T1 ∧ P2 = T2 ∧ T1.length ≤ 3301 ∧ T2.length ≤ 3301) → E_S m b l F M1 (P1 ++ (I_u c es V.2.2.1).map (L_on 2706200) ++ P2 ++ (I_u2 V c es).map (L_on 2706200)) → (I_u c es V.2.2.1).length ≤ 14001 → (I_u2 V c es).length ≤ 14001 → g_i M1 m 40 = I_tl2 (I_tl tl (I_cs (L_doc 15 (L_at (c + 4) es) V.2.2.1))) (match V.2.2.2 with | none => false | some st => (I_cs (L_doc 15 (L_at (c + 4) es) st)).any (fun y => decide (64 < (I_ko y).2.length))) → g_i M1 m 41 = P1.length → g_i M1 m 42 = (I_u c es V.2.2.1).length → g_i M1 m 43 = (P1 ++ (I_u c es V.2.2.1).map (L_on 2706200) ++ P2).length → g_i M1 m 44 = (P1 ++ (I_u c es V.2.2.1).map (L_on 2706200) ++ P2 ++ (I_u2 V c es).map (L_on 2706200)).length → Q (((I_u c es V.2.2.1).length * (I_u2 V c es).length : Nat) : Int) M1) : g_Call (d + 70) 361 [.ref m, g_n x, g_n c] M (g_qI Q) := by
  have hcR : g_InR c := by
    have h1 := hct.2.1
    have h2 := hct.2.2.1
    exact ⟨by omega, by omega⟩
  have hulen : ∀ (x1 : List Int) (st : List (List Int)), p_sp x1 = st → st.length ≤ 8 → (L_doc 15 (L_at (c + 4) es) st).length ≤ 3301 ∧ (I_u c es st).length ≤ 14001 := by
    intro x1 st hx1 h8
    have hne : st ≠ [] := by rw [← hx1, p_sp_eq]; simp
    obtain ⟨k1, k2, -, -⟩ := e_keyValsU hct hdl hne h8 rfl
    have h1 := I_un_len (I_cs (L_doc 15 (L_at (c + 4) es) st))
    have h2 := I_cs_len (L_doc 15 (L_at (c + 4) es) st)
    exact ⟨k1, by unfold I_u; omega⟩
  obtain ⟨⟨a1, a2, a3, a4, a5, a6⟩, b1, ⟨x1, q1, q2, q3, q4, q5⟩, b3, b4, b5, b6, b7, b8, b9⟩ := id hV
  obtain ⟨⟨n1, n2, n3⟩, n4, n5, n6⟩ := hV.ne hS.1.1 hS.2.2.1
  have hSpa : ∀ k, ¬ E_le m l pa k := fun k z => z.elim n1 fun z => n4 z.1
  have hSpe : ∀ k, ¬ E_le m l pe k := fun k z => z.elim n2 fun z => n5 z.1
  have hSdn : ∀ k, ¬ E_le m l dn k := fun k z => z.elim n3 fun z => n6 z.1
  have hR := hS.1
  obtain ⟨hl1, hu1⟩ := hulen x1 _ q1 q4
  refine m_X12_entriesOf ⟨by omega, by omega⟩ hcR fun _ => ⟨hR.1, m_X12_pathOf ⟨by omega, by omega⟩ ⟨by decide, by decide⟩ fun _ => ⟨⟨by omega, by omega⟩, ⟨by omega, by omega⟩, ⟨by omega, by omega⟩, ⟨by omega, by omega⟩, ?_⟩⟩
  intro _ _ _
  rw [show (982000 : Int) + 2000 * (2 * (x : Int) + 0) = 982000 + 2000 * ((2 * x : Nat) : Int) by omega]
  have hc2 : (2 * (x : Int)) = ((2 * x : Nat) : Int) := by omega
  refine ⟨pe, a3, ⟨by omega, by omega⟩, 16, a4, ⟨by omega, by omega⟩, ?_⟩
  rw [hc2, q5]
  refine e_keys2U (d := d) (x := x1) hS hct hdl q2 (by omega) (by omega) (by rw [q1]; exact q4) hno (by omega) ht h40 rfl fun M13 f13 S13 t13 => ?_
  rw [q1] at S13 t13 ⊢
  intro _ _ _
  obtain ⟨P1, hP1⟩ : ∃ P1, P1 = L ++ (L_doc 15 (L_at (c + 4) es) V.2.2.1).map L_opt := ⟨_, rfl⟩
  have S13 : E_S m b l F M13 (P1 ++ (I_u c es V.2.2.1).map (L_on 2706200)) := by rw [hP1]; exact S13
  rw [← hP1]
  have hP1l : P1.length = L.length + (L_doc 15 (L_at (c + 4) es) V.2.2.1).length := by rw [hP1, List.length_append, List.length_map]
  have h13 := S13.2.2.2.1
  rw [List.length_append, List.length_map] at h13
  rw [h13, show (((P1.length + (I_u c es V.2.2.1).length : Nat) : Int) - ((P1.length : Nat) : Int)) = (I_u c es V.2.2.1).length by omega]
  refine ⟨⟨by omega, by omega⟩, fun M19 e19 _ => ?_⟩
  obtain ⟨S19, f19⟩ := S13.fld (by omega) e19
  have f13' : e_fr (E_le m l) M M13 := f13.up fun _ _ z => z.le
  have ff19 := f13'.tr f19
  have hV19 := hV.fr ff19 hSpa hSpe hSdn
  obtain ⟨⟨c1, c2, c3, c4, c5, c6⟩, -, -, c7, c8, c9, -⟩ := id hV19
  have t19 : g_i M19 m 40 = I_tl tl (I_cs (L_doc 15 (L_at (c + 4) es) V.2.2.1)) := by
    rw [e19, g_i_wi, if_neg (fun z => absurd z.2 (by decide))]
    exact t13
  have h42 : g_i M19 m 42 = (I_u c es V.2.2.1).length := by rw [e19, g_i_wi, if_pos ⟨rfl, rfl⟩]
  have h10 := S19.2.2.2.1
  -- the end
  have h82 : ∀ (M2 : g_M) (P2 : List Int), e_fr (E_le m l) M M2 → P2.length ≤ 3301 → E_S m b l F M2 (P1 ++ (I_u c es V.2.2.1).map (L_on 2706200) ++ P2 ++ (I_u2 V c es).map (L_on 2706200)) → (I_u2 V c es).length ≤ 14001 → g_i M2 m 40 = I_tl2 (I_tl tl (I_cs (L_doc 15 (L_at (c + 4) es) V.2.2.1))) (match V.2.2.2 with | none => false | some st => (I_cs (L_doc 15 (L_at (c + 4) es) st)).any (fun y => decide (64 < (I_ko y).2.length))) → g_i M2 m 42 = (I_u c es V.2.2.1).length → g_i M2 m 43 = (P1 ++ (I_u c es V.2.2.1).map (L_on 2706200) ++ P2).length → g_Run (d + 69) 361 82 [(0, .ref m), (1, g_n x), (2, g_n c), (3, g_n P1.length)] [] M2 (g_qI Q) := by
    intro M2 P2 f2 hp2 S2 hu2 t2 w42 w43
    refine s_X12_entriesOf_82 ⟨by omega, by omega⟩ hcR ⟨by omega, by omega⟩ fun _ => ⟨S2.1.1, fun M3 e3 _ M4 e4 _ => ?_⟩
    obtain ⟨S3, f3⟩ := S2.fld (by omega) e3
    obtain ⟨S4, f4⟩ := S3.fld (by omega) e4
    have hm10 : g_i M3 m 10 = (P1 ++ (I_u c es V.2.2.1).map (L_on 2706200) ++ P2 ++ (I_u2 V c es).map (L_on 2706200)).length := S3.2.2.2.1
    have g44 : g_i M4 m 44 = (P1 ++ (I_u c es V.2.2.1).map (L_on 2706200) ++ P2 ++ (I_u2 V c es).map (L_on 2706200)).length := by rw [e4, g_i_wi, if_pos ⟨rfl, rfl⟩]; exact hm10
    have gne : ∀ k : Int, k ≠ 41 → k ≠ 44 → g_i M4 m k = g_i M2 m k := fun k h1 h2 => by rw [e4, g_i_wi, if_neg (fun z => h2 z.2), e3, g_i_wi, if_neg (fun z => h1 z.2)]
    have g43 : g_i M4 m 43 = _ := (gne 43 (by decide) (by decide)).trans w43
    have g42 : g_i M4 m 42 = _ := (gne 42 (by decide) (by decide)).trans w42
    have g41 : g_i M4 m 41 = P1.length := by rw [e4, g_i_wi, if_neg (fun z => absurd z.2 (by decide)), e3, g_i_wi, if_pos ⟨rfl, rfl⟩]
    have h9 := h M4 P1 P2 ((f2.tr f3).tr f4) ⟨_, P2, hP1, rfl, by rw [List.length_map]; exact hl1, hp2⟩ S4 hu1 hu2 ((gne 40 (by decide) (by decide)).trans t2) g41 g42 g43 g44
    have hsub : g_i M4 m 44 - g_i M4 m 43 = (I_u2 V c es).length := by
      rw [g44, g43, List.length_append (as := P1 ++ (I_u c es V.2.2.1).map (L_on 2706200) ++ P2), List.length_map]
      omega
    rw [hsub, g42]
    have hmul : (I_u c es V.2.2.1).length * (I_u2 V c es).length ≤ 14001 * 14001 := Nat.mul_le_mul hu1 hu2
    have hcm : ((I_u c es V.2.2.1).length : Int) * ((I_u2 V c es).length : Int) = (((I_u c es V.2.2.1).length * (I_u2 V c es).length : Nat) : Int) := (Int.natCast_mul _ _).symm
    rw [hcm]
    exact ⟨⟨by omega, by omega⟩, ⟨by omega, by omega⟩, h9⟩
  refine ⟨pa, c1, 8, c2, ⟨by omega, by omega⟩, fun g => ?_, fun g => ?_⟩
  · have hn : V.2.2.2 = none := c8.mpr (by omega)
    intro M49 e49 _
    obtain ⟨S49, f49⟩ := S19.fld (by omega) e49
    have hu2 : I_u2 V c es = [none] := by unfold I_u2; rw [hn]
    refine e_addL (d := d + 68) S49 (by rw [List.length_append, List.length_map]; omega) ⟨by decide, by decide⟩ fun M53 f53 S53 => ?_
    intro _ _
    have hml : l ≠ m := S49.ne.2.1
    have hkeep : ∀ k : Int, k ≠ 10 → g_i M53 m k = g_i M49 m k := fun k hk => f53.2.1 m k fun z => z.elim (fun z => hml z.symm) fun z => hk z.2
    refine h82 M53 [] ((ff19.tr f49).tr (f53.up fun _ _ z => z.lk.le)) (by decide) (by rw [hu2, List.append_nil]; exact S53) (by rw [hu2]; decide) ?_ ?_ ?_
    · rw [hkeep 40 (by decide), e49, g_i_wi, if_neg (fun z => absurd z.2 (by decide)), t19, hn]
      rfl
    · rw [hkeep 42 (by decide), e49, g_i_wi, if_neg (fun z => absurd z.2 (by decide)), h42]
    · rw [hkeep 43 (by decide), e49, g_i_wi, if_pos ⟨rfl, rfl⟩, h10, List.append_nil]
  · obtain ⟨st2, hn⟩ : ∃ st2, V.2.2.2 = some st2 := by
      rcases hVc : V.2.2.2 with _ | st2
      · have := c8.mp hVc
        omega
      · exact ⟨st2, rfl⟩
    obtain ⟨x2, r1, r2, r3, r4, r5⟩ := c9 st2 hn
    obtain ⟨hl2, hu2l⟩ := hulen x2 st2 r1 r4
    have hu2 : I_u2 V c es = I_u c es st2 := by unfold I_u2; rw [hn]
    refine m_X12_pathOf ⟨by omega, by omega⟩ ⟨by decide, by decide⟩ fun _ => ⟨⟨by omega, by omega⟩, ⟨by omega, by omega⟩, ⟨by omega, by omega⟩, ⟨by omega, by omega⟩, ?_⟩
    intro _ _ _
    rw [show (982000 : Int) + 2000 * (2 * (x : Int) + 1) = 982000 + 2000 * ((2 * x + 1 : Nat) : Int) by omega]
    refine ⟨pe, c3, ⟨by omega, by omega⟩, ⟨by omega, by omega⟩, 16, c4, ⟨by omega, by omega⟩, ?_⟩
    rw [show ((2 * x : Nat) : Int) + 1 = ((2 * x + 1 : Nat) : Int) by omega, r5]
    have hS19l : (P1 ++ (I_u c es V.2.2.1).map (L_on 2706200)).length ≤ 40000 := by rw [List.length_append, List.length_map]; omega
    refine e_keys2U (d := d) (x := x2) S19 hct hdl r2 (by omega) (by omega) (by rw [r1]; exact r4) hno hS19l (I_tl_01 ht _) t19 rfl fun M40 f40 S40 t40 => ?_
    rw [r1] at S40 t40 ⊢
    intro _ _ _
    intro M45 e45 _
    obtain ⟨S45, f45⟩ := S40.fld (by omega) e45
    have hml : l ≠ m := S19.ne.2.1
    have hkeep : ∀ k : Int, k ≠ 10 → k ≠ 40 → g_i M40 m k = g_i M19 m k := fun k hk hk2 => f40.2.1 m k fun z => z.elim (fun z => hml z.symm) fun z => by have := z.2; omega
    refine h82 M45 ((L_doc 15 (L_at (c + 4) es) st2).map L_opt) ((ff19.tr (f40.up fun _ _ z => z.le)).tr f45) (by rw [List.length_map]; exact hl2) (by rw [hu2]; exact S45) (by rw [hu2]; exact hu2l) ?_ ?_ ?_
    · rw [e45, g_i_wi, if_neg (fun z => absurd z.2 (by decide)), t40, hn]
      rfl
    · rw [e45, g_i_wi, if_neg (fun z => absurd z.2 (by decide)), hkeep 42 (by decide) (by decide), h42]
    · rw [e45, g_i_wi, if_pos ⟨rfl, rfl⟩]
end EKEYU
