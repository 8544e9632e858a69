/-! INDEX, THE REFERENCE: the different keys of a document at a path -/
section EKS
variable {m b l d : Nat} {F : Int → Int} {M : g_M} {L : List Int}
theorem I_tl_app2 {tl : Int} (U : List (Option (Int × b_E))) (y : Option (Int × b_E)) : I_tl tl (U ++ [y]) = if 64 < (I_ko y).2.length then 1 else I_tl tl U := by
  rw [I_tl_app]
  have h1 : (J_no 0 y).2.2.2.length = (I_ko y).2.length := by rcases y with _ | y <;> rfl
  rw [h1]
/-- candidates stand -/
theorem I_cs_at {D : Nat} {ls : List (Option (Int × b_E))} (hD : D ≤ 20) (hst : ∀ y, some y ∈ ls → b_st F 2706210 y.1 D y.2.1 y.2.2.1 y.2.2.2) : ∀ y ∈ I_cs ls, O_at F 2706210 y := by
  intro y hy
  unfold I_cs at hy
  split at hy
  · rw [List.mem_singleton.mp hy]
    exact fun z hz => absurd hz (by simp)
  · obtain ⟨u, hu, hy⟩ := List.mem_flatMap.mp hy
    rcases u with _ | u
    · rw [List.mem_singleton.mp hy]
      exact fun z hz => absurd hz (by simp)
    · change y ∈ (if u.2.1 = 4 then (if L_ch u.1 u.2 = [] then [none] else (L_ch u.1 u.2).map some) else [some u] : List (Option (Int × b_E))) at hy
      have hs := hst u hu
      split at hy
      · rename_i h4
        split at hy
        · rw [List.mem_singleton.mp hy]
          exact fun z hz => absurd hz (by simp)
        · obtain ⟨D1, eD, hkids, -⟩ := hs.kids (Or.inr h4)
          obtain ⟨z, hz, rfl⟩ := List.mem_map.mp hy
          intro w hw
          cases hw
          exact (L_at_st hkids z hz).1.le (by omega)
      · rw [List.mem_singleton.mp hy]
        intro w hw
        cases hw
        exact hs.le hD
theorem e_keys2 {Q : Int → g_M → Prop} {c p tl : Int} {x : List Int} {es : List b_E} {ls : List (Option (Int × b_E))} (hS : E_S m b l F M L) (hct : E_ct F c 15 es) (hdl : (b_doc es).length ≤ 2000) (hx : b_at F p x) (hp : 0 ≤ p) (hp1 : p + x.length < 2706200) (h8 : (p_sp x).length ≤ 8) (hno : b_at F 2706200 [10, 0]) (hL : L.length ≤ 40000) (ht : tl = 0 ∨ tl = 1) (h40 : g_i M m 40 = tl) (hls : ls = L_doc 15 (L_at (c + 4) es) (p_sp x)) (h : ∀ M1, e_fr (E_lk m l) M M1 → E_S m b l F M1 ((L ++ ls.map L_opt) ++ (I_un (I_oc 1) (I_cs ls)).map (L_on 2706200)) → g_i M1 m 40 = I_tl tl (I_cs ls) → Q ((L ++ ls.map L_opt).length : Nat) M1) : g_Call (d + 69) 360 [.ref m, g_n c, g_n p, g_n (p + x.length)] M (g_qI Q) := by
  have hcR : g_InR c := by
    have h1 := hct.2.1
    have h2 := hct.2.2.1
    exact ⟨by omega, by omega⟩
  have hne : p_sp x ≠ [] := by rw [p_sp_eq]; simp
  obtain ⟨k1, k2, -, -⟩ := e_keyVals hct hdl hne h8 hls
  have hstd : ∀ y, some y ∈ ls → b_st F 2706210 y.1 15 y.2.1 y.2.2.1 y.2.2.2 := fun y hy => L_doc_st hct y (by rw [← hls]; exact hy)
  have hcat := I_cs_at (by decide) hstd
  have hcsl := I_cs_len ls
  have hR := hS.1
  refine m_X12_keys hcR ⟨by omega, by omega⟩ ⟨by omega, by omega⟩ fun _ => ⟨hR.1, e_goDocS (D := 15) (de := (3, [], b_doc es)) hS (hct.dc hdl) (by decide) hx hp (by omega) (by show (b_doc es).length ≤ _; omega) ?_ (by omega) fun M1 f1 S1 => ?_⟩
  · show L.length + (L_doc 15 (L_at (c + 4) (b_ch (b_doc es))) (p_sp x)).length ≤ 80000
    rw [b_ch_doc hct.2.2.2.ok, ← hls]
    omega
  have hdoc : L_doc 15 (L_at (c + 4) (b_ch (b_doc es))) (p_sp x) = ls := by rw [b_ch_doc hct.2.2.2.ok, ← hls]
  have S1 : E_S m b l F M1 (L ++ ls.map L_opt) := by rw [← hdoc]; exact S1
  intro _ _
  obtain ⟨n1, n2, n3⟩ := hS.ne
  have h10 : g_i M m 10 = L.length := hS.2.2.2.1
  have h101 : g_i M1 m 10 = ((L ++ ls.map L_opt).length : Nat) := S1.2.2.2.1
  rw [h10, h101]
  obtain ⟨P, hPe⟩ : ∃ P, P = L ++ ls.map L_opt := ⟨_, rfl⟩
  rw [← hPe] at S1 h ⊢
  have hPl : P.length = L.length + ls.length := by rw [hPe, List.length_append, List.length_map]
  have f1' : e_fr (E_lk m l) M M1 := f1.up fun _ _ z => z.lk
  have t1 : g_i M1 m 40 = tl := by
    rw [f1.2.1 m 40 fun z => ?_]
    · exact h40
    · rcases z with z | z
      · exact n2 z.symm
      · exact absurd z.2 (by decide)
  -- a key comes
  have hadd : ∀ (U : List (Option (Int × b_E))) (y : Option (Int × b_E)) (M2 : g_M) {Q : g_M → Prop} {pl : Int}, (∃ V, I_cs ls = U ++ y :: V) → pl = L_on 2706200 y → e_fr (E_lk m l) M M2 → E_S m b l F M2 (P ++ (I_un (I_oc 1) U).map (L_on 2706200)) → g_i M2 m 40 = I_tl tl U → (∀ M3, e_fr (E_lk m l) M M3 → E_S m b l F M3 (P ++ (I_un (I_oc 1) (U ++ [y])).map (L_on 2706200)) → g_i M3 m 40 = I_tl tl (U ++ [y]) → Q M3) → g_Call (d + 68) 359 [.ref m, g_n P.length, g_n pl] M2 (g_qV Q) := by
    rintro U y M2 Q pl ⟨V, hV⟩ rfl f2 S2 t2 hq2
    have hlen := congrArg List.length hV
    rw [List.length_append, List.length_cons] at hlen
    have hul := I_un_len U
    refine e_addKey (d := d + 1) (tl := I_tl tl U) S2 hno (fun u hu => hcat u (by rw [hV]; exact List.mem_append_left _ (I_un_mem2 hu))) (hcat y (by rw [hV]; simp)) (by omega) (I_tl_01 ht U) t2 fun M3 f3 S3 t3 => ?_
    refine hq2 M3 (f2.tr f3) ?_ ?_
    · rw [I_un_app]
      exact S3
    · rw [I_tl_app2]
      exact t3
  have hcsne : ls ≠ [] → I_cs ls = ls.flatMap I_cd := fun h => if_neg h
  have h23 : ∀ (l2 l1 U : List (Option (Int × b_E))) (M2 : g_M), ls = l1 ++ l2 → ls.flatMap I_cd = U ++ l2.flatMap I_cd → e_fr (E_lk m l) M M2 → E_S m b l F M2 (P ++ (I_un (I_oc 1) U).map (L_on 2706200)) → g_i M2 m 40 = I_tl tl U → g_Run (d + 68) 360 23 [(0, .ref m), (1, g_n c), (2, g_n p), (3, g_n (p + x.length)), (4, g_n L.length), (5, g_n P.length), (6, g_n ((L.length + l1.length : Nat) : Int))] [] M2 (g_qI Q) := by
    intro l2
    induction l2 with
    | nil =>
      intro l1 U M2 hl12 hU f2 S2 t2
      rw [List.flatMap_nil, List.append_nil] at hU
      rw [List.append_nil] at hl12
      have hl1 := congrArg List.length hl12
      refine s_X12_keys_23 hcR ⟨by omega, by omega⟩ ⟨by omega, by omega⟩ ⟨by omega, by omega⟩ ⟨by omega, by omega⟩ ⟨by omega, by omega⟩ fun _ => ⟨fun z => absurd z (by omega), fun _ => ⟨fun g => ⟨S2.1.1, ?_⟩, fun g => ?_⟩⟩
      · have hls0 : ls = [] := List.length_eq_zero_iff.mp (by omega)
        have hcs0 : I_cs ls = [none] := if_pos hls0
        rw [hls0, List.flatMap_nil] at hU
        subst hU
        refine hadd [] none M2 ⟨[], by rw [hcs0]; rfl⟩ rfl f2 S2 t2 fun M3 f3 S3 t3 => ?_
        intro _ _
        rw [List.nil_append, ← hcs0] at S3 t3
        exact h M3 f3 S3 t3
      · have hls0 : ls ≠ [] := fun z => g (by rw [z, List.length_nil] at hPl; omega)
        rw [hcsne hls0, hU] at h
        exact h M2 f2 S2 t2
    | cons y l2 ih =>
      intro l1 U M2 hl12 hU f2 S2 t2
      have hlen := congrArg List.length hl12
      rw [List.length_append, List.length_cons] at hlen
      rw [List.flatMap_cons] at hU
      have hls0 : ls ≠ [] := fun z => by rw [z, List.length_nil] at hlen; omega
      have hcs := hcsne hls0
      have hls1 : ls = (l1 ++ [y]) ++ l2 := by rw [hl12]; simp
      have hc1 : ((L.length + l1.length : Nat) : Int) + 1 = ((L.length + (l1 ++ [y]).length : Nat) : Int) := by rw [List.length_append, List.length_singleton]; omega
      have hget : ∀ {M3 : g_M} {T : List Int}, E_S m b l F M3 (P ++ T) → g_i M3 l ((L.length + l1.length : Nat) : Int) = L_opt y := fun {M3 T} S => (S.get (by
        rw [List.getElem?_append_left (by omega), hPe, List.getElem?_append_right (by omega), show L.length + l1.length - L.length = l1.length by omega, hl12, List.map_append, List.getElem?_append_right (by rw [List.length_map]; omega), List.length_map, Nat.sub_self]
        rfl)).1
      have hnext : ∀ (U2 : List (Option (Int × b_E))) (M3 : g_M), ls.flatMap I_cd = U2 ++ l2.flatMap I_cd → e_fr (E_lk m l) M M3 → E_S m b l F M3 (P ++ (I_un (I_oc 1) U2).map (L_on 2706200)) → g_i M3 m 40 = I_tl tl U2 → g_InR (((L.length + l1.length : Nat) : Int) + 1) ∧ g_Run (d + 68) 360 23 [(0, .ref m), (1, g_n c), (2, g_n p), (3, g_n (p + x.length)), (4, g_n L.length), (5, g_n P.length), (6, g_n (((L.length + l1.length : Nat) : Int) + 1))] [] M3 (g_qI Q) := by
        intro U2 M3 hU2 f3 S3 t3
        refine ⟨⟨by omega, by omega⟩, ?_⟩
        rw [hc1]
        exact ih (l1 ++ [y]) U2 M3 hls1 hU2 f3 S3 t3
      refine s_X12_keys_23 hcR ⟨by omega, by omega⟩ ⟨by omega, by omega⟩ ⟨by omega, by omega⟩ ⟨by omega, by omega⟩ ⟨by omega, by omega⟩ fun _ => ⟨fun _ => ⟨S2.1.1, l, S2.2.1, 80000, S2.2.2.1, ⟨by omega, by omega⟩, ?_⟩, fun z => absurd (by omega) z⟩
      rw [hget S2]
      rcases y with _ | y
      · refine ⟨fun _ => hadd U none M2 ⟨l2.flatMap I_cd, by rw [hcs, hU]; rfl⟩ rfl f2 S2 t2 fun M3 f3 S3 t3 => ?_, fun g => absurd rfl g⟩
        intro _ _
        exact hnext _ M3 (by rw [hU]; simp [I_cd]) f3 S3 t3
      · have hs := hstd y (by rw [hl12]; simp)
        have hy0 := hs.2.2.2.1
        have hy1 := hs.2.2.2.2
        have hyl := b_el_len y.2.1 y.2.2.1 y.2.2.2
        have hop : L_opt (some y) = y.1 := rfl
        have hsM : ∀ {M3 : g_M} {T : List Int}, E_S m b l F M3 T → b_st (g_i M3 b) 2706210 y.1 15 y.2.1 y.2.2.1 y.2.2.2 := fun S => by rw [S.2.2.2.2.2.1]; exact hs
        rw [hop]
        refine ⟨fun g => absurd g (by omega), fun _ => ⟨b, S2.1.2.1, 2706210, S2.1.2.2, ⟨by omega, by omega⟩, ?_⟩⟩
        rw [(hsM S2).val.2.2.2]
        have hcdy : I_cd (some y) = if y.2.1 = 4 then (if L_ch y.1 y.2 = [] then [none] else (L_ch y.1 y.2).map some) else [some y] := rfl
        refine ⟨fun h4 => ?_, fun h4 => ?_⟩
        · rw [if_pos h4] at hcdy
          obtain ⟨D2, xs0, e1, e2, e3, e4, e5, -⟩ := hs.tl (Or.inr h4)
          have hch : L_ch y.1 y.2 = L_at (y.1 + 6 + y.2.2.1.length) xs0 := by
            show L_at _ (b_ch y.2.2.2) = _
            rw [e5]
          have e4M : ∀ {M3 : g_M} {T : List Int}, E_S m b l F M3 T → e_tl (g_i M3 b) (y.1 + 2 + y.2.2.1.length) (y.1 + 6 + y.2.2.1.length) D2 xs0 xs0 := fun S => by rw [S.2.2.2.2.2.1]; exact e4
          have hvl := congrArg List.length e2
          rw [b_doc_len] at hvl
          -- the items
          have h110 : ∀ (xs cs : List b_E) (q : Int) (U2 : List (Option (Int × b_E))) (M3 : g_M), xs0 = cs ++ xs → q = y.1 + 6 + y.2.2.1.length + (b_ser cs).length → ls.flatMap I_cd = U2 ++ ((L_at q xs).map some ++ l2.flatMap I_cd) → e_fr (E_lk m l) M M3 → E_S m b l F M3 (P ++ (I_un (I_oc 1) U2).map (L_on 2706200)) → g_i M3 m 40 = I_tl tl U2 → g_Run (d + 68) 360 110 [(0, .ref m), (1, g_n c), (2, g_n p), (3, g_n (p + x.length)), (4, g_n L.length), (5, g_n P.length), (6, g_n ((L.length + l1.length : Nat) : Int)), (7, g_n y.1), (8, g_n q)] [] M3 (g_qI Q) := by
            intro xs
            induction xs with
            | nil =>
              intro cs q U2 M3 k1 k2 hU2 f3 S3 t3
              rw [List.append_nil] at k1
              have htl : e_tl (g_i M3 b) (y.1 + 2 + y.2.2.1.length) q D2 xs0 [] := by
                have h9 : e_tl (g_i M3 b) (y.1 + 2 + y.2.2.1.length) (y.1 + 6 + y.2.2.1.length) D2 xs0 (xs0 ++ []) := by
                  rw [List.append_nil]
                  exact e4M S3
                rw [k2, ← k1]
                exact h9.app
              have hqR : g_InR q := by
                have := htl.2.2.2.1.2.2.1
                have := htl.2.2.2.1.2.2.2.1
                exact ⟨by omega, by omega⟩
              refine s_X12_keys_110 hcR ⟨by omega, by omega⟩ ⟨by omega, by omega⟩ ⟨by omega, by omega⟩ ⟨by omega, by omega⟩ ⟨by omega, by omega⟩ ⟨by omega, by omega⟩ hqR fun _ => ⟨S3.1.1, e_vl2 (d := d + 66) S3.1 (hsM S3) ?_⟩
              intro _ _ _
              refine e_lastE (d := d + 65) S3.1 htl ?_
              intro _ _ _
              exact ⟨fun g => absurd g (by omega), fun _ => hnext U2 M3 (by rw [hU2]; rfl) f3 S3 t3⟩
            | cons w xs ihx =>
              intro cs q U2 M3 k1 k2 hU2 f3 S3 t3
              have htl : e_tl F (y.1 + 2 + y.2.2.1.length) q D2 xs0 (w :: xs) := by
                have k1' : e_tl F (y.1 + 2 + y.2.2.1.length) (y.1 + 6 + y.2.2.1.length) D2 xs0 (cs ++ w :: xs) := by
                  rw [← k1]
                  exact e4
                have := k1'.app
                rwa [← k2] at this
              have hw := htl.cons.1
              have hwR := hw.R (by decide)
              have htM : e_tl (g_i M3 b) (y.1 + 2 + y.2.2.1.length) q D2 xs0 (w :: xs) := by rw [S3.2.2.2.2.2.1]; exact htl
              have hU3 : ls.flatMap I_cd = U2 ++ some (q, w) :: ((L_at (q + (b_el w.1 w.2.1 w.2.2).length) xs).map some ++ l2.flatMap I_cd) := hU2
              refine s_X12_keys_110 hcR ⟨by omega, by omega⟩ ⟨by omega, by omega⟩ ⟨by omega, by omega⟩ ⟨by omega, by omega⟩ ⟨by omega, by omega⟩ ⟨by omega, by omega⟩ hwR fun _ => ⟨S3.1.1, e_vl2 (d := d + 66) S3.1 (hsM S3) ?_⟩
              intro _ _ _
              refine e_lastC (d := d + 65) S3.1 htM fun r hr1 hr2 => ?_
              intro _ _ _
              refine ⟨fun _ => hadd U2 (some (q, w)) M3 ⟨_, by rw [hcs]; exact hU3⟩ rfl f3 S3 t3 fun M4 f4 S4 t4 => ?_, fun g => absurd hr1 g⟩
              intro _ _
              have hwM : b_st (g_i M4 b) 2706210 q D2 w.1 w.2.1 w.2.2 := by rw [S4.2.2.2.2.2.1]; exact hw
              refine e_behind (d := d + 64) S4.1 hwM.1 hwM.2.1 (b_gv_vs hwM.2.2.1) hwM.2.2.2.1 hwM.2.2.2.2 ?_
              intro _ _ _
              exact ihx (cs ++ [w]) (q + (b_el w.1 w.2.1 w.2.2).length) (U2 ++ [some (q, w)]) M4 (by rw [k1]; simp) (by rw [b_ser_app, List.length_append, b_ser_1]; omega) (by rw [hU3]; simp) f4 S4 t4
          have hq4 : y.1 + 2 + (y.2.2.1.length : Int) + 4 = y.1 + 6 + y.2.2.1.length := by omega
          refine e_vl2 (d := d + 66) S2.1 (hsM S2) ?_
          intro _ _ _
          have e4c : e_tl (g_i M2 b) (y.1 + 2 + y.2.2.1.length) (y.1 + 2 + y.2.2.1.length + 4) D2 xs0 xs0 := by rw [hq4]; exact e4M S2
          refine e_countE (d := d + 63) S2.1 e4c ?_
          intro _ _ _
          refine ⟨fun g0 => ?_, fun g0 => ?_⟩
          · have hx0 : xs0 = [] := List.length_eq_zero_iff.mp (by omega)
            have hLc : L_ch y.1 y.2 = [] := by rw [hch, hx0]; rfl
            rw [if_pos hLc] at hcdy
            rw [hcdy] at hU
            refine hadd U none M2 ⟨l2.flatMap I_cd, by rw [hcs, hU]; rfl⟩ rfl f2 S2 t2 fun M3 f3 S3 t3 => ?_
            intro _ _
            refine e_vl2 (d := d + 66) S3.1 (hsM S3) ?_
            intro _ _ _
            refine e_first (d := d + 67) (by omega) (by omega) ?_
            intro _ _ _
            rw [hq4]
            exact h110 [] [] _ _ M3 (by rw [hx0]; rfl) (by show _ = _ + ((0 : Nat) : Int); omega) (by rw [hU]; simp [L_at]) f3 S3 t3
          · have hLc : L_ch y.1 y.2 ≠ [] := by
              rw [hch]
              rcases xs0 with _ | ⟨w, xs⟩
              · exact absurd rfl g0
              · exact List.cons_ne_nil _ _
            rw [if_neg hLc, hch] at hcdy
            rw [hcdy] at hU
            refine e_vl2 (d := d + 66) S2.1 (hsM S2) ?_
            intro _ _ _
            refine e_first (d := d + 67) (by omega) (by omega) ?_
            intro _ _ _
            rw [hq4]
            exact h110 xs0 [] _ U M2 rfl (by show _ = _ + ((0 : Nat) : Int); omega) (by rw [hU]) f2 S2 t2
        · rw [if_neg h4] at hcdy
          rw [hcdy] at hU
          refine hadd U (some y) M2 ⟨l2.flatMap I_cd, by rw [hcs, hU]; rfl⟩ rfl f2 S2 t2 fun M3 f3 S3 t3 => ?_
          intro _ _
          exact hnext _ M3 (by rw [hU]; simp) f3 S3 t3
  refine h23 ls [] [] M1 rfl rfl f1' ?_ t1
  show E_S m b l F M1 (P ++ [])
  rw [List.append_nil]
  exact S1
end EKS
