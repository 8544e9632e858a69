/-! STAGES: a stage that is no filter, the reference -/
def P_E (m b ma be l go fo kr : Nat) (y : Nat) (k : Int) : Prop := E_SG m b ma be y k ∨ E_lf m l y k ∨ y = go ∨ y = fo ∨ y = kr ∨ (y = m ∧ (k = 7 ∨ k = 8 ∨ k = 11 ∨ k = 32 ∨ k = 33))
def P_R (m b ma be l ob go fo kr : Nat) (os : List (List b_E)) (M : g_M) : Prop := E_gT m b ma be go fo M ∧ (g_r M m 34 = some kr ∧ g_A M kr 1 800) ∧ E_S m b l (g_i M b) M [] ∧ E_os m b ob os M ∧ (ob ≠ ma ∧ ob ≠ be ∧ ob ≠ go ∧ ob ≠ fo) ∧ b_at (g_i M b) 2706200 [10, 0]
section PR
variable {m b ma be l ob go fo kr : Nat} {M M1 : g_M} {g : Int} {os ds : List (List b_E)}
theorem P_R.no (h : P_R m b ma be l ob go fo kr os M) : (∀ k, ¬ (4 ≤ k ∧ k ≤ 6) → k ≠ 7 → k ≠ 8 → k ≠ 10 → k ≠ 11 → k ≠ 19 → ¬ (23 ≤ k ∧ k ≤ 29) → k ≠ 32 → k ≠ 33 → ¬ P_E m b ma be l go fo kr m k) ∧ (∀ k, ¬ (802000 ≤ k ∧ k < 922000) → ¬ (2606200 ≤ k ∧ k < 2706200) → ¬ P_E m b ma be l go fo kr b k) ∧ (∀ k, ¬ P_E m b ma be l go fo kr ob k) ∧ (∀ k, ¬ E_SG m b ma be l k) ∧ l ≠ go ∧ l ≠ fo := by
  obtain ⟨⟨hT, -, ⟨a1, a2⟩, -⟩, ⟨-, hkr⟩, hS, ⟨-, ho, -⟩, ⟨o1, o2, o3, o4⟩, -⟩ := h
  obtain ⟨n1, n2, n3, n4, n5, n6⟩ := hT.ne
  obtain ⟨l1, l2, l3⟩ := hS.ne
  have hm := hT.1.1
  have hb := hT.1.2.2
  have hl := hS.2.2.1
  refine ⟨fun k k1 k2 k3 k4 k5 k6 k7 k8 k9 => ?_, fun k k1 k2 => ?_, fun k => ?_, fun k => ?_, g_neAA hl a1 (by omega), g_neAA hl a2 (by omega)⟩
  · rintro ((⟨-, z⟩ | z | z | ⟨z, -⟩) | (z | ⟨-, z⟩) | z | z | z | ⟨-, z⟩)
    · omega
    · exact n2 z
    · exact n3 z
    · exact n1 z
    · exact g_neOA hm hl z
    · exact k4 z
    · exact g_neOA hm a1 z
    · exact g_neOA hm a2 z
    · exact g_neOA hm hkr z
    · omega
  · rintro ((⟨z, -⟩ | z | z | ⟨-, z⟩) | (z | ⟨z, -⟩) | z | z | z | ⟨z, -⟩)
    · exact n1 z.symm
    · exact n4 z
    · exact n5 z
    · omega
    · exact g_neAA hb hl (by omega) z
    · exact n1 z.symm
    · exact g_neAA hb a1 (by omega) z
    · exact g_neAA hb a2 (by omega) z
    · exact g_neAA hb hkr (by omega) z
    · exact n1 z.symm
  · rintro ((⟨z, -⟩ | z | z | ⟨z, -⟩) | (z | ⟨z, -⟩) | z | z | z | ⟨z, -⟩)
    · exact g_neOA hm ho z.symm
    · exact o1 z
    · exact o2 z
    · exact g_neAA ho hb (by omega) z
    · exact g_neAA ho hl (by omega) z
    · exact g_neOA hm ho z.symm
    · exact o3 z
    · exact o4 z
    · exact g_neAA ho hkr (by omega) z
    · exact g_neOA hm ho z.symm
  · rintro (⟨z, -⟩ | z | z | ⟨z, -⟩)
    · exact l2 z
    · exact g_neAA hl hT.2.2.2.1 (by omega) z
    · exact g_neAA hl hT.2.2.2.2.1 (by omega) z
    · exact l1 z
theorem P_R.up (h : P_R m b ma be l ob go fo kr os M) (f : e_fr (P_E m b ma be l go fo kr) M M1) (hS : E_S m b l (g_i M1 b) M1 []) : P_R m b ma be l ob go fo kr os M1 := by
  obtain ⟨nm, nb, no, -⟩ := h.no
  obtain ⟨h1, ⟨h2, h3⟩, -, ⟨o1, o2, o3, o4, o5⟩, h5, h6⟩ := h
  refine ⟨h1.fr f, ⟨by rw [f.2.2]; exact h2, f.A h3⟩, hS, ⟨by rw [f.2.2]; exact o1, f.A o2, ?_, o4, fun i es hi => ?_⟩, h5, b_at_keep h6 fun k k1 k2 => f.2.1 b k (nb k (by omega) (by omega))⟩
  · rw [f.2.1 m 21 (nm 21 (by decide) (by decide) (by decide) (by decide) (by decide) (by decide) (by decide) (by decide) (by decide))]
    exact o3
  · obtain ⟨p, p1, p2, p3, p4⟩ := o5 i es hi
    exact ⟨p, by rw [f.2.1 ob i (no i)]; exact p1, b_at_keep p2 fun k k1 k2 => f.2.1 b k (nb k (by omega) (by omega)), p3, p4⟩
/-- frames in which the leaves stay -/
theorem P_R.fx {S : Nat → Int → Prop} (h : P_R m b ma be l ob go fo kr os M) (f : e_fr S M M1) (hS : ∀ y k, S y k → P_E m b ma be l go fo kr y k) (h1 : ¬ S m 10) (h2 : ∀ k, ¬ S l k) : e_fr (P_E m b ma be l go fo kr) M M1 ∧ P_R m b ma be l ob go fo kr os M1 := ⟨f.up hS, h.up (f.up hS) (h.2.2.1.fx f h1 h2)⟩
theorem P_E.j {y : Nat} {k : Int} (h : J_SG m b ma be l y k) : P_E m b ma be l go fo kr y k := h.elim Or.inl fun z => Or.inr (Or.inl z)
theorem P_E.gg {y : Nat} {k : Int} (h : G_SG m b ma be go fo y k) : P_E m b ma be l go fo kr y k := by
  rcases h with z | z | z | ⟨z, z2⟩
  · exact Or.inl z
  · exact Or.inr (Or.inr (Or.inl z))
  · exact Or.inr (Or.inr (Or.inr (Or.inl z)))
  · exact Or.inr (Or.inr (Or.inr (Or.inr (Or.inr ⟨z, by omega⟩))))
theorem P_E.s {y : Nat} {k : Int} (h : E_sS m l kr ma be y k) : P_E m b ma be l go fo kr y k := by
  rcases h with (z | z) | z | z
  · exact Or.inr (Or.inl z)
  · exact Or.inr (Or.inr (Or.inr (Or.inr (Or.inl z))))
  · exact Or.inl (Or.inr (Or.inl z))
  · exact Or.inl (Or.inr (Or.inr (Or.inl z)))
theorem e_stage {d n De : Nat} {Q : Int → g_M → Prop} {pe : Int} {e : b_E} (hC : P_R m b ma be l ob go fo kr os M) (hg : g_i M m 24 = g) (hg01 : g = 0 ∨ g = 1) (hbt : E_belt m b be g ds M) (he : b_st (g_i M b) 2100 pe De e.1 e.2.1 e.2.2) (hf : T_f e = 0) (hDe : De ≤ 17) (hn : 16 ≤ n) (hq : (T_m n os e ds).1 ≠ 0 → ∀ M1, e_fr (P_E m b ma be l go fo kr) M M1 → P_R m b ma be l ob go fo kr os M1 → (g_i M1 m 24 = 0 ∨ g_i M1 m 24 = 1) → Q (T_m n os e ds).1 M1) (hq0 : (T_m n os e ds).1 = 0 → ∀ M1 g1, e_fr (P_E m b ma be l go fo kr) M M1 → P_R m b ma be l ob go fo kr os M1 → (g1 = 0 ∨ g1 = 1) → g_i M1 m 24 = g1 → E_belt m b be g1 (T_m n os e ds).2 M1 → Q 0 M1) : g_Call (d + 75) 339 [.ref m, g_n pe] M (g_qI Q) := by
  obtain ⟨nm, nb, no, nl, lg, lf⟩ := hC.no
  obtain ⟨hgT, ⟨h34, hkr⟩, hS, hos, ⟨o1, o2, o3, o4⟩, hno⟩ := id hC
  have hT := hgT.1
  obtain ⟨l1, l2, l3⟩ := hS.ne
  have he4 := he.2.2.2.1
  have he5 := he.2.2.2.2
  have hes' : b_st (g_i M b) 2706210 pe De e.1 e.2.1 e.2.2 := ⟨he.1, he.2.1, he.2.2.1, he4, by omega⟩
  have hg10 : (1 - g = 0 ∨ 1 - g = 1) := by omega
  have n10 : ¬ E_SG m b ma be m 10 := by
    obtain ⟨n1, n2, n3, n4, n5, n6⟩ := hT.ne
    rintro (⟨-, z⟩ | z | z | ⟨z, -⟩)
    · omega
    · exact n2 z
    · exact n3 z
    · exact n1 z
  have h5 : ∀ ms, T_m n os e ds = T_b ms → S_bad ms → ∀ M1, e_fr (P_E m b ma be l go fo kr) M M1 → P_R m b ma be l ob go fo kr os M1 → g_i M1 m 24 = 1 - g → Q 5 M1 := fun ms z z2 M1 k1 k2 k3 => by
    rw [z, T_b_1 z2] at hq
    exact hq (by decide) M1 k1 k2 (by rw [k3]; exact hg10)
  have h0 : ∀ ms, (T_m n os e ds = (0, ms) ∨ (T_m n os e ds = T_b ms ∧ ¬ S_bad ms)) → ∀ M1 g1, e_fr (P_E m b ma be l go fo kr) M M1 → P_R m b ma be l ob go fo kr os M1 → (g1 = 0 ∨ g1 = 1) → g_i M1 m 24 = g1 → E_belt m b be g1 ms M1 → Q 0 M1 := fun ms z => by
    have z4 : T_m n os e ds = (0, ms) := by
      rcases z with z | ⟨z, z3⟩
      · exact z
      · rw [z, T_b_0 z3]
    rw [z4] at hq0
    exact hq0 rfl
  have hfin : ∀ ms, T_m n os e ds = T_b ms → E_fin m b ma be M g Q ms := fun ms z => ⟨fun z3 M4 h4 k3 => by
    obtain ⟨k1, k2⟩ := hC.fx h4 (fun y k z => Or.inl z) n10 nl
    exact h5 ms z z3 M4 k1 k2 k3, fun z3 M4 h4 k3 k4 => by
    obtain ⟨k1, k2⟩ := hC.fx h4 (fun y k z => Or.inl z) n10 nl
    exact h0 ms (Or.inr ⟨z, z3⟩) M4 (1 - g) k1 k2 hg10 k3 k4⟩
  rcases S_cd_R e.2.1 with hc | hc | hc | hc | hc | hc | hc | hc
  · rw [T_f0 hc] at hf
    exact absurd hf (by decide)
  · rw [T_f1 hc] at hf
    have hk : e.1 = 3 := by
      by_cases g : e.1 = 3
      · exact g
      · unfold S_pf at hf
        rw [if_neg g] at hf
        exact absurd hf (by decide)
    have hpf : S_pfL (b_ch e.2.2) = 0 := by
      unfold S_pf at hf
      rw [if_pos hk] at hf
      by_cases g : b_ch e.2.2 = []
      · rw [if_pos g] at hf
        exact absurd hf (by decide)
      · rw [if_neg g] at hf
        exact hf
    exact e_stProject (d := d + 4) (n := n) hT hg hg01 hbt he (S_cd_1.mp hc) hk hpf (by omega) hn (hfin _ (T_m1 hc))
  · rw [T_f2 hc] at hf
    have hdl : S_dol e = true := by
      cases g : S_dol e with
      | true => rfl
      | false =>
        rw [if_pos g] at hf
        exact absurd hf (by decide)
    rw [if_neg (by rw [hdl]; decide)] at hf
    have hpl : p_plain (S_pt e) := by
      by_cases g : p_plain (S_pt e)
      · exact g
      · rw [if_pos (by unfold S_ef; rw [hdl, F_pl_f g]; rfl)] at hf
        exact absurd hf (by decide)
    exact e_stUnwind (d := d + 4) hT hg hg01 hbt he ((S_cd_ne 42 2 (by decide)).mp hc) hdl hpl (hfin _ (T_m2 hc))
  · rw [T_f3 hc] at hf
    have gl : ∀ k, ¬ G_SG m b ma be go fo l k := fun k z => by
      rcases z with z | z | z | ⟨z, -⟩
      · exact nl k z
      · exact lg z
      · exact lf z
      · exact l2 z
    have gm : ¬ G_SG m b ma be go fo m 10 := fun z => by
      rcases z with z | z | z | ⟨-, z⟩
      · exact n10 z
      · exact g_neOA hT.1.1 hgT.2.2.1.1 z
      · exact g_neOA hT.1.1 hgT.2.2.1.2 z
      · omega
    refine e_stGroup (d := d) (n := n) hgT hg hg01 hbt hno he ((S_cd_ne 43 3 (by decide)).mp hc) hf hDe hn (fun z M1 f k3 => ?_) (fun z z2 M1 f k3 => ?_) fun z z2 M1 f k3 k4 => ?_
    · obtain ⟨k1, k2⟩ := hC.fx f (fun y k z => P_E.gg z) gm gl
      rw [T_m3a hc z] at hq
      exact hq (by decide) M1 k1 k2 (by rw [k3]; exact hg10)
    · obtain ⟨k1, k2⟩ := hC.fx f (fun y k z => P_E.gg z) gm gl
      exact h5 _ (T_m3b hc z) z2 M1 k1 k2 k3
    · obtain ⟨k1, k2⟩ := hC.fx f (fun y k z => P_E.gg z) gm gl
      exact h0 _ (Or.inr ⟨T_m3b hc z, z2⟩) M1 (1 - g) k1 k2 hg10 k3 k4
  · rw [T_f4 hc] at hf
    refine e_stSort (d := d + 70) hT.1 hes' ((S_cd_ne 44 4 (by decide)).mp hc) ?_
    refine e_sort (d := d + 22) (L := []) hT h34 hkr hS (by decide) hbt he hf fun M1 f S1 k4 => ?_
    intro _ _ _
    have f2 : e_fr (P_E m b ma be l go fo kr) M M1 := f.up fun y k z => P_E.s z
    refine h0 _ (Or.inl (T_m4 hc)) M1 g f2 (hC.up f2 S1.sf) hg01 ?_ k4
    rw [f.2.1 m 24 fun z => by
      rcases z with ((z | ⟨-, z⟩) | z) | z | z
      · exact l2 z.symm
      · exact absurd z (by decide)
      · exact g_neOA hT.1.1 hkr z
      · exact hT.ne.2.1 z
      · exact hT.ne.2.2.1 z]
    exact hg
  · rw [T_f56 (Or.inl hc)] at hf
    obtain ⟨t, ht⟩ : ∃ t, S_sk e ds.length = some t := by
      cases z : S_sk e ds.length with
      | some t => exact ⟨t, rfl⟩
      | none =>
        rw [if_pos (S_sk_no _ _ z)] at hf
        exact absurd hf (by decide)
    have hn45 : e.2.1 = b_tx 45 := (S_cd_ne 45 5 (by decide)).mp hc
    refine e_stCut (d := d + 70) hT.1 hes' (Or.inl hn45) ?_
    refine e_skipLimit (d := d + 69) hT hbt hes' ht fun M1 f k4 => ?_
    rw [if_neg (fun z => absurd (hn45.symm.trans z) (by decide +kernel))] at k4
    obtain ⟨k1, k2⟩ := hC.fx f (fun y k z => Or.inl (z.elim (fun z => Or.inl ⟨z.1, by omega⟩) fun z => Or.inr (Or.inr (Or.inl z)))) (fun z => z.elim (fun z => absurd z.2 (by decide)) fun z => hT.ne.2.2.1 z) fun k z => z.elim (fun z => l2 z.1) fun z => g_neAA hS.2.2.1 hT.2.2.2.2.1 (by omega) z
    have h8 := T_m5 (n := n) (os := os) (ds := ds) hc
    rw [ht, Option.getD_some] at h8
    refine h0 _ (Or.inl h8) M1 g k1 k2 hg01 ?_ k4
    rw [f.2.1 m 24 fun z => z.elim (fun z => absurd z.2 (by decide)) fun z => hT.ne.2.2.1 z]
    exact hg
  · rw [T_f56 (Or.inr hc)] at hf
    obtain ⟨t, ht⟩ : ∃ t, S_sk e ds.length = some t := by
      cases z : S_sk e ds.length with
      | some t => exact ⟨t, rfl⟩
      | none =>
        rw [if_pos (S_sk_no _ _ z)] at hf
        exact absurd hf (by decide)
    have hn46 : e.2.1 = b_tx 46 := (S_cd_ne 46 6 (by decide)).mp hc
    refine e_stCut (d := d + 70) hT.1 hes' (Or.inr hn46) ?_
    refine e_skipLimit (d := d + 69) hT hbt hes' ht fun M1 f k4 => ?_
    rw [if_pos (hn46.trans (show b_tx 46 = b_tx 123 from rfl))] at k4
    obtain ⟨k1, k2⟩ := hC.fx f (fun y k z => Or.inl (z.elim (fun z => Or.inl ⟨z.1, by omega⟩) fun z => Or.inr (Or.inr (Or.inl z)))) (fun z => z.elim (fun z => absurd z.2 (by decide)) fun z => hT.ne.2.2.1 z) fun k z => z.elim (fun z => l2 z.1) fun z => g_neAA hS.2.2.1 hT.2.2.2.2.1 (by omega) z
    have h8 := T_m6 (n := n) (os := os) (ds := ds) hc
    rw [ht, Option.getD_some] at h8
    refine h0 _ (Or.inl h8) M1 g k1 k2 hg01 ?_ k4
    rw [f.2.1 m 24 fun z => z.elim (fun z => absurd z.2 (by decide)) fun z => hT.ne.2.2.1 z]
    exact hg
  · rw [T_f7 hc] at hf
    refine e_stLookup (d := d + 4) (L := []) hT hg hg01 hbt hos o1 o2 hno he ((S_cd_ne 47 7 (by decide)).mp hc) hf (by decide) hS ⟨fun z M1 f S1 k3 => ?_, fun z M1 f S1 k3 k4 => ?_⟩
    · have f2 : e_fr (P_E m b ma be l go fo kr) M M1 := f.up fun y k z => P_E.j z
      exact h5 _ (T_m7 hc) z M1 f2 (hC.up f2 S1) k3
    · have f2 : e_fr (P_E m b ma be l go fo kr) M M1 := f.up fun y k z => P_E.j z
      exact h0 _ (Or.inr ⟨T_m7 hc, z⟩) M1 (1 - g) f2 (hC.up f2 S1) hg10 k3 k4
end PR
