/-! STAGES: the pipeline of a request, the reference -/
def R_sh (b cn od : Nat) (w : Int) (ds : List (List b_E)) (M : g_M) : Prop := g_i M cn w = ds.length ∧ S_ok ds ∧ ∀ (i : Nat) (es : List b_E), ds[i]? = some es → ∃ s, g_i M od (200 * w + i) = s ∧ 0 ≤ s ∧ s < 400 ∧ b_at (g_i M b) (2000 + 2000 * s) (b_doc es)
/-- the reference's numbers of documents and their slots -/
def R_tb (m cn od : Nat) (M : g_M) : Prop := g_r M m 68 = some cn ∧ g_A M cn 1 2 ∧ g_r M m 71 = some od ∧ g_A M od 1 400
section EFILL
variable {m b cn od : Nat} {M : g_M} {w : Int} {ds : List (List b_E)}
theorem e_document {d i : Nat} {es : List b_E} {Q : Int → g_M → Prop} (hR : e_R M m b) (hT : R_tb m cn od M) (hw : w = 0 ∨ w = 1) (hs : R_sh b cn od w ds M) (hi : ds[i]? = some es) (hq : ∀ p, b_at (g_i M b) p (b_doc es) → 2000 ≤ p → p + (b_doc es).length ≤ 802000 → Q p M) : g_Call (d + 1) 404 [.ref m, g_n w, g_n i] M (g_qI Q) := by
  obtain ⟨t1, t2, t3, t4⟩ := hT
  obtain ⟨h1, hok, h2⟩ := hs
  obtain ⟨s, h3, h4, h5, h6⟩ := h2 i es hi
  have hl := hok.1
  have hi2 := (List.getElem?_eq_some_iff.mp hi).1
  have m1 := (hok.2.2 es (List.mem_of_getElem? hi)).1
  refine m_X12_document ⟨by omega, by omega⟩ ⟨by omega, by omega⟩ fun _ => ⟨hR.1, od, t3, ⟨by omega, by omega⟩, ⟨by omega, by omega⟩, 400, t4, ⟨by omega, by omega⟩, ?_⟩
  rw [h3]
  exact ⟨⟨by omega, by omega⟩, ⟨by omega, by omega⟩, hq _ h6 (by omega) (by omega)⟩
theorem R_sh.fr {S : Nat → Int → Prop} {M1 : g_M} (h : R_sh b cn od w ds M) (f : e_fr S M M1) (h1 : ∀ k, ¬ S cn k) (h2 : ∀ k, ¬ S od k) (h3 : ∀ k, k < 802000 → ¬ S b k) : R_sh b cn od w ds M1 := by
  obtain ⟨k1, k2, k3⟩ := h
  refine ⟨by rw [f.2.1 cn w (h1 w)]; exact k1, k2, fun i es hi => ?_⟩
  obtain ⟨s, s1, s2, s3, s4⟩ := k3 i es hi
  have m1 := (k2.2.2 es (List.mem_of_getElem? hi)).1
  exact ⟨s, by rw [f.2.1 od _ (h2 _)]; exact s1, s2, s3, b_at_keep s4 fun k k5 k6 => f.2.1 b k (h3 k (by omega))⟩
end EFILL
section EPL
variable {m b ma be l ob go fo kr cn od : Nat} {M : g_M} {os ds : List (List b_E)}
/-- all that the reference's pipeline works with, but for the other shelf's documents -/
def P_R0 (m b ma be l ob go fo kr : Nat) (M : g_M) : Prop := E_gT m b ma be go fo M ∧ (g_r M m 34 = some kr ∧ g_A M kr 1 800) ∧ E_S m b l (g_i M b) M [] ∧ (g_r M m 20 = some ob ∧ g_A M ob 1 200) ∧ (ob ≠ ma ∧ ob ≠ be ∧ ob ≠ go ∧ ob ≠ fo) ∧ b_at (g_i M b) 2706200 [10, 0]
def P_FS (m be ob : Nat) (y : Nat) (k : Int) : Prop := (y = m ∧ (k = 19 ∨ k = 21)) ∨ y = be ∨ y = ob
theorem P_R0.fr {M1 : g_M} (h : P_R0 m b ma be l ob go fo kr M) (f : e_fr (P_FS m be ob) M M1) : P_R0 m b ma be l ob go fo kr M1 ∧ (∀ k, g_i M1 b k = g_i M b k) ∧ ∀ k, k ≠ 19 → k ≠ 21 → g_i M1 m k = g_i M m k := by
  obtain ⟨h1, ⟨h2, h3⟩, hS, ⟨h4, h5⟩, h6, h7⟩ := h
  have hT := h1.1
  have hm := hT.1.1
  have hb := hT.1.2.2
  have hbe := hT.2.2.2.2.1
  have hl := hS.2.2.1
  have eb : ∀ k, g_i M1 b k = g_i M b k := fun k => f.2.1 b k fun z => by
    rcases z with ⟨z, -⟩ | z | z
    · exact g_neOA hm hb z.symm
    · exact g_neAA hb hbe (by omega) z
    · exact g_neAA hb h5 (by omega) z
  have em : ∀ k, k ≠ 19 → k ≠ 21 → g_i M1 m k = g_i M m k := fun k k1 k2 => f.2.1 m k fun z => by
    rcases z with ⟨-, z⟩ | z | z
    · omega
    · exact g_neOA hm hbe z
    · exact g_neOA hm h5 z
  refine ⟨⟨h1.fr f, ⟨by rw [f.2.2]; exact h2, f.A h3⟩, hS.fx f (fun z => ?_) fun k z => ?_, ⟨by rw [f.2.2]; exact h4, f.A h5⟩, h6, b_at_keep h7 fun k _ _ => eb k⟩, eb, em⟩
  · rcases z with ⟨-, z⟩ | z | z
    · omega
    · exact g_neOA hm hbe z
    · exact g_neOA hm h5 z
  · rcases z with ⟨z, -⟩ | z | z
    · exact g_neOA hm hl z.symm
    · exact g_neAA hl hbe (by omega) z
    · exact g_neAA hl h5 (by omega) z
theorem e_pipeline {n De dd : Nat} {Q : Int → g_M → Prop} {pe w g : Int} {hd : b_E} (hn : 16 ≤ n) (hDe : De ≤ 18) (hw : w = 0 ∨ w = 1) (hC : P_R0 m b ma be l ob go fo kr M) (hT : R_tb m cn od M) (hne : (cn ≠ be ∧ cn ≠ ob) ∧ od ≠ be ∧ od ≠ ob) (hg : g_i M m 24 = g) (hg01 : g = 0 ∨ g = 1) (hds : R_sh b cn od w ds M) (hos : R_sh b cn od (1 - w) os M) (hs : b_st (g_i M b) 2100 pe (De + 1) hd.1 hd.2.1 hd.2.2) (hk4 : hd.1 = 4) (hk3 : ∀ it ∈ b_ch hd.2.2, it.1 = 3) (hf : (T_pl n os (L_ch pe hd) ds).1.1 ≠ 0 → ∀ M1 M2, e_fr (P_FS m be ob) M M1 → P_R m b ma be l ob go fo kr os M1 → e_fr (P_E m b ma be l go fo kr) M1 M2 → P_R m b ma be l ob go fo kr os M2 → (g_i M2 m 24 = 0 ∨ g_i M2 m 24 = 1) → g_i M2 m 7 = (T_pl n os (L_ch pe hd) ds).1.1 → g_i M2 m 8 = (T_pl n os (L_ch pe hd) ds).1.2 → Q 0 M2) (hq : (T_pl n os (L_ch pe hd) ds).1.1 = 0 → ∀ M1 M2 M3, e_fr (P_FS m be ob) M M1 → P_R m b ma be l ob go fo kr os M1 → e_fr (P_E m b ma be l go fo kr) M1 M2 → P_R m b ma be l ob go fo kr os M2 → (g_i M2 m 24 = 0 ∨ g_i M2 m 24 = 1) → e_fr (A_L m b) M2 M3 → e_Wr m b 2598000 2606000 (A_doc (P_an (T_pl n os (L_ch pe hd) ds).2)) M3 → (g_i M3 m 6 = 0 → Q 1 M3) ∧ (¬ g_i M3 m 6 = 0 → Q 0 (g_wi (g_wi M3 m 7 40) m 8 (-1)))) : g_Call (dd + 231) 424 [.ref m, g_n (pe + 2 + hd.2.1.length), g_n w] M (g_qI Q) := by
  have hR := hC.1.1.1
  have hm := hR.1
  have hb := hR.2.2
  have h18 := hC.1.1.2.2.1
  have hbe := hC.1.1.2.2.2.2.1
  obtain ⟨h20, hob⟩ := hC.2.2.2.1
  have hbo : ob ≠ be := hC.2.2.2.2.1.2.1
  obtain ⟨⟨c1, c2⟩, c3, c4⟩ := hne
  obtain ⟨t1, t2, t3, t4⟩ := id hT
  have hs4 := hs.2.2.2.1
  have hs5 := hs.2.2.2.2
  have hel := b_el_len hd.1 hd.2.1 hd.2.2
  have hs' : b_st (g_i M b) 2706210 pe (De + 1) hd.1 hd.2.1 hd.2.2 := ⟨hs.1, hs.2.1, hs.2.2.1, hs4, by omega⟩
  obtain ⟨D1, es, eD, ee, -, htl, hch, -⟩ := hs'.tl (Or.inr hk4)
  obtain ⟨c, hc⟩ : ∃ c : Int, c = pe + 2 + hd.2.1.length := ⟨_, rfl⟩
  rw [← hc] at htl ⊢
  rw [show pe + 6 + (hd.2.1.length : Int) = c + 4 by omega] at htl
  have hLc : L_ch pe hd = L_at (c + 4) es := by
    unfold L_ch
    rw [hch, show pe + 6 + (hd.2.1.length : Int) = c + 4 by omega]
  rw [hLc] at hf hq
  rw [hch] at hk3
  have hcR : g_InR c := ⟨by omega, by omega⟩
  have hwR : g_InR w := ⟨by omega, by omega⟩
  have h21 : c + (b_doc es).length ≤ 2100 := by
    rw [← ee]
    omega
  have nm1 : m ≠ be := g_neOA hm hbe
  have nm2 : m ≠ ob := g_neOA hm hob
  have nc : cn ≠ m := fun z => g_neOA hm t2 z.symm
  have no : od ≠ m := fun z => g_neOA hm t4 z.symm
  have hkR : ∀ {M1 : g_M} {x : Int} {xs : List (List b_E)}, e_fr (P_FS m be ob) M M1 → R_sh b cn od x xs M → R_sh b cn od x xs M1 := fun f h => h.fr f (fun k z => by
      rcases z with ⟨z, -⟩ | z | z
      · exact nc z
      · exact c1 z
      · exact c2 z) (fun k z => by
      rcases z with ⟨z, -⟩ | z | z
      · exact no z
      · exact c3 z
      · exact c4 z) fun k _ z => by
      rcases z with ⟨z, -⟩ | z | z
      · exact g_neOA hm hb z.symm
      · exact g_neAA hb hbe (by omega) z
      · exact g_neAA hb hob (by omega) z
  have hkT : ∀ {M1 : g_M}, e_fr (P_FS m be ob) M M1 → R_tb m cn od M1 := fun f => ⟨by rw [f.2.2]; exact t1, f.A t2, by rw [f.2.2]; exact t3, f.A t4⟩
  have hlds := hds.2.1.1
  have hlos := hos.2.1.1
  refine m_X12_pipeline hcR hwR fun _ => ⟨hm, cn, t1, 2, t2, ⟨by omega, by omega⟩, fun M7 e7 _ => ?_⟩
  rw [hds.1] at e7
  have f7 : e_fr (P_FS m be ob) M M7 := by rw [e7]; exact e_fr.wi _ (Or.inl ⟨rfl, Or.inl rfl⟩)
  have h197 : g_i M7 m 19 = ds.length := by rw [e7, g_i_wi, if_pos ⟨rfl, rfl⟩]
  -- the belt is filled
  have hl1 : ∀ (t i : Nat) (M3 : g_M), i + t = ds.length → e_fr (P_FS m be ob) M M3 → g_i M3 m 19 = ds.length → (∀ (j : Nat) (es : List b_E), j < i → ds[j]? = some es → ∃ p, g_i M3 be j = p ∧ b_at (g_i M b) p (b_doc es) ∧ 2000 ≤ p ∧ p + (b_doc es).length ≤ 802000) → g_Run (dd + 230) 424 12 [(0, .ref m), (1, g_n c), (2, g_n w), (3, g_n i)] [] M3 (g_qI Q) := by
    intro t
    induction t with
    | zero =>
      intro i M3 hi f3 h193 hfl
      obtain ⟨hC3, eb3, em3⟩ := hC.fr f3
      have hos3 := hkR f3 hos
      refine s_X12_pipeline_12 hcR hwR ⟨by omega, by omega⟩ fun _ => ⟨hC3.1.1.1.1, fun z => absurd z (by omega), fun _ => ⟨cn, (hkT f3).1, ⟨by omega, by omega⟩, 2, (hkT f3).2.1, ⟨by omega, by omega⟩, fun M8 e8 _ => ?_⟩⟩
      rw [hos3.1] at e8
      have f38 : e_fr (P_FS m be ob) M3 M8 := by rw [e8]; exact e_fr.wi _ (Or.inl ⟨rfl, Or.inr rfl⟩)
      have h218 : g_i M8 m 21 = os.length := by rw [e8, g_i_wi, if_pos ⟨rfl, rfl⟩]
      have h198 : g_i M8 m 19 = ds.length := by rw [e8, g_i_wi, if_neg fun z => absurd z.2 (by decide)]; exact h193
      have hbe8 : ∀ k, g_i M8 be k = g_i M3 be k := fun k => by rw [e8, g_i_wi, if_neg fun z => nm1 z.1.symm]
      -- the other shelf's documents
      have hl2 : ∀ (t2 i2 : Nat) (M4 : g_M), i2 + t2 = os.length → e_fr (P_FS m be ob) M M4 → g_i M4 m 19 = ds.length → g_i M4 m 21 = os.length → (∀ k, g_i M4 be k = g_i M3 be k) → (∀ (j : Nat) (es : List b_E), j < i2 → os[j]? = some es → ∃ p, g_i M4 ob j = p ∧ b_at (g_i M b) p (b_doc es) ∧ 2000 ≤ p ∧ p + (b_doc es).length ≤ 802000) → g_Run (dd + 230) 424 52 [(0, .ref m), (1, g_n c), (2, g_n w), (3, g_n i2)] [] M4 (g_qI Q) := by
        intro t2
        induction t2 with
        | zero =>
          intro i2 M4 hi2 f4 h194 h214 hbe4 hfl2
          obtain ⟨hC4, eb4, em4⟩ := hC.fr f4
          refine s_X12_pipeline_52 hcR hwR ⟨by omega, by omega⟩ fun _ => ⟨hC4.1.1.1.1, fun z => absurd z (by omega), fun _ => e_first (d := dd + 229) (by omega) (by omega) ?_⟩
          intro _ _ _
          have hCR : P_R m b ma be l ob go fo kr os M4 := ⟨hC4.1, hC4.2.1, hC4.2.2.1, ⟨hC4.2.2.2.1.1, hC4.2.2.2.1.2, h214, hos.2.1, fun j es hj => by
            obtain ⟨p, p1, p2, p3, p4⟩ := hfl2 j es (by have := (List.getElem?_eq_some_iff.mp hj).1; omega) hj
            exact ⟨p, p1, b_at_keep p2 fun k _ _ => eb4 k, p3, p4⟩⟩, hC4.2.2.2.2.1, hC4.2.2.2.2.2⟩
          have hbt4 : E_belt m b be g ds M4 := ⟨h194, hds.2.1, fun j es hj => by
            obtain ⟨p, p1, p2, p3, p4⟩ := hfl j es (by have := (List.getElem?_eq_some_iff.mp hj).1; omega) hj
            refine ⟨p, by rw [hbe4]; exact p1, b_at_keep p2 fun k _ _ => eb4 k, p3, by omega, Or.inl ?_⟩
            unfold E_lo
            omega⟩
          have hib4 : g_i M4 b = g_i M b := funext eb4
          exact e_pipe (dd := dd) (n := n) (De := D1) (its0 := es) hn (by omega) hwR hCR h21 es (c + 4) M4 ds g (e_fr.rf _ _) hCR (by rw [em4 24 (by decide) (by decide)]; exact hg) hg01 hbt4 (by rw [hib4]; exact htl) hk3 (fun z M1 k1 k2 k3 k4 k5 => hf z M4 M1 f4 hCR k1 k2 k3 k4 k5) fun z M1 M2 k1 k2 k3 k4 k5 => hq z M4 M1 M2 f4 hCR k1 k2 k3 k4 k5
        | succ t2 ih2 =>
          intro i2 M4 hi2 f4 h194 h214 hbe4 hfl2
          obtain ⟨hC4, eb4, em4⟩ := hC.fr f4
          obtain ⟨es2, hes2⟩ : ∃ es2, os[i2]? = some es2 := ⟨_, List.getElem?_eq_getElem (by omega)⟩
          refine s_X12_pipeline_52 hcR hwR ⟨by omega, by omega⟩ fun _ => ⟨hC4.1.1.1.1, fun _ => ⟨ob, hC4.2.2.2.1.1, ⟨by omega, by omega⟩, e_document (d := dd + 229) hC4.1.1.1 (hkT f4) (by omega) (hkR f4 hos) hes2 fun p p1 p2 p3 => ?_⟩, fun z => absurd (by omega) z⟩
          intro _ _ _
          refine ⟨200, hC4.2.2.2.1.2, ⟨by omega, by omega⟩, fun M5 e5 _ => ⟨⟨by omega, by omega⟩, ?_⟩⟩
          have f45 : e_fr (P_FS m be ob) M4 M5 := by rw [e5]; exact e_fr.wi _ (Or.inr (Or.inr rfl))
          have h9 := ih2 (i2 + 1) M5 (by omega) (f4.tr f45) (by rw [e5, g_i_wi, if_neg fun z => nm2 z.1]; exact h194) (by rw [e5, g_i_wi, if_neg fun z => nm2 z.1]; exact h214) (fun k => by rw [e5, g_i_wi, if_neg fun z => hbo z.1.symm]; exact hbe4 k) fun j es hj hjs => ?_
          · rwa [show ((i2 + 1 : Nat) : Int) = (i2 : Int) + 1 by omega] at h9
          · rw [e5, g_i_wi]
            by_cases hjl : j < i2
            · rw [if_neg fun z => by have := z.2; omega]
              exact hfl2 j es hjl hjs
            · have hje : j = i2 := by omega
              rw [hje] at hjs ⊢
              rw [hes2] at hjs
              cases hjs
              rw [if_pos ⟨rfl, rfl⟩]
              exact ⟨p, rfl, b_at_keep p1 fun k _ _ => (eb4 k).symm, p2, p3⟩
      exact hl2 os.length 0 M8 (by omega) (f3.tr f38) h198 h218 hbe8 fun j es hj => absurd hj (by omega)
    | succ t ih =>
      intro i M3 hi f3 h193 hfl
      obtain ⟨hC3, eb3, em3⟩ := hC.fr f3
      obtain ⟨es2, hes2⟩ : ∃ es2, ds[i]? = some es2 := ⟨_, List.getElem?_eq_getElem (by omega)⟩
      refine s_X12_pipeline_12 hcR hwR ⟨by omega, by omega⟩ fun _ => ⟨hC3.1.1.1.1, fun _ => ⟨be, hC3.1.1.2.2.1, e_document (d := dd + 229) hC3.1.1.1 (hkT f3) hw (hkR f3 hds) hes2 fun p p1 p2 p3 => ?_⟩, fun z => absurd (by omega) z⟩
      intro _ _ _
      refine ⟨200, hC3.1.1.2.2.2.2.1, ⟨by omega, by omega⟩, fun M5 e5 _ => ⟨⟨by omega, by omega⟩, ?_⟩⟩
      have f35 : e_fr (P_FS m be ob) M3 M5 := by rw [e5]; exact e_fr.wi _ (Or.inr (Or.inl rfl))
      have h9 := ih (i + 1) M5 (by omega) (f3.tr f35) (by rw [e5, g_i_wi, if_neg fun z => nm1 z.1]; exact h193) fun j es hj hjs => ?_
      · rwa [show ((i + 1 : Nat) : Int) = (i : Int) + 1 by omega] at h9
      · rw [e5, g_i_wi]
        by_cases hjl : j < i
        · rw [if_neg fun z => by have := z.2; omega]
          exact hfl j es hjl hjs
        · have hje : j = i := by omega
          rw [hje] at hjs ⊢
          rw [hes2] at hjs
          cases hjs
          rw [if_pos ⟨rfl, rfl⟩]
          exact ⟨p, rfl, b_at_keep p1 fun k _ _ => (eb3 k).symm, p2, p3⟩
  exact hl1 ds.length 0 M7 (by omega) f7 h197 fun j es hj => absurd hj (by omega)
end EPL
