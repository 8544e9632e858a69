/-! REQUESTS, THE REFERENCE: update, all -/
theorem Y_ps_le {op : Int} : ∀ (l : List (Int × b_E)) (pre : List (List Int)), 0 ≤ (Y_ps op pre l).1 ∧ (Y_ps op pre l).1 ≤ 9 := by
  intro l
  induction l with
  | nil => exact fun _ => ⟨(by decide : (0 : Int) ≤ 0), (by decide : (0 : Int) ≤ 9)⟩
  | cons z r ih =>
    intro pre
    unfold Y_ps
    split
    · split
      · exact ⟨(by decide : (0 : Int) ≤ 4), (by decide : (4 : Int) ≤ 9)⟩
      · split
        · exact ⟨(by decide : (0 : Int) ≤ 5), (by decide : (5 : Int) ≤ 9)⟩
        · exact ih _
    · exact ⟨(by decide : (0 : Int) ≤ 3), (by decide : (3 : Int) ≤ 9)⟩
theorem Y_os_le : ∀ (l : List (Int × b_E)) (pre : List (List Int)), 0 ≤ (Y_os pre l).1 ∧ (Y_os pre l).1 ≤ 9 := by
  intro l
  induction l with
  | nil => exact fun _ => ⟨(by decide : (0 : Int) ≤ 0), (by decide : (0 : Int) ≤ 9)⟩
  | cons z r ih =>
    intro pre
    unfold Y_os
    split
    · exact ⟨(by decide : (0 : Int) ≤ 1), (by decide : (1 : Int) ≤ 9)⟩
    · split
      · split
        · exact ih _
        · exact Y_ps_le _ _
      · exact ⟨(by decide : (0 : Int) ≤ 2), (by decide : (2 : Int) ≤ 9)⟩
theorem U_fb {k : Int} {b : Bool} : (if k ≤ 40000 ∧ (if b = true then (1 : Int) else 0) = 0 then (1 : Int) else 0) = 1 ↔ k ≤ 40000 ∧ b = false := by
  cases b <;> by_cases g : k ≤ 40000 <;> simp [g]
/-- what an update may change before it is sure to come true -/
def R_uH (m : Nat) (ρ : Nat → Nat) (y : Nat) (k : Int) : Prop := R_uF m ρ y k ∨ y = ρ 74
theorem H_up_eq {α : Type} (q : Nat → α) (w : Nat) (l : α) : H_up q w l w = l := if_pos rfl
theorem H_up_ne {α : Type} (q : Nat → α) {w y : Nat} (l : α) (h : y ≠ w) : H_up q w l y = q y := if_neg h
section EUPD
variable {m dd : Nat} {ρ : Nat → Nat} {M M1 : g_M} {st : Nat → I_T} {q : Nat → List (Nat × Int × List b_E)} {v : Nat → Int}
theorem R_uH_n (h : E_bk m ρ M) {i : Nat} (hi : i ∈ E_bf) (hn : i ≠ 0 ∧ i ≠ 9 ∧ i ≠ 12 ∧ i ≠ 74 ∧ i ≠ 75 ∧ i ≠ 76) {k : Int} : ¬ R_uH m ρ (ρ i) k := by
  rintro (z | z)
  · exact R_uF_n h hi ⟨hn.1, hn.2.1, hn.2.2.1, hn.2.2.2.2.1, hn.2.2.2.2.2⟩ z
  · exact h.ne hi (by decide) hn.2.2.2.1 z
theorem R_uH_b (h : E_bk m ρ M) {k : Int} (g : R_uH m ρ (ρ 0) k) : (922000 ≤ k ∧ k < 982000) ∨ (2606200 ≤ k ∧ k < 2666200) := by
  rcases g with z | z
  · exact R_uF_b h z
  · exact absurd z (h.ne (by decide) (by decide) (by decide))
theorem R_uH_m (h : E_bk m ρ M) {k : Int} (g : R_uH m ρ m k) : (4 ≤ k ∧ k ≤ 8) ∨ k = 10 ∨ (13 ≤ k ∧ k ≤ 17) ∨ (40 ≤ k ∧ k ≤ 44) := by
  rcases g with z | z
  · exact R_uF_m h z
  · exact absurd z.symm (h.nm (by decide))
theorem E_H.uH (h : E_H m ρ st q v M) (f : e_fr (R_uH m ρ) M M1) : E_H m ρ st q v M1 := h.fr f fun y k z g => by
  rcases E_HP_y h.1 z with ⟨e, z⟩ | ⟨e, z⟩ | ⟨j, hj, hn, e⟩
  · rw [e] at g
    have := R_uH_b h.1 g
    omega
  · rw [e] at g
    have := R_uH_m h.1 g
    omega
  · rw [e] at g
    exact R_uH_n h.1 hj hn g
theorem e_fr.uHk (h : E_bk m ρ M) {M2 : g_M} (f : e_fr (R_uH m ρ) M1 M2) : E_k m M1 M2 := f.k (fun z => by have := R_uH_m h z; omega) fun z => by have := R_uH_m h z; omega
theorem e_update {Q : Int → g_M → Prop} {w De D0 : Nat} {pe pc qc : Int} {fe ce : b_E} {es0 cs : List b_E} {hd : List b_E → Bool} (h : E_H m ρ st q v M) (hS : E_S m (ρ 0) (ρ 9) (g_i M (ρ 0)) M []) (hw : w < 2) (hreq : E_ct (g_i M (ρ 0)) 0 D0 es0) (hit : (L_at 4 es0)[2]? = some (pc, ce)) (hs : b_st (g_i M (ρ 0)) 2000 pc 22 ce.1 ce.2.1 ce.2.2) (hk : ce.1 = 3) (hqc : qc = pc + 6 + ce.2.1.length) (hce : cs = b_ch ce.2.2) (he : b_st (g_i M (ρ 0)) 2100 pe De fe.1 fe.2.1 fe.2.2) (hkf : fe.1 = 3) (hDe : De ≤ 20) (hV : (F_V 20).1 (b_ch fe.2.2)) (hhd : hd = fun es => (F_X 20).1 (b_ch fe.2.2) (3, [], b_doc es)) (hgd : H_gd (R_dn (q w))) (h0n : ∀ z ∈ q w, 0 ≤ z.2.1) (hok : ∀ x, 4 * w ≤ x → x < 4 * w + 4 → ∀ V T m1 m2, st x = some (V, T, m1, m2) → I_ok V (R_dn (q w)) T) (hf1 : (Y_os [] (L_at qc cs)).1 ≠ 0 → ∀ M1, e_fr (R_uH m ρ) M M1 → E_S m (ρ 0) (ρ 9) (g_i M1 (ρ 0)) M1 [] → g_i M1 m 40 = g_i M m 40 → g_i M1 m 7 = (Y_os [] (L_at qc cs)).1 + 20 → g_i M1 m 8 = (Y_os [] (L_at qc cs)).2 → Q 0 M1) (hf2 : (Y_os [] (L_at qc cs)).1 = 0 → ∀ (i : Nat) (z : Nat × Int × List b_E), (q w)[i]? = some z → hd z.2.2 = true → (U_R (-1) qc cs z.2.2).1.1 ≠ 0 → (∀ (j : Nat) (z2 : Nat × Int × List b_E), j < i → (q w)[j]? = some z2 → hd z2.2.2 = true → (U_R (-1) qc cs z2.2.2).1.1 = 0) → ∀ M1, e_fr (R_uH m ρ) M M1 → E_S m (ρ 0) (ρ 9) (g_i M1 (ρ 0)) M1 [] → (g_i M1 m 40 = 0 ∨ g_i M1 m 40 = 1) → g_i M1 m 7 = (U_R (-1) qc cs z.2.2).1.1 + 20 → g_i M1 m 8 = (if (U_R (-1) qc cs z.2.2).1.2 = -1 then pc else (U_R (-1) qc cs z.2.2).1.2) → Q 0 M1) (hf3 : (Y_os [] (L_at qc cs)).1 = 0 → (∀ z ∈ q w, hd z.2.2 = true → (U_R (-1) qc cs z.2.2).1.1 = 0) → ¬ U_Fit hd qc cs st w (q w) → ∀ M1, e_fr (R_uH m ρ) M M1 → E_S m (ρ 0) (ρ 9) (g_i M1 (ρ 0)) M1 [] → (g_i M1 m 40 = 0 ∨ g_i M1 m 40 = 1) → g_i M1 m 7 = 40 → g_i M1 m 8 = -1 → Q 0 M1) (hy : (Y_os [] (L_at qc cs)).1 = 0 → (∀ z ∈ q w, hd z.2.2 = true → (U_R (-1) qc cs z.2.2).1.1 = 0) → U_Fit hd qc cs st w (q w) → ∀ M1 M2, E_k m M M1 → E_S m (ρ 0) (ρ 9) (g_i M1 (ρ 0)) M1 [] → (g_i M1 m 40 = 0 ∨ g_i M1 m 40 = 1) → E_H m ρ (I_lp (fun t => I_inn (Q_3 (U_z2 hd qc cs (q w))) (I_rem (Q_3 (U_z1 hd qc cs (q w))) t)) w st (4 * w + 4)) (H_up q w (U_qs hd qc cs (q w))) v M1 → e_fr (A_L m (ρ 0)) M1 M2 → e_Wr m (ρ 0) 2598000 2606000 (A_doc (b_el 16 (b_tx 128) (b_le4 ((((q w).map fun z => z.2.2).filter hd).length : Nat)) ++ b_el 16 (b_tx 138) (b_le4 (((q w).filter (U_al1 hd qc cs)).length : Nat)))) M2 → (g_i M2 m 6 = 0 → Q 1 M2) ∧ (¬ g_i M2 m 6 = 0 → Q 0 (g_wi (g_wi M2 m 7 40) m 8 (-1)))) : g_Call (dd + 232) 420 [.ref m, g_n (pe + 2 + fe.2.1.length), g_n w] M (g_qI Q) := by
  have hB := h.1
  have hR := hB.R
  have hsh := h.2.2.2.2 w hw
  obtain ⟨⟨s1, s2, s3, s4⟩, s5, s6, s7, s8⟩ := id hsh
  have hl200 := s8.1
  rw [List.length_map] at hl200
  have hwR : g_InR (w : Int) := ⟨by omega, by omega⟩
  have ne : ∀ {i j : Nat}, i ∈ E_bf → j ∈ E_bf → i ≠ j → ρ i ≠ ρ j := fun h1 h2 h3 => hB.ne h1 h2 h3
  have hmne : ∀ k ∈ E_bf, m ≠ ρ k := fun k hk z => hB.nm hk z.symm
  have hpe := he.2.2.2.1
  have hpe2 := he.2.2.2.2
  rw [b_el_len] at hpe2
  have hp1 := hs.2.2.2.1
  have hp2 := hs.2.2.2.2
  have hp3 := hp2
  rw [b_el_len] at hp3
  have h1R : g_InR (pe + 2 + (fe.2.1.length : Int)) := ⟨by omega, by omega⟩
  have h3R : g_InR pc := ⟨by omega, by omega⟩
  have h4R : g_InR (pc + 2 + (ce.2.1.length : Int)) := ⟨by omega, by omega⟩
  have hs9 : b_st (g_i M (ρ 0)) 922000 pc 22 ce.1 ce.2.1 ce.2.2 := ⟨hs.1, hs.2.1, hs.2.2.1, hp1, by omega⟩
  have hs90 : b_st (g_i M (ρ 0)) 900000 pc 22 ce.1 ce.2.1 ce.2.2 := ⟨hs.1, hs.2.1, hs.2.2.1, hp1, by omega⟩
  obtain ⟨D1, eD, hct, hcdl⟩ := E_ct.of (z := ce) hs9 (Or.inl hk)
  have hD1 : D1 = 21 := by omega
  subst hD1
  rw [← hce] at hct hcdl
  have hcg := hct.2.2.2
  rw [b_doc_len] at hcdl
  obtain ⟨Y, hY⟩ : ∃ Y, Y = Y_os [] (L_at qc cs) := ⟨_, rfl⟩
  have hYle := Y_os_le (L_at qc cs) []
  rw [← hY] at hf1 hf2 hf3 hy hYle
  refine m_X12_update (d := dd + 231) h1R hwR fun _ => ⟨hB.1, e_itemE (d := dd + 226) hR (hreq.tl fun _ _ => rfl) (by decide) ⟨by decide, by decide⟩ ?_⟩
  intro _ _ _
  have h4z : (0 : Int) + 4 = 4 := rfl
  rw [h4z, show (2 : Int).toNat = 2 from rfl, hit]
  show g_Call _ _ [_, g_n pc] _ _
  refine e_value (d := dd + 229) hR (hs9.upW fun _ _ => rfl).nm ?_
  intro _ _ _
  rw [show pc + 1 + (ce.2.1.length : Int) + 1 = pc + 2 + ce.2.1.length by omega]
  refine e_isChange (d := dd + 223) hR (hct.tl fun _ _ => rfl) ?_
  rw [show pc + 2 + (ce.2.1.length : Int) + 4 = qc by omega, ← hY]
  intro M12 f12 y12
  intro _ _ _
  have f12' : e_fr (R_uH m ρ) M M12 := f12.up fun y k z => Or.inl (Or.inl (Or.inr (Or.inr ⟨z.1, by have := z.2; omega⟩)))
  have S12 : E_S m (ρ 0) (ρ 9) (g_i M12 (ρ 0)) M12 [] := hS.fx f12 (fun z => by have := z.2; omega) fun k z => hB.nm (by decide) z.1
  have hB12 := hB.fr f12'
  by_cases gY : Y.1 = 0
  case neg =>
    rw [if_neg gY]
    refine ⟨fun _ => ?_, fun g => absurd rfl g⟩
    obtain ⟨y1, y2⟩ := y12 gY
    rw [y1]
    refine ⟨⟨by omega, by omega⟩, ?_⟩
    rintro M33 e33 _
    have f33 : e_fr (fun y k => y = m ∧ k = 7) M12 M33 := by rw [e33]; exact e_fr.wi _ ⟨rfl, rfl⟩
    refine hf1 gY M33 (f12'.tr (f33.up fun y k z => Or.inl (Or.inl (Or.inr (Or.inr ⟨z.1, by have := z.2; omega⟩))))) (S12.fx f33 (fun z => by have := z.2; omega) fun k z => hB.nm (by decide) z.1) ?_ ?_ ?_
    · rw [f33.2.1 m 40 fun z => by have := z.2; omega, f12.2.1 m 40 fun z => by have := z.2; omega]
    · rw [e33, g_i_wi, if_pos ⟨rfl, rfl⟩]
    · rw [e33, g_i_wi, if_neg (fun z => absurd z.2 (by decide))]
      exact y2
  rw [if_pos gY]
  refine ⟨fun g => absurd g (by decide), fun _ => ?_⟩
  have hf2 := hf2 gY
  have hf3 := hf3 gY
  have hy := hy gY
  have hgood0 := Y_os_good cs [] qc (by rw [← hY]; exact gY)
  have hcs : U_cs cs := ⟨fun z hz => ⟨(hgood0 z hz).2.1, (hcg z hz).2, fun y hy => ((hgood0 z hz).2.2 y hy).1⟩, by omega⟩
  have hgood := hgood0
  rw [hce] at hgood
  -- which documents are hit
  have b68 := hB12.at (k := 68) (by decide)
  have b71 := hB12.at (k := 71) (by decide)
  have b74 := hB12.at (k := 74) (by decide)
  have H12 := h.uH f12'
  have hw01 : (w : Int) = 0 ∨ (w : Int) = 1 := by omega
  have he12 : b_st (g_i M12 (ρ 0)) 2100 pe De fe.1 fe.2.1 fe.2.2 := ⟨b_at_keep he.1 fun j _ _ => f12.2.1 _ j fun z => hB.nm (by decide) z.1, he.2⟩
  refine e_match (dd := dd) (w := (w : Int)) S12 ⟨b68.1, b68.2, b71.1, b71.2⟩ b74.1 b74.2 hw01 (H12.2.2.2.2 w hw).sh he12 hkf hDe hV fun M17 f17 S17 t17 => ?_
  intro _ _ _
  have f17' : e_fr (R_uH m ρ) M12 M17 := f17.up fun y k z => by
    rcases z with (z | z) | z
    · exact Or.inl (Or.inr (Or.inl (Or.inl z)))
    · exact Or.inl (Or.inr (Or.inl (Or.inr ⟨z.1, Or.inl z.2⟩)))
    · exact Or.inr z
  have F17 := f12'.tr f17'
  have hB17 := hB.fr F17
  have b69 := hB17.at (k := 69) (by decide)
  have b69A : g_A M17 (ρ 69) 1 2 := b69.2
  obtain ⟨n5, hn5⟩ : ∃ n5 : Nat, n5 = (((q w).map fun z => z.2.2).filter hd).length := ⟨_, rfl⟩
  rw [← hn5] at hy
  have hn5' : (((q w).map fun z => z.2.2).filter fun es => (F_X 20).1 (b_ch fe.2.2) (3, [], b_doc es)).length = n5 := by rw [hn5, hhd]
  rw [hn5']
  have hn5l : n5 ≤ 200 := by
    have := List.length_filter_le hd ((q w).map fun z => z.2.2)
    rw [List.length_map] at this
    omega
  have h5R : g_InR (n5 : Int) := ⟨by omega, by omega⟩
  refine ⟨ρ 69, b69.1, 2, b69A, ⟨by omega, by omega⟩, ?_⟩
  rintro M27 e27 _
  refine ⟨⟨by omega, by omega⟩, ?_⟩
  have f27 : e_fr (R_uH m ρ) M17 M27 := by rw [e27]; exact e_fr.wi _ (Or.inl (Or.inr (Or.inl (Or.inr ⟨rfl, by omega⟩))))
  have F27 := F17.tr f27
  have hB27 := hB.fr F27
  have H27 := h.uH F27
  have S27 : E_S m (ρ 0) (ρ 9) (g_i M27 (ρ 0)) M27 [] := by
    have h9 := S17.fld (k := 40) (v := 0) (by omega) e27
    exact h9.1.sf
  have t69 : g_i M17 (ρ 69) w = (S_sum ((q w).map fun z => z.2.2) : Int) := by
    rw [F17.2.1 _ _ (R_uH_n hB (by decide) (by decide))]
    exact s3
  have t10 : g_i M17 m 10 = 0 := S17.2.2.2.1
  rw [t69, t10]
  have t74 : ∀ (i : Nat) (z : Nat × Int × List b_E), (q w)[i]? = some z → g_i M27 (ρ 74) i = if hd z.2.2 = true then 1 else 0 := fun i z hi => by
    rw [e27, g_i_wi, if_neg (fun g => hB.nm (by decide) g.1), t17 i z.2.2 (by rw [List.getElem?_map, hi]; rfl), hhd]
  have hsum := s8.2.1
  have h6R : g_InR (S_sum ((q w).map fun z => z.2.2) : Int) := ⟨by omega, by omega⟩
  -- how many entries there are
  have hcount : ∀ M', e_fr (fun y _ => y = ρ 76) M27 M' → (∀ x : Nat, 4 * w ≤ x → x < 4 * w + 4 → g_i M' (ρ 76) x = g_i M27 (ρ 54) x) → g_Run (dd + 231) 420 104 [(0, .ref m), (1, g_n (pe + 2 + fe.2.1.length)), (2, g_n w), (3, g_n pc), (4, g_n (pc + 2 + ce.2.1.length)), (5, g_n n5), (6, g_n (S_sum ((q w).map fun z => z.2.2))), (7, g_n 0), (8, g_n 0), (9, g_n 0)] [] M' (g_qI Q) := by
    intro M' f' t76
    have f'' : e_fr (R_uH m ρ) M27 M' := f'.up fun y k z => Or.inl (Or.inr (Or.inr (Or.inr z)))
    have F' := F27.tr f''
    have hB' := hB.fr F'
    have H' := h.uH F'
    have S' : E_S m (ρ 0) (ρ 9) (g_i M' (ρ 0)) M' [] := S27.fx f' (hmne 76 (by decide)) fun k => ne (by decide) (by decide) (by decide)
    have hs' : b_st (g_i M' (ρ 0)) 900000 pc 22 ce.1 ce.2.1 ce.2.2 := ⟨b_at_keep hs.1 fun j _ _ => F'.2.1 _ j fun g => by
      have := R_uH_b hB g
      omega, hs90.2⟩
    have c40 : g_i M' m 40 = 0 := by
      rw [f'.2.1 _ _ (hmne 76 (by decide)), e27, g_i_wi, if_pos ⟨rfl, rfl⟩]
    have hcnt : ∀ x, 4 * w ≤ x → x < 4 * w + 4 → ∀ V T m1 m2, st x = some (V, T, m1, m2) → g_i M' (ρ 76) x = ((N_all T).length : Int) ∧ (N_all T).length ≤ 1000 := fun x x1 x2 V T m1 m2 e => by
      have hix := H27.2.2.2.1 x (by omega)
      have hI := hok x x1 x2 V T m1 m2 e
      refine ⟨by rw [t76 x x1 x2]; exact (hix.there.2 V T m1 m2 e).2.2, ?_⟩
      rw [hI.2.2.1.length_eq]
      exact hI.2.2.2.2
    refine e_altU (d := dd + 159) (qc := qc) (cs := cs) (hd := hd) H' S' c40 hw hs' hk hgood (by omega) hqc hce hcs (fun i z hi => by rw [f'.2.1 _ _ (ne (by decide) (by decide) (by decide))]; exact t74 i z hi) (fun x x1 x2 V T m1 m2 e => ⟨(hok x x1 x2 V T m1 m2 e).1, fun z hz => (hok x x1 x2 V T m1 m2 e).2.2.2.1 z.2 (List.mem_map.mpr ⟨z, hz, rfl⟩)⟩) (fun x x1 x2 x3 => ?_) h1R h3R h5R (fun i z hi g1 g2 g3 M1 f1 S1 cc1 => ?_) fun M1 k6 k8 f1 S1 h0 t75 u76 t40 e6 e8 k6R => ?_
    · rcases hst : st x with _ | ⟨V, T, m1, m2⟩
      · exact absurd hst x3
      · obtain ⟨c1, c2⟩ := hcnt x x1 x2 V T m1 m2 hst
        rw [c1]
        omega
    · have fW : e_fr (R_uH m ρ) M1 (g_wi (g_wi M1 m 7 ((U_R (-1) qc cs z.2.2).1.1 + 20)) m 8 (if (U_R (-1) qc cs z.2.2).1.2 = -1 then pc else (U_R (-1) qc cs z.2.2).1.2)) := (e_fr.wi _ (Or.inl (Or.inl (Or.inr (Or.inr ⟨rfl, by omega⟩))))).tr (e_fr.wi _ (Or.inl (Or.inl (Or.inr (Or.inr ⟨rfl, by omega⟩)))))
      have fW2 : e_fr (fun y k => y = m ∧ (k = 7 ∨ k = 8)) M1 (g_wi (g_wi M1 m 7 ((U_R (-1) qc cs z.2.2).1.1 + 20)) m 8 (if (U_R (-1) qc cs z.2.2).1.2 = -1 then pc else (U_R (-1) qc cs z.2.2).1.2)) := (e_fr.wi _ ⟨rfl, Or.inl rfl⟩).tr (e_fr.wi _ ⟨rfl, Or.inr rfl⟩)
      refine hf2 i z hi g1 g2 g3 _ ((F'.tr (f1.up fun y k g => Or.inl g)).tr fW) (S1.fx fW2 (fun z => by have := z.2; omega) fun k z => hB.nm (by decide) z.1) ?_ ?_ ?_
      · rw [fW2.2.1 m 40 fun z => by have := z.2; omega]
        exact cc1
      · rw [g_i_wi, if_neg (fun z => absurd z.2 (by decide)), g_i_wi, if_pos ⟨rfl, rfl⟩]
      · rw [g_i_wi, if_pos ⟨rfl, rfl⟩]
    · -- whether all fits
      have F1 := F'.tr (f1.up fun y k g => (Or.inl g : R_uH m ρ y k))
      have hB1 := hB.fr F1
      have H1 := h.uH F1
      obtain ⟨hgd2, hsame⟩ := U_gd hcs h0 hgd
      have hiff := U_fit_iff (k6 := k6) (c := fun x => g_i M1 (ρ 76) x) hsame hok e6 fun x x1 x2 V T m1 m2 e => by
        show g_i M1 (ρ 76) x = _
        rw [u76 x x1 x2, (hcnt x x1 x2 V T m1 m2 e).1]
      have h9iff : ((if k6 ≤ 40000 ∧ g_i M1 m 40 = 0 then (1 : Int) else 0) = 1 ∧ ∀ x : Nat, 4 * w ≤ x → x < 4 * w + 4 → st x ≠ none → g_i M1 (ρ 76) x ≤ 1000) ↔ U_Fit hd qc cs st w (q w) := by
        rw [← hiff]
        refine and_congr ?_ Iff.rfl
        rw [t40]
        exact U_fb
      have h8R : g_InR (k8 : Int) := by
        have := List.length_filter_le (U_al1 hd qc cs) (q w)
        exact ⟨by omega, by omega⟩
      refine e_fitU (d := dd + 159) H1 hw h1R h3R h4R h5R k6R h8R ?_ (fun g => ?_) fun g M9 e9 => ?_
      · split
        · exact Or.inr rfl
        · exact Or.inl rfl
      · have fW : e_fr (R_uH m ρ) M1 (g_wi (g_wi M1 m 7 40) m 8 (-1)) := (e_fr.wi _ (Or.inl (Or.inl (Or.inr (Or.inr ⟨rfl, by omega⟩))))).tr (e_fr.wi _ (Or.inl (Or.inl (Or.inr (Or.inr ⟨rfl, by omega⟩)))))
        have fW2 : e_fr (fun y k => y = m ∧ (k = 7 ∨ k = 8)) M1 (g_wi (g_wi M1 m 7 40) m 8 (-1)) := (e_fr.wi _ ⟨rfl, Or.inl rfl⟩).tr (e_fr.wi _ ⟨rfl, Or.inr rfl⟩)
        refine hf3 h0 (fun z => g (h9iff.mpr z)) _ (F1.tr fW) (S1.fx fW2 (fun z => by have := z.2; omega) fun k z => hB.nm (by decide) z.1) ?_ ?_ ?_
        · rw [fW2.2.1 m 40 fun z => by have := z.2; omega, t40]
          split
          · exact Or.inr rfl
          · exact Or.inl rfl
        · rw [g_i_wi, if_neg (fun z => absurd z.2 (by decide)), g_i_wi, if_pos ⟨rfl, rfl⟩]
        · rw [g_i_wi, if_pos ⟨rfl, rfl⟩]
      · have hFit := h9iff.mp g
        have hy := hy h0 hFit
        have f9 : e_fr (R_t1 m ρ w) M1 M9 := by rw [e9]; exact e_fr.wi _ (Or.inr (Or.inl ⟨rfl, rfl⟩))
        have f9' : e_fr (fun y k => y = ρ 69 ∧ k = w) M1 M9 := by rw [e9]; exact e_fr.wi _ ⟨rfl, rfl⟩
        have S9 : E_S m (ρ 0) (ρ 9) (g_i M9 (ρ 0)) M9 [] := S1.fx f9' (fun z => hmne 69 (by decide) z.1) fun k z => ne (by decide) (by decide) (by decide) z.1
        have c9 : g_i M9 m 40 = 0 ∨ g_i M9 m 40 = 1 := by
          rw [f9'.2.1 _ _ (fun z => hmne 69 (by decide) z.1), t40]
          split
          · exact Or.inr rfl
          · exact Or.inl rfl
        have H9 : E_H0 m ρ st M9 := H1.h0.fr f9' (fun x hx y k z g => R_hP_xP hB hw z (Or.inl ⟨Or.inr (Or.inl g.1), g.2⟩)) (fun z => hmne 69 (by decide) z.1) fun k _ z => ne (by decide) (by decide) (by decide) z.1
        have hs1 := H1.2.2.2.2 w hw
        have hz1 := U_z1_2 (hd := hd) (qc := qc) (cs := cs) (q w)
        have hz2 := U_z2_2 (hd := hd) (qc := qc) (cs := cs) (q w)
        have m1 : ∀ (i : Nat) (z : Q_z), (U_z1 hd qc cs (q w))[i]? = some z → g_i M1 (ρ 75) i = if z.1 = true then 1 else 0 := fun i z hi => by
          unfold U_z1 at hi
          rw [List.getElem?_map] at hi
          cases hqi : (q w)[i]? with
          | none => rw [hqi] at hi; exact absurd hi (by simp)
          | some u =>
            rw [hqi] at hi
            have hi : (U_al hd qc cs u.2.2, u) = z := Option.some.inj hi
            rw [t75 i u hqi, ← hi]
        refine e_goU (d := dd + 159) (zs := U_z1 hd qc cs (q w)) H1 f9 S9 c9 H9 hw hz1.symm m1 hgd h0n hok h1R h3R h4R h5R k6R h8R fun M2 f2 S2 c2 H2 e69 => ?_
        have hB2 := hB1.fr f2
        have n2 : ∀ {k : Nat} {j : Int}, k ∈ E_bf → k ≠ 9 → k ≠ 0 → k ≠ 69 → k ≠ 73 → k ∉ R_fs → g_i M2 (ρ k) j = g_i M1 (ρ k) j := fun h1 h2 h3 h4 h5 h6 => f2.2.1 _ _ (R_t1_n hB1 h1 h2 h3 h4 h5 h6)
        have low2 : ∀ j, j < 1014000 → g_i M2 (ρ 0) j = g_i M1 (ρ 0) j := fun j hj => f2.2.1 _ j fun z => by
          have := R_t1_b hB1 z
          omega
        have hs2 : b_st (g_i M2 (ρ 0)) 900000 pc 22 ce.1 ce.2.1 ce.2.2 := ⟨b_at_keep hs.1 fun j _ _ => by
          rw [low2 j (by omega)]
          exact F1.2.1 _ j fun g => by
            have := R_uH_b hB g
            omega, hs90.2⟩
        have hdoc : ∀ z ∈ q w, (b_doc z.2.2).length ≤ 2000 ∧ X_gd 15 z.2.2 := fun z hz => s8.2.2 z.2.2 (List.mem_map.mpr ⟨z, hz, rfl⟩)
        have hat2 : ∀ (i : Nat) (z : Nat × Int × List b_E), (q w)[i]? = some z → (200 * w ≤ z.1 ∧ z.1 < 200 * w + 200) ∧ g_i M2 (ρ 71) (200 * w + i) = z.1 ∧ b_at (g_i M2 (ρ 0)) (2000 + 2000 * (z.1 : Int)) (b_doc z.2.2) := fun i z hi => by
          obtain ⟨a1, a2, a3, a4, a5⟩ := hs1.2.2.1 i z hi
          have zl := (hdoc z (List.mem_of_getElem? hi)).1
          refine ⟨a1, ?_, b_at_keep a5 fun j j1 j2 => low2 j (by omega)⟩
          rw [n2 (by decide) (by decide) (by decide) (by decide) (by decide) (by decide)]
          exact a2
        have t75' : ∀ (i : Nat) (z : Nat × Int × List b_E), (q w)[i]? = some z → g_i M2 (ρ 75) i = if U_al hd qc cs z.2.2 = true then 1 else 0 := fun i z hi => by
          rw [n2 (by decide) (by decide) (by decide) (by decide) (by decide) (by decide)]
          exact t75 i z hi
        refine e_copyU (d := dd + 159) (qc := qc) (cs := cs) (hd := hd) (qs := q w) H2 S2 hw hs2 (Or.inr hp2) hk hgood (by omega) hqc hce hcs hl200 (by
          rw [n2 (by decide) (by decide) (by decide) (by decide) (by decide) (by decide)]
          exact hs1.1.2.1) s5 hat2 hdoc t75' h0 h1R h3R h5R k6R h8R fun M3 f3 S3 a3 => ?_
        have hB3 := hB2.fr f3
        have n3 : ∀ {k : Nat} {j : Int}, k ∈ E_bf → k ≠ 0 → k ≠ 12 → g_i M3 (ρ k) j = g_i M2 (ρ k) j := fun h1 h2 h3 => f3.2.1 _ _ (R_uC_n hB2 h1 ⟨h2, h3⟩)
        have hUl : (U_qs hd qc cs (q w)).length = (q w).length := by unfold U_qs; rw [List.length_map]
        have hUi : ∀ (i : Nat) (z : Nat × Int × List b_E), (U_qs hd qc cs (q w))[i]? = some z → ∃ u, (q w)[i]? = some u ∧ z = (u.1, u.2.1, U_nd hd qc cs u.2.2) := fun i z hi => by
          unfold U_qs at hi
          rw [List.getElem?_map] at hi
          cases hqi : (q w)[i]? with
          | none => rw [hqi] at hi; exact absurd hi (by simp)
          | some u =>
            rw [hqi] at hi
            exact ⟨u, rfl, (Option.some.inj hi).symm⟩
        have hUs : (U_qs hd qc cs (q w)).map (fun z => z.1) = (q w).map fun z => z.1 := by unfold U_qs; rw [List.map_map]; rfl
        have H3 : E_H m ρ (I_lp (I_rem (Q_3 (U_z1 hd qc cs (q w)))) w st (4 * w + 4)) (H_up q w (U_qs hd qc cs (q w))) v M3 := (H2.uC hw f3).with fun w2 hw2 => by
          by_cases g2 : w2 = w
          · subst g2
            rw [H_up_eq]
            refine ⟨⟨hw2, ?_, ?_, ?_⟩, ?_, fun i z hi => ?_, fun s e1 e2 => ?_, ?_⟩
            · rw [n3 (by decide) (by decide) (by decide), n2 (by decide) (by decide) (by decide) (by decide) (by decide) (by decide), hUl]
              exact hs1.1.2.1
            · rw [n3 (by decide) (by decide) (by decide), (e69 w2).1, e9, g_i_wi, if_pos ⟨rfl, rfl⟩, e6, U_k6]
            · rw [n3 (by decide) (by decide) (by decide), n2 (by decide) (by decide) (by decide) (by decide) (by decide) (by decide)]
              exact hs1.1.2.2.2
            · rw [hUs]
              exact s5
            · obtain ⟨u, hu, rfl⟩ := hUi i z hi
              obtain ⟨a1, a2, a3', a4, a5⟩ := hs1.2.2.1 i u hu
              refine ⟨a1, ?_, ?_, a4, a3 i u hu⟩
              · rw [n3 (by decide) (by decide) (by decide), n2 (by decide) (by decide) (by decide) (by decide) (by decide) (by decide)]
                exact a2
              · rw [n3 (by decide) (by decide) (by decide), n2 (by decide) (by decide) (by decide) (by decide) (by decide) (by decide)]
                exact a3'
            · rw [n3 (by decide) (by decide) (by decide), hUs, (e69 s).2, f9'.2.1 _ _ fun z => ne (by decide) (by decide) (by decide) z.1]
              exact hs1.2.2.2.1 s e1 e2
            · refine ⟨by rw [List.length_map, hUl]; exact hl200, hFit.1, fun es he => ?_⟩
              obtain ⟨z, hz, rfl⟩ := List.mem_map.mp he
              have h9 := hgd2.2 z.2 (List.mem_map.mpr ⟨z, hz, rfl⟩)
              exact h9.2
          · rw [H_up_ne _ _ g2]
            have hs2' := H1.2.2.2.2 w2 hw2
            refine (hs2'.fr f2 fun y k z g3 => ?_).fr f3 fun y k z g3 => ?_
            · rcases g3 with ⟨x, -, g3⟩ | ⟨g3, g4⟩ | ⟨g3, g4⟩
              · exact R_hP_EF hB hw2 z g3
              · exact R_hP_hP hB g2 z (Or.inl ⟨Or.inr (Or.inl g3), g4⟩)
              · exact R_hP_hP hB g2 z (Or.inr (Or.inl ⟨Or.inr (Or.inr g3), g4⟩))
            · rcases g3 with g3 | g3
              · rcases E_HP_y hB (Or.inr (Or.inl ⟨w2, hw2, z⟩)) with ⟨e, z2⟩ | ⟨e, z2⟩ | ⟨j, hj, hn, e⟩
                · rw [e] at g3
                  have := R_CH_b hB g3
                  omega
                · rw [e] at g3
                  have := R_CH_m hB g3
                  omega
                · rw [e] at g3
                  exact R_CH_n hB hj ⟨hn.1, hn.2.2.1⟩ g3
              · exact R_hP_hP hB g2 z (Or.inr (Or.inr g3))
        have c3 : g_i M3 m 40 = 0 ∨ g_i M3 m 40 = 1 := by
          rw [f3.2.1 _ _ (fun z => by have := R_uC_m hB2 z; omega)]
          exact c2
        have K3 : E_k m M M3 := ((F1.uHk hB).tr (f2.k (fun z => by have := R_t1_m hB1 z; omega) (fun z => by have := R_t1_m hB1 z; omega))).tr (f3.k (fun z => by have := R_uC_m hB2 z; omega) (fun z => by have := R_uC_m hB2 z; omega))
        refine e_comeU (d := dd + 159) (zs := U_z2 hd qc cs (q w)) H3 S3 c3 hw (by rw [H_up_eq, hz2]) (fun i z hi => ?_) (fun z hz => ?_) (fun x x1 x2 V T' m1 m2 e => ?_) h1R h3R h4R h5R k6R h8R fun M4 M5 K4 S4 cc4 H4 f4 W4 => ?_
        · unfold U_z2 at hi
          rw [List.getElem?_map] at hi
          cases hqi : (q w)[i]? with
          | none => rw [hqi] at hi; exact absurd hi (by simp)
          | some u =>
            rw [hqi] at hi
            have hi : (U_al hd qc cs u.2.2, u.1, u.2.1, U_nd hd qc cs u.2.2) = z := Option.some.inj hi
            rw [n3 (by decide) (by decide) (by decide), t75' i u hqi, ← hi]
        · rw [H_up_eq] at hz
          unfold U_qs at hz
          obtain ⟨u, hu, rfl⟩ := List.mem_map.mp hz
          exact h0n u hu
        · rw [I_lp_in _ _ _ ⟨x1, x2⟩] at e
          rcases hst : st x with _ | ⟨V0, T0, n1, n2'⟩
          · rw [hst] at e
            exact absurd e (by simp [I_rem])
          · rw [hst] at e
            have e : some (V0, I_out V0 (I_mk V0 (Q_3 (U_z1 hd qc cs (q w)))) T0, n1, n2') = some (V, T', m1, m2) := e
            injection e with e
            injection e with e1 e
            injection e with e2 e
            subst e1
            subst e2
            have hI := hok x x1 x2 V0 T0 n1 n2' hst
            obtain ⟨k1, k2, -⟩ := U_keep hI hgd hgd2 hsame (hFit.2 x x1 x2 V0 T0 n1 n2' hst)
            exact ⟨hI.1, k1, k2⟩
        · rw [I_lp_all] at H4
          rw [e8] at W4
          exact hy M4 M5 (K3.tr K4) S4 cc4 H4 f4 W4
  have h68 : ∀ (b n : Nat) (M' : g_M), n + b = 4 → e_fr (fun y _ => y = ρ 76) M27 M' → (∀ x : Nat, 4 * w ≤ x → x < 4 * w + n → g_i M' (ρ 76) x = g_i M27 (ρ 54) x) → g_Run (dd + 231) 420 68 [(0, .ref m), (1, g_n (pe + 2 + fe.2.1.length)), (2, g_n w), (3, g_n pc), (4, g_n (pc + 2 + ce.2.1.length)), (5, g_n n5), (6, g_n (S_sum ((q w).map fun z => z.2.2))), (7, g_n 0), (8, g_n ((4 * w + n : Nat) : Int))] [] M' (g_qI Q) := by
    intro b
    induction b with
    | zero =>
      intro n M' hn f' t76
      have hn4 : n = 4 := by omega
      subst hn4
      exact s_X12_update_68 h1R hwR h3R h4R h5R h6R ⟨by decide, by decide⟩ ⟨by omega, by omega⟩ fun _ => ⟨⟨by omega, by omega⟩, ⟨by omega, by omega⟩, fun g => absurd g (by omega), fun _ => hcount M' f' t76⟩
    | succ b ih =>
      intro n M' hn f' t76
      have hB' := hB27.fr f'
      have b54' := hB'.at (k := 54) (by decide)
      have b54A' : g_A M' (ρ 54) 1 8 := b54'.2
      have b76' := hB'.at (k := 76) (by decide)
      have b76A' : g_A M' (ρ 76) 1 8 := b76'.2
      have hx1 : ((4 * w + n : Nat) : Int) + 1 = ((4 * w + (n + 1) : Nat) : Int) := by omega
      refine s_X12_update_68 h1R hwR h3R h4R h5R h6R ⟨by decide, by decide⟩ ⟨by omega, by omega⟩ fun _ => ⟨⟨by omega, by omega⟩, ⟨by omega, by omega⟩, fun _ => ⟨hB'.1, ρ 76, b76'.1, ρ 54, b54'.1, 8, b54A', ⟨by omega, by omega⟩, 8, b76A', ⟨by omega, by omega⟩, ?_⟩, fun g => absurd (by omega) g⟩
      rintro M14 e14 _
      refine ⟨⟨by omega, by omega⟩, ?_⟩
      rw [hx1]
      have f14 : e_fr (fun y _ => y = ρ 76) M' M14 := by rw [e14]; exact e_fr.wi _ rfl
      refine ih (n + 1) M14 (by omega) (f'.tr f14) fun x x1 x2 => ?_
      rw [e14, g_i_wi]
      by_cases g : x = 4 * w + n
      · rw [if_pos ⟨rfl, by omega⟩, g, f'.2.1 _ _ (ne (by decide) (by decide) (by decide))]
      · rw [if_neg (fun z => g (by omega))]
        exact t76 x x1 (by omega)
  have h9 := h68 4 0 M27 (by omega) (e_fr.rf _ _) fun x x1 x2 => absurd x2 (by omega)
  have e0 : ((4 * w + 0 : Nat) : Int) = 4 * (w : Int) := by omega
  rw [e0] at h9
  exact h9
end EUPD
