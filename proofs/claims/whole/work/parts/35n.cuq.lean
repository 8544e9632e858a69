/-! REQUESTS, THE CLASS: update -/
section CUQ
variable {d : Nat} {ι : Nat → Nat} {κ : Nat → Nat → Nat} {al sz : Nat → Nat × Nat} {cB eB : Int} {st : Nat → I_T} {D : Nat → List (Int × List b_E)} {gv : Nat → Int} {M M0 M1 : g_M} {x w : Nat} {u : List Int}
theorem c_updateQ {dd De : Nat} {Q : g_M → Prop} {pe pc qc : Int} {fe ce : b_E} {cs : List b_E} {hd : List b_E → Bool} (h : C_H ι κ al sz cB eB st D gv M) (hw : w < 2) (h16 : g_r M (ι 0) 16 = some (ι (67 + w))) (h14 : g_i M (ι 0) 14 = pe) (h15 : g_i M (ι 0) 15 = pc) (he : b_st (g_i M (ι 2)) 2008 pe De fe.1 fe.2.1 fe.2.2) (hk : fe.1 = 3) (hDe : De ≤ 20) (hs : b_st (g_i M (ι 2)) 2008 pc 22 ce.1 ce.2.1 ce.2.2) (hkc : ce.1 = 3) (hqc : qc = pc + 6 + ce.2.1.length) (hce : cs = b_ch ce.2.2) (hhd : hd = fun es => (F_X 20).1 (b_ch fe.2.2) (3, [], b_doc es)) (hgd : H_gd (D w)) (hok : ∀ x, 4 * w ≤ x → x < 4 * w + 4 → ∀ V T m1 m2, st x = some (V, T, m1, m2) → I_ok V (D w) T) (hW : c_Wr (ι 3) (ι 4) 8000 0 8000 u M) (hf : ((K_F 20).1 (L_ch pe fe) 0).1 ≠ 0 → ∀ M1, C_H ι κ al sz cB eB st D gv M1 → C_fx Ck_u ι M M1 → Q (g_wi (g_wi M1 (ι 0) 17 (10 + ((K_F 20).1 (L_ch pe fe) 0).1)) (ι 0) 18 (((K_F 20).1 (L_ch pe fe) 0).2.1 - 4))) (hf1 : ((K_F 20).1 (L_ch pe fe) 0).1 = 0 → (Y_os [] (L_at qc cs)).1 ≠ 0 → ∀ M1, C_H ι κ al sz cB eB st D gv M1 → C_fx Ck_u ι M M1 → Q (g_wi (g_wi M1 (ι 0) 17 (20 + (Y_os [] (L_at qc cs)).1)) (ι 0) 18 ((Y_os [] (L_at qc cs)).2 - 4))) (hf2 : ((K_F 20).1 (L_ch pe fe) 0).1 = 0 → (Y_os [] (L_at qc cs)).1 = 0 → ∀ (i : Nat) (z : Int × List b_E), (D w)[i]? = some z → hd z.2 = true → (U_R pc qc cs z.2).1.1 ≠ 0 → (∀ (j : Nat) (z2 : Int × List b_E), j < i → (D w)[j]? = some z2 → hd z2.2 = true → (U_R pc qc cs z2.2).1.1 = 0) → ∀ M1, C_H ι κ al sz cB eB st D gv M1 → C_fx Ck_u ι M M1 → Q (g_wi (g_wi M1 (ι 0) 17 (20 + (U_R pc qc cs z.2).1.1)) (ι 0) 18 ((U_R pc qc cs z.2).1.2 - 4))) (hf3 : ((K_F 20).1 (L_ch pe fe) 0).1 = 0 → (Y_os [] (L_at qc cs)).1 = 0 → (∀ z ∈ D w, hd z.2 = true → (U_R pc qc cs z.2).1.1 = 0) → ¬ V_Fit hd qc cs st w (D w) → ∀ M1, C_H ι κ al sz cB eB st D gv M1 → C_fx Ck_u ι M M1 → Q (g_wi (g_wi M1 (ι 0) 17 40) (ι 0) 18 (-1))) (hy : ((K_F 20).1 (L_ch pe fe) 0).1 = 0 → (Y_os [] (L_at qc cs)).1 = 0 → (∀ z ∈ D w, hd z.2 = true → (U_R pc qc cs z.2).1.1 = 0) → V_Fit hd qc cs st w (D w) → ∀ sz1 M1, C_H ι κ al sz1 cB eB (I_lp (fun t => I_inn (V_z2 hd qc cs (D w)) (I_rem (V_z1 hd qc cs (D w)) t)) w st (4 * w + 4)) (H_up D w (V_ds hd qc cs (D w))) gv M1 → g_i M1 (ι 0) = g_i M (ι 0) ∧ g_r M1 (ι 0) = g_r M (ι 0) → c_Wr (ι 3) (ι 4) 8000 0 8000 (u ++ b_el 16 (b_tx 29) (b_le4 (((D w).filter fun z => hd z.2).length : Nat)) ++ b_el 16 (b_tx 38) (b_le4 (((D w).filter fun z => U_al hd qc cs z.2).length : Nat))) M1 → Q M1) : g_Call (dd + 232) 218 [.ref (ι 0)] M (g_qV Q) := by
  have s4 := hs.2.2.2.1
  have s5 := hs.2.2.2.2
  have hel := b_el_len ce.1 ce.2.1 ce.2.2
  have hL : L_ch pc ce = L_at qc cs := by
    unfold L_ch
    rw [← hqc, ← hce]
  refine m_X11_update (d := dd + 231) fun _ => ⟨h.1.O (by decide), c_hitsH (dd := dd) h hw h16 h14 he hk hDe (fun z M1 H1 f1 => ?_) fun z M1 H1 f1 hh => ?_⟩
  · intro _ _ _
    exact ⟨fun _ => hf z M1 H1 (f1.up (by decide)), fun z2 => absurd (by decide) z2⟩
  intro _ _ hR
  have hf1 := hf1 z
  have hf2 := hf2 z
  have hf3 := hf3 z
  have hy := hy z
  have e9 : (fun z : Int × List b_E => (F_X 20).1 (b_ch fe.2.2) (3, [], b_doc z.2)) = fun z => hd z.2 := by rw [hhd]
  rw [e9] at hR ⊢
  rw [← hhd] at hh
  have k1 := f1.2.2 0 (by decide) (by decide) (by decide)
  have b1 := (f1.2.2 2 (by decide) (by decide) (by decide)).1
  have hs1 : b_st (g_i M1 (ι 2)) 246408 pc 22 ce.1 ce.2.1 ce.2.2 := by
    rw [b1]
    exact ⟨hs.1, hs.2.1, hs.2.2.1, s4, by omega⟩
  refine ⟨fun g => absurd g (by omega), fun _ => ⟨ι 10, H1.1.r (by decide), H1.1.O (by decide), ?_⟩⟩
  rw [k1.1, h15]
  refine c_isRightC (d := dd + 223) H1.XO hs1 hkc (by omega) ?_
  rw [hL]
  intro M2 f2 O2 hb2 ho2 hbad
  intro _ ok2 _
  have f2s : g_fr (X_GS (ι 10) (ι 2) (ι 11) (ι 12) (ι 13) (ι 14) (ι 15)) M1 M2 := f2.up fun y z => by
    rcases z with z | z
    · exact Or.inl z
    · exact Or.inr (Or.inl z)
  obtain ⟨H2, fx2⟩ := H1.xS f2s O2 fun k _ => by rw [hb2]
  have fu2 : C_fx Ck_u ι M M2 := (f1.up (by decide)).tr (fx2.up (by decide))
  have k2 := fu2.2.2 0 (by decide) (by decide) (by decide)
  by_cases gY : (Y_os [] (L_at qc cs)).1 = 0
  · rw [if_pos gY]
    obtain ⟨o1, o2, o3, o4, o5, o6⟩ := H2.ou hw
    refine ⟨fun g => absurd g (by decide), fun _ => ⟨ι (67 + w), by rw [k2.2]; exact h16, (H2.gF hw).2.1, ι (72 + 4 * w), o1, o2, c_start (d := dd + 230) o2 o3 (H2.1.A (by decide) : g_A M2 (ι 2) 0 246408) (by decide) (by decide) (by decide) (by decide) fun M3 f3 W3 => ?_⟩⟩
    intro _ _
    obtain ⟨H3, fu3, b3⟩ := H2.oS hw f3 fun y k z => Or.inl z.1
    obtain ⟨D1, eD, hsts, hlen⟩ := hs.kids (Or.inl hkc)
    have hgood0 := Y_os_good cs [] qc gY
    have eD1 : D1 = 21 := by omega
    have hcs : U_cs cs := ⟨fun z hz => ⟨(hgood0 z hz).2.1, by
      have h9 := (hsts.2.1 z (by rw [← hce]; exact hz)).2
      rw [eD1] at h9
      exact h9, fun y hy => ((hgood0 z hz).2.2 y hy).1⟩, by rw [hce]; omega⟩
    have n3 : ∀ {a : Nat}, a ∈ Ck_k → a ≠ 72 + 4 * w → g_i M3 (ι a) = g_i M2 (ι a) := fun ha hn => funext fun k => f3.2.1 _ _ fun z => H2.2.1.ne ha o4 hn z.1
    have fu03 := fu2.tr fu3
    refine c_updA (dd := dd) (M0 := M) (pc := pc) (qc := qc) (cs := cs) (hd := hd) (ce := ce) hw hs hkc hqc hce (by rw [← hce]; exact hgood0) hcs h16 h15 hgd hR (hf2 gY) (fun hall M4 v5 S4 hv5 => ?_) ⟨H3, fu03, fun k hk => ((b3 k hk).trans (congrFun hb2 k)).trans (congrFun b1 k), W3, fun q y hq => ?_, fun _ q hq => absurd hq (Nat.not_lt_zero q)⟩
    · exact c_updB (dd := dd) hw hR h16 hgd hok hcs (fun z hz g => by rw [(U_R_pc (-1) pc qc cs z.2).1]; exact hall z hz g) (S4.2.1.Wr (by decide) (by decide) hW) S4 hv5 (hf3 gY hall) (hy gY hall)
    · rw [n3 (a := 90) (by decide) (by omega), (fx2.2.2 90 (by decide) (by decide) (by decide)).1, if_neg (Nat.not_lt_zero q)]
      exact hh q (hd y.2, y) (by
        unfold Z_h
        rw [List.getElem?_map, hq]
        rfl)
  · rw [if_neg gY]
    obtain ⟨h7, h8⟩ := hbad gY
    have hle := Y_os_le (L_at qc cs) []
    have hlo := Y_os_lo (lo := 0) (L_at qc cs) [] (fun z hz => by
      have := L_at_lo _ _ z hz
      omega) gY
    refine ⟨fun _ => ⟨ι 10, H2.1.r (by decide), H2.1.O (by decide), by rw [h7]; exact ⟨by omega, by omega⟩, ι 10, H2.1.r (by decide), H2.1.O (by decide), ?_⟩, fun g => absurd rfl g⟩
    rw [h7, h8]
    refine c_failAt (d := dd + 229) (H2.1.O (by decide)) ⟨by omega, by omega⟩ (by rw [← h8]; exact ok2.1 _ _) hlo ?_
    intro _ _
    exact hf1 gY M2 H2 fu2
end CUQ
