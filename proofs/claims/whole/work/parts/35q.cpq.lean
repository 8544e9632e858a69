section CPQ
variable {d : Nat} {ι : Nat → Nat} {κ : Nat → Nat → Nat} {al sz : Nat → Nat × Nat} {cB eB : Int} {st : Nat → I_T} {D : Nat → List (Int × List b_E)} {gv : Nat → Int} {M M0 M1 : g_M} {x w w' : Nat} {u : List Int}
theorem c_pipelineH {n De dd : Nat} {Q : g_M → Prop} {pe : Int} {hd : b_E} (hn : 16 ≤ n) (hDe : De ≤ 18) (h : C_H ι κ al sz cB eB st D gv M) (hw : w < 2) (hw' : w' < 2) (hne : w ≠ w') (h16 : g_r M (ι 0) 16 = some (ι (67 + w))) (h14 : g_i M (ι 0) 14 = pe) (hs : b_st (g_i M (ι 2)) 2008 pe (De + 1) hd.1 hd.2.1 hd.2.2) (hk4 : hd.1 = 4) (hk3 : ∀ it ∈ b_ch hd.2.2, it.1 = 3) (hW : c_Wr (ι 3) (ι 4) 8000 0 8000 u M) (hf : (T_pl n ((D w').map Prod.snd) (L_ch pe hd) ((D w).map Prod.snd)).1.1 ≠ 0 → ∀ M1, C_H ι κ al sz cB eB st D gv M1 → C_fx Ck_p ι M M1 → Q (g_wi (g_wi M1 (ι 0) 17 (T_pl n ((D w').map Prod.snd) (L_ch pe hd) ((D w).map Prod.snd)).1.1) (ι 0) 18 ((T_pl n ((D w').map Prod.snd) (L_ch pe hd) ((D w).map Prod.snd)).1.2 - 4))) (hq : (T_pl n ((D w').map Prod.snd) (L_ch pe hd) ((D w).map Prod.snd)).1.1 = 0 → ∀ M1, C_H ι κ al sz cB eB st D gv M1 → g_i M1 (ι 0) = g_i M (ι 0) ∧ g_r M1 (ι 0) = g_r M (ι 0) → c_Wr (ι 3) (ι 4) 8000 0 8000 (u ++ P_an (T_pl n ((D w').map Prod.snd) (L_ch pe hd) ((D w).map Prod.snd)).2) M1 → Q M1) : g_Call (dd + 231) 223 [.ref (ι 0)] M (g_qV Q) := by
  obtain ⟨w1, w2, w3, w4, w5, w6⟩ := Ck_w hw
  obtain ⟨M', hM'⟩ : ∃ M', M' = g_wr M (ι 20) 13 (some (ι (67 + w'))) := ⟨_, rfl⟩
  obtain ⟨H', f', h13, b'⟩ := h.w13 hM'
  have hb := h.1
  have hsw := h.2.2.2.2.1 w hw
  have hsv := h.2.2.2.2.1 w' hw'
  have hs1 : b_st (g_i M (ι 2)) 2100 pe (De + 1) hd.1 hd.2.1 hd.2.2 := ⟨hs.1, hs.2.1, hs.2.2.1, hs.2.2.2.1, by have := hs.2.2.2.2; omega⟩
  have hcs : (ι (67 + w) = ι 67 ∧ ι (67 + w') = ι 68) ∨ (ι (67 + w) = ι 68 ∧ ι (67 + w') = ι 67) := by
    have hw2 : w = 0 ∨ w = 1 := by omega
    rcases hw2 with e | e
    · have e' : w' = 1 := by omega
      subst e
      subst e'
      exact Or.inl ⟨rfl, rfl⟩
    · have e' : w' = 0 := by omega
      subst e
      subst e'
      exact Or.inr ⟨rfl, rfl⟩
  have hpC := H'.pC hw' h13
  rw [hM'] at hpC
  refine c_pipeline (dd := dd) (sh := ι 66) (s0 := ι 67) (s1 := ι 68) hn hDe hpC (hb.O (by decide)) (hb.r (by decide)) (hb.r (by decide)) (hb.r (by decide)) (hb.r (by decide)) (hb.r (by decide)) h16 (hb.A (by decide)) (hb.r (a := 66) (f := 0) (by decide)) (hb.r (a := 66) (f := 1) (by decide)) (hb.O (by decide)) (hb.O (by decide)) (h.2.1.ne (by decide) (by decide) (by decide)) hcs hsw.1.2.2.1 hsw.1.2.2.2.2.1 (h.2.1.ne w2 (by decide) (by omega)) hsw.psh ⟨hsv.psh.1, hsv.psh.2.1, fun i es hi => by
    obtain ⟨p, p1, p2, -⟩ := hsv.psh.2.2 i es hi
    exact ⟨p, p1, p2⟩⟩ (C_no h.2.2.2.1) h14 hs1 hk4 hk3 hW ⟨h.2.1.ne (by decide) (by decide) (by decide), h.2.1.ne (by decide) (by decide) (by decide)⟩ (fun z M1 hU hC => ?_) fun z M1 M2 hU hC f2 W2 => ?_
  · rw [← hM'] at hU
    obtain ⟨H1, f1⟩ := H'.pS hU hC
    exact hf z M1 H1 (f'.tr f1)
  · rw [← hM'] at hU
    obtain ⟨H1, f1⟩ := H'.pS hU hC
    obtain ⟨H2, k2⟩ := H1.wr f2
    have k01 := (f'.tr f1).2.2 0 (by decide) (by decide) (by decide)
    have k02 := k2 0 (by decide) (by decide) (by decide)
    exact hq z M2 H2 ⟨k02.1.trans k01.1, k02.2.trans k01.2⟩ W2
end CPQ
