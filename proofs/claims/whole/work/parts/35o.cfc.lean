/-! REQUESTS, THE CLASS: find and count, in the house -/
section CFC
variable {d : Nat} {ι : Nat → Nat} {κ : Nat → Nat → Nat} {al sz : Nat → Nat × Nat} {cB eB : Int} {st : Nat → I_T} {D : Nat → List (Int × List b_E)} {gv : Nat → Int} {M M0 M1 : g_M} {x w : Nat} {u : List Int}
theorem C_H.ho (h : C_H ι κ al sz cB eB st D gv M) (hw : w < 2) (h16 : g_r M (ι 0) 16 = some (ι (67 + w))) : H_o (ι 0) (ι 2) (ι 6) (ι 90) (ι (67 + w)) (ι (69 + 4 * w)) (ι (70 + 4 * w)) (ι 3) M := by
  have hs := h.2.2.2.2.1 w hw
  exact ⟨h.1.O (by decide), h.1.r (by decide), h.1.r (by decide), h.1.r (by decide), h.1.r (by decide), h16, h.1.A (by decide), hs.1.1, hs.1.2.2.1, hs.1.2.2.2.2.1, hs.1.2.2.2.1⟩
theorem c_findH {dd De : Nat} {Q : g_M → Prop} {pe : Int} {fe : b_E} (h : C_H ι κ al sz cB eB st D gv M) (hw : w < 2) (h16 : g_r M (ι 0) 16 = some (ι (67 + w))) (h14 : g_i M (ι 0) 14 = pe) (he : b_st (g_i M (ι 2)) 2008 pe De fe.1 fe.2.1 fe.2.2) (hk : fe.1 = 3) (hDe : De ≤ 20) (hW : c_Wr (ι 3) (ι 4) 8000 0 8000 u M) (hf : ((K_F 20).1 (L_ch pe fe) 0).1 ≠ 0 → ∀ M1, C_H ι κ al sz cB eB st D gv M1 → C_fx Ck_h ι M M1 → Q (g_wi (g_wi M1 (ι 0) 17 (10 + ((K_F 20).1 (L_ch pe fe) 0).1)) (ι 0) 18 (((K_F 20).1 (L_ch pe fe) 0).2.1 - 4))) (hq : ((K_F 20).1 (L_ch pe fe) 0).1 = 0 → ∀ M1, C_H ι κ al sz cB eB st D gv M1 → g_i M1 (ι 0) = g_i M (ι 0) ∧ g_r M1 (ι 0) = g_r M (ι 0) → c_Wr (ι 3) (ι 4) 8000 0 8000 (u ++ P_an (((D w).filter fun z => (F_X 20).1 (b_ch fe.2.2) (3, [], b_doc z.2)).map F_tel)) M1 → Q M1) : g_Call (dd + 232) 215 [.ref (ι 0)] M (g_qV Q) := by
  have hs := h.2.2.2.2.1 w hw
  have hb : b_st (g_i M (ι 2)) 2100 pe De fe.1 fe.2.1 fe.2.2 := ⟨he.1, he.2.1, he.2.2.1, he.2.2.2.1, by have := he.2.2.2.2; omega⟩
  refine c_findQ (dd := dd) (h.ho hw h16) h14 h.FS hs.num hs.psh hb hk hDe hW (fun z M1 k1 S1 => ?_) fun z M1 M2 k1 S1 f2 W2 => ?_
  · obtain ⟨H1, f1⟩ := h.hS k1 S1
    exact hf z M1 H1 f1
  · obtain ⟨H1, f1⟩ := h.hS k1 S1
    obtain ⟨H2, k2⟩ := H1.wr f2
    have k01 := f1.2.2 0 (by decide) (by decide) (by decide)
    have k02 := k2 0 (by decide) (by decide) (by decide)
    exact hq z M2 H2 ⟨k02.1.trans k01.1, k02.2.trans k01.2⟩ W2
theorem c_countH {dd De : Nat} {Q : g_M → Prop} {pe : Int} {fe : b_E} (h : C_H ι κ al sz cB eB st D gv M) (hw : w < 2) (h16 : g_r M (ι 0) 16 = some (ι (67 + w))) (h14 : g_i M (ι 0) 14 = pe) (he : b_st (g_i M (ι 2)) 2008 pe De fe.1 fe.2.1 fe.2.2) (hk : fe.1 = 3) (hDe : De ≤ 20) (hW : c_Wr (ι 3) (ι 4) 8000 0 8000 u M) (hf : ((K_F 20).1 (L_ch pe fe) 0).1 ≠ 0 → ∀ M1, C_H ι κ al sz cB eB st D gv M1 → C_fx Ck_h ι M M1 → Q (g_wi (g_wi M1 (ι 0) 17 (10 + ((K_F 20).1 (L_ch pe fe) 0).1)) (ι 0) 18 (((K_F 20).1 (L_ch pe fe) 0).2.1 - 4))) (hq : ((K_F 20).1 (L_ch pe fe) 0).1 = 0 → ∀ M1, C_H ι κ al sz cB eB st D gv M1 → g_i M1 (ι 0) = g_i M (ι 0) ∧ g_r M1 (ι 0) = g_r M (ι 0) → c_Wr (ι 3) (ι 4) 8000 0 8000 (u ++ b_el 16 (b_tx 29) (b_le4 (((D w).filter fun z => (F_X 20).1 (b_ch fe.2.2) (3, [], b_doc z.2)).length : Nat))) M1 → Q M1) : g_Call (dd + 232) 216 [.ref (ι 0)] M (g_qV Q) := by
  have hs := h.2.2.2.2.1 w hw
  have hb : b_st (g_i M (ι 2)) 2100 pe De fe.1 fe.2.1 fe.2.2 := ⟨he.1, he.2.1, he.2.2.1, he.2.2.2.1, by have := he.2.2.2.2; omega⟩
  refine c_countQ (dd := dd) (h.ho hw h16) h14 h.FS hs.psh hb hk hDe hW (fun z M1 k1 S1 => ?_) fun z M1 M2 k1 S1 f2 W2 => ?_
  · obtain ⟨H1, f1⟩ := h.hS k1 S1
    exact hf z M1 H1 f1
  · obtain ⟨H1, f1⟩ := h.hS k1 S1
    obtain ⟨H2, k2⟩ := H1.wr f2
    have k01 := f1.2.2 0 (by decide) (by decide) (by decide)
    have k02 := k2 0 (by decide) (by decide) (by decide)
    exact hq z M2 H2 ⟨k02.1.trans k01.1, k02.2.trans k01.2⟩ W2
end CFC
