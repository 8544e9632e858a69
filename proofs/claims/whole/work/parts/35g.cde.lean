/-! REQUESTS, THE CLASS: what filters hold for, in the house; delete -/
/-- all of the book but the room and these stays -/
def C_fx (T : List Nat) (ι : Nat → Nat) (M M1 : g_M) : Prop := g_ext M M1 ∧ M.1.length ≤ M1.1.length ∧ ∀ a ∈ Ck_k, a ≠ 1 → a ∉ T → g_i M1 (ι a) = g_i M (ι a) ∧ g_r M1 (ι a) = g_r M (ι a)
theorem C_fx.rf (T : List Nat) (ι : Nat → Nat) (M : g_M) : C_fx T ι M M := ⟨g_ext.rf M, Nat.le_refl _, fun _ _ _ _ => ⟨rfl, rfl⟩⟩
theorem C_fx.tr {T : List Nat} {ι : Nat → Nat} {M M1 M2 : g_M} (h : C_fx T ι M M1) (h2 : C_fx T ι M1 M2) : C_fx T ι M M2 := ⟨h.1.tr h2.1, Nat.le_trans h.2.1 h2.2.1, fun a ha ha1 hn => ⟨(h2.2.2 a ha ha1 hn).1.trans (h.2.2 a ha ha1 hn).1, (h2.2.2 a ha ha1 hn).2.trans (h.2.2 a ha ha1 hn).2⟩⟩
theorem C_f1.x {T : List Nat} {ι : Nat → Nat} {M M1 : g_M} (h : C_f1 ι M M1) : C_fx T ι M M1 := ⟨h.1, h.2.1, fun a ha ha1 _ => h.2.2 a ha ha1⟩
theorem C_fx.Wr {T : List Nat} {ι : Nat → Nat} {M M1 : g_M} {u : List Int} (h : C_fx T ι M M1) (h3 : 3 ∉ T) (h4 : 4 ∉ T) (hW : c_Wr (ι 3) (ι 4) 8000 0 8000 u M) : c_Wr (ι 3) (ι 4) 8000 0 8000 u M1 := hW.sm h.1 (h.2.2 3 (by decide) (by decide) h3) (h.2.2 4 (by decide) (by decide) h4).1
/-- what a filter touches -/
def Ck_h : List Nat := [6, 7, 8, 9, 90]
/-- documents, marked where p holds -/
def Z_h (p : List b_E → Bool) (ds : List (Int × List b_E)) : List (Bool × Int × List b_E) := ds.map fun z => (p z.2, z)
theorem Z_h_2 (p : List b_E → Bool) (ds : List (Int × List b_E)) : (Z_h p ds).map (fun z => z.2) = ds := by
  unfold Z_h
  rw [List.map_map]
  exact List.map_id' ds
theorem H_up_self {α : Type} (q : Nat → α) (w : Nat) : H_up q w (q w) = q := by
  funext y
  unfold H_up
  by_cases g : y = w
  · rw [if_pos g, g]
  · rw [if_neg g]
section CDE
variable {d : Nat} {ι : Nat → Nat} {κ : Nat → Nat → Nat} {al sz : Nat → Nat × Nat} {cB eB : Int} {st : Nat → I_T} {D : Nat → List (Int × List b_E)} {gv : Nat → Int} {M M1 : g_M} {x w : Nat} {u : List Int}
theorem C_H.FS (h : C_H ι κ al sz cB eB st D gv M) : F_S (ι 1) (ι 2) (ι 6) (ι 7) (ι 8) (ι 9) (cB + C_sm (C_c sz) 8) (eB + C_sm (C_e sz) 8) 246408 (g_i M (ι 2)) M [] := ⟨h.2.2.1, ⟨h.1.O (by decide), h.1.r (by decide), h.1.r (by decide), h.1.r (by decide)⟩, ⟨h.1.O (by decide), h.1.r (by decide), h.1.r (by decide), h.1.A (by decide), h.1.A (by decide), h.2.1.ne (by decide) (by decide) (by decide)⟩, h.1.A (by decide), rfl⟩
theorem H_S_k {y : Nat} (z : H_S (ι 6) (ι 7) (ι 8) (ι 9) (ι 90) y) : ∃ a ∈ Ck_h, y = ι a := by
  rcases z with (z | z | z | z) | z
  · exact ⟨6, by decide, z⟩
  · exact ⟨7, by decide, z⟩
  · exact ⟨8, by decide, z⟩
  · exact ⟨9, by decide, z⟩
  · exact ⟨90, by decide, z⟩
theorem C_H.hS (h : C_H ι κ al sz cB eB st D gv M) (k : k_F (H_S (ι 6) (ι 7) (ι 8) (ι 9) (ι 90)) (ι 1) M M1) (S1 : F_S (ι 1) (ι 2) (ι 6) (ι 7) (ι 8) (ι 9) (cB + C_sm (C_c sz) 8) (eB + C_sm (C_e sz) 8) 246408 (g_i M (ι 2)) M1 []) : C_H ι κ al sz cB eB st D gv M1 ∧ C_fx Ck_h ι M M1 := by
  obtain ⟨s1, ⟨s2, s3, s4, s5⟩, ⟨s6, s7, s8, -⟩, s9, s10⟩ := S1
  have hsc : ∀ a ∈ Ck_h, a ∈ Ck_sc := by decide
  refine ⟨h.kF k s1 (fun y hy => ?_) (fun q _ => by rw [s10]) fun l hl h1 hS => ?_, k.1, k.2.1, fun a ha h1 hn => h.1.sm h.2.2.1 k ha h1 fun z => ?_⟩
  · obtain ⟨a, ha, e⟩ := H_S_k hy
    exact ⟨a, hsc a ha, e⟩
  · obtain ⟨a, ha, e⟩ := H_S_k hS
    have e := h.2.1.1 _ (Ck_r_k l hl).1 a (Ck_sc_k a (hsc a ha)).1 e
    have hx : ∀ l ∈ Ck_r, l.1 ∈ Ck_h → l = (6, 0, 1) ∨ l = (6, 1, 2) ∨ l = (6, 2, 7) ∨ l = (7, 1, 8) ∨ l = (7, 2, 9) := by decide
    rw [h.1.2.1 l hl]
    rcases hx l hl (by rw [e]; exact ha) with e | e | e | e | e <;> subst e
    · exact s3
    · exact s4
    · exact s5
    · exact s7
    · exact s8
  · obtain ⟨a2, ha2, e⟩ := H_S_k z
    have e := h.2.1.1 _ ha a2 (Ck_sc_k a2 (hsc a2 ha2)).1 e
    rw [← e] at ha2
    exact hn ha2
theorem c_hitsH {dd De : Nat} {Q : Int → g_M → Prop} {pe : Int} {fe : b_E} (h : C_H ι κ al sz cB eB st D gv M) (hw : w < 2) (h16 : g_r M (ι 0) 16 = some (ι (67 + w))) (h14 : g_i M (ι 0) 14 = pe) (he : b_st (g_i M (ι 2)) 2008 pe De fe.1 fe.2.1 fe.2.2) (hk : fe.1 = 3) (hDe : De ≤ 20) (hf : ((K_F 20).1 (L_ch pe fe) 0).1 ≠ 0 → ∀ M1, C_H ι κ al sz cB eB st D gv M1 → C_fx Ck_h ι M M1 → Q (-1) (g_wi (g_wi M1 (ι 0) 17 (10 + ((K_F 20).1 (L_ch pe fe) 0).1)) (ι 0) 18 (((K_F 20).1 (L_ch pe fe) 0).2.1 - 4))) (hq : ((K_F 20).1 (L_ch pe fe) 0).1 = 0 → ∀ M1, C_H ι κ al sz cB eB st D gv M1 → C_fx Ck_h ι M M1 → (∀ (k : Nat) (z : Bool × Int × List b_E), (Z_h (fun es => (F_X 20).1 (b_ch fe.2.2) (3, [], b_doc es)) (D w))[k]? = some z → g_i M1 (ι 90) k = if z.1 = true then 1 else 0) → Q (((D w).filter fun z => (F_X 20).1 (b_ch fe.2.2) (3, [], b_doc z.2)).length : Nat) M1) : g_Call (dd + 231) 214 [.ref (ι 0)] M (g_qI Q) := by
  have hs := h.2.2.2.2.1 w hw
  have hb : b_st (g_i M (ι 2)) 2100 pe De fe.1 fe.2.1 fe.2.2 := ⟨he.1, he.2.1, he.2.2.1, he.2.2.2.1, by have := he.2.2.2.2; omega⟩
  refine c_hits (hi := ι 90) (dd := dd) (h.1.O (by decide)) (h.1.r (by decide)) (h.1.r (by decide)) h16 h14 h.FS (h.1.A (by decide)) hs.1.1 hs.1.2.2.1 hs.1.2.2.2.2.1 hs.psh hb hk hDe (fun z M1 k1 S1 => ?_) fun z M1 k1 S1 hh => ?_
  · obtain ⟨H1, f1⟩ := h.hS k1 S1
    exact hf z M1 H1 f1
  · obtain ⟨H1, f1⟩ := h.hS k1 S1
    have h9 := hq z M1 H1 f1 fun k z hz => ?_
    · have el : (((D w).map Prod.snd).filter fun es => (F_X 20).1 (b_ch fe.2.2) (3, [], b_doc es)).length = ((D w).filter fun z => (F_X 20).1 (b_ch fe.2.2) (3, [], b_doc z.2)).length := by
        rw [List.filter_map, List.length_map]
        rfl
      rw [el]
      exact h9
    · unfold Z_h at hz
      rw [List.getElem?_map] at hz
      cases hy : (D w)[k]? with
      | none =>
        rw [hy] at hz
        exact absurd hz (by simp)
      | some y =>
        rw [hy] at hz
        have hz : (_, y) = z := Option.some.inj hz
        rw [← hz]
        exact hh k y.2 (by rw [List.getElem?_map, hy]; rfl)
theorem c_deleteQ {dd De : Nat} {Q : g_M → Prop} {pe : Int} {fe : b_E} (h : C_H ι κ al sz cB eB st D gv M) (hw : w < 2) (h16 : g_r M (ι 0) 16 = some (ι (67 + w))) (h14 : g_i M (ι 0) 14 = pe) (he : b_st (g_i M (ι 2)) 2008 pe De fe.1 fe.2.1 fe.2.2) (hk : fe.1 = 3) (hDe : De ≤ 20) (hgd : H_gd (D w)) (hok : ∀ x, 4 * w ≤ x → x < 4 * w + 4 → ∀ V T m1 m2, st x = some (V, T, m1, m2) → I_ok V (D w) T) (hW : c_Wr (ι 3) (ι 4) 8000 0 8000 u M) (hf : ((K_F 20).1 (L_ch pe fe) 0).1 ≠ 0 → ∀ M1, C_H ι κ al sz cB eB st D gv M1 → C_fx Ck_h ι M M1 → Q (g_wi (g_wi M1 (ι 0) 17 (10 + ((K_F 20).1 (L_ch pe fe) 0).1)) (ι 0) 18 (((K_F 20).1 (L_ch pe fe) 0).2.1 - 4))) (hq : ((K_F 20).1 (L_ch pe fe) 0).1 = 0 → ∀ sz1 M1, C_H ι κ al sz1 cB eB (I_lp (I_rem (Z_h (fun es => (F_X 20).1 (b_ch fe.2.2) (3, [], b_doc es)) (D w))) w st (4 * w + 4)) (H_up D w (Z_k (Z_h (fun es => (F_X 20).1 (b_ch fe.2.2) (3, [], b_doc es)) (D w)))) gv M1 → g_i M1 (ι 0) = g_i M (ι 0) ∧ g_r M1 (ι 0) = g_r M (ι 0) → c_Wr (ι 3) (ι 4) 8000 0 8000 (u ++ b_el 16 (b_tx 29) (b_le4 (((D w).filter fun z => (F_X 20).1 (b_ch fe.2.2) (3, [], b_doc z.2)).length : Nat))) M1 → Q M1) : g_Call (dd + 232) 217 [.ref (ι 0)] M (g_qV Q) := by
  obtain ⟨w1, w2, w3, w4, w5, w6⟩ := Ck_w hw
  refine m_X11_delete (d := dd + 231) fun _ => ⟨h.1.O (by decide), c_hitsH (dd := dd) h hw h16 h14 he hk hDe (fun z M1 H1 f1 => ?_) fun z M1 H1 f1 hh => ?_⟩
  · intro _ _ _
    exact ⟨fun _ => hf z M1 H1 f1, fun z2 => absurd (by decide) z2⟩
  · intro _ _ hR
    have hq2 := hq z
    obtain ⟨hd, hhd⟩ : ∃ hd : List b_E → Bool, hd = fun es => (F_X 20).1 (b_ch fe.2.2) (3, [], b_doc es) := ⟨_, rfl⟩
    have e9 : (fun z : Int × List b_E => (F_X 20).1 (b_ch fe.2.2) (3, [], b_doc z.2)) = fun z => hd z.2 := by rw [hhd]
    rw [e9] at hq2 hR ⊢
    rw [← hhd] at hq2 hh
    have k1 : g_i M1 (ι 0) = g_i M (ι 0) ∧ g_r M1 (ι 0) = g_r M (ι 0) := f1.2.2 0 (by decide) (by decide) (by decide)
    have W1 := f1.Wr (by decide) (by decide) hW
    have hlp : ∀ (j i : Nat) (sz1 : Nat → Nat × Nat) (M' : g_M), i + j = 4 → C_H ι κ al sz1 cB eB (I_lp (I_rem (Z_h hd (D w))) w st (4 * w + i)) D gv M' → (g_i M' (ι 0) = g_i M (ι 0) ∧ g_r M' (ι 0) = g_r M (ι 0)) → c_Wr (ι 3) (ι 4) 8000 0 8000 u M' → I_sh (ι 2) (ι (67 + w)) (ι (69 + 4 * w)) (ι (70 + 4 * w)) (ι 90) 246408 (Z_h hd (D w)) M' → g_Run (dd + 231) 217 12 [(0, .ref (ι 0)), (1, g_n (((D w).filter fun z => hd z.2).length : Nat)), (2, g_n (i : Int))] [] M' (g_qV Q) := by
      intro j
      induction j with
      | zero =>
        intro i sz1 M' hij H' k' W' s'
        have hi4 : i = 4 := by omega
        subst hi4
        obtain ⟨g0', gs', gh', gr10', gr1', gr0'⟩ := H'.gF hw
        have hs' := H'.2.2.2.2.1 w hw
        refine s_X11_delete_12 (a0 := ι 0) hR ⟨by omega, by omega⟩ fun _ => ⟨fun g => absurd g (by decide), fun _ => ⟨g0', ι (67 + w), by rw [k'.2]; exact h16, ι 90, gr10', gs', c_sremove (d := dd + 229) (zs := Z_h hd (D w)) (base := 2008 + 40400 * (w : Int)) (gv := gv w) (by rw [Z_h_2]; exact hs') gh' (fun i z hz => ?_) fun M2 f2 s2 => ?_⟩⟩
        · exact (s'.2.2.2 i z hz).2.2.2.2
        · intro _ _
          have H2 := H'.sf hw f2 s2
          rw [H_up_self gv w] at H2
          have hj0 := H'.2.1
          have sm : ∀ a ∈ Ck_k, a ≠ 67 + w → a ≠ 69 + 4 * w → a ≠ 70 + 4 * w → a ≠ 2 → g_i M2 (ι a) = g_i M' (ι a) ∧ g_r M2 (ι a) = g_r M' (ι a) := fun a ha n1 n2 n3 n4 => ⟨funext fun k => f2.2.1 _ _ fun z => by
            rcases z with ⟨z, -⟩ | z | z | ⟨z, -⟩
            · exact hj0.ne ha w1 n1 z
            · exact hj0.ne ha w2 n2 z
            · exact hj0.ne ha w3 n3 z
            · exact hj0.ne ha (by decide) n4 z, funext fun k => f2.2.2 _ _⟩
          have hx2 : g_ext M' M2 := fun a c hc => by
            rw [f2.sh]
            exact hc
          have s0 := sm 0 (by decide) (by omega) (by omega) (by omega) (by decide)
          have W2 := W'.sm hx2 (sm 3 (by decide) (by omega) (by omega) (by omega) (by decide)) (sm 4 (by decide) (by omega) (by omega) (by omega) (by decide)).1
          refine ⟨ι 3, H2.1.r (by decide), H2.1.O (by decide), c_named2 (d := dd + 227) (j := 29) (by decide) W2 hR fun M3 f3 W3 => ?_⟩
          intro _ _
          obtain ⟨H3, k3⟩ := H2.wr f3
          have k03 := k3 0 (by decide) (by decide) (by decide)
          exact hq2 sz1 M3 H3 ⟨k03.1.trans (s0.1.trans k'.1), k03.2.trans (s0.2.trans k'.2)⟩ W3
      | succ j ih =>
        intro i sz1 M' hij H' k' W' s'
        obtain ⟨g0', gs', gh', gr10', gr1', gr0'⟩ := H'.gF hw
        obtain ⟨r', rk', rr', rA', ri'⟩ := H'.xs hw
        refine s_X11_delete_12 (a0 := ι 0) hR ⟨by omega, by omega⟩ fun _ => ⟨fun _ => ⟨g0', ι (67 + w), by rw [k'.2]; exact h16, gs', ι r', rr', 4, rA', ⟨by omega, by omega⟩, κ (4 * w + i) 0, ri' i (by omega), ι (67 + w), by rw [k'.2]; exact h16, ι 90, gr10', H'.1.xO (by omega) (by decide), ?_⟩, fun g => absurd (by omega) g⟩
        have elp : I_lp (I_rem (Z_h hd (D w))) w st (4 * w + i) (4 * w + i) = st (4 * w + i) := I_lp_at _ _ _ _
        have h9 : g_Call (dd + 169 + 62) 73 [.ref (κ (4 * w + i) 0), .ref (ι (67 + w)), .ref (ι 90)] M' (g_qV fun M32 => g_ext M' M32 → g_ok M32 → g_InR ((i : Int) + 1) ∧ g_Run (dd + 231) 217 12 [(0, .ref (ι 0)), (1, g_n (((D w).filter fun z => hd z.2).length : Nat)), (2, g_n ((i : Int) + 1))] [] M32 (g_qV Q)) := by
          refine c_outH (d := dd + 169) H' (by omega) hw s' (fun V T m1 m2 e => ?_) fun sz2 M2 H2 f2 s2 => ?_
          · rw [elp] at e
            have ho := hok (4 * w + i) (by omega) (by omega) V T m1 m2 e
            exact (I_ok.out (zs := Z_h hd (D w)) (by rw [Z_h_2]; exact ho) (by rw [Z_h_2]; exact hgd)).1
          · intro _ _
            refine ⟨⟨by omega, by omega⟩, ?_⟩
            rw [elp, ← I_lp_s _ _ _ (by omega)] at H2
            have k2 := f2.2.2 0 (by decide) (by decide)
            have h9 := ih (i + 1) sz2 M2 (by omega) H2 ⟨k2.1.trans k'.1, k2.2.trans k'.2⟩ (C_H.Wr f2 W') s2
            rw [show ((i + 1 : Nat) : Int) = (i : Int) + 1 by omega] at h9
            exact h9
        exact h9
    have hsh := H1.sh hw (zs := Z_h hd (D w)) (Z_h_2 hd (D w)).symm hh
    exact ⟨fun z => absurd z (by omega), fun _ => hlp 4 0 sz M1 rfl (by rw [Nat.add_zero, I_lp_0]; exact H1) k1 W1 hsh⟩
end CDE
