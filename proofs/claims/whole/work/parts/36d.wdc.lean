/-! WHAT A REQUEST DOES: the class does it -/
def W_q4 (p : Int) : Int := if p = -1 then -1 else p - 4
theorem W_q4_m : W_q4 (-1) = -1 := rfl
theorem W_q4_p {p : Int} (h : 0 ≤ p) : W_q4 p = p - 4 := if_neg (by omega)
def W_P (ι : Nat → Nat) (κ : Nat → Nat → Nat) (cB eB : Int) (n : Nat) (M0 : g_M) (u : List Int) (R : W_R) (Q : g_M → Prop) : Prop := ∀ (al1 sz1 : Nat → Nat × Nat) (cB1 eB1 : Int) (M1 : g_M), (cB ≤ cB1 ∧ cB1 ≤ cB + n ∧ eB ≤ eB1 ∧ eB1 ≤ eB + 2) → C_H ι κ al1 sz1 cB1 eB1 R.2.2.1 R.2.2.2.1 R.2.2.2.2 M1 → (R.1.1 = 0 → g_i M1 (ι 0) 17 = 0 ∧ c_Wr (ι 3) (ι 4) 8000 0 8000 (u ++ R.2.1) M1) → (R.1.1 ≠ 0 → g_i M1 (ι 0) 17 = R.1.1 ∧ g_i M1 (ι 0) 18 = W_q4 R.1.2 ∧ c_Wr (ι 3) (ι 4) 8000 0 8000 u M1) → (∀ k, k ≠ 17 → k ≠ 18 → g_i M1 (ι 0) k = g_i M0 (ι 0) k) → Q M1
section CDO
variable {d : Nat} {ι : Nat → Nat} {κ : Nat → Nat → Nat} {al sz : Nat → Nat × Nat} {cB eB : Int} {S : W_S} {M M0 M1 : g_M} {x w n : Nat} {u : List Int} {Q : g_M → Prop}
theorem C_H.fl {st : Nat → I_T} {D : Nat → List (Int × List b_E)} {gv : Nat → Int} {a b : Int} (h : C_H ι κ al sz cB eB st D gv M) (hM : M1 = g_wi (g_wi M (ι 0) 17 a) (ι 0) 18 b) : C_H ι κ al sz cB eB st D gv M1 ∧ g_i M1 (ι 0) 17 = a ∧ g_i M1 (ι 0) 18 = b ∧ ∀ k, k ≠ 17 → k ≠ 18 → g_i M1 (ι 0) k = g_i M (ι 0) k := by
  have f : e_fr (fun y _ => y = ι 0) M M1 := by
    rw [hM]
    exact (e_fr.wi _ rfl).tr (e_fr.wi _ rfl)
  refine ⟨h.es (T := [0]) f (by decide) fun y k z => ⟨0, by decide, z, fun g => absurd g (by decide)⟩, ?_, ?_, fun k k1 k2 => ?_⟩
  · rw [hM, g_i_ws, if_neg (by decide), g_i_ws, if_pos rfl]
  · rw [hM, g_i_ws, if_pos rfl]
  · rw [hM, g_i_ws, if_neg k2, g_i_ws, if_neg k1]
theorem W_P.fail {c p : Int} {al1 sz1 : Nat → Nat × Nat} {cB1 eB1 : Int} (h : W_P ι κ cB eB n M0 u (W_f S c p) Q) (hc : c ≠ 0) (hB : cB ≤ cB1 ∧ cB1 ≤ cB + n ∧ eB ≤ eB1 ∧ eB1 ≤ eB + 2) (H : C_H ι κ al1 sz1 cB1 eB1 S.1 S.2.1 S.2.2 M) (hk : g_i M (ι 0) = g_i M0 (ι 0)) (hW : c_Wr (ι 3) (ι 4) 8000 0 8000 u M) : Q (g_wi (g_wi M (ι 0) 17 c) (ι 0) 18 (W_q4 p)) := by
  obtain ⟨H1, a1, a2, a3⟩ := H.fl (a := c) (b := W_q4 p) rfl
  have f : e_fr (fun y _ => y = ι 0) M (g_wi (g_wi M (ι 0) 17 c) (ι 0) 18 (W_q4 p)) := (e_fr.wi _ rfl).tr (e_fr.wi _ rfl)
  have W1 := hW.sm (M1 := g_wi (g_wi M (ι 0) 17 c) (ι 0) 18 (W_q4 p)) (fun a c hc => by rw [f.sh]; exact hc) ⟨funext fun k => f.2.1 _ _ (H.2.1.ne (by decide) (by decide) (by decide)), funext fun k => f.2.2 _ _⟩ (funext fun k => f.2.1 _ _ (H.2.1.ne (by decide) (by decide) (by decide)))
  exact h al1 sz1 cB1 eB1 _ hB H1 (fun z => absurd z hc) (fun _ => ⟨a1, a2, W1⟩) fun k k1 k2 => by rw [a3 k k1 k2, hk]
theorem W_P.okk {t : List Int} {S1 : W_S} {al1 sz1 : Nat → Nat × Nat} {cB1 eB1 : Int} (h : W_P ι κ cB eB n M0 u ((0, 0), t, S1) Q) (hB : cB ≤ cB1 ∧ cB1 ≤ cB + n ∧ eB ≤ eB1 ∧ eB1 ≤ eB + 2) (H : C_H ι κ al1 sz1 cB1 eB1 S1.1 S1.2.1 S1.2.2 M1) (hk : g_i M1 (ι 0) = g_i M0 (ι 0)) (h17 : g_i M0 (ι 0) 17 = 0) (hW : c_Wr (ι 3) (ι 4) 8000 0 8000 (u ++ t) M1) : Q M1 := h al1 sz1 cB1 eB1 M1 hB H (fun _ => ⟨by rw [hk]; exact h17, hW⟩) (fun z => absurd rfl z) fun k _ _ => by rw [hk]
theorem W_b0 : cB ≤ cB ∧ cB ≤ cB + (n : Int) ∧ eB ≤ eB ∧ eB ≤ eB + 2 := by omega
theorem C_fx.k0 {T : List Nat} (h : C_fx T ι M M1) (h0 : 0 ∉ T) : g_i M1 (ι 0) = g_i M (ι 0) := (h.2.2 0 (by decide) (by decide) h0).1
/-- the fault of a filter -/
theorem W_P.K {q : Int} {h : b_E} {R : W_R} (hq : W_P ι κ cB eB n M u (W_K q h S R) Q) (hW : c_Wr (ι 3) (ι 4) 8000 0 8000 u M) (h0 : 0 ≤ q) : (((K_F 20).1 (L_ch q h) 0).1 ≠ 0 → ∀ (T : List Nat) M1, 0 ∉ T ∧ 3 ∉ T ∧ 4 ∉ T → C_H ι κ al sz cB eB S.1 S.2.1 S.2.2 M1 → C_fx T ι M M1 → Q (g_wi (g_wi M1 (ι 0) 17 (10 + ((K_F 20).1 (L_ch q h) 0).1)) (ι 0) 18 (((K_F 20).1 (L_ch q h) 0).2.1 - 4))) ∧ (((K_F 20).1 (L_ch q h) 0).1 = 0 → W_P ι κ cB eB n M u R Q) := by
  unfold W_K at hq
  refine ⟨fun z T M1 hT H1 f1 => ?_, fun z => ?_⟩
  · rw [if_neg z] at hq
    have hk1 := ((K_F_ok 20).1 (L_ch q h) 0).1
    have hk2 := (K_F_G (lo := 0) 20).1 (L_ch q h) 0 (L_ch_lo (z := (q, h)) h0) z
    have h9 := hq.fail (by omega) W_b0 H1 (f1.k0 hT.1) (f1.Wr hT.2.1 hT.2.2 hW)
    rw [W_q4_p hk2] at h9
    exact h9
  · rw [if_pos z] at hq
    exact hq
theorem W_ins_c {h : b_E} (H : C_H ι κ al sz cB eB S.1 S.2.1 S.2.2 M) (hok : W_ok S) (hgv : S.2.2 w ≤ 1000000) (hw : w < 2) (h16 : g_r M (ι 0) 16 = some (ι (67 + w))) (h14 : g_i M (ι 0) 14 = 8) (he : b_st (g_i M (ι 2)) 2008 8 15 h.1 h.2.1 h.2.2) (hk : h.1 = 3) (hnm : h.2.1.length ≤ 50) (hW : c_Wr (ι 3) (ι 4) 8000 0 8000 u M) (h17 : g_i M (ι 0) 17 = 0) (hq : W_P ι κ cB eB n M u (W_ins w h S) Q) : g_Call (d + 63) 213 [.ref (ι 0)] M (g_qV Q) := by
  obtain ⟨o1, o2, o3, o4⟩ := hok w hw
  obtain ⟨d1, es, e1, e2, e3, e4, e5, e6, e7⟩ := b_gv_doc he.2.2.1 (Or.inl hk)
  have hel := b_el_len h.1 h.2.1 h.2.2
  have s5 := he.2.2.2.2
  have hX : X_gd 15 es := fun e hee => ⟨(e5 e hee).1, b_gv_le (e5 e hee).2 (by omega)⟩
  have hl : (b_doc es).length ≤ 2000 := by rw [← e2]; omega
  have hb : b_st (g_i M (ι 2)) 2008 8 16 3 h.2.1 (b_doc es) := by
    have h9 := he.le (show 15 ≤ 16 by decide)
    rw [hk, e2] at h9
    exact h9
  have hgd := o1.add o3 ⟨o4, hgv⟩ hl hX
  unfold W_ins at hq
  rw [e7, e2] at hq
  refine c_insertQ (d := d) H hw h16 h14 hb hnm hl hX ⟨o4, hgv⟩ (fun x x1 x2 V T m1 m2 e => ⟨((o2 x x1 x2 V T m1 m2 e).add hgd).1, fun g => (((o2 x x1 x2 V T m1 m2 e).add hgd).2 g).1⟩) hW (fun hno M1 H1 f1 => ?_) fun hyes sz1 M1 H1 k1 W1 => ?_
  · rw [if_neg hno] at hq
    exact hq.fail (by decide) W_b0 H1 (f1.2.2 0 (by decide) (by decide)).1 (C_H.Wr f1 hW)
  · rw [if_pos hyes] at hq
    exact hq.okk W_b0 H1 k1.1 h17 W1
theorem W_find_c {h : b_E} (H : C_H ι κ al sz cB eB S.1 S.2.1 S.2.2 M) (hw : w < 2) (h16 : g_r M (ι 0) 16 = some (ι (67 + w))) (h14 : g_i M (ι 0) 14 = 8) (he : b_st (g_i M (ι 2)) 2008 8 15 h.1 h.2.1 h.2.2) (hk : h.1 = 3) (hW : c_Wr (ι 3) (ι 4) 8000 0 8000 u M) (h17 : g_i M (ι 0) 17 = 0) (hq : W_P ι κ cB eB n M u (W_find 8 w h S) Q) : g_Call (d + 232) 215 [.ref (ι 0)] M (g_qV Q) := by
  obtain ⟨q1, q2⟩ := W_P.K (al := al) (sz := sz) hq hW (by decide)
  exact c_findH (dd := d) H hw h16 h14 he hk (by decide) hW (fun z M1 H1 f1 => q1 z Ck_h M1 (by decide) H1 f1) fun z M1 H1 k1 W1 => (q2 z).okk W_b0 H1 k1.1 h17 W1
theorem W_cnt_c {h : b_E} (H : C_H ι κ al sz cB eB S.1 S.2.1 S.2.2 M) (hw : w < 2) (h16 : g_r M (ι 0) 16 = some (ι (67 + w))) (h14 : g_i M (ι 0) 14 = 8) (he : b_st (g_i M (ι 2)) 2008 8 15 h.1 h.2.1 h.2.2) (hk : h.1 = 3) (hW : c_Wr (ι 3) (ι 4) 8000 0 8000 u M) (h17 : g_i M (ι 0) 17 = 0) (hq : W_P ι κ cB eB n M u (W_cnt 8 w h S) Q) : g_Call (d + 232) 216 [.ref (ι 0)] M (g_qV Q) := by
  obtain ⟨q1, q2⟩ := W_P.K (al := al) (sz := sz) hq hW (by decide)
  exact c_countH (dd := d) H hw h16 h14 he hk (by decide) hW (fun z M1 H1 f1 => q1 z Ck_h M1 (by decide) H1 f1) fun z M1 H1 k1 W1 => (q2 z).okk W_b0 H1 k1.1 h17 W1
theorem W_del_c {h : b_E} (H : C_H ι κ al sz cB eB S.1 S.2.1 S.2.2 M) (hok : W_ok S) (hw : w < 2) (h16 : g_r M (ι 0) 16 = some (ι (67 + w))) (h14 : g_i M (ι 0) 14 = 8) (he : b_st (g_i M (ι 2)) 2008 8 15 h.1 h.2.1 h.2.2) (hk : h.1 = 3) (hW : c_Wr (ι 3) (ι 4) 8000 0 8000 u M) (h17 : g_i M (ι 0) 17 = 0) (hq : W_P ι κ cB eB n M u (W_del 8 w h S) Q) : g_Call (d + 232) 217 [.ref (ι 0)] M (g_qV Q) := by
  obtain ⟨o1, o2, o3, o4⟩ := hok w hw
  obtain ⟨q1, q2⟩ := W_P.K (al := al) (sz := sz) hq hW (by decide)
  exact c_deleteQ (dd := d) H hw h16 h14 he hk (by decide) o1 o2 hW (fun z M1 H1 f1 => q1 z Ck_h M1 (by decide) H1 f1) fun z sz1 M1 H1 k1 W1 => (q2 z).okk W_b0 H1 k1.1 h17 W1
theorem W_exp_c {h : b_E} (H : C_H ι κ al sz cB eB S.1 S.2.1 S.2.2 M) (hw : w < 2) (h16 : g_r M (ι 0) 16 = some (ι (67 + w))) (h14 : g_i M (ι 0) 14 = 8) (he : b_st (g_i M (ι 2)) 2008 8 15 h.1 h.2.1 h.2.2) (hk : h.1 = 3) (hbq : ((K_F 20).1 (L_ch 8 h) 0).1 = 0 → ∀ x, 4 * w ≤ x → x < 4 * w + 4 → ∀ V T m1 m2, S.1 x = some (V, T, m1, m2) → C_bq (g_i M (ι 2)) (p_jn V.2.2.1) (L_ch 8 h) ∧ ∀ s2, V.2.2.2 = some s2 → C_bq (g_i M (ι 2)) (p_jn s2) (L_ch 8 h)) (hW : c_Wr (ι 3) (ι 4) 8000 0 8000 u M) (h17 : g_i M (ι 0) 17 = 0) (hq : W_P ι κ cB eB n M u (W_exp 8 w h S) Q) : g_Call (d + 232) 224 [.ref (ι 0)] M (g_qV Q) := by
  obtain ⟨q1, q2⟩ := W_P.K (al := al) (sz := sz) hq hW (by decide)
  exact c_explainH (dd := d) H hw h16 h14 he hk (by decide) rfl hbq hW (fun z M1 H1 f1 => q1 z Ck_h M1 (by decide) H1 f1) fun z M1 H1 k1 W1 => (q2 z).okk W_b0 H1 k1.1 h17 W1
theorem W_ppl_c {h : b_E} (H : C_H ι κ al sz cB eB S.1 S.2.1 S.2.2 M) (hw : w < 2) (h16 : g_r M (ι 0) 16 = some (ι (67 + w))) (h14 : g_i M (ι 0) 14 = 8) (he : b_st (g_i M (ι 2)) 2008 8 15 h.1 h.2.1 h.2.2) (hk : h.1 = 4) (hk3 : ∀ it ∈ b_ch h.2.2, it.1 = 3) (hW : c_Wr (ι 3) (ι 4) 8000 0 8000 u M) (h17 : g_i M (ι 0) 17 = 0) (hq : W_P ι κ cB eB n M u (W_ppl 8 w h S) Q) : g_Call (d + 231) 223 [.ref (ι 0)] M (g_qV Q) := by
  unfold W_ppl at hq
  refine c_pipelineH (dd := d) (n := 16) (De := 14) (w' := 1 - w) (by decide) (by decide) H hw (by omega) (by omega) h16 h14 he hk hk3 hW (fun z M1 H1 f1 => ?_) fun z M1 H1 k1 W1 => ?_
  · rw [if_neg z] at hq
    have hlo := T_pl_lo (L_ch 8 h) ((S.2.1 w).map Prod.snd) (fun y hy => L_ch_lo (lo := 0) (z := ((8 : Int), h)) (show (0 : Int) ≤ 8 by decide) y hy) z
    have h9 := hq.fail z W_b0 H1 (f1.k0 (by decide)) (f1.Wr (by decide) (by decide) hW)
    rw [W_q4_p hlo] at h9
    exact h9
  · rw [if_pos z] at hq
    exact hq.okk W_b0 H1 k1.1 h17 W1
end CDO
