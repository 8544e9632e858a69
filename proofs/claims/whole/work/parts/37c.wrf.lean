/-! WHAT A REQUEST DOES: the reference makes an index, updates, explains -/
section WRF
variable {m d : Nat} {ρ : Nat → Nat} {M M1 M2 : g_M} {S : W_S} {q : Nat → List (Nat × Int × List b_E)} {Q : Int → g_M → Prop} {w : Nat}
theorem W_idx_e {h t : b_E} {D1 D2 De : Nat} {q1 q2 : Int} {ea ed : b_E} {ra rd es0 : List b_E} (H : E_H m ρ S.1 q S.2.2 M) (hS : E_S m (ρ 0) (ρ 9) (g_i M (ρ 0)) M []) (h40 : g_i M m 40 = 0 ∨ g_i M m 40 = 1) (hw : w < 2) (hd : ∀ w, w < 2 → R_dn (q w) = S.2.1 w) (hok : W_ok S) (hreq : E_ct (g_i M (ρ 0)) 0 De es0) (hit : (L_at 4 es0)[2]? = some (q2, t)) (hk1 : h.1 = 4) (hk2 : t.1 = 4) (hs1 : b_st (g_i M (ρ 0)) 922000 q1 (D1 + 1) h.1 h.2.1 h.2.2) (hs2 : b_st (g_i M (ρ 0)) 922000 q2 (D2 + 1) t.1 t.2.1 t.2.2) (hc1 : b_ch h.2.2 = ea :: ra) (hc2 : b_ch t.2.2 = ed :: rd) (hlen : ra.length = rd.length) (hra : ra.length ≤ 1) (ha : ∀ e ∈ ea :: ra, I_ptx e) (hdn : ∀ e ∈ ed :: rd, e.1 = 8) (hq : W_E m ρ M (W_idx w h t S) Q) : g_Call (d + 73) 421 [.ref m, g_n q1, g_n w] M (g_qI Q) := by
  obtain ⟨o1, o2, o3, o4⟩ := hok w hw
  have e1 : W_idx w h t S = W_ix w ea ra ed rd S := by
    unfold W_idx
    rw [hc1, hc2]
  rw [e1] at hq
  unfold W_ix at hq
  have hfr : ∀ {k : Nat}, k < 4 → S.1 (4 * w + k) = none → (∀ j, j < k → S.1 (4 * w + j) ≠ none) → W_fr (fun k => (S.1 (4 * w + k)).isNone) 4 = some k := fun {k} k4 hk0 hkb => W_fr_s (by show (S.1 (4 * w + k)).isNone = true; rw [hk0]; rfl) (fun j hj => by
    show (S.1 (4 * w + j)).isNone = false
    cases hs : S.1 (4 * w + j) with
    | none => exact absurd hs (hkb j hj)
    | some t => rfl) k4
  obtain ⟨t0, t1, t2, t3, t4, -⟩ := W_tx
  have hit2 : (L_at 4 es0)[2]? = some (q2, (4, t.2.1, t.2.2)) := by
    rw [hit, ← hk2]
  have h0n : ∀ z ∈ q w, 0 ≤ z.2.1 := fun z hz => (o3 z.2 (by rw [← hd w hw]; exact List.mem_map.mpr ⟨z, hz, rfl⟩)).1
  have hgd : H_gd (R_dn (q w)) := by
    rw [hd w hw]
    exact o1
  rw [hk1] at hs1
  rw [hk2] at hs2
  refine e_newIndex (d := d) H hS hw hreq hit2 hs1 hs2 hc1 hc2 hlen hra ha hdn hgd h0n (fun z => ?_) (fun k k4 hk0 hkb hno M1 k1 S1 h40' H1 => ?_) fun k k4 hk0 hkb hyes M1 M2 k1 S1 h40' H1 f2 W2 => ?_
  · rw [W_fr_n fun k hk => by
      show (S.1 (4 * w + k)).isNone = false
      cases hs : S.1 (4 * w + k) with
      | none => exact absurd hs (z (4 * w + k) (by omega) (by omega))
      | some t => rfl] at hq
    exact W_E.fail (S := S) hq (by decide) (E_k.rf m M).k2 H hS h40 hd
  · rw [hfr k4 hk0 hkb] at hq
    rw [hd w hw] at hno
    have hq : W_E m ρ M (if (((S.2.1 w).map Prod.snd).map (I_num (I_mkV ea ra ed rd))).sum ≤ 1000 then _ else W_f S 40 (-1)) Q := hq
    rw [if_neg hno] at hq
    exact hq.fail (by decide) k1.k2 H1 S1 h40' hd
  · rw [hfr k4 hk0 hkb] at hq
    rw [hd w hw] at hyes H1
    have hq : W_E m ρ M (if (((S.2.1 w).map Prod.snd).map (I_num (I_mkV ea ra ed rd))).sum ≤ 1000 then _ else W_f S 40 (-1)) Q := hq
    rw [if_pos hyes] at hq
    rw [t4] at W2
    exact W_E.okk hq k1.k2 S1 h40' H1 hd f2 W2
theorem U_R_pl {pc qc : Int} {cs es : List b_E} (hq : 0 ≤ qc) (h : (U_R pc qc cs es).1.1 ≠ 0) : (U_R pc qc cs es).1.2 = if (U_R (-1) qc cs es).1.2 = -1 then pc else (U_R (-1) qc cs es).1.2 := by
  have h9 := Z_os_lo (lo := 0) (L_at qc cs) (es, 0) fun z hz => by
    have := L_at_lo _ _ z hz
    omega
  unfold U_R Z_end at h ⊢
  by_cases g : (Z_os (es, 0) (L_at qc cs)).1.1 = 0
  · rw [if_pos g] at h
    rw [if_pos g, if_pos g]
    by_cases g2 : 2000 < (b_doc (Z_os (es, 0) (L_at qc cs)).2.1).length
    · rw [if_pos g2, if_pos g2]
      rfl
    · rw [if_neg g2] at h
      rw [if_neg g2, if_neg g2]
      by_cases g3 : 16 < b_dp 31 1 (Z_os (es, 0) (L_at qc cs)).2.1
      · rw [if_pos g3, if_pos g3]
        rfl
      · rw [if_neg g3] at h
        exact absurd g h
  · rw [if_neg g, if_neg g, if_neg (by have := h9 g; omega)]
theorem W_exp_e {h : b_E} {c : Int} {xs : List b_E} (H : E_H m ρ S.1 q S.2.2 M) (hS : E_S m (ρ 0) (ρ 9) (g_i M (ρ 0)) M []) (h40 : g_i M m 40 = 0 ∨ g_i M m 40 = 1) (hw : w < 2) (hd : ∀ w, w < 2 → R_dn (q w) = S.2.1 w) (hct : E_ct (g_i M (ρ 0)) c 15 xs) (hl : L_ch 4 h = L_at (c + 4) xs) (hK : ((K_F 20).1 (L_ch 4 h) 0).1 = 0) (hg : ∀ x, 4 * w ≤ x → x < 4 * w + 4 → ∀ V T m1 m2, S.1 x = some (V, T, m1, m2) → D_fg (g_i M (ρ 0)) (p_jn V.2.2.1) (L_ch 4 h) ∧ ∀ s2, V.2.2.2 = some s2 → D_fg (g_i M (ρ 0)) (p_jn s2) (L_ch 4 h)) (hq : W_E m ρ M (W_exp 4 w h S) Q) : g_Call (d + 72) 423 [.ref m, g_n c, g_n w] M (g_qI Q) := by
  obtain ⟨t0, t1, t2, t3, t4, -, ⟨t5, t6, t7⟩, -⟩ := W_tx
  unfold W_exp W_K at hq
  rw [if_pos hK] at hq
  refine e_explain (d := d) H hS h40 hw hct hl hg fun M1 M2 k1 S1 h40' H1 f2 W2 => ?_
  have e9 : ∀ s n, F_exp w s n 82 131 132 133 = F_exp w s n 5 62 63 64 := fun s n => by
    unfold F_exp
    rw [t4, t5, t6, t7]
  rw [e9, ← (R_dn_3 (q w)).2, hd w hw] at W2
  exact W_E.okk hq k1.k2 S1 h40' H1 hd f2 W2
end WRF
