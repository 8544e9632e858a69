section CDO2
variable {d : Nat} {ι : Nat → Nat} {κ : Nat → Nat → Nat} {al sz : Nat → Nat × Nat} {cB eB : Int} {S : W_S} {M M0 M1 : g_M} {x w n : Nat} {u : List Int} {Q : g_M → Prop}
theorem W_at_j {h : b_E} {j : Nat} (hw : w < 2) (e : (v_num h.1 h.2.2).toInt = j) (hj : j < 4) : W_at w h = 4 * w + j ∧ W_at w h ≠ 8 := by
  unfold W_at
  rw [e, if_pos ⟨by omega, by omega⟩, Int.toNat_natCast]
  exact ⟨rfl, by omega⟩
theorem W_at_n {h : b_E} (hw : w < 2) (z : (v_num h.1 h.2.2).toInt < 0 ∨ 3 < (v_num h.1 h.2.2).toInt ∨ (∀ j : Nat, (v_num h.1 h.2.2).toInt = j → S.1 (4 * w + j) = none)) : W_at w h = 8 ∨ S.1 (W_at w h) = none := by
  unfold W_at
  by_cases g : 0 ≤ (v_num h.1 h.2.2).toInt ∧ (v_num h.1 h.2.2).toInt ≤ 3
  · rw [if_pos g]
    refine Or.inr ?_
    rcases z with z | z | z
    · omega
    · omega
    · exact z _ (by omega)
  · rw [if_neg g]
    exact Or.inl rfl
theorem W_drp_c {h : b_E} (H : C_H ι κ al sz cB eB S.1 S.2.1 S.2.2 M) (hw : w < 2) (h16 : g_r M (ι 0) 16 = some (ι (67 + w))) (h14 : g_i M (ι 0) 14 = 8) (he : b_st (g_i M (ι 2)) 2008 8 15 h.1 h.2.1 h.2.2) (hk : h.1 = 16 ∨ h.1 = 18) (hW : c_Wr (ι 3) (ι 4) 8000 0 8000 u M) (h17 : g_i M (ι 0) 17 = 0) (hq : W_P ι κ cB eB n M u (W_drp w h S) Q) : g_Call (d + 7) 221 [.ref (ι 0)] M (g_qV Q) := by
  unfold W_drp at hq
  refine c_dropQ (d := d) H hw h16 h14 he hk hW (fun z => ?_) fun j j1 j2 j3 M1 H1 k1 W1 => ?_
  · have e : W_P ι κ cB eB n M u (W_f S 41 (-1)) Q := by
      by_cases g : W_at w h = 8
      · rw [if_pos g] at hq
        exact hq
      · rw [if_neg g] at hq
        rw [(W_at_n hw z).resolve_left g] at hq
        exact hq
    exact e.fail (by decide) W_b0 H rfl hW
  · obtain ⟨a1, a2⟩ := W_at_j hw j1 j2
    rw [if_neg a2, a1] at hq
    cases hs : S.1 (4 * w + j) with
    | none => exact absurd hs j3
    | some t =>
      rw [hs] at hq
      exact W_P.okk (S1 := (I_up S.1 (4 * w + j) none, S.2.1, S.2.2)) hq W_b0 H1 k1.1 h17 W1
theorem W_shp_c {h : b_E} (H : C_H ι κ al sz cB eB S.1 S.2.1 S.2.2 M) (hok : W_ok S) (hw : w < 2) (h16 : g_r M (ι 0) 16 = some (ι (67 + w))) (h14 : g_i M (ι 0) 14 = 8) (he : b_st (g_i M (ι 2)) 2008 8 15 h.1 h.2.1 h.2.2) (hk : h.1 = 16 ∨ h.1 = 18) (hW : c_Wr (ι 3) (ι 4) 8000 0 8000 u M) (h17 : g_i M (ι 0) 17 = 0) (hq : W_P ι κ cB eB n M u (W_shp w h S) Q) : g_Call (d + 7) 222 [.ref (ι 0)] M (g_qV Q) := by
  obtain ⟨o1, o2, o3, o4⟩ := hok w hw
  unfold W_shp at hq
  refine c_shapeQ (d := d) H hw h16 h14 he hk (fun x x1 x2 V T m1 m2 e => ?_) hW (fun z => ?_) fun j j1 j2 V T m1 m2 e M1 H1 k1 W1 => ?_
  · have ho := o2 x x1 x2 V T m1 m2 e
    have hl : (N_all T).length = (I_all V (S.2.1 w)).length := ho.2.2.1.length_eq
    have := ho.2.2.2.2
    omega
  · have e : W_P ι κ cB eB n M u (W_f S 41 (-1)) Q := by
      by_cases g : W_at w h = 8
      · rw [if_pos g] at hq
        exact hq
      · rw [if_neg g] at hq
        rw [(W_at_n hw z).resolve_left g] at hq
        exact hq
    exact e.fail (by decide) W_b0 H rfl hW
  · obtain ⟨a1, a2⟩ := W_at_j hw j1 j2
    rw [if_neg a2, a1, e] at hq
    exact hq.okk W_b0 H1 k1.1 h17 W1
theorem W_upd_c {h t : b_E} {q2 : Int} (H : C_H ι κ al sz cB eB S.1 S.2.1 S.2.2 M) (hok : W_ok S) (hw : w < 2) (h16 : g_r M (ι 0) 16 = some (ι (67 + w))) (h14 : g_i M (ι 0) 14 = 8) (h15 : g_i M (ι 0) 15 = q2) (he : b_st (g_i M (ι 2)) 2008 8 15 h.1 h.2.1 h.2.2) (hk : h.1 = 3) (ht : b_st (g_i M (ι 2)) 2008 q2 15 t.1 t.2.1 t.2.2) (hkt : t.1 = 3) (hW : c_Wr (ι 3) (ι 4) 8000 0 8000 u M) (h17 : g_i M (ι 0) 17 = 0) (hq : W_P ι κ cB eB n M u (W_upd 8 q2 w h t S) Q) : g_Call (d + 232) 218 [.ref (ι 0)] M (g_qV Q) := by
  obtain ⟨o1, o2, o3, o4⟩ := hok w hw
  obtain ⟨q1, qk⟩ := W_P.K (al := al) (sz := sz) hq hW (by decide)
  have h20 : 0 ≤ q2 := ht.2.2.2.1
  have hL : L_ch q2 t = L_at (q2 + 6 + t.2.1.length) (b_ch t.2.2) := rfl
  have hp : W_p h = fun es => (F_X 20).1 (b_ch h.2.2) (3, [], b_doc es) := rfl
  refine c_updateQ (dd := d) (hd := W_p h) (qc := q2 + 6 + t.2.1.length) (cs := b_ch t.2.2) H hw h16 h14 h15 he hk (by decide) (ht.le (by decide)) hkt rfl rfl hp o1 o2 hW (fun z M1 H1 f1 => q1 z Ck_u M1 (by decide) H1 f1) (fun z zY M1 H1 f1 => ?_) (fun z zY i y hi hd hf hb M1 H1 f1 => ?_) (fun z zY hall hno M1 H1 f1 => ?_) fun z zY hall hyes sz1 M1 H1 k1 W1 => ?_
  · have h9 := qk z
    rw [← hL] at zY ⊢
    rw [if_neg zY] at h9
    have hle := Y_os_le (L_ch q2 t) []
    have hlo := Y_os_lo (lo := 0) (L_ch q2 t) [] (fun y hy => L_ch_lo (lo := 0) (z := (q2, t)) h20 y hy) zY
    have h8 := h9.fail (by omega) W_b0 H1 (f1.k0 (by decide)) (f1.Wr (by decide) (by decide) hW)
    rw [W_q4_p hlo] at h8
    exact h8
  · have h9 := qk z
    rw [← hL] at zY
    rw [if_pos zY, W_bad_s (p := W_p h) (g := fun es => (U_R q2 (q2 + 6 + t.2.1.length) (b_ch t.2.2) es).1) hi hd hf hb] at h9
    have hle := U_R_le q2 (q2 + 6 + t.2.1.length) (b_ch t.2.2) y.2
    have hlo := U_R_lo (pc := q2) (qc := q2 + 6 + t.2.1.length) h20 (by omega) hf
    have h9 : W_P ι κ cB eB n M u (W_f S (20 + (U_R q2 (q2 + 6 + t.2.1.length) (b_ch t.2.2) y.2).1.1) (U_R q2 (q2 + 6 + t.2.1.length) (b_ch t.2.2) y.2).1.2) Q := h9
    have h8 := h9.fail (by omega) W_b0 H1 (f1.k0 (by decide)) (f1.Wr (by decide) (by decide) hW)
    rw [W_q4_p hlo] at h8
    exact h8
  · have h9 := qk z
    rw [← hL] at zY
    rw [if_pos zY, W_bad_n (p := W_p h) (g := fun es => (U_R q2 (q2 + 6 + t.2.1.length) (b_ch t.2.2) es).1) hall] at h9
    have h9 : W_P ι κ cB eB n M u (@ite _ (V_Fit (W_p h) (q2 + 6 + t.2.1.length) (b_ch t.2.2) S.1 w (S.2.1 w)) (Classical.propDecidable _) _ (W_f S 40 (-1))) Q := h9
    rw [if_neg hno] at h9
    exact h9.fail (by decide) W_b0 H1 (f1.k0 (by decide)) (f1.Wr (by decide) (by decide) hW)
  · have h9 := qk z
    rw [← hL] at zY
    rw [if_pos zY, W_bad_n (p := W_p h) (g := fun es => (U_R q2 (q2 + 6 + t.2.1.length) (b_ch t.2.2) es).1) hall] at h9
    have h9 : W_P ι κ cB eB n M u (@ite _ (V_Fit (W_p h) (q2 + 6 + t.2.1.length) (b_ch t.2.2) S.1 w (S.2.1 w)) (Classical.propDecidable _) _ (W_f S 40 (-1))) Q := h9
    rw [if_pos hyes] at h9
    rw [List.append_assoc] at W1
    exact W_P.okk h9 W_b0 H1 k1.1 h17 W1
theorem W_idx_c {h t : b_E} {q2 : Int} {ea ed : b_E} {ra rd : List b_E} (H : C_H ι κ al sz cB eB S.1 S.2.1 S.2.2 M) (hok : W_ok S) (hw : w < 2) (h16 : g_r M (ι 0) 16 = some (ι (67 + w))) (h14 : g_i M (ι 0) 14 = 8) (h15 : g_i M (ι 0) 15 = q2) (he : b_st (g_i M (ι 2)) 2008 8 15 h.1 h.2.1 h.2.2) (hk : h.1 = 4) (ht : b_st (g_i M (ι 2)) 2008 q2 15 t.1 t.2.1 t.2.2) (hkt : t.1 = 4) (hc1 : b_ch h.2.2 = ea :: ra) (hc2 : b_ch t.2.2 = ed :: rd) (hlen : ra.length = rd.length) (hra : ra.length ≤ 1) (ha : ∀ e ∈ ea :: ra, I_ptx e) (hn : (s_tx ea.2.2).length + I_c2 ra ≤ n) (hW : c_Wr (ι 3) (ι 4) 8000 0 8000 u M) (h17 : g_i M (ι 0) 17 = 0) (hq : W_P ι κ cB eB n M u (W_idx w h t S) Q) : g_Call (d + 64) 219 [.ref (ι 0)] M (g_qV Q) := by
  obtain ⟨o1, o2, o3, o4⟩ := hok w hw
  have e1 : W_idx w h t S = W_ix w ea ra ed rd S := by
    unfold W_idx
    rw [hc1, hc2]
  rw [e1] at hq
  have hB : cB ≤ cB + ((s_tx ea.2.2).length + I_c2 ra : Nat) ∧ cB + ((s_tx ea.2.2).length + I_c2 ra : Nat) ≤ cB + n ∧ eB ≤ eB + (1 + ra.length) ∧ eB + (1 + (ra.length : Int)) ≤ eB + 2 := by omega
  rw [Int.natCast_add] at hB
  have hfr : ∀ {k : Nat}, k < 4 → S.1 (4 * w + k) = none → (∀ j, j < k → S.1 (4 * w + j) ≠ none) → W_fr (fun k => (S.1 (4 * w + k)).isNone) 4 = some k := fun {k} k4 hk0 hkb => W_fr_s (by show (S.1 (4 * w + k)).isNone = true; rw [hk0]; rfl) (fun j hj => by
    show (S.1 (4 * w + j)).isNone = false
    cases hs : S.1 (4 * w + j) with
    | none => exact absurd hs (hkb j hj)
    | some t => rfl) k4
  have he' : b_st (g_i M (ι 2)) 2008 8 15 4 h.2.1 h.2.2 := by
    rw [← hk]
    exact he
  have ht' : b_st (g_i M (ι 2)) 2008 q2 15 4 t.2.1 t.2.2 := by
    rw [← hkt]
    exact ht
  unfold W_ix at hq
  refine c_indexQ (d := d) H hw h16 h14 h15 he' ht' hc1 hc2 hlen hra ha o1 hW (fun z => ?_) (fun k k4 hk0 hkb hno al1 sz1 M1 H1 f1 => ?_) fun k k4 hk0 hkb hyes al1 sz1 M1 H1 k1 W1 => ?_
  · rw [W_fr_n fun k hk => by
      show (S.1 (4 * w + k)).isNone = false
      cases hs : S.1 (4 * w + k) with
      | none => exact absurd hs (z k hk)
      | some t => rfl] at hq
    exact W_P.fail hq (by decide) W_b0 H rfl hW
  · rw [hfr k4 hk0 hkb] at hq
    have hq : W_P ι κ cB eB n M u (if (((S.2.1 w).map Prod.snd).map (I_num (I_mkV ea ra ed rd))).sum ≤ 1000 then _ else W_f S 40 (-1)) Q := hq
    rw [if_neg hno] at hq
    exact hq.fail (by decide) hB H1 (f1.2.2 0 (by decide) (by decide)).1 (C_H.Wr f1 hW)
  · rw [hfr k4 hk0 hkb] at hq
    have hq : W_P ι κ cB eB n M u (if (((S.2.1 w).map Prod.snd).map (I_num (I_mkV ea ra ed rd))).sum ≤ 1000 then _ else W_f S 40 (-1)) Q := hq
    rw [if_pos hyes] at hq
    exact W_P.okk hq hB H1 k1.1 h17 W1
end CDO2
