/-! WHAT A REQUEST DOES: the reference inserts, drops, tells, makes an index -/
theorem W_tx : b_tx 130 = b_tx 13 ∧ b_tx 128 = b_tx 29 ∧ b_tx 138 = b_tx 38 ∧ b_tx 86 = b_tx 39 ∧ b_tx 82 = b_tx 5 ∧ (b_tx 87 = b_tx 65 ∧ b_tx 88 = b_tx 66 ∧ b_tx 89 = b_tx 67 ∧ b_tx 90 = b_tx 68 ∧ b_tx 91 = b_tx 69 ∧ b_tx 92 = b_tx 70) ∧ (b_tx 131 = b_tx 62 ∧ b_tx 132 = b_tx 63 ∧ b_tx 133 = b_tx 64) ∧ b_tx 140 = b_tx 71 ∧ b_tx 141 = b_tx 72 := by decide
section WRE
variable {m d : Nat} {ρ : Nat → Nat} {M M1 M2 : g_M} {S : W_S} {q : Nat → List (Nat × Int × List b_E)} {Q : Int → g_M → Prop} {w : Nat}
theorem R_dn_3 (l : List (Nat × Int × List b_E)) : (R_dn l).length = l.length ∧ (R_dn l).map Prod.snd = l.map fun z => z.2.2 := by
  unfold R_dn
  rw [List.length_map, List.map_map]
  exact ⟨rfl, rfl⟩
theorem R_dn_up {D : Nat → List (Int × List b_E)} {l : List (Nat × Int × List b_E)} {ds : List (Int × List b_E)} (hd : ∀ w, w < 2 → R_dn (q w) = D w) (hl : R_dn l = ds) : ∀ v, v < 2 → R_dn (H_up q w l v) = H_up D w ds v := fun v hv => by
  unfold H_up
  by_cases g : v = w
  · rw [if_pos g, if_pos g]
    exact hl
  · rw [if_neg g, if_neg g]
    exact hd v hv
theorem W_ins_e {h : b_E} {es : List b_E} {c : Int} (H : E_H m ρ S.1 q S.2.2 M) (hS : E_S m (ρ 0) (ρ 9) (g_i M (ρ 0)) M []) (hw : w < 2) (hd : ∀ w, w < 2 → R_dn (q w) = S.2.1 w) (hok : W_ok S) (hgv : S.2.2 w ≤ 1000000) (hch : b_ch h.2.2 = es) (hvb : h.2.2 = b_doc es) (hX : X_gd 15 es) (hct : E_ct (g_i M (ρ 0)) c 15 es) (hc2 : c + (b_doc es).length ≤ 2000) (hdl : (b_doc es).length ≤ 2000) (hq : W_E m ρ M (W_ins w h S) Q) : g_Call (d + 73) 419 [.ref m, g_n c, g_n w] M (g_qI Q) := by
  obtain ⟨o1, o2, o3, o4⟩ := hok w hw
  obtain ⟨l1, l2⟩ := R_dn_3 (q w)
  rw [hd w hw] at l1 l2
  have hgd := o1.add o3 ⟨o4, hgv⟩ hdl hX
  have hne := hS.ne
  unfold W_ins at hq
  rw [hch, hvb] at hq
  refine e_insert (d := d) H hS hw hct hc2 hdl ⟨o4, hgv⟩ (fun x x1 x2 V T m1 m2 e => ?_) (fun hno M1 f1 S1 h40 => ?_) fun hyes s M1 M2 k1 S1 h40 H1 f2 W2 => ?_
  · have ho := o2 x x1 x2 V T m1 m2 e
    exact ⟨ho.1, (ho.add hgd).1, fun g => ((ho.add hgd).2 g).1⟩
  · rw [← l1, ← l2] at hno
    rw [if_neg hno] at hq
    refine hq.fail (q := q) (by decide) (f1.k (fun z => ?_) fun z => ?_).k2 (H.le f1) S1 h40 hd
    · rcases z with z | ⟨-, z⟩
      · exact hne.2.1 z.symm
      · omega
    · rcases z with z | ⟨-, z⟩
      · exact hne.2.1 z.symm
      · omega
  · have e1 : (q w).length < 200 ∧ S_sum ((q w).map fun z => z.2.2) + (b_doc es).length ≤ 40000 ∧ ∀ x, 4 * w ≤ x → x < 4 * w + 4 → I_fit es (S.1 x) := hyes
    rw [← l1, ← l2] at e1
    rw [if_pos e1] at hq
    rw [W_tx.1] at W2
    refine hq.okk k1.k2 S1 h40 H1 (R_dn_up hd ?_) f2 W2
    have e2 : R_dn (q w ++ [(s, S.2.2 w + 1, es)]) = R_dn (q w) ++ [(S.2.2 w + 1, es)] := List.map_append
    rw [e2, hd w hw]
theorem W_drp_e {h : b_E} {De : Nat} {q1 : Int} (H : E_H m ρ S.1 q S.2.2 M) (hS : E_S m (ρ 0) (ρ 9) (g_i M (ρ 0)) M []) (h40 : g_i M m 40 = 0 ∨ g_i M m 40 = 1) (hw : w < 2) (hd : ∀ w, w < 2 → R_dn (q w) = S.2.1 w) (hok : W_ok S) (hs : b_st (g_i M (ρ 0)) 922000 q1 De h.1 h.2.1 h.2.2) (hk : h.1 = 16 ∨ h.1 = 18) (hq : W_E m ρ M (if h.2.1 = b_tx 79 then W_drp w h S else W_shp w h S) Q) : g_Call (d + 73) 422 [.ref m, g_n q1, g_n w] M (g_qI Q) := by
  obtain ⟨t0, t1, t2, t3, t4, ⟨t5, t6, t7, t8, t9, t10⟩, -⟩ := W_tx
  have hTl : ∀ x, x < 8 → ∀ V T m1 m2, S.1 x = some (V, T, m1, m2) → (N_all T).length ≤ 1000 := fun x hx V T m1 m2 e => by
    have hx2 : ∃ v, v < 2 ∧ 4 * v ≤ x ∧ x < 4 * v + 4 := ⟨x / 4, by omega, by omega, by omega⟩
    obtain ⟨v, hv, x1, x2⟩ := hx2
    have ho := (hok v hv).2.1 x x1 x2 V T m1 m2 e
    have hl : (N_all T).length = (I_all V (S.2.1 v)).length := ho.2.2.1.length_eq
    have := ho.2.2.2.2
    omega
  refine e_withIndex (d := d) H hw hs hk hTl (fun z => ?_) (fun hnm j j1 j2 j3 M1 k1 kk k10 k40 H1 W1 => ?_) fun hnm j j1 j2 V T m1 m2 e M1 k1 f1 H1 W1 => ?_
  · have e : W_E m ρ M (W_f S 41 (-1)) Q := by
      have h9 := W_at_n (S := S) (h := h) hw z
      by_cases gn : h.2.1 = b_tx 79
      · rw [if_pos gn] at hq
        unfold W_drp at hq
        by_cases g : W_at w h = 8
        · rw [if_pos g] at hq
          exact hq
        · rw [if_neg g] at hq
          rw [h9.resolve_left g] at hq
          exact hq
      · rw [if_neg gn] at hq
        unfold W_shp at hq
        by_cases g : W_at w h = 8
        · rw [if_pos g] at hq
          exact hq
        · rw [if_neg g] at hq
          rw [h9.resolve_left g] at hq
          exact hq
    exact e.fail (by decide) (E_k.rf m M).k2 H hS h40 hd
  · obtain ⟨a1, a2⟩ := W_at_j hw j1 j2
    rw [if_pos hnm] at hq
    unfold W_drp at hq
    rw [if_neg a2, a1] at hq
    cases hst : S.1 (4 * w + j) with
    | none => exact absurd hst j3
    | some t =>
      rw [hst] at hq
      have hq : W_E m ρ M ((0, 0), b_el 8 (b_tx 39) [1], I_up S.1 (4 * w + j) none, S.2.1, S.2.2) Q := hq
      rw [t3] at W1
      have r9 : ρ 9 ≠ m ∧ ρ 9 ≠ ρ 35 ∧ ρ 9 ≠ ρ 0 := ⟨hS.ne.2.1, H.1.ne (by decide) (by decide) (by decide), hS.ne.1⟩
      have S1 : E_S m (ρ 0) (ρ 9) (g_i M1 (ρ 0)) M1 [] := by
        obtain ⟨a1, a2, a3, a4, a5, a6, a7⟩ := hS
        exact ⟨H1.1.R, by rw [k1.2.1]; exact a2, H1.1.R.1 |> fun _ => (H1.1.at (k := 9) (by decide)).2, by rw [k10]; exact a4, b_nil _ _, rfl, a7⟩
      exact hq.okk k1.k2 S1 (by rw [k40]; exact h40) H1 hd (e_fr.rf _ _) W1
  · obtain ⟨a1, a2⟩ := W_at_j hw j1 j2
    rw [if_neg hnm] at hq
    unfold W_shp at hq
    rw [if_neg a2, a1, e] at hq
    have hq : W_E m ρ M ((0, 0), F_shp T m1 m2 65 66 67 68 69 70, S) Q := hq
    have e9 : F_shp T m1 m2 87 88 89 90 91 92 = F_shp T m1 m2 65 66 67 68 69 70 := by
      unfold F_shp
      rw [t5, t6, t7, t8, t9, t10]
    rw [e9] at W1
    exact hq.okk (E_k.rf m M).k2 hS h40 H hd f1 W1
end WRE
