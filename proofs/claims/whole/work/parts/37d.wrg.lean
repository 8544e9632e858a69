/-! WHAT A REQUEST DOES: the reference updates -/
theorem U_dn_ds (hd : List b_E → Bool) (qc : Int) (cs : List b_E) (qs : List (Nat × Int × List b_E)) : R_dn (U_qs hd qc cs qs) = V_ds hd qc cs (R_dn qs) ∧ ((U_qs hd qc cs qs).map fun z => z.2.2) = (V_ds hd qc cs (R_dn qs)).map Prod.snd ∧ Q_3 (U_z1 hd qc cs qs) = V_z1 hd qc cs (R_dn qs) ∧ Q_3 (U_z2 hd qc cs qs) = V_z2 hd qc cs (R_dn qs) := by
  unfold R_dn U_qs V_ds Q_3 U_z1 V_z1 U_z2 V_z2
  refine ⟨?_, ?_, ?_, ?_⟩
  · rw [List.map_map, List.map_map]
    rfl
  · rw [List.map_map, List.map_map, List.map_map]
    rfl
  · rw [List.map_map, List.map_map]
    rfl
  · rw [List.map_map, List.map_map]
    rfl
theorem R_dn_fl (p : List b_E → Bool) (qs : List (Nat × Int × List b_E)) : ((R_dn qs).filter fun z => p z.2).length = (qs.filter fun z => p z.2.2).length ∧ ((qs.map fun z => z.2.2).filter p).length = (qs.filter fun z => p z.2.2).length := by
  unfold R_dn
  rw [List.filter_map, List.filter_map, List.length_map, List.length_map]
  exact ⟨rfl, rfl⟩
section WRG
variable {m d : Nat} {ρ : Nat → Nat} {M M1 M2 : g_M} {S : W_S} {q : Nat → List (Nat × Int × List b_E)} {Q : Int → g_M → Prop} {w : Nat}
theorem W_E.told {c p : Int} (hq : W_E m ρ M (W_f S c p) Q) (hc : c ≠ 0) (hk : E_k2 m M M1) (h : E_H m ρ S.1 q S.2.2 M1) (hS : E_S m (ρ 0) (ρ 9) (g_i M1 (ρ 0)) M1 []) (h40 : g_i M1 m 40 = 0 ∨ g_i M1 m 40 = 1) (hd : ∀ w, w < 2 → R_dn (q w) = S.2.1 w) (h7 : g_i M1 m 7 = c) (h8 : g_i M1 m 8 = p) : Q 0 M1 := (hq q M1 hk hS h40 h hd).2 c p (fun z => absurd z hc) (fun _ => ⟨rfl, rfl⟩) h7 h8
theorem W_upd_e {h t : b_E} {De D0 : Nat} {pe q2 : Int} {es0 : List b_E} (H : E_H m ρ S.1 q S.2.2 M) (hS : E_S m (ρ 0) (ρ 9) (g_i M (ρ 0)) M []) (h40 : g_i M m 40 = 0 ∨ g_i M m 40 = 1) (hw : w < 2) (hd : ∀ w, w < 2 → R_dn (q w) = S.2.1 w) (hok : W_ok S) (hreq : E_ct (g_i M (ρ 0)) 0 D0 es0) (hit : (L_at 4 es0)[2]? = some (q2, t)) (hs : b_st (g_i M (ρ 0)) 2000 q2 22 t.1 t.2.1 t.2.2) (hk : t.1 = 3) (he : b_st (g_i M (ρ 0)) 2100 pe De h.1 h.2.1 h.2.2) (hkf : h.1 = 3) (hDe : De ≤ 20) (hV : (F_V 20).1 (b_ch h.2.2)) (hK : ((K_F 20).1 (L_ch 4 h) 0).1 = 0) (hq : W_E m ρ M (W_upd 4 q2 w h t S) Q) : g_Call (d + 232) 420 [.ref m, g_n (pe + 2 + h.2.1.length), g_n w] M (g_qI Q) := by
  obtain ⟨o1, o2, o3, o4⟩ := hok w hw
  obtain ⟨t0, t1, t2, -⟩ := W_tx
  have h0n : ∀ z ∈ q w, 0 ≤ z.2.1 := fun z hz => (o3 z.2 (by rw [← hd w hw]; exact List.mem_map.mpr ⟨z, hz, rfl⟩)).1
  have hgd : H_gd (R_dn (q w)) := by
    rw [hd w hw]
    exact o1
  have h20 := hs.2.2.2.1
  obtain ⟨qc, hqc⟩ : ∃ qc : Int, qc = q2 + 6 + t.2.1.length := ⟨_, rfl⟩
  obtain ⟨u1, u2, u3, u4⟩ := U_dn_ds (W_p h) qc (b_ch t.2.2) (q w)
  rw [hd w hw] at u1 u2 u3 u4
  have hL : L_ch q2 t = L_at qc (b_ch t.2.2) := by
    rw [hqc]
    rfl
  unfold W_upd W_K at hq
  rw [if_pos hK, ← hqc, hL] at hq
  have hmem : ∀ z, z ∈ S.2.1 w → ∃ y ∈ q w, y.2 = z := fun z hz => by
    rw [← hd w hw] at hz
    obtain ⟨y, hy, e⟩ := List.mem_map.mp hz
    exact ⟨y, hy, e⟩
  have hget : ∀ (i : Nat) (z : Nat × Int × List b_E), (q w)[i]? = some z → (S.2.1 w)[i]? = some z.2 := fun i z hi => by
    rw [← hd w hw]
    unfold R_dn
    rw [List.getElem?_map, hi]
    rfl
  have hlt : (q w).length = (S.2.1 w).length := by
    rw [← hd w hw]
    exact (R_dn_3 _).1.symm
  have hget2 : ∀ (i : Nat) (z : Int × List b_E), (S.2.1 w)[i]? = some z → ∃ y, (q w)[i]? = some y ∧ y.2 = z := fun i z hi => by
    have hi2 := (List.getElem?_eq_some_iff.mp hi).1
    have h9 : (q w)[i]? = some ((q w)[i]'(by omega)) := List.getElem?_eq_getElem (by omega)
    refine ⟨_, h9, ?_⟩
    have h8 := hget i _ h9
    exact Option.some.inj (h8.symm.trans hi)
  have hpc := fun es => U_R_pc (-1) q2 qc (b_ch t.2.2) es
  have hall : (∀ z ∈ q w, W_p h z.2.2 = true → (U_R (-1) qc (b_ch t.2.2) z.2.2).1.1 = 0) → W_bad (W_p h) (fun es => (U_R q2 qc (b_ch t.2.2) es).1) (S.2.1 w) = none := fun ha => W_bad_n fun z hz hp => by
    obtain ⟨y, hy, e⟩ := hmem z hz
    have h9 := ha y hy (by rw [e]; exact hp)
    rw [e, (hpc z.2).1] at h9
    exact h9
  have hFit : U_Fit (W_p h) qc (b_ch t.2.2) S.1 w (q w) ↔ V_Fit (W_p h) qc (b_ch t.2.2) S.1 w (S.2.1 w) := by
    unfold U_Fit V_Fit
    rw [u2]
  refine e_update (dd := d) (hd := W_p h) H hS hw hreq hit hs hk hqc rfl he hkf hDe hV rfl hgd h0n (fun x x1 x2 V T m1 m2 e => by rw [hd w hw]; exact o2 x x1 x2 V T m1 m2 e) (fun zY M1 f1 S1 e40 e7 e8 => ?_) (fun zY i z hi hp hb hbb M1 f1 S1 e40 e7 e8 => ?_) (fun zY ha hno M1 f1 S1 e40 e7 e8 => ?_) fun zY ha hyes M1 M2 k1 S1 h40' H1 f2 W2 => ?_
  · rw [if_neg zY] at hq
    have hle := Y_os_le (L_at qc (b_ch t.2.2)) []
    exact hq.told (by omega) (f1.uHk H.1).k2 (H.uH f1) S1 (by rw [e40]; exact h40) hd (by rw [e7]; omega) e8
  · rw [if_pos zY] at hq
    have hb2 : (U_R q2 qc (b_ch t.2.2) z.2.2).1.1 ≠ 0 := by
      rw [← (hpc z.2.2).1]
      exact hb
    have hbad := W_bad_s (p := W_p h) (g := fun es => (U_R q2 qc (b_ch t.2.2) es).1) (hget i z hi) hp hb2 fun j y hj hy hpy => by
      obtain ⟨y2, hy2, e⟩ := hget2 j y hy
      have h9 := hbb j y2 hj hy2 (by rw [e]; exact hpy)
      rw [e, (hpc y.2).1] at h9
      exact h9
    rw [hbad] at hq
    have hq : W_E m ρ M (W_f S (20 + (U_R q2 qc (b_ch t.2.2) z.2.2).1.1) (U_R q2 qc (b_ch t.2.2) z.2.2).1.2) Q := hq
    have hle := U_R_le q2 qc (b_ch t.2.2) z.2.2
    refine hq.told (by omega) (f1.uHk H.1).k2 (H.uH f1) S1 e40 hd (by rw [e7, (hpc z.2.2).1]; omega) ?_
    rw [e8, U_R_pl (by omega) hb2]
  · rw [if_pos zY, hall ha] at hq
    have hq : W_E m ρ M (@ite _ (V_Fit (W_p h) qc (b_ch t.2.2) S.1 w (S.2.1 w)) (Classical.propDecidable _) _ (W_f S 40 (-1))) Q := hq
    rw [if_neg (fun z => hno (hFit.mpr z))] at hq
    exact hq.told (by decide) (f1.uHk H.1).k2 (H.uH f1) S1 e40 hd e7 e8
  · rw [if_pos zY, hall ha] at hq
    have hq : W_E m ρ M (@ite _ (V_Fit (W_p h) qc (b_ch t.2.2) S.1 w (S.2.1 w)) (Classical.propDecidable _) _ (W_f S 40 (-1))) Q := hq
    rw [if_pos (hFit.mp hyes)] at hq
    rw [u3, u4] at H1
    have c1 : (((q w).map fun z => z.2.2).filter (W_p h)).length = ((S.2.1 w).filter fun z => W_p h z.2).length := by
      rw [(R_dn_fl (W_p h) (q w)).2, ← (R_dn_fl (W_p h) (q w)).1, hd w hw]
    have c2 : ((q w).filter (U_al1 (W_p h) qc (b_ch t.2.2))).length = ((S.2.1 w).filter fun z => U_al (W_p h) qc (b_ch t.2.2) z.2).length := by
      have h9 := (R_dn_fl (U_al (W_p h) qc (b_ch t.2.2)) (q w)).1
      rw [hd w hw] at h9
      rw [h9]
      rfl
    rw [t1, t2, c1, c2] at W2
    exact W_E.okk hq k1.k2 S1 h40' H1 (R_dn_up hd u1) f2 W2
end WRG
