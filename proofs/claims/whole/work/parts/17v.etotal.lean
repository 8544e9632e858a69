/-! STAGES: $group, the reference: sums -/
noncomputable def G_t1 (sm : Bool) (o : Option b_E) : Int := if sm = true then G_tm o else 1
noncomputable def G_sl (sm : Bool) (l : List (Option b_E)) : Int := (l.map fun o => G_t1 sm o % 4294967296).sum
noncomputable def G_sh (sm : Bool) (l : List (Option b_E)) : Int := (l.map fun o => G_t1 sm o / 4294967296).sum
noncomputable def G_zz (sm : Bool) (l : List (Option b_E)) : Int := if sm = true then G_z l else l.length
theorem G_tm_R (o : Option b_E) : -9223372036854775808 ≤ G_tm o ∧ G_tm o ≤ 9223372036854775807 := by
  rcases o with _ | w
  · exact ⟨by decide, by decide⟩
  · show _ ≤ (if w.1 = 16 ∨ w.1 = 18 then (v_num w.1 w.2.2).toInt else 0) ∧ (if w.1 = 16 ∨ w.1 = 18 then (v_num w.1 w.2.2).toInt else 0) ≤ _
    split
    · exact z_R _
    · exact ⟨by decide, by decide⟩
theorem G_s_snoc (sm : Bool) (l : List (Option b_E)) (o : Option b_E) : G_sl sm (l ++ [o]) = G_sl sm l + G_t1 sm o % 4294967296 ∧ G_sh sm (l ++ [o]) = G_sh sm l + G_t1 sm o / 4294967296 := by
  unfold G_sl G_sh
  rw [List.map_append, List.sum_append, List.map_append, List.sum_append]
  simp
theorem G_s_R (sm : Bool) : ∀ l : List (Option b_E), 0 ≤ G_sl sm l ∧ G_sl sm l ≤ 4294967295 * (l.length : Int) ∧ -2147483648 * (l.length : Int) ≤ G_sh sm l ∧ G_sh sm l ≤ 2147483648 * (l.length : Int) ∧ G_zz sm l = G_sh sm l * 4294967296 + G_sl sm l := by
  intro l
  induction l with
  | nil =>
    refine ⟨Int.le_refl _, Int.le_refl _, Int.le_refl _, Int.le_refl _, ?_⟩
    unfold G_zz
    split <;> rfl
  | cons o l ih =>
    have h1 : G_sl sm (o :: l) = G_t1 sm o % 4294967296 + G_sl sm l := rfl
    have h2 : G_sh sm (o :: l) = G_t1 sm o / 4294967296 + G_sh sm l := rfl
    have h3 : G_zz sm (o :: l) = G_t1 sm o + G_zz sm l := by
      unfold G_zz G_t1
      split
      · rfl
      · rw [List.length_cons]
        omega
    have h4 : -9223372036854775808 ≤ G_t1 sm o ∧ G_t1 sm o ≤ 9223372036854775807 := by
      unfold G_t1
      split
      · exact G_tm_R o
      · exact ⟨by decide, by decide⟩
    rw [h1, h2, h3, List.length_cons]
    omega
def G_eW (m b : Nat) (lo : Int) (y : Nat) (k : Int) : Prop := e_WL m b lo (lo + 60000) y k ∨ E_VF m b 2606200 y k ∨ (y = m ∧ k = 33)
section ETOTAL
variable {m b ma be go fo gi l n : Nat} {M0 M M1 : g_M} {lo g : Int} {ds : List (List b_E)} {yb a x : b_E} {U : List Int}
theorem G_eX.w (h0 : G_e0 m b ma be go fo lo g ds M0) (h : G_eX n yb ds m b ma go fo lo M0 M) (f : e_fr (G_eW m b lo) M M1) : G_eX n yb ds m b ma go fo lo M0 M1 := by
  have hgn := E_VF.gn h0.1
  obtain ⟨hT, -⟩ := id h0
  have n1 := hT.1.ne.1
  have hA : ∀ z, g_A M0 z 1 200 → ∀ k, ¬ G_eW m b lo z k := fun z hz k w => by
    rcases w with (⟨w, -⟩ | ⟨w, -⟩) | (⟨w, -⟩ | ⟨w, -⟩) | ⟨w, -⟩
    · exact g_neOA hT.1.1.1 hz w.symm
    · exact g_neAA hz hT.1.1.2.2 (by omega) w
    · exact g_neOA hT.1.1.1 hz w.symm
    · exact g_neAA hz hT.1.1.2.2 (by omega) w
    · exact g_neOA hT.1.1.1 hz w.symm
  refine ⟨h.1.tr (f.up fun y k z => ?_), h.2.kp f (fun z => ?_) (hA go hT.2.2.1.1) (hA fo hT.2.2.1.2)⟩
  · rcases z with (⟨z, z2⟩ | ⟨z, z2⟩) | z | ⟨z, z2⟩
    · exact Or.inl ⟨z, by omega⟩
    · exact Or.inr (Or.inr (Or.inr (Or.inr ⟨z, Or.inl z2⟩)))
    · exact z.gr
    · exact Or.inl ⟨z, by omega⟩
  · rcases z with (⟨-, z⟩ | ⟨z, -⟩) | z | ⟨-, z⟩
    · omega
    · exact n1 z
    · exact hgn.1 z
    · omega
theorem G_eX.e33 (h0 : G_e0 m b ma be go fo lo g ds M0) (f : e_fr (e_WL m b lo (lo + 60000)) M M1) : g_i M1 m 33 = g_i M m 33 := f.2.1 m 33 fun z => by
  rcases z with ⟨-, z⟩ | ⟨z, -⟩
  · omega
  · exact h0.1.1.ne.1 z
theorem G_eX.v33 (h0 : G_e0 m b ma be go fo lo g ds M0) (f : e_fr (E_VF m b 2606200) M M1) : g_i M1 m 33 = g_i M m 33 := f.2.1 m 33 (E_VF.gn h0.1).2.1
/-- what is written stays under values -/
theorem e_Wr.vf {y : List Int} {ls : Int} (hR : e_R M m b) (hlo : lo ≤ 862000) (hls : 2606200 ≤ ls) (h : e_Wr m b lo (lo + 60000) y M) (f : e_fr (E_VF m b ls) M M1) : e_Wr m b lo (lo + 60000) y M1 := by
  have n1 : m ≠ b := g_neOA hR.1 hR.2.2
  refine h.kp f (fun k k1 k2 z => ?_) fun k k1 k2 z => ?_
  · rcases z with ⟨-, z⟩ | ⟨z, -⟩
    · omega
    · exact n1 z
  · rcases z with ⟨z, -⟩ | ⟨-, z⟩
    · exact n1 z.symm
    · omega
theorem e_putName {d D : Nat} {Q : g_M → Prop} {q kd : Int} {nm vb : List Int} {k : Int} (hkd : 0 ≤ kd ∧ kd < 128) (hlo : 802000 ≤ lo) (hq : b_st (g_i M b) 2100 q D k nm vb) (hW : e_Wr m b lo (lo + 60000) U M) (h : ∀ M1, e_fr (e_WL m b lo (lo + 60000)) M M1 → e_Wr m b lo (lo + 60000) (U ++ (kd :: (nm ++ [0]))) M1 → Q M1) : g_Call (d + 4) 349 [.ref m, g_n kd, g_n q] M (g_qV Q) := by
  have hq4 := hq.2.2.2.1
  have hq5 := hq.2.2.2.2
  rw [b_el_len] at hq5
  have hn1 : m ≠ b := g_neOA hW.1.1 hW.1.2.2
  have hqM : b_st (g_i M b) 2706210 q D k nm vb := ⟨hq.1, hq.2.1, hq.2.2.1, hq4, by rw [b_el_len]; omega⟩
  have hst : ∀ {M2 : g_M}, e_fr (e_WL m b lo (lo + 60000)) M M2 → b_st (g_i M2 b) 2706210 q D k nm vb := fun f => ⟨b_at_keep hqM.1 fun j j1 j2 => f.2.1 b j fun z => by
    rcases z with ⟨z, -⟩ | ⟨-, z⟩
    · exact hn1 z.symm
    · rw [b_el_len] at j2
      clear hn1
      omega, hqM.2⟩
  have hkR : g_InR kd ∧ g_InR q ∧ g_InR (q + 1) := by
    clear hn1
    exact ⟨⟨by omega, by omega⟩, ⟨by omega, by omega⟩, ⟨by omega, by omega⟩⟩
  refine m_X12_putName hkR.1 hkR.2.1 fun _ => ⟨hW.1.1, e_put (d := d + 2) hW hkR.1 fun M2 f2 W2 => ?_⟩
  intro _ _
  refine ⟨hkR.2.2, e_nameEnd (d := d + 2) W2.1 (hst f2).nm ?_⟩
  intro _ _ _
  refine e_putBytes (d := d + 1) W2 (hst f2).nmb (by clear hn1; omega) (by clear hn1; omega) (Or.inl (by clear hn1; omega)) fun M11 f11 W11 => ?_
  intro _ _
  refine e_put (d := d + 2) W11 ⟨by decide, by decide⟩ fun M14 f14 W14 => ?_
  intro _ _
  refine h M14 ((f2.tr f11).tr f14) ?_
  have e1 : g_w8 kd = kd := g_w8_of (by clear hn1; omega) (by clear hn1; omega)
  have e0 : g_w8 0 = 0 := by decide
  rw [e1, e0] at W14
  have ew : U ++ [kd] ++ nm ++ [0] = U ++ (kd :: (nm ++ [0])) := by simp
  rw [ew] at W14
  exact W14
theorem e_putTotal {d Dx Da : Nat} {Q : g_M → Prop} {qx qa : Int} {sm : Bool} (h0 : G_e0 m b ma be go fo lo g ds M0) (h : G_eX n yb ds m b ma go fo lo M0 M) (hg : (G_lk n yb ds ds.length)[gi]? = some l) (hx : b_st (g_i M0 b) 2100 qx Dx x.1 x.2.1 x.2.2) (ha : b_st (g_i M0 b) 2100 qa Da a.1 a.2.1 a.2.2) (hDa : Da ≤ 30) (hef : S_ef a = false) (hn : 16 ≤ n) (hnm : a.2.1 = if sm = true then b_tx 50 else b_tx 49) (hW : e_Wr m b lo (lo + 60000) U M) (h33 : g_i M m 33 = 0 ∨ g_i M m 33 = 1) (hq : ∀ M1, e_fr (G_eW m b lo) M M1 → e_Wr m b lo (lo + 60000) (U ++ b_el 18 x.2.1 (b_le8 (Int64.ofInt (G_zz sm (G_pv n yb ds l a ds.length))))) M1 → (G_over (G_zz sm (G_pv n yb ds l a ds.length)) → g_i M1 m 33 = 0) → (¬ G_over (G_zz sm (G_pv n yb ds l a ds.length)) → g_i M1 m 33 = g_i M m 33) → Q M1) : g_Call (d + 67) 353 [.ref m, g_n qx, g_n qa, g_n gi] M (g_qV Q) := by
  obtain ⟨l1, l2, l3⟩ := G_lk_mem hg
  have hl200 := h0.2.2.2.1.2.1.1
  have hgl := (List.getElem?_eq_some_iff.mp hg).1
  have hlk := @G_lk_len n yb ds ds.length
  have hqaR : g_InR qa := by have := ha.2.2.2.1; have := ha.2.2.2.2; exact ⟨by omega, by omega⟩
  have hqxR : g_InR qx := by have := hx.2.2.2.1; have := hx.2.2.2.2; exact ⟨by omega, by omega⟩
  obtain ⟨pv, hpv⟩ : ∃ pv : Nat → List (Option b_E), pv = G_pv n yb ds l a := ⟨_, rfl⟩
  rw [← hpv] at hq
  have hpl : ∀ k, (pv k).length ≤ k := fun k => by rw [hpv]; exact G_pv_len
  have hlp : ∀ (t k : Nat) (M2 : g_M), k + t = ds.length → e_fr (E_VF m b 2606200) M M2 → g_Run (d + 66) 353 9 [(0, .ref m), (1, g_n qx), (2, g_n qa), (3, g_n gi), (4, .long (Int64.ofInt (G_sl sm (pv k)))), (6, .long (Int64.ofInt (G_sh sm (pv k)))), (8, g_n k)] [] M2 (g_qV Q) := by
    intro t
    induction t with
    | zero =>
      intro k M2 hk f2
      have hkN : k = ds.length := by omega
      subst hkN
      have h2 := h.vf h0 f2
      obtain ⟨-, -, k3, k4, k5, k6⟩ := h0.st h2
      have W2 := e_Wr.vf hW.1 k6 (by decide) hW f2
      have h33' : g_i M2 m 33 = g_i M m 33 := G_eX.v33 h0 f2
      obtain ⟨s1, s2, s3, s4, s5⟩ := G_s_R sm (pv ds.length)
      have hple := hpl ds.length
      obtain ⟨e1, e2, e3⟩ := G_halves (G_zz sm (pv ds.length)) (G_sl sm (pv ds.length)) (G_sh sm (pv ds.length)) (by omega) (by omega) s5
      have c1 : (-2147483648 : Int64).toInt = -2147483648 := by decide
      have c2 : (2147483647 : Int64).toInt = 2147483647 := by decide
      have hov : G_over (G_zz sm (pv ds.length)) ↔ G_sh sm (pv ds.length) + G_sl sm (pv ds.length) / 4294967296 < -2147483648 ∨ 2147483647 < G_sh sm (pv ds.length) + G_sl sm (pv ds.length) / 4294967296 := by
        unfold G_over
        omega
      have h159 : ∀ w0 : Int, ((w0 = 0 ∧ G_over (G_zz sm (pv ds.length))) ∨ (w0 = 1 ∧ ¬ G_over (G_zz sm (pv ds.length)))) → g_Run (d + 66) 353 159 [(0, .ref m), (1, g_n qx), (2, g_n qa), (3, g_n gi), (4, .long (Int64.ofInt (G_sl sm (pv ds.length)) &&& 4294967295)), (6, .long (Int64.ofInt (G_sh sm (pv ds.length)) + (Int64.ofInt (G_sl sm (pv ds.length)) >>> ((Int32.ofInt 32).toInt64 &&& 63)))), (8, g_n ds.length)] [g_n w0, g_n (g_i M2 m 33), .ref m] M2 (g_qV Q) := by
        intro w0 hw0
        have hand : g_and (g_i M2 m 33) w0 = if w0 = 0 then 0 else g_i M m 33 := by
          rw [h33']
          rcases h33 with z | z <;> rcases hw0 with ⟨w, -⟩ | ⟨w, -⟩ <;> rw [z, w] <;> decide
        have h33R : g_InR (g_i M2 m 33) := by rw [h33']; rcases h33 with z | z <;> rw [z] <;> exact ⟨by decide, by decide⟩
        have hw0R : g_InR w0 := by rcases hw0 with ⟨w, -⟩ | ⟨w, -⟩ <;> rw [w] <;> exact ⟨by decide, by decide⟩
        refine s_X12_putTotal_159 hqxR hqaR ⟨by omega, by omega⟩ ⟨by omega, by omega⟩ hw0R h33R fun _ => ⟨k3.1.1.1, ?_, fun M3 e3' _ => ?_⟩
        · rw [hand]
          split
          · exact Or.inl rfl
          · exact h33
        rw [hand] at e3'
        have f3 : e_fr (fun y k => y = m ∧ k = 33) M2 M3 := by rw [e3']; exact e_fr.wi _ ⟨rfl, rfl⟩
        have n1 : Unit → m ≠ b := fun _ => h0.1.1.ne.1
        have W3 : e_Wr m b lo (lo + 60000) U M3 := W2.kp f3 (fun k k1 k2 z => by have := z.2; omega) fun k _ _ z => n1 () z.1.symm
        have f03 : e_fr (G_eW m b lo) M M3 := (f2.up fun _ _ z => Or.inr (Or.inl z)).tr (f3.up fun _ _ z => Or.inr (Or.inr z))
        have h3 := h.w h0 f03
        refine ⟨f3.O k3.1.1.1, e_putName (d := d + 62) (kd := 18) ⟨by decide, by decide⟩ k5 (h0.rq h3 hx) W3 fun M8 f8 W8 => ?_⟩
        intro _ _
        refine e_putInt (d := d + 64) W8 (g_InR_toInt _) fun M11 f11 W11 => ?_
        intro _ _
        refine e_putInt (d := d + 64) W11 (g_InR_toInt _) fun M14 f14 W14 => ?_
        intro _ _
        have f314 := (f8.tr f11).tr f14
        have h3314 : g_i M14 m 33 = if w0 = 0 then 0 else g_i M m 33 := by rw [G_eX.e33 h0 f314, e3', g_i_wi, if_pos ⟨rfl, rfl⟩]
        rw [e1, e2] at W14
        have ew : U ++ (18 :: (x.2.1 ++ [0])) ++ b_le4 (Int64.ofInt (G_zz sm (pv ds.length))).toInt32.toInt ++ b_le4 ((Int64.ofInt (G_zz sm (pv ds.length))) >>> ((Int32.ofInt 32).toInt64 &&& 63)).toInt32.toInt = U ++ b_el 18 x.2.1 (b_le8 (Int64.ofInt (G_zz sm (pv ds.length)))) := by
          unfold b_el b_le8
          simp
        rw [ew] at W14
        refine hq M14 (f03.tr (f314.up fun _ _ z => Or.inl z)) W14 (fun z => ?_) fun z => ?_
        · rcases hw0 with ⟨w, -⟩ | ⟨-, w⟩
          · rw [h3314, if_pos w]
          · exact absurd z w
        · rcases hw0 with ⟨-, w⟩ | ⟨w, -⟩
          · exact absurd w z
          · rw [h3314, if_neg (by rw [w]; decide)]
      refine s_X12_putTotal_9 hqxR hqaR ⟨by omega, by omega⟩ ⟨by omega, by omega⟩ fun _ => ⟨k3.1.1.1, fun z => absurd z (by rw [k4]; omega), fun _ => ⟨fun g1 => h159 0 (Or.inl ⟨rfl, hov.mpr (Or.inl ?_)⟩), fun g1 => ⟨fun g2 => h159 0 (Or.inl ⟨rfl, hov.mpr (Or.inr ?_)⟩), fun g2 => h159 1 (Or.inr ⟨rfl, fun z => ?_⟩)⟩⟩⟩
      · rw [u_lt, e3, c1] at g1
        exact g1
      · rw [u_gt, e3, c2] at g2
        exact g2
      · rw [u_lt, e3, c1] at g1
        rw [u_gt, e3, c2] at g2
        rcases hov.mp z with z | z
        · exact g1 z
        · exact g2 z
    | succ t ih =>
      intro k M2 hk f2
      have h2 := h.vf h0 f2
      obtain ⟨-, -, k3, k4, k5, k6⟩ := h0.st h2
      have hps := @G_pv_s n yb ds l a k
      rw [← hpv] at hps
      have hm := G_gk_mem h2.2 hg (k := k) (by omega)
      obtain ⟨s1, s2, s3, s4, s5⟩ := G_s_R sm (pv k)
      have hple := hpl k
      have hnx : ∀ (M3 : g_M) (V4 V6 : Int64), e_fr (E_VF m b 2606200) M M3 → V4 = Int64.ofInt (G_sl sm (pv (k + 1))) → V6 = Int64.ofInt (G_sh sm (pv (k + 1))) → g_InR ((k : Int) + 1) ∧ g_Run (d + 66) 353 9 [(0, .ref m), (1, g_n qx), (2, g_n qa), (3, g_n gi), (4, .long V4), (6, .long V6), (8, g_n ((k : Int) + 1))] [] M3 (g_qV Q) := by
        intro M3 V4 V6 f3 e4 e6
        refine ⟨⟨by omega, by omega⟩, ?_⟩
        have h9 := ih (k + 1) M3 (by omega) f3
        rw [e4, e6]
        rwa [show ((k + 1 : Nat) : Int) = (k : Int) + 1 by omega] at h9
      refine s_X12_putTotal_9 hqxR hqaR ⟨by omega, by omega⟩ ⟨by omega, by omega⟩ fun _ => ⟨k3.1.1.1, fun _ => ⟨go, k3.2.1.1, _, k3.2.2.1.1, ⟨by omega, by omega⟩, fun g1 => ?_, fun g1 => ?_⟩, fun z => absurd (by rw [k4]; omega) z⟩
      rotate_left
      · rw [if_neg fun z => g1 (hm.mpr z), List.append_nil] at hps
        exact hnx M2 _ _ f2 (by rw [hps]) (by rw [hps])
      rw [if_pos (hm.mp g1)] at hps
      obtain ⟨es, hes⟩ : ∃ es, ds[k]? = some es := ⟨_, List.getElem?_eq_getElem (by omega)⟩
      have hgk : ds.getD k [] = es := by rw [List.getD_eq_getElem?_getD, hes]; rfl
      rw [hgk] at hps
      obtain ⟨sn1, sn2⟩ := G_s_snoc sm (pv k) (V_of n a es)
      rw [← hps] at sn1 sn2
      -- a number comes in
      have h86 : ∀ (M3 : g_M) (X : Int64), e_fr (E_VF m b 2606200) M M3 → X.toInt = G_t1 sm (V_of n a es) → g_Run (d + 66) 353 86 [(0, .ref m), (1, g_n qx), (2, g_n qa), (3, g_n gi), (4, .long (Int64.ofInt (G_sl sm (pv k)))), (6, .long (Int64.ofInt (G_sh sm (pv k)))), (8, g_n k), (9, .long X)] [] M3 (g_qV Q) := by
        intro M3 X f3 hX
        obtain ⟨t1, t2⟩ := G_halfS (G_sl sm (pv k)) (G_sh sm (pv k)) X (by omega)
        rw [hX, ← sn1] at t1
        rw [hX, ← sn2] at t2
        exact s_X12_putTotal_86 hqxR hqaR ⟨by omega, by omega⟩ ⟨by omega, by omega⟩ fun _ => hnx M3 _ _ f3 t1 t2
      have hskip : ∀ (M3 : g_M), e_fr (E_VF m b 2606200) M M3 → G_t1 sm (V_of n a es) = 0 → g_InR ((k : Int) + 1) ∧ g_Run (d + 66) 353 9 [(0, .ref m), (1, g_n qx), (2, g_n qa), (3, g_n gi), (4, .long (Int64.ofInt (G_sl sm (pv k)))), (6, .long (Int64.ofInt (G_sh sm (pv k)))), (8, g_n ((k : Int) + 1))] [] M3 (g_qV Q) := by
        intro M3 f3 hz
        rw [hz] at sn1 sn2
        exact hnx M3 _ _ f3 (by rw [sn1]; simp) (by rw [sn2]; simp)
      have haM := h0.rq h2 ha
      have haM2 : b_st (g_i M2 b) 2706210 qa Da a.1 a.2.1 a.2.2 := ⟨haM.1, haM.2.1, haM.2.2.1, haM.2.2.2.1, by have := haM.2.2.2.2; omega⟩
      refine e_nm3 (d := d + 62) (j := 113) (j2 := 50) (by decide) rfl k3.1.1 haM2 (fun hs => ?_) fun hs => ?_
      · intro _ _ _
        have hsm : sm = true := by
          cases sm
          · rw [if_neg (by decide)] at hnm
            exact absurd (hnm.symm.trans hs) (by decide +kernel)
          · rfl
        have ht1 : G_t1 sm (V_of n a es) = G_tm (V_of n a es) := by unfold G_t1; rw [if_pos hsm]
        obtain ⟨p, p1, p2, p3⟩ := h0.ed h2 hes
        refine ⟨fun z => absurd z (by decide), fun _ => ⟨be, k3.1.2.2.1, _, k3.1.2.2.2.2.1, ⟨by omega, by omega⟩, ?_⟩⟩
        rw [p1]
        refine e_freshE (n := n) (by omega) k3.1.1 k5 k6 haM hef hDa p2.1 p2.2.1 p2.2.2.1 p2.2.2.2.1 hn p2.2.2.2.2.1 p2.2.2.2.2.2 fun M3 v ls f3 h26 hl1 hl2 hv => ?_
        intro _ _ hvR
        have f23 := f2.tr f3
        rcases hv with ⟨v1, v2⟩ | ⟨y, v1, v2⟩
        · exact ⟨fun _ => hskip M3 f23 (by rw [ht1, v1]; rfl), fun z => absurd v2 z⟩
        obtain ⟨nm, y1, y2, y3⟩ := id v2
        have hv0 := y1.2.2.2.1
        refine ⟨fun z => absurd z (by omega), fun _ => e_isNumR (d := d + 65) (f3.R k3.1.1) y1 ?_⟩
        intro _ _ _
        by_cases hk2 : y.1 = 16 ∨ y.1 = 18
        · rw [if_pos hk2]
          refine ⟨fun z => absurd z (by decide), fun _ => e_num (d := d + 62) (f3.R k3.1.1) y1 hk2 ?_⟩
          intro _ _
          exact h86 M3 _ f23 (by rw [ht1, v1]; exact (if_pos hk2).symm)
        · rw [if_neg hk2]
          exact ⟨fun _ => hskip M3 f23 (by rw [ht1, v1]; exact if_neg hk2), fun z => absurd rfl z⟩
      · intro _ _ _
        have hsm : sm = false := by
          cases sm
          · rfl
          · rw [if_pos rfl] at hnm
            exact absurd hnm hs
        refine ⟨fun _ => h86 M2 1 f2 ?_, fun z => absurd rfl z⟩
        unfold G_t1
        rw [hsm]
        rfl
  refine m_X12_putTotal hqxR hqaR ⟨by omega, by omega⟩ fun _ => ?_
  have h9 := hlp ds.length 0 M (by omega) (e_fr.rf _ _)
  have hp0 : pv 0 = [] := by rw [hpv]; rfl
  rw [hp0] at h9
  exact h9
end ETOTAL
