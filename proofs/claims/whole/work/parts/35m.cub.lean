/-! REQUESTS, THE CLASS: update, what comes true -/
section CUB
variable {d : Nat} {ι : Nat → Nat} {κ : Nat → Nat → Nat} {al sz : Nat → Nat × Nat} {cB eB : Int} {st : Nat → I_T} {D : Nat → List (Int × List b_E)} {gv : Nat → Int} {M M0 M1 : g_M} {x w : Nat} {u : List Int}
theorem V_ds_at {hd : List b_E → Bool} {qc : Int} {cs : List b_E} {ds : List (Int × List b_E)} {i : Nat} {z : Int × List b_E} (hi : (V_ds hd qc cs ds)[i]? = some z) : V_ds hd qc cs ds = V_ds hd qc cs (ds.take i) ++ z :: (V_ds hd qc cs ds).drop (i + 1) := by
  obtain ⟨hlt, e⟩ := List.getElem?_eq_some_iff.mp hi
  have h1 := (List.take_append_drop i (V_ds hd qc cs ds)).symm
  rw [List.drop_eq_getElem_cons hlt, e] at h1
  have h2 : V_ds hd qc cs (ds.take i) = (V_ds hd qc cs ds).take i := List.map_take
  rw [h2]
  exact h1
theorem c_updB {dd : Nat} {Q : g_M → Prop} {v1 v5 qc : Int} {cs : List b_E} {hd : List b_E → Bool} (hw : w < 2) (hv1 : g_InR v1) (h16 : g_r M0 (ι 0) 16 = some (ι (67 + w))) (hgd : H_gd (D w)) (hok : ∀ x, 4 * w ≤ x → x < 4 * w + 4 → ∀ V T m1 m2, st x = some (V, T, m1, m2) → I_ok V (D w) T) (hcs : U_cs cs) (hgood : ∀ z ∈ D w, hd z.2 = true → (U_R (-1) qc cs z.2).1.1 = 0) (hW : c_Wr (ι 3) (ι 4) 8000 0 8000 u M) (S : C_uA ι κ al sz cB eB st D gv w hd qc cs M0 (D w).length (D w) M) (hv5 : v5 = if 40000 < S_sum ((V_ds hd qc cs (D w)).map Prod.snd) then 0 else 1) (hf3 : ¬ V_Fit hd qc cs st w (D w) → ∀ M1, C_H ι κ al sz cB eB st D gv M1 → C_fx Ck_u ι M0 M1 → Q (g_wi (g_wi M1 (ι 0) 17 40) (ι 0) 18 (-1))) (hy : V_Fit hd qc cs st w (D w) → ∀ sz1 M1, C_H ι κ al sz1 cB eB (I_lp (fun t => I_inn (V_z2 hd qc cs (D w)) (I_rem (V_z1 hd qc cs (D w)) t)) w st (4 * w + 4)) (H_up D w (V_ds hd qc cs (D w))) gv M1 → g_i M1 (ι 0) = g_i M0 (ι 0) ∧ g_r M1 (ι 0) = g_r M0 (ι 0) → c_Wr (ι 3) (ι 4) 8000 0 8000 (u ++ b_el 16 (b_tx 29) (b_le4 v1) ++ b_el 16 (b_tx 38) (b_le4 (((D w).filter fun z => U_al hd qc cs z.2).length : Nat))) M1 → Q M1) : g_Run (dd + 231) 218 250 [(0, .ref (ι 0)), (1, g_n v1), (2, .ref (ι (72 + 4 * w))), (3, g_n (S_sum ((V_ds hd qc cs (D w)).map Prod.snd) : Nat)), (4, g_n (((D w).filter fun z => U_al hd qc cs z.2).length : Nat)), (5, g_n v5), (6, g_n 0)] [] M (g_qV Q) := by
  obtain ⟨w1, w2, w3, w4, w5, w6⟩ := Ck_w hw
  obtain ⟨H, fM, bM, WM, hm, h91⟩ := S
  obtain ⟨cnt, hcnt⟩ : ∃ cnt : Nat, cnt = ((D w).filter fun z => U_al hd qc cs z.2).length := ⟨_, rfl⟩
  have hcl : cnt ≤ (D w).length := by
    rw [hcnt]
    exact List.length_filter_le _ _
  obtain ⟨ds2, hds2⟩ : ∃ ds2, ds2 = V_ds hd qc cs (D w) := ⟨_, rfl⟩
  obtain ⟨zs1, hzs1⟩ : ∃ zs1, zs1 = V_z1 hd qc cs (D w) := ⟨_, rfl⟩
  obtain ⟨zs2, hzs2⟩ : ∃ zs2, zs2 = V_z2 hd qc cs (D w) := ⟨_, rfl⟩
  have z1s : (zs1.map fun z => z.2) = D w := by rw [hzs1, V_z1_2]
  have z2s : (zs2.map fun z => z.2) = ds2 := by rw [hzs2, V_z2_2, hds2]
  have hl2 : ds2.length = (D w).length := by
    rw [hds2]
    unfold V_ds
    rw [List.length_map]
  have hl200 : (D w).length ≤ 200 := by
    have := (H.2.2.2.2.1 w hw).2.2.2.2.1.1
    rw [List.length_map] at this
    exact this
  obtain ⟨hgd2, hsame⟩ := U_gd (hd := hd) (qc := qc) (cs := cs) (qs := V_q (D w)) hcs (fun z hz g => by
    obtain ⟨y, hy, rfl⟩ := List.mem_map.mp hz
    exact hgood y hy g) (by rw [V_q_dn]; exact hgd)
  rw [V_q_ds, ← hds2] at hgd2
  rw [← hcnt] at hy ⊢
  have hFit : V_Fit hd qc cs st w (D w) ↔ (S_sum (ds2.map Prod.snd) ≤ 40000 ∧ ∀ x, 4 * w ≤ x → x < 4 * w + 4 → ∀ V T m1 m2, st x = some (V, T, m1, m2) → ((ds2.map Prod.snd).map (I_num V)).sum ≤ 1000) := by
    unfold V_Fit
    rw [← hds2]
  have hkeep : (∀ x, 4 * w ≤ x → x < 4 * w + 4 → ∀ V T m1 m2, st x = some (V, T, m1, m2) → ((ds2.map Prod.snd).map (I_num V)).sum ≤ 1000) → ∀ x, 4 * w ≤ x → x < 4 * w + 4 → ∀ V T m1 m2, st x = some (V, T, m1, m2) → I_cgo V T (I_mk V zs1) ∧ I_can V (I_out V (I_mk V zs1) T) (I_mk V zs2) := fun hf x x1 x2 V T m1 m2 e => by
    have ho := hok x x1 x2 V T m1 m2 e
    have h1 := (I_ok.out (zs := zs1) (by rw [z1s]; exact ho) (by rw [z1s]; exact hgd)).1
    have h2 := U_keep (hd := hd) (qc := qc) (cs := cs) (qs := V_q (D w)) (by rw [V_q_dn]; exact ho) (by rw [V_q_dn]; exact hgd) (by rw [V_q_ds, ← hds2]; exact hgd2) hsame (by rw [V_q_sn, ← hds2]; exact hf x x1 x2 V T m1 m2 e)
    rw [V_q_z1, V_q_z2, ← hzs1, ← hzs2] at h2
    exact ⟨h1, h2.2.1⟩
  rw [← hds2, ← hzs1, ← hzs2] at hy
  rw [hFit] at hf3 hy
  rw [← hds2] at hv5 WM h91 ⊢
  -- where the new documents stand
  have hok2 : S_sum (ds2.map Prod.snd) ≤ 40000 → S_ok (ds2.map Prod.snd) := fun g => ⟨by rw [List.length_map]; omega, g, fun es hes => by
    obtain ⟨z, hz, rfl⟩ := List.mem_map.mp hes
    exact (hgd2.2 z hz).2⟩
  have hst : S_sum (ds2.map Prod.snd) ≤ 40000 → ∀ (i : Nat) (z : Int × List b_E), ds2[i]? = some z → (b_st (g_i M (ι 2)) 246408 (g_i M (ι 91) i) 16 3 [] (b_doc z.2) ∧ 82808 ≤ g_i M (ι 91) i) ∧ (b_doc z.2).length ≤ 2000 := fun g i z hi => by
    have hlim := H_sb_lim (hok2 g)
    obtain ⟨-, zl, zg⟩ := hgd2.2 z (List.mem_of_getElem? hi)
    have hat : b_at (g_i M (ι 2)) 82808 (H_sb (ds2.map Prod.snd)) := by
      rcases WM.2.2.2.2 with ⟨-, -, -, z4⟩ | ⟨-, -, -, z4⟩
      · exact z4
      · omega
    have hlt := (List.getElem?_eq_some_iff.mp hi).1
    rw [h91 (by omega) i (by omega)]
    rw [hds2] at hi
    have e1 := V_ds_at hi
    rw [← hds2] at e1
    rw [e1, List.map_append, List.map_cons, H_sb_app, H_sb_c] at hat hlim
    rw [List.length_append, List.length_append] at hlim
    obtain ⟨-, a2⟩ := b_app.mp hat
    obtain ⟨a3, -⟩ := b_app.mp a2
    have hdl := b_doc_len z.2
    exact ⟨⟨⟨a3, fun c hc => absurd hc (by simp), X_gv (Or.inl rfl) zg (by omega) fun z => absurd z (by decide), by omega, by omega⟩, by omega⟩, zl⟩
  have hm1 : ∀ (i : Nat) (z : Bool × Int × List b_E), zs1[i]? = some z → g_i M (ι 90) i = if z.1 = true then 1 else 0 := fun i z hi => by
    rw [hzs1] at hi
    unfold V_z1 at hi
    rw [List.getElem?_map] at hi
    cases hy2 : (D w)[i]? with
    | none =>
      rw [hy2] at hi
      exact absurd hi (by simp)
    | some y =>
      rw [hy2] at hi
      have hi : (U_al hd qc cs y.2, y) = z := Option.some.inj hi
      rw [hm i y hy2, if_pos (List.getElem?_eq_some_iff.mp hy2).1, ← hi]
  have hm2 : ∀ (i : Nat) (z : Bool × Int × List b_E), zs2[i]? = some z → g_i M (ι 90) i = if z.1 = true then 1 else 0 := fun i z hi => by
    rw [hzs2] at hi
    unfold V_z2 at hi
    rw [List.getElem?_map] at hi
    cases hy2 : (D w)[i]? with
    | none =>
      rw [hy2] at hi
      exact absurd hi (by simp)
    | some y =>
      rw [hy2] at hi
      have hi : (U_al hd qc cs y.2, y.1, U_nd hd qc cs y.2) = z := Option.some.inj hi
      rw [hm i y hy2, if_pos (List.getElem?_eq_some_iff.mp hy2).1, ← hi]
  have kM := fM.2.2 0 (by decide) (by decide) (by decide)
  have hsR : g_InR ((S_sum (ds2.map Prod.snd) : Nat) : Int) := by
    have h9 : ∀ l : List (Int × List b_E), (∀ z ∈ l, (b_doc z.2).length ≤ 2000) → S_sum (l.map Prod.snd) ≤ 2000 * l.length := by
      intro l
      induction l with
      | nil => exact fun _ => Nat.le_refl _
      | cons z r ih =>
        intro h
        have h1 := ih fun y hy => h y (List.mem_cons_of_mem _ hy)
        have h2 := h z List.mem_cons_self
        rw [List.map_cons, S_sum_c, List.length_cons]
        omega
    have := h9 ds2 fun z hz => (hgd2.2 z hz).2.1
    exact ⟨by omega, by omega⟩
  -- entries come
  have h356 : S_sum (ds2.map Prod.snd) ≤ 40000 → (∀ x, 4 * w ≤ x → x < 4 * w + 4 → ∀ V T m1 m2, st x = some (V, T, m1, m2) → ((ds2.map Prod.snd).map (I_num V)).sum ≤ 1000) → ∀ (j i : Nat) (sz1 : Nat → Nat × Nat) (M' : g_M), i + j = 4 → C_H ι κ al sz1 cB eB (I_lp (I_inn zs2) w (I_lp (I_rem zs1) w st (4 * w + 4)) (4 * w + i)) (H_up D w ds2) gv M' → (g_i M' (ι 0) = g_i M (ι 0) ∧ g_r M' (ι 0) = g_r M (ι 0)) → c_Wr (ι 3) (ι 4) 8000 0 8000 u M' → I_sh (ι 2) (ι (67 + w)) (ι (69 + 4 * w)) (ι (70 + 4 * w)) (ι 90) 246408 zs2 M' → g_Run (dd + 231) 218 356 [(0, .ref (ι 0)), (1, g_n v1), (2, .ref (ι (72 + 4 * w))), (3, g_n (S_sum (ds2.map Prod.snd) : Nat)), (4, g_n (cnt : Nat)), (5, g_n 1), (6, g_n (i : Int))] [] M' (g_qV Q) := by
    intro hsum hfit j
    induction j with
    | zero =>
      intro i sz1 M' hij H' k' W' s'
      have hi4 : i = 4 := by omega
      subst hi4
      refine s_X11_update_356 (a0 := ι 0) (a2 := ι (72 + 4 * w)) hv1 hsR ⟨by omega, by omega⟩ ⟨by decide, by decide⟩ ⟨by omega, by omega⟩ fun _ => ⟨fun g => absurd g (by decide), fun _ => ⟨H'.1.O (by decide), ι 3, H'.1.r (by decide), H'.1.O (by decide), c_named2 (d := dd + 227) (j := 29) (by decide) W' hv1 fun M2 f2 W2 => ?_⟩⟩
      intro _ _
      obtain ⟨H2, k2⟩ := H'.wr f2
      refine ⟨ι 3, H2.1.r (by decide), H2.1.O (by decide), c_named2 (d := dd + 227) (j := 38) (by decide) W2 ⟨by omega, by omega⟩ fun M3 f3 W3 => ?_⟩
      intro _ _
      obtain ⟨H3, k3⟩ := H2.wr f3
      have k02 := k2 0 (by decide) (by decide) (by decide)
      have k03 := k3 0 (by decide) (by decide) (by decide)
      rw [I_lp_all] at H3
      exact hy ⟨hsum, hfit⟩ sz1 M3 H3 ⟨k03.1.trans (k02.1.trans (k'.1.trans kM.1)), k03.2.trans (k02.2.trans (k'.2.trans kM.2))⟩ W3
    | succ j ih =>
      intro i sz1 M' hij H' k' W' s'
      obtain ⟨g0', gs', gh', gr10', gr1', gr0'⟩ := H'.gF hw
      obtain ⟨r', rk', rr', rA', ri'⟩ := H'.xs hw
      have elp : I_lp (I_inn zs2) w (I_lp (I_rem zs1) w st (4 * w + 4)) (4 * w + i) (4 * w + i) = I_rem zs1 (st (4 * w + i)) := by
        rw [I_lp_at]
        exact I_lp_in _ _ _ ⟨by omega, by omega⟩
      refine s_X11_update_356 (a0 := ι 0) (a2 := ι (72 + 4 * w)) hv1 hsR ⟨by omega, by omega⟩ ⟨by decide, by decide⟩ ⟨by omega, by omega⟩ fun _ => ⟨fun _ => ⟨g0', ι (67 + w), by rw [k'.2, kM.2]; exact h16, gs', ι r', rr', 4, rA', ⟨by omega, by omega⟩, κ (4 * w + i) 0, ri' i (by omega), ι (67 + w), by rw [k'.2, kM.2]; exact h16, ι 90, gr10', H'.1.xO (by omega) (by decide), c_inH (d := dd + 169) H' (by omega) hw s' (fun V T m1 m2 e => ?_) fun sz2 M2 H2 f2 s2 => ?_⟩, fun g => absurd (by omega) g⟩
      · rw [elp] at e
        cases hst2 : st (4 * w + i) with
        | none =>
          rw [hst2] at e
          exact absurd e (by simp [I_rem])
        | some t =>
          obtain ⟨V2, T2, n1, n2⟩ := t
          rw [hst2] at e
          have e : some (V2, I_out V2 (I_mk V2 zs1) T2, n1, n2) = some (V, T, m1, m2) := e
          have e := Option.some.inj e
          injection e with e1 e
          injection e with e2 e
          rw [← e1, ← e2]
          exact (hkeep hfit (4 * w + i) (by omega) (by omega) V2 T2 n1 n2 hst2).2
      · intro _ _
        refine ⟨⟨by omega, by omega⟩, ?_⟩
        have e9 : I_lp (I_inn zs2) w (I_lp (I_rem zs1) w st (4 * w + 4)) (4 * w + i) (4 * w + i) = I_lp (I_rem zs1) w st (4 * w + 4) (4 * w + i) := I_lp_at _ _ _ _
        rw [e9, ← I_lp_s _ _ _ (by omega)] at H2
        have k2 := f2.2.2 0 (by decide) (by decide)
        have h9 := ih (i + 1) sz2 M2 (by omega) H2 ⟨k2.1.trans k'.1, k2.2.trans k'.2⟩ (C_H.Wr f2 W') s2
        rw [show ((i + 1 : Nat) : Int) = (i : Int) + 1 by omega] at h9
        exact h9
  -- entries go
  have h309 : S_sum (ds2.map Prod.snd) ≤ 40000 → (∀ x, 4 * w ≤ x → x < 4 * w + 4 → ∀ V T m1 m2, st x = some (V, T, m1, m2) → ((ds2.map Prod.snd).map (I_num V)).sum ≤ 1000) → ∀ (j i : Nat) (sz1 : Nat → Nat × Nat) (M' : g_M), i + j = 4 → C_H ι κ al sz1 cB eB (I_lp (I_rem zs1) w st (4 * w + i)) D gv M' → C_f1 ι M M' → I_sh (ι 2) (ι (67 + w)) (ι (69 + 4 * w)) (ι (70 + 4 * w)) (ι 90) 246408 zs1 M' → g_Run (dd + 231) 218 309 [(0, .ref (ι 0)), (1, g_n v1), (2, .ref (ι (72 + 4 * w))), (3, g_n (S_sum (ds2.map Prod.snd) : Nat)), (4, g_n (cnt : Nat)), (5, g_n 1), (6, g_n (i : Int))] [] M' (g_qV Q) := by
    intro hsum hfit j
    induction j with
    | zero =>
      intro i sz1 M' hij H' f' s'
      have hi4 : i = 4 := by omega
      subst hi4
      obtain ⟨g0', gs', gh', gr10', gr1', gr0'⟩ := H'.gF hw
      have k' := f'.2.2 0 (by decide) (by decide)
      have hs' := H'.2.2.2.2.1 w hw
      have hb' := (f'.2.2 2 (by decide) (by decide)).1
      have h91' := (f'.2.2 91 (by decide) (by decide)).1
      have h90' := (f'.2.2 90 (by decide) (by decide)).1
      refine s_X11_update_309 (a0 := ι 0) (a2 := ι (72 + 4 * w)) hv1 hsR ⟨by omega, by omega⟩ ⟨by decide, by decide⟩ ⟨by omega, by omega⟩ fun _ => ⟨fun g => absurd g (by decide), fun _ => ⟨g0', ι (67 + w), by rw [k'.2, kM.2]; exact h16, ι 91, H'.1.r (by decide), gs', c_srenew (d := dd + 229) (ds2 := ds2) hs' (H'.1.A (by decide)) ⟨H'.2.1.ne (by decide) w2 (by omega), H'.2.1.ne (by decide) w3 (by omega)⟩ ?_ (hok2 hsum) (fun i z hi => by rw [hb', h91']; exact (hst hsum i z hi).1) fun M2 f2 s2 => ?_⟩⟩
      · rw [hds2]
        unfold V_ds
        rw [List.map_map]
        rfl
      · intro _ _
        have H2 := H'.sf hw f2 s2
        rw [H_up_self gv w] at H2
        have hj0 := H'.2.1
        have sm : ∀ a ∈ Ck_k, a ≠ 67 + w → a ≠ 69 + 4 * w → a ≠ 70 + 4 * w → a ≠ 2 → g_i M2 (ι a) = g_i M' (ι a) ∧ g_r M2 (ι a) = g_r M' (ι a) := fun a ha n1 n2 n3 n4 => ⟨funext fun k => f2.2.1 _ _ fun z => by
          rcases z with ⟨z, -⟩ | z | z | ⟨z, -⟩
          · exact hj0.ne ha w1 n1 z
          · exact hj0.ne ha w2 n2 z
          · exact hj0.ne ha w3 n3 z
          · exact hj0.ne ha (by decide) n4 z, funext fun k => f2.2.2 _ _⟩
        have hx2 : g_ext M' M2 := fun a c hc => by
          rw [f2.sh]
          exact hc
        have s0 := sm 0 (by decide) (by omega) (by omega) (by omega) (by decide)
        have s90 := sm 90 (by decide) (by omega) (by omega) (by omega) (by decide)
        have hup : H_up D w ds2 w = ds2 := if_pos rfl
        have e0 : I_lp (I_inn zs2) w (I_lp (I_rem zs1) w st (4 * w + 4)) (4 * w + 0) = I_lp (I_rem zs1) w st (4 * w + 4) := I_lp_0 (I_inn zs2) w (I_lp (I_rem zs1) w st (4 * w + 4))
        refine h356 hsum hfit 4 0 sz1 M2 rfl (by rw [e0]; exact H2) ⟨s0.1.trans k'.1, s0.2.trans k'.2⟩ ((C_H.Wr f' hW).sm hx2 (sm 3 (by decide) (by omega) (by omega) (by omega) (by decide)) (sm 4 (by decide) (by omega) (by omega) (by omega) (by decide)).1) (H2.sh hw (by rw [hup, z2s]) fun i z hi => ?_)
        rw [s90.1, h90']
        exact hm2 i z hi
    | succ j ih =>
      intro i sz1 M' hij H' f' s'
      obtain ⟨g0', gs', gh', gr10', gr1', gr0'⟩ := H'.gF hw
      obtain ⟨r', rk', rr', rA', ri'⟩ := H'.xs hw
      have k' := f'.2.2 0 (by decide) (by decide)
      have elp : I_lp (I_rem zs1) w st (4 * w + i) (4 * w + i) = st (4 * w + i) := I_lp_at _ _ _ _
      refine s_X11_update_309 (a0 := ι 0) (a2 := ι (72 + 4 * w)) hv1 hsR ⟨by omega, by omega⟩ ⟨by decide, by decide⟩ ⟨by omega, by omega⟩ fun _ => ⟨fun _ => ⟨g0', ι (67 + w), by rw [k'.2, kM.2]; exact h16, gs', ι r', rr', 4, rA', ⟨by omega, by omega⟩, κ (4 * w + i) 0, ri' i (by omega), ι (67 + w), by rw [k'.2, kM.2]; exact h16, ι 90, gr10', H'.1.xO (by omega) (by decide), c_outH (d := dd + 169) H' (by omega) hw s' (fun V T m1 m2 e => ?_) fun sz2 M2 H2 f2 s2 => ?_⟩, fun g => absurd (by omega) g⟩
      · rw [elp] at e
        exact (hkeep hfit (4 * w + i) (by omega) (by omega) V T m1 m2 e).1
      · intro _ _
        refine ⟨⟨by omega, by omega⟩, ?_⟩
        rw [elp, ← I_lp_s _ _ _ (by omega)] at H2
        have h9 := ih (i + 1) sz2 M2 (by omega) H2 (f'.tr f2) s2
        rw [show ((i + 1 : Nat) : Int) = (i : Int) + 1 by omega] at h9
        exact h9
  -- whether they fit
  have h250 : ∀ (j i : Nat) (v5 : Int) (M' : g_M), i + j = 4 → C_H ι κ al sz cB eB st D gv M' → C_f1 ι M M' → (v5 = 0 ∨ v5 = 1) → (v5 = 1 ↔ (S_sum (ds2.map Prod.snd) ≤ 40000 ∧ ∀ x, 4 * w ≤ x → x < 4 * w + i → ∀ V T m1 m2, st x = some (V, T, m1, m2) → ((ds2.map Prod.snd).map (I_num V)).sum ≤ 1000)) → g_Run (dd + 231) 218 250 [(0, .ref (ι 0)), (1, g_n v1), (2, .ref (ι (72 + 4 * w))), (3, g_n (S_sum (ds2.map Prod.snd) : Nat)), (4, g_n (cnt : Nat)), (5, g_n v5), (6, g_n (i : Int))] [] M' (g_qV Q) := by
    have hno : ∀ (i : Nat) (M' : g_M), i ≤ 4 → C_H ι κ al sz cB eB st D gv M' → C_f1 ι M M' → ¬ (S_sum (ds2.map Prod.snd) ≤ 40000 ∧ ∀ x, 4 * w ≤ x → x < 4 * w + i → ∀ V T m1 m2, st x = some (V, T, m1, m2) → ((ds2.map Prod.snd).map (I_num V)).sum ≤ 1000) → Q (g_wi (g_wi M' (ι 0) 17 40) (ι 0) 18 (-1)) := fun i M' hi H' f' hn => hf3 (fun hall => hn ⟨hall.1, fun x x1 x2 => hall.2 x x1 (by omega)⟩) M' H' (fM.tr f'.x)
    intro j
    induction j with
    | zero =>
      intro i v5 M' hij H' f' hv hiff
      have vR : g_InR v5 := by rcases hv with g | g <;> rw [g] <;> exact ⟨by decide, by decide⟩
      have hi4 : i = 4 := by omega
      subst hi4
      refine s_X11_update_250 (a0 := ι 0) (a2 := ι (72 + 4 * w)) hv1 hsR ⟨by omega, by omega⟩ vR ⟨by omega, by omega⟩ fun _ => ⟨fun g => absurd g (by decide), fun _ => ⟨fun g => ⟨H'.1.O (by decide), c_fail (d := dd + 230) (H'.1.O (by decide)) ⟨by decide, by decide⟩ ⟨by decide, by decide⟩ fun _ _ => hno 4 M' (by decide) H' f' fun z => ?_⟩, fun g => ?_⟩⟩
      · have := hiff.mpr z
        omega
      · have v1' : v5 = 1 := by omega
        obtain ⟨hsum, hfit⟩ := hiff.mp v1'
        rw [v1']
        refine h309 hsum hfit 4 0 sz M' rfl (by rw [Nat.add_zero, I_lp_0]; exact H') f' (H'.sh hw z1s.symm fun i z hi => ?_)
        rw [(f'.2.2 90 (by decide) (by decide)).1]
        exact hm1 i z hi
    | succ j ih =>
      intro i v5 M' hij H' f' hv hiff
      have vR : g_InR v5 := by rcases hv with g | g <;> rw [g] <;> exact ⟨by decide, by decide⟩
      obtain ⟨g0', gs', gh', gr10', gr1', gr0'⟩ := H'.gF hw
      obtain ⟨r', rk', rr', rA', ri'⟩ := H'.xs hw
      have k' := f'.2.2 0 (by decide) (by decide)
      have hs' := H'.2.2.2.2.1 w hw
      refine s_X11_update_250 (a0 := ι 0) (a2 := ι (72 + 4 * w)) hv1 hsR ⟨by omega, by omega⟩ vR ⟨by omega, by omega⟩ fun _ => ⟨fun _ => ⟨fun g => ⟨fun _ => ⟨H'.1.O (by decide), c_fail (d := dd + 230) (H'.1.O (by decide)) ⟨by decide, by decide⟩ ⟨by decide, by decide⟩ fun _ _ => hno i M' (by omega) H' f' fun z => ?_⟩, fun g2 => absurd g g2⟩, fun g => ⟨g0', ι (67 + w), by rw [k'.2, kM.2]; exact h16, gs', ι r', rr', 4, rA', ⟨by omega, by omega⟩, κ (4 * w + i) 0, ri' i (by omega), ι 91, H'.1.r (by decide), ι (67 + w), by rw [k'.2, kM.2]; exact h16, gs', H'.1.xO (by omega) (by decide), ?_⟩⟩, fun g => absurd (by omega) g⟩
      · have := hiff.mpr z
        omega
      · have v1' : v5 = 1 := by omega
        obtain ⟨hsum, hfit⟩ := hiff.mp v1'
        have hI : I_ds (ι 2) (ι 91) 246408 (ds2.map Prod.snd) M' := fun q es hq => by
          rw [List.getElem?_map] at hq
          cases hz : ds2[q]? with
          | none =>
            rw [hz] at hq
            exact absurd hq (by simp)
          | some z =>
            rw [hz] at hq
            have hq : z.2 = es := Option.some.inj hq
            rw [← hq, (f'.2.2 2 (by decide) (by decide)).1, (f'.2.2 91 (by decide) (by decide)).1]
            exact ⟨(hst hsum q z hz).1.1, (hst hsum q z hz).2⟩
        rw [hs'.2.2.1.1, show (((D w).length : Nat) : Int) = ((ds2.map Prod.snd).length : Nat) by rw [List.length_map, hl2]]
        have hfl : g_Call (dd + 168 + 63) 67 [.ref (κ (4 * w + i) 0), .ref (ι 91), g_n (ds2.map Prod.snd).length] M' (g_qI fun r29 M26 => g_ext M' M26 → g_ok M26 → g_InR r29 → g_InR ((i : Int) + 1) ∧ g_Run (dd + 231) 218 250 [(0, .ref (ι 0)), (1, g_n v1), (2, .ref (ι (72 + 4 * w))), (3, g_n (S_sum (ds2.map Prod.snd) : Nat)), (4, g_n (cnt : Nat)), (5, g_n r29), (6, g_n ((i : Int) + 1))] [] M26 (g_qV Q)) := by
          refine c_fitLH (d := dd + 168) H' (x := 4 * w + i) (by omega) (H'.1.A (by decide)) hI (by rw [List.length_map]; omega) (fun hf M2 H2 f2 => ?_) fun hf M2 H2 f2 => ?_
          · intro _ _ _
            refine ⟨⟨by omega, by omega⟩, ?_⟩
            have h9 := ih (i + 1) 1 M2 (by omega) H2 (f'.tr f2) (Or.inr rfl) ⟨fun _ => ⟨hsum, fun x x1 x2 => by
              by_cases e : x = 4 * w + i
              · rw [e]
                exact hf
              · exact hfit x x1 (by omega)⟩, fun _ => rfl⟩
            rw [show ((i + 1 : Nat) : Int) = (i : Int) + 1 by omega] at h9
            exact h9
          · intro _ _ _
            refine ⟨⟨by omega, by omega⟩, ?_⟩
            have h9 := ih (i + 1) 0 M2 (by omega) H2 (f'.tr f2) (Or.inl rfl) ⟨fun z => absurd z (by decide), fun z => absurd (z.2 (4 * w + i) (by omega) (by omega)) hf⟩
            rw [show ((i + 1 : Nat) : Int) = (i : Int) + 1 by omega] at h9
            exact h9
        exact hfl
  refine h250 4 0 v5 M rfl H (C_f1.rf ι M) ?_ ⟨fun z => ⟨?_, fun x x1 x2 => by omega⟩, fun z => ?_⟩
  · rw [hv5]
    split
    · exact Or.inl rfl
    · exact Or.inr rfl
  · rw [hv5] at z
    by_cases g : 40000 < S_sum (ds2.map Prod.snd)
    · rw [if_pos g] at z
      exact absurd z (by decide)
    · omega
  · rw [hv5, if_neg (by omega)]
end CUB
