/-! REQUESTS, THE CLASS: an index is made -/
section CNI
variable {d : Nat} {ι : Nat → Nat} {κ : Nat → Nat → Nat} {al sz : Nat → Nat × Nat} {cB eB : Int} {st : Nat → I_T} {D : Nat → List (Int × List b_E)} {gv : Nat → Int} {M M1 : g_M} {x w : Nat} {u : List Int}
theorem C_H.n9 (h : C_H ι κ al sz cB eB st D gv M) (hx : x < 8) : g_O M (κ x 0) 3 ∧ (g_i M (κ x 0) 9 = 0 ↔ st x = none) := by
  have h9 := (h.2.2.2.2.2.1 x hx).2
  refine ⟨h.1.xO hx (by decide), fun g => ?_, fun g => ?_⟩
  · cases hst : st x with
    | none => rfl
    | some t =>
      obtain ⟨V, T, m1, m2⟩ := t
      rw [hst] at h9
      exact absurd (h9.1.symm.trans g) (by decide)
  · rw [g] at h9
    exact h9
theorem c_freeIx {Q : Int → g_M → Prop} (h : C_H ι κ al sz cB eB st D gv M) (hw : w < 2) (hf : (∀ k, k < 4 → st (4 * w + k) ≠ none) → Q (-1) M) (hy : ∀ k : Nat, k < 4 → st (4 * w + k) = none → (∀ j, j < k → st (4 * w + j) ≠ none) → Q k M) : g_Call (d + 1) 133 [.ref (ι (67 + w))] M (g_qI Q) := by
  obtain ⟨g0, gs, gh, gr10, gr1, gr0⟩ := h.gF hw
  obtain ⟨r', rk', rr', rA', ri'⟩ := h.xs hw
  have hlp : ∀ (j i : Nat), i + j = 4 → (∀ k, k < i → st (4 * w + k) ≠ none) → g_Run d 133 2 [(0, .ref (ι (67 + w))), (1, g_n (i : Int))] [] M (g_qI Q) := by
    intro j
    induction j with
    | zero =>
      intro i hi hn
      have hi4 : i = 4 := by omega
      subst hi4
      exact s_X8_freeIndex_2 (a0 := ι (67 + w)) ⟨by omega, by omega⟩ fun _ => ⟨fun g => absurd g (by decide), fun _ => hf hn⟩
    | succ j ih =>
      intro i hi hn
      obtain ⟨n1, n2⟩ := h.n9 (x := 4 * w + i) (by omega)
      refine s_X8_freeIndex_2 (a0 := ι (67 + w)) ⟨by omega, by omega⟩ fun _ => ⟨fun _ => ⟨gs, ι r', rr', 4, rA', ⟨by omega, by omega⟩, κ (4 * w + i) 0, ri' i (by omega), n1, fun g => hy i (by omega) (n2.mp g) hn, fun g => ⟨⟨by omega, by omega⟩, ?_⟩⟩, fun g => absurd (by omega) g⟩
      have h9 := ih (i + 1) (by omega) fun k hk => by
        by_cases e : k = i
        · rw [e]
          exact fun z => g (n2.mpr z)
        · exact hn k (by omega)
      rw [show ((i + 1 : Nat) : Int) = (i : Int) + 1 by omega] at h9
      exact h9
  exact m_X8_freeIndex (d := d) fun _ => hlp 4 0 rfl fun k hk => absurd hk (Nat.not_lt_zero k)
theorem c_indexQ {Q : g_M → Prop} {D1 D2 : Nat} {q1 q2 : Int} {nm1 vb1 nm2 vb2 : List Int} {ea ed : b_E} {ra rd : List b_E} (h : C_H ι κ al sz cB eB st D gv M) (hw : w < 2) (h16 : g_r M (ι 0) 16 = some (ι (67 + w))) (h14 : g_i M (ι 0) 14 = q1) (h15 : g_i M (ι 0) 15 = q2) (hs1 : b_st (g_i M (ι 2)) 2008 q1 D1 4 nm1 vb1) (hs2 : b_st (g_i M (ι 2)) 2008 q2 D2 4 nm2 vb2) (hc1 : b_ch vb1 = ea :: ra) (hc2 : b_ch vb2 = ed :: rd) (hlen : ra.length = rd.length) (hra : ra.length ≤ 1) (ha : ∀ e ∈ ea :: ra, I_ptx e) (hgd : H_gd (D w)) (hW : c_Wr (ι 3) (ι 4) 8000 0 8000 u M) (hf : (∀ k, k < 4 → st (4 * w + k) ≠ none) → Q (g_wi (g_wi M (ι 0) 17 40) (ι 0) 18 (-1))) (hn : ∀ k : Nat, k < 4 → st (4 * w + k) = none → (∀ j, j < k → st (4 * w + j) ≠ none) → ¬ (((D w).map Prod.snd).map (I_num (I_mkV ea ra ed rd))).sum ≤ 1000 → ∀ al1 sz1 M1, C_H ι κ al1 sz1 (cB + ((s_tx ea.2.2).length + I_c2 ra)) (eB + (1 + ra.length)) st D gv M1 → C_f1 ι M M1 → Q (g_wi (g_wi M1 (ι 0) 17 40) (ι 0) 18 (-1))) (hy : ∀ k : Nat, k < 4 → st (4 * w + k) = none → (∀ j, j < k → st (4 * w + j) ≠ none) → (((D w).map Prod.snd).map (I_num (I_mkV ea ra ed rd))).sum ≤ 1000 → ∀ al1 sz1 M1, C_H ι κ al1 sz1 (cB + ((s_tx ea.2.2).length + I_c2 ra)) (eB + (1 + ra.length)) (I_up st (4 * w + k) (some (I_mkV ea ra ed rd, I_in (I_mkV ea ra ed rd) (I_mk (I_mkV ea ra ed rd) (Z_t (D w))) N_nil, I_mn (I_key1 (I_mkV ea ra ed rd)) 0 (Z_t (D w)), I_mn (I_key2 (I_mkV ea ra ed rd)) 0 (Z_t (D w))))) D gv M1 → g_i M1 (ι 0) = g_i M (ι 0) ∧ g_r M1 (ι 0) = g_r M (ι 0) → c_Wr (ι 3) (ι 4) 8000 0 8000 (u ++ b_el 16 (b_tx 5) (b_le4 k)) M1 → Q M1) : g_Call (d + 64) 219 [.ref (ι 0)] M (g_qV Q) := by
  obtain ⟨w1, w2, w3, w4, w5, w6⟩ := Ck_w hw
  obtain ⟨g0, gs, gh, gr10, gr1, gr0⟩ := h.gF hw
  obtain ⟨V, hV⟩ : ∃ V, V = I_mkV ea ra ed rd := ⟨_, rfl⟩
  have hvok : I_vok V := by
    rw [hV]
    exact I_vok_mk
  have up : ∀ {q : Int} {D0 : Nat} {k0 : Int} {nm vb : List Int}, b_st (g_i M (ι 2)) 2008 q D0 k0 nm vb → b_st (g_i M (ι 2)) 246408 q D0 k0 nm vb := fun he => ⟨he.1, he.2.1, he.2.2.1, he.2.2.2.1, by have := he.2.2.2.2; omega⟩
  refine m_X11_makeIndex (d := d + 63) fun _ => ⟨g0, ι (67 + w), h16, gs, c_freeIx (d := d + 62) h hw (fun z => ?_) fun k hk hks hkb => ?_⟩
  · intro _ _ _
    exact ⟨fun _ => c_fail (d := d + 62) g0 ⟨by decide, by decide⟩ ⟨by decide, by decide⟩ fun _ _ => hf z, fun g => absurd (by decide) g⟩
  intro _ _ _
  have hn2 := hn k hk hks hkb
  have hy2 := hy k hk hks hkb
  rw [← hV] at hn2 hy2
  obtain ⟨r', rk', rr', rA', ri'⟩ := h.xs hw
  obtain ⟨x, hx⟩ : ∃ x, x = 4 * w + k := ⟨_, rfl⟩
  have hx8 : x < 8 := by omega
  rw [← hx] at hks hy2
  obtain ⟨G1, G2, G3, G4⟩ := h.G hx8
  refine ⟨fun g => absurd g (by omega), fun _ => ⟨ι (67 + w), h16, gs, ι r', rr', 4, rA', ⟨by omega, by omega⟩, κ x 0, by rw [hx]; exact ri' k hk, h.1.xO hx8 (by decide), ?_⟩⟩
  rw [h14, h15]
  refine c_prepareT (d := d + 59) G1 G2 G3 G4 (up hs1) (up hs2) hc1 hc2 hlen hra ha fun M1 a1 a2 j1 i1 Z1 F1 g9 g11 g12 hl1 hl2 hp1 hp2 hw1 hw2 => ?_
  intro _ _
  rw [← hV] at Z1
  have hV1 : V.2.2.1 = p_sp (s_tx ea.2.2) := by rw [hV]; rfl
  have hV2 : V.2.2.2 = I_p2 ra := by rw [hV]; rfl
  obtain ⟨H1, f1⟩ := h.mk hx8 Z1 F1 g9 g11 g12 hl1 hl2 hp1 hp2 (by rw [hV1, p_jn_sp]; exact hw1) fun s2 hs2 => by
    rw [hV2] at hs2
    rcases ra with _ | ⟨ec, ra⟩
    · exact absurd hs2 (by simp [I_p2])
    · have hs2 : p_sp (s_tx ec.2.2) = s2 := Option.some.inj hs2
      rw [← hs2, p_jn_sp]
      have hr0 : ra = [] := by
        rw [List.length_cons] at hra
        exact List.length_eq_zero_iff.mp (by omega)
      exact hw2 ec (by rw [hr0])
  have k1 : g_i M1 (ι 0) = g_i M (ι 0) ∧ g_r M1 (ι 0) = g_r M (ι 0) := f1.2.2 0 (by decide) (by decide)
  have hsf := H1.2.2.2.2.1 w hw
  obtain ⟨g0', gs', gh', gr10', gr1', gr0'⟩ := H1.gF hw
  have hlD : (D w).length ≤ 200 := by
    have := hsf.2.2.2.2.1.1
    rw [List.length_map] at this
    exact this
  have hI : I_ds (ι 2) (ι (69 + 4 * w)) 246408 ((D w).map Prod.snd) M1 := fun i es hi => by
    rw [List.getElem?_map] at hi
    cases hz : (D w)[i]? with
    | none =>
      rw [hz] at hi
      exact absurd hi (by simp)
    | some z =>
      rw [hz] at hi
      have hi : z.2 = es := Option.some.inj hi
      obtain ⟨p, p1, p2, p3, p4, p5, p6, p7, p8⟩ := hsf.at hz
      rw [← hi, p1]
      exact ⟨⟨p2.1, p2.2.1, p2.2.2.1, p2.2.2.2.1, by have := p2.2.2.2.2; omega⟩, p7⟩
  have est : I_up st x (some (V, N_nil, 0, 0)) x = some (V, N_nil, 0, 0) := if_pos rfl
  have hiff : (∀ V' T m1 m2, I_up st x (some (V, N_nil, 0, 0)) x = some (V', T, m1, m2) → (((D w).map Prod.snd).map (I_num V')).sum ≤ 1000) ↔ (((D w).map Prod.snd).map (I_num V)).sum ≤ 1000 := by
    rw [est]
    refine ⟨fun g => g V N_nil 0 0 rfl, fun g V2 T2 n1 n2 e => ?_⟩
    have e := Option.some.inj e
    injection e with e1 e
    rw [← e1]
    exact g
  refine ⟨ι (67 + w), by rw [k1.2]; exact h16, gs', ι (69 + 4 * w), hsf.1.2.2.1, ι (67 + w), by rw [k1.2]; exact h16, gs', ?_⟩
  rw [hsf.2.2.1.1, show (((D w).length : Nat) : Int) = (((D w).map Prod.snd).length : Nat) by rw [List.length_map]]
  refine c_fitLH (d := d) H1 hx8 hsf.1.2.2.2.2.1 hI (by rw [List.length_map]; exact hlD) (fun hfit M2 H2 f2 => ?_) fun hfit M2 H2 f2 => ?_
  · intro _ _ _
    have hfit := hiff.mp hfit
    have k2 := f2.2.2 0 (by decide) (by decide)
    have hkR : g_InR (k : Int) := ⟨by omega, by omega⟩
    refine ⟨fun g => absurd g (by decide), fun _ => ?_⟩
    have hlg : ∀ z ∈ Z_t (D w), I_long V z.2.2 = false := fun z hz => by
      obtain ⟨y, hy, rfl⟩ := List.mem_map.mp hz
      exact ((I_num_le (k := 0)).mp (by rw [Nat.zero_add]; exact hfit)).1 y.2 (List.mem_map_of_mem hy)
    have hcan : I_can V N_nil (I_mk V (Z_t (D w))) := by
      refine (I_ok.inn (zs := Z_t (D w)) (T := N_nil) (by rw [Z_t_k]; exact I_ok.nil hvok) (by rw [Z_t_2]; exact hgd) hlg ?_).1
      rw [Z_t_2, I_all_len]
      have := ((I_num_le (k := 0)).mp (by rw [Nat.zero_add]; exact hfit)).2
      omega
    have hlp : ∀ (j i : Nat) (M' : g_M), i + j = (D w).length → C_H ι κ (C_up al x (a1, a2)) (C_up sz x (j1, i1)) (cB + ((s_tx ea.2.2).length + I_c2 ra)) (eB + (1 + ra.length)) (I_up st x (some (V, N_nil, 0, 0))) D gv M' → (g_i M' (ι 0) = g_i M (ι 0) ∧ g_r M' (ι 0) = g_r M (ι 0)) → c_Wr (ι 3) (ι 4) 8000 0 8000 u M' → (∀ q : Nat, q < i → g_i M' (ι 90) q = 1) → g_Run (d + 63) 219 78 [(0, .ref (ι 0)), (1, g_n (k : Int)), (2, .ref (κ x 0)), (3, g_n (i : Int))] [] M' (g_qV Q) := by
      intro j
      induction j with
      | zero =>
        intro i M' hij H' k' W' hm
        obtain ⟨g0', gs', gh', gr10', gr1', gr0'⟩ := H'.gF hw
        have hs' := H'.2.2.2.2.1 w hw
        have c6' : g_i M' (ι (67 + w)) 6 = (D w).length := hs'.2.2.1.1
        have hsh := H'.sh hw (zs := Z_t (D w)) (Z_t_2 (D w)).symm fun q z hq => by
          have hql := (List.getElem?_eq_some_iff.mp hq).1
          unfold Z_t at hql hq
          rw [List.length_map] at hql
          rw [List.getElem?_map] at hq
          cases hdq : (D w)[q]? with
          | none =>
            rw [hdq] at hq
            exact absurd hq (by simp)
          | some y =>
            rw [hdq] at hq
            have hq : (true, y) = z := Option.some.inj hq
            rw [← hq, hm q (by omega)]
            rfl
        refine s_X11_makeIndex_78 (a0 := ι 0) (a2 := κ x 0) hkR ⟨by omega, by omega⟩ fun _ => ⟨g0', ι (67 + w), by rw [k'.2]; exact h16, gs', fun g => absurd g (by rw [c6']; omega), fun _ => ⟨ι (67 + w), by rw [k'.2]; exact h16, ι 90, gr10', H'.1.xO hx8 (by decide), c_inH (d := d + 1) H' hx8 hw hsh (fun V2 T2 n1 n2 e => ?_) fun sz2 M2 H2 f2 s2 => ?_⟩⟩
        · rw [est] at e
          have e := Option.some.inj e
          injection e with e1 e
          injection e with e2 e
          rw [← e1, ← e2]
          exact hcan
        · intro _ _
          rw [est] at H2
          have k2 := f2.2.2 0 (by decide) (by decide)
          have W2 := C_H.Wr f2 W'
          refine ⟨ι 3, H2.1.r (by decide), H2.1.O (by decide), c_named2 (d := d + 59) (j := 5) (by decide) W2 hkR fun M3 f3 W3 => ?_⟩
          intro _ _
          obtain ⟨H3, k3⟩ := H2.wr f3
          have k03 := k3 0 (by decide) (by decide) (by decide)
          refine hy2 hfit (C_up al x (a1, a2)) sz2 M3 ?_ ⟨k03.1.trans (k2.1.trans k'.1), k03.2.trans (k2.2.trans k'.2)⟩ W3
          have e9 : I_up (I_up st x (some (V, N_nil, 0, 0))) x (I_inn (Z_t (D w)) (some (V, N_nil, 0, 0))) = I_up st x (some (V, I_in V (I_mk V (Z_t (D w))) N_nil, I_mn (I_key1 V) 0 (Z_t (D w)), I_mn (I_key2 V) 0 (Z_t (D w)))) := by
            funext y
            unfold I_up
            by_cases g : y = x
            · rw [if_pos g, if_pos g]
              rfl
            · rw [if_neg g, if_neg g, if_neg g]
          rw [e9] at H3
          exact H3
      | succ j ih =>
        intro i M' hij H' k' W' hm
        obtain ⟨g0', gs', gh', gr10', gr1', gr0'⟩ := H'.gF hw
        have hs' := H'.2.2.2.2.1 w hw
        have c6' : g_i M' (ι (67 + w)) 6 = (D w).length := hs'.2.2.1.1
        refine s_X11_makeIndex_78 (a0 := ι 0) (a2 := κ x 0) hkR ⟨by omega, by omega⟩ fun _ => ⟨g0', ι (67 + w), by rw [k'.2]; exact h16, gs', fun _ => ⟨ι 90, gr10', 200, gh', ⟨by omega, by omega⟩, fun M2 e2 _ => ⟨⟨by omega, by omega⟩, ?_⟩⟩, fun g => absurd (by rw [c6']; omega) g⟩
        have f2 : e_fr (fun y _ => y = ι 90) M' M2 := by
          rw [e2]
          exact e_fr.wi _ rfl
        have sm : ∀ a ∈ Ck_k, a ≠ 90 → g_i M2 (ι a) = g_i M' (ι a) ∧ g_r M2 (ι a) = g_r M' (ι a) := fun a ha hn => ⟨funext fun k => f2.2.1 _ _ fun z => H'.2.1.ne ha (by decide) hn z, funext fun k => f2.2.2 _ _⟩
        have s0 := sm 0 (by decide) (by decide)
        have hx2 : g_ext M' M2 := fun a c hc => by
          rw [f2.sh]
          exact hc
        have h9 := ih (i + 1) M2 (by omega) (H'.es (T := [90]) f2 (by decide) fun y k z => ⟨90, by decide, z, fun g => absurd g (by decide)⟩) ⟨s0.1.trans k'.1, s0.2.trans k'.2⟩ (W'.sm hx2 (sm 3 (by decide) (by decide)) (sm 4 (by decide) (by decide)).1) fun q hq => by
          rw [e2, g_i_ws]
          by_cases e : (q : Int) = i
          · rw [if_pos e]
          · rw [if_neg e]
            exact hm q (by omega)
        rw [show ((i + 1 : Nat) : Int) = (i : Int) + 1 by omega] at h9
        exact h9
    exact hlp (D w).length 0 M2 (by omega) H2 ⟨k2.1.trans k1.1, k2.2.trans k1.2⟩ (C_H.Wr f2 (C_H.Wr f1 hW)) fun q hq => absurd hq (Nat.not_lt_zero q)
  · intro _ _ _
    have hfit : ¬ (((D w).map Prod.snd).map (I_num V)).sum ≤ 1000 := fun z => hfit (hiff.mpr z)
    refine ⟨fun _ => fun M3 e3 _ => ?_, fun g => absurd rfl g⟩
    obtain ⟨H3, f3⟩ := H2.dr hx8 e3
    have e9 : I_up (I_up st x (some (V, N_nil, 0, 0))) x none = st := by
      funext y
      unfold I_up
      by_cases g : y = x
      · rw [if_pos g, g, hks]
      · rw [if_neg g, if_neg g]
    rw [e9] at H3
    refine c_fail (d := d + 62) (H3.1.O (by decide)) ⟨by decide, by decide⟩ ⟨by decide, by decide⟩ fun _ _ => hn2 hfit _ _ M3 H3 ((f1.tr f2).tr f3)
end CNI
