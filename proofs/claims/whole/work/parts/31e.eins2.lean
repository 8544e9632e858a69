/-! REQUESTS, THE REFERENCE: insert, all -/
section EINS2
variable {m d : Nat} {ρ : Nat → Nat} {M M1 : g_M} {st : Nat → I_T} {q : Nat → List (Nat × Int × List b_E)} {v : Nat → Int}
theorem E_S.cut0 {b l : Nat} {F : Int → Int} {X : List Int} (h : E_S m b l F M X) : E_S m b l F (g_wi M m 10 0) [] ∧ e_fr (E_le m l) M (g_wi M m 10 0) := by
  have h1 := E_S.cut (L := []) (L1 := X) h
  exact ⟨h1.1, h1.2.up fun y k z => z.elim Or.inl fun z => Or.inr ⟨z.1, Or.inl z.2⟩⟩
theorem E_S.leF {b l : Nat} {F : Int → Int} {X : List Int} (h : E_S m b l F M X) : g_i M b = F := h.2.2.2.2.2.1
theorem R_ix.there {x : Nat} {t : I_T} (h : R_ix m ρ x t M) : (t = none → g_i M (ρ 35) x = 0) ∧ (∀ V T m1 m2, t = some (V, T, m1, m2) → g_i M (ρ 35) x = 1 ∧ R_V m (ρ 36) (ρ 37) (ρ 38) (g_i M (ρ 0)) x V M ∧ g_i M (ρ 54) x = (N_all T).length) := by
  refine ⟨fun z => by subst z; exact h, fun V T m1 m2 z => ?_⟩
  subst z
  obtain ⟨k1, k2, k3, -⟩ := h
  obtain ⟨-, -, -, -, -, -, -, -, -, -, -, -, -, -, -, hct, -⟩ := k3
  exact ⟨k1, k2, hct⟩
/-- a new document stands on the shelf -/
theorem R_hs.add {w s : Nat} {qs : List (Nat × Int × List b_E)} {gv : Int} {es : List b_E} (hB : E_bk m ρ M) (h : R_hs ρ w qs gv M) (hgv : g_InR (gv + 1)) (hl : qs.length < 200) (hsum : S_sum (qs.map fun z => z.2.2) + (b_doc es).length ≤ 40000) (hdl : (b_doc es).length ≤ 2000) (hg : X_gd 15 es) (hs1 : 200 * w ≤ s) (hs2 : s < 200 * w + 200) (hs3 : s ∉ qs.map fun z => z.1) (f : e_fr (R_hP ρ w) M M1) (c68 : g_i M1 (ρ 68) w = qs.length + 1) (c69 : g_i M1 (ρ 69) w = S_sum (qs.map fun z => z.2.2) + (b_doc es).length) (c70 : g_i M1 (ρ 70) w = gv + 2) (c71 : ∀ k : Int, g_i M1 (ρ 71) k = if k = 200 * w + qs.length then (s : Int) else g_i M (ρ 71) k) (c72 : ∀ k : Int, g_i M1 (ρ 72) k = if k = 200 * w + qs.length then gv + 1 else g_i M (ρ 72) k) (c73 : ∀ k : Int, g_i M1 (ρ 73) k = if k = s then 1 else g_i M (ρ 73) k) (c0 : b_at (g_i M1 (ρ 0)) (2000 + 2000 * (s : Int)) (b_doc es)) (c00 : ∀ k : Int, k < 2000 + 2000 * (s : Int) ∨ 2000 + 2000 * (s : Int) + 2000 ≤ k → g_i M1 (ρ 0) k = g_i M (ρ 0) k) : R_hs ρ w (qs ++ [(s, gv + 1, es)]) (gv + 1) M1 := by
  obtain ⟨⟨h1, h2, h3, h4⟩, h5, h6, h7, h8⟩ := h
  refine ⟨⟨h1, by rw [c68, List.length_append, List.length_singleton]; omega, ?_, by rw [c70]; omega⟩, ?_, fun i z hi => ?_, fun s2 e1 e2 => ?_, ?_⟩
  · rw [c69, List.map_append, S_sum_app, List.map_singleton, S_sum_c]
    show _ = ((S_sum (qs.map fun z => z.2.2) + ((b_doc es).length + 0) : Nat) : Int)
    omega
  · rw [List.map_append, List.map_singleton]
    exact List.nodup_append.mpr ⟨h5, List.pairwise_singleton _ _, fun a ha b hb => by
      rw [List.mem_singleton.mp hb]
      exact fun z => hs3 (by
        have z : a = s := z
        rw [← z]
        exact ha)⟩
  · by_cases g : i < qs.length
    · rw [List.getElem?_append_left g] at hi
      obtain ⟨⟨g1, g2⟩, g3, g4, g5, g6⟩ := h6 i z hi
      have hne : z.1 ≠ s := fun e => hs3 (e ▸ List.mem_map.mpr ⟨z, List.mem_of_getElem? hi, rfl⟩)
      have hzl := (h8.2.2 z.2.2 (List.mem_map.mpr ⟨z, List.mem_of_getElem? hi, rfl⟩)).1
      refine ⟨⟨g1, g2⟩, by rw [c71, if_neg (by omega)]; exact g3, by rw [c72, if_neg (by omega)]; exact g4, g5, b_at_keep g6 fun k k1 k2 => c00 k (by omega)⟩
    · rw [List.getElem?_append_right (by omega)] at hi
      have hi0 : i = qs.length := by
        have := (List.getElem?_eq_some_iff.mp hi).1
        rw [List.length_singleton] at this
        omega
      subst hi0
      rw [Nat.sub_self] at hi
      have hi : (s, gv + 1, es) = z := Option.some.inj hi
      subst hi
      exact ⟨⟨hs1, hs2⟩, by rw [c71, if_pos rfl], by rw [c72, if_pos rfl], hgv, c0⟩
  · rw [c73, List.map_append, List.map_singleton]
    by_cases g : s2 = s
    · rw [if_pos (by omega), if_pos (by rw [g]; simp)]
    · rw [if_neg (by omega), h7 s2 e1 e2]
      by_cases g2 : s2 ∈ qs.map fun z => z.1
      · rw [if_pos g2, if_pos (List.mem_append_left _ g2)]
      · rw [if_neg g2, if_neg fun z => (List.mem_append.mp z).elim g2 fun z => g (List.mem_singleton.mp z)]
  · obtain ⟨o1, o2, o3⟩ := h8
    have h0 : S_sum ([] : List (List b_E)) = 0 := rfl
    refine ⟨by rw [List.length_map, List.length_append, List.length_singleton]; omega, by rw [List.map_append, S_sum_app, List.map_singleton, S_sum_c, h0]; omega, fun e he => ?_⟩
    rw [List.map_append] at he
    rcases List.mem_append.mp he with g | g
    · exact o3 e g
    · rw [List.mem_singleton.mp g]
      exact ⟨hdl, hg⟩
theorem e_insert {Q : Int → g_M → Prop} {w : Nat} {c : Int} {es : List b_E} (h : E_H m ρ st q v M) (hS : E_S m (ρ 0) (ρ 9) (g_i M (ρ 0)) M []) (hw : w < 2) (hct : E_ct (g_i M (ρ 0)) c 15 es) (hc2 : c + (b_doc es).length ≤ 2000) (hdl : (b_doc es).length ≤ 2000) (hv : 0 ≤ v w ∧ v w ≤ 1000000) (hok : ∀ x, 4 * w ≤ x → x < 4 * w + 4 → ∀ V T m1 m2, st x = some (V, T, m1, m2) → I_vok V ∧ ((N_all T).length ≤ 1000) ∧ ((N_all T).length + I_num V es ≤ 1000 → I_can V T (I_ens V es (v w + 1)))) (hn : ¬ ((q w).length < 200 ∧ S_sum ((q w).map fun z => z.2.2) + (b_doc es).length ≤ 40000 ∧ ∀ x, 4 * w ≤ x → x < 4 * w + 4 → I_fit es (st x)) → ∀ M1, e_fr (E_le m (ρ 9)) M M1 → E_S m (ρ 0) (ρ 9) (g_i M1 (ρ 0)) M1 [] → (g_i M1 m 40 = 0 ∨ g_i M1 m 40 = 1) → Q 0 (g_wi (g_wi M1 m 7 40) m 8 (-1))) (hy : ((q w).length < 200 ∧ S_sum ((q w).map fun z => z.2.2) + (b_doc es).length ≤ 40000 ∧ ∀ x, 4 * w ≤ x → x < 4 * w + 4 → I_fit es (st x)) → ∀ (s : Nat) M1 M2, E_k m M M1 → E_S m (ρ 0) (ρ 9) (g_i M1 (ρ 0)) M1 [] → (g_i M1 m 40 = 0 ∨ g_i M1 m 40 = 1) → E_H m ρ (I_lp (I_add1 es (v w + 1)) w st (4 * w + 4)) (H_up q w (q w ++ [(s, v w + 1, es)])) (H_up v w (v w + 1)) M1 → e_fr (A_L m (ρ 0)) M1 M2 → e_Wr m (ρ 0) 2598000 2606000 (A_doc (b_el 16 (b_tx 130) (b_le4 (v w + 1)))) M2 → (g_i M2 m 6 = 0 → Q 1 M2) ∧ (¬ g_i M2 m 6 = 0 → Q 0 (g_wi (g_wi M2 m 7 40) m 8 (-1)))) : g_Call (d + 73) 419 [.ref m, g_n c, g_n w] M (g_qI Q) := by
  have hB := h.1
  have hR := hB.R
  have hs := h.2.2.2.2 w hw
  obtain ⟨⟨s1, s2, s3, s4⟩, s5, s6, s7, s8⟩ := id hs
  have hcR : g_InR c := by
    have h1 := hct.2.1
    exact ⟨by omega, by omega⟩
  have hg := hct.2.2.2
  have hl200 := s8.1
  rw [List.length_map] at hl200
  have hsum := s8.2.1
  have hwR : g_InR (w : Int) := ⟨by omega, by omega⟩
  have h35 := hB.at (k := 35) (by decide)
  have h35A : g_A M (ρ 35) 2 8 := h35.2
  have h54 := hB.at (k := 54) (by decide)
  have h54A : g_A M (ρ 54) 1 8 := h54.2
  have h68 := hB.at (k := 68) (by decide)
  have h68A : g_A M (ρ 68) 1 2 := h68.2
  have h69 := hB.at (k := 69) (by decide)
  have h69A : g_A M (ρ 69) 1 2 := h69.2
  have h70 := hB.at (k := 70) (by decide)
  have h70A : g_A M (ρ 70) 1 2 := h70.2
  have h71 := hB.at (k := 71) (by decide)
  have h71A : g_A M (ρ 71) 1 400 := h71.2
  have h72 := hB.at (k := 72) (by decide)
  have h72A : g_A M (ρ 72) 1 400 := h72.2
  have h73 := hB.at (k := 73) (by decide)
  have h73A : g_A M (ρ 73) 2 400 := h73.2
  have hdl2 := b_doc_len es
  obtain ⟨n, hnn⟩ : ∃ n : Int, n = (b_doc es).length := ⟨_, rfl⟩
  obtain ⟨base, hbase⟩ : ∃ base : Prop, base = ((q w).length < 200 ∧ S_sum ((q w).map fun z => z.2.2) + (b_doc es).length ≤ 40000) := ⟨_, rfl⟩
  have hlen0 : ((([] : List Int).length : Nat) : Int) = 0 := rfl
  -- the indexes are asked one by one
  have hlp : ∀ (r x : Nat) (M2 : g_M) (w0 : Int), x + r = 4 * w + 4 → 4 * w ≤ x → e_fr (E_le m (ρ 9)) M M2 → E_S m (ρ 0) (ρ 9) (g_i M2 (ρ 0)) M2 [] → (w0 = 0 ∨ w0 = 1) → (g_i M2 m 40 = 0 ∨ g_i M2 m 40 = 1) → ((w0 = 1 ∧ g_i M2 m 40 = 0) ↔ (base ∧ ∀ x2, 4 * w ≤ x2 → x2 < x → I_fit es (st x2))) → g_Run (d + 72) 419 55 [(0, .ref m), (1, g_n c), (2, g_n w), (3, g_n n), (4, g_n w0), (5, g_n 0), (6, g_n x)] [] M2 (g_qI Q) := by
    intro r
    induction r with
    | zero =>
      intro x M2 w0 hr hx f2 S2 hw0 h40 hiff
      have hx4 : x = 4 * w + 4 := by omega
      subst hx4
      have hw0R : g_InR w0 := by rcases hw0 with g | g <;> rw [g] <;> exact ⟨by decide, by decide⟩
      have hB2 := hB.fr f2
      have h2 := h.le f2
      have href : ¬ (w0 = 1 ∧ g_i M2 m 40 = 0) → g_Call (d + 72) 405 [.ref m, g_n 40, g_n (-1)] M2 (g_qI fun r7 M4 => g_ext M2 M4 → g_ok M4 → g_InR r7 → (r7 = 0 ∨ r7 = 1) ∧ Q r7 M4) := fun hnn2 => by
        refine m_X12_refuses ⟨by decide, by decide⟩ ⟨by decide, by decide⟩ fun _ => ⟨hB2.1, fun M3 e3 _ M4 e4 _ => ?_⟩
        subst e3
        subst e4
        intro _ _ _
        refine ⟨Or.inl rfl, hn (fun hall => hnn2 (hiff.mpr ?_)) M2 f2 S2 h40⟩
        rw [hbase]
        exact ⟨⟨hall.1, hall.2.1⟩, fun x2 e1 e2 => hall.2.2 x2 e1 e2⟩
      refine s_X12_insert_55 hcR hwR ⟨by omega, by omega⟩ hw0R ⟨by decide, by decide⟩ ⟨by omega, by omega⟩ fun _ => ⟨⟨by omega, by omega⟩, ⟨by omega, by omega⟩, fun z => absurd z (by omega), fun _ => ⟨fun z0 => ⟨hB2.1, href fun z => by have := z.1; omega⟩, fun z0 => ⟨hB2.1, fun z1 => ?_, fun z1 => href fun z => z1 z.2⟩⟩⟩
      have hgo := hiff.mp ⟨by omega, z1⟩
      rw [hbase] at hgo
      obtain ⟨⟨hgo1, hgo2⟩, hgo3⟩ := hgo
      have hs2 := h2.2.2.2.2 w hw
      refine ⟨ρ 68, by rw [f2.2.2]; exact h68.1, 2, f2.A h68A, ⟨by omega, by omega⟩, ⟨by omega, by omega⟩, ?_⟩
      rw [hs2.1.2.1, show (200 : Int) * (w : Int) = ((200 * w : Nat) : Int) by omega]
      refine e_findSlot (d := d + 71) hcR ⟨by omega, by omega⟩ hw0R ⟨by decide, by decide⟩ ⟨by omega, by omega⟩ hB2 hs2 hgo1 fun s e1 e2 e3 e4 => ?_
      refine s_X12_insert_156 hcR hwR ⟨by omega, by omega⟩ hw0R ⟨by decide, by decide⟩ ⟨by omega, by omega⟩ ⟨by omega, by omega⟩ fun _ => ⟨hB2.1, ρ 73, by rw [f2.2.2]; exact h73.1, 400, f2.A h73A, ⟨by omega, by omega⟩, fun _ => ⟨ρ 73, by rw [f2.2.2]; exact h73.1, 400, f2.A h73A, ⟨by omega, by omega⟩, ?_⟩, fun z => absurd e4 z⟩
      rintro M12 e12 _
      have f12 : e_fr (R_hP ρ w) M2 M12 := by rw [e12]; exact e_fr.wi _ (Or.inr (Or.inl ⟨Or.inr (Or.inr rfl), by omega, by omega⟩))
      have F12 := f2.2.2
      have r12 : ∀ y k, g_r M12 y k = g_r M y k := fun y k => by rw [f12.2.2, f2.2.2]
      have A12 : ∀ {y t : Nat} {n : Int}, g_A M y t n → g_A M12 y t n := fun z => f12.A (f2.A z)
      have hk200 : (200 * (w : Int)) + ((q w).length : Int) = ((200 * w + (q w).length : Nat) : Int) := by omega
      refine ⟨ρ 71, by rw [r12]; exact h71.1, ⟨by omega, by omega⟩, ⟨by omega, by omega⟩, 400, A12 h71A, ⟨by omega, by omega⟩, ?_⟩
      rintro M23 e23 _
      have f23 : e_fr (R_hP ρ w) M12 M23 := by rw [e23]; exact e_fr.wi _ (Or.inr (Or.inl ⟨Or.inl rfl, by omega, by omega⟩))
      have r23 : ∀ y k, g_r M23 y k = g_r M y k := fun y k => by rw [f23.2.2, r12]
      have A23 : ∀ {y t : Nat} {n : Int}, g_A M y t n → g_A M23 y t n := fun z => f23.A (A12 z)
      have ne : ∀ {i j : Nat}, i ∈ E_bf → j ∈ E_bf → i ≠ j → ρ i ≠ ρ j := fun h1 h2 h3 => hB.ne h1 h2 h3
      have g70 : g_i M23 (ρ 70) w = v w + 1 := by
        rw [e23, g_i_wi, if_neg (fun z => ne (by decide) (by decide) (by decide) z.1), e12, g_i_wi, if_neg (fun z => ne (by decide) (by decide) (by decide) z.1)]
        exact hs2.1.2.2.2
      refine ⟨ρ 72, by rw [r23]; exact h72.1, ⟨by omega, by omega⟩, ⟨by omega, by omega⟩, ρ 70, by rw [r23]; exact h70.1, 2, A23 h70A, ⟨by omega, by omega⟩, 400, A23 h72A, ⟨by omega, by omega⟩, ?_⟩
      rw [g70]
      rintro M39 e39 _
      have f39 : e_fr (R_hP ρ w) M23 M39 := by rw [e39]; exact e_fr.wi _ (Or.inr (Or.inl ⟨Or.inr (Or.inl rfl), by omega, by omega⟩))
      have r39 : ∀ y k, g_r M39 y k = g_r M y k := fun y k => by rw [f39.2.2, r23]
      have A39 : ∀ {y t : Nat} {n : Int}, g_A M y t n → g_A M39 y t n := fun z => f39.A (A23 z)
      have g7039 : g_i M39 (ρ 70) w = v w + 1 := by
        rw [e39, g_i_wi, if_neg (fun z => ne (by decide) (by decide) (by decide) z.1)]
        exact g70
      refine ⟨ρ 70, by rw [r39]; exact h70.1, 2, A39 h70A, ⟨by omega, by omega⟩, ?_⟩
      rw [g7039]
      refine ⟨⟨by omega, by omega⟩, ⟨by omega, by omega⟩, ?_⟩
      rintro M50 e50 _
      have f50 : e_fr (R_hP ρ w) M39 M50 := by rw [e50]; exact e_fr.wi _ (Or.inl ⟨Or.inr (Or.inr rfl), rfl⟩)
      have r50 : ∀ y k, g_r M50 y k = g_r M y k := fun y k => by rw [f50.2.2, r39]
      have A50 : ∀ {y t : Nat} {n : Int}, g_A M y t n → g_A M50 y t n := fun z => f50.A (A39 z)
      have g68 : g_i M50 (ρ 68) w = (q w).length := by
        rw [e50, g_i_wi, if_neg (fun z => ne (by decide) (by decide) (by decide) z.1), e39, g_i_wi, if_neg (fun z => ne (by decide) (by decide) (by decide) z.1), e23, g_i_wi, if_neg (fun z => ne (by decide) (by decide) (by decide) z.1), e12, g_i_wi, if_neg (fun z => ne (by decide) (by decide) (by decide) z.1)]
        exact hs2.1.2.1
      refine ⟨ρ 68, by rw [r50]; exact h68.1, 2, A50 h68A, ⟨by omega, by omega⟩, ?_⟩
      rw [g68]
      refine ⟨⟨by omega, by omega⟩, ⟨by omega, by omega⟩, ?_⟩
      rintro M61 e61 _
      have f61 : e_fr (R_hP ρ w) M50 M61 := by rw [e61]; exact e_fr.wi _ (Or.inl ⟨Or.inl rfl, rfl⟩)
      have r61 : ∀ y k, g_r M61 y k = g_r M y k := fun y k => by rw [f61.2.2, r50]
      have A61 : ∀ {y t : Nat} {n : Int}, g_A M y t n → g_A M61 y t n := fun z => f61.A (A50 z)
      have g69 : g_i M61 (ρ 69) w = S_sum ((q w).map fun z => z.2.2) := by
        rw [e61, g_i_wi, if_neg (fun z => ne (by decide) (by decide) (by decide) z.1), e50, g_i_wi, if_neg (fun z => ne (by decide) (by decide) (by decide) z.1), e39, g_i_wi, if_neg (fun z => ne (by decide) (by decide) (by decide) z.1), e23, g_i_wi, if_neg (fun z => ne (by decide) (by decide) (by decide) z.1), e12, g_i_wi, if_neg (fun z => ne (by decide) (by decide) (by decide) z.1)]
        exact hs2.1.2.2.1
      refine ⟨ρ 69, by rw [r61]; exact h69.1, 2, A61 h69A, ⟨by omega, by omega⟩, ?_⟩
      rw [g69]
      refine ⟨⟨by omega, by omega⟩, ⟨by omega, by omega⟩, ?_⟩
      rintro M72 e72 _
      have f72 : e_fr (R_hP ρ w) M61 M72 := by rw [e72]; exact e_fr.wi _ (Or.inl ⟨Or.inr (Or.inl rfl), rfl⟩)
      have FP : e_fr (R_hP ρ w) M2 M72 := ((((f12.tr f23).tr f39).tr f50).tr f61).tr f72
      have hB72 := hB2.fr FP
      have k71 : ∀ k : Int, g_i M72 (ρ 71) k = if k = 200 * w + (q w).length then (s : Int) else g_i M2 (ρ 71) k := fun k => by
        rw [e72, g_i_wi, if_neg (fun z => ne (by decide) (by decide) (by decide) z.1), e61, g_i_wi, if_neg (fun z => ne (by decide) (by decide) (by decide) z.1), e50, g_i_wi, if_neg (fun z => ne (by decide) (by decide) (by decide) z.1), e39, g_i_wi, if_neg (fun z => ne (by decide) (by decide) (by decide) z.1), e23, g_i_wi]
        by_cases g : k = 200 * w + (q w).length
        · rw [if_pos ⟨rfl, g⟩, if_pos g]
        · rw [if_neg (fun z => g z.2), if_neg g, e12, g_i_wi, if_neg (fun z => ne (by decide) (by decide) (by decide) z.1)]
      have k72 : ∀ k : Int, g_i M72 (ρ 72) k = if k = 200 * w + (q w).length then v w + 1 else g_i M2 (ρ 72) k := fun k => by
        rw [e72, g_i_wi, if_neg (fun z => ne (by decide) (by decide) (by decide) z.1), e61, g_i_wi, if_neg (fun z => ne (by decide) (by decide) (by decide) z.1), e50, g_i_wi, if_neg (fun z => ne (by decide) (by decide) (by decide) z.1), e39, g_i_wi]
        by_cases g : k = 200 * w + (q w).length
        · rw [if_pos ⟨rfl, g⟩, if_pos g]
        · rw [if_neg (fun z => g z.2), if_neg g, e23, g_i_wi, if_neg (fun z => ne (by decide) (by decide) (by decide) z.1), e12, g_i_wi, if_neg (fun z => ne (by decide) (by decide) (by decide) z.1)]
      have k73 : ∀ k : Int, g_i M72 (ρ 73) k = if k = s then 1 else g_i M2 (ρ 73) k := fun k => by
        rw [e72, g_i_wi, if_neg (fun z => ne (by decide) (by decide) (by decide) z.1), e61, g_i_wi, if_neg (fun z => ne (by decide) (by decide) (by decide) z.1), e50, g_i_wi, if_neg (fun z => ne (by decide) (by decide) (by decide) z.1), e39, g_i_wi, if_neg (fun z => ne (by decide) (by decide) (by decide) z.1), e23, g_i_wi, if_neg (fun z => ne (by decide) (by decide) (by decide) z.1), e12, g_i_wi]
        by_cases g : k = s
        · rw [if_pos ⟨rfl, g⟩, if_pos g]
        · rw [if_neg (fun z => g z.2), if_neg g]
      have k70 : g_i M72 (ρ 70) w = v w + 2 := by
        rw [e72, g_i_wi, if_neg (fun z => ne (by decide) (by decide) (by decide) z.1), e61, g_i_wi, if_neg (fun z => ne (by decide) (by decide) (by decide) z.1), e50, g_i_wi, if_pos ⟨rfl, rfl⟩]
        omega
      have k68 : g_i M72 (ρ 68) w = (q w).length + 1 := by
        rw [e72, g_i_wi, if_neg (fun z => ne (by decide) (by decide) (by decide) z.1), e61, g_i_wi, if_pos ⟨rfl, rfl⟩]
      have k69 : g_i M72 (ρ 69) w = S_sum ((q w).map fun z => z.2.2) + (b_doc es).length := by
        rw [e72, g_i_wi, if_pos ⟨rfl, rfl⟩, hnn]
      have k0 : ∀ k, g_i M72 (ρ 0) k = g_i M2 (ρ 0) k := fun k => by
        rw [e72, g_i_wi, if_neg (fun z => ne (by decide) (by decide) (by decide) z.1), e61, g_i_wi, if_neg (fun z => ne (by decide) (by decide) (by decide) z.1), e50, g_i_wi, if_neg (fun z => ne (by decide) (by decide) (by decide) z.1), e39, g_i_wi, if_neg (fun z => ne (by decide) (by decide) (by decide) z.1), e23, g_i_wi, if_neg (fun z => ne (by decide) (by decide) (by decide) z.1), e12, g_i_wi, if_neg (fun z => ne (by decide) (by decide) (by decide) z.1)]
      have hT72 : R_tb m (ρ 68) (ρ 71) M72 := ⟨(hB72.at (k := 68) (by decide)).1, (hB72.at (k := 68) (by decide)).2, (hB72.at (k := 71) (by decide)).1, (hB72.at (k := 71) (by decide)).2⟩
      refine e_doc1 (d := d + 71) (w := (w : Int)) (i := (q w).length) (s := s) hB72.R hT72 (by omega) (by omega) (by rw [k71, if_pos (by omega)]) (by omega) (by omega) ?_
      intro _ _ _
      have hbk2 : ∀ k, g_i M2 (ρ 0) k = g_i M (ρ 0) k := fun k => f2.2.1 _ _ (E_le_n hB (by decide) (by decide))
      have hdoc72 : b_at (g_i M72 (ρ 0)) c (b_doc es) := b_at_keep hct.1 fun k _ _ => by rw [k0, hbk2]
      have hc0 := hct.2.1
      rw [hnn]
      refine e_copy (d := d + 71) hB72.R hdoc72 hc0 (by omega) (by omega) (by omega) (Or.inl (by omega)) fun M81 f81 d81 => ?_
      intro _ _
      have f81' : e_fr (R_hP ρ w) M72 M81 := f81.up fun y k z => Or.inr (Or.inr ⟨z.1, by have := z.2; omega, by have := z.2; omega⟩)
      have FP81 := FP.tr f81'
      have n81 : ∀ y k, y ≠ ρ 0 → g_i M81 y k = g_i M72 y k := fun y k hy2 => f81.2.1 y k fun z => hy2 z.1
      have hs81 : R_hs ρ w (q w ++ [(s, v w + 1, es)]) (v w + 1) M81 := by
        refine hs2.add hB2 ⟨by omega, by omega⟩ hgo1 hgo2 hdl hg e1 e2 e3 FP81 ?_ ?_ ?_ (fun k => ?_) (fun k => ?_) (fun k => ?_) d81 fun k hk => ?_
        · rw [n81 _ _ (ne (by decide) (by decide) (by decide))]
          exact k68
        · rw [n81 _ _ (ne (by decide) (by decide) (by decide))]
          exact k69
        · rw [n81 _ _ (ne (by decide) (by decide) (by decide))]
          exact k70
        · rw [n81 _ _ (ne (by decide) (by decide) (by decide))]
          exact k71 k
        · rw [n81 _ _ (ne (by decide) (by decide) (by decide))]
          exact k72 k
        · rw [n81 _ _ (ne (by decide) (by decide) (by decide))]
          exact k73 k
        · rw [f81.2.1 _ _ fun z => by have := z.2; omega, k0]
      have h81 := h2.hp hw FP81 hs81
      have hB81 := h81.1
      have nm81 : ∀ k, g_i M81 m k = g_i M2 m k := fun k => FP81.2.1 m k (R_hP_m hB2)
      have S81 : E_S m (ρ 0) (ρ 9) (g_i M81 (ρ 0)) M81 [] := by
        obtain ⟨a1, a2, a3, a4, a5, a6, a7⟩ := S2
        exact ⟨hB81.R, by rw [FP81.2.2]; exact a2, FP81.A a3, by rw [nm81]; exact a4, b_nil _ _, rfl, a7⟩
      have b81 : ∀ k, k < 2000 → g_i M81 (ρ 0) k = g_i M (ρ 0) k := fun k hk => by rw [f81.2.1 _ _ fun z => by have := z.2; omega, k0, hbk2]
      have K81 : E_k m M M81 := (f2.k (E_le_k hB ⟨rfl, Or.inl rfl⟩) (E_le_k hB ⟨rfl, Or.inr rfl⟩)).tr (FP81.k (R_hP_m hB2) (R_hP_m hB2))
      -- then its entries come
      have hlp2 : ∀ (r x : Nat) (M3 : g_M), x + r = 4 * w + 4 → 4 * w ≤ x → E_k m M M3 → (∀ k, k < 2000 → g_i M3 (ρ 0) k = g_i M (ρ 0) k) → E_S m (ρ 0) (ρ 9) (g_i M3 (ρ 0)) M3 [] → (g_i M3 m 40 = 0 ∨ g_i M3 m 40 = 1) → E_H m ρ (I_lp (I_add1 es (v w + 1)) w st x) (H_up q w (q w ++ [(s, v w + 1, es)])) (H_up v w (v w + 1)) M3 → g_Run (d + 72) 419 262 [(0, .ref m), (1, g_n c), (2, g_n w), (3, g_n ((b_doc es).length : Nat)), (4, g_n w0), (5, g_n 0), (6, g_n (q w).length), (7, g_n s), (8, g_n x)] [] M3 (g_qI Q) := by
        intro r
        induction r with
        | zero =>
          intro x M3 hr hx K3 b3 S3 c3 H3
          have hx4 : x = 4 * w + 4 := by omega
          subst hx4
          have hB3 := H3.1
          have hs3 : R_hs ρ w (H_up q w (q w ++ [(s, v w + 1, es)]) w) (H_up v w (v w + 1) w) M3 := H3.2.2.2.2 w hw
          have hq1 : H_up q w (q w ++ [(s, v w + 1, es)]) w = q w ++ [(s, v w + 1, es)] := if_pos rfl
          rw [hq1] at hs3
          have hnum := (hs3.2.2.1 (q w).length (s, v w + 1, es) (by rw [List.getElem?_append_right (Nat.le_refl _), Nat.sub_self]; rfl)).2.2.1
          have hnum : g_i M3 (ρ 72) (200 * w + (q w).length) = v w + 1 := hnum
          have h72' := hB3.at (k := 72) (by decide)
          have h72A' : g_A M3 (ρ 72) 1 400 := h72'.2
          refine s_X12_insert_262 hcR hwR ⟨by omega, by omega⟩ hw0R ⟨by decide, by decide⟩ ⟨by omega, by omega⟩ ⟨by omega, by omega⟩ ⟨by omega, by omega⟩ fun _ => ⟨⟨by omega, by omega⟩, ⟨by omega, by omega⟩, fun z => absurd z (by omega), fun _ => ⟨hB3.1, e_beginAnswer (d := d + 68) hB3.R fun M4 f4 W4 h77 => ?_⟩⟩
          intro _ _
          have nb4 : ∀ k, g_i M4 (ρ 72) k = g_i M3 (ρ 72) k := fun k => f4.2.1 _ _ fun z => by
            rcases z with ⟨z, -⟩ | ⟨z, -⟩
            · exact hB3.nm (k := 72) (by decide) z
            · exact hB3.ne (k := 72) (k2 := 0) (by decide) (by decide) (by decide) z
          refine ⟨ρ 72, by rw [f4.2.2]; exact h72'.1, ⟨by omega, by omega⟩, ⟨by omega, by omega⟩, 400, f4.A h72A', ⟨by omega, by omega⟩, ?_⟩
          rw [nb4, hnum]
          refine e_putNumber (d := d + 68) (j := 130) (by decide) W4 ⟨by omega, by omega⟩ fun M14 f14 W14 => ?_
          intro _ _
          refine e_endAnswer (d := d + 69) W14 ?_ fun M17 f17 W17 => ?_
          · have h77' : g_i M14 m 77 = g_i M4 m 77 := f14.2.1 m 77 fun z => by
              rcases z with ⟨-, z⟩ | ⟨z, -⟩
              · omega
              · exact hB3.nm (k := 0) (by decide) z.symm
            rw [h77']
            exact h77
          · have hfin := hy ⟨hgo1, hgo2, hgo3⟩ s M3 M17 K3 S3 c3 H3 (f4.tr ((f14.up fun y k z => A_L.w z).tr f17)) W17
            exact ⟨fun z => by
              intro _ _ _
              exact ⟨Or.inr rfl, hfin.1 z⟩, fun z => by
              intro _ _ _
              exact ⟨Or.inl rfl, hfin.2 z⟩⟩
        | succ r ih =>
          intro x M3 hr hx K3 b3 S3 c3 H3
          have hB3 := H3.1
          have hx8 : x < 8 := by omega
          have hix := H3.2.2.2.1 x hx8
          rw [I_lp_at] at hix
          obtain ⟨hth0, hth1⟩ := hix.there
          have h35' := hB3.at (k := 35) (by decide)
          have h35A' : g_A M3 (ρ 35) 2 8 := h35'.2
          refine s_X12_insert_262 hcR hwR ⟨by omega, by omega⟩ hw0R ⟨by decide, by decide⟩ ⟨by omega, by omega⟩ ⟨by omega, by omega⟩ ⟨by omega, by omega⟩ fun _ => ⟨⟨by omega, by omega⟩, ⟨by omega, by omega⟩, fun _ => ⟨hB3.1, ρ 35, h35'.1, 8, h35A', ⟨by omega, by omega⟩, ?_⟩, fun z => absurd (by omega) z⟩
          cases hst : st x with
          | none =>
            rw [hth0 hst]
            refine ⟨fun _ => ⟨⟨by omega, by omega⟩, ?_⟩, fun z => absurd rfl z⟩
            have h9 := ih (x + 1) M3 (by omega) (by omega) K3 b3 S3 c3 (by
              rw [I_lp_n hx (by rw [hst]; rfl)]
              exact H3)
            rwa [show ((x + 1 : Nat) : Int) = (x : Int) + 1 by omega] at h9
          | some t =>
            obtain ⟨V, T, m1, m2⟩ := t
            rw [(hth1 V T m1 m2 hst).1]
            obtain ⟨hvok, -, hcan⟩ := hok x hx (by omega) V T m1 m2 hst
            have hcan := hcan (hgo3 x hx (by omega) V T m1 m2 hst)
            have hct3 : E_ct (g_i M3 (ρ 0)) c 15 es := ⟨b_at_keep hct.1 fun k k1 k2 => b3 k (by omega), hct.2.1, hct.2.2.1, hct.2.2.2⟩
            refine ⟨fun z => absurd z (by decide), fun _ => e_mkX (d := d) (x := x) H3 S3 c3 hx8 (by rw [I_lp_at]; exact hst) hvok hct3 hdl (Nat.zero_le _) fun M28 f28 S28 c28 H28 => ?_⟩
            intro _ _
            have hB28 := H28.1
            have b28 : ∀ k, k < 2000 → g_i M28 (ρ 0) k = g_i M (ρ 0) k := fun k hk => by
              rw [f28.2.1 _ _ fun z => z.elim (E_le_n hB3 (by decide) (by decide)) fun z => hB3.ne (k := 0) (k2 := 39) (by decide) (by decide) (by decide) z.1]
              exact b3 k hk
            have hs28 : R_hs ρ w (H_up q w (q w ++ [(s, v w + 1, es)]) w) (H_up v w (v w + 1) w) M28 := H28.2.2.2.2 w hw
            have hq1 : H_up q w (q w ++ [(s, v w + 1, es)]) w = q w ++ [(s, v w + 1, es)] := if_pos rfl
            rw [hq1] at hs28
            have hnum := (hs28.2.2.1 (q w).length (s, v w + 1, es) (by rw [List.getElem?_append_right (Nat.le_refl _), Nat.sub_self]; rfl)).2.2.1
            have hnum : g_i M28 (ρ 72) (200 * w + (q w).length) = v w + 1 := hnum
            have h72' := hB28.at (k := 72) (by decide)
            have h72A' : g_A M28 (ρ 72) 1 400 := h72'.2
            refine ⟨ρ 72, h72'.1, ⟨by omega, by omega⟩, ⟨by omega, by omega⟩, 400, h72A', ⟨by omega, by omega⟩, ?_⟩
            rw [hnum]
            have hct28 : E_ct (g_i M28 (ρ 0)) c 15 es := ⟨b_at_keep hct.1 fun k k1 k2 => b28 k (by omega), hct.2.1, hct.2.2.1, hct.2.2.2⟩
            refine e_entX (d := d + 1) (x := x) H28 S28 c28 hx8 (if_pos rfl) hct28 hdl (Nat.zero_le _) (Or.inr rfl) ⟨fun z => absurd z (by decide), fun _ => hcan⟩ (by omega) ⟨by omega, by omega⟩ fun M38 f38 S38 c38 H38 => ?_
            intro _ _
            refine ⟨⟨by omega, by omega⟩, ?_⟩
            have h9 := ih (x + 1) M38 (by omega) (by omega) ((K3.tr (f28.k (R_MF_k hB3 (Or.inl rfl)) (R_MF_k hB3 (Or.inr rfl)))).tr (f38.k (R_EF_k hB28 (Or.inl rfl)) (R_EF_k hB28 (Or.inr rfl)))) (fun k hk => by
              rw [f38.2.1 _ _ fun z => by
                have := R_EF_b hB28.rw (hB28.ne (k := 9) (k2 := 0) (by decide) (by decide) (by decide)) z
                omega]
              exact b28 k hk) S38 c38 (by
              have e1 : I_lp (I_add1 es (v w + 1)) w st (x + 1) = I_up (I_up (I_lp (I_add1 es (v w + 1)) w st x) x (some (V, T, if 1 < (I_key1 V es).length then 1 else m1, if 1 < (I_key2 V es).length then 1 else m2))) x (some (V, I_io 1 V (I_ens V es (v w + 1)) T, if 1 < (I_key1 V es).length then 1 else m1, if 1 < (I_key2 V es).length then 1 else m2)) := by
                rw [I_lp_s _ _ _ hx, hst, I_io_1 (by decide)]
                funext y
                unfold I_up
                by_cases g : y = x
                · rw [if_pos g, if_pos g]
                  rfl
                · rw [if_neg g, if_neg g, if_neg g]
              rw [e1]
              exact H38)
            rwa [show ((x + 1 : Nat) : Int) = (x : Int) + 1 by omega] at h9
      refine ⟨⟨by omega, by omega⟩, ?_⟩
      have h9 := hlp2 4 (4 * w) M81 rfl (Nat.le_refl _) K81 b81 S81 (by rw [nm81]; exact h40) (by rw [I_lp_0]; exact h81)
      rwa [show ((4 * w : Nat) : Int) = 4 * (w : Int) by omega] at h9
    | succ r ih =>
      intro x M2 w0 hr hx f2 S2 hw0 h40 hiff
      have hw0R : g_InR w0 := by rcases hw0 with g | g <;> rw [g] <;> exact ⟨by decide, by decide⟩
      have hB2 := hB.fr f2
      have h2 := h.le f2
      have hx8 : x < 8 := by omega
      have hix := h2.2.2.2.1 x hx8
      obtain ⟨hth0, hth1⟩ := hix.there
      have hstep : I_fit es (st x) → ((base ∧ ∀ x2, 4 * w ≤ x2 → x2 < x → I_fit es (st x2)) ↔ (base ∧ ∀ x2, 4 * w ≤ x2 → x2 < x + 1 → I_fit es (st x2))) := fun hfx => by
        refine ⟨fun z => ⟨z.1, fun x2 e1 e2 => ?_⟩, fun z => ⟨z.1, fun x2 e1 e2 => z.2 x2 e1 (by omega)⟩⟩
        by_cases g : x2 = x
        · rw [g]
          exact hfx
        · exact z.2 x2 e1 (by omega)
      refine s_X12_insert_55 hcR hwR ⟨by omega, by omega⟩ hw0R ⟨by decide, by decide⟩ ⟨by omega, by omega⟩ fun _ => ⟨⟨by omega, by omega⟩, ⟨by omega, by omega⟩, fun _ => ⟨hB2.1, ρ 35, by rw [f2.2.2]; exact h35.1, 8, f2.A h35A, ⟨by omega, by omega⟩, ?_⟩, fun z => absurd (by omega) z⟩
      cases hst : st x with
      | none =>
        rw [hth0 hst]
        refine ⟨fun _ => ⟨⟨by omega, by omega⟩, ?_⟩, fun z => absurd rfl z⟩
        have h9 := ih (x + 1) M2 w0 (by omega) (by omega) f2 S2 hw0 h40 (hiff.trans (hstep (by rw [hst]; exact fun V T m1 m2 z => absurd z (by simp))))
        rwa [show ((x + 1 : Nat) : Int) = (x : Int) + 1 by omega] at h9
      | some t =>
        obtain ⟨V, T, m1, m2⟩ := t
        obtain ⟨k1, k2, k3⟩ := hth1 V T m1 m2 hst
        obtain ⟨hvok, hT1000, -⟩ := hok x hx (by omega) V T m1 m2 hst
        rw [k1]
        have hbk2 : ∀ k, g_i M2 (ρ 0) k = g_i M (ρ 0) k := fun k => f2.2.1 _ _ (E_le_n hB (by decide) (by decide))
        have hct2 : E_ct (g_i M2 (ρ 0)) c 15 es := ⟨b_at_keep hct.1 fun k k1 k2 => hbk2 k, hct.2.1, hct.2.2.1, hct.2.2.2⟩
        refine ⟨fun z => absurd z (by decide), fun _ => ⟨ρ 54, by rw [f2.2.2]; exact h54.1, 8, f2.A h54A, ⟨by omega, by omega⟩, e_entriesOf (d := d + 2) S2 k2 hct2 hdl h2.2.2.1 (Nat.zero_le _) h40 rfl fun M32 P1 P2 f32 _ S32 u1 u2 h4032 _ _ _ _ => ?_⟩⟩
        intro _ _ hPR
        obtain ⟨l1, l2⟩ := I_u_len1 (c := c) hvok hg
        have h4032 := h4032.trans (I_tl2_long (tl := g_i M2 m 40) (c := c) hvok hg)
        rw [k3]
        rw [l1, l2] at hPR ⊢
        obtain ⟨P, hP⟩ : ∃ P : Nat, P = (I_key1 V es).length * (I_key2 V es).length := ⟨_, rfl⟩
        rw [← hP] at hPR ⊢
        have hPub := hPR.2
        -- the leaves go
        have hafter : ∀ (M38 : g_M) (w1 : Int), M38 = g_wi M32 m 10 0 → (w1 = 0 ∨ w1 = 1) → ((w1 = 1) ↔ (w0 = 1 ∧ (N_all T).length + P ≤ 1000)) → g_InR ((x : Int) + 1) ∧ g_Run (d + 72) 419 55 [(0, .ref m), (1, g_n c), (2, g_n w), (3, g_n n), (4, g_n w1), (5, g_n 0), (6, g_n ((x : Int) + 1))] [] M38 (g_qI Q) := by
          intro M38 w1 e38 hw1 hwi
          refine ⟨⟨by omega, by omega⟩, ?_⟩
          obtain ⟨S38, f38⟩ := S32.cut0
          rw [← e38] at S38 f38
          have F38 := (f2.tr f32).tr f38
          have hb38 : g_i M38 (ρ 0) = g_i M2 (ρ 0) := S38.leF
          have h4038 : g_i M38 m 40 = if I_long V es = true then 1 else g_i M2 m 40 := by
            rw [e38, g_i_wi, if_neg (fun z => absurd z.2 (by decide))]
            exact h4032
          have S38' : E_S m (ρ 0) (ρ 9) (g_i M38 (ρ 0)) M38 [] := by
            rw [hb38]
            exact S38
          have h9 := ih (x + 1) M38 w1 (by omega) (by omega) F38 S38' hw1 (by
            rw [h4038]
            split
            · exact Or.inr rfl
            · exact h40) (by
            have hfx : I_fit es (st x) ↔ ((N_all T).length + P ≤ 1000 ∧ I_long V es = false) := by
              rw [hst]
              unfold I_fit I_num
              constructor
              · intro z
                have := z V T m1 m2 rfl
                rw [← hP] at this
                by_cases g : I_long V es = true
                · rw [if_pos g] at this
                  omega
                · rw [if_neg g] at this
                  exact ⟨this, by
                    cases hI : I_long V es
                    · rfl
                    · exact absurd hI g⟩
              · rintro ⟨z1, z2⟩ V' T' m1' m2' e
                cases e
                rw [if_neg (by rw [z2]; decide), ← hP]
                exact z1
            rw [h4038]
            constructor
            · rintro ⟨z1, z2⟩
              obtain ⟨z3, z4⟩ := hwi.mp z1
              by_cases g : I_long V es = true
              · rw [if_pos g] at z2
                exact absurd z2 (by decide)
              · rw [if_neg g] at z2
                have hf := hfx.mpr ⟨z4, by
                  cases hI : I_long V es
                  · rfl
                  · exact absurd hI g⟩
                exact (hstep hf).mp (hiff.mp ⟨z3, z2⟩)
            · intro z
              have hf := z.2 x hx (by omega)
              obtain ⟨z1, z2⟩ := hiff.mpr ((hstep hf).mpr z)
              obtain ⟨z3, z4⟩ := hfx.mp hf
              refine ⟨hwi.mpr ⟨z1, z3⟩, ?_⟩
              rw [if_neg (by rw [z4]; decide)]
              exact z2)
          rwa [show ((x + 1 : Nat) : Int) = (x : Int) + 1 by omega] at h9
        have hPb : (P : Int) ≤ 2000000000 := by
          have h1 : (I_key1 V es).length ≤ 14001 := by rw [← l1]; exact u1
          have h2 : (I_key2 V es).length ≤ 14001 := by rw [← l2]; exact u2
          have := Nat.mul_le_mul h1 h2
          rw [← hP] at this
          omega
        refine ⟨⟨by omega, by omega⟩, fun z M38 e38 _ => hafter M38 _ e38 (Or.inl (g_and_0 hw0)) ?_, fun z M38 e38 _ => hafter M38 _ e38 (by rw [g_and_1 hw0]; exact hw0) ?_⟩
        · rw [g_and_0 hw0]
          exact ⟨fun z2 => absurd z2 (by decide), fun z2 => by omega⟩
        · rw [g_and_1 hw0]
          exact ⟨fun z2 => ⟨z2, by omega⟩, fun z2 => z2.1⟩
  -- how long it is, and whether there is room
  refine m_X12_insert (d := d + 72) hcR hwR fun _ => ⟨hR.1, e_int4 (d := d + 70) hR hct.2.1 (by omega) ?_⟩
  intro _ _ _
  rw [e_w4doc hct.1 (by omega), ← hnn]
  have h37 : ∀ w0 : Int, (w0 = 0 ∨ w0 = 1) → ((w0 = 1) ↔ base) → g_Run (d + 72) 419 37 [(0, .ref m), (1, g_n c), (2, g_n w), (3, g_n n)] [g_n w0] M (g_qI Q) := by
    intro w0 hw0 hwb
    have hw0R : g_InR w0 := by rcases hw0 with g | g <;> rw [g] <;> exact ⟨by decide, by decide⟩
    refine s_X12_insert_37 hcR hwR ⟨by omega, by omega⟩ hw0R fun _ => ⟨hR.1, fun M2 e2 _ => ⟨⟨by omega, by omega⟩, ?_⟩⟩
    obtain ⟨S2, f2⟩ := hS.le (k := 40) rfl (vv := 0)
    rw [← e2] at S2 f2
    have h4 : g_i M m 10 = 0 := hS.2.2.2.1
    rw [h4]
    have hb2 : g_i M2 (ρ 0) = g_i M (ρ 0) := S2.leF
    have h402 : g_i M2 m 40 = 0 := by rw [e2, g_i_wi, if_pos ⟨rfl, rfl⟩]
    have h9 := hlp 4 (4 * w) M2 w0 rfl (Nat.le_refl _) f2 (by rw [hb2]; exact S2) hw0 (Or.inl h402) (by
      constructor
      · rintro ⟨z1, -⟩
        exact ⟨hwb.mp z1, fun x2 e1 e2 => absurd e2 (by omega)⟩
      · rintro ⟨z1, -⟩
        exact ⟨hwb.mpr z1, h402⟩)
    rwa [show ((4 * w : Nat) : Int) = 4 * (w : Int) by omega] at h9
  refine ⟨ρ 68, h68.1, 2, h68A, ⟨by omega, by omega⟩, ?_⟩
  rw [s2]
  refine ⟨fun z => ⟨ρ 69, h69.1, 2, h69A, ⟨by omega, by omega⟩, ?_⟩, fun z => h37 0 (Or.inl rfl) ⟨fun z2 => absurd z2 (by decide), fun z2 => by rw [hbase] at z2; omega⟩⟩
  rw [s3]
  refine ⟨⟨by omega, by omega⟩, fun z2 => h37 0 (Or.inl rfl) ⟨fun z3 => absurd z3 (by decide), fun z3 => by rw [hbase] at z3; omega⟩, fun z2 => h37 1 (Or.inr rfl) ⟨fun _ => by rw [hbase]; exact ⟨by omega, by omega⟩, fun _ => rfl⟩⟩
end EINS2
