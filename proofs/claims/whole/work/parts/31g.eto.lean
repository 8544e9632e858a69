/-! REQUESTS, THE REFERENCE: documents are taken out, all -/
def R_t1 (m : Nat) (ρ : Nat → Nat) (w : Nat) (y : Nat) (k : Int) : Prop := (∃ x : Nat, x < 8 ∧ R_EF m (ρ 0) (ρ 9) ρ x y k) ∨ (y = ρ 69 ∧ k = w) ∨ (y = ρ 73 ∧ 200 * (w : Int) ≤ k ∧ k < 200 * w + 200)
def R_t2 (m : Nat) (ρ : Nat → Nat) (w : Nat) (y : Nat) (k : Int) : Prop := ((y = ρ 71 ∨ y = ρ 72) ∧ 200 * (w : Int) ≤ k ∧ k < 200 * w + 200) ∨ (y = ρ 68 ∧ k = w) ∨ (y = m ∧ (k = 4 ∨ k = 5 ∨ k = 6))
theorem S_sum_sub {A B : List (List b_E)} (h : A.Sublist B) : S_sum A ≤ S_sum B := by
  induction h with
  | slnil => exact Nat.le_refl _
  | cons a _ ih => rw [S_sum_c]; omega
  | cons_cons a _ ih => rw [S_sum_c, S_sum_c]; omega
section ETO
variable {m d : Nat} {ρ : Nat → Nat} {M M1 : g_M} {st : Nat → I_T} {q : Nat → List (Nat × Int × List b_E)} {v : Nat → Int}
theorem R_t1_n (h : E_bk m ρ M) {w k : Nat} (hk : k ∈ E_bf) (h1 : k ≠ 9) (h2 : k ≠ 0) (h3 : k ≠ 69) (h4 : k ≠ 73) (hf : k ∉ R_fs) {j : Int} : ¬ R_t1 m ρ w (ρ k) j := by
  rintro (⟨x, -, z⟩ | ⟨z, -⟩ | ⟨z, -⟩)
  · exact R_EF_n h.rw (h.ne hk (by decide) h1) (h.nm hk) (h.ne hk (by decide) h2) (fun k2 hk2 => h.ne hk (E_fs_bf k2 hk2).1 fun z => hf (z ▸ hk2)) z
  · exact h.ne hk (by decide) h3 z
  · exact h.ne hk (by decide) h4 z
theorem R_t1_b (h : E_bk m ρ M) {w : Nat} {j : Int} (g : R_t1 m ρ w (ρ 0) j) : 1014000 ≤ j ∧ j < 2598000 := by
  rcases g with ⟨x, hx, z⟩ | ⟨z, -⟩ | ⟨z, -⟩
  · have := R_EF_b h.rw (h.ne (by decide) (by decide) (by decide)) z
    omega
  · exact absurd z (h.ne (by decide) (by decide) (by decide))
  · exact absurd z (h.ne (by decide) (by decide) (by decide))
theorem R_t1_m (h : E_bk m ρ M) {w : Nat} {j : Int} (g : R_t1 m ρ w m j) : (j = 10 ∨ j = 40 ∨ j = 41 ∨ j = 42 ∨ j = 43 ∨ j = 44) ∨ j = 4 ∨ j = 5 ∨ j = 6 ∨ j = 47 ∨ j = 55 ∨ j = 56 := by
  rcases g with ⟨x, hx, z⟩ | ⟨z, -⟩ | ⟨z, -⟩
  · exact R_EF_m h.rw (h.at (k := 9) (by decide)).2 z
  · exact absurd z.symm (h.nm (by decide))
  · exact absurd z.symm (h.nm (by decide))
theorem e_takeOut {Q : g_M → Prop} {w : Nat} {zs : List Q_z} (h : E_H m ρ st q v M) (hS : E_S m (ρ 0) (ρ 9) (g_i M (ρ 0)) M []) (h40 : g_i M m 40 = 0 ∨ g_i M m 40 = 1) (hw : w < 2) (hzs : q w = zs.map fun z => z.2) (hmt : ∀ (i : Nat) (z : Q_z), zs[i]? = some z → g_i M (ρ 74) i = if z.1 = true then 1 else 0) (hgd : H_gd (R_dn (q w))) (h0n : ∀ z ∈ q w, 0 ≤ z.2.1) (hok : ∀ x, 4 * w ≤ x → x < 4 * w + 4 → ∀ V T m1 m2, st x = some (V, T, m1, m2) → I_ok V (R_dn (q w)) T) (hw4 : g_InR (g_i M m 4)) (hw5 : g_InR (g_i M m 5)) (hq : ∀ M1, E_k m M M1 → E_S m (ρ 0) (ρ 9) (g_i M1 (ρ 0)) M1 [] → (g_i M1 m 40 = 0 ∨ g_i M1 m 40 = 1) → E_H m ρ (I_lp (I_rem (Q_3 zs)) w st (4 * w + 4)) (H_up q w (Q_k zs)) v M1 → g_i M1 m 4 = g_i M m 4 → g_i M1 m 5 = g_i M m 5 → g_i M1 m 6 = 0 → g_i M1 m 77 = g_i M m 77 → (∀ k, 2598000 ≤ k → g_i M1 (ρ 0) k = g_i M (ρ 0) k) → Q M1) : g_Call (d + 73) 418 [.ref m, g_n w] M (g_qV Q) := by
  have hB := h.1
  have hs := h.2.2.2.2 w hw
  obtain ⟨⟨s1, s2, s3, s4⟩, s5, s6, s7, s8⟩ := id hs
  have hwR : g_InR (w : Int) := ⟨by omega, by omega⟩
  have hlz : (q w).length = zs.length := by rw [hzs, List.length_map]
  have hl200 := s8.1
  rw [List.length_map] at hl200
  have hat : ∀ (i : Nat) (z : Q_z), zs[i]? = some z → (200 * w ≤ z.2.1 ∧ z.2.1 < 200 * w + 200) ∧ g_i M (ρ 71) (200 * w + i) = z.2.1 ∧ g_i M (ρ 72) (200 * w + i) = z.2.2.1 ∧ g_InR z.2.2.1 ∧ b_at (g_i M (ρ 0)) (2000 + 2000 * (z.2.1 : Int)) (b_doc z.2.2.2) := fun i z hi => s6 i z.2 (by rw [hzs, List.getElem?_map, hi]; rfl)
  have hdoc : ∀ z ∈ zs, (b_doc z.2.2.2).length ≤ 2000 ∧ X_gd 15 z.2.2.2 := fun z hz => s8.2.2 z.2.2.2 (List.mem_map.mpr ⟨z.2, by rw [hzs]; exact List.mem_map.mpr ⟨z, hz, rfl⟩, rfl⟩)
  have hcgo : ∀ x, 4 * w ≤ x → x < 4 * w + 4 → ∀ V T m1 m2, st x = some (V, T, m1, m2) → I_vok V ∧ N_good (I_c V.1 V.2.1) T ∧ I_cgo V T (I_mk V (Q_3 zs)) := fun x e1 e2 V T m1 m2 e => by
    have h1 := hok x e1 e2 V T m1 m2 e
    rw [hzs, ← Q_3_dn] at h1
    rw [hzs, ← Q_3_dn] at hgd
    exact ⟨h1.1, h1.2.1, (h1.out hgd).1⟩
  have b35 := hB.at (k := 35) (by decide)
  have b35A : g_A M (ρ 35) 2 8 := b35.2
  have b68 := hB.at (k := 68) (by decide)
  have b68A : g_A M (ρ 68) 1 2 := b68.2
  have b69 := hB.at (k := 69) (by decide)
  have b69A : g_A M (ρ 69) 1 2 := b69.2
  have b71 := hB.at (k := 71) (by decide)
  have b71A : g_A M (ρ 71) 1 400 := b71.2
  have b72 := hB.at (k := 72) (by decide)
  have b72A : g_A M (ρ 72) 1 400 := b72.2
  have b73 := hB.at (k := 73) (by decide)
  have b73A : g_A M (ρ 73) 2 400 := b73.2
  have b74 := hB.at (k := 74) (by decide)
  have b74A : g_A M (ρ 74) 2 200 := b74.2
  obtain ⟨u4, hu4⟩ : ∃ u4 : Int, u4 = g_i M m 4 := ⟨_, rfl⟩
  obtain ⟨u5, hu5⟩ : ∃ u5 : Int, u5 = g_i M m 5 := ⟨_, rfl⟩
  have ne : ∀ {i j : Nat}, i ∈ E_bf → j ∈ E_bf → i ≠ j → ρ i ≠ ρ j := fun h1 h2 h3 => hB.ne h1 h2 h3
  have hnd : (zs.map fun z => z.2.1).Nodup := by
    have : (q w).map (fun z => z.1) = zs.map fun z => z.2.1 := by rw [hzs, List.map_map]; rfl
    rw [← this]
    exact s5
  have hsumz : S_sum ((q w).map fun z => z.2.2) = S_sum (zs.map fun z => z.2.2.2) := by rw [hzs, List.map_map]; rfl
  -- the rest closes up
  have hlp2 : ∀ (B A : List Q_z) (M0 M' : g_M), zs = A ++ B → e_fr (R_t1 m ρ w) M M0 → e_fr (R_t2 m ρ w) M0 M' → E_S m (ρ 0) (ρ 9) (g_i M0 (ρ 0)) M0 [] → (g_i M0 m 40 = 0 ∨ g_i M0 m 40 = 1) → E_H0 m ρ (I_lp (I_rem (Q_3 zs)) w st (4 * w + 4)) M0 → g_i M0 (ρ 69) w = S_sum ((Q_k zs).map fun z => z.2.2) → (∀ s : Nat, 200 * w ≤ s → s < 200 * w + 200 → g_i M0 (ρ 73) s = if s ∈ (Q_k zs).map (fun z => z.1) then 1 else 0) → g_i M' (ρ 68) w = zs.length → (∀ k, g_i M' m k = g_i M0 m k) → (∀ (i : Nat) (z : Nat × Int × List b_E), (Q_k A)[i]? = some z → g_i M' (ρ 71) (200 * w + i) = z.1 ∧ g_i M' (ρ 72) (200 * w + i) = z.2.1) → (∀ i : Nat, A.length ≤ i → g_i M' (ρ 71) (200 * w + i) = g_i M (ρ 71) (200 * w + i) ∧ g_i M' (ρ 72) (200 * w + i) = g_i M (ρ 72) (200 * w + i)) → g_Run (d + 72) 418 146 [(0, .ref m), (1, g_n w), (2, g_n u4), (3, g_n u5), (4, g_n (Q_k A).length), (5, g_n A.length)] [] M' (g_qV Q) := by
    intro B
    induction B with
    | nil =>
      intro A M0 M' hz f0 f1 S0 c0 H0 t69 t73 t68 tm t7 t8
      rw [List.append_nil] at hz
      subst hz
      have hB0 := H0.1
      have hB' := hB0.fr f1
      have hkl : (Q_k zs).length ≤ zs.length := by
        unfold Q_k
        rw [List.length_map]
        exact List.length_filter_le _ _
      have b68' := hB'.at (k := 68) (by decide)
      have b68A' : g_A M' (ρ 68) 1 2 := b68'.2
      refine s_X12_takeOut_146 hwR (by rw [hu4]; exact hw4) (by rw [hu5]; exact hw5) ⟨by omega, by omega⟩ ⟨by omega, by omega⟩ fun _ => ⟨hB'.1, ρ 68, b68'.1, 2, b68A', ⟨by omega, by omega⟩, fun z => absurd z (by rw [t68]; omega), fun _ => ⟨ρ 68, b68'.1, 2, b68A', ⟨by omega, by omega⟩, ?_⟩⟩
      rintro M12 e12 _ M16 e16 _ M20 e20 _ M24 e24 _
      have hm68 : m ≠ ρ 68 := fun z => hB.nm (k := 68) (by decide) z.symm
      have g12 : ∀ (y : Nat) (k : Int), y ≠ ρ 68 → g_i M12 y k = g_i M' y k := fun y k h1 => by rw [e12, g_i_wi, if_neg fun z => h1 z.1]
      have g24 : ∀ (y : Nat) (k : Int), y ≠ m → g_i M24 y k = g_i M12 y k := fun y k h1 => by rw [e24, g_i_wi, if_neg fun z => h1 z.1, e20, g_i_wi, if_neg fun z => h1 z.1, e16, g_i_wi, if_neg fun z => h1 z.1]
      have f24 : e_fr (R_t2 m ρ w) M' M24 := by
        rw [e24, e20, e16, e12]
        exact (((e_fr.wi _ (Or.inr (Or.inl ⟨rfl, rfl⟩))).tr (e_fr.wi _ (Or.inr (Or.inr ⟨rfl, by omega⟩)))).tr (e_fr.wi _ (Or.inr (Or.inr ⟨rfl, by omega⟩)))).tr (e_fr.wi _ (Or.inr (Or.inr ⟨rfl, by omega⟩)))
      have F24 := f1.tr f24
      have n2 : ∀ {k : Nat} {j : Int}, k ∈ E_bf → k ≠ 68 → k ≠ 71 → k ≠ 72 → ¬ R_t2 m ρ w (ρ k) j := fun hk h1 h2 h3 z => by
        rcases z with ⟨z | z, -⟩ | ⟨z, -⟩ | ⟨z, -⟩
        · exact ne hk (by decide) h2 z
        · exact ne hk (by decide) h3 z
        · exact ne hk (by decide) h1 z
        · exact hB.nm hk z
      have n2m : ∀ {j : Int}, j ≠ 4 → j ≠ 5 → j ≠ 6 → ¬ R_t2 m ρ w m j := fun h1 h2 h3 z => by
        rcases z with ⟨z | z, -⟩ | ⟨z, -⟩ | ⟨-, z⟩
        · exact hB.nm (by decide) z.symm
        · exact hB.nm (by decide) z.symm
        · exact hB.nm (by decide) z.symm
        · omega
      have hm24 : ∀ j, j ≠ 4 → j ≠ 5 → j ≠ 6 → g_i M24 m j = g_i M0 m j := fun j h1 h2 h3 => F24.2.1 m j (n2m h1 h2 h3)
      have hb24 : ∀ j, g_i M24 (ρ 0) j = g_i M0 (ρ 0) j := fun j => F24.2.1 _ j (n2 (by decide) (by decide) (by decide) (by decide))
      have H24 : E_H0 m ρ (I_lp (I_rem (Q_3 zs)) w st (4 * w + 4)) M24 := H0.fr F24 (fun x hx y k z g => by
        rcases g with g | g | g
        · exact R_hP_xP hB hw z (Or.inr (Or.inl ⟨g.1.elim Or.inl fun e => Or.inr (Or.inl e), g.2⟩))
        · exact R_hP_xP hB hw z (Or.inl ⟨Or.inl g.1, g.2⟩)
        · obtain ⟨j, hj, -, e, -⟩ := R_xP_k z
          exact hB.nm hj (e.symm.trans g.1)) (n2m (by decide) (by decide) (by decide)) fun k _ => n2 (by decide) (by decide) (by decide) (by decide)
      have K24 : E_k m M M24 := (f0.k (fun z => by have := R_t1_m hB z; omega) (fun z => by have := R_t1_m hB z; omega)).tr (F24.k (n2m (by decide) (by decide) (by decide)) (n2m (by decide) (by decide) (by decide)))
      refine hq M24 K24 ?_ (by rw [hm24 40 (by decide) (by decide) (by decide)]; exact c0) (H24.with fun w2 hw2 => ?_) ?_ ?_ ?_ ?_ fun k hk => ?_
      · obtain ⟨a1, a2, a3, a4, a5, a6, a7⟩ := S0
        exact ⟨F24.R a1, by rw [F24.2.2]; exact a2, F24.A a3, by rw [hm24 10 (by decide) (by decide) (by decide)]; exact a4, b_nil _ _, rfl, a7⟩
      · unfold H_up
        by_cases g : w2 = w
        · subst g
          rw [if_pos rfl]
          have hbk : ∀ j, j < 1014000 → g_i M24 (ρ 0) j = g_i M (ρ 0) j := fun j hj => by
            rw [hb24, f0.2.1 _ j fun z => by have := R_t1_b hB z; omega]
          have hmem : ∀ (i : Nat) (z : Nat × Int × List b_E), (Q_k zs)[i]? = some z → ∃ i2 : Nat, ∃ zz : Q_z, zs[i2]? = some zz ∧ zz.2 = z := fun i z hi => by
            obtain ⟨zz, hzz, e⟩ := List.mem_map.mp (List.mem_of_getElem? hi)
            obtain ⟨i2, hi2⟩ := List.mem_iff_getElem?.mp (List.mem_filter.mp hzz).1
            exact ⟨i2, zz, hi2, e⟩
          have hsub : (Q_k zs).Sublist (zs.map fun z => z.2) := List.filter_sublist.map _
          refine ⟨⟨hw2, ?_, ?_, ?_⟩, ?_, fun i z hi => ?_, fun s e1 e2 => ?_, ?_⟩
          · rw [g24 _ _ hm68.symm, e12, g_i_wi, if_pos ⟨rfl, rfl⟩]
          · rw [g24 _ _ (hB.nm (by decide)), g12 _ _ (ne (by decide) (by decide) (by decide)), f1.2.1 _ _ (n2 (by decide) (by decide) (by decide) (by decide))]
            exact t69
          · rw [g24 _ _ (hB.nm (by decide)), g12 _ _ (ne (by decide) (by decide) (by decide)), f1.2.1 _ _ (n2 (by decide) (by decide) (by decide) (by decide)), f0.2.1 _ _ (R_t1_n hB (by decide) (by decide) (by decide) (by decide) (by decide) (by decide))]
            exact s4
          · have h9 : ((Q_k zs).map fun z => z.1).Sublist (zs.map fun z => z.2.1) := by
              have := hsub.map fun z : Nat × Int × List b_E => z.1
              rwa [List.map_map] at this
            exact h9.nodup hnd
          · obtain ⟨i2, zz, h1, h2⟩ := hmem i z hi
            obtain ⟨k1, -, -, k4, k5⟩ := hat i2 zz h1
            rw [h2] at k1 k4 k5
            obtain ⟨t1, t2⟩ := t7 i z hi
            have hzl := (hdoc zz (List.mem_of_getElem? h1)).1
            rw [h2] at hzl
            refine ⟨k1, ?_, ?_, k4, b_at_keep k5 fun j j1 j2 => hbk j (by omega)⟩
            · rw [g24 _ _ (hB.nm (by decide)), g12 _ _ (ne (by decide) (by decide) (by decide))]
              exact t1
            · rw [g24 _ _ (hB.nm (by decide)), g12 _ _ (ne (by decide) (by decide) (by decide))]
              exact t2
          · rw [g24 _ _ (hB.nm (by decide)), g12 _ _ (ne (by decide) (by decide) (by decide)), f1.2.1 _ _ (n2 (by decide) (by decide) (by decide) (by decide))]
            exact t73 s e1 e2
          · obtain ⟨o1, o2, o3⟩ := s8
            have hsub2 : ((Q_k zs).map fun z => z.2.2).Sublist (zs.map fun z => z.2.2.2) := by
              have := hsub.map fun z : Nat × Int × List b_E => z.2.2
              rwa [List.map_map] at this
            rw [hsumz] at o2
            refine ⟨by rw [List.length_map]; omega, ?_, fun es he => ?_⟩
            · have : S_sum ((Q_k zs).map fun z => z.2.2) ≤ S_sum (zs.map fun z => z.2.2.2) := S_sum_sub hsub2
              omega
            · have hq2 : (q w2).map (fun z => z.2.2) = zs.map fun z => z.2.2.2 := by rw [hzs, List.map_map]; rfl
              rw [hq2] at o3
              exact o3 es (hsub2.subset he)
        · rw [if_neg g]
          have hs2 := h.2.2.2.2 w2 hw2
          refine (hs2.fr f0 fun y k z g2 => ?_).fr F24 fun y k z g2 => ?_
          · rcases g2 with ⟨x, -, g2⟩ | ⟨g2, g3⟩ | ⟨g2, g3⟩
            · exact R_hP_EF hB hw2 z g2
            · exact R_hP_hP hB g z (Or.inl ⟨Or.inr (Or.inl g2), g3⟩)
            · exact R_hP_hP hB g z (Or.inr (Or.inl ⟨Or.inr (Or.inr g2), g3⟩))
          · rcases g2 with ⟨g2, g3⟩ | ⟨g2, g3⟩ | ⟨g2, g3⟩
            · exact R_hP_hP hB g z (Or.inr (Or.inl ⟨g2.elim Or.inl fun e => Or.inr (Or.inl e), g3⟩))
            · exact R_hP_hP hB g z (Or.inl ⟨Or.inl g2, g3⟩)
            · subst g2
              exact R_hP_m hB z
      · rw [e24, g_i_wi, if_neg (fun z => absurd z.2 (by decide)), e20, g_i_wi, if_neg (fun z => absurd z.2 (by decide)), e16, g_i_wi, if_pos ⟨rfl, rfl⟩, hu4]
      · rw [e24, g_i_wi, if_neg (fun z => absurd z.2 (by decide)), e20, g_i_wi, if_pos ⟨rfl, rfl⟩, hu5]
      · rw [e24, g_i_wi, if_pos ⟨rfl, rfl⟩]
      · rw [hm24 77 (by decide) (by decide) (by decide), f0.2.1 m 77 fun z => by have := R_t1_m hB z; omega]
      · rw [hb24, f0.2.1 _ k fun z => by have := R_t1_b hB z; omega]
    | cons z B ih =>
      intro A M0 M' hz f0 f1 S0 c0 H0 t69 t73 t68 tm t7 t8
      have hll := congrArg List.length hz
      rw [List.length_append, List.length_cons] at hll
      have hB0 := H0.1
      have hB' := hB0.fr f1
      have hkA : (Q_k A).length ≤ A.length := by
        unfold Q_k
        rw [List.length_map]
        exact List.length_filter_le _ _
      have hzi : zs[A.length]? = some z := by
        rw [hz, List.getElem?_append_right (Nat.le_refl _), Nat.sub_self]
        rfl
      have n2 : ∀ {k : Nat} {j : Int}, k ∈ E_bf → k ≠ 68 → k ≠ 71 → k ≠ 72 → ¬ R_t2 m ρ w (ρ k) j := fun hk h1 h2 h3 z => by
        rcases z with ⟨z | z, -⟩ | ⟨z, -⟩ | ⟨z, -⟩
        · exact ne hk (by decide) h2 z
        · exact ne hk (by decide) h3 z
        · exact ne hk (by decide) h1 z
        · exact hB.nm hk z
      have hmz : g_i M' (ρ 74) A.length = if z.1 = true then 1 else 0 := by
        rw [f1.2.1 _ _ (n2 (by decide) (by decide) (by decide) (by decide)), f0.2.1 _ _ (R_t1_n hB (by decide) (by decide) (by decide) (by decide) (by decide) (by decide))]
        exact hmt _ z hzi
      obtain ⟨k1, k2, k3, k4, k5⟩ := hat _ z hzi
      obtain ⟨t81, t82⟩ := t8 A.length (Nat.le_refl _)
      rw [k2] at t81
      rw [k3] at t82
      have hA1 : ((A ++ [z]).length : Int) = (A.length : Int) + 1 := by rw [List.length_append, List.length_singleton]; omega
      have hzA : zs = (A ++ [z]) ++ B := by rw [hz]; simp
      have hK1 := Q_k_app A [z]
      rw [Q_k_1] at hK1
      have b68' := hB'.at (k := 68) (by decide)
      have b68A' : g_A M' (ρ 68) 1 2 := b68'.2
      have b71' := hB'.at (k := 71) (by decide)
      have b71A' : g_A M' (ρ 71) 1 400 := b71'.2
      have b72' := hB'.at (k := 72) (by decide)
      have b72A' : g_A M' (ρ 72) 1 400 := b72'.2
      have b74' := hB'.at (k := 74) (by decide)
      have b74A' : g_A M' (ρ 74) 2 200 := b74'.2
      refine s_X12_takeOut_146 hwR (by rw [hu4]; exact hw4) (by rw [hu5]; exact hw5) ⟨by omega, by omega⟩ ⟨by omega, by omega⟩ fun _ => ⟨hB'.1, ρ 68, b68'.1, 2, b68A', ⟨by omega, by omega⟩, fun _ => ⟨ρ 74, b74'.1, 200, b74A', ⟨by omega, by omega⟩, ?_⟩, fun z => absurd (by rw [t68]; omega) z⟩
      rw [hmz]
      by_cases g : z.1 = true
      · rw [if_pos g]
        rw [if_pos g, List.append_nil] at hK1
        refine ⟨fun z => absurd z (by decide), fun _ => ⟨⟨by omega, by omega⟩, ?_⟩⟩
        have h9 := ih (A ++ [z]) M0 M' hzA f0 f1 S0 c0 H0 t69 t73 t68 tm (by rw [hK1]; exact t7) fun i hi => t8 i (by rw [List.length_append] at hi; omega)
        rw [hA1, hK1] at h9
        exact h9
      · rw [if_neg g]
        rw [if_neg g] at hK1
        refine ⟨fun _ => ⟨ρ 71, b71'.1, ⟨by omega, by omega⟩, ⟨by omega, by omega⟩, ρ 71, b71'.1, ⟨by omega, by omega⟩, ⟨by omega, by omega⟩, 400, b71A', ⟨by omega, by omega⟩, 400, b71A', ⟨by omega, by omega⟩, ?_⟩, fun z => absurd rfl z⟩
        rw [t81]
        rintro M47 e47 _
        have f47 : e_fr (R_t2 m ρ w) M' M47 := by rw [e47]; exact e_fr.wi _ (Or.inl ⟨Or.inl rfl, by omega, by omega⟩)
        have h7247 : ∀ j, g_i M47 (ρ 72) j = g_i M' (ρ 72) j := fun j => by rw [e47, g_i_wi, if_neg (fun z => ne (by decide) (by decide) (by decide) z.1)]
        refine ⟨ρ 72, by rw [f47.2.2]; exact b72'.1, ⟨by omega, by omega⟩, ⟨by omega, by omega⟩, ρ 72, by rw [f47.2.2]; exact b72'.1, ⟨by omega, by omega⟩, ⟨by omega, by omega⟩, 400, f47.A b72A', ⟨by omega, by omega⟩, 400, f47.A b72A', ⟨by omega, by omega⟩, ?_⟩
        rw [h7247, t82]
        rintro M65 e65 _
        have f65 : e_fr (R_t2 m ρ w) M47 M65 := by rw [e65]; exact e_fr.wi _ (Or.inl ⟨Or.inr rfl, by omega, by omega⟩)
        have F65 := f1.tr (f47.tr f65)
        refine ⟨⟨by omega, by omega⟩, ⟨by omega, by omega⟩, ?_⟩
        have v71 : ∀ j, g_i M65 (ρ 71) j = if j = 200 * w + (Q_k A).length then (z.2.1 : Int) else g_i M' (ρ 71) j := fun j => by
          rw [e65, g_i_wi, if_neg (fun z => ne (by decide) (by decide) (by decide) z.1), e47, g_i_wi]
          by_cases g : j = 200 * w + (Q_k A).length
          · rw [if_pos ⟨rfl, g⟩, if_pos g]
          · rw [if_neg (fun z => g z.2), if_neg g]
        have v72 : ∀ j, g_i M65 (ρ 72) j = if j = 200 * w + (Q_k A).length then z.2.2.1 else g_i M' (ρ 72) j := fun j => by
          rw [e65, g_i_wi]
          by_cases g : j = 200 * w + (Q_k A).length
          · rw [if_pos ⟨rfl, g⟩, if_pos g]
          · rw [if_neg (fun z => g z.2), if_neg g, h7247]
        have h9 := ih (A ++ [z]) M0 M65 hzA f0 F65 S0 c0 H0 t69 t73 (by
          rw [e65, g_i_wi, if_neg (fun z => ne (by decide) (by decide) (by decide) z.1), e47, g_i_wi, if_neg (fun z => ne (by decide) (by decide) (by decide) z.1)]
          exact t68) (fun k => by
          rw [e65, g_i_wi, if_neg (fun z => hB.nm (by decide) z.1.symm), e47, g_i_wi, if_neg (fun z => hB.nm (by decide) z.1.symm)]
          exact tm k) (fun i u hi => by
          rw [hK1] at hi
          rw [v71, v72]
          by_cases gi : i < (Q_k A).length
          · rw [List.getElem?_append_left gi] at hi
            rw [if_neg (by omega), if_neg (by omega)]
            exact t7 i u hi
          · rw [List.getElem?_append_right (by omega)] at hi
            have hi0 := (List.getElem?_eq_some_iff.mp hi).1
            rw [List.length_singleton] at hi0
            have hi1 : i = (Q_k A).length := by omega
            rw [hi1, Nat.sub_self] at hi
            have hi : z.2 = u := Option.some.inj hi
            rw [if_pos (by omega), if_pos (by omega), ← hi]
            exact ⟨rfl, rfl⟩) fun i hi => by
          rw [List.length_append, List.length_singleton] at hi
          rw [v71, v72, if_neg (by omega), if_neg (by omega)]
          exact t8 i (by omega)
        rw [hA1, hK1, List.length_append, List.length_singleton] at h9
        exact h9
  -- the entries of the marked ones go
  have hlp1 : ∀ (B A : List Q_z) (M' : g_M), zs = A ++ B → e_fr (R_t1 m ρ w) M M' → E_S m (ρ 0) (ρ 9) (g_i M' (ρ 0)) M' [] → (g_i M' m 40 = 0 ∨ g_i M' m 40 = 1) → E_H0 m ρ (I_lp (I_rem (Q_3 A)) w st (4 * w + 4)) M' → g_i M' (ρ 69) w = (S_sum ((Q_k A).map fun z => z.2.2) + S_sum (B.map fun z => z.2.2.2) : Nat) → (∀ s : Nat, 200 * w ≤ s → s < 200 * w + 200 → g_i M' (ρ 73) s = if s ∈ (Q_k A).map (fun z => z.1) ++ B.map (fun z => z.2.1) then 1 else 0) → g_Run (d + 72) 418 13 [(0, .ref m), (1, g_n w), (2, g_n u4), (3, g_n u5), (4, g_n A.length)] [] M' (g_qV Q) := by
    intro B
    induction B with
    | nil =>
      intro A M' hz f' S' c' H' t69 t73
      rw [List.append_nil] at hz
      subst hz
      have hB' := H'.1
      have b68' := hB'.at (k := 68) (by decide)
      have b68A' : g_A M' (ρ 68) 1 2 := b68'.2
      have t68 : g_i M' (ρ 68) w = zs.length := by
        rw [f'.2.1 _ _ (R_t1_n hB (by decide) (by decide) (by decide) (by decide) (by decide) (by decide)), s2, hlz]
      refine s_X12_takeOut_13 hwR (by rw [hu4]; exact hw4) (by rw [hu5]; exact hw5) ⟨by omega, by omega⟩ fun _ => ⟨hB'.1, ρ 68, b68'.1, 2, b68A', ⟨by omega, by omega⟩, fun z => absurd z (by rw [t68]; omega), fun _ => ?_⟩
      have h9 := hlp2 zs [] M' M' rfl f' (e_fr.rf _ _) S' c' H' (by
        have h0 : S_sum (([] : List Q_z).map fun z => z.2.2.2) = 0 := rfl
        rw [h0, Nat.add_zero] at t69
        exact t69) (fun s e1 e2 => by
        have := t73 s e1 e2
        rw [List.map_nil, List.append_nil] at this
        exact this) t68 (fun _ => rfl) (fun i z hi => absurd hi (by simp [Q_k])) fun i _ => ⟨f'.2.1 _ _ (R_t1_n hB (by decide) (by decide) (by decide) (by decide) (by decide) (by decide)), f'.2.1 _ _ (R_t1_n hB (by decide) (by decide) (by decide) (by decide) (by decide) (by decide))⟩
      exact h9
    | cons z B ih =>
      intro A M' hz f' S' c' H' t69 t73
      have hll := congrArg List.length hz
      rw [List.length_append, List.length_cons] at hll
      have hB' := H'.1
      have hzi : zs[A.length]? = some z := by
        rw [hz, List.getElem?_append_right (Nat.le_refl _), Nat.sub_self]
        rfl
      have hzm : z ∈ zs := by rw [hz]; simp
      obtain ⟨k1, k2, k3, k4, k5⟩ := hat _ z hzi
      obtain ⟨zl, zg⟩ := hdoc z hzm
      have hA1 : ((A ++ [z]).length : Int) = (A.length : Int) + 1 := by rw [List.length_append, List.length_singleton]; omega
      have hzA : zs = (A ++ [z]) ++ B := by rw [hz]; simp
      have hK1 := Q_k_app A [z]
      rw [Q_k_1] at hK1
      have h3A : Q_3 (A ++ [z]) = Q_3 A ++ [(z.1, z.2.2)] := List.map_append
      have b35' := hB'.at (k := 35) (by decide)
      have b68' := hB'.at (k := 68) (by decide)
      have b68A' : g_A M' (ρ 68) 1 2 := b68'.2
      have b74' := hB'.at (k := 74) (by decide)
      have b74A' : g_A M' (ρ 74) 2 200 := b74'.2
      have t68 : g_i M' (ρ 68) w = zs.length := by
        rw [f'.2.1 _ _ (R_t1_n hB (by decide) (by decide) (by decide) (by decide) (by decide) (by decide)), s2, hlz]
      have hmz : g_i M' (ρ 74) A.length = if z.1 = true then 1 else 0 := by
        rw [f'.2.1 _ _ (R_t1_n hB (by decide) (by decide) (by decide) (by decide) (by decide) (by decide))]
        exact hmt _ z hzi
      have hBs : S_sum ((z :: B).map fun z => z.2.2.2) = (b_doc z.2.2.2).length + S_sum (B.map fun z => z.2.2.2) := by rw [List.map_cons, S_sum_c]
      rw [hBs] at t69
      have hsle : S_sum ((Q_k A).map fun z => z.2.2) + ((b_doc z.2.2.2).length + S_sum (B.map fun z => z.2.2.2)) ≤ 40000 := by
        have h1 : S_sum ((Q_k A).map fun z => z.2.2) ≤ S_sum (A.map fun z => z.2.2.2) := by
          have hsub : (Q_k A).Sublist (A.map fun z => z.2) := List.filter_sublist.map _
          have hsub2 : ((Q_k A).map fun z => z.2.2).Sublist (A.map fun z => z.2.2.2) := by
            have := hsub.map fun z : Nat × Int × List b_E => z.2.2
            rwa [List.map_map] at this
          exact S_sum_sub hsub2
        have h2 := s8.2.1
        rw [hsumz, hz, List.map_append, S_sum_app, hBs] at h2
        omega
      refine s_X12_takeOut_13 hwR (by rw [hu4]; exact hw4) (by rw [hu5]; exact hw5) ⟨by omega, by omega⟩ fun _ => ⟨hB'.1, ρ 68, b68'.1, 2, b68A', ⟨by omega, by omega⟩, fun _ => ⟨ρ 74, b74'.1, 200, b74A', ⟨by omega, by omega⟩, ?_⟩, fun z => absurd (by rw [t68]; omega) z⟩
      rw [hmz]
      by_cases g : z.1 = true
      · rw [if_pos g]
        rw [if_pos g, List.append_nil] at hK1
        refine ⟨fun z => absurd z (by decide), fun _ => ⟨⟨by omega, by omega⟩, ?_⟩⟩
        -- index by index
        have hin : ∀ (r x : Nat) (M3 : g_M), x + r = 4 * w + 4 → 4 * w ≤ x → e_fr (R_t1 m ρ w) M M3 → E_S m (ρ 0) (ρ 9) (g_i M3 (ρ 0)) M3 [] → (g_i M3 m 40 = 0 ∨ g_i M3 m 40 = 1) → E_H0 m ρ (I_lp (I_rem1 z.2.2.1 z.2.2.2) w (I_lp (I_rem (Q_3 A)) w st (4 * w + 4)) x) M3 → (∀ k, g_i M3 (ρ 69) k = g_i M' (ρ 69) k) → (∀ k, g_i M3 (ρ 73) k = g_i M' (ρ 73) k) → g_Run (d + 72) 418 42 [(0, .ref m), (1, g_n w), (2, g_n u4), (3, g_n u5), (4, g_n A.length), (5, g_n x)] [] M3 (g_qV Q) := by
          intro r
          induction r with
          | zero =>
            intro x M3 hr hx f3 S3 c3 H3 e69 e73
            have hx4 : x = 4 * w + 4 := by omega
            subst hx4
            have hB3 := H3.1
            have b69' := hB3.at (k := 69) (by decide)
            have b69A' : g_A M3 (ρ 69) 1 2 := b69'.2
            have b71' := hB3.at (k := 71) (by decide)
            have b71A' : g_A M3 (ρ 71) 1 400 := b71'.2
            have b73' := hB3.at (k := 73) (by decide)
            have b73A' : g_A M3 (ρ 73) 2 400 := b73'.2
            have hT3 : R_tb m (ρ 68) (ρ 71) M3 := ⟨(hB3.at (k := 68) (by decide)).1, (hB3.at (k := 68) (by decide)).2, b71'.1, b71A'⟩
            have h713 : g_i M3 (ρ 71) (200 * w + (A.length : Nat)) = z.2.1 := by
              rw [f3.2.1 _ _ (R_t1_n hB (by decide) (by decide) (by decide) (by decide) (by decide) (by decide))]
              exact k2
            have hdoc3 : b_at (g_i M3 (ρ 0)) (2000 + 2000 * (z.2.1 : Int)) (b_doc z.2.2.2) := b_at_keep k5 fun j j1 j2 => f3.2.1 _ j fun z => by
              have := R_t1_b hB z
              omega
            have hdl := b_doc_len z.2.2.2
            refine s_X12_takeOut_42 hwR (by rw [hu4]; exact hw4) (by rw [hu5]; exact hw5) ⟨by omega, by omega⟩ ⟨by omega, by omega⟩ fun _ => ⟨⟨by omega, by omega⟩, ⟨by omega, by omega⟩, fun z => absurd z (by omega), fun _ => ⟨hB3.1, ρ 69, b69'.1, 2, b69A', ⟨by omega, by omega⟩, e_doc1 (d := d + 71) (w := (w : Int)) (i := A.length) (s := z.2.1) hB3.R hT3 (by omega) (by omega) h713 (by omega) (by omega) ?_⟩⟩
            intro _ _ _
            refine e_int4 (d := d + 70) hB3.R (by omega) (by omega) ?_
            intro _ _ _
            rw [e_w4doc hdoc3 (by omega), e69, t69]
            refine ⟨⟨by omega, by omega⟩, ⟨by omega, by omega⟩, ?_⟩
            rintro M21 e21 _
            have f21 : e_fr (R_t1 m ρ w) M3 M21 := by rw [e21]; exact e_fr.wi _ (Or.inr (Or.inl ⟨rfl, rfl⟩))
            have h7121 : g_i M21 (ρ 71) (200 * w + (A.length : Nat)) = z.2.1 := by
              rw [e21, g_i_wi, if_neg (fun z => ne (by decide) (by decide) (by decide) z.1)]
              exact h713
            refine ⟨ρ 73, by rw [f21.2.2]; exact b73'.1, ρ 71, by rw [f21.2.2]; exact b71'.1, ⟨by omega, by omega⟩, ⟨by omega, by omega⟩, 400, f21.A b71A', ⟨by omega, by omega⟩, 400, f21.A b73A', ?_⟩
            rw [h7121]
            refine ⟨⟨by omega, by omega⟩, ?_⟩
            rintro M37 e37 _
            have f37 : e_fr (R_t1 m ρ w) M21 M37 := by rw [e37]; exact e_fr.wi _ (Or.inr (Or.inr ⟨rfl, by omega, by omega⟩))
            have F37 := f3.tr (f21.tr f37)
            refine ⟨⟨by omega, by omega⟩, ?_⟩
            have nm37 : ∀ y k, y ≠ ρ 69 → y ≠ ρ 73 → g_i M37 y k = g_i M3 y k := fun y k h1 h2 => by rw [e37, g_i_wi, if_neg (fun z => h2 z.1), e21, g_i_wi, if_neg (fun z => h1 z.1)]
            have hmne : ∀ k ∈ E_bf, m ≠ ρ k := fun k hk z => hB.nm hk z.symm
            have hb37 : g_i M37 (ρ 0) = g_i M3 (ρ 0) := funext fun k => nm37 _ k (ne (by decide) (by decide) (by decide)) (ne (by decide) (by decide) (by decide))
            have f337 : e_fr (fun y k => (y = ρ 69 ∧ k = w) ∨ (y = ρ 73 ∧ 200 * (w : Int) ≤ k ∧ k < 200 * w + 200)) M3 M37 := by
              rw [e37, e21]
              exact (e_fr.wi _ (Or.inl ⟨rfl, rfl⟩)).tr (e_fr.wi _ (Or.inr ⟨rfl, by omega, by omega⟩))
            have H37 : E_H0 m ρ (I_lp (I_rem (Q_3 (A ++ [z]))) w st (4 * w + 4)) M37 := by
              have e1 : I_lp (I_rem1 z.2.2.1 z.2.2.2) w (I_lp (I_rem (Q_3 A)) w st (4 * w + 4)) (4 * w + 4) = I_lp (I_rem (Q_3 (A ++ [z]))) w st (4 * w + 4) := by
                rw [I_lp_all]
                congr 1
                funext t
                rw [h3A, I_rem_snoc, if_pos g]
              rw [e1] at H3
              exact H3.fr f337 (fun x hx y k z g => by
                rcases g with g | g
                · exact R_hP_xP hB hw z (Or.inl ⟨Or.inr (Or.inl g.1), g.2⟩)
                · exact R_hP_xP hB hw z (Or.inr (Or.inl ⟨Or.inr (Or.inr g.1), g.2⟩))) (fun z => z.elim (fun z => hmne 69 (by decide) z.1) fun z => hmne 73 (by decide) z.1) fun k _ z => z.elim (fun z => ne (by decide) (by decide) (by decide) z.1) fun z => ne (by decide) (by decide) (by decide) z.1
            have h9 := ih (A ++ [z]) M37 hzA F37 (by
              obtain ⟨a1, a2, a3, a4, a5, a6, a7⟩ := S3
              exact ⟨F37.R hB.R, by rw [F37.2.2]; exact (hB.at (k := 9) (by decide)).1, F37.A (hB.at (k := 9) (by decide)).2, by rw [nm37 m 10 (hmne 69 (by decide)) (hmne 73 (by decide))]; exact a4, b_nil _ _, rfl, a7⟩) (by rw [nm37 m 40 (hmne 69 (by decide)) (hmne 73 (by decide))]; exact c3) H37 (by
              rw [e37, g_i_wi, if_neg (fun z => ne (by decide) (by decide) (by decide) z.1), e21, g_i_wi, if_pos ⟨rfl, rfl⟩, hK1]
              omega) fun s e1 e2 => by
              rw [e37, g_i_wi, hK1]
              by_cases gs : s = z.2.1
              · rw [if_pos ⟨rfl, by omega⟩, if_neg]
                intro hmem
                rw [hz, List.map_append, List.map_cons] at hnd
                obtain ⟨n1, n2, n3⟩ := List.nodup_append.mp hnd
                rcases List.mem_append.mp hmem with gm | gm
                · obtain ⟨u, hu, e⟩ := List.mem_map.mp gm
                  obtain ⟨uu, huu, rfl⟩ := List.mem_map.mp hu
                  exact n3 uu.2.1 (List.mem_map.mpr ⟨uu, (List.mem_filter.mp huu).1, rfl⟩) z.2.1 List.mem_cons_self (by rw [← gs]; exact e)
                · rw [gs] at gm
                  exact (List.nodup_cons.mp n2).1 gm
              · rw [if_neg (fun z2 => gs (by have := z2.2; omega)), e21, g_i_wi, if_neg (fun z => ne (by decide) (by decide) (by decide) z.1), e73, t73 s e1 e2, List.map_cons]
                by_cases gm : s ∈ (Q_k A).map (fun z => z.1) ++ B.map (fun z => z.2.1)
                · rw [if_pos gm, if_pos]
                  rcases List.mem_append.mp gm with gm | gm
                  · exact List.mem_append_left _ gm
                  · exact List.mem_append_right _ (List.mem_cons_of_mem _ gm)
                · rw [if_neg gm, if_neg]
                  intro hmem
                  rcases List.mem_append.mp hmem with g1 | g1
                  · exact gm (List.mem_append_left _ g1)
                  · rcases List.mem_cons.mp g1 with g1 | g1
                    · exact gs g1
                    · exact gm (List.mem_append_right _ g1)
            rw [hA1] at h9
            exact h9
          | succ r ihr =>
            intro x M3 hr hx f3 S3 c3 H3 e69 e73
            have hB3 := H3.1
            have hx8 : x < 8 := by omega
            have hix := H3.2.2.2 x hx8
            rw [I_lp_at, I_lp_in _ _ _ ⟨hx, by omega⟩] at hix
            obtain ⟨hth0, hth1⟩ := hix.there
            have b35' := hB3.at (k := 35) (by decide)
            have b35A' : g_A M3 (ρ 35) 2 8 := b35'.2
            have b71' := hB3.at (k := 71) (by decide)
            have b71A' : g_A M3 (ρ 71) 1 400 := b71'.2
            have b72' := hB3.at (k := 72) (by decide)
            have b72A' : g_A M3 (ρ 72) 1 400 := b72'.2
            refine s_X12_takeOut_42 hwR (by rw [hu4]; exact hw4) (by rw [hu5]; exact hw5) ⟨by omega, by omega⟩ ⟨by omega, by omega⟩ fun _ => ⟨⟨by omega, by omega⟩, ⟨by omega, by omega⟩, fun _ => ⟨hB3.1, ρ 35, b35'.1, 8, b35A', ⟨by omega, by omega⟩, ?_⟩, fun z => absurd (by omega) z⟩
            cases hst : st x with
            | none =>
              have hrn : I_rem (Q_3 A) (st x) = none := by rw [hst]; rfl
              rw [hth0 hrn]
              refine ⟨fun _ => ⟨⟨by omega, by omega⟩, ?_⟩, fun z => absurd rfl z⟩
              have h9 := ihr (x + 1) M3 (by omega) (by omega) f3 S3 c3 (by
                rw [I_lp_n hx (by rw [I_lp_in _ _ _ ⟨hx, by omega⟩, hrn]; rfl)]
                exact H3) e69 e73
              rwa [show ((x + 1 : Nat) : Int) = (x : Int) + 1 by omega] at h9
            | some t =>
              obtain ⟨V, T, m1, m2⟩ := t
              have hrn : I_rem (Q_3 A) (st x) = some (V, I_out V (I_mk V (Q_3 A)) T, m1, m2) := by rw [hst]; rfl
              rw [(hth1 _ _ _ _ hrn).1]
              obtain ⟨hvok, hTg, hcg⟩ := hcgo x hx (by omega) V T m1 m2 hst
              have hmkz : I_mk V (Q_3 zs) = I_mk V (Q_3 A) ++ (I_ens V z.2.2.2 z.2.2.1 ++ I_mk V (Q_3 B)) := by
                have h1 : Q_3 zs = Q_3 A ++ (z.1, z.2.2) :: Q_3 B := by
                  rw [hz]
                  unfold Q_3
                  rw [List.map_append, List.map_cons]
                rw [h1, I_mk_app, I_mk_c, if_pos g]
              rw [hmkz] at hcg
              have hcgz := (I_cgo.app hvok hTg hcg).1.pre
              have hT3 : R_tb m (ρ 68) (ρ 71) M3 := ⟨(hB3.at (k := 68) (by decide)).1, (hB3.at (k := 68) (by decide)).2, b71'.1, b71A'⟩
              have h713 : g_i M3 (ρ 71) (200 * w + (A.length : Nat)) = z.2.1 := by
                rw [f3.2.1 _ _ (R_t1_n hB (by decide) (by decide) (by decide) (by decide) (by decide) (by decide))]
                exact k2
              have h723 : g_i M3 (ρ 72) (200 * w + (A.length : Nat)) = z.2.2.1 := by
                rw [f3.2.1 _ _ (R_t1_n hB (by decide) (by decide) (by decide) (by decide) (by decide) (by decide))]
                exact k3
              have hdoc3 : b_at (g_i M3 (ρ 0)) (2000 + 2000 * (z.2.1 : Int)) (b_doc z.2.2.2) := b_at_keep k5 fun j j1 j2 => f3.2.1 _ j fun z => by
                have := R_t1_b hB z
                omega
              refine ⟨fun z => absurd z (by decide), fun _ => e_doc1 (d := d + 71) (w := (w : Int)) (i := A.length) (s := z.2.1) hB3.R hT3 (by omega) (by omega) h713 (by omega) (by omega) ?_⟩
              intro _ _ _
              refine ⟨ρ 72, b72'.1, ⟨by omega, by omega⟩, ⟨by omega, by omega⟩, 400, b72A', ⟨by omega, by omega⟩, ?_⟩
              rw [h723]
              refine e_entX0 (d := d + 1) (x := x) (c := 2000 + 2000 * (z.2.1 : Int)) H3 S3 c3 hx8 (by rw [I_lp_at, I_lp_in _ _ _ ⟨hx, by omega⟩]; exact hrn) ⟨hdoc3, by omega, by omega, zg⟩ zl (Nat.zero_le _) (Or.inl rfl) ⟨fun _ => hcgz, fun z => absurd rfl z⟩ (h0n z.2 (by rw [hzs]; exact List.mem_map.mpr ⟨z, hzm, rfl⟩)) k4 fun M61 f61 S61 c61 H61 => ?_
              intro _ _
              refine ⟨⟨by omega, by omega⟩, ?_⟩
              have n61 : ∀ {k : Nat} {j : Int}, k ∈ E_bf → k ≠ 9 → k ≠ 0 → k ∉ R_fs → g_i M61 (ρ k) j = g_i M3 (ρ k) j := fun hk h9 h0 hf => f61.2.1 _ _ (R_EF_n hB3.rw (hB3.ne hk (by decide) h9) (hB3.nm hk) (hB3.ne hk (by decide) h0) fun k2 hk2 => hB3.ne hk (E_fs_bf k2 hk2).1 fun z => hf (z ▸ hk2))
              have h9 := ihr (x + 1) M61 (by omega) (by omega) (f3.tr (f61.up fun y k z => Or.inl ⟨x, hx8, z⟩)) S61 c61 (by
                have e1 : I_lp (I_rem1 z.2.2.1 z.2.2.2) w (I_lp (I_rem (Q_3 A)) w st (4 * w + 4)) (x + 1) = I_up (I_lp (I_rem1 z.2.2.1 z.2.2.2) w (I_lp (I_rem (Q_3 A)) w st (4 * w + 4)) x) x (some (V, I_io 0 V (I_ens V z.2.2.2 z.2.2.1) (I_out V (I_mk V (Q_3 A)) T), m1, m2)) := by
                  rw [I_lp_s _ _ _ hx, I_lp_in _ _ _ ⟨hx, by omega⟩, hrn, I_io_0]
                  rfl
                rw [e1]
                exact H61) (fun k => by rw [n61 (by decide) (by decide) (by decide) (by decide)]; exact e69 k) fun k => by rw [n61 (by decide) (by decide) (by decide) (by decide)]; exact e73 k
              rwa [show ((x + 1 : Nat) : Int) = (x : Int) + 1 by omega] at h9
        have h9 := hin 4 (4 * w) M' rfl (Nat.le_refl _) f' S' c' (by rw [I_lp_0]; exact H') (fun _ => rfl) fun _ => rfl
        rwa [show ((4 * w : Nat) : Int) = 4 * (w : Int) by omega] at h9
      · rw [if_neg g]
        rw [if_neg g] at hK1
        refine ⟨fun _ => ⟨⟨by omega, by omega⟩, ?_⟩, fun z => absurd rfl z⟩
        have h9 := ih (A ++ [z]) M' hzA f' S' c' (by
          have e1 : I_lp (I_rem (Q_3 (A ++ [z]))) w st (4 * w + 4) = I_lp (I_rem (Q_3 A)) w st (4 * w + 4) := by
            congr 1
            funext t
            rw [h3A, I_rem_snoc, if_neg g]
          rw [e1]
          exact H') (by
          rw [hK1, List.map_append, S_sum_app, List.map_singleton, S_sum_c, t69]
          have h0 : S_sum ([] : List (List b_E)) = 0 := rfl
          rw [h0]
          omega) fun s e1 e2 => by
          rw [t73 s e1 e2, hK1, List.map_append, List.map_cons, List.map_singleton]
          have h2 : (Q_k A).map (fun z => z.1) ++ z.2.1 :: B.map (fun z => z.2.1) = (Q_k A).map (fun z => z.1) ++ [z.2.1] ++ B.map (fun z => z.2.1) := by simp
          rw [h2]
        rw [hA1] at h9
        exact h9
  refine m_X12_takeOut (d := d + 72) hwR fun _ => ⟨hB.1, ?_⟩
  rw [← hu4, ← hu5]
  have h9 := hlp1 zs [] M rfl (e_fr.rf _ _) hS h40 (by
    have e1 : I_lp (I_rem (Q_3 [])) w st (4 * w + 4) = st := I_lp_id w st fun t => I_rem_nil t
    rw [e1]
    exact h.h0) (by
    rw [s3, hsumz]
    have h0 : S_sum ((Q_k []).map fun z => z.2.2) = 0 := rfl
    rw [h0, Nat.zero_add]) fun s e1 e2 => by
    rw [s7 s e1 e2, hzs, List.map_map]
    rfl
  exact h9
end ETO
