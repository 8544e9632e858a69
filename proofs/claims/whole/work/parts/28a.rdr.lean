/-! TREES OF THE REFERENCE: a tree is dropped; its levels -/
section RDR
variable {m b d x dn : Nat} {ρ : Nat → Nat} {M : g_M} {w1 w2 : Int}
theorem e_dropTree {Q : g_M → Prop} (hR : R_rw m b ρ M) (hx : x < 8) (hw : R_wy m x w1 w2 dn M) (h47 : g_i M m 47 = -1) (hq : ∀ M1, R_Tr m b ρ x dn w1 w2 N_nil M1 → e_fr (R_EA m b ρ x) M M1 → Q M1) : g_Call (d + 4) 371 [.ref m, g_n x] M (g_qV Q) := by
  have hmr : ∀ {k : Nat}, k ∈ R_fs → ρ k ≠ m := fun hk => hR.nm hk
  have h30 : ∀ (r j : Nat) (M1 : g_M), j + r = 1500 → e_fr (R_EA m b ρ x) M M1 → g_i M1 m 47 = -1 → (∀ i : Nat, i < 600 → g_i M1 (ρ 48) (600 * x + i) = 0) → g_Run (d + 3) 371 30 [(0, .ref m), (1, g_n x), (2, g_n j)] [] M1 (g_qV Q) := by
    intro r
    induction r with
    | zero =>
      intro j M1 hj f1 c1 k1
      have hj6 : j = 1500 := by omega
      subst hj6
      have hR1 := hR.fr f1
      obtain ⟨r1, r2⟩ := hR1.at (k := 54) (by decide)
      have r2 : g_A M1 (ρ 54) 1 8 := r2
      refine s_X12_dropTree_30 ⟨by omega, by omega⟩ ⟨by omega, by omega⟩ fun _ => ⟨fun z => absurd z (by omega), fun _ => ⟨hR1.1.1, ρ 54, r1, 8, r2, ⟨by omega, by omega⟩, fun M7 e7 _ => ?_⟩⟩
      have f7 : e_fr (R_EA m b ρ x) M1 M7 := by
        rw [e7]
        exact e_fr.wi _ (Or.inr (Or.inr (Or.inr (Or.inr (Or.inr (Or.inr ⟨Or.inr rfl, rfl⟩))))))
      have hR7 := hR1.fr f7
      have hk7 : ∀ k ∈ R_fs, k ≠ 54 → ∀ q, g_i M7 (ρ k) q = g_i M1 (ρ k) q := fun k hk h q => by rw [e7, g_i_wi, if_neg (fun z => hR.ne hk (k2 := 54) (by decide) h z.1)]
      obtain ⟨s1, s2⟩ := hR7.at (k := 53) (by decide)
      have s2 : g_A M7 (ρ 53) 1 8 := s2
      refine ⟨ρ 53, s1, e_newNode (d := d + 1) hR7 hx (Or.inr rfl) ⟨0, by decide, by rw [hk7 48 (by decide) (by decide)]; exact k1 0 (by decide)⟩ fun n M13 hn hn0 f13 hn1 hno => ?_⟩
      intro _ _ _
      have f13' : e_fr (R_EA m b ρ x) M7 M13 := f13.up fun y q z => Or.inr (Or.inr (Or.inr (Or.inr (Or.inl ⟨z.1, by have := z.2; omega, by have := z.2; omega⟩))))
      have hR13 := hR7.fr f13'
      refine ⟨8, hR13.at (k := 53) (by decide) |>.2, ⟨by omega, by omega⟩, fun M21 e21 _ => ?_⟩
      have f21 : e_fr (R_EA m b ρ x) M13 M21 := by
        rw [e21]
        exact e_fr.wi _ (Or.inr (Or.inr (Or.inr (Or.inr (Or.inr (Or.inr ⟨Or.inl rfl, rfl⟩))))))
      have F := ((f1.tr f7).tr f13').tr f21
      have h13 : ∀ k ∈ R_fs, k ≠ 48 → k ≠ 49 → k ≠ 50 → ∀ q, g_i M13 (ρ k) q = g_i M7 (ρ k) q := fun k hk h8 h9 h5 q => f13.2.1 _ _ fun z => by
        rcases z with ⟨z | z | z, -⟩
        · exact hR.ne hk (k2 := 48) (by decide) h8 z
        · exact hR.ne hk (k2 := 49) (by decide) h9 z
        · exact hR.ne hk (k2 := 50) (by decide) h5 z
      have h21 : ∀ k ∈ R_fs, k ≠ 53 → ∀ q, g_i M21 (ρ k) q = g_i M13 (ρ k) q := fun k hk h q => by rw [e21, g_i_wi, if_neg (fun z => hR.ne hk (k2 := 53) (by decide) h z.1)]
      have hD13 : R_D b ρ x M13 0 n [] := R_D_0.mpr ⟨hn, Nat.zero_le _, ⟨[], hno, fun y hy => absurd hy (by simp), rfl⟩, fun y hy => absurd hy (by simp)⟩
      have hD21 : R_D b ρ x M21 0 n [] := by
        rw [e21]
        exact R_D.rw53 hR13 (Or.inl rfl) hD13
      have h47' : g_i M21 m 47 = -1 := by
        rw [e21, g_i_wi, if_neg (fun z => hmr (k := 53) (by decide) z.1.symm), f13.2.1 m 47 fun z => ?_, e7, g_i_wi, if_neg (fun z => hmr (k := 54) (by decide) z.1.symm)]
        · exact c1
        · rcases z with ⟨z | z | z, -⟩
          · exact hmr (k := 48) (by decide) z.symm
          · exact hmr (k := 49) (by decide) z.symm
          · exact hmr (k := 50) (by decide) z.symm
      refine hq M21 ⟨hR.fr F, hx, hw.EA hR F, h47', 0, n, [], [n], rfl, by rw [e21, g_i_wi, if_pos ⟨rfl, rfl⟩], hD21, (List.nodup_cons.mpr ⟨List.not_mem_nil, List.nodup_nil⟩), List.Perm.refl _, ⟨fun k hk => ?_, (List.nodup_cons.mpr ⟨List.not_mem_nil, List.nodup_nil⟩), fun k hk => by rw [List.mem_singleton.mp hk]; exact hn⟩, N_nil_good, ?_, fun i hi => absurd hi (by simp [V_us])⟩ F
      · rw [h21 48 (by decide) (by decide)]
        by_cases g : k = n
        · rw [g, hn1, if_pos (List.mem_singleton.mpr rfl)]
        · rw [f13.2.1 (ρ 48) _ fun z => g (by have := z.2; omega), hk7 48 (by decide) (by decide), k1 k hk, if_neg fun z => g (List.mem_singleton.mp z)]
      · rw [h21 54 (by decide) (by decide), h13 54 (by decide) (by decide) (by decide) (by decide), e7, g_i_wi, if_pos ⟨rfl, rfl⟩]
        rfl
    | succ r ih =>
      intro j M1 hj f1 c1 k1
      have hR1 := hR.fr f1
      obtain ⟨r1, r2⟩ := hR1.at (k := 45) (by decide)
      have r2 : g_A M1 (ρ 45) 2 12000 := r2
      refine s_X12_dropTree_30 ⟨by omega, by omega⟩ ⟨by omega, by omega⟩ fun _ => ⟨fun _ => ⟨hR1.1.1, ρ 45, r1, ⟨by omega, by omega⟩, ⟨by omega, by omega⟩, 12000, r2, ⟨by omega, by omega⟩, fun M9 e9 _ => ⟨⟨by omega, by omega⟩, ?_⟩⟩, fun z => absurd (by omega) z⟩
      rw [show (x : Int) * 1500 = 1500 * x from Int.mul_comm _ _] at e9
      have h9 := ih (j + 1) M9 (by omega) (f1.tr (by
        rw [e9]
        exact e_fr.wi _ (Or.inl ⟨rfl, by omega, by omega⟩))) (by rw [e9, g_i_wi, if_neg (fun z => hmr (k := 45) (by decide) z.1.symm)]; exact c1) fun i hi => by
        rw [e9, g_i_wi, if_neg (fun z => hR.ne (k := 48) (k2 := 45) (by decide) (by decide) (by decide) z.1)]
        exact k1 i hi
      rwa [show ((j + 1 : Nat) : Int) = (j : Int) + 1 by omega] at h9
  have h2 : ∀ (r j : Nat) (M1 : g_M), j + r = 600 → e_fr (R_EA m b ρ x) M M1 → g_i M1 m 47 = -1 → (∀ i : Nat, i < j → g_i M1 (ρ 48) (600 * x + i) = 0) → g_Run (d + 3) 371 2 [(0, .ref m), (1, g_n x), (2, g_n j)] [] M1 (g_qV Q) := by
    intro r
    induction r with
    | zero =>
      intro j M1 hj f1 c1 k1
      have hj6 : j = 600 := by omega
      subst hj6
      refine s_X12_dropTree_2 ⟨by omega, by omega⟩ ⟨by omega, by omega⟩ fun _ => ⟨fun z => absurd z (by omega), fun _ => ?_⟩
      exact h30 1500 0 M1 rfl f1 c1 k1
    | succ r ih =>
      intro j M1 hj f1 c1 k1
      have hR1 := hR.fr f1
      obtain ⟨r1, r2⟩ := hR1.at (k := 48) (by decide)
      have r2 : g_A M1 (ρ 48) 2 4800 := r2
      refine s_X12_dropTree_2 ⟨by omega, by omega⟩ ⟨by omega, by omega⟩ fun _ => ⟨fun _ => ⟨hR1.1.1, ρ 48, r1, ⟨by omega, by omega⟩, ⟨by omega, by omega⟩, 4800, r2, ⟨by omega, by omega⟩, fun M9 e9 _ => ⟨⟨by omega, by omega⟩, ?_⟩⟩, fun z => absurd (by omega) z⟩
      rw [show (x : Int) * 600 = 600 * x from Int.mul_comm _ _] at e9
      have h9 := ih (j + 1) M9 (by omega) (f1.tr (by
        rw [e9]
        exact e_fr.wi _ (Or.inr (Or.inr (Or.inr (Or.inr (Or.inl ⟨Or.inl rfl, by omega, by omega⟩))))))) (by rw [e9, g_i_wi, if_neg (fun z => hmr (k := 48) (by decide) z.1.symm)]; exact c1) fun i hi => by
        rw [e9, g_i_wi]
        by_cases g : i = j
        · rw [if_pos ⟨rfl, by omega⟩]
        · rw [if_neg (fun z => g (by have := z.2; omega))]
          exact k1 i (by omega)
      rwa [show ((j + 1 : Nat) : Int) = (j : Int) + 1 by omega] at h9
  refine m_X12_dropTree ⟨by omega, by omega⟩ fun _ => ?_
  exact h2 600 0 M rfl (e_fr.rf _ _) h47 fun i hi => absurd hi (Nat.not_lt_zero _)
/-- the levels of a tree -/
theorem e_levels {Q : Int → g_M → Prop} {T : N_T I_E} (hT : R_Tr m b ρ x dn w1 w2 T M) (hq : Q (T.1 + 1 : Nat) M) (hl : (N_all T).length ≤ 1000) : g_Call (d + 2) 386 [.ref m, g_n x] M (g_qI Q) := by
  obtain ⟨hR, hx, hw, h47, h, n, l, us, hTe, hrt, hD, hnd, hup, hus, hgd, hct, hkp⟩ := hT
  subst hTe
  change Q ((h + 1 : Nat) : Int) M at hq
  have hln : (N_ins h l).length ≤ 1000 := by rw [V_ins_len] at hl; exact hl
  obtain ⟨z1, -, -, -, z5, -, z7, -⟩ := V_size (rt := n) hgd (by omega)
  obtain ⟨r1, r2⟩ := hR.at (k := 53) (by decide)
  have r2 : g_A M (ρ 53) 1 8 := r2
  obtain ⟨q1, q2⟩ := hR.at (k := 51) (by decide)
  have q2 : g_A M (ρ 51) 1 48000 := q2
  have hlp : ∀ (h2 n2 : Nat) (l2 : List (N_i V_W h2)) (v : Nat), R_D b ρ x M h2 n2 l2 → N_fl h2 l2 → (0 < h2 → l2 ≠ []) → v + h2 = h + 1 → g_Run (d + 1) 386 9 [(0, .ref m), (1, g_n x), (2, g_n n2), (3, g_n v)] [] M (g_qI Q) := by
    intro h2
    induction h2 with
    | zero =>
      intro n2 l2 v hD2 _ _ hv
      have hn2 := hD2.lt
      obtain ⟨-, -, ⟨ps, p1, -⟩, -⟩ := R_D_0.mp hD2
      refine s_X12_levels_9 ⟨by omega, by omega⟩ ⟨by omega, by omega⟩ ⟨by omega, by omega⟩ fun _ => ⟨hR.1.1, e_isLeafN (d := d) hR hx hn2 (Or.inr p1.1) ?_⟩
      intro _ _ _
      rw [p1.1]
      refine ⟨fun z => absurd z (by decide), fun _ => ?_⟩
      rw [show v = h + 1 by omega]
      exact hq
    | succ h2 ih =>
      intro n2 l2 v hD2 hf2 hne hv
      have hn2 := hD2.lt
      obtain ⟨-, -, ⟨ps, p1, p2, p3, -⟩, -, a5⟩ := R_D_s.mp hD2
      rcases l2 with _ | ⟨y, B⟩
      · exact absurd rfl (hne (Nat.succ_pos _))
      have hy := hf2 y List.mem_cons_self
      have hch : g_i M (ρ 51) (10 * (600 * x + n2) + (0 : Nat)) = (V_n y.1 : Nat) := by
        have h9 := p1.child (A := []) (B := B.map (V_k (h2 + 1))) (k := V_k (h2 + 1) y) (by rw [p3]; rfl)
        exact h9
      have hyn := (a5 y List.mem_cons_self).lt
      refine s_X12_levels_9 ⟨by omega, by omega⟩ ⟨by omega, by omega⟩ ⟨by omega, by omega⟩ fun _ => ⟨hR.1.1, e_isLeafN (d := d) hR hx hn2 (Or.inl p1.1) ?_⟩
      intro _ _ _
      rw [p1.1]
      refine ⟨fun _ => ⟨ρ 51, q1, e_slot (d := d) hx hn2 (by decide) (by decide) ?_⟩, fun z => absurd rfl z⟩
      intro _ _ _
      refine ⟨48000, q2, ⟨by omega, by omega⟩, ⟨by omega, by omega⟩, ?_⟩
      have hch : g_i M (ρ 51) (10 * (600 * x + n2) + 0) = (V_n y.1 : Nat) := hch
      rw [hch]
      have h9 := ih (V_n y.1) y.2 (v + 1) (a5 y List.mem_cons_self) hy.2 (fun _ z => by
        have := hy.1.1
        rw [z] at this
        exact absurd this (show ¬ 4 ≤ 0 by decide)) (by omega)
      rwa [show ((v + 1 : Nat) : Int) = (v : Int) + 1 by omega] at h9
  refine m_X12_levels ⟨by omega, by omega⟩ fun _ => ⟨hR.1.1, ρ 53, r1, 8, r2, ⟨by omega, by omega⟩, ?_⟩
  rw [hrt]
  exact hlp h n l 1 hD z5 z7 (by omega)
end RDR
