/-! TREES OF THE REFERENCE: an entry comes to a tree, all -/
section REN
variable {m b d x dn : Nat} {ρ : Nat → Nat} {M M1 : g_M} {w1 w2 : Int} {T : N_T I_E}
theorem R_wy.EA (h : R_wy m x w1 w2 dn M) (hR : R_rw m b ρ M) (f : e_fr (R_EA m b ρ x) M M1) : R_wy m x w1 w2 dn M1 := by
  obtain ⟨h1, h2, h3, h4, h5, h6⟩ := h
  have hn : ∀ {i : Nat}, i ∈ R_fs → dn ≠ ρ i := fun {i} hi z2 => by
    have h9 := (hR.at hi).2
    rw [← z2] at h9
    have h8 := (h9.fn h2).2
    unfold R_ln at h8
    split at h8
    · omega
    · split at h8
      · omega
      · split at h8
        · omega
        · omega
  have hdb : dn ≠ b := fun z => by
    rw [z] at h2
    exact absurd (h2.fn hR.1.2.2).1 (by decide)
  have hdm : dn ≠ m := fun z => g_neOA hR.1.1 h2 z.symm
  have hd : ∀ q, ¬ R_EA m b ρ x dn q := fun q z => by
    rcases z with z | z | z | z | ⟨z | z | z, -⟩ | ⟨z | z, -⟩ | ⟨z | z, -⟩
    · exact hn (by decide) z.1
    · exact hn (by decide) z.1
    · exact hdm z.1
    · exact hdb z.1
    · exact hn (by decide) z
    · exact hn (by decide) z
    · exact hn (by decide) z
    · exact hn (by decide) z
    · exact hn (by decide) z
    · exact hn (by decide) z
    · exact hn (by decide) z
  exact ⟨by rw [f.2.2]; exact h1, f.A h2, h3, h4, by rw [f.2.1 dn _ (hd _)]; exact h5, by rw [f.2.1 dn _ (hd _)]; exact h6⟩
/-- a field of the reference that tells of no node -/
theorem R_D.mw {k v : Int} (hR : R_rw m b ρ M) {h n : Nat} {l : List (N_i V_W h)} (hD : R_D b ρ x M h n l) : R_D b ρ x (g_wi M m k v) h n l := by
  have f : e_fr (fun y q => y = m ∧ q = k) M (g_wi M m k v) := e_fr.wi v ⟨rfl, rfl⟩
  refine hD.fr f (fun y q z z2 => ?_) fun j _ y q z z2 => ?_
  · rcases z with z | z
    · exact g_neOA hR.1.1 hR.1.2.2 (z2.1.symm.trans z)
    · exact hR.nm (k := 46) (by decide) (z.symm.trans z2.1)
  · rcases z with (⟨z1 | z1, -⟩ | ⟨z1, -⟩) | ⟨z1, -⟩
    · exact hR.nm (k := 51) (by decide) (z1.symm.trans z2.1)
    · exact hR.nm (k := 52) (by decide) (z1.symm.trans z2.1)
    · exact hR.nm (k := 50) (by decide) (z1.symm.trans z2.1)
    · exact hR.nm (k := 49) (by decide) (z1.symm.trans z2.1)
/-- a root or a count is set -/
theorem R_D.rw53 {i : Nat} {k v : Int} (hR : R_rw m b ρ M) (hi : i = 53 ∨ i = 54) {h n : Nat} {l : List (N_i V_W h)} (hD : R_D b ρ x M h n l) : R_D b ρ x (g_wi M (ρ i) k v) h n l := by
  have hi2 : i ∈ R_fs := by rcases hi with z | z <;> subst z <;> decide
  have f : e_fr (fun y q => y = ρ i ∧ q = k) M (g_wi M (ρ i) k v) := e_fr.wi v ⟨rfl, rfl⟩
  refine hD.fr f (fun y q z z2 => ?_) fun j _ y q z z2 => ?_
  · rcases z with z | z
    · exact hR.nb hi2 (z2.1.symm.trans z)
    · exact hR.ne hi2 (k2 := 46) (by decide) (by omega) (z2.1.symm.trans z)
  · rcases z with (⟨z1 | z1, -⟩ | ⟨z1, -⟩) | ⟨z1, -⟩
    · exact hR.ne hi2 (k2 := 51) (by decide) (by omega) (z2.1.symm.trans z1)
    · exact hR.ne hi2 (k2 := 52) (by decide) (by omega) (z2.1.symm.trans z1)
    · exact hR.ne hi2 (k2 := 50) (by decide) (by omega) (z2.1.symm.trans z1)
    · exact hR.ne hi2 (k2 := 49) (by decide) (by omega) (z2.1.symm.trans z1)
theorem e_enter {Q : g_M → Prop} {o1 o2 no : Int} {D1 D2 : Nat} {k1 k2 : Int} {nm1 vb1 nm2 vb2 : List Int} (hT : R_Tr m b ρ x dn w1 w2 T M) (hs1 : b_st (g_i M b) 2706210 o1 D1 k1 nm1 vb1) (hs2 : b_st (g_i M b) 2706210 o2 D2 k2 nm2 vb2) (hd1 : o1 + (b_el k1 nm1 vb1).length ≤ 1014000 ∨ 2598000 ≤ o1) (hd2 : o2 + (b_el k2 nm2 vb2).length ≤ 1014000 ∨ 2598000 ≤ o2) (hg : I_eg ((k1, vb1), (k2, vb2), no)) (hno : 0 ≤ no) (hl : (N_all T).length ≤ 999) (hnew : ∀ a ∈ N_all T, I_c w1 w2 a ((k1, vb1), (k2, vb2), no) ≠ 0) (hq : ∀ M1, R_Tr m b ρ x dn w1 w2 (N_enter (I_c w1 w2) ((k1, vb1), (k2, vb2), no) T) M1 → e_fr (R_EA m b ρ x) M M1 → Q M1) : g_Call (d + 60) 378 [.ref m, g_n x, g_n o1, g_n o2, g_n no] M (g_qV Q) := by
  obtain ⟨hR, hx, hw, h47, h, n, l, us, hTe, hrt, hD, hnd, hup, hus, hgd, hct, hkp⟩ := hT
  obtain ⟨e, he⟩ : ∃ e : I_E, e = ((k1, vb1), (k2, vb2), no) := ⟨_, rfl⟩
  rw [← he] at hnew hq
  have hwI : I_w w1 ∧ I_w w2 := ⟨hw.2.2.1, hw.2.2.2.1⟩
  obtain ⟨hok1, hok2⟩ := N_enter_ok (I_c_T hwI.1 hwI.2) hgd hnew
  subst hTe
  have hln : (N_ins h l).length ≤ 999 := by rw [V_ins_len] at hl; exact hl
  obtain ⟨z1, -, z3, z4, z5, z6, z7, -⟩ := V_size (rt := n) hgd (by omega)
  have hul : us.length ≤ 335 := by rw [hup.length_eq]; exact z3
  have ho1R := hs1.R (by decide)
  have ho2R := hs2.R (by decide)
  have hnoR : g_InR no := hg.2.2
  have hn6 := hD.lt
  obtain ⟨hnds, hUiff⟩ := hus.nds hD hup
  have hfree : ∃ i : Nat, i < 1500 ∧ ¬ i ∈ V_us h l := by
    by_cases hex : ∃ i : Nat, i < 1500 ∧ ¬ i ∈ V_us h l
    · exact hex
    · exfalso
      have h3 := I_nd_le (l := List.range 1500) (m := V_us h l) List.nodup_range fun k hk => by
        by_cases g : k ∈ V_us h l
        · exact g
        · exact absurd ⟨k, List.mem_range.mp hk, g⟩ hex
      rw [List.length_range] at h3
      omega
  have hmr : ∀ {k : Nat}, k ∈ R_fs → ρ k ≠ m := fun hk => hR.nm hk
  have hbr : ∀ {k : Nat}, k ∈ R_fs → ρ k ≠ b := fun hk => hR.nb hk
  -- the end: the entry is counted
  have h84 : ∀ (s : Nat) (M2 : g_M) (h2 n2 : Nat) (l2 : List (N_i V_W h2)) (us2 : List Nat), s < 1500 → R_rw m b ρ M2 → e_fr (R_EA m b ρ x) M M2 → N_enter (I_c w1 w2) e ⟨h, l.map (V_er h)⟩ = ⟨h2, l2.map (V_er h2)⟩ → g_i M2 (ρ 53) x = n2 → R_D b ρ x M2 h2 n2 l2 → (V_ns h2 n2 l2).Nodup → us2.Perm (V_ns h2 n2 l2) → R_us ρ x M2 us2 → g_i M2 (ρ 54) x = (N_all (⟨h, l.map (V_er h)⟩ : N_T I_E)).length → (∀ i ∈ V_us h2 l2, g_i M2 (ρ 45) (1500 * x + i) ≠ 0) → g_Run (d + 59) 378 84 [(0, .ref m), (1, g_n x), (2, g_n o1), (3, g_n o2), (4, g_n no), (5, g_n s)] [] M2 (g_qV Q) := by
    intro s M2 h2 n2 l2 us2 hs hR2 f2 hTe2 hrt2 hD2 hnd2 hup2 hus2 hct2 hkp2
    obtain ⟨r1, r2⟩ := hR2.at (k := 54) (by decide)
    have r2 : g_A M2 (ρ 54) 1 8 := r2
    refine s_X12_enter_84 ⟨by omega, by omega⟩ ho1R ho2R hnoR ⟨by omega, by omega⟩ fun _ => ⟨hR2.1.1, fun M3 e3 _ => ?_⟩
    have f3 : e_fr (R_EA m b ρ x) M2 M3 := by
      rw [e3]
      exact e_fr.wi _ (Or.inr (Or.inr (Or.inl ⟨rfl, by omega⟩)))
    have hR3 := hR2.fr f3
    have hc3 : g_i M3 (ρ 54) x = (N_all (⟨h, l.map (V_er h)⟩ : N_T I_E)).length := by
      rw [e3, g_i_wi, if_neg (fun z => hmr (k := 54) (by decide) z.1)]
      exact hct2
    obtain ⟨s1, s2⟩ := hR3.at (k := 54) (by decide)
    have s2 : g_A M3 (ρ 54) 1 8 := s2
    refine ⟨ρ 54, s1, 8, s2, ⟨by omega, by omega⟩, ?_⟩
    rw [hc3]
    refine ⟨⟨by omega, by omega⟩, ⟨by omega, by omega⟩, fun M4 e4 _ => ?_⟩
    have f4 : e_fr (R_EA m b ρ x) M3 M4 := by
      rw [e4]
      exact e_fr.wi _ (Or.inr (Or.inr (Or.inr (Or.inr (Or.inr (Or.inr ⟨Or.inr rfl, rfl⟩))))))
    have F4 := (f2.tr f3).tr f4
    have hsm : ∀ k ∈ R_fs, k ≠ 54 → ∀ q, g_i M4 (ρ k) q = g_i M2 (ρ k) q := fun k hk hk4 q => by
      rw [e4, g_i_wi, if_neg (fun z => hR.ne hk (k2 := 54) (by decide) hk4 z.1), e3, g_i_wi, if_neg (fun z => hmr hk z.1)]
    have hD4 : R_D b ρ x M4 h2 n2 l2 := by
      rw [e4]
      refine R_D.rw53 hR3 (Or.inr rfl) ?_
      rw [e3]
      exact hD2.mw hR2
    refine hq M4 ⟨hR.fr F4, hx, hw.EA hR F4, ?_, h2, n2, l2, us2, hTe2, ?_, hD4, hnd2, hup2, ⟨fun k hk => ?_, hus2.2⟩, hok1, ?_, fun i hi => ?_⟩ F4
    · rw [e4, g_i_wi, if_neg (fun z => hmr (k := 54) (by decide) z.1.symm), e3, g_i_wi, if_pos ⟨rfl, rfl⟩]
    · rw [hsm 53 (by decide) (by decide)]
      exact hrt2
    · rw [hsm 48 (by decide) (by decide)]
      exact hus2.1 k hk
    · rw [e4, g_i_wi, if_pos ⟨rfl, rfl⟩, hok2.length_eq, List.length_cons]
      omega
    · rw [hsm 45 (by decide) (by decide)]
      exact hkp2 i hi
  refine m_X12_enter ⟨by omega, by omega⟩ ho1R ho2R hnoR fun _ => ⟨hR.1.1, e_newEntry (d := d + 53) (U := fun i => i ∈ V_us h l) hR hx h47 hnds hUiff (fun i _ hi => hkp i hi) hfree hs1 hs2 hd1 hd2 hg hno fun s M2 hsU f2 he2 hk2 => ?_⟩
  rw [← he] at he2
  have hs := he2.1
  intro _ _ _
  intro M7 e7 _
  have F2 : e_fr (R_EA m b ρ x) M M2 := f2.up fun y q z => z.EA hs
  have hR2 := hR.fr F2
  have f7 : e_fr (R_EA m b ρ x) M2 M7 := by
    rw [e7]
    exact e_fr.wi _ (Or.inr (Or.inr (Or.inl ⟨rfl, by omega⟩)))
  have F7 := F2.tr f7
  have hR7 := hR.fr F7
  have hS2 : ∀ k ∈ R_fs, k ≠ 45 → k ≠ 46 → ∀ q, g_i M2 (ρ k) q = g_i M (ρ k) q := fun k hk h45 h46 q => f2.2.1 _ _ fun z => by
    rcases z with z | z | z | z
    · exact hR.ne hk (k2 := 45) (by decide) h45 z.1
    · exact hR.ne hk (k2 := 46) (by decide) h46 z.1
    · exact hmr hk z.1
    · exact hbr hk z.1
  have hS7 : ∀ k ∈ R_fs, ∀ q, g_i M7 (ρ k) q = g_i M2 (ρ k) q := fun k hk q => by rw [e7, g_i_wi, if_neg (fun z => hmr hk z.1)]
  have hD7 : R_D b ρ x M7 h n l := by
    rw [e7]
    exact (hD.nS hR f2 hsU).mw hR2
  have he7 : R_e b ρ x s M7 e := he2.fr (S := fun y q => y = m ∧ q = 47) (by rw [e7]; exact e_fr.wi _ ⟨rfl, rfl⟩) fun y q z z2 => by
    rcases z with z | z
    · exact g_neOA hR.1.1 hR.1.2.2 (z2.1.symm.trans z)
    · exact hmr (k := 46) (by decide) (z.symm.trans z2.1)
  have hus7 : R_us ρ x M7 us := ⟨fun k hk => by rw [hS7 48 (by decide), hS2 48 (by decide) (by decide) (by decide)]; exact hus.1 k hk, hus.2⟩
  have hrt7 : g_i M7 (ρ 53) x = n := by rw [hS7 53 (by decide), hS2 53 (by decide) (by decide) (by decide)]; exact hrt
  have hct7 : g_i M7 (ρ 54) x = (N_all (⟨h, l.map (V_er h)⟩ : N_T I_E)).length := by rw [hS7 54 (by decide), hS2 54 (by decide) (by decide) (by decide)]; exact hct
  have hk7 : ∀ i : Nat, i < 1500 → i ∈ V_us h l ∨ i = s → g_i M7 (ρ 45) (1500 * x + i) ≠ 0 := fun i hi hor => by rw [hS7 45 (by decide)]; exact hk2 i hi hor
  have hidl := (R_D_ids hD).2
  obtain ⟨r1, r2⟩ := hR7.at (k := 53) (by decide)
  have r2 : g_A M7 (ρ 53) 1 8 := r2
  refine ⟨ρ 53, r1, 8, r2, ⟨by omega, by omega⟩, ?_⟩
  rw [hrt7]
  have hrec := e_comes2 (w1 := w1) (w2 := w2) (dn := dn) hx h (d := d + 15 - h) (n := n) (s := s) (us := us) (l := l) (M := M7) (e := e) (Q := fun r19 M16 => g_ext M7 M16 → g_ok M16 → g_InR r19 → ((r19 = 0 → g_Run (d + 59) 378 84 [(0, .ref m), (1, g_n x), (2, g_n o1), (3, g_n o2), (4, g_n no), (5, g_n s)] [] M16 (g_qV Q)) ∧ (¬ r19 = 0 → ∃ b21, g_r M16 m 53 = some b21 ∧ ∃ n23, g_A M16 b21 1 n23 ∧ ((0 : Int) ≤ (x : Int) ∧ ((x : Int) : Int) < n23) ∧ g_Call (d + 59) 370 [.ref m, g_n x, g_n 0] M16 (g_qI fun r29 M26 => g_ext M16 M26 → g_ok M26 → g_InR r29 → g_Call (d + 59) 372 [.ref m, g_n x, g_n r29, g_n 0, g_n (g_i M16 b21 x), g_n 0] M26 (g_qV fun M31 => g_ext M26 M31 → g_ok M31 → g_Call (d + 59) 372 [.ref m, g_n x, g_n r29, g_n 1, g_n (g_i M31 m 55), g_n (g_i M31 m 56)] M31 (g_qV fun M34 => g_ext M31 M34 → g_ok M34 → ∃ b37, g_r M34 m 53 = some b37 ∧ ∃ n39, g_A M34 b37 1 n39 ∧ ((0 : Int) ≤ (x : Int) ∧ ((x : Int) : Int) < n39) ∧ ∀ M42, M42 = g_wi M34 b37 x r29 → g_ok M42 → g_Run (d + 59) 378 84 [(0, .ref m), (1, g_n x), (2, g_n o1), (3, g_n o2), (4, g_n no), (5, g_n s)] [] M42 (g_qV Q))))))) hR7 (hw.EA hR F7) hD7 hgd.2.1 z7 z6 hnd (fun k hk => hup.mem_iff.mpr hk) hus7 (by omega) he7 ?_
  · rw [show d + 15 - h + h + 44 = d + 59 by omega] at hrec
    exact hrec
  intro M16 l1 o us1 f16 hD16 hTC hus16 hnw hU16 ho16 _ _ _
  have F16 := F7.tr (f16.up fun y q z => R_C.EA (b := b) (fun k hk => hk.1) z)
  have hR16 := hR.fr F16
  obtain ⟨new, g1, g2, g3⟩ := hnw
  have hC : ∀ k ∈ R_fs, k ≠ 48 → k ≠ 49 → k ≠ 50 → k ≠ 51 → k ≠ 52 → ∀ q, g_i M16 (ρ k) q = g_i M7 (ρ k) q := fun k hk h48 h49 h50 h51 h52 q => f16.2.1 _ _ fun z => by
    rcases z with ⟨k', -, z⟩ | z
    · rcases z with (⟨z | z, -⟩ | ⟨z, -⟩) | ⟨z | z | z, -⟩
      · exact hR.ne hk (k2 := 51) (by decide) h51 z
      · exact hR.ne hk (k2 := 52) (by decide) h52 z
      · exact hR.ne hk (k2 := 50) (by decide) h50 z
      · exact hR.ne hk (k2 := 48) (by decide) h48 z
      · exact hR.ne hk (k2 := 49) (by decide) h49 z
      · exact hR.ne hk (k2 := 50) (by decide) h50 z
    · exact hmr hk z.1
  have hrt16 : g_i M16 (ρ 53) x = n := by rw [hC 53 (by decide) (by decide) (by decide) (by decide) (by decide) (by decide)]; exact hrt7
  have hct16 := (hC 54 (by decide) (by decide) (by decide) (by decide) (by decide) (by decide) x).trans hct7
  have hk16 : ∀ i ∈ V_us h l1 ++ V_uo h o, g_i M16 (ρ 45) (1500 * x + i) ≠ 0 := fun i hi => by
    rw [hC 45 (by decide) (by decide) (by decide) (by decide) (by decide) (by decide)]
    rcases hU16 i hi with g | g
    · rw [g]
      exact hk7 s hs (Or.inr rfl)
    · exact hk7 i (hidl i g).1 (Or.inl g)
  have hent : N_enter (I_c w1 w2) e ⟨h, l.map (V_er h)⟩ = N_grow h (N_come (I_c w1 w2) e h (l.map (V_er h))).1 (N_come (I_c w1 w2) e h (l.map (V_er h))).2 := rfl
  rw [hTC] at hent
  have hupn : us1.Perm (V_ns h n l1 ++ V_nb (h + 1) o.toList) := by
    rw [g1]
    exact (List.Perm.append_left _ hup).trans g2.symm
  rcases o with _ | z
  · refine ⟨fun _ => ?_, fun g => absurd rfl g⟩
    have hupn' : us1.Perm (V_ns h n l1) := by
      have : V_ns h n l1 ++ V_nb (h + 1) ([] : List (N_i V_W (h + 1))) = V_ns h n l1 := List.append_nil _
      rw [← this]
      exact hupn
    exact h84 s M16 h n l1 us1 hs hR16 F16 hent hrt16 hD16 (hupn'.nodup_iff.mp hus16.2.1) hupn' hus16 hct16 fun i hi => hk16 i (List.mem_append_left _ hi)
  · refine ⟨fun g => absurd g (show ¬ ((1 : Int) = 0) by decide), fun _ => ?_⟩
    obtain ⟨dz, ez, h55, h56⟩ := ho16 z rfl
    have hnbz : V_nb (h + 1) (some z).toList = V_ns h (V_n z.1) z.2 := by
      show List.flatMap (fun y : N_i V_W (h + 1) => V_ns h (V_n y.1) y.2) [z] = _
      rw [List.flatMap_cons, List.flatMap_nil, List.append_nil]
    rw [hnbz] at hupn
    have hul1 : us1.length ≤ us.length + (h + 1) := by
      rw [g1, List.length_append]
      omega
    have hzn := dz.lt
    have hzs := ez.1
    obtain ⟨q1, q2⟩ := hR16.at (k := 53) (by decide)
    have q2 : g_A M16 (ρ 53) 1 8 := q2
    refine ⟨ρ 53, q1, 8, q2, ⟨by omega, by omega⟩, e_newNode (d := d + 57) hR16 hx (Or.inl rfl) (hus16.free (by omega)) fun k M26 hk hk0 f26 hk1 hno26 => ?_⟩
    intro _ _ _
    rw [hrt16]
    have hku : k ∉ us1 := fun g => by
      rw [hus16.1 k hk, if_pos g] at hk0
      exact absurd hk0 (by decide)
    have F26 : e_fr (R_C m ρ x (fun j => j = k)) M16 M26 := f26.up fun y q g => R_C.N (A := fun j => j = k) rfl g
    have hR26 := hR16.fr F26
    have hus26 := hus16.nN hk hku f26 hk1
    have h9 := e_insertAt (d := d + 57) (A := []) (B := []) (v := n) (w := 0) (Q := fun M31 => g_ext M26 M31 → g_ok M31 → g_Call (d + 59) 372 [.ref m, g_n x, g_n k, g_n 1, g_n (g_i M31 m 55), g_n (g_i M31 m 56)] M31 (g_qV fun M34 => g_ext M31 M34 → g_ok M34 → ∃ b37, g_r M34 m 53 = some b37 ∧ ∃ n39, g_A M34 b37 1 n39 ∧ ((0 : Int) ≤ (x : Int) ∧ ((x : Int) : Int) < n39) ∧ ∀ M42, M42 = g_wi M34 b37 x k → g_ok M42 → g_Run (d + 59) 378 84 [(0, .ref m), (1, g_n x), (2, g_n o1), (3, g_n o2), (4, g_n no), (5, g_n s)] [] M42 (g_qV Q))) hR26 hx hk hno26 (Nat.zero_le _) ⟨by omega, by omega⟩ ⟨by decide, by decide⟩ (fun y hy => absurd hy (by simp)) fun M31 f31 hno31 => ?_
    · exact h9
    intro _ _
    have F31 : e_fr (R_C m ρ x (fun j => j = k)) M26 M31 := f31.up fun y q g => R_C.A (A := fun j => j = k) rfl g
    have hR31 := hR26.fr F31
    have hus31 := hus26.nA (A := fun j => j = k) hR26 (f31.up fun y q g => ⟨k, rfl, g⟩)
    have hm56 : g_i M31 m 55 = (V_n z.1 : Nat) ∧ g_i M31 m 56 = (V_s z.1 : Nat) := by
      have hmA : ∀ q, ¬ R_nA ρ x k m q := fun q g => by
        rcases g with ⟨g | g, -⟩ | ⟨g, -⟩
        · exact hmr (k := 51) (by decide) g.symm
        · exact hmr (k := 52) (by decide) g.symm
        · exact hmr (k := 50) (by decide) g.symm
      have hmN : ∀ q, ¬ R_nN ρ x k m q := fun q g => by
        rcases g with ⟨g | g | g, -⟩
        · exact hmr (k := 48) (by decide) g.symm
        · exact hmr (k := 49) (by decide) g.symm
        · exact hmr (k := 50) (by decide) g.symm
      rw [f31.2.1 m 55 (hmA _), f26.2.1 m 55 (hmN _), f31.2.1 m 56 (hmA _), f26.2.1 m 56 (hmN _)]
      exact ⟨h55, h56⟩
    rw [hm56.1, hm56.2]
    have h10 := e_insertAt (d := d + 57) (A := [((n : Int), (0 : Int))]) (B := []) (v := (V_n z.1 : Nat)) (w := (V_s z.1 : Nat)) (Q := fun M34 => g_ext M31 M34 → g_ok M34 → ∃ b37, g_r M34 m 53 = some b37 ∧ ∃ n39, g_A M34 b37 1 n39 ∧ ((0 : Int) ≤ (x : Int) ∧ ((x : Int) : Int) < n39) ∧ ∀ M42, M42 = g_wi M34 b37 x k → g_ok M42 → g_Run (d + 59) 378 84 [(0, .ref m), (1, g_n x), (2, g_n o1), (3, g_n o2), (4, g_n no), (5, g_n s)] [] M42 (g_qV Q)) hR31 hx hk hno31 (show 1 ≤ 9 by decide) ⟨by omega, by omega⟩ ⟨by omega, by omega⟩ (fun y hy => by
      have hy : y = ((n : Int), (0 : Int)) := List.mem_singleton.mp hy
      rw [hy]
      exact ⟨⟨by show (-2147483648 : Int) ≤ (n : Int); omega, by show (n : Int) ≤ 2147483647; omega⟩, ⟨by show (-2147483648 : Int) ≤ 0; decide, by show (0 : Int) ≤ 2147483647; decide⟩⟩) fun M34 f34 hno34 => ?_
    · exact h10
    intro _ _
    have F34 : e_fr (R_C m ρ x (fun j => j = k)) M31 M34 := f34.up fun y q g => R_C.A (A := fun j => j = k) rfl g
    have hR34 := hR31.fr F34
    have hus34 := hus31.nA (A := fun j => j = k) hR31 (f34.up fun y q g => ⟨k, rfl, g⟩)
    have FK := (F26.tr F31).tr F34
    obtain ⟨u1, u2⟩ := hR34.at (k := 53) (by decide)
    have u2 : g_A M34 (ρ 53) 1 8 := u2
    refine ⟨ρ 53, u1, 8, u2, ⟨by omega, by omega⟩, fun M42 e42 _ => ?_⟩
    have f42 : e_fr (R_EA m b ρ x) M34 M42 := by
      rw [e42]
      exact e_fr.wi _ (Or.inr (Or.inr (Or.inr (Or.inr (Or.inr (Or.inr ⟨Or.inl rfl, rfl⟩))))))
    have F42 := (F16.tr (FK.up fun y q g => R_C.EA (b := b) (fun j hj => by rw [hj]; exact hk) g)).tr f42
    obtain ⟨w0, hw0⟩ : ∃ w0 : V_W, w0 = ((0, n), V_e z.1) := ⟨_, rfl⟩
    have hav : ∀ j ∈ us1, ∀ y q, R_nd ρ x j y q → ¬ R_C m ρ x (fun j => j = k) y q := fun j hj y q g => R_C_av (A := fun j => j = k) hR16 (fun g2 => hku (by rw [← g2]; exact hj)) g
    have hDl : R_D b ρ x M34 h n l1 := hD16.fr FK (fun y q g => R_C_eA hR16 g) fun j hj => hav j (hupn.mem_iff.mpr (List.mem_append_left _ hj))
    have hDz : R_D b ρ x M34 h (V_n z.1) z.2 := dz.fr FK (fun y q g => R_C_eA hR16 g) fun j hj => hav j (hupn.mem_iff.mpr (List.mem_append_right _ hj))
    have hez : R_e b ρ x (V_s z.1) M34 (V_e z.1) := ez.fr FK fun y q g => R_C_eA hR16 g
    have hD34 : R_D b ρ x M34 (h + 1) k [N_mk h w0 l1, z] := by
      refine R_D_s.mpr ⟨hk, (show 2 ≤ 9 by decide), ⟨_, hno34, fun y hy => ?_, ?_, ?_⟩, fun y hy => ?_, fun y hy => ?_⟩
      · have hy : y ∈ [((n : Int), (0 : Int)), (((V_n z.1 : Nat) : Int), ((V_s z.1 : Nat) : Int))] := hy
        rcases List.mem_cons.mp hy with g | g
        · rw [g]
          exact ⟨⟨by show (-2147483648 : Int) ≤ (n : Int); omega, by show (n : Int) ≤ 2147483647; omega⟩, ⟨by show (-2147483648 : Int) ≤ 0; decide, by show (0 : Int) ≤ 2147483647; decide⟩⟩
        · rw [List.mem_singleton.mp g]
          exact ⟨⟨by show (-2147483648 : Int) ≤ ((V_n z.1 : Nat) : Int); omega, by show ((V_n z.1 : Nat) : Int) ≤ 2147483647; omega⟩, ⟨by show (-2147483648 : Int) ≤ ((V_s z.1 : Nat) : Int); omega, by show ((V_s z.1 : Nat) : Int) ≤ 2147483647; omega⟩⟩
      · have : V_k (h + 1) (N_mk h w0 l1) = n := by
          show V_n w0 = n
          rw [hw0]
          rfl
        show [((n : Int)), ((V_n z.1 : Nat) : Int)] = B_il [V_k (h + 1) (N_mk h w0 l1), V_k (h + 1) z]
        rw [this]
        rfl
      · rfl
      · rw [List.mem_singleton.mp hy]
        exact hez
      · rcases List.mem_cons.mp hy with g | g
        · rw [g]
          show R_D b ρ x M34 h (V_n w0) l1
          rw [hw0]
          exact hDl
        · rw [List.mem_singleton.mp g]
          exact hDz
    have hS34 : ∀ i ∈ R_fs, i ≠ 48 → i ≠ 49 → i ≠ 50 → i ≠ 51 → i ≠ 52 → ∀ q, g_i M34 (ρ i) q = g_i M16 (ρ i) q := fun i hi h48 h49 h50 h51 h52 q => FK.2.1 _ _ fun g => by
      rcases g with ⟨k', -, g⟩ | g
      · rcases g with (⟨g | g, -⟩ | ⟨g, -⟩) | ⟨g | g | g, -⟩
        · exact hR.ne hi (k2 := 51) (by decide) h51 g
        · exact hR.ne hi (k2 := 52) (by decide) h52 g
        · exact hR.ne hi (k2 := 50) (by decide) h50 g
        · exact hR.ne hi (k2 := 48) (by decide) h48 g
        · exact hR.ne hi (k2 := 49) (by decide) h49 g
        · exact hR.ne hi (k2 := 50) (by decide) h50 g
      · exact hmr hi g.1
    have hS42 : ∀ i ∈ R_fs, i ≠ 53 → ∀ q, g_i M42 (ρ i) q = g_i M34 (ρ i) q := fun i hi h53 q => by rw [e42, g_i_wi, if_neg (fun g => hR.ne hi (k2 := 53) (by decide) h53 g.1)]
    have hns : V_ns (h + 1) k [N_mk h w0 l1, z] = k :: (V_ns h n l1 ++ V_ns h (V_n z.1) z.2) := by
      rw [V_ns_s, List.flatMap_cons, List.flatMap_cons, List.flatMap_nil, List.append_nil, hw0]
      rfl
    have hupk : (k :: us1).Perm (V_ns (h + 1) k [N_mk h w0 l1, z]) := by
      rw [hns]
      exact hupn.cons k
    refine h84 s M42 (h + 1) k [N_mk h w0 l1, z] (k :: us1) hs (hR34.fr f42) F42 ?_ ?_ ?_ (hupk.nodup_iff.mp hus34.2.1) hupk ⟨fun j hj => ?_, hus34.2⟩ ?_ fun i hi => ?_
    · rw [hent, hw0]
      rfl
    · rw [e42, g_i_wi, if_pos ⟨rfl, rfl⟩]
    · rw [e42]
      exact R_D.rw53 hR34 (Or.inl rfl) hD34
    · rw [hS42 48 (by decide) (by decide)]
      exact hus34.1 j hj
    · rw [hS42 54 (by decide) (by decide), hS34 54 (by decide) (by decide) (by decide) (by decide) (by decide) (by decide)]
      exact hct16
    · rw [hS42 45 (by decide) (by decide), hS34 45 (by decide) (by decide) (by decide) (by decide) (by decide) (by decide)]
      refine hk16 i ?_
      have hus2 : V_us (h + 1) [N_mk h w0 l1, z] = [V_s z.1] ++ (V_us h l1 ++ V_us h z.2) := by
        rw [V_us_s, List.flatMap_cons, List.flatMap_cons, List.flatMap_nil, List.append_nil]
        rfl
      have huo : V_uo h (some z) = V_s z.1 :: V_us h z.2 := by
        show List.flatMap (fun y : N_i V_W (h + 1) => V_s y.1 :: V_us h y.2) [z] = _
        rw [List.flatMap_cons, List.flatMap_nil, List.append_nil]
      rw [huo]
      rw [hus2] at hi
      rcases List.mem_append.mp hi with g | g
      · exact List.mem_append_right _ (by rw [List.mem_singleton.mp g]; exact List.mem_cons_self)
      · rcases List.mem_append.mp g with g | g
        · exact List.mem_append_left _ g
        · exact List.mem_append_right _ (List.mem_cons_of_mem _ g)
end REN
