/-! TREES OF THE REFERENCE: an entry goes from a tree -/
section RLV
variable {m b d x dn : Nat} {ρ : Nat → Nat} {M M1 : g_M} {w1 w2 : Int} {T : N_T I_E}
theorem R_D.rwi {i : Nat} {k v : Int} (hR : R_rw m b ρ M) (hi : i ∈ R_fs) (hn : i ≠ 46 ∧ i ≠ 49 ∧ i ≠ 50 ∧ i ≠ 51 ∧ i ≠ 52) {h n : Nat} {l : List (N_i V_W h)} (hD : R_D b ρ x M h n l) : R_D b ρ x (g_wi M (ρ i) k v) h n l := by
  have f : e_fr (fun y q => y = ρ i ∧ q = k) M (g_wi M (ρ i) k v) := e_fr.wi v ⟨rfl, rfl⟩
  refine hD.fr f (fun y q z z2 => ?_) fun j _ y q z z2 => ?_
  · rcases z with z | z
    · exact hR.nb hi (z2.1.symm.trans z)
    · exact hR.ne hi (k2 := 46) (by decide) hn.1 (z2.1.symm.trans z)
  · rcases z with (⟨z1 | z1, -⟩ | ⟨z1, -⟩) | ⟨z1, -⟩
    · exact hR.ne hi (k2 := 51) (by decide) hn.2.2.2.1 (z2.1.symm.trans z1)
    · exact hR.ne hi (k2 := 52) (by decide) hn.2.2.2.2 (z2.1.symm.trans z1)
    · exact hR.ne hi (k2 := 50) (by decide) hn.2.2.1 (z2.1.symm.trans z1)
    · exact hR.ne hi (k2 := 49) (by decide) hn.2.1 (z2.1.symm.trans z1)
theorem e_leave {Q : g_M → Prop} {o1 o2 no : Int} {D1 D2 : Nat} {k1 k2 : Int} {nm1 vb1 nm2 vb2 : List Int} (hT : R_Tr m b ρ x dn w1 w2 T M) (hs1 : b_st (g_i M b) 2706210 o1 D1 k1 nm1 vb1) (hs2 : b_st (g_i M b) 2706210 o2 D2 k2 nm2 vb2) (hd1 : o1 + (b_el k1 nm1 vb1).length ≤ 1014000 ∨ 2598000 ≤ o1) (hd2 : o2 + (b_el k2 nm2 vb2).length ≤ 1014000 ∨ 2598000 ≤ o2) (hg : I_eg ((k1, vb1), (k2, vb2), no)) (hno : 0 ≤ no) (hl : (N_all T).length ≤ 1000) (hex : ∃ a ∈ N_all T, I_c w1 w2 a ((k1, vb1), (k2, vb2), no) = 0) (hq : ∀ M1, R_Tr m b ρ x dn w1 w2 (N_leave (I_c w1 w2) ((k1, vb1), (k2, vb2), no) T) M1 → e_fr (R_EA m b ρ x) M M1 → Q M1) : g_Call (d + 60) 383 [.ref m, g_n x, g_n o1, g_n o2, g_n no] M (g_qV Q) := by
  obtain ⟨hR, hx, hw, h47, h, n, l, us, hTe, hrt, hD, hnd, hup, hus, hgd, hct, hkp⟩ := hT
  obtain ⟨e, he⟩ : ∃ e : I_E, e = ((k1, vb1), (k2, vb2), no) := ⟨_, rfl⟩
  rw [← he] at hex hq
  have hwI : I_w w1 ∧ I_w w2 := ⟨hw.2.2.1, hw.2.2.2.1⟩
  have hc := I_c_T hwI.1 hwI.2
  obtain ⟨hok1, aa, -, hok2⟩ := N_leave_ok hc hgd hex
  have hokl := hok2.length_eq
  rw [List.length_cons] at hokl
  subst hTe
  have hln : (N_ins h l).length ≤ 1000 := by rw [V_ins_len] at hl; exact hl
  obtain ⟨z1, -, z3, z4, z5, z6, z7, -⟩ := V_size (rt := n) hgd (by omega)
  obtain ⟨gd1, gd2, gd3, gd4⟩ := hgd
  have gd4 : 0 < h → 2 ≤ (l.map (V_er h)).length := gd4
  rw [List.length_map] at gd4
  obtain ⟨-, -, gk1, -, -⟩ := N_gone_ok hc e h (l.map (V_er h)) gd1 gd2 (by rw [List.length_map]; exact gd4) hex
  rw [List.length_map] at gk1
  have ho1R := hs1.R (by decide)
  have ho2R := hs2.R (by decide)
  have hnoR : g_InR no := hg.2.2
  have hn6 := hD.lt
  obtain ⟨hnds, hUiff⟩ := hus.nds hD hup
  have hfree : ∃ i : Nat, i < 1500 ∧ ¬ i ∈ V_us h l := by
    by_cases hex : ∃ i : Nat, i < 1500 ∧ ¬ i ∈ V_us h l
    · exact hex
    · exfalso
      have h3 := I_nd_le (l := List.range 1500) (m := V_us h l) List.nodup_range fun k hk => by
        by_cases g : k ∈ V_us h l
        · exact g
        · exact absurd ⟨k, List.mem_range.mp hk, g⟩ hex
      rw [List.length_range] at h3
      omega
  have hmr : ∀ {k : Nat}, k ∈ R_fs → ρ k ≠ m := fun hk => hR.nm hk
  have hbr : ∀ {k : Nat}, k ∈ R_fs → ρ k ≠ b := fun hk => hR.nb hk
  have hidl := (R_D_ids hD).2
  -- the end: the entry is counted
  have hend : ∀ (M2 : g_M) (h2 n2 : Nat) (l2 : List (N_i V_W h2)) (us2 : List Nat), R_rw m b ρ M2 → e_fr (R_EA m b ρ x) M M2 → N_leave (I_c w1 w2) e ⟨h, l.map (V_er h)⟩ = ⟨h2, l2.map (V_er h2)⟩ → g_i M2 (ρ 53) x = n2 → R_D b ρ x M2 h2 n2 l2 → (V_ns h2 n2 l2).Nodup → us2.Perm (V_ns h2 n2 l2) → R_us ρ x M2 us2 → g_i M2 (ρ 54) x = (N_all (⟨h, l.map (V_er h)⟩ : N_T I_E)).length → (∀ i ∈ V_us h2 l2, g_i M2 (ρ 45) (1500 * x + i) ≠ 0) → g_i M2 m 47 = -1 → ∃ b36, g_r M2 m 54 = some b36 ∧ ∃ n38, g_A M2 b36 1 n38 ∧ ((0 : Int) ≤ (x : Int) ∧ ((x : Int) : Int) < n38) ∧ g_InR ((g_i M2 b36 x) - 1) ∧ ((0 : Int) ≤ (x : Int) ∧ ((x : Int) : Int) < n38) ∧ ∀ M43, M43 = g_wi M2 b36 x ((g_i M2 b36 x) - 1) → g_ok M43 → Q M43 := by
    intro M2 h2 n2 l2 us2 hR2 f2 hTe2 hrt2 hD2 hnd2 hup2 hus2 hct2 hkp2 h472
    obtain ⟨r1, r2⟩ := hR2.at (k := 54) (by decide)
    have r2 : g_A M2 (ρ 54) 1 8 := r2
    refine ⟨ρ 54, r1, 8, r2, ⟨by omega, by omega⟩, ?_⟩
    rw [hct2]
    refine ⟨⟨by omega, by omega⟩, ⟨by omega, by omega⟩, fun M4 e4 _ => ?_⟩
    have f4 : e_fr (R_EA m b ρ x) M2 M4 := by
      rw [e4]
      exact e_fr.wi _ (Or.inr (Or.inr (Or.inr (Or.inr (Or.inr (Or.inr ⟨Or.inr rfl, rfl⟩))))))
    have F4 := f2.tr f4
    have hsm : ∀ k ∈ R_fs, k ≠ 54 → ∀ q, g_i M4 (ρ k) q = g_i M2 (ρ k) q := fun k hk hk4 q => by
      rw [e4, g_i_wi, if_neg (fun z => hR.ne hk (k2 := 54) (by decide) hk4 z.1)]
    refine hq M4 ⟨hR.fr F4, hx, hw.EA hR F4, ?_, h2, n2, l2, us2, hTe2, ?_, by rw [e4]; exact R_D.rwi hR2 (by decide) ⟨by decide, by decide, by decide, by decide, by decide⟩ hD2, hnd2, hup2, ⟨fun k hk => ?_, hus2.2⟩, hok1, ?_, fun i hi => ?_⟩ F4
    · rw [e4, g_i_wi, if_neg (fun z => hmr (k := 54) (by decide) z.1.symm)]
      exact h472
    · rw [hsm 53 (by decide) (by decide)]
      exact hrt2
    · rw [hsm 48 (by decide) (by decide)]
      exact hus2.1 k hk
    · rw [e4, g_i_wi, if_pos ⟨rfl, rfl⟩]
      omega
    · rw [hsm 45 (by decide) (by decide)]
      exact hkp2 i hi
  refine m_X12_leave (d := d + 59) ⟨by omega, by omega⟩ ho1R ho2R hnoR fun _ => ⟨hR.1.1, e_newEntry (d := d + 53) (U := fun i => i ∈ V_us h l) hR hx h47 hnds hUiff (fun i _ hi => hkp i hi) hfree hs1 hs2 hd1 hd2 hg hno fun s M2 hsU f2 he2 hk2 => ?_⟩
  rw [← he] at he2
  have hs := he2.1
  intro _ _ _
  have F2 : e_fr (R_EA m b ρ x) M M2 := f2.up fun y q z => z.EA hs
  have hR2 := hR.fr F2
  have hS2 : ∀ k ∈ R_fs, k ≠ 45 → k ≠ 46 → ∀ q, g_i M2 (ρ k) q = g_i M (ρ k) q := fun k hk h45 h46 q => f2.2.1 _ _ fun z => by
    rcases z with z | z | z | z
    · exact hR.ne hk (k2 := 45) (by decide) h45 z.1
    · exact hR.ne hk (k2 := 46) (by decide) h46 z.1
    · exact hmr hk z.1
    · exact hbr hk z.1
  have h472 : g_i M2 m 47 = -1 := by
    rw [f2.2.1 m 47 fun z => ?_]
    · exact h47
    · rcases z with z | z | z | z
      · exact hmr (k := 45) (by decide) z.1.symm
      · exact hmr (k := 46) (by decide) z.1.symm
      · have := z.2
        omega
      · exact g_neOA hR.1.1 hR.1.2.2 z.1
  have hD2 : R_D b ρ x M2 h n l := hD.nS hR f2 hsU
  have hus2 : R_us ρ x M2 us := ⟨fun k hk => by rw [hS2 48 (by decide) (by decide) (by decide)]; exact hus.1 k hk, hus.2⟩
  have hrt2 : g_i M2 (ρ 53) x = n := by rw [hS2 53 (by decide) (by decide) (by decide)]; exact hrt
  have hct2 : g_i M2 (ρ 54) x = (N_all (⟨h, l.map (V_er h)⟩ : N_T I_E)).length := by rw [hS2 54 (by decide) (by decide) (by decide)]; exact hct
  obtain ⟨r1, r2⟩ := hR2.at (k := 53) (by decide)
  have r2 : g_A M2 (ρ 53) 1 8 := r2
  refine ⟨ρ 53, r1, 8, r2, ⟨by omega, by omega⟩, ?_⟩
  rw [hrt2]
  obtain ⟨d2, hd2e⟩ : ∃ d2, d + 59 = d2 + h + 44 := ⟨d + 15 - h, by omega⟩
  rw [hd2e]
  refine e_goes (w1 := w1) (w2 := w2) (dn := dn) hx h (us := us) (l := l) (e := e) hR2 (hw.EA hR F2) hD2 gd1 gd2 gd4 z6 hnd (fun k hk => hup.mem_iff.mpr hk) hus2 he2 hex ?_
  intro M12 l1 us1 gone f12 hD12 hTC hus12 hpu hpn hU12 _ _
  rw [hTC, List.length_map] at gk1
  have F12 := F2.tr (f12.up fun y q z => R_C.EA (b := b) (fun k hk => hus.2.2 k (hup.mem_iff.mpr hk)) z)
  have hR12 := hR.fr F12
  have hC : ∀ k ∈ R_fs, k ≠ 48 → k ≠ 49 → k ≠ 50 → k ≠ 51 → k ≠ 52 → ∀ q, g_i M12 (ρ k) q = g_i M2 (ρ k) q := fun k hk h48 h49 h50 h51 h52 q => f12.2.1 _ _ fun z => by
    rcases z with ⟨k', -, z⟩ | z
    · rcases z with (⟨z | z, -⟩ | ⟨z, -⟩) | ⟨z | z | z, -⟩
      · exact hR.ne hk (k2 := 51) (by decide) h51 z
      · exact hR.ne hk (k2 := 52) (by decide) h52 z
      · exact hR.ne hk (k2 := 50) (by decide) h50 z
      · exact hR.ne hk (k2 := 48) (by decide) h48 z
      · exact hR.ne hk (k2 := 49) (by decide) h49 z
      · exact hR.ne hk (k2 := 50) (by decide) h50 z
    · exact hmr hk z.1
  have h4712 : g_i M12 m 47 = -1 := by
    rw [f12.2.1 m 47 fun z => ?_]
    · exact h472
    · rcases z with ⟨k', -, z⟩ | z
      · rcases z with (⟨z | z, -⟩ | ⟨z, -⟩) | ⟨z | z | z, -⟩
        · exact hmr (k := 51) (by decide) z.symm
        · exact hmr (k := 52) (by decide) z.symm
        · exact hmr (k := 50) (by decide) z.symm
        · exact hmr (k := 48) (by decide) z.symm
        · exact hmr (k := 49) (by decide) z.symm
        · exact hmr (k := 50) (by decide) z.symm
      · have := z.2
        omega
  have hup12 : us1.Perm (V_ns h n l1) := (List.perm_append_left_iff gone).mp ((hpu.symm.trans hup).trans hpn)
  have hnd12 : (V_ns h n l1).Nodup := hup12.nodup_iff.mp hus12.2.1
  obtain ⟨q1, q2⟩ := hR12.at (k := 45) (by decide)
  have q2 : g_A M12 (ρ 45) 2 12000 := q2
  refine ⟨ρ 45, q1, ⟨by omega, by omega⟩, ⟨by omega, by omega⟩, 12000, q2, ⟨by omega, by omega⟩, fun M22 e22 _ => ?_⟩
  have f22 : e_fr (R_EA m b ρ x) M12 M22 := by
    rw [e22]
    exact e_fr.wi _ (Or.inl ⟨rfl, by omega, by omega⟩)
  have F22 := F12.tr f22
  have hR22 := hR.fr F22
  have hS22 : ∀ k ∈ R_fs, k ≠ 45 → ∀ q, g_i M22 (ρ k) q = g_i M12 (ρ k) q := fun k hk h45 q => by rw [e22, g_i_wi, if_neg (fun z => hR.ne hk (k2 := 45) (by decide) h45 z.1)]
  have hD22 : R_D b ρ x M22 h n l1 := by
    rw [e22]
    exact R_D.rwi hR12 (by decide) ⟨by decide, by decide, by decide, by decide, by decide⟩ hD12
  have hus22 : R_us ρ x M22 us1 := hus12.sm fun q => hS22 48 (by decide) (by decide) q
  have hrt22 : g_i M22 (ρ 53) x = n := by rw [hS22 53 (by decide) (by decide), hC 53 (by decide) (by decide) (by decide) (by decide) (by decide) (by decide)]; exact hrt2
  have hct22 : g_i M22 (ρ 54) x = (N_all (⟨h, l.map (V_er h)⟩ : N_T I_E)).length := by rw [hS22 54 (by decide) (by decide), hC 54 (by decide) (by decide) (by decide) (by decide) (by decide) (by decide)]; exact hct2
  have hkp22 : ∀ i ∈ V_us h l1, g_i M22 (ρ 45) (1500 * x + i) ≠ 0 := fun i hi => by
    have hil := hU12 i hi
    rw [e22, g_i_wi, if_neg (fun z => hsU (by have := z.2; rw [show s = i by omega]; exact hil)), hC 45 (by decide) (by decide) (by decide) (by decide) (by decide) (by decide)]
    exact hk2 i (hidl i hil).1 (Or.inl hil)
  have h4722 : g_i M22 m 47 = -1 := by rw [e22, g_i_wi, if_neg (fun z => hmr (k := 45) (by decide) z.1.symm)]; exact h4712
  have hlv : N_leave (I_c w1 w2) e ⟨h, l.map (V_er h)⟩ = N_shrink h (l1.map (V_er h)) := by
    rw [← hTC]
    rfl
  obtain ⟨t1, t2⟩ := hR22.at (k := 53) (by decide)
  have t2 : g_A M22 (ρ 53) 1 8 := t2
  obtain ⟨b1, b2, ⟨ps, c1, c2, c3, c4⟩, b4⟩ := R_D_u.mp hD22
  refine ⟨ρ 53, t1, 8, t2, ⟨by omega, by omega⟩, ?_⟩
  rw [hrt22]
  refine e_isLeafN (d := d2 + h + 43) hR22 hx hn6 (by rw [c1.1]; exact (R_ff h).1) ?_
  intro _ _ _
  rw [c1.1]
  refine ⟨fun g => ?_, fun g => ?_⟩
  · have hh : 0 < h := by
      rcases Nat.eq_zero_or_pos h with z | z
      · rw [if_pos z] at g
        exact absurd g (by decide)
      · exact z
    have hl2 := gd4 hh
    refine e_sizeOf (d := d2 + h + 43) hR22 hx hn6 ?_
    intro _ _ _
    rw [hD22.size]
    refine ⟨fun g1 => ?_, fun g1 => ?_⟩
    · -- the root goes
      cases h with
      | zero => exact absurd hh (Nat.lt_irrefl 0)
      | succ h =>
        obtain ⟨z, hz⟩ : ∃ z, l1 = [z] := List.length_eq_one_iff.mp (by omega)
        subst hz
        obtain ⟨-, -, -, -, a5⟩ := R_D_s.mp hD22
        have hch := R_D.ch (A := []) (B := []) (w := z) (h := h) (n := n) (b := b) (ρ := ρ) (x := x) (M := M22) hD22
        have hcast : ((([] : List (N_i V_W (h + 1))).length : Nat) : Int) = 0 := rfl
        rw [hcast] at hch
        have hzD := a5 z List.mem_cons_self
        have hzn := hzD.lt
        have hnsz : V_ns (h + 1) n [z] = n :: V_ns h (V_n z.1) z.2 := by
          rw [V_ns_s, List.flatMap_cons, List.flatMap_nil, List.append_nil]
        rw [hnsz] at hnd12 hup12
        obtain ⟨nn1, nn2⟩ := List.nodup_cons.mp hnd12
        have hnin : n ∈ us1 := hup12.mem_iff.mpr List.mem_cons_self
        have hup2 : (us1.erase n).Perm (V_ns h (V_n z.1) z.2) := by
          have := hup12.erase n
          rwa [List.erase_cons_head] at this
        obtain ⟨u1, u2⟩ := hR22.at (k := 51) (by decide)
        have u2 : g_A M22 (ρ 51) 1 48000 := u2
        refine ⟨ρ 53, t1, ρ 51, u1, e_slot (d := d2 + (h + 1) + 43) hx hn6 (by decide) (by decide) ?_⟩
        intro _ _ _
        refine ⟨48000, u2, ⟨by omega, by omega⟩, 8, t2, ⟨by omega, by omega⟩, ?_⟩
        rw [hch]
        intro M78 e78 _
        have f78 : e_fr (R_EA m b ρ x) M22 M78 := by
          rw [e78]
          exact e_fr.wi _ (Or.inr (Or.inr (Or.inr (Or.inr (Or.inr (Or.inr ⟨Or.inl rfl, rfl⟩))))))
        have hR78 := hR22.fr f78
        obtain ⟨s1, s2⟩ := hR78.at (k := 48) (by decide)
        have s2 : g_A M78 (ρ 48) 2 4800 := s2
        refine ⟨ρ 48, s1, ⟨by omega, by omega⟩, ⟨by omega, by omega⟩, 4800, s2, ⟨by omega, by omega⟩, ?_⟩
        rw [show (x : Int) * 600 + n = 600 * x + n by omega]
        intro M89 e89 _
        have f89 : e_fr (R_EA m b ρ x) M78 M89 := by
          rw [e89]
          exact e_fr.wi _ (Or.inr (Or.inr (Or.inr (Or.inr (Or.inl ⟨Or.inl rfl, by omega, by omega⟩)))))
        have F89 := (F22.tr f78).tr f89
        have hS89 : ∀ k ∈ R_fs, k ≠ 48 → k ≠ 53 → ∀ q, g_i M89 (ρ k) q = g_i M22 (ρ k) q := fun k hk h48 h53 q => by rw [e89, g_i_wi, if_neg (fun z => hR.ne hk (k2 := 48) (by decide) h48 z.1), e78, g_i_wi, if_neg (fun z => hR.ne hk (k2 := 53) (by decide) h53 z.1)]
        have n4853 := hR.ne (k := 48) (k2 := 53) (by decide) (by decide) (by decide)
        refine hend M89 h (V_n z.1) z.2 (us1.erase n) (hR.fr F89) F89 ?_ ?_ ?_ nn2 hup2 (hus22.er hnin ?_ fun q hqq => ?_) ?_ (fun i hi => ?_) ?_
        · rw [hlv]
          rfl
        · rw [e89, g_i_wi, if_neg (fun z => n4853 z.1.symm), e78, g_i_wi, if_pos ⟨rfl, rfl⟩]
        · rw [e89]
          refine R_D.rwi hR78 (by decide) ⟨by decide, by decide, by decide, by decide, by decide⟩ ?_
          rw [e78]
          exact R_D.rwi hR22 (by decide) ⟨by decide, by decide, by decide, by decide, by decide⟩ hzD
        · rw [e89, g_i_wi, if_pos ⟨rfl, rfl⟩]
        · rw [e89, g_i_wi, if_neg (fun z => hqq z.2), e78, g_i_wi, if_neg (fun z => n4853 z.1)]
        · rw [hS89 54 (by decide) (by decide) (by decide)]
          exact hct22
        · rw [hS89 45 (by decide) (by decide) (by decide)]
          refine hkp22 i ?_
          rw [V_us_s]
          exact List.mem_append_right _ (List.mem_flatMap.mpr ⟨z, List.mem_cons_self, hi⟩)
        · rw [e89, g_i_wi, if_neg (fun z => hmr (k := 48) (by decide) z.1.symm), e78, g_i_wi, if_neg (fun z => hmr (k := 53) (by decide) z.1.symm)]
          exact h4722
    · refine hend M22 h n l1 us1 hR22 F22 ?_ hrt22 hD22 hnd12 hup12 hus22 hct22 hkp22 h4722
      rw [hlv]
      exact N_shrink_2 fun _ => by rw [List.length_map]; omega
  · refine hend M22 h n l1 us1 hR22 F22 ?_ hrt22 hD22 hnd12 hup12 hus22 hct22 hkp22 h4722
    have hh : h = 0 := by
      rcases Nat.eq_zero_or_pos h with z | z
      · exact z
      · rw [if_neg (by omega)] at g
        exact absurd rfl g
    rw [hlv]
    exact N_shrink_2 fun z => absurd z (by omega)
end RLV
