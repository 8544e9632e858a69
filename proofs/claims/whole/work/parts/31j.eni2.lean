/-! REQUESTS, THE REFERENCE: a new index, all -/
section ENI2
variable {m d : Nat} {ρ : Nat → Nat} {M M1 : g_M} {st : Nat → I_T} {q : Nat → List (Nat × Int × List b_E)} {v : Nat → Int}
theorem R_EA_m (hB : E_bk m ρ M) {x : Nat} {k : Int} (h : R_EA m (ρ 0) ρ x m k) : k = 4 ∨ k = 5 ∨ k = 6 ∨ k = 47 ∨ k = 55 ∨ k = 56 := by
  have hmne : ∀ k ∈ E_bf, m ≠ ρ k := fun k hk z => hB.nm hk z.symm
  rcases h with ⟨z, -⟩ | ⟨z, -⟩ | ⟨-, z⟩ | ⟨z, -⟩ | ⟨z | z | z, -⟩ | ⟨z | z, -⟩ | ⟨z | z, -⟩
  · exact absurd z (hmne 45 (by decide))
  · exact absurd z (hmne 46 (by decide))
  · exact z
  · exact absurd z (hmne 0 (by decide))
  · exact absurd z (hmne 48 (by decide))
  · exact absurd z (hmne 49 (by decide))
  · exact absurd z (hmne 50 (by decide))
  · exact absurd z (hmne 51 (by decide))
  · exact absurd z (hmne 52 (by decide))
  · exact absurd z (hmne 53 (by decide))
  · exact absurd z (hmne 54 (by decide))
theorem e_newIndex {Q : Int → g_M → Prop} {w D1 D2 De : Nat} {q1 q2 : Int} {nm1 vb1 nm2 vb2 : List Int} {ea ed : b_E} {ra rd : List b_E} {es0 : List b_E} (h : E_H m ρ st q v M) (hS : E_S m (ρ 0) (ρ 9) (g_i M (ρ 0)) M []) (hw : w < 2) (hreq : E_ct (g_i M (ρ 0)) 0 De es0) (hit : (L_at 4 es0)[2]? = some (q2, (4, nm2, vb2))) (hs1 : b_st (g_i M (ρ 0)) 922000 q1 (D1 + 1) 4 nm1 vb1) (hs2 : b_st (g_i M (ρ 0)) 922000 q2 (D2 + 1) 4 nm2 vb2) (hc1 : b_ch vb1 = ea :: ra) (hc2 : b_ch vb2 = ed :: rd) (hlen : ra.length = rd.length) (hra : ra.length ≤ 1) (ha : ∀ e ∈ ea :: ra, I_ptx e) (hd : ∀ e ∈ ed :: rd, e.1 = 8) (hgd : H_gd (R_dn (q w))) (h0n : ∀ z ∈ q w, 0 ≤ z.2.1) (hf : (∀ x, 4 * w ≤ x → x < 4 * w + 4 → st x ≠ none) → Q 0 (g_wi (g_wi M m 7 40) m 8 (-1))) (hn : ∀ k, k < 4 → st (4 * w + k) = none → (∀ j, j < k → st (4 * w + j) ≠ none) → ¬ (((R_dn (q w)).map Prod.snd).map (I_num (I_mkV ea ra ed rd))).sum ≤ 1000 → ∀ M1, E_k m M M1 → E_S m (ρ 0) (ρ 9) (g_i M1 (ρ 0)) M1 [] → (g_i M1 m 40 = 0 ∨ g_i M1 m 40 = 1) → E_H m ρ st q v M1 → Q 0 (g_wi (g_wi M1 m 7 40) m 8 (-1))) (hy : ∀ k, k < 4 → st (4 * w + k) = none → (∀ j, j < k → st (4 * w + j) ≠ none) → (((R_dn (q w)).map Prod.snd).map (I_num (I_mkV ea ra ed rd))).sum ≤ 1000 → ∀ M1 M2, E_k m M M1 → E_S m (ρ 0) (ρ 9) (g_i M1 (ρ 0)) M1 [] → (g_i M1 m 40 = 0 ∨ g_i M1 m 40 = 1) → E_H m ρ (I_up st (4 * w + k) (some (I_mkV ea ra ed rd, I_in (I_mkV ea ra ed rd) (I_mk (I_mkV ea ra ed rd) (Z_t (R_dn (q w)))) N_nil, I_mn (I_key1 (I_mkV ea ra ed rd)) 0 (Z_t (R_dn (q w))), I_mn (I_key2 (I_mkV ea ra ed rd)) 0 (Z_t (R_dn (q w)))))) q v M1 → e_fr (A_L m (ρ 0)) M1 M2 → e_Wr m (ρ 0) 2598000 2606000 (A_doc (b_el 16 (b_tx 82) (b_le4 k))) M2 → (g_i M2 m 6 = 0 → Q 1 M2) ∧ (¬ g_i M2 m 6 = 0 → Q 0 (g_wi (g_wi M2 m 7 40) m 8 (-1)))) : g_Call (d + 73) 421 [.ref m, g_n q1, g_n w] M (g_qI Q) := by
  have hB := h.1
  have hR := hB.R
  have hs := h.2.2.2.2 w hw
  obtain ⟨⟨s1, s2, s3, s4⟩, s5, s6, s7, s8⟩ := id hs
  have hwR : g_InR (w : Int) := ⟨by omega, by omega⟩
  have hl200 := s8.1
  rw [List.length_map] at hl200
  have ne : ∀ {i j : Nat}, i ∈ E_bf → j ∈ E_bf → i ≠ j → ρ i ≠ ρ j := fun h1 h2 h3 => hB.ne h1 h2 h3
  have hq1R : g_InR q1 := by
    have h1 := hs1.2.2.2.1
    have h2 := hs1.2.2.2.2
    exact ⟨by omega, by omega⟩
  obtain ⟨V, hV⟩ : ∃ V, V = I_mkV ea ra ed rd := ⟨_, rfl⟩
  have hvok : I_vok V := by rw [hV]; exact I_vok_mk
  rw [← hV] at hn hy
  have b35 := hB.at (k := 35) (by decide)
  have b35A : g_A M (ρ 35) 2 8 := b35.2
  have b36 := hB.at (k := 36) (by decide)
  have b36A : g_A M (ρ 36) 1 8 := b36.2
  have b68 := hB.at (k := 68) (by decide)
  have b68A : g_A M (ρ 68) 1 2 := b68.2
  have b71 := hB.at (k := 71) (by decide)
  have b72 := hB.at (k := 72) (by decide)
  have b72A : g_A M (ρ 72) 1 400 := b72.2
  have h10 : g_i M m 10 = 0 := hS.2.2.2.1
  have refuse : ∀ {M2 : g_M}, E_bk m ρ M2 → Q 0 (g_wi (g_wi M2 m 7 40) m 8 (-1)) → g_Call (d + 72) 405 [.ref m, g_n 40, g_n (-1)] M2 (g_qI fun r37 M34 => g_ext M2 M34 → g_ok M34 → g_InR r37 → (r37 = 0 ∨ r37 = 1) ∧ Q r37 M34) := fun hB2 hQ => by
    refine m_X12_refuses ⟨by decide, by decide⟩ ⟨by decide, by decide⟩ fun _ => ⟨hB2.1, fun M3 e3 _ M4 e4 _ => ?_⟩
    subst e3
    subst e4
    intro _ _ _
    exact ⟨Or.inl rfl, hQ⟩
  -- where directions stand
  obtain ⟨D20, eD2, hct2, -⟩ := E_ct.of (z := (4, nm2, vb2)) hs2 (Or.inr rfl)
  have hct2 : E_ct (g_i M (ρ 0)) (q2 + 2 + nm2.length) D20 (b_ch vb2) := hct2
  rw [hc2] at hct2
  obtain ⟨c2, hc2e⟩ : ∃ c2 : Int, c2 = q2 + 2 + nm2.length := ⟨_, rfl⟩
  rw [← hc2e] at hct2
  have hc2R : g_InR c2 := by
    have h1 := hct2.2.1
    have h2 := hct2.2.2.1
    exact ⟨by omega, by omega⟩
  obtain ⟨D10, eD1, hct1, -⟩ := E_ct.of (z := (4, nm1, vb1)) hs1 (Or.inr rfl)
  have hct1 : E_ct (g_i M (ρ 0)) (q1 + 2 + nm1.length) D10 (b_ch vb1) := hct1
  -- a place is free
  have hgo : ∀ k, k < 4 → st (4 * w + k) = none → (∀ j, j < k → st (4 * w + j) ≠ none) → g_Run (d + 72) 421 28 [(0, .ref m), (1, g_n q1), (2, g_n w), (3, g_n ((4 * w + k : Nat) : Int))] [] M (g_qI Q) := by
    intro k hk hnone hfirst
    have hn := hn k hk hnone hfirst
    have hy := hy k hk hnone hfirst
    obtain ⟨x, hxe⟩ : ∃ x, x = 4 * w + k := ⟨_, rfl⟩
    rw [← hxe] at hnone hy ⊢
    have hx : x < 8 := by omega
    refine s_X12_newIndex_28 hq1R hwR ⟨by omega, by omega⟩ fun _ => ⟨⟨by omega, by omega⟩, ⟨by omega, by omega⟩, fun z => absurd z (by omega), fun _ => ⟨hB.1, e_itemE (d := d + 67) hR (hreq.tl fun _ _ => rfl) (by decide) ⟨by decide, by decide⟩ ?_⟩⟩
    intro _ _ _
    have h4z : (0 : Int) + 4 = 4 := rfl
    rw [h4z, show (2 : Int).toNat = 2 from rfl, hit]
    show g_Call _ _ [_, g_n q2] _ _
    refine e_value (d := d + 70) hR (hs2.upW fun _ _ => rfl).nm ?_
    intro _ _ _
    rw [show q2 + 1 + (nm2.length : Int) + 1 = c2 by omega]
    refine ⟨ρ 36, b36.1, e_value (d := d + 70) hR (hs1.upW fun _ _ => rfl).nm ?_⟩
    intro _ _ _
    rw [show q1 + 1 + (nm1.length : Int) + 1 = q1 + 2 + nm1.length by omega]
    refine e_countE (d := d + 67) hR (hct1.tl fun _ _ => rfl) ?_
    intro _ _ _
    refine ⟨8, b36A, ⟨by omega, by omega⟩, ?_⟩
    rw [hc1, List.length_cons]
    rintro M29 e29 _
    have f29 : e_fr (R_nx m ρ x) M M29 := by rw [e29]; exact e_fr.wi _ (Or.inr (Or.inr (Or.inl ⟨rfl, rfl⟩)))
    have hB29 := hB.fr f29
    have v36 : g_i M29 (ρ 36) x = ((ra.length + 1 : Nat) : Int) := by rw [e29, g_i_wi, if_pos ⟨rfl, rfl⟩]
    have low : ∀ {M2 : g_M}, e_fr (R_nx m ρ x) M M2 → ∀ j, j < 982000 → g_i M2 (ρ 0) j = g_i M (ρ 0) j := fun f j hj => f.2.1 _ j fun z => by
      have := R_nx_b hB z
      omega
    have st9 : ∀ {M2 : g_M} {p K : Int} {D : Nat} {nm vb : List Int}, e_fr (R_nx m ρ x) M M2 → b_st (g_i M (ρ 0)) 922000 p D K nm vb → b_st (g_i M2 (ρ 0)) 922000 p D K nm vb := fun f h1 => ⟨b_at_keep h1.1 fun j j1 j2 => low f j (by have := h1.2.2.2.2; omega), h1.2⟩
    have ct9 : ∀ {M2 : g_M} {c : Int} {D : Nat} {l : List b_E}, e_fr (R_nx m ρ x) M M2 → E_ct (g_i M (ρ 0)) c D l → E_ct (g_i M2 (ρ 0)) c D l := fun f h1 => ⟨b_at_keep h1.1 fun j j1 j2 => low f j (by have := h1.2.2.1; omega), h1.2⟩
    have hmE : E_k m M M := E_k.rf m M
    have kx : ∀ {M2 : g_M}, e_fr (R_nx m ρ x) M M2 → E_k m M M2 := fun f => f.k (fun z => by have := R_nx_m hB z; omega) fun z => by have := R_nx_m hB z; omega
    -- the entries are counted
    have h250 : ∀ M3, e_fr (R_nx m ρ x) M M3 → E_S m (ρ 0) (ρ 9) (g_i M3 (ρ 0)) M3 [] → R_V m (ρ 36) (ρ 37) (ρ 38) (g_i M3 (ρ 0)) x V M3 → g_i M3 (ρ 39) ((2 * x : Nat) : Int) = 0 → g_i M3 (ρ 39) ((2 * x + 1 : Nat) : Int) = 0 → g_i M3 m 40 = 0 → g_Run (d + 72) 421 250 [(0, .ref m), (1, g_n q1), (2, g_n w), (3, g_n x), (4, g_n c2), (5, g_n 0), (6, g_n 0), (7, g_n 0)] [] M3 (g_qI Q) := by
      intro M3 f3 S3 V3 z1 z2 c3
      have hlp : ∀ (B A : List (Nat × Int × List b_E)) (M4 : g_M), q w = A ++ B → e_fr (E_le m (ρ 9)) M3 M4 → E_S m (ρ 0) (ρ 9) (g_i M4 (ρ 0)) M4 [] → g_i M4 m 40 = (if A.any (fun z => I_long V z.2.2) = true then 1 else 0) → g_Run (d + 72) 421 250 [(0, .ref m), (1, g_n q1), (2, g_n w), (3, g_n x), (4, g_n c2), (5, g_n ((((A.map fun z => z.2.2).map fun es => (I_key1 V es).length * (I_key2 V es).length).sum : Nat) : Int)), (6, g_n 0), (7, g_n A.length)] [] M4 (g_qI Q) := by
        intro B
        induction B with
        | nil =>
          intro A M4 hA f4 S4 c4
          rw [List.append_nil] at hA
          subst hA
          have F4 : e_fr (R_nx m ρ x) M M4 := f3.tr (f4.up fun y k z => Or.inr (Or.inr (Or.inr z)))
          have hB4 := hB.fr F4
          have H4 := h.nx hx hnone F4
          have b68' := hB4.at (k := 68) (by decide)
          have b68A' : g_A M4 (ρ 68) 1 2 := b68'.2
          have hs4 := H4.2.2.2.2 w hw
          obtain ⟨tot, htot⟩ : ∃ tot : Nat, tot = (((q w).map fun z => z.2.2).map fun es => (I_key1 V es).length * (I_key2 V es).length).sum := ⟨_, rfl⟩
          rw [← htot]
          have hfit : (((R_dn (q w)).map Prod.snd).map (I_num V)).sum ≤ 1000 ↔ ((q w).any (fun z => I_long V z.2.2) = false ∧ tot ≤ 1000) := by
            have h1 : (R_dn (q w)).map Prod.snd = (q w).map fun z => z.2.2 := by
              unfold R_dn
              rw [List.map_map]
              rfl
            rw [h1, htot]
            have h2 := @I_num_le V ((q w).map fun z => z.2.2) 0
            rw [Nat.zero_add, Nat.zero_add] at h2
            refine h2.trans ⟨fun ⟨e1, e2⟩ => ⟨?_, e2⟩, fun ⟨e1, e2⟩ => ⟨fun es hes => ?_, e2⟩⟩
            · refine List.any_eq_false.mpr fun z hz => ?_
              rw [e1 z.2.2 (List.mem_map.mpr ⟨z, hz, rfl⟩)]
              decide
            · obtain ⟨z, hz, rfl⟩ := List.mem_map.mp hes
              have := List.any_eq_false.mp e1 z hz
              cases hI : I_long V z.2.2
              · rfl
              · exact absurd hI this
          have htR : (tot : Int) ≤ 200 * 487204 := by
            have : ∀ l : List (Nat × Int × List b_E), (∀ z ∈ l, (b_doc z.2.2).length ≤ 2000 ∧ X_gd 15 z.2.2) → ((l.map fun z => z.2.2).map fun es => (I_key1 V es).length * (I_key2 V es).length).sum ≤ l.length * 487204 := by
              intro l hl
              induction l with
              | nil => exact Nat.le_refl _
              | cons a l ih =>
                rw [List.map_cons, List.map_cons, List.sum_cons, List.length_cons]
                have h1 := ih fun z hz => hl z (List.mem_cons_of_mem _ hz)
                have h2 := I_key12_few hvok (hl a List.mem_cons_self).2 (hl a List.mem_cons_self).1
                omega
            have h9 := this (q w) fun z hz => s8.2.2 z.2.2 (List.mem_map.mpr ⟨z, hz, rfl⟩)
            rw [← htot] at h9
            have : (q w).length * 487204 ≤ 200 * 487204 := Nat.mul_le_mul_right _ hl200
            omega
          have c44 : g_i M4 m 40 = 0 ∨ g_i M4 m 40 = 1 := by
            rw [c4]
            split
            · exact Or.inr rfl
            · exact Or.inl rfl
          refine s_X12_newIndex_250 hq1R hwR ⟨by omega, by omega⟩ hc2R ⟨by omega, by omega⟩ ⟨by decide, by decide⟩ ⟨by omega, by omega⟩ fun _ => ⟨hB4.1, ρ 68, b68'.1, 2, b68A', ⟨by omega, by omega⟩, fun z => absurd z (by rw [hs4.1.2.1]; omega), fun _ => ⟨fun z => refuse hB4 (hn (fun g => by have := (hfit.mp g).2; omega) M4 (kx F4) S4 c44 H4), fun z => ⟨fun zc => ?_, fun zc => refuse hB4 (hn (fun g => zc (by rw [c4, if_neg (by rw [(hfit.mp g).1]; decide)])) M4 (kx F4) S4 c44 H4)⟩⟩⟩
          have hfits : (((R_dn (q w)).map Prod.snd).map (I_num V)).sum ≤ 1000 := hfit.mpr ⟨by
            cases hI : (q w).any (fun z => I_long V z.2.2)
            · rfl
            · rw [c4, if_pos hI] at zc
              exact absurd zc (by decide), by omega⟩
          have hy := hy hfits
          have b35' := hB4.at (k := 35) (by decide)
          have b35A' : g_A M4 (ρ 35) 2 8 := b35'.2
          have V4 : R_V m (ρ 36) (ρ 37) (ρ 38) (g_i M4 (ρ 0)) x V M4 := by
            have hVn := V3.ne (hB.fr f3).1 ((hB.fr f3).at (k := 9) (by decide)).2
            have := V3.fr f4 (fun k z => E_le_n (hB.fr f3) (by decide) (by decide) z) (fun k z => E_le_n (hB.fr f3) (by decide) (by decide) z) fun k z => E_le_n (hB.fr f3) (by decide) (by decide) z
            have e0 : g_i M4 (ρ 0) = g_i M3 (ρ 0) := funext fun k => f4.2.1 _ k (E_le_n (hB.fr f3) (by decide) (by decide))
            rw [e0]
            exact this
          refine ⟨ρ 35, b35'.1, 8, b35A', ⟨by omega, by omega⟩, ?_⟩
          rintro M17 e17 _
          have f17 : e_fr (fun y k => y = ρ 35 ∧ k = x) M4 M17 := by rw [e17]; exact e_fr.wi _ ⟨rfl, rfl⟩
          have hB17 := hB4.fr f17
          have V17 : R_V m (ρ 36) (ρ 37) (ρ 38) (g_i M17 (ρ 0)) x V M17 := by
            have := V4.fr f17 (fun k z => ne (by decide) (by decide) (by decide) z.1) (fun k z => ne (by decide) (by decide) (by decide) z.1) fun k z => ne (by decide) (by decide) (by decide) z.1
            have e0 : g_i M17 (ρ 0) = g_i M4 (ρ 0) := funext fun k => f17.2.1 _ k fun z => ne (by decide) (by decide) (by decide) z.1
            rw [e0]
            exact this
          have hmne : ∀ k ∈ E_bf, m ≠ ρ k := fun k hk z => hB.nm hk z.symm
          have h4717 : g_i M17 m 47 = -1 := by
            rw [f17.2.1 m 47 fun z => hmne 35 (by decide) z.1]
            exact H4.2.1
          have hwy17 : R_wy m x V.1 V.2.1 (ρ 38) M17 := ⟨V17.1.2.2.2.2.1, V17.1.2.2.2.2.2, hvok.1, hvok.2.1, V17.2.2.2.2.2.2.2.2.1, V17.2.2.2.2.2.2.2.2.2⟩
          refine e_dropTree (d := d + 68) hB17.rw hx hwy17 h4717 fun M21 T21 f21 => ?_
          intro _ _
          have F21 : e_fr (fun y k => (y = ρ 35 ∧ k = x) ∨ R_EF m (ρ 0) (ρ 9) ρ x y k) M4 M21 := (f17.up fun y k z => Or.inl z).tr (f21.up fun y k z => Or.inr (Or.inr z))
          have f21' : e_fr (R_EF m (ρ 0) (ρ 9) ρ x) M17 M21 := f21.up fun y k z => Or.inr z
          have hBs := hB17.fr f21
          have n21 : ∀ {k : Nat} {j : Int}, k ∈ E_bf → k ≠ 9 → k ≠ 0 → k ∉ R_fs → g_i M21 (ρ k) j = g_i M17 (ρ k) j := fun hk h9 h0 hf => f21'.2.1 _ _ (R_EF_n hB17.rw (hB17.ne hk (by decide) h9) (hB17.nm hk) (hB17.ne hk (by decide) h0) fun k2 hk2 => hB17.ne hk (E_fs_bf k2 hk2).1 fun z => hf (z ▸ hk2))
          have H21 : E_H m ρ (I_up st x (some (V, N_nil, 0, 0))) q v M21 := by
            refine H4.upd F21 hx (fun w2 hw2 y k z g => ?_) (fun x2 hx2 hxx y k z g => ?_) (fun k hk g => ?_) T21.2.2.2.1 ⟨?_, V17.EF hB17 f21', T21, ⟨?_, ?_⟩, Or.inl rfl, Or.inl rfl⟩
            · rcases g with ⟨g1, g2⟩ | g
              · exact R_hP_xP hB hw2 (x := x) (Or.inr (Or.inl ⟨Or.inl g1, g2⟩)) z
              · exact R_hP_EF hB hw2 z g
            · rcases g with ⟨g1, g2⟩ | g
              · rcases z with z | ⟨-, z1⟩ | ⟨z, -⟩ | ⟨z, -⟩
                · rcases R_PX_y hB.rw z with e | ⟨j, hj, e⟩
                  · exact ne (i := 35) (j := 0) (by decide) (by decide) (by decide) (g1.symm.trans e)
                  · have := hB.key (by decide) (E_fs_bf j hj).1 g1 e
                    rw [← this] at hj
                    exact absurd hj (by decide)
                · omega
                · rcases z with z | z | z
                  · exact absurd (hB.key (by decide) (by decide) g1 z) (by decide)
                  · exact absurd (hB.key (by decide) (by decide) g1 z) (by decide)
                  · exact absurd (hB.key (by decide) (by decide) g1 z) (by decide)
                · exact absurd (hB.key (by decide) (by decide) g1 z) (by decide)
              · exact R_xP_EF hB hx2 hxx z g
            · rcases g with ⟨g, -⟩ | g
              · exact ne (i := 0) (j := 35) (by decide) (by decide) (by decide) g
              · have := R_EF_b hB.rw (ne (by decide) (by decide) (by decide)) g
                omega
            · rw [n21 (by decide) (by decide) (by decide) (by decide), e17, g_i_wi, if_pos ⟨rfl, rfl⟩]
            · rw [n21 (by decide) (by decide) (by decide) (by decide), f17.2.1 _ _ fun z => ne (by decide) (by decide) (by decide) z.1, f4.2.1 _ _ (E_le_n (hB.fr f3) (by decide) (by decide))]
              exact z1
            · rw [n21 (by decide) (by decide) (by decide) (by decide), f17.2.1 _ _ fun z => ne (by decide) (by decide) (by decide) z.1, f4.2.1 _ _ (E_le_n (hB.fr f3) (by decide) (by decide))]
              exact z2
          have F21a : e_fr (fun y k => (y = ρ 35 ∧ k = x) ∨ R_EA m (ρ 0) ρ x y k) M4 M21 := (f17.up fun y k z => Or.inl z).tr (f21.up fun y k z => Or.inr z)
          have m21 : ∀ k, k = 2 ∨ k = 24 ∨ k = 10 ∨ k = 40 → g_i M21 m k = g_i M4 m k := fun k hk => F21a.2.1 m k fun z => by
            rcases z with ⟨z, -⟩ | z
            · exact hmne 35 (by decide) z
            · have := R_EA_m hB z
              omega
          have S21 : E_S m (ρ 0) (ρ 9) (g_i M21 (ρ 0)) M21 [] := by
            obtain ⟨a1, a2, a3, a4, a5, a6, a7⟩ := S4
            exact ⟨F21a.R a1, by rw [F21a.2.2]; exact a2, F21a.A a3, by rw [m21 10 (by omega)]; exact a4, b_nil _ _, rfl, a7⟩
          have K21 : E_k m M M21 := (kx F4).tr ⟨F21a.1, F21a.2.2, m21 2 (by omega), m21 24 (by omega)⟩
          have hlg : ∀ z ∈ Z_t (R_dn (q w)), I_long V z.2.2 = false := fun z hz => by
            obtain ⟨u, hu, rfl⟩ := List.mem_map.mp hz
            obtain ⟨u2, hu2, rfl⟩ := List.mem_map.mp hu
            have := List.any_eq_false.mp (hfit.mp hfits).1 u2 hu2
            cases hI : I_long V u2.2.2
            · rfl
            · exact absurd hI this
          have hcan : I_can V N_nil (I_mk V (Z_t (R_dn (q w)))) := by
            refine (I_ok.inn (zs := Z_t (R_dn (q w))) (T := N_nil) (by rw [Z_t_k]; exact I_ok.nil hvok) (by rw [Z_t_2]; exact hgd) hlg ?_).1
            rw [Z_t_2, I_all_len]
            have h1 : (R_dn (q w)).map Prod.snd = (q w).map fun z => z.2.2 := by
              unfold R_dn
              rw [List.map_map]
              rfl
            rw [h1, ← htot]
            exact (hfit.mp hfits).2
          have h328 : ∀ (B A : List (Nat × Int × List b_E)) (M5 : g_M), q w = A ++ B → E_k m M M5 → E_S m (ρ 0) (ρ 9) (g_i M5 (ρ 0)) M5 [] → (g_i M5 m 40 = 0 ∨ g_i M5 m 40 = 1) → E_H m ρ (I_up st x (some (V, I_in V (I_mk V (Z_t (R_dn A))) N_nil, I_mn (I_key1 V) 0 (Z_t (R_dn A)), I_mn (I_key2 V) 0 (Z_t (R_dn A))))) q v M5 → g_Run (d + 72) 421 328 [(0, .ref m), (1, g_n q1), (2, g_n w), (3, g_n x), (4, g_n c2), (5, g_n tot), (6, g_n 0), (7, g_n A.length)] [] M5 (g_qI Q) := by
            intro B
            induction B with
            | nil =>
              intro A M5 hA K5 S5 c5 H5
              rw [List.append_nil] at hA
              subst hA
              have hB5 := H5.1
              have b68' := hB5.at (k := 68) (by decide)
              have b68A' : g_A M5 (ρ 68) 1 2 := b68'.2
              have hs5 := H5.2.2.2.2 w hw
              refine s_X12_newIndex_328 hq1R hwR ⟨by omega, by omega⟩ hc2R ⟨by omega, by omega⟩ ⟨by decide, by decide⟩ ⟨by omega, by omega⟩ fun _ => ⟨hB5.1, ρ 68, b68'.1, 2, b68A', ⟨by omega, by omega⟩, fun z => absurd z (by rw [hs5.1.2.1]; omega), fun _ => e_beginAnswer (d := d + 68) hB5.R fun M7 f7 W7 h77 => ?_⟩
              intro _ _
              refine ⟨⟨by omega, by omega⟩, ⟨by omega, by omega⟩, ?_⟩
              rw [show (x : Int) - 4 * w = k by omega]
              refine e_putNumber (d := d + 68) (j := 82) (by decide) W7 ⟨by omega, by omega⟩ fun M12 f12 W12 => ?_
              intro _ _
              refine e_endAnswer (d := d + 69) W12 ?_ fun M15 f15 W15 => ?_
              · have h77' : g_i M12 m 77 = g_i M7 m 77 := f12.2.1 m 77 fun z => by
                  rcases z with ⟨-, z⟩ | ⟨z, -⟩
                  · omega
                  · exact hB5.nm (k := 0) (by decide) z.symm
                rw [h77']
                exact h77
              · have hfin := hy M5 M15 K5 S5 c5 H5 (f7.tr ((f12.up fun y k z => A_L.w z).tr f15)) W15
                exact ⟨fun z => by
                  intro _ _ _
                  exact ⟨Or.inr rfl, hfin.1 z⟩, fun z => by
                  intro _ _ _
                  exact ⟨Or.inl rfl, hfin.2 z⟩⟩
            | cons z B ih =>
              intro A M5 hA K5 S5 c5 H5
              have hll := congrArg List.length hA
              rw [List.length_append, List.length_cons] at hll
              have hzi : (q w)[A.length]? = some z := by
                rw [hA, List.getElem?_append_right (Nat.le_refl _), Nat.sub_self]
                rfl
              have hzm : z ∈ q w := List.mem_of_getElem? hzi
              have hB5 := H5.1
              have hs5 := H5.2.2.2.2 w hw
              have hat := fun {M' : g_M} (hs' : R_hs ρ w (q w) (v w) M') => hs'.2.2.1 A.length z hzi
              obtain ⟨k1, k2, k3, k4, k5⟩ := hat hs5
              obtain ⟨zl, zg⟩ := s8.2.2 z.2.2 (List.mem_map.mpr ⟨z, hzm, rfl⟩)
              have b68' := hB5.at (k := 68) (by decide)
              have b68A' : g_A M5 (ρ 68) 1 2 := b68'.2
              have hT : ∀ {M' : g_M}, E_bk m ρ M' → R_tb m (ρ 68) (ρ 71) M' := fun h' => ⟨(h'.at (k := 68) (by decide)).1, (h'.at (k := 68) (by decide)).2, (h'.at (k := 71) (by decide)).1, (h'.at (k := 71) (by decide)).2⟩
              refine s_X12_newIndex_328 hq1R hwR ⟨by omega, by omega⟩ hc2R ⟨by omega, by omega⟩ ⟨by decide, by decide⟩ ⟨by omega, by omega⟩ fun _ => ⟨hB5.1, ρ 68, b68'.1, 2, b68A', ⟨by omega, by omega⟩, fun _ => e_doc1 (d := d + 71) (w := (w : Int)) (i := A.length) (s := z.1) hB5.R (hT hB5) (by omega) (by omega) k2 (by omega) (by omega) ?_, fun z => absurd (by rw [hs5.1.2.1]; omega) z⟩
              intro _ _ _
              refine e_mkX (d := d) (x := x) H5 S5 c5 hx (if_pos rfl) hvok ⟨k5, by omega, by omega, zg⟩ zl (Nat.zero_le _) fun M25 f25 S25 c25 H25 => ?_
              intro _ _
              have hB25 := H25.1
              obtain ⟨-, k2', k3', -, k5'⟩ := hat (H25.2.2.2.2 w hw)
              refine e_doc1 (d := d + 71) (w := (w : Int)) (i := A.length) (s := z.1) hB25.R (hT hB25) (by omega) (by omega) k2' (by omega) (by omega) ?_
              intro _ _ _
              have b72' := hB25.at (k := 72) (by decide)
              have b72A' : g_A M25 (ρ 72) 1 400 := b72'.2
              refine ⟨ρ 72, b72'.1, ⟨by omega, by omega⟩, ⟨by omega, by omega⟩, 400, b72A', ⟨by omega, by omega⟩, ?_⟩
              rw [k3']
              have hdA : R_dn (A ++ [z]) = R_dn A ++ [z.2] := List.map_append
              have hzA : Z_t (R_dn (A ++ [z])) = Z_t (R_dn A) ++ [(true, z.2)] := by rw [hdA, Z_t_app]; rfl
              have hmk : I_mk V (Z_t (R_dn (q w))) = I_mk V (Z_t (R_dn A)) ++ (I_ens V z.2.2 z.2.1 ++ I_mk V (Z_t (R_dn B))) := by
                have e1 : R_dn (q w) = R_dn A ++ z.2 :: R_dn B := by
                  rw [hA]
                  unfold R_dn
                  rw [List.map_append, List.map_cons]
                have e2 : Z_t (R_dn (q w)) = Z_t (R_dn A) ++ (true, z.2) :: Z_t (R_dn B) := by
                  rw [e1, Z_t_app]
                  rfl
                rw [e2, I_mk_app, I_mk_c, if_pos rfl]
              have hcz : I_can V (I_in V (I_mk V (Z_t (R_dn A))) N_nil) (I_ens V z.2.2 z.2.1) := by
                have h1 := hcan
                rw [hmk] at h1
                exact (I_can.app hvok N_nil_good h1).1.pre
              refine e_entX (d := d + 1) (x := x) H25 S25 c25 hx (if_pos rfl) ⟨k5', by omega, by omega, zg⟩ zl (Nat.zero_le _) (Or.inr rfl) ⟨fun z => absurd z (by decide), fun _ => hcz⟩ (h0n z hzm) k4 fun M40 f40 S40 c40 H40 => ?_
              intro _ _
              refine ⟨⟨by omega, by omega⟩, ?_⟩
              have h9 := ih (A ++ [z]) M40 (by rw [hA]; simp) ((K5.tr (f25.k (R_MF_k hB5 (Or.inl rfl)) (R_MF_k hB5 (Or.inr rfl)))).tr (f40.k (R_EF_k hB25 (Or.inl rfl)) (R_EF_k hB25 (Or.inr rfl)))) S40 c40 (by
                have e1 : I_up st x (some (V, I_in V (I_mk V (Z_t (R_dn (A ++ [z])))) N_nil, I_mn (I_key1 V) 0 (Z_t (R_dn (A ++ [z]))), I_mn (I_key2 V) 0 (Z_t (R_dn (A ++ [z]))))) = I_up (I_up (I_up st x (some (V, I_in V (I_mk V (Z_t (R_dn A))) N_nil, I_mn (I_key1 V) 0 (Z_t (R_dn A)), I_mn (I_key2 V) 0 (Z_t (R_dn A))))) x (some (V, I_in V (I_mk V (Z_t (R_dn A))) N_nil, if 1 < (I_key1 V z.2.2).length then 1 else I_mn (I_key1 V) 0 (Z_t (R_dn A)), if 1 < (I_key2 V z.2.2).length then 1 else I_mn (I_key2 V) 0 (Z_t (R_dn A))))) x (some (V, I_io 1 V (I_ens V z.2.2 z.2.1) (I_in V (I_mk V (Z_t (R_dn A))) N_nil), if 1 < (I_key1 V z.2.2).length then 1 else I_mn (I_key1 V) 0 (Z_t (R_dn A)), if 1 < (I_key2 V z.2.2).length then 1 else I_mn (I_key2 V) 0 (Z_t (R_dn A)))) := by
                  funext y
                  unfold I_up
                  by_cases g : y = x
                  · rw [if_pos g, if_pos g, hzA, I_mn_yes _ _ _ (z := (true, z.2)) rfl, I_mn_yes _ _ _ (z := (true, z.2)) rfl, I_mk_app, I_mk_1, if_pos rfl, I_in_app, I_io_1 (by decide)]
                  · rw [if_neg g, if_neg g, if_neg g, if_neg g]
                rw [e1]
                exact H40)
              rwa [show ((A ++ [z]).length : Int) = (A.length : Int) + 1 by rw [List.length_append, List.length_singleton]; omega] at h9
          have h9 := h328 (q w) [] M21 rfl K21 S21 (by rw [m21 40 (by omega)]; exact Or.inl zc) H21
          exact h9
        | cons z B ih =>
          intro A M4 hA f4 S4 c4
          have hll := congrArg List.length hA
          rw [List.length_append, List.length_cons] at hll
          have F4 : e_fr (R_nx m ρ x) M M4 := f3.tr (f4.up fun y k z => Or.inr (Or.inr (Or.inr z)))
          have hB3 := hB.fr f3
          have hB4 := hB.fr F4
          have H4 := h.nx hx hnone F4
          have hs4 := H4.2.2.2.2 w hw
          have hzi : (q w)[A.length]? = some z := by
            rw [hA, List.getElem?_append_right (Nat.le_refl _), Nat.sub_self]
            rfl
          have hzm : z ∈ q w := List.mem_of_getElem? hzi
          obtain ⟨k1, k2, k3, k4, k5⟩ := hs4.2.2.1 A.length z hzi
          obtain ⟨zl, zg⟩ := s8.2.2 z.2.2 (List.mem_map.mpr ⟨z, hzm, rfl⟩)
          have b68' := hB4.at (k := 68) (by decide)
          have b68A' : g_A M4 (ρ 68) 1 2 := b68'.2
          have V4 : R_V m (ρ 36) (ρ 37) (ρ 38) (g_i M4 (ρ 0)) x V M4 := by
            have := V3.fr f4 (fun k z => E_le_n hB3 (by decide) (by decide) z) (fun k z => E_le_n hB3 (by decide) (by decide) z) fun k z => E_le_n hB3 (by decide) (by decide) z
            have e0 : g_i M4 (ρ 0) = g_i M3 (ρ 0) := funext fun k => f4.2.1 _ k (E_le_n hB3 (by decide) (by decide))
            rw [e0]
            exact this
          have hT4 : R_tb m (ρ 68) (ρ 71) M4 := ⟨b68'.1, b68A', (hB4.at (k := 71) (by decide)).1, (hB4.at (k := 71) (by decide)).2⟩
          obtain ⟨l1, l2⟩ := I_u_len1 (c := 2000 + 2000 * (z.1 : Int)) hvok zg
          obtain ⟨sm, hsm⟩ : ∃ sm : Nat, sm = ((A.map fun z => z.2.2).map fun es => (I_key1 V es).length * (I_key2 V es).length).sum := ⟨_, rfl⟩
          have hsmR : sm ≤ 200 * 487204 := by
            have : ∀ l : List (Nat × Int × List b_E), (∀ z ∈ l, (b_doc z.2.2).length ≤ 2000 ∧ X_gd 15 z.2.2) → ((l.map fun z => z.2.2).map fun es => (I_key1 V es).length * (I_key2 V es).length).sum ≤ l.length * 487204 := by
              intro l hl
              induction l with
              | nil => exact Nat.le_refl _
              | cons a l ih =>
                rw [List.map_cons, List.map_cons, List.sum_cons, List.length_cons]
                have h1 := ih fun z hz => hl z (List.mem_cons_of_mem _ hz)
                have h2 := I_key12_few hvok (hl a List.mem_cons_self).2 (hl a List.mem_cons_self).1
                omega
            have h9 := this A fun z hz => s8.2.2 z.2.2 (List.mem_map.mpr ⟨z, by rw [hA]; exact List.mem_append_left _ hz, rfl⟩)
            rw [← hsm] at h9
            exact Nat.le_trans h9 (Nat.mul_le_mul_right _ (by omega))
          rw [← hsm]
          refine s_X12_newIndex_250 hq1R hwR ⟨by omega, by omega⟩ hc2R ⟨by omega, by omega⟩ ⟨by decide, by decide⟩ ⟨by omega, by omega⟩ fun _ => ⟨hB4.1, ρ 68, b68'.1, 2, b68A', ⟨by omega, by omega⟩, fun _ => e_doc1 (d := d + 71) (w := (w : Int)) (i := A.length) (s := z.1) hB4.R hT4 (by omega) (by omega) k2 (by omega) (by omega) ?_, fun z => absurd (by rw [hs4.1.2.1]; omega) z⟩
          intro _ _ _
          refine e_entriesOf (d := d + 2) (tl := g_i M4 m 40) S4 V4 ⟨k5, by omega, by omega, zg⟩ zl H4.2.2.1 (Nat.zero_le _) (by
            rw [c4]
            split
            · exact Or.inr rfl
            · exact Or.inl rfl) rfl fun M34 P1 P2 f34 _ S34 u1 u2 h4034 _ _ _ _ => ?_
          intro _ _ _
          have h4034 := h4034.trans (I_tl2_long (tl := g_i M4 m 40) (c := 2000 + 2000 * (z.1 : Int)) hvok zg)
          rw [l1, l2]
          obtain ⟨P, hP⟩ : ∃ P : Nat, P = (I_key1 V z.2.2).length * (I_key2 V z.2.2).length := ⟨_, rfl⟩
          have hPb := I_key12_few hvok zg zl
          rw [← hP] at hPb ⊢
          refine ⟨⟨by omega, by omega⟩, fun M40 e40 _ => ⟨⟨by omega, by omega⟩, ?_⟩⟩
          obtain ⟨S40, f40⟩ := S34.cut0
          rw [← e40] at S40 f40
          have F40 := (f4.tr f34).tr f40
          have hb40 : g_i M40 (ρ 0) = g_i M4 (ρ 0) := S40.leF
          have h9 := ih (A ++ [z]) M40 (by rw [hA]; simp) F40 (by rw [hb40]; exact S40) (by
            rw [e40, g_i_wi, if_neg (fun z => absurd z.2 (by decide)), h4034, c4, List.any_append, List.any_cons, List.any_nil, Bool.or_false]
            cases I_long V z.2.2
            · rw [Bool.or_false]
              rfl
            · rw [Bool.or_true]
              rfl)
          rw [List.map_append, List.map_append, List.sum_append_nat, ← hsm, List.map_singleton, List.map_singleton, List.sum_singleton, ← hP] at h9
          rwa [show ((A ++ [z]).length : Int) = (A.length : Int) + 1 by rw [List.length_append, List.length_singleton]; omega, show ((sm + P : Nat) : Int) = (sm : Int) + (P : Nat) by omega] at h9
      exact hlp (q w) [] M3 rfl (e_fr.rf _ _) S3 c3
    -- the paths are kept
    have hxk : ∀ k : Nat, k < 2 → ∀ M3, e_fr (R_nP ρ x k) M29 M3 → e_fr (R_nx m ρ x) M29 M3 := fun k hk M3 f => f.up fun y j z => by
      have : k = 0 ∨ k = 1 := by omega
      rcases this with g | g
      · subst g
        exact Or.inl z
      · subst g
        exact Or.inr (Or.inl z)
    have hend : ∀ M3, e_fr (R_nx m ρ x) M M3 → E_S m (ρ 0) (ρ 9) (g_i M3 (ρ 0)) M3 [] → R_V m (ρ 36) (ρ 37) (ρ 38) (g_i M3 (ρ 0)) x V M3 → g_i M3 (ρ 39) ((2 * x : Nat) : Int) = 0 → g_i M3 (ρ 39) ((2 * x + 1 : Nat) : Int) = 0 → g_Run (d + 72) 421 75 [(0, .ref m), (1, g_n q1), (2, g_n w), (3, g_n x), (4, g_n c2), (5, g_n 2)] [] M3 (g_qI Q) := by
      intro M3 f3 S3 V3 z1 z2
      have hB3 := hB.fr f3
      refine s_X12_newIndex_75 hq1R hwR ⟨by omega, by omega⟩ hc2R ⟨by decide, by decide⟩ fun _ => ⟨fun z => absurd z (by decide), fun _ => ⟨hB3.1, fun M4 e4 _ => ?_⟩⟩
      obtain ⟨S4, f4⟩ := S3.le (k := 40) rfl (vv := 0)
      rw [← e4] at S4 f4
      have hb4 : g_i M4 (ρ 0) = g_i M3 (ρ 0) := S4.leF
      have h103 : g_i M3 m 10 = 0 := S3.2.2.2.1
      rw [h103]
      have hn4 : ∀ {i : Nat} {j : Int}, i ∈ E_bf → i ≠ 9 → ¬ E_le m (ρ 9) (ρ i) j := fun hi h9 => E_le_n hB3 hi h9
      refine h250 M4 (f3.tr (f4.up fun y k z => Or.inr (Or.inr (Or.inr z)))) (by rw [hb4]; exact S4) (by
        rw [hb4]
        exact V3.fr f4 (fun k => hn4 (by decide) (by decide)) (fun k => hn4 (by decide) (by decide)) fun k => hn4 (by decide) (by decide)) ?_ ?_ (by rw [e4, g_i_wi, if_pos ⟨rfl, rfl⟩])
      · rw [f4.2.1 _ _ (hn4 (by decide) (by decide))]
        exact z1
      · rw [f4.2.1 _ _ (hn4 (by decide) (by decide))]
        exact z2
    have hb37 := hB.at (k := 37) (by decide)
    have hb37A : g_A M (ρ 37) 1 16 := hb37.2
    have hb38 := hB.at (k := 38) (by decide)
    have hb38A : g_A M (ρ 38) 2 16 := hb38.2
    have Snx : ∀ {M3 : g_M}, e_fr (R_nx m ρ x) M M3 → g_i M3 m 10 = 0 → E_S m (ρ 0) (ρ 9) (g_i M3 (ρ 0)) M3 [] := fun f h0 => by
      obtain ⟨a1, a2, a3, a4, a5, a6, a7⟩ := hS
      exact ⟨f.R a1, by rw [f.2.2]; exact a2, f.A a3, h0, b_nil _ _, rfl, a7⟩
    have h1029 : g_i M29 m 10 = 0 := by
      rw [e29, g_i_wi, if_neg (fun z => hB.nm (k := 36) (by decide) z.1.symm)]
      exact h10
    have hR_V : ∀ {M3 : g_M}, e_fr (R_nx m ρ x) M M3 → g_i M3 (ρ 36) x = ((ra.length + 1 : Nat) : Int) → R_pt (g_i M3 (ρ 0)) M3 (ρ 37) (2 * x) (p_sp (s_tx ea.2.2)) → (∀ e ∈ ra, R_pt (g_i M3 (ρ 0)) M3 (ρ 37) (2 * x + 1) (p_sp (s_tx e.2.2))) → g_i M3 (ρ 38) ((2 * x : Nat) : Int) = (if S_tr ed = true then 1 else 0) → g_i M3 (ρ 38) ((2 * x + 1 : Nat) : Int) = (if I_wy rd = -1 then 1 else 0) → R_V m (ρ 36) (ρ 37) (ρ 38) (g_i M3 (ρ 0)) x V M3 := by
      intro M3 f3 e36 p1 p2 d1 d2
      have hw1 : (if I_wy (ed :: rd) = -1 then (1 : Int) else 0) = if S_tr ed = true then 1 else 0 := by
        show (if (if S_tr ed = true then (-1 : Int) else 1) = -1 then (1 : Int) else 0) = _
        by_cases g : S_tr ed = true
        · rw [if_pos g, if_pos rfl, if_pos g]
        · rw [if_neg g, if_neg (by decide), if_neg g]
      rw [hV]
      refine ⟨⟨by rw [f3.2.2]; exact b36.1, f3.A b36A, by rw [f3.2.2]; exact hb37.1, f3.A hb37A, by rw [f3.2.2]; exact hb38.1, f3.A hb38A⟩, hx, p1, ?_, ?_, fun st2 hst2 => ?_, I_wy_w (ed :: rd), I_wy_w rd, ?_, d2⟩
      · rw [e36]
        omega
      · rw [e36]
        rcases ra with _ | ⟨e, l⟩
        · exact ⟨fun _ => rfl, fun _ => rfl⟩
        · refine ⟨fun z => absurd z (by simp [I_mkV, I_p2]), fun z => ?_⟩
          rw [List.length_cons] at z
          omega
      · rcases ra with _ | ⟨e, l⟩
        · exact absurd hst2 (by simp [I_mkV, I_p2])
        · have h1 : some (p_sp (s_tx e.2.2)) = some st2 := hst2
          rw [← Option.some.inj h1]
          exact p2 e List.mem_cons_self
      · rw [d1]
        exact hw1.symm
    have hla : (L_at (q1 + 2 + nm1.length + 4) (b_ch vb1))[0]? = some (q1 + 2 + nm1.length + 4, ea) := by
      rw [hc1]
      rfl
    have hld : (L_at (c2 + 4) (ed :: rd))[0]? = some (c2 + 4, ed) := rfl
    refine e_nix1 (d := d + 64) (k := 0) (pa := q1 + 2 + nm1.length + 4) (pd := c2 + 4) (ea := ea) (ed := ed) hwR hB29 hx (by decide) (by rw [v36]; omega) (st9 f29 hs1) hla (ha ea List.mem_cons_self) (ct9 f29 hct2) hld (hd ed List.mem_cons_self) fun M30 f30 m30 d30 p30 => ?_
    have F30 := f29.tr (hxk 0 (by decide) M30 f30)
    have hB30 := hB.fr F30
    have v3630 : g_i M30 (ρ 36) x = ((ra.length + 1 : Nat) : Int) := by
      rw [f30.2.1 _ _ (R_nP_n hB29 (by decide) ⟨by decide, by decide, by decide, by decide⟩)]
      exact v36
    have h1030 : g_i M30 m 10 = 0 := by rw [f30.2.1 _ _ (R_nP_m hB29)]; exact h1029
    have keep0 : ∀ {M31 : g_M}, e_fr (R_nP ρ x 1) M30 M31 → g_i M31 (ρ 39) ((2 * x : Nat) : Int) = 0 ∧ g_i M31 (ρ 38) ((2 * x : Nat) : Int) = (if S_tr ed = true then 1 else 0) ∧ R_pt (g_i M31 (ρ 0)) M31 (ρ 37) (2 * x) (p_sp (s_tx ea.2.2)) := fun f31 => by
      have hno : ∀ i ∈ [37, 38, 39], ¬ R_nP ρ x 1 (ρ i) ((2 * x : Nat) : Int) := fun i hi z => by
        rcases z with ⟨-, z⟩ | ⟨z, -⟩
        · omega
        · have h1 : ∀ i ∈ [37, 38, 39], i ∈ E_bf ∧ i ≠ 0 := by decide
          exact ne (h1 i hi).1 (by decide) (h1 i hi).2 z
      refine ⟨by rw [f31.2.1 _ _ (hno 39 (by decide))]; exact m30, by rw [f31.2.1 _ _ (hno 38 (by decide))]; exact d30, ?_⟩
      obtain ⟨y1, e1, e2, e3, e4, e5⟩ := p30
      exact ⟨y1, e1, b_at_keep e2 fun j j1 j2 => f31.2.1 _ j fun z => by
        have := R_nP_b hB30 z
        omega, e3, e4, by rw [f31.2.1 _ _ (hno 37 (by decide))]; exact e5⟩
    have h1c : ((0 + 1 : Nat) : Int) = ((1 : Nat) : Int) := rfl
    have h75 : g_Run (d + 72) 421 75 [(0, .ref m), (1, g_n q1), (2, g_n w), (3, g_n x), (4, g_n c2), (5, g_n ((1 : Nat) : Int))] [] M30 (g_qI Q) := by
      rcases ra with _ | ⟨e2, ra2⟩
      · have hrd : rd = [] := List.length_eq_zero_iff.mp hlen.symm
        refine e_nix0 (d := d + 71) (k := 1) hq1R hwR hc2R hB30 hx (by decide) v3630 fun M31 f31 m31 d31 => ?_
        have F31 := F30.tr (f31.up fun y j z => Or.inr (Or.inl z))
        obtain ⟨j1, j2, j3⟩ := keep0 f31
        have e36 : g_i M31 (ρ 36) x = (([] : List b_E).length + 1 : Nat) := by rw [f31.2.1 _ _ (R_nP_n hB30 (by decide) ⟨by decide, by decide, by decide, by decide⟩)]; exact v3630
        exact hend M31 F31 (Snx F31 (by rw [f31.2.1 _ _ (R_nP_m hB30)]; exact h1030)) (hR_V F31 e36 j3 (fun e he => absurd he (by simp)) j2 (by
          rw [d31, hrd]
          rfl)) j1 m31
      · have hra2 : ra2 = [] := by
          rw [List.length_cons] at hra
          exact List.length_eq_zero_iff.mp (by omega)
        subst hra2
        obtain ⟨d2, hrd⟩ : ∃ d2, rd = [d2] := List.length_eq_one_iff.mp hlen.symm
        subst hrd
        have hla2 : ∃ pa2, (L_at (q1 + 2 + nm1.length + 4) (b_ch vb1))[1]? = some (pa2, e2) := by
          rw [hc1]
          exact ⟨_, rfl⟩
        obtain ⟨pa2, hla2⟩ := hla2
        have hld2 : ∃ pd2, (L_at (c2 + 4) (ed :: [d2]))[1]? = some (pd2, d2) := ⟨_, rfl⟩
        obtain ⟨pd2, hld2⟩ := hld2
        refine e_nix1 (d := d + 64) (k := 1) (pa := pa2) (pd := pd2) (ea := e2) (ed := d2) hwR hB30 hx (by decide) (by rw [v3630]; show ((2 : Nat) : Int) ≠ ((1 : Nat) : Int); decide) (st9 F30 hs1) hla2 (ha e2 (by simp)) (ct9 F30 hct2) hld2 (hd d2 (by simp)) fun M31 f31 m31 d31 p31 => ?_
        have F31 := F30.tr (f31.up fun y j z => Or.inr (Or.inl z))
        obtain ⟨j1, j2, j3⟩ := keep0 f31
        have e36 : g_i M31 (ρ 36) x = ([e2].length + 1 : Nat) := by rw [f31.2.1 _ _ (R_nP_n hB30 (by decide) ⟨by decide, by decide, by decide, by decide⟩)]; exact v3630
        exact hend M31 F31 (Snx F31 (by rw [f31.2.1 _ _ (R_nP_m hB30)]; exact h1030)) (hR_V F31 e36 j3 (fun e he => by
          rw [List.mem_singleton.mp he]
          exact p31) j2 (by
          rw [d31]
          show _ = (if (if S_tr d2 = true then (-1 : Int) else 1) = -1 then (1 : Int) else 0)
          by_cases g : S_tr d2 = true
          · rw [if_pos g, if_pos g, if_pos rfl]
          · rw [if_neg g, if_neg g, if_neg (by decide)])) j1 m31
    exact h75
  -- the first that is free
  have hlp : ∀ (r k : Nat), k + r = 4 → (∀ j, j < k → st (4 * w + j) ≠ none) → g_Run (d + 72) 421 4 [(0, .ref m), (1, g_n q1), (2, g_n w), (3, g_n ((4 * w + k : Nat) : Int))] [] M (g_qI Q) := by
    intro r
    induction r with
    | zero =>
      intro k hr hfirst
      have hk : k = 4 := by omega
      subst hk
      refine s_X12_newIndex_4 hq1R hwR ⟨by omega, by omega⟩ fun _ => ⟨⟨by omega, by omega⟩, ⟨by omega, by omega⟩, fun z => absurd z (by omega), fun _ => ?_⟩
      refine s_X12_newIndex_28 hq1R hwR ⟨by omega, by omega⟩ fun _ => ⟨⟨by omega, by omega⟩, ⟨by omega, by omega⟩, fun _ => ⟨hB.1, refuse hB (hf fun x e1 e2 => ?_)⟩, fun z => absurd (by omega) z⟩
      have := hfirst (x - 4 * w) (by omega)
      rwa [show 4 * w + (x - 4 * w) = x by omega] at this
    | succ r ih =>
      intro k hr hfirst
      have hx : 4 * w + k < 8 := by omega
      obtain ⟨hth0, hth1⟩ := (h.2.2.2.1 (4 * w + k) hx).there
      refine s_X12_newIndex_4 hq1R hwR ⟨by omega, by omega⟩ fun _ => ⟨⟨by omega, by omega⟩, ⟨by omega, by omega⟩, fun _ => ⟨hB.1, ρ 35, b35.1, 8, b35A, ⟨by omega, by omega⟩, ?_⟩, fun z => absurd (by omega) z⟩
      cases hst : st (4 * w + k) with
      | none =>
        rw [hth0 hst]
        exact ⟨fun _ => hgo k (by omega) hst hfirst, fun z => absurd rfl z⟩
      | some t =>
        obtain ⟨V', T', m1, m2⟩ := t
        rw [(hth1 V' T' m1 m2 hst).1]
        refine ⟨fun z => absurd z (by decide), fun _ => ⟨⟨by omega, by omega⟩, ?_⟩⟩
        have h9 := ih (k + 1) (by omega) fun j hj => by
          by_cases g : j = k
          · rw [g, hst]
            exact fun z => absurd z (by simp)
          · exact hfirst j (by omega)
        rwa [show ((4 * w + (k + 1) : Nat) : Int) = ((4 * w + k : Nat) : Int) + 1 by omega] at h9
  refine m_X12_newIndex (d := d + 72) hq1R hwR fun _ => ⟨⟨by omega, by omega⟩, ?_⟩
  have h9 := hlp 4 0 rfl fun j hj => absurd hj (by omega)
  rwa [show ((4 * w + 0 : Nat) : Int) = 4 * (w : Int) by omega] at h9
end ENI2
