/-! REQUESTS, THE REFERENCE: the paths of a new index -/
theorem I_key_few {w : Int} (hw : I_w w) {es : List b_E} {st : List (List Int)} (hg : X_gd 15 es) (hl : (b_doc es).length ≤ 2000) : (I_key w es st).length ≤ 698 := by
  obtain ⟨B, hB⟩ : ∃ B : Int → Int, B = fun q => ((10 : Int) :: 0 :: b_el 3 [] (b_doc es)).getD q.toNat 0 := ⟨_, rfl⟩
  have hat : b_at B 0 ((10 : Int) :: 0 :: b_el 3 [] (b_doc es)) := fun i v hi => by
    rw [hB]
    show ((10 : Int) :: 0 :: b_el 3 [] (b_doc es)).getD ((0 : Int) + i).toNat 0 = v
    rw [show ((0 : Int) + (i : Int)).toNat = i by omega, List.getD_eq_getElem?_getD, hi]
    rfl
  have hno : b_at B 0 [10, 0] := b_cons.mpr ⟨(b_cons.mp hat).1, b_cons.mpr ⟨(b_cons.mp (b_cons.mp hat).2).1, b_nil _ _⟩⟩
  have hd : b_st B 246408 2 16 3 [] (b_doc es) := by
    have h1 := (b_cons.mp (b_cons.mp hat).2).2
    have h2 := H_el_len es
    exact ⟨h1, fun c hc => absurd hc (by simp), H_gv hg hl, by decide, by omega⟩
  have h1 := I_few2 (nm := []) (Nat.zero_le _) hw hd hl hno (st := st)
  rw [← I_pl_key w es [] 2 st, List.length_map]
  exact h1
theorem I_key12_few {V : I_V} (hv : I_vok V) {es : List b_E} (hg : X_gd 15 es) (hl : (b_doc es).length ≤ 2000) : (I_key1 V es).length * (I_key2 V es).length ≤ 487204 := by
  have h1 : (I_key1 V es).length ≤ 698 := I_key_few hv.1 hg hl
  have h2 : (I_key2 V es).length ≤ 698 := by
    unfold I_key2
    split
    · decide
    · exact I_key_few hv.2.1 hg hl
  exact Nat.le_trans (Nat.mul_le_mul h1 h2) (by decide)
def R_nP (ρ : Nat → Nat) (x k : Nat) (y : Nat) (j : Int) : Prop := ((y = ρ 37 ∨ y = ρ 38 ∨ y = ρ 39) ∧ j = ((2 * x + k : Nat) : Int)) ∨ (y = ρ 0 ∧ 982000 + 2000 * ((2 * x + k : Nat) : Int) ≤ j ∧ j < 982000 + 2000 * ((2 * x + k : Nat) : Int) + 2000)
section ENX
variable {m d : Nat} {ρ : Nat → Nat} {M M1 : g_M}
theorem R_nP_b (h : E_bk m ρ M) {x k : Nat} {j : Int} (g : R_nP ρ x k (ρ 0) j) : 982000 + 2000 * ((2 * x + k : Nat) : Int) ≤ j ∧ j < 982000 + 2000 * ((2 * x + k : Nat) : Int) + 2000 := by
  rcases g with ⟨z | z | z, -⟩ | ⟨-, z⟩
  · exact absurd z (h.ne (by decide) (by decide) (by decide))
  · exact absurd z (h.ne (by decide) (by decide) (by decide))
  · exact absurd z (h.ne (by decide) (by decide) (by decide))
  · exact z
theorem R_nP_n (h : E_bk m ρ M) {x k i : Nat} (hi : i ∈ E_bf) (h1 : i ≠ 0 ∧ i ≠ 37 ∧ i ≠ 38 ∧ i ≠ 39) {j : Int} : ¬ R_nP ρ x k (ρ i) j := by
  rintro (⟨z | z | z, -⟩ | ⟨z, -⟩)
  · exact h.ne hi (by decide) h1.2.1 z
  · exact h.ne hi (by decide) h1.2.2.1 z
  · exact h.ne hi (by decide) h1.2.2.2 z
  · exact h.ne hi (by decide) h1.1 z
theorem R_nP_m (h : E_bk m ρ M) {x k : Nat} {j : Int} : ¬ R_nP ρ x k m j := by
  rintro (⟨z | z | z, -⟩ | ⟨z, -⟩)
  · exact h.nm (by decide) z.symm
  · exact h.nm (by decide) z.symm
  · exact h.nm (by decide) z.symm
  · exact h.nm (by decide) z.symm
theorem e_nix0 {Q : Int → g_M → Prop} {x k : Nat} {v1 v2 v4 : Int} (hv1 : g_InR v1) (hv2 : g_InR v2) (hv4 : g_InR v4) (hB : E_bk m ρ M) (hx : x < 8) (hk : k < 2) (hp : g_i M (ρ 36) x = k) (hq : ∀ M1, e_fr (R_nP ρ x k) M M1 → g_i M1 (ρ 39) ((2 * x + k : Nat) : Int) = 0 → g_i M1 (ρ 38) ((2 * x + k : Nat) : Int) = 0 → g_Run (d + 1) 421 75 [(0, .ref m), (1, g_n v1), (2, g_n v2), (3, g_n x), (4, g_n v4), (5, g_n ((k + 1 : Nat) : Int))] [] M1 (g_qI Q)) : g_Run (d + 1) 421 75 [(0, .ref m), (1, g_n v1), (2, g_n v2), (3, g_n x), (4, g_n v4), (5, g_n k)] [] M (g_qI Q) := by
  have b36 := hB.at (k := 36) (by decide)
  have b36A : g_A M (ρ 36) 1 8 := b36.2
  have b38 := hB.at (k := 38) (by decide)
  have b38A : g_A M (ρ 38) 2 16 := b38.2
  have b39 := hB.at (k := 39) (by decide)
  have b39A : g_A M (ρ 39) 2 16 := b39.2
  have hxk : 2 * (x : Int) + k = ((2 * x + k : Nat) : Int) := by omega
  refine s_X12_newIndex_75 hv1 hv2 ⟨by omega, by omega⟩ hv4 ⟨by omega, by omega⟩ fun _ => ⟨fun _ => ⟨hB.1, ρ 39, b39.1, ⟨by omega, by omega⟩, ⟨by omega, by omega⟩, 16, b39A, ⟨by omega, by omega⟩, ?_⟩, fun z => absurd (by omega) z⟩
  rw [hxk]
  rintro M14 e14 _
  have f14 : e_fr (R_nP ρ x k) M M14 := by rw [e14]; exact e_fr.wi _ (Or.inl ⟨Or.inr (Or.inr rfl), rfl⟩)
  refine ⟨ρ 38, by rw [f14.2.2]; exact b38.1, ⟨by omega, by omega⟩, ⟨by omega, by omega⟩, 16, f14.A b38A, ⟨by omega, by omega⟩, ?_⟩
  rintro M25 e25 _
  have f25 : e_fr (R_nP ρ x k) M14 M25 := by rw [e25]; exact e_fr.wi _ (Or.inl ⟨Or.inr (Or.inl rfl), rfl⟩)
  have F25 := f14.tr f25
  refine ⟨ρ 36, by rw [F25.2.2]; exact b36.1, 8, F25.A b36A, ⟨by omega, by omega⟩, fun _ => ⟨⟨by omega, by omega⟩, ?_⟩, fun z => absurd (by rw [F25.2.1 _ _ (R_nP_n hB (by decide) ⟨by decide, by decide, by decide, by decide⟩), hp]) z⟩
  have h9 := hq M25 F25 (by rw [e25, g_i_wi, if_neg (fun z => hB.ne (k := 39) (k2 := 38) (by decide) (by decide) (by decide) z.1), e14, g_i_wi, if_pos ⟨rfl, rfl⟩]) (by rw [e25, g_i_wi, if_pos ⟨rfl, rfl⟩])
  rwa [show ((k + 1 : Nat) : Int) = (k : Int) + 1 by omega] at h9
theorem e_nix1 {Q : Int → g_M → Prop} {x k D1 D2 : Nat} {q1 c2 v2 pa pd : Int} {nm1 vb1 : List Int} {l2 : List b_E} {ea ed : b_E} (hv2 : g_InR v2) (hB : E_bk m ρ M) (hx : x < 8) (hk : k < 2) (hp : g_i M (ρ 36) x ≠ k) (hs1 : b_st (g_i M (ρ 0)) 922000 q1 (D1 + 1) 4 nm1 vb1) (ha : (L_at (q1 + 2 + nm1.length + 4) (b_ch vb1))[k]? = some (pa, ea)) (hpt : I_ptx ea) (hc2 : E_ct (g_i M (ρ 0)) c2 D2 l2) (hdn : (L_at (c2 + 4) l2)[k]? = some (pd, ed)) (hd8 : ed.1 = 8) (hq : ∀ M1, e_fr (R_nP ρ x k) M M1 → g_i M1 (ρ 39) ((2 * x + k : Nat) : Int) = 0 → g_i M1 (ρ 38) ((2 * x + k : Nat) : Int) = (if S_tr ed = true then 1 else 0) → R_pt (g_i M1 (ρ 0)) M1 (ρ 37) (2 * x + k) (p_sp (s_tx ea.2.2)) → g_Run (d + 8) 421 75 [(0, .ref m), (1, g_n q1), (2, g_n v2), (3, g_n x), (4, g_n c2), (5, g_n ((k + 1 : Nat) : Int))] [] M1 (g_qI Q)) : g_Run (d + 8) 421 75 [(0, .ref m), (1, g_n q1), (2, g_n v2), (3, g_n x), (4, g_n c2), (5, g_n k)] [] M (g_qI Q) := by
  have hR := hB.R
  have b36 := hB.at (k := 36) (by decide)
  have b36A : g_A M (ρ 36) 1 8 := b36.2
  have b37 := hB.at (k := 37) (by decide)
  have b37A : g_A M (ρ 37) 1 16 := b37.2
  have b38 := hB.at (k := 38) (by decide)
  have b38A : g_A M (ρ 38) 2 16 := b38.2
  have b39 := hB.at (k := 39) (by decide)
  have b39A : g_A M (ρ 39) 2 16 := b39.2
  have ne : ∀ {i j : Nat}, i ∈ E_bf → j ∈ E_bf → i ≠ j → ρ i ≠ ρ j := fun h1 h2 h3 => hB.ne h1 h2 h3
  have hxk : 2 * (x : Int) + k = ((2 * x + k : Nat) : Int) := by omega
  have up9 : ∀ {p K : Int} {D : Nat} {nm vb : List Int} {B2 : Int → Int}, b_st (g_i M (ρ 0)) 922000 p D K nm vb → (∀ j, j < 922000 → B2 j = g_i M (ρ 0) j) → b_st B2 2706210 p D K nm vb := fun h1 h2 => h1.upW h2
  obtain ⟨D0, eD, hct1, hcl1⟩ := E_ct.of (z := (4, nm1, vb1)) hs1 (Or.inr rfl)
  have eD : D0 = D1 := by omega
  subst eD
  have hct1 : E_ct (g_i M (ρ 0)) (q1 + 2 + nm1.length) D0 (b_ch vb1) := hct1
  obtain ⟨sa, -⟩ := L_at_st hct1.sts (pa, ea) (List.mem_of_getElem? ha)
  obtain ⟨sd, -⟩ := L_at_st hc2.sts (pd, ed) (List.mem_of_getElem? hdn)
  have sa : b_st (g_i M (ρ 0)) 922000 pa D0 ea.1 ea.2.1 ea.2.2 := sa
  have sd : b_st (g_i M (ρ 0)) 922000 pd D2 ed.1 ed.2.1 ed.2.2 := sd
  obtain ⟨t1, t2, t3, -⟩ := sa.text hpt.1
  have hq1R : g_InR q1 := by
    have h1 := hs1.2.2.2.1
    have h2 := hs1.2.2.2.2
    exact ⟨by omega, by omega⟩
  have hc2R : g_InR c2 := by
    have h1 := hc2.2.1
    have h2 := hc2.2.2.1
    exact ⟨by omega, by omega⟩
  have hal := b_el_len ea.1 ea.2.1 ea.2.2
  have ha4 := sa.2.2.2.1
  have ha5 := sa.2.2.2.2
  have hdl := b_el_len ed.1 ed.2.1 ed.2.2
  have hd4 := sd.2.2.2.1
  have hd5 := sd.2.2.2.2
  obtain ⟨n, hn⟩ : ∃ n : Nat, n = (s_tx ea.2.2).length := ⟨_, rfl⟩
  have hn2 := hpt.2.1
  rw [← hn] at t1 hn2
  refine s_X12_newIndex_75 hq1R hv2 ⟨by omega, by omega⟩ hc2R ⟨by omega, by omega⟩ fun _ => ⟨fun _ => ⟨hB.1, ρ 39, b39.1, ⟨by omega, by omega⟩, ⟨by omega, by omega⟩, 16, b39A, ⟨by omega, by omega⟩, ?_⟩, fun z => absurd (by omega) z⟩
  rw [hxk]
  rintro M14 e14 _
  have f14 : e_fr (R_nP ρ x k) M M14 := by rw [e14]; exact e_fr.wi _ (Or.inl ⟨Or.inr (Or.inr rfl), rfl⟩)
  refine ⟨ρ 38, by rw [f14.2.2]; exact b38.1, ⟨by omega, by omega⟩, ⟨by omega, by omega⟩, 16, f14.A b38A, ⟨by omega, by omega⟩, ?_⟩
  rintro M25 e25 _
  have f25 : e_fr (R_nP ρ x k) M14 M25 := by rw [e25]; exact e_fr.wi _ (Or.inl ⟨Or.inr (Or.inl rfl), rfl⟩)
  have F25 := f14.tr f25
  have hlow : ∀ {M2 : g_M}, e_fr (R_nP ρ x k) M M2 → ∀ j, j < 922000 → g_i M2 (ρ 0) j = g_i M (ρ 0) j := fun f j hj => f.2.1 _ j fun z => by
    have := R_nP_b hB z
    omega
  refine ⟨ρ 36, by rw [F25.2.2]; exact b36.1, 8, F25.A b36A, ⟨by omega, by omega⟩, fun z => absurd (by rw [F25.2.1 _ _ (R_nP_n hB (by decide) ⟨by decide, by decide, by decide, by decide⟩)] at z; exact z.symm) hp, fun _ => ?_⟩
  have hR25 := F25.R hR
  have ct25 := hct1.tl (hlow F25)
  have sa25 := up9 sa (hlow F25)
  refine e_value (d := d + 6) hR25 (up9 hs1 (hlow F25)).nm ?_
  intro _ _ _
  rw [show q1 + 1 + (nm1.length : Int) + 1 = q1 + 2 + nm1.length by omega]
  refine e_itemE (d := d + 3) hR25 ct25 (by omega) ⟨by omega, by omega⟩ ?_
  intro _ _ _
  rw [Int.toNat_natCast, ha]
  show g_Call _ _ [_, g_n pa] _ _
  refine e_textEnd (d := d + 5) hR25 sa25 hpt.1 ?_
  intro _ _ _
  refine e_value (d := d + 6) hR25 sa25.nm ?_
  intro _ _ _
  rw [← hn]
  refine ⟨⟨by omega, by omega⟩, ⟨by omega, by omega⟩, e_value (d := d + 6) hR25 sa25.nm ?_⟩
  intro _ _ _
  refine ⟨⟨by omega, by omega⟩, m_X12_pathOf ⟨by omega, by omega⟩ ⟨by omega, by omega⟩ fun _ => ⟨⟨by omega, by omega⟩, ⟨by omega, by omega⟩, ⟨by omega, by omega⟩, ⟨by omega, by omega⟩, ?_⟩⟩
  intro _ _ _
  rw [hxk, show pa + 2 + (ea.2.1.length : Int) + 4 + n - (pa + 1 + ea.2.1.length + 1) - 4 = (n : Int) by omega, show pa + 1 + (ea.2.1.length : Int) + 1 + 4 = pa + 2 + ea.2.1.length + 4 by omega]
  have ht25 : b_at (g_i M25 (ρ 0)) (pa + 2 + ea.2.1.length + 4) (s_tx ea.2.2) := b_at_keep t3 fun j j1 j2 => hlow F25 j (by omega)
  rw [hn]
  refine e_copy (d := d + 7) hR25 ht25 (by omega) (by omega) (by omega) (by omega) (Or.inl (by omega)) fun M67 f67 d67 => ?_
  intro _ _
  rw [← hn]
  have f67' : e_fr (R_nP ρ x k) M25 M67 := f67.up fun y j z => Or.inr ⟨z.1, by have := z.2; omega, by have := z.2; omega⟩
  have F67 := F25.tr f67'
  refine ⟨ρ 37, by rw [F67.2.2]; exact b37.1, ⟨by omega, by omega⟩, ⟨by omega, by omega⟩, m_X12_pathOf ⟨by omega, by omega⟩ ⟨by omega, by omega⟩ fun _ => ⟨⟨by omega, by omega⟩, ⟨by omega, by omega⟩, ⟨by omega, by omega⟩, ⟨by omega, by omega⟩, ?_⟩⟩
  intro _ _ _
  rw [hxk]
  refine ⟨⟨by omega, by omega⟩, 16, F67.A b37A, ⟨by omega, by omega⟩, ?_⟩
  rintro M83 e83 _
  have f83 : e_fr (R_nP ρ x k) M67 M83 := by rw [e83]; exact e_fr.wi _ (Or.inl ⟨Or.inl rfl, rfl⟩)
  have F83 := F67.tr f83
  have hR83 := F83.R hR
  refine ⟨ρ 38, by rw [F83.2.2]; exact b38.1, ⟨by omega, by omega⟩, ⟨by omega, by omega⟩, e_itemE (d := d + 3) hR83 (hc2.tl (hlow F83)) (by omega) ⟨by omega, by omega⟩ ?_⟩
  intro _ _ _
  rw [Int.toNat_natCast, hdn]
  show g_Call _ _ [_, g_n pd] _ _
  have sd83 := up9 sd (hlow F83)
  refine e_value (d := d + 6) hR83 sd83.nm ?_
  intro _ _ _
  refine e_at (d := d + 7) hR83 (by omega) (by omega) ?_
  intro _ _ _
  -- the direction
  have hvb : ed.2.2 = [0] ∨ ed.2.2 = [1] := by
    have hgv := sd.2.2.1
    rw [hd8] at hgv
    have hlf : b_lf 8 ed.2.2 := by
      cases D2 with
      | zero => exact hgv
      | succ D2 =>
        rcases hgv with g | ⟨g, -⟩
        · exact g
        · exact absurd g (by decide)
    rcases hlf with g | g | g | g | g
    · exact absurd g.1 (by decide)
    · exact absurd g.1 (by decide)
    · exact g.2
    · exact absurd g.1 (by decide)
    · exact absurd g.1 (by decide)
  have hbyte : g_i M83 (ρ 0) (pd + 1 + ed.2.1.length + 1) = if S_tr ed = true then 1 else 0 := by
    have h1 := (b_el_at sd83.1).2.2.2
    rw [show pd + 1 + (ed.2.1.length : Int) + 1 = pd + 2 + ed.2.1.length by omega]
    rcases hvb with g | g
    · rw [g] at h1
      have h2 := (b_cons.mp h1).1
      have h3 : S_tr ed = false := by
        unfold S_tr
        rw [hd8, g]
        rfl
      rw [h2, if_neg (by rw [h3]; decide)]
    · rw [g] at h1
      have h2 := (b_cons.mp h1).1
      have h3 : S_tr ed = true := by
        unfold S_tr
        rw [hd8, g]
        rfl
      rw [h2, if_pos h3]
  rw [hbyte]
  have hfin : ∀ (M9 : g_M) (vv : Int), vv = (if S_tr ed = true then 1 else 0) → M9 = g_wi M83 (ρ 38) ((2 * x + k : Nat) : Int) vv → g_InR ((k : Int) + 1) ∧ g_Run (d + 8) 421 75 [(0, .ref m), (1, g_n q1), (2, g_n v2), (3, g_n x), (4, g_n c2), (5, g_n ((k : Int) + 1))] [] M9 (g_qI Q) := by
    intro M9 vv hvv e9
    have f9 : e_fr (R_nP ρ x k) M83 M9 := by rw [e9]; exact e_fr.wi _ (Or.inl ⟨Or.inr (Or.inl rfl), rfl⟩)
    have F9 := F83.tr f9
    refine ⟨⟨by omega, by omega⟩, ?_⟩
    have hb9 : ∀ j, g_i M9 (ρ 0) j = g_i M67 (ρ 0) j := fun j => by
      rw [e9, g_i_wi, if_neg (fun z => ne (by decide) (by decide) (by decide) z.1), e83, g_i_wi, if_neg (fun z => ne (by decide) (by decide) (by decide) z.1)]
    have h9 := hq M9 F9 (by
      rw [e9, g_i_wi, if_neg (fun z => ne (by decide) (by decide) (by decide) z.1), e83, g_i_wi, if_neg (fun z => ne (by decide) (by decide) (by decide) z.1), f67.2.1 _ _ fun z => ne (by decide) (by decide) (by decide) z.1, e25, g_i_wi, if_neg (fun z => ne (by decide) (by decide) (by decide) z.1), e14, g_i_wi, if_pos ⟨rfl, rfl⟩]) (by rw [e9, g_i_wi, if_pos ⟨rfl, rfl⟩]; exact hvv) ⟨s_tx ea.2.2, rfl, b_at_keep d67 fun j _ _ => hb9 j, hpt.2.1, hpt.2.2.2.1, by
      rw [e9, g_i_wi, if_neg (fun z => ne (by decide) (by decide) (by decide) z.1), e83, g_i_wi, if_pos ⟨rfl, rfl⟩, hn]⟩
    rwa [show ((k + 1 : Nat) : Int) = (k : Int) + 1 by omega] at h9
  by_cases g : S_tr ed = true
  · rw [if_pos g]
    have h1 : g_and 1 255 = 1 := by decide +kernel
    rw [h1]
    exact ⟨fun _ => ⟨16, F83.A b38A, ⟨by omega, by omega⟩, fun M9 e9 _ => hfin M9 1 (by rw [if_pos g]) e9⟩, fun z => absurd rfl z⟩
  · rw [if_neg g]
    have h1 : g_and 0 255 = 0 := by decide +kernel
    rw [h1]
    exact ⟨fun z => absurd z (by decide), fun _ => ⟨16, F83.A b38A, ⟨by omega, by omega⟩, fun M9 e9 _ => hfin M9 0 (by rw [if_neg g]) e9⟩⟩
end ENX
