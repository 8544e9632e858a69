/-! TREES OF THE REFERENCE: all entries of a document come, or go -/
noncomputable def I_st (v : Int) (V : I_V) (e : I_E) (T : N_T I_E) : N_T I_E := if v = 0 then N_leave (I_c V.1 V.2.1) e T else N_enter (I_c V.1 V.2.1) e T
noncomputable def I_io (v : Int) (V : I_V) (E : List I_E) (T : N_T I_E) : N_T I_E := E.foldl (fun T e => I_st v V e T) T
def I_cn (v : Int) (V : I_V) (T : N_T I_E) (E : List I_E) : Prop := (v = 0 → I_cgo V T E) ∧ (¬ v = 0 → I_can V T E)
theorem I_io_app (v : Int) (V : I_V) (E F : List I_E) (T : N_T I_E) : I_io v V (E ++ F) T = I_io v V F (I_io v V E T) := List.foldl_append
theorem I_io_0 (V : I_V) (E : List I_E) (T : N_T I_E) : I_io 0 V E T = I_out V E T := by
  unfold I_io I_out
  congr 1
theorem I_io_1 {v : Int} (hv : ¬ v = 0) (V : I_V) (E : List I_E) (T : N_T I_E) : I_io v V E T = I_in V E T := by
  unfold I_io I_in I_st
  simp only [if_neg hv]
theorem I_cn.step {v : Int} {V : I_V} {T : N_T I_E} {e : I_E} {E : List I_E} (hw1 : I_w V.1) (hw2 : I_w V.2.1) (hT : N_good (I_c V.1 V.2.1) T) (h : I_cn v V T (e :: E)) : I_cn v V (I_st v V e T) E := by
  unfold I_st
  refine ⟨fun z => ?_, fun z => ?_⟩
  · rw [if_pos z]
    exact (h.1 z).step hw1 hw2 hT
  · rw [if_neg z]
    exact (h.2 z).step hw1 hw2 hT
def I_pe (no : Int) (a c : Option (Int × b_E)) : I_E := (I_ko a, I_ko c, no)
theorem I_ens_pe {V : I_V} {es : List b_E} {no : Int} {K1 K2 : List (Option (Int × b_E))} (h1 : K1.map I_ko = I_key1 V es) (h2 : K2.map I_ko = I_key2 V es) : I_ens V es no = K1.flatMap fun a => K2.map (I_pe no a) := by
  unfold I_ens
  rw [← h1, ← h2, List.flatMap_map]
  congr 1
  funext a
  rw [List.map_map]
  rfl
theorem I_ar_1 (w : Int) : I_ar w [none] = [none] := rfl
section REA
variable {m b l d x dn pa pe : Nat} {ρ : Nat → Nat} {M : g_M} {w1 w2 : Int} {T : N_T I_E} {L : List Int}
/-- the leaves stand as long as nobody writes them -/
theorem E_S.EA {M1 : g_M} (hS : E_S m b l (g_i M b) M L) (hR : R_rw m b ρ M) (f : e_fr (R_EA m b ρ x) M M1) : E_S m b l (g_i M1 b) M1 L := by
  obtain ⟨n1, n2, n3⟩ := hS.ne
  obtain ⟨a1, a2, a3, a4, a5, a6, a7⟩ := hS
  have hl : ∀ q, ¬ R_EA m b ρ x l q := fun q z => by
    have hk : ∀ k ∈ R_fs, l ≠ ρ k := fun k hk => hR.nA a3 hk (Or.inr (by have := (R_ln_le hk).1; omega))
    rcases z with ⟨z, -⟩ | ⟨z, -⟩ | ⟨z, -⟩ | ⟨z, -⟩ | ⟨z | z | z, -⟩ | ⟨z | z, -⟩ | ⟨z | z, -⟩
    · exact hk 45 (by decide) z
    · exact hk 46 (by decide) z
    · exact n2 z
    · exact n1 z
    · exact hk 48 (by decide) z
    · exact hk 49 (by decide) z
    · exact hk 50 (by decide) z
    · exact hk 51 (by decide) z
    · exact hk 52 (by decide) z
    · exact hk 53 (by decide) z
    · exact hk 54 (by decide) z
  have hm : g_i M1 m 10 = g_i M m 10 := f.2.1 m 10 fun z => by
    have := R_EF_m (l := l) hR a3 (Or.inr z)
    rcases z with ⟨z, -⟩ | ⟨z, -⟩ | ⟨-, z⟩ | ⟨z, -⟩ | ⟨z | z | z, -⟩ | ⟨z | z, -⟩ | ⟨z | z, -⟩
    · exact hR.nm (by decide) z.symm
    · exact hR.nm (by decide) z.symm
    · omega
    · exact n3 z
    · exact hR.nm (by decide) z.symm
    · exact hR.nm (by decide) z.symm
    · exact hR.nm (by decide) z.symm
    · exact hR.nm (by decide) z.symm
    · exact hR.nm (by decide) z.symm
    · exact hR.nm (by decide) z.symm
    · exact hR.nm (by decide) z.symm
  exact ⟨f.R a1, by rw [f.2.2]; exact a2, f.A a3, by rw [hm]; exact a4, b_at_keep a5 fun q _ _ => f.2.1 l q (hl q), rfl, a7⟩
theorem e_enterAll {Q : g_M → Prop} {c no tl v4 : Int} {V : I_V} {es : List b_E} (hS : E_S m b l (g_i M b) M L) (hV : R_V m pa pe dn (g_i M b) x V M) (hT : R_Tr m b ρ x dn V.1 V.2.1 T M) (hct : E_ct (g_i M b) c 15 es) (hdl : (b_doc es).length ≤ 2000) (hno : b_at (g_i M b) 2706200 [10, 0]) (hL : L.length ≤ 1000) (ht : tl = 0 ∨ tl = 1) (h40 : g_i M m 40 = tl) (hv4 : v4 = 0 ∨ v4 = 1) (hcn : I_cn v4 V T (I_ens V es no)) (h0no : 0 ≤ no) (hnoR : g_InR no) (hq : ∀ M1, e_fr (R_EF m b l ρ x) M M1 → E_S m b l (g_i M1 b) M1 L → R_Tr m b ρ x dn V.1 V.2.1 (I_io v4 V (I_ens V es no) T) M1 → (g_i M1 m 40 = 0 ∨ g_i M1 m 40 = 1) → Q M1) : g_Call (d + 71) 384 [.ref m, g_n x, g_n c, g_n no, g_n v4] M (g_qV Q) := by
  have hx : x < 8 := hT.2.1
  have hR := hT.1
  have hw := hT.2.2.1
  have hwI : I_w V.1 ∧ I_w V.2.1 := ⟨hw.2.2.1, hw.2.2.2.1⟩
  have hlA := hS.2.2.1
  obtain ⟨ln1, ln2, ln3⟩ := hS.ne
  have hcR : g_InR c := by
    have h1 := hct.2.1
    have h2 := hct.2.2.1
    exact ⟨by omega, by omega⟩
  have hv4R : g_InR v4 := by
    rcases hv4 with g | g <;> rw [g] <;> exact ⟨by decide, by decide⟩
  refine m_X12_enterAll (d := d + 70) ⟨by omega, by omega⟩ hcR hnoR hv4R fun _ => ⟨hR.1.1, e_entriesOf (d := d) hS hV hct hdl hno hL ht h40 fun M2 P1 P2 f2 hPT S2 u1l u2l h40' h41 h42 h43 h44 => ?_⟩
  intro _ _ _
  obtain ⟨T1, T2, hP1, hP2, hT1, hT2⟩ := hPT
  obtain ⟨U1, hU1⟩ : ∃ U1, U1 = I_u c es V.2.2.1 := ⟨_, rfl⟩
  obtain ⟨U2, hU2⟩ : ∃ U2, U2 = I_u2 V c es := ⟨_, rfl⟩
  rw [← hU1] at S2 u1l h42 h43 h44
  rw [← hU2] at S2 u2l h44
  have hP1l : P1.length ≤ 4301 := by rw [hP1, List.length_append]; omega
  have hP2l : P2.length ≤ 3301 := by rw [hP2]; exact hT2
  have hky1 : ∀ u ∈ U1, R_ky (g_i M b) u := by rw [hU1]; exact I_u_ky hct
  have hky2 : ∀ u ∈ U2, R_ky (g_i M b) u := by rw [hU2]; exact I_u2_ky hct
  have hVn := hV.ne hR.1.1 hlA
  have hV2 : R_V m pa pe dn (g_i M b) x V M2 := hV.fr f2 (fun k z => z.elim hVn.1.1 fun z => hVn.2.1 z.1) (fun k z => z.elim hVn.1.2.1 fun z => hVn.2.2.1 z.1) fun k z => z.elim hVn.1.2.2 fun z => hVn.2.2.2 z.1
  obtain ⟨⟨v1, v2, v3, v4', v5, v6⟩, -, -, -, hVnone, hVsome, -, -, dnA, dnB⟩ := id hV2
  simp only [List.length_append, List.length_map] at h43 h44
  have h423 : g_i M2 m 41 + g_i M2 m 42 = ((P1.length + U1.length : Nat) : Int) := by rw [h41, h42]; omega
  refine ⟨by rw [h423]; exact ⟨by omega, by omega⟩, dn, v5, ⟨by omega, by omega⟩, 16, v6, ⟨by omega, by omega⟩, ?_⟩
  rw [h423, h41, h43, h44]
  have hc2 : (2 * (x : Int)) = ((2 * x : Nat) : Int) := by omega
  rw [hc2, dnA]
  refine e_arrange (d := d + 23) (P := P1) (U := U1) (R := P2 ++ U2.map (L_on 2706200)) (w := V.1) (by rw [← List.append_assoc]; exact S2) hno (fun u hu => (hky1 u hu).at) hwI.1 rfl fun M14 f14 S14 => ?_
  intro _ _
  have F14 : e_fr (E_le m l) M M14 := f2.tr (f14.up fun y k z => Or.inl z)
  have dnB14 : g_i M14 dn ((2 * x + 1 : Nat) : Int) = (if V.2.1 = -1 then 1 else 0) := by
    rw [f14.2.1 dn _ fun z => hVn.1.2.2 z]
    exact dnB
  refine ⟨dn, by rw [f14.2.2]; exact v5, ⟨by omega, by omega⟩, ⟨by omega, by omega⟩, 16, f14.A v6, ⟨by omega, by omega⟩, ?_⟩
  rw [show ((2 * x : Nat) : Int) + 1 = ((2 * x + 1 : Nat) : Int) by omega, dnB14]
  have harl : (I_ar V.1 U1).length = U1.length := I_ar_len _ _
  have e1 : ((P1.length + U1.length + P2.length : Nat) : Int) = ((P1 ++ (I_ar V.1 U1).map (L_on 2706200) ++ P2).length : Nat) := by
    rw [List.length_append, List.length_append, List.length_map, harl]
  rw [e1, show ((P1.length + U1.length + P2.length + U2.length : Nat) : Int) = (((P1 ++ (I_ar V.1 U1).map (L_on 2706200) ++ P2).length + U2.length : Nat) : Int) by rw [List.length_append, List.length_append, List.length_map, harl]]
  refine e_arrange (d := d + 23) (P := P1 ++ (I_ar V.1 U1).map (L_on 2706200) ++ P2) (U := U2) (R := []) (w := V.2.1) (by rw [List.append_nil, List.append_assoc]; exact S14) hno (fun u hu => (hky2 u hu).at) hwI.2 rfl fun M24 f24 S24 => ?_
  intro _ _
  rw [List.append_nil] at S24
  have F24 : e_fr (E_le m l) M M24 := F14.tr (f24.up fun y k z => Or.inl z)
  obtain ⟨K1, hK1⟩ : ∃ K1, K1 = I_ar V.1 U1 := ⟨_, rfl⟩
  obtain ⟨K2, hK2⟩ : ∃ K2, K2 = I_ar V.2.1 U2 := ⟨_, rfl⟩
  have hk1l : K1.length = U1.length := by rw [hK1, I_ar_len]
  have hk2l : K2.length = U2.length := by rw [hK2, I_ar_len]
  rw [← hK1, ← hK2] at S24
  rw [← hK1]
  have kk1 : ∀ u ∈ K1, R_ky (g_i M b) u := fun u hu => hky1 u (I_ar_mem (by rw [← hK1]; exact hu))
  have kk2 : ∀ u ∈ K2, R_ky (g_i M b) u := fun u hu => hky2 u (I_ar_mem (by rw [← hK2]; exact hu))
  obtain ⟨LL, hLL⟩ : ∃ LL, LL = P1 ++ K1.map (L_on 2706200) ++ P2 ++ K2.map (L_on 2706200) := ⟨_, rfl⟩
  rw [← hLL] at S24
  -- its entries
  have hens : I_ens V es no = K1.flatMap fun a => K2.map (I_pe no a) := by
    refine I_ens_pe ?_ ?_
    · obtain ⟨x1, q1, -⟩ := hV.2.2.1
      have hne : V.2.2.1 ≠ [] := by rw [← q1, p_sp_eq]; simp
      obtain ⟨s, r, hsr⟩ := List.exists_cons_of_ne_nil hne
      rw [hK1, hU1]
      unfold I_key1
      rw [hsr]
      exact I_ar_key hwI.1 hct.2.2.2
    · rw [hK2, hU2]
      unfold I_key2 I_u2
      cases hv : V.2.2.2 with
      | none => rfl
      | some st =>
        obtain ⟨x1, q1, -⟩ := hV.2.2.2.2.2.1 st hv
        have hne : st ≠ [] := by rw [← q1, p_sp_eq]; simp
        obtain ⟨s, r, hsr⟩ := List.exists_cons_of_ne_nil hne
        subst hsr
        exact I_ar_key hwI.2 hct.2.2.2
  rw [hens] at hcn hq
  have FF24 : e_fr (R_EF m b l ρ x) M M24 := F24.up fun y q z => Or.inl z
  have h4724 : g_i M24 m 47 = -1 := by
    rw [F24.2.1 m 47 fun z => ?_]
    · exact hT.2.2.2.1
    · rcases z with z | ⟨-, z⟩
      · exact ln2 z.symm
      · omega
  have hT24 : R_Tr m b ρ x dn V.1 V.2.1 T M24 := hT.frX F24 (fun y q z => R_PX_le hR hlA ln1 z) (fun q z => z.elim hVn.1.2.2 fun z => hVn.2.2.2 z.1) h4724
  have hFb : ∀ {M' : g_M}, e_fr (R_EF m b l ρ x) M M' → ∀ k, k < 1014000 ∨ 2598000 ≤ k → g_i M' b k = g_i M b k := fun f k hk => f.2.1 b k fun z => by
    have := R_EF_b hR ln1 z
    omega
  have hS24b : E_S m b l (g_i M24 b) M24 LL := by
    have h6 := S24.2.2.2.2.2.1
    rw [h6]
    exact S24
  have h4024 : g_i M24 m 40 = 0 ∨ g_i M24 m 40 = 1 := by
    have h1 : g_i M24 m 40 = g_i M2 m 40 := by
      rw [f24.2.1 m 40 fun z => ln2 z.symm, f14.2.1 m 40 fun z => ln2 z.symm]
    rw [h1, h40']
    exact I_tl2_01 _ (I_tl_01 ht _)
  have hLLa : LL = P1 ++ (K1.map (L_on 2706200) ++ (P2 ++ K2.map (L_on 2706200))) := by rw [hLL, List.append_assoc, List.append_assoc]
  have hk2p : (P1 ++ K1.map (L_on 2706200) ++ P2).length = P1.length + K1.length + P2.length := by rw [List.length_append, List.length_append, List.length_map]
  rw [hk2p]
  have hLlen : ((L.length : Nat) : Int) = g_i M m 10 := hS.2.2.2.1.symm
  rw [← hLlen]
  -- one pair, then the next
  have hin : ∀ (a : Option (Int × b_E)) (A1 B1 : List (Option (Int × b_E))) (rest : List I_E), K1 = A1 ++ a :: B1 → ∀ (B2 A2 : List (Option (Int × b_E))) (M' : g_M) (T' : N_T I_E), K2 = A2 ++ B2 → e_fr (R_EF m b l ρ x) M M' → E_S m b l (g_i M' b) M' LL → R_Tr m b ρ x dn V.1 V.2.1 T' M' → (g_i M' m 40 = 0 ∨ g_i M' m 40 = 1) → I_cn v4 V T' (B2.map (I_pe no a) ++ rest) → (∀ M'', e_fr (R_EF m b l ρ x) M M'' → E_S m b l (g_i M'' b) M'' LL → R_Tr m b ρ x dn V.1 V.2.1 (I_io v4 V (B2.map (I_pe no a)) T') M'' → (g_i M'' m 40 = 0 ∨ g_i M'' m 40 = 1) → I_cn v4 V (I_io v4 V (B2.map (I_pe no a)) T') rest → g_Run (d + 70) 384 80 [(0, .ref m), (1, g_n x), (2, g_n c), (3, g_n no), (4, g_n v4), (5, g_n L.length), (6, g_n P1.length), (7, g_n ((P1.length + U1.length : Nat) : Int)), (8, g_n ((P1.length + K1.length + P2.length : Nat) : Int)), (9, g_n ((P1.length + K1.length + P2.length + U2.length : Nat) : Int)), (10, g_n ((P1.length + A1.length + 1 : Nat) : Int))] [] M'' (g_qV Q)) → g_Run (d + 70) 384 91 [(0, .ref m), (1, g_n x), (2, g_n c), (3, g_n no), (4, g_n v4), (5, g_n L.length), (6, g_n P1.length), (7, g_n ((P1.length + U1.length : Nat) : Int)), (8, g_n ((P1.length + K1.length + P2.length : Nat) : Int)), (9, g_n ((P1.length + K1.length + P2.length + U2.length : Nat) : Int)), (10, g_n ((P1.length + A1.length : Nat) : Int)), (11, g_n ((P1.length + K1.length + P2.length + A2.length : Nat) : Int))] [] M' (g_qV Q) := by
    intro a A1 B1 rest hKa B2
    have hAl := congrArg List.length hKa
    rw [List.length_append, List.length_cons] at hAl
    induction B2 with
    | nil =>
      intro A2 M' T' hK f' S' T'' h40'' hcn' hout
      rw [List.append_nil] at hK
      have hA2 := congrArg List.length hK
      refine s_X12_enterAll_91 ⟨by omega, by omega⟩ hcR hnoR hv4R ⟨by omega, by omega⟩ ⟨by omega, by omega⟩ ⟨by omega, by omega⟩ ⟨by omega, by omega⟩ ⟨by omega, by omega⟩ ⟨by omega, by omega⟩ ⟨by omega, by omega⟩ fun _ => ⟨fun z => absurd z (by omega), fun _ => ⟨⟨by omega, by omega⟩, ?_⟩⟩
      have h9 := hout M' f' S' T'' h40'' hcn'
      rwa [show ((P1.length + A1.length + 1 : Nat) : Int) = ((P1.length + A1.length : Nat) : Int) + 1 by omega] at h9
    | cons u B2 ih =>
      intro A2 M' T' hK f' S' hT' h40'' hcn' hout
      have hA2 := congrArg List.length hK
      rw [List.length_append, List.length_cons] at hA2
      have hR' := hR.fr f'
      rw [List.map_cons, List.cons_append] at hcn'
      have hgd : N_good (I_c V.1 V.2.1) T' := by
        obtain ⟨-, -, -, -, -, -, -, -, -, -, -, -, -, -, hgd, -⟩ := hT'
        exact hgd
      have hst := hcn'.step hwI.1 hwI.2 hgd
      have ha := kk1 a (by rw [hKa]; simp)
      have hu := kk2 u (by rw [hK]; simp)
      obtain ⟨Da, ka, na, va, sa1, sa2, sa3⟩ := ha.st hno (hFb f')
      obtain ⟨Du, ku, nu, vu, su1, su2, su3⟩ := hu.st hno (hFb f')
      have hpe : I_pe no a u = ((ka, va), (ku, vu), no) := by unfold I_pe; rw [sa2, su2]
      -- the leaves
      have hga : g_i M' l ((P1.length + A1.length : Nat) : Int) = L_on 2706200 a := (S'.get (by
        rw [hLLa, hKa, List.getElem?_append_right (Nat.le_add_right _ _), Nat.add_sub_cancel_left, List.map_append, List.append_assoc, List.getElem?_append_right (by rw [List.length_map]; exact Nat.le_refl _), List.length_map, Nat.sub_self, List.map_cons]
        rfl)).1
      have hgu : g_i M' l ((P1.length + K1.length + P2.length + A2.length : Nat) : Int) = L_on 2706200 u := (S'.get (by
        rw [hLL, List.getElem?_append_right (by rw [hk2p]; omega), hk2p, Nat.add_sub_cancel_left, hK, List.map_append, List.getElem?_append_right (by rw [List.length_map]; exact Nat.le_refl _), List.length_map, Nat.sub_self, List.map_cons]
        rfl)).1
      -- after it
      have hnext : ∀ M13, R_Tr m b ρ x dn V.1 V.2.1 (I_st v4 V (I_pe no a u) T') M13 → e_fr (R_EA m b ρ x) M' M13 → g_InR (((P1.length + K1.length + P2.length + A2.length : Nat) : Int) + 1) ∧ g_Run (d + 70) 384 91 [(0, .ref m), (1, g_n x), (2, g_n c), (3, g_n no), (4, g_n v4), (5, g_n L.length), (6, g_n P1.length), (7, g_n ((P1.length + U1.length : Nat) : Int)), (8, g_n ((P1.length + K1.length + P2.length : Nat) : Int)), (9, g_n ((P1.length + K1.length + P2.length + U2.length : Nat) : Int)), (10, g_n ((P1.length + A1.length : Nat) : Int)), (11, g_n (((P1.length + K1.length + P2.length + A2.length : Nat) : Int) + 1))] [] M13 (g_qV Q) := by
        intro M13 hT13 f13
        refine ⟨⟨by omega, by omega⟩, ?_⟩
        have f13' : e_fr (R_EF m b l ρ x) M' M13 := f13.up fun y q z => Or.inr z
        have h4013 : g_i M13 m 40 = g_i M' m 40 := f13.2.1 m 40 fun z => by
          rcases z with ⟨z, -⟩ | ⟨z, -⟩ | ⟨-, z⟩ | ⟨z, -⟩ | ⟨z | z | z, -⟩ | ⟨z | z, -⟩ | ⟨z | z, -⟩
          · exact hR.nm (by decide) z.symm
          · exact hR.nm (by decide) z.symm
          · omega
          · exact ln3 z
          · exact hR.nm (by decide) z.symm
          · exact hR.nm (by decide) z.symm
          · exact hR.nm (by decide) z.symm
          · exact hR.nm (by decide) z.symm
          · exact hR.nm (by decide) z.symm
          · exact hR.nm (by decide) z.symm
          · exact hR.nm (by decide) z.symm
        have h9 := ih (A2 ++ [u]) M13 (I_st v4 V (I_pe no a u) T') (by rw [hK]; simp) (f'.tr f13') (S'.EA hR' f13) hT13 (by rw [h4013]; exact h40'') hst hout
        rwa [show ((P1.length + K1.length + P2.length + (A2 ++ [u]).length : Nat) : Int) = ((P1.length + K1.length + P2.length + A2.length : Nat) : Int) + 1 by rw [List.length_append, List.length_singleton]; omega] at h9
      have hl9 := S'.2.1
      have hlA' := S'.2.2.1
      refine s_X12_enterAll_91 ⟨by omega, by omega⟩ hcR hnoR hv4R ⟨by omega, by omega⟩ ⟨by omega, by omega⟩ ⟨by omega, by omega⟩ ⟨by omega, by omega⟩ ⟨by omega, by omega⟩ ⟨by omega, by omega⟩ ⟨by omega, by omega⟩ fun _ => ⟨fun _ => ⟨fun z => ⟨hR'.1.1, l, hl9, 80000, hlA', ⟨by omega, by omega⟩, l, hl9, 80000, hlA', ⟨by omega, by omega⟩, ?_⟩, fun z => ⟨hR'.1.1, l, hl9, 80000, hlA', ⟨by omega, by omega⟩, l, hl9, 80000, hlA', ⟨by omega, by omega⟩, ?_⟩⟩, fun z => absurd (by omega) z⟩
      · rw [hga, hgu]
        obtain ⟨c1, c2, c3, c4⟩ := hcn'.1 z
        have hc1 := c1 _ List.mem_cons_self
        have hc2 := c2 _ List.mem_cons_self
        rw [hpe] at hc1 hc2
        refine e_leave (d := d + 10) hT' sa1 su1 sa3 su3 hc1 h0no c4 hc2 fun M13 hT13 f13 => ?_
        intro _ _
        refine hnext M13 ?_ f13
        unfold I_st
        rw [if_pos z, hpe]
        exact hT13
      · rw [hga, hgu]
        obtain ⟨c1, c2, c3, c4⟩ := hcn'.2 z
        have hc1 := c1 _ List.mem_cons_self
        have hc2 := c2 _ List.mem_cons_self
        rw [List.length_cons] at c4
        rw [hpe] at hc1 hc2
        refine e_enter (d := d + 10) hT' sa1 su1 sa3 su3 hc1 h0no (by omega) hc2 fun M13 hT13 f13 => ?_
        intro _ _
        refine hnext M13 ?_ f13
        unfold I_st
        rw [if_neg z, hpe]
        exact hT13
  have hout : ∀ (B1 A1 : List (Option (Int × b_E))) (M' : g_M) (T' : N_T I_E), K1 = A1 ++ B1 → e_fr (R_EF m b l ρ x) M M' → E_S m b l (g_i M' b) M' LL → R_Tr m b ρ x dn V.1 V.2.1 T' M' → (g_i M' m 40 = 0 ∨ g_i M' m 40 = 1) → I_cn v4 V T' (B1.flatMap fun a => K2.map (I_pe no a)) → I_io v4 V (B1.flatMap fun a => K2.map (I_pe no a)) T' = I_io v4 V (K1.flatMap fun a => K2.map (I_pe no a)) T → g_Run (d + 70) 384 80 [(0, .ref m), (1, g_n x), (2, g_n c), (3, g_n no), (4, g_n v4), (5, g_n L.length), (6, g_n P1.length), (7, g_n ((P1.length + U1.length : Nat) : Int)), (8, g_n ((P1.length + K1.length + P2.length : Nat) : Int)), (9, g_n ((P1.length + K1.length + P2.length + U2.length : Nat) : Int)), (10, g_n ((P1.length + A1.length : Nat) : Int))] [] M' (g_qV Q) := by
    intro B1
    induction B1 with
    | nil =>
      intro A1 M' T' hK f' S' hT' h40'' hcn' hio
      rw [List.append_nil] at hK
      have hA1 := congrArg List.length hK
      have hR' := hR.fr f'
      refine s_X12_enterAll_80 ⟨by omega, by omega⟩ hcR hnoR hv4R ⟨by omega, by omega⟩ ⟨by omega, by omega⟩ ⟨by omega, by omega⟩ ⟨by omega, by omega⟩ ⟨by omega, by omega⟩ ⟨by omega, by omega⟩ fun _ => ⟨fun z => absurd z (by omega), fun _ => ⟨hR'.1.1, fun M3 e3 _ => ?_⟩⟩
      have f3 : e_fr (fun y q => y = m ∧ q = 10) M' M3 := by
        rw [e3]
        exact e_fr.wi _ ⟨rfl, rfl⟩
      have hm3 : ∀ q, q ≠ 10 → g_i M3 m q = g_i M' m q := fun q hq => f3.2.1 m q fun z => hq z.2
      have hb3 : g_i M3 b = g_i M' b := funext fun q => f3.2.1 b q fun z => ln3 z.1.symm
      refine hq M3 (f'.tr (f3.up fun y q z => Or.inl (Or.inr ⟨z.1, Or.inl z.2⟩))) ?_ ?_ (by rw [hm3 40 (by decide)]; exact h40'')
      · obtain ⟨a1, a2, a3, a4, a5, a6, a7⟩ := S'
        refine ⟨f3.R a1, by rw [f3.2.2]; exact a2, f3.A a3, by rw [e3, g_i_wi, if_pos ⟨rfl, rfl⟩], ?_, rfl, by omega⟩
        have h5 : b_at (g_i M' l) 0 L := by
          rw [hLLa, hP1, List.append_assoc] at a5
          exact (b_app.mp a5).1
        exact b_at_keep h5 fun q _ _ => f3.2.1 l q fun z => ln2 z.1
      · rw [← hio]
        refine hT'.frX f3 (fun y q z g => ?_) (fun q z => hVn.2.2.2 z.1) (by rw [hm3 47 (by decide)]; exact hT'.2.2.2.1)
        exact R_PX_le hR hlA ln1 z (Or.inr ⟨g.1, Or.inl g.2⟩)
    | cons a B1 ih =>
      intro A1 M' T' hK f' S' hT' h40'' hcn' hio
      have hA1 := congrArg List.length hK
      rw [List.length_append, List.length_cons] at hA1
      rw [List.flatMap_cons] at hcn' hio
      refine s_X12_enterAll_80 ⟨by omega, by omega⟩ hcR hnoR hv4R ⟨by omega, by omega⟩ ⟨by omega, by omega⟩ ⟨by omega, by omega⟩ ⟨by omega, by omega⟩ ⟨by omega, by omega⟩ ⟨by omega, by omega⟩ fun _ => ⟨fun _ => ?_, fun z => absurd (by omega) z⟩
      have h9 := hin a A1 B1 (B1.flatMap fun a => K2.map (I_pe no a)) hK K2 [] M' T' rfl f' S' hT' h40'' hcn' fun M'' f'' S'' T'' h4 hc4 => by
        have h8 := ih (A1 ++ [a]) M'' _ (by rw [hK]; simp) f'' S'' T'' h4 hc4 (by rw [← I_io_app]; exact hio)
        rwa [show ((P1.length + (A1 ++ [a]).length : Nat) : Int) = ((P1.length + A1.length + 1 : Nat) : Int) by rw [List.length_append, List.length_singleton]; omega] at h8
      exact h9
  have h9 := hout K1 [] M24 T rfl FF24 hS24b hT24 h4024 hcn rfl
  exact h9
end REA
