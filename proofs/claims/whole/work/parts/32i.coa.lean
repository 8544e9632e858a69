/-! EXPLAIN, THE REFERENCE: the conditions that a filter has for a path, all -/
theorem E_ct.wk {F : Int → Int} {c qq : Int} {D : Nat} {xs A B : List b_E} {z : b_E} (h : E_ct F c D xs) (hA : xs = A ++ z :: B) (hq : qq = c + 4 + (b_ser A).length) : e_tl F c qq D xs (z :: B) ∧ b_st F 922000 qq D z.1 z.2.1 z.2.2 ∧ L_at (c + 4) xs = L_at (c + 4) A ++ (qq, z) :: L_at (qq + (b_el z.1 z.2.1 z.2.2).length) B := by
  have htl : e_tl F c qq D xs (z :: B) := by
    have h9 : e_tl F c (c + 4) D xs (A ++ z :: B) := by
      rw [← hA]
      exact h.tl fun _ _ => rfl
    rw [hq]
    exact h9.app
  refine ⟨htl, ?_, ?_⟩
  · have hz := htl.cons.1
    have h1 := htl.2.2.2.2
    have h2 : (b_ser (z :: B)).length = (b_el z.1 z.2.1 z.2.2).length + (b_ser B).length := by
      have h1 : b_ser (z :: B) = b_el z.1 z.2.1 z.2.2 ++ b_ser B := rfl
      rw [h1, List.length_append]
    have h3 := h.2.2.1
    rw [b_doc_len] at h3
    exact ⟨hz.1, hz.2.1, hz.2.2.1, hz.2.2.2.1, by omega⟩
  · rw [hA, L_at_ap, hq]
    rfl
theorem E_ct.we {F : Int → Int} {c qq : Int} {D : Nat} {xs : List b_E} (h : E_ct F c D xs) (hq : qq = c + 4 + (b_ser xs).length) : e_tl F c qq D xs [] ∧ g_InR qq := by
  have htl : e_tl F c qq D xs [] := by
    have h9 : e_tl F c (c + 4) D xs (xs ++ []) := by
      rw [List.append_nil]
      exact h.tl fun _ _ => rfl
    rw [hq]
    exact h9.app
  refine ⟨htl, ?_⟩
  have h1 := h.2.1
  have h2 := h.2.2.1
  rw [b_doc_len] at h2
  exact ⟨by omega, by omega⟩
theorem E_ct.one {A : List b_E} {z : b_E} {c qq : Int} (hq : qq = c + 4 + (b_ser A).length) : qq + (b_el z.1 z.2.1 z.2.2).length = c + 4 + (b_ser (A ++ [z])).length := by
  rw [b_ser_app, List.length_append, b_ser_1, hq]
  omega
theorem L_at_sn {A : List b_E} {z : b_E} {c qq : Int} (hq : qq = c + 4 + (b_ser A).length) : L_at (c + 4) (A ++ [z]) = L_at (c + 4) A ++ [(qq, z)] := by
  rw [L_at_ap, ← hq]
  rfl
section DCA
variable {m : Nat} {ρ : Nat → Nat} {F : Int → Int} {x : List Int} {pp : Int}
theorem e_collect (hx : b_at F pp x) (hp0 : 0 ≤ pp) (hp1 : pp + x.length ≤ 2706210) : ∀ (n D : Nat) (c : Int) (xs : List b_E) (L : List (Bool × (Int × b_E))) (M : g_M) (Q : g_M → Prop) (d : Nat), E_bk m ρ M → g_i M (ρ 0) = F → E_Sy m ρ L M → E_ct F c D xs → D + 1 ≤ 2 * n → D_cv n x (L_at (c + 4) xs) → L.length + (D_co n x (L_at (c + 4) xs)).length ≤ 200 → (∀ M1, e_fr (E_SF m ρ) M M1 → E_Sy m ρ (L ++ D_co n x (L_at (c + 4) xs)) M1 → Q M1) → g_Call (d + 3 * n + 10) 397 [.ref m, g_n c, g_n pp, g_n (pp + x.length)] M (g_qV Q) := by
  intro n
  induction n with
  | zero => exact fun D c xs L M Q d _ _ _ _ hD => absurd hD (by omega)
  | succ n ihn =>
    intro D c xs L M Q d hB hF hI hct hD hcv hl hq
    have hc0 := hct.2.1
    have hc1 := hct.2.2.1
    rw [b_doc_len] at hc1
    have cR : g_InR c := ⟨by omega, by omega⟩
    have pR : g_InR pp := ⟨by omega, by omega⟩
    have tR : g_InR (pp + (x.length : Int)) := ⟨by omega, by omega⟩
    have hFm : ∀ {M' : g_M}, e_fr (E_SF m ρ) M M' → g_i M' (ρ 0) = F := fun f => (funext fun j => f.2.1 _ j (E_SF_n hB (by decide) (by decide))).trans hF
    rw [show d + 3 * (n + 1) + 10 = d + 3 * n + 12 + 1 by omega]
    refine m_X12_collect cR pR tR fun _ => ?_
    refine e_first (d := d + 3 * n + 11) (by omega) (by omega) ?_
    intro _ _ _
    have hlp : ∀ (B A : List b_E) (M' : g_M) (qq : Int), xs = A ++ B → qq = c + 4 + (b_ser A).length → e_fr (E_SF m ρ) M M' → E_Sy m ρ (L ++ D_co (n + 1) x (L_at (c + 4) A)) M' → g_Run (d + 3 * n + 12) 397 6 [(0, .ref m), (1, g_n c), (2, g_n pp), (3, g_n (pp + x.length)), (4, g_n qq)] [] M' (g_qV Q) := by
      intro B
      induction B with
      | nil =>
        intro A M' qq hA hqq f' I'
        rw [List.append_nil] at hA
        subst hA
        have hB' := hB.fr f'
        have hF' := hFm f'
        obtain ⟨htl, qR⟩ := hct.we hqq
        refine s_X12_collect_6 cR pR tR qR fun _ => ⟨hB'.1, e_lastE (d := d + 3 * n + 9) hB'.R (by rw [hF']; exact htl) ?_⟩
        intro _ _ _
        exact ⟨fun g => absurd g (by omega), fun _ => hq M' f' I'⟩
      | cons z B ih =>
        intro A M' qq hA hqq f' I'
        have hB' := hB.fr f'
        have hF' := hFm f'
        have hR' := hB'.R
        obtain ⟨htl, hz9, hLA⟩ := hct.wk hA hqq
        have hzW : ∀ {M2 : g_M}, g_i M2 (ρ 0) = F → b_st (g_i M2 (ρ 0)) 2706210 qq D z.1 z.2.1 z.2.2 := fun h => hz9.upW fun k _ => by rw [h]
        have qR : g_InR qq := (hzW hF').R (by decide)
        have hz0 := hz9.2.2.2.1
        have hz1 := hz9.2.2.2.2
        rw [b_el_len] at hz1
        obtain ⟨v1, v2⟩ := hcv (qq, z) (by rw [hLA]; simp)
        have hlz : L.length + (D_co (n + 1) x (L_at (c + 4) A)).length + (D_co1 n x (qq, z)).length ≤ 200 := by
          rw [hLA, D_co_s, List.flatMap_append, List.flatMap_cons, List.length_append, List.length_append] at hl
          rw [D_co_s]
          omega
        -- the next one
        have hgo : ∀ M2, e_fr (E_SF m ρ) M M2 → E_Sy m ρ (L ++ D_co (n + 1) x (L_at (c + 4) A) ++ D_co1 n x (qq, z)) M2 → g_Call (d + 3 * n + 12) 235 [.ref m, g_n qq] M2 (g_qI fun r M3 => g_ext M2 M3 → g_ok M3 → g_InR r → g_Run (d + 3 * n + 12) 397 6 [(0, .ref m), (1, g_n c), (2, g_n pp), (3, g_n (pp + x.length)), (4, g_n r)] [] M3 (g_qV Q)) := fun M2 f2 I2 => by
          refine e_bh2 (d := d + 3 * n + 8) (hB.fr f2).R (hzW (hFm f2)) ?_
          intro _ _ _
          refine ih (A ++ [z]) M2 _ (by rw [hA]; simp) (E_ct.one hqq) f2 ?_
          rw [L_at_sn hqq, D_co_s, List.flatMap_append, ← List.append_assoc]
          have e1 : ([(qq, z)] : List (Int × b_E)).flatMap (D_co1 n x) = D_co1 n x (qq, z) := List.append_nil _
          rw [e1]
          exact I2
        -- one more condition
        refine s_X12_collect_6 cR pR tR qR fun _ => ⟨hB'.1, e_lastC (d := d + 3 * n + 9) hR' (by rw [hF']; exact htl) fun r hr1 hr2 => ?_⟩
        intro _ _ _
        have hkid : (z.1 = 3 ∨ z.1 = 4) → ∃ D1, D = D1 + 1 ∧ E_ct F (qq + 2 + (z.2.1.length : Int)) D1 (b_ch z.2.2) ∧ L_ch qq z = L_at (qq + 2 + (z.2.1.length : Int) + 4) (b_ch z.2.2) := fun h => by
          obtain ⟨D1, eD, h1, -⟩ := E_ct.of (z := z) hz9 h
          refine ⟨D1, eD, h1, ?_⟩
          unfold L_ch
          rw [show qq + 6 + (z.2.1.length : Int) = qq + 2 + z.2.1.length + 4 by omega]
        have hvl : ∀ {M2 : g_M} {Q1 : Int → g_M → Prop}, e_fr (E_SF m ρ) M M2 → Q1 (qq + 2 + z.2.1.length) M2 → g_Call (d + 3 * n + 12) 233 [.ref m, g_n qq] M2 (g_qI Q1) := fun f2 h => e_vl2 (d := d + 3 * n + 10) (hB.fr f2).R (hzW (hFm f2)) h
        have b62 := hB'.at (k := 62) (by decide)
        have b62A : g_A M' (ρ 62) 1 200 := b62.2
        have b63 := hB'.at (k := 63) (by decide)
        have b63A : g_A M' (ρ 63) 2 200 := b63.2
        refine ⟨fun _ => ?_, fun g => absurd hr1 g⟩
        refine e_nm3 (j := 94) (j2 := 94) (by decide) rfl hR' (hzW hF') (fun h94 => ?_) fun h94 => ?_
        · -- $and
          intro _ _ _
          refine ⟨fun g => absurd g (by decide), fun _ => ?_⟩
          obtain ⟨z4, zi⟩ := v1 h94
          obtain ⟨D1, eD, hk, hLk⟩ := hkid (Or.inr z4)
          have hD1 : D_co1 n x (qq, z) = (L_ch qq z).flatMap fun i => D_co n x (L_ch i.1 i.2) := if_pos h94
          obtain ⟨ck, hck⟩ : ∃ ck : Int, ck = qq + 2 + (z.2.1.length : Int) := ⟨_, rfl⟩
          rw [← hck] at hk hLk
          have hk1 := hk.2.2.1
          rw [b_doc_len] at hk1
          refine hvl f' ?_
          intro _ _ _
          rw [← hck]
          refine e_first (d := d + 3 * n + 11) (by omega) (by omega) ?_
          intro _ _ _
          have h39 : ∀ (B2 A2 : List b_E) (M2 : g_M) (q2 : Int), b_ch z.2.2 = A2 ++ B2 → q2 = ck + 4 + (b_ser A2).length → e_fr (E_SF m ρ) M M2 → E_Sy m ρ (L ++ D_co (n + 1) x (L_at (c + 4) A) ++ (L_at (ck + 4) A2).flatMap fun i => D_co n x (L_ch i.1 i.2)) M2 → g_Run (d + 3 * n + 12) 397 39 [(0, .ref m), (1, g_n c), (2, g_n pp), (3, g_n (pp + x.length)), (4, g_n qq), (5, g_n q2)] [] M2 (g_qV Q) := by
            intro B2
            induction B2 with
            | nil =>
              intro A2 M2 q2 hA2 hq2 f2 I2
              rw [List.append_nil] at hA2
              subst hA2
              have hB2 := hB.fr f2
              have hF2 := hFm f2
              obtain ⟨htl2, q2R⟩ := hk.we hq2
              refine s_X12_collect_39 cR pR tR qR q2R fun _ => ⟨hB2.1, hvl f2 ?_⟩
              intro _ _ _
              rw [← hck]
              refine e_lastE (d := d + 3 * n + 9) hB2.R (by rw [hF2]; exact htl2) ?_
              intro _ _ _
              refine ⟨fun g => absurd g (by omega), fun _ => hgo M2 f2 ?_⟩
              rw [hD1, hLk]
              exact I2
            | cons i B2 ih2 =>
              intro A2 M2 q2 hA2 hq2 f2 I2
              have hB2 := hB.fr f2
              have hF2 := hFm f2
              obtain ⟨htl2, hi9, hLi⟩ := hk.wk hA2 hq2
              have hiW : ∀ {M3 : g_M}, g_i M3 (ρ 0) = F → b_st (g_i M3 (ρ 0)) 2706210 q2 D1 i.1 i.2.1 i.2.2 := fun h => hi9.upW fun k _ => by rw [h]
              have q2R : g_InR q2 := (hiW hF2).R (by decide)
              obtain ⟨i3, icv⟩ := zi (q2, i) (by
                show (q2, i) ∈ L_ch qq z
                rw [hLk, hLi]
                simp)
              obtain ⟨D2, eD2, hk2, -⟩ := E_ct.of (z := i) hi9 (Or.inl i3)
              have hLk2 : L_ch q2 i = L_at (q2 + 2 + (i.2.1.length : Int) + 4) (b_ch i.2.2) := by
                unfold L_ch
                rw [show q2 + 6 + (i.2.1.length : Int) = q2 + 2 + i.2.1.length + 4 by omega]
              have icv : D_cv n x (L_ch q2 i) := icv
              rw [hLk2] at icv
              have hli : L.length + (D_co (n + 1) x (L_at (c + 4) A)).length + ((L_at (ck + 4) A2).flatMap fun i => D_co n x (L_ch i.1 i.2)).length + (D_co n x (L_at (q2 + 2 + (i.2.1.length : Int) + 4) (b_ch i.2.2))).length ≤ 200 := by
                rw [hD1, hLk, hLi, List.flatMap_append, List.flatMap_cons, List.length_append, List.length_append] at hlz
                have e2 : (D_co n x (L_ch (q2, i).1 (q2, i).2)).length = (D_co n x (L_at (q2 + 2 + (i.2.1.length : Int) + 4) (b_ch i.2.2))).length := by
                  show (D_co n x (L_ch q2 i)).length = _
                  rw [hLk2]
                omega
              refine s_X12_collect_39 cR pR tR qR q2R fun _ => ⟨hB2.1, hvl f2 ?_⟩
              intro _ _ _
              rw [← hck]
              refine e_lastC (d := d + 3 * n + 9) hB2.R (by rw [hF2]; exact htl2) fun r2 hr3 hr4 => ?_
              intro _ _ _
              refine ⟨fun _ => ?_, fun g => absurd hr3 g⟩
              refine e_vl2 (d := d + 3 * n + 10) hB2.R (hiW hF2) ?_
              intro _ _ _
              have hcall := ihn D2 (q2 + 2 + (i.2.1.length : Int)) (b_ch i.2.2) (L ++ D_co (n + 1) x (L_at (c + 4) A) ++ (L_at (ck + 4) A2).flatMap fun i => D_co n x (L_ch i.1 i.2)) M2 (fun M22 => g_ext M2 M22 → g_ok M22 → g_Call (d + 3 * n + 12) 235 [.ref m, g_n q2] M22 (g_qI fun r M3 => g_ext M22 M3 → g_ok M3 → g_InR r → g_Run (d + 3 * n + 12) 397 39 [(0, .ref m), (1, g_n c), (2, g_n pp), (3, g_n (pp + x.length)), (4, g_n qq), (5, g_n r)] [] M3 (g_qV Q))) (d + 2) hB2 hF2 I2 hk2 (by omega) icv (by rw [List.length_append, List.length_append]; exact hli) fun M3 f3 I3 => by
                intro _ _
                have F3 := f2.tr f3
                refine e_bh2 (d := d + 3 * n + 8) (hB.fr F3).R (hiW (hFm F3)) ?_
                intro _ _ _
                refine ih2 (A2 ++ [i]) M3 _ (by rw [hA2]; simp) (E_ct.one hq2) F3 ?_
                rw [L_at_sn hq2, List.flatMap_append, ← List.append_assoc]
                have e1 : ([(q2, i)] : List (Int × b_E)).flatMap (fun i => D_co n x (L_ch i.1 i.2)) = D_co n x (L_at (q2 + 2 + (i.2.1.length : Int) + 4) (b_ch i.2.2)) := by
                  rw [← hLk2]
                  exact List.append_nil _
                rw [e1]
                exact I3
              rw [show d + 2 + 3 * n + 10 = d + 3 * n + 12 by omega] at hcall
              exact hcall
          refine h39 (b_ch z.2.2) [] M' _ rfl (by show _ = _ + ((0 : Nat) : Int); omega) f' ?_
          show E_Sy m ρ (L ++ D_co (n + 1) x (L_at (c + 4) A) ++ []) M'
          rw [List.append_nil]
          exact I'
        · -- a name
          intro _ _ _
          refine ⟨fun _ => ⟨⟨by omega, by omega⟩, e_nm2 (d := d + 3 * n + 11) hR' (hzW hF') ?_⟩, fun g => absurd rfl g⟩
          intro _ _ _
          refine e_same (d := d + 3 * n + 11) (x := z.2.1) (y := x) hR' (b_el_at (hzW hF').1).2.1 (by rw [hF']; exact hx) (by omega) (by omega) hp0 hp1 ?_
          intro _ _ _
          by_cases hnx : z.2.1 = x
          case neg =>
            rw [if_neg hnx]
            have hD1 : D_co1 n x (qq, z) = [] := by
              unfold D_co1
              rw [if_neg h94, if_neg hnx]
            refine ⟨fun _ => hgo M' f' ?_, fun g => absurd rfl g⟩
            rw [hD1, List.append_nil]
            exact I'
          rw [if_pos hnx]
          refine ⟨fun g => absurd g (by decide), fun _ => ?_⟩
          have h64 := I'.1
          obtain ⟨LA, hLAe⟩ : ∃ LA, LA = L ++ D_co (n + 1) x (L_at (c + 4) A) := ⟨_, rfl⟩
          rw [← hLAe] at h64 I' hgo
          have hLAl : LA.length = L.length + (D_co (n + 1) x (L_at (c + 4) A)).length := by rw [hLAe, List.length_append]
          refine e_areConds (d := d + 3 * n + 8) hR' (hzW hF') (fun hcs => ?_) fun hcs => ?_
          · -- its conditions
            intro _ _ _
            refine ⟨fun g => absurd g (by decide), fun _ => ?_⟩
            have z3 := v2 hcs
            obtain ⟨D2, eD, hk, hLk⟩ := hkid (Or.inl z3)
            have hD1 : D_co1 n x (qq, z) = (L_ch qq z).map fun f => (false, f) := by
              unfold D_co1
              rw [if_neg h94, if_pos hnx, if_pos (show F_cs (qq, z).2 = true from hcs)]
            obtain ⟨ck, hck⟩ : ∃ ck : Int, ck = qq + 2 + (z.2.1.length : Int) := ⟨_, rfl⟩
            rw [← hck] at hk hLk
            have hk1 := hk.2.2.1
            rw [b_doc_len] at hk1
            refine hvl f' ?_
            intro _ _ _
            rw [← hck]
            refine e_first (d := d + 3 * n + 11) (by omega) (by omega) ?_
            intro _ _ _
            have h150 : ∀ (B2 A2 : List b_E) (M2 : g_M) (q2 : Int), b_ch z.2.2 = A2 ++ B2 → q2 = ck + 4 + (b_ser A2).length → e_fr (E_SF m ρ) M M2 → E_Sy m ρ (LA ++ (L_at (ck + 4) A2).map fun f => (false, f)) M2 → g_Run (d + 3 * n + 12) 397 150 [(0, .ref m), (1, g_n c), (2, g_n pp), (3, g_n (pp + x.length)), (4, g_n qq), (5, g_n q2)] [] M2 (g_qV Q) := by
              intro B2
              induction B2 with
              | nil =>
                intro A2 M2 q2 hA2 hq2 f2 I2
                rw [List.append_nil] at hA2
                subst hA2
                have hB2 := hB.fr f2
                have hF2 := hFm f2
                obtain ⟨htl2, q2R⟩ := hk.we hq2
                refine s_X12_collect_150 cR pR tR qR q2R fun _ => ⟨hB2.1, hvl f2 ?_⟩
                intro _ _ _
                rw [← hck]
                refine e_lastE (d := d + 3 * n + 9) hB2.R (by rw [hF2]; exact htl2) ?_
                intro _ _ _
                refine ⟨fun g => absurd g (by omega), fun _ => hgo M2 f2 ?_⟩
                rw [hD1, hLk]
                exact I2
              | cons i B2 ih2 =>
                intro A2 M2 q2 hA2 hq2 f2 I2
                have hB2 := hB.fr f2
                have hF2 := hFm f2
                obtain ⟨htl2, hi9, hLi⟩ := hk.wk hA2 hq2
                have hiW : ∀ {M3 : g_M}, g_i M3 (ρ 0) = F → b_st (g_i M3 (ρ 0)) 2706210 q2 D2 i.1 i.2.1 i.2.2 := fun h => hi9.upW fun k _ => by rw [h]
                have q2R : g_InR q2 := (hiW hF2).R (by decide)
                have b62' := hB2.at (k := 62) (by decide)
                have b62A' : g_A M2 (ρ 62) 1 200 := b62'.2
                have b63' := hB2.at (k := 63) (by decide)
                have b63A' : g_A M2 (ρ 63) 2 200 := b63'.2
                have h642 := I2.1
                obtain ⟨nn, hnn⟩ : ∃ nn, nn = (LA ++ (L_at (ck + 4) A2).map fun f => (false, f)).length := ⟨_, rfl⟩
                have hnn2 : nn + 1 ≤ 200 := by
                  rw [hD1, hLk, hLi, List.map_append, List.map_cons, List.length_append, List.length_cons] at hlz
                  rw [hnn, List.length_append]
                  omega
                rw [← hnn] at h642
                refine s_X12_collect_150 cR pR tR qR q2R fun _ => ⟨hB2.1, hvl f2 ?_⟩
                intro _ _ _
                rw [← hck]
                refine e_lastC (d := d + 3 * n + 9) hB2.R (by rw [hF2]; exact htl2) fun r2 hr3 hr4 => ?_
                intro _ _ _
                refine ⟨fun _ => ⟨ρ 63, b63'.1, 200, b63A', ⟨by omega, by omega⟩, ?_⟩, fun g => absurd hr3 g⟩
                rw [h642]
                rintro M22 e22 _
                have g22 : g_i M22 m 64 = nn := by rw [e22, g_i_wi, if_neg (fun z => hB.nm (k := 63) (by decide) z.1.symm)]; exact h642
                have fA : e_fr (E_SF m ρ) M2 M22 := by rw [e22]; exact e_fr.wi _ (Or.inr (Or.inl rfl))
                refine ⟨ρ 62, by rw [fA.2.2]; exact b62'.1, ⟨by omega, by omega⟩, ?_⟩
                rw [g22]
                rintro M29 e29 _
                have fB : e_fr (E_SF m ρ) M2 M29 := fA.tr (by rw [e29]; exact e_fr.wi _ (Or.inr (Or.inr ⟨rfl, rfl⟩)))
                refine ⟨200, fB.A b62A', ⟨by omega, by omega⟩, ?_⟩
                rintro M36 e36 _
                obtain ⟨I3, f3⟩ := E_Sy.add (M48 := M22) (M55 := M29) (M62 := M36) (al := false) (y := (q2, i)) (v := 0) hB2 I2 rfl (by rw [← hnn]; exact e22) (by rw [← hnn]; exact e29) (by rw [← hnn]; exact e36)
                have F3 := f2.tr f3
                refine e_bh2 (d := d + 3 * n + 8) (hB.fr F3).R (hiW (hFm F3)) ?_
                intro _ _ _
                refine ih2 (A2 ++ [i]) M36 _ (by rw [hA2]; simp) (E_ct.one hq2) F3 ?_
                rw [L_at_sn hq2, List.map_append, ← List.append_assoc]
                exact I3
            refine h150 (b_ch z.2.2) [] M' _ rfl (by show _ = _ + ((0 : Nat) : Int); omega) f' ?_
            show E_Sy m ρ (LA ++ []) M'
            rw [List.append_nil]
            exact I'
          · -- a value alone
            intro _ _ _
            have hD1 : D_co1 n x (qq, z) = [(true, (qq, z))] := by
              unfold D_co1
              rw [if_neg h94, if_pos hnx, if_neg (by rw [show F_cs (qq, z).2 = false from hcs]; decide)]
            rw [hD1, List.length_singleton] at hlz
            refine ⟨fun _ => ⟨ρ 63, b63.1, 200, b63A, ⟨by omega, by omega⟩, ?_⟩, fun g => absurd rfl g⟩
            rw [h64]
            rintro M48 e48 _
            have g48 : g_i M48 m 64 = LA.length := by rw [e48, g_i_wi, if_neg (fun z => hB.nm (k := 63) (by decide) z.1.symm)]; exact h64
            have fA : e_fr (E_SF m ρ) M' M48 := by rw [e48]; exact e_fr.wi _ (Or.inr (Or.inl rfl))
            refine ⟨ρ 62, by rw [fA.2.2]; exact b62.1, ⟨by omega, by omega⟩, ?_⟩
            rw [g48]
            rintro M55 e55 _
            have fB : e_fr (E_SF m ρ) M' M55 := fA.tr (by rw [e55]; exact e_fr.wi _ (Or.inr (Or.inr ⟨rfl, rfl⟩)))
            refine ⟨200, fB.A b62A, ⟨by omega, by omega⟩, ?_⟩
            rintro M62 e62 _
            obtain ⟨I3, f3⟩ := E_Sy.add (al := true) (y := (qq, z)) (v := 1) hB' I' rfl e48 e55 e62
            refine hgo M62 (f'.tr f3) ?_
            rw [hD1]
            exact I3
    exact hlp xs [] M (c + 4) rfl (by show _ = _ + ((0 : Nat) : Int); omega) (e_fr.rf _ _) (by
      show E_Sy m ρ (L ++ []) M
      rw [List.append_nil]
      exact hI)
end DCA
