/-! EXPLAIN, THE REFERENCE: the bounds of any condition ($elem, too) -/
/-- what is in the bounds so far and in those of one more condition -/
noncomputable def D_el (s : Option (List D_i)) (f : Int × b_E) : Option (List D_i) := match D_bo false f with
  | none => s
  | some P => match s with
    | none => some P
    | some A => some (D_mts A P)
noncomputable def D_els (s : Option (List D_i)) (l : List (Int × b_E)) : Option (List D_i) := l.foldl D_el s
def D_row : D_i := (5, none, false, none, false)
noncomputable def D_ba (al : Bool) (y : Int × b_E) : Option (List D_i) := if al = true ∨ ¬ F_cd y.2.2.1 = 11 then D_bo al y else if F_ci y.2 = true then (D_els none (L_ch y.1 y.2)).map fun A => A ++ [D_row] else none
theorem D_els_snoc (s : Option (List D_i)) (l : List (Int × b_E)) (f : Int × b_E) : D_els s (l ++ [f]) = D_el (D_els s l) f := List.foldl_append
/-- all that is met has room -/
def D_rm (l : List (Int × b_E)) : Prop := ∀ l1 f l2, l = l1 ++ f :: l2 → (L_ch f.1 f.2).length ≤ 1000 ∧ ∀ P, D_bo false f = some P → P.length ≤ 2100 ∧ ∀ A, D_els none l1 = some A → A.length + P.length + (D_mts A P).length ≤ 2100
section DBA
variable {m d b : Nat} {ρ : Nat → Nat} {M M1 : g_M} {L L0 : List D_i}
theorem D_pt_io {F : Int → Int} {y : Int × b_E} (h : b_st F 2706210 y.1 20 y.2.1 y.2.2.1 y.2.2.2) : D_io F (D_pt y) := by
  have hc := b_cl_R y.2.1
  exact ⟨⟨hc, Or.inr (Or.inl rfl), fun _ => ⟨h, rfl⟩⟩, ⟨hc, Or.inr (Or.inl rfl), fun _ => ⟨h, rfl⟩⟩⟩
theorem D_bo_io {F : Int → Int} {al : Bool} {y : Int × b_E} {P : List D_i} (hy : b_st F 2706210 y.1 20 y.2.1 y.2.2.1 y.2.2.2) (hch : ∀ z ∈ L_ch y.1 y.2, D_k al y = 3 → b_st F 2706210 z.1 20 z.2.1 z.2.2.1 z.2.2.2) (h : D_bo al y = some P) : ∀ x ∈ P, D_io F x := by
  have hc := b_cl_R y.2.1
  have hp := D_pt_io hy
  intro x hx
  unfold D_bo at h
  by_cases g3 : D_k al y = 3
  · rw [if_pos g3] at h
    split at h
    · exact absurd h (by simp)
    · have h := Option.some.inj h
      rw [← h] at hx
      obtain ⟨z, hz, rfl⟩ := List.mem_map.mp hx
      rcases (D_aps_len (L_ch y.1 y.2) []).2 z hz with g | g
      · exact absurd g (by simp)
      · exact D_pt_io (hch z g g3)
  · rw [if_neg g3] at h
    by_cases g4 : y.2.1 = 4
    · rw [if_pos g4] at h
      exact absurd h (by simp)
    · rw [if_neg g4] at h
      by_cases g1 : D_k al y = 1
      · rw [if_pos g1] at h
        rw [← Option.some.inj h, List.mem_singleton] at hx
        rw [hx]
        exact hp
      · rw [if_neg g1] at h
        by_cases g5 : D_k al y = 5 ∨ D_k al y = 6
        · rw [if_pos g5] at h
          rw [← Option.some.inj h] at hx
          split at hx
          · split at hx
            · rw [List.mem_singleton.mp hx]
              exact hp
            · exact absurd hx (by simp)
          · rw [List.mem_singleton.mp hx]
            exact ⟨⟨hc, Or.inl rfl, fun z => absurd (show (0 : Int) = 1 from z) (by decide)⟩, hp.2⟩
        · rw [if_neg g5] at h
          by_cases g7 : D_k al y = 7 ∨ D_k al y = 8
          · rw [if_pos g7] at h
            rw [← Option.some.inj h] at hx
            split at hx
            · split at hx
              · rw [List.mem_singleton.mp hx]
                exact hp
              · exact absurd hx (by simp)
            · rw [List.mem_singleton.mp hx]
              exact ⟨hp.1, ⟨hc, Or.inr (Or.inr rfl), fun z => absurd (show (2 : Int) = 1 from z) (by decide)⟩⟩
          · rw [if_neg g7] at h
            exact absurd h (by simp)
theorem e_boundsOfAny {Q : Int → g_M → Prop} {y : Int × b_E} {al : Bool} (hB : E_bk m ρ M) (hI : E_Iv m ρ L M) (hy : b_st (g_i M (ρ 0)) 922000 y.1 20 y.2.1 y.2.2.1 y.2.2.2) (hin : al = false → F_cd y.2.2.1 = 3 → y.2.1 = 4) (hel : al = false → F_cd y.2.2.1 = 11 → F_ci y.2 = true → (y.2.1 = 3 ∨ y.2.1 = 4) ∧ (∀ f ∈ L_ch y.1 y.2, F_cd f.2.2.1 = 3 → f.2.1 = 4) ∧ D_rm (L_ch y.1 y.2)) (hl : L.length + (L_ch y.1 y.2).length ≤ 2800) (hn : D_ba al y = none → ∀ M1, e_fr (E_IF m ρ) M M1 → E_Iv m ρ L M1 → Q 0 M1) (hsm : ∀ P, D_ba al y = some P → ∀ M1, e_fr (E_IF m ρ) M M1 → E_Iv m ρ (L ++ P) M1 → Q 1 M1) : g_Call (d + 54) 395 [.ref m, g_n y.1, g_n (if al = true then 1 else 0)] M (g_qI Q) := by
  have hR := hB.R
  have hyW := hy.upW (B := g_i M (ρ 0)) fun _ _ => rfl
  have hyR : g_InR y.1 := hyW.R (by decide)
  have hLR : g_InR (L.length : Int) := ⟨by omega, by omega⟩
  obtain ⟨v2, hv2⟩ : ∃ v2 : Int, v2 = if al = true then 1 else 0 := ⟨_, rfl⟩
  rw [← hv2]
  have hf2 : D_f v2 (al = true) := by rw [hv2]; exact D_f.of
  have hb01 : ∀ c : Bool, c = true ∨ c = false := fun c => by cases c <;> simp
  have hone : (al = true ∨ ¬ F_cd y.2.2.1 = 11) → g_Call (d + 53) 394 [.ref m, g_n y.1, g_n v2] M (g_qI fun r31 M28 => g_ext M M28 → g_ok M28 → g_InR r31 → (r31 = 0 ∨ r31 = 1) ∧ Q r31 M28) := fun h => by
    have hba : D_ba al y = D_bo al y := if_pos h
    rw [hv2]
    refine e_boundsOf (d := d + 3) hB hI hy hin (by omega) (fun h2 => ?_) fun P hP M1 f1 I1 => ?_
    · intro _ _ _
      exact ⟨Or.inl rfl, hn (hba.trans h2) M (e_fr.rf _ _) hI⟩
    · intro _ _ _
      exact ⟨Or.inr rfl, hsm P (hba.trans hP) M1 f1 I1⟩
  refine m_X12_boundsOfAny hyR hf2.R fun _ => ⟨fun g => ⟨hB.1, e_cdF (d := d + 49) (j := 107) (i := 11) (by decide) (by decide +kernel) (by decide) (by decide) hR hyW fun r hr => ?_⟩, fun g => ⟨hB.1, hone (Or.inl (hf2.y g))⟩⟩
  intro _ _ _
  have hal : al = false := by
    rcases hb01 al with u | u
    · exact absurd u (hf2.n g)
    · exact u
  refine ⟨fun z => hone (Or.inr (hr.n z)), fun z => ?_⟩
  have h11 := hr.y z
  have hnb : ¬ (al = true ∨ ¬ F_cd y.2.2.1 = 11) := fun u => u.elim (fun e => by rw [hal] at e; exact absurd e (by decide)) fun e => e h11
  refine e_areItems (d := d + 47) hR hyW (fun hci => ?_) fun hci => ?_
  · intro _ _ _
    refine ⟨fun z => absurd z (by decide), fun _ => ?_⟩
    have hba : D_ba al y = (D_els none (L_ch y.1 y.2)).map fun A => A ++ [D_row] := by
      unfold D_ba
      rw [if_neg hnb, if_pos (show F_ci y.2 = true from hci)]
    obtain ⟨h34, hin3, hrm⟩ := hel hal h11 hci
    obtain ⟨D1, eD, hct, -⟩ := E_ct.of (z := y.2) hy h34
    obtain ⟨c, hc⟩ : ∃ c : Int, c = y.1 + 2 + (y.2.2.1.length : Int) := ⟨_, rfl⟩
    rw [← hc] at hct
    obtain ⟨xs, hxs⟩ : ∃ xs, xs = b_ch y.2.2.2 := ⟨_, rfl⟩
    rw [← hxs] at hct
    have hLc : L_ch y.1 y.2 = L_at (c + 4) xs := by
      unfold L_ch
      rw [hxs, hc, show y.1 + 6 + (y.2.2.1.length : Int) = y.1 + 2 + y.2.2.1.length + 4 by omega]
    rw [hLc] at hba hin3 hrm hl
    have hq0 := hct.2.1
    have hq1 := hct.2.2.1
    have hq1' := hq1
    rw [b_doc_len] at hq1'
    have h61 := hI.1
    have hvl : ∀ {M' : g_M} {Q1 : Int → g_M → Prop}, E_bk m ρ M' → g_i M' (ρ 0) = g_i M (ρ 0) → Q1 c M' → g_Call (d + 53) 233 [.ref m, g_n y.1] M' (g_qI Q1) := fun hB' hF h => by
      refine e_vl2 (d := d + 51) hB'.R (by rw [hF]; exact hyW) ?_
      rw [← hc]
      exact h
    refine hvl hB rfl ?_
    intro _ _ _
    refine e_first (d := d + 52) (by omega) (by omega) ?_
    intro _ _ _
    rw [h61]
    have hlp : ∀ (B A : List b_E) (M' : g_M) (qq : Int) (S : Option (List D_i)) (v4 : Int), xs = A ++ B → qq = c + 4 + (b_ser A).length → e_fr (E_IF m ρ) M M' → S = D_els none (L_at (c + 4) A) → (v4 = if S.isSome = true then 1 else 0) → E_Iv m ρ (L ++ S.getD []) M' → (∀ x ∈ S.getD [], D_io (g_i M (ρ 0)) x) → (S.getD []).length ≤ 2100 → g_Run (d + 53) 395 50 [(0, .ref m), (1, g_n y.1), (2, g_n v2), (3, g_n L.length), (4, g_n v4), (5, g_n qq)] [] M' (g_qI Q) := by
      intro B
      induction B with
      | nil =>
        intro A M' qq S v4 hA hqq f' hS hv4 I' hio hSl
        rw [List.append_nil] at hA
        subst hA
        have hB' := hB.fr f'
        have hF : g_i M' (ρ 0) = g_i M (ρ 0) := funext fun j => f'.2.1 _ j (E_IF_n hB (by decide) (by decide))
        have htl : e_tl (g_i M' (ρ 0)) c qq D1 xs [] := by
          have h9 : e_tl (g_i M' (ρ 0)) c (c + 4) D1 xs (xs ++ []) := by
            rw [List.append_nil, hF]
            exact hct.tl fun _ _ => rfl
          rw [hqq]
          exact h9.app
        have hqR : g_InR qq := by
          have := htl.2.2.2.2
          have := htl.2.2.1
          rw [b_doc_len] at this
          have h0 : (b_ser ([] : List b_E)).length = 0 := rfl
          exact ⟨by omega, by omega⟩
        have v4R : g_InR v4 := by rw [hv4]; split <;> exact ⟨by decide, by decide⟩
        refine s_X12_boundsOfAny_50 hyR hf2.R hLR v4R hqR fun _ => ⟨hB'.1, hvl hB' hF ?_⟩
        intro _ _ _
        refine e_lastE (d := d + 50) hB'.R htl ?_
        intro _ _ _
        rcases hSe : S with _ | A
        · have h0 : v4 = 0 := by rw [hv4, hSe]; rfl
          rw [← hS, hSe] at hba
          rw [hSe] at I'
          rw [h0]
          refine ⟨fun g => absurd g (by omega), fun _ => ⟨fun _ => ⟨Or.inl rfl, hn hba M' f' ?_⟩, fun g => absurd rfl g⟩⟩
          have e1 : L ++ (none : Option (List D_i)).getD [] = L := List.append_nil L
          rw [e1] at I'
          exact I'
        · have h0 : v4 = 1 := by rw [hv4, hSe]; rfl
          rw [← hS, hSe] at hba
          rw [hSe] at I' hSl
          have I' : E_Iv m ρ (L ++ A) M' := I'
          have hSl : A.length ≤ 2100 := hSl
          rw [h0]
          refine ⟨fun g => absurd g (by omega), fun _ => ⟨fun g => absurd g (by decide), fun _ => ?_⟩⟩
          refine m_X12_beginning ⟨by decide, by decide⟩ fun _ => ⟨⟨by decide, by decide⟩, ?_⟩
          intro _ _ _
          refine m_X12_ending ⟨by decide, by decide⟩ fun _ => ⟨⟨by decide, by decide⟩, ?_⟩
          intro _ _ _
          refine e_addIv (d := d + 52) (x := D_row) hB' I' (by rw [List.length_append]; omega) rfl rfl rfl rfl ⟨by decide, by decide⟩ ⟨by decide, by decide⟩ fun M2 f2 I2 => ?_
          intro _ _
          refine ⟨Or.inr rfl, hsm (A ++ [D_row]) hba M2 (f'.tr f2) ?_⟩
          rw [← List.append_assoc]
          exact I2
      | cons z B ih =>
        intro A M' qq S v4 hA hqq f' hS hv4 I' hio hSl
        have hB' := hB.fr f'
        have hF : g_i M' (ρ 0) = g_i M (ρ 0) := funext fun j => f'.2.1 _ j (E_IF_n hB (by decide) (by decide))
        have htl : e_tl (g_i M' (ρ 0)) c qq D1 xs (z :: B) := by
          have h9 : e_tl (g_i M' (ρ 0)) c (c + 4) D1 xs (A ++ z :: B) := by
            rw [← hA, hF]
            exact hct.tl fun _ _ => rfl
          rw [hqq]
          exact h9.app
        have hz := htl.cons.1
        have hzR := hz.R (by decide)
        have hLA : L_at (c + 4) xs = L_at (c + 4) A ++ (qq, z) :: L_at (qq + (b_el z.1 z.2.1 z.2.2).length) B := by
          rw [hA, L_at_ap, hqq]
          rfl
        obtain ⟨hch, hroom⟩ := hrm _ _ _ hLA
        have hzm : (qq, z) ∈ L_at (c + 4) xs := by rw [hLA]; simp
        have v4R : g_InR v4 := by rw [hv4]; split <;> exact ⟨by decide, by decide⟩
        have hz9 : b_st (g_i M' (ρ 0)) 922000 qq 20 z.1 z.2.1 z.2.2 := by
          have h1 := htl.2.2.2.2
          have h2 : (b_ser (z :: B)).length = (b_el z.1 z.2.1 z.2.2).length + (b_ser B).length := by
            have h1 : b_ser (z :: B) = b_el z.1 z.2.1 z.2.2 ++ b_ser B := rfl
            rw [h1, List.length_append]
          have h3 := hz.le (D2 := 20) (by omega)
          exact ⟨h3.1, h3.2.1, h3.2.2.1, h3.2.2.2.1, by omega⟩
        have hz20 := hz9.upW (B := g_i M' (ρ 0)) fun _ _ => rfl
        -- behind it
        have hbh : ∀ {M2 : g_M} {Q1 : Int → g_M → Prop}, E_bk m ρ M2 → g_i M2 (ρ 0) = g_i M (ρ 0) → Q1 (qq + (b_el z.1 z.2.1 z.2.2).length) M2 → g_Call (d + 53) 235 [.ref m, g_n qq] M2 (g_qI Q1) := fun hB2 hF2 h => e_bh2 (d := d + 49) hB2.R (by rw [hF2, ← hF]; exact hz) h
        have hnx : ∀ (M2 : g_M) (v : Int), e_fr (E_IF m ρ) M M2 → (v = if (D_el S (qq, z)).isSome = true then 1 else 0) → E_Iv m ρ (L ++ (D_el S (qq, z)).getD []) M2 → (∀ x ∈ (D_el S (qq, z)).getD [], D_io (g_i M (ρ 0)) x) → ((D_el S (qq, z)).getD []).length ≤ 2100 → g_Run (d + 53) 395 50 [(0, .ref m), (1, g_n y.1), (2, g_n v2), (3, g_n L.length), (4, g_n v), (5, g_n (qq + (b_el z.1 z.2.1 z.2.2).length))] [] M2 (g_qI Q) := fun M2 v f2 hv I2 hio2 hl2 => ih (A ++ [z]) M2 _ _ v (by rw [hA]; simp) (by rw [b_ser_app, List.length_append, b_ser_1, hqq]; omega) f2 (by
          rw [L_at_ap, show c + 4 + ((b_ser A).length : Int) = qq by omega]
          show D_el S (qq, z) = D_els none (L_at (c + 4) A ++ [(qq, z)])
          rw [D_els_snoc, ← hS]) hv I2 hio2 hl2
        refine s_X12_boundsOfAny_50 hyR hf2.R hLR v4R hzR fun _ => ⟨hB'.1, hvl hB' hF ?_⟩
        intro _ _ _
        refine e_lastC (d := d + 50) hB'.R htl fun r hr1 hr2 => ?_
        intro _ _ _
        refine ⟨fun _ => ?_, fun g => absurd hr1 g⟩
        have hch' : (L_ch (qq, z).1 (qq, z).2).length ≤ 1000 := hch
        refine e_boundsOf (d := d + 3) (y := (qq, z)) (al := false) hB' I' hz9 (fun _ h => hin3 _ hzm h) (by rw [List.length_append]; omega) (fun hno => ?_) fun P hP M1 f1 I1 => ?_
        · intro _ _ _
          have hDel : D_el S (qq, z) = S := by unfold D_el; rw [hno]
          refine ⟨fun _ => hbh hB' hF ?_, fun g => absurd rfl g⟩
          intro _ _ _
          exact hnx M' v4 f' (by rw [hDel]; exact hv4) (by rw [hDel]; exact I') (by rw [hDel]; exact hio) (by rw [hDel]; exact hSl)
        · intro _ _ _
          have hB1 := hB'.fr f1
          have hF1 : g_i M1 (ρ 0) = g_i M (ρ 0) := (funext fun j => f1.2.1 _ j (E_IF_n hB' (by decide) (by decide))).trans hF
          have hPio : ∀ x ∈ P, D_io (g_i M (ρ 0)) x := by
            rw [← hF]
            refine D_bo_io hz20 (fun u hu h3 => ?_) hP
            have h4 := hin3 _ hzm (show F_cd z.2.1 = 3 from h3)
            obtain ⟨D2, eD2, hk2, -⟩ := hz20.kids (Or.inr h4)
            exact (L_at_st hk2 u hu).1.le (by omega)
          refine ⟨fun g => absurd g (by decide), fun _ => ?_⟩
          rcases hSe : S with _ | A0
          · have h0 : v4 = 0 := by rw [hv4, hSe]; rfl
            have hDel : D_el none (qq, z) = some P := by unfold D_el; rw [hP]
            rw [hSe] at I1 hnx
            rw [h0]
            refine ⟨fun _ => hbh hB1 hF1 ?_, fun g => absurd rfl g⟩
            intro _ _ _
            have e1 : L ++ (none : Option (List D_i)).getD [] ++ P = L ++ P := by rw [show (none : Option (List D_i)).getD [] = [] from rfl, List.append_nil]
            rw [e1] at I1
            have hPl := (hroom P hP).1
            exact hnx M1 1 (f'.tr f1) (by rw [hDel]; rfl) (by rw [hDel]; exact I1) (by rw [hDel]; exact hPio) (by rw [hDel]; exact hPl)
          · have h0 : v4 = 1 := by rw [hv4, hSe]; rfl
            have hDel : D_el (some A0) (qq, z) = some (D_mts A0 P) := by unfold D_el; rw [hP]
            have hA0 : D_els none (L_at (c + 4) A) = some A0 := by rw [← hS, hSe]
            have hrr := (hroom P hP).2 A0 hA0
            rw [hSe] at I1 hnx hio I'
            have I1 : E_Iv m ρ (L ++ A0 ++ P) M1 := I1
            have hio : ∀ x ∈ A0, D_io (g_i M (ρ 0)) x := hio
            have h61' : g_i M' m 61 = ((L.length + A0.length : Nat) : Int) := by
              have h9 := I'.1
              have e1 : (L ++ (some A0).getD []).length = L.length + A0.length := List.length_append
              rw [e1] at h9
              exact h9
            rw [h0, h61']
            refine ⟨fun g => absurd g (by decide), fun _ => e_meetAll (d := d + 5) (L0 := L) (A := A0) (B := P) hB1 I1 (by omega) (by rw [hF1]; exact hio) (by rw [hF1]; exact hPio) fun M2 f2 I2 => ?_⟩
            intro _ _
            have hB2 := hB1.fr f2
            have hF2 : g_i M2 (ρ 0) = g_i M (ρ 0) := (funext fun j => f2.2.1 _ j (E_IF_n hB1 (by decide) (by decide))).trans hF1
            refine hbh hB2 hF2 ?_
            intro _ _ _
            exact hnx M2 1 ((f'.tr f1).tr f2) (by rw [hDel]; rfl) (by rw [hDel]; exact I2) (by rw [hDel]; exact D_mts_io hio hPio) (by rw [hDel]; show (D_mts A0 P).length ≤ 2100; omega)
    refine hlp xs [] M (c + 4) none 0 rfl (by show _ = _ + ((0 : Nat) : Int); omega) (e_fr.rf _ _) rfl rfl ?_ (fun x hx => absurd hx (by simp)) (by decide)
    have e1 : L ++ (none : Option (List D_i)).getD [] = L := List.append_nil L
    rw [e1]
    exact hI
  · intro _ _ _
    have hba : D_ba al y = none := by
      unfold D_ba
      rw [if_neg hnb, if_neg (by rw [show F_ci y.2 = false from hci]; decide)]
    exact ⟨fun _ => hn hba M (e_fr.rf _ _) hI, fun z => absurd rfl z⟩
end DBA
