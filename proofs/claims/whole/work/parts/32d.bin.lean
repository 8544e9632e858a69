/-! EXPLAIN, THE REFERENCE: the bounds of one condition -/
noncomputable def D_aps (P l : List (Int × b_E)) : List (Int × b_E) := l.foldl D_ap P
noncomputable def D_k (al : Bool) (y : Int × b_E) : Int := if al = true then 1 else F_cd y.2.2.1
/-- the bounds of one of the six conditions (none: it has none) -/
noncomputable def D_bo (al : Bool) (y : Int × b_E) : Option (List D_i) :=
  if D_k al y = 3 then (if ((L_ch y.1 y.2).any fun z => decide (z.2.1 = 4)) = true then none else some ((D_aps [] (L_ch y.1 y.2)).map D_pt))
  else if y.2.1 = 4 then none
  else if D_k al y = 1 then some [D_pt y]
  else if D_k al y = 5 ∨ D_k al y = 6 then some (if b_cl y.2.1 = 1 then (if D_k al y = 6 then [D_pt y] else []) else [(b_cl y.2.1, none, false, some y, decide (D_k al y = 6))])
  else if D_k al y = 7 ∨ D_k al y = 8 then some (if b_cl y.2.1 = 1 then (if D_k al y = 8 then [D_pt y] else []) else [(b_cl y.2.1, some y, decide (D_k al y = 8), none, false)])
  else none
theorem D_aps_len (l : List (Int × b_E)) : ∀ P : List (Int × b_E), (D_aps P l).length ≤ P.length + l.length ∧ ∀ z ∈ D_aps P l, z ∈ P ∨ z ∈ l := by
  induction l with
  | nil => exact fun P => ⟨Nat.le_refl _, fun z hz => Or.inl hz⟩
  | cons y l ih =>
    intro P
    obtain ⟨i1, i2⟩ := ih (D_ap P y)
    have h1 : (D_ap P y).length ≤ P.length + 1 ∧ ∀ z ∈ D_ap P y, z ∈ P ∨ z = y := by
      unfold D_ap
      split
      · exact ⟨by omega, fun z hz => Or.inl hz⟩
      · refine ⟨by rw [List.length_append, List.length_singleton]; omega, fun z hz => ?_⟩
        rcases List.mem_append.mp hz with g | g
        · exact Or.inl g
        · exact Or.inr (List.mem_singleton.mp g)
    have e1 : D_aps P (y :: l) = D_aps (D_ap P y) l := rfl
    rw [e1, List.length_cons]
    refine ⟨by omega, fun z hz => ?_⟩
    rcases i2 z hz with g | g
    · rcases h1.2 z g with g | g
      · exact Or.inl g
      · exact Or.inr (by rw [g]; exact List.mem_cons_self)
    · exact Or.inr (List.mem_cons_of_mem _ g)
theorem D_aps_snoc (P l : List (Int × b_E)) (y : Int × b_E) : D_aps P (l ++ [y]) = D_ap (D_aps P l) y := List.foldl_append
theorem D_b1 {P : Prop} [Decidable P] {x : Int} (h : x = if P then 1 else 0) : (x = 1 ↔ P) ∧ (x = 0 ∨ x = 1) := by
  rw [h]
  by_cases g : P
  · rw [if_pos g]
    exact ⟨⟨fun _ => g, fun _ => rfl⟩, Or.inr rfl⟩
  · rw [if_neg g]
    exact ⟨⟨fun z => absurd z (by decide), fun z => absurd z g⟩, Or.inl rfl⟩
theorem L_at_ap : ∀ (A B : List b_E) (q : Int), L_at q (A ++ B) = L_at q A ++ L_at (q + (b_ser A).length) B := by
  intro A
  induction A with
  | nil =>
    intro B q
    show L_at q B = L_at (q + ((0 : Nat) : Int)) B
    rw [show q + ((0 : Nat) : Int) = q by omega]
  | cons a A ih =>
    intro B q
    have h1 : b_ser (a :: A) = b_el a.1 a.2.1 a.2.2 ++ b_ser A := rfl
    rw [h1, List.length_append]
    show (q, a) :: L_at (q + (b_el a.1 a.2.1 a.2.2).length) (A ++ B) = (q, a) :: (L_at (q + (b_el a.1 a.2.1 a.2.2).length) A ++ L_at (q + (((b_el a.1 a.2.1 a.2.2).length + (b_ser A).length : Nat) : Int)) B)
    rw [ih, show q + ((b_el a.1 a.2.1 a.2.2).length : Int) + (b_ser A).length = q + (((b_el a.1 a.2.1 a.2.2).length + (b_ser A).length : Nat) : Int) by omega]
section DBO
variable {m d b : Nat} {ρ : Nat → Nat} {M M1 : g_M} {L L0 : List D_i}
theorem e_cdI {Q : Int → g_M → Prop} {j i : Nat} {p k : Int} {D : Nat} {nm vb : List Int} (hj : j < q_nS) (hjj : b_tx j = b_tx (16 + i)) (h1 : 1 ≤ i) (h2 : i ≤ 12) (hR : e_R M m b) (hs : b_st (g_i M b) 2706210 p D k nm vb) (h : Q (if F_cd nm = i then 1 else 0) M) : g_Call (d + 4) 236 [.ref m, g_n p, .ref (4 * j + 1)] M (g_qI Q) := e_nm3 hj hjj hR hs (fun e => by
  rw [if_pos ((F_cd_i h1 h2).mpr e)] at h
  exact h) fun e => by
  rw [if_neg (fun z => e ((F_cd_i h1 h2).mp z))] at h
  exact h
/-- the values of a row, each once -/
theorem e_boundsIn {Q : Int → g_M → Prop} {y : Int × b_E} {c : Int} {xs : List b_E} {D1 : Nat} (hB : E_bk m ρ M) (hI : E_Iv m ρ L M) (hyW : b_st (g_i M (ρ 0)) 2706210 y.1 20 y.2.1 y.2.2.1 y.2.2.2) (hct : E_ct (g_i M (ρ 0)) c D1 xs) (eD : D1 ≤ 20) (hc : c = y.1 + 2 + (y.2.2.1.length : Int)) (hl : L.length + (L_at (c + 4) xs).length + 2 < 6000) (hn : ((L_at (c + 4) xs).any fun z => decide (z.2.1 = 4)) = true → Q 0 M) (hsm : ((L_at (c + 4) xs).any fun z => decide (z.2.1 = 4)) = false → ∀ M1, e_fr (E_IF m ρ) M M1 → E_Iv m ρ (L ++ (D_aps [] (L_at (c + 4) xs)).map D_pt) M1 → Q 1 M1) : g_Run (d + 49) 394 53 [(0, .ref m), (1, g_n y.1), (2, g_n 0), (3, g_n L.length), (4, g_n 0), (5, g_n (c + 4))] [] M (g_qI Q) := by
  have hR := hB.R
  have hyR : g_InR y.1 := hyW.R (by decide)
  have b0 := hB.at (k := 0) (by decide)
  have b0A : g_A M (ρ 0) 0 2706210 := b0.2
  have hLR : g_InR (L.length : Int) := ⟨by omega, by omega⟩
  have hst : ∀ z ∈ L_at (c + 4) xs, b_st (g_i M (ρ 0)) 2706210 z.1 20 z.2.1 z.2.2.1 z.2.2.2 := fun z hz => (L_at_st (hct.tl fun _ _ => rfl).2.2.2.1 z hz).1.le (by omega)
  have hvl : ∀ {M' : g_M} {Q1 : Int → g_M → Prop}, E_bk m ρ M' → g_i M' (ρ 0) = g_i M (ρ 0) → Q1 c M' → g_Call (d + 49) 233 [.ref m, g_n y.1] M' (g_qI Q1) := fun hB' hF h => by
    refine e_vl2 (d := d + 47) hB'.R (by rw [hF]; exact hyW) ?_
    rw [← hc]
    exact h
  have hq0 := hct.2.1
  have hq1 := hct.2.2.1
  have h101 : ((L_at (c + 4) xs).any fun z => decide (z.2.1 = 4)) = false → ∀ (B A : List b_E) (M' : g_M) (qq : Int), xs = A ++ B → qq = c + 4 + (b_ser A).length → e_fr (E_IF m ρ) M M' → E_Iv m ρ (L ++ (D_aps [] (L_at (c + 4) A)).map D_pt) M' → g_Run (d + 49) 394 101 [(0, .ref m), (1, g_n y.1), (2, g_n 0), (3, g_n L.length), (4, g_n 0), (5, g_n qq)] [] M' (g_qI Q) := by
    intro hany B
    induction B with
    | nil =>
      intro A M' qq hA hqq f' I'
      rw [List.append_nil] at hA
      subst hA
      have hB' := hB.fr f'
      have hF : g_i M' (ρ 0) = g_i M (ρ 0) := funext fun j => f'.2.1 _ j (E_IF_n hB (by decide) (by decide))
      have htl : e_tl (g_i M' (ρ 0)) c qq D1 xs [] := by
        have h9 : e_tl (g_i M' (ρ 0)) c (c + 4) D1 xs (xs ++ []) := by
          rw [List.append_nil, hF]
          exact hct.tl fun _ _ => rfl
        rw [hqq]
        exact h9.app
      have hqR : g_InR qq := by
        have := htl.2.2.2.2
        have := htl.2.2.1
        rw [b_doc_len] at this
        have h0 : (b_ser ([] : List b_E)).length = 0 := rfl
        exact ⟨by omega, by omega⟩
      refine s_X12_boundsOf_101 hyR ⟨by decide, by decide⟩ hLR ⟨by decide, by decide⟩ hqR fun _ => ⟨hB'.1, hvl hB' hF ?_⟩
      intro _ _ _
      refine e_lastE (d := d + 46) hB'.R htl ?_
      intro _ _ _
      exact ⟨fun g => absurd g (by omega), fun _ => hsm hany M' f' I'⟩
    | cons z B ih =>
      intro A M' qq hA hqq f' I'
      have hB' := hB.fr f'
      have hF : g_i M' (ρ 0) = g_i M (ρ 0) := funext fun j => f'.2.1 _ j (E_IF_n hB (by decide) (by decide))
      have htl : e_tl (g_i M' (ρ 0)) c qq D1 xs (z :: B) := by
        have h9 : e_tl (g_i M' (ρ 0)) c (c + 4) D1 xs (A ++ z :: B) := by
          rw [← hA, hF]
          exact hct.tl fun _ _ => rfl
        rw [hqq]
        exact h9.app
      have hz := htl.cons.1
      have hzR := hz.R (by decide)
      have hLA : L_at (c + 4) xs = L_at (c + 4) A ++ (qq, z) :: L_at (qq + (b_el z.1 z.2.1 z.2.2).length) B := by
        rw [hA, L_at_ap, hqq]
        rfl
      have hPl := (D_aps_len (L_at (c + 4) A) []).1
      have hPm := (D_aps_len (L_at (c + 4) A) []).2
      rw [hLA, List.length_append, List.length_cons] at hl
      rw [List.length_nil] at hPl
      refine s_X12_boundsOf_101 hyR ⟨by decide, by decide⟩ hLR ⟨by decide, by decide⟩ hzR fun _ => ⟨hB'.1, hvl hB' hF ?_⟩
      intro _ _ _
      refine e_lastC (d := d + 46) hB'.R htl fun r hr1 hr2 => ?_
      intro _ _ _
      refine ⟨fun _ => e_addPoint (d := d + 1) (L0 := L) (P := D_aps [] (L_at (c + 4) A)) (y := (qq, z)) hB' I' (by omega) (fun u hu => ?_) (hz.le (by omega)) fun M1 f1 I1 => ?_, fun g => absurd hr1 g⟩
      · rw [hF]
        refine hst u ?_
        rcases hPm u hu with g | g
        · exact absurd g (by simp)
        · rw [hLA]
          exact List.mem_append_left _ g
      · intro _ _
        have hB1 := hB'.fr f1
        have hF1 : g_i M1 (ρ 0) = g_i M' (ρ 0) := funext fun j => f1.2.1 _ j (E_IF_n hB' (by decide) (by decide))
        refine e_bh2 (d := d + 45) hB1.R (by rw [hF1]; exact hz) ?_
        intro _ _ _
        refine ih (A ++ [z]) M1 _ (by rw [hA]; simp) (by rw [b_ser_app, List.length_append, b_ser_1, hqq]; omega) (f'.tr f1) ?_
        rw [L_at_ap, show c + 4 + ((b_ser A).length : Int) = qq by omega]
        show E_Iv m ρ (L ++ (D_aps [] (L_at (c + 4) A ++ [(qq, z)])).map D_pt) M1
        rw [D_aps_snoc]
        exact I1
  have hlp : ∀ (B A : List b_E) (qq : Int), xs = A ++ B → qq = c + 4 + (b_ser A).length → ((L_at (c + 4) A).any fun z => decide (z.2.1 = 4)) = false → g_Run (d + 49) 394 53 [(0, .ref m), (1, g_n y.1), (2, g_n 0), (3, g_n L.length), (4, g_n 0), (5, g_n qq)] [] M (g_qI Q) := by
    intro B
    induction B with
    | nil =>
      intro A qq hA hqq hany
      rw [List.append_nil] at hA
      subst hA
      have htl : e_tl (g_i M (ρ 0)) c qq D1 xs [] := by
        have h9 : e_tl (g_i M (ρ 0)) c (c + 4) D1 xs (xs ++ []) := by
          rw [List.append_nil]
          exact hct.tl fun _ _ => rfl
        rw [hqq]
        exact h9.app
      have hqR : g_InR qq := by
        have := htl.2.2.2.2
        have := htl.2.2.1
        rw [b_doc_len] at this
        have h0 : (b_ser ([] : List b_E)).length = 0 := rfl
        exact ⟨by omega, by omega⟩
      refine s_X12_boundsOf_53 hyR ⟨by decide, by decide⟩ hLR ⟨by decide, by decide⟩ hqR fun _ => ⟨hB.1, hvl hB rfl ?_⟩
      intro _ _ _
      refine e_lastE (d := d + 46) hR htl ?_
      intro _ _ _
      refine ⟨fun g => absurd g (by omega), fun _ => hvl hB rfl ?_⟩
      intro _ _ _
      refine e_first (d := d + 48) (by omega) (by omega) ?_
      intro _ _ _
      refine h101 hany xs [] M (c + 4) rfl (by show _ = _ + ((0 : Nat) : Int); omega) (e_fr.rf _ _) ?_
      show E_Iv m ρ (L ++ []) M
      rw [List.append_nil]
      exact hI
    | cons z B ih =>
      intro A qq hA hqq hany
      have htl : e_tl (g_i M (ρ 0)) c qq D1 xs (z :: B) := by
        have h9 : e_tl (g_i M (ρ 0)) c (c + 4) D1 xs (A ++ z :: B) := by
          rw [← hA]
          exact hct.tl fun _ _ => rfl
        rw [hqq]
        exact h9.app
      have hz := htl.cons.1
      have hzR := hz.R (by decide)
      obtain ⟨u1, u2, u3, u4⟩ := hz.val
      have hLA : L_at (c + 4) xs = L_at (c + 4) A ++ (qq, z) :: L_at (qq + (b_el z.1 z.2.1 z.2.2).length) B := by
        rw [hA, L_at_ap, hqq]
        rfl
      refine s_X12_boundsOf_53 hyR ⟨by decide, by decide⟩ hLR ⟨by decide, by decide⟩ hzR fun _ => ⟨hB.1, hvl hB rfl ?_⟩
      intro _ _ _
      refine e_lastC (d := d + 46) hR htl fun r hr1 hr2 => ?_
      intro _ _ _
      refine ⟨fun _ => ⟨ρ 0, b0.1, 2706210, b0A, ⟨by omega, by omega⟩, fun g => hn ?_, fun g => ?_⟩, fun g => absurd hr1 g⟩
      · rw [u4] at g
        rw [hLA, List.any_append, List.any_cons, decide_eq_true (show (qq, z).2.1 = 4 from g)]
        simp
      · rw [u4] at g
        refine e_bh2 (d := d + 45) hR hz ?_
        intro _ _ _
        refine ih (A ++ [z]) _ (by rw [hA]; simp) (by rw [b_ser_app, List.length_append, b_ser_1, hqq]; omega) ?_
        rw [L_at_ap, show c + 4 + ((b_ser A).length : Int) = qq by omega]
        show ((L_at (c + 4) A ++ [(qq, z)]).any fun z => decide (z.2.1 = 4)) = false
        rw [List.any_append, hany]
        simp [g]
  exact hlp xs [] _ rfl (by show _ = _ + ((0 : Nat) : Int); omega) rfl
end DBO
