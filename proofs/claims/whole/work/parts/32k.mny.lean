/-! EXPLAIN, THE REFERENCE: the bounds of a many-keyed path -/
noncomputable def D_m1 : List (Bool × (Int × b_E)) → Option (List D_i)
  | [] => none
  | z :: r => if z.1 = true ∨ F_cd z.2.2.2.1 = 1 ∨ F_cd z.2.2.2.1 = 3 then (match D_bo z.1 z.2 with
      | none => D_m1 r
      | some P => some P) else D_m1 r
noncomputable def D_m2 : List (Bool × (Int × b_E)) → Option (List D_i)
  | [] => none
  | z :: r => match D_ba z.1 z.2 with
      | none => D_m2 r
      | some P => some P
noncomputable def D_mny (S : List (Bool × (Int × b_E))) : Option (List D_i) := match D_m1 S with
  | none => D_m2 S
  | some P => some P
section DMY
variable {m d : Nat} {ρ : Nat → Nat} {M M1 : g_M} {L : List D_i}
theorem e_bounds51 {Q : Int → g_M → Prop} {S : List (Bool × (Int × b_E))} {v1 v2 v3 : Int} (hB : E_bk m ρ M) (hSy : E_Sy m ρ S M) (hSl : S.length ≤ 200) (hI : E_Iv m ρ L M) (hl : L.length ≤ 700) (hz : ∀ z ∈ S, D_zv (g_i M (ρ 0)) z) (h1 : g_InR v1) (h2 : g_InR v2) (h3 : g_InR v3) (hn : D_mny S = none → ∀ M1, e_fr (E_IF m ρ) M M1 → E_Iv m ρ L M1 → Q 0 M1) (hy : ∀ P, D_mny S = some P → ∀ M1, e_fr (E_IF m ρ) M M1 → E_Iv m ρ (L ++ P) M1 → Q 1 M1) : g_Run (d + 54) 398 51 [(0, .ref m), (1, g_n v1), (2, g_n v2), (3, g_n v3), (4, g_n L.length), (5, g_n 0), (6, g_n 0)] [] M (g_qI Q) := by
  have hLR : g_InR (L.length : Int) := ⟨by omega, by omega⟩
  -- it is found
  have hyes : ∀ (M' : g_M), E_bk m ρ M' → Q 1 M' → g_Run (d + 54) 398 146 [(0, .ref m), (1, g_n v1), (2, g_n v2), (3, g_n v3), (4, g_n L.length), (5, g_n 1), (6, g_n 0)] [] M' (g_qI Q) := fun M' hB' hQ => s_X12_bounds_146 h1 h2 h3 hLR ⟨by decide, by decide⟩ ⟨by decide, by decide⟩ fun _ => ⟨hB'.1, fun _ => ⟨fun g => absurd g (by decide), fun _ => ⟨Or.inr rfl, hQ⟩⟩, fun _ => ⟨Or.inr rfl, hQ⟩⟩
  have hyes6 : ∀ (M' : g_M) (k : Int), E_bk m ρ M' → g_InR k → Q 1 M' → g_Run (d + 54) 398 146 [(0, .ref m), (1, g_n v1), (2, g_n v2), (3, g_n v3), (4, g_n L.length), (5, g_n 1), (6, g_n k)] [] M' (g_qI Q) := fun M' k hB' hk hQ => s_X12_bounds_146 h1 h2 h3 hLR ⟨by decide, by decide⟩ hk fun _ => ⟨hB'.1, fun _ => ⟨fun g => absurd g (by decide), fun _ => ⟨Or.inr rfl, hQ⟩⟩, fun _ => ⟨Or.inr rfl, hQ⟩⟩
  have hyes51 : ∀ (M' : g_M) (k : Int), E_bk m ρ M' → g_InR k → Q 1 M' → g_Run (d + 54) 398 51 [(0, .ref m), (1, g_n v1), (2, g_n v2), (3, g_n v3), (4, g_n L.length), (5, g_n 1), (6, g_n k)] [] M' (g_qI Q) := fun M' k hB' hk hQ => s_X12_bounds_51 h1 h2 h3 hLR ⟨by decide, by decide⟩ hk fun _ => ⟨hB'.1, fun _ => ⟨fun g => absurd g (by decide), fun _ => hyes M' hB' hQ⟩, fun _ => hyes M' hB' hQ⟩
  -- any condition
  have h146 : D_m1 S = none → ∀ (B A : List (Bool × (Int × b_E))) (M' : g_M), S = A ++ B → e_fr (E_IF m ρ) M M' → E_Iv m ρ L M' → D_m2 S = D_m2 B → g_Run (d + 54) 398 146 [(0, .ref m), (1, g_n v1), (2, g_n v2), (3, g_n v3), (4, g_n L.length), (5, g_n 0), (6, g_n A.length)] [] M' (g_qI Q) := by
    intro hm1 B
    have hmn : D_mny S = D_m2 S := by unfold D_mny; rw [hm1]
    induction B with
    | nil =>
      intro A M' hA f' I' hm
      have hll := congrArg List.length hA
      rw [List.length_append, List.length_nil] at hll
      have hB' := hB.fr f'
      have hS' := hSy.fI hB f'
      exact s_X12_bounds_146 h1 h2 h3 hLR ⟨by decide, by decide⟩ ⟨by omega, by omega⟩ fun _ => ⟨hB'.1, fun g => absurd g (by rw [hS'.1]; omega), fun _ => ⟨Or.inl rfl, hn (hmn.trans hm) M' f' I'⟩⟩
    | cons z B ih =>
      intro A M' hA f' I' hm
      have hll := congrArg List.length hA
      rw [List.length_append, List.length_cons] at hll
      have hB' := hB.fr f'
      have hS' := hSy.fI hB f'
      have hF : g_i M' (ρ 0) = g_i M (ρ 0) := funext fun j => f'.2.1 _ j (E_IF_n hB (by decide) (by decide))
      have hzi : S[A.length]? = some z := by
        rw [hA, List.getElem?_append_right (Nat.le_refl _), Nat.sub_self]
        rfl
      obtain ⟨t1, t2⟩ := hS'.2 _ _ hzi
      obtain ⟨zs, zin, zel, zch, zP⟩ := hz z (List.mem_of_getElem? hzi)
      have b62 := hB'.at (k := 62) (by decide)
      have b62A : g_A M' (ρ 62) 1 200 := b62.2
      have b63 := hB'.at (k := 63) (by decide)
      have b63A : g_A M' (ρ 63) 2 200 := b63.2
      refine s_X12_bounds_146 h1 h2 h3 hLR ⟨by decide, by decide⟩ ⟨by omega, by omega⟩ fun _ => ⟨hB'.1, fun _ => ⟨fun _ => ⟨ρ 62, b62.1, 200, b62A, ⟨by omega, by omega⟩, ρ 63, b63.1, 200, b63A, ⟨by omega, by omega⟩, ?_⟩, fun g => absurd rfl g⟩, fun g => absurd (by rw [hS'.1]; omega) g⟩
      rw [t1, t2]
      refine e_boundsOfAny (d := d) (y := z.2) (al := z.1) hB' I' (by rw [hF]; exact zs) zin zel (by omega) (fun hno M1 f1 I1 => ?_) fun P hP M1 f1 I1 => ?_
      · intro _ _ _
        refine ⟨⟨by omega, by omega⟩, ?_⟩
        have h9 := ih (A ++ [z]) M1 (by rw [hA]; simp) (f'.tr f1) I1 (by
          rw [hm]
          show (match D_ba z.1 z.2 with | none => D_m2 B | some P => some P) = D_m2 B
          rw [hno])
        rw [show ((A ++ [z]).length : Int) = (A.length : Int) + 1 by rw [List.length_append, List.length_singleton]; omega] at h9
        exact h9
      · intro _ _ _
        refine ⟨⟨by omega, by omega⟩, hyes6 M1 _ (hB'.fr f1) ⟨by omega, by omega⟩ (hy P ?_ M1 (f'.tr f1) I1)⟩
        rw [hmn, hm]
        show (match D_ba z.1 z.2 with | none => D_m2 B | some P => some P) = some P
        rw [hP]
  have hlp : ∀ (B A : List (Bool × (Int × b_E))), S = A ++ B → D_m1 S = D_m1 B → g_Run (d + 54) 398 51 [(0, .ref m), (1, g_n v1), (2, g_n v2), (3, g_n v3), (4, g_n L.length), (5, g_n 0), (6, g_n A.length)] [] M (g_qI Q) := by
    intro B
    induction B with
    | nil =>
      intro A hA hm
      have hll := congrArg List.length hA
      rw [List.length_append, List.length_nil] at hll
      exact s_X12_bounds_51 h1 h2 h3 hLR ⟨by decide, by decide⟩ ⟨by omega, by omega⟩ fun _ => ⟨hB.1, fun g => absurd g (by rw [hSy.1]; omega), fun _ => h146 hm S [] M rfl (e_fr.rf _ _) hI rfl⟩
    | cons z B ih =>
      intro A hA hm
      have hll := congrArg List.length hA
      rw [List.length_append, List.length_cons] at hll
      have hzi : S[A.length]? = some z := by
        rw [hA, List.getElem?_append_right (Nat.le_refl _), Nat.sub_self]
        rfl
      obtain ⟨t1, t2⟩ := hSy.2 _ _ hzi
      obtain ⟨zs, zin, zel, zch, zP⟩ := hz z (List.mem_of_getElem? hzi)
      have hzW := zs.upW (B := g_i M (ρ 0)) fun _ _ => rfl
      have b62 := hB.at (k := 62) (by decide)
      have b62A : g_A M (ρ 62) 1 200 := b62.2
      have b63 := hB.at (k := 63) (by decide)
      have b63A : g_A M (ρ 63) 2 200 := b63.2
      have hj : 0 ≤ (A.length : Int) ∧ (A.length : Int) < 200 := ⟨by omega, by omega⟩
      have hm1c : D_m1 (z :: B) = if z.1 = true ∨ F_cd z.2.2.2.1 = 1 ∨ F_cd z.2.2.2.1 = 3 then (match D_bo z.1 z.2 with | none => D_m1 B | some P => some P) else D_m1 B := rfl
      have hnx : D_m1 (z :: B) = D_m1 B → g_Run (d + 54) 398 51 [(0, .ref m), (1, g_n v1), (2, g_n v2), (3, g_n v3), (4, g_n L.length), (5, g_n 0), (6, g_n ((A.length : Int) + 1))] [] M (g_qI Q) := fun h => by
        have h9 := ih (A ++ [z]) (by rw [hA]; simp) (hm.trans h)
        rw [show ((A ++ [z]).length : Int) = (A.length : Int) + 1 by rw [List.length_append, List.length_singleton]; omega] at h9
        exact h9
      have h109 : (z.1 = true ∨ F_cd z.2.2.2.1 = 1 ∨ F_cd z.2.2.2.1 = 3) → g_Run (d + 54) 398 109 [(0, .ref m), (1, g_n v1), (2, g_n v2), (3, g_n v3), (4, g_n L.length), (5, g_n 0), (6, g_n A.length)] [] M (g_qI Q) := fun hc => by
        refine s_X12_bounds_109 h1 h2 h3 hLR ⟨by decide, by decide⟩ ⟨by omega, by omega⟩ fun _ => ⟨hB.1, ρ 62, b62.1, 200, b62A, hj, ρ 63, b63.1, 200, b63A, hj, ?_⟩
        rw [t1, t2]
        refine e_boundsOf (d := d + 4) (y := z.2) (al := z.1) hB hI zs zin (by omega) (fun hno => ?_) fun P hP M1 f1 I1 => ?_
        · intro _ _ _
          refine ⟨fun _ => ⟨⟨by omega, by omega⟩, hnx ?_⟩, fun g => absurd rfl g⟩
          rw [hm1c, if_pos hc, hno]
        · intro _ _ _
          refine ⟨fun g => absurd g (by decide), fun _ => ⟨⟨by omega, by omega⟩, hyes51 M1 _ (hB.fr f1) ⟨by omega, by omega⟩ (hy P ?_ M1 f1 I1)⟩⟩
          unfold D_mny
          rw [hm, hm1c, if_pos hc, hP]
      refine s_X12_bounds_51 h1 h2 h3 hLR ⟨by decide, by decide⟩ ⟨by omega, by omega⟩ fun _ => ⟨hB.1, fun _ => ⟨fun _ => ⟨ρ 63, b63.1, 200, b63A, hj, ?_⟩, fun g => absurd rfl g⟩, fun g => absurd (by rw [hSy.1]; omega) g⟩
      rw [t2]
      cases hal : z.1
      · refine ⟨fun _ => ⟨ρ 62, b62.1, 200, b62A, hj, ?_⟩, fun g => absurd (if_neg (by decide)) g⟩
        rw [t1]
        refine e_cdF (d := d + 50) (j := 97) (i := 1) (by decide) (by decide +kernel) (by decide) (by decide) hB.R hzW fun r hr => ?_
        intro _ _ _
        refine ⟨fun g => ⟨ρ 62, b62.1, 200, b62A, hj, ?_⟩, fun g => h109 (Or.inr (Or.inl (hr.y g)))⟩
        rw [t1]
        refine e_cdF (d := d + 50) (j := 99) (i := 3) (by decide) (by decide +kernel) (by decide) (by decide) hB.R hzW fun r2 hr2 => ?_
        intro _ _ _
        refine ⟨fun g2 => ⟨⟨by omega, by omega⟩, hnx ?_⟩, fun g2 => h109 (Or.inr (Or.inr (hr2.y g2)))⟩
        rw [hm1c, if_neg]
        rintro (u | u | u)
        · rw [hal] at u
          exact absurd u (by decide)
        · exact hr.n g u
        · exact hr2.n g2 u
      · exact ⟨fun g => absurd g (by decide), fun _ => h109 (Or.inl hal)⟩
  exact hlp S [] rfl rfl
end DMY
