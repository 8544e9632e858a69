/-! EXPLAIN, THE REFERENCE: the bounds of a path that is not many-keyed -/
noncomputable def D_al (s : Option (List D_i)) (z : Bool × (Int × b_E)) : Option (List D_i) := match D_ba z.1 z.2 with
  | none => s
  | some P => match s with
    | none => some P
    | some A => some (D_mts A P)
noncomputable def D_als (s : Option (List D_i)) (l : List (Bool × (Int × b_E))) : Option (List D_i) := l.foldl D_al s
theorem D_als_snoc (s : Option (List D_i)) (l : List (Bool × (Int × b_E))) (f : Bool × (Int × b_E)) : D_als s (l ++ [f]) = D_al (D_als s l) f := List.foldl_append
/-- what a condition of a right filter gives -/
def D_zv (F : Int → Int) (z : Bool × (Int × b_E)) : Prop := b_st F 922000 z.2.1 20 z.2.2.1 z.2.2.2.1 z.2.2.2.2 ∧ (z.1 = false → F_cd z.2.2.2.1 = 3 → z.2.2.1 = 4) ∧ (z.1 = false → F_cd z.2.2.2.1 = 11 → F_ci z.2.2 = true → (z.2.2.1 = 3 ∨ z.2.2.1 = 4) ∧ (∀ f ∈ L_ch z.2.1 z.2.2, F_cd f.2.2.1 = 3 → f.2.1 = 4) ∧ D_rm (L_ch z.2.1 z.2.2)) ∧ (L_ch z.2.1 z.2.2).length ≤ 1000 ∧ ∀ P, D_ba z.1 z.2 = some P → P.length ≤ 1000 ∧ ∀ x ∈ P, D_io F x
section DBD
variable {m d : Nat} {ρ : Nat → Nat} {M M1 : g_M} {L : List D_i}
theorem E_Sy.fI {S : List (Bool × (Int × b_E))} (hB : E_bk m ρ M) (h : E_Sy m ρ S M) (f : e_fr (E_IF m ρ) M M1) : E_Sy m ρ S M1 := ⟨by
  rw [f.2.1 _ _ fun z => by have := E_IF_m hB z; omega]
  exact h.1, fun i z hi => by
  obtain ⟨k1, k2⟩ := h.2 i z hi
  rw [f.2.1 _ _ (E_IF_n hB (by decide) (by decide)), f.2.1 _ _ (E_IF_n hB (by decide) (by decide))]
  exact ⟨k1, k2⟩⟩
theorem e_bounds192 {Q : Int → g_M → Prop} {S : List (Bool × (Int × b_E))} {v1 v2 v3 : Int} (hB : E_bk m ρ M) (hSy : E_Sy m ρ S M) (hSl : S.length ≤ 200) (hI : E_Iv m ρ L M) (hl : L.length ≤ 700) (hz : ∀ z ∈ S, D_zv (g_i M (ρ 0)) z) (hrm : ∀ l1 z l2, S = l1 ++ z :: l2 → ∀ A P, D_als none l1 = some A → D_ba z.1 z.2 = some P → (D_mts A P).length ≤ 1000) (h1 : g_InR v1) (h2 : g_InR v2) (h3 : g_InR v3) (hq : ∀ M1, e_fr (E_IF m ρ) M M1 → E_Iv m ρ (L ++ (D_als none S).getD []) M1 → (∀ x ∈ (D_als none S).getD [], D_io (g_i M (ρ 0)) x) → ((D_als none S).getD []).length ≤ 1000 → Q (if (D_als none S).isSome = true then 1 else 0) M1) : g_Run (d + 54) 398 192 [(0, .ref m), (1, g_n v1), (2, g_n v2), (3, g_n v3), (4, g_n L.length), (5, g_n 0), (6, g_n 0)] [] M (g_qI Q) := by
  have hLR : g_InR (L.length : Int) := ⟨by omega, by omega⟩
  have hlp : ∀ (B A : List (Bool × (Int × b_E))) (M' : g_M) (S0 : Option (List D_i)) (v5 : Int), S = A ++ B → e_fr (E_IF m ρ) M M' → S0 = D_als none A → (v5 = if S0.isSome = true then 1 else 0) → E_Iv m ρ (L ++ S0.getD []) M' → (∀ x ∈ S0.getD [], D_io (g_i M (ρ 0)) x) → (S0.getD []).length ≤ 1000 → g_Run (d + 54) 398 192 [(0, .ref m), (1, g_n v1), (2, g_n v2), (3, g_n v3), (4, g_n L.length), (5, g_n v5), (6, g_n A.length)] [] M' (g_qI Q) := by
    intro B
    induction B with
    | nil =>
      intro A M' S0 v5 hA f' hS0 hv5 I' hio hle
      rw [List.append_nil] at hA
      subst hA
      have hB' := hB.fr f'
      have v5R : g_InR v5 := by rw [hv5]; split <;> exact ⟨by decide, by decide⟩
      have hS' := hSy.fI hB f'
      refine s_X12_bounds_192 h1 h2 h3 hLR v5R ⟨by omega, by omega⟩ fun _ => ⟨hB'.1, fun g => absurd g (by rw [hS'.1]; omega), fun _ => ⟨?_, ?_⟩⟩
      · rw [hv5]
        split
        · exact Or.inr rfl
        · exact Or.inl rfl
      · subst hS0
        rw [hv5]
        exact hq M' f' I' hio hle
    | cons z B ih =>
      intro A M' S0 v5 hA f' hS0 hv5 I' hio hle
      have hB' := hB.fr f'
      have hll := congrArg List.length hA
      rw [List.length_append, List.length_cons] at hll
      have hF : g_i M' (ρ 0) = g_i M (ρ 0) := funext fun j => f'.2.1 _ j (E_IF_n hB (by decide) (by decide))
      have hS' := hSy.fI hB f'
      have hzi : S[A.length]? = some z := by
        rw [hA, List.getElem?_append_right (Nat.le_refl _), Nat.sub_self]
        rfl
      obtain ⟨t1, t2⟩ := hS'.2 _ _ hzi
      obtain ⟨zs, zin, zel, zch, zP⟩ := hz z (List.mem_of_getElem? hzi)
      have v5R : g_InR v5 := by rw [hv5]; split <;> exact ⟨by decide, by decide⟩
      have b62 := hB'.at (k := 62) (by decide)
      have b62A : g_A M' (ρ 62) 1 200 := b62.2
      have b63 := hB'.at (k := 63) (by decide)
      have b63A : g_A M' (ρ 63) 2 200 := b63.2
      have hnx : ∀ (M2 : g_M) (v : Int), e_fr (E_IF m ρ) M M2 → (v = if (D_al S0 z).isSome = true then 1 else 0) → E_Iv m ρ (L ++ (D_al S0 z).getD []) M2 → (∀ x ∈ (D_al S0 z).getD [], D_io (g_i M (ρ 0)) x) → ((D_al S0 z).getD []).length ≤ 1000 → g_Run (d + 54) 398 192 [(0, .ref m), (1, g_n v1), (2, g_n v2), (3, g_n v3), (4, g_n L.length), (5, g_n v), (6, g_n ((A.length : Int) + 1))] [] M2 (g_qI Q) := fun M2 v f2 hv I2 hio2 hl2 => by
        have h9 := ih (A ++ [z]) M2 _ v (by rw [hA]; simp) f2 (by rw [D_als_snoc, ← hS0]) hv I2 hio2 hl2
        rw [show ((A ++ [z]).length : Int) = (A.length : Int) + 1 by rw [List.length_append, List.length_singleton]; omega] at h9
        exact h9
      refine s_X12_bounds_192 h1 h2 h3 hLR v5R ⟨by omega, by omega⟩ fun _ => ⟨hB'.1, fun _ => ⟨ρ 62, b62.1, 200, b62A, ⟨by omega, by omega⟩, ρ 63, b63.1, 200, b63A, ⟨by omega, by omega⟩, ?_⟩, fun g => absurd (by rw [hS'.1]; omega) g⟩
      rw [t1, t2]
      have hLA : (L ++ S0.getD []).length = L.length + (S0.getD []).length := List.length_append
      refine e_boundsOfAny (d := d) (y := z.2) (al := z.1) hB' I' (by rw [hF]; exact zs) zin zel ?_ (fun hno M1 f1 I1 => ?_) fun P hP M1 f1 I1 => ?_
      · rw [hLA]
        omega
      · intro _ _ _
        have hD : D_al S0 z = S0 := by unfold D_al; rw [hno]
        exact ⟨fun _ => ⟨⟨by omega, by omega⟩, hnx M1 v5 (f'.tr f1) (by rw [hD]; exact hv5) (by rw [hD]; exact I1) (by rw [hD]; exact hio) (by rw [hD]; exact hle)⟩, fun g => absurd rfl g⟩
      · intro _ _ _
        have hB1 := hB'.fr f1
        have hF1 : g_i M1 (ρ 0) = g_i M (ρ 0) := (funext fun j => f1.2.1 _ j (E_IF_n hB' (by decide) (by decide))).trans hF
        obtain ⟨hPl, hPio⟩ := zP P hP
        refine ⟨fun g => absurd g (by decide), fun _ => ?_⟩
        rcases hSe : S0 with _ | A0
        · have h0 : v5 = 0 := by rw [hv5, hSe]; rfl
          have hDel : D_al none z = some P := by unfold D_al; rw [hP]
          rw [hSe] at I1 hnx
          rw [h0]
          have e1 : L ++ (none : Option (List D_i)).getD [] ++ P = L ++ P := by rw [show (none : Option (List D_i)).getD [] = [] from rfl, List.append_nil]
          rw [e1] at I1
          exact ⟨fun _ => ⟨⟨by omega, by omega⟩, hnx M1 1 (f'.tr f1) (by rw [hDel]; rfl) (by rw [hDel]; exact I1) (by rw [hDel]; exact hPio) (by rw [hDel]; exact hPl)⟩, fun g => absurd rfl g⟩
        · have h0 : v5 = 1 := by rw [hv5, hSe]; rfl
          have hDel : D_al (some A0) z = some (D_mts A0 P) := by unfold D_al; rw [hP]
          have hrr := hrm A z B hA A0 P (by rw [← hS0, hSe]) hP
          rw [hSe] at I1 hnx hio I' hle
          have I1 : E_Iv m ρ (L ++ A0 ++ P) M1 := I1
          have hio : ∀ x ∈ A0, D_io (g_i M (ρ 0)) x := hio
          have hle : A0.length ≤ 1000 := hle
          have h61' : g_i M' m 61 = ((L.length + A0.length : Nat) : Int) := by
            have h9 := I'.1
            have e1 : (L ++ (some A0).getD []).length = L.length + A0.length := List.length_append
            rw [e1] at h9
            exact h9
          rw [h0, h61']
          refine ⟨fun g => absurd g (by decide), fun _ => e_meetAll (d := d + 6) (L0 := L) (A := A0) (B := P) hB1 I1 (by omega) (by rw [hF1]; exact hio) (by rw [hF1]; exact hPio) fun M2 f2 I2 => ?_⟩
          intro _ _
          exact ⟨⟨by omega, by omega⟩, hnx M2 1 ((f'.tr f1).tr f2) (by rw [hDel]; rfl) (by rw [hDel]; exact I2) (by rw [hDel]; exact D_mts_io hio hPio) (by rw [hDel]; exact hrr)⟩
  exact hlp S [] M none 0 rfl (e_fr.rf _ _) rfl rfl (by
    have e1 : L ++ (none : Option (List D_i)).getD [] = L := List.append_nil L
    rw [e1]
    exact hI) (fun x hx => absurd hx (by simp)) (by decide)
end DBD
