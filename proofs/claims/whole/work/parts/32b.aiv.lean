/-! EXPLAIN, THE REFERENCE: intervals in its rows -/
/-- the reference's intervals -/
def E_Iv (m : Nat) (ρ : Nat → Nat) (L : List D_i) (M : g_M) : Prop := g_i M m 61 = L.length ∧ ∀ (i : Nat) (x : D_i), L[i]? = some x → g_i M (ρ 57) i = D_p (D_lo x) ∧ g_i M (ρ 59) i = (if x.2.2.1 = true then 1 else 0) ∧ g_i M (ρ 58) i = D_p (D_hi x) ∧ g_i M (ρ 60) i = if x.2.2.2.2 = true then 1 else 0
def E_IF (m : Nat) (ρ : Nat → Nat) (y : Nat) (k : Int) : Prop := y = ρ 57 ∨ y = ρ 58 ∨ y = ρ 59 ∨ y = ρ 60 ∨ (y = m ∧ k = 61)
/-- a value alone -/
def D_pt (y : Int × b_E) : D_i := (b_cl y.2.1, some y, true, some y, true)
noncomputable def D_ap (P : List (Int × b_E)) (y : Int × b_E) : List (Int × b_E) := if (P.any fun z => F_eq z.2 y.2) = true then P else P ++ [y]
section DIV
variable {m d : Nat} {ρ : Nat → Nat} {M M1 : g_M} {L L0 : List D_i}
theorem E_IF_n (h : E_bk m ρ M) {i : Nat} (hi : i ∈ E_bf) (hn : i ≠ 57 ∧ i ≠ 58 ∧ i ≠ 59 ∧ i ≠ 60) {k : Int} : ¬ E_IF m ρ (ρ i) k := by
  rintro (z | z | z | z | ⟨z, -⟩)
  · exact h.ne hi (by decide) hn.1 z
  · exact h.ne hi (by decide) hn.2.1 z
  · exact h.ne hi (by decide) hn.2.2.1 z
  · exact h.ne hi (by decide) hn.2.2.2 z
  · exact h.nm hi z
theorem E_IF_m (h : E_bk m ρ M) {k : Int} (g : E_IF m ρ m k) : k = 61 := by
  rcases g with z | z | z | z | ⟨-, z⟩
  · exact absurd z.symm (h.nm (by decide))
  · exact absurd z.symm (h.nm (by decide))
  · exact absurd z.symm (h.nm (by decide))
  · exact absurd z.symm (h.nm (by decide))
  · exact z
theorem E_Iv.fr {S : Nat → Int → Prop} (h : E_Iv m ρ L M) (f : e_fr S M M1) (h1 : ¬ S m 61) (h2 : ∀ j ∈ [57, 58, 59, 60], ∀ k, ¬ S (ρ j) k) : E_Iv m ρ L M1 := ⟨by rw [f.2.1 _ _ h1]; exact h.1, fun i x hi => by
  obtain ⟨k1, k2, k3, k4⟩ := h.2 i x hi
  exact ⟨by rw [f.2.1 _ _ (h2 57 (by decide) _)]; exact k1, by rw [f.2.1 _ _ (h2 59 (by decide) _)]; exact k2, by rw [f.2.1 _ _ (h2 58 (by decide) _)]; exact k3, by rw [f.2.1 _ _ (h2 60 (by decide) _)]; exact k4⟩⟩
theorem e_addIv {Q : g_M → Prop} {p1 p2 i1 i2 : Int} {x : D_i} (hB : E_bk m ρ M) (hI : E_Iv m ρ L M) (hl : L.length < 6000) (hx1 : p1 = D_p (D_lo x)) (hx2 : i1 = if x.2.2.1 = true then 1 else 0) (hx3 : p2 = D_p (D_hi x)) (hx4 : i2 = if x.2.2.2.2 = true then 1 else 0) (hp1 : g_InR p1) (hp2 : g_InR p2) (hq : ∀ M1, e_fr (E_IF m ρ) M M1 → E_Iv m ρ (L ++ [x]) M1 → Q M1) : g_Call (d + 1) 392 [.ref m, g_n p1, g_n i1, g_n p2, g_n i2] M (g_qV Q) := by
  have i1c : i1 = 0 ∨ i1 = 1 := by
    rw [hx2]
    split
    · exact Or.inr rfl
    · exact Or.inl rfl
  have i2c : i2 = 0 ∨ i2 = 1 := by
    rw [hx4]
    split
    · exact Or.inr rfl
    · exact Or.inl rfl
  have h61 := hI.1
  have ne : ∀ {i j : Nat}, i ∈ E_bf → j ∈ E_bf → i ≠ j → ρ i ≠ ρ j := fun h1 h2 h3 => hB.ne h1 h2 h3
  have hmne : ∀ k ∈ E_bf, m ≠ ρ k := fun k hk z => hB.nm hk z.symm
  have b57 := hB.at (k := 57) (by decide)
  have b57A : g_A M (ρ 57) 1 6000 := b57.2
  have b58 := hB.at (k := 58) (by decide)
  have b58A : g_A M (ρ 58) 1 6000 := b58.2
  have b59 := hB.at (k := 59) (by decide)
  have b59A : g_A M (ρ 59) 2 6000 := b59.2
  have b60 := hB.at (k := 60) (by decide)
  have b60A : g_A M (ρ 60) 2 6000 := b60.2
  refine m_X12_addInterval hp1 ⟨by omega, by omega⟩ hp2 ⟨by omega, by omega⟩ fun _ => ⟨hB.1, ρ 57, b57.1, 6000, b57A, ⟨by omega, by omega⟩, ?_⟩
  rw [h61]
  rintro M7 e7 _
  have f7 : e_fr (E_IF m ρ) M M7 := by rw [e7]; exact e_fr.wi _ (Or.inl rfl)
  have m7 : g_i M7 m 61 = L.length := by rw [e7, g_i_wi, if_neg (fun z => hmne 57 (by decide) z.1)]; exact h61
  refine ⟨ρ 59, by rw [f7.2.2]; exact b59.1, 6000, f7.A b59A, ⟨by omega, by omega⟩, i1c, ?_⟩
  rw [m7]
  rintro M17 e17 _
  have f17 : e_fr (E_IF m ρ) M M17 := f7.tr (by rw [e17]; exact e_fr.wi _ (Or.inr (Or.inr (Or.inl rfl))))
  have m17 : g_i M17 m 61 = L.length := by rw [e17, g_i_wi, if_neg (fun z => hmne 59 (by decide) z.1)]; exact m7
  refine ⟨ρ 58, by rw [f17.2.2]; exact b58.1, 6000, f17.A b58A, ⟨by omega, by omega⟩, ?_⟩
  rw [m17]
  rintro M26 e26 _
  have f26 : e_fr (E_IF m ρ) M M26 := f17.tr (by rw [e26]; exact e_fr.wi _ (Or.inr (Or.inl rfl)))
  have m26 : g_i M26 m 61 = L.length := by rw [e26, g_i_wi, if_neg (fun z => hmne 58 (by decide) z.1)]; exact m17
  refine ⟨ρ 60, by rw [f26.2.2]; exact b60.1, 6000, f26.A b60A, ⟨by omega, by omega⟩, i2c, ?_⟩
  rw [m26]
  rintro M36 e36 _
  have f36 : e_fr (E_IF m ρ) M M36 := f26.tr (by rw [e36]; exact e_fr.wi _ (Or.inr (Or.inr (Or.inr (Or.inl rfl)))))
  have m36 : g_i M36 m 61 = L.length := by rw [e36, g_i_wi, if_neg (fun z => hmne 60 (by decide) z.1)]; exact m26
  rw [m36]
  refine ⟨⟨by omega, by omega⟩, ?_⟩
  rintro M41 e41 _
  have f41 : e_fr (E_IF m ρ) M M41 := f36.tr (by rw [e41]; exact e_fr.wi _ (Or.inr (Or.inr (Or.inr (Or.inr ⟨rfl, rfl⟩)))))
  have v57 : ∀ j, g_i M41 (ρ 57) j = if j = L.length then p1 else g_i M (ρ 57) j := fun j => by
    rw [e41, g_i_wi, if_neg (fun z => hmne 57 (by decide) z.1.symm), e36, g_i_wi, if_neg (fun z => ne (by decide) (by decide) (by decide) z.1), e26, g_i_wi, if_neg (fun z => ne (by decide) (by decide) (by decide) z.1), e17, g_i_wi, if_neg (fun z => ne (by decide) (by decide) (by decide) z.1), e7, g_i_wi]
    by_cases g : j = L.length
    · rw [if_pos ⟨rfl, g⟩, if_pos g]
    · rw [if_neg (fun z => g z.2), if_neg g]
  have v59 : ∀ j, g_i M41 (ρ 59) j = if j = L.length then i1 else g_i M (ρ 59) j := fun j => by
    rw [e41, g_i_wi, if_neg (fun z => hmne 59 (by decide) z.1.symm), e36, g_i_wi, if_neg (fun z => ne (by decide) (by decide) (by decide) z.1), e26, g_i_wi, if_neg (fun z => ne (by decide) (by decide) (by decide) z.1), e17, g_i_wi]
    by_cases g : j = L.length
    · rw [if_pos ⟨rfl, g⟩, if_pos g]
    · rw [if_neg (fun z => g z.2), if_neg g, e7, g_i_wi, if_neg (fun z => ne (by decide) (by decide) (by decide) z.1)]
  have v58 : ∀ j, g_i M41 (ρ 58) j = if j = L.length then p2 else g_i M (ρ 58) j := fun j => by
    rw [e41, g_i_wi, if_neg (fun z => hmne 58 (by decide) z.1.symm), e36, g_i_wi, if_neg (fun z => ne (by decide) (by decide) (by decide) z.1), e26, g_i_wi]
    by_cases g : j = L.length
    · rw [if_pos ⟨rfl, g⟩, if_pos g]
    · rw [if_neg (fun z => g z.2), if_neg g, e17, g_i_wi, if_neg (fun z => ne (by decide) (by decide) (by decide) z.1), e7, g_i_wi, if_neg (fun z => ne (by decide) (by decide) (by decide) z.1)]
  have v60 : ∀ j, g_i M41 (ρ 60) j = if j = L.length then i2 else g_i M (ρ 60) j := fun j => by
    rw [e41, g_i_wi, if_neg (fun z => hmne 60 (by decide) z.1.symm), e36, g_i_wi]
    by_cases g : j = L.length
    · rw [if_pos ⟨rfl, g⟩, if_pos g]
    · rw [if_neg (fun z => g z.2), if_neg g, e26, g_i_wi, if_neg (fun z => ne (by decide) (by decide) (by decide) z.1), e17, g_i_wi, if_neg (fun z => ne (by decide) (by decide) (by decide) z.1), e7, g_i_wi, if_neg (fun z => ne (by decide) (by decide) (by decide) z.1)]
  refine hq M41 f41 ⟨?_, fun i y hi => ?_⟩
  · rw [e41, g_i_wi, if_pos ⟨rfl, rfl⟩, List.length_append, List.length_singleton]
    omega
  · rw [v57, v58, v59, v60]
    by_cases g : i < L.length
    · rw [List.getElem?_append_left g] at hi
      have hne : ¬ (i : Int) = L.length := by omega
      rw [if_neg hne, if_neg hne, if_neg hne, if_neg hne]
      exact hI.2 i y hi
    · rw [List.getElem?_append_right (by omega)] at hi
      have hi0 := (List.getElem?_eq_some_iff.mp hi).1
      rw [List.length_singleton] at hi0
      have hi1 : i = L.length := by omega
      rw [hi1, Nat.sub_self] at hi
      have hi : x = y := Option.some.inj hi
      subst hi
      have hpe : (i : Int) = L.length := by omega
      rw [if_pos hpe, if_pos hpe, if_pos hpe, if_pos hpe]
      exact ⟨hx1, hx2, hx3, hx4⟩
theorem e_addPoint {Q : g_M → Prop} {P : List (Int × b_E)} {y : Int × b_E} (hB : E_bk m ρ M) (hI : E_Iv m ρ (L0 ++ P.map D_pt) M) (hl : L0.length + P.length < 6000) (hP : ∀ z ∈ P, b_st (g_i M (ρ 0)) 2706210 z.1 20 z.2.1 z.2.2.1 z.2.2.2) (hy : b_st (g_i M (ρ 0)) 2706210 y.1 20 y.2.1 y.2.2.1 y.2.2.2) (hq : ∀ M1, e_fr (E_IF m ρ) M M1 → E_Iv m ρ (L0 ++ (D_ap P y).map D_pt) M1 → Q M1) : g_Call (d + 48) 393 [.ref m, g_n L0.length, g_n y.1] M (g_qV Q) := by
  have h61 := hI.1
  rw [List.length_append, List.length_map] at h61
  have hyR : g_InR y.1 := hy.R (by decide)
  have b57 := hB.at (k := 57) (by decide)
  have b57A : g_A M (ρ 57) 1 6000 := b57.2
  refine m_X12_addPoint ⟨by omega, by omega⟩ hyR fun _ => ?_
  have hlp : ∀ (B A : List (Int × b_E)), P = A ++ B → (A.any fun z => F_eq z.2 y.2) = false → g_Run (d + 47) 393 2 [(0, .ref m), (1, g_n L0.length), (2, g_n y.1), (3, g_n ((L0.length + A.length : Nat) : Int))] [] M (g_qV Q) := by
    intro B
    induction B with
    | nil =>
      intro A hA hn
      rw [List.append_nil] at hA
      subst hA
      refine s_X12_addPoint_2 ⟨by omega, by omega⟩ hyR ⟨by omega, by omega⟩ fun _ => ⟨hB.1, fun g => absurd g (by omega), fun _ => e_addIv (d := d + 46) (x := D_pt y) hB hI (by rw [List.length_append, List.length_map]; omega) rfl rfl rfl rfl hyR hyR fun M1 f1 I1 => ?_⟩
      intro _ _
      refine hq M1 f1 ?_
      unfold D_ap
      rw [if_neg (by rw [hn]; decide), List.map_append, ← List.append_assoc]
      exact I1
    | cons z B ih =>
      intro A hA hn
      have hll := congrArg List.length hA
      rw [List.length_append, List.length_cons] at hll
      have hzi : (L0 ++ P.map D_pt)[L0.length + A.length]? = some (D_pt z) := by
        rw [List.getElem?_append_right (by omega), show L0.length + A.length - L0.length = A.length by omega, List.getElem?_map, hA, List.getElem?_append_right (Nat.le_refl _), Nat.sub_self]
        rfl
      have hzm : z ∈ P := by rw [hA]; simp
      have h57 : g_i M (ρ 57) ((L0.length + A.length : Nat) : Int) = z.1 := (hI.2 _ _ hzi).1
      refine s_X12_addPoint_2 ⟨by omega, by omega⟩ hyR ⟨by omega, by omega⟩ fun _ => ⟨hB.1, fun _ => ⟨ρ 57, b57.1, 6000, b57A, ⟨by omega, by omega⟩, ?_⟩, fun g => absurd (by omega) g⟩
      rw [h57]
      refine e_isSameS (d := d + 1) (x := z.2) (v := y.2) (D := 20) hB.R (hP z hzm) (by decide) hy ?_
      intro _ _ _
      refine ⟨fun g => ⟨⟨by omega, by omega⟩, ?_⟩, fun g => ?_⟩
      · have hF : F_eq z.2 y.2 = false := by
          cases h : F_eq z.2 y.2
          · rfl
          · rw [h, if_pos rfl] at g
            exact absurd g (by decide)
        have h9 := ih (A ++ [z]) (by rw [hA]; simp) (by rw [List.any_append, hn]; simp [hF])
        rw [show ((L0.length + (A ++ [z]).length : Nat) : Int) = ((L0.length + A.length : Nat) : Int) + 1 by rw [List.length_append, List.length_singleton]; omega] at h9
        exact h9
      · have hF : F_eq z.2 y.2 = true := by
          cases h : F_eq z.2 y.2
          · rw [h] at g
            exact absurd (if_neg (by decide)) g
          · rfl
        refine hq M (e_fr.rf _ _) ?_
        have : (P.any fun z => F_eq z.2 y.2) = true := List.any_eq_true.mpr ⟨z, hzm, hF⟩
        unfold D_ap
        rw [if_pos this]
        exact hI
  exact hlp P [] rfl rfl
end DIV
