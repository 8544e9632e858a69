/-! EXPLAIN, THE REFERENCE: the conditions that a filter has for a path -/
noncomputable def D_co : Nat → List Int → List (Int × b_E) → List (Bool × (Int × b_E))
  | 0, _, _ => []
  | n + 1, x, l => l.flatMap fun e => if e.2.2.1 = b_tx 94 then (L_ch e.1 e.2).flatMap (fun i => D_co n x (L_ch i.1 i.2)) else if e.2.2.1 = x then (if F_cs e.2 = true then (L_ch e.1 e.2).map (fun f => (false, f)) else [(true, e)]) else []
/-- what a right filter gives -/
def D_cv : Nat → List Int → List (Int × b_E) → Prop
  | 0, _, _ => True
  | n + 1, x, l => ∀ e ∈ l, (e.2.2.1 = b_tx 94 → e.2.1 = 4 ∧ ∀ i ∈ L_ch e.1 e.2, i.2.1 = 3 ∧ D_cv n x (L_ch i.1 i.2)) ∧ (F_cs e.2 = true → e.2.1 = 3)
noncomputable def D_co1 (n : Nat) (x : List Int) (e : Int × b_E) : List (Bool × (Int × b_E)) := if e.2.2.1 = b_tx 94 then (L_ch e.1 e.2).flatMap (fun i => D_co n x (L_ch i.1 i.2)) else if e.2.2.1 = x then (if F_cs e.2 = true then (L_ch e.1 e.2).map (fun f => (false, f)) else [(true, e)]) else []
theorem D_co_s (n : Nat) (x : List Int) (l : List (Int × b_E)) : D_co (n + 1) x l = l.flatMap (D_co1 n x) := rfl
/-- the reference's conditions -/
def E_Sy (m : Nat) (ρ : Nat → Nat) (L : List (Bool × (Int × b_E))) (M : g_M) : Prop := g_i M m 64 = L.length ∧ ∀ (i : Nat) (z : Bool × (Int × b_E)), L[i]? = some z → g_i M (ρ 62) i = z.2.1 ∧ g_i M (ρ 63) i = if z.1 = true then 1 else 0
def E_SF (m : Nat) (ρ : Nat → Nat) (y : Nat) (k : Int) : Prop := y = ρ 62 ∨ y = ρ 63 ∨ (y = m ∧ k = 64)
section DCO
variable {m d b : Nat} {ρ : Nat → Nat} {M M1 : g_M} {L : List (Bool × (Int × b_E))}
theorem E_SF_n (h : E_bk m ρ M) {i : Nat} (hi : i ∈ E_bf) (hn : i ≠ 62 ∧ i ≠ 63) {k : Int} : ¬ E_SF m ρ (ρ i) k := by
  rintro (z | z | ⟨z, -⟩)
  · exact h.ne hi (by decide) hn.1 z
  · exact h.ne hi (by decide) hn.2 z
  · exact h.nm hi z
/-- one more: the three writes -/
theorem E_Sy.add {M48 M55 M62 : g_M} {al : Bool} {y : Int × b_E} {v : Int} (hB : E_bk m ρ M) (hI : E_Sy m ρ L M) (hv : v = if al = true then 1 else 0) (e48 : M48 = g_wi M (ρ 63) L.length v) (e55 : M55 = g_wi M48 m 64 ((L.length : Int) + 1)) (e62 : M62 = g_wi M55 (ρ 62) L.length y.1) : E_Sy m ρ (L ++ [(al, y)]) M62 ∧ e_fr (E_SF m ρ) M M62 := by
  have hmne : ∀ k ∈ E_bf, m ≠ ρ k := fun k hk z => hB.nm hk z.symm
  have n63 : ρ 62 ≠ ρ 63 := hB.ne (by decide) (by decide) (by decide)
  refine ⟨⟨?_, fun i z hi => ?_⟩, ?_⟩
  · rw [e62, g_i_wi, if_neg (fun z => hmne 62 (by decide) z.1), e55, g_i_wi, if_pos ⟨rfl, rfl⟩, List.length_append, List.length_singleton]
    omega
  · have v62 : ∀ j, g_i M62 (ρ 62) j = if j = L.length then y.1 else g_i M (ρ 62) j := fun j => by
      rw [e62, g_i_wi]
      by_cases g : j = L.length
      · rw [if_pos ⟨rfl, g⟩, if_pos g]
      · rw [if_neg (fun z => g z.2), if_neg g, e55, g_i_wi, if_neg (fun z => hmne 62 (by decide) z.1.symm), e48, g_i_wi, if_neg (fun z => n63 z.1)]
    have v63 : ∀ j, g_i M62 (ρ 63) j = if j = L.length then v else g_i M (ρ 63) j := fun j => by
      rw [e62, g_i_wi, if_neg (fun z => n63 z.1.symm), e55, g_i_wi, if_neg (fun z => hmne 63 (by decide) z.1.symm), e48, g_i_wi]
      by_cases g : j = L.length
      · rw [if_pos ⟨rfl, g⟩, if_pos g]
      · rw [if_neg (fun z => g z.2), if_neg g]
    rw [v62, v63]
    by_cases g : i < L.length
    · rw [List.getElem?_append_left g] at hi
      have hne : ¬ (i : Int) = L.length := by omega
      rw [if_neg hne, if_neg hne]
      exact hI.2 i z hi
    · rw [List.getElem?_append_right (by omega)] at hi
      have hi0 := (List.getElem?_eq_some_iff.mp hi).1
      rw [List.length_singleton] at hi0
      have hi1 : i = L.length := by omega
      rw [hi1, Nat.sub_self] at hi
      have hi : (al, y) = z := Option.some.inj hi
      subst hi
      have hpe : (i : Int) = L.length := by omega
      rw [if_pos hpe, if_pos hpe]
      exact ⟨rfl, hv⟩
  · rw [e62, e55, e48]
    exact ((e_fr.wi _ (Or.inr (Or.inl rfl))).tr (e_fr.wi _ (Or.inr (Or.inr ⟨rfl, rfl⟩)))).tr (e_fr.wi _ (Or.inl rfl))
end DCO
