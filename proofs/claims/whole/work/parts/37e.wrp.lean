/-! WHAT A REQUEST DOES: the reference's pipelines -/
section WRP
variable {m d : Nat} {ρ : Nat → Nat} {M M1 M2 : g_M} {S : W_S} {q : Nat → List (Nat × Int × List b_E)} {Q : Int → g_M → Prop} {w : Nat}
/-- where in the bytes a house tells of something -/
theorem E_HP_0 (h : E_bk m ρ M) {k : Int} (g : E_HP m ρ (ρ 0) k) : (2000 ≤ k ∧ k < 802000) ∨ (982000 ≤ k ∧ k < 2598000) ∨ 2706200 ≤ k := by
  have key : ∀ {j : Nat}, j ∈ E_bf → j ≠ 0 → ρ 0 ≠ ρ j := fun hj hn z => hn (h.2.2 _ (by decide) _ hj z).symm
  rcases g with ⟨x, hx, z⟩ | ⟨w, hw, z⟩ | ⟨z, -⟩ | ⟨-, z⟩
  · rcases z with z | ⟨z | z, -⟩ | ⟨z | z | z, -⟩ | ⟨-, z1, z2⟩
    · rcases z with ⟨z | z, -⟩ | ⟨-, z1, z2⟩ | ⟨z | z | z, -⟩ | ⟨z | z, -⟩ | ⟨z | z, -⟩
      · exact absurd z (key (by decide) (by decide))
      · exact absurd z (key (by decide) (by decide))
      · omega
      · exact absurd z (key (by decide) (by decide))
      · exact absurd z (key (by decide) (by decide))
      · exact absurd z (key (by decide) (by decide))
      · exact absurd z (key (by decide) (by decide))
      · exact absurd z (key (by decide) (by decide))
      · exact absurd z (key (by decide) (by decide))
      · exact absurd z (key (by decide) (by decide))
    · exact absurd z (key (by decide) (by decide))
    · exact absurd z (key (by decide) (by decide))
    · exact absurd z (key (by decide) (by decide))
    · exact absurd z (key (by decide) (by decide))
    · exact absurd z (key (by decide) (by decide))
    · omega
  · rcases z with ⟨z | z | z, -⟩ | ⟨z | z | z, -⟩ | ⟨-, z1, z2⟩
    · exact absurd z (key (by decide) (by decide))
    · exact absurd z (key (by decide) (by decide))
    · exact absurd z (key (by decide) (by decide))
    · exact absurd z (key (by decide) (by decide))
    · exact absurd z (key (by decide) (by decide))
    · exact absurd z (key (by decide) (by decide))
    · omega
  · exact absurd z (h.nm (by decide))
  · omega
/-- what a pipeline may change does not reach the house -/
def E_pk : List Nat := [9, 12, 18, 20, 22, 30, 31, 34, 74]
theorem E_H.pp {T : Nat → Int → Prop} {st : Nat → I_T} {v : Nat → Int} (h : E_H m ρ st q v M) (f : e_fr T M M1) (hT : ∀ y k, T y k → (y = m ∧ k ≠ 47) ∨ (∃ j ∈ E_pk, y = ρ j) ∨ (y = ρ 0 ∧ ((802000 ≤ k ∧ k < 982000) ∨ (2598000 ≤ k ∧ k < 2706200)))) : E_H m ρ st q v M1 := h.fr f fun y k g z => by
  have hB := h.1
  rcases hT y k z with ⟨e, hk⟩ | ⟨j, hj, e⟩ | ⟨e, hk⟩
  · rcases E_HP_j g with ⟨-, z⟩ | ⟨j, hj, e2⟩
    · exact hk z
    · exact hB.nm (E_hj_bf j hj).1 (e2.symm.trans e)
  · have hp : ∀ j ∈ E_pk, j ∈ E_bf ∧ j ∉ E_hj := by decide
    rcases E_HP_j g with ⟨e2, -⟩ | ⟨j2, hj2, e2⟩
    · exact hB.nm (hp j hj).1 (e.symm.trans e2)
    · have := hB.2.2 _ (hp j hj).1 _ (E_hj_bf j2 hj2).1 (e.symm.trans e2)
      rw [this] at hj
      exact (hp _ hj).2 hj2
  · rw [e] at g
    have := E_HP_0 hB g
    omega
end WRP
