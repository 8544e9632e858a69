/-! WHAT STANDS OF THE REFERENCE, when foreign cells change -/
section XEW
variable {m : Nat} {ρ : Nat → Nat} {M M2 : g_M} {q : Nat → List (Nat × Int × List b_E)} {S : W_S} {an : List Int} {tp : Int} {G : Int → Int}
theorem E_W.xt (h : E_W m ρ S q M) (hx : g_ext M M2) (hr : ∀ k ∈ E_bf, g_r M2 m (k : Nat) = g_r M m (k : Nat)) (hi : ∀ y, (y = m ∨ ∃ k ∈ E_bf, y = ρ k) → g_i M2 y = g_i M y) : E_W m ρ S q M2 := by
  refine ⟨h.1.xt hx hr hi, ?_, ?_, h.2.2.2⟩
  · rw [hi m (Or.inl rfl)]
    exact h.2.1
  · rw [hi m (Or.inl rfl)]
    exact h.2.2.1
theorem E_an.xt (h : E_an m ρ an M) (hi : ∀ y, (y = m ∨ ∃ k ∈ E_bf, y = ρ k) → g_i M2 y = g_i M y) : E_an m ρ an M2 := by
  unfold E_an
  rw [hi m (Or.inl rfl), hi (ρ 0) (Or.inr ⟨0, by decide, rfl⟩)]
  exact h
theorem E_tp.xt (h : E_tp m ρ G tp M) (hi : ∀ y, (y = m ∨ ∃ k ∈ E_bf, y = ρ k) → g_i M2 y = g_i M y) : E_tp m ρ G tp M2 := by
  unfold E_tp
  rw [hi m (Or.inl rfl), hi (ρ 1) (Or.inr ⟨1, by decide, rfl⟩)]
  exact h
end XEW
