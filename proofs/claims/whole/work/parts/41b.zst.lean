/-! BOTH, SIDE BY SIDE: the class from cell 0 on, the reference in its cells -/
/-- the reference's cells -/
def Zc (i : Nat) : Prop := 224 ≤ i ∧ i < 264
/-- what is there and not the reference's -/
def Zm (E : q_H) (i : Nat) : Prop := (i < 224 ∨ 264 ≤ i) ∧ i < E.length
def Z_A (ι : Nat → Nat) (κ : Nat → Nat → Nat) (al sz : Nat → Nat × Nat) (cB eB : Int) (S : W_S) (an : List Int) (F : Int → Int) (tp : Int) (M : g_M) : Prop := C_H ι κ al sz cB eB S.1 S.2.1 S.2.2 M ∧ C_an ι an M ∧ C_tp ι F tp M
def Z_B (ρ : Nat → Nat) (S : W_S) (q : Nat → List (Nat × Int × List b_E)) (an : List Int) (F : Int → Int) (tp : Int) (M : g_M) : Prop := E_W 448 ρ S q M ∧ E_an 448 ρ an M ∧ E_tp 448 ρ F tp M
def Z_P (ι : Nat → Nat) (κ : Nat → Nat → Nat) (ρ : Nat → Nat) : Prop := ι 0 = 0 ∧ (∀ a ∈ Ck_k, ¬ zk_F Zc (ι a)) ∧ (∀ x j : Nat, x < 8 → j < 10 → ¬ zk_F Zc (κ x j)) ∧ ∀ k ∈ E_bf, zk_F Zc (ρ k)
def Z_E (E : q_H) : Prop := zk_hok Zc E ∧ zk_hok (Zm E) E ∧ 264 ≤ E.length
/-- all, after k calls; sl fields and elements -/
def Z_I (k : Nat) (E : q_H) (sl : Nat) : Prop := k ≤ 512 ∧ ∃ (M : g_M) (ι : Nat → Nat) (κ : Nat → Nat → Nat) (ρ : Nat → Nat) (al sz : Nat → Nat × Nat) (cB eB : Int) (S : W_S) (q : Nat → List (Nat × Int × List b_E)) (an : List Int) (F : Int → Int) (tp : Int), g_Rel E M ∧ g_sl M = sl ∧ Z_A ι κ al sz cB eB S an F tp M ∧ Z_B ρ S q an F tp M ∧ Z_P ι κ ρ ∧ Z_E E ∧ (cB + tp ≤ 3234076 + 20 * k ∧ eB ≤ 8 + 2 * k) ∧ W_ok S ∧ ∀ w, w < 2 → S.2.2 w ≤ k
theorem zk_eok.map {K K2 : Nat → Prop} {n n2 : Nat} {e : q_E} (h : zk_eok K n e) (hm : ∀ r, r < n → ¬ K r → r < n2 ∧ ¬ K2 r) : zk_eok K2 n2 e := by
  have hv : ∀ {v : Value}, zk_vok K n v → zk_vok K2 n2 v := fun {v} h => by
    cases v with
    | ref r => exact fun hr => hm _ (h hr).1 (h hr).2
    | _ => trivial
  rcases e with ⟨t, l, L | L⟩ | ⟨c, fs⟩
  · trivial
  · exact fun j b hb => hv (h j b hb)
  · exact fun x hx => hv (h x hx)
theorem E_bf_R : ∀ k ∈ E_bf, k < q_N 12 ∧ g_isR (q_Ty 12 k) = true := by decide
theorem B_fs_R : ∀ k ∈ B_fs, k < q_N 10 ∧ g_isR (q_Ty 10 k) = true := by decide
section ZST
variable {ι : Nat → Nat} {κ : Nat → Nat → Nat} {ρ : Nat → Nat} {al sz : Nat → Nat × Nat} {cB eB : Int} {S : W_S} {q : Nat → List (Nat × Int × List b_E)} {an : List Int} {F : Int → Int} {tp : Int} {M M1 M2 : g_M} {E E1 : q_H}
theorem Z_F448 : zk_F Zc 448 := ⟨by decide, by decide, by decide⟩
/-- the class's own refs -/
def Z_own (ι : Nat → Nat) (κ : Nat → Nat → Nat) (al : Nat → Nat × Nat) (st : Nat → I_T) (M : g_M) (y : Nat) : Prop := (∃ a ∈ Ck_k, y = ι a) ∨ (∃ x j : Nat, x < 8 ∧ j < 10 ∧ y = κ x j) ∨ (∃ x : Nat, x < 8 ∧ B_own (κ x 7) M y) ∨ ∃ x : Nat, x < 8 ∧ ∃ V T m1 m2, st x = some (V, T, m1, m2) ∧ (y = (al x).1 ∨ ∃ s2, V.2.2.2 = some s2 ∧ y = (al x).2)
theorem C_H.off2 {P : Nat → Prop} {st : Nat → I_T} {D : Nat → List (Int × List b_E)} {gv : Nat → Int} (h : C_H ι κ al sz cB eB st D gv M) (f : e_fr (fun y _ => P y) M M1) (hn : ∀ y, Z_own ι κ al st M y → ¬ P y) : C_H ι κ al sz cB eB st D gv M1 := h.off (F := P) f (fun a ha => hn _ (Or.inl ⟨a, ha, rfl⟩)) (fun x j hx hj => hn _ (Or.inr (Or.inl ⟨x, j, hx, hj, rfl⟩))) (fun x hx y hy => hn _ (Or.inr (Or.inr (Or.inl ⟨x, hx, hy⟩)))) fun x hx V T m1 m2 e => ⟨hn _ (Or.inr (Or.inr (Or.inr ⟨x, hx, V, T, m1, m2, e, Or.inl rfl⟩))), fun s2 hs2 => hn _ (Or.inr (Or.inr (Or.inr ⟨x, hx, V, T, m1, m2, e, Or.inr ⟨s2, hs2, rfl⟩⟩)))⟩
/-- they are there, and told by the class's objects -/
theorem C_H.ow {st : Nat → I_T} {D : Nat → List (Int × List b_E)} {gv : Nat → Int} (h : C_H ι κ al sz cB eB st D gv M) {y : Nat} (hy : Z_own ι κ al st M y) : (∃ c, g_sh M y = some c) ∧ ((∃ a ∈ Ck_k, y = ι a) ∨ (∃ x j : Nat, x < 8 ∧ j < 10 ∧ y = κ x j) ∨ (∃ x k : Nat, x < 8 ∧ k ∈ B_fs ∧ g_r M (κ x 7) k = some y ∧ g_O M (κ x 7) 10) ∨ ∃ x j : Nat, x < 8 ∧ j < 10 ∧ g_r M (κ x j) 0 = some y ∧ g_O M (κ x j) 5) := by
  obtain ⟨h1, h2, h3, h4, h5, h6, h7, h8⟩ := h
  have hA : ∀ {a t : Nat} {n : Int}, g_A M a t n → ∃ c, g_sh M a = some c := fun h => by
    obtain ⟨m, hm, -⟩ := h
    exact ⟨_, hm⟩
  have hI : ∀ {a : Nat} {s : Bool × Nat × Int}, Ck_is M a s → ∃ c, g_sh M a = some c := fun {a s} h => by
    unfold Ck_is at h
    split at h
    · exact ⟨_, h⟩
    · exact hA h
  have hK : ∀ x j : Nat, x < 8 → j < 10 → ∃ c, g_sh M (κ x j) = some c := fun x j hx hj => by
    have hj2 : j ∈ Ck_xl.map fun e => e.1 := by
      have : ∀ j : Fin 10, j.val ∈ Ck_xl.map fun e => e.1 := by decide
      exact this ⟨j, hj⟩
    obtain ⟨e, he, e1⟩ := List.mem_map.mp hj2
    rw [← e1]
    exact hI ((h1.2.2 x hx).1 e he)
  rcases hy with ⟨a, ha, e⟩ | ⟨x, j, hx, hj, e⟩ | ⟨x, hx, hy⟩ | ⟨x, hx, V, T, m1, m2, e, hy⟩
  · refine ⟨?_, Or.inl ⟨a, ha, e⟩⟩
    obtain ⟨z, hz, e1⟩ := List.mem_map.mp ha
    rw [e, ← e1]
    exact hI (h1.1 z hz)
  · rw [e]
    exact ⟨hK x j hx hj, Or.inr (Or.inl ⟨x, j, hx, hj, rfl⟩)⟩
  · rcases hy with e | ⟨k, hk, e⟩
    · rw [e]
      exact ⟨hK x 7 hx (by decide), Or.inr (Or.inl ⟨x, 7, hx, by decide, rfl⟩)⟩
    · obtain ⟨SS, hB, -⟩ := (h6 x hx).1
      obtain ⟨a, b1, b2, -⟩ := hB.2.2.1 k hk
      have ea : a = y := Option.some.inj (b1.symm.trans e)
      rw [← ea]
      exact ⟨hA b2, Or.inr (Or.inr (Or.inl ⟨x, k, hx, hk, b1, hB.1⟩))⟩
  · have h9 := (h6 x hx).2
    rw [e] at h9
    obtain ⟨-, -, -, -, -, -, ⟨⟨⟨n, p1⟩, -⟩, -⟩, p2⟩ := h9
    rcases hy with e1 | ⟨s2, hs2, e1⟩
    · rw [e1]
      exact ⟨hA p1.2.2.1, Or.inr (Or.inr (Or.inr ⟨x, 1, hx, by decide, p1.2.1, p1.1.1⟩))⟩
    · obtain ⟨⟨⟨n2, p3⟩, -⟩, -⟩ := p2 s2 hs2
      rw [e1]
      exact ⟨hA p3.2.2.1, Or.inr (Or.inr (Or.inr ⟨x, 4, hx, by decide, p3.2.1, p3.1.1⟩))⟩
/-- none of them is the reference's -/
theorem C_H.nF {st : Nat → I_T} {D : Nat → List (Int × List b_E)} {gv : Nat → Int} (h : C_H ι κ al sz cB eB st D gv M) (hE : g_Rel E M2) (h2 : M2.1 = M.1) (hr : ∀ x k, g_r M2 x k = g_r M x k) (hk : zk_hok Zc E) (hP : Z_P ι κ ρ) {y : Nat} (hy : Z_own ι κ al st M y) : ¬ zk_F Zc y := by
  have hO : ∀ {a c : Nat}, g_O M a c → g_O M2 a c := fun h => by
    unfold g_O g_sh at h ⊢
    rw [h2]
    exact h
  rcases (h.ow hy).2 with ⟨a, ha, e⟩ | ⟨x, j, hx, hj, e⟩ | ⟨x, k, hx, hkk, e, ho⟩ | ⟨x, j, hx, hj, e, ho⟩
  · rw [e]
    exact hP.2.1 a ha
  · rw [e]
    exact hP.2.2.1 x j hx hj
  · obtain ⟨k1, k2⟩ := B_fs_R k hkk
    exact (zk_obj hE hk (hO ho) (hP.2.2.1 x 7 hx (by decide)) k1 k2 ((hr _ _).trans e)).1
  · exact (zk_obj (k := 0) hE hk (hO ho) (hP.2.2.1 x j hx hj) (by decide) (by decide) ((hr _ _).trans e)).1
theorem Z_A.up (h : Z_A ι κ al sz cB eB S an F tp M) {P : Nat → Prop} (f : e_fr (fun y _ => P y) M M1) (hn : ∀ y, Z_own ι κ al S.1 M y → ¬ P y) : Z_A ι κ al sz cB eB S an F tp M1 := by
  obtain ⟨h1, h2, h3⟩ := h
  have hi : ∀ a ∈ Ck_k, g_i M1 (ι a) = g_i M (ι a) := fun a ha => funext fun k => f.2.1 _ _ (hn _ (Or.inl ⟨a, ha, rfl⟩))
  refine ⟨h1.off2 f hn, ?_, ?_⟩
  · unfold C_an
    rw [hi 3 (by decide), hi 4 (by decide)]
    exact h2
  · unfold C_tp
    rw [hi 0 (by decide), hi 2 (by decide)]
    exact h3
theorem Z_B.up (h : Z_B ρ S q an F tp M) (hx : g_ext M M2) (hr : ∀ k ∈ E_bf, g_r M2 448 (k : Nat) = g_r M 448 (k : Nat)) (hi : ∀ y, (y = 448 ∨ ∃ k ∈ E_bf, y = ρ k) → g_i M2 y = g_i M y) : Z_B ρ S q an F tp M2 := ⟨h.1.xt hx hr hi, h.2.1.xt hi, h.2.2.xt hi⟩
end ZST
