/-! THE REFERENCE'S HOUSE: all its rows; its shelves; its indexes -/
def E_bf : List Nat := [0, 1, 9, 12, 18, 20, 22, 30, 31, 34, 35, 36, 37, 38, 39, 45, 46, 48, 49, 50, 51, 52, 53, 54, 57, 58, 59, 60, 62, 63, 68, 69, 70, 71, 72, 73, 74, 75, 76]
def E_bt (k : Nat) : Nat := if k = 0 then 0 else if k = 35 ∨ k = 38 ∨ k = 39 ∨ k = 45 ∨ k = 48 ∨ k = 49 ∨ k = 59 ∨ k = 60 ∨ k = 63 ∨ k = 73 ∨ k = 74 ∨ k = 75 then 2 else 1
def E_bl (k : Nat) : Int := if k = 0 then 2706210 else if k = 1 then 2000 else if k = 9 then 80000 else if k = 12 then 12 else if k ≤ 31 then 200 else if k = 34 then 800 else if k ≤ 36 then 8 else if k ≤ 39 then 16 else if k ≤ 46 then 12000 else if k ≤ 50 then 4800 else if k ≤ 52 then 48000 else if k ≤ 54 then 8 else if k ≤ 60 then 6000 else if k ≤ 63 then 200 else if k ≤ 70 then 2 else if k ≤ 73 then 400 else if k ≤ 75 then 200 else 8
/-- the rows of the reference -/
def E_bk (m : Nat) (ρ : Nat → Nat) (M : g_M) : Prop := g_O M m 12 ∧ (∀ k ∈ E_bf, g_r M m k = some (ρ k) ∧ g_A M (ρ k) (E_bt k) (E_bl k)) ∧ ∀ k ∈ E_bf, ∀ k2 ∈ E_bf, ρ k = ρ k2 → k = k2
section EBK
variable {m : Nat} {ρ : Nat → Nat} {M M1 : g_M}
theorem E_bk.at (h : E_bk m ρ M) {k : Nat} (hk : k ∈ E_bf) : g_r M m k = some (ρ k) ∧ g_A M (ρ k) (E_bt k) (E_bl k) := h.2.1 k hk
theorem E_bk.ne (h : E_bk m ρ M) {k k2 : Nat} (hk : k ∈ E_bf) (hk2 : k2 ∈ E_bf) (hn : k ≠ k2) : ρ k ≠ ρ k2 := fun z => hn (h.2.2 k hk k2 hk2 z)
theorem E_bk.nm (h : E_bk m ρ M) {k : Nat} (hk : k ∈ E_bf) : ρ k ≠ m := fun z => g_neOA h.1 (h.at hk).2 z.symm
theorem E_bk.fr {S : Nat → Int → Prop} (h : E_bk m ρ M) (f : e_fr S M M1) : E_bk m ρ M1 := ⟨f.O h.1, fun k hk => ⟨by rw [f.2.2]; exact (h.at hk).1, f.A (h.at hk).2⟩, h.2.2⟩
theorem E_bk.R (h : E_bk m ρ M) : e_R M m (ρ 0) := ⟨h.1, (h.at (k := 0) (by decide)).1, (h.at (k := 0) (by decide)).2⟩
theorem E_fs_bf : ∀ k ∈ R_fs, k ∈ E_bf ∧ E_bt k = R_ty k ∧ E_bl k = R_ln k := by decide
theorem E_bk.rw (h : E_bk m ρ M) : R_rw m (ρ 0) ρ M := by
  refine ⟨h.R, fun k hk => ?_, fun k hk k2 hk2 => h.2.2 k (E_fs_bf k hk).1 k2 (E_fs_bf k2 hk2).1⟩
  obtain ⟨h1, h2, h3⟩ := E_fs_bf k hk
  have := h.at h1
  rw [h2, h3] at this
  exact this
/-- a shelf of the reference: slots, numbers, documents -/
def R_hs (ρ : Nat → Nat) (w : Nat) (qs : List (Nat × Int × List b_E)) (gv : Int) (M : g_M) : Prop := (w < 2 ∧ g_i M (ρ 68) w = qs.length ∧ g_i M (ρ 69) w = S_sum (qs.map fun z => z.2.2) ∧ g_i M (ρ 70) w = gv + 1) ∧ (qs.map fun z => z.1).Nodup ∧ (∀ (i : Nat) (z : Nat × Int × List b_E), qs[i]? = some z → (200 * w ≤ z.1 ∧ z.1 < 200 * w + 200) ∧ g_i M (ρ 71) (200 * w + i) = z.1 ∧ g_i M (ρ 72) (200 * w + i) = z.2.1 ∧ g_InR z.2.1 ∧ b_at (g_i M (ρ 0)) (2000 + 2000 * (z.1 : Int)) (b_doc z.2.2)) ∧ (∀ s : Nat, 200 * w ≤ s → s < 200 * w + 200 → g_i M (ρ 73) s = if s ∈ qs.map (fun z => z.1) then 1 else 0) ∧ S_ok (qs.map fun z => z.2.2)
/-- the places that tell of a shelf -/
def R_hP (ρ : Nat → Nat) (w : Nat) (y : Nat) (q : Int) : Prop := ((y = ρ 68 ∨ y = ρ 69 ∨ y = ρ 70) ∧ q = w) ∨ ((y = ρ 71 ∨ y = ρ 72 ∨ y = ρ 73) ∧ 200 * (w : Int) ≤ q ∧ q < 200 * w + 200) ∨ (y = ρ 0 ∧ 2000 + 400000 * (w : Int) ≤ q ∧ q < 2000 + 400000 * w + 400000)
theorem R_hs.fr {S : Nat → Int → Prop} {w : Nat} {qs : List (Nat × Int × List b_E)} {gv : Int} (h : R_hs ρ w qs gv M) (f : e_fr S M M1) (hS : ∀ y q, R_hP ρ w y q → ¬ S y q) : R_hs ρ w qs gv M1 := by
  obtain ⟨⟨h1, h2, h3, h4⟩, h5, h6, h7, h8⟩ := h
  have hl := h8.1
  rw [List.length_map] at hl
  refine ⟨⟨h1, by rw [f.2.1 _ _ (hS _ _ (Or.inl ⟨Or.inl rfl, rfl⟩))]; exact h2, by rw [f.2.1 _ _ (hS _ _ (Or.inl ⟨Or.inr (Or.inl rfl), rfl⟩))]; exact h3, by rw [f.2.1 _ _ (hS _ _ (Or.inl ⟨Or.inr (Or.inr rfl), rfl⟩))]; exact h4⟩, h5, fun i z hi => ?_, fun s s1 s2 => ?_, h8⟩
  · obtain ⟨⟨g1, g2⟩, g3, g4, g5, g6⟩ := h6 i z hi
    have hil := (List.getElem?_eq_some_iff.mp hi).1
    have hzl := (h8.2.2 z.2.2 (List.mem_map.mpr ⟨z, List.mem_of_getElem? hi, rfl⟩)).1
    refine ⟨⟨g1, g2⟩, by rw [f.2.1 _ _ (hS _ _ (Or.inr (Or.inl ⟨Or.inl rfl, by omega, by omega⟩)))]; exact g3, by rw [f.2.1 _ _ (hS _ _ (Or.inr (Or.inl ⟨Or.inr (Or.inl rfl), by omega, by omega⟩)))]; exact g4, g5, b_at_keep g6 fun k k1 k2 => f.2.1 _ _ (hS _ _ (Or.inr (Or.inr ⟨rfl, by omega, by omega⟩)))⟩
  · rw [f.2.1 _ _ (hS _ _ (Or.inr (Or.inl ⟨Or.inr (Or.inr rfl), by omega, by omega⟩)))]
    exact h7 s s1 s2
theorem R_hs.sh {w : Nat} {qs : List (Nat × Int × List b_E)} {gv : Int} (h : R_hs ρ w qs gv M) : R_sh (ρ 0) (ρ 68) (ρ 71) w (qs.map fun z => z.2.2) M := by
  obtain ⟨⟨h1, h2, h3, h4⟩, h5, h6, h7, h8⟩ := h
  refine ⟨by rw [h2, List.length_map], h8, fun i es hi => ?_⟩
  rw [List.getElem?_map] at hi
  cases hz : qs[i]? with
  | none => rw [hz] at hi; exact absurd hi (by simp)
  | some z =>
    rw [hz] at hi
    have hi : z.2.2 = es := Option.some.inj hi
    subst hi
    obtain ⟨⟨g1, g2⟩, g3, g4, g5, g6⟩ := h6 i z hz
    exact ⟨z.1, g3, by omega, by omega, g6⟩
theorem R_hs.nm {w : Nat} {qs : List (Nat × Int × List b_E)} {gv : Int} (h : R_hs ρ w qs gv M) : R_nm (ρ 72) w (qs.map fun z => z.2.1) M := by
  intro i n hi
  rw [List.getElem?_map] at hi
  cases hz : qs[i]? with
  | none => rw [hz] at hi; exact absurd hi (by simp)
  | some z =>
    rw [hz] at hi
    have hi : z.2.1 = n := Option.some.inj hi
    subst hi
    obtain ⟨-, -, g4, g5, -⟩ := h.2.2.1 i z hz
    exact ⟨g4, g5⟩
/-- what is known of an index: its ways and paths, its entries, which paths are many-keyed -/
abbrev I_T : Type := Option (I_V × N_T I_E × Int × Int)
def R_ix (m : Nat) (ρ : Nat → Nat) (x : Nat) (t : I_T) (M : g_M) : Prop := match t with
  | none => g_i M (ρ 35) x = 0
  | some (V, T, m1, m2) => g_i M (ρ 35) x = 1 ∧ R_V m (ρ 36) (ρ 37) (ρ 38) (g_i M (ρ 0)) x V M ∧ R_Tr m (ρ 0) ρ x (ρ 38) V.1 V.2.1 T M ∧ (g_i M (ρ 39) ((2 * x : Nat) : Int) = m1 ∧ g_i M (ρ 39) ((2 * x + 1 : Nat) : Int) = m2) ∧ (m1 = 0 ∨ m1 = 1) ∧ (m2 = 0 ∨ m2 = 1)
/-- the places that tell of an index -/
def R_xP (ρ : Nat → Nat) (x : Nat) (y : Nat) (q : Int) : Prop := R_PX (ρ 0) ρ x y q ∨ ((y = ρ 35 ∨ y = ρ 36) ∧ q = x) ∨ ((y = ρ 37 ∨ y = ρ 38 ∨ y = ρ 39) ∧ (q = ((2 * x : Nat) : Int) ∨ q = ((2 * x + 1 : Nat) : Int))) ∨ (y = ρ 0 ∧ 982000 + 4000 * (x : Int) ≤ q ∧ q < 982000 + 4000 * x + 4000)
theorem R_ix.fr {S : Nat → Int → Prop} {x : Nat} {t : I_T} (h : R_ix m ρ x t M) (f : e_fr S M M1) (hS : ∀ y q, R_xP ρ x y q → ¬ S y q) (h47 : g_i M1 m 47 = -1) : R_ix m ρ x t M1 := by
  have h35 := f.2.1 (ρ 35) x (hS _ _ (Or.inr (Or.inl ⟨Or.inl rfl, rfl⟩)))
  rcases t with _ | ⟨V, T, m1, m2⟩
  · show g_i M1 (ρ 35) x = 0
    rw [h35]
    exact h
  · obtain ⟨k1, ⟨⟨a1, a2, a3, a4, a5, a6⟩, b1, b2, b3, b4, b5, b6, b7, b8, b9⟩, ⟨c1, c2, ⟨c3, c4, c5, c6, c7, c8⟩, -, hh, n, l, us, hTe, hrt, hD, hnd, hup, hus, hgd, hct, hkp⟩, ⟨k4, k5⟩, k6, k7⟩ := h
    have h36 := f.2.1 (ρ 36) x (hS _ _ (Or.inr (Or.inl ⟨Or.inr rfl, rfl⟩)))
    have hd : ∀ y q, (y = ρ 37 ∨ y = ρ 38 ∨ y = ρ 39) → (q = ((2 * x : Nat) : Int) ∨ q = ((2 * x + 1 : Nat) : Int)) → g_i M1 y q = g_i M y q := fun y q h1 h2 => f.2.1 y q (hS _ _ (Or.inr (Or.inr (Or.inl ⟨h1, h2⟩))))
    have hPX : ∀ y q, R_PX (ρ 0) ρ x y q → ¬ S y q := fun y q z => hS y q (Or.inl z)
    have hpt : ∀ (k : Nat) (st : List (List Int)), (k = 2 * x ∨ k = 2 * x + 1) → R_pt (g_i M (ρ 0)) M (ρ 37) k st → R_pt (g_i M1 (ρ 0)) M1 (ρ 37) k st := fun k st hk ⟨y, q1, q2, q3, q4, q5⟩ => ⟨y, q1, b_at_keep q2 fun j j1 j2 => f.2.1 _ _ (hS _ _ (Or.inr (Or.inr (Or.inr ⟨rfl, by omega, by omega⟩)))), q3, q4, by rw [hd _ _ (Or.inl rfl) (by omega)]; exact q5⟩
    have hid := (R_D_ids hD).2
    refine ⟨by rw [h35]; exact k1, ⟨⟨by rw [f.2.2]; exact a1, f.A a2, by rw [f.2.2]; exact a3, f.A a4, by rw [f.2.2]; exact a5, f.A a6⟩, b1, hpt _ _ (Or.inl rfl) b2, by rw [h36]; exact b3, by rw [h36]; exact b4, fun st hst => hpt _ _ (Or.inr rfl) (b5 st hst), b6, b7, by rw [hd _ _ (Or.inr (Or.inl rfl)) (Or.inl rfl)]; exact b8, by rw [hd _ _ (Or.inr (Or.inl rfl)) (Or.inr rfl)]; exact b9⟩, ⟨c1.fr f, c2, ⟨by rw [f.2.2]; exact c3, f.A c4, c5, c6, by rw [hd _ _ (Or.inr (Or.inl rfl)) (Or.inl rfl)]; exact c7, by rw [hd _ _ (Or.inr (Or.inl rfl)) (Or.inr rfl)]; exact c8⟩, h47, hh, n, l, us, hTe, ?_, hD.frX f hPX, hnd, hup, ⟨fun k hk => ?_, hus.2⟩, hgd, ?_, fun i hi => ?_⟩, ⟨by rw [hd _ _ (Or.inr (Or.inr rfl)) (Or.inl rfl)]; exact k4, by rw [hd _ _ (Or.inr (Or.inr rfl)) (Or.inr rfl)]; exact k5⟩, k6, k7⟩
    · rw [f.2.1 _ _ (hPX _ _ (Or.inr (Or.inr (Or.inr (Or.inr ⟨Or.inl rfl, rfl⟩)))))]
      exact hrt
    · rw [f.2.1 _ _ (hPX _ _ (Or.inr (Or.inr (Or.inl ⟨Or.inl rfl, by omega, by omega⟩))))]
      exact hus.1 k hk
    · rw [f.2.1 _ _ (hPX _ _ (Or.inr (Or.inr (Or.inr (Or.inr ⟨Or.inr rfl, rfl⟩)))))]
      exact hct
    · have := (hid i hi).1
      rw [f.2.1 _ _ (hPX _ _ (Or.inl ⟨Or.inl rfl, by omega, by omega⟩))]
      exact hkp i hi
end EBK
