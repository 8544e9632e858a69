/-! TREES OF THE REFERENCE: what keeps a tree; the keys of a document stand -/
/-- the places that tell of the tree of index x -/
def R_PX (b : Nat) (ρ : Nat → Nat) (x : Nat) (y : Nat) (q : Int) : Prop := ((y = ρ 45 ∨ y = ρ 46) ∧ 1500 * (x : Int) ≤ q ∧ q < 1500 * x + 1500) ∨ (y = b ∧ 1014000 + 198000 * (x : Int) ≤ q ∧ q < 1014000 + 198000 * x + 198000) ∨ ((y = ρ 48 ∨ y = ρ 49 ∨ y = ρ 50) ∧ 600 * (x : Int) ≤ q ∧ q < 600 * x + 600) ∨ ((y = ρ 51 ∨ y = ρ 52) ∧ 6000 * (x : Int) ≤ q ∧ q < 6000 * x + 6000) ∨ ((y = ρ 53 ∨ y = ρ 54) ∧ q = x)
def R_EF (m b l : Nat) (ρ : Nat → Nat) (x : Nat) (y : Nat) (q : Int) : Prop := E_le m l y q ∨ R_EA m b ρ x y q
section RFX
variable {m b l d x dn : Nat} {ρ : Nat → Nat} {M M1 : g_M} {w1 w2 : Int} {T : N_T I_E}
theorem R_e.frX {S : Nat → Int → Prop} {s : Nat} {e : I_E} (h : R_e b ρ x s M e) (f : e_fr S M M1) (hS : ∀ y q, R_PX b ρ x y q → ¬ S y q) : R_e b ρ x s M1 e := by
  obtain ⟨h1, h2, h3, h4, h5, h6⟩ := h
  have l1 := b_el_len e.1.1 [] e.1.2
  have l2 := b_el_len e.2.1.1 [] e.2.1.2
  rw [List.length_nil] at l1 l2
  have g2 := h5.1.2
  have g4 := h5.2.1.2
  have hby : ∀ q, R_kp x s ≤ q → q < R_kp x s + 132 → g_i M1 b q = g_i M b q := fun q q1 q2 => f.2.1 b q (hS b q (Or.inr (Or.inl (by
    unfold R_kp at q1 q2
    exact ⟨rfl, by omega, by omega⟩))))
  refine ⟨h1, b_at_keep h2 fun q q1 q2 => hby q (by omega) (by omega), b_at_keep h3 fun q q1 q2 => hby q (by omega) (by omega), ?_, h5, h6⟩
  rw [f.2.1 (ρ 46) _ (hS _ _ (Or.inl ⟨Or.inr rfl, by omega, by omega⟩))]
  exact h4
theorem R_D.frX {S : Nat → Int → Prop} (f : e_fr S M M1) (hS : ∀ y q, R_PX b ρ x y q → ¬ S y q) : ∀ {h n : Nat} {l : List (N_i V_W h)}, R_D b ρ x M h n l → R_D b ρ x M1 h n l := by
  have hno : ∀ {n : Nat} {ff : Int} {ps : List (Int × Int)}, n < 600 → R_no ρ x n M ff ps → ps.length ≤ 10 → R_no ρ x n M1 ff ps := fun hn h1 h2 => h1.fr f h2 fun y q z => hS y q (by
    rcases z with (⟨z1, z2, z3⟩ | ⟨z1, z2⟩) | ⟨z1, z2⟩
    · exact Or.inr (Or.inr (Or.inr (Or.inl ⟨z1, by omega, by omega⟩)))
    · exact Or.inr (Or.inr (Or.inl ⟨Or.inr (Or.inr z1), by omega, by omega⟩))
    · exact Or.inr (Or.inr (Or.inl ⟨Or.inr (Or.inl z1), by omega, by omega⟩)))
  intro h
  induction h with
  | zero =>
    intro n l hD
    obtain ⟨a1, a2, ⟨ps, p1, p2, p3⟩, a4⟩ := R_D_0.mp hD
    have hpl := R_ps_len (n := n) (f := 0) p3
    rw [List.length_map] at hpl
    exact R_D_0.mpr ⟨a1, a2, ⟨ps, hno a1 p1 (by omega), p2, p3⟩, fun y hy => (a4 y hy).frX f hS⟩
  | succ h ih =>
    intro n l hD
    obtain ⟨a1, a2, ⟨ps, p1, p2, p3, p4⟩, a4, a5⟩ := R_D_s.mp hD
    have hpl := R_ps_len (n := n) (f := 0) p3
    rw [List.length_map] at hpl
    exact R_D_s.mpr ⟨a1, a2, ⟨ps, hno a1 p1 (by omega), p2, p3, p4⟩, fun y hy => (a4 y hy).frX f hS, fun y hy => ih (a5 y hy)⟩
theorem R_Tr.frX {S : Nat → Int → Prop} (h : R_Tr m b ρ x dn w1 w2 T M) (f : e_fr S M M1) (hS : ∀ y q, R_PX b ρ x y q → ¬ S y q) (hd : ∀ q, ¬ S dn q) (h47 : g_i M1 m 47 = -1) : R_Tr m b ρ x dn w1 w2 T M1 := by
  obtain ⟨hR, hx, ⟨e1, e2, e3, e4, e5, e6⟩, -, hh, n, l, us, hTe, hrt, hD, hnd, hup, hus, hgd, hct, hkp⟩ := h
  have hid := (R_D_ids hD).2
  refine ⟨hR.fr f, hx, ⟨by rw [f.2.2]; exact e1, f.A e2, e3, e4, by rw [f.2.1 dn _ (hd _)]; exact e5, by rw [f.2.1 dn _ (hd _)]; exact e6⟩, h47, hh, n, l, us, hTe, ?_, hD.frX f hS, hnd, hup, ⟨fun k hk => ?_, hus.2⟩, hgd, ?_, fun i hi => ?_⟩
  · rw [f.2.1 _ _ (hS _ _ (Or.inr (Or.inr (Or.inr (Or.inr ⟨Or.inl rfl, rfl⟩)))))]
    exact hrt
  · rw [f.2.1 _ _ (hS _ _ (Or.inr (Or.inr (Or.inl ⟨Or.inl rfl, by omega, by omega⟩))))]
    exact hus.1 k hk
  · rw [f.2.1 _ _ (hS _ _ (Or.inr (Or.inr (Or.inr (Or.inr ⟨Or.inr rfl, rfl⟩)))))]
    exact hct
  · have := (hid i hi).1
    rw [f.2.1 _ _ (hS _ _ (Or.inl ⟨Or.inl rfl, by omega, by omega⟩))]
    exact hkp i hi
/-- rows of the trees and other rows -/
theorem R_rw.nA (hR : R_rw m b ρ M) {a : Nat} {t : Nat} {n : Int} (ha : g_A M a t n) {k : Nat} (hk : k ∈ R_fs) (hn : t ≠ R_ty k ∨ n ≠ R_ln k) : a ≠ ρ k := fun z => by
  subst z
  have h := ((hR.at hk).2).fn ha
  rcases hn with g | g
  · exact g h.1.symm
  · exact g h.2.symm
theorem R_ln_le {k : Nat} (hk : k ∈ R_fs) : R_ln k ≤ 48000 ∧ R_ln k ≠ 16 ∧ R_ln k ≠ 200 ∧ R_ln k ≠ 400 ∧ R_ln k ≠ 2 := by
  have : ∀ k ∈ R_fs, R_ln k ≤ 48000 ∧ R_ln k ≠ 16 ∧ R_ln k ≠ 200 ∧ R_ln k ≠ 400 ∧ R_ln k ≠ 2 := by decide
  exact this k hk
theorem R_PX_y (hR : R_rw m b ρ M) {y : Nat} {q : Int} (h : R_PX b ρ x y q) : y = b ∨ ∃ k ∈ R_fs, y = ρ k := by
  rcases h with ⟨z | z, -⟩ | ⟨z, -⟩ | ⟨z | z | z, -⟩ | ⟨z | z, -⟩ | ⟨z | z, -⟩
  · exact Or.inr ⟨45, by decide, z⟩
  · exact Or.inr ⟨46, by decide, z⟩
  · exact Or.inl z
  · exact Or.inr ⟨48, by decide, z⟩
  · exact Or.inr ⟨49, by decide, z⟩
  · exact Or.inr ⟨50, by decide, z⟩
  · exact Or.inr ⟨51, by decide, z⟩
  · exact Or.inr ⟨52, by decide, z⟩
  · exact Or.inr ⟨53, by decide, z⟩
  · exact Or.inr ⟨54, by decide, z⟩
theorem R_PX_le (hR : R_rw m b ρ M) (hl : g_A M l 1 80000) (hlb : l ≠ b) {y : Nat} {q : Int} (h : R_PX b ρ x y q) : ¬ E_le m l y q := by
  have hm : y ≠ m := fun z => by
    rcases R_PX_y hR h with g | ⟨k, hk, g⟩
    · exact g_neOA hR.1.1 hR.1.2.2 (z.symm.trans g)
    · exact hR.nm hk (g.symm.trans z)
  have hl2 : y ≠ l := fun z => by
    rcases R_PX_y hR h with g | ⟨k, hk, g⟩
    · exact hlb (z.symm.trans g)
    · exact hR.nA hl hk (Or.inr (by have := (R_ln_le hk).1; omega)) (z.symm.trans g)
  rintro (z | z)
  · exact hl2 z
  · exact hm z.1
theorem R_PX_EA {x2 : Nat} (hR : R_rw m b ρ M) (hxx : x ≠ x2) {y : Nat} {q : Int} (h : R_PX b ρ x y q) : ¬ R_EA m b ρ x2 y q := by
  have hm : y ≠ m := fun z => by
    rcases R_PX_y hR h with g | ⟨k, hk, g⟩
    · exact g_neOA hR.1.1 hR.1.2.2 (z.symm.trans g)
    · exact hR.nm hk (g.symm.trans z)
  have key : ∀ i ∈ R_fs, ∀ j ∈ R_fs, y = ρ i → y = ρ j → i = j := fun i hi j hj g1 g2 => hR.2.2 i hi j hj (g1.symm.trans g2)
  have hby : ∀ i ∈ R_fs, y = b → y ≠ ρ i := fun i hi g1 g2 => hR.nb hi (g2.symm.trans g1)
  intro h2
  have hcl : ∀ i ∈ R_fs, y = ρ i → ((i = 45 ∨ i = 46) ∧ 1500 * (x2 : Int) ≤ q ∧ q < 1500 * x2 + 1500) ∨ ((i = 48 ∨ i = 49 ∨ i = 50) ∧ 600 * (x2 : Int) ≤ q ∧ q < 600 * x2 + 600) ∨ ((i = 51 ∨ i = 52) ∧ 6000 * (x2 : Int) ≤ q ∧ q < 6000 * x2 + 6000) ∨ ((i = 53 ∨ i = 54) ∧ q = x2) := fun i hi g => by
    rcases h2 with ⟨z, z1, z2⟩ | ⟨z, z1, z2⟩ | ⟨z, -⟩ | ⟨z, -⟩ | ⟨z | z | z, z1, z2⟩ | ⟨z | z, z1, z2⟩ | ⟨z | z, z1⟩
    · exact Or.inl ⟨Or.inl (key i hi 45 (by decide) g z), z1, z2⟩
    · exact Or.inl ⟨Or.inr (key i hi 46 (by decide) g z), z1, z2⟩
    · exact absurd z hm
    · exact absurd g (hby i hi z)
    · exact Or.inr (Or.inl ⟨Or.inl (key i hi 48 (by decide) g z), z1, z2⟩)
    · exact Or.inr (Or.inl ⟨Or.inr (Or.inl (key i hi 49 (by decide) g z)), z1, z2⟩)
    · exact Or.inr (Or.inl ⟨Or.inr (Or.inr (key i hi 50 (by decide) g z)), z1, z2⟩)
    · exact Or.inr (Or.inr (Or.inl ⟨Or.inl (key i hi 51 (by decide) g z), z1, z2⟩))
    · exact Or.inr (Or.inr (Or.inl ⟨Or.inr (key i hi 52 (by decide) g z), z1, z2⟩))
    · exact Or.inr (Or.inr (Or.inr ⟨Or.inl (key i hi 53 (by decide) g z), z1⟩))
    · exact Or.inr (Or.inr (Or.inr ⟨Or.inr (key i hi 54 (by decide) g z), z1⟩))
  rcases h with ⟨z | z, z1, z2⟩ | ⟨z, z1, z2⟩ | ⟨z | z | z, z1, z2⟩ | ⟨z | z, z1, z2⟩ | ⟨z | z, z1⟩
  · have := hcl 45 (by decide) z
    omega
  · have := hcl 46 (by decide) z
    omega
  · rcases h2 with ⟨z3, -⟩ | ⟨z3, -⟩ | ⟨z3, -⟩ | ⟨-, z3, z4⟩ | ⟨z3 | z3 | z3, -⟩ | ⟨z3 | z3, -⟩ | ⟨z3 | z3, -⟩
    · exact hby 45 (by decide) z z3
    · exact hby 46 (by decide) z z3
    · exact hm z3
    · omega
    · exact hby 48 (by decide) z z3
    · exact hby 49 (by decide) z z3
    · exact hby 50 (by decide) z z3
    · exact hby 51 (by decide) z z3
    · exact hby 52 (by decide) z z3
    · exact hby 53 (by decide) z z3
    · exact hby 54 (by decide) z z3
  · have := hcl 48 (by decide) z
    omega
  · have := hcl 49 (by decide) z
    omega
  · have := hcl 50 (by decide) z
    omega
  · have := hcl 51 (by decide) z
    omega
  · have := hcl 52 (by decide) z
    omega
  · have := hcl 53 (by decide) z
    omega
  · have := hcl 54 (by decide) z
    omega
/-- what else an index's work leaves as it is -/
theorem R_EF_n (hR : R_rw m b ρ M) {a : Nat} (h1 : a ≠ l) (h2 : a ≠ m) (h3 : a ≠ b) (h4 : ∀ k ∈ R_fs, a ≠ ρ k) {q : Int} : ¬ R_EF m b l ρ x a q := by
  rintro ((z | ⟨z, -⟩) | z)
  · exact h1 z
  · exact h2 z
  · rcases z with ⟨z, -⟩ | ⟨z, -⟩ | ⟨z, -⟩ | ⟨z, -⟩ | ⟨z | z | z, -⟩ | ⟨z | z, -⟩ | ⟨z | z, -⟩
    · exact h4 45 (by decide) z
    · exact h4 46 (by decide) z
    · exact h2 z
    · exact h3 z
    · exact h4 48 (by decide) z
    · exact h4 49 (by decide) z
    · exact h4 50 (by decide) z
    · exact h4 51 (by decide) z
    · exact h4 52 (by decide) z
    · exact h4 53 (by decide) z
    · exact h4 54 (by decide) z
theorem R_EF_m (hR : R_rw m b ρ M) (hl : g_A M l 1 80000) {q : Int} (h : R_EF m b l ρ x m q) : (q = 10 ∨ q = 40 ∨ q = 41 ∨ q = 42 ∨ q = 43 ∨ q = 44) ∨ q = 4 ∨ q = 5 ∨ q = 6 ∨ q = 47 ∨ q = 55 ∨ q = 56 := by
  have hnm : ∀ {k : Nat}, k ∈ R_fs → m ≠ ρ k := fun hk z => hR.nm hk z.symm
  rcases h with (z | ⟨-, z⟩) | z
  · exact absurd z (g_neOA hR.1.1 hl)
  · exact Or.inl z
  · rcases z with ⟨z, -⟩ | ⟨z, -⟩ | ⟨-, z⟩ | ⟨z, -⟩ | ⟨z | z | z, -⟩ | ⟨z | z, -⟩ | ⟨z | z, -⟩
    · exact absurd z (hnm (by decide))
    · exact absurd z (hnm (by decide))
    · exact Or.inr z
    · exact absurd z (g_neOA hR.1.1 hR.1.2.2)
    · exact absurd z (hnm (by decide))
    · exact absurd z (hnm (by decide))
    · exact absurd z (hnm (by decide))
    · exact absurd z (hnm (by decide))
    · exact absurd z (hnm (by decide))
    · exact absurd z (hnm (by decide))
    · exact absurd z (hnm (by decide))
theorem R_EF_b (hR : R_rw m b ρ M) (hlb : l ≠ b) {q : Int} (h : R_EF m b l ρ x b q) : 1014000 + 198000 * (x : Int) ≤ q ∧ q < 1014000 + 198000 * x + 198000 := by
  have hnb : ∀ {k : Nat}, k ∈ R_fs → b ≠ ρ k := fun hk z => hR.nb hk z.symm
  have hmb : m ≠ b := g_neOA hR.1.1 hR.1.2.2
  rcases h with (z | ⟨z, -⟩) | z
  · exact absurd z.symm hlb
  · exact absurd z.symm hmb
  · rcases z with ⟨z, -⟩ | ⟨z, -⟩ | ⟨z, -⟩ | ⟨-, z⟩ | ⟨z | z | z, -⟩ | ⟨z | z, -⟩ | ⟨z | z, -⟩
    · exact absurd z (hnb (by decide))
    · exact absurd z (hnb (by decide))
    · exact absurd z.symm hmb
    · exact z
    · exact absurd z (hnb (by decide))
    · exact absurd z (hnb (by decide))
    · exact absurd z (hnb (by decide))
    · exact absurd z (hnb (by decide))
    · exact absurd z (hnb (by decide))
    · exact absurd z (hnb (by decide))
    · exact absurd z (hnb (by decide))
theorem R_Tr.oth {x2 : Nat} (h : R_Tr m b ρ x dn w1 w2 T M) (hxx : x ≠ x2) (hl : g_A M l 1 80000) (hlb : l ≠ b) (f : e_fr (R_EF m b l ρ x2) M M1) (h47 : g_i M1 m 47 = -1) : R_Tr m b ρ x dn w1 w2 T M1 := by
  have hR := h.1
  have hw := h.2.2.1
  refine h.frX f (fun y q z g => g.elim (R_PX_le hR hl hlb z) (R_PX_EA hR hxx z)) (fun q => R_EF_n hR (fun z => ?_) (fun z => g_neOA hR.1.1 hw.2.1 z.symm) (fun z => ?_) fun k hk => hR.nA hw.2.1 hk (Or.inr fun z => (R_ln_le hk).2.1 z.symm)) h47
  · subst z
    exact absurd (hw.2.1.fn hl).1 (by decide)
  · subst z
    exact absurd (hw.2.1.fn hR.1.2.2).1 (by decide)
end RFX
section RKY
variable {F F2 : Int → Int}
/-- keys stand below 922000 -/
def R_ky (F : Int → Int) (u : Option (Int × b_E)) : Prop := ∀ z, u = some z → b_st F 922000 z.1 16 z.2.1 z.2.2.1 z.2.2.2
theorem I_cs_ky {D : Nat} {ls : List (Option (Int × b_E))} (hD : D ≤ 16) (hst : ∀ y, some y ∈ ls → b_st F 922000 y.1 D y.2.1 y.2.2.1 y.2.2.2) : ∀ y ∈ I_cs ls, R_ky F y := by
  intro y hy
  unfold I_cs at hy
  split at hy
  · rw [List.mem_singleton.mp hy]
    exact fun z hz => absurd hz (by simp)
  · obtain ⟨u, hu, hy⟩ := List.mem_flatMap.mp hy
    rcases u with _ | u
    · rw [List.mem_singleton.mp hy]
      exact fun z hz => absurd hz (by simp)
    · change y ∈ (if u.2.1 = 4 then (if L_ch u.1 u.2 = [] then [none] else (L_ch u.1 u.2).map some) else [some u] : List (Option (Int × b_E))) at hy
      have hs := hst u hu
      split at hy
      · rename_i h4
        split at hy
        · rw [List.mem_singleton.mp hy]
          exact fun z hz => absurd hz (by simp)
        · obtain ⟨D1, eD, hkids, -⟩ := hs.kids (Or.inr h4)
          obtain ⟨z, hz, rfl⟩ := List.mem_map.mp hy
          intro w hw
          cases hw
          exact (L_at_st hkids z hz).1.le (by omega)
      · rw [List.mem_singleton.mp hy]
        intro w hw
        cases hw
        exact hs.le hD
theorem I_u_ky {es : List b_E} {c : Int} {st : List (List Int)} (hct : E_ct F c 15 es) : ∀ u ∈ I_u c es st, R_ky F u := by
  intro u hu
  refine I_cs_ky (D := 15) (by decide) (fun y hy => ?_) u (I_un_mem2 hu)
  rcases st with _ | ⟨s, r⟩
  · exact absurd hy (by simp [L_doc])
  · change some y ∈ (match L_find s (L_at (c + 4) es) with
      | none => [none]
      | some z => L_go 15 z.1 z.2 r) at hy
    rcases hf : L_find s (L_at (c + 4) es) with _ | z
    · rw [hf] at hy
      exact absurd hy (by simp)
    · rw [hf] at hy
      exact (L_go_st 15 (L_at_st hct.sts z (L_find_mem hf).1).1 y hy).1
theorem I_u2_ky {V : I_V} {es : List b_E} {c : Int} (hct : E_ct F c 15 es) : ∀ u ∈ I_u2 V c es, R_ky F u := by
  intro u hu
  unfold I_u2 at hu
  split at hu
  · rw [List.mem_singleton.mp hu]
    exact fun z hz => absurd hz (by simp)
  · exact I_u_ky hct u hu
theorem R_ky.at {u : Option (Int × b_E)} (h : R_ky F u) : O_at F 2706210 u := fun z hz => by
  obtain ⟨a1, a2, a3, a4, a5⟩ := (h z hz).le (show 16 ≤ 20 by decide)
  exact ⟨a1, a2, a3, a4, by omega⟩
theorem R_ky.st {u : Option (Int × b_E)} (h : R_ky F u) (hno : b_at F 2706200 [10, 0]) (hF : ∀ k, k < 1014000 ∨ 2598000 ≤ k → F2 k = F k) : ∃ D k nm vb, b_st F2 2706210 (L_on 2706200 u) D k nm vb ∧ I_ko u = (k, vb) ∧ (L_on 2706200 u + (b_el k nm vb).length ≤ 1014000 ∨ 2598000 ≤ L_on 2706200 u) := by
  rcases u with _ | z
  · exact ⟨20, 10, [], [], b_st_no (b_at_keep hno fun q q1 q2 => hF q (Or.inr (by omega))) (by decide) (by decide) 20, rfl, Or.inr (by decide)⟩
  · have h1 := h z rfl
    have h2 := h1.2.2.2.2
    exact ⟨16, z.2.1, z.2.2.1, z.2.2.2, h1.upW fun k hk => hF k (Or.inl (by omega)), rfl, Or.inl (by show z.1 + _ ≤ _; omega)⟩
theorem I_ar_mem {w : Int} {U : List (Option (Int × b_E))} {u : Option (Int × b_E)} (h : u ∈ I_ar w U) : u ∈ U := I_rv_mem (List.mem_reverse.mp h)
end RKY
