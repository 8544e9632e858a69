/-! TREES OF THE REFERENCE: the last of the left neighbour comes -/
section RFA
variable {m b d x : Nat} {ρ : Nat → Nat} {M : g_M}
/-- a mark is set -/
theorem R_no.putm {n : Nat} {f v2 : Int} {X Y : List (Int × Int)} {v : Int × Int} {M1 : g_M} (hR : R_rw m b ρ M) (h : R_no ρ x n M f (X ++ v :: Y)) (hX : X.length < 10) (hM : M1 = g_wi M (ρ 52) (10 * (600 * x + n) + X.length) v2) : R_no ρ x n M1 f (X ++ (v.1, v2) :: Y) ∧ e_fr (R_nA ρ x n) M M1 := by
  have n52 : ∀ k ∈ R_fs, k ≠ 52 → ρ k ≠ ρ 52 := fun k hk h => hR.ne hk (by decide) h
  obtain ⟨h1, h2, h3, h4⟩ := h
  subst hM
  have hw : ∀ k ∈ R_fs, k ≠ 52 → ∀ q, g_i (g_wi M (ρ 52) (10 * (600 * x + n) + X.length) v2) (ρ k) q = g_i M (ρ k) q := fun k hk h q => by rw [g_i_wi, if_neg (fun z => n52 k hk h z.1)]
  refine ⟨⟨by rw [hw 49 (by decide) (by decide)]; exact h1, ?_, ?_, ?_⟩, e_fr.wi _ (Or.inl ⟨Or.inr rfl, by omega, by omega⟩)⟩
  · rw [hw 50 (by decide) (by decide), h2, List.length_append, List.length_append, List.length_cons, List.length_cons]
  · rw [List.map_append, List.map_cons] at h3 ⊢
    exact b_at_keep h3 fun q _ _ => hw 51 (by decide) (by decide) q
  · rw [List.map_append, List.map_cons] at h4 ⊢
    have hl2 : (X.map Prod.snd).length = X.length := List.length_map _
    refine b_at_put h4 (fun q hq => ?_) ?_
    · rw [g_i_wi, if_neg (fun z => hq (by rw [hl2]; exact z.2))]
    · rw [g_i_wi, if_pos ⟨rfl, by rw [hl2]⟩]
theorem e_fromAhead {Q : g_M → Prop} {n lf c : Nat} {A B pl pc : List (Int × Int)} {m1 m2 f0 fl fc w nx : Int} (hR : R_rw m b ρ M) (hx : x < 8) (hn : n < 600) (hlf : lf < 600) (hcc : c < 600) (d1 : n ≠ lf) (d2 : n ≠ c) (d3 : lf ≠ c) (h : R_no ρ x n M f0 (A ++ ((lf : Int), m1) :: ((c : Int), m2) :: B)) (hl0 : (A ++ ((lf : Int), m1) :: ((c : Int), m2) :: B).length ≤ 9) (hc0 : R_ps (A ++ ((lf : Int), m1) :: ((c : Int), m2) :: B)) (hL : R_no ρ x lf M fl (pl ++ [(w, nx)])) (hcL : R_ps (pl ++ [(w, nx)])) (hlL : pl.length ≤ 8) (hRr : R_no ρ x c M fc pc) (hcR : R_ps pc) (hlR : pc.length ≤ 8) (hpc : pc ≠ []) (hfc : fc = 0 ∨ fc = 1) (hq : ∀ M1, e_fr (R_C m ρ x (fun j => j = n ∨ j = lf ∨ j = c)) M M1 → R_no ρ x n M1 f0 (A ++ ((lf : Int), m1) :: ((c : Int), (if fc = 1 then w else nx)) :: B) → R_no ρ x lf M1 fl pl → R_no ρ x c M1 fc ((w, 0) :: (if fc = 1 then pc else R_hd m2 pc)) → (∀ q, g_i M1 (ρ 48) q = g_i M (ρ 48) q) → Q M1) : g_Call (d + 4) 380 [.ref m, g_n x, g_n n, g_n ((A.length + 1 : Nat) : Int)] M (g_qV Q) := by
  have hl0' := hl0
  rw [List.length_append, List.length_cons, List.length_cons] at hl0'
  have hwR : g_InR w := (hcL (w, nx) (by simp)).1
  have hnxR : g_InR nx := (hcL (w, nx) (by simp)).2
  have hm2R : g_InR m2 := (hc0 ((c : Int), m2) (by simp)).2
  have n8 : ∀ k ∈ R_fs, k ≠ 48 → ρ 48 ≠ ρ k := fun k hk h => hR.ne (by decide) hk (fun z => h z.symm)
  have h48 : ∀ {k : Nat} {M1 M2 : g_M}, e_fr (R_nA ρ x k) M1 M2 → ∀ q, g_i M2 (ρ 48) q = g_i M1 (ρ 48) q := by
    intro k M1 M2 f q
    refine f.2.1 _ _ fun z => ?_
    rcases z with ⟨z | z, -⟩ | ⟨z, -⟩
    · exact n8 51 (by decide) (by decide) z
    · exact n8 52 (by decide) (by decide) z
    · exact n8 50 (by decide) (by decide) z
  have hAl : ((A ++ [((lf : Int), m1)]).length : Int) = ((A.length + 1 : Nat) : Int) := by rw [List.length_append, List.length_singleton]
  have hat : R_at ρ x n M ((A ++ [((lf : Int), m1)]) ++ ((c : Int), m2) :: B) := by
    have := h.2.2
    simpa using this
  have hc1 := h.2.2.get.1
  have hc2 := hat.get.1
  rw [hAl] at hc2
  have hlg := R_at.get (Y := []) hL.2.2
  have hLs : g_i M (ρ 50) (600 * x + lf) = ((pl.length + 1 : Nat) : Int) := by rw [hL.2.1, List.length_append, List.length_singleton]
  have hk1 : ((A.length + 1 : Nat) : Int) - 1 = A.length := by omega
  have hs1 : ((pl.length + 1 : Nat) : Int) - 1 = pl.length := by omega
  obtain ⟨r1, r2⟩ := hR.at (k := 51) (by decide)
  have r2 : g_A M (ρ 51) 1 48000 := r2
  obtain ⟨s1, s2⟩ := hR.at (k := 52) (by decide)
  have s2 : g_A M (ρ 52) 1 48000 := s2
  refine m_X12_fromAhead ⟨by omega, by omega⟩ ⟨by omega, by omega⟩ ⟨by omega, by omega⟩ fun _ => ⟨hR.1.1, ρ 51, r1, ⟨by omega, by omega⟩, e_slot (d := d + 2) hx hn (by omega) (by omega) ?_⟩
  intro _ _ _
  refine ⟨48000, r2, ⟨by omega, by omega⟩, ρ 51, r1, e_slot (d := d + 2) hx hn (by omega) (by omega) ?_⟩
  intro _ _ _
  refine ⟨48000, r2, ⟨by omega, by omega⟩, ?_⟩
  rw [hk1, hc1, hc2]
  refine e_sizeOf (d := d + 2) hR hx hlf ?_
  intro _ _ _
  rw [hLs, hs1]
  refine ⟨⟨by omega, by omega⟩, ρ 51, r1, e_slot (d := d + 2) hx hlf (by omega) (by omega) ?_⟩
  intro _ _ _
  refine ⟨48000, r2, ⟨by omega, by omega⟩, ρ 52, s1, e_slot (d := d + 2) hx hlf (by omega) (by omega) ?_⟩
  intro _ _ _
  refine ⟨48000, s2, ⟨by omega, by omega⟩, ?_⟩
  rw [hlg.1, hlg.2]
  refine e_removeAt (d := d + 1) (A := pl) (B := []) hR hx hlf hL (by rw [List.length_append, List.length_singleton]; omega) hcL fun M49 f49 no49 => ?_
  intro _ _
  rw [List.append_nil] at no49
  have hR49 := hR.fr f49
  have hc49 : R_no ρ x c M49 fc pc := hRr.fr f49 (by omega) fun y q z => R_av1 hR (fun g => d3 g.symm) z
  have hn49 : R_no ρ x n M49 f0 (A ++ ((lf : Int), m1) :: ((c : Int), m2) :: B) := h.fr f49 (by omega) fun y q z => R_av1 hR d1 z
  have hins := e_insertAt (d := d + 1) (A := []) (B := pc) (v := w) (w := 0) (f := fc) (M := M49) (n := c) hR49 hx hcc hc49 (by rw [List.nil_append]; omega) hwR ⟨by decide, by decide⟩ hcR (Q := fun M52 => g_ext M49 M52 → g_ok M52 → g_Call (d + 3) 376 [.ref m, g_n x, g_n c] M52 (g_qI fun r58 M55 => g_ext M52 M55 → g_ok M55 → g_InR r58 → ((r58 = 0 → ∃ b60, g_r M55 m 52 = some b60 ∧ g_Call (d + 3) 369 [.ref m, g_n x, g_n c, g_n 1] M55 (g_qI fun r65 M62 => g_ext M55 M62 → g_ok M62 → g_InR r65 → ∃ b67, g_r M62 m 52 = some b67 ∧ g_Call (d + 3) 369 [.ref m, g_n x, g_n n, g_n ((A.length + 1 : Nat) : Int)] M62 (g_qI fun r72 M69 => g_ext M62 M69 → g_ok M69 → g_InR r72 → ∃ n74, g_A M69 b67 1 n74 ∧ ((0 : Int) ≤ r72 ∧ (r72 : Int) < n74) ∧ ∃ n77, g_A M69 b60 1 n77 ∧ ((0 : Int) ≤ r65 ∧ (r65 : Int) < n77) ∧ ∀ M80, M80 = g_wi M69 b60 r65 (g_i M69 b67 r72) → g_ok M80 → ∃ b84, g_r M80 m 52 = some b84 ∧ g_Call (d + 3) 369 [.ref m, g_n x, g_n n, g_n ((A.length + 1 : Nat) : Int)] M80 (g_qI fun r89 M86 => g_ext M80 M86 → g_ok M86 → g_InR r89 → ∃ n91, g_A M86 b84 1 n91 ∧ ((0 : Int) ≤ r89 ∧ (r89 : Int) < n91) ∧ ∀ M94, M94 = g_wi M86 b84 r89 nx → g_ok M94 → Q M94)))) ∧ (¬ r58 = 0 → ∃ b98, g_r M55 m 52 = some b98 ∧ g_Call (d + 3) 369 [.ref m, g_n x, g_n n, g_n ((A.length + 1 : Nat) : Int)] M55 (g_qI fun r103 M100 => g_ext M55 M100 → g_ok M100 → g_InR r103 → ∃ n105, g_A M100 b98 1 n105 ∧ ((0 : Int) ≤ r103 ∧ (r103 : Int) < n105) ∧ ∀ M108, M108 = g_wi M100 b98 r103 w → g_ok M108 → Q M108))))) fun M52 f52 no52 => ?_
  · exact hins
  intro _ _
  have no52 : R_no ρ x c M52 fc ((w, 0) :: pc) := no52
  have hR52 := hR49.fr f52
  have hn52 : R_no ρ x n M52 f0 ((A ++ [((lf : Int), m1)]) ++ ((c : Int), m2) :: B) := by
    have := hn49.fr f52 (by omega) fun y q z => R_av1 hR49 d2 z
    simpa using this
  have hL52 : R_no ρ x lf M52 fl pl := no49.fr f52 (by omega) fun y q z => R_av1 hR49 d3 z
  obtain ⟨t1, t2⟩ := hR52.at (k := 52) (by decide)
  have t2 : g_A M52 (ρ 52) 1 48000 := t2
  have F52 : e_fr (R_C m ρ x (fun j => j = n ∨ j = lf ∨ j = c)) M M52 := (f49.up fun y q z => R_C.A (A := fun j => j = n ∨ j = lf ∨ j = c) (Or.inr (Or.inl rfl)) z).tr (f52.up fun y q z => R_C.A (A := fun j => j = n ∨ j = lf ∨ j = c) (Or.inr (Or.inr rfl)) z)
  refine e_isLeafN (d := d + 2) hR52 hx hcc (by rw [no52.1]; exact hfc) ?_
  intro _ _ _
  rw [no52.1]
  refine ⟨fun z0 => ⟨ρ 52, t1, e_slot (d := d + 2) hx hcc (by decide) (by decide) ?_⟩, fun z0 => ⟨ρ 52, t1, e_slot (d := d + 2) hx hn (by omega) (by omega) ?_⟩⟩
  · intro _ _ _
    refine ⟨ρ 52, t1, e_slot (d := d + 2) hx hn (by omega) (by omega) ?_⟩
    intro _ _ _
    refine ⟨48000, t2, ⟨by omega, by omega⟩, 48000, t2, ⟨by omega, by omega⟩, ?_⟩
    have hmn := hn52.2.2.get.2
    rw [hAl] at hmn
    rw [hmn]
    intro M80 e80 _
    obtain ⟨p0, pc', rfl⟩ := List.exists_cons_of_ne_nil hpc
    rw [List.length_cons] at hlR
    obtain ⟨no80, f80⟩ := R_no.putm (X := [(w, 0)]) (Y := pc') (v := p0) (v2 := m2) (M1 := M80) hR52 no52 (show 1 < 10 by decide) e80
    have hR80 := hR52.fr f80
    have hn80 := hn52.fr f80 (by rw [List.length_append, List.length_append, List.length_singleton, List.length_cons]; omega) fun y q z => R_av1 hR52 d2 z
    have hL80 := hL52.fr f80 (by omega) fun y q z => R_av1 hR52 d3 z
    obtain ⟨u1, u2⟩ := hR80.at (k := 52) (by decide)
    have u2 : g_A M80 (ρ 52) 1 48000 := u2
    refine ⟨ρ 52, u1, e_slot (d := d + 2) hx hn (by omega) (by omega) ?_⟩
    intro _ _ _
    refine ⟨48000, u2, ⟨by omega, by omega⟩, fun M94 e94 _ => ?_⟩
    obtain ⟨no94, f94⟩ := R_no.putm (M1 := M94) (v2 := nx) hR80 hn80 (by rw [List.length_append, List.length_singleton]; omega) (by rw [hAl]; exact e94)
    have hf1 : ¬ fc = 1 := by omega
    refine hq M94 ((F52.tr (f80.up fun y q z => R_C.A (A := fun j => j = n ∨ j = lf ∨ j = c) (Or.inr (Or.inr rfl)) z)).tr (f94.up fun y q z => R_C.A (A := fun j => j = n ∨ j = lf ∨ j = c) (Or.inl rfl) z)) ?_ (hL80.fr f94 (by omega) fun y q z => R_av1 hR80 (fun g => d1 g.symm) z) ?_ fun q => by rw [h48 f94, h48 f80, h48 f52, h48 f49]
    · rw [if_neg hf1]
      simpa using no94
    · rw [if_neg hf1]
      exact no80.fr f94 (by rw [List.length_append, List.length_singleton, List.length_cons]; omega) fun y q z => R_av1 hR80 (fun g => d2 g.symm) z
  · intro _ _ _
    refine ⟨48000, t2, ⟨by omega, by omega⟩, fun M108 e108 _ => ?_⟩
    obtain ⟨no108, f108⟩ := R_no.putm (M1 := M108) (v2 := w) hR52 hn52 (by rw [List.length_append, List.length_singleton]; omega) (by rw [hAl]; exact e108)
    have hf1 : fc = 1 := hfc.resolve_left z0
    refine hq M108 (F52.tr (f108.up fun y q z => R_C.A (A := fun j => j = n ∨ j = lf ∨ j = c) (Or.inl rfl) z)) ?_ (hL52.fr f108 (by omega) fun y q z => R_av1 hR52 (fun g => d1 g.symm) z) ?_ fun q => by rw [h48 f108, h48 f52, h48 f49]
    · rw [if_pos hf1]
      simpa using no108
    · rw [if_pos hf1]
      exact no52.fr f108 (by rw [List.length_cons]; omega) fun y q z => R_av1 hR52 (fun g => d2 g.symm) z
end RFA
