/-! REQUESTS: what an update makes of a shelf and its indexes -/
noncomputable def U_qs (hd : List b_E → Bool) (qc : Int) (cs : List b_E) (qs : List (Nat × Int × List b_E)) : List (Nat × Int × List b_E) := qs.map fun z => (z.1, z.2.1, U_nd hd qc cs z.2.2)
noncomputable def U_z1 (hd : List b_E → Bool) (qc : Int) (cs : List b_E) (qs : List (Nat × Int × List b_E)) : List Q_z := qs.map fun z => (U_al hd qc cs z.2.2, z)
noncomputable def U_z2 (hd : List b_E → Bool) (qc : Int) (cs : List b_E) (qs : List (Nat × Int × List b_E)) : List Q_z := qs.map fun z => (U_al hd qc cs z.2.2, z.1, z.2.1, U_nd hd qc cs z.2.2)
section UPP
variable {hd : List b_E → Bool} {qc : Int} {cs : List b_E} {qs : List (Nat × Int × List b_E)} {st : Nat → I_T} {w : Nat}
theorem U_z1_2 (qs : List (Nat × Int × List b_E)) : ((U_z1 hd qc cs qs).map fun z => z.2) = qs := by
  unfold U_z1
  rw [List.map_map]
  exact List.map_id qs
theorem U_z2_2 (qs : List (Nat × Int × List b_E)) : ((U_z2 hd qc cs qs).map fun z => z.2) = U_qs hd qc cs qs := by
  unfold U_z2 U_qs
  rw [List.map_map]
  rfl
theorem U_z_k : ∀ qs : List (Nat × Int × List b_E), (∀ z ∈ qs, U_al hd qc cs z.2.2 = false → U_nd hd qc cs z.2.2 = z.2.2) → Z_k (Q_3 (U_z2 hd qc cs qs)) = Z_k (Q_3 (U_z1 hd qc cs qs)) := by
  intro qs
  induction qs with
  | nil => exact fun _ => rfl
  | cons z l ih =>
    intro h
    have e1 : Q_3 (U_z2 hd qc cs (z :: l)) = (U_al hd qc cs z.2.2, z.2.1, U_nd hd qc cs z.2.2) :: Q_3 (U_z2 hd qc cs l) := rfl
    have e2 : Q_3 (U_z1 hd qc cs (z :: l)) = (U_al hd qc cs z.2.2, z.2.1, z.2.2) :: Q_3 (U_z1 hd qc cs l) := rfl
    rw [e1, e2, Z_k_c, Z_k_c, ih fun y hy => h y (List.mem_cons_of_mem _ hy)]
    show (if U_al hd qc cs z.2.2 = true then [] else [(z.2.1, U_nd hd qc cs z.2.2)]) ++ _ = (if U_al hd qc cs z.2.2 = true then [] else [(z.2.1, z.2.2)]) ++ _
    by_cases g : U_al hd qc cs z.2.2 = true
    · rw [if_pos g, if_pos g]
    · rw [if_neg g, if_neg g, h z List.mem_cons_self (Bool.eq_false_iff.mpr g)]
theorem U_k6 : ∀ qs : List (Nat × Int × List b_E), (S_sum ((U_qs hd qc cs qs).map fun z => z.2.2) : Int) = (S_sum (qs.map fun z => z.2.2) : Int) + U_sm (U_dl hd qc cs) (qs.map fun z => z.2.2) := by
  intro qs
  induction qs with
  | nil => rfl
  | cons z l ih =>
    have e1 : ((U_qs hd qc cs (z :: l)).map fun z => z.2.2) = U_nd hd qc cs z.2.2 :: (U_qs hd qc cs l).map fun z => z.2.2 := rfl
    rw [e1, List.map_cons, S_sum_c, S_sum_c]
    show (((b_doc (U_nd hd qc cs z.2.2)).length + S_sum ((U_qs hd qc cs l).map fun z => z.2.2) : Nat) : Int) = _ + (U_dl hd qc cs z.2.2 + U_sm (U_dl hd qc cs) (l.map fun z => z.2.2))
    unfold U_dl at ih ⊢
    omega
theorem U_k54 {V : I_V} {T : N_T I_E} {m1 m2 : Int} : ∀ qs : List (Nat × Int × List b_E), (∀ z ∈ qs, U_al hd qc cs z.2.2 = false → U_nd hd qc cs z.2.2 = z.2.2) → (((((U_qs hd qc cs qs).map fun z => z.2.2).map (U_nE V)).sum : Nat) : Int) = ((((qs.map fun z => z.2.2).map (U_nE V)).sum : Nat) : Int) + U_sm (U_d2 hd qc cs (some (V, T, m1, m2))) (qs.map fun z => z.2.2) := by
  intro qs
  induction qs with
  | nil => exact fun _ => rfl
  | cons z l ih =>
    intro h
    have ih := ih fun y hy => h y (List.mem_cons_of_mem _ hy)
    have e1 : ((U_qs hd qc cs (z :: l)).map fun z => z.2.2) = U_nd hd qc cs z.2.2 :: (U_qs hd qc cs l).map fun z => z.2.2 := rfl
    rw [e1, List.map_cons, List.map_cons, List.map_cons, List.sum_cons, List.sum_cons]
    have e2 : U_d2 hd qc cs (some (V, T, m1, m2)) z.2.2 = (U_nE V (U_nd hd qc cs z.2.2) : Int) - U_nE V z.2.2 := by
      unfold U_d2
      by_cases g : U_al hd qc cs z.2.2 = true
      · rw [if_pos g]
        rfl
      · rw [if_neg g, h z List.mem_cons_self (Bool.eq_false_iff.mpr g)]
        omega
    show _ = _ + (U_d2 hd qc cs (some (V, T, m1, m2)) z.2.2 + U_sm (U_d2 hd qc cs (some (V, T, m1, m2))) (l.map fun z => z.2.2))
    rw [e2]
    omega
theorem U_gd (hc : U_cs cs) (h0 : ∀ z ∈ qs, hd z.2.2 = true → (U_R (-1) qc cs z.2.2).1.1 = 0) (hg : H_gd (R_dn qs)) : H_gd (R_dn (U_qs hd qc cs qs)) ∧ ∀ z ∈ qs, U_al hd qc cs z.2.2 = false → U_nd hd qc cs z.2.2 = z.2.2 := by
  obtain ⟨g1, g2⟩ := hg
  have hk : ∀ z ∈ qs, g_InR z.2.1 ∧ (b_doc z.2.2).length ≤ 2000 ∧ X_gd 15 z.2.2 := fun z hz => g2 z.2 (List.mem_map.mpr ⟨z, hz, rfl⟩)
  refine ⟨⟨?_, fun y hy => ?_⟩, fun z hz g => ?_⟩
  · have e1 : (R_dn (U_qs hd qc cs qs)).map Prod.fst = (R_dn qs).map Prod.fst := by
      unfold R_dn U_qs
      rw [List.map_map, List.map_map, List.map_map]
      rfl
    rw [e1]
    exact g1
  · unfold R_dn U_qs at hy
    rw [List.map_map] at hy
    obtain ⟨z, hz, rfl⟩ := List.mem_map.mp hy
    obtain ⟨k1, k2, k3⟩ := hk z hz
    obtain ⟨n1, n2, -⟩ := U_nd_ok (hd := hd) hc k3 k2 (h0 z hz)
    exact ⟨k1, n2, n1⟩
  · obtain ⟨k1, k2, k3⟩ := hk z hz
    exact (U_nd_ok (hd := hd) hc k3 k2 (h0 z hz)).2.2 g
/-- all fits -/
def U_Fit (hd : List b_E → Bool) (qc : Int) (cs : List b_E) (st : Nat → I_T) (w : Nat) (qs : List (Nat × Int × List b_E)) : Prop := S_sum ((U_qs hd qc cs qs).map fun z => z.2.2) ≤ 40000 ∧ ∀ x, 4 * w ≤ x → x < 4 * w + 4 → ∀ V T m1 m2, st x = some (V, T, m1, m2) → (((U_qs hd qc cs qs).map fun z => z.2.2).map (I_num V)).sum ≤ 1000
theorem U_lgs_iff {nd : List b_E} : U_lgs st w 4 nd = true ↔ ∃ x, 4 * w ≤ x ∧ x < 4 * w + 4 ∧ U_lg (st x) nd = true := by
  unfold U_lgs
  rw [List.any_eq_true]
  constructor
  · rintro ⟨k, hk, e⟩
    have := List.mem_range.mp hk
    exact ⟨4 * w + k, by omega, by omega, e⟩
  · rintro ⟨x, x1, x2, e⟩
    refine ⟨x - 4 * w, List.mem_range.mpr (by omega), ?_⟩
    rw [show 4 * w + (x - 4 * w) = x by omega]
    exact e
theorem I_num_0 {V : I_V} {ds : List (List b_E)} : (ds.map (I_num V)).sum ≤ 1000 ↔ (∀ es ∈ ds, I_long V es = false) ∧ (ds.map (U_nE V)).sum ≤ 1000 := by
  have h2 := @I_num_le V ds 0
  rw [Nat.zero_add, Nat.zero_add] at h2
  exact h2
theorem I_ok.cnt {V : I_V} {T : N_T I_E} (h : I_ok V (R_dn qs) T) : (N_all T).length = ((qs.map fun z => z.2.2).map (U_nE V)).sum := by
  rw [h.2.2.1.length_eq, I_all_len]
  have h1 : (R_dn qs).map Prod.snd = qs.map fun z => z.2.2 := by
    unfold R_dn
    rw [List.map_map]
    rfl
  rw [h1]
  rfl
theorem U_fit_iff {k6 : Int} {c : Nat → Int} (hsame : ∀ z ∈ qs, U_al hd qc cs z.2.2 = false → U_nd hd qc cs z.2.2 = z.2.2) (hok : ∀ x, 4 * w ≤ x → x < 4 * w + 4 → ∀ V T m1 m2, st x = some (V, T, m1, m2) → I_ok V (R_dn qs) T) (h6 : k6 = (S_sum (qs.map fun z => z.2.2) : Int) + U_sm (U_dl hd qc cs) (qs.map fun z => z.2.2)) (hc : ∀ x, 4 * w ≤ x → x < 4 * w + 4 → ∀ V T m1 m2, st x = some (V, T, m1, m2) → c x = ((N_all T).length : Int) + U_sm (U_d2 hd qc cs (st x)) (qs.map fun z => z.2.2)) : ((k6 ≤ 40000 ∧ qs.any (U_lg1 hd qc cs st w) = false) ∧ ∀ x, 4 * w ≤ x → x < 4 * w + 4 → st x ≠ none → c x ≤ 1000) ↔ U_Fit hd qc cs st w qs := by
  have e6 := U_k6 (hd := hd) (qc := qc) (cs := cs) qs
  have ec : ∀ x, 4 * w ≤ x → x < 4 * w + 4 → ∀ V T m1 m2, st x = some (V, T, m1, m2) → c x = (((((U_qs hd qc cs qs).map fun z => z.2.2).map (U_nE V)).sum : Nat) : Int) := fun x x1 x2 V T m1 m2 e => by
    rw [hc x x1 x2 V T m1 m2 e, (hok x x1 x2 V T m1 m2 e).cnt, e, U_k54 qs hsame]
  have hmem : ∀ es ∈ (U_qs hd qc cs qs).map (fun z => z.2.2), ∃ z ∈ qs, es = U_nd hd qc cs z.2.2 := fun es he => by
    unfold U_qs at he
    rw [List.map_map] at he
    obtain ⟨z, hz, rfl⟩ := List.mem_map.mp he
    exact ⟨z, hz, rfl⟩
  constructor
  · rintro ⟨⟨a1, a2⟩, a3⟩
    refine ⟨by omega, fun x x1 x2 V T m1 m2 e => I_num_0.mpr ⟨fun es he => ?_, ?_⟩⟩
    · obtain ⟨z, hz, rfl⟩ := hmem es he
      cases g : U_al hd qc cs z.2.2
      · rw [hsame z hz g]
        exact (hok x x1 x2 V T m1 m2 e).2.2.2.1 z.2 (List.mem_map.mpr ⟨z, hz, rfl⟩)
      · have h1 := List.any_eq_false.mp a2 z hz
        unfold U_lg1 at h1
        rw [g, Bool.true_and, U_lgs_iff] at h1
        cases g2 : I_long V (U_nd hd qc cs z.2.2)
        · rfl
        · exact absurd ⟨x, x1, x2, by rw [e]; exact g2⟩ h1
    · have h1 := a3 x x1 x2 (by rw [e]; simp)
      rw [ec x x1 x2 V T m1 m2 e] at h1
      omega
  · rintro ⟨b1, b2⟩
    refine ⟨⟨by omega, ?_⟩, fun x x1 x2 hx => ?_⟩
    · refine List.any_eq_false.mpr fun z hz g => ?_
      unfold U_lg1 at g
      obtain ⟨g1, g2⟩ := (Bool.and_eq_true _ _).mp g
      obtain ⟨x, x1, x2, e⟩ := U_lgs_iff.mp g2
      rcases hst : st x with _ | ⟨V, T, m1, m2⟩
      · rw [hst] at e
        exact absurd e (by simp [U_lg])
      · rw [hst] at e
        have e : I_long V (U_nd hd qc cs z.2.2) = true := e
        have h1 := (I_num_0.mp (b2 x x1 x2 V T m1 m2 hst)).1 (U_nd hd qc cs z.2.2) (by
          unfold U_qs
          rw [List.map_map]
          exact List.mem_map.mpr ⟨z, hz, rfl⟩)
        rw [e] at h1
        exact absurd h1 (by decide)
    · rcases hst : st x with _ | ⟨V, T, m1, m2⟩
      · exact absurd hst hx
      · have h1 := (I_num_0.mp (b2 x x1 x2 V T m1 m2 hst)).2
        rw [ec x x1 x2 V T m1 m2 hst]
        omega
/-- an index after an update -/
theorem U_keep {V : I_V} {T : N_T I_E} (h : I_ok V (R_dn qs) T) (hg : H_gd (R_dn qs)) (hg2 : H_gd (R_dn (U_qs hd qc cs qs))) (hsame : ∀ z ∈ qs, U_al hd qc cs z.2.2 = false → U_nd hd qc cs z.2.2 = z.2.2) (hf : (((U_qs hd qc cs qs).map fun z => z.2.2).map (I_num V)).sum ≤ 1000) : N_good (I_c V.1 V.2.1) (I_out V (I_mk V (Q_3 (U_z1 hd qc cs qs))) T) ∧ I_can V (I_out V (I_mk V (Q_3 (U_z1 hd qc cs qs))) T) (I_mk V (Q_3 (U_z2 hd qc cs qs))) ∧ I_ok V (R_dn (U_qs hd qc cs qs)) (I_in V (I_mk V (Q_3 (U_z2 hd qc cs qs))) (I_out V (I_mk V (Q_3 (U_z1 hd qc cs qs))) T)) := by
  have e1 : ((Q_3 (U_z1 hd qc cs qs)).map fun z => z.2) = R_dn qs := by rw [Q_3_dn, U_z1_2]
  have e2 : ((Q_3 (U_z2 hd qc cs qs)).map fun z => z.2) = R_dn (U_qs hd qc cs qs) := by rw [Q_3_dn, U_z2_2]
  rw [← e1] at h hg
  have h1 := (h.out hg).2
  obtain ⟨f1, f2⟩ := I_num_0.mp hf
  rw [← U_z_k qs hsame] at h1
  have h2 := h1.inn (by rw [e2]; exact hg2) (fun z hz => f1 z.2.2 (by
    have h3 : z.2 ∈ R_dn (U_qs hd qc cs qs) := by rw [← e2]; exact List.mem_map.mpr ⟨z, hz, rfl⟩
    obtain ⟨u, hu, e⟩ := List.mem_map.mp h3
    exact List.mem_map.mpr ⟨u, hu, by rw [e]⟩)) (by
    rw [e2, I_all_len]
    have h3 : (R_dn (U_qs hd qc cs qs)).map Prod.snd = (U_qs hd qc cs qs).map fun z => z.2.2 := by
      unfold R_dn
      rw [List.map_map]
      rfl
    rw [h3]
    exact f2)
  rw [e2] at h2
  exact ⟨h1.2.1, h2.1, h2.2⟩
end UPP
