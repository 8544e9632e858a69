/-! REQUESTS, THE REFERENCE: update; which documents are altered, and whether all fits -/
noncomputable def U_d2 (hd : List b_E → Bool) (qc : Int) (cs : List b_E) (t : I_T) (es : List b_E) : Int := if U_al hd qc cs es = true then U_d1 t es (U_nd hd qc cs es) else 0
noncomputable def U_dl (hd : List b_E → Bool) (qc : Int) (cs : List b_E) (es : List b_E) : Int := ((b_doc (U_nd hd qc cs es)).length : Int) - (b_doc es).length
noncomputable def U_al1 (hd : List b_E → Bool) (qc : Int) (cs : List b_E) (z : Nat × Int × List b_E) : Bool := U_al hd qc cs z.2.2
noncomputable def U_lg1 (hd : List b_E → Bool) (qc : Int) (cs : List b_E) (st : Nat → I_T) (w : Nat) (z : Nat × Int × List b_E) : Bool := U_al hd qc cs z.2.2 && U_lgs st w 4 (U_nd hd qc cs z.2.2)
theorem U_sm_1 (f : List b_E → Int) (A : List (Nat × Int × List b_E)) (z : Nat × Int × List b_E) : U_sm f ((A ++ [z]).map fun z => z.2.2) = U_sm f (A.map fun z => z.2.2) + f z.2.2 := by
  rw [List.map_append, U_sm_app]
  show _ + (f z.2.2 + 0) = _
  omega
theorem U_fl_1 (p : Nat × Int × List b_E → Bool) (A : List (Nat × Int × List b_E)) (z : Nat × Int × List b_E) : ((A ++ [z]).filter p).length = (A.filter p).length + if p z = true then 1 else 0 := by
  rw [List.filter_append, List.length_append]
  congr 1
  cases h : p z
  · rw [List.filter_cons_of_neg (by rw [h]; decide)]
    rfl
  · rw [List.filter_cons_of_pos h]
    rfl
section EUP2
variable {m d : Nat} {ρ : Nat → Nat} {M M1 : g_M} {st : Nat → I_T} {q : Nat → List (Nat × Int × List b_E)} {v : Nat → Int}
theorem R_CH_n (h : E_bk m ρ M) {i : Nat} (hi : i ∈ E_bf) (hn : i ≠ 0 ∧ i ≠ 12) {k : Int} : ¬ R_CH m (ρ 0) (ρ 12) (ρ i) k := by
  rintro ((⟨z, -⟩ | z | ⟨z, -⟩) | ⟨z, -⟩ | ⟨z, -⟩)
  · exact h.nm hi z
  · exact h.ne hi (by decide) hn.2 z
  · exact h.ne hi (by decide) hn.1 z
  · exact h.ne hi (by decide) hn.1 z
  · exact h.nm hi z
theorem R_CH_m (h : E_bk m ρ M) {k : Int} (g : R_CH m (ρ 0) (ρ 12) m k) : (4 ≤ k ∧ k ≤ 8) ∨ (13 ≤ k ∧ k ≤ 17) := by
  rcases g with (⟨-, z⟩ | z | ⟨z, -⟩) | ⟨z, -⟩ | ⟨-, z⟩
  · omega
  · exact absurd z.symm (h.nm (by decide))
  · exact absurd z.symm (h.nm (by decide))
  · exact absurd z.symm (h.nm (by decide))
  · omega
theorem U_d2_bd {hd : List b_E → Bool} {qc : Int} {cs : List b_E} (hc : U_cs cs) {t : I_T} (ht : ∀ V T m1 m2, t = some (V, T, m1, m2) → I_vok V) {es : List b_E} (hg : X_gd 15 es) (hl : (b_doc es).length ≤ 2000) (h0 : hd es = true → (U_R (-1) qc cs es).1.1 = 0) : -487204 ≤ U_d2 hd qc cs t es ∧ U_d2 hd qc cs t es ≤ 487204 := by
  obtain ⟨g1, g2, -⟩ := U_nd_ok (hd := hd) hc hg hl h0
  unfold U_d2
  split
  · rcases t with _ | ⟨V, T, m1, m2⟩
    · show (-487204 : Int) ≤ 0 ∧ (0 : Int) ≤ 487204
      exact ⟨by decide, by decide⟩
    · have hv := ht V T m1 m2 rfl
      have n1 := U_nE_le hv g1 g2
      have n2 := U_nE_le hv hg hl
      show -487204 ≤ (U_nE V (U_nd hd qc cs es) : Int) - U_nE V es ∧ (U_nE V (U_nd hd qc cs es) : Int) - U_nE V es ≤ 487204
      omega
  · exact ⟨by decide, by decide⟩
theorem e_altU {Q : Int → g_M → Prop} {w : Nat} {pc v1 v3 v5 qc : Int} {ce : b_E} {cs : List b_E} {hd : List b_E → Bool} (h : E_H m ρ st q v M) (hS : E_S m (ρ 0) (ρ 9) (g_i M (ρ 0)) M []) (h40 : g_i M m 40 = 0) (hw : w < 2) (hs : b_st (g_i M (ρ 0)) 900000 pc 22 ce.1 ce.2.1 ce.2.2) (hk : ce.1 = 3) (hgood : ∀ z ∈ b_ch ce.2.2, X_op z.2.1 ≠ 0 ∧ z.1 = 3 ∧ ∀ y ∈ b_ch z.2.2, p_ok y.2.1 ∧ (X_op z.2.1 = 3 → y.1 = 16 ∨ y.1 = 18)) (hcl : ce.2.2.length ≤ 3000) (hqc : qc = pc + 6 + ce.2.1.length) (hce : cs = b_ch ce.2.2) (hcs : U_cs cs) (hmt : ∀ (i : Nat) (z : Nat × Int × List b_E), (q w)[i]? = some z → g_i M (ρ 74) i = if hd z.2.2 = true then 1 else 0) (hvok : ∀ x, 4 * w ≤ x → x < 4 * w + 4 → ∀ V T m1 m2, st x = some (V, T, m1, m2) → I_vok V ∧ ∀ z ∈ q w, I_long V z.2.2 = false) (h76 : ∀ x : Nat, 4 * w ≤ x → x < 4 * w + 4 → st x ≠ none → -1000000 ≤ g_i M (ρ 76) x ∧ g_i M (ρ 76) x ≤ 1000000) (h1 : g_InR v1) (h3 : g_InR v3) (h5 : g_InR v5) (hfl : ∀ (i : Nat) (z : Nat × Int × List b_E), (q w)[i]? = some z → hd z.2.2 = true → (U_R (-1) qc cs z.2.2).1.1 ≠ 0 → (∀ (j : Nat) (z2 : Nat × Int × List b_E), j < i → (q w)[j]? = some z2 → hd z2.2.2 = true → (U_R (-1) qc cs z2.2.2).1.1 = 0) → ∀ M1, e_fr (R_uF m ρ) M M1 → E_S m (ρ 0) (ρ 9) (g_i M1 (ρ 0)) M1 [] → (g_i M1 m 40 = 0 ∨ g_i M1 m 40 = 1) → Q 0 (g_wi (g_wi M1 m 7 ((U_R (-1) qc cs z.2.2).1.1 + 20)) m 8 (if (U_R (-1) qc cs z.2.2).1.2 = -1 then v3 else (U_R (-1) qc cs z.2.2).1.2))) (hend : ∀ M1 (k6 : Int) (k8 : Nat), e_fr (R_uF m ρ) M M1 → E_S m (ρ 0) (ρ 9) (g_i M1 (ρ 0)) M1 [] → (∀ z ∈ q w, hd z.2.2 = true → (U_R (-1) qc cs z.2.2).1.1 = 0) → (∀ (i : Nat) (z : Nat × Int × List b_E), (q w)[i]? = some z → g_i M1 (ρ 75) i = if U_al hd qc cs z.2.2 = true then 1 else 0) → (∀ x : Nat, 4 * w ≤ x → x < 4 * w + 4 → g_i M1 (ρ 76) x = g_i M (ρ 76) x + U_sm (U_d2 hd qc cs (st x)) ((q w).map fun z => z.2.2)) → g_i M1 m 40 = (if (q w).any (U_lg1 hd qc cs st w) = true then 1 else 0) → k6 = (S_sum ((q w).map fun z => z.2.2) : Int) + U_sm (U_dl hd qc cs) ((q w).map fun z => z.2.2) → k8 = ((q w).filter (U_al1 hd qc cs)).length → g_InR k6 → g_Run (d + 72) 420 360 [(0, .ref m), (1, g_n v1), (2, g_n w), (3, g_n v3), (4, g_n (pc + 2 + ce.2.1.length)), (5, g_n v5), (6, g_n k6), (7, g_n 0), (8, g_n k8), (9, g_n (if k6 ≤ 40000 ∧ g_i M1 m 40 = 0 then 1 else 0)), (10, g_n (4 * (w : Int)))] [] M1 (g_qI Q)) : g_Run (d + 72) 420 104 [(0, .ref m), (1, g_n v1), (2, g_n w), (3, g_n v3), (4, g_n (pc + 2 + ce.2.1.length)), (5, g_n v5), (6, g_n (S_sum ((q w).map fun z => z.2.2))), (7, g_n 0), (8, g_n 0), (9, g_n 0)] [] M (g_qI Q) := by
  have hB := h.1
  have hsh := h.2.2.2.2 w hw
  obtain ⟨⟨s1, s2, s3, s4⟩, s5, s6, s7, s8⟩ := id hsh
  have hl200 := s8.1
  rw [List.length_map] at hl200
  have hdoc : ∀ z ∈ q w, (b_doc z.2.2).length ≤ 2000 ∧ X_gd 15 z.2.2 := fun z hz => s8.2.2 z.2.2 (List.mem_map.mpr ⟨z, hz, rfl⟩)
  have hwR : g_InR (w : Int) := ⟨by omega, by omega⟩
  have ne : ∀ {i j : Nat}, i ∈ E_bf → j ∈ E_bf → i ≠ j → ρ i ≠ ρ j := fun h1 h2 h3 => hB.ne h1 h2 h3
  have hmne : ∀ k ∈ E_bf, m ≠ ρ k := fun k hk z => hB.nm hk z.symm
  have hsum := s8.2.1
  obtain ⟨T0, hT0⟩ : ∃ T0 : Nat, T0 = S_sum ((q w).map fun z => z.2.2) := ⟨_, rfl⟩
  rw [← hT0] at hend hsum ⊢
  have h4R : g_InR (pc + 2 + (ce.2.1.length : Int)) := by
    have e1 := hs.2.2.2.1
    have e2 := hs.2.2.2.2
    have e3 := b_el_len ce.1 ce.2.1 ce.2.2
    exact ⟨by omega, by omega⟩
  -- sizes
  have hsz : ∀ A : List (Nat × Int × List b_E), (∀ z ∈ A, z ∈ q w) → (∀ z ∈ A, hd z.2.2 = true → (U_R (-1) qc cs z.2.2).1.1 = 0) → A.length ≤ 200 → (-400000 ≤ U_sm (U_dl hd qc cs) (A.map fun z => z.2.2) ∧ U_sm (U_dl hd qc cs) (A.map fun z => z.2.2) ≤ 400000) ∧ ∀ x, 4 * w ≤ x → x < 4 * w + 4 → -97440800 ≤ U_sm (U_d2 hd qc cs (st x)) (A.map fun z => z.2.2) ∧ U_sm (U_d2 hd qc cs (st x)) (A.map fun z => z.2.2) ≤ 97440800 := by
    intro A hA h0 hl
    have hlm : (A.map fun z => z.2.2).length = A.length := List.length_map _
    constructor
    · obtain ⟨e1, e2⟩ := U_sm_bd (f := U_dl hd qc cs) (k := 2000) (by decide) (A.map fun z => z.2.2) fun es he => by
        obtain ⟨z, hz, rfl⟩ := List.mem_map.mp he
        obtain ⟨d1, d2⟩ := hdoc z (hA z hz)
        obtain ⟨g1, g2, -⟩ := U_nd_ok (hd := hd) hcs d2 d1 (h0 z hz)
        unfold U_dl
        omega
      rw [hlm] at e1 e2
      omega
    · intro x x1 x2
      obtain ⟨e1, e2⟩ := U_sm_bd (f := U_d2 hd qc cs (st x)) (k := 487204) (by decide) (A.map fun z => z.2.2) fun es he => by
        obtain ⟨z, hz, rfl⟩ := List.mem_map.mp he
        obtain ⟨d1, d2⟩ := hdoc z (hA z hz)
        exact U_d2_bd hcs (fun V T m1 m2 e => (hvok x x1 x2 V T m1 m2 e).1) d2 d1 (h0 z hz)
      rw [hlm] at e1 e2
      omega
  have hlp : ∀ (B A : List (Nat × Int × List b_E)) (M' : g_M), q w = A ++ B → e_fr (R_uF m ρ) M M' → E_S m (ρ 0) (ρ 9) (g_i M' (ρ 0)) M' [] → (∀ z ∈ A, hd z.2.2 = true → (U_R (-1) qc cs z.2.2).1.1 = 0) → (∀ (i : Nat) (z : Nat × Int × List b_E), A[i]? = some z → g_i M' (ρ 75) i = if U_al hd qc cs z.2.2 = true then 1 else 0) → (∀ x : Nat, 4 * w ≤ x → x < 4 * w + 4 → g_i M' (ρ 76) x = g_i M (ρ 76) x + U_sm (U_d2 hd qc cs (st x)) (A.map fun z => z.2.2)) → g_i M' m 40 = (if A.any (U_lg1 hd qc cs st w) = true then 1 else 0) → g_Run (d + 72) 420 104 [(0, .ref m), (1, g_n v1), (2, g_n w), (3, g_n v3), (4, g_n (pc + 2 + ce.2.1.length)), (5, g_n v5), (6, g_n ((T0 : Int) + U_sm (U_dl hd qc cs) (A.map fun z => z.2.2))), (7, g_n 0), (8, g_n ((A.filter (U_al1 hd qc cs)).length : Nat)), (9, g_n A.length)] [] M' (g_qI Q) := by
    intro B
    induction B with
    | nil =>
      intro A M' hA f' S' h0 t75 t76 t40
      rw [List.append_nil] at hA
      subst hA
      have hB' := hB.fr f'
      have b68' := hB'.at (k := 68) (by decide)
      have b68A' : g_A M' (ρ 68) 1 2 := b68'.2
      have t68 : g_i M' (ρ 68) w = (q w).length := by rw [f'.2.1 _ _ (R_uF_n hB (by decide) (by decide))]; exact s2
      obtain ⟨⟨z1, z2⟩, -⟩ := hsz (q w) (fun z hz => hz) h0 hl200
      have hfl8 := List.length_filter_le (U_al1 hd qc cs) (q w)
      have h6R : g_InR ((T0 : Int) + U_sm (U_dl hd qc cs) ((q w).map fun z => z.2.2)) := ⟨by omega, by omega⟩
      have hE := hend M' _ _ f' S' h0 t75 t76 t40 rfl rfl h6R
      refine s_X12_update_104 h1 hwR h3 h4R h5 h6R ⟨by decide, by decide⟩ ⟨by omega, by omega⟩ ⟨by omega, by omega⟩ fun _ => ⟨hB'.1, ρ 68, b68'.1, 2, b68A', ⟨by omega, by omega⟩, fun g => absurd g (by rw [t68]; omega), fun _ => ⟨fun g => ⟨⟨by omega, by omega⟩, ?_⟩, fun g => ⟨fun g2 => ⟨⟨by omega, by omega⟩, ?_⟩, fun g2 => ⟨⟨by omega, by omega⟩, ?_⟩⟩⟩⟩
      · rw [if_neg (fun z => by have := z.1; omega)] at hE
        exact hE
      · rw [if_pos ⟨by omega, g2⟩] at hE
        exact hE
      · rw [if_neg (fun z => g2 z.2)] at hE
        exact hE
    | cons z B ih =>
      intro A M' hA f' S' h0 t75 t76 t40
      have hll := congrArg List.length hA
      rw [List.length_append, List.length_cons] at hll
      have hzi : (q w)[A.length]? = some z := by
        rw [hA, List.getElem?_append_right (Nat.le_refl _), Nat.sub_self]
        rfl
      have hzm : z ∈ q w := List.mem_of_getElem? hzi
      obtain ⟨zl, zg⟩ := hdoc z hzm
      have hB' := hB.fr f'
      have H' := h.uF f'
      obtain ⟨k1, k2, k3, k4, k5⟩ := (H'.2.2.2.2 w hw).2.2.1 A.length z hzi
      have hAz : q w = (A ++ [z]) ++ B := by rw [hA]; simp
      have hA1 : ((A ++ [z]).length : Int) = (A.length : Int) + 1 := by rw [List.length_append, List.length_singleton]; omega
      have hAm : ∀ y ∈ A, y ∈ q w := fun y hy => by rw [hA]; exact List.mem_append_left _ hy
      obtain ⟨⟨z1, z2⟩, z3⟩ := hsz A hAm h0 (by omega)
      have hfl8 := List.length_filter_le (U_al1 hd qc cs) A
      have h6R : g_InR ((T0 : Int) + U_sm (U_dl hd qc cs) (A.map fun z => z.2.2)) := ⟨by omega, by omega⟩
      have b68' := hB'.at (k := 68) (by decide)
      have b68A' : g_A M' (ρ 68) 1 2 := b68'.2
      have b75' := hB'.at (k := 75) (by decide)
      have b75A' : g_A M' (ρ 75) 2 200 := b75'.2
      have t68 : g_i M' (ρ 68) w = (q w).length := by rw [f'.2.1 _ _ (R_uF_n hB (by decide) (by decide))]; exact s2
      have t74 : g_i M' (ρ 74) A.length = if hd z.2.2 = true then 1 else 0 := by
        rw [f'.2.1 _ _ (R_uF_n hB (by decide) (by decide))]
        exact hmt A.length z hzi
      -- the next one
      have hnx : ∀ M2, e_fr (R_uF m ρ) M M2 → E_S m (ρ 0) (ρ 9) (g_i M2 (ρ 0)) M2 [] → (hd z.2.2 = true → (U_R (-1) qc cs z.2.2).1.1 = 0) → (∀ j : Nat, j < A.length → g_i M2 (ρ 75) j = g_i M' (ρ 75) j) → g_i M2 (ρ 75) A.length = (if U_al hd qc cs z.2.2 = true then 1 else 0) → (∀ x : Nat, 4 * w ≤ x → x < 4 * w + 4 → g_i M2 (ρ 76) x = g_i M' (ρ 76) x + U_d2 hd qc cs (st x) z.2.2) → g_i M2 m 40 = (if U_lg1 hd qc cs st w z = true then 1 else g_i M' m 40) → g_Run (d + 72) 420 104 [(0, .ref m), (1, g_n v1), (2, g_n w), (3, g_n v3), (4, g_n (pc + 2 + ce.2.1.length)), (5, g_n v5), (6, g_n ((T0 : Int) + U_sm (U_dl hd qc cs) (A.map fun z => z.2.2) + U_dl hd qc cs z.2.2)), (7, g_n 0), (8, g_n (((A.filter (U_al1 hd qc cs)).length : Int) + if U_al hd qc cs z.2.2 = true then 1 else 0)), (9, g_n ((A.length : Int) + 1))] [] M2 (g_qI Q) := by
        intro M2 f2 S2 n0 n75 n75b n76 n40
        have h9 := ih (A ++ [z]) M2 hAz f2 S2 (fun y hy => by
          rcases List.mem_append.mp hy with hy | hy
          · exact h0 y hy
          · rw [List.mem_singleton.mp hy]
            exact n0) (fun i u hi => by
          by_cases gi : i < A.length
          · rw [List.getElem?_append_left gi] at hi
            rw [n75 i gi]
            exact t75 i u hi
          · rw [List.getElem?_append_right (by omega)] at hi
            have hi0 := (List.getElem?_eq_some_iff.mp hi).1
            rw [List.length_singleton] at hi0
            have hi1 : i = A.length := by omega
            rw [hi1, Nat.sub_self] at hi
            have hi : z = u := Option.some.inj hi
            rw [hi1, n75b, hi]) (fun x x1 x2 => by
          rw [n76 x x1 x2, t76 x x1 x2, U_sm_1]
          omega) (by
          rw [n40, t40, List.any_append]
          have e1 : ([z] : List (Nat × Int × List b_E)).any (U_lg1 hd qc cs st w) = U_lg1 hd qc cs st w z := by simp
          rw [e1]
          cases U_lg1 hd qc cs st w z
          · rw [Bool.or_false, if_neg (by decide)]
          · rw [Bool.or_true, if_pos rfl, if_pos rfl])
        rw [U_sm_1, U_fl_1, hA1] at h9
        have e8 : (((A.filter (U_al1 hd qc cs)).length + (if U_al1 hd qc cs z = true then 1 else 0) : Nat) : Int) = ((A.filter (U_al1 hd qc cs)).length : Int) + if U_al hd qc cs z.2.2 = true then 1 else 0 := by
          show (((A.filter (U_al1 hd qc cs)).length + (if U_al hd qc cs z.2.2 = true then 1 else 0) : Nat) : Int) = _
          by_cases g : U_al hd qc cs z.2.2 = true
          · rw [if_pos g, if_pos g]
            omega
          · rw [if_neg g, if_neg g]
            omega
        rw [e8, ← Int.add_assoc] at h9
        exact h9
      refine s_X12_update_104 h1 hwR h3 h4R h5 h6R ⟨by decide, by decide⟩ ⟨by omega, by omega⟩ ⟨by omega, by omega⟩ fun _ => ⟨hB'.1, ρ 68, b68'.1, 2, b68A', ⟨by omega, by omega⟩, fun _ => ⟨ρ 75, b75'.1, 200, b75A', ⟨by omega, by omega⟩, ?_⟩, fun g => absurd (by rw [t68]; omega) g⟩
      rintro M15 e15 _
      have f15 : e_fr (R_uF m ρ) M' M15 := by rw [e15]; exact e_fr.wi _ (Or.inr (Or.inr (Or.inl rfl)))
      have F15 := f'.tr f15
      have hB15 := hB.fr F15
      have H15 := h.uF F15
      have g15 : ∀ (y : Nat) (k : Int), y ≠ ρ 75 → g_i M15 y k = g_i M' y k := fun y k hy => by rw [e15, g_i_wi, if_neg fun g => hy g.1]
      have v75 : ∀ j, g_i M15 (ρ 75) j = if j = A.length then 0 else g_i M' (ρ 75) j := fun j => by
        rw [e15, g_i_wi]
        by_cases g : j = A.length
        · rw [if_pos ⟨rfl, g⟩, if_pos g]
        · rw [if_neg (fun z => g z.2), if_neg g]
      have S15 : E_S m (ρ 0) (ρ 9) (g_i M15 (ρ 0)) M15 [] := (S'.offm (hB.nm (k := 75) (by decide)) (ne (i := 75) (j := 9) (by decide) (by decide) (by decide)) (ne (i := 75) (j := 0) (by decide) (by decide) (by decide)) e15).sf
      have b74' := hB15.at (k := 74) (by decide)
      have b74A' : g_A M15 (ρ 74) 2 200 := b74'.2
      refine ⟨ρ 74, b74'.1, 200, b74A', ⟨by omega, by omega⟩, ?_⟩
      rw [g15 _ _ (ne (by decide) (by decide) (by decide)), t74]
      by_cases ghd : hd z.2.2 = true
      · rw [if_pos ghd]
        refine ⟨fun g => absurd g (by decide), fun _ => ?_⟩
        have t71 : g_i M15 (ρ 71) (200 * w + A.length) = z.1 := by rw [g15 _ _ (ne (by decide) (by decide) (by decide))]; exact k2
        have hT : ∀ {M2 : g_M}, E_bk m ρ M2 → R_tb m (ρ 68) (ρ 71) M2 := fun h' => ⟨(h'.at (k := 68) (by decide)).1, (h'.at (k := 68) (by decide)).2, (h'.at (k := 71) (by decide)).1, (h'.at (k := 71) (by decide)).2⟩
        refine e_doc1 (d := d + 71) (w := (w : Int)) (i := A.length) (s := z.1) hB15.R (hT hB15) (by omega) (by omega) t71 (by omega) (by omega) ?_
        intro _ _ _
        obtain ⟨-, -, -, -, k5'⟩ := (H15.2.2.2.2 w hw).2.2.1 A.length z hzi
        have hs15 : b_st (g_i M15 (ρ 0)) 900000 pc 22 ce.1 ce.2.1 ce.2.2 := ⟨b_at_keep hs.1 fun j j1 j2 => F15.2.1 _ j fun g => by
          have := R_uF_b hB g
          have := hs.2.2.2.2
          omega, hs.2⟩
        have hO15 : R_O m (ρ 0) (ρ 12) M15 := ⟨hB15.R, (hB15.at (k := 12) (by decide)).1, (hB15.at (k := 12) (by decide)).2⟩
        refine e_change (d := d) hO15 (fun _ _ => rfl) hs15 hk hgood (by omega) (by omega) k5' (zg.le (by decide)) (by rw [b_doc_len] at zl; omega) ?_
        have hUR : Z_end (-1) (Z_os (z.2.2, 0) (L_ch pc ce)) = U_R (-1) qc cs z.2.2 := by
          unfold U_R L_ch
          rw [hqc, hce]
        rw [hUR]
        obtain ⟨R, hR⟩ : ∃ R, R = U_R (-1) qc cs z.2.2 := ⟨_, rfl⟩
        rw [← hR]
        intro M29 f29 n29 y29
        intro _ ok29 _
        have f29' : e_fr (R_uF m ρ) M15 M29 := f29.up fun y k g => Or.inl g
        have F29 := F15.tr f29'
        have hB29 := hB.fr F29
        have S29 : E_S m (ρ 0) (ρ 9) (g_i M29 (ρ 0)) M29 [] := S15.fx f29 (fun g => by have := R_CH_m hB g; omega) fun k => R_CH_n hB (by decide) (by decide)
        by_cases g0 : R.1.1 = 0
        · rw [if_pos g0]
          refine ⟨fun g => absurd g (by decide), fun _ => ?_⟩
          obtain ⟨y1, y2⟩ := y29 g0
          rw [hR] at g0
          obtain ⟨u1, u2, u3, u4⟩ := U_R_ok (pc := -1) (qc := qc) hcs zg zl g0
          rw [← hR] at u1 u2 u3 u4
          have hnd : U_nd hd qc cs z.2.2 = R.2.1 := by unfold U_nd; rw [if_pos ghd, hR]
          have hal : U_al hd qc cs z.2.2 = decide (R.2.2 = 1) := by unfold U_al; rw [ghd, ← hR, Bool.true_and]
          have b75'' := hB29.at (k := 75) (by decide)
          have b75A'' : g_A M29 (ρ 75) 2 200 := b75''.2
          refine ⟨ρ 75, b75''.1, 200, b75A'', ⟨by omega, by omega⟩, by rw [y2]; exact u3, ?_⟩
          rintro M40 e40 _
          rw [y2] at e40
          have f40 : e_fr (R_uF m ρ) M29 M40 := by rw [e40]; exact e_fr.wi _ (Or.inr (Or.inr (Or.inl rfl)))
          have F40 := F29.tr f40
          have hB40 := hB.fr F40
          have H40 := h.uF F40
          have S40 : E_S m (ρ 0) (ρ 9) (g_i M40 (ρ 0)) M40 [] := (S29.offm (hB.nm (k := 75) (by decide)) (ne (i := 75) (j := 9) (by decide) (by decide) (by decide)) (ne (i := 75) (j := 0) (by decide) (by decide) (by decide)) e40).sf
          have g40 : ∀ (y : Nat) (k : Int), y ≠ ρ 75 → g_i M40 y k = g_i M29 y k := fun y k hy => by rw [e40, g_i_wi, if_neg fun g => hy g.1]
          have v75' : ∀ j, g_i M40 (ρ 75) j = if j = A.length then R.2.2 else g_i M' (ρ 75) j := fun j => by
            rw [e40, g_i_wi]
            by_cases g : j = A.length
            · rw [if_pos ⟨rfl, g⟩, if_pos g]
            · rw [if_neg (fun z => g z.2), if_neg g, f29.2.1 _ _ (R_CH_n hB (by decide) (by decide)), v75, if_neg g]
          have w17 : g_i M40 m 17 = R.2.2 := by rw [g40 _ _ (hmne 75 (by decide))]; exact y2
          have w40 : g_i M40 m 40 = g_i M' m 40 := by
            rw [g40 _ _ (hmne 75 (by decide)), f29.2.1 _ _ (fun g => by have := R_CH_m hB g; omega), g15 _ _ (hmne 75 (by decide))]
          have w76 : ∀ j, g_i M40 (ρ 76) j = g_i M' (ρ 76) j := fun j => by
            rw [g40 _ _ (ne (by decide) (by decide) (by decide)), f29.2.1 _ _ (R_CH_n hB (by decide) (by decide)), g15 _ _ (ne (by decide) (by decide) (by decide))]
          have wat : b_at (g_i M40 (ρ 0)) 922000 (b_doc R.2.1) := b_at_keep y1 fun j _ _ => g40 _ j (ne (by decide) (by decide) (by decide))
          obtain ⟨-, k2', -, -, k5''⟩ := (H40.2.2.2.2 w hw).2.2.1 A.length z hzi
          have hdl : U_dl hd qc cs z.2.2 = ((b_doc R.2.1).length : Int) - (b_doc z.2.2).length := by unfold U_dl; rw [hnd]
          -- lengths
          have h205 : ∀ v0 : Int, v0 = (if U_al hd qc cs z.2.2 = true then 1 else 0) → g_Run (d + 72) 420 205 [(0, .ref m), (1, g_n v1), (2, g_n w), (3, g_n v3), (4, g_n (pc + 2 + ce.2.1.length)), (5, g_n v5), (6, g_n ((T0 : Int) + U_sm (U_dl hd qc cs) (A.map fun z => z.2.2))), (7, g_n 0), (8, g_n ((A.filter (U_al1 hd qc cs)).length : Nat)), (9, g_n A.length)] [g_n v0, g_n ((A.filter (U_al1 hd qc cs)).length : Nat)] M40 (g_qI Q) := by
            intro v0 hv0
            have hv01 : v0 = 0 ∨ v0 = 1 := by
              rw [hv0]
              split
              · exact Or.inr rfl
              · exact Or.inl rfl
            refine s_X12_update_205 h1 hwR h3 h4R h5 h6R ⟨by decide, by decide⟩ ⟨by omega, by omega⟩ ⟨by omega, by omega⟩ ⟨by omega, by omega⟩ ⟨by omega, by omega⟩ fun _ => ⟨⟨by omega, by omega⟩, hB40.1, e_int4 (d := d + 70) hB40.R (by decide) (by decide) ?_⟩
            intro _ _ _
            rw [e_w4doc wat (by omega)]
            refine e_doc1 (d := d + 71) (w := (w : Int)) (i := A.length) (s := z.1) hB40.R (hT hB40) (by omega) (by omega) k2' (by omega) (by omega) ?_
            intro _ _ _
            refine e_int4 (d := d + 70) hB40.R (by omega) (by omega) ?_
            intro _ _ _
            rw [e_w4doc k5'' (by omega)]
            refine ⟨⟨by omega, by omega⟩, ⟨by omega, by omega⟩, ⟨by omega, by omega⟩, ?_⟩
            rw [← hdl, hv0]
            by_cases gal : U_al hd qc cs z.2.2 = true
            · have hR1 : R.2.2 = 1 := by rw [hal] at gal; exact of_decide_eq_true gal
              refine e_roomU (d := d + 1) (nd := R.2.1) H40 S40 ?_ hw hzi wat u1 u2 (w17.trans hR1) (fun x x1 x2 V T m1 m2 e => ⟨(hvok x x1 x2 V T m1 m2 e).1, (hvok x x1 x2 V T m1 m2 e).2 z hzm⟩) (fun x x1 x2 x3 => ?_) h1 h3 h4R h5 ⟨by omega, by omega⟩ ⟨by omega, by omega⟩ fun M2 f2 S2 n76 n40 => ?_
              · rw [w40, t40]
                split
                · exact Or.inr rfl
                · exact Or.inl rfl
              · have e1 := h76 x x1 x2 x3
                have e2 := z3 x x1 x2
                rw [w76, t76 x x1 x2]
                omega
              · refine hnx M2 (F40.tr (f2.up fun y k g => g.F)) S2 (fun _ => g0) (fun j hj => ?_) ?_ (fun x x1 x2 => ?_) ?_
                · rw [f2.2.1 _ _ (R_uG_n hB (by decide) (by decide)), v75', if_neg (by omega)]
                · rw [f2.2.1 _ _ (R_uG_n hB (by decide) (by decide)), v75', if_pos rfl, if_pos gal, hR1]
                · rw [n76 x x1 x2, w76]
                  unfold U_d2
                  rw [if_pos gal, hnd]
                · rw [n40, w40]
                  unfold U_lg1
                  rw [gal, Bool.true_and, hnd]
            · have hR0 : R.2.2 = 0 := by
                rcases u3 with e | e
                · exact e
                · exact absurd (by rw [hal]; exact decide_eq_true e) gal
              rw [if_neg gal]
              refine s_X12_update_237 h1 hwR h3 h4R h5 ⟨by omega, by omega⟩ ⟨by decide, by decide⟩ ⟨by omega, by omega⟩ ⟨by omega, by omega⟩ ⟨by omega, by omega⟩ fun _ => ⟨⟨by omega, by omega⟩, ⟨by omega, by omega⟩, fun _ => ⟨hB40.1, fun _ => ⟨⟨by omega, by omega⟩, ?_⟩, fun g => absurd (w17.trans hR0) g⟩, fun g => absurd (by omega) g⟩
              have h9 := hnx M40 F40 S40 (fun _ => g0) (fun j hj => by rw [v75', if_neg (by omega)]) (by rw [v75', if_pos rfl, if_neg gal, hR0]) (fun x x1 x2 => by
                rw [w76]
                unfold U_d2
                rw [if_neg gal, Int.add_zero]) (by
                rw [w40]
                unfold U_lg1
                rw [Bool.eq_false_iff.mpr gal, Bool.false_and, if_neg (by decide)])
              rw [if_neg gal] at h9
              exact h9
          rw [w17]
          refine ⟨fun g => h205 0 ?_, fun g => h205 1 ?_⟩
          · rw [hal, if_neg]
            rw [g]
            decide
          · rw [hal, if_pos]
            rcases u3 with e | e
            · exact absurd e g
            · exact decide_eq_true e
        · rw [if_neg g0]
          refine ⟨fun _ => ?_, fun g => absurd rfl g⟩
          obtain ⟨y1, y2⟩ := n29 g0
          have hle := U_R_le (-1) qc cs z.2.2
          rw [← hR] at hle
          have hF := hfl A.length z hzi ghd (by rw [← hR]; exact g0) (fun j z2 hj hz2 => h0 z2 (by
            rw [hA, List.getElem?_append_left hj] at hz2
            exact List.mem_of_getElem? hz2)) M29 F29 S29 (by
            rw [f29.2.1 _ _ (fun g => by have := R_CH_m hB g; omega), g15 _ _ (hmne 75 (by decide)), t40]
            split
            · exact Or.inr rfl
            · exact Or.inl rfl)
          rw [← hR] at hF
          have hpl : g_InR R.1.2 := by rw [← y2]; exact ok29.1 m 8
          rw [y1, y2]
          have refuse : ∀ pl : Int, g_InR pl → Q 0 (g_wi (g_wi M29 m 7 (R.1.1 + 20)) m 8 pl) → g_Call (d + 72) 405 [.ref m, g_n (R.1.1 + 20), g_n pl] M29 (g_qI fun r37 M34 => g_ext M29 M34 → g_ok M34 → g_InR r37 → (r37 = 0 ∨ r37 = 1) ∧ Q r37 M34) := fun pl hp hQ => by
            refine m_X12_refuses ⟨by omega, by omega⟩ hp fun _ => ⟨hB29.1, fun M3 e3 _ M4 e4 _ => ?_⟩
            subst e3
            subst e4
            intro _ _ _
            exact ⟨Or.inl rfl, hQ⟩
          refine ⟨⟨by omega, by omega⟩, fun g => refuse v3 h3 ?_, fun g => refuse R.1.2 hpl ?_⟩
          · rw [if_pos g] at hF
            exact hF
          · rw [if_neg g] at hF
            exact hF
      · rw [if_neg ghd]
        refine ⟨fun _ => ⟨⟨by omega, by omega⟩, ?_⟩, fun g => absurd rfl g⟩
        have gal : ¬ U_al hd qc cs z.2.2 = true := by
          unfold U_al
          rw [Bool.eq_false_iff.mpr ghd, Bool.false_and]
          decide
        have hnd : U_nd hd qc cs z.2.2 = z.2.2 := by unfold U_nd; rw [if_neg ghd]
        have h9 := hnx M15 F15 S15 (fun g => absurd g ghd) (fun j hj => by rw [v75, if_neg (by omega)]) (by rw [v75, if_pos rfl, if_neg gal]) (fun x x1 x2 => by
          rw [g15 _ _ (ne (by decide) (by decide) (by decide))]
          unfold U_d2
          rw [if_neg gal, Int.add_zero]) (by
          rw [g15 _ _ (hmne 75 (by decide))]
          unfold U_lg1
          rw [Bool.eq_false_iff.mpr gal, Bool.false_and, if_neg (by decide)])
        have hdl : U_dl hd qc cs z.2.2 = 0 := by unfold U_dl; rw [hnd]; omega
        rw [if_neg gal, hdl, Int.add_zero, Int.add_zero] at h9
        exact h9
  exact hlp (q w) [] M rfl (e_fr.rf _ _) hS (fun z hz => absurd hz (by simp)) (fun i z hi => absurd hi (by simp)) (fun x _ _ => by show _ = _ + (0 : Int); omega) (by
    rw [h40]
    show (0 : Int) = if false = true then (1 : Int) else 0
    rw [if_neg (by decide)])
end EUP2
