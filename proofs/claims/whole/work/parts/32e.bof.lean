/-! EXPLAIN, THE REFERENCE: the bounds of one condition, all -/
/-- a flag tells a fact -/
def D_f (r : Int) (P : Prop) : Prop := (P ∧ r = 1) ∨ (¬ P ∧ r = 0)
theorem D_f.y {r : Int} {P : Prop} (h : D_f r P) (g : ¬ r = 0) : P := by
  rcases h with h | h
  · exact h.1
  · exact absurd h.2 g
theorem D_f.n {r : Int} {P : Prop} (h : D_f r P) (g : r = 0) : ¬ P := by
  rcases h with h | h
  · exact absurd (h.2.symm.trans g) (by decide)
  · exact h.1
theorem D_f.R {r : Int} {P : Prop} (h : D_f r P) : g_InR r := by
  rcases h with h | h <;> rw [h.2] <;> exact ⟨by decide, by decide⟩
theorem D_f.i {r : Int} {P : Prop} [Decidable P] (h : D_f r P) : r = if P then 1 else 0 := by
  rcases h with h | h
  · rw [if_pos h.1]
    exact h.2
  · rw [if_neg h.1]
    exact h.2
theorem D_f.of {P : Prop} [Decidable P] : D_f (if P then 1 else 0) P := by
  by_cases g : P
  · rw [if_pos g]
    exact Or.inl ⟨g, rfl⟩
  · rw [if_neg g]
    exact Or.inr ⟨g, rfl⟩
theorem D_bo_1 {al : Bool} {y : Int × b_E} (h : D_k al y = 1) (hr : ¬ y.2.1 = 4) : D_bo al y = some [D_pt y] := by
  unfold D_bo
  rw [if_neg (by rw [h]; decide), if_neg hr, if_pos h]
theorem D_bo_4 {al : Bool} {y : Int × b_E} (h : ¬ D_k al y = 3) (hr : y.2.1 = 4) : D_bo al y = none := by
  unfold D_bo
  rw [if_neg h, if_pos hr]
theorem D_bo_5 {al : Bool} {y : Int × b_E} (h : D_k al y = 5 ∨ D_k al y = 6) (hr : ¬ y.2.1 = 4) : D_bo al y = some (if b_cl y.2.1 = 1 then (if D_k al y = 6 then [D_pt y] else []) else [(b_cl y.2.1, none, false, some y, decide (D_k al y = 6))]) := by
  unfold D_bo
  rw [if_neg (by omega), if_neg hr, if_neg (by omega), if_pos h]
theorem D_bo_7 {al : Bool} {y : Int × b_E} (h : D_k al y = 7 ∨ D_k al y = 8) (hr : ¬ y.2.1 = 4) : D_bo al y = some (if b_cl y.2.1 = 1 then (if D_k al y = 8 then [D_pt y] else []) else [(b_cl y.2.1, some y, decide (D_k al y = 8), none, false)]) := by
  unfold D_bo
  rw [if_neg (by omega), if_neg hr, if_neg (by omega), if_neg (by omega), if_pos h]
theorem D_bo_no {al : Bool} {y : Int × b_E} (h1 : ¬ D_k al y = 1) (h3 : ¬ D_k al y = 3) (h5 : ¬ (D_k al y = 5 ∨ D_k al y = 6)) (h7 : ¬ (D_k al y = 7 ∨ D_k al y = 8)) : D_bo al y = none := by
  unfold D_bo
  rw [if_neg h3]
  by_cases g : y.2.1 = 4
  · rw [if_pos g]
  · rw [if_neg g, if_neg h1, if_neg h5, if_neg h7]
section DBF
variable {m d b : Nat} {ρ : Nat → Nat} {M M1 : g_M} {L L0 : List D_i}
theorem e_cdF {Q : Int → g_M → Prop} {j i : Nat} {p k : Int} {D : Nat} {nm vb : List Int} (hj : j < q_nS) (hjj : b_tx j = b_tx (16 + i)) (h1 : 1 ≤ i) (h2 : i ≤ 12) (hR : e_R M m b) (hs : b_st (g_i M b) 2706210 p D k nm vb) (h : ∀ r, D_f r (F_cd nm = i) → Q r M) : g_Call (d + 4) 236 [.ref m, g_n p, .ref (4 * j + 1)] M (g_qI Q) := e_cdI hj hjj h1 h2 hR hs (h _ D_f.of)
/-- the last stretch: what the flags say -/
theorem e_boF {Q : Int → g_M → Prop} {y : Int × b_E} {n : Nat} {v2 v4 v5 v6 w0 : Int} (hO : g_O M m 12) (hR : e_R M m b) (hyW : b_st (g_i M b) 2706210 y.1 20 y.2.1 y.2.2.1 y.2.2.2) (h2R : g_InR v2) (h3R : g_InR (n : Int)) (h4R : g_InR v4) (h5R : g_InR v5) (h6R : g_InR v6) (h0R : g_InR w0) (hP : (¬ v4 = 0 ∨ (b_cl y.2.1 = 1 ∧ ¬ w0 = 0)) → g_Call (d + 49) 393 [.ref m, g_n n, g_n y.1] M (g_qV fun M7 => g_ext M M7 → g_ok M7 → Q 1 M7)) (hE : v4 = 0 → b_cl y.2.1 = 1 → w0 = 0 → Q 1 M) (hL : v4 = 0 → 1 < b_cl y.2.1 → ¬ v5 = 0 → g_Call (d + 49) 392 [.ref m, g_n (-100 - b_cl y.2.1), g_n 0, g_n y.1, g_n w0] M (g_qV fun M7 => g_ext M M7 → g_ok M7 → Q 1 M7)) (hG : v4 = 0 → 1 < b_cl y.2.1 → v5 = 0 → g_Call (d + 49) 392 [.ref m, g_n y.1, g_n w0, g_n (-200 - b_cl y.2.1), g_n 0] M (g_qV fun M7 => g_ext M M7 → g_ok M7 → Q 1 M7)) : g_Run (d + 49) 394 247 [(0, .ref m), (1, g_n y.1), (2, g_n v2), (3, g_n n), (4, g_n v4), (5, g_n v5), (6, g_n v6)] [g_n w0] M (g_qI Q) := by
  have hyR : g_InR y.1 := hyW.R (by decide)
  have hcl := b_cl_R y.2.1
  have hcR : g_InR (b_cl y.2.1) := ⟨by omega, by omega⟩
  refine s_X12_boundsOf_247 hyR h2R h3R h4R h5R h6R h0R fun _ => ⟨hO, e_cl2 (d := d + 48) hR hyW ?_⟩
  intro _ _ _
  have h281 : v4 = 0 → (b_cl y.2.1 = 1 → w0 = 0) → g_Run (d + 49) 394 281 [(0, .ref m), (1, g_n y.1), (2, g_n v2), (3, g_n n), (4, g_n v4), (5, g_n v5), (6, g_n v6), (7, g_n w0), (8, g_n (b_cl y.2.1))] [] M (g_qI Q) := by
    intro g gc
    have h308 : (1 < b_cl y.2.1 → v5 = 0) → g_Run (d + 49) 394 308 [(0, .ref m), (1, g_n y.1), (2, g_n v2), (3, g_n n), (4, g_n v4), (5, g_n v5), (6, g_n v6), (7, g_n w0), (8, g_n (b_cl y.2.1))] [] M (g_qI Q) := by
      intro hz
      refine s_X12_boundsOf_308 hyR h2R h3R h4R h5R h6R h0R hcR fun _ => ⟨fun g1 => ?_, fun g1 => ?_⟩
      · refine m_X12_ending hcR fun _ => ⟨⟨by omega, by omega⟩, ?_⟩
        intro _ _ _
        exact ⟨hO, hG g g1 (hz g1)⟩
      · have h1 : b_cl y.2.1 = 1 := by omega
        exact hE g h1 (gc h1)
    refine s_X12_boundsOf_281 hyR h2R h3R h4R h5R h6R h0R hcR fun _ => ⟨fun g1 => ⟨fun g2 => h308 fun _ => g2, fun g2 => ?_⟩, fun g1 => h308 fun z => absurd z g1⟩
    refine m_X12_beginning hcR fun _ => ⟨⟨by omega, by omega⟩, ?_⟩
    intro _ _ _
    exact ⟨hO, hL g g1 g2⟩
  exact ⟨fun g => ⟨fun g1 => ⟨fun g2 => h281 g fun _ => g2, fun g2 => hP (Or.inr ⟨g1, g2⟩)⟩, fun g1 => h281 g fun z => absurd z g1⟩, fun g => hP (Or.inl g)⟩
theorem e_boundsOf {Q : Int → g_M → Prop} {y : Int × b_E} {al : Bool} (hB : E_bk m ρ M) (hI : E_Iv m ρ L M) (hy : b_st (g_i M (ρ 0)) 922000 y.1 20 y.2.1 y.2.2.1 y.2.2.2) (hin : al = false → F_cd y.2.2.1 = 3 → y.2.1 = 4) (hl : L.length + (L_ch y.1 y.2).length + 2 < 6000) (hn : D_bo al y = none → Q 0 M) (hsm : ∀ P, D_bo al y = some P → ∀ M1, e_fr (E_IF m ρ) M M1 → E_Iv m ρ (L ++ P) M1 → Q 1 M1) : g_Call (d + 50) 394 [.ref m, g_n y.1, g_n (if al = true then 1 else 0)] M (g_qI Q) := by
  have hR := hB.R
  have hyW := hy.upW (B := g_i M (ρ 0)) fun _ _ => rfl
  have hyR : g_InR y.1 := hyW.R (by decide)
  have h61 := hI.1
  have b0 := hB.at (k := 0) (by decide)
  have b0A : g_A M (ρ 0) 0 2706210 := b0.2
  obtain ⟨w1, w2, w3, w4⟩ := hyW.val
  have hcl := b_cl_R y.2.1
  have hLR : g_InR (L.length : Int) := ⟨by omega, by omega⟩
  obtain ⟨v2, hv2⟩ : ∃ v2 : Int, v2 = if al = true then 1 else 0 := ⟨_, rfl⟩
  rw [← hv2]
  have hf2 : D_f v2 (al = true) := by rw [hv2]; exact D_f.of
  have v2R := hf2.R
  have hkf : al = false → D_k al y = F_cd y.2.2.1 := fun h => by
    unfold D_k
    rw [h, if_neg (by decide)]
  have hkt : al = true → D_k al y = 1 := fun h => if_pos h
  have hb01 : ∀ c : Bool, c = true ∨ c = false := fun c => by cases c <;> simp
  -- a value alone
  have hpt : D_bo al y = some [D_pt y] → g_Call (d + 49) 393 [.ref m, g_n L.length, g_n y.1] M (g_qV fun M7 => g_ext M M7 → g_ok M7 → Q 1 M7) := fun h => by
    refine e_addPoint (d := d + 1) (L0 := L) (P := []) hB (by rw [List.map_nil, List.append_nil]; exact hI) (by rw [List.length_nil]; omega) (fun z hz => absurd hz (by simp)) hyW fun M1 f1 I1 => ?_
    intro _ _
    exact hsm _ h M1 f1 I1
  have h247 : ∀ v4 v5 v6 w0 : Int, D_f v4 (D_k al y = 1) → D_f v5 (F_cd y.2.2.1 = 5 ∨ F_cd y.2.2.1 = 6) → D_f v6 (F_cd y.2.2.1 = 7 ∨ F_cd y.2.2.1 = 8) → D_f w0 (F_cd y.2.2.1 = 6 ∨ F_cd y.2.2.1 = 8) → (¬ v4 = 0 ∨ ¬ v5 = 0 ∨ ¬ v6 = 0) → ¬ y.2.1 = 4 → g_Run (d + 49) 394 247 [(0, .ref m), (1, g_n y.1), (2, g_n v2), (3, g_n L.length), (4, g_n v4), (5, g_n v5), (6, g_n v6)] [g_n w0] M (g_qI Q) := by
    intro v4 v5 v6 w0 f4 f5 f6 f0 hs hr
    have hfk : v4 = 0 → D_k al y = F_cd y.2.2.1 := fun h => by
      rcases hb01 al with g | g
      · exact absurd (hkt g) (f4.n h)
      · exact hkf g
    have h78 : v4 = 0 → v5 = 0 → F_cd y.2.2.1 = 7 ∨ F_cd y.2.2.1 = 8 := fun a c => by
      rcases hs with z | z | z
      · exact absurd a z
      · exact absurd c z
      · exact f6.y z
    refine e_boF hB.1 hR hyW v2R hLR f4.R f5.R f6.R f0.R (fun h => hpt ?_) (fun a c e => ?_) (fun a c e => ?_) fun a c e => ?_
    · by_cases g4 : v4 = 0
      · have hk := hfk g4
        obtain ⟨c1, c2⟩ : b_cl y.2.1 = 1 ∧ ¬ w0 = 0 := by
          rcases h with z | z
          · exact absurd g4 z
          · exact z
        rcases f0.y c2 with g | g
        · rw [← hk] at g
          rw [D_bo_5 (Or.inr g) hr, if_pos c1, if_pos g]
        · rw [← hk] at g
          rw [D_bo_7 (Or.inr g) hr, if_pos c1, if_pos g]
      · exact D_bo_1 (f4.y g4) hr
    · have hk := hfk a
      have n0 := f0.n e
      rw [← hk] at n0
      have hb : D_bo al y = some [] := by
        by_cases g5 : v5 = 0
        · have h7 := h78 a g5
          rw [← hk] at h7
          rw [D_bo_7 h7 hr, if_pos c, if_neg fun z => n0 (Or.inr z)]
        · have h5 := f5.y g5
          rw [← hk] at h5
          rw [D_bo_5 h5 hr, if_pos c, if_neg fun z => n0 (Or.inl z)]
      refine hsm [] hb M (e_fr.rf _ _) ?_
      rw [List.append_nil]
      exact hI
    · have hk := hfk a
      have h5 := f5.y e
      rw [← hk] at h5
      have c1 : ¬ b_cl y.2.1 = 1 := fun z => by rw [z] at c; exact absurd c (by decide)
      refine e_addIv (d := d + 48) (x := (b_cl y.2.1, none, false, some y, decide (D_k al y = 6))) hB hI (by omega) rfl rfl rfl ?_ ⟨by omega, by omega⟩ hyR fun M1 f1 I1 => ?_
      · show w0 = if decide (D_k al y = 6) = true then 1 else 0
        by_cases g6 : D_k al y = 6
        · rw [decide_eq_true g6, if_pos rfl]
          rcases f0 with z | z
          · exact z.2
          · exact absurd (Or.inl (by rw [← hk]; exact g6)) z.1
        · rw [decide_eq_false g6, if_neg (by decide)]
          rcases f0 with z | z
          · rcases z.1 with u | u
            · exact absurd (by rw [hk]; exact u) g6
            · rw [hk, u] at h5
              exact absurd h5 (by decide)
          · exact z.2
      · intro _ _
        exact hsm _ (by rw [D_bo_5 h5 hr, if_neg c1]) M1 f1 I1
    · have hk := hfk a
      have h7 := h78 a e
      rw [← hk] at h7
      have c1 : ¬ b_cl y.2.1 = 1 := fun z => by rw [z] at c; exact absurd c (by decide)
      refine e_addIv (d := d + 48) (x := (b_cl y.2.1, some y, decide (D_k al y = 8), none, false)) hB hI (by omega) rfl ?_ rfl rfl hyR ⟨by omega, by omega⟩ fun M1 f1 I1 => ?_
      · show w0 = if decide (D_k al y = 8) = true then 1 else 0
        by_cases g6 : D_k al y = 8
        · rw [decide_eq_true g6, if_pos rfl]
          rcases f0 with z | z
          · exact z.2
          · exact absurd (Or.inr (by rw [← hk]; exact g6)) z.1
        · rw [decide_eq_false g6, if_neg (by decide)]
          rcases f0 with z | z
          · rcases z.1 with u | u
            · rw [hk, u] at h7
              exact absurd h7 (by decide)
            · exact absurd (by rw [hk]; exact u) g6
          · exact z.2
      · intro _ _
        exact hsm _ (by rw [D_bo_7 h7 hr, if_neg c1]) M1 f1 I1
  have h208 : ∀ v4 v5 v6 : Int, D_f v4 (D_k al y = 1) → D_f v5 (F_cd y.2.2.1 = 5 ∨ F_cd y.2.2.1 = 6) → D_f v6 (F_cd y.2.2.1 = 7 ∨ F_cd y.2.2.1 = 8) → (¬ v4 = 0 ∨ ¬ v5 = 0 ∨ ¬ v6 = 0) → ¬ D_k al y = 3 → g_Run (d + 49) 394 208 [(0, .ref m), (1, g_n y.1), (2, g_n v2), (3, g_n L.length), (4, g_n v4), (5, g_n v5), (6, g_n v6)] [] M (g_qI Q) := by
    intro v4 v5 v6 f4 f5 f6 hs h3
    refine s_X12_boundsOf_208 hyR v2R hLR f4.R f5.R f6.R fun _ => ⟨hB.1, ρ 0, b0.1, 2706210, b0A, ⟨by omega, by omega⟩, fun g => hn (D_bo_4 h3 (by rw [← w4]; exact g)), fun g => ?_⟩
    rw [w4] at g
    refine e_cdF (d := d + 45) (j := 102) (i := 6) (by decide) (by decide +kernel) (by decide) (by decide) hR hyW fun r hr => ?_
    intro _ _ _
    refine ⟨fun z => ?_, fun z => h247 v4 v5 v6 1 f4 f5 f6 (Or.inl ⟨Or.inl (hr.y z), rfl⟩) hs g⟩
    refine e_cdF (d := d + 45) (j := 104) (i := 8) (by decide) (by decide +kernel) (by decide) (by decide) hR hyW fun r2 hr2 => ?_
    intro _ _ _
    exact ⟨fun z2 => h247 v4 v5 v6 0 f4 f5 f6 (Or.inr ⟨fun u => u.elim (hr.n z) (hr2.n z2), rfl⟩) hs g, fun z2 => h247 v4 v5 v6 1 f4 f5 f6 (Or.inl ⟨Or.inr (hr2.y z2), rfl⟩) hs g⟩
  have h162 : ∀ v4 v5 : Int, D_f v4 (D_k al y = 1) → D_f v5 (F_cd y.2.2.1 = 5 ∨ F_cd y.2.2.1 = 6) → ¬ D_k al y = 3 → g_Run (d + 49) 394 162 [(0, .ref m), (1, g_n y.1), (2, g_n v2), (3, g_n L.length), (4, g_n v4)] [g_n v5] M (g_qI Q) := by
    intro v4 v5 f4 f5 h3
    have h186 : F_cd y.2.2.1 = 7 ∨ F_cd y.2.2.1 = 8 → g_Run (d + 49) 394 186 [(0, .ref m), (1, g_n y.1), (2, g_n v2), (3, g_n L.length), (4, g_n v4), (5, g_n v5)] [] M (g_qI Q) := fun h => by
      have h9 := h208 v4 v5 1 f4 f5 (Or.inl ⟨h, rfl⟩) (Or.inr (Or.inr (by decide))) h3
      exact s_X12_boundsOf_186 hyR v2R hLR f4.R f5.R fun _ => ⟨fun _ => ⟨fun _ => h9, fun _ => h9⟩, fun _ => h9⟩
    refine s_X12_boundsOf_162 hyR v2R hLR f4.R f5.R fun _ => ⟨hB.1, e_cdF (d := d + 45) (j := 103) (i := 7) (by decide) (by decide +kernel) (by decide) (by decide) hR hyW fun r hr => ?_⟩
    intro _ _ _
    refine ⟨fun z => ?_, fun z => h186 (Or.inl (hr.y z))⟩
    refine e_cdF (d := d + 45) (j := 104) (i := 8) (by decide) (by decide +kernel) (by decide) (by decide) hR hyW fun r2 hr2 => ?_
    intro _ _ _
    refine ⟨fun z2 => ?_, fun z2 => h186 (Or.inr (hr2.y z2))⟩
    have n7 : ¬ (F_cd y.2.2.1 = 7 ∨ F_cd y.2.2.1 = 8) := fun u => u.elim (hr.n z) (hr2.n z2)
    have h9 : (¬ v4 = 0 ∨ ¬ v5 = 0) → g_Run (d + 49) 394 208 [(0, .ref m), (1, g_n y.1), (2, g_n v2), (3, g_n L.length), (4, g_n v4), (5, g_n v5), (6, g_n 0)] [] M (g_qI Q) := fun h => h208 v4 v5 0 f4 f5 (Or.inr ⟨n7, rfl⟩) (h.elim Or.inl fun u => Or.inr (Or.inl u)) h3
    refine ⟨fun g => ⟨fun g1 => hn ?_, fun g1 => h9 (Or.inr g1)⟩, fun g => h9 (Or.inl g)⟩
    have hal : al = false := by
      rcases hb01 al with u | u
      · exact absurd (hkt u) (f4.n g)
      · exact u
    have hk := hkf hal
    exact D_bo_no (f4.n g) h3 (by rw [hk]; exact f5.n g1) (by rw [hk]; exact n7)
  have h135 : ∀ v4 : Int, D_f v4 (D_k al y = 1) → ¬ D_k al y = 3 → g_Run (d + 49) 394 135 [(0, .ref m), (1, g_n y.1), (2, g_n v2), (3, g_n L.length), (4, g_n v4)] [] M (g_qI Q) := by
    intro v4 f4 h3
    refine s_X12_boundsOf_135 hyR v2R hLR f4.R fun _ => ⟨hB.1, e_cdF (d := d + 45) (j := 101) (i := 5) (by decide) (by decide +kernel) (by decide) (by decide) hR hyW fun r hr => ?_⟩
    intro _ _ _
    refine ⟨fun z => ?_, fun z => h162 v4 1 f4 (Or.inl ⟨Or.inl (hr.y z), rfl⟩) h3⟩
    refine e_cdF (d := d + 45) (j := 102) (i := 6) (by decide) (by decide +kernel) (by decide) (by decide) hR hyW fun r2 hr2 => ?_
    intro _ _ _
    exact ⟨fun z2 => h162 v4 0 f4 (Or.inr ⟨fun u => u.elim (hr.n z) (hr2.n z2), rfl⟩) h3, fun z2 => h162 v4 1 f4 (Or.inl ⟨Or.inr (hr2.y z2), rfl⟩) h3⟩
  have h25 : ∀ v4 : Int, D_f v4 (D_k al y = 1) → g_Run (d + 49) 394 25 [(0, .ref m), (1, g_n y.1), (2, g_n v2), (3, g_n L.length)] [g_n v4] M (g_qI Q) := by
    intro v4 f4
    refine s_X12_boundsOf_25 hyR v2R hLR f4.R fun _ => ⟨fun g => ⟨hB.1, e_cdF (d := d + 45) (j := 99) (i := 3) (by decide) (by decide +kernel) (by decide) (by decide) hR hyW fun r hr => ?_⟩, fun g => h135 v4 f4 fun z => ?_⟩
    · intro _ _ _
      have hal : al = false := by
        rcases hb01 al with u | u
        · exact absurd (hkt u) (f4.n g)
        · exact u
      have hk := hkf hal
      refine ⟨fun z => h135 v4 f4 (by rw [hk]; exact hr.n z), fun z => ?_⟩
      have hk3 := hr.y z
      have h4 := hin hal hk3
      obtain ⟨D1, eD, hct, -⟩ := E_ct.of (z := y.2) hy (Or.inr h4)
      have hq1 := hct.2.2.1
      rw [b_doc_len] at hq1
      have hLc : L_ch y.1 y.2 = L_at (y.1 + 2 + (y.2.2.1.length : Int) + 4) (b_ch y.2.2.2) := by
        unfold L_ch
        rw [show y.1 + 6 + (y.2.2.1.length : Int) = y.1 + 2 + y.2.2.1.length + 4 by omega]
      have hD3 : D_k al y = 3 := hk.trans hk3
      refine e_vl2 (d := d + 47) hR hyW ?_
      intro _ _ _
      refine e_first (d := d + 48) (by omega) (by omega) ?_
      intro _ _ _
      have hz2 : v2 = 0 := by rw [hv2, hal]; rfl
      rw [g, hz2]
      refine e_boundsIn (d := d) hB hI hyW hct (by omega) rfl (by rw [← hLc]; exact hl) (fun h => hn ?_) fun h M1 f1 I1 => hsm _ ?_ M1 f1 I1
      · unfold D_bo
        rw [if_pos hD3, hLc, if_pos h]
      · unfold D_bo
        rw [if_pos hD3, hLc, if_neg (by rw [h]; decide)]
    · have := f4.y g
      rw [this] at z
      exact absurd z (by decide)
  refine m_X12_boundsOf hyR v2R fun _ => ⟨hB.1, fun g => ?_, fun g => ?_⟩
  · have hal : al = false := by
      rcases hb01 al with u | u
      · exact absurd u (hf2.n g)
      · exact u
    have hk := hkf hal
    refine e_cdF (d := d + 45) (j := 97) (i := 1) (by decide) (by decide +kernel) (by decide) (by decide) hR hyW fun r hr => ?_
    rw [h61]
    intro _ _ _
    exact ⟨fun z => h25 0 (Or.inr ⟨by rw [hk]; exact hr.n z, rfl⟩), fun z => h25 1 (Or.inl ⟨by rw [hk]; exact hr.y z, rfl⟩)⟩
  · rw [h61]
    exact h25 1 (Or.inl ⟨hkt (hf2.y g), rfl⟩)
end DBF
