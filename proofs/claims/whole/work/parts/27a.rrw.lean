/-! TREES OF THE REFERENCE: its rows; a node's children and marks -/
def R_fs : List Nat := [45, 46, 48, 49, 50, 51, 52, 53, 54]
def R_ty (k : Nat) : Nat := if k = 45 ∨ k = 48 ∨ k = 49 then 2 else 1
def R_ln (k : Nat) : Int := if k ≤ 46 then 12000 else if k ≤ 50 then 4800 else if k ≤ 52 then 48000 else 8
/-- the rows of all trees -/
def R_rw (m b : Nat) (ρ : Nat → Nat) (M : g_M) : Prop := e_R M m b ∧ (∀ k ∈ R_fs, g_r M m k = some (ρ k) ∧ g_A M (ρ k) (R_ty k) (R_ln k)) ∧ ∀ k ∈ R_fs, ∀ k2 ∈ R_fs, ρ k = ρ k2 → k = k2
section RRW
variable {m b : Nat} {ρ : Nat → Nat} {M M1 : g_M}
theorem R_rw.at (h : R_rw m b ρ M) {k : Nat} (hk : k ∈ R_fs) : g_r M m k = some (ρ k) ∧ g_A M (ρ k) (R_ty k) (R_ln k) := h.2.1 k hk
theorem R_rw.ne (h : R_rw m b ρ M) {k k2 : Nat} (hk : k ∈ R_fs) (hk2 : k2 ∈ R_fs) (hn : k ≠ k2) : ρ k ≠ ρ k2 := fun z => hn (h.2.2 k hk k2 hk2 z)
theorem R_rw.nm (h : R_rw m b ρ M) {k : Nat} (hk : k ∈ R_fs) : ρ k ≠ m := fun z => g_neOA h.1.1 (h.at hk).2 z.symm
theorem R_rw.nb (h : R_rw m b ρ M) {k : Nat} (hk : k ∈ R_fs) : ρ k ≠ b := fun z => by
  have h1 := (h.at hk).2
  rw [z] at h1
  have h2 := (h1.fn h.1.2.2).1
  unfold R_ty at h2
  split at h2
  · exact absurd h2 (by decide)
  · exact absurd h2 (by decide)
theorem R_rw.fr {S : Nat → Int → Prop} (h : R_rw m b ρ M) (f : e_fr S M M1) : R_rw m b ρ M1 :=
  ⟨f.R h.1, fun k hk => ⟨by rw [f.2.2]; exact (h.at hk).1, f.A (h.at hk).2⟩, h.2.2⟩
end RRW
/-- a node of index x has these children and marks -/
def R_at (ρ : Nat → Nat) (x n : Nat) (M : g_M) (ps : List (Int × Int)) : Prop := b_at (g_i M (ρ 51)) (10 * (600 * x + n)) (ps.map Prod.fst) ∧ b_at (g_i M (ρ 52)) (10 * (600 * x + n)) (ps.map Prod.snd)
def R_no (ρ : Nat → Nat) (x n : Nat) (M : g_M) (f : Int) (ps : List (Int × Int)) : Prop := g_i M (ρ 49) (600 * x + n) = f ∧ g_i M (ρ 50) (600 * x + n) = ps.length ∧ R_at ρ x n M ps
/-- the places of a node -/
def R_nA (ρ : Nat → Nat) (x n : Nat) (y : Nat) (q : Int) : Prop := ((y = ρ 51 ∨ y = ρ 52) ∧ 10 * (600 * (x : Int) + n) ≤ q ∧ q < 10 * (600 * x + n) + 10) ∨ (y = ρ 50 ∧ q = 600 * x + n)
section RNO
variable {m b d x n : Nat} {ρ : Nat → Nat} {M M1 : g_M}
theorem e_sizeOf {Q : Int → g_M → Prop} (h : R_rw m b ρ M) (hx : x < 8) (hn : n < 600) (hq : Q (g_i M (ρ 50) (600 * x + n)) M) : g_Call (d + 1) 367 [.ref m, g_n x, g_n n] M (g_qI Q) := by
  obtain ⟨h1, h2⟩ := h.at (k := 50) (by decide)
  have h2 : g_A M (ρ 50) 1 4800 := h2
  refine m_X12_sizeOf ⟨by omega, by omega⟩ ⟨by omega, by omega⟩ fun _ => ⟨h.1.1, ρ 50, h1, ⟨by omega, by omega⟩, ⟨by omega, by omega⟩, 4800, h2, ⟨by omega, by omega⟩, ?_⟩
  rw [show (x : Int) * 600 + n = 600 * x + n by omega]
  exact hq
theorem e_setSize {Q : g_M → Prop} {v : Int} (h : R_rw m b ρ M) (hx : x < 8) (hn : n < 600) (hv : g_InR v) (hq : Q (g_wi M (ρ 50) (600 * x + n) v)) : g_Call (d + 1) 368 [.ref m, g_n x, g_n n, g_n v] M (g_qV Q) := by
  obtain ⟨h1, h2⟩ := h.at (k := 50) (by decide)
  have h2 : g_A M (ρ 50) 1 4800 := h2
  refine m_X12_setSize ⟨by omega, by omega⟩ ⟨by omega, by omega⟩ hv fun _ => ⟨h.1.1, ρ 50, h1, ⟨by omega, by omega⟩, ⟨by omega, by omega⟩, 4800, h2, ⟨by omega, by omega⟩, fun M9 e9 _ => ?_⟩
  rw [e9, show (x : Int) * 600 + n = 600 * x + n by omega]
  exact hq
theorem e_isLeafN {Q : Int → g_M → Prop} (h : R_rw m b ρ M) (hx : x < 8) (hn : n < 600) (hf : g_i M (ρ 49) (600 * x + n) = 0 ∨ g_i M (ρ 49) (600 * x + n) = 1) (hq : Q (g_i M (ρ 49) (600 * x + n)) M) : g_Call (d + 1) 376 [.ref m, g_n x, g_n n] M (g_qI Q) := by
  obtain ⟨h1, h2⟩ := h.at (k := 49) (by decide)
  have h2 : g_A M (ρ 49) 2 4800 := h2
  refine m_X12_isLeafNode ⟨by omega, by omega⟩ ⟨by omega, by omega⟩ fun _ => ⟨h.1.1, ρ 49, h1, ⟨by omega, by omega⟩, ⟨by omega, by omega⟩, 4800, h2, ⟨by omega, by omega⟩, ?_⟩
  rw [show (x : Int) * 600 + n = 600 * x + n by omega]
  exact ⟨hf, hq⟩
theorem e_slot {Q : Int → g_M → Prop} {k : Int} (hx : x < 8) (hn : n < 600) (h0 : 0 ≤ k) (h1 : k < 100) (hq : Q (10 * (600 * x + n) + k) M) : g_Call (d + 1) 369 [.ref m, g_n x, g_n n, g_n k] M (g_qI Q) := by
  refine m_X12_slot ⟨by omega, by omega⟩ ⟨by omega, by omega⟩ ⟨by omega, by omega⟩ fun _ => ⟨⟨by omega, by omega⟩, ⟨by omega, by omega⟩, ⟨by omega, by omega⟩, ⟨by omega, by omega⟩, ?_⟩
  rw [show (x : Int) * 600 + n = 600 * x + n by omega]
  exact hq
theorem b_at_put {B B1 : Int → Int} {p : Int} {X Y : List Int} {v v2 : Int} (h : b_at B p (X ++ v :: Y)) (h1 : ∀ q, q ≠ p + X.length → B1 q = B q) (h2 : B1 (p + X.length) = v2) : b_at B1 p (X ++ v2 :: Y) := by
  obtain ⟨b1, b2⟩ := b_app.mp h
  obtain ⟨b3, b4⟩ := b_cons.mp b2
  exact b_app.mpr ⟨b_at_keep b1 fun q q1 q2 => h1 q (by omega), b_cons.mpr ⟨h2, b_at_keep b4 fun q q1 q2 => h1 q (by omega)⟩⟩
/-- a child and a mark are set -/
theorem R_at.put {X Y : List (Int × Int)} {v v2 : Int × Int} (hR : R_rw m b ρ M) (h : R_at ρ x n M (X ++ v :: Y)) (hX : X.length < 10) (hM : M1 = g_wi (g_wi M (ρ 51) (10 * (600 * x + n) + X.length) v2.1) (ρ 52) (10 * (600 * x + n) + X.length) v2.2) : R_at ρ x n M1 (X ++ v2 :: Y) ∧ e_fr (R_nA ρ x n) M M1 := by
  have hne := hR.ne (k := 51) (k2 := 52) (by decide) (by decide) (by decide)
  obtain ⟨h1, h2⟩ := h
  rw [List.map_append, List.map_cons] at h1 h2
  have hl1 : (X.map Prod.fst).length = X.length := List.length_map _
  have hl2 : (X.map Prod.snd).length = X.length := List.length_map _
  subst hM
  refine ⟨⟨?_, ?_⟩, (e_fr.wi _ (Or.inl ⟨Or.inl rfl, by omega, by omega⟩)).tr (e_fr.wi _ (Or.inl ⟨Or.inr rfl, by omega, by omega⟩))⟩
  · rw [List.map_append, List.map_cons]
    refine b_at_put h1 (fun q hq => ?_) ?_
    · rw [g_i_wi, if_neg (fun z => hne z.1), g_i_wi, if_neg (fun z => hq (by rw [hl1]; exact z.2))]
    · rw [g_i_wi, if_neg (fun z => hne z.1), g_i_wi, if_pos ⟨rfl, by rw [hl1]⟩]
  · rw [List.map_append, List.map_cons]
    refine b_at_put h2 (fun q hq => ?_) ?_
    · rw [g_i_wi, if_neg (fun z => hq (by rw [hl2]; exact z.2)), g_i_wi, if_neg (fun z => hne z.1.symm)]
    · rw [g_i_wi, if_pos ⟨rfl, by rw [hl2]⟩]
theorem R_at.get {X Y : List (Int × Int)} {v : Int × Int} (h : R_at ρ x n M (X ++ v :: Y)) : g_i M (ρ 51) (10 * (600 * x + n) + X.length) = v.1 ∧ g_i M (ρ 52) (10 * (600 * x + n) + X.length) = v.2 := by
  obtain ⟨h1, h2⟩ := h
  rw [List.map_append, List.map_cons] at h1 h2
  have h3 := (b_cons.mp (b_app.mp h1).2).1
  have h4 := (b_cons.mp (b_app.mp h2).2).1
  rw [List.length_map] at h3 h4
  exact ⟨h3, h4⟩
theorem R_at.fr {S : Nat → Int → Prop} {ps : List (Int × Int)} (h : R_at ρ x n M ps) (f : e_fr S M M1) (h10 : ps.length ≤ 10) (hS : ∀ q : Int, 10 * (600 * (x : Int) + n) ≤ q → q < 10 * (600 * x + n) + 10 → ¬ S (ρ 51) q ∧ ¬ S (ρ 52) q) : R_at ρ x n M1 ps := by
  refine ⟨b_at_keep h.1 fun q q1 q2 => f.2.1 _ _ (hS q q1 ?_).1, b_at_keep h.2 fun q q1 q2 => f.2.1 _ _ (hS q q1 ?_).2⟩
  · rw [List.length_map] at q2
    omega
  · rw [List.length_map] at q2
    omega
/-- all ten places -/
theorem R_at.more {ps : List (Int × Int)} (h : R_at ρ x n M ps) : ∃ v, R_at ρ x n M (ps ++ [v]) := by
  refine ⟨(g_i M (ρ 51) (10 * (600 * x + n) + ps.length), g_i M (ρ 52) (10 * (600 * x + n) + ps.length)), ?_, ?_⟩
  · rw [List.map_append]
    refine b_app.mpr ⟨h.1, b_cons.mpr ⟨?_, b_nil _ _⟩⟩
    rw [List.length_map]
  · rw [List.map_append]
    refine b_app.mpr ⟨h.2, b_cons.mpr ⟨?_, b_nil _ _⟩⟩
    rw [List.length_map]
theorem e_insertAt {Q : g_M → Prop} {A B : List (Int × Int)} {f v w : Int} (hR : R_rw m b ρ M) (hx : x < 8) (hn : n < 600) (h : R_no ρ x n M f (A ++ B)) (hl : (A ++ B).length ≤ 9) (hv : g_InR v) (hw : g_InR w) (hc : ∀ y ∈ A ++ B, g_InR y.1 ∧ g_InR y.2) (hq : ∀ M1, e_fr (R_nA ρ x n) M M1 → R_no ρ x n M1 f (A ++ (v, w) :: B) → Q M1) : g_Call (d + 2) 372 [.ref m, g_n x, g_n n, g_n A.length, g_n v, g_n w] M (g_qV Q) := by
  obtain ⟨k1, k2, k3⟩ := h
  rw [List.length_append] at hl k2
  have n50 := hR.ne (k := 50) (k2 := 51) (by decide) (by decide) (by decide)
  have n502 := hR.ne (k := 50) (k2 := 52) (by decide) (by decide) (by decide)
  have n49 := hR.ne (k := 49) (k2 := 51) (by decide) (by decide) (by decide)
  have n492 := hR.ne (k := 49) (k2 := 52) (by decide) (by decide) (by decide)
  have n495 := hR.ne (k := 49) (k2 := 50) (by decide) (by decide) (by decide)
  have h49 : ∀ {M2 : g_M}, e_fr (R_nA ρ x n) M M2 → g_i M2 (ρ 49) (600 * x + n) = f := fun f2 => by
    rw [f2.2.1 (ρ 49) _ fun z => ?_]
    · exact k1
    · rcases z with ⟨z | z, -⟩ | ⟨z, -⟩
      · exact n49 z
      · exact n492 z
      · exact n495 z
  have hlp : ∀ (r : Nat) (B1 B2 : List (Int × Int)) (u : Int × Int) (M2 : g_M), B1.length = r → B = B1 ++ B2 → e_fr (R_nA ρ x n) M M2 → R_at ρ x n M2 ((A ++ B1) ++ u :: B2) → g_Run (d + 1) 372 12 [(0, .ref m), (1, g_n x), (2, g_n n), (3, g_n A.length), (4, g_n v), (5, g_n w), (6, g_n ((A.length + B.length : Nat) : Int)), (7, g_n ((A.length + r : Nat) : Int))] [] M2 (g_qV Q) := by
    intro r
    induction r with
    | zero =>
      intro B1 B2 u M2 hr hB f2 a2
      have hB1 : B1 = [] := List.length_eq_zero_iff.mp hr
      rw [hB1, List.nil_append] at hB
      rw [hB1, List.append_nil] at a2
      rw [← hB] at a2
      have hR2 := hR.fr f2
      obtain ⟨r1, r2⟩ := hR2.at (k := 51) (by decide)
      have r2 : g_A M2 (ρ 51) 1 48000 := r2
      refine s_X12_insertAt_12 ⟨by omega, by omega⟩ ⟨by omega, by omega⟩ ⟨by omega, by omega⟩ hv hw ⟨by omega, by omega⟩ ⟨by omega, by omega⟩ fun _ => ⟨fun z => absurd z (by omega), fun _ => ⟨hR2.1.1, ρ 51, r1, e_slot (d := d) hx hn (by omega) (by omega) ?_⟩⟩
      intro _ _ _
      refine ⟨48000, r2, ⟨by omega, by omega⟩, fun M12 e12 _ => ?_⟩
      have f12 : e_fr (R_nA ρ x n) M2 M12 := by
        rw [e12]
        exact e_fr.wi _ (Or.inl ⟨Or.inl rfl, by omega, by omega⟩)
      have hR12 := hR2.fr f12
      obtain ⟨s1, s2⟩ := hR12.at (k := 52) (by decide)
      have s2 : g_A M12 (ρ 52) 1 48000 := s2
      refine ⟨ρ 52, s1, e_slot (d := d) hx hn (by omega) (by omega) ?_⟩
      intro _ _ _
      refine ⟨48000, s2, ⟨by omega, by omega⟩, fun M26 e26 _ => ?_⟩
      obtain ⟨a26, f26⟩ := a2.put (M1 := M26) (v2 := (v, w)) hR2 (by omega) (by rw [e26, e12])
      have hR26 := hR2.fr f26
      refine ⟨⟨by omega, by omega⟩, e_setSize (d := d) hR26 hx hn ⟨by omega, by omega⟩ ?_⟩
      intro _ _
      have f31 : e_fr (R_nA ρ x n) M26 (g_wi M26 (ρ 50) (600 * x + n) (((A.length + B.length : Nat) : Int) + 1)) := e_fr.wi _ (Or.inr ⟨rfl, rfl⟩)
      have ff := (f2.tr f26).tr f31
      refine hq _ ff ⟨h49 ff, ?_, ?_, ?_⟩
      · rw [g_i_wi, if_pos ⟨rfl, rfl⟩, List.length_append, List.length_cons]
        omega
      · exact b_at_keep a26.1 fun q _ _ => by rw [g_i_wi, if_neg (fun z => n50 z.1.symm)]
      · exact b_at_keep a26.2 fun q _ _ => by rw [g_i_wi, if_neg (fun z => n502 z.1.symm)]
    | succ r ih =>
      intro B1 B2 u M2 hr hB f2 a2
      obtain ⟨B3, y, hB3⟩ : ∃ B3 y, B1 = B3 ++ [y] := by
        have hne : B1 ≠ [] := fun z => by rw [z, List.length_nil] at hr; omega
        exact ⟨B1.dropLast, B1.getLast hne, (List.dropLast_concat_getLast hne).symm⟩
      subst hB3
      rw [List.length_append, List.length_singleton] at hr
      have hBl := congrArg List.length hB
      rw [List.length_append, List.length_append, List.length_singleton] at hBl
      have a3 : R_at ρ x n M2 ((A ++ B3) ++ y :: (u :: B2)) := by simpa using a2
      obtain ⟨y1, y2⟩ := a3.get
      have hAB : (A ++ B3).length = A.length + r := by rw [List.length_append]; omega
      rw [hAB] at y1 y2
      have hyR := hc y (by rw [hB]; simp)
      have hR2 := hR.fr f2
      obtain ⟨r1, r2⟩ := hR2.at (k := 51) (by decide)
      have r2 : g_A M2 (ρ 51) 1 48000 := r2
      refine s_X12_insertAt_12 ⟨by omega, by omega⟩ ⟨by omega, by omega⟩ ⟨by omega, by omega⟩ hv hw ⟨by omega, by omega⟩ ⟨by omega, by omega⟩ fun _ => ⟨fun _ => ⟨hR2.1.1, ρ 51, r1, e_slot (d := d) hx hn (by omega) (by omega) ?_⟩, fun z => absurd (by omega) z⟩
      intro _ _ _
      refine ⟨ρ 51, r1, ⟨by omega, by omega⟩, e_slot (d := d) hx hn (by omega) (by omega) ?_⟩
      intro _ _ _
      refine ⟨48000, r2, ⟨by omega, by omega⟩, 48000, r2, ⟨by omega, by omega⟩, fun M56 e56 _ => ?_⟩
      rw [show 10 * (600 * (x : Int) + n) + (((A.length + (r + 1) : Nat) : Int) - 1) = 10 * (600 * x + n) + ((A.length + r : Nat) : Int) by omega, y1] at e56
      have f56 : e_fr (R_nA ρ x n) M2 M56 := by
        rw [e56]
        exact e_fr.wi _ (Or.inl ⟨Or.inl rfl, by omega, by omega⟩)
      have hR56 := hR2.fr f56
      obtain ⟨s1, s2⟩ := hR56.at (k := 52) (by decide)
      have s2 : g_A M56 (ρ 52) 1 48000 := s2
      refine ⟨ρ 52, s1, e_slot (d := d) hx hn (by omega) (by omega) ?_⟩
      intro _ _ _
      refine ⟨ρ 52, s1, ⟨by omega, by omega⟩, e_slot (d := d) hx hn (by omega) (by omega) ?_⟩
      intro _ _ _
      refine ⟨48000, s2, ⟨by omega, by omega⟩, 48000, s2, ⟨by omega, by omega⟩, fun M81 e81 _ => ?_⟩
      have hne := hR.ne (k := 51) (k2 := 52) (by decide) (by decide) (by decide)
      have hy2' : g_i M56 (ρ 52) (10 * (600 * (x : Int) + n) + (((A.length + (r + 1) : Nat) : Int) - 1)) = y.2 := by
        rw [e56, g_i_wi, if_neg (fun z => hne z.1.symm), show 10 * (600 * (x : Int) + n) + (((A.length + (r + 1) : Nat) : Int) - 1) = 10 * (600 * x + n) + ((A.length + r : Nat) : Int) by omega]
        exact y2
      rw [hy2'] at e81
      have hX : ((A ++ (B3 ++ [y])).length : Int) = ((A.length + (r + 1) : Nat) : Int) := by
        rw [List.length_append, List.length_append, List.length_singleton]
        omega
      obtain ⟨a81, f81⟩ := a2.put (M1 := M81) (v2 := y) hR2 (by rw [List.length_append, List.length_append, List.length_singleton]; omega) (by rw [hX, e81, e56])
      refine ⟨⟨by omega, by omega⟩, ?_⟩
      have h9 := ih B3 (y :: B2) y M81 (by omega) (by rw [hB]; simp) (f2.tr f81) (by simpa using a81)
      rwa [show ((A.length + (r + 1) : Nat) : Int) + -1 = ((A.length + r : Nat) : Int) by omega]
  refine m_X12_insertAt ⟨by omega, by omega⟩ ⟨by omega, by omega⟩ ⟨by omega, by omega⟩ hv hw fun _ => ⟨hR.1.1, e_sizeOf (d := d) hR hx hn ?_⟩
  intro _ _ _
  rw [k2]
  obtain ⟨u, hu⟩ := k3.more
  have h9 := hlp B.length B [] u M rfl (List.append_nil B).symm (e_fr.rf _ _) hu
  exact h9
end RNO
