/-! REQUESTS, THE REFERENCE: insert -/
/-- no cell comes, and what an asked request does not touch -/
def E_k (m : Nat) (M M1 : g_M) : Prop := M1.1 = M.1 ∧ (∀ x k, g_r M1 x k = g_r M x k) ∧ g_i M1 m 2 = g_i M m 2 ∧ g_i M1 m 24 = g_i M m 24
theorem E_k.rf (m : Nat) (M : g_M) : E_k m M M := ⟨rfl, fun _ _ => rfl, rfl, rfl⟩
theorem E_k.tr {m : Nat} {M M1 M2 : g_M} (h : E_k m M M1) (h2 : E_k m M1 M2) : E_k m M M2 := ⟨h2.1.trans h.1, fun x k => (h2.2.1 x k).trans (h.2.1 x k), h2.2.2.1.trans h.2.2.1, h2.2.2.2.trans h.2.2.2⟩
theorem e_fr.k {S : Nat → Int → Prop} {m : Nat} {M M1 : g_M} (f : e_fr S M M1) (h2 : ¬ S m 2) (h24 : ¬ S m 24) : E_k m M M1 := ⟨f.1, f.2.2, f.2.1 m 2 h2, f.2.1 m 24 h24⟩
def H_up {α : Type} (q : Nat → α) (w : Nat) (l : α) (y : Nat) : α := if y = w then l else q y
/-- the documents of a shelf with their numbers -/
def R_dn (qs : List (Nat × Int × List b_E)) : List (Int × List b_E) := qs.map fun z => z.2
/-- how many entries come must fit -/
def I_fit (es : List b_E) (t : I_T) : Prop := ∀ V T m1 m2, t = some (V, T, m1, m2) → (N_all T).length + I_num V es ≤ 1000
/-- an index into which a document comes -/
noncomputable def I_add1 (es : List b_E) (no : Int) (t : I_T) : I_T := match t with
  | none => none
  | some (V, T, m1, m2) => some (V, I_in V (I_ens V es no) T, if 1 < (I_key1 V es).length then 1 else m1, if 1 < (I_key2 V es).length then 1 else m2)
theorem g_and_0 {v : Int} (h : v = 0 ∨ v = 1) : g_and v 0 = 0 := by rcases h with g | g <;> rw [g] <;> decide +kernel
theorem g_and_1 {v : Int} (h : v = 0 ∨ v = 1) : g_and v 1 = v := by rcases h with g | g <;> rw [g] <;> decide +kernel
section EINS
variable {m d : Nat} {ρ : Nat → Nat} {M M1 : g_M} {st : Nat → I_T} {q : Nat → List (Nat × Int × List b_E)} {v : Nat → Int} {L : List Int}
theorem E_le_k (h : E_bk m ρ M) {y : Nat} {k : Int} (hk : y = m ∧ (k = 2 ∨ k = 24)) : ¬ E_le m (ρ 9) y k := by
  rintro (z | ⟨-, z⟩)
  · exact h.nm (k := 9) (by decide) (z.symm.trans hk.1)
  · omega
theorem R_EF_k (h : E_bk m ρ M) {x : Nat} {k : Int} (hk : k = 2 ∨ k = 24) : ¬ R_EF m (ρ 0) (ρ 9) ρ x m k := fun z => by
  have := R_EF_m h.rw (h.at (k := 9) (by decide)).2 z
  omega
theorem R_MF_k (h : E_bk m ρ M) {x : Nat} {k : Int} (hk : k = 2 ∨ k = 24) : ¬ R_MF m ρ x m k := fun z => by
  rcases z with z | ⟨z, -⟩
  · exact E_le_k h ⟨rfl, hk⟩ z
  · exact h.nm (k := 39) (by decide) z.symm
theorem R_hP_m (h : E_bk m ρ M) {w : Nat} {k : Int} : ¬ R_hP ρ w m k := fun z => by
  obtain ⟨j, hj, -, -, e⟩ := R_hP_k z
  exact h.nm hj e.symm
/-- a shelf's own places keep all else -/
theorem R_hP_xP (h : E_bk m ρ M) {x w : Nat} (hw : w < 2) {y : Nat} {k : Int} (g : R_xP ρ x y k) : ¬ R_hP ρ w y k := by
  intro z
  have key : ∀ i ∈ E_bf, ∀ j ∈ E_bf, y = ρ i → y = ρ j → i = j := fun i hi j hj g1 g2 => h.2.2 i hi j hj (g1.symm.trans g2)
  have hz : (y = ρ 0 ∧ k < 802000) ∨ ∃ j ∈ [68, 69, 70, 71, 72, 73], y = ρ j := by
    rcases z with ⟨z | z | z, -⟩ | ⟨z | z | z, -⟩ | ⟨z, z1, z2⟩
    · exact Or.inr ⟨68, by decide, z⟩
    · exact Or.inr ⟨69, by decide, z⟩
    · exact Or.inr ⟨70, by decide, z⟩
    · exact Or.inr ⟨71, by decide, z⟩
    · exact Or.inr ⟨72, by decide, z⟩
    · exact Or.inr ⟨73, by decide, z⟩
    · exact Or.inl ⟨z, by omega⟩
  have hg : (y = ρ 0 ∧ 982000 ≤ k) ∨ ∃ j ∈ [35, 36, 37, 38, 39, 45, 46, 48, 49, 50, 51, 52, 53, 54], y = ρ j := by
    rcases g with ((⟨z | z, -⟩ | ⟨z, z1, -⟩ | ⟨z | z | z, -⟩ | ⟨z | z, -⟩ | ⟨z | z, -⟩) | ⟨z | z, -⟩ | ⟨z | z | z, -⟩ | ⟨z, z1, -⟩)
    · exact Or.inr ⟨45, by decide, z⟩
    · exact Or.inr ⟨46, by decide, z⟩
    · exact Or.inl ⟨z, by omega⟩
    · exact Or.inr ⟨48, by decide, z⟩
    · exact Or.inr ⟨49, by decide, z⟩
    · exact Or.inr ⟨50, by decide, z⟩
    · exact Or.inr ⟨51, by decide, z⟩
    · exact Or.inr ⟨52, by decide, z⟩
    · exact Or.inr ⟨53, by decide, z⟩
    · exact Or.inr ⟨54, by decide, z⟩
    · exact Or.inr ⟨35, by decide, z⟩
    · exact Or.inr ⟨36, by decide, z⟩
    · exact Or.inr ⟨37, by decide, z⟩
    · exact Or.inr ⟨38, by decide, z⟩
    · exact Or.inr ⟨39, by decide, z⟩
    · exact Or.inl ⟨z, by omega⟩
  have hA : ∀ j ∈ [68, 69, 70, 71, 72, 73], j ∈ E_bf ∧ j ≠ 0 ∧ j ∉ [35, 36, 37, 38, 39, 45, 46, 48, 49, 50, 51, 52, 53, 54] := by decide
  have hB : ∀ j ∈ [35, 36, 37, 38, 39, 45, 46, 48, 49, 50, 51, 52, 53, 54], j ∈ E_bf ∧ j ≠ 0 := by decide
  rcases hz with ⟨z1, z2⟩ | ⟨j, hj, z1⟩
  · rcases hg with ⟨g1, g2⟩ | ⟨i, hi, g1⟩
    · omega
    · exact (hB i hi).2 (key i (hB i hi).1 0 (by decide) g1 z1)
  · rcases hg with ⟨g1, g2⟩ | ⟨i, hi, g1⟩
    · exact (hA j hj).2.1 (key j (hA j hj).1 0 (by decide) z1 g1)
    · have := key j (hA j hj).1 i (hB i hi).1 z1 g1
      exact (hA j hj).2.2 (this ▸ hi)
theorem R_hP_hP (h : E_bk m ρ M) {w w2 : Nat} (hww : w ≠ w2) {y : Nat} {k : Int} (g : R_hP ρ w y k) : ¬ R_hP ρ w2 y k := by
  intro z
  have key : ∀ i ∈ E_bf, ∀ j ∈ E_bf, y = ρ i → y = ρ j → i = j := fun i hi j hj g1 g2 => h.2.2 i hi j hj (g1.symm.trans g2)
  have hc : ∀ w, R_hP ρ w y k → ((y = ρ 68 ∨ y = ρ 69 ∨ y = ρ 70) ∧ k = w) ∨ ((y = ρ 71 ∨ y = ρ 72 ∨ y = ρ 73) ∧ 200 * (w : Int) ≤ k ∧ k < 200 * w + 200) ∨ (y = ρ 0 ∧ 2000 + 400000 * (w : Int) ≤ k ∧ k < 2000 + 400000 * w + 400000) := fun w h => h
  have d1 : (y = ρ 68 ∨ y = ρ 69 ∨ y = ρ 70) → ¬ (y = ρ 71 ∨ y = ρ 72 ∨ y = ρ 73) ∧ y ≠ ρ 0 := by
    rintro (a | a | a)
    all_goals refine ⟨?_, fun b => absurd (key _ (by decide) _ (by decide) a b) (by decide)⟩
    all_goals rintro (b | b | b)
    all_goals exact absurd (key _ (by decide) _ (by decide) a b) (by decide)
  have d2 : (y = ρ 71 ∨ y = ρ 72 ∨ y = ρ 73) → y ≠ ρ 0 := by
    rintro (a | a | a) b
    all_goals exact absurd (key _ (by decide) _ (by decide) a b) (by decide)
  rcases hc w g with ⟨a1, a2⟩ | ⟨a1, a2, a3⟩ | ⟨a1, a2, a3⟩
  · rcases hc w2 z with ⟨b1, b2⟩ | ⟨b1, b2, b3⟩ | ⟨b1, b2, b3⟩
    · omega
    · exact (d1 a1).1 b1
    · exact (d1 a1).2 b1
  · rcases hc w2 z with ⟨b1, b2⟩ | ⟨b1, b2, b3⟩ | ⟨b1, b2, b3⟩
    · exact (d1 b1).1 a1
    · omega
    · exact d2 a1 b1
  · rcases hc w2 z with ⟨b1, b2⟩ | ⟨b1, b2, b3⟩ | ⟨b1, b2, b3⟩
    · exact (d1 b1).2 a1
    · exact d2 b1 a1
    · omega
theorem E_H.hp {w : Nat} {qs : List (Nat × Int × List b_E)} {gv : Int} (h : E_H m ρ st q v M) (hw : w < 2) (f : e_fr (R_hP ρ w) M M1) (hs : R_hs ρ w qs gv M1) : E_H m ρ st (H_up q w qs) (H_up v w gv) M1 := by
  obtain ⟨h1, h2, h3, h4, h5⟩ := h
  have h47 : g_i M1 m 47 = -1 := by
    rw [f.2.1 m 47 (R_hP_m h1)]
    exact h2
  refine ⟨h1.fr f, h47, b_at_keep h3 fun k k1 k2 => f.2.1 _ _ fun z => ?_, fun x hx => (h4 x hx).fr f (fun y k z => R_hP_xP h1 hw z) h47, fun w2 hw2 => ?_⟩
  · have d : ∀ j ∈ [68, 69, 70, 71, 72, 73], ρ 0 ≠ ρ j := fun j hj => h1.ne (by decide) (by
      have : ∀ j ∈ [68, 69, 70, 71, 72, 73], j ∈ E_bf := by decide
      exact this j hj) (by
      have : ∀ j ∈ [68, 69, 70, 71, 72, 73], 0 ≠ j := by decide
      exact this j hj)
    rcases z with ⟨z | z | z, -⟩ | ⟨z | z | z, -⟩ | ⟨-, z1, z2⟩
    · exact d 68 (by decide) z
    · exact d 69 (by decide) z
    · exact d 70 (by decide) z
    · exact d 71 (by decide) z
    · exact d 72 (by decide) z
    · exact d 73 (by decide) z
    · omega
  · unfold H_up
    by_cases g : w2 = w
    · rw [if_pos g, if_pos g, g]
      exact hs
    · rw [if_neg g, if_neg g]
      exact (h5 w2 hw2).fr f fun y k z => R_hP_hP h1 g z
theorem E_S.le {F : Int → Int} {m b l : Nat} (h : E_S m b l F M L) {k : Int} (hk : k = 40) {vv : Int} : E_S m b l F (g_wi M m k vv) L ∧ e_fr (E_le m l) M (g_wi M m k vv) := h.fld (by omega) rfl
/-- where a document of a shelf stands, and what it has -/
theorem e_findSlot {Q : Int → g_M → Prop} {w : Nat} {v1 v3 v4 v5 v6 : Int} {qs : List (Nat × Int × List b_E)} {gv : Int} (hv1 : g_InR v1) (hv3 : g_InR v3) (hv4 : g_InR v4) (hv5 : g_InR v5) (hv6 : g_InR v6) (hB : E_bk m ρ M) (hs : R_hs ρ w qs gv M) (hl : qs.length < 200) (h : ∀ s : Nat, 200 * w ≤ s → s < 200 * w + 200 → s ∉ qs.map (fun z => z.1) → g_i M (ρ 73) s = 0 → g_Run (d + 1) 419 156 [(0, .ref m), (1, g_n v1), (2, g_n w), (3, g_n v3), (4, g_n v4), (5, g_n v5), (6, g_n v6), (7, g_n s)] [] M (g_qI Q)) : g_Run (d + 1) 419 156 [(0, .ref m), (1, g_n v1), (2, g_n w), (3, g_n v3), (4, g_n v4), (5, g_n v5), (6, g_n v6), (7, g_n ((200 * w : Nat) : Int))] [] M (g_qI Q) := by
  have hw := hs.1.1
  have hex : ∃ s : Nat, 200 * w ≤ s ∧ s < 200 * w + 200 ∧ s ∉ qs.map (fun z => z.1) := by
    by_cases hex : ∃ s : Nat, 200 * w ≤ s ∧ s < 200 * w + 200 ∧ s ∉ qs.map (fun z => z.1)
    · exact hex
    · exfalso
      have h3 := I_nd_le (l := (List.range 200).map (fun k => 200 * w + k)) (m := qs.map (fun z => z.1)) (List.Pairwise.map (fun k => 200 * w + k) (fun a b (hab : a ≠ b) (z : 200 * w + a = 200 * w + b) => hab (by omega)) List.nodup_range) fun k hk => by
        by_cases g : k ∈ qs.map (fun z => z.1)
        · exact g
        · obtain ⟨j, hj, rfl⟩ := List.mem_map.mp hk
          have := List.mem_range.mp hj
          exact absurd ⟨200 * w + j, by omega, by omega, g⟩ hex
      rw [List.length_map, List.length_map, List.length_range] at h3
      omega
  obtain ⟨s0, e1, e2, e3⟩ := hex
  have h73 := hB.at (k := 73) (by decide)
  have h73A : g_A M (ρ 73) 2 400 := h73.2
  have hlp : ∀ (r s : Nat), s + r = s0 → 200 * w ≤ s → g_Run (d + 1) 419 156 [(0, .ref m), (1, g_n v1), (2, g_n w), (3, g_n v3), (4, g_n v4), (5, g_n v5), (6, g_n v6), (7, g_n s)] [] M (g_qI Q) := by
    intro r
    induction r with
    | zero =>
      intro s hr h2
      have : s = s0 := by omega
      subst this
      refine h s h2 e2 e3 ?_
      rw [hs.2.2.2.1 s h2 e2, if_neg e3]
    | succ r ih =>
      intro s hr h2
      by_cases g : s ∈ qs.map (fun z => z.1)
      · refine s_X12_insert_156 hv1 ⟨by omega, by omega⟩ hv3 hv4 hv5 hv6 ⟨by omega, by omega⟩ fun _ => ⟨hB.1, ρ 73, h73.1, 400, h73A, ⟨by omega, by omega⟩, ?_⟩
        rw [hs.2.2.2.1 s h2 (by omega), if_pos g]
        refine ⟨fun z => absurd z (by decide), fun _ => ⟨⟨by omega, by omega⟩, ?_⟩⟩
        have h9 := ih (s + 1) (by omega) (by omega)
        rwa [show ((s + 1 : Nat) : Int) = (s : Int) + 1 by omega] at h9
      · refine h s h2 (by omega) g ?_
        rw [hs.2.2.2.1 s h2 (by omega), if_neg g]
  exact hlp (s0 - 200 * w) (200 * w) (by omega) (Nat.le_refl _)
end EINS
