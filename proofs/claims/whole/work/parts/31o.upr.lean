/-! REQUESTS, THE REFERENCE: update; what it may change, and what an altered document brings its indexes -/
def R_uF (m : Nat) (ρ : Nat → Nat) (y : Nat) (k : Int) : Prop := R_CH m (ρ 0) (ρ 12) y k ∨ E_le m (ρ 9) y k ∨ y = ρ 75 ∨ y = ρ 76
section EUP
variable {m d : Nat} {ρ : Nat → Nat} {M M1 : g_M} {st : Nat → I_T} {q : Nat → List (Nat × Int × List b_E)} {v : Nat → Int}
theorem R_uF_n (h : E_bk m ρ M) {i : Nat} (hi : i ∈ E_bf) (hn : i ≠ 0 ∧ i ≠ 9 ∧ i ≠ 12 ∧ i ≠ 75 ∧ i ≠ 76) {k : Int} : ¬ R_uF m ρ (ρ i) k := by
  rintro (((⟨z, -⟩ | z | ⟨z, -⟩) | ⟨z, -⟩ | ⟨z, -⟩) | z | z | z)
  · exact h.nm hi z
  · exact h.ne hi (by decide) hn.2.2.1 z
  · exact h.ne hi (by decide) hn.1 z
  · exact h.ne hi (by decide) hn.1 z
  · exact h.nm hi z
  · exact E_le_n h hi hn.2.1 z
  · exact h.ne hi (by decide) hn.2.2.2.1 z
  · exact h.ne hi (by decide) hn.2.2.2.2 z
theorem R_uF_b (h : E_bk m ρ M) {k : Int} (g : R_uF m ρ (ρ 0) k) : (922000 ≤ k ∧ k < 982000) ∨ (2606200 ≤ k ∧ k < 2666200) := by
  rcases g with ((⟨z, -⟩ | z | ⟨-, z⟩) | ⟨-, z⟩ | ⟨z, -⟩) | z | z | z
  · exact absurd z (h.nm (by decide))
  · exact absurd z (h.ne (by decide) (by decide) (by decide))
  · omega
  · omega
  · exact absurd z (h.nm (by decide))
  · exact absurd z (E_le_n h (by decide) (by decide))
  · exact absurd z (h.ne (by decide) (by decide) (by decide))
  · exact absurd z (h.ne (by decide) (by decide) (by decide))
theorem R_uF_m (h : E_bk m ρ M) {k : Int} (g : R_uF m ρ m k) : (4 ≤ k ∧ k ≤ 8) ∨ k = 10 ∨ (13 ≤ k ∧ k ≤ 17) ∨ (40 ≤ k ∧ k ≤ 44) := by
  have hm : ∀ j ∈ E_bf, m ≠ ρ j := fun j hj z => h.nm hj z.symm
  rcases g with ((⟨-, z⟩ | z | ⟨z, -⟩) | ⟨z, -⟩ | ⟨-, z⟩) | (z | ⟨-, z⟩) | z | z
  · omega
  · exact absurd z (hm 12 (by decide))
  · exact absurd z (hm 0 (by decide))
  · exact absurd z (hm 0 (by decide))
  · omega
  · exact absurd z (hm 9 (by decide))
  · omega
  · exact absurd z (hm 75 (by decide))
  · exact absurd z (hm 76 (by decide))
/-- where what a house tells of stands -/
theorem E_HP_y (h : E_bk m ρ M) {y : Nat} {k : Int} (g : E_HP m ρ y k) : (y = ρ 0 ∧ (k < 922000 ∨ (982000 ≤ k ∧ k < 2598000) ∨ 2706200 ≤ k)) ∨ (y = m ∧ k = 47) ∨ ∃ j ∈ E_bf, (j ≠ 0 ∧ j ≠ 9 ∧ j ≠ 12 ∧ j ≠ 74 ∧ j ≠ 75 ∧ j ≠ 76) ∧ y = ρ j := by
  rcases g with ⟨x, hx, z⟩ | ⟨w, hw, z⟩ | ⟨z1, z2⟩ | ⟨z1, z2⟩
  · rcases z with z | ⟨z | z, -⟩ | ⟨z | z | z, -⟩ | ⟨z, z1, z2⟩
    · rcases z with ⟨z | z, -⟩ | ⟨z, z1, z2⟩ | ⟨z | z | z, -⟩ | ⟨z | z, -⟩ | ⟨z | z, -⟩
      · exact Or.inr (Or.inr ⟨45, by decide, by decide, z⟩)
      · exact Or.inr (Or.inr ⟨46, by decide, by decide, z⟩)
      · exact Or.inl ⟨z, by omega⟩
      · exact Or.inr (Or.inr ⟨48, by decide, by decide, z⟩)
      · exact Or.inr (Or.inr ⟨49, by decide, by decide, z⟩)
      · exact Or.inr (Or.inr ⟨50, by decide, by decide, z⟩)
      · exact Or.inr (Or.inr ⟨51, by decide, by decide, z⟩)
      · exact Or.inr (Or.inr ⟨52, by decide, by decide, z⟩)
      · exact Or.inr (Or.inr ⟨53, by decide, by decide, z⟩)
      · exact Or.inr (Or.inr ⟨54, by decide, by decide, z⟩)
    · exact Or.inr (Or.inr ⟨35, by decide, by decide, z⟩)
    · exact Or.inr (Or.inr ⟨36, by decide, by decide, z⟩)
    · exact Or.inr (Or.inr ⟨37, by decide, by decide, z⟩)
    · exact Or.inr (Or.inr ⟨38, by decide, by decide, z⟩)
    · exact Or.inr (Or.inr ⟨39, by decide, by decide, z⟩)
    · exact Or.inl ⟨z, by omega⟩
  · rcases z with ⟨z | z | z, -⟩ | ⟨z | z | z, -⟩ | ⟨z, z1, z2⟩
    · exact Or.inr (Or.inr ⟨68, by decide, by decide, z⟩)
    · exact Or.inr (Or.inr ⟨69, by decide, by decide, z⟩)
    · exact Or.inr (Or.inr ⟨70, by decide, by decide, z⟩)
    · exact Or.inr (Or.inr ⟨71, by decide, by decide, z⟩)
    · exact Or.inr (Or.inr ⟨72, by decide, by decide, z⟩)
    · exact Or.inr (Or.inr ⟨73, by decide, by decide, z⟩)
    · exact Or.inl ⟨z, by omega⟩
  · exact Or.inr (Or.inl ⟨z1, z2⟩)
  · exact Or.inl ⟨z1, by omega⟩
theorem E_H.uF (h : E_H m ρ st q v M) (f : e_fr (R_uF m ρ) M M1) : E_H m ρ st q v M1 := h.fr f fun y k z g => by
  rcases E_HP_y h.1 z with ⟨e, z⟩ | ⟨e, z⟩ | ⟨j, hj, hn, e⟩
  · rw [e] at g
    have := R_uF_b h.1 g
    omega
  · rw [e] at g
    have := R_uF_m h.1 g
    omega
  · rw [e] at g
    exact R_uF_n h.1 hj ⟨hn.1, hn.2.1, hn.2.2.1, hn.2.2.2.2.1, hn.2.2.2.2.2⟩ g
/-- how many more entries an index holds when a document is another -/
noncomputable def U_d1 (t : I_T) (es nd : List b_E) : Int := match t with
  | none => 0
  | some (V, _, _, _) => (U_nE V nd : Int) - U_nE V es
noncomputable def U_lg (t : I_T) (nd : List b_E) : Bool := match t with
  | none => false
  | some (V, _, _, _) => I_long V nd
noncomputable def U_lgs (st : Nat → I_T) (w n : Nat) (nd : List b_E) : Bool := (List.range n).any fun k => U_lg (st (4 * w + k)) nd
theorem U_lgs_s (st : Nat → I_T) (w n : Nat) (nd : List b_E) : U_lgs st w (n + 1) nd = (U_lgs st w n nd || U_lg (st (4 * w + n)) nd) := by
  unfold U_lgs
  rw [List.range_succ, List.any_append]
  simp
theorem U_nE_le {V : I_V} (hv : I_vok V) {es : List b_E} (hg : X_gd 15 es) (hl : (b_doc es).length ≤ 2000) : U_nE V es ≤ 487204 := I_key12_few hv hg hl
/-- what the counting of an altered document's entries may change -/
def R_uG (m : Nat) (ρ : Nat → Nat) (y : Nat) (k : Int) : Prop := E_le m (ρ 9) y k ∨ y = ρ 76
theorem R_uG.F {y : Nat} {k : Int} (h : R_uG m ρ y k) : R_uF m ρ y k := h.elim (fun z => Or.inr (Or.inl z)) fun z => Or.inr (Or.inr (Or.inr z))
theorem R_uG_n (h : E_bk m ρ M) {i : Nat} (hi : i ∈ E_bf) (hn : i ≠ 9 ∧ i ≠ 76) {k : Int} : ¬ R_uG m ρ (ρ i) k := by
  rintro (z | z)
  · exact E_le_n h hi hn.1 z
  · exact h.ne hi (by decide) hn.2 z
theorem e_roomU {Q : Int → g_M → Prop} {w i : Nat} {z : Nat × Int × List b_E} {nd : List b_E} {v1 v3 v4 v5 v6 v8 : Int} (h : E_H m ρ st q v M) (hS : E_S m (ρ 0) (ρ 9) (g_i M (ρ 0)) M []) (h40 : g_i M m 40 = 0 ∨ g_i M m 40 = 1) (hw : w < 2) (hz : (q w)[i]? = some z) (hat : b_at (g_i M (ρ 0)) 922000 (b_doc nd)) (hg : X_gd 15 nd) (hl : (b_doc nd).length ≤ 2000) (h17 : g_i M m 17 = 1) (hvok : ∀ x, 4 * w ≤ x → x < 4 * w + 4 → ∀ V T m1 m2, st x = some (V, T, m1, m2) → I_vok V ∧ I_long V z.2.2 = false) (h76 : ∀ x : Nat, 4 * w ≤ x → x < 4 * w + 4 → st x ≠ none → -1000000000 ≤ g_i M (ρ 76) x ∧ g_i M (ρ 76) x ≤ 1000000000) (h1 : g_InR v1) (h3 : g_InR v3) (h4 : g_InR v4) (h5 : g_InR v5) (h6 : g_InR v6) (h8 : g_InR v8) (hq : ∀ M1, e_fr (R_uG m ρ) M M1 → E_S m (ρ 0) (ρ 9) (g_i M1 (ρ 0)) M1 [] → (∀ x : Nat, 4 * w ≤ x → x < 4 * w + 4 → g_i M1 (ρ 76) x = g_i M (ρ 76) x + U_d1 (st x) z.2.2 nd) → g_i M1 m 40 = (if U_lgs st w 4 nd = true then 1 else g_i M m 40) → g_Run (d + 71) 420 104 [(0, .ref m), (1, g_n v1), (2, g_n w), (3, g_n v3), (4, g_n v4), (5, g_n v5), (6, g_n v6), (7, g_n 0), (8, g_n v8), (9, g_n ((i : Int) + 1))] [] M1 (g_qI Q)) : g_Run (d + 71) 420 237 [(0, .ref m), (1, g_n v1), (2, g_n w), (3, g_n v3), (4, g_n v4), (5, g_n v5), (6, g_n v6), (7, g_n 0), (8, g_n v8), (9, g_n i), (10, g_n (4 * (w : Int)))] [] M (g_qI Q) := by
  have hB := h.1
  have hs := h.2.2.2.2 w hw
  obtain ⟨⟨s1, s2, s3, s4⟩, s5, s6, s7, s8⟩ := id hs
  have hl200 := s8.1
  rw [List.length_map] at hl200
  have hil := (List.getElem?_eq_some_iff.mp hz).1
  obtain ⟨zl, zg⟩ := s8.2.2 z.2.2 (List.mem_map.mpr ⟨z, List.mem_of_getElem? hz, rfl⟩)
  have hwR : g_InR (w : Int) := ⟨by omega, by omega⟩
  have hno := h.2.2.1
  have ne : ∀ {i j : Nat}, i ∈ E_bf → j ∈ E_bf → i ≠ j → ρ i ≠ ρ j := fun h1 h2 h3 => hB.ne h1 h2 h3
  obtain ⟨k1, k2, k3, k4, k5⟩ := s6 i z hz
  have hlp : ∀ (b n : Nat) (M' : g_M), n + b = 4 → e_fr (R_uG m ρ) M M' → E_S m (ρ 0) (ρ 9) (g_i M (ρ 0)) M' [] → (∀ x : Nat, 4 * w ≤ x → x < 4 * w + 4 → g_i M' (ρ 76) x = g_i M (ρ 76) x + if x < 4 * w + n then U_d1 (st x) z.2.2 nd else 0) → g_i M' m 40 = (if U_lgs st w n nd = true then 1 else g_i M m 40) → g_Run (d + 71) 420 237 [(0, .ref m), (1, g_n v1), (2, g_n w), (3, g_n v3), (4, g_n v4), (5, g_n v5), (6, g_n v6), (7, g_n 0), (8, g_n v8), (9, g_n i), (10, g_n ((4 * w + n : Nat) : Int))] [] M' (g_qI Q) := by
    intro b
    induction b with
    | zero =>
      intro n M' hn f' S' t76 t40
      have hn4 : n = 4 := by omega
      subst hn4
      refine s_X12_update_237 h1 hwR h3 h4 h5 h6 ⟨by decide, by decide⟩ h8 ⟨by omega, by omega⟩ ⟨by omega, by omega⟩ fun _ => ⟨⟨by omega, by omega⟩, ⟨by omega, by omega⟩, fun g => absurd g (by omega), fun _ => ⟨⟨by omega, by omega⟩, ?_⟩⟩
      refine hq M' f' S'.sf (fun x e1 e2 => ?_) t40
      rw [t76 x e1 e2, if_pos e2]
    | succ b ih =>
      intro n M' hn f' S' t76 t40
      have hB' := hB.fr f'
      obtain ⟨x, hxe⟩ : ∃ x, x = 4 * w + n := ⟨_, rfl⟩
      have hx : x < 8 := by omega
      have t17 : g_i M' m 17 = 1 := by
        rw [f'.2.1 m 17 fun g => by
          rcases g with (g | ⟨-, g⟩) | g
          · exact hB.nm (k := 9) (by decide) g.symm
          · omega
          · exact hB.nm (k := 76) (by decide) g.symm]
        exact h17
      have b35' := hB'.at (k := 35) (by decide)
      have b35A' : g_A M' (ρ 35) 2 8 := b35'.2
      have b76' := hB'.at (k := 76) (by decide)
      have b76A' : g_A M' (ρ 76) 1 8 := b76'.2
      have t35 : g_i M' (ρ 35) x = g_i M (ρ 35) x := f'.2.1 _ _ (R_uG_n hB (by decide) (by decide))
      have hx1 : ((4 * w + n : Nat) : Int) + 1 = ((4 * w + (n + 1) : Nat) : Int) := by omega
      have hix := h.2.2.2.1 x hx
      have t76x := t76 x (by omega) (by omega)
      rw [if_neg (by omega), Int.add_zero] at t76x
      refine s_X12_update_237 h1 hwR h3 h4 h5 h6 ⟨by decide, by decide⟩ h8 ⟨by omega, by omega⟩ ⟨by omega, by omega⟩ fun _ => ⟨⟨by omega, by omega⟩, ⟨by omega, by omega⟩, fun _ => ⟨hB'.1, fun g => absurd g (by rw [t17]; decide), fun _ => ⟨ρ 35, b35'.1, 8, b35A', ⟨by omega, by omega⟩, ?_⟩⟩, fun g => absurd (by omega) g⟩
      rw [← hxe, t35]
      rcases hst : st x with _ | ⟨V, T, m1, m2⟩
      · rw [hst] at hix
        rw [R_ix.no hix]
        refine ⟨fun _ => ⟨⟨by omega, by omega⟩, ?_⟩, fun g => absurd rfl g⟩
        rw [hxe, hx1]
        refine ih (n + 1) M' (by omega) f' S' (fun x2 e1 e2 => ?_) ?_
        · rw [t76 x2 e1 e2]
          by_cases g : x2 = x
          · rw [if_neg (by omega), if_pos (by omega), g, hst]
            rfl
          · by_cases g2 : x2 < 4 * w + n
            · rw [if_pos g2, if_pos (by omega)]
            · rw [if_neg g2, if_neg (by omega)]
        · rw [t40, U_lgs_s, ← hxe, hst]
          show _ = if (U_lgs st w n nd || false) = true then _ else _
          rw [Bool.or_false]
      · obtain ⟨hv1, hv2⟩ := hvok x (by omega) (by omega) V T m1 m2 hst
        rw [hst] at hix
        obtain ⟨e35, hV, -⟩ := hix
        rw [e35]
        refine ⟨fun g => absurd g (by decide), fun _ => ⟨ρ 76, b76'.1, 8, b76A', ⟨by omega, by omega⟩, ?_⟩⟩
        have low : ∀ k, g_i M' (ρ 0) k = g_i M (ρ 0) k := fun k => f'.2.1 _ _ (R_uG_n hB (by decide) (by decide))
        have t71 : g_i M' (ρ 71) (200 * w + i) = z.1 := by rw [f'.2.1 _ _ (R_uG_n hB (by decide) (by decide))]; exact k2
        have hT : R_tb m (ρ 68) (ρ 71) M' := ⟨(hB'.at (k := 68) (by decide)).1, (hB'.at (k := 68) (by decide)).2, (hB'.at (k := 71) (by decide)).1, (hB'.at (k := 71) (by decide)).2⟩
        refine e_doc1 (d := d + 70) (w := (w : Int)) (i := i) (s := z.1) hB'.R hT (by omega) (by omega) t71 (by omega) (by omega) ?_
        intro _ _ _
        have hV' : R_V m (ρ 36) (ρ 37) (ρ 38) (g_i M (ρ 0)) x V M' := hV.fr f' (fun k => R_uG_n hB (by decide) (by decide)) (fun k => R_uG_n hB (by decide) (by decide)) fun k => R_uG_n hB (by decide) (by decide)
        have c40 : g_i M' m 40 = 0 ∨ g_i M' m 40 = 1 := by
          rw [t40]
          split
          · exact Or.inr rfl
          · exact h40
        refine e_entriesOfU (d := d + 1) (x := x) (V := V) (es := z.2.2) (tl := g_i M' m 40) S' hV' ⟨k5, by omega, by omega, zg⟩ zl hno (Nat.zero_le _) c40 rfl fun M21 P1 P2 f21 _ S21 _ _ t21 _ _ _ _ => ?_
        intro _ _ _
        have t21 := t21.trans (I_tl2_long hv1 zg)
        rw [hv2, if_neg (by decide)] at t21
        have hr24 : (I_u (2000 + 2000 * (z.1 : Int)) z.2.2 V.2.2.1).length * (I_u2 V (2000 + 2000 * (z.1 : Int)) z.2.2).length = U_nE V z.2.2 := by
          obtain ⟨u1, u2⟩ := I_u_len1 (c := 2000 + 2000 * (z.1 : Int)) hv1 zg
          rw [u1, u2]
          rfl
        rw [hr24, t76x]
        have hbd := h76 x (by omega) (by omega) (by rw [hst]; simp)
        have hn1 := U_nE_le hv1 zg zl
        have hn2 := U_nE_le hv1 hg hl
        refine ⟨⟨by omega, by omega⟩, ⟨by omega, by omega⟩, ?_⟩
        rintro M28 e28 _ M32 e32 _
        have S28 := S21.offm (hB.nm (k := 76) (by decide)) (ne (i := 76) (j := 9) (by decide) (by decide) (by decide)) (ne (i := 76) (j := 0) (by decide) (by decide) (by decide)) e28
        obtain ⟨S32, f32⟩ := S28.cut0
        rw [← e32] at S32 f32
        have f28 : e_fr (R_uG m ρ) M21 M28 := by rw [e28]; exact e_fr.wi _ (Or.inr rfl)
        have F32 : e_fr (R_uG m ρ) M' M32 := ((f21.up fun y k g => Or.inl g).tr f28).tr (f32.up fun y k g => Or.inl g)
        have G32 := f'.tr F32
        have hB32 := hB.fr G32
        have b76'' := hB32.at (k := 76) (by decide)
        have b76A'' : g_A M32 (ρ 76) 1 8 := b76''.2
        have hm76 : m ≠ ρ 76 := fun g => hB.nm (k := 76) (by decide) g.symm
        have t32 : g_i M32 m 40 = g_i M' m 40 := by
          rw [e32, g_i_wi, if_neg (fun g => absurd g.2 (by decide)), e28, g_i_wi, if_neg (fun g => hm76 g.1)]
          exact t21
        have v32 : ∀ j, g_i M32 (ρ 76) j = if j = x then g_i M (ρ 76) x - U_nE V z.2.2 else g_i M' (ρ 76) j := fun j => by
          rw [e32, g_i_wi, if_neg (fun g => hm76 g.1.symm), e28, g_i_wi]
          by_cases g : j = x
          · rw [if_pos ⟨rfl, g⟩, if_pos g]
          · rw [if_neg (fun z => g z.2), if_neg g]
            exact f21.2.1 _ _ (E_le_n hB' (by decide) (by decide))
        refine ⟨ρ 76, b76''.1, 8, b76A'', ⟨by omega, by omega⟩, ?_⟩
        have hV32 : R_V m (ρ 36) (ρ 37) (ρ 38) (g_i M (ρ 0)) x V M32 := hV.fr G32 (fun k => R_uG_n hB (by decide) (by decide)) (fun k => R_uG_n hB (by decide) (by decide)) fun k => R_uG_n hB (by decide) (by decide)
        refine e_entriesOfU (d := d + 1) (x := x) (V := V) (es := nd) (c := 922000) (tl := g_i M' m 40) S32 hV32 ⟨hat, by decide, by omega, hg⟩ hl hno (Nat.zero_le _) c40 t32 fun M41 P1 P2 f41 _ S41 _ _ t41 _ _ _ _ => ?_
        intro _ _ _
        have t41 := t41.trans (I_tl2_long hv1 hg)
        have hr44 : (I_u 922000 nd V.2.2.1).length * (I_u2 V 922000 nd).length = U_nE V nd := by
          obtain ⟨u1, u2⟩ := I_u_len1 (c := 922000) hv1 hg
          rw [u1, u2]
          rfl
        rw [hr44, v32 x, if_pos rfl]
        refine ⟨⟨by omega, by omega⟩, ⟨by omega, by omega⟩, ?_⟩
        rintro M48 e48 _ M52 e52 _
        have S48 := S41.offm (hB.nm (k := 76) (by decide)) (ne (i := 76) (j := 9) (by decide) (by decide) (by decide)) (ne (i := 76) (j := 0) (by decide) (by decide) (by decide)) e48
        obtain ⟨S52, f52⟩ := S48.cut0
        rw [← e52] at S52 f52
        have f48 : e_fr (R_uG m ρ) M41 M48 := by rw [e48]; exact e_fr.wi _ (Or.inr rfl)
        have F52 : e_fr (R_uG m ρ) M32 M52 := ((f41.up fun y k g => Or.inl g).tr f48).tr (f52.up fun y k g => Or.inl g)
        refine ⟨⟨by omega, by omega⟩, ?_⟩
        rw [hxe, hx1]
        refine ih (n + 1) M52 (by omega) (G32.tr F52) S52 (fun x2 e1 e2 => ?_) ?_
        · rw [e52, g_i_wi, if_neg (fun g => hm76 g.1.symm), e48, g_i_wi]
          by_cases g : x2 = x
          · rw [if_pos ⟨rfl, by omega⟩, if_pos (by omega), g, hst]
            show _ = _ + ((U_nE V nd : Int) - U_nE V z.2.2)
            omega
          · rw [if_neg (fun z => g (by omega)), f41.2.1 _ _ (E_le_n hB32 (by decide) (by decide)), v32, if_neg (by omega), t76 x2 e1 e2]
            by_cases g2 : x2 < 4 * w + n
            · rw [if_pos g2, if_pos (by omega)]
            · rw [if_neg g2, if_neg (by omega)]
        · rw [e52, g_i_wi, if_neg (fun g => absurd g.2 (by decide)), e48, g_i_wi, if_neg (fun g => hm76 g.1), t41, t40, U_lgs_s, ← hxe, hst]
          show (if I_long V nd = true then _ else _) = if (U_lgs st w n nd || I_long V nd) = true then _ else _
          cases I_long V nd
          · rw [Bool.or_false, if_neg (by decide)]
          · rw [Bool.or_true, if_pos rfl, if_pos rfl]
  have h9 := hlp 4 0 M (by omega) (e_fr.rf _ _) hS (fun x e1 e2 => by rw [if_neg (by omega), Int.add_zero]) (by
    show g_i M m 40 = if false = true then (1 : Int) else g_i M m 40
    rw [if_neg (by decide)])
  have e0 : ((4 * w + 0 : Nat) : Int) = 4 * (w : Int) := by omega
  rw [e0] at h9
  exact h9
end EUP
