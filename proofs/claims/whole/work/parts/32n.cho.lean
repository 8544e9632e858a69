/-! EXPLAIN, THE REFERENCE: the CHOICE -/
/-- RANK and RANGES of an index that is there -/
noncomputable def D_fx (st : Nat → I_T) (l : List (Int × b_E)) (x : Nat) : Option (Int × Int) := match st x with
  | none => none
  | some (V, _, m1, m2) => some (D_rk (D_B m1 V.2.2.1 l) (D_B2 m2 V.2.2.2 l), D_rn (D_B m1 V.2.2.1 l) (D_B2 m2 V.2.2.2 l))
def D_cst (f : Option (Int × Int)) (x : Nat) (s : Nat × Int × Int) : Nat × Int × Int := match f with
  | none => s
  | some (r, n) => if s.2.1 < r ∨ (r = s.2.1 ∧ 0 < r ∧ n < s.2.2) then (x, r, n) else s
/-- the best of the first j indexes of shelf w (8: none), its rank and ranges -/
def D_chs (f : Nat → Option (Int × Int)) (w : Nat) : Nat → Nat × Int × Int
  | 0 => (8, 0, 1)
  | j + 1 => D_cst (f (4 * w + j)) (4 * w + j) (D_chs f w j)
theorem D_chs_in (f : Nat → Option (Int × Int)) (w : Nat) : ∀ j, D_chs f w j = (8, 0, 1) ∨ (4 * w ≤ (D_chs f w j).1 ∧ (D_chs f w j).1 < 4 * w + j ∧ f (D_chs f w j).1 = some (D_chs f w j).2 ∧ 0 < (D_chs f w j).2.1) := by
  intro j
  induction j with
  | zero => exact Or.inl rfl
  | succ j ih =>
    have hc : D_chs f w (j + 1) = D_cst (f (4 * w + j)) (4 * w + j) (D_chs f w j) := rfl
    rw [hc]
    obtain ⟨s, hs⟩ : ∃ s, s = D_chs f w j := ⟨_, rfl⟩
    rw [← hs] at ih ⊢
    have hk : s = (8, 0, 1) ∨ (4 * w ≤ s.1 ∧ s.1 < 4 * w + (j + 1) ∧ f s.1 = some s.2 ∧ 0 < s.2.1) := by
      rcases ih with g | ⟨g1, g2, g3, g4⟩
      · exact Or.inl g
      · exact Or.inr ⟨g1, by omega, g3, g4⟩
    cases hf : f (4 * w + j) with
    | none => exact hk
    | some rn =>
      obtain ⟨r, n⟩ := rn
      have e : D_cst (some (r, n)) (4 * w + j) s = if s.2.1 < r ∨ (r = s.2.1 ∧ 0 < r ∧ n < s.2.2) then (4 * w + j, r, n) else s := rfl
      rw [e]
      by_cases g : s.2.1 < r ∨ (r = s.2.1 ∧ 0 < r ∧ n < s.2.2)
      · rw [if_pos g]
        have h0 : 0 ≤ s.2.1 := by
          rcases ih with g2 | g2
          · rw [g2]
            decide
          · exact Int.le_of_lt g2.2.2.2
        exact Or.inr ⟨Nat.le_add_right _ _, by show 4 * w + j < 4 * w + (j + 1); omega, hf, by show 0 < r; omega⟩
      · rw [if_neg g]
        exact hk
section DCH
variable {m d : Nat} {ρ : Nat → Nat} {M M1 : g_M} {st : Nat → I_T} {q : Nat → List (Nat × Int × List b_E)} {v : Nat → Int}
theorem E_ct.eqF {F F1 : Int → Int} {c : Int} {D : Nat} {xs : List b_E} (h : E_ct F c D xs) (e : F1 = F) : E_ct F1 c D xs := e ▸ h
theorem e_choose {Q : Int → g_M → Prop} {c : Int} {w : Nat} {xs : List b_E} {l : List (Int × b_E)} (h : E_H m ρ st q v M) (hw : w < 2) (hct : E_ct (g_i M (ρ 0)) c 15 xs) (hl : l = L_at (c + 4) xs) (hg : ∀ x, 4 * w ≤ x → x < 4 * w + 4 → ∀ V T m1 m2, st x = some (V, T, m1, m2) → D_fg (g_i M (ρ 0)) (p_jn V.2.2.1) l ∧ ∀ s2, V.2.2.2 = some s2 → D_fg (g_i M (ρ 0)) (p_jn s2) l) (hn : D_chs (D_fx st l) w 4 = (8, 0, 1) → ∀ M1, e_fr (E_WF m ρ) M M1 → g_i M1 m 65 = 0 → g_i M1 m 66 = 1 → Q 8 M1) (hy : ∀ x V T m1 m2, x = (D_chs (D_fx st l) w 4).1 → 4 * w ≤ x → x < 4 * w + 4 → st x = some (V, T, m1, m2) → ∀ M1, e_fr (E_WF m ρ) M M1 → E_Wg m ρ (D_B m1 V.2.2.1 l) (D_B2 m2 V.2.2.2 l) M1 → Q (x : Int) M1) : g_Call (d + 57) 402 [.ref m, g_n c, g_n (w : Int)] M (g_qI Q) := by
  have c1 := hct.2.1
  have c2 := hct.2.2.1
  have hcR : g_InR c := ⟨by omega, by omega⟩
  have hwR : g_InR (w : Int) := ⟨by omega, by omega⟩
  have hB := h.1
  have hF : ∀ {M' : g_M}, e_fr (E_WF m ρ) M M' → g_i M' (ρ 0) = g_i M (ρ 0) := fun f => funext fun j => f.2.1 _ j (E_WF_n hB (by decide) (by decide))
  have hlp : ∀ (n j b : Nat) (M' : g_M) (v4 v5 : Int), j + n = 4 → D_chs (D_fx st l) w j = (b, v4, v5) → g_InR v4 → g_InR v5 → e_fr (E_WF m ρ) M M' → g_Run (d + 56) 402 14 [(0, .ref m), (1, g_n c), (2, g_n (w : Int)), (3, g_n (b : Int)), (4, g_n v4), (5, g_n v5), (6, g_n ((4 * w + j : Nat) : Int))] [] M' (g_qI Q) := by
    intro n
    induction n with
    | zero =>
      intro j b M' v4 v5 hj hD h4R h5R f'
      have hj4 : j = 4 := by omega
      subst hj4
      have hB' := hB.fr f'
      have hin := D_chs_in (D_fx st l) w 4
      rw [hD] at hin hn hy
      have hb8 : b ≤ 8 := by
        rcases hin with g | ⟨g1, g2, -⟩
        · have : b = 8 := congrArg Prod.fst g
          omega
        · have g2 : b < 4 * w + 4 := g2
          omega
      refine s_X12_choose_14 hcR hwR ⟨by omega, by omega⟩ h4R h5R ⟨by omega, by omega⟩ fun _ => ⟨⟨by omega, by omega⟩, ⟨by omega, by omega⟩, fun g => absurd g (by omega), fun _ => ⟨hB'.1, fun M4 e4 _ M8 e8 _ => ?_⟩⟩
      have f8 : e_fr (E_WF m ρ) M' M8 := by
        rw [e8, e4]
        exact (e_fr.wi 0 (Or.inr ⟨rfl, Or.inl rfl⟩)).tr (e_fr.wi 1 (Or.inr ⟨rfl, Or.inr (Or.inl rfl)⟩))
      have F8 := f'.tr f8
      rcases hin with g | ⟨g1, g2, g3, -⟩
      · have hb : b = 8 := congrArg Prod.fst g
        refine ⟨fun z => absurd z (by omega), fun _ => ?_⟩
        rw [hb]
        refine hn g M8 F8 ?_ ?_
        · rw [e8, g_i_wi, if_neg (fun z => absurd z.2 (by decide)), e4, g_i_wi, if_pos ⟨rfl, rfl⟩]
        · rw [e8, g_i_wi, if_pos ⟨rfl, rfl⟩]
      · have g1 : 4 * w ≤ b := g1
        have g2 : b < 4 * w + 4 := g2
        have g3 : D_fx st l b = some (v4, v5) := g3
        refine ⟨fun _ => ?_, fun z => absurd (by omega) z⟩
        cases hst : st b with
        | none =>
          unfold D_fx at g3
          rw [hst] at g3
          exact absurd g3 (by simp)
        | some t =>
          obtain ⟨V, T, m1, m2⟩ := t
          obtain ⟨hg1, hg2⟩ := hg b g1 g2 V T m1 m2 hst
          refine e_weigh (d := d) (h.wf F8) (by omega) hst (hct.eqF (hF F8)) hl (by rw [hF F8]; exact hg1) (fun s2 hs2 => by rw [hF F8]; exact hg2 s2 hs2) fun M12 f12 W12 => ?_
          intro _ _
          exact hy b V T m1 m2 rfl g1 g2 hst M12 (F8.tr f12) W12
    | succ n ih =>
      intro j b M' v4 v5 hj hD h4R h5R f'
      have hB' := hB.fr f'
      have hin := D_chs_in (D_fx st l) w j
      rw [hD] at hin
      have hb8 : b ≤ 8 := by
        rcases hin with g | ⟨g1, g2, -⟩
        · have : b = 8 := congrArg Prod.fst g
          omega
        · have g2 : b < 4 * w + j := g2
          omega
      obtain ⟨x, hxe⟩ : ∃ x, x = 4 * w + j := ⟨_, rfl⟩
      have hx8 : x < 8 := by omega
      have h' := h.wf f'
      obtain ⟨hth0, hth1⟩ := (h'.2.2.2.1 x hx8).there
      have b35 := hB'.at (k := 35) (by decide)
      have b35A : g_A M' (ρ 35) 2 8 := b35.2
      have hDj : D_chs (D_fx st l) w (j + 1) = D_cst (D_fx st l x) x (b, v4, v5) := by
        show D_cst (D_fx st l (4 * w + j)) (4 * w + j) (D_chs (D_fx st l) w j) = _
        rw [hD, hxe]
      have next : ∀ (M2 : g_M) (b2 : Nat) (u4 u5 : Int), D_cst (D_fx st l x) x (b, v4, v5) = (b2, u4, u5) → g_InR u4 → g_InR u5 → e_fr (E_WF m ρ) M M2 → g_Run (d + 56) 402 14 [(0, .ref m), (1, g_n c), (2, g_n (w : Int)), (3, g_n (b2 : Int)), (4, g_n u4), (5, g_n u5), (6, g_n (((4 * w + j : Nat) : Int) + 1))] [] M2 (g_qI Q) := fun M2 b2 u4 u5 hc h4 h5 f2 => by
        have h9 := ih (j + 1) b2 M2 u4 u5 (by omega) (hDj.trans hc) h4 h5 f2
        rw [show ((4 * w + (j + 1) : Nat) : Int) = ((4 * w + j : Nat) : Int) + 1 by omega] at h9
        exact h9
      refine s_X12_choose_14 hcR hwR ⟨by omega, by omega⟩ h4R h5R ⟨by omega, by omega⟩ fun _ => ⟨⟨by omega, by omega⟩, ⟨by omega, by omega⟩, fun _ => ⟨hB'.1, ρ 35, b35.1, 8, b35A, ⟨by omega, by omega⟩, ?_⟩, fun g => absurd (by omega) g⟩
      rw [← hxe]
      rw [← hxe] at next
      cases hst : st x with
      | none =>
        rw [hth0 hst]
        refine ⟨fun _ => ⟨⟨by omega, by omega⟩, next M' b v4 v5 ?_ h4R h5R f'⟩, fun z => absurd rfl z⟩
        unfold D_fx
        rw [hst]
        rfl
      | some t =>
        obtain ⟨V, T, m1, m2⟩ := t
        obtain ⟨hg1, hg2⟩ := hg x (by omega) (by omega) V T m1 m2 hst
        rw [(hth1 V T m1 m2 hst).1]
        refine ⟨fun z => absurd z (by decide), fun _ => ?_⟩
        refine e_weigh (d := d) h' hx8 hst (hct.eqF (hF f')) hl (by rw [hF f']; exact hg1) (fun s2 hs2 => by rw [hF f']; exact hg2 s2 hs2) fun M1 f1 W1 => ?_
        intro _ hok
        obtain ⟨w65, w66, -⟩ := W1
        have F1 := f'.tr f1
        have hB1 := hB.fr F1
        obtain ⟨rk, hrk⟩ : ∃ rk, rk = g_i M1 m 65 := ⟨_, rfl⟩
        obtain ⟨rn, hrn⟩ : ∃ rn, rn = g_i M1 m 66 := ⟨_, rfl⟩
        have hrkR : g_InR rk := by
          rw [hrk]
          exact hok.1 m 65
        have hrnR : g_InR rn := by
          rw [hrn]
          exact hok.1 m 66
        have hfx : D_fx st l x = some (rk, rn) := by
          rw [hrk, hrn, w65, w66]
          unfold D_fx
          rw [hst]
        have hcs : D_cst (D_fx st l x) x (b, v4, v5) = if v4 < rk ∨ (rk = v4 ∧ 0 < rk ∧ rn < v5) then (x, rk, rn) else (b, v4, v5) := by
          rw [hfx]
          rfl
        have take : (v4 < rk ∨ (rk = v4 ∧ 0 < rk ∧ rn < v5)) → g_Run (d + 56) 402 78 [(0, .ref m), (1, g_n c), (2, g_n (w : Int)), (3, g_n (b : Int)), (4, g_n v4), (5, g_n v5), (6, g_n (x : Int))] [] M1 (g_qI Q) := fun g => by
          refine s_X12_choose_78 hcR hwR ⟨by omega, by omega⟩ h4R h5R ⟨by omega, by omega⟩ fun _ => ⟨hB1.1, ⟨by omega, by omega⟩, ?_⟩
          rw [← hrk, ← hrn]
          exact next M1 x rk rn (by rw [hcs, if_pos g]) hrkR hrnR F1
        have skip : ¬ (v4 < rk ∨ (rk = v4 ∧ 0 < rk ∧ rn < v5)) → g_InR ((x : Int) + 1) ∧ g_Run (d + 56) 402 14 [(0, .ref m), (1, g_n c), (2, g_n (w : Int)), (3, g_n (b : Int)), (4, g_n v4), (5, g_n v5), (6, g_n ((x : Int) + 1))] [] M1 (g_qI Q) := fun g => ⟨⟨by omega, by omega⟩, next M1 b v4 v5 (by rw [hcs, if_neg g]) h4R h5R F1⟩
        rw [← hrk, ← hrn]
        exact ⟨fun g => take (Or.inl g), fun g => ⟨fun g2 => ⟨fun g3 => ⟨fun g4 => take (Or.inr ⟨g2, g3, g4⟩), fun g4 => skip (by omega)⟩, fun g3 => skip (by omega)⟩, fun g2 => skip (by omega)⟩⟩
  refine m_X12_choose (d := d + 56) hcR hwR fun _ => ⟨⟨by omega, by omega⟩, ?_⟩
  have h9 := hlp 4 0 8 M 0 1 rfl rfl ⟨by decide, by decide⟩ ⟨by decide, by decide⟩ (e_fr.rf _ _)
  rw [show ((4 * w + 0 : Nat) : Int) = 4 * (w : Int) by omega] at h9
  exact h9
end DCH
