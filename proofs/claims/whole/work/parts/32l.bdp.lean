/-! EXPLAIN, THE REFERENCE: the bounds of a path -/
noncomputable def D_bd (mn : Bool) (S : List (Bool × (Int × b_E))) : Option (List D_i) := if mn = true then D_mny S else D_als none S
theorem D_m1_ba {P : List D_i} : ∀ S : List (Bool × (Int × b_E)), D_m1 S = some P → ∃ z ∈ S, D_ba z.1 z.2 = some P := by
  intro S
  induction S with
  | nil => exact fun h => absurd h (by intro z; cases z)
  | cons z S ih =>
    intro h
    have hrec : D_m1 S = some P → ∃ y ∈ z :: S, D_ba y.1 y.2 = some P := fun g => by
      obtain ⟨y, hy, hP⟩ := ih g
      exact ⟨y, List.mem_cons_of_mem _ hy, hP⟩
    have hm1c : D_m1 (z :: S) = if z.1 = true ∨ F_cd z.2.2.2.1 = 1 ∨ F_cd z.2.2.2.1 = 3 then (match D_bo z.1 z.2 with | none => D_m1 S | some P => some P) else D_m1 S := rfl
    rw [hm1c] at h
    by_cases g : z.1 = true ∨ F_cd z.2.2.2.1 = 1 ∨ F_cd z.2.2.2.1 = 3
    · rw [if_pos g] at h
      cases hb : D_bo z.1 z.2 with
      | none =>
        rw [hb] at h
        exact hrec h
      | some P2 =>
        rw [hb] at h
        refine ⟨z, List.mem_cons_self, ?_⟩
        have hc : z.1 = true ∨ ¬ F_cd z.2.2.2.1 = 11 := by
          rcases g with g | g | g
          · exact Or.inl g
          · exact Or.inr (by omega)
          · exact Or.inr (by omega)
        unfold D_ba
        rw [if_pos hc]
        exact hb.trans h
    · rw [if_neg g] at h
      exact hrec h
theorem D_m2_ba {P : List D_i} : ∀ S : List (Bool × (Int × b_E)), D_m2 S = some P → ∃ z ∈ S, D_ba z.1 z.2 = some P := by
  intro S
  induction S with
  | nil => exact fun h => absurd h (by intro z; cases z)
  | cons z S ih =>
    intro h
    have e : D_m2 (z :: S) = (match D_ba z.1 z.2 with | none => D_m2 S | some P => some P) := rfl
    rw [e] at h
    cases hb : D_ba z.1 z.2 with
    | none =>
      rw [hb] at h
      obtain ⟨y, hy, hP⟩ := ih h
      exact ⟨y, List.mem_cons_of_mem _ hy, hP⟩
    | some P2 =>
      rw [hb] at h
      exact ⟨z, List.mem_cons_self, hb.trans h⟩
theorem D_mny_ba {P : List D_i} {S : List (Bool × (Int × b_E))} (h : D_mny S = some P) : ∃ z ∈ S, D_ba z.1 z.2 = some P := by
  unfold D_mny at h
  cases hm : D_m1 S with
  | none =>
    rw [hm] at h
    exact D_m2_ba S h
  | some P2 =>
    rw [hm] at h
    exact D_m1_ba S (hm.trans h)
/-- the text of a path's steps -/
def p_jn : List (List Int) → List Int
  | [] => []
  | s :: r => s ++ (match r with
    | [] => []
    | _ :: _ => 46 :: p_jn r)
theorem p_jn_c (c : Int) (s : List Int) (r : List (List Int)) : p_jn ((c :: s) :: r) = c :: p_jn (s :: r) := rfl
theorem p_jn_n (s : List Int) (r : List (List Int)) : p_jn ([] :: s :: r) = 46 :: p_jn (s :: r) := rfl
theorem p_jn_sp : ∀ x : List Int, p_jn (p_sp x) = x := by
  intro x
  induction x with
  | nil => rfl
  | cons c x ih =>
    obtain ⟨s, r, hsr⟩ : ∃ s r, p_sp x = s :: r := ⟨_, _, p_sp_eq x⟩
    rw [hsr] at ih
    rw [p_sp_cons, hsr]
    by_cases g : c = 46
    · rw [if_pos g, p_jn_n, ih, g]
    · rw [if_neg g]
      show p_jn ((c :: s) :: r) = c :: x
      rw [p_jn_c, ih]
/-- what a right filter gives for a path -/
def D_fg (F : Int → Int) (X : List Int) (l : List (Int × b_E)) : Prop := D_cv 8 X l ∧ (D_co 8 X l).length ≤ 200 ∧ (∀ z ∈ D_co 8 X l, D_zv F z) ∧ (∀ l1 z l2, D_co 8 X l = l1 ++ z :: l2 → ∀ A P, D_als none l1 = some A → D_ba z.1 z.2 = some P → (D_mts A P).length ≤ 1000) ∧ ∀ mn P, D_bd mn (D_co 8 X l) = some P → P.length ≤ 700
def E_XF (m : Nat) (ρ : Nat → Nat) (y : Nat) (k : Int) : Prop := E_IF m ρ y k ∨ E_SF m ρ y k
section DBX
variable {m d : Nat} {ρ : Nat → Nat} {M M1 : g_M} {L : List D_i}
theorem E_SF_m (h : E_bk m ρ M) {k : Int} (g : E_SF m ρ m k) : k = 64 := by
  rcases g with z | z | ⟨-, z⟩
  · exact absurd z.symm (h.nm (by decide))
  · exact absurd z.symm (h.nm (by decide))
  · exact z
theorem e_collect8 {Q : g_M → Prop} {F : Int → Int} {X : List Int} {pp c : Int} {xs : List b_E} (hX : b_at F pp X) (hp0 : 0 ≤ pp) (hp1 : pp + X.length ≤ 2706210) (hB : E_bk m ρ M) (hF : g_i M (ρ 0) = F) (hS : E_Sy m ρ [] M) (hct : E_ct F c 15 xs) (hcv : D_cv 8 X (L_at (c + 4) xs)) (hl : (D_co 8 X (L_at (c + 4) xs)).length ≤ 200) (hq : ∀ M1, e_fr (E_SF m ρ) M M1 → E_Sy m ρ (D_co 8 X (L_at (c + 4) xs)) M1 → Q M1) : g_Call (d + 34) 397 [.ref m, g_n c, g_n pp, g_n (pp + X.length)] M (g_qV Q) :=
  e_collect hX hp0 hp1 8 15 c xs [] M Q d hB hF hS hct (by decide) hcv (by rw [List.length_nil, Nat.zero_add]; exact hl) hq
theorem e_bounds {Q : Int → g_M → Prop} {X : List Int} {c : Int} {x k : Nat} {mn : Bool} {xs : List b_E} {S : List (Bool × (Int × b_E))} (hB : E_bk m ρ M) (hI : E_Iv m ρ L M) (hl : L.length ≤ 700) (hct : E_ct (g_i M (ρ 0)) c 15 xs) (hx : x < 8) (hk : k < 2) (hX : b_at (g_i M (ρ 0)) (982000 + 2000 * (2 * (x : Int) + (k : Int))) X) (hXl : X.length ≤ 2000) (h37 : g_i M (ρ 37) (2 * (x : Int) + (k : Int)) = 982000 + 2000 * (2 * (x : Int) + (k : Int)) + X.length) (h39 : g_i M (ρ 39) (2 * (x : Int) + (k : Int)) = if mn = true then 1 else 0) (hS : S = D_co 8 X (L_at (c + 4) xs)) (hg : D_fg (g_i M (ρ 0)) X (L_at (c + 4) xs)) (hq : ∀ M1, e_fr (E_XF m ρ) M M1 → E_Iv m ρ (L ++ (D_bd mn S).getD []) M1 → Q (if (D_bd mn S).isSome = true then 1 else 0) M1) : g_Call (d + 55) 398 [.ref m, g_n c, g_n (x : Int), g_n (k : Int)] M (g_qI Q) := by
  have c1 := hct.2.1
  have c2 := hct.2.2.1
  obtain ⟨g1, g2, g3, g4, g5⟩ := hg
  have hcR : g_InR c := ⟨by omega, by omega⟩
  have hxR : g_InR (x : Int) := ⟨by omega, by omega⟩
  have hkR : g_InR (k : Int) := ⟨by omega, by omega⟩
  refine m_X12_bounds (d := d + 54) hcR hxR hkR fun _ => ⟨hB.1, fun M2 hM2 _ => ?_⟩
  have f2 : e_fr (E_SF m ρ) M M2 := by
    rw [hM2]
    exact e_fr.wi 0 (Or.inr (Or.inr ⟨rfl, rfl⟩))
  have hB2 := hB.fr f2
  have F2 : g_i M2 (ρ 0) = g_i M (ρ 0) := funext fun j => f2.2.1 _ j (E_SF_n hB (by decide) (by decide))
  have S2 : E_Sy m ρ [] M2 := ⟨by
    rw [hM2, g_i_wi, if_pos ⟨rfl, rfl⟩]
    rfl, fun i z hi => absurd hi (by simp)⟩
  have b37 := hB2.at (k := 37) (by decide)
  have b37A : g_A M2 (ρ 37) 1 16 := b37.2
  have e37 : g_i M2 (ρ 37) (2 * (x : Int) + (k : Int)) = 982000 + 2000 * (2 * (x : Int) + (k : Int)) + X.length := by
    rw [f2.2.1 _ _ (E_SF_n hB (by decide) (by decide))]
    exact h37
  refine m_X12_pathOf hxR hkR fun _ => ⟨⟨by omega, by omega⟩, ⟨by omega, by omega⟩, ⟨by omega, by omega⟩, ⟨by omega, by omega⟩, ?_⟩
  intro _ _ _
  refine ⟨ρ 37, b37.1, ⟨by omega, by omega⟩, ⟨by omega, by omega⟩, 16, b37A, ⟨by omega, by omega⟩, ?_⟩
  rw [e37]
  refine e_collect8 (d := d + 20) hX (by omega) (by omega) hB2 F2 S2 hct g1 g2 fun M3 f3 S3 => ?_
  intro _ _
  have hB3 := hB2.fr f3
  have f23 := f2.tr f3
  have F3 : g_i M3 (ρ 0) = g_i M (ρ 0) := funext fun j => f23.2.1 _ j (E_SF_n hB (by decide) (by decide))
  have b39 := hB3.at (k := 39) (by decide)
  have b39A : g_A M3 (ρ 39) 2 16 := b39.2
  have e39 : g_i M3 (ρ 39) (2 * (x : Int) + (k : Int)) = if mn = true then 1 else 0 := by
    rw [f23.2.1 _ _ (E_SF_n hB (by decide) (by decide))]
    exact h39
  have I3 : E_Iv m ρ L M3 := hI.fr f23 (fun z => by have := E_SF_m hB z; omega) fun j hj k2 => by
    have hj2 : j = 57 ∨ j = 58 ∨ j = 59 ∨ j = 60 := by simpa using hj
    rcases hj2 with e | e | e | e
    · rw [e]
      exact E_SF_n hB (by decide) (by decide)
    · rw [e]
      exact E_SF_n hB (by decide) (by decide)
    · rw [e]
      exact E_SF_n hB (by decide) (by decide)
    · rw [e]
      exact E_SF_n hB (by decide) (by decide)
  have fX : ∀ {M4 : g_M}, e_fr (E_IF m ρ) M3 M4 → e_fr (E_XF m ρ) M M4 := fun f4 => (f23.up fun _ _ z => Or.inr z).tr (f4.up fun _ _ z => Or.inl z)
  refine ⟨ρ 39, b39.1, ⟨by omega, by omega⟩, ⟨by omega, by omega⟩, 16, b39A, ⟨by omega, by omega⟩, ?_⟩
  rw [e39, I3.1]
  subst hS
  cases mn
  · refine ⟨fun _ => ?_, fun g => absurd (if_neg (by decide)) g⟩
    refine e_bounds192 (d := d) hB3 S3 g2 I3 hl (by rw [F3]; exact g3) g4 hcR hxR hkR fun M4 f4 I4 _ _ => ?_
    exact hq M4 (fX f4) I4
  · refine ⟨fun g => absurd g (by decide), fun _ => ?_⟩
    refine e_bounds51 (d := d) hB3 S3 g2 I3 hl (by rw [F3]; exact g3) hcR hxR hkR (fun hno M4 f4 I4 => ?_) fun P hP M4 f4 I4 => ?_
    · have h9 := hq M4 (fX f4)
      have e : D_bd true (D_co 8 X (L_at (c + 4) xs)) = none := hno
      rw [e] at h9
      exact h9 (by
        show E_Iv m ρ (L ++ []) M4
        rw [List.append_nil]
        exact I4)
    · have h9 := hq M4 (fX f4)
      have e : D_bd true (D_co 8 X (L_at (c + 4) xs)) = some P := hP
      rw [e] at h9
      exact h9 I4
end DBX
