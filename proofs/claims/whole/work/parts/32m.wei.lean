/-! EXPLAIN, THE REFERENCE: an index is weighed -/
theorem D_als_io {F : Int → Int} : ∀ (S : List (Bool × (Int × b_E))) (s : Option (List D_i)), (∀ z ∈ S, ∀ P, D_ba z.1 z.2 = some P → ∀ x ∈ P, D_io F x) → (∀ A, s = some A → ∀ x ∈ A, D_io F x) → ∀ A, D_als s S = some A → ∀ x ∈ A, D_io F x := by
  intro S
  induction S with
  | nil => exact fun s _ h A hA => h A hA
  | cons z S ih =>
    intro s hS hs A hA
    refine ih (D_al s z) (fun y hy => hS y (List.mem_cons_of_mem _ hy)) (fun A2 hA2 => ?_) A hA
    unfold D_al at hA2
    cases hb : D_ba z.1 z.2 with
    | none =>
      rw [hb] at hA2
      exact hs A2 hA2
    | some P =>
      have hP := hS z List.mem_cons_self P hb
      rw [hb] at hA2
      cases s with
      | none =>
        have e : P = A2 := Option.some.inj hA2
        rw [← e]
        exact hP
      | some A0 =>
        have e : D_mts A0 P = A2 := Option.some.inj hA2
        rw [← e]
        exact D_mts_io (hs A0 rfl) hP
theorem D_bd_io {F : Int → Int} {X : List Int} {l : List (Int × b_E)} {mn : Bool} {P : List D_i} (hg : D_fg F X l) (h : D_bd mn (D_co 8 X l) = some P) : ∀ x ∈ P, D_io F x := by
  cases mn
  · have e : D_als none (D_co 8 X l) = some P := h
    exact D_als_io _ none (fun z hz P2 hP2 => ((hg.2.2.1 z hz).2.2.2.2 P2 hP2).2) (fun A hA => absurd hA (by intro z; cases z)) P e
  · have e : D_mny (D_co 8 X l) = some P := h
    obtain ⟨z, hz, hP⟩ := D_mny_ba e
    exact ((hg.2.2.1 z hz).2.2.2.2 P hP).2
/-- the bounds of a path of an index -/
noncomputable def D_B (mv : Int) (st : List (List Int)) (l : List (Int × b_E)) : Option (List D_i) := D_bd (decide (mv = 1)) (D_co 8 (p_jn st) l)
noncomputable def D_B2 (mv : Int) (s2 : Option (List (List Int))) (l : List (Int × b_E)) : Option (List D_i) := match s2 with
  | none => none
  | some st => D_B mv st l
/-- RANK and RANGES -/
noncomputable def D_rk (b1 b2 : Option (List D_i)) : Int := match b1 with
  | none => 0
  | some A => if A.all D_isp = true then (match b2 with
    | none => 2
    | some _ => 3) else 1
noncomputable def D_rn (b1 b2 : Option (List D_i)) : Int := match b1 with
  | none => 1
  | some A => if A.all D_isp = true then (match b2 with
    | none => (A.length : Int)
    | some B => (A.length : Int) * (B.length : Int)) else (A.length : Int)
def E_WF (m : Nat) (ρ : Nat → Nat) (y : Nat) (k : Int) : Prop := E_XF m ρ y k ∨ (y = m ∧ (k = 65 ∨ k = 66 ∨ k = 67))
def E_hj : List Nat := [0, 35, 36, 37, 38, 39, 45, 46, 48, 49, 50, 51, 52, 53, 54, 68, 69, 70, 71, 72, 73]
theorem E_hj_bf : ∀ j ∈ E_hj, j ∈ E_bf ∧ (j ≠ 57 ∧ j ≠ 58 ∧ j ≠ 59 ∧ j ≠ 60) ∧ j ≠ 62 ∧ j ≠ 63 := by decide
theorem D_mv {mv : Int} (hm : mv = 0 ∨ mv = 1) : mv = if (decide (mv = 1)) = true then 1 else 0 := by
  rcases hm with e | e
  · rw [e]
    rfl
  · rw [e]
    rfl
/-- an index as it was weighed -/
noncomputable def E_Wg (m : Nat) (ρ : Nat → Nat) (b1 b2 : Option (List D_i)) (M : g_M) : Prop := g_i M m 65 = D_rk b1 b2 ∧ g_i M m 66 = D_rn b1 b2 ∧ g_i M m 67 = ((b1.getD []).length : Int) ∧ ∃ C, E_Iv m ρ (b1.getD [] ++ C) M ∧ (D_rk b1 b2 = 3 → C = b2.getD []) ∧ C.length ≤ 700
section DWG
variable {m d : Nat} {ρ : Nat → Nat} {M M1 : g_M} {st : Nat → I_T} {q : Nat → List (Nat × Int × List b_E)} {v : Nat → Int}
theorem R_pt.jn {F : Int → Int} {pe kk x j : Nat} {s : List (List Int)} (h : R_pt F M pe kk s) (hk : kk = 2 * x + j) : b_at F (982000 + 2000 * (2 * (x : Int) + (j : Int))) (p_jn s) ∧ (p_jn s).length ≤ 2000 ∧ g_i M pe (2 * (x : Int) + (j : Int)) = 982000 + 2000 * (2 * (x : Int) + (j : Int)) + (p_jn s).length := by
  obtain ⟨X, q1, q2, q3, q4, q5⟩ := h
  have e : p_jn s = X := by rw [← q1, p_jn_sp]
  have ek : (kk : Int) = 2 * (x : Int) + (j : Int) := by omega
  rw [e, ← ek]
  exact ⟨q2, q3, q5⟩
theorem E_HP_j {y : Nat} {k : Int} (g : E_HP m ρ y k) : (y = m ∧ k = 47) ∨ ∃ j ∈ E_hj, y = ρ j := by
  rcases g with ⟨x, hx, z⟩ | ⟨w, hw, z⟩ | ⟨z1, z2⟩ | ⟨z1, z2⟩
  · rcases z with z | ⟨z | z, -⟩ | ⟨z | z | z, -⟩ | ⟨z, z1, z2⟩
    · rcases z with ⟨z | z, -⟩ | ⟨z, z1, z2⟩ | ⟨z | z | z, -⟩ | ⟨z | z, -⟩ | ⟨z | z, -⟩
      · exact Or.inr ⟨45, by decide, z⟩
      · exact Or.inr ⟨46, by decide, z⟩
      · exact Or.inr ⟨0, by decide, z⟩
      · exact Or.inr ⟨48, by decide, z⟩
      · exact Or.inr ⟨49, by decide, z⟩
      · exact Or.inr ⟨50, by decide, z⟩
      · exact Or.inr ⟨51, by decide, z⟩
      · exact Or.inr ⟨52, by decide, z⟩
      · exact Or.inr ⟨53, by decide, z⟩
      · exact Or.inr ⟨54, by decide, z⟩
    · exact Or.inr ⟨35, by decide, z⟩
    · exact Or.inr ⟨36, by decide, z⟩
    · exact Or.inr ⟨37, by decide, z⟩
    · exact Or.inr ⟨38, by decide, z⟩
    · exact Or.inr ⟨39, by decide, z⟩
    · exact Or.inr ⟨0, by decide, z⟩
  · rcases z with ⟨z | z | z, -⟩ | ⟨z | z | z, -⟩ | ⟨z, z1, z2⟩
    · exact Or.inr ⟨68, by decide, z⟩
    · exact Or.inr ⟨69, by decide, z⟩
    · exact Or.inr ⟨70, by decide, z⟩
    · exact Or.inr ⟨71, by decide, z⟩
    · exact Or.inr ⟨72, by decide, z⟩
    · exact Or.inr ⟨73, by decide, z⟩
    · exact Or.inr ⟨0, by decide, z⟩
  · exact Or.inl ⟨z1, z2⟩
  · exact Or.inr ⟨0, by decide, z1⟩
theorem E_WF_n (h : E_bk m ρ M) {i : Nat} (hi : i ∈ E_bf) (hn : (i ≠ 57 ∧ i ≠ 58 ∧ i ≠ 59 ∧ i ≠ 60) ∧ i ≠ 62 ∧ i ≠ 63) {k : Int} : ¬ E_WF m ρ (ρ i) k := by
  rintro ((z | z) | ⟨z, -⟩)
  · exact E_IF_n h hi hn.1 z
  · exact E_SF_n h hi hn.2 z
  · exact h.nm hi z
theorem E_WF_m (h : E_bk m ρ M) {k : Int} (g : E_WF m ρ m k) : k = 61 ∨ k = 64 ∨ k = 65 ∨ k = 66 ∨ k = 67 := by
  rcases g with (z | z) | ⟨-, z⟩
  · exact Or.inl (E_IF_m h z)
  · exact Or.inr (Or.inl (E_SF_m h z))
  · omega
theorem E_H.wf (h : E_H m ρ st q v M) (f : e_fr (E_WF m ρ) M M1) : E_H m ρ st q v M1 := h.fr f fun y k z g => by
  rcases E_HP_j z with ⟨e, z⟩ | ⟨j, hj, e⟩
  · rw [e] at g
    have := E_WF_m h.1 g
    omega
  · rw [e] at g
    obtain ⟨h1, h2⟩ := E_hj_bf j hj
    exact E_WF_n h.1 h1 h2 g
theorem E_Iv.mf {L : List D_i} {T : Int → Prop} (h : E_Iv m ρ L M) (hB : E_bk m ρ M) (f : e_fr (fun y k => y = m ∧ T k) M M1) (hT : ¬ T 61) : E_Iv m ρ L M1 := h.fr f (fun z => hT z.2) fun j hj k z => hB.nm ((by decide : ∀ j ∈ [57, 58, 59, 60], j ∈ E_bf) j hj) z.1
theorem e_weigh {Q : g_M → Prop} {c : Int} {x : Nat} {V : I_V} {T : N_T I_E} {m1 m2 : Int} {xs : List b_E} {l : List (Int × b_E)} (h : E_H m ρ st q v M) (hx : x < 8) (hst : st x = some (V, T, m1, m2)) (hct : E_ct (g_i M (ρ 0)) c 15 xs) (hl : l = L_at (c + 4) xs) (hg1 : D_fg (g_i M (ρ 0)) (p_jn V.2.2.1) l) (hg2 : ∀ s2, V.2.2.2 = some s2 → D_fg (g_i M (ρ 0)) (p_jn s2) l) (hq : ∀ M1, e_fr (E_WF m ρ) M M1 → E_Wg m ρ (D_B m1 V.2.2.1 l) (D_B2 m2 V.2.2.2 l) M1 → Q M1) : g_Call (d + 56) 401 [.ref m, g_n c, g_n (x : Int)] M (g_qV Q) := by
  subst hl
  have c1 := hct.2.1
  have c2 := hct.2.2.1
  have hcR : g_InR c := ⟨by omega, by omega⟩
  have hxR : g_InR (x : Int) := ⟨by omega, by omega⟩
  have hB := h.1
  have hix := h.2.2.2.1 x hx
  rw [hst] at hix
  obtain ⟨k1, ⟨-, -, p1, b3, b4, p2, -⟩, -, ⟨k4, k5⟩, k6, k7⟩ := hix
  have w : ∀ (N : g_M) (j a k : Int), g_i (g_wi N m j a) m k = if k = j then a else g_i N m k := fun N j a k => by
    rw [g_i_wi]
    by_cases g : k = j
    · rw [if_pos ⟨rfl, g⟩, if_pos g]
    · rw [if_neg (fun z => g z.2), if_neg g]
  have W61 : E_WF m ρ m 61 := Or.inl (Or.inl (Or.inr (Or.inr (Or.inr (Or.inr ⟨rfl, rfl⟩)))))
  have W65 : E_WF m ρ m 65 := Or.inr ⟨rfl, Or.inl rfl⟩
  have W66 : E_WF m ρ m 66 := Or.inr ⟨rfl, Or.inr (Or.inl rfl)⟩
  have W67 : E_WF m ρ m 67 := Or.inr ⟨rfl, Or.inr (Or.inr rfl)⟩
  have hkp : ∀ {M' : g_M}, e_fr (E_WF m ρ) M M' → g_i M' (ρ 0) = g_i M (ρ 0) ∧ (∀ k, g_i M' (ρ 37) k = g_i M (ρ 37) k) ∧ (∀ k, g_i M' (ρ 39) k = g_i M (ρ 39) k) ∧ ∀ k, g_i M' (ρ 36) k = g_i M (ρ 36) k := fun f => ⟨funext fun j => f.2.1 _ j (E_WF_n hB (by decide) (by decide)), fun k => f.2.1 _ k (E_WF_n hB (by decide) (by decide)), fun k => f.2.1 _ k (E_WF_n hB (by decide) (by decide)), fun k => f.2.1 _ k (E_WF_n hB (by decide) (by decide))⟩
  have xfm : ∀ {M2 M3 : g_M}, e_fr (E_XF m ρ) M2 M3 → ∀ k, k ≠ 61 → k ≠ 64 → g_i M3 m k = g_i M2 m k := fun f k n1 n2 => f.2.1 _ _ fun z => by
    have := E_WF_m hB (Or.inl z)
    rcases z with z | z
    · exact n1 (E_IF_m hB z)
    · exact n2 (E_SF_m hB z)
  -- behind the points of the first path
  have hend : ∀ (A : List D_i) (M' : g_M) (v3 : Int), g_InR v3 → D_B m1 V.2.2.1 (L_at (c + 4) xs) = some A → e_fr (E_WF m ρ) M M' → E_Iv m ρ A M' → g_i M' m 66 = A.length → g_i M' m 67 = A.length → g_i M' m 65 = (if A.all D_isp = true then 2 else 1) → g_Run (d + 55) 401 52 [(0, .ref m), (1, g_n c), (2, g_n (x : Int)), (3, g_n v3), (4, g_n (A.length : Int))] [] M' (g_qV Q) := by
    intro A M' v3 h3R hA f' I' h66 h67 h65
    have hAl : A.length ≤ 700 := hg1.2.2.2.2 _ A hA
    have hB' := hB.fr f'
    obtain ⟨F0, F37, F39, F36⟩ := hkp f'
    have hAR : g_InR (A.length : Int) := ⟨by omega, by omega⟩
    have b36 := hB'.at (k := 36) (by decide)
    have b36A : g_A M' (ρ 36) 1 8 := b36.2
    rw [hA] at hq
    have hgd : ((some A).getD [] : List D_i) = A := rfl
    refine s_X12_weigh_52 hcR hxR h3R hAR fun _ => ⟨hB'.1, fun g => absurd g (by rw [h67]; omega), fun _ => ⟨fun g65 => ?_, fun g65 => ?_⟩⟩
    · have hno : ¬ A.all D_isp = true := fun z => by
        rw [if_pos z] at h65
        omega
      have hrk : ∀ b2, D_rk (some A) b2 = 1 := fun b2 => if_neg hno
      have hrn : ∀ b2, D_rn (some A) b2 = A.length := fun b2 => if_neg hno
      refine hq M' f' ⟨by rw [hrk]; exact g65, by rw [hrn]; exact h66, h67, [], by rw [List.append_nil]; exact I', fun z => ?_, Nat.zero_le _⟩
      rw [hrk] at z
      exact absurd z (by decide)
    · have hall : A.all D_isp = true := by
        cases hz : A.all D_isp
        · rw [hz, if_neg (by decide)] at h65
          exact absurd h65 g65
        · rfl
      rw [if_pos hall] at h65
      have hrk : ∀ b2, D_rk (some A) b2 = (match b2 with
        | none => 2
        | some _ => 3) := fun b2 => if_pos hall
      have hrn : ∀ b2, D_rn (some A) b2 = (match b2 with
        | none => (A.length : Int)
        | some B => (A.length : Int) * (B.length : Int)) := fun b2 => if_pos hall
      have hno : ∀ M7, e_fr (E_WF m ρ) M M7 → D_B2 m2 V.2.2.2 (L_at (c + 4) xs) = none → E_Iv m ρ A M7 → g_i M7 m 65 = 2 → g_i M7 m 66 = A.length → g_i M7 m 67 = A.length → Q M7 := fun M7 f7 hn I7 e65 e66 e67 => by
        rw [hn] at hq
        refine hq M7 f7 ⟨e65.trans (hrk none).symm, e66.trans (hrn none).symm, e67, [], by rw [List.append_nil]; exact I7, fun z => ?_, Nat.zero_le _⟩
        rw [hrk none] at z
        exact absurd z (by decide)
      refine ⟨ρ 36, b36.1, 8, b36A, ⟨by omega, by omega⟩, ?_⟩
      rw [F36]
      refine ⟨fun g2 => hno M' f' ?_ I' h65 h66 h67, fun g2 => ?_⟩
      · have e := b4.mpr (by omega)
        rw [e]
        rfl
      · cases hs2 : V.2.2.2 with
        | none =>
          have := b4.mp hs2
          omega
        | some s2 =>
          obtain ⟨pX, pL, pE⟩ := (p2 s2 hs2).jn (j := 1) rfl
          have e39 : g_i M' (ρ 39) (2 * (x : Int) + ((1 : Nat) : Int)) = if (decide (m2 = 1)) = true then 1 else 0 := by
            rw [F39, show 2 * (x : Int) + ((1 : Nat) : Int) = ((2 * x + 1 : Nat) : Int) by omega, k5]
            exact D_mv k7
          refine e_bounds (d := d) (k := 1) (mn := decide (m2 = 1)) (X := p_jn s2) (xs := xs) hB' I' hAl (by rw [F0]; exact hct) hx (by decide) (by rw [F0]; exact pX) pL (by rw [F37]; exact pE) e39 rfl (by rw [F0]; exact hg2 s2 hs2) fun M7 f7 I7 => ?_
          intro _ _ _
          have f7' := f'.tr (f7.up fun _ _ z => Or.inl z)
          have x7 := xfm f7
          have eB : D_B2 m2 V.2.2.2 (L_at (c + 4) xs) = D_bd (decide (m2 = 1)) (D_co 8 (p_jn s2) (L_at (c + 4) xs)) := by
            rw [hs2]
            rfl
          cases hb2 : D_bd (decide (m2 = 1)) (D_co 8 (p_jn s2) (L_at (c + 4) xs)) with
          | none =>
            rw [hb2] at I7
            refine ⟨fun _ => hno M7 f7' (eB.trans hb2) (by
              have : E_Iv m ρ (A ++ []) M7 := I7
              rwa [List.append_nil] at this) (by rw [x7 65 (by decide) (by decide)]; exact h65) (by rw [x7 66 (by decide) (by decide)]; exact h66) (by rw [x7 67 (by decide) (by decide)]; exact h67), fun g => absurd rfl g⟩
          | some B =>
            rw [hb2] at I7
            have I7 : E_Iv m ρ (A ++ B) M7 := I7
            have hBl : B.length ≤ 700 := (hg2 s2 hs2).2.2.2.2 _ B hb2
            refine ⟨fun g => absurd (show (1 : Int) = 0 from g) (by decide), fun _ => ?_⟩
            rintro M12 e12 _
            have v61 : g_i M12 m 61 = (A.length : Int) + (B.length : Int) := by
              rw [e12, w, if_neg (by decide), I7.1, List.length_append]
              omega
            have v67 : g_i M12 m 67 = A.length := by
              rw [e12, w, if_neg (by decide), x7 67 (by decide) (by decide)]
              exact h67
            rw [v61, v67, show (A.length : Int) + (B.length : Int) - (A.length : Int) = (B.length : Int) by omega]
            have hmul1 : (A.length : Int) * (B.length : Int) ≤ 700 * 700 := Int.mul_le_mul (by omega) (by omega) (by omega) (by omega)
            have hmul2 : 0 ≤ (A.length : Int) * (B.length : Int) := Int.mul_nonneg (by omega) (by omega)
            refine ⟨⟨by omega, by omega⟩, ⟨by omega, by omega⟩, ?_⟩
            rintro M18 e18 _
            have f18 : e_fr (fun y k => y = m ∧ (k = 65 ∨ k = 66 ∨ k = 67)) M7 M18 := by
              rw [e18, e12]
              exact (e_fr.wi _ ⟨rfl, Or.inl rfl⟩).tr (e_fr.wi _ ⟨rfl, Or.inr (Or.inl rfl)⟩)
            have I18 : E_Iv m ρ (A ++ B) M18 := I7.mf (hB.fr f7') f18 (by decide)
            rw [eB, hb2] at hq
            refine hq M18 (f7'.tr (f18.up fun _ _ z => Or.inr z)) ⟨?_, ?_, ?_, B, I18, fun _ => rfl, hBl⟩
            · rw [e18, w, if_neg (by decide), e12, w, if_pos rfl]
              exact (hrk (some B)).symm
            · rw [e18, w, if_pos rfl]
              exact (hrn (some B)).symm
            · rw [e18, w, if_neg (by decide), v67]
              rfl
  have hlp : ∀ (R P A : List D_i) (M' : g_M) (v3 : Int), A = P ++ R → g_InR v3 → D_B m1 V.2.2.1 (L_at (c + 4) xs) = some A → e_fr (E_WF m ρ) M M' → E_Iv m ρ A M' → g_i M' m 66 = A.length → g_i M' m 67 = A.length → g_i M' m 65 = (if P.all D_isp = true then 2 else 1) → g_Run (d + 55) 401 52 [(0, .ref m), (1, g_n c), (2, g_n (x : Int)), (3, g_n v3), (4, g_n (P.length : Int))] [] M' (g_qV Q) := by
    intro R
    induction R with
    | nil =>
      intro P A M' v3 hA h3R hbA f' I' h66 h67 h65
      rw [List.append_nil] at hA
      rw [hA] at hbA I' h66 h67
      exact hend P M' v3 h3R hbA f' I' h66 h67 h65
    | cons i R ih =>
      intro P A M' v3 hA h3R hbA f' I' h66 h67 h65
      have hAl : A.length ≤ 700 := hg1.2.2.2.2 _ A hbA
      have hll := congrArg List.length hA
      rw [List.length_append, List.length_cons] at hll
      have hB' := hB.fr f'
      have hi : A[P.length]? = some i := by
        rw [hA, List.getElem?_append_right (Nat.le_refl _), Nat.sub_self]
        rfl
      have hio : D_io (g_i M' (ρ 0)) i := by
        rw [(hkp f').1]
        exact D_bd_io hg1 hbA i (List.mem_of_getElem? hi)
      have next : ∀ M2, e_fr (fun y k => y = m ∧ k = 65) M' M2 → g_i M2 m 65 = (if (P ++ [i]).all D_isp = true then 2 else 1) → g_Run (d + 55) 401 52 [(0, .ref m), (1, g_n c), (2, g_n (x : Int)), (3, g_n v3), (4, g_n ((P.length : Int) + 1))] [] M2 (g_qV Q) := fun M2 f2 h2 => by
        have h9 := ih (P ++ [i]) A M2 v3 (by rw [hA]; simp) h3R hbA (f'.tr (f2.up fun _ _ z => Or.inr ⟨z.1, Or.inl z.2⟩)) (I'.mf hB' f2 (by decide)) (by rw [f2.2.1 _ _ fun z => absurd z.2 (by decide)]; exact h66) (by rw [f2.2.1 _ _ fun z => absurd z.2 (by decide)]; exact h67) h2
        rw [show ((P ++ [i]).length : Int) = (P.length : Int) + 1 by rw [List.length_append, List.length_singleton]; omega] at h9
        exact h9
      refine s_X12_weigh_52 hcR hxR h3R ⟨by omega, by omega⟩ fun _ => ⟨hB'.1, fun _ => e_isPoint (d := d + 8) hB' I' hi (by omega) hio ?_, fun g => absurd (by rw [h67]; omega) g⟩
      intro _ _ _
      cases hip : D_isp i
      · refine ⟨fun _ => ?_, fun g => absurd (if_neg (by decide)) g⟩
        rintro M28 e28 _
        refine ⟨⟨by omega, by omega⟩, next M28 (by rw [e28]; exact e_fr.wi 1 ⟨rfl, rfl⟩) ?_⟩
        rw [e28, w, if_pos rfl, if_neg]
        rw [List.all_append]
        simp [hip]
      · refine ⟨fun g => absurd g (by decide), fun _ => ⟨⟨by omega, by omega⟩, next M' (e_fr.rf _ _) ?_⟩⟩
        have e : (P ++ [i]).all D_isp = P.all D_isp := by
          rw [List.all_append]
          show (P.all D_isp && (D_isp i && true)) = P.all D_isp
          rw [hip, Bool.and_true, Bool.and_true]
        rw [e]
        exact h65
  refine m_X12_weigh (d := d + 55) hcR hxR fun _ => ⟨hB.1, fun M2 e2 _ M6 e6 _ M10 e10 _ => ?_⟩
  have f10 : e_fr (E_WF m ρ) M M10 := by
    rw [e10, e6, e2]
    exact ((e_fr.wi 0 W61).tr (e_fr.wi 0 W65)).tr (e_fr.wi 1 W66)
  have H10 := h.wf f10
  have I10 : E_Iv m ρ [] M10 := ⟨by
    rw [e10, w, if_neg (by decide), e6, w, if_neg (by decide), e2, w, if_pos rfl]
    rfl, fun i z hi => absurd hi (by simp)⟩
  have v65 : g_i M10 m 65 = 0 := by rw [e10, w, if_neg (by decide), e6, w, if_pos rfl]
  have v66 : g_i M10 m 66 = 1 := by rw [e10, w, if_pos rfl]
  obtain ⟨F0, F37, F39, -⟩ := hkp f10
  obtain ⟨pX, pL, pE⟩ := p1.jn (j := 0) rfl
  have e39 : g_i M10 (ρ 39) (2 * (x : Int) + ((0 : Nat) : Int)) = if (decide (m1 = 1)) = true then 1 else 0 := by
    rw [F39, show 2 * (x : Int) + ((0 : Nat) : Int) = ((2 * x : Nat) : Int) by omega, k4]
    exact D_mv k6
  refine e_bounds (d := d) (L := []) (k := 0) (mn := decide (m1 = 1)) (X := p_jn V.2.2.1) (xs := xs) H10.1 I10 (Nat.zero_le _) (by rw [F0]; exact hct) hx (by decide) (by rw [F0]; exact pX) pL (by rw [F37]; exact pE) e39 rfl (by rw [F0]; exact hg1) fun M14 f14 I14 => ?_
  intro _ _ _
  rw [List.nil_append] at I14
  have f14' := f10.tr (f14.up fun _ _ z => Or.inl z)
  have x14 := xfm f14
  rintro M19 e19 _
  cases hb : D_bd (decide (m1 = 1)) (D_co 8 (p_jn V.2.2.1) (L_at (c + 4) xs)) with
  | none =>
    rw [hb] at I14
    have I14 : E_Iv m ρ [] M14 := I14
    have hb1 : D_B m1 V.2.2.1 (L_at (c + 4) xs) = none := hb
    rw [hb1] at hq
    have f19 : e_fr (fun y k => y = m ∧ k = 67) M14 M19 := by
      rw [e19]
      exact e_fr.wi _ ⟨rfl, rfl⟩
    refine ⟨fun _ => hq M19 (f14'.tr (f19.up fun _ _ z => Or.inr ⟨z.1, Or.inr (Or.inr z.2)⟩)) ⟨?_, ?_, ?_, [], I14.mf (hB.fr f14') f19 (by decide), fun z => absurd (show (0 : Int) = 3 from z) (by decide), Nat.zero_le _⟩, fun g => absurd rfl g⟩
    · rw [e19, w, if_neg (by decide), x14 65 (by decide) (by decide)]
      exact v65
    · rw [e19, w, if_neg (by decide), x14 66 (by decide) (by decide)]
      exact v66
    · rw [e19, w, if_pos rfl]
      exact I14.1
  | some A =>
    rw [hb] at I14
    have I14 : E_Iv m ρ A M14 := I14
    refine ⟨fun g => absurd (show (1 : Int) = 0 from g) (by decide), fun _ => ?_⟩
    rintro M23 e23 _ M27 e27 _
    have v67 : g_i M23 m 67 = A.length := by
      rw [e23, w, if_neg (by decide), e19, w, if_pos rfl]
      exact I14.1
    have f27 : e_fr (fun y k => y = m ∧ (k = 65 ∨ k = 66 ∨ k = 67)) M14 M27 := by
      rw [e27, e23, e19]
      exact ((e_fr.wi _ ⟨rfl, Or.inr (Or.inr rfl)⟩).tr (e_fr.wi _ ⟨rfl, Or.inl rfl⟩)).tr (e_fr.wi _ ⟨rfl, Or.inr (Or.inl rfl)⟩)
    have g66 : g_i M27 m 66 = A.length := by
      rw [e27, w, if_pos rfl]
      exact v67
    have g67 : g_i M27 m 67 = A.length := by
      rw [e27, w, if_neg (by decide)]
      exact v67
    have g65 : g_i M27 m 65 = 2 := by rw [e27, w, if_neg (by decide), e23, w, if_pos rfl]
    exact hlp A [] A M27 1 rfl (show g_InR 1 from ⟨by decide, by decide⟩) hb (f14'.tr (f27.up fun _ _ z => Or.inr z)) (I14.mf (hB.fr f14') f27 (by decide)) g66 g67 g65
end DWG
