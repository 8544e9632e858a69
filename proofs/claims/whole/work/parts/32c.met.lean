/-! EXPLAIN, THE REFERENCE: what is in two sets of intervals -/
theorem v_ok.lt {r s : Int} (h : v_ok r s) : r < 0 ↔ s < 0 := by
  obtain ⟨h, -, -⟩ := h
  unfold v_sg at h
  split at h
  · omega
  · split at h <;> omega
theorem v_ok.gt {r s : Int} (h : v_ok r s) : 0 < r ↔ 0 < s := by
  obtain ⟨h, -, -⟩ := h
  unfold v_sg at h
  split at h
  · omega
  · split at h <;> omega
noncomputable def D_one (x y : D_i) : D_e := if D_c (D_lo x) (D_lo y) < 0 then D_lo y else D_lo x
noncomputable def D_two (x y : D_i) : D_e := if 0 < D_c (D_hi x) (D_hi y) then D_hi y else D_hi x
noncomputable def D_1in (x y : D_i) : Bool := if 0 < D_c (D_lo x) (D_lo y) then x.2.2.1 else if D_c (D_lo x) (D_lo y) < 0 then y.2.2.1 else x.2.2.1 && y.2.2.1
noncomputable def D_2in (x y : D_i) : Bool := if D_c (D_hi x) (D_hi y) < 0 then x.2.2.2.2 else if 0 < D_c (D_hi x) (D_hi y) then y.2.2.2.2 else x.2.2.2.2 && y.2.2.2.2
noncomputable def D_kp (x y : D_i) : Bool := decide (D_c (D_one x y) (D_two x y) < 0) || (decide (D_c (D_one x y) (D_two x y) = 0) && (D_1in x y && D_2in x y))
noncomputable def D_rs (x y : D_i) : D_i := (x.1, if D_c (D_lo x) (D_lo y) < 0 then y.2.1 else x.2.1, D_1in x y, if 0 < D_c (D_hi x) (D_hi y) then y.2.2.2.1 else x.2.2.2.1, D_2in x y)
/-- what is in two intervals -/
noncomputable def D_mt (x y : D_i) : List D_i := if D_kp x y = true then [D_rs x y] else []
noncomputable def D_mtr (x : D_i) (B : List D_i) : List D_i := B.flatMap (D_mt x)
noncomputable def D_mts (A B : List D_i) : List D_i := A.flatMap fun x => D_mtr x B
theorem D_lo_1 (x : D_i) : (D_lo x).1 = x.1 := by
  unfold D_lo
  split <;> rfl
theorem D_hi_1 (x : D_i) : (D_hi x).1 = x.1 := by
  unfold D_hi
  split <;> rfl
theorem D_c_lt {e f : D_e} (h : e.1 < f.1) : D_c e f = -1 := if_pos h
theorem D_c_gt {e f : D_e} (h : f.1 < e.1) : D_c e f = 1 := by
  unfold D_c
  rw [if_neg (by omega), if_pos h]
theorem D_kp_cl {x y : D_i} (h : D_kp x y = true) : x.1 = y.1 := by
  by_cases g : x.1 = y.1
  · exact g
  · have e1 := D_lo_1 x
    have e2 := D_lo_1 y
    have e3 := D_hi_1 x
    have e4 := D_hi_1 y
    have hbad : D_c (D_one x y) (D_two x y) = 1 := by
      unfold D_one D_two
      by_cases g2 : x.1 < y.1
      · rw [D_c_lt (e := D_lo x) (f := D_lo y) (by omega), D_c_lt (e := D_hi x) (f := D_hi y) (by omega), if_pos (by decide), if_neg (by decide)]
        exact D_c_gt (by omega)
      · rw [D_c_gt (e := D_lo x) (f := D_lo y) (by omega), D_c_gt (e := D_hi x) (f := D_hi y) (by omega), if_neg (by decide), if_pos (by decide)]
        exact D_c_gt (by omega)
    unfold D_kp at h
    rw [hbad] at h
    exact absurd h (by simp)
theorem D_rs_ends {x y : D_i} (h : D_kp x y = true) : D_lo (D_rs x y) = D_one x y ∧ D_hi (D_rs x y) = D_two x y := by
  have hc := D_kp_cl h
  obtain ⟨a, b⟩ := x
  obtain ⟨a2, b2⟩ := y
  have hc : a = a2 := hc
  subst hc
  unfold D_rs D_one D_two
  constructor
  · by_cases g : D_c (D_lo (a, b)) (D_lo (a, b2)) < 0
    · rw [if_pos g, if_pos g]
      rfl
    · rw [if_neg g, if_neg g]
      rfl
  · by_cases g : 0 < D_c (D_hi (a, b)) (D_hi (a, b2))
    · rw [if_pos g, if_pos g]
      rfl
    · rw [if_neg g, if_neg g]
      rfl
theorem D_mt_io {F : Int → Int} {x y : D_i} (hx : D_io F x) (hy : D_io F y) : ∀ r ∈ D_mt x y, D_io F r := by
  intro r hr
  unfold D_mt at hr
  split at hr
  · rename_i h
    rw [List.mem_singleton.mp hr]
    obtain ⟨e1, e2⟩ := D_rs_ends h
    unfold D_io
    rw [e1, e2]
    unfold D_one D_two
    constructor
    · split
      · exact hy.1
      · exact hx.1
    · split
      · exact hy.2
      · exact hx.2
  · exact absurd hr (by simp)
theorem D_mts_io {F : Int → Int} {A B : List D_i} (hA : ∀ x ∈ A, D_io F x) (hB : ∀ x ∈ B, D_io F x) : ∀ r ∈ D_mts A B, D_io F r := by
  intro r hr
  obtain ⟨x, hx, hr⟩ := List.mem_flatMap.mp hr
  obtain ⟨y, hy, hr⟩ := List.mem_flatMap.mp hr
  exact D_mt_io (hA x hx) (hB y hy) r hr
theorem D_mts_app (A1 A2 B : List D_i) : D_mts (A1 ++ A2) B = D_mts A1 B ++ D_mts A2 B := List.flatMap_append
theorem D_mtr_app (x : D_i) (B1 B2 : List D_i) : D_mtr x (B1 ++ B2) = D_mtr x B1 ++ D_mtr x B2 := List.flatMap_append
theorem D_mts_1 (x : D_i) (B : List D_i) : D_mts [x] B = D_mtr x B := by
  show D_mtr x B ++ [] = _
  rw [List.append_nil]
theorem D_mtr_1 (x y : D_i) : D_mtr x [y] = D_mt x y := by
  show D_mt x y ++ [] = _
  rw [List.append_nil]
section DMA
variable {m d : Nat} {ρ : Nat → Nat} {M M1 : g_M} {L L0 : List D_i}
theorem E_Iv.b01 (h : E_Iv m ρ L M) {i : Nat} {x : D_i} (hi : L[i]? = some x) : (g_i M (ρ 59) i = 0 ∨ g_i M (ρ 59) i = 1) ∧ (g_i M (ρ 60) i = 0 ∨ g_i M (ρ 60) i = 1) := by
  obtain ⟨-, k2, -, k4⟩ := h.2 i x hi
  rw [k2, k4]
  constructor
  · split
    · exact Or.inr rfl
    · exact Or.inl rfl
  · split
    · exact Or.inr rfl
    · exact Or.inl rfl
theorem e_meetAll {Q : g_M → Prop} {A B : List D_i} (hB : E_bk m ρ M) (hI : E_Iv m ρ (L0 ++ A ++ B) M) (hl : L0.length + A.length + B.length + (D_mts A B).length < 6000) (hA : ∀ x ∈ A, D_io (g_i M (ρ 0)) x) (hBo : ∀ x ∈ B, D_io (g_i M (ρ 0)) x) (hq : ∀ M1, e_fr (E_IF m ρ) M M1 → E_Iv m ρ (L0 ++ D_mts A B) M1 → Q M1) : g_Call (d + 48) 396 [.ref m, g_n L0.length, g_n ((L0.length + A.length : Nat) : Int)] M (g_qV Q) := by
  have h61 := hI.1
  rw [List.length_append, List.length_append] at h61
  obtain ⟨v1, hv1⟩ : ∃ v1 : Nat, v1 = L0.length := ⟨_, rfl⟩
  obtain ⟨v2, hv2⟩ : ∃ v2 : Nat, v2 = L0.length + A.length := ⟨_, rfl⟩
  obtain ⟨v3, hv3⟩ : ∃ v3 : Nat, v3 = L0.length + A.length + B.length := ⟨_, rfl⟩
  rw [← hv3] at h61
  rw [← hv2]
  have hv1e : (L0.length : Int) = v1 := by omega
  rw [hv1e]
  have hv1R : g_InR (v1 : Int) := ⟨by omega, by omega⟩
  have hv2R : g_InR (v2 : Int) := ⟨by omega, by omega⟩
  have hv3R : g_InR (v3 : Int) := ⟨by omega, by omega⟩
  have ne : ∀ {i j : Nat}, i ∈ E_bf → j ∈ E_bf → i ≠ j → ρ i ≠ ρ j := fun h1 h2 h3 => hB.ne h1 h2 h3
  have hmne : ∀ k ∈ E_bf, m ≠ ρ k := fun k hk z => hB.nm hk z.symm
  refine m_X12_meetAll hv1R hv2R fun _ => ⟨hB.1, ?_⟩
  rw [h61]
  -- the result goes where the first set began
  have h290 : ∀ (R : List D_i) (M0 : g_M), D_mts A B = R → e_fr (E_IF m ρ) M M0 → E_Iv m ρ (L0 ++ A ++ B ++ R) M0 → g_Run (d + 47) 396 290 [(0, .ref m), (1, g_n v1), (2, g_n v2), (3, g_n v3), (4, g_n R.length), (5, g_n 0)] [] M0 (g_qV Q) := by
    intro R M0 hRe f0 I0
    rw [hRe] at hl hq
    have hlp : ∀ (b k : Nat) (M' : g_M), k + b = R.length → e_fr (E_IF m ρ) M0 M' → (∀ (i : Nat) (x : D_i), (L0 ++ R)[i]? = some x → i < L0.length + k → g_i M' (ρ 57) i = D_p (D_lo x) ∧ g_i M' (ρ 59) i = (if x.2.2.1 = true then 1 else 0) ∧ g_i M' (ρ 58) i = D_p (D_hi x) ∧ g_i M' (ρ 60) i = if x.2.2.2.2 = true then 1 else 0) → (∀ (i : Nat) (x : D_i), R[i]? = some x → k ≤ i → g_i M' (ρ 57) ((v3 + i : Nat) : Int) = D_p (D_lo x) ∧ g_i M' (ρ 59) ((v3 + i : Nat) : Int) = (if x.2.2.1 = true then 1 else 0) ∧ g_i M' (ρ 58) ((v3 + i : Nat) : Int) = D_p (D_hi x) ∧ g_i M' (ρ 60) ((v3 + i : Nat) : Int) = if x.2.2.2.2 = true then 1 else 0) → g_Run (d + 47) 396 290 [(0, .ref m), (1, g_n v1), (2, g_n v2), (3, g_n v3), (4, g_n R.length), (5, g_n k)] [] M' (g_qV Q) := by
      intro b
      induction b with
      | zero =>
        intro k M' hk f' t1 t2
        have hB' := (hB.fr f0).fr f'
        refine s_X12_meetAll_290 hv1R hv2R hv3R ⟨by omega, by omega⟩ ⟨by omega, by omega⟩ fun _ => ⟨fun g => absurd g (by omega), fun _ => ⟨⟨by omega, by omega⟩, hB'.1, ?_⟩⟩
        rintro M3 e3 _
        have f3 : e_fr (E_IF m ρ) M' M3 := by rw [e3]; exact e_fr.wi _ (Or.inr (Or.inr (Or.inr (Or.inr ⟨rfl, rfl⟩))))
        have g3 : ∀ j ∈ E_bf, ∀ k, g_i M3 (ρ j) k = g_i M' (ρ j) k := fun j hj k => by rw [e3, g_i_wi, if_neg (fun z => hmne j hj z.1.symm)]
        refine hq M3 (f0.tr (f'.tr f3)) ⟨?_, fun i x hi => ?_⟩
        · rw [e3, g_i_wi, if_pos ⟨rfl, rfl⟩, List.length_append]
          omega
        · have hil := (List.getElem?_eq_some_iff.mp hi).1
          rw [List.length_append] at hil
          rw [g3 57 (by decide), g3 58 (by decide), g3 59 (by decide), g3 60 (by decide)]
          exact t1 i x hi (by omega)
      | succ b ih =>
        intro k M' hk f' t1 t2
        have hB' := (hB.fr f0).fr f'
        obtain ⟨x, hx⟩ : ∃ x, R[k]? = some x := ⟨R[k]'(by omega), List.getElem?_eq_getElem (by omega)⟩
        obtain ⟨x1, x2, x3, x4⟩ := t2 k x hx (Nat.le_refl _)
        have hx59 : g_i M' (ρ 59) ((v3 + k : Nat) : Int) = 0 ∨ g_i M' (ρ 59) ((v3 + k : Nat) : Int) = 1 := by
          rw [x2]
          split
          · exact Or.inr rfl
          · exact Or.inl rfl
        have hx60 : g_i M' (ρ 60) ((v3 + k : Nat) : Int) = 0 ∨ g_i M' (ρ 60) ((v3 + k : Nat) : Int) = 1 := by
          rw [x4]
          split
          · exact Or.inr rfl
          · exact Or.inl rfl
        have b57 := hB'.at (k := 57) (by decide)
        have b57A : g_A M' (ρ 57) 1 6000 := b57.2
        have b58 := hB'.at (k := 58) (by decide)
        have b58A : g_A M' (ρ 58) 1 6000 := b58.2
        have b59 := hB'.at (k := 59) (by decide)
        have b59A : g_A M' (ρ 59) 2 6000 := b59.2
        have b60 := hB'.at (k := 60) (by decide)
        have b60A : g_A M' (ρ 60) 2 6000 := b60.2
        have s1 : (v1 : Int) + k = ((v1 + k : Nat) : Int) := by omega
        have s3 : (v3 : Int) + k = ((v3 + k : Nat) : Int) := by omega
        refine s_X12_meetAll_290 hv1R hv2R hv3R ⟨by omega, by omega⟩ ⟨by omega, by omega⟩ fun _ => ⟨fun _ => ⟨hB'.1, ?_⟩, fun g => absurd (by omega) g⟩
        rw [s1, s3]
        have i1 : g_InR ((v1 + k : Nat) : Int) := ⟨by omega, by omega⟩
        have i3 : g_InR ((v3 + k : Nat) : Int) := ⟨by omega, by omega⟩
        have j1 : 0 ≤ ((v1 + k : Nat) : Int) ∧ ((v1 + k : Nat) : Int) < 6000 := ⟨by omega, by omega⟩
        have j3 : 0 ≤ ((v3 + k : Nat) : Int) ∧ ((v3 + k : Nat) : Int) < 6000 := ⟨by omega, by omega⟩
        refine ⟨ρ 57, b57.1, i1, ρ 57, b57.1, i3, 6000, b57A, j3, 6000, b57A, j1, ?_⟩
        rintro M20 e20 _
        have f20 : e_fr (E_IF m ρ) M' M20 := by rw [e20]; exact e_fr.wi _ (Or.inl rfl)
        refine ⟨ρ 59, by rw [f20.2.2]; exact b59.1, i1, ρ 59, by rw [f20.2.2]; exact b59.1, i3, 6000, f20.A b59A, j3, 6000, f20.A b59A, j1, ?_⟩
        have k59 : ∀ j, g_i M20 (ρ 59) j = g_i M' (ρ 59) j := fun j => by rw [e20, g_i_wi, if_neg (fun z => ne (by decide) (by decide) (by decide) z.1)]
        rw [k59]
        refine ⟨hx59, ?_⟩
        rintro M37 e37 _
        have f37 : e_fr (E_IF m ρ) M' M37 := f20.tr (by rw [e37]; exact e_fr.wi _ (Or.inr (Or.inr (Or.inl rfl))))
        refine ⟨ρ 58, by rw [f37.2.2]; exact b58.1, i1, ρ 58, by rw [f37.2.2]; exact b58.1, i3, 6000, f37.A b58A, j3, 6000, f37.A b58A, j1, ?_⟩
        have k58 : ∀ j, g_i M37 (ρ 58) j = g_i M' (ρ 58) j := fun j => by rw [e37, g_i_wi, if_neg (fun z => ne (by decide) (by decide) (by decide) z.1), e20, g_i_wi, if_neg (fun z => ne (by decide) (by decide) (by decide) z.1)]
        rw [k58]
        rintro M53 e53 _
        have f53 : e_fr (E_IF m ρ) M' M53 := f37.tr (by rw [e53]; exact e_fr.wi _ (Or.inr (Or.inl rfl)))
        refine ⟨ρ 60, by rw [f53.2.2]; exact b60.1, i1, ρ 60, by rw [f53.2.2]; exact b60.1, i3, 6000, f53.A b60A, j3, 6000, f53.A b60A, j1, ?_⟩
        have k60 : ∀ j, g_i M53 (ρ 60) j = g_i M' (ρ 60) j := fun j => by rw [e53, g_i_wi, if_neg (fun z => ne (by decide) (by decide) (by decide) z.1), e37, g_i_wi, if_neg (fun z => ne (by decide) (by decide) (by decide) z.1), e20, g_i_wi, if_neg (fun z => ne (by decide) (by decide) (by decide) z.1)]
        rw [k60]
        refine ⟨hx60, ?_⟩
        rintro M70 e70 _
        have f70 : e_fr (E_IF m ρ) M' M70 := f53.tr (by rw [e70]; exact e_fr.wi _ (Or.inr (Or.inr (Or.inr (Or.inl rfl)))))
        refine ⟨⟨by omega, by omega⟩, ?_⟩
        have w57 : ∀ j, g_i M70 (ρ 57) j = if j = ((v1 + k : Nat) : Int) then g_i M' (ρ 57) ((v3 + k : Nat) : Int) else g_i M' (ρ 57) j := fun j => by
          rw [e70, g_i_wi, if_neg (fun z => ne (by decide) (by decide) (by decide) z.1), e53, g_i_wi, if_neg (fun z => ne (by decide) (by decide) (by decide) z.1), e37, g_i_wi, if_neg (fun z => ne (by decide) (by decide) (by decide) z.1), e20, g_i_wi]
          by_cases g : j = ((v1 + k : Nat) : Int)
          · rw [if_pos ⟨rfl, g⟩, if_pos g]
          · rw [if_neg (fun z => g z.2), if_neg g]
        have w59 : ∀ j, g_i M70 (ρ 59) j = if j = ((v1 + k : Nat) : Int) then g_i M' (ρ 59) ((v3 + k : Nat) : Int) else g_i M' (ρ 59) j := fun j => by
          rw [e70, g_i_wi, if_neg (fun z => ne (by decide) (by decide) (by decide) z.1), e53, g_i_wi, if_neg (fun z => ne (by decide) (by decide) (by decide) z.1), e37, g_i_wi]
          by_cases g : j = ((v1 + k : Nat) : Int)
          · rw [if_pos ⟨rfl, g⟩, if_pos g]
          · rw [if_neg (fun z => g z.2), if_neg g]
            exact k59 j
        have w58 : ∀ j, g_i M70 (ρ 58) j = if j = ((v1 + k : Nat) : Int) then g_i M' (ρ 58) ((v3 + k : Nat) : Int) else g_i M' (ρ 58) j := fun j => by
          rw [e70, g_i_wi, if_neg (fun z => ne (by decide) (by decide) (by decide) z.1), e53, g_i_wi]
          by_cases g : j = ((v1 + k : Nat) : Int)
          · rw [if_pos ⟨rfl, g⟩, if_pos g]
          · rw [if_neg (fun z => g z.2), if_neg g]
            exact k58 j
        have w60 : ∀ j, g_i M70 (ρ 60) j = if j = ((v1 + k : Nat) : Int) then g_i M' (ρ 60) ((v3 + k : Nat) : Int) else g_i M' (ρ 60) j := fun j => by
          rw [e70, g_i_wi]
          by_cases g : j = ((v1 + k : Nat) : Int)
          · rw [if_pos ⟨rfl, g⟩, if_pos g]
          · rw [if_neg (fun z => g z.2), if_neg g]
            exact k60 j
        have h9 := ih (k + 1) M70 (by omega) (f'.tr f70) (fun i y hi hik => by
          by_cases g : i = v1 + k
          · have gi : (i : Int) = ((v1 + k : Nat) : Int) := by omega
            rw [w57, w58, w59, w60, if_pos gi, if_pos gi, if_pos gi, if_pos gi]
            have e1 : (L0 ++ R)[i]? = R[k]? := by
              rw [List.getElem?_append_right (by omega), show i - L0.length = k by omega]
            rw [e1, hx] at hi
            have hi : x = y := Option.some.inj hi
            subst hi
            exact ⟨x1, x2, x3, x4⟩
          · have gi : ¬ (i : Int) = ((v1 + k : Nat) : Int) := by omega
            rw [w57, w58, w59, w60, if_neg gi, if_neg gi, if_neg gi, if_neg gi]
            exact t1 i y hi (by omega)) (fun i y hi hik => by
          have gi : ¬ ((v3 + i : Nat) : Int) = ((v1 + k : Nat) : Int) := by omega
          rw [w57, w58, w59, w60, if_neg gi, if_neg gi, if_neg gi, if_neg gi]
          exact t2 i y hi (by omega))
        rw [show ((k + 1 : Nat) : Int) = (k : Int) + 1 by omega] at h9
        exact h9
    refine hlp R.length 0 M0 (by omega) (e_fr.rf _ _) (fun i x hi hil => ?_) fun i x hi _ => ?_
    · refine I0.2 i x ?_
      rw [List.append_assoc, List.append_assoc, List.getElem?_append_left (by omega)]
      rw [List.getElem?_append_left (by omega)] at hi
      exact hi
    · refine I0.2 (v3 + i) x ?_
      rw [List.getElem?_append_right (by rw [List.length_append, List.length_append]; omega), List.length_append, List.length_append, show v3 + i - (L0.length + A.length + B.length) = i by omega]
      exact hi
  -- the two loops
  have h8 : ∀ (A2 A1 : List D_i) (M' : g_M), A = A1 ++ A2 → e_fr (E_IF m ρ) M M' → E_Iv m ρ (L0 ++ A ++ B ++ D_mts A1 B) M' → g_Run (d + 47) 396 8 [(0, .ref m), (1, g_n v1), (2, g_n v2), (3, g_n v3), (4, g_n ((v1 + A1.length : Nat) : Int))] [] M' (g_qV Q) := by
    intro A2
    induction A2 with
    | nil =>
      intro A1 M' hAe f' I'
      rw [List.append_nil] at hAe
      subst hAe
      have hB' := hB.fr f'
      have h61' := I'.1
      rw [List.length_append, List.length_append, List.length_append] at h61'
      have h9 := h290 (D_mts A B) M' rfl f' I'
      refine s_X12_meetAll_8 hv1R hv2R hv3R ⟨by omega, by omega⟩ fun _ => ⟨fun g => absurd g (by omega), fun _ => ⟨hB'.1, ⟨by omega, by omega⟩, ?_⟩⟩
      rw [show g_i M' m 61 - (v3 : Int) = (D_mts A B).length by omega]
      exact h9
    | cons x A2 ihA =>
      intro A1 M' hAe f' I'
      have hAl := congrArg List.length hAe
      rw [List.length_append, List.length_cons] at hAl
      have hxA : x ∈ A := by rw [hAe]; simp
      have hle : (D_mts A1 B).length + (D_mtr x B).length ≤ (D_mts A B).length := by
        have e1 : D_mts A B = D_mts A1 B ++ (D_mtr x B ++ D_mts A2 B) := by
          rw [hAe, D_mts_app]
          rfl
        rw [e1, List.length_append, List.length_append]
        omega
      refine s_X12_meetAll_8 hv1R hv2R hv3R ⟨by omega, by omega⟩ fun _ => ⟨fun _ => ?_, fun g => absurd (by omega) g⟩
      have h17 : ∀ (B2 B1 : List D_i) (M2 : g_M), B = B1 ++ B2 → e_fr (E_IF m ρ) M M2 → E_Iv m ρ (L0 ++ A ++ B ++ (D_mts A1 B ++ D_mtr x B1)) M2 → g_Run (d + 47) 396 17 [(0, .ref m), (1, g_n v1), (2, g_n v2), (3, g_n v3), (4, g_n ((v1 + A1.length : Nat) : Int)), (5, g_n ((v2 + B1.length : Nat) : Int))] [] M2 (g_qV Q) := by
        intro B2
        induction B2 with
        | nil =>
          intro B1 M2 hBe f2 I2
          rw [List.append_nil] at hBe
          subst hBe
          refine s_X12_meetAll_17 hv1R hv2R hv3R ⟨by omega, by omega⟩ ⟨by omega, by omega⟩ fun _ => ⟨fun g => absurd g (by omega), fun _ => ⟨⟨by omega, by omega⟩, ?_⟩⟩
          have h9 := ihA (A1 ++ [x]) M2 (by rw [hAe]; simp) f2 (by
            rw [D_mts_app, D_mts_1]
            exact I2)
          rw [show ((v1 + (A1 ++ [x]).length : Nat) : Int) = ((v1 + A1.length : Nat) : Int) + 1 by rw [List.length_append, List.length_singleton]; omega] at h9
          exact h9
        | cons y B2 ihB =>
          intro B1 M2 hBe f2 I2
          have hBl := congrArg List.length hBe
          rw [List.length_append, List.length_cons] at hBl
          have hyB : y ∈ B := by rw [hBe]; simp
          have hB2 := hB.fr f2
          have hR2 := hB2.R
          have hF2 : g_i M2 (ρ 0) = g_i M (ρ 0) := funext fun k => f2.2.1 _ k (E_IF_n hB (by decide) (by decide))
          have hle2 : (D_mtr x B1).length + (D_mt x y).length ≤ (D_mtr x B).length := by
            have e1 : D_mtr x B = D_mtr x B1 ++ (D_mt x y ++ D_mtr x B2) := by
              rw [hBe, D_mtr_app]
              rfl
            rw [e1, List.length_append, List.length_append]
            omega
          have hxi : (L0 ++ A ++ B ++ (D_mts A1 B ++ D_mtr x B1))[v1 + A1.length]? = some x := by
            rw [List.append_assoc, List.append_assoc, List.getElem?_append_right (by omega), List.getElem?_append_left (by omega), hAe, List.getElem?_append_right (by omega), show v1 + A1.length - L0.length - A1.length = 0 by omega]
            rfl
          have hyi : (L0 ++ A ++ B ++ (D_mts A1 B ++ D_mtr x B1))[v2 + B1.length]? = some y := by
            rw [List.getElem?_append_left (by rw [List.length_append, List.length_append]; omega), List.getElem?_append_right (by rw [List.length_append]; omega), List.length_append, hBe, List.getElem?_append_right (by omega), show v2 + B1.length - (L0.length + A.length) - B1.length = 0 by omega]
            rfl
          obtain ⟨x1, x2, x3, x4⟩ := I2.2 _ _ hxi
          obtain ⟨y1, y2, y3, y4⟩ := I2.2 _ _ hyi
          have xo := hA x hxA
          have yo := hBo y hyB
          rw [← hF2] at xo yo
          have b57 := hB2.at (k := 57) (by decide)
          have b57A : g_A M2 (ρ 57) 1 6000 := b57.2
          have b58 := hB2.at (k := 58) (by decide)
          have b58A : g_A M2 (ρ 58) 1 6000 := b58.2
          have b59 := hB2.at (k := 59) (by decide)
          have b59A : g_A M2 (ρ 59) 2 6000 := b59.2
          have b60 := hB2.at (k := 60) (by decide)
          have b60A : g_A M2 (ρ 60) 2 6000 := b60.2
          have iX : g_InR ((v1 + A1.length : Nat) : Int) := ⟨by omega, by omega⟩
          have iY : g_InR ((v2 + B1.length : Nat) : Int) := ⟨by omega, by omega⟩
          have jX : 0 ≤ ((v1 + A1.length : Nat) : Int) ∧ ((v1 + A1.length : Nat) : Int) < 6000 := ⟨by omega, by omega⟩
          have jY : 0 ≤ ((v2 + B1.length : Nat) : Int) ∧ ((v2 + B1.length : Nat) : Int) < 6000 := ⟨by omega, by omega⟩
          -- the next one
          have hnx : ∀ M3, e_fr (E_IF m ρ) M M3 → E_Iv m ρ (L0 ++ A ++ B ++ (D_mts A1 B ++ D_mtr x B1) ++ D_mt x y) M3 → g_Run (d + 47) 396 17 [(0, .ref m), (1, g_n v1), (2, g_n v2), (3, g_n v3), (4, g_n ((v1 + A1.length : Nat) : Int)), (5, g_n (((v2 + B1.length : Nat) : Int) + 1))] [] M3 (g_qV Q) := by
            intro M3 f3 I3
            have h9 := ihB (B1 ++ [y]) M3 (by rw [hBe]; simp) f3 (by
              rw [D_mtr_app, D_mtr_1, ← List.append_assoc (D_mts A1 B), ← List.append_assoc (L0 ++ A ++ B)]
              exact I3)
            rw [show ((v2 + (B1 ++ [y]).length : Nat) : Int) = ((v2 + B1.length : Nat) : Int) + 1 by rw [List.length_append, List.length_singleton]; omega] at h9
            exact h9
          refine s_X12_meetAll_17 hv1R hv2R hv3R iX iY fun _ => ⟨fun _ => ⟨hB2.1, ρ 57, b57.1, 6000, b57A, jX, ρ 57, b57.1, 6000, b57A, jY, ?_⟩, fun g => absurd (by omega) g⟩
          rw [x1, y1]
          refine e_compareEnds (d := d + 1) hR2 xo.1 yo.1 fun r hr => ?_
          intro _ _ _
          refine ⟨ρ 58, b58.1, 6000, b58A, jX, ρ 58, b58.1, 6000, b58A, jY, ?_⟩
          rw [x3, y3]
          refine e_compareEnds (d := d + 1) hR2 xo.2 yo.2 fun s hs => ?_
          intro _ _ _
          have rR : g_InR r := ⟨by have := hr.2.1; omega, by have := hr.2.2; omega⟩
          have sR : g_InR s := ⟨by have := hs.2.1; omega, by have := hs.2.2; omega⟩
          have oneo : D_at (g_i M2 (ρ 0)) (D_one x y) := by
            unfold D_one
            split
            · exact yo.1
            · exact xo.1
          have twoo : D_at (g_i M2 (ρ 0)) (D_two x y) := by
            unfold D_two
            split
            · exact yo.2
            · exact xo.2
          have oR := oneo.R.1
          have tR := twoo.R.1
          have h223 : ∀ u w0 : Int, u = (if D_1in x y = true then 1 else 0) → w0 = (if D_2in x y = true then 1 else 0) → g_Run (d + 47) 396 223 [(0, .ref m), (1, g_n v1), (2, g_n v2), (3, g_n v3), (4, g_n ((v1 + A1.length : Nat) : Int)), (5, g_n ((v2 + B1.length : Nat) : Int)), (6, g_n r), (7, g_n s), (8, g_n (D_p (D_one x y))), (9, g_n (D_p (D_two x y))), (10, g_n u)] [g_n w0] M2 (g_qV Q) := by
            intro u w0 hu hw0
            have uR : g_InR u := by rw [hu]; split <;> exact ⟨by decide, by decide⟩
            have w0R : g_InR w0 := by rw [hw0]; split <;> exact ⟨by decide, by decide⟩
            have hadd : D_kp x y = true → g_Call (d + 47) 392 [.ref m, g_n (D_p (D_one x y)), g_n u, g_n (D_p (D_two x y)), g_n w0] M2 (g_qV fun M7 => g_ext M2 M7 → g_ok M7 → g_InR (((v2 + B1.length : Nat) : Int) + 1) ∧ g_Run (d + 47) 396 17 [(0, .ref m), (1, g_n v1), (2, g_n v2), (3, g_n v3), (4, g_n ((v1 + A1.length : Nat) : Int)), (5, g_n (((v2 + B1.length : Nat) : Int) + 1))] [] M7 (g_qV Q)) := fun hk => by
              obtain ⟨e1, e2⟩ := D_rs_ends hk
              have hm1 : D_mt x y = [D_rs x y] := if_pos hk
              refine e_addIv (d := d + 46) (x := D_rs x y) hB2 I2 ?_ (by rw [e1]) hu (by rw [e2]) hw0 oR tR fun M3 f3 I3 => ?_
              · rw [hm1, List.length_singleton] at hle2
                rw [List.length_append, List.length_append, List.length_append, List.length_append]
                omega
              · intro _ _
                refine ⟨⟨by omega, by omega⟩, hnx M3 (f2.tr f3) ?_⟩
                rw [hm1]
                exact I3
            have hskip : D_kp x y = false → g_Run (d + 47) 396 17 [(0, .ref m), (1, g_n v1), (2, g_n v2), (3, g_n v3), (4, g_n ((v1 + A1.length : Nat) : Int)), (5, g_n (((v2 + B1.length : Nat) : Int) + 1))] [] M2 (g_qV Q) := fun hk => by
              have hm1 : D_mt x y = [] := if_neg (by rw [hk]; decide)
              refine hnx M2 f2 ?_
              rw [hm1, List.append_nil]
              exact I2
            refine s_X12_meetAll_223 hv1R hv2R hv3R iX iY rR sR oR tR uR w0R fun _ => ⟨hB2.1, e_compareEnds (d := d + 1) hR2 oneo twoo fun t ht => ?_⟩
            intro _ _ _
            have t1 := ht.lt
            have t0 := ht.zero
            refine ⟨fun g => hadd ?_, fun g => ⟨fun g1 => ⟨fun g2 => ⟨⟨by omega, by omega⟩, hskip ?_⟩, fun g2 => ⟨fun g3 => ⟨⟨by omega, by omega⟩, hskip ?_⟩, fun g3 => hadd ?_⟩⟩, fun g1 => ⟨⟨by omega, by omega⟩, hskip ?_⟩⟩⟩
            · unfold D_kp
              rw [decide_eq_true (t1.mp g), Bool.true_or]
            · have hf : D_1in x y = false := by
                cases h : D_1in x y
                · rfl
                · rw [hu, if_pos h] at g2
                  exact absurd g2 (by decide)
              unfold D_kp
              rw [decide_eq_false (fun z => g (t1.mpr z)), hf]
              simp
            · have hf : D_2in x y = false := by
                cases h : D_2in x y
                · rfl
                · rw [hw0, if_pos h] at g3
                  exact absurd g3 (by decide)
              unfold D_kp
              rw [decide_eq_false (fun z => g (t1.mpr z)), hf]
              simp
            · have hf : D_1in x y = true := by
                cases h : D_1in x y
                · rw [hu, h] at g2
                  exact absurd (if_neg (by decide)) g2
                · rfl
              have hf2 : D_2in x y = true := by
                cases h : D_2in x y
                · rw [hw0, h] at g3
                  exact absurd (if_neg (by decide)) g3
                · rfl
              unfold D_kp
              rw [decide_eq_true (t0.mp g1), hf, hf2]
              simp
            · unfold D_kp
              rw [decide_eq_false (fun z => g (t1.mpr z)), decide_eq_false (fun z => g1 (t0.mpr z))]
              simp
          have s1 := hs.lt
          have s2 := hs.gt
          have r1 := hr.lt
          have r2 := hr.gt
          have h166 : ∀ w0 : Int, w0 = (if D_1in x y = true then 1 else 0) → g_Run (d + 47) 396 166 [(0, .ref m), (1, g_n v1), (2, g_n v2), (3, g_n v3), (4, g_n ((v1 + A1.length : Nat) : Int)), (5, g_n ((v2 + B1.length : Nat) : Int)), (6, g_n r), (7, g_n s), (8, g_n (D_p (D_one x y))), (9, g_n (D_p (D_two x y)))] [g_n w0] M2 (g_qV Q) := by
            intro w0 hw0
            have w0R : g_InR w0 := by rw [hw0]; split <;> exact ⟨by decide, by decide⟩
            refine s_X12_meetAll_166 hv1R hv2R hv3R iX iY rR sR oR tR w0R fun _ => ⟨fun g => ⟨hB2.1, ρ 60, b60.1, 6000, b60A, jX, h223 _ _ hw0 ?_⟩, fun g => ⟨fun g1 => ⟨hB2.1, ρ 60, b60.1, 6000, b60A, jY, h223 _ _ hw0 ?_⟩, fun g1 => ⟨hB2.1, ρ 60, b60.1, 6000, b60A, jX, fun g2 => h223 _ _ hw0 ?_, fun g2 => ⟨ρ 60, b60.1, 6000, b60A, jY, fun g3 => h223 _ _ hw0 ?_, fun g3 => h223 _ _ hw0 ?_⟩⟩⟩⟩
            · unfold D_2in
              rw [x4, if_pos (s1.mp g)]
            · unfold D_2in
              rw [y4, if_neg (fun z => g (s1.mpr z)), if_pos (s2.mp g1)]
            · have hf : x.2.2.2.2 = false := by
                cases h : x.2.2.2.2
                · rfl
                · rw [x4, h, if_pos rfl] at g2
                  exact absurd g2 (by decide)
              unfold D_2in
              rw [if_neg (fun z => g (s1.mpr z)), if_neg (fun z => g1 (s2.mpr z)), hf, Bool.false_and, if_neg (by decide)]
            · have hf : y.2.2.2.2 = false := by
                cases h : y.2.2.2.2
                · rfl
                · rw [y4, h, if_pos rfl] at g3
                  exact absurd g3 (by decide)
              unfold D_2in
              rw [if_neg (fun z => g (s1.mpr z)), if_neg (fun z => g1 (s2.mpr z)), hf, Bool.and_false, if_neg (by decide)]
            · have hf : x.2.2.2.2 = true := by
                cases h : x.2.2.2.2
                · rw [x4, h] at g2
                  exact absurd (if_neg (by decide)) g2
                · rfl
              have hf2 : y.2.2.2.2 = true := by
                cases h : y.2.2.2.2
                · rw [y4, h] at g3
                  exact absurd (if_neg (by decide)) g3
                · rfl
              unfold D_2in
              rw [if_neg (fun z => g (s1.mpr z)), if_neg (fun z => g1 (s2.mpr z)), hf, hf2, Bool.true_and, if_pos rfl]
          have h109 : g_Run (d + 47) 396 109 [(0, .ref m), (1, g_n v1), (2, g_n v2), (3, g_n v3), (4, g_n ((v1 + A1.length : Nat) : Int)), (5, g_n ((v2 + B1.length : Nat) : Int)), (6, g_n r), (7, g_n s), (8, g_n (D_p (D_one x y)))] [g_n (D_p (D_two x y))] M2 (g_qV Q) := by
            refine s_X12_meetAll_109 hv1R hv2R hv3R iX iY rR sR oR tR fun _ => ⟨fun g => ⟨hB2.1, ρ 59, b59.1, 6000, b59A, jX, h166 _ ?_⟩, fun g => ⟨fun g1 => ⟨hB2.1, ρ 59, b59.1, 6000, b59A, jY, h166 _ ?_⟩, fun g1 => ⟨hB2.1, ρ 59, b59.1, 6000, b59A, jX, fun g2 => h166 _ ?_, fun g2 => ⟨ρ 59, b59.1, 6000, b59A, jY, fun g3 => h166 _ ?_, fun g3 => h166 _ ?_⟩⟩⟩⟩
            · unfold D_1in
              rw [x2, if_pos (r2.mp g)]
            · unfold D_1in
              rw [y2, if_neg (fun z => g (r2.mpr z)), if_pos (r1.mp g1)]
            · have hf : x.2.2.1 = false := by
                cases h : x.2.2.1
                · rfl
                · rw [x2, h, if_pos rfl] at g2
                  exact absurd g2 (by decide)
              unfold D_1in
              rw [if_neg (fun z => g (r2.mpr z)), if_neg (fun z => g1 (r1.mpr z)), hf, Bool.false_and, if_neg (by decide)]
            · have hf : y.2.2.1 = false := by
                cases h : y.2.2.1
                · rfl
                · rw [y2, h, if_pos rfl] at g3
                  exact absurd g3 (by decide)
              unfold D_1in
              rw [if_neg (fun z => g (r2.mpr z)), if_neg (fun z => g1 (r1.mpr z)), hf, Bool.and_false, if_neg (by decide)]
            · have hf : x.2.2.1 = true := by
                cases h : x.2.2.1
                · rw [x2, h] at g2
                  exact absurd (if_neg (by decide)) g2
                · rfl
              have hf2 : y.2.2.1 = true := by
                cases h : y.2.2.1
                · rw [y2, h] at g3
                  exact absurd (if_neg (by decide)) g3
                · rfl
              unfold D_1in
              rw [if_neg (fun z => g (r2.mpr z)), if_neg (fun z => g1 (r1.mpr z)), hf, hf2, Bool.true_and, if_pos rfl]
          have h85 : g_Run (d + 47) 396 85 [(0, .ref m), (1, g_n v1), (2, g_n v2), (3, g_n v3), (4, g_n ((v1 + A1.length : Nat) : Int)), (5, g_n ((v2 + B1.length : Nat) : Int)), (6, g_n r), (7, g_n s)] [g_n (D_p (D_one x y))] M2 (g_qV Q) := by
            refine s_X12_meetAll_85 hv1R hv2R hv3R iX iY rR sR oR fun _ => ⟨fun g => ⟨hB2.1, ρ 58, b58.1, 6000, b58A, jY, ?_⟩, fun g => ⟨hB2.1, ρ 58, b58.1, 6000, b58A, jX, ?_⟩⟩
            · have e1 : D_two x y = D_hi y := if_pos (s2.mp g)
              rw [y3, ← e1]
              exact h109
            · have e1 : D_two x y = D_hi x := if_neg fun z => g (s2.mpr z)
              rw [x3, ← e1]
              exact h109
          refine ⟨fun g => ⟨ρ 57, b57.1, 6000, b57A, jY, ?_⟩, fun g => ⟨ρ 57, b57.1, 6000, b57A, jX, ?_⟩⟩
          · have e1 : D_one x y = D_lo y := if_pos (r1.mp g)
            rw [y1, ← e1]
            exact h85
          · have e1 : D_one x y = D_lo x := if_neg fun z => g (r1.mpr z)
            rw [x1, ← e1]
            exact h85
      exact h17 B [] M' rfl f' (by
        show E_Iv m ρ (L0 ++ A ++ B ++ (D_mts A1 B ++ [])) M'
        rw [List.append_nil]
        exact I')
  exact h8 A [] M rfl (e_fr.rf _ _) (by
    show E_Iv m ρ (L0 ++ A ++ B ++ []) M
    rw [List.append_nil]
    exact hI)
end DMA
