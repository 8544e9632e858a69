/-! CONDITIONS OF A RIGHT FILTER: what they are -/
theorem F_cd_0 {nm : List Int} (h : F_dl nm = false ∨ F_jo nm = true) : F_cd nm = 0 := by
  have hk : ∀ j : Nat, j < 12 → nm ≠ b_tx (17 + j) := fun j hj e => by
    have h9 : ∀ j : Fin 12, ¬ (F_dl (b_tx (17 + j.val)) = false ∨ F_jo (b_tx (17 + j.val)) = true) := by decide
    rw [e] at h
    exact h9 ⟨j, hj⟩ h
  unfold F_cd
  rw [if_neg (hk 0 (by decide)), if_neg (hk 1 (by decide)), if_neg (hk 2 (by decide)), if_neg (hk 3 (by decide)), if_neg (hk 4 (by decide)), if_neg (hk 5 (by decide)), if_neg (hk 6 (by decide)), if_neg (hk 7 (by decide)), if_neg (hk 8 (by decide)), if_neg (hk 9 (by decide)), if_neg (hk 10 (by decide)), if_neg (hk 11 (by decide))]
theorem b_ch_len (vb : List Int) : 2 * (b_ch vb).length ≤ vb.length := by
  by_cases h : ∃ es : List b_E, vb = b_doc es ∧ ∀ e ∈ es, b_okE e
  · obtain ⟨es, h1, h2⟩ := h
    rw [h1, b_ch_doc h2, b_doc_len]
    have h3 : ∀ es : List b_E, 2 * es.length ≤ (b_ser es).length := fun es => by
      induction es with
      | nil => exact Nat.zero_le _
      | cons e es ih =>
        have h4 : b_ser (e :: es) = b_el e.1 e.2.1 e.2.2 ++ b_ser es := rfl
        rw [h4, List.length_append, b_el_len, List.length_cons]
        omega
    have := h3 es
    omega
  · have h1 : b_ch vb = [] := dif_neg h
    rw [h1]
    exact Nat.zero_le _
theorem L_ch_len (q : Int) (e : b_E) : 2 * (L_ch q e).length ≤ e.2.2.length := by
  unfold L_ch
  rw [L_at_len]
  exact b_ch_len _
/-- a row's items take three bytes and more -/
theorem L_ch_row {F : Int → Int} {n : Int} {D : Nat} {q : Int} {e : b_E} (h : b_st F n q D e.1 e.2.1 e.2.2) (hk : e.1 = 4) : 3 * (L_ch q e).length + 5 ≤ e.2.2.length := by
  obtain ⟨D1, es, e1, e2, e3, e4, e5, e6, e7, e8⟩ := h.ch (Or.inr hk)
  unfold L_ch
  rw [L_at_len, e5, e2, b_doc_len]
  have h3 : ∀ es : List b_E, (∀ y ∈ es, 1 ≤ y.2.1.length) → 3 * es.length ≤ (b_ser es).length := fun es => by
    induction es with
    | nil => exact fun _ => Nat.zero_le _
    | cons y es ih =>
      intro hy
      have h4 : b_ser (y :: es) = b_el y.1 y.2.1 y.2.2 ++ b_ser es := rfl
      have h5 := ih fun z hz => hy z (List.mem_cons_of_mem _ hz)
      have h6 := hy y List.mem_cons_self
      rw [h4, List.length_append, b_el_len, List.length_cons]
      omega
  have := h3 es fun y hy => by
    obtain ⟨i, hi⟩ := List.mem_iff_getElem?.mp hy
    rw [e6 hk i y hi]
    have h9 := b_dg_ne i
    cases hd : b_dg i with
    | nil => exact absurd hd h9
    | cons a l => rw [List.length_cons]; omega
  omega
theorem L_ch_snd (q : Int) (e : b_E) : (L_ch q e).map Prod.snd = b_ch e.2.2 := by
  unfold L_ch
  exact L_at_snd _ _
/-- items and elements stand, and are short -/
theorem L_ch_st {F : Int → Int} {n : Int} {D : Nat} {q : Int} {e : b_E} {N : Nat} (h : b_st F n q D e.1 e.2.1 e.2.2) (hk : e.1 = 3 ∨ e.1 = 4) (hl : e.2.2.length ≤ N) : ∃ D1, D = D1 + 1 ∧ ∀ z ∈ L_ch q e, b_st F n z.1 D1 z.2.1 z.2.2.1 z.2.2.2 ∧ z.2 ∈ b_ch e.2.2 ∧ z.2.2.2.length ≤ N := by
  obtain ⟨D1, es, e1, e2, e3, e4, e5, e6, e7, e8⟩ := h.ch hk
  refine ⟨D1, e1, fun z hz => ?_⟩
  have hz : z ∈ L_at (q + 6 + e.2.1.length) es := by
    rw [← e5]
    exact hz
  obtain ⟨h1, h2⟩ := L_at_st e4 z hz
  refine ⟨h1, by rw [e5]; exact h2, ?_⟩
  have h3 : ∀ es : List b_E, z.2 ∈ es → z.2.2.2.length ≤ (b_ser es).length := fun es => by
    induction es with
    | nil => exact fun h => absurd h (by simp)
    | cons y es ih =>
      intro hy
      have h4 : b_ser (y :: es) = b_el y.1 y.2.1 y.2.2 ++ b_ser es := rfl
      rw [h4, List.length_append, b_el_len]
      rcases List.mem_cons.mp hy with g | g
      · rw [g]
        omega
      · have := ih g
        omega
  have := h3 es h2
  have hd := b_doc_len es
  rw [e2] at hl
  omega
theorem D_cv_of {X : List Int} : ∀ (k m : Nat) (l : List (Int × b_E)), k ≤ m → (F_V m).1 (l.map Prod.snd) → D_cv k X l := by
  intro k
  induction k with
  | zero => exact fun m l _ _ => trivial
  | succ k ih =>
    intro m l hm hV
    obtain ⟨m, rfl⟩ : ∃ m', m = m' + 1 := ⟨m - 1, by omega⟩
    intro e he
    have hV1 := hV e.2 (List.mem_map.mpr ⟨e, he, rfl⟩)
    refine ⟨fun h94 => ?_, fun hcs => ?_⟩
    · obtain ⟨h1, h2, h3⟩ := hV1.1 (by rw [h94]; decide)
      refine ⟨h2, fun i hi => ?_⟩
      have hi2 : i.2 ∈ b_ch e.2.2.2 := by
        rw [← L_ch_snd e.1 e.2]
        exact List.mem_map.mpr ⟨i, hi, rfl⟩
      obtain ⟨k1, k2⟩ := h3 _ hi2
      refine ⟨k1, ih m _ (by omega) ?_⟩
      rw [L_ch_snd]
      exact k2
    · unfold F_cs at hcs
      rw [Bool.and_eq_true, beq_iff_eq] at hcs
      exact hcs.1
/-- a condition of a right filter -/
def D_gz (F : Int → Int) (n : Int) (z : Bool × (Int × b_E)) : Prop := b_st F n z.2.1 20 z.2.2.1 z.2.2.2.1 z.2.2.2.2 ∧ z.2.2.2.2.length ≤ 2000 ∧ (z.1 = true ↔ F_cd z.2.2.2.1 = 0) ∧ (z.1 = false → F_rv (F_cd z.2.2.2.1) z.2.2 = true) ∧ (F_cd z.2.2.2.1 = 11 → F_ci z.2.2 = true → ∀ f ∈ b_ch z.2.2.2.2, F_cd f.2.1 ≠ 0 ∧ F_rv (F_cd f.2.1) f = true)
theorem b_st.D20 {F : Int → Int} {n q : Int} {D : Nat} {e : b_E} (h : b_st F n q D e.1 e.2.1 e.2.2) (hD : D ≤ 20) : b_st F n q 20 e.1 e.2.1 e.2.2 := ⟨h.1, h.2.1, b_gv_le h.2.2.1 hD, h.2.2.2.1, h.2.2.2.2⟩
theorem D_co_gz {F : Int → Int} {n : Int} {X : List Int} : ∀ (k m D : Nat) (l : List (Int × b_E)), k + 2 ≤ m → D ≤ 20 → (∀ e ∈ l, b_st F n e.1 D e.2.1 e.2.2.1 e.2.2.2 ∧ e.2.2.2.length ≤ 2000) → (F_V m).1 (l.map Prod.snd) → ∀ z ∈ D_co k X l, D_gz F n z := by
  intro k
  induction k with
  | zero => exact fun m D l _ _ _ _ z hz => absurd hz (by show ¬ z ∈ []; simp)
  | succ k ih =>
    intro m D l hm hD hl hV z hz
    obtain ⟨m, rfl⟩ : ∃ m', m = m' + 2 := ⟨m - 2, by omega⟩
    rw [D_co_s] at hz
    obtain ⟨e, he, hz⟩ := List.mem_flatMap.mp hz
    obtain ⟨es, el⟩ := hl e he
    have hV1 := hV e.2 (List.mem_map.mpr ⟨e, he, rfl⟩)
    unfold D_co1 at hz
    by_cases g94 : e.2.2.1 = b_tx 94
    · rw [if_pos g94] at hz
      obtain ⟨h1, h2, h3⟩ := hV1.1 (by rw [g94]; decide)
      obtain ⟨i, hi, hz⟩ := List.mem_flatMap.mp hz
      obtain ⟨D1, eD, hch⟩ := L_ch_st es (Or.inr h2) el
      obtain ⟨i1, i2, i3⟩ := hch i hi
      obtain ⟨k1, k2⟩ := h3 _ i2
      obtain ⟨D2, eD2, hch2⟩ := L_ch_st i1 (Or.inl k1) i3
      refine ih (m + 1) D2 _ (by omega) (by omega) (fun y hy => ⟨(hch2 y hy).1, (hch2 y hy).2.2⟩) ?_ z hz
      rw [L_ch_snd]
      exact k2
    · rw [if_neg g94] at hz
      by_cases gX : e.2.2.1 = X
      · rw [if_pos gX] at hz
        by_cases gcs : F_cs e.2 = true
        · rw [if_pos gcs] at hz
          obtain ⟨f, hf, rfl⟩ := List.mem_map.mp hz
          have k3 : e.2.1 = 3 := by
            unfold F_cs at gcs
            rw [Bool.and_eq_true, beq_iff_eq] at gcs
            exact gcs.1
          have gdl : F_dl e.2.2.1 = false := by
            cases hd : F_dl e.2.2.1 with
            | false => rfl
            | true => exact absurd ((hV1.1 hd).2.1.symm.trans k3) (by decide)
          have hc := (hV1.2 gdl).2 gcs
          obtain ⟨D1, eD, hch⟩ := L_ch_st es (Or.inl k3) el
          obtain ⟨f1, f2, f3⟩ := hch f hf
          obtain ⟨c1, c2, -, c4, -⟩ := hc f.2 f2
          refine ⟨f1.D20 (by omega), f3, ⟨fun z => absurd z (by simp), fun z => absurd z c1⟩, fun _ => c2, fun g11 gci y hy => ?_⟩
          obtain ⟨m, rfl⟩ : ∃ m', m = m' + 1 := ⟨m - 1, by omega⟩
          obtain ⟨d1, d2, -⟩ := c4 g11 gci y hy
          exact ⟨d1, d2⟩
        · rw [if_neg gcs] at hz
          rw [List.mem_singleton.mp hz]
          have h0 : F_cd e.2.2.1 = 0 := by
            cases hd : F_dl e.2.2.1 with
            | false => exact F_cd_0 (Or.inl hd)
            | true => exact F_cd_0 (Or.inr (hV1.1 hd).1)
          exact ⟨es.D20 hD, el, ⟨fun _ => h0, fun _ => rfl⟩, fun z => absurd z (by simp), fun g => absurd (h0.symm.trans g) (by decide)⟩
      · rw [if_neg gX] at hz
        exact absurd hz (by simp)
theorem F_rv_3 {e : b_E} (h : F_rv 3 e = true) : e.1 = 4 := by
  unfold F_rv at h
  rw [if_pos (Or.inl rfl)] at h
  exact beq_iff_eq.mp h
theorem F_rv_11 {e : b_E} (h : F_rv 11 e = true) : e.1 = 3 := by
  unfold F_rv at h
  rw [if_neg (by decide), if_neg (by decide), if_neg (by decide), if_pos rfl] at h
  exact beq_iff_eq.mp h
theorem D_gz.al {F : Int → Int} {n : Int} {z : Bool × (Int × b_E)} (h : D_gz F n z) : z.1 = decide (F_cd z.2.2.2.1 = 0) := by
  cases hz : z.1 with
  | true => rw [decide_eq_true (h.2.2.1.mp hz)]
  | false =>
    rw [decide_eq_false]
    intro g
    rw [h.2.2.1.mpr g] at hz
    exact absurd hz (by simp)
theorem D_gz.k {F : Int → Int} {n : Int} {z : Bool × (Int × b_E)} (h : D_gz F n z) (hn : F_cd z.2.2.2.1 ≠ 0) : z.1 = false ∧ F_rv (F_cd z.2.2.2.1) z.2.2 = true := by
  have h1 : z.1 = false := by
    cases hz : z.1 with
    | true => exact absurd (h.2.2.1.mp hz) hn
    | false => rfl
  exact ⟨h1, h.2.2.2.1 h1⟩
/-- the conditions of $elem -/
theorem D_gz.el {F : Int → Int} {n : Int} {z : Bool × (Int × b_E)} (h : D_gz F n z) (h11 : F_cd z.2.2.2.1 = 11) (hci : F_ci z.2.2 = true) : z.2.2.1 = 3 ∧ ∀ f ∈ L_ch z.2.1 z.2.2, b_st F n f.1 20 f.2.1 f.2.2.1 f.2.2.2 ∧ f.2.2.2.length ≤ 2000 ∧ F_cd f.2.2.1 ≠ 0 ∧ (F_cd f.2.2.1 = 3 → f.2.1 = 4 ∧ (L_ch f.1 f.2).length ≤ 665) := by
  obtain ⟨h1, h2⟩ := h.k (by rw [h11]; decide)
  rw [h11] at h2
  have k3 := F_rv_11 h2
  obtain ⟨D1, eD, hch⟩ := L_ch_st h.1 (Or.inl k3) h.2.1
  refine ⟨k3, fun f hf => ?_⟩
  obtain ⟨f1, f2, f3⟩ := hch f hf
  obtain ⟨c1, c2⟩ := h.2.2.2.2 h11 hci _ f2
  refine ⟨f1.D20 (by omega), f3, c1, fun g3 => ?_⟩
  rw [g3] at c2
  have k4 := F_rv_3 c2
  have := L_ch_row f1 k4
  exact ⟨k4, by omega⟩
theorem D_gz.N {F : Int → Int} {n : Int} {z : Bool × (Int × b_E)} (h : D_gz F n z) : D_Nz 665 z.1 z.2 := by
  refine ⟨fun hk => ?_, fun ha h11 gci f hf g3 => ((h.el h11 gci).2 f hf).2.2.2 g3 |>.2⟩
  unfold D_k at hk
  cases hz : z.1 with
  | true =>
    rw [hz, if_pos rfl] at hk
    exact absurd hk (by decide)
  | false =>
    rw [hz, if_neg (by decide)] at hk
    have h2 := h.2.2.2.1 hz
    rw [hk] at h2
    have h3 := L_ch_row h.1 (F_rv_3 h2)
    have h4 := h.2.1
    omega
theorem D_gz.ba {F : Int → Int} {n : Int} {z : Bool × (Int × b_E)} {P : List D_i} (h : D_gz F n z) (hP : D_ba z.1 z.2 = some P) : D_Fl 665 P := D_ba_Fl hP (by decide) h.N
/-- what $elem's conditions make -/
theorem D_gz.els {F : Int → Int} {n : Int} {z : Bool × (Int × b_E)} (h : D_gz F n z) (h11 : F_cd z.2.2.2.1 = 11) (hci : F_ci z.2.2 = true) {l1 l2 : List (Int × b_E)} {f : Int × b_E} (e : L_ch z.2.1 z.2.2 = l1 ++ f :: l2) {P : List D_i} (hP : D_bo false f = some P) : (D_Sh P ∧ P.length ≤ 665) ∧ ∀ A, D_els none l1 = some A → (D_Sh A ∧ A.length ≤ 665) ∧ (D_mts A P).length ≤ 665 := by
  obtain ⟨k3, hf⟩ := h.el h11 hci
  have hin : ∀ y, y ∈ l1 ++ f :: l2 → F_cd y.2.2.1 = 3 → (L_ch y.1 y.2).length ≤ 665 := fun y hy g => by
    rw [← e] at hy
    exact ((hf y hy).2.2.2 g).2
  have hp := D_bo_Sh (N := 665) hP (by decide) fun g => hin f (List.mem_append.mpr (Or.inr List.mem_cons_self)) (by
    unfold D_k at g
    rw [if_neg (by decide)] at g
    exact g)
  refine ⟨hp, fun A hA => ?_⟩
  have ha := D_els_Sh (N := 665) (by decide) l1 none (fun A hA => absurd hA (by simp)) (fun y hy => hin y (List.mem_append.mpr (Or.inl hy))) A hA
  have hm := (D_Sh_mts ha.1 hp.1).2
  exact ⟨ha, by omega⟩
