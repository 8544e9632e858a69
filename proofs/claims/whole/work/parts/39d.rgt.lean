/-! CONDITIONS OF A RIGHT FILTER: what explain wants of them, the reference and the class -/
theorem b_st.up9 {F : Int → Int} {q : Int} {D : Nat} {k : Int} {nm vb : List Int} (h : b_st F 922000 q D k nm vb) : b_st F 2706210 q D k nm vb := h.upW fun _ _ => rfl
theorem D_bo_ioF {F : Int → Int} {al : Bool} {y : Int × b_E} {P : List D_i} (hy : b_st F 922000 y.1 20 y.2.1 y.2.2.1 y.2.2.2) (hk : D_k al y = 3 → y.2.1 = 4) (h : D_bo al y = some P) : ∀ x ∈ P, D_io F x := by
  refine D_bo_io hy.up9 (fun z hz g => ?_) h
  obtain ⟨D1, eD, hch⟩ := L_ch_st hy (Or.inr (hk g)) (Nat.le_refl _)
  exact ((hch z hz).1.D20 (by omega)).up9
theorem D_els_ioF {F : Int → Int} : ∀ (l : List (Int × b_E)) (s : Option (List D_i)), (∀ A, s = some A → ∀ x ∈ A, D_io F x) → (∀ f ∈ l, b_st F 922000 f.1 20 f.2.1 f.2.2.1 f.2.2.2 ∧ (F_cd f.2.2.1 = 3 → f.2.1 = 4)) → ∀ A, D_els s l = some A → ∀ x ∈ A, D_io F x
  | [], s, hs, _, A, h => hs A h
  | f :: l, s, hs, hl, A, h => by
    refine D_els_ioF l (D_el s f) (fun A2 hA2 => ?_) (fun g hg => hl g (List.mem_cons_of_mem _ hg)) A h
    obtain ⟨f1, f2⟩ := hl f List.mem_cons_self
    unfold D_el at hA2
    cases hb : D_bo false f with
    | none =>
      rw [hb] at hA2
      exact hs A2 hA2
    | some P =>
      rw [hb] at hA2
      have hp := D_bo_ioF f1 (fun g => f2 (by
        unfold D_k at g
        rw [if_neg (by decide)] at g
        exact g)) hb
      cases s with
      | none =>
        rw [← Option.some.inj (show some P = some A2 from hA2)]
        exact hp
      | some A0 =>
        rw [← Option.some.inj (show some (D_mts A0 P) = some A2 from hA2)]
        exact D_mts_io (hs A0 rfl) hp
theorem D_row_io (F : Int → Int) : D_io F D_row := ⟨⟨⟨by decide, by decide⟩, Or.inl rfl, fun z => absurd z (by decide)⟩, ⟨⟨by decide, by decide⟩, Or.inr (Or.inr rfl), fun z => absurd z (by decide)⟩⟩
theorem D_gz.zv {F : Int → Int} {z : Bool × (Int × b_E)} (h : D_gz F 922000 z) : D_zv F z := by
  have hr3 : z.1 = false → F_cd z.2.2.2.1 = 3 → z.2.2.1 = 4 := fun ha g => by
    have := h.2.2.2.1 ha
    rw [g] at this
    exact F_rv_3 this
  have hk3 : D_k z.1 z.2 = 3 → z.2.2.1 = 4 := fun g => by
    unfold D_k at g
    cases hz : z.1 with
    | true =>
      rw [hz, if_pos rfl] at g
      exact absurd g (by decide)
    | false =>
      rw [hz, if_neg (by decide)] at g
      exact hr3 hz g
  refine ⟨h.1, hr3, fun ha h11 hci => ?_, ?_, fun P hP => ?_⟩
  · obtain ⟨k3, hf⟩ := h.el h11 hci
    refine ⟨Or.inl k3, fun f hfm g => ((hf f hfm).2.2.2 g).1, fun l1 f l2 e => ?_⟩
    have hfm : f ∈ L_ch z.2.1 z.2.2 := by
      rw [e]
      exact List.mem_append.mpr (Or.inr List.mem_cons_self)
    have h1 := (hf f hfm).2.1
    have h2 := L_ch_len f.1 f.2
    refine ⟨by omega, fun P hP => ?_⟩
    obtain ⟨⟨-, p2⟩, p3⟩ := h.els h11 hci e hP
    refine ⟨by omega, fun A hA => ?_⟩
    obtain ⟨⟨-, a2⟩, a3⟩ := p3 A hA
    omega
  · have h1 := h.2.1
    have h2 := L_ch_len z.2.1 z.2.2
    omega
  · have h1 := (h.ba hP).len
    refine ⟨by omega, ?_⟩
    unfold D_ba at hP
    by_cases g : z.1 = true ∨ ¬ F_cd z.2.2.2.1 = 11
    · rw [if_pos g] at hP
      exact D_bo_ioF h.1 hk3 hP
    · rw [if_neg g] at hP
      have g11 : F_cd z.2.2.2.1 = 11 := Classical.byContradiction fun q => g (Or.inr q)
      split at hP
      · rename_i gci
        obtain ⟨A, hA, e⟩ := Option.map_eq_some_iff.mp hP
        obtain ⟨k3, hf⟩ := h.el g11 gci
        rw [← e]
        intro x hx
        rcases List.mem_append.mp hx with q | q
        · exact D_els_ioF _ none (fun A hA => absurd hA (by simp)) (fun f hfm => ⟨(hf f hfm).1, fun g => ((hf f hfm).2.2.2 g).1⟩) A hA x q
        · rw [List.mem_singleton.mp q]
          exact D_row_io F
      · exact absurd hP (by simp)
theorem D_gz.bv {F : Int → Int} {z : Bool × (Int × b_E)} (h : D_gz F 246408 z) : Bd_zv F 246408 z := by
  refine ⟨h.1, Nat.le_trans h.2.1 (by decide), h.al, fun g3 => ?_, fun h11 hci => ?_, fun P hP => ?_⟩
  · obtain ⟨h1, h2⟩ := h.k (by rw [g3]; decide)
    rw [g3] at h2
    have h3 := L_ch_row h.1 (F_rv_3 h2)
    have h4 := h.2.1
    exact ⟨F_rv_3 h2, by omega⟩
  · obtain ⟨k3, hf⟩ := h.el h11 hci
    refine ⟨Or.inl k3, fun l1 f l2 e => ?_⟩
    have hfm : f ∈ L_ch z.2.1 z.2.2 := by
      rw [e]
      exact List.mem_append.mpr (Or.inr List.mem_cons_self)
    obtain ⟨f1, f2, f3, f4⟩ := hf f hfm
    refine ⟨f3, fun g => (f4 g).1, fun g => Nat.le_trans (f4 g).2 (by decide), fun P hP => ?_⟩
    obtain ⟨⟨-, p2⟩, p3⟩ := h.els h11 hci e hP
    refine ⟨by omega, fun A hA => ?_⟩
    obtain ⟨⟨-, a2⟩, a3⟩ := p3 A hA
    omega
  · have h1 := (h.ba hP).len
    omega
/-- what a right filter gives for a path -/
theorem D_right {F : Int → Int} {n q : Int} {D : Nat} {h : b_E} (X : List Int) (hs : b_st F n q D h.1 h.2.1 h.2.2) (hk : h.1 = 3) (hD : D ≤ 20) (hl : h.2.2.length ≤ 2000) (hK : ((K_F 20).1 (L_ch q h) 0).1 = 0) : D_cv 8 X (L_ch q h) ∧ (D_co 8 X (L_ch q h)).length ≤ 200 ∧ (∀ z ∈ D_co 8 X (L_ch q h), D_gz F n z) ∧ (∀ l1 z l2, D_co 8 X (L_ch q h) = l1 ++ z :: l2 → ∀ A P, D_als none l1 = some A → D_ba z.1 z.2 = some P → A.length ≤ 690 ∧ (D_mts A P).length ≤ 690) ∧ ∀ mn P, D_bd mn (D_co 8 X (L_ch q h)) = some P → P.length ≤ 690 := by
  have hV : (F_V 20).1 ((L_ch q h).map Prod.snd) := by
    rw [L_ch_snd]
    exact (K_good 20 (b_ch h.2.2) (q + 6 + h.2.1.length) 0).1 hK
  obtain ⟨D1, eD, hch⟩ := L_ch_st hs (Or.inl hk) hl
  have hg : ∀ z ∈ D_co 8 X (L_ch q h), D_gz F n z := D_co_gz 8 20 D1 _ (by decide) (by omega) (fun e he => ⟨(hch e he).1, (hch e he).2.2⟩) hV
  have hc := D_co_cnt (X := X) 20 8 (L_ch q h) 0 (by decide) (by decide) hK
  refine ⟨D_cv_of 8 20 _ (by decide) hV, by omega, hg, fun l1 z l2 e A P hA hP => ?_, fun mn P hP => ?_⟩
  · have hm : ∀ y, y ∈ l1 ++ z :: l2 → D_gz F n y := fun y hy => hg y (by rw [e]; exact hy)
    have ha := D_als_Fl (N := 665) (by decide) l1 none (fun A hA => absurd hA (by simp)) (fun y hy => (hm y (List.mem_append.mpr (Or.inl hy))).N) A hA
    have hp := (hm z (List.mem_append.mpr (Or.inr List.mem_cons_self))).ba hP
    have h1 := ha.len
    have h2 := (ha.mts hp).len
    omega
  · have h1 := (D_bd_Fl (N := 665) (by decide) (fun z hz => (hg z hz).N) hP).len
    omega
theorem D_fg_of {F : Int → Int} {h : b_E} (X : List Int) (hs : b_st F 922000 4 15 h.1 h.2.1 h.2.2) (hk : h.1 = 3) (hl : h.2.2.length ≤ 2000) (hK : ((K_F 20).1 (L_ch 4 h) 0).1 = 0) : D_fg F X (L_ch 4 h) := by
  obtain ⟨h1, h2, h3, h4, h5⟩ := D_right X hs hk (by decide) hl hK
  exact ⟨h1, h2, fun z hz => (h3 z hz).zv, fun l1 z l2 e A P hA hP => Nat.le_trans (h4 l1 z l2 e A P hA hP).2 (by decide), fun mn P hP => Nat.le_trans (h5 mn P hP) (by decide)⟩
theorem C_bq_of {F : Int → Int} {h : b_E} (X : List Int) (hX : (p_sp X).length ≤ 8) (hs : b_st F 246408 8 15 h.1 h.2.1 h.2.2) (hk : h.1 = 3) (hl : h.2.2.length ≤ 2000) (hK : ((K_F 20).1 (L_ch 8 h) 0).1 = 0) : C_bq F X (L_ch 8 h) := by
  obtain ⟨h1, h2, h3, h4, h5⟩ := D_right X hs hk (by decide) hl hK
  exact ⟨hX, h1, h2, fun z hz => (h3 z hz).bv, h4, h5⟩
