/-! EXPLAIN, PURE: the same elements at other places -/
def D_P (z z2 : Int × b_E) : Prop := z.2 = z2.2
def D_Q (z z2 : Bool × (Int × b_E)) : Prop := z.1 = z2.1 ∧ z.2.2 = z2.2.2
theorem L_at_P : ∀ (xs : List b_E) (q q2 : Int), D_2 D_P (L_at q xs) (L_at q2 xs)
  | [], _, _ => trivial
  | x :: xs, q, q2 => ⟨rfl, L_at_P xs (q + (b_el x.1 x.2.1 x.2.2).length) (q2 + (b_el x.1 x.2.1 x.2.2).length)⟩
theorem L_ch_P {z z2 : Int × b_E} (h : D_P z z2) : D_2 D_P (L_ch z.1 z.2) (L_ch z2.1 z2.2) := by
  have e : z.2 = z2.2 := h
  rw [e]
  exact L_at_P _ _ _
theorem D_kz_P {y y2 : Int × b_E} (h : D_P y y2) (c k : Int) : D_c (c, k, y) (c, k, y2) = 0 := by
  obtain ⟨p, e⟩ := y
  obtain ⟨p2, e2⟩ := y2
  have h : e = e2 := h
  subst h
  have h0 : D_c (c, k, (p, e)) (c, k, (p, e)) = 0 := D_c_T.rf _
  exact h0
theorem D_pt_P {y y2 : Int × b_E} (h : D_P y y2) : D_R (D_pt y) (D_pt y2) := by
  have e : y.2 = y2.2 := h
  have h0 : D_c (D_lo (D_pt y)) (D_lo (D_pt y2)) = 0 := by
    show D_c (b_cl y.2.1, 1, y) (b_cl y2.2.1, 1, y2) = 0
    rw [← e]
    exact D_kz_P h _ _
  exact ⟨h0, rfl, h0, rfl⟩
theorem D_ap_P {P P2 : List (Int × b_E)} {y y2 : Int × b_E} (hP : D_2 D_P P P2) (h : D_P y y2) : D_2 D_P (D_ap P y) (D_ap P2 y2) := by
  have e : (P.any fun z => F_eq z.2 y.2) = (P2.any fun z => F_eq z.2 y2.2) := D_2.any (R := D_P) (fun a b hab => by
    have e1 : a.2 = b.2 := hab
    have e2 : y.2 = y2.2 := h
    rw [e1, e2]) hP
  unfold D_ap
  rw [e]
  split
  · exact hP
  · exact hP.app ⟨h, trivial⟩
theorem D_aps_P : ∀ {l l2 P P2 : List (Int × b_E)}, D_2 D_P l l2 → D_2 D_P P P2 → D_2 D_P (D_aps P l) (D_aps P2 l2)
  | [], [], _, _, _, hP => hP
  | _ :: _, _ :: _, _, _, h, hP => by
    have h9 := D_aps_P h.2 (D_ap_P hP h.1)
    exact h9
  | [], _ :: _, _, _, h, _ => h.elim
  | _ :: _, [], _, _, h, _ => h.elim
theorem D_bo_P {al : Bool} {y y2 : Int × b_E} (h : D_P y y2) : D_O (D_bo al y) (D_bo al y2) := by
  have e : y.2 = y2.2 := h
  have hk : D_k al y = D_k al y2 := by
    unfold D_k
    rw [e]
  have hch := L_ch_P h
  have hr : ((L_ch y.1 y.2).any fun z => decide (z.2.1 = 4)) = ((L_ch y2.1 y2.2).any fun z => decide (z.2.1 = 4)) := D_2.any (R := D_P) (fun a b hab => by
    have e1 : a.2 = b.2 := hab
    rw [e1]) hch
  have hpt := D_pt_P h
  have hlo : ∀ (c : Int) (i : Bool) (hh : Option (Int × b_E)) (j : Bool), D_R (c, some y, i, hh, j) (c, some y2, i, hh, j) := fun c i hh j => ⟨D_kz_P h _ _, rfl, D_c_T.rf _, rfl⟩
  have hhi : ∀ (c : Int) (i : Bool) (hh : Option (Int × b_E)) (j : Bool), D_R (c, hh, i, some y, j) (c, hh, i, some y2, j) := fun c i hh j => ⟨D_c_T.rf _, rfl, D_kz_P h _ _, rfl⟩
  unfold D_bo
  rw [← hk, ← hr]
  by_cases g3 : D_k al y = 3
  · rw [if_pos g3, if_pos g3]
    split
    · trivial
    · exact D_2.mp (R := D_P) (S := D_R) (fun _ _ hab => D_pt_P hab) (D_aps_P hch trivial)
  · rw [if_neg g3, if_neg g3, ← e]
    by_cases g4 : y.2.1 = 4
    · rw [if_pos g4, if_pos g4]
      trivial
    · rw [if_neg g4, if_neg g4]
      by_cases g1 : D_k al y = 1
      · rw [if_pos g1, if_pos g1]
        exact ⟨hpt, trivial⟩
      · rw [if_neg g1, if_neg g1]
        by_cases g5 : D_k al y = 5 ∨ D_k al y = 6
        · rw [if_pos g5, if_pos g5]
          by_cases gc : b_cl y.2.1 = 1
          · rw [if_pos gc, if_pos gc]
            by_cases g6 : D_k al y = 6
            · rw [if_pos g6, if_pos g6]
              exact ⟨hpt, trivial⟩
            · rw [if_neg g6, if_neg g6]
              trivial
          · rw [if_neg gc, if_neg gc]
            exact ⟨hhi _ _ _ _, trivial⟩
        · rw [if_neg g5, if_neg g5]
          by_cases g7 : D_k al y = 7 ∨ D_k al y = 8
          · rw [if_pos g7, if_pos g7]
            by_cases gc : b_cl y.2.1 = 1
            · rw [if_pos gc, if_pos gc]
              by_cases g8 : D_k al y = 8
              · rw [if_pos g8, if_pos g8]
                exact ⟨hpt, trivial⟩
              · rw [if_neg g8, if_neg g8]
                trivial
            · rw [if_neg gc, if_neg gc]
              exact ⟨hlo _ _ _ _, trivial⟩
          · rw [if_neg g7, if_neg g7]
            trivial
/-- one more set: what is in all -/
noncomputable def D_me (s p : Option (List D_i)) : Option (List D_i) := match p with
  | none => s
  | some P => match s with
    | none => some P
    | some A => some (D_mts A P)
theorem D_me_O : ∀ {s s2 p p2 : Option (List D_i)}, D_O s s2 → D_O p p2 → D_O (D_me s p) (D_me s2 p2)
  | _, _, none, none, hs, _ => hs
  | none, none, some _, some _, _, hp => hp
  | some _, some _, some _, some _, hs, hp => D_mts_R hs hp
  | _, _, none, some _, _, hp => hp.elim
  | _, _, some _, none, _, hp => hp.elim
  | none, some _, some _, some _, hs, _ => hs.elim
  | some _, none, some _, some _, hs, _ => hs.elim
theorem D_el_me (s : Option (List D_i)) (f : Int × b_E) : D_el s f = D_me s (D_bo false f) := by
  unfold D_el D_me
  cases D_bo false f with
  | none => rfl
  | some P => cases s <;> rfl
theorem D_al_me (s : Option (List D_i)) (z : Bool × (Int × b_E)) : D_al s z = D_me s (D_ba z.1 z.2) := by
  unfold D_al D_me
  cases D_ba z.1 z.2 with
  | none => rfl
  | some P => cases s <;> rfl
theorem D_els_P : ∀ {l l2 : List (Int × b_E)} {s s2 : Option (List D_i)}, D_2 D_P l l2 → D_O s s2 → D_O (D_els s l) (D_els s2 l2)
  | [], [], _, _, _, hs => hs
  | f :: _, f2 :: _, s, s2, h, hs => by
    have h1 : D_O (D_el s f) (D_el s2 f2) := by
      rw [D_el_me, D_el_me]
      exact D_me_O hs (D_bo_P h.1)
    have h9 := D_els_P h.2 h1
    exact h9
  | [], _ :: _, _, _, h, _ => h.elim
  | _ :: _, [], _, _, h, _ => h.elim
theorem D_row_O : ∀ {a b : Option (List D_i)}, D_O a b → D_O (a.map fun A => A ++ [D_row]) (b.map fun A => A ++ [D_row])
  | none, none, _ => trivial
  | some A, some B, h => D_2.app (R := D_R) h ⟨D_R.rf _, trivial⟩
  | none, some _, h => h.elim
  | some _, none, h => h.elim
theorem D_ba_P {al : Bool} {y y2 : Int × b_E} (h : D_P y y2) : D_O (D_ba al y) (D_ba al y2) := by
  have e : y.2 = y2.2 := h
  unfold D_ba
  rw [← e]
  split
  · exact D_bo_P h
  · split
    · have hc := L_ch_P h
      rw [← e] at hc
      exact D_row_O (D_els_P hc trivial)
    · trivial
theorem D_als_Q : ∀ {l l2 : List (Bool × (Int × b_E))} {s s2 : Option (List D_i)}, D_2 D_Q l l2 → D_O s s2 → D_O (D_als s l) (D_als s2 l2)
  | [], [], _, _, _, hs => hs
  | f :: _, f2 :: _, s, s2, h, hs => by
    have h1 : D_O (D_al s f) (D_al s2 f2) := by
      rw [D_al_me, D_al_me, h.1.1]
      exact D_me_O hs (D_ba_P h.1.2)
    have h9 := D_als_Q h.2 h1
    exact h9
  | [], _ :: _, _, _, h, _ => h.elim
  | _ :: _, [], _, _, h, _ => h.elim
/-- the first that is there -/
def D_or (a b : Option (List D_i)) : Option (List D_i) := match a with
  | none => b
  | some P => some P
theorem D_or_O : ∀ {a a2 b b2 : Option (List D_i)}, D_O a a2 → D_O b b2 → D_O (D_or a b) (D_or a2 b2)
  | none, none, _, _, _, hb => hb
  | some _, some _, _, _, ha, _ => ha
  | none, some _, _, _, h, _ => h.elim
  | some _, none, _, _, h, _ => h.elim
theorem D_m1_or (z : Bool × (Int × b_E)) (r : List (Bool × (Int × b_E))) : D_m1 (z :: r) = if z.1 = true ∨ F_cd z.2.2.2.1 = 1 ∨ F_cd z.2.2.2.1 = 3 then D_or (D_bo z.1 z.2) (D_m1 r) else D_m1 r := by
  show (if z.1 = true ∨ F_cd z.2.2.2.1 = 1 ∨ F_cd z.2.2.2.1 = 3 then (match D_bo z.1 z.2 with | none => D_m1 r | some P => some P) else D_m1 r) = _
  unfold D_or
  cases D_bo z.1 z.2 <;> rfl
theorem D_m2_or (z : Bool × (Int × b_E)) (r : List (Bool × (Int × b_E))) : D_m2 (z :: r) = D_or (D_ba z.1 z.2) (D_m2 r) := by
  show (match D_ba z.1 z.2 with | none => D_m2 r | some P => some P) = _
  unfold D_or
  cases D_ba z.1 z.2 <;> rfl
theorem D_mny_or (S : List (Bool × (Int × b_E))) : D_mny S = D_or (D_m1 S) (D_m2 S) := by
  unfold D_mny D_or
  cases D_m1 S <;> rfl
theorem D_m1_Q : ∀ {l l2 : List (Bool × (Int × b_E))}, D_2 D_Q l l2 → D_O (D_m1 l) (D_m1 l2)
  | [], [], _ => trivial
  | z :: r, z2 :: r2, h => by
    have ih := D_m1_Q h.2
    have e1 : z.1 = z2.1 := h.1.1
    have e2 : z.2.2 = z2.2.2 := h.1.2
    rw [D_m1_or, D_m1_or, ← e1, ← e2]
    split
    · exact D_or_O (D_bo_P e2) ih
    · exact ih
  | [], _ :: _, h => h.elim
  | _ :: _, [], h => h.elim
theorem D_m2_Q : ∀ {l l2 : List (Bool × (Int × b_E))}, D_2 D_Q l l2 → D_O (D_m2 l) (D_m2 l2)
  | [], [], _ => trivial
  | z :: r, z2 :: r2, h => by
    have ih := D_m2_Q h.2
    have e1 : z.1 = z2.1 := h.1.1
    have e2 : z.2.2 = z2.2.2 := h.1.2
    rw [D_m2_or, D_m2_or, ← e1]
    exact D_or_O (D_ba_P e2) ih
  | [], _ :: _, h => h.elim
  | _ :: _, [], h => h.elim
theorem D_bd_Q {mn : Bool} {l l2 : List (Bool × (Int × b_E))} (h : D_2 D_Q l l2) : D_O (D_bd mn l) (D_bd mn l2) := by
  cases mn
  · have e1 : D_bd false l = D_als none l := rfl
    have e2 : D_bd false l2 = D_als none l2 := rfl
    rw [e1, e2]
    exact D_als_Q h trivial
  · have e1 : D_bd true l = D_mny l := rfl
    have e2 : D_bd true l2 = D_mny l2 := rfl
    rw [e1, e2, D_mny_or, D_mny_or]
    exact D_or_O (D_m1_Q h) (D_m2_Q h)
theorem D_co_P {x : List Int} : ∀ (n : Nat) {l l2 : List (Int × b_E)}, D_2 D_P l l2 → D_2 D_Q (D_co n x l) (D_co n x l2)
  | 0, _, _, _ => trivial
  | n + 1, l, l2, h => by
    rw [D_co_s, D_co_s]
    refine D_2.fm (R := D_P) (S := D_Q) (fun a b hab => ?_) h
    have e : a.2 = b.2 := hab
    have hch := L_ch_P hab
    unfold D_co1
    rw [← e] at hch ⊢
    split
    · exact D_2.fm (R := D_P) (S := D_Q) (fun i j hij => D_co_P n (L_ch_P hij)) hch
    · split
      · split
        · exact D_2.mp (R := D_P) (S := D_Q) (f := fun f => (false, f)) (g := fun f => (false, f)) (fun i j hij => ⟨rfl, hij⟩) hch
        · exact ⟨⟨rfl, hab⟩, trivial⟩
      · trivial
/-- the bounds of an index's path, wherever the filter stands -/
theorem D_B_P {mv : Int} {s : List (List Int)} {l l2 : List (Int × b_E)} (h : D_2 D_P l l2) : D_O (D_B mv s l) (D_B mv s l2) := D_bd_Q (D_co_P 8 h)
theorem D_B2_P {mv : Int} {s : Option (List (List Int))} {l l2 : List (Int × b_E)} (h : D_2 D_P l l2) : D_O (D_B2 mv s l) (D_B2 mv s l2) := by
  cases s with
  | none => trivial
  | some s => exact D_B_P h
