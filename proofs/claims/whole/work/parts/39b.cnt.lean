/-! CONDITIONS OF A RIGHT FILTER: how many there are -/
theorem K_seq_w {f : Int × b_E → Int → Int × Int × Int} {w : Int × b_E → Nat} : ∀ (l : List (Int × b_E)) (n : Int), (∀ z ∈ l, ∀ n : Int, n ≤ 100 → (f z n).1 = 0 → n + (w z : Int) ≤ (f z n).2.2 ∧ (f z n).2.2 ≤ 100) → n ≤ 100 → (K_seq f l n).1 = 0 → n + ((l.map w).sum : Nat) ≤ (K_seq f l n).2.2 ∧ (K_seq f l n).2.2 ≤ 100
  | [], n, _, hn, _ => by
    show n + ((0 : Nat) : Int) ≤ n ∧ n ≤ 100
    omega
  | z :: l, n, hf, hn, h => by
    have e : K_seq f (z :: l) n = if (f z n).1 = 0 then K_seq f l (f z n).2.2 else f z n := rfl
    rw [e] at h ⊢
    by_cases g : (f z n).1 = 0
    · rw [if_pos g] at h ⊢
      obtain ⟨h1, h2⟩ := hf z List.mem_cons_self n hn g
      obtain ⟨h3, h4⟩ := K_seq_w (w := w) l _ (fun y hy => hf y (List.mem_cons_of_mem _ hy)) h2 h
      rw [List.map_cons, List.sum_cons]
      omega
    · rw [if_neg g] at h
      exact absurd h g
theorem K_more_w {k q n w : Int} {R : Int × Int × Int} (hk : 0 ≤ k) (h : (K_more k q n R).1 = 0) (hR : n + k ≤ 100 → R.1 = 0 → w ≤ R.2.2 ∧ R.2.2 ≤ 100) : w ≤ (K_more k q n R).2.2 ∧ (K_more k q n R).2.2 ≤ 100 := by
  unfold K_more at h ⊢
  by_cases g : 100 < n + k
  · rw [if_pos g] at h
    exact absurd h (by simp)
  · rw [if_neg g] at h ⊢
    exact hR (by omega) h
theorem K_F_w : ∀ m : Nat, (∀ (l : List (Int × b_E)) (n : Int), n ≤ 100 → ((K_F m).1 l n).1 = 0 → n ≤ ((K_F m).1 l n).2.2 ∧ ((K_F m).1 l n).2.2 ≤ 100) ∧ ∀ (l : List (Int × b_E)) (n : Int), n ≤ 100 → ((K_F m).2 l n).1 = 0 → n + (if m = 0 then 0 else l.length : Nat) ≤ ((K_F m).2 l n).2.2 ∧ ((K_F m).2 l n).2.2 ≤ 100 := by
  intro m
  induction m with
  | zero =>
    refine ⟨fun l n hn _ => ⟨Int.le_refl n, hn⟩, fun l n hn _ => ?_⟩
    show n + ((0 : Nat) : Int) ≤ n ∧ n ≤ 100
    omega
  | succ m ih =>
    obtain ⟨ih1, ih2⟩ := ih
    have ih2' : ∀ (l : List (Int × b_E)) (n : Int), n ≤ 100 → ((K_F m).2 l n).1 = 0 → n ≤ ((K_F m).2 l n).2.2 ∧ ((K_F m).2 l n).2.2 ≤ 100 := fun l n hn h => by
      obtain ⟨a, b⟩ := ih2 l n hn h
      exact ⟨by omega, b⟩
    constructor
    · intro l n hn h
      have h9 := K_seq_w (f := K_one (K_F m)) (w := fun _ => 0) l n (fun z _ n hn h => ?_) hn h
      · refine ⟨?_, h9.2⟩
        have h8 := h9.1
        show n ≤ (K_seq (K_one (K_F m)) l n).2.2
        omega
      · show n + ((0 : Nat) : Int) ≤ _ ∧ _
        rw [show n + ((0 : Nat) : Int) = n by omega]
        unfold K_one at h ⊢
        split
        · rename_i g1
          rw [if_pos g1] at h
          split
          · rename_i g2
            rw [if_pos g2] at h
            split
            · rename_i g3
              rw [if_pos g3] at h
              split
              · rename_i g4
                rw [if_pos g4] at h
                exact absurd h (by simp)
              · rename_i g4
                rw [if_neg g4] at h
                refine K_more_w (by decide) h fun k1 k2 => ?_
                have h8 := K_seq_w (f := K_item (K_F m).1) (w := fun _ => 0) _ _ (fun z _ n hn h => ?_) k1 k2
                · exact ⟨by have := h8.1; omega, h8.2⟩
                · show n + ((0 : Nat) : Int) ≤ _ ∧ _
                  unfold K_item at h ⊢
                  split
                  · rename_i g5
                    rw [if_pos g5] at h
                    have := ih1 _ n hn h
                    omega
                  · rename_i g5
                    rw [if_neg g5] at h
                    exact absurd h (by simp)
            · rename_i g3
              rw [if_neg g3] at h
              exact absurd h (by simp)
          · rename_i g2
            rw [if_neg g2] at h
            exact absurd h (by simp)
        · rename_i g1
          rw [if_neg g1] at h
          split
          · rename_i g2
            rw [if_pos g2] at h
            split
            · rename_i g3
              rw [if_pos g3] at h
              refine K_more_w (by decide) h fun k1 k2 => ?_
              have := ih2' _ _ k1 k2
              omega
            · rename_i g3
              rw [if_neg g3] at h
              refine K_more_w (by decide) h fun k1 k2 => ?_
              show n ≤ n + 2 ∧ n + 2 ≤ 100
              omega
          · rename_i g2
            rw [if_neg g2] at h
            exact absurd h (by simp)
    · intro l n hn h
      have h9 := K_seq_w (f := K_cd (K_F m)) (w := fun _ => 1) l n (fun z _ n hn h => ?_) hn h
      · have h8 : (l.map fun _ => 1).sum = l.length := by
          clear h9 h hn
          induction l with
          | nil => rfl
          | cons a l ih => rw [List.map_cons, List.sum_cons, ih, List.length_cons]; omega
        rw [h8] at h9
        rw [if_neg (Nat.succ_ne_zero m)]
        exact h9
      · show n + ((1 : Nat) : Int) ≤ _ ∧ _
        unfold K_cd at h ⊢
        split
        · rename_i g1
          rw [if_pos g1] at h
          exact absurd h (by simp)
        · rename_i g1
          rw [if_neg g1] at h
          split
          · rename_i g2
            rw [if_pos g2] at h
            refine K_more_w (by decide) h fun k1 k2 => ?_
            split
            · rename_i g3
              rw [if_pos g3] at k2
              have := ih2' _ _ k1 k2
              omega
            · rename_i g3
              rw [if_neg g3] at k2
              split
              · rename_i g4
                rw [if_pos g4] at k2
                split
                · rename_i g5
                  rw [if_pos g5] at k2
                  have := ih2' _ _ k1 k2
                  omega
                · rename_i g5
                  rw [if_neg g5] at k2
                  have := ih1 _ _ k1 k2
                  omega
              · show n + ((1 : Nat) : Int) ≤ n + 1 ∧ n + 1 ≤ 100
                omega
          · rename_i g2
            rw [if_neg g2] at h
            exact absurd h (by simp)
theorem D_tx_94 : b_tx 94 = b_tx 14 := by decide
theorem D_fl {α β : Type} (f : α → List β) : ∀ l : List α, (l.flatMap f).length = (l.map fun a => (f a).length).sum
  | [] => rfl
  | a :: l => by
    rw [List.flatMap_cons, List.length_append, List.map_cons, List.sum_cons, D_fl f l]
/-- no more than what was counted -/
theorem D_co_cnt {X : List Int} : ∀ (m k : Nat) (l : List (Int × b_E)) (n : Int), k + 1 ≤ m → n ≤ 100 → ((K_F m).1 l n).1 = 0 → n + ((D_co k X l).length : Int) ≤ ((K_F m).1 l n).2.2 ∧ ((K_F m).1 l n).2.2 ≤ 100 := by
  intro m
  induction m with
  | zero => exact fun k l n hk => absurd hk (by omega)
  | succ m ih =>
    intro k l n hk hn h
    cases k with
    | zero =>
      obtain ⟨a, b⟩ := (K_F_w (m + 1)).1 l n hn h
      refine ⟨?_, b⟩
      show n + (([] : List (Bool × (Int × b_E))).length : Int) ≤ _
      rw [List.length_nil]
      omega
    | succ k =>
      rw [D_co_s, D_fl]
      refine K_seq_w (f := K_one (K_F m)) (w := fun e => (D_co1 k X e).length) l n (fun z _ n hn h => ?_) hn h
      have htw : ((K_F m).2 (L_ch z.1 z.2) (n + 1)).1 = 0 → n + 1 ≤ 100 → n + 1 + ((L_ch z.1 z.2).length : Int) ≤ ((K_F m).2 (L_ch z.1 z.2) (n + 1)).2.2 ∧ ((K_F m).2 (L_ch z.1 z.2) (n + 1)).2.2 ≤ 100 := fun a b => by
        have h9 := (K_F_w m).2 _ _ b a
        rw [if_neg (by omega)] at h9
        exact h9
      show n + ((D_co1 k X z).length : Int) ≤ _ ∧ _
      have hone : ∀ c : Prop, [Decidable c] → ((if c then [(true, z)] else []) : List (Bool × (Int × b_E))).length ≤ 1 := fun c _ => by
        split
        · exact Nat.le_refl 1
        · exact Nat.zero_le 1
      unfold K_one at h ⊢
      by_cases g1 : F_dl z.2.2.1 = true
      · rw [if_pos g1] at h ⊢
        by_cases g2 : F_jo z.2.2.1 = true
        · rw [if_pos g2] at h ⊢
          by_cases g3 : z.2.1 = 4
          · rw [if_pos g3] at h ⊢
            by_cases g4 : b_ch z.2.2.2 = []
            · rw [if_pos g4] at h
              exact absurd h (by simp)
            · rw [if_neg g4] at h ⊢
              refine K_more_w (by decide) h fun k1 k2 => ?_
              by_cases g5 : z.2.2.1 = b_tx 94
              · have e1 : D_co1 k X z = (L_ch z.1 z.2).flatMap fun i => D_co k X (L_ch i.1 i.2) := if_pos g5
                rw [e1, D_fl]
                have h8 := K_seq_w (f := K_item (K_F m).1) (w := fun i => (D_co k X (L_ch i.1 i.2)).length) _ _ (fun y _ n hn h => ?_) k1 k2
                · exact ⟨by have := h8.1; omega, h8.2⟩
                · unfold K_item at h ⊢
                  split
                  · rename_i g6
                    rw [if_pos g6] at h
                    exact ih k _ n (by omega) hn h
                  · rename_i g6
                    rw [if_neg g6] at h
                    exact absurd h (by simp)
              · have hcs : F_cs z.2 = false := by
                  unfold F_cs
                  rw [g3]
                  rfl
                have e1 : D_co1 k X z = if z.2.2.1 = X then [(true, z)] else [] := by
                  unfold D_co1
                  rw [if_neg g5, hcs, if_neg (show ¬ false = true by decide)]
                have e2 := hone (z.2.2.1 = X)
                rw [← e1] at e2
                have h8 := K_seq_w (f := K_item (K_F m).1) (w := fun _ => 0) _ _ (fun y _ n hn h => ?_) k1 k2
                · exact ⟨by have := h8.1; omega, h8.2⟩
                · show n + ((0 : Nat) : Int) ≤ _ ∧ _
                  unfold K_item at h ⊢
                  split
                  · rename_i g6
                    rw [if_pos g6] at h
                    have := (K_F_w m).1 _ n hn h
                    omega
                  · rename_i g6
                    rw [if_neg g6] at h
                    exact absurd h (by simp)
          · rw [if_neg g3] at h
            exact absurd h (by simp)
        · rw [if_neg g2] at h
          exact absurd h (by simp)
      · rw [if_neg g1] at h ⊢
        have g5 : ¬ z.2.2.1 = b_tx 94 := fun e => g1 (by rw [e]; decide)
        have e0 : D_co1 k X z = if z.2.2.1 = X then (if F_cs z.2 = true then (L_ch z.1 z.2).map (fun f => (false, f)) else [(true, z)]) else [] := if_neg g5
        by_cases g2 : F_pl z.2.2.1 = true
        · rw [if_pos g2] at h ⊢
          by_cases g3 : F_cs z.2 = true
          · rw [if_pos g3] at h ⊢
            rw [if_pos g3] at e0
            have e1 : (D_co1 k X z).length ≤ (L_ch z.1 z.2).length := by
              rw [e0]
              split
              · rw [List.length_map]
                exact Nat.le_refl _
              · exact Nat.zero_le _
            refine K_more_w (by decide) h fun k1 k2 => ?_
            have := htw k2 k1
            omega
          · rw [if_neg g3] at h ⊢
            rw [if_neg g3] at e0
            have e2 := hone (z.2.2.1 = X)
            rw [← e0] at e2
            refine K_more_w (by decide) h fun k1 k2 => ?_
            show n + ((D_co1 k X z).length : Int) ≤ n + 2 ∧ n + 2 ≤ 100
            omega
        · rw [if_neg g2] at h
          exact absurd h (by simp)
