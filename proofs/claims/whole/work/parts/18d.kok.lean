/-! FILTERS: their faults are small; faults of what stands elsewhere -/
def K_ok (R : Int × Int × Int) : Prop := 0 ≤ R.1 ∧ R.1 ≤ 5
theorem K_okc {w q n : Int} (h : 0 ≤ w ∧ w ≤ 5) : K_ok (w, q, n) := h
theorem K_seq_ok {f : Int × b_E → Int → Int × Int × Int} (h : ∀ z n, K_ok (f z n)) : ∀ (zs : List (Int × b_E)) (n : Int), K_ok (K_seq f zs n) := by
  intro zs
  induction zs with
  | nil => exact fun n => K_okc (w := 0) (q := 0) (n := n) (by decide)
  | cons z zs ih =>
    intro n
    unfold K_seq
    split
    · exact ih _
    · exact h _ _
theorem K_more_ok {k q n : Int} {R : Int × Int × Int} (h : K_ok R) : K_ok (K_more k q n R) := by
  unfold K_more
  split
  · exact K_okc (by decide)
  · exact h
theorem K_F_ok : ∀ (k : Nat), (∀ zs n, K_ok ((K_F k).1 zs n)) ∧ ∀ zs n, K_ok ((K_F k).2 zs n) := by
  intro k
  induction k with
  | zero => exact ⟨fun zs n => K_okc (w := 0) (q := 0) (n := n) (by decide), fun zs n => K_okc (w := 0) (q := 0) (n := n) (by decide)⟩
  | succ k ih =>
    have hi : ∀ z n, K_ok (K_item (K_F k).1 z n) := fun z n => by
      unfold K_item
      split
      · exact ih.1 _ _
      · exact K_okc (by decide)
    constructor
    · refine K_seq_ok fun z n => ?_
      unfold K_one
      split
      · split
        · split
          · split
            · exact K_okc (by decide)
            · exact K_more_ok (K_seq_ok hi _ _)
          · exact K_okc (by decide)
        · exact K_okc (by decide)
      · split
        · split
          · exact K_more_ok (ih.2 _ _)
          · exact K_more_ok (K_okc (by decide))
        · exact K_okc (by decide)
    · refine K_seq_ok fun z n => ?_
      unfold K_cd
      split
      · exact K_okc (by decide)
      · split
        · refine K_more_ok ?_
          split
          · exact ih.2 _ _
          · split
            · split
              · exact ih.2 _ _
              · exact ih.1 _ _
            · exact (K_okc (by decide))
        · exact K_okc (by decide)
/-- the same fault, s further on -/
def K_S (s : Int) (R R2 : Int × Int × Int) : Prop := R2.1 = R.1 ∧ R2.2.2 = R.2.2 ∧ (R.1 ≠ 0 → R2.2.1 = R.2.1 + s)
theorem K_seq_S {s : Int} {f f2 : Int × b_E → Int → Int × Int × Int} (h : ∀ z n, K_S s (f z n) (f2 (L_sh s z) n)) : ∀ (zs : List (Int × b_E)) (n : Int), K_S s (K_seq f zs n) (K_seq f2 (zs.map (L_sh s)) n) := by
  intro zs
  induction zs with
  | nil => exact fun n => ⟨rfl, rfl, fun z => absurd rfl z⟩
  | cons z zs ih =>
    intro n
    rw [List.map_cons]
    unfold K_seq
    obtain ⟨h1, h2, h3⟩ := h z n
    by_cases g : (f z n).1 = 0
    · rw [if_pos g, if_pos (h1.trans g), h2]
      exact ih _
    · rw [if_neg g, if_neg (fun z2 => g (h1.symm.trans z2))]
      exact ⟨h1, h2, h3⟩
theorem K_more_S {s k q n : Int} {R R2 : Int × Int × Int} (h : K_S s R R2) : K_S s (K_more k q n R) (K_more k (q + s) n R2) := by
  unfold K_more
  split
  · exact ⟨rfl, rfl, fun _ => rfl⟩
  · exact h
theorem L_ch_sh (s q : Int) (e : b_E) : L_ch (q + s) e = (L_ch q e).map (L_sh s) := by
  unfold L_ch
  rw [show q + s + 6 + (e.2.1.length : Int) = q + 6 + e.2.1.length + s by omega]
  exact L_at_sh s _ _
theorem K_F_S (s : Int) : ∀ (k : Nat), (∀ zs n, K_S s ((K_F k).1 zs n) ((K_F k).1 (zs.map (L_sh s)) n)) ∧ ∀ zs n, K_S s ((K_F k).2 zs n) ((K_F k).2 (zs.map (L_sh s)) n) := by
  have h0 : ∀ n : Int, K_S s (0, 0, n) (0, 0, n) := fun n => ⟨rfl, rfl, fun z => absurd rfl z⟩
  have h1 : ∀ w q n : Int, K_S s (w, q, n) (w, q + s, n) := fun w q n => ⟨rfl, rfl, fun _ => rfl⟩
  intro k
  induction k with
  | zero => exact ⟨fun zs n => h0 n, fun zs n => h0 n⟩
  | succ k ih =>
    have hi : ∀ z n, K_S s (K_item (K_F k).1 z n) (K_item (K_F k).1 (L_sh s z) n) := fun z n => by
      show K_S s (if z.2.1 = 3 then (K_F k).1 (L_ch z.1 z.2) n else (2, z.1, n)) (if z.2.1 = 3 then (K_F k).1 (L_ch (z.1 + s) z.2) n else (2, z.1 + s, n))
      rw [L_ch_sh]
      split
      · exact ih.1 _ _
      · exact h1 _ _ _
    constructor
    · refine K_seq_S fun z n => ?_
      unfold K_one
      show K_S s _ (if F_dl z.2.2.1 = true then (if F_jo z.2.2.1 = true then (if z.2.1 = 4 then (if b_ch z.2.2.2 = [] then (2, z.1 + s, n) else K_more 1 (z.1 + s) n (K_seq (K_item (K_F k).1) (L_ch (z.1 + s) z.2) (n + 1))) else (2, z.1 + s, n)) else (1, z.1 + s, n)) else if F_pl z.2.2.1 = true then (if F_cs z.2 = true then K_more 1 (z.1 + s) n ((K_F k).2 (L_ch (z.1 + s) z.2) (n + 1)) else K_more 2 (z.1 + s) n (0, 0, n + 2)) else (3, z.1 + s, n))
      rw [L_ch_sh]
      split
      · split
        · split
          · split
            · exact h1 _ _ _
            · exact K_more_S (K_seq_S hi _ _)
          · exact h1 _ _ _
        · exact h1 _ _ _
      · split
        · split
          · exact K_more_S (ih.2 _ _)
          · exact K_more_S (h0 _)
        · exact h1 _ _ _
    · refine K_seq_S fun z n => ?_
      unfold K_cd
      show K_S s _ (if F_cd z.2.2.1 = 0 then (1, z.1 + s, n) else if F_rv (F_cd z.2.2.1) z.2 = true then K_more 1 (z.1 + s) n (if F_cd z.2.2.1 = 12 then (K_F k).2 (L_ch (z.1 + s) z.2) (n + 1) else if F_cd z.2.2.1 = 11 then (if F_ci z.2 = true then (K_F k).2 (L_ch (z.1 + s) z.2) (n + 1) else (K_F k).1 (L_ch (z.1 + s) z.2) (n + 1)) else (0, 0, n + 1)) else (4, z.1 + s, n))
      rw [L_ch_sh]
      split
      · exact h1 _ _ _
      · split
        · refine K_more_S ?_
          split
          · exact ih.2 _ _
          · split
            · split
              · exact ih.2 _ _
              · exact ih.1 _ _
            · exact h0 _
        · exact h1 _ _ _
