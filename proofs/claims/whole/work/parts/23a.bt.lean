/-! TREES OF THE CLASS: what its rows hold -/
def B_cs : Nat → Int
  | 0 => 0
  | 1 => 16
  | j + 2 => B_cs (j + 1) + B_cs (j + 1) / 2
def B_cn : Nat → Int
  | 0 => 0
  | 1 => 8
  | j + 2 => B_cn (j + 1) + B_cn (j + 1) / 2
theorem B_cs_le : ∀ j : Fin 13, 0 ≤ B_cs j.val ∧ B_cs j.val ≤ 1369 ∧ (j.val ≠ 0 → 16 ≤ B_cs j.val) := by decide +kernel
theorem B_cn_le : ∀ j : Fin 12, 0 ≤ B_cn j.val ∧ B_cn j.val ≤ 454 ∧ (j.val ≠ 0 → 8 ≤ B_cn j.val) := by decide +kernel
theorem B_cs_s (j : Nat) : B_cs (j + 1) = B_cs j + (if B_cs j < 16 then 16 else B_cs j / 2) ∨ 13 ≤ j := by
  by_cases g : j < 13
  · refine Or.inl ?_
    exact of_decide_eq_true ((List.all_eq_true.mp (show (List.range 13).all (fun j => decide (B_cs (j + 1) = B_cs j + (if B_cs j < 16 then 16 else B_cs j / 2))) = true by decide +kernel)) j (List.mem_range.mpr g))
  · exact Or.inr (by omega)
theorem B_cn_s (j : Nat) : B_cn (j + 1) = B_cn j + (if B_cn j < 8 then 8 else B_cn j / 2) ∨ 13 ≤ j := by
  by_cases g : j < 13
  · refine Or.inl ?_
    exact of_decide_eq_true ((List.all_eq_true.mp (show (List.range 13).all (fun j => decide (B_cn (j + 1) = B_cn j + (if B_cn j < 8 then 8 else B_cn j / 2))) = true by decide +kernel)) j (List.mem_range.mpr g))
  · exact Or.inr (by omega)
/-- how many elements all rows for slots, for nodes had that there ever were -/
def B_ws : Nat → Int
  | 0 => 0
  | j + 1 => B_ws j + 134 * B_cs (j + 1)
def B_wn : Nat → Int
  | 0 => 0
  | j + 1 => B_wn j + 21 * B_cn (j + 1)
/-- the fields that are rows -/
def B_fs : List Nat := [0, 1, 2, 4, 5, 6, 7, 8, 10, 11]
def B_ty (k : Nat) : Nat := if k = 0 then 0 else if k = 7 then 2 else 1
def B_len (c : Nat × Nat) (k : Nat) : Int := if k = 0 then 132 * B_cs c.1 else if k < 3 then B_cs c.1 else if k < 6 then 9 * B_cn c.2 else if k < 9 then B_cn c.2 else 16
/-- rows' sizes; what they hold; the numbers in fields -/
abbrev B_S : Type := (Nat → Int) × (Nat → Int → Int) × (Int → Int)
def B_set (S : B_S) (k : Nat) (q v : Int) : B_S := (S.1, fun k2 q2 => if k2 = k ∧ q2 = q then v else S.2.1 k2 q2, S.2.2)
def B_fld (S : B_S) (k v : Int) : B_S := (S.1, S.2.1, fun k2 => if k2 = k then v else S.2.2 k2)
def B_cp (S : B_S) (k k1 : Nat) (sp dp n : Int) : B_S := (S.1, fun k2 q => if k2 = k1 ∧ dp ≤ q ∧ q < dp + n then S.2.1 k (sp + (q - dp)) else S.2.1 k2 q, S.2.2)
/-- a row with more room; behind what was there are zeros -/
def B_gr (S : B_S) (k : Nat) (n : Int) : B_S := (fun k2 => if k2 = k then n else S.1 k2, fun k2 q => if k2 = k ∧ S.1 k ≤ q then 0 else S.2.1 k2 q, S.2.2)
def B_t (t : Nat) (S : B_S) (M : g_M) : Prop := g_O M t 10 ∧ (∀ k, g_i M t k = S.2.2 k) ∧ (∀ k ∈ B_fs, ∃ a, g_r M t k = some a ∧ g_A M a (B_ty k) (S.1 k) ∧ ∀ q : Int, 0 ≤ q → q < S.1 k → g_i M a q = S.2.1 k q) ∧ ∀ k ∈ B_fs, ∀ k2 ∈ B_fs, g_r M t k = g_r M t k2 → k = k2
def B_own (t : Nat) (M : g_M) (y : Nat) : Prop := y = t ∨ ∃ k ∈ B_fs, g_r M t k = some y
/-- only the tree's own changes; how much came -/
def B_F (t : Nat) (x w : Int) (M M1 : g_M) : Prop := g_ext M M1 ∧ M.1.length ≤ M1.1.length ∧ (∀ y, y < 2 * M.1.length → ¬ B_own t M y → g_i M1 y = g_i M y ∧ g_r M1 y = g_r M y) ∧ (∀ y, B_own t M1 y → B_own t M y ∨ 2 * M.1.length ≤ y) ∧ (g_sl M1 : Int) = g_sl M + x ∧ (M1.1.length : Int) = M.1.length + w
theorem B_F.rf (t : Nat) (M : g_M) : B_F t 0 0 M M := ⟨g_ext.rf M, Nat.le_refl _, fun _ _ _ => ⟨rfl, rfl⟩, fun _ h => Or.inl h, by omega, by omega⟩
theorem B_F.tr {t : Nat} {x w x1 w1 : Int} {M M1 M2 : g_M} (h : B_F t x w M M1) (h2 : B_F t x1 w1 M1 M2) : B_F t (x + x1) (w + w1) M M2 := by
  obtain ⟨a1, a2, a3, a4, a5, a6⟩ := h
  obtain ⟨b1, b2, b3, b4, b5, b6⟩ := h2
  refine ⟨a1.tr b1, Nat.le_trans a2 b2, fun y hy hn => ?_, fun y hy => ?_, by omega, by omega⟩
  · obtain ⟨c1, c2⟩ := a3 y hy hn
    obtain ⟨c3, c4⟩ := b3 y (by omega) fun z => by
      rcases a4 y z with g | g
      · exact hn g
      · omega
    exact ⟨c3.trans c1, c4.trans c2⟩
  · rcases b4 y hy with g | g
    · exact a4 y g
    · exact Or.inr (by omega)
theorem B_F.tr0 {t : Nat} {x w : Int} {M M1 M2 : g_M} (h : B_F t x w M M1) (h2 : B_F t 0 0 M1 M2) : B_F t x w M M2 := by
  have := h.tr h2
  rwa [Int.add_zero, Int.add_zero] at this
theorem B_F.t0r {t : Nat} {x w : Int} {M M1 M2 : g_M} (h : B_F t 0 0 M M1) (h2 : B_F t x w M1 M2) : B_F t x w M M2 := by
  have := h.tr h2
  rwa [Int.zero_add, Int.zero_add] at this
section BT
variable {t : Nat} {S : B_S} {M : g_M}
theorem B_t.at (h : B_t t S M) {k : Nat} (hk : k ∈ B_fs) : ∃ a, g_r M t k = some a ∧ g_A M a (B_ty k) (S.1 k) ∧ ∀ q : Int, 0 ≤ q → q < S.1 k → g_i M a q = S.2.1 k q := h.2.2.1 k hk
theorem B_t.ne (h : B_t t S M) {k k2 a a2 : Nat} (hk : k ∈ B_fs) (hk2 : k2 ∈ B_fs) (ha : g_r M t k = some a) (ha2 : g_r M t k2 = some a2) (hn : k ≠ k2) : a ≠ a2 := fun z => hn (h.2.2.2 k hk k2 hk2 (by rw [ha, ha2, z]))
theorem B_F.same {a k : Nat} {M1 : g_M} (hk : k ∈ B_fs) (ha : g_r M t k = some a) (h1 : M1.1 = M.1) (hr : ∀ y j, g_r M1 y j = g_r M y j) (hi : ∀ y j, y ≠ a → g_i M1 y j = g_i M y j) : B_F t 0 0 M M1 := by
  have hx : g_ext M M1 := fun y c hy => by
    unfold g_sh at hy ⊢
    rw [h1]
    exact hy
  refine ⟨hx, by rw [h1]; exact Nat.le_refl _, fun y _ hn => ⟨funext fun j => hi y j fun z => hn (Or.inr ⟨k, hk, by rw [z]; exact ha⟩), funext fun j => hr y j⟩, fun y hy => Or.inl ?_, ?_, by rw [h1]; omega⟩
  · rcases hy with z | ⟨k2, hk2, z⟩
    · exact Or.inl z
    · exact Or.inr ⟨k2, hk2, by rw [← hr]; exact z⟩
  · unfold g_sl
    rw [h1]
    omega
/-- a row's element changes -/
theorem B_t.set (h : B_t t S M) {k a : Nat} (hk : k ∈ B_fs) (ha : g_r M t k = some a) (q v : Int) : B_t t (B_set S k q v) (g_wi M a q v) ∧ B_F t 0 0 M (g_wi M a q v) := by
  refine ⟨?_, B_F.same hk ha rfl (fun _ _ => rfl) fun y j hy => by rw [g_i_wi, if_neg fun z => hy z.1]⟩
  obtain ⟨h1, h2, h3, h4⟩ := id h
  obtain ⟨a0, b1, b2, -⟩ := h3 k hk
  have ea : a0 = a := by rw [ha] at b1; exact (Option.some.inj b1).symm
  subst ea
  refine ⟨h1, fun k2 => ?_, fun k2 hk2 => ?_, h4⟩
  · rw [g_i_wi, if_neg fun z => g_neOA h1 b2 z.1]
    exact h2 k2
  · obtain ⟨a2, c1, c2, c3⟩ := h3 k2 hk2
    refine ⟨a2, c1, c2, fun q2 g1 g2 => ?_⟩
    show g_i (g_wi M a0 q v) a2 q2 = if k2 = k ∧ q2 = q then v else S.2.1 k2 q2
    rw [g_i_wi]
    by_cases g : k2 = k
    · subst g
      have : a2 = a0 := by rw [ha] at c1; exact (Option.some.inj c1).symm
      subst this
      by_cases g3 : q2 = q
      · rw [if_pos ⟨rfl, g3⟩, if_pos ⟨rfl, g3⟩]
      · rw [if_neg fun z => g3 z.2, if_neg fun z => g3 z.2]
        exact c3 q2 g1 g2
    · rw [if_neg fun z => h.ne hk2 hk c1 ha g z.1, if_neg fun z => g z.1]
      exact c3 q2 g1 g2
/-- a field changes -/
theorem B_t.fld (h : B_t t S M) (k v : Int) : B_t t (B_fld S k v) (g_wi M t k v) ∧ B_F t 0 0 M (g_wi M t k v) := by
  obtain ⟨h1, h2, h3, h4⟩ := id h
  refine ⟨⟨h1, fun k2 => ?_, fun k2 hk2 => ?_, h4⟩, (g_extW rfl), Nat.le_refl _, fun y _ hn => ⟨funext fun j => ?_, rfl⟩, fun y hy => Or.inl hy, (by rw [Int.add_zero]; rfl), by rw [Int.add_zero]; rfl⟩
  · show g_i (g_wi M t k v) t k2 = if k2 = k then v else S.2.2 k2
    rw [g_i_wi]
    by_cases g : k2 = k
    · rw [if_pos ⟨rfl, g⟩, if_pos g]
    · rw [if_neg fun z => g z.2, if_neg g]
      exact h2 k2
  · obtain ⟨a2, c1, c2, c3⟩ := h3 k2 hk2
    refine ⟨a2, c1, c2, fun q2 g1 g2 => ?_⟩
    rw [g_i_wi, if_neg fun z => g_neOA h1 c2 z.1.symm]
    exact c3 q2 g1 g2
  · rw [g_i_wi, if_neg fun z => hn (Or.inl z.1)]
/-- a part of a row is copied -/
theorem B_t.cpy (h : B_t t S M) {k k1 a a1 : Nat} {sp dp n : Int} (hk : k ∈ B_fs) (hk1 : k1 ∈ B_fs) (ha : g_r M t k = some a) (ha1 : g_r M t k1 = some a1) (hs : 0 ≤ sp) (hs2 : sp + n ≤ S.1 k) : B_t t (B_cp S k k1 sp dp n) (g_cp M a a1 sp dp n) ∧ B_F t 0 0 M (g_cp M a a1 sp dp n) := by
  refine ⟨?_, B_F.same hk1 ha1 rfl (fun _ _ => rfl) fun y j hy => by rw [g_i_cp, if_neg fun z => hy z.1]⟩
  obtain ⟨h1, h2, h3, h4⟩ := id h
  obtain ⟨a0, b1, b2, b3⟩ := h3 k hk
  have ea : a0 = a := by rw [ha] at b1; exact (Option.some.inj b1).symm
  subst ea
  obtain ⟨a2, d1, d2, -⟩ := h3 k1 hk1
  have ea : a2 = a1 := by rw [ha1] at d1; exact (Option.some.inj d1).symm
  subst ea
  refine ⟨h1, fun k2 => ?_, fun k2 hk2 => ?_, h4⟩
  · rw [g_i_cp, if_neg fun z => g_neOA h1 d2 z.1]
    exact h2 k2
  · obtain ⟨a3, c1, c2, c3⟩ := h3 k2 hk2
    refine ⟨a3, c1, c2, fun q g1 g2 => ?_⟩
    show g_i (g_cp M a0 a2 sp dp n) a3 q = if k2 = k1 ∧ dp ≤ q ∧ q < dp + n then S.2.1 k (sp + (q - dp)) else S.2.1 k2 q
    rw [g_i_cp]
    by_cases g : k2 = k1
    · subst g
      have : a3 = a2 := by rw [ha1] at c1; exact (Option.some.inj c1).symm
      subst this
      by_cases g3 : dp ≤ q ∧ q < dp + n
      · rw [if_pos ⟨rfl, g3⟩, if_pos ⟨rfl, g3⟩]
        exact b3 _ (by omega) (by omega)
      · rw [if_neg fun z => g3 z.2, if_neg fun z => g3 z.2]
        exact c3 q g1 g2
    · rw [if_neg fun z => h.ne hk2 hk1 c1 ha1 g z.1, if_neg fun z => g z.1]
      exact c3 q g1 g2
/-- a row grows -/
theorem B_t.grow (h : B_t t S M) {k a : Nat} {n : Int} {m : Nat} (hk : k ∈ B_fs) (ha : g_r M t k = some a) (hn : S.1 k ≤ n) (hm : (m : Int) = n) : B_t t (B_gr S k n) (g_wr (g_cp (g_nw M (B_ty k) m) a (2 * M.1.length) 0 0 (S.1 k)) t k (some (2 * M.1.length))) ∧ B_F t n 1 M (g_wr (g_cp (g_nw M (B_ty k) m) a (2 * M.1.length) 0 0 (S.1 k)) t k (some (2 * M.1.length))) := by
  obtain ⟨h1, h2, h3, h4⟩ := id h
  obtain ⟨a0, b1, b2, b3⟩ := h3 k hk
  have ea : a0 = a := by rw [ha] at b1; exact (Option.some.inj b1).symm
  subst ea
  have hl0 := b2.len
  obtain ⟨M1, e1⟩ : ∃ M1, M1 = g_nw M (B_ty k) m := ⟨_, rfl⟩
  obtain ⟨M2, e2⟩ : ∃ M2, M2 = g_cp M1 a0 (2 * M.1.length) 0 0 (S.1 k) := ⟨_, rfl⟩
  obtain ⟨M3, e3⟩ : ∃ M3, M3 = g_wr M2 t k (some (2 * M.1.length)) := ⟨_, rfl⟩
  rw [← e1, ← e2, ← e3]
  have hx : g_ext M M3 := (g_extN e1).tr ((g_extC e2).tr (g_extR e3))
  have hlen : M3.1.length = M.1.length + 1 := by
    subst e3 e2 e1
    show (M.1 ++ [_]).length = _
    rw [List.length_append, List.length_singleton]
  have hsl : g_sl M3 = g_sl M + m := by
    subst e3 e2 e1
    exact g_sl_nw M _ _
  have hi : ∀ x, x < 2 * M.1.length → g_i M3 x = g_i M x := by
    intro x hx
    subst e3 e2 e1
    funext j
    rw [g_i_wr, g_i_cp, if_neg (by omega), g_i_nw, if_neg (by omega)]
  have hr : ∀ x, x < 2 * M.1.length → ∀ k2 : Int, ¬ (x = t ∧ k2 = k) → g_r M3 x k2 = g_r M x k2 := by
    intro x hx k2 hk2
    subst e3 e2 e1
    rw [g_r_wr, if_neg hk2, g_r_cp, g_r_nw, if_neg (by omega)]
  have ht := h1.lt
  have hrk : g_r M3 t k = some (2 * M.1.length) := by
    subst e3
    rw [g_r_wr, if_pos ⟨rfl, rfl⟩]
  have hrn : ∀ k2 : Nat, k2 ≠ k → g_r M3 t k2 = g_r M t k2 := fun k2 hk2 => hr t ht k2 fun z => hk2 (by omega)
  have hold : ∀ k2 ∈ B_fs, ∀ a2, g_r M t k2 = some a2 → a2 < 2 * M.1.length := fun k2 hk2 a2 ha2 => by
    obtain ⟨a3, c1, c2, -⟩ := h3 k2 hk2
    have : a3 = a2 := by rw [ha2] at c1; exact (Option.some.inj c1).symm
    rw [← this]
    exact c2.lt
  refine ⟨⟨h1.up hx, fun k2 => ?_, fun k2 hk2 => ?_, fun k2 hk2 k3 hk3 he => ?_⟩, hx, by omega, fun y hy hn2 => ?_, fun y hy => ?_, by omega, by omega⟩
  · rw [hi t ht]
    exact h2 k2
  · by_cases g : k2 = k
    · subst g
      refine ⟨2 * M.1.length, hrk, ?_, fun q g1 g2 => ?_⟩
      · show g_A M3 (2 * M.1.length) (B_ty k2) (if k2 = k2 then n else S.1 k2)
        rw [if_pos rfl, ← hm]
        refine g_A.up ?_ ((g_extC e2).tr (g_extR e3))
        rw [e1]
        exact g_A_nw
      · show g_i M3 (2 * M.1.length) q = if k2 = k2 ∧ S.1 k2 ≤ q then 0 else S.2.1 k2 q
        subst e3 e2 e1
        rw [g_i_wr, g_i_cp]
        by_cases g3 : S.1 k2 ≤ q
        · rw [if_neg (by omega), if_pos ⟨rfl, g3⟩, g_i_nw, if_pos rfl]
        · rw [if_pos ⟨rfl, by omega, by omega⟩, if_neg fun z => g3 z.2, g_i_nw, if_neg (by have := b2.lt; omega), show (0 : Int) + (q - 0) = q by omega]
          exact b3 q g1 (by omega)
    · obtain ⟨a2, c1, c2, c3⟩ := h3 k2 hk2
      refine ⟨a2, by rw [hrn k2 g]; exact c1, ?_, fun q g1 g2 => ?_⟩
      · show g_A M3 a2 (B_ty k2) (if k2 = k then n else S.1 k2)
        rw [if_neg g]
        exact c2.up hx
      · show g_i M3 a2 q = if k2 = k ∧ S.1 k ≤ q then 0 else S.2.1 k2 q
        have g2 : q < if k2 = k then n else S.1 k2 := g2
        rw [if_neg g] at g2
        rw [hi a2 (hold k2 hk2 a2 c1), if_neg fun z => g z.1]
        exact c3 q g1 g2
  · by_cases g : k2 = k
    · by_cases g2 : k3 = k
      · rw [g, g2]
      · rw [g, hrk, hrn k3 g2] at he
        have := hold k3 hk3 _ he.symm
        omega
    · by_cases g2 : k3 = k
      · rw [g2, hrk, hrn k2 g] at he
        have := hold k2 hk2 _ he
        omega
      · rw [hrn k2 g, hrn k3 g2] at he
        exact h4 k2 hk2 k3 hk3 he
  · refine ⟨hi y hy, funext fun j => hr y hy j fun z => hn2 (Or.inl z.1)⟩
  · rcases hy with z | ⟨k2, hk2, z⟩
    · exact Or.inl (Or.inl z)
    · by_cases g : k2 = k
      · rw [g, hrk] at z
        have := Option.some.inj z
        exact Or.inr (by omega)
      · rw [hrn k2 g] at z
        exact Or.inl (Or.inr ⟨k2, hk2, z⟩)
end BT
