/-! SHELVES OF THE CLASS: their indexes -/
/-- the indexes of a shelf -/
def H_ix (sh ia : Nat) (ix : Nat → Nat) (M : g_M) : Prop := g_O M sh 8 ∧ g_r M sh 4 = some ia ∧ g_A M ia 3 4 ∧ ∀ k : Nat, k < 4 → g_r M ia k = some (ix k) ∧ g_O M (ix k) 3
/-- the least number that no index has, among those from j on -/
def H_free (s : Nat → Bool) : Nat → Nat → Int
  | 0, _ => -1
  | r + 1, j => if s j = true then H_free s r (j + 1) else j
def H_cnt (s : Nat → Bool) : Nat → Nat → Nat
  | 0, _ => 0
  | r + 1, j => (if s j = true then 1 else 0) + H_cnt s r (j + 1)
theorem H_cnt_le (s : Nat → Bool) : ∀ r j, H_cnt s r j ≤ r := by
  intro r
  induction r with
  | zero => exact fun _ => Nat.le_refl 0
  | succ r ih =>
    intro j
    have h1 := ih (j + 1)
    show (if s j = true then 1 else 0) + H_cnt s r (j + 1) ≤ r + 1
    split <;> omega
section HIX
variable {d sh ia : Nat} {ix : Nat → Nat} {M : g_M} {s : Nat → Bool}
theorem c_freeIndex {Q : Int → g_M → Prop} (h : H_ix sh ia ix M) (hs : ∀ k : Nat, k < 4 → g_i M (ix k) 9 = (if s k = true then 1 else 0)) (hq : Q (H_free s 4 0) M) : g_Call (d + 1) 133 [.ref sh] M (g_qI Q) := by
  obtain ⟨h1, h2, h3, h4⟩ := h
  have hlp : ∀ (r j : Nat), j + r = 4 → H_free s 4 0 = H_free s r j → g_Run d 133 2 [(0, .ref sh), (1, g_n j)] [] M (g_qI Q) := by
    intro r
    induction r with
    | zero =>
      intro j hj he
      refine s_X8_freeIndex_2 ⟨by omega, by omega⟩ fun _ => ⟨fun z => absurd z (by omega), fun _ => ?_⟩
      rw [he] at hq
      exact hq
    | succ r ih =>
      intro j hj he
      obtain ⟨g1, g2⟩ := h4 j (by omega)
      have he2 : H_free s (r + 1) j = if s j = true then H_free s r (j + 1) else j := rfl
      rw [he2] at he
      refine s_X8_freeIndex_2 ⟨by omega, by omega⟩ fun _ => ⟨fun _ => ⟨h1, ia, h2, 4, h3, ⟨by omega, by omega⟩, ix j, g1, g2, ?_⟩, fun z => absurd (by omega) z⟩
      rw [hs j (by omega)]
      by_cases g : s j = true
      · rw [if_pos g] at he ⊢
        refine ⟨fun z => absurd z (by decide), fun _ => ⟨⟨by omega, by omega⟩, ?_⟩⟩
        have h9 := ih (j + 1) (by omega) he
        rwa [show ((j + 1 : Nat) : Int) = (j : Int) + 1 by omega] at h9
      · rw [if_neg g] at he ⊢
        rw [he] at hq
        exact ⟨fun _ => hq, fun z => absurd rfl z⟩
  refine m_X8_freeIndex fun _ => ?_
  exact hlp 4 0 rfl rfl
theorem c_indexCount {Q : Int → g_M → Prop} (h : H_ix sh ia ix M) (hs : ∀ k : Nat, k < 4 → g_i M (ix k) 9 = (if s k = true then 1 else 0)) (hq : Q (H_cnt s 4 0) M) : g_Call (d + 1) 132 [.ref sh] M (g_qI Q) := by
  obtain ⟨h1, h2, h3, h4⟩ := h
  have hlp : ∀ (r j v : Nat), j + r = 4 → H_cnt s 4 0 = v + H_cnt s r j → g_Run d 132 4 [(0, .ref sh), (1, g_n v), (2, g_n j)] [] M (g_qI Q) := by
    intro r
    have hall := H_cnt_le s 4 0
    induction r with
    | zero =>
      intro j v hj he
      have he : H_cnt s 4 0 = v := he
      refine s_X8_indexCount_4 ⟨by omega, by omega⟩ ⟨by omega, by omega⟩ fun _ => ⟨fun z => absurd z (by omega), fun _ => ?_⟩
      rw [he] at hq
      exact hq
    | succ r ih =>
      intro j v hj he
      obtain ⟨g1, g2⟩ := h4 j (by omega)
      have he2 : H_cnt s (r + 1) j = (if s j = true then 1 else 0) + H_cnt s r (j + 1) := rfl
      rw [he2] at he
      refine s_X8_indexCount_4 ⟨by omega, by omega⟩ ⟨by omega, by omega⟩ fun _ => ⟨fun _ => ⟨h1, ia, h2, 4, h3, ⟨by omega, by omega⟩, ix j, g1, g2, ?_⟩, fun z => absurd (by omega) z⟩
      rw [hs j (by omega)]
      by_cases g : s j = true
      · rw [if_pos g] at he ⊢
        refine ⟨fun z => absurd z (by decide), fun _ => ⟨⟨by omega, by omega⟩, ⟨by omega, by omega⟩, ?_⟩⟩
        have h9 := ih (j + 1) (v + 1) (by omega) (by omega)
        rwa [show ((j + 1 : Nat) : Int) = (j : Int) + 1 by omega, show ((v + 1 : Nat) : Int) = (v : Int) + 1 by omega] at h9
      · rw [if_neg g] at he ⊢
        refine ⟨fun _ => ⟨⟨by omega, by omega⟩, ⟨by omega, by omega⟩, ?_⟩, fun z => absurd rfl z⟩
        have h9 := ih (j + 1) v (by omega) (by omega)
        rw [Int.add_zero]
        rwa [show ((j + 1 : Nat) : Int) = (j : Int) + 1 by omega] at h9
  refine m_X8_indexCount fun _ => ?_
  exact hlp 4 0 0 rfl (Nat.zero_add _).symm
end HIX
