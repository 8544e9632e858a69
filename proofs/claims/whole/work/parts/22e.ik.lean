/-! INDEXES: different keys in order -/
section IK
variable {α β : Type} {c : α → α → Int} {c2 : β → β → Int}
/-- a value comes among others; the greatest stands first -/
def I_ins (c : α → α → Int) (x : α) : List α → List α
  | [] => [x]
  | y :: r => if 0 < c y x then y :: I_ins c x r else x :: y :: r
/-- likewise, unless one is the SAME -/
def I_add (c : α → α → Int) (x : α) : List α → List α
  | [] => [x]
  | y :: r => if c y x = 0 then y :: r else if c y x < 0 then x :: y :: r else y :: I_add c x r
def I_has (c : α → α → Int) (x : α) : List α → Bool
  | [] => false
  | y :: r => decide (c y x = 0) || I_has c x r
def I_un (c : α → α → Int) (l : List α) : List α := l.foldl (fun u x => if I_has c x u = true then u else u ++ [x]) []
def I_rv (c : α → α → Int) (l : List α) : List α := l.foldl (fun r x => I_ins c x r) []
def I_ks (c : α → α → Int) (l : List α) : List α := l.foldl (fun r x => I_add c x r) []
theorem I_has_t {x : α} : ∀ {l : List α}, I_has c x l = true ↔ ∃ y ∈ l, c y x = 0 := by
  intro l
  induction l with
  | nil => exact ⟨fun h => absurd h (by simp [I_has]), fun ⟨y, h, _⟩ => absurd h (by simp)⟩
  | cons y r ih =>
    show (decide (c y x = 0) || I_has c x r) = true ↔ _
    rw [Bool.or_eq_true, ih]
    refine ⟨fun h => ?_, fun ⟨z, hz, h⟩ => ?_⟩
    · rcases h with h | ⟨z, hz, h⟩
      · exact ⟨y, List.mem_cons_self, of_decide_eq_true h⟩
      · exact ⟨z, List.mem_cons_of_mem _ hz, h⟩
    · rcases List.mem_cons.mp hz with g | g
      · exact Or.inl (decide_eq_true (g ▸ h))
      · exact Or.inr ⟨z, g, h⟩
theorem I_ins_mem {x y : α} : ∀ {l : List α}, y ∈ I_ins c x l ↔ y = x ∨ y ∈ l := by
  intro l
  induction l with
  | nil => exact List.mem_cons
  | cons z r ih =>
    unfold I_ins
    split
    · rw [List.mem_cons, ih, List.mem_cons]
      constructor
      · rintro (h | h | h)
        · exact Or.inr (Or.inl h)
        · exact Or.inl h
        · exact Or.inr (Or.inr h)
      · rintro (h | h | h)
        · exact Or.inr (Or.inl h)
        · exact Or.inl h
        · exact Or.inr (Or.inr h)
    · exact List.mem_cons
theorem I_add_s (hc : v_T c) {x : α} : ∀ {l : List α}, l.Pairwise (fun a b => 0 < c a b) → (∃ y ∈ l, c y x = 0) → I_add c x l = l := by
  intro l
  induction l with
  | nil => exact fun _ ⟨y, h, _⟩ => absurd h (by simp)
  | cons z r ih =>
    intro hp ⟨y, hy, h⟩
    obtain ⟨p1, p2⟩ := List.pairwise_cons.mp hp
    unfold I_add
    rcases List.mem_cons.mp hy with g | g
    · subst g
      rw [if_pos h]
    · have h1 := p1 y g
      have h2 : ¬ c z x = 0 := fun w => by
        have k1 := hc.s z x
        have k2 := hc.t z x y (by omega) (by have := hc.s y x; omega)
        omega
      have h3 : ¬ c z x < 0 := fun w => by
        have k2 := hc.t z x y (by omega) (by have := hc.s y x; omega)
        omega
      rw [if_neg h2, if_neg h3, ih p2 ⟨y, g, h⟩]
theorem I_add_n (hc : v_T c) {x : α} : ∀ {l : List α}, l.Pairwise (fun a b => 0 < c a b) → (∀ y ∈ l, c y x ≠ 0) → I_add c x l = I_ins c x l ∧ (I_ins c x l).Pairwise (fun a b => 0 < c a b) := by
  intro l
  induction l with
  | nil => exact fun _ _ => ⟨rfl, List.pairwise_singleton _ _⟩
  | cons z r ih =>
    intro hp hn
    obtain ⟨p1, p2⟩ := List.pairwise_cons.mp hp
    have hz := hn z List.mem_cons_self
    obtain ⟨i1, i2⟩ := ih p2 fun y hy => hn y (List.mem_cons_of_mem _ hy)
    unfold I_add I_ins
    rw [if_neg hz]
    by_cases g : 0 < c z x
    · rw [if_neg (by omega), if_pos g, i1]
      refine ⟨rfl, List.pairwise_cons.mpr ⟨fun y hy => ?_, i2⟩⟩
      rcases I_ins_mem.mp hy with w | w
      · rw [w]
        exact g
      · exact p1 y w
    · rw [if_pos (by omega), if_neg g]
      refine ⟨rfl, List.pairwise_cons.mpr ⟨fun y hy => ?_, hp⟩⟩
      have k1 := hc.s z x
      rcases List.mem_cons.mp hy with w | w
      · rw [w]
        omega
      · have k2 := p1 y w
        have k3 := hc.s x y
        have k4 := hc.s z y
        have k5 := hc.r x y
        by_cases k6 : 0 < c x y
        · exact k6
        · have k7 := hc.t z x y (by omega) (by omega)
          omega
theorem I_ks_un (hc : v_T c) (l : List α) : I_ks c l = I_rv c (I_un c l) ∧ (∀ y, y ∈ I_ks c l ↔ y ∈ I_un c l) ∧ (I_ks c l).Pairwise (fun a b => 0 < c a b) := by
  have : ∀ (l1 : List α) (u r : List α), r = I_rv c u → (∀ y, y ∈ r ↔ y ∈ u) → r.Pairwise (fun a b => 0 < c a b) → l1.foldl (fun r x => I_add c x r) r = I_rv c (l1.foldl (fun u x => if I_has c x u = true then u else u ++ [x]) u) ∧ (∀ y, y ∈ l1.foldl (fun r x => I_add c x r) r ↔ y ∈ l1.foldl (fun u x => if I_has c x u = true then u else u ++ [x]) u) ∧ (l1.foldl (fun r x => I_add c x r) r).Pairwise (fun a b => 0 < c a b) := by
    intro l1
    induction l1 with
    | nil => exact fun u r h1 h2 h3 => ⟨h1, h2, h3⟩
    | cons x l1 ih =>
      intro u r h1 h2 h3
      rw [List.foldl_cons, List.foldl_cons]
      by_cases g : I_has c x u = true
      · rw [if_pos g]
        have h4 : ∃ y ∈ r, c y x = 0 := by
          obtain ⟨y, hy, h⟩ := I_has_t.mp g
          exact ⟨y, (h2 y).mpr hy, h⟩
        rw [I_add_s hc h3 h4]
        exact ih u r h1 h2 h3
      · rw [if_neg g]
        have h4 : ∀ y ∈ r, c y x ≠ 0 := fun y hy h => g (I_has_t.mpr ⟨y, (h2 y).mp hy, h⟩)
        obtain ⟨h5, h6⟩ := I_add_n hc h3 h4
        rw [h5]
        refine ih (u ++ [x]) (I_ins c x r) ?_ (fun y => ?_) h6
        · unfold I_rv at h1 ⊢
          rw [List.foldl_append, ← h1]
          rfl
        · rw [I_ins_mem, h2, List.mem_append, List.mem_singleton]
          exact Or.comm
  exact this l [] [] rfl (fun y => Iff.rfl) List.Pairwise.nil
theorem I_add_map {f : α → β} (hf : ∀ x y, c x y = c2 (f x) (f y)) (x : α) : ∀ l : List α, (I_add c x l).map f = I_add c2 (f x) (l.map f) := by
  intro l
  induction l with
  | nil => rfl
  | cons y r ih =>
    show (if c y x = 0 then y :: r else if c y x < 0 then x :: y :: r else y :: I_add c x r).map f = if c2 (f y) (f x) = 0 then f y :: r.map f else if c2 (f y) (f x) < 0 then f x :: f y :: r.map f else f y :: I_add c2 (f x) (r.map f)
    rw [← hf]
    split
    · rfl
    · split
      · rfl
      · rw [List.map_cons, ih]
theorem I_ks_map {f : α → β} (hf : ∀ x y, c x y = c2 (f x) (f y)) (l : List α) : (I_ks c l).map f = I_ks c2 (l.map f) := by
  have : ∀ (l1 r : List α), (l1.foldl (fun r x => I_add c x r) r).map f = (l1.map f).foldl (fun r x => I_add c2 x r) (r.map f) := by
    intro l1
    induction l1 with
    | nil => exact fun _ => rfl
    | cons x l1 ih =>
      intro r
      rw [List.foldl_cons, List.map_cons, List.foldl_cons, ih, I_add_map hf]
  exact this l []
theorem I_ks_mem (l : List α) : ∀ y ∈ I_ks c l, y ∈ l := by
  have h1 : ∀ (x : α) (r : List α), ∀ y ∈ I_add c x r, y = x ∨ y ∈ r := by
    intro x r
    induction r with
    | nil => exact fun y hy => Or.inl (List.mem_singleton.mp hy)
    | cons z r ih =>
      intro y hy
      unfold I_add at hy
      split at hy
      · exact Or.inr hy
      · split at hy
        · exact List.mem_cons.mp hy
        · rcases List.mem_cons.mp hy with g | g
          · exact Or.inr (g ▸ List.mem_cons_self)
          · rcases ih y g with w | w
            · exact Or.inl w
            · exact Or.inr (List.mem_cons_of_mem _ w)
  have h2 : ∀ (l1 r : List α), ∀ y ∈ l1.foldl (fun r x => I_add c x r) r, y ∈ l1 ∨ y ∈ r := by
    intro l1
    induction l1 with
    | nil => exact fun r y hy => Or.inr hy
    | cons x l1 ih =>
      intro r y hy
      rw [List.foldl_cons] at hy
      rcases ih _ y hy with w | w
      · exact Or.inl (List.mem_cons_of_mem _ w)
      · rcases h1 x r y w with g | g
        · exact Or.inl (g ▸ List.mem_cons_self)
        · exact Or.inr g
  intro y hy
  rcases h2 l [] y hy with w | w
  · exact w
  · exact absurd w (by simp)
theorem I_add_ne (x : α) (r : List α) : I_add c x r ≠ [] := by
  cases r with
  | nil => simp [I_add]
  | cons y r =>
    unfold I_add
    split
    · simp
    · split <;> simp
theorem I_ks_ne {l : List α} (h : l ≠ []) : I_ks c l ≠ [] := by
  rcases List.eq_nil_or_concat l with g | ⟨t, x, g⟩
  · exact absurd g h
  · unfold I_ks
    rw [g, List.concat_eq_append, List.foldl_append]
    exact I_add_ne _ _
end IK
