/-! PATHS: names with a point between two of them; the reference's questions of them -/
def p_hd : List Int → List Int
  | [] => []
  | c :: x => if c = 46 then [] else c :: p_hd x
def p_tl : List Int → Option (List Int)
  | [] => none
  | c :: x => if c = 46 then some x else p_tl x
def p_sp : List Int → List (List Int)
  | [] => [[]]
  | c :: x => if c = 46 then [] :: p_sp x else match p_sp x with
    | [] => [[c]]
    | s :: r => (c :: s) :: r
theorem p_hd_cons (c : Int) (x : List Int) : p_hd (c :: x) = if c = 46 then [] else c :: p_hd x := rfl
theorem p_tl_cons (c : Int) (x : List Int) : p_tl (c :: x) = if c = 46 then some x else p_tl x := rfl
theorem p_sp_cons (c : Int) (x : List Int) : p_sp (c :: x) = if c = 46 then [] :: p_sp x else match p_sp x with
    | [] => [[c]]
    | s :: r => (c :: s) :: r := rfl
theorem p_sp_eq : ∀ x : List Int, p_sp x = p_hd x :: (match p_tl x with
    | none => []
    | some y => p_sp y) := by
  intro x
  induction x with
  | nil => rfl
  | cons c x ih =>
    rw [p_sp_cons, p_hd_cons, p_tl_cons]
    by_cases g : c = 46
    · rw [if_pos g, if_pos g, if_pos g]
    · rw [if_neg g, if_neg g, if_neg g, ih]
theorem p_hd_tl : ∀ x : List Int, (p_tl x = none ∧ p_hd x = x) ∨ (∃ y, p_tl x = some y ∧ x = p_hd x ++ 46 :: y) := by
  intro x
  induction x with
  | nil => exact Or.inl ⟨rfl, rfl⟩
  | cons c x ih =>
    rw [p_hd_cons, p_tl_cons]
    by_cases g : c = 46
    · rw [if_pos g, if_pos g]
      exact Or.inr ⟨x, rfl, by rw [g]; rfl⟩
    · rw [if_neg g, if_neg g]
      rcases ih with ⟨h1, h2⟩ | ⟨y, h1, h2⟩
      · exact Or.inl ⟨h1, by rw [h2]⟩
      · exact Or.inr ⟨y, h1, by rw [List.cons_append, ← h2]⟩
theorem p_sp_some {x y : List Int} (h : p_tl x = some y) : p_sp x = p_hd x :: p_sp y := by rw [p_sp_eq, h]
theorem p_sp_none {x : List Int} (h : p_tl x = none) : p_sp x = [p_hd x] := by rw [p_sp_eq, h]
/-- a path: eight steps at most, none of them empty, no 0 in it -/
def p_ok (x : List Int) : Prop := (∀ s ∈ p_sp x, s ≠ []) ∧ (p_sp x).length ≤ 8 ∧ b_nz x
def p_dol : Bool → List Int → Bool
  | _, [] => false
  | st, c :: x => (st && decide (c = 36)) || p_dol (decide (c = 46)) x
def p_plain (x : List Int) : Prop := p_ok x ∧ p_dol true x = false
section PATHE
variable {d : Nat} {M : g_M} {Q : Int → g_M → Prop} {m b : Nat} {p : Int} {x : List Int}
theorem u_at_eq {B : Int → Int} {q k : Int} (hB : -128 ≤ B q ∧ B q ≤ 127) (h0 : 0 ≤ k) (h1 : k < 128) : u_at B q = k ↔ B q = k := by
  unfold u_at
  omega
theorem e_u {q : Int} (hR : e_R M m b) (h0 : 0 ≤ q) (h1 : q < 2706210) (h : Q (u_at (g_i M b) q) M) (hok : g_ok M) : g_Call (d + 1) 226 [.ref m, g_n q] M (g_qI Q) := by
  refine e_at hR h0 h1 ?_
  rwa [u_at_byte (hok.byte hR.2.2 q)]
theorem e_stepEnd (hR : e_R M m b) (hx : b_at (g_i M b) p x) (h0 : 0 ≤ p) (h1 : p + x.length ≤ 2706210) (h : Q (p + (p_hd x).length) M) : g_Call (d + 2) 272 [.ref m, g_n p, g_n (p + x.length)] M (g_qI Q) := by
  have hl : ∀ (y : List Int) (q : Int), p ≤ q → b_at (g_i M b) q y → q + y.length = p + x.length → q + (p_hd y).length = p + (p_hd x).length → g_Run (d + 1) 272 2 [(0, .ref m), (1, g_n p), (2, g_n (p + x.length)), (3, g_n q)] [] M (g_qI Q) := by
    intro y
    induction y with
    | nil =>
      intro q hq hy e1 e2
      rw [List.length_nil] at e1
      have e2 : q + ((([] : List Int).length : Nat) : Int) = p + (p_hd x).length := e2
      rw [List.length_nil] at e2
      refine s_X12_stepEnd_2 ⟨by omega, by omega⟩ ⟨by omega, by omega⟩ ⟨by omega, by omega⟩ fun _ => ⟨fun g => absurd g (by omega), fun _ => ?_⟩
      rwa [show q = p + (p_hd x).length by omega]
    | cons c y ih =>
      intro q hq hy e1 e2
      rw [List.length_cons] at e1
      obtain ⟨h3, h4⟩ := b_cons.mp hy
      refine s_X12_stepEnd_2 ⟨by omega, by omega⟩ ⟨by omega, by omega⟩ ⟨by omega, by omega⟩ fun hok => ⟨fun _ => ⟨hR.1, e_u hR (by omega) (by omega) (fun _ _ _ => ?_) hok⟩, fun g => absurd (by omega) g⟩
      rw [u_at_eq (hok.byte hR.2.2 q) (by decide) (by decide), h3]
      rw [p_hd_cons] at e2
      refine ⟨fun g => ?_, fun g => ⟨⟨by omega, by omega⟩, ih (q + 1) (by omega) h4 (by omega) ?_⟩⟩
      · rw [if_pos g, List.length_nil] at e2
        rwa [show q = p + (p_hd x).length by omega]
      · rw [if_neg g, List.length_cons] at e2
        omega
  exact m_X12_stepEnd ⟨by omega, by omega⟩ ⟨by omega, by omega⟩ fun _ => hl x p (Int.le_refl _) hx rfl rfl
theorem e_isPath (hR : e_R M m b) (hx : b_at (g_i M b) p x) (h0 : 0 ≤ p) (h1 : p + x.length < 2706210) (hq1 : p_ok x → Q 1 M) (hq0 : ¬ p_ok x → Q 0 M) : g_Call (d + 3) 273 [.ref m, g_n p, g_n (p + x.length)] M (g_qI Q) := by
  have hz : ∀ (y : List Int) (q n v4 : Int), g_InR n → g_InR v4 → p ≤ q → b_at (g_i M b) q y → q + y.length = p + x.length → (b_nz y → n ≤ 8 → Q 1 M) → (¬ (b_nz y ∧ n ≤ 8) → Q 0 M) → g_Run (d + 2) 273 59 [(0, .ref m), (1, g_n p), (2, g_n (p + x.length)), (3, g_n n), (4, g_n v4), (5, g_n 0), (6, g_n q)] [] M (g_qI Q) := by
    intro y
    induction y with
    | nil =>
      intro q n v4 hn hv4 hq hy e1 k1 k0
      rw [List.length_nil] at e1
      exact s_X12_isPath_59 ⟨by omega, by omega⟩ ⟨by omega, by omega⟩ hn hv4 ⟨by decide, by decide⟩ ⟨by omega, by omega⟩ fun _ => ⟨fun g => absurd g (by omega), fun _ => ⟨fun g => k0 fun z => absurd z.2 (by omega), fun g => k1 (fun c hc => absurd hc (by simp)) (by omega)⟩⟩
    | cons c y ih =>
      intro q n v4 hn hv4 hq hy e1 k1 k0
      rw [List.length_cons] at e1
      obtain ⟨h3, h4⟩ := b_cons.mp hy
      refine s_X12_isPath_59 ⟨by omega, by omega⟩ ⟨by omega, by omega⟩ hn hv4 ⟨by decide, by decide⟩ ⟨by omega, by omega⟩ fun _ => ⟨fun _ => ⟨hR.1, b, hR.2.1, _, hR.2.2, ⟨by omega, by omega⟩, ?_⟩, fun g => absurd (by omega) g⟩
      rw [h3]
      refine ⟨fun g => k0 fun z => z.1 c List.mem_cons_self g, fun g => ⟨⟨by omega, by omega⟩, ih (q + 1) n v4 hn hv4 (by omega) h4 (by omega) (fun z1 z2 => k1 (fun e he => ?_) z2) (fun z => k0 fun w => z ⟨fun e he => w.1 e (List.mem_cons_of_mem _ he), w.2⟩)⟩⟩
      rcases List.mem_cons.mp he with rfl | he
      · exact g
      · exact z1 e he
  have hl : ∀ (f : Nat) (y : List Int) (q n : Int), y.length < f → 0 ≤ n → n ≤ q → p ≤ q → b_at (g_i M b) q y → q + y.length = p + x.length → ((∀ s ∈ p_sp y, s ≠ []) → n + (p_sp y).length ≤ 8 → b_nz x → Q 1 M) → (¬ ((∀ s ∈ p_sp y, s ≠ []) ∧ n + (p_sp y).length ≤ 8 ∧ b_nz x) → Q 0 M) → g_Run (d + 2) 273 8 [(0, .ref m), (1, g_n p), (2, g_n (p + x.length)), (3, g_n n), (4, g_n q), (5, g_n 1)] [] M (g_qI Q) := by
    intro f
    induction f with
    | zero => exact fun y q n hf => absurd hf (by omega)
    | succ f ih =>
      intro y q n hf hn0 hnq hq hy e1 k1 k0
      have hlen := p_hd_tl y
      have hhd : (p_hd y).length ≤ y.length := by
        rcases hlen with ⟨-, h2⟩ | ⟨z, -, h2⟩
        · rw [h2]
          exact Nat.le_refl _
        · have := congrArg List.length h2
          rw [List.length_append, List.length_cons] at this
          omega
      have hq8 : g_InR q := ⟨by omega, by omega⟩
      refine s_X12_isPath_8 ⟨by omega, by omega⟩ ⟨by omega, by omega⟩ ⟨by omega, by omega⟩ hq8 ⟨by decide, by decide⟩ fun _ => ⟨fun g => absurd g (by decide), fun _ => ⟨hR.1, ?_⟩⟩
      rw [← e1]
      refine e_stepEnd hR hy (by omega) (by omega) fun _ _ _ => ⟨fun g => ?_, fun g => ⟨⟨by omega, by omega⟩, fun g2 => ⟨⟨by omega, by omega⟩, ?_⟩, fun g2 => ⟨⟨by omega, by omega⟩, ?_⟩⟩⟩
      · refine k0 fun w => ?_
        have : p_hd y = [] := List.eq_nil_of_length_eq_zero (by omega)
        refine w.1 (p_hd y) ?_ this
        rw [p_sp_eq]
        exact List.mem_cons_self
      · rcases hlen with ⟨h2, h3⟩ | ⟨z, h2, h3⟩
        · rw [h3] at g2
          exact absurd g2 (by omega)
        · have hl3 := congrArg List.length h3
          rw [List.length_append, List.length_cons] at hl3
          have hz3 : b_at (g_i M b) (q + (p_hd y).length + 1) z := by
            rw [h3] at hy
            exact (b_cons.mp (b_app.mp hy).2).2
          rw [p_sp_some h2] at k1 k0
          rw [List.length_cons] at k1 k0
          rw [e1]
          refine ih z _ (n + 1) (by omega) (by omega) (by omega) (by omega) hz3 (by omega) (fun w1 w2 w3 => k1 ?_ (by omega) w3) (fun w => k0 fun v => w ⟨fun s hs => v.1 s (List.mem_cons_of_mem _ hs), by have := v.2.1; omega, v.2.2⟩)
          intro s hs
          rcases List.mem_cons.mp hs with rfl | hs
          · intro e
            rw [e, List.length_nil] at g
            omega
          · exact w1 s hs
      · rcases hlen with ⟨h2, h3⟩ | ⟨z, h2, h3⟩
        · rw [p_sp_none h2] at k1 k0
          rw [e1]
          refine s_X12_isPath_8 ⟨by omega, by omega⟩ ⟨by omega, by omega⟩ ⟨by omega, by omega⟩ ⟨by omega, by omega⟩ ⟨by decide, by decide⟩ fun _ => ⟨fun _ => ?_, fun g => absurd rfl g⟩
          refine hz x p (n + 1) _ ⟨by omega, by omega⟩ ⟨by omega, by omega⟩ (Int.le_refl _) hx rfl (fun w1 w2 => k1 (fun s hs => ?_) (by rw [List.length_singleton]; omega) w1) (fun w => k0 fun v => w ⟨v.2.2, by have := v.2.1; rw [List.length_singleton] at this; omega⟩)
          rw [List.mem_singleton.mp hs]
          intro e
          rw [e, List.length_nil] at g
          omega
        · have hl3 := congrArg List.length h3
          rw [List.length_append, List.length_cons] at hl3
          exact absurd (by omega) g2
  refine m_X12_isPath ⟨by omega, by omega⟩ ⟨by omega, by omega⟩ fun _ => hl (x.length + 1) x p 0 (by omega) (Int.le_refl _) h0 (Int.le_refl _) hx rfl (fun w1 w2 w3 => hq1 ⟨w1, by omega, w3⟩) (fun w => hq0 fun v => w ⟨v.1, by have := v.2.1; omega, v.2.2⟩)
theorem e_dollar (hR : e_R M m b) (hx : b_at (g_i M b) p x) (h0 : 0 ≤ p) (h1 : p + x.length < 2706210) (hq1 : p_dol true x = true → Q 1 M) (hq0 : p_dol true x = false → Q 0 M) : g_Call (d + 2) 274 [.ref m, g_n p, g_n (p + x.length)] M (g_qI Q) := by
  have hl : ∀ (y : List Int) (q : Int) (st : Bool), p ≤ q → b_at (g_i M b) q y → q + y.length = p + x.length → (q = p → st = true) → (q ≠ p → st = decide (g_i M b (q - 1) = 46)) → (p_dol st y = true → Q 1 M) → (p_dol st y = false → Q 0 M) → g_Run (d + 1) 274 2 [(0, .ref m), (1, g_n p), (2, g_n (p + x.length)), (3, g_n q)] [] M (g_qI Q) := by
    intro y
    induction y with
    | nil =>
      intro q st hq hy e1 s1 s2 k1 k0
      rw [List.length_nil] at e1
      exact s_X12_hasDollar_2 ⟨by omega, by omega⟩ ⟨by omega, by omega⟩ ⟨by omega, by omega⟩ fun _ => ⟨fun g => absurd g (by omega), fun _ => k0 (by cases st <;> rfl)⟩
    | cons c y ih =>
      intro q st hq hy e1 s1 s2 k1 k0
      rw [List.length_cons] at e1
      obtain ⟨h3, h4⟩ := b_cons.mp hy
      have hc : p_dol st (c :: y) = ((st && decide (c = 36)) || p_dol (decide (c = 46)) y) := by cases st <;> rfl
      rw [hc] at k1 k0
      have hgo : (st && decide (c = 36)) = false → g_Run (d + 1) 274 2 [(0, .ref m), (1, g_n p), (2, g_n (p + x.length)), (3, g_n (q + 1))] [] M (g_qI Q) := by
        intro z
        rw [z, Bool.false_or] at k1 k0
        refine ih (q + 1) (decide (c = 46)) (by omega) h4 (by omega) (fun g => absurd g (by omega)) (fun _ => ?_) k1 k0
        rw [show q + 1 - 1 = q by omega, h3]
      refine s_X12_hasDollar_2 ⟨by omega, by omega⟩ ⟨by omega, by omega⟩ ⟨by omega, by omega⟩ fun hok => ⟨fun _ => ⟨hR.1, e_u hR (by omega) (by omega) (fun _ _ _ => ?_) hok⟩, fun g => absurd (by omega) g⟩
      rw [u_at_eq (hok.byte hR.2.2 q) (by decide) (by decide), h3]
      refine ⟨fun g => ⟨fun g2 => ?_, fun g2 => ⟨⟨by omega, by omega⟩, e_u hR (by omega) (by omega) (fun _ _ _ => ?_) hok⟩⟩, fun g => ⟨⟨by omega, by omega⟩, hgo (by rw [decide_eq_false g, Bool.and_false])⟩⟩
      · refine k1 ?_
        rw [s1 g2, decide_eq_true g]
        rfl
      · rw [u_at_eq (hok.byte hR.2.2 (q - 1)) (by decide) (by decide)]
        refine ⟨fun g3 => k1 ?_, fun g3 => ⟨⟨by omega, by omega⟩, hgo ?_⟩⟩
        · rw [s2 g2, decide_eq_true g3, decide_eq_true g]
          rfl
        · rw [s2 g2, decide_eq_false g3, Bool.false_and]
  exact m_X12_hasDollar ⟨by omega, by omega⟩ ⟨by omega, by omega⟩ fun _ => hl x p true (Int.le_refl _) hx rfl (fun _ => rfl) (fun g => absurd rfl g) hq1 hq0
theorem e_plain (hR : e_R M m b) (hx : b_at (g_i M b) p x) (h0 : 0 ≤ p) (h1 : p + x.length < 2706210) (hq1 : p_plain x → Q 1 M) (hq0 : ¬ p_plain x → Q 0 M) : g_Call (d + 4) 275 [.ref m, g_n p, g_n (p + x.length)] M (g_qI Q) :=
  m_X12_isPlainPath ⟨by omega, by omega⟩ ⟨by omega, by omega⟩ fun _ => ⟨hR.1, e_isPath hR hx h0 h1 (fun z _ _ _ => ⟨fun g => absurd g (by decide), fun _ => e_dollar hR hx h0 h1 (fun z2 _ _ _ => ⟨fun g => absurd g (by decide), fun _ => hq0 fun w => by rw [w.2] at z2; exact absurd z2 (by decide)⟩) (fun z2 _ _ _ => ⟨fun _ => hq1 ⟨z, z2⟩, fun g => absurd rfl g⟩)⟩) (fun z _ _ _ => ⟨fun _ => hq0 fun w => z w.1, fun g => absurd rfl g⟩)⟩
end PATHE
