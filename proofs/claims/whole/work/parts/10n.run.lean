/-! runs of characters, ends of names, digits: both -/
def e_f (M : g_M) (m : Nat) (w p : Int) : g_M := g_wi (g_wi M m 7 w) m 8 p
theorem u_bad_R (B : Int → Int) (to : Int) : ∀ (f : Nat) (p : Int), u_bad B to f p = -1 ∨ (p ≤ u_bad B to f p ∧ u_bad B to f p < to) := by
  intro f
  induction f with
  | zero => exact fun p => Or.inl rfl
  | succ f ih =>
    intro p
    unfold u_bad
    by_cases g1 : p < to
    · rw [if_pos g1]
      by_cases g2 : u_ch B p to = 0
      · rw [if_pos g2]
        exact Or.inr ⟨Int.le_refl _, g1⟩
      · rw [if_neg g2]
        have := u_ch_R B p to
        rcases ih (p + u_ch B p to) with g | g
        · exact Or.inl g
        · exact Or.inr (by omega)
    · rw [if_neg g1]
      exact Or.inl rfl
section RUNS
variable {d : Nat} {M : g_M} {Q : Int → g_M → Prop} {p to : Int} {m b a : Nat} {n : Int}
theorem c_bad (hA : g_A M a 0 n) (hn : n ≤ 1000000000) (h0 : 0 ≤ p) (h1 : p ≤ to) (h2 : to ≤ n) (h3 : to - p < 100000) (h : Q (u_bad (g_i M a) to (to - p).toNat p) M) : g_Call (d + 2) 126 [.ref a, g_n p, g_n to] M (g_qI Q) := by
  have hn0 := hA.len
  have hl : ∀ (f : Nat) (q i : Int), p ≤ q → q ≤ to → to - q ≤ f → 0 ≤ i → i + f < 100000 → Q (u_bad (g_i M a) to f q) M → g_Run (d + 1) 126 5 [(0, .ref a), (1, g_n p), (2, g_n to), (3, g_n q), (4, g_n i)] [] M (g_qI Q) := by
    intro f
    induction f with
    | zero =>
      intro q i hq0 hq hf hi0 hi hq1
      exact s_X7_badCharacter_5 ⟨by omega, by omega⟩ ⟨by omega, by omega⟩ ⟨by omega, by omega⟩ ⟨by omega, by omega⟩ fun _ => ⟨fun _ => ⟨fun g => absurd g (by omega), fun _ => hq1⟩, fun g => absurd (by omega) g⟩
    | succ f ih =>
      intro q i hq0 hq hf hi0 hi hq1
      unfold u_bad at hq1
      have hr := u_ch_R (g_i M a) q to
      refine s_X7_badCharacter_5 ⟨by omega, by omega⟩ ⟨by omega, by omega⟩ ⟨by omega, by omega⟩ ⟨by omega, by omega⟩ fun _ => ⟨fun _ => ⟨fun g => c_chLen hA hn (by omega) g h2 fun _ _ _ => ⟨fun e => ?_, fun e => ⟨⟨by omega, by omega⟩, ⟨by omega, by omega⟩, ?_⟩⟩, fun g => ?_⟩, fun g => absurd (by omega) g⟩
      · rwa [if_pos g, if_pos e] at hq1
      · have ht := u_ch_to e
        rw [if_pos g, if_neg e] at hq1
        exact ih _ (i + 1) (by omega) ht (by omega) (by omega) (by omega) hq1
      · rwa [if_neg g] at hq1
  exact m_X7_badCharacter ⟨by omega, by omega⟩ ⟨by omega, by omega⟩ fun _ => hl _ p 0 (Int.le_refl _) h1 (by omega) (Int.le_refl _) (by omega) h
theorem e_fails {w q : Int} (hR : e_R M m b) (hw : g_InR w) (hq : g_InR q) (h : Q 0 (e_f M m w q)) : g_Call (d + 1) 257 [.ref m, g_n w, g_n q] M (g_qI Q) :=
  m_X12_fails hw hq fun _ => ⟨hR.1, fun _ e _ _ e2 _ => by
    subst e
    subst e2
    exact h⟩
theorem e_right (hR : e_R M m b) (h0 : 0 ≤ p) (h1 : p ≤ to) (h2 : to ≤ 2706210) (h : u_bad (g_i M b) to (to - p).toNat p = -1 → Q 1 M) (h' : ¬ u_bad (g_i M b) to (to - p).toNat p = -1 → Q 0 (e_f M m 4 (u_bad (g_i M b) to (to - p).toNat p))) : g_Call (d + 3) 259 [.ref m, g_n p, g_n to] M (g_qI Q) := by
  have hl : ∀ (f : Nat) (q : Int), p ≤ q → q ≤ to → to - q ≤ f → (u_bad (g_i M b) to f q = -1 → Q 1 M) → (¬ u_bad (g_i M b) to f q = -1 → Q 0 (e_f M m 4 (u_bad (g_i M b) to f q))) → g_Run (d + 2) 259 2 [(0, .ref m), (1, g_n p), (2, g_n to), (3, g_n q)] [] M (g_qI Q) := by
    intro f
    induction f with
    | zero =>
      intro q hq0 hq hf hq1 hq2
      exact s_X12_isRight_2 ⟨by omega, by omega⟩ ⟨by omega, by omega⟩ ⟨by omega, by omega⟩ fun _ => ⟨fun g => absurd g (by omega), fun _ => hq1 rfl⟩
    | succ f ih =>
      intro q hq0 hq hf hq1 hq2
      unfold u_bad at hq1 hq2
      have hr := u_ch_R (g_i M b) q to
      refine s_X12_isRight_2 ⟨by omega, by omega⟩ ⟨by omega, by omega⟩ ⟨by omega, by omega⟩ fun _ => ⟨fun g => ⟨hR.1, e_ch hR (by omega) g h2 fun _ _ _ => ⟨fun e => ?_, fun e => ⟨⟨by omega, by omega⟩, ?_⟩⟩⟩, fun g => ?_⟩
      · rw [if_pos g, if_pos e] at hq2
        exact e_fails hR ⟨by decide, by decide⟩ ⟨by omega, by omega⟩ fun _ _ _ => ⟨Or.inl rfl, hq2 (by omega)⟩
      · have ht := u_ch_to e
        rw [if_pos g, if_neg e] at hq1 hq2
        exact ih _ (by omega) ht (by omega) hq1 hq2
      · rw [if_neg g] at hq1
        exact hq1 rfl
  exact m_X12_isRight ⟨by omega, by omega⟩ ⟨by omega, by omega⟩ fun _ => hl _ p (Int.le_refl _) h1 (by omega) h h'
end RUNS
/-- the first 0 from a place on, ahead of an end -/
def u_z (B : Int → Int) : Nat → Int → Int
  | 0, p => p
  | f + 1, p => if B p = 0 then p else u_z B f (p + 1)
theorem u_z_R (B : Int → Int) : ∀ (f : Nat) (p : Int), p ≤ u_z B f p ∧ u_z B f p ≤ p + f ∧ (∀ q, p ≤ q → q < u_z B f p → B q ≠ 0) ∧ (u_z B f p < p + f → B (u_z B f p) = 0) := by
  intro f
  induction f with
  | zero =>
    intro p
    unfold u_z
    exact ⟨Int.le_refl _, by omega, fun q h1 h2 => absurd h1 (by omega), fun h => absurd h (by omega)⟩
  | succ f ih =>
    intro p
    unfold u_z
    by_cases g : B p = 0
    · rw [if_pos g]
      exact ⟨Int.le_refl _, by omega, fun q h1 h2 => absurd h1 (by omega), fun _ => g⟩
    · rw [if_neg g]
      obtain ⟨i1, i2, i3, i4⟩ := ih (p + 1)
      refine ⟨by omega, by omega, fun q h1 h2 => ?_, fun h => i4 (by omega)⟩
      by_cases e : q = p
      · rwa [e]
      · exact i3 q (by omega) h2
section ENDS
variable {d : Nat} {M : g_M} {Q : Int → g_M → Prop} {p last : Int} {m b a : Nat} {n : Int}
/-- where a name ends, as the class asks for it -/
theorem c_end (hA : g_A M a 0 n) (hn : n ≤ 1000000000) (h0 : 0 ≤ p) (h1 : p < last) (h2 : last < n) (h : u_z (g_i M a) (last - p - 1).toNat (p + 1) < last → Q (u_z (g_i M a) (last - p - 1).toNat (p + 1) + 1) M) (h' : ¬ u_z (g_i M a) (last - p - 1).toNat (p + 1) < last → ∀ r, last < r → r ≤ n → Q r M) : g_Call (d + 1) 110 [.ref a, g_n p] M (g_qI Q) := by
  obtain ⟨z1, z2, z3, z4⟩ := u_z_R (g_i M a) (last - p - 1).toNat (p + 1)
  by_cases g : u_z (g_i M a) (last - p - 1).toNat (p + 1) < last
  · exact c_va hA ⟨by omega, by omega⟩ ⟨h0, by omega, by omega, z4 (by omega), fun q q1 q2 => z3 q (by omega) q2⟩ (h g)
  · have h' := h' g
    have hl : ∀ (k : Nat) (v : Int), p ≤ v → v ≤ n - 1 → n - 1 - v ≤ k → g_Run d 110 11 [(0, .ref a), (1, g_n p), (2, g_n v)] [] M (g_qI Q) := by
      intro k
      induction k with
      | zero =>
        intro v hv hv2 e
        exact s_X7_valueAt_11 ⟨by omega, by omega⟩ ⟨by omega, by omega⟩ fun _ => ⟨n, hA, ⟨by omega, by omega⟩, ⟨by omega, by omega⟩, fun g => absurd g (by omega), fun _ => ⟨⟨by omega, by omega⟩, h' n h2 (Int.le_refl _)⟩⟩
      | succ k ih =>
        intro v hv hv2 e
        refine s_X7_valueAt_11 ⟨by omega, by omega⟩ ⟨by omega, by omega⟩ fun _ => ⟨n, hA, ⟨by omega, by omega⟩, ⟨by omega, by omega⟩, fun g3 => ⟨⟨by omega, by omega⟩, ⟨by omega, by omega⟩, fun g2 => ⟨⟨by omega, by omega⟩, h' _ ?_ (by omega)⟩, fun _ => ⟨⟨by omega, by omega⟩, ih _ (by omega) (by omega) (by omega)⟩⟩, fun _ => ⟨⟨by omega, by omega⟩, h' n h2 (Int.le_refl _)⟩⟩
        by_cases g4 : v + 1 < last
        · exact absurd g2 (z3 _ (by omega) (by omega))
        · omega
    exact m_X7_valueAt ⟨by omega, by omega⟩ fun _ => ⟨fun q => absurd q (by omega), fun _ => hl (n - 1 - p).toNat p (Int.le_refl _) (by omega) (by omega)⟩
end ENDS
/-! digits -/
theorem b_dg1 {n : Nat} (h : n < 10) : b_dg n = [48 + (n : Int)] := by
  unfold b_dg
  rw [if_pos h]
  unfold u_digs u_digs
  rw [show n / 1 % 10 = n by omega]
theorem b_dg_rec {n : Nat} (h : 10 ≤ n) (h2 : n < 10000) : b_dg n = b_dg (n / 10) ++ [48 + ((n % 10 : Nat) : Int)] := by
  unfold b_dg
  rw [if_neg (show ¬ n < 10 by omega)]
  by_cases g1 : n < 100
  · rw [if_pos g1, if_pos (show n / 10 < 10 by omega)]
    unfold u_digs u_digs u_digs
    simp only [List.cons_append, List.nil_append, List.cons.injEq, and_true]
    omega
  · by_cases g2 : n < 1000
    · rw [if_neg g1, if_pos g2, if_neg (show ¬ n / 10 < 10 by omega), if_pos (show n / 10 < 100 by omega)]
      unfold u_digs u_digs u_digs u_digs
      simp only [List.cons_append, List.nil_append, List.cons.injEq, and_true]
      omega
    · rw [if_neg g1, if_neg g2, if_neg (show ¬ n / 10 < 10 by omega), if_neg (show ¬ n / 10 < 100 by omega), if_pos (show n / 10 < 1000 by omega)]
      unfold u_digs u_digs u_digs u_digs u_digs
      simp only [List.cons_append, List.nil_append, List.cons.injEq, and_true]
      omega
theorem b_dg_ne (n : Nat) : b_dg n ≠ [] := by
  unfold b_dg
  repeat' split
  all_goals exact List.cons_ne_nil _ _
section DIG
variable {d : Nat} {M : g_M} {Q : Int → g_M → Prop} {p : Int} {m b a : Nat} {n : Int}
theorem c_isDec {x : List Int} {k : Nat} (hA : g_A M a 0 n) (hn : n ≤ 1000000000) (hx : b_at (g_i M a) p x) (h0 : 0 ≤ p) (h1 : p + x.length ≤ n) (hk : k < 10000) (h : Q (if x = b_dg k then 1 else 0) M) : g_Call (d + 1) 125 [.ref a, g_n p, g_n (p + x.length), g_n k] M (g_qI Q) := by
  have hn0 := hA.len
  have hl : ∀ (f k2 : Nat) (y : List Int), k2 < f → k2 < 10000 → b_at (g_i M a) p y → y.length ≤ x.length → (y = b_dg k2 → Q 1 M) → (¬ y = b_dg k2 → Q 0 M) → g_Run d 125 8 [(0, .ref a), (1, g_n p), (2, g_n (p + x.length)), (3, g_n k), (4, g_n k2), (5, g_n (p + y.length - 1))] [] M (g_qI Q) := by
    intro f
    induction f with
    | zero => exact fun k2 y hf => absurd hf (by omega)
    | succ f ih =>
      intro k2 y hf hk2 hy hyx q1 q0
      have t1 : (k2 : Int).tdiv 10 = ((k2 / 10 : Nat) : Int) := by
        rw [Int.tdiv_eq_ediv_of_nonneg (by omega)]
        omega
      have t2 : (k2 : Int).tmod 10 = ((k2 % 10 : Nat) : Int) := by
        rw [Int.tmod_eq_emod_of_nonneg (by omega)]
        omega
      rcases List.eq_nil_or_concat y with rfl | ⟨z, c, rfl⟩
      · have l0 : ((([] : List Int).length : Nat) : Int) = 0 := rfl
        rw [l0]
        exact s_X7_isDecimal_8 ⟨by omega, by omega⟩ ⟨by omega, by omega⟩ ⟨by omega, by omega⟩ ⟨by omega, by omega⟩ ⟨by omega, by omega⟩ fun _ => ⟨fun _ => q0 fun e => b_dg_ne k2 e.symm, fun g => absurd (by omega) g⟩
      · rw [List.concat_eq_append] at hy hyx q1 q0 ⊢
        have l1 : ((z ++ [c]).length : Int) = z.length + 1 := by
          rw [List.length_append, List.length_singleton]
          rfl
        rw [List.length_append, List.length_singleton] at hyx
        obtain ⟨hz, hc⟩ := b_app.mp hy
        have hc := (b_cons.mp hc).1
        rw [l1, show p + ((z.length : Int) + 1) - 1 = p + z.length by omega]
        refine s_X7_isDecimal_8 ⟨by omega, by omega⟩ ⟨by omega, by omega⟩ ⟨by omega, by omega⟩ ⟨by omega, by omega⟩ ⟨by omega, by omega⟩ fun _ => ⟨fun g => absurd g (by omega), fun _ => ⟨fun g => absurd g (by omega), fun _ => ⟨n, hA, ⟨by omega, by omega⟩, fun _ => ⟨⟨by omega, by omega⟩, ?_⟩, fun g => absurd (by omega) g⟩⟩⟩
        rw [hc, t1, t2]
        refine ⟨⟨by omega, by omega⟩, fun e => ⟨fun g => ⟨fun g2 => q1 ?_, fun g2 => q0 ?_⟩, fun g => ⟨⟨by omega, by omega⟩, ?_⟩⟩, fun e => q0 ?_⟩
        · have : z = [] := List.eq_nil_of_length_eq_zero (by omega)
          subst this
          rw [b_dg1 (by omega), e, show k2 % 10 = k2 by omega]
          rfl
        · rw [b_dg1 (by omega)]
          intro e2
          have e3 := congrArg List.length e2
          rw [List.length_append, List.length_singleton, List.length_singleton] at e3
          omega
        · rw [b_dg_rec (by omega) hk2, ← e] at q1 q0
          exact ih (k2 / 10) z (by omega) (by omega) hz (by omega) (fun e2 => q1 (by rw [e2])) (fun e2 => q0 fun e3 => e2 (List.append_cancel_right e3))
        · by_cases g : k2 < 10
          · rw [b_dg1 g]
            intro e2
            rcases z with _ | ⟨v, z⟩
            · simp only [List.nil_append, List.cons.injEq, and_true] at e2
              omega
            · have e3 := congrArg List.length e2
              simp only [List.cons_append, List.length_cons, List.length_append, List.length_nil] at e3
              omega
          · rw [b_dg_rec (by omega) hk2]
            intro e2
            have e3 := List.append_inj_right' e2 rfl
            simp only [List.cons.injEq, and_true] at e3
            omega
  refine m_X7_isDecimal ⟨by omega, by omega⟩ ⟨by omega, by omega⟩ ⟨by omega, by omega⟩ fun _ => ⟨⟨by omega, by omega⟩, hl (k + 1) k x (by omega) hk hx (Nat.le_refl _) (fun e => ?_) (fun e => ?_)⟩
  · rwa [if_pos e] at h
  · rwa [if_neg e] at h
theorem e_isDig {x : List Int} {k : Nat} (hR : e_R M m b) (hx : b_at (g_i M b) p x) (h0 : 0 ≤ p) (h1 : p + x.length ≤ 2706210) (hk : k < 10000) (h : Q (if x = b_dg k then 1 else 0) M) : g_Call (d + 2) 264 [.ref m, g_n p, g_n (p + x.length), g_n k] M (g_qI Q) := by
  have hdiv : ∀ ten : Nat, (k : Int).tdiv ten = ((k / ten : Nat) : Int) := fun ten => by
    rw [Int.tdiv_eq_ediv_of_nonneg (by omega)]
    rfl
  have hl : ∀ (l ten : Nat) (y : List Int) (i : Int) (w : Int), g_InR w → y.length = l → l ≤ 4 → (l = 1 → ten = 1) → (l = 2 → ten = 10) → (l = 3 → ten = 100) → (l = 4 → ten = 1000) → ten ≤ 1000 → p ≤ i → i + y.length = p + x.length → b_at (g_i M b) i y → (y = u_digs k l ten → Q 1 M) → (¬ y = u_digs k l ten → Q 0 M) → g_Run (d + 1) 264 41 [(0, .ref m), (1, g_n p), (2, g_n (p + x.length)), (3, g_n k), (4, g_n ten), (5, g_n w), (6, g_n i)] [] M (g_qI Q) := by
    intro l
    induction l with
    | zero =>
      intro ten y i w hw hy _ _ _ _ _ ht hi hiy hat q1 q0
      have : y = [] := List.eq_nil_of_length_eq_zero hy
      subst this
      rw [List.length_nil] at hiy
      exact s_X12_isDigits_41 ⟨by omega, by omega⟩ ⟨by omega, by omega⟩ ⟨by omega, by omega⟩ ⟨by omega, by omega⟩ hw ⟨by omega, by omega⟩ fun _ => ⟨fun g => absurd g (by omega), fun _ => q1 rfl⟩
    | succ l ih =>
      intro ten y i w hw hy hl4 l1 l2 l3 l4 ht hi hiy hat q1 q0
      have ht0 : 0 < ten := by omega
      rcases y with _ | ⟨c, y⟩
      · exact absurd hy (by simp)
      rw [List.length_cons] at hy hiy
      obtain ⟨hc, hat⟩ := b_cons.mp hat
      unfold u_digs at q1 q0
      refine s_X12_isDigits_41 ⟨by omega, by omega⟩ ⟨by omega, by omega⟩ ⟨by omega, by omega⟩ ⟨by omega, by omega⟩ hw ⟨by omega, by omega⟩ fun hok => ⟨fun _ => ⟨hR.1, e_at hR (by omega) (by omega) fun _ _ _ => ⟨by omega, ?_⟩⟩, fun g => absurd (by omega) g⟩
      have hb := hok.byte hR.2.2 i
      rw [hc] at hb ⊢
      rw [g_and255 hb.1 hb.2, hdiv]
      generalize k / ten = K at q1 q0 ⊢
      rw [Int.tmod_eq_emod_of_nonneg (by omega)]
      have t1 : (ten : Int).tdiv 10 = ((ten / 10 : Nat) : Int) := by
        rw [Int.tdiv_eq_ediv_of_nonneg (by omega)]
        omega
      rw [t1]
      refine ⟨⟨by omega, by omega⟩, fun e => ⟨⟨by omega, by omega⟩, ih (ten / 10) y (i + 1) w hw (by omega) (by omega) (by omega) (by omega) (by omega) (by omega) (by omega) (by omega) (by omega) hat (fun e2 => q1 ?_) (fun e2 => q0 fun e3 => ?_)⟩, fun e => q0 fun e3 => ?_⟩
      · rw [← e2, show 48 + ((K % 10 : Nat) : Int) = c by omega]
      · rw [List.cons.injEq] at e3
        exact e2 e3.2
      · rw [List.cons.injEq] at e3
        omega
  have h6 : ∀ ten many : Nat, (many = 1 ∧ ten = 1) ∨ (many = 2 ∧ ten = 10) ∨ (many = 3 ∧ ten = 100) ∨ (many = 4 ∧ ten = 1000) → (¬ 9 < k / ten → b_dg k = u_digs k many ten) → (9 < k / ten → g_Run (d + 1) 264 6 [(0, .ref m), (1, g_n p), (2, g_n (p + x.length)), (3, g_n k), (4, g_n ((ten : Int) * 10)), (5, g_n ((many : Int) + 1))] [] M (g_qI Q)) → g_Run (d + 1) 264 6 [(0, .ref m), (1, g_n p), (2, g_n (p + x.length)), (3, g_n k), (4, g_n ten), (5, g_n many)] [] M (g_qI Q) := by
    intro ten many hv hdg hnext
    have hlen : ∀ (l ten : Nat), (u_digs k l ten).length = l := by
      intro l
      induction l with
      | zero => exact fun _ => rfl
      | succ l ih =>
        intro ten
        unfold u_digs
        rw [List.length_cons, ih]
    refine s_X12_isDigits_6 ⟨by omega, by omega⟩ ⟨by omega, by omega⟩ ⟨by omega, by omega⟩ ⟨by omega, by omega⟩ ⟨by omega, by omega⟩ fun _ => ⟨by omega, ?_⟩
    rw [hdiv]
    generalize k / ten = K at hdg hnext ⊢
    refine ⟨fun g => ⟨⟨by omega, by omega⟩, ⟨by omega, by omega⟩, hnext (by omega)⟩, fun g => ⟨⟨by omega, by omega⟩, fun e => ?_, fun e => ?_⟩⟩
    · rw [hdg (by omega)] at h
      refine hl many ten x p many ⟨by omega, by omega⟩ (by omega) (by omega) (by omega) (by omega) (by omega) (by omega) (by omega) (Int.le_refl _) rfl hx (fun e2 => ?_) (fun e2 => ?_)
      · rwa [if_pos e2] at h
      · rwa [if_neg e2] at h
    · rw [hdg (by omega), if_neg] at h
      · exact h
      · intro e2
        have := hlen many ten
        rw [← e2] at this
        omega
  refine m_X12_isDigits ⟨by omega, by omega⟩ ⟨by omega, by omega⟩ ⟨by omega, by omega⟩ fun _ => ?_
  refine h6 1 1 (by omega) (fun g => ?_) fun g1 => h6 10 2 (by omega) (fun g => ?_) fun g2 => h6 100 3 (by omega) (fun g => ?_) fun g3 => h6 1000 4 (by omega) (fun g => ?_) fun g4 => absurd g4 (by omega)
  · unfold b_dg
    rw [if_pos (by omega)]
  · unfold b_dg
    rw [if_neg (by omega), if_pos (by omega)]
  · unfold b_dg
    rw [if_neg (by omega), if_neg (by omega), if_pos (by omega)]
  · unfold b_dg
    rw [if_neg (by omega), if_neg (by omega), if_neg (by omega)]
end DIG
