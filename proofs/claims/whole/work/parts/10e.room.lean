/-! runs of bytes, in order -/
def b_cmp : List Int → List Int → Int
  | [], [] => 0
  | [], _ :: _ => -1
  | _ :: _, [] => 1
  | x :: xs, y :: ys => if x % 256 < y % 256 then -1 else if y % 256 < x % 256 then 1 else b_cmp xs ys
theorem b_cmp_R : ∀ x y : List Int, b_cmp x y = -1 ∨ b_cmp x y = 0 ∨ b_cmp x y = 1 := by
  intro x
  induction x with
  | nil => intro y; cases y <;> simp [b_cmp]
  | cons a x ih =>
    intro y
    cases y with
    | nil => simp [b_cmp]
    | cons b y =>
      unfold b_cmp
      split
      · exact Or.inl rfl
      · split
        · exact Or.inr (Or.inr rfl)
        · exact ih y
def b_B (x : List Int) : Prop := ∀ c ∈ x, -128 ≤ c ∧ c ≤ 127
theorem b_cmp0 : ∀ {x y : List Int}, b_B x → b_B y → (b_cmp x y = 0 ↔ x = y) := by
  intro x
  induction x with
  | nil => intro y _ _; cases y <;> simp [b_cmp]
  | cons a x ih =>
    intro y hx hy
    cases y with
    | nil => simp [b_cmp]
    | cons b y =>
      have h1 := hx a List.mem_cons_self
      have h2 := hy b List.mem_cons_self
      have h3 := ih (y := y) (fun c hc => hx c (List.mem_cons_of_mem _ hc)) (fun c hc => hy c (List.mem_cons_of_mem _ hc))
      unfold b_cmp
      split
      · refine ⟨fun q => absurd q (by decide), fun q => ?_⟩
        have := (List.cons.inj q).1
        omega
      · split
        · refine ⟨fun q => absurd q (by decide), fun q => ?_⟩
          have := (List.cons.inj q).1
          omega
        · rw [h3]
          have : a = b := by omega
          subst this
          simp
/-- a value's bytes fit its kind -/
def b_vs (k : Int) (vb : List Int) : Prop := (k = 16 ∧ vb.length = 4) ∨ (k = 18 ∧ vb.length = 8) ∨ (k = 8 ∧ vb.length = 1) ∨ (k = 10 ∧ vb.length = 0) ∨ (k = 2 ∧ ∃ s : List Int, vb = b_le4 s.length ++ s ∧ s.length < 16777216) ∨ ((k = 3 ∨ k = 4) ∧ ∃ s : List Int, vb = b_le4 (s.length + 4) ++ s ∧ s.length < 16777000)
section C7b
variable {d a : Nat} {M : g_M} {Q : Int → g_M → Prop} {n p z : Int} {k : Int} {nm vb : List Int}
theorem c_cmp {a2 : Nat} {p2 n2 : Int} {x y : List Int} (hA : g_A M a 0 n) (hA2 : g_A M a2 0 n2) (hn : n ≤ 1000000000) (hn2 : n2 ≤ 1000000000) (hx : b_at (g_i M a) p x) (hy : b_at (g_i M a2) p2 y) (h0 : 0 ≤ p) (h1 : p + x.length ≤ n) (h2 : 0 ≤ p2) (h3 : p2 + y.length ≤ n2) (h : Q (b_cmp x y) M) : g_Call (d + 2) 123 [.ref a, g_n p, g_n (p + x.length), .ref a2, g_n p2, g_n (p2 + y.length)] M (g_qI Q) := by
  have hl : ∀ (xs ys : List Int) (i : Nat), xs.length + i = x.length → ys.length + i = y.length → b_at (g_i M a) (p + i) xs → b_at (g_i M a2) (p2 + i) ys → Q (b_cmp xs ys) M → g_Run (d + 1) 123 40 [(0, .ref a), (1, g_n p), (2, g_n (p + x.length)), (3, .ref a2), (4, g_n p2), (5, g_n (p2 + y.length)), (6, g_n (min (p + x.length - p) (p2 + y.length - p2))), (7, g_n i)] [] M (g_qI Q) := by
    have hend : ∀ (i : Nat), (i = x.length ∨ i = y.length) → i ≤ x.length → i ≤ y.length → (Q (if (x.length : Int) < y.length then -1 else if (y.length : Int) < x.length then 1 else 0) M) → g_Run (d + 1) 123 40 [(0, .ref a), (1, g_n p), (2, g_n (p + x.length)), (3, .ref a2), (4, g_n p2), (5, g_n (p2 + y.length)), (6, g_n (min (p + x.length - p) (p2 + y.length - p2))), (7, g_n i)] [] M (g_qI Q) := by
      intro i hi hix hiy hq
      refine s_X7_compareRuns_40 ⟨by omega, by omega⟩ ⟨by omega, by omega⟩ ⟨by omega, by omega⟩ ⟨by omega, by omega⟩ ⟨by omega, by omega⟩ ⟨by omega, by omega⟩ fun hok => ⟨fun q => absurd q (by omega), fun _ => ⟨⟨by omega, by omega⟩, ⟨by omega, by omega⟩, m_J6_compare ⟨by omega, by omega⟩ ⟨by omega, by omega⟩ fun _ => ⟨fun q => fun _ _ _ => ?_, fun q => ⟨fun q2 => fun _ _ _ => ?_, fun q2 => fun _ _ _ => ?_⟩⟩⟩⟩
      · rwa [if_pos (by omega)] at hq
      · rwa [if_neg (by omega), if_neg (by omega)] at hq
      · rwa [if_neg (by omega), if_pos (by omega)] at hq
    intro xs
    induction xs with
    | nil =>
      intro ys i e1 e2 b1 b2 hq
      rw [List.length_nil] at e1
      refine hend i (Or.inl (by omega)) (by omega) (by omega) ?_
      cases ys with
      | nil =>
        rw [List.length_nil] at e2
        rw [if_neg (by omega), if_neg (by omega)]
        exact hq
      | cons w ys =>
        rw [List.length_cons] at e2
        rw [if_pos (by omega)]
        exact hq
    | cons v xs ih =>
      intro ys i e1 e2 b1 b2 hq
      rw [List.length_cons] at e1
      cases ys with
      | nil =>
        rw [List.length_nil] at e2
        refine hend i (Or.inr (by omega)) (by omega) (by omega) ?_
        rw [if_neg (by omega), if_pos (by omega)]
        exact hq
      | cons w ys =>
        rw [List.length_cons] at e2
        obtain ⟨c1, c2⟩ := b_cons.mp b1
        obtain ⟨c3, c4⟩ := b_cons.mp b2
        refine s_X7_compareRuns_40 ⟨by omega, by omega⟩ ⟨by omega, by omega⟩ ⟨by omega, by omega⟩ ⟨by omega, by omega⟩ ⟨by omega, by omega⟩ ⟨by omega, by omega⟩ fun hok => ⟨fun _ => ⟨⟨by omega, by omega⟩, n, hA, ⟨by omega, by omega⟩, ⟨by omega, by omega⟩, n2, hA2, ⟨by omega, by omega⟩, ?_⟩, fun q => absurd ?_ q⟩
        · have k1 := hok.byte hA (p + i)
          have k2 := hok.byte hA2 (p2 + i)
          rw [c1] at k1 ⊢
          rw [c3] at k2 ⊢
          rw [g_and255 k1.1 k1.2, g_and255 k2.1 k2.2]
          unfold b_cmp at hq
          refine ⟨fun q => ⟨⟨by omega, by omega⟩, ?_⟩, fun q => ⟨fun q2 => ?_, fun q2 => ?_⟩⟩
          · rw [if_neg (by omega), if_neg (by omega)] at hq
            have h8 := ih ys (i + 1) (by omega) (by omega) (by rwa [show p + ((i + 1 : Nat) : Int) = p + i + 1 by omega]) (by rwa [show p2 + ((i + 1 : Nat) : Int) = p2 + i + 1 by omega]) hq
            rwa [show ((i + 1 : Nat) : Int) = (i : Int) + 1 by omega] at h8
          · rwa [if_pos q2] at hq
          · rwa [if_neg q2, if_pos (by omega)] at hq
        · omega
  refine m_X7_compareRuns ⟨by omega, by omega⟩ ⟨by omega, by omega⟩ ⟨by omega, by omega⟩ ⟨by omega, by omega⟩ fun hok => ⟨fun q => absurd q (by omega), fun _ => ⟨n, hA, ⟨by omega, by omega⟩, fun q => absurd q (by omega), fun _ => ⟨fun q => absurd q (by omega), fun _ => ⟨n2, hA2, ⟨by omega, by omega⟩, fun q => absurd q (by omega), fun _ => ⟨⟨by omega, by omega⟩, ⟨by omega, by omega⟩, ?_⟩⟩⟩⟩⟩
  exact hl x y 0 (by omega) (by omega) (by rwa [show p + ((0 : Nat) : Int) = p by omega]) (by rwa [show p2 + ((0 : Nat) : Int) = p2 by omega]) h
theorem c_isNum (hA : g_A M a 0 n) (hn : g_InR n) (hp : g_InR p) (h : Q (if b_kd (g_i M a) n p = 16 ∨ b_kd (g_i M a) n p = 18 then 1 else 0) M) : g_Call (d + 2) 117 [.ref a, g_n p] M (g_qI Q) := by
  refine m_X7_isNumber hp fun hok => c_kind hA hn hp fun _ _ _ => ⟨fun q => ?_, fun q => ⟨fun q2 => ?_, fun q2 => ?_⟩⟩
  · rwa [if_pos (Or.inl q)] at h
  · rwa [if_pos (Or.inr q2)] at h
  · rwa [if_neg (fun g => g.elim q q2)] at h
/-- a value's class by its kind -/
def b_cl (k : Int) : Int := if k = 10 then 1 else if k = 16 ∨ k = 18 then 2 else if k = 2 then 3 else if k = 3 then 4 else if k = 4 then 5 else 6
theorem c_classOf (hA : g_A M a 0 n) (hn : g_InR n) (hp : g_InR p) (h : Q (if p < 0 then 0 else if p < n then b_cl (g_i M a p) else 0) M) : g_Call (d + 1) 120 [.ref a, g_n p] M (g_qI Q) := by
  refine m_X7_classOf hp fun hok => ⟨fun h1 => ?_, fun h1 => ⟨n, hA, hn, fun h2 => ⟨⟨by omega, h2⟩, ?_⟩, fun h2 => ?_⟩⟩
  · rwa [if_pos h1] at h
  · rw [if_neg h1, if_pos h2] at h
    unfold b_cl at h
    generalize g_i M a p = kd at h
    refine ⟨fun q => ?_, fun _ => ⟨fun q => ?_, fun _ => ⟨fun q => ?_, fun _ => ⟨fun q => ?_, fun _ => ⟨fun q => ?_, fun _ => ⟨fun q => ?_, fun _ => ⟨fun q => ?_, fun _ => ⟨fun q => ?_, fun _ => ⟨fun q => ?_, fun _ => ⟨fun q => ?_, fun _ => ⟨fun q => ?_, fun _ => ⟨fun q => ?_, fun _ => ⟨fun q => ?_, fun _ => ⟨fun q => ?_, fun _ => ⟨fun q => ?_, fun _ => ⟨fun q => ?_, fun _ => ⟨fun q => ?_, fun _ => ?_⟩⟩⟩⟩⟩⟩⟩⟩⟩⟩⟩⟩⟩⟩⟩⟩⟩
    all_goals first
      | (subst q; simpa using h)
      | (rw [if_neg (by omega), if_neg (by omega), if_neg (by omega), if_neg (by omega), if_neg (by omega)] at h; exact h)
  · rwa [if_neg h1, if_neg h2] at h
theorem c_dollar (hA : g_A M a 0 n) (hn : g_InR n) (h0 : 0 ≤ p) (h1 : p + 1 < n) (h : Q (if g_i M a (p + 1) = 36 then 1 else 0) M) : g_Call (d + 1) 116 [.ref a, g_n p] M (g_qI Q) := by
  have hn2 := hn.2
  refine m_X7_beginsWithDollar ⟨by omega, by omega⟩ fun hok => ⟨fun q => absurd q (by omega), fun _ => ⟨⟨by omega, by omega⟩, n, hA, hn, fun _ => ⟨⟨by omega, by omega⟩, ⟨by omega, by omega⟩, fun q => ?_, fun q => ?_⟩, fun q => absurd h1 q⟩⟩
  · rwa [if_pos q] at h
  · rwa [if_neg q] at h
/-- the element behind this one -/
theorem c_next (hA : g_A M a 0 n) (hn : n ≤ 1000000000) (hat : b_at (g_i M a) p (b_el k nm vb)) (hz : b_nz nm) (hv : b_vs k vb) (h0 : 0 ≤ p) (h1 : p + (b_el k nm vb).length ≤ n) (h : Q (p + (b_el k nm vb).length) M) : g_Call (d + 1) 111 [.ref a, g_n p] M (g_qI Q) := by
  obtain ⟨e0, e1, e2, e3⟩ := b_el_at hat
  rw [b_el_len] at h h1
  have hnm := b_el_nm hat hz h0 (n := n) (by omega)
  obtain ⟨-, z1, z2, z3, z4⟩ := hnm
  have hk : 1 ≤ k := by
    rcases hv with ⟨hk, -⟩ | ⟨hk, -⟩ | ⟨hk, -⟩ | ⟨hk, -⟩ | ⟨hk, -⟩ | ⟨hk | hk, -⟩ <;> omega
  have hend : g_Run d 111 38 [(0, .ref a), (1, g_n p), (2, g_n (p + 1 + nm.length))] [] M (g_qI Q) := by
    refine s_X7_next_38 ⟨by omega, by omega⟩ ⟨by omega, by omega⟩ fun hok => ⟨⟨by omega, by omega⟩, n, hA, ⟨by omega, by omega⟩, ?_⟩
    rw [e0]
    rcases hv with ⟨rfl, hl⟩ | ⟨rfl, hl⟩ | ⟨rfl, hl⟩ | ⟨rfl, hl⟩ | ⟨rfl, s, rfl, hl⟩ | ⟨hk2, s, rfl, hl⟩
    · simp only [Int.reduceEq, false_implies, not_false_eq_true, true_implies, true_and, not_true_eq_false, and_true]
      refine ⟨⟨by omega, by omega⟩, ?_⟩
      rwa [show p + 1 + (nm.length : Int) + 1 + 4 = p + ((nm.length + vb.length + 2 : Nat) : Int) by omega]
    · simp only [Int.reduceEq, false_implies, not_false_eq_true, true_implies, true_and, not_true_eq_false, and_true]
      refine ⟨⟨by omega, by omega⟩, ?_⟩
      rwa [show p + 1 + (nm.length : Int) + 1 + 8 = p + ((nm.length + vb.length + 2 : Nat) : Int) by omega]
    · simp only [Int.reduceEq, false_implies, not_false_eq_true, true_implies, true_and, not_true_eq_false, and_true]
      refine ⟨⟨by omega, by omega⟩, ?_⟩
      rwa [show p + 1 + (nm.length : Int) + 1 + 1 = p + ((nm.length + vb.length + 2 : Nat) : Int) by omega]
    · simp only [Int.reduceEq, false_implies, not_false_eq_true, true_implies, true_and, not_true_eq_false, and_true]
      rwa [show p + 1 + (nm.length : Int) + 1 = p + ((nm.length + vb.length + 2 : Nat) : Int) by omega]
    · simp only [Int.reduceEq, false_implies, not_false_eq_true, true_implies, true_and, not_true_eq_false, and_true]
      rw [List.length_append, show (b_le4 (s.length : Int)).length = 4 from rfl] at h h1
      have hw := b_w4_le4 (p := p + 2 + nm.length) (by omega) (by omega) (b_app.mp e3).1
      unfold b_w4 at hw
      rw [show p + 2 + (nm.length : Int) = p + 1 + nm.length + 1 by omega] at hw
      rw [hw]
      refine ⟨⟨by omega, by omega⟩, ⟨by omega, by omega⟩, fun q => absurd q (by omega), fun _ => ⟨⟨by omega, by omega⟩, ⟨by omega, by omega⟩, ⟨by omega, by omega⟩, ⟨by omega, by omega⟩, ⟨by omega, by omega⟩, ⟨by omega, by omega⟩, ⟨by omega, by omega⟩, ⟨by omega, by omega⟩, ⟨by omega, by omega⟩, ⟨by omega, by omega⟩, ?_⟩⟩
      rwa [show p + 1 + (nm.length : Int) + 1 + 4 + (s.length : Int) = p + ((nm.length + (4 + s.length) + 2 : Nat) : Int) by omega]
    · rw [List.length_append, show (b_le4 ((s.length : Int) + 4)).length = 4 from rfl] at h h1
      have hw := b_w4_le4 (p := p + 2 + nm.length) (by omega) (by omega) (b_app.mp e3).1
      unfold b_w4 at hw
      rw [show p + 2 + (nm.length : Int) = p + 1 + nm.length + 1 by omega] at hw
      rw [hw]
      rcases hk2 with rfl | rfl
      · simp only [Int.reduceEq, false_implies, not_false_eq_true, true_implies, true_and, not_true_eq_false, and_true]
        refine ⟨⟨by omega, by omega⟩, ⟨by omega, by omega⟩, fun q => absurd q (by omega), fun _ => ⟨⟨by omega, by omega⟩, ⟨by omega, by omega⟩, ⟨by omega, by omega⟩, ⟨by omega, by omega⟩, ⟨by omega, by omega⟩, ⟨by omega, by omega⟩, ⟨by omega, by omega⟩, ⟨by omega, by omega⟩, ⟨by omega, by omega⟩, ?_⟩⟩
        rwa [show p + 1 + (nm.length : Int) + 1 + ((s.length : Int) + 4) = p + ((nm.length + (4 + s.length) + 2 : Nat) : Int) by omega]
      · simp only [Int.reduceEq, false_implies, not_false_eq_true, true_implies, true_and, not_true_eq_false, and_true]
        refine ⟨⟨by omega, by omega⟩, ⟨by omega, by omega⟩, fun q => absurd q (by omega), fun _ => ⟨⟨by omega, by omega⟩, ⟨by omega, by omega⟩, ⟨by omega, by omega⟩, ⟨by omega, by omega⟩, ⟨by omega, by omega⟩, ⟨by omega, by omega⟩, ⟨by omega, by omega⟩, ⟨by omega, by omega⟩, ⟨by omega, by omega⟩, ?_⟩⟩
        rwa [show p + 1 + (nm.length : Int) + 1 + ((s.length : Int) + 4) = p + ((nm.length + (4 + s.length) + 2 : Nat) : Int) by omega]
  have hl : ∀ (i : Nat) (v : Int), p + 1 ≤ v → v + i = p + 1 + nm.length → g_Run d 111 17 [(0, .ref a), (1, g_n p), (2, g_n v)] [] M (g_qI Q) := by
    intro i
    induction i with
    | zero =>
      intro v hv1 hv2
      have hv3 : v = p + 1 + nm.length := by omega
      subst hv3
      exact s_X7_next_17 ⟨by omega, by omega⟩ ⟨by omega, by omega⟩ fun hok => ⟨n, hA, ⟨by omega, by omega⟩, fun _ => ⟨⟨by omega, by omega⟩, fun _ => hend, fun q => absurd e2 q⟩, fun q => absurd (by omega) q⟩
    | succ i ih =>
      intro v hv1 hv2
      exact s_X7_next_17 ⟨by omega, by omega⟩ ⟨by omega, by omega⟩ fun hok => ⟨n, hA, ⟨by omega, by omega⟩, fun _ => ⟨⟨by omega, by omega⟩, fun q => absurd q (z4 v (by omega) (by omega)), fun _ => ⟨⟨by omega, by omega⟩, ih (v + 1) (by omega) (by omega)⟩⟩, fun q => absurd (by omega) q⟩
  exact m_X7_next ⟨by omega, by omega⟩ fun hok => ⟨fun q => absurd q (by omega), fun _ => ⟨n, hA, ⟨by omega, by omega⟩, fun _ => ⟨⟨by omega, by omega⟩, hl nm.length (p + 1) (by omega) (by omega)⟩, fun q => absurd (by omega) q⟩⟩
end C7b
