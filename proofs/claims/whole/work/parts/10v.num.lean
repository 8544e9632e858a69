/-! numbers as steps -/
def u_v : Int → List Int → Int
  | v, [] => v
  | v, c :: x => u_v (10 * v + c - 48) x
theorem u_v_app : ∀ (x : List Int) (v c : Int), u_v v (x ++ [c]) = 10 * u_v v x + c - 48 := by
  intro x
  induction x with
  | nil => exact fun _ _ => rfl
  | cons e x ih =>
    intro v c
    show u_v (10 * v + e - 48) (x ++ [c]) = 10 * u_v (10 * v + e - 48) x + c - 48
    exact ih _ c
def u_dgs (x : List Int) : Prop := ∀ c ∈ x, 48 ≤ c ∧ c ≤ 57
theorem u_v_ge : ∀ (x : List Int) (v : Int), u_dgs x → 0 ≤ v → v ≤ u_v v x := by
  intro x
  induction x with
  | nil => exact fun _ _ _ => Int.le_refl _
  | cons c x ih =>
    intro v h h0
    have hc := h c List.mem_cons_self
    have := ih (10 * v + c - 48) (fun e he => h e (List.mem_cons_of_mem _ he)) (by omega)
    show v ≤ u_v (10 * v + c - 48) x
    omega
theorem u_v_lt : ∀ (x : List Int) (v : Int), u_dgs x → 0 ≤ v → u_v v x < (v + 1) * 10 ^ x.length := by
  intro x
  induction x with
  | nil =>
    intro v _ h0
    show v < (v + 1) * 10 ^ 0
    omega
  | cons c x ih =>
    intro v h h0
    have hc := h c List.mem_cons_self
    have h8 := ih (10 * v + c - 48) (fun e he => h e (List.mem_cons_of_mem _ he)) (by omega)
    show u_v (10 * v + c - 48) x < (v + 1) * 10 ^ (x.length + 1)
    have h9 : (10 * v + c - 48 + 1) * 10 ^ x.length ≤ (10 * (v + 1)) * 10 ^ x.length := Int.mul_le_mul_of_nonneg_right (by omega) (Int.le_of_lt (Int.pow_pos (by decide)))
    have h7 : (v + 1) * 10 ^ (x.length + 1) = (10 * (v + 1)) * 10 ^ x.length := by
      rw [Int.pow_succ]
      rw [Int.mul_comm (10 ^ x.length : Int) 10, ← Int.mul_assoc, Int.mul_comm (v + 1) 10]
    omega
/-- digits that no 0 leads -/
def u_can (x : List Int) : Prop := x ≠ [] ∧ u_dgs x ∧ (x.head? = some 48 → x.length = 1)
theorem u_can_dg : ∀ (l : Nat) (x : List Int), x.length = l → u_can x → u_v 0 x < 10000 → x = b_dg (u_v 0 x).toNat := by
  intro l
  induction l with
  | zero =>
    intro x hx hc
    exact absurd (List.eq_nil_of_length_eq_zero hx) hc.1
  | succ l ih =>
    intro x hx hc hv
    rcases List.eq_nil_or_concat x with rfl | ⟨y, c, rfl⟩
    · exact absurd rfl hc.1
    rw [List.concat_eq_append] at hx hc hv ⊢
    rw [List.length_append, List.length_singleton] at hx
    obtain ⟨c1, c2, c3⟩ := hc
    have hcd := c2 c (List.mem_append.mpr (Or.inr (List.mem_singleton.mpr rfl)))
    have hyd : u_dgs y := fun e he => c2 e (List.mem_append.mpr (Or.inl he))
    rw [u_v_app] at hv ⊢
    rcases y with _ | ⟨e, y⟩
    · show [c] = b_dg (10 * 0 + c - 48).toNat
      rw [b_dg1 (by omega)]
      rw [show 48 + (((10 * 0 + c - 48).toNat : Nat) : Int) = c by omega]
    · have hed := hyd e List.mem_cons_self
      have he48 : e ≠ 48 := fun z => by
        have := c3 (by rw [z]; rfl)
        rw [List.length_append, List.length_cons, List.length_singleton] at this
        omega
      have hge : 1 ≤ u_v 0 (e :: y) := by
        have := u_v_ge y (10 * 0 + e - 48) (fun z hz => hyd z (List.mem_cons_of_mem _ hz)) (by omega)
        show 1 ≤ u_v (10 * 0 + e - 48) y
        omega
      have h8 := ih (e :: y) (by omega) ⟨List.cons_ne_nil _ _, hyd, fun z => absurd (by simpa using z) he48⟩ (by omega)
      rw [b_dg_rec (by omega) (by omega)]
      rw [show (10 * u_v 0 (e :: y) + c - 48).toNat / 10 = (u_v 0 (e :: y)).toNat by omega, ← h8]
      rw [show 48 + (((10 * u_v 0 (e :: y) + c - 48).toNat % 10 : Nat) : Int) = c by omega]
theorem u_dg_can : ∀ (l i : Nat), i < l → i < 10000 → u_can (b_dg i) ∧ u_v 0 (b_dg i) = i ∧ (10 ≤ i → (b_dg i).head? ≠ some 48) := by
  intro l
  induction l with
  | zero => exact fun i h => absurd h (by omega)
  | succ l ih =>
    intro i hl hi
    by_cases g : i < 10
    · rw [b_dg1 g]
      refine ⟨⟨List.cons_ne_nil _ _, fun c hc => ?_, fun _ => rfl⟩, ?_, fun h => absurd g (by omega)⟩
      · rw [List.mem_singleton.mp hc]
        omega
      · show 10 * 0 + (48 + (i : Int)) - 48 = i
        omega
    · obtain ⟨⟨c1, c2, c3⟩, h2, h3⟩ := ih (i / 10) (by omega) (by omega)
      rw [b_dg_rec (by omega) hi]
      have hh : (b_dg (i / 10) ++ [48 + ((i % 10 : Nat) : Int)]).head? ≠ some 48 := by
        by_cases g2 : 10 ≤ i / 10
        · have := h3 g2
          rcases hb : b_dg (i / 10) with _ | ⟨e, y⟩
          · exact absurd hb c1
          · rw [hb] at this
            simpa using this
        · rw [b_dg1 (by omega)]
          simp
          omega
      refine ⟨⟨by simp, fun c hc => ?_, fun z => absurd z hh⟩, ?_, fun _ => hh⟩
      · rcases List.mem_append.mp hc with hc | hc
        · exact c2 c hc
        · rw [List.mem_singleton.mp hc]
          omega
      · rw [u_v_app, h2]
        omega
theorem u_pow {j : Nat} (h : j ≤ 8) : (10 : Int) ^ j ≤ 100000000 := by
  have h2 : ∀ j : Fin 9, (10 : Int) ^ j.val ≤ 100000000 := by decide +kernel
  exact h2 ⟨j, by omega⟩
theorem u_digs_len (n : Nat) : ∀ (l ten : Nat), (u_digs n l ten).length = l := by
  intro l
  induction l with
  | zero => exact fun _ => rfl
  | succ l ih =>
    intro ten
    unfold u_digs
    rw [List.length_cons, ih]
theorem b_dg_len (n : Nat) : (b_dg n).length ≤ 4 := by
  unfold b_dg
  repeat' split
  all_goals rw [u_digs_len]; omega
section STEPNO
variable {d : Nat} {M : g_M} {Q : Int → g_M → Prop} {m b : Nat} {p : Int} {x : List Int}
theorem e_stepNo (hR : e_R M m b) (hx : b_at (g_i M b) p x) (h0 : 0 ≤ p) (h1 : p + x.length < 2706210) (k1 : ∀ i : Nat, i < 10000 → x = b_dg i → Q i M) (k0 : (∀ i : Nat, i < 10000 → x ≠ b_dg i) → ∀ r : Int, r = -1 ∨ 10000 ≤ r → Q r M) : g_Call (d + 2) 276 [.ref m, g_n p, g_n (p + x.length)] M (g_qI Q) := by
  have hl : (x.head? = some 48 → x.length = 1) → x ≠ [] → ∀ (y w : List Int) (q v : Int), x = w ++ y → u_dgs w → q = p + w.length → g_InR v → (w.length ≤ 9 → v = u_v 0 w) → (9 < w.length → v = 1000000000) → g_Run (d + 1) 276 29 [(0, .ref m), (1, g_n p), (2, g_n (p + x.length)), (3, g_n v), (4, g_n q)] [] M (g_qI Q) := by
    intro hh hne y
    induction y with
    | nil =>
      intro w q v e1 hw hq hv v1 v2
      rw [List.append_nil] at e1
      subst e1
      refine s_X12_stepNumber_29 ⟨by omega, by omega⟩ ⟨by omega, by omega⟩ hv ⟨by omega, by omega⟩ fun _ => ⟨fun g => absurd g (by omega), fun _ => ?_⟩
      by_cases g : x.length ≤ 9
      · have hvx := v1 g
        have hge := u_v_ge x 0 hw (Int.le_refl _)
        by_cases g2 : v < 10000
        · have h8 := u_can_dg _ x rfl ⟨hne, hw, hh⟩ (by omega)
          have h9 := k1 (u_v 0 x).toNat (by omega) h8
          rwa [show (((u_v 0 x).toNat : Nat) : Int) = v by omega] at h9
        · refine k0 (fun i hi e => ?_) v (Or.inr (by omega))
          have := (u_dg_can (i + 1) i (by omega) hi).2.1
          rw [← e] at this
          omega
      · refine k0 (fun i hi e => ?_) v (Or.inr (by have := v2 (by omega); omega))
        have := b_dg_len i
        rw [← e] at this
        omega
    | cons c y ih =>
      intro w q v e1 hw hq hv v1 v2
      have hlen := congrArg List.length e1
      rw [List.length_append, List.length_cons] at hlen
      have hci : g_i M b q = c := by
        rw [e1] at hx
        rw [hq]
        exact (b_cons.mp (b_app.mp hx).2).1
      have hbadc : ¬ (48 ≤ c ∧ c ≤ 57) → Q (-1) M := by
        intro g
        refine k0 (fun i hi e => ?_) (-1) (Or.inl rfl)
        have h8 := (u_dg_can (i + 1) i (by omega) hi).1.2.1 c (by rw [← e, e1]; exact List.mem_append.mpr (Or.inr List.mem_cons_self))
        exact g h8
      refine s_X12_stepNumber_29 ⟨by omega, by omega⟩ ⟨by omega, by omega⟩ hv ⟨by omega, by omega⟩ fun hok => ⟨fun _ => ⟨hR.1, e_at hR (by omega) (by omega) fun _ _ _ => ?_⟩, fun g => absurd (by omega) g⟩
      have hb := hok.byte hR.2.2 q
      rw [hci] at hb ⊢
      rw [g_and255 hb.1 hb.2]
      refine ⟨fun g => hbadc (by omega), fun g => e_at hR (by omega) (by omega) fun _ _ _ => ?_⟩
      rw [hci, g_and255 hb.1 hb.2]
      refine ⟨fun g2 => hbadc (by omega), fun g2 => ⟨⟨by omega, by omega⟩, fun g3 => ?_, fun g3 => ⟨⟨by omega, by omega⟩, ?_⟩⟩⟩
      · have hv1 := v1 (by omega)
        have hlt := u_v_lt w 0 hw (Int.le_refl _)
        have hge := u_v_ge w 0 hw (Int.le_refl _)
        have hpw := u_pow (j := w.length) (by omega)
        refine ⟨⟨by omega, by omega⟩, e_at hR (by omega) (by omega) fun _ _ _ => ?_⟩
        rw [hci, g_and255 hb.1 hb.2, show c % 256 = c by omega]
        refine ⟨⟨by omega, by omega⟩, ⟨by omega, by omega⟩, ⟨by omega, by omega⟩, ih (w ++ [c]) (q + 1) _ (by rw [e1, List.append_assoc]; rfl) ?_ (by rw [List.length_append, List.length_singleton]; omega) ⟨by omega, by omega⟩ (fun _ => by rw [u_v_app, hv1]) (fun g4 => absurd g4 (by rw [List.length_append, List.length_singleton]; omega))⟩
        intro e he
        rcases List.mem_append.mp he with he | he
        · exact hw e he
        · rw [List.mem_singleton.mp he]
          omega
      · refine ih (w ++ [c]) (q + 1) _ (by rw [e1, List.append_assoc]; rfl) ?_ (by rw [List.length_append, List.length_singleton]; omega) ⟨by decide, by decide⟩ (fun g4 => absurd g4 (by rw [List.length_append, List.length_singleton]; omega)) (fun _ => rfl)
        intro e he
        rcases List.mem_append.mp he with he | he
        · exact hw e he
        · rw [List.mem_singleton.mp he]
          omega
  rcases x with _ | ⟨c, x⟩
  · refine m_X12_stepNumber ⟨by omega, by omega⟩ ⟨by omega, by omega⟩ fun _ => ⟨fun _ => k0 (fun i _ e => b_dg_ne i e.symm) _ (Or.inl rfl), fun g => absurd (by rw [List.length_nil]; omega) g⟩
  · have hlen : ((c :: x).length : Int) = x.length + 1 := by
      rw [List.length_cons]
      rfl
    have hci : g_i M b p = c := (b_cons.mp hx).1
    have hgo : (c = 48 → x.length = 0) → g_Run (d + 1) 276 29 [(0, .ref m), (1, g_n p), (2, g_n (p + (c :: x).length)), (3, g_n 0), (4, g_n p)] [] M (g_qI Q) := fun hz => hl (fun g => by
      have : c = 48 := by simpa using g
      rw [List.length_cons, hz this]) (List.cons_ne_nil _ _) (c :: x) [] p 0 rfl (fun e he => absurd he (by simp)) (by rw [List.length_nil]; omega) g_R0 (fun _ => rfl) (fun g => absurd g (by rw [List.length_nil]; omega))
    refine m_X12_stepNumber ⟨by omega, by omega⟩ ⟨by omega, by omega⟩ fun hok => ⟨fun g => absurd g (by omega), fun _ => ⟨hR.1, e_at hR h0 (by omega) fun _ _ _ => ?_⟩⟩
    have hb := hok.byte hR.2.2 p
    rw [hci] at hb ⊢
    rw [g_and255 hb.1 hb.2]
    refine ⟨fun g => ⟨⟨by omega, by omega⟩, fun g2 => ?_, fun g2 => hgo fun _ => by omega⟩, fun g => hgo fun e => absurd (by omega) g⟩
    refine k0 (fun i hi e => ?_) _ (Or.inl rfl)
    have h8 := (u_dg_can (i + 1) i (by omega) hi).1.2.2 (by rw [← e, show c = 48 by omega]; rfl)
    rw [← e, List.length_cons] at h8
    omega
end STEPNO
