/-! WHAT A REQUEST DOES, PURE: its form -/
theorem Q_fk_ok {k : Int} : ∀ (l : List b_E) (q : Int), 0 ≤ q → Q_fk k q l = -1 → ∀ e ∈ l, e.1 = k := by
  intro l
  induction l with
  | nil => exact fun q _ _ e he => absurd he (by simp)
  | cons x r ih =>
    intro q hq h e he
    have h1 : Q_fk k q (x :: r) = if x.1 = k then Q_fk k (q + (b_el x.1 x.2.1 x.2.2).length) r else q := rfl
    rw [h1] at h
    by_cases g : x.1 = k
    · rw [if_pos g] at h
      rcases List.mem_cons.mp he with e1 | e1
      · rw [e1]
        exact g
      · exact ih _ (by omega) h e e1
    · rw [if_neg g] at h
      omega
theorem Q_nx_ok {q : Int} {r : List b_E} (hq : 0 ≤ q) (h : Q_nx q r = -1) : r = [] := by
  cases r with
  | nil => rfl
  | cons x r =>
    have h : q = -1 := h
    omega
theorem Q_rq_hs {q : Int} {h s : b_E} {r : List b_E} (hq : 0 ≤ q) (e : Q_rq q (h :: s :: r) = -1) : Q_op h.2.1 ≠ 0 ∧ Q_hd q h = -1 ∧ Q_sh s ∧ Q_r3 h (q + (b_el h.1 h.2.1 h.2.2).length + (b_el s.1 s.2.1 s.2.2).length) r = -1 := by
  rw [Q_rq_c] at e
  by_cases g : Q_op h.2.1 = 0
  · rw [if_pos g] at e
    omega
  · rw [if_neg g] at e
    by_cases g2 : Q_hd q h = -1
    · rw [if_pos g2] at e
      have e1 : Q_r2 h (q + (b_el h.1 h.2.1 h.2.2).length) (s :: r) = @ite _ (Q_sh s) (Classical.propDecidable _) (Q_r3 h (q + (b_el h.1 h.2.1 h.2.2).length + (b_el s.1 s.2.1 s.2.2).length) r) (q + (b_el h.1 h.2.1 h.2.2).length) := rfl
      rw [e1] at e
      by_cases g3 : Q_sh s
      · rw [if_pos g3] at e
        exact ⟨g, g2, g3, e⟩
      · rw [if_neg g3] at e
        omega
    · rw [if_neg g2] at e
      exact absurd e g2
theorem Q_hd_3 {q : Int} {h : b_E} (hq : 0 ≤ q) (e : Q_hd q h = -1) (n : Q_op h.2.1 ≠ 6 ∧ Q_op h.2.1 ≠ 7 ∧ Q_op h.2.1 ≠ 8 ∧ Q_op h.2.1 ≠ 10) : h.1 = 3 := by
  unfold Q_hd at e
  rw [if_neg (by omega), if_neg n.2.2.1, if_neg n.1] at e
  by_cases g : h.1 = 3
  · exact g
  · rw [if_neg g] at e
    omega
theorem Q_hd_7 {q : Int} {h : b_E} (hq : 0 ≤ q) (e : Q_hd q h = -1) (n : Q_op h.2.1 = 7 ∨ Q_op h.2.1 = 10) : h.1 = 16 ∨ h.1 = 18 := by
  unfold Q_hd at e
  rw [if_pos n] at e
  by_cases g : h.1 = 16 ∨ h.1 = 18
  · exact g
  · rw [if_neg g] at e
    omega
theorem Q_hd_8 {q : Int} {h : b_E} (hq : 0 ≤ q) (e : Q_hd q h = -1) (n : Q_op h.2.1 = 8) : h.1 = 4 ∧ ∀ it ∈ b_ch h.2.2, it.1 = 3 := by
  unfold Q_hd at e
  rw [if_neg (by omega), if_pos n] at e
  unfold Q_pl at e
  by_cases g : h.1 = 4
  · rw [if_pos g] at e
    exact ⟨g, Q_fk_ok _ _ (by omega) e⟩
  · rw [if_neg g] at e
    omega
theorem Q_tx_ok {a : b_E} (h : Q_tx a = true) (hl : (s_tx a.2.2).length ≤ 2000) : I_ptx a := by
  unfold Q_tx at h
  rw [Bool.and_eq_true] at h
  refine ⟨by simpa using h.1, hl, ?_⟩
  exact ((@decide_eq_true_iff _ (Classical.propDecidable _)).mp h.2).1
theorem Q_hd_6 {q : Int} {h : b_E} (hq : 0 ≤ q) (e : Q_hd q h = -1) (n : Q_op h.2.1 = 6) : h.1 = 4 ∧ ∃ a r, b_ch h.2.2 = a :: r ∧ r.length ≤ 1 ∧ ∀ x ∈ a :: r, Q_tx x = true := by
  unfold Q_hd at e
  rw [if_neg (by omega), if_neg (by omega), if_pos n] at e
  unfold Q_pa at e
  by_cases g : h.1 = 4
  · rw [if_pos g] at e
    cases hb : b_ch h.2.2 with
    | nil =>
      rw [hb] at e
      have e : q = -1 := e
      omega
    | cons a r =>
      rw [hb] at e
      have e : (if Q_tx a = true then Q_pb (q + 6 + h.2.1.length + (b_el a.1 a.2.1 a.2.2).length) a r else q + 6 + h.2.1.length) = -1 := e
      by_cases ga : Q_tx a = true
      · rw [if_pos ga] at e
        cases r with
        | nil => exact ⟨g, a, [], rfl, Nat.zero_le _, fun x hx => by rw [List.mem_singleton.mp hx]; exact ga⟩
        | cons c r =>
          have e : (if (Q_tx c && !F_eq c a) = true then Q_nx (q + 6 + h.2.1.length + (b_el a.1 a.2.1 a.2.2).length + (b_el c.1 c.2.1 c.2.2).length) r else q + 6 + h.2.1.length + (b_el a.1 a.2.1 a.2.2).length) = -1 := e
          by_cases gc : (Q_tx c && !F_eq c a) = true
          · rw [if_pos gc] at e
            have hr := Q_nx_ok (by omega) e
            rw [hr]
            rw [Bool.and_eq_true] at gc
            refine ⟨g, a, [c], rfl, Nat.le_refl _, fun x hx => ?_⟩
            rcases List.mem_cons.mp hx with e1 | e1
            · rw [e1]
              exact ga
            · rw [List.mem_singleton.mp e1]
              exact gc.1
          · rw [if_neg gc] at e
            omega
      · rw [if_neg ga] at e
        omega
  · rw [if_neg g] at e
    omega
theorem Q_r3_4 {q : Int} {h : b_E} {r : List b_E} (hq : 0 ≤ q) (e : Q_r3 h q r = -1) (n : Q_op h.2.1 = 4) : ∃ t, r = [t] ∧ t.1 = 3 := by
  unfold Q_r3 at e
  rw [if_pos n] at e
  cases r with
  | nil =>
    have e : q = -1 := e
    omega
  | cons t r =>
    have e : (if t.1 = 3 ∧ t.2.1 = b_tx 11 then Q_nx (q + (b_el t.1 t.2.1 t.2.2).length) r else q) = -1 := e
    by_cases g : t.1 = 3 ∧ t.2.1 = b_tx 11
    · rw [if_pos g] at e
      have hr := Q_nx_ok (by omega) e
      exact ⟨t, by rw [hr], g.1⟩
    · rw [if_neg g] at e
      omega
theorem Q_r3_6 {q : Int} {h : b_E} {r : List b_E} (hq : 0 ≤ q) (e : Q_r3 h q r = -1) (n : Q_op h.2.1 = 6) : ∃ t, r = [t] ∧ t.1 = 4 ∧ (b_ch t.2.2).length = (b_ch h.2.2).length ∧ ∀ x ∈ b_ch t.2.2, x.1 = 8 := by
  unfold Q_r3 at e
  rw [if_neg (by omega), if_pos n] at e
  cases r with
  | nil =>
    have e : q = -1 := e
    omega
  | cons t r =>
    have e : (if Q_dn q h t = -1 then Q_nx (q + (b_el t.1 t.2.1 t.2.2).length) r else Q_dn q h t) = -1 := e
    by_cases g : Q_dn q h t = -1
    · rw [if_pos g] at e
      have hr := Q_nx_ok (by omega) e
      unfold Q_dn at g
      by_cases g2 : t.1 = 4 ∧ t.2.1 = b_tx 12 ∧ (b_ch t.2.2).length = (b_ch h.2.2).length
      · rw [if_pos g2] at g
        exact ⟨t, by rw [hr], g2.1, g2.2.2, Q_fk_ok _ _ (by omega) g⟩
      · rw [if_neg g2] at g
        omega
    · rw [if_neg g] at e
      exact absurd e g
theorem Q_op_le (nm : List Int) : 0 ≤ Q_op nm ∧ Q_op nm ≤ 10 := by
  unfold Q_op
  repeat' split
  all_goals decide
