/-! EXPLAIN: ends and intervals; the reference's ends -/
/-- an end: its class, whether it is the class's beginning (0), a value (1), the class's end (2) -/
abbrev D_e : Type := Int × Int × (Int × b_E)
/-- an interval: its class, low end (none: the beginning), whether IN, high end, whether IN -/
abbrev D_i : Type := Int × Option (Int × b_E) × Bool × Option (Int × b_E) × Bool
def D_lo (x : D_i) : D_e := match x.2.1 with
  | none => (x.1, 0, (0, 10, [], []))
  | some y => (x.1, 1, y)
def D_hi (x : D_i) : D_e := match x.2.2.2.1 with
  | none => (x.1, 2, (0, 10, [], []))
  | some y => (x.1, 1, y)
/-- the order of ends -/
noncomputable def D_c (e f : D_e) : Int := if e.1 < f.1 then -1 else if f.1 < e.1 then 1 else if e.2.1 < f.2.1 then -1 else if f.2.1 < e.2.1 then 1 else if e.2.1 = 1 then v_cmp 61 e.2.2.2.1 e.2.2.2.2.2 f.2.2.2.1 f.2.2.2.2.2 else 0
/-- how the reference tells an end -/
def D_p (e : D_e) : Int := if e.2.1 = 0 then -100 - e.1 else if e.2.1 = 2 then -200 - e.1 else e.2.2.1
def D_at (F : Int → Int) (e : D_e) : Prop := (1 ≤ e.1 ∧ e.1 ≤ 6) ∧ (e.2.1 = 0 ∨ e.2.1 = 1 ∨ e.2.1 = 2) ∧ (e.2.1 = 1 → b_st F 2706210 e.2.2.1 20 e.2.2.2.1 e.2.2.2.2.1 e.2.2.2.2.2 ∧ b_cl e.2.2.2.1 = e.1)
def D_io (F : Int → Int) (x : D_i) : Prop := D_at F (D_lo x) ∧ D_at F (D_hi x)
theorem v_ok_dif {a b : Int} (h1 : a ≠ b) (ha : -1000 ≤ a ∧ a ≤ 1000) (hb : -1000 ≤ b ∧ b ≤ 1000) : v_ok (a - b) (if a < b then -1 else 1) := by
  unfold v_ok v_sg
  by_cases g : a < b
  · rw [if_pos (by omega), if_pos g]
    omega
  · rw [if_neg (by omega), if_neg (by omega), if_neg g]
    omega
section DEE
variable {m d b : Nat} {M : g_M} {F : Int → Int}
theorem D_at.R {e : D_e} (h : D_at F e) : g_InR (D_p e) ∧ (D_p e < 0 ↔ ¬ e.2.1 = 1) ∧ (e.2.1 = 0 → D_p e = -100 - e.1) ∧ (e.2.1 = 2 → D_p e = -200 - e.1) ∧ (e.2.1 = 1 → D_p e = e.2.2.1) := by
  obtain ⟨h1, h2, h3⟩ := h
  unfold D_p
  rcases h2 with g | g | g
  · rw [if_pos g]
    exact ⟨⟨by omega, by omega⟩, by omega, fun _ => rfl, fun z => by omega, fun z => by omega⟩
  · rw [if_neg (by omega), if_neg (by omega)]
    obtain ⟨k1, k2⟩ := h3 g
    have p1 := k1.2.2.2.1
    have p2 := k1.2.2.2.2
    exact ⟨k1.R (by decide), by omega, fun z => by omega, fun z => by omega, fun _ => rfl⟩
  · rw [if_neg (by omega), if_pos g]
    exact ⟨⟨by omega, by omega⟩, by omega, fun z => by omega, fun _ => rfl, fun z => by omega⟩
theorem e_classOfEnd {Q : Int → g_M → Prop} {e : D_e} (hR : e_R M m b) (he : D_at (g_i M b) e) (h : Q e.1 M) : g_Call (d + 2) 390 [.ref m, g_n (D_p e)] M (g_qI Q) := by
  obtain ⟨r1, r2, r3, r4, r5⟩ := he.R
  obtain ⟨h1, h2, h3⟩ := id he
  refine m_X12_classOfEnd r1 fun _ => ⟨fun g => ⟨fun g2 => ?_, fun g2 => ?_⟩, fun g => ⟨hR.1, ?_⟩⟩
  · have h0 : e.2.1 = 0 := by
      rcases h2 with z | z | z
      · exact z
      · exact absurd z (r2.mp g)
      · have := r4 z
        omega
    rw [r3 h0]
    rw [show -100 - (-100 - e.1) = e.1 by omega]
    exact ⟨⟨by omega, by omega⟩, h⟩
  · have h0 : e.2.1 = 2 := by
      rcases h2 with z | z | z
      · have := r3 z
        omega
      · exact absurd z (r2.mp g)
      · exact z
    rw [r4 h0]
    rw [show -200 - (-200 - e.1) = e.1 by omega]
    exact ⟨⟨by omega, by omega⟩, h⟩
  · have h0 : e.2.1 = 1 := by
      cases Int.decEq e.2.1 1 with
      | isTrue z => exact z
      | isFalse z => exact absurd (r2.mpr z) g
    obtain ⟨k1, k2⟩ := h3 h0
    rw [r5 h0]
    refine e_cl2 (d := d) hR k1 ?_
    rw [k2]
    intro _ _ _
    exact h
theorem e_compareEnds {Q : Int → g_M → Prop} {e f : D_e} (hR : e_R M m b) (he : D_at (g_i M b) e) (hf : D_at (g_i M b) f) (h : ∀ r, v_ok r (D_c e f) → Q r M) : g_Call (d + 46) 391 [.ref m, g_n (D_p e), g_n (D_p f)] M (g_qI Q) := by
  obtain ⟨r1, r2, r3, r4, r5⟩ := he.R
  obtain ⟨t1, t2, t3, t4, t5⟩ := hf.R
  obtain ⟨h1, h2, h3⟩ := id he
  obtain ⟨g1, g2, g3⟩ := id hf
  refine m_X12_compareEnds r1 t1 fun _ => ⟨hR.1, e_classOfEnd (d := d + 43) hR he ?_⟩
  intro _ _ _
  refine e_classOfEnd (d := d + 43) hR hf ?_
  intro _ _ _
  refine ⟨⟨by omega, by omega⟩, fun z0 => ?_, fun z0 => ?_⟩
  · have hc : e.1 = f.1 := by omega
    have hD : ∀ w0 : Int, w0 = e.2.1 → g_Run (d + 45) 391 38 [(0, .ref m), (1, g_n (D_p e)), (2, g_n (D_p f)), (3, g_n (e.1 - f.1))] [g_n w0] M (g_qI Q) := by
      intro w0 hw0
      have h60 : ∀ w1 : Int, w1 = f.2.1 → g_Run (d + 45) 391 60 [(0, .ref m), (1, g_n (D_p e)), (2, g_n (D_p f)), (3, g_n (e.1 - f.1)), (4, g_n w0)] [g_n w1] M (g_qI Q) := by
        intro w1 hw1
        have hdif : ¬ w0 = w1 → Q (w0 - w1) M := fun z => h _ (by
          have := v_ok_dif (a := w0) (b := w1) z (by omega) (by omega)
          unfold D_c
          rw [if_neg (by omega), if_neg (by omega), ← hw0, ← hw1]
          by_cases g : w0 < w1
          · rw [if_pos g] at this ⊢
            exact this
          · rw [if_neg g] at this
            rw [if_neg g, if_pos (by omega)]
            exact this)
        refine s_X12_compareEnds_60 r1 t1 ⟨by omega, by omega⟩ ⟨by omega, by omega⟩ ⟨by omega, by omega⟩ fun _ => ⟨fun z => ⟨fun z1 => ⟨hR.1, ?_⟩, fun z1 => ⟨⟨by omega, by omega⟩, ?_⟩⟩, fun z => ⟨⟨by omega, by omega⟩, hdif z⟩⟩
        · obtain ⟨a1, a2⟩ := h3 (by omega)
          obtain ⟨b1, b2⟩ := g3 (by omega)
          rw [r5 (by omega), t5 (by omega)]
          refine e_compare (F := 60) hR 20 (d := d) a1 b1 (by decide) fun r hr => ?_
          intro _ _ _
          refine h r ?_
          unfold D_c
          rw [if_neg (by omega), if_neg (by omega), if_neg (by omega), if_neg (by omega), if_pos (by omega)]
          exact hr
        · refine h _ ?_
          unfold D_c
          rw [if_neg (by omega), if_neg (by omega), if_neg (by omega), if_neg (by omega), if_neg (by omega), show w0 - w1 = 0 by omega]
          exact ⟨by decide, by decide, by decide⟩
      refine s_X12_compareEnds_38 r1 t1 ⟨by omega, by omega⟩ ⟨by omega, by omega⟩ fun _ => ⟨fun z => ⟨fun z1 => h60 0 ?_, fun z1 => h60 2 ?_⟩, fun z => h60 1 ?_⟩
      · rcases g2 with k | k | k
        · omega
        · exact absurd k (t2.mp z)
        · have := t4 k
          omega
      · rcases g2 with k | k | k
        · have := t3 k
          omega
        · exact absurd k (t2.mp z)
        · omega
      · cases Int.decEq f.2.1 1 with
        | isTrue k => omega
        | isFalse k => exact absurd (t2.mpr k) z
    refine ⟨fun z => ⟨fun z1 => hD 0 ?_, fun z1 => hD 2 ?_⟩, fun z => hD 1 ?_⟩
    · rcases h2 with k | k | k
      · omega
      · exact absurd k (r2.mp z)
      · have := r4 k
        omega
    · rcases h2 with k | k | k
      · have := r3 k
        omega
      · exact absurd k (r2.mp z)
      · omega
    · cases Int.decEq e.2.1 1 with
      | isTrue k => omega
      | isFalse k => exact absurd (r2.mpr k) z
  · refine h _ ?_
    have := v_ok_dif (a := e.1) (b := f.1) (by omega) (by omega) (by omega)
    unfold D_c
    by_cases g : e.1 < f.1
    · rw [if_pos g] at this ⊢
      exact this
    · rw [if_neg g] at this
      rw [if_neg g, if_pos (by omega)]
      exact this
end DEE
