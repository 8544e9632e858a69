/-! TREES OF THE REFERENCE: entries and their order -/
def R_kp (x s : Nat) : Int := 1014000 + (1500 * x + s) * 132
/-- an entry stands with this number of its own -/
def R_e (b : Nat) (ρ : Nat → Nat) (x s : Nat) (M : g_M) (e : I_E) : Prop := s < 1500 ∧ b_at (g_i M b) (R_kp x s) (b_el e.1.1 [] e.1.2) ∧ b_at (g_i M b) (R_kp x s + 66) (b_el e.2.1.1 [] e.2.1.2) ∧ g_i M (ρ 46) (1500 * x + s) = e.2.2 ∧ I_eg e ∧ 0 ≤ e.2.2
/-- the ways of index x -/
def R_wy (m x : Nat) (w1 w2 : Int) (dn : Nat) (M : g_M) : Prop := g_r M m 38 = some dn ∧ g_A M dn 2 16 ∧ I_w w1 ∧ I_w w2 ∧ g_i M dn ((2 * x : Nat) : Int) = (if w1 = -1 then 1 else 0) ∧ g_i M dn ((2 * x + 1 : Nat) : Int) = (if w2 = -1 then 1 else 0)
section RORD
variable {m b d x : Nat} {ρ : Nat → Nat} {M M1 : g_M} {w1 w2 : Int} {dn : Nat}
theorem e_keyAt {Q : Int → g_M → Prop} {s k : Nat} (hx : x < 8) (hs : s < 1500) (hk : k < 2) (hq : Q (R_kp x s + 66 * k) M) : g_Call (d + 1) 363 [.ref m, g_n x, g_n s, g_n k] M (g_qI Q) := by
  refine m_X12_keyAt ⟨by omega, by omega⟩ ⟨by omega, by omega⟩ ⟨by omega, by omega⟩ fun _ => ⟨⟨by omega, by omega⟩, ⟨by omega, by omega⟩, ⟨by omega, by omega⟩, ⟨by omega, by omega⟩, ⟨by omega, by omega⟩, ⟨by omega, by omega⟩, ?_⟩
  have : 1014000 + ((x : Int) * 1500 + s) * 132 + 66 * k = R_kp x s + 66 * k := by
    unfold R_kp
    rw [show (x : Int) * 1500 = 1500 * x from Int.mul_comm _ _]
  rw [this]
  exact hq
theorem R_e.st {s : Nat} {e : I_E} (h : R_e b ρ x s M e) (hx : x < 8) : b_st (g_i M b) 2706210 (R_kp x s + 66 * ((0 : Nat) : Int)) 16 e.1.1 [] e.1.2 ∧ b_st (g_i M b) 2706210 (R_kp x s + 66 * ((1 : Nat) : Int)) 16 e.2.1.1 [] e.2.1.2 := by
  obtain ⟨h1, h2, h3, h4, ⟨⟨g1, g2⟩, ⟨g3, g4⟩, -⟩, h6⟩ := h
  have l1 := b_el_len e.1.1 [] e.1.2
  have l2 := b_el_len e.2.1.1 [] e.2.1.2
  rw [List.length_nil] at l1 l2
  unfold R_kp at h2 h3 ⊢
  refine ⟨⟨?_, fun c hc => absurd hc (by simp), g1, by omega, by omega⟩, ⟨?_, fun c hc => absurd hc (by simp), g3, by omega, by omega⟩⟩
  · rw [show (1014000 : Int) + (1500 * x + s) * 132 + 66 * ((0 : Nat) : Int) = 1014000 + (1500 * x + s) * 132 by omega]
    exact h2
  · exact h3
theorem e_order {Q : Int → g_M → Prop} {s s2 : Nat} {e e2 : I_E} (hR : R_rw m b ρ M) (hx : x < 8) (hw : R_wy m x w1 w2 dn M) (he : R_e b ρ x s M e) (he2 : R_e b ρ x s2 M e2) (hq : ∀ r, (r < 0 ↔ I_c w1 w2 e e2 < 0) → (0 < r ↔ 0 < I_c w1 w2 e e2) → Q r M) : g_Call (d + 39) 366 [.ref m, g_n x, g_n s, g_n s2] M (g_qI Q) := by
  obtain ⟨d1, d2, hw1, hw2, d3, d4⟩ := hw
  obtain ⟨p1, p2⟩ := he.st hx
  obtain ⟨q1, q2⟩ := he2.st hx
  have hs := he.1
  have hs2 := he2.1
  obtain ⟨r1, r2⟩ := hR.at (k := 46) (by decide)
  have r2 : g_A M (ρ 46) 1 12000 := r2
  have hIR := he.2.2.2.2.1.2.2
  have hIR2 := he2.2.2.2.2.1.2.2
  have h0 := he.2.2.2.2.2
  have h02 := he2.2.2.2.2.2
  have hsgn : ∀ (w v r : Int), I_w w → v_ok r v → ((w = 1 → ((r < 0 ↔ w * v < 0) ∧ (0 < r ↔ 0 < w * v))) ∧ (w = -1 → ((-r < 0 ↔ w * v < 0) ∧ (0 < -r ↔ 0 < w * v)))) := by
    intro w v r hw hv
    obtain ⟨g1, g2⟩ := hv.sgn
    refine ⟨fun z => ?_, fun z => ?_⟩
    · subst z
      rw [Int.one_mul]
      exact ⟨g1, g2⟩
    · subst z
      exact ⟨by omega, by omega⟩
  refine m_X12_order ⟨by omega, by omega⟩ ⟨by omega, by omega⟩ ⟨by omega, by omega⟩ fun _ => ?_
  refine s_X12_order_3 ⟨by omega, by omega⟩ ⟨by omega, by omega⟩ ⟨by omega, by omega⟩ ⟨by decide, by decide⟩ fun _ => ⟨fun _ => ⟨hR.1.1, e_keyAt (d := d + 37) (k := 0) hx hs (by decide) ?_⟩, fun z => absurd z (by decide)⟩
  intro _ _ _
  refine e_keyAt (d := d + 37) (k := 0) hx hs2 (by decide) ?_
  intro _ _ _
  refine e_compare hR.1 16 (F := 60) (d := d + 1) p1 q1 (by decide) fun r hr => ?_
  have hr : v_ok r (v_vc 61 e.1 e2.1) := hr
  obtain ⟨hr1, hr2, hr3⟩ := id hr
  intro _ _ _
  have hc1 : I_kc w1 e.1 e2.1 = w1 * v_vc 61 e.1 e2.1 := rfl
  refine ⟨fun z => ⟨⟨by decide, by decide⟩, ?_⟩, fun z => ⟨dn, d1, ⟨by omega, by omega⟩, ⟨by omega, by omega⟩, 16, d2, ⟨by omega, by omega⟩, ?_⟩⟩
  · have hv0 : I_kc w1 e.1 e2.1 = 0 := by
      rw [hc1, hr.zero.mp z, Int.mul_zero]
    refine s_X12_order_3 ⟨by omega, by omega⟩ ⟨by omega, by omega⟩ ⟨by omega, by omega⟩ ⟨by decide, by decide⟩ fun _ => ⟨fun _ => ⟨hR.1.1, e_keyAt (d := d + 37) (k := 1) hx hs (by decide) ?_⟩, fun z => absurd z (by decide)⟩
    intro _ _ _
    refine e_keyAt (d := d + 37) (k := 1) hx hs2 (by decide) ?_
    intro _ _ _
    refine e_compare hR.1 16 (F := 60) (d := d + 1) p2 q2 (by decide) fun rr hrr => ?_
    have hrr : v_ok rr (v_vc 61 e.2.1 e2.2.1) := hrr
    obtain ⟨hrr1, hrr2, hrr3⟩ := id hrr
    intro _ _ _
    have hc2 : I_kc w2 e.2.1 e2.2.1 = w2 * v_vc 61 e.2.1 e2.2.1 := rfl
    refine ⟨fun z2 => ⟨⟨by decide, by decide⟩, ?_⟩, fun z2 => ⟨dn, d1, ⟨by omega, by omega⟩, ⟨by omega, by omega⟩, 16, d2, ⟨by omega, by omega⟩, ?_⟩⟩
    · have hv2 : I_kc w2 e.2.1 e2.2.1 = 0 := by
        rw [hc2, hrr.zero.mp z2, Int.mul_zero]
      have hce : I_c w1 w2 e e2 = v_tcmp e.2.2 e2.2.2 := by
        unfold I_c
        rw [if_pos hv0, if_pos hv2]
      refine s_X12_order_3 ⟨by omega, by omega⟩ ⟨by omega, by omega⟩ ⟨by omega, by omega⟩ ⟨by decide, by decide⟩ fun _ => ⟨fun z3 => absurd z3 (by decide), fun _ => ⟨hR.1.1, ρ 46, r1, ⟨by omega, by omega⟩, ⟨by omega, by omega⟩, 12000, r2, ⟨by omega, by omega⟩, ρ 46, r1, ⟨by omega, by omega⟩, ⟨by omega, by omega⟩, 12000, r2, ⟨by omega, by omega⟩, ?_⟩⟩
      rw [show (x : Int) * 1500 = 1500 * x from Int.mul_comm _ _, he.2.2.2.1, he2.2.2.2.1]
      have hu := hIR.2
      have hu2 := hIR2.2
      refine ⟨⟨by omega, by omega⟩, ?_⟩
      refine hq _ ?_ ?_
      · rw [hce]
        unfold v_tcmp
        split <;> (try split) <;> omega
      · rw [hce]
        unfold v_tcmp
        split <;> (try split) <;> omega
    · have hne : ¬ I_kc w2 e.2.1 e2.2.1 = 0 := fun y => z2 (hrr.zero.mpr (by
        rw [hc2] at y
        rcases hw2 with g | g <;> subst g <;> omega))
      have hce : I_c w1 w2 e e2 = w2 * v_vc 61 e.2.1 e2.2.1 := by
        unfold I_c
        rw [if_pos hv0, if_neg hne]
        rfl
      have hd4 : g_i M dn (2 * (x : Int) + 1) = if w2 = -1 then 1 else 0 := by
        rw [← d4]
        congr 1
      have hg := hsgn w2 _ rr hw2 hrr
      rw [← hce] at hg
      have hcast : (2 * (x : Int)) + (0 + 1) = 2 * x + 1 := by omega
      rw [show (2 * (x : Int)) + (0 + 1) = 2 * x + 1 by omega]
      rw [hd4]
      refine ⟨fun y => ?_, fun y => ?_⟩
      · have h1 : w2 = 1 := by
          rcases hw2 with g | g
          · exact g
          · rw [if_pos g] at y
            exact absurd y (by decide)
        exact hq rr (hg.1 h1).1 (hg.1 h1).2
      · have h1 : w2 = -1 := by
          rcases hw2 with g | g
          · rw [g, if_neg (by decide)] at y
            exact absurd rfl y
          · exact g
        exact ⟨⟨by omega, by omega⟩, hq (-rr) (hg.2 h1).1 (hg.2 h1).2⟩
  · have hne : ¬ I_kc w1 e.1 e2.1 = 0 := fun y => z (hr.zero.mpr (by
      rw [hc1] at y
      rcases hw1 with g | g <;> subst g <;> omega))
    have hce : I_c w1 w2 e e2 = w1 * v_vc 61 e.1 e2.1 := by
      unfold I_c
      rw [if_neg hne]
      rfl
    have hd3 : g_i M dn (2 * (x : Int) + 0) = if w1 = -1 then 1 else 0 := by
      rw [← d3]
      congr 1
    have hg := hsgn w1 _ r hw1 hr
    rw [← hce] at hg
    rw [hd3]
    refine ⟨fun y => ?_, fun y => ?_⟩
    · have h1 : w1 = 1 := by
        rcases hw1 with g | g
        · exact g
        · rw [if_pos g] at y
          exact absurd y (by decide)
      exact hq r (hg.1 h1).1 (hg.1 h1).2
    · have h1 : w1 = -1 := by
        rcases hw1 with g | g
        · rw [g, if_neg (by decide)] at y
          exact absurd rfl y
        · exact g
      exact ⟨⟨by omega, by omega⟩, hq (-r) (hg.2 h1).1 (hg.2 h1).2⟩
end RORD
