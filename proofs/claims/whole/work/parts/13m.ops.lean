/-! CHANGES: the class's faults: operators, paths that begin one another -/
/-- one of two paths begins the other -/
def X_bg (x y : List Int) : Bool := decide (x.take (min x.length y.length) = y.take (min x.length y.length)) && (decide (x.length = y.length) || decide ((if y.length < x.length then x else y)[min x.length y.length]? = some 46))
theorem X_op_R (nm : List Int) : 0 ≤ X_op nm ∧ X_op nm ≤ 6 := by
  unfold X_op
  repeat (first | split | exact ⟨by decide, by decide⟩)
section OPS
variable {d o b po pf pt ch wo : Nat} {F : Int → Int} {M M1 : g_M} {c : List h_F} {e p : b_E} {es l t mid mid2 : List b_E} {Q : Int → g_M → Prop}
theorem c_opOf {k q : Int} {N : Int} {D : Nat} {nm vb : List Int} (hA : g_A M b 0 N) (hn : N ≤ 1000000000) (hs : b_st (g_i M b) N q D k nm vb) (h : Q (X_op nm) M) : g_Call (d + 4) 18 [.ref b, g_n q] M (g_qI Q) := by
  have hqR := hs.R hn
  obtain ⟨s1, s2, s3, s4⟩ := hs.val
  have hnm : ∀ {j : Nat} (_ : j < q_nS) {Q1 : Int → g_M → Prop}, Q1 (if nm = b_tx j then 1 else 0) M → g_Call (d + 3) 115 [.ref b, g_n q, .ref (4 * j + 1)] M (g_qI Q1) := fun hj _ hq => c_named hj hA hn hs.1 hs.2.1 hs.2.2.2.1 (by have := hs.2.2.2.2; have := b_el_len k nm vb; omega) hq
  unfold X_op at h
  refine m_X1_operatorOf hqR fun _ => hnm (j := 32) (by decide) ?_
  intro _ _ _
  by_cases e1 : nm = b_tx 32
  · rw [if_pos e1] at h ⊢
    exact ⟨fun g => absurd g (by decide), fun _ => h⟩
  rw [if_neg e1] at h ⊢
  refine ⟨fun _ => hnm (j := 33) (by decide) ?_, fun g => absurd rfl g⟩
  intro _ _ _
  by_cases e2 : nm = b_tx 33
  · rw [if_pos e2] at h ⊢
    exact ⟨fun g => absurd g (by decide), fun _ => h⟩
  rw [if_neg e2] at h ⊢
  refine ⟨fun _ => hnm (j := 34) (by decide) ?_, fun g => absurd rfl g⟩
  intro _ _ _
  by_cases e3 : nm = b_tx 34
  · rw [if_pos e3] at h ⊢
    exact ⟨fun g => absurd g (by decide), fun _ => h⟩
  rw [if_neg e3] at h ⊢
  refine ⟨fun _ => hnm (j := 35) (by decide) ?_, fun g => absurd rfl g⟩
  intro _ _ _
  by_cases e4 : nm = b_tx 35
  · rw [if_pos e4] at h ⊢
    exact ⟨fun g => absurd g (by decide), fun _ => h⟩
  rw [if_neg e4] at h ⊢
  refine ⟨fun _ => hnm (j := 36) (by decide) ?_, fun g => absurd rfl g⟩
  intro _ _ _
  by_cases e5 : nm = b_tx 36
  · rw [if_pos e5] at h ⊢
    exact ⟨fun g => absurd g (by decide), fun _ => h⟩
  rw [if_neg e5] at h ⊢
  refine ⟨fun _ => hnm (j := 37) (by decide) ?_, fun g => absurd rfl g⟩
  intro _ _ _
  by_cases e6 : nm = b_tx 37
  · rw [if_pos e6] at h ⊢
    exact ⟨fun g => absurd g (by decide), fun _ => h⟩
  rw [if_neg e6] at h ⊢
  exact ⟨fun _ => h, fun g => absurd rfl g⟩
/-- a byte of a name -/
theorem b_st.nmb {B : Int → Int} {n q k : Int} {D : Nat} {nm vb : List Int} (h : b_st B n q D k nm vb) : b_at B (q + 1) nm := by
  have h1 := h.1
  have he : b_el k nm vb = k :: (nm ++ ([0] ++ vb)) := by unfold b_el; simp
  rw [he] at h1
  exact (b_app.mp (b_cons.mp h1).2).1
theorem b_at_take {B : Int → Int} {q : Int} {x : List Int} {n : Nat} (h : b_at B q x) : b_at B q (x.take n) := by
  rw [← List.take_append_drop n x] at h
  exact (b_app.mp h).1
theorem c_begins {q1 q2 : Int} {D D2 : Nat} {x y : b_E} (hg : g_ok M) (hO : X_O o b po pf pt ch wo M) (hx : b_st (g_i M b) 246408 q1 D x.1 x.2.1 x.2.2) (hy : b_st (g_i M b) 246408 q2 D2 y.1 y.2.1 y.2.2) (h : Q (if X_bg x.2.1 y.2.1 = true then 1 else 0) M) : g_Call (d + 4) 22 [.ref o, g_n q1, g_n q2] M (g_qI Q) := by
  obtain ⟨⟨o1, o2, o3, o4, o5⟩, hP, och, ob, ow, owb⟩ := hO
  have hxR := hx.R (by decide)
  have hyR := hy.R (by decide)
  obtain ⟨x1, x2, x3, x4⟩ := hx.val
  obtain ⟨y1, y2, y3, y4⟩ := hy.val
  have hxl := b_el_len x.1 x.2.1 x.2.2
  have hyl := b_el_len y.1 y.2.1 y.2.2
  have hxn := hx.2.2.2.2
  have hyn := hy.2.2.2.2
  have hxb := hx.nmb
  have hyb := hy.nmb
  have hB1 : b_B (x.2.1.take (min x.2.1.length y.2.1.length)) := b_at_B (fun q => hg.byte ob q) (b_at_take hxb)
  have hB2 : b_B (y.2.1.take (min x.2.1.length y.2.1.length)) := b_at_B (fun q => hg.byte ob q) (b_at_take hyb)
  have h0 := b_cmp0 hB1 hB2
  have hl1 : (x.2.1.take (min x.2.1.length y.2.1.length)).length = min x.2.1.length y.2.1.length := by rw [List.length_take]; omega
  have hl2 : (y.2.1.take (min x.2.1.length y.2.1.length)).length = min x.2.1.length y.2.1.length := by rw [List.length_take]; omega
  have hmn : min (q1 + 2 + (x.2.1.length : Int) - 1 - (q1 + 1)) (q2 + 2 + (y.2.1.length : Int) - 1 - (q2 + 1)) = ((min x.2.1.length y.2.1.length : Nat) : Int) := by omega
  refine m_X1_oneBeginsOther hxR hyR fun _ => ⟨o1, b, o2, c_va2 ob (by decide) hx fun _ _ _ => ⟨⟨by omega, by omega⟩, ⟨by omega, by omega⟩, ⟨by omega, by omega⟩, b, o2, c_va2 ob (by decide) hy fun _ _ _ => ⟨⟨by omega, by omega⟩, ⟨by omega, by omega⟩, ⟨by omega, by omega⟩, b, o2, ⟨by omega, by omega⟩, ⟨by omega, by omega⟩, ⟨by omega, by omega⟩, b, o2, ⟨by omega, by omega⟩, ⟨by omega, by omega⟩, ⟨by omega, by omega⟩, ?_⟩⟩⟩
  rw [hmn]
  have hc : g_Call (d + 3) 123 [.ref b, g_n (q1 + 1), g_n (q1 + 1 + (x.2.1.take (min x.2.1.length y.2.1.length)).length), .ref b, g_n (q2 + 1), g_n (q2 + 1 + (y.2.1.take (min x.2.1.length y.2.1.length)).length)] M (g_qI fun r35 M32 => g_ext M M32 → g_ok M32 → g_InR r35 → ((r35 = 0 → ((q1 + 2 + (x.2.1.length : Int) - 1 - (q1 + 1) = q2 + 2 + (y.2.1.length : Int) - 1 - (q2 + 1) → Q 1 M32) ∧ (¬ q1 + 2 + (x.2.1.length : Int) - 1 - (q1 + 1) = q2 + 2 + (y.2.1.length : Int) - 1 - (q2 + 1) → ∃ b37, g_r M32 o 0 = some b37 ∧ ((q2 + 2 + (y.2.1.length : Int) - 1 - (q2 + 1) < q1 + 2 + (x.2.1.length : Int) - 1 - (q1 + 1) → g_Run (d + 3) 22 94 [(0, .ref o), (1, g_n q1), (2, g_n q2), (3, g_n (q1 + 2 + (x.2.1.length : Int) - 1 - (q1 + 1))), (4, g_n (q2 + 2 + (y.2.1.length : Int) - 1 - (q2 + 1))), (5, g_n ((min x.2.1.length y.2.1.length : Nat) : Int))] [g_n q1, .ref b37] M32 (g_qI Q)) ∧ (¬ q2 + 2 + (y.2.1.length : Int) - 1 - (q2 + 1) < q1 + 2 + (x.2.1.length : Int) - 1 - (q1 + 1) → g_Run (d + 3) 22 94 [(0, .ref o), (1, g_n q1), (2, g_n q2), (3, g_n (q1 + 2 + (x.2.1.length : Int) - 1 - (q1 + 1))), (4, g_n (q2 + 2 + (y.2.1.length : Int) - 1 - (q2 + 1))), (5, g_n ((min x.2.1.length y.2.1.length : Nat) : Int))] [g_n q2, .ref b37] M32 (g_qI Q)))))) ∧ (¬ r35 = 0 → Q 0 M32))) := by
    refine c_cmp ob ob (by decide) (by decide) (b_at_take hxb) (b_at_take hyb) (by omega) (by omega) (by omega) (by omega) ?_
    intro _ _ _
    refine ⟨fun g0 => ?_, fun g0 => ?_⟩
    · have heq := h0.mp g0
      have hend : ∀ (z : List Int) (w : Int), b_at (g_i M b) (w + 1) z → 0 ≤ w → w + 1 + z.length < 246408 → min x.2.1.length y.2.1.length < z.length → (if y.2.1.length < x.2.1.length then x.2.1 else y.2.1) = z → ¬ x.2.1.length = y.2.1.length → g_Run (d + 3) 22 94 [(0, .ref o), (1, g_n q1), (2, g_n q2), (3, g_n (q1 + 2 + (x.2.1.length : Int) - 1 - (q1 + 1))), (4, g_n (q2 + 2 + (y.2.1.length : Int) - 1 - (q2 + 1))), (5, g_n ((min x.2.1.length y.2.1.length : Nat) : Int))] [g_n w, .ref b] M (g_qI Q) := by
        intro z w hz hw hwn hlt hif hne
        obtain ⟨a, ha⟩ : ∃ a, z[min x.2.1.length y.2.1.length]? = some a := ⟨_, List.getElem?_eq_getElem hlt⟩
        have hza := hz _ a ha
        refine s_X1_oneBeginsOther_94 hxR hyR ⟨by omega, by omega⟩ ⟨by omega, by omega⟩ ⟨by omega, by omega⟩ ⟨by omega, by omega⟩ fun _ => ⟨⟨by omega, by omega⟩, ⟨by omega, by omega⟩, c_kind ob ⟨by decide, by decide⟩ ⟨by omega, by omega⟩ ?_⟩
        rw [b_kd_in (by omega) (by omega), hza]
        intro _ _ _
        have hbg : X_bg x.2.1 y.2.1 = decide (a = 46) := by
          unfold X_bg
          rw [hif, ha, decide_eq_true heq, decide_eq_false hne]
          simp
        rw [hbg] at h
        refine ⟨fun g => ?_, fun g => ?_⟩
        · rwa [if_pos (decide_eq_true g)] at h
        · rwa [if_neg (by rw [decide_eq_false g]; decide)] at h
      refine ⟨fun gl => ?_, fun gl => ⟨b, o2, fun g => hend x.2.1 q1 hxb (by omega) (by omega) (by omega) (if_pos (by omega)) (by omega), fun g => hend y.2.1 q2 hyb (by omega) (by omega) (by omega) (if_neg (by omega)) (by omega)⟩⟩
      have hbg : X_bg x.2.1 y.2.1 = true := by
        unfold X_bg
        rw [decide_eq_true heq, decide_eq_true (by omega : x.2.1.length = y.2.1.length)]
        rfl
      rwa [if_pos hbg] at h
    · have hbg : X_bg x.2.1 y.2.1 = false := by
        unfold X_bg
        rw [decide_eq_false fun z => g0 (h0.mpr z)]
        rfl
      rwa [if_neg (by rw [hbg]; decide)] at h
  rw [hl1, hl2] at hc
  exact hc
/-- a path is set -/
theorem X_O.nm (hO : X_O o b po pf pt ch wo M) (f : g_fr (p_S po pf pt) M M1) (hP : p_P M1 po pf pt) : X_O o b po pf pt ch wo M1 ∧ g_i M1 b = g_i M b ∧ g_i M1 o = g_i M o := by
  obtain ⟨⟨o1, o2, o3, o4, o5⟩, ⟨p1, p2, p3, p4, p5, p6⟩, och, ob, ow, owb⟩ := hO
  have no : ¬ p_S po pf pt o := by
    rintro (z | z | z)
    · exact g_neOO o1 p1 (by decide) z
    · exact g_neOA o1 p4 z
    · exact g_neOA o1 p5 z
  have nb : ¬ p_S po pf pt b := by
    rintro (z | z | z)
    · exact g_neOA p1 ob z.symm
    · exact g_neAA ob p4 (by omega) z
    · exact g_neAA ob p5 (by omega) z
  have nw : ¬ p_S po pf pt wo := by
    rintro (z | z | z)
    · exact g_neOO ow p1 (by decide) z
    · exact g_neOA ow p4 z
    · exact g_neOA ow p5 z
  refine ⟨⟨⟨f.O o1, ?_, ?_, ?_, ?_⟩, hP, f.A och, f.A ob, f.O ow, ?_⟩, (f.2 b nb).1, (f.2 o no).1⟩
  · rw [(f.2 o no).2]; exact o2
  · rw [(f.2 o no).2]; exact o3
  · rw [(f.2 o no).2]; exact o4
  · rw [(f.2 o no).2]; exact o5
  · rw [(f.2 wo nw).2]; exact owb
end OPS
