/-! TREES OF THE CLASS: entries in slots -/
/-- an entry stands in a slot -/
def B_e (S : B_S) (s : Nat) (e : I_E) : Prop := b_at (S.2.1 0) (132 * s) (b_el e.1.1 [] e.1.2) ∧ b_at (S.2.1 0) (132 * s + 66) (b_el e.2.1.1 [] e.2.1.2) ∧ S.2.1 1 s = e.2.2
section BE
variable {d t : Nat} {S : B_S} {M : g_M} {j : Nat}
theorem B_e.st {s : Nat} {e : I_E} (h : B_e S s e) (hg : I_eg e) (hl : S.1 0 = 132 * B_cs j) (hs : (s : Int) < B_cs j) {ky : Nat} (hk : ∀ q : Int, 0 ≤ q → q < S.1 0 → g_i M ky q = S.2.1 0 q) : b_st (g_i M ky) (S.1 0) (132 * s) 16 e.1.1 [] e.1.2 ∧ b_st (g_i M ky) (S.1 0) (132 * s + 66) 16 e.2.1.1 [] e.2.1.2 := by
  obtain ⟨h1, h2, -⟩ := h
  obtain ⟨⟨g1, g2⟩, ⟨g3, g4⟩, -⟩ := hg
  have l1 := b_el_len e.1.1 [] e.1.2
  have l2 := b_el_len e.2.1.1 [] e.2.1.2
  rw [List.length_nil] at l1 l2
  refine ⟨⟨b_at_keep h1 fun q q1 q2 => (hk q (by omega) (by omega)), fun c hc => absurd hc (by simp), g1, by omega, by omega⟩, ⟨b_at_keep h2 fun q q1 q2 => (hk q (by omega) (by omega)), fun c hc => absurd hc (by simp), g3, by omega, by omega⟩⟩
theorem c_compareSlots {Q : Int → g_M → Prop} {s s2 : Nat} {e e2 : I_E} {w1 w2 : Int} (h : B_t t S M) (hl : S.1 0 = 132 * B_cs j) (hl1 : S.1 1 = B_cs j) (hj : j ≤ 12) (hs : (s : Int) < B_cs j) (hs2 : (s2 : Int) < B_cs j) (he : B_e S s e) (he2 : B_e S s2 e2) (hg : I_eg e) (hg2 : I_eg e2) (hw1 : I_w w1) (hw2 : I_w w2) (h12 : S.2.2 12 = w1) (h13 : S.2.2 13 = w2) (hq : Q (I_c w1 w2 e e2) M) : g_Call (d + 45) 180 [.ref t, g_n s, g_n s2] M (g_qI Q) := by
  have hcs := B_cs_le ⟨j, by omega⟩
  simp only at hcs
  obtain ⟨ky, k1, k2, k3⟩ := h.at (k := 0) (by decide)
  obtain ⟨nu, n1, n2, n3⟩ := h.at (k := 1) (by decide)
  have k2 : g_A M ky 0 (S.1 0) := k2
  have n2 : g_A M nu 1 (S.1 1) := n2
  obtain ⟨p1, p2⟩ := he.st hg hl hs k3
  obtain ⟨q1, q2⟩ := he2.st hg2 hl hs2 k3
  have r1 := (v_vc_T 61).r e.1 e2.1
  have r2 := (v_vc_T 61).r e.2.1 e2.2.1
  have hm1 : v_vc 61 e.1 e2.1 * w1 = I_kc w1 e.1 e2.1 := Int.mul_comm _ _
  have hm2 : v_vc 61 e.2.1 e2.2.1 * w2 = I_kc w2 e.2.1 e2.2.1 := Int.mul_comm _ _
  have r3 := (I_kc_T hw1).r e.1 e2.1
  have r4 := (I_kc_T hw2).r e.2.1 e2.2.1
  have h68 : ∀ (v : Int) , g_InR v → (v = 0 → Q (v_tcmp e.2.2 e2.2.2) M) → (v ≠ 0 → Q v M) → g_Run (d + 44) 180 68 [(0, .ref t), (1, g_n s), (2, g_n s2), (3, g_n (s * 132)), (4, g_n (s2 * 132)), (5, g_n v)] [] M (g_qI Q) := fun v hv g0 g1 => by
    refine s_X10_compareSlots_68 ⟨by omega, by omega⟩ ⟨by omega, by omega⟩ ⟨by omega, by omega⟩ ⟨by omega, by omega⟩ hv fun _ => ⟨fun z => ⟨h.1, nu, n1, S.1 1, n2, ⟨by omega, by omega⟩, nu, n1, S.1 1, n2, ⟨by omega, by omega⟩, ?_⟩, g1⟩
    rw [n3 _ (by omega) (by omega), n3 _ (by omega) (by omega), he.2.2, he2.2.2]
    refine v_tcmp_J hg.2.2 hg2.2.2 ?_
    intro _ _ _
    exact g0 z
  refine m_X10_compareSlots ⟨by omega, by omega⟩ ⟨by omega, by omega⟩ fun _ => ⟨⟨by omega, by omega⟩, ⟨by omega, by omega⟩, h.1, ky, k1, ky, k1, ?_⟩
  rw [show (s : Int) * 132 = 132 * s by omega, show (s2 : Int) * 132 = 132 * s2 by omega]
  refine c_compare 16 (F := 60) (d := d + 8) k2 k2 (by omega) (by omega) (by have := hg.1.2; omega) p1 q1 (by decide) (by decide) (by decide) ?_
  intro _ _ _
  rw [h.2.1 12, h12]
  have e0 : v_cmp (60 + 1) e.1.1 e.1.2 e2.1.1 e2.1.2 * w1 = I_kc w1 e.1 e2.1 := hm1
  rw [e0]
  refine ⟨⟨by omega, by omega⟩, fun z => ⟨ky, k1, ⟨by omega, by omega⟩, ky, k1, ⟨by omega, by omega⟩, ?_⟩, fun z => ?_⟩
  · refine c_compare 16 (F := 60) (d := d + 8) k2 k2 (by omega) (by omega) (by have := hg.2.1.2; omega) p2 q2 (by decide) (by decide) (by decide) ?_
    intro _ _ _
    rw [h.2.1 13, h13]
    have e0 : v_cmp (60 + 1) e.2.1.1 e.2.1.2 e2.2.1.1 e2.2.1.2 * w2 = I_kc w2 e.2.1 e2.2.1 := hm2
    rw [e0]
    refine ⟨⟨by omega, by omega⟩, ?_⟩
    have h9 := h68 (I_kc w2 e.2.1 e2.2.1) ⟨by omega, by omega⟩ (fun z2 => by
      have : I_c w1 w2 e e2 = v_tcmp e.2.2 e2.2.2 := by
        unfold I_c
        rw [if_pos z, if_pos z2]
      rw [← this]
      exact hq) fun z2 => by
      have : I_c w1 w2 e e2 = I_kc w2 e.2.1 e2.2.1 := by
        unfold I_c
        rw [if_pos z, if_neg z2]
      rw [← this]
      exact hq
    rw [show (s : Int) * 132 = 132 * s by omega, show (s2 : Int) * 132 = 132 * s2 by omega] at h9
    exact h9
  · have h9 := h68 (I_kc w1 e.1 e2.1) ⟨by omega, by omega⟩ (fun z2 => absurd z2 z) fun z2 => by
      have : I_c w1 w2 e e2 = I_kc w1 e.1 e2.1 := by
        unfold I_c
        rw [if_neg z]
      rw [← this]
      exact hq
    rw [show (s : Int) * 132 = 132 * s by omega, show (s2 : Int) * 132 = 132 * s2 by omega] at h9
    exact h9
end BE
