/-! CHANGES: the reference: one path begins another -/
section RBEG
variable {d m b : Nat} {M : g_M} {Q : Int → g_M → Prop}
theorem e_along {q1 q2 : Int} {D D2 : Nat} {x y : b_E} (hR : e_R M m b) (hx : b_st (g_i M b) 2706210 q1 D x.1 x.2.1 x.2.2) (hy : b_st (g_i M b) 2706210 q2 D2 y.1 y.2.1 y.2.2) (h : Q (if X_bg x.2.1 y.2.1 = true then 1 else 0) M) : g_Call (d + 3) 303 [.ref m, g_n q1, g_n q2] M (g_qI Q) := by
  have h46 : ∀ v : Int, -128 ≤ v → v ≤ 127 → (g_and v 255 = 46 ↔ v = 46) := fun v a1 a2 => by
    rw [g_and255 a1 a2]
    omega
  have hxR := hx.R (by decide)
  have hyR := hy.R (by decide)
  have hxl := b_el_len x.1 x.2.1 x.2.2
  have hyl := b_el_len y.1 y.2.1 y.2.2
  have hx5 := hx.2.2.2.2
  have hy5 := hy.2.2.2.2
  have hx4 := hx.2.2.2.1
  have hy4 := hy.2.2.2.1
  have hxb := hx.nmb
  have hyb := hy.nmb
  have hlp : ∀ (r k : Nat), k + r = min x.2.1.length y.2.1.length → x.2.1.take k = y.2.1.take k → g_Run (d + 2) 303 38 [(0, .ref m), (1, g_n q1), (2, g_n q2), (3, g_n x.2.1.length), (4, g_n y.2.1.length), (5, g_n ((min x.2.1.length y.2.1.length : Nat) : Int)), (6, g_n k)] [] M (g_qI Q) := by
    intro r
    induction r with
    | zero =>
      intro k hk heq
      have hk0 : k = min x.2.1.length y.2.1.length := by omega
      rw [hk0] at heq
      have hend : ∀ (z : List Int) (w : Int), b_at (g_i M b) (w + 1) z → min x.2.1.length y.2.1.length < z.length → (if y.2.1.length < x.2.1.length then x.2.1 else y.2.1) = z → ¬ x.2.1.length = y.2.1.length → g_ok M → (g_and (g_i M b (w + 1 + (min x.2.1.length y.2.1.length : Nat))) 255 = 46 → Q 1 M) ∧ (¬ g_and (g_i M b (w + 1 + (min x.2.1.length y.2.1.length : Nat))) 255 = 46 → Q 0 M) := by
        intro z w hz hlt hif hne hok
        obtain ⟨a, ha⟩ : ∃ a, z[min x.2.1.length y.2.1.length]? = some a := ⟨_, List.getElem?_eq_getElem hlt⟩
        have hza := hz _ a ha
        have hby := hok.byte hR.2.2 (w + 1 + (min x.2.1.length y.2.1.length : Nat))
        have h46' := h46 _ hby.1 hby.2
        rw [hza] at h46' ⊢
        have hbg : X_bg x.2.1 y.2.1 = decide (a = 46) := by
          unfold X_bg
          rw [hif, ha, decide_eq_true heq, decide_eq_false hne]
          simp
        rw [hbg] at h
        refine ⟨fun g => ?_, fun g => ?_⟩
        · rwa [if_pos (decide_eq_true (h46'.mp g))] at h
        · rwa [if_neg (by rw [decide_eq_false fun zz => g (h46'.mpr zz)]; decide)] at h
      refine s_X12_areAlong_38 hxR hyR ⟨by omega, by omega⟩ ⟨by omega, by omega⟩ ⟨by omega, by omega⟩ ⟨by omega, by omega⟩ fun hok => ⟨fun g => absurd g (by omega), fun _ => ⟨fun gl => ?_, fun gl => ⟨fun g => ⟨⟨by omega, by omega⟩, ⟨by omega, by omega⟩, hR.1, e_at (d := d + 1) hR (by omega) (by omega) ?_⟩, fun g => ⟨⟨by omega, by omega⟩, ⟨by omega, by omega⟩, hR.1, e_at (d := d + 1) hR (by omega) (by omega) ?_⟩⟩⟩⟩
      · have hbg : X_bg x.2.1 y.2.1 = true := by
          unfold X_bg
          rw [decide_eq_true heq, decide_eq_true (by omega : x.2.1.length = y.2.1.length)]
          rfl
        rwa [if_pos hbg] at h
      · intro _ _ _
        have h9 := hend y.2.1 q2 hyb (by omega) (if_neg (by omega)) (by omega) hok
        rwa [show ((min x.2.1.length y.2.1.length : Nat) : Int) = x.2.1.length by omega] at h9
      · intro _ _ _
        have h9 := hend x.2.1 q1 hxb (by omega) (if_pos (by omega)) (by omega) hok
        rwa [show ((min x.2.1.length y.2.1.length : Nat) : Int) = y.2.1.length by omega] at h9
    | succ r ih =>
      intro k hk heq
      obtain ⟨a, ha⟩ : ∃ a, x.2.1[k]? = some a := ⟨_, List.getElem?_eq_getElem (by omega)⟩
      obtain ⟨a2, ha2⟩ : ∃ a, y.2.1[k]? = some a := ⟨_, List.getElem?_eq_getElem (by omega)⟩
      have h1 := hxb k a ha
      have h2 := hyb k a2 ha2
      have htx : x.2.1.take (k + 1) = x.2.1.take k ++ [a] := by rw [List.take_add_one, ha]; rfl
      have hty : y.2.1.take (k + 1) = y.2.1.take k ++ [a2] := by rw [List.take_add_one, ha2]; rfl
      refine s_X12_areAlong_38 hxR hyR ⟨by omega, by omega⟩ ⟨by omega, by omega⟩ ⟨by omega, by omega⟩ ⟨by omega, by omega⟩ fun _ => ⟨fun _ => ⟨hR.1, b, hR.2.1, ⟨by omega, by omega⟩, ⟨by omega, by omega⟩, _, hR.2.2, ⟨by omega, by omega⟩, b, hR.2.1, ⟨by omega, by omega⟩, ⟨by omega, by omega⟩, _, hR.2.2, ⟨by omega, by omega⟩, fun g => ⟨⟨by omega, by omega⟩, ih (k + 1) (by omega) ?_⟩, fun g => ?_⟩, fun g => absurd (by omega) g⟩
      · rw [htx, hty, heq]
        rw [h1, h2] at g
        rw [g]
      · rw [h1, h2] at g
        have hbg : X_bg x.2.1 y.2.1 = false := by
          unfold X_bg
          rw [decide_eq_false fun z => g ?_]
          · rfl
          · have z2 := congrArg (List.take (k + 1)) z
            rw [List.take_take, List.take_take, show min (k + 1) (min x.2.1.length y.2.1.length) = k + 1 by omega, htx, hty, heq] at z2
            have z3 := List.append_cancel_left z2
            exact (List.cons.inj z3).1
        rwa [if_neg (by rw [hbg]; decide)] at h
  refine m_X12_areAlong hxR hyR fun _ => ⟨hR.1, e_nameEnd (d := d + 1) hR hx.nm ?_⟩
  intro _ _ _
  refine ⟨⟨by omega, by omega⟩, ⟨by omega, by omega⟩, e_nameEnd (d := d + 1) hR hy.nm ?_⟩
  intro _ _ _
  rw [show q1 + 1 + (x.2.1.length : Int) - q1 - 1 = x.2.1.length by omega, show q2 + 1 + (y.2.1.length : Int) - q2 - 1 = y.2.1.length by omega]
  refine ⟨⟨by omega, by omega⟩, ⟨by omega, by omega⟩, fun g => ?_, fun g => ?_⟩
  · have h9 := hlp (min x.2.1.length y.2.1.length) 0 (by omega) rfl
    rwa [show ((min x.2.1.length y.2.1.length : Nat) : Int) = x.2.1.length by omega] at h9
  · have h9 := hlp (min x.2.1.length y.2.1.length) 0 (by omega) rfl
    rwa [show ((min x.2.1.length y.2.1.length : Nat) : Int) = y.2.1.length by omega] at h9
end RBEG
