/-! WHAT THE CLASS TELLS: answer, state, number, size, byteAt -/
/-- the answer's bytes stand -/
def C_an (ι : Nat → Nat) (an : List Int) (M : g_M) : Prop := g_i M (ι 3) 1 = an.length ∧ an.length ≤ 8000 ∧ b_at (g_i M (ι 4)) 0 an
theorem C_an.of {ι : Nat → Nat} {an : List Int} {M : g_M} (h : c_Wr (ι 3) (ι 4) 8000 0 8000 an M) (hl : an.length ≤ 8000) : C_an ι an M := by
  rcases h.2.2.2.2 with ⟨-, z1, -, z2⟩ | ⟨-, -, -, z⟩
  · exact ⟨by rw [z1]; omega, hl, z2⟩
  · omega
def X_byte (l : List Int) (i : Int) : Int := if 0 ≤ i ∧ i < l.length then g_and ((l[i.toNat]?).getD 0) 255 else -1
section CTL
variable {d : Nat} {ι : Nat → Nat} {κ : Nat → Nat → Nat} {al sz : Nat → Nat × Nat} {cB eB : Int} {st : Nat → I_T} {D : Nat → List (Int × List b_E)} {gv : Nat → Int} {M M0 M1 : g_M} {x w : Nat} {an : List Int} {i k v : Int} {Q : Int → g_M → Prop}
theorem b_at_get {B : Int → Int} {p : Int} {l : List Int} (h : b_at B p l) (h0 : 0 ≤ i) (h1 : i < l.length) : B (p + i) = (l[i.toNat]?).getD 0 := by
  have hlt : i.toNat < l.length := by omega
  have h9 := h i.toNat (l[i.toNat]'hlt) (List.getElem?_eq_getElem hlt)
  rw [show p + ((i.toNat : Nat) : Int) = p + i by omega] at h9
  rw [h9, List.getElem?_eq_getElem hlt]
  rfl
theorem c_answer (hi : g_InR i) (H : C_H ι κ al sz cB eB st D gv M) (hA : C_an ι an M) (hq : Q (X_byte an i) M) : g_Call (d + 1) 199 [.ref (ι 0), g_n i] M (g_qI Q) := by
  obtain ⟨a1, a2, a3⟩ := hA
  unfold X_byte at hq
  refine m_X11_answer hi fun _ => ⟨fun z => ?_, fun z => ⟨H.1.O (by decide), ι 3, H.1.r (by decide), H.1.O (by decide), fun z2 => ⟨ι 3, H.1.r (by decide), H.1.O (by decide), ι 4, H.1.r (by decide), 8000, H.1.A (by decide), ⟨by decide, by decide⟩, fun z3 => ⟨ι 3, H.1.r (by decide), H.1.O (by decide), ι 4, H.1.r (by decide), 8000, H.1.A (by decide), ⟨by omega, by omega⟩, ?_⟩, fun z3 => ?_⟩, fun z2 => ?_⟩⟩
  · rw [if_neg (by omega)] at hq
    exact hq
  · rw [a1] at z2
    rw [if_pos ⟨by omega, z2⟩, ← b_at_get a3 (by omega) z2, Int.zero_add] at hq
    exact hq
  · rw [a1] at z2
    omega
  · rw [a1] at z2
    rw [if_neg (by omega)] at hq
    exact hq
theorem C_H.s2 (h : C_H ι κ al sz cB eB st D gv M) (hw : w < 2) : g_r M (ι 66) (w : Int) = some (ι (67 + w)) ∧ g_A M (ι 66) 4 2 ∧ g_r M (ι 0) 9 = some (ι 66) ∧ g_O M (ι (67 + w)) 8 := by
  have hw2 : w = 0 ∨ w = 1 := by omega
  rcases hw2 with e | e
  · subst e
    exact ⟨h.1.r (a := 66) (f := 0) (b := 67) (by decide), h.1.A (by decide), h.1.r (by decide), h.1.O (k := 67) (by decide)⟩
  · subst e
    exact ⟨h.1.r (a := 66) (f := 1) (b := 68) (by decide), h.1.A (by decide), h.1.r (by decide), h.1.O (k := 68) (by decide)⟩
/-- a document asked for -/
def X_dn (D : Nat → List (Int × List b_E)) (w i : Int) : Option (Int × List b_E) := if (w = 0 ∨ w = 1) ∧ 0 ≤ i then (D w.toNat)[i.toNat]? else none
theorem c_standsOn {w : Int} (hwR : g_InR w) (hi : g_InR i) (H : C_H ι κ al sz cB eB st D gv M) (hq : Q (if (X_dn D w i).isSome = true then 1 else 0) M) : g_Call (d + 1) 204 [.ref (ι 0), g_n w, g_n i] M (g_qI Q) := by
  have h9 : ∀ w2 : Nat, w2 < 2 → w = w2 → g_Run d 204 9 [(0, .ref (ι 0)), (1, g_n w), (2, g_n i)] [] M (g_qI Q) := fun w2 hw2 e => by
    obtain ⟨s1, s2, s3, s4⟩ := H.s2 hw2
    have hs := H.2.2.2.2.1 w2 hw2
    have c6 : g_i M (ι (67 + w2)) 6 = (D w2).length := hs.2.2.1.1
    have hl200 := hs.2.2.2.2.1.1
    rw [List.length_map] at hl200
    have et : w.toNat = w2 := by omega
    refine s_X11_standsOn_9 (a0 := ι 0) hwR hi fun _ => ⟨fun z => ?_, fun z => ⟨H.1.O (by decide), ι 66, s3, 2, s2, ⟨by omega, by omega⟩, ι (67 + w2), by rw [e]; exact s1, s4, fun z2 => ⟨fun z3 => ?_, fun z3 => ?_⟩, fun z2 => ?_⟩⟩
    · have hX : X_dn D w i = none := if_neg (by omega)
      rw [hX] at hq
      exact hq
    · rw [c6] at z2
      have hX : X_dn D w i = some ((D w2)[i.toNat]'(by omega)) := by
        unfold X_dn
        rw [if_pos ⟨by omega, by omega⟩, et, List.getElem?_eq_getElem (by omega)]
      rw [hX] at hq
      exact hq
    · rw [c6] at z2
      omega
    · rw [c6] at z2
      have hX : X_dn D w i = none := by
        unfold X_dn
        rw [if_pos ⟨by omega, by omega⟩, et, List.getElem?_eq_none (by omega)]
      rw [hX] at hq
      exact hq
  refine m_X11_standsOn (d := d) hwR hi fun _ => ⟨fun z => h9 0 (by decide) (by omega), fun z => ⟨fun z2 => h9 1 (by decide) (by omega), fun z2 => ?_⟩⟩
  have hX : X_dn D w i = none := if_neg (by omega)
  rw [hX] at hq
  exact hq
theorem X_dn_s {w : Int} {z : Int × List b_E} (h : X_dn D w i = some z) : ∃ w2 : Nat, w2 < 2 ∧ w = w2 ∧ 0 ≤ i ∧ (D w2)[i.toNat]? = some z := by
  unfold X_dn at h
  by_cases g : (w = 0 ∨ w = 1) ∧ 0 ≤ i
  · rw [if_pos g] at h
    exact ⟨w.toNat, by omega, by omega, g.2, h⟩
  · rw [if_neg g] at h
    exact absurd h (by simp)
theorem c_number {w : Int} (hwR : g_InR w) (hi : g_InR i) (H : C_H ι κ al sz cB eB st D gv M) (hq : Q (match X_dn D w i with
  | none => 0
  | some z => z.1) M) : g_Call (d + 2) 201 [.ref (ι 0), g_n w, g_n i] M (g_qI Q) := by
  refine m_X11_number (d := d + 1) hwR hi fun _ => ⟨H.1.O (by decide), c_standsOn (d := d) hwR hi H ?_⟩
  intro _ _ _
  cases hx : X_dn D w i with
  | none =>
    rw [hx] at hq
    exact ⟨fun _ => hq, fun g => absurd rfl g⟩
  | some z =>
    rw [hx] at hq
    obtain ⟨w2, hw2, e, i0, hz⟩ := X_dn_s hx
    obtain ⟨s1, s2, s3, s4⟩ := H.s2 hw2
    have hs := H.2.2.2.2.1 w2 hw2
    have hl200 := hs.2.2.2.2.1.1
    rw [List.length_map] at hl200
    have hlt := (List.getElem?_eq_some_iff.mp hz).1
    obtain ⟨p, p1, p2, p3, p4, p5, p6, p7, p8⟩ := hs.at hz
    rw [show ((i.toNat : Nat) : Int) = i by omega] at p5
    refine ⟨fun g => absurd (show (1 : Int) = 0 from g) (by decide), fun _ => ⟨ι 66, s3, 2, s2, ⟨by omega, by omega⟩, ι (67 + w2), by rw [e]; exact s1, s4, ι (70 + 4 * w2), hs.1.2.2.2.1, 200, hs.1.2.2.2.2.2.1, ⟨by omega, by omega⟩, ?_⟩⟩
    rw [p5]
    exact hq
theorem c_size {w : Int} (hwR : g_InR w) (hi : g_InR i) (H : C_H ι κ al sz cB eB st D gv M) (hq : Q (match X_dn D w i with
  | none => -1
  | some z => ((b_doc z.2).length : Int)) M) : g_Call (d + 2) 202 [.ref (ι 0), g_n w, g_n i] M (g_qI Q) := by
  refine m_X11_size (d := d + 1) hwR hi fun _ => ⟨H.1.O (by decide), c_standsOn (d := d) hwR hi H ?_⟩
  intro _ _ _
  cases hx : X_dn D w i with
  | none =>
    rw [hx] at hq
    exact ⟨fun _ => hq, fun g => absurd rfl g⟩
  | some z =>
    rw [hx] at hq
    obtain ⟨w2, hw2, e, i0, hz⟩ := X_dn_s hx
    obtain ⟨s1, s2, s3, s4⟩ := H.s2 hw2
    have hs := H.2.2.2.2.1 w2 hw2
    have hl200 := hs.2.2.2.2.1.1
    rw [List.length_map] at hl200
    have hlt := (List.getElem?_eq_some_iff.mp hz).1
    obtain ⟨p, p1, p2, p3, p4, p5, p6, p7, p8⟩ := hs.at hz
    rw [show ((i.toNat : Nat) : Int) = i by omega] at p1
    have hdl := b_doc_len z.2
    have hel := b_el_len 3 [] (b_doc z.2)
    rw [List.length_nil] at hel
    have q5 := p2.2.2.2.2
    have q4 := p2.2.2.2.1
    obtain ⟨v1', -, -, -⟩ := p2.val
    have v1'' : b_at (g_i M (ι 2)) (p + 2 + (([] : List Int).length : Int)) (b_le4 (((b_ser z.2).length : Int) + 5) ++ (b_ser z.2 ++ [0])) := v1'
    rw [List.length_nil] at v1''
    obtain ⟨c1, -⟩ := b_app.mp v1''
    refine ⟨fun g => absurd (show (1 : Int) = 0 from g) (by decide), fun _ => ⟨ι 2, H.1.r (by decide), ι 66, s3, 2, s2, ⟨by omega, by omega⟩, ι (67 + w2), by rw [e]; exact s1, s4, ι (69 + 4 * w2), hs.1.2.2.1, 200, hs.1.2.2.2.2.1, ⟨by omega, by omega⟩, by rw [p1]; exact ⟨by omega, by omega⟩, ?_⟩⟩
    rw [p1]
    refine c_w4 (d := d) (n := 246408) (H.1.A (by decide)) ⟨by decide, by decide⟩ (by omega) (by omega) ?_
    rw [show p + 2 = p + 2 + ((0 : Nat) : Int) by omega, b_w4_le4 (by omega) (by omega) c1, show (((b_ser z.2).length : Int) + 5) = ((b_doc z.2).length : Int) by omega]
    intro _ _ _
    exact hq
theorem c_byteAt {w : Int} (hwR : g_InR w) (hi : g_InR i) (hk : g_InR k) (H : C_H ι κ al sz cB eB st D gv M) (hq : Q (match X_dn D w i with
  | none => -1
  | some z => X_byte (b_doc z.2) k) M) : g_Call (d + 2) 203 [.ref (ι 0), g_n w, g_n i, g_n k] M (g_qI Q) := by
  refine m_X11_byteAt (d := d + 1) hwR hi hk fun _ => ⟨H.1.O (by decide), c_standsOn (d := d) hwR hi H ?_⟩
  intro _ _ _
  cases hx : X_dn D w i with
  | none =>
    rw [hx] at hq
    exact ⟨fun _ => hq, fun g => absurd rfl g⟩
  | some z =>
    rw [hx] at hq
    have hq : Q (X_byte (b_doc z.2) k) M := hq
    unfold X_byte at hq
    obtain ⟨w2, hw2, e, i0, hz⟩ := X_dn_s hx
    obtain ⟨s1, s2, s3, s4⟩ := H.s2 hw2
    have hs := H.2.2.2.2.1 w2 hw2
    have hl200 := hs.2.2.2.2.1.1
    rw [List.length_map] at hl200
    have hlt := (List.getElem?_eq_some_iff.mp hz).1
    obtain ⟨p, p1, p2, p3, p4, p5, p6, p7, p8⟩ := hs.at hz
    rw [show ((i.toNat : Nat) : Int) = i by omega] at p1
    have hdl := b_doc_len z.2
    have hel := b_el_len 3 [] (b_doc z.2)
    rw [List.length_nil] at hel
    have q5 := p2.2.2.2.2
    have q4 := p2.2.2.2.1
    obtain ⟨v1', -, -, -⟩ := p2.val
    have v1'' : b_at (g_i M (ι 2)) (p + 2 + (([] : List Int).length : Int)) (b_le4 (((b_ser z.2).length : Int) + 5) ++ (b_ser z.2 ++ [0])) := v1'
    rw [List.length_nil] at v1' v1''
    obtain ⟨c1, -⟩ := b_app.mp v1''
    refine ⟨fun g => absurd (show (1 : Int) = 0 from g) (by decide), fun _ => ⟨fun z0 => ?_, fun z0 => ⟨ι 66, s3, 2, s2, ⟨by omega, by omega⟩, ι (67 + w2), by rw [e]; exact s1, s4, ι (69 + 4 * w2), hs.1.2.2.1, 200, hs.1.2.2.2.2.1, ⟨by omega, by omega⟩, by rw [p1]; exact ⟨by omega, by omega⟩, ι 2, H.1.r (by decide), ?_⟩⟩⟩
    · rw [if_neg (by omega)] at hq
      exact hq
    rw [p1]
    refine c_w4 (d := d) (n := 246408) (H.1.A (by decide)) ⟨by decide, by decide⟩ (by omega) (by omega) ?_
    rw [show p + 2 = p + 2 + ((0 : Nat) : Int) by omega, b_w4_le4 (by omega) (by omega) c1, show (((b_ser z.2).length : Int) + 5) = ((b_doc z.2).length : Int) by omega]
    intro _ _ _
    refine ⟨fun z1 => ⟨⟨by omega, by omega⟩, ι 2, H.1.r (by decide), 246408, H.1.A (by decide), ⟨by decide, by decide⟩, fun z2 => ⟨ι 2, H.1.r (by decide), ⟨by omega, by omega⟩, 246408, H.1.A (by decide), ⟨by omega, by omega⟩, ?_⟩, fun z2 => absurd (by omega) z2⟩, fun z1 => ?_⟩
    · rw [if_pos ⟨by omega, z1⟩, ← b_at_get v1' (by omega) z1] at hq
      exact hq
    · rw [if_neg (by omega)] at hq
      exact hq
end CTL
