/-! ELEMENTS at one place are one; NOTHING in the place of what is missing -/
theorem b_at_pre {B : Int → Int} {p : Int} {x : List Int} {N : Nat} (h : b_at B p x) (hN : x.length ≤ N) : ∃ s, x ++ s = (List.range N).map fun i : Nat => B (p + i) := by
  refine ⟨((List.range N).map fun i : Nat => B (p + i)).drop x.length, ?_⟩
  have : x = ((List.range N).map fun i : Nat => B (p + i)).take x.length := by
    refine List.ext_getElem (by rw [List.length_take, List.length_map, List.length_range]; omega) fun i h1 h2 => ?_
    rw [List.getElem_take, List.getElem_map, List.getElem_range]
    exact (h i _ (List.getElem?_eq_getElem h1)).symm
  conv => lhs; lhs; rw [this]
  exact List.take_append_drop _ _
theorem b_st_un {B : Int → Int} {n n2 p k k2 : Int} {D D2 : Nat} {nm nm2 vb vb2 : List Int} (h : b_st B n p D k nm vb) (h2 : b_st B n2 p D2 k2 nm2 vb2) : k = k2 ∧ nm = nm2 ∧ vb = vb2 := by
  have hk : k = k2 := h.val.2.2.2.symm.trans h2.val.2.2.2
  subst hk
  obtain ⟨a1, a2, a3, a4⟩ := b_el_at h.1
  obtain ⟨c1, c2, c3, c4⟩ := b_el_at h2.1
  have e1 := b_el_len k nm vb
  have e2 := b_el_len k nm2 vb2
  -- both lie ahead of one long row
  obtain ⟨s, hs⟩ := b_at_pre (N := (b_el k nm vb).length + (b_el k nm2 vb2).length) h.1 (by omega)
  obtain ⟨t, ht⟩ := b_at_pre (N := (b_el k nm vb).length + (b_el k nm2 vb2).length) h2.1 (by omega)
  have hst : k :: (nm ++ 0 :: (vb ++ s)) = k :: (nm2 ++ 0 :: (vb2 ++ t)) := by
    have h9 := hs.trans ht.symm
    unfold b_el at h9
    simpa using h9
  obtain ⟨-, h3⟩ := List.cons.inj hst
  obtain ⟨h4, h5⟩ := b_nz_split h.2.1 h2.2.1 h3
  have h6 := b_vs_len (b_gv_vs h.2.2.1) (b_gv_vs h2.2.2.1) h5
  exact ⟨rfl, h4, (List.append_inj h5 h6).1⟩
theorem b_st_un1 {B : Int → Int} {n n2 : Int} {D D2 : Nat} {y z : Int × b_E} (h : b_st B n y.1 D y.2.1 y.2.2.1 y.2.2.2) (h2 : b_st B n2 z.1 D2 z.2.1 z.2.2.1 z.2.2.2) (he : y.1 = z.1) : y = z := by
  obtain ⟨p, k, nm, vb⟩ := y
  obtain ⟨q, k2, nm2, vb2⟩ := z
  change p = q at he
  subst he
  obtain ⟨h3, h4, h5⟩ := b_st_un h h2
  change k = k2 at h3
  change nm = nm2 at h4
  change vb = vb2 at h5
  rw [h3, h4, h5]
theorem O_at_un {B : Int → Int} {n n2 : Int} {y z : Option (Int × b_E)} (h : O_at B n y) (h2 : O_at B n2 z) (he : L_opt y = L_opt z) : y = z := by
  rcases y with _ | y
  · rcases z with _ | z
    · rfl
    · have := (h2 z rfl).2.2.2.1
      change -1 = z.1 at he
      omega
  · rcases z with _ | z
    · have := (h y rfl).2.2.2.1
      change y.1 = -1 at he
      omega
    · exact congrArg some (b_st_un1 (h y rfl) (h2 z rfl) he)
/-- nothing, in the place of what is missing: in the class at 0, in the reference at 2706200 -/
def J_no (q : Int) : Option (Int × b_E) → Int × b_E
  | none => (q, 10, [], [])
  | some z => z
theorem J_no_on (y : Option (Int × b_E)) (q : Int) : (J_no q y).1 = L_on q y := by cases y <;> rfl
theorem b_gv_no (D : Nat) : b_gv D 10 [] := by
  have h : b_lf 10 [] := Or.inr (Or.inr (Or.inr (Or.inl ⟨rfl, rfl⟩)))
  cases D with
  | zero => exact h
  | succ D => exact Or.inl h
theorem b_st_no {B : Int → Int} {n q : Int} (h : b_at B q [10, 0]) (h0 : 0 ≤ q) (h1 : q + 2 ≤ n) (D : Nat) : b_st B n q D 10 [] [] := ⟨h, fun c hc => absurd hc (by simp), b_gv_no D, h0, h1⟩
section ORNO
variable {d : Nat} {M : g_M} {Q : Int → g_M → Prop}
theorem e_orNothing {y : Option (Int × b_E)} (hR : g_InR (L_opt y)) (h0 : ∀ z, y = some z → 0 ≤ z.1) (h : Q (J_no 2706200 y).1 M) : g_Call (d + 1) 329 [g_n (L_opt y)] M (g_qI Q) := by
  refine m_X12_orNothing hR fun _ => ⟨fun g => ?_, fun g => ?_⟩
  · rcases y with _ | z
    · exact h
    · have := h0 z rfl
      change z.1 = -1 at g
      omega
  · rcases y with _ | z
    · exact absurd rfl g
    · exact h
end ORNO
