/-! the constructors -/
theorem q_cg {F d y : Nat} {as : List Value} {E : q_H} {X : Option q_X} (h1 : (decide ((lg_sl as).length ≤ q_maxL y) && decide (as.length = q_na y + (bif q_stat y then 0 else 1))) = true) (h2 : q_run (q_callf F d) (q_own y) (q_maxL y) (q_ini y) (q_code y) (q_ret y) F 0 (lv_args 0 as) [] E 0 0 = X) : q_callf F (d + 1) y as E = X := by
  unfold q_callf
  simp only [q_nf_eq, q_fc_eq, h1]
  exact h2
set_option maxRecDepth 100000 in
theorem zp_house : q_callf 4000 20 192 [.ref 0] zp_E0 = some (none, zp_EH, 223, 283975) := q_eqX_s (by decide +kernel)
def zp_E1 : q_H := zp_EH ++ [.inr (12, (List.range 78).map (fun j => defaultValue (q_Ty 12 j)))]
def q_eqP (x : Option (Nat × q_L × List Value × q_H × Nat × Nat)) (pc : Nat) (lv : q_L) (st : List Value) (E : q_H) (c s : Nat) : Bool := match x with
  | some (pc1, lv1, st1, E1, c1, s1) => decide (pc1 = pc) && decide (lv1 = lv) && decide (st1 = st) && q_eqH E1 E && decide (c1 = c) && decide (s1 = s)
  | none => false
theorem q_eqP_s {x : Option (Nat × q_L × List Value × q_H × Nat × Nat)} {pc : Nat} {lv : q_L} {st : List Value} {E : q_H} {c s : Nat} (h : q_eqP x pc lv st E c s = true) : x = some (pc, lv, st, E, c, s) := by
  unfold q_eqP at h
  split at h
  · simp only [Bool.and_eq_true, decide_eq_true_eq] at h
    obtain ⟨⟨⟨⟨⟨rfl, rfl⟩, rfl⟩, h4⟩, rfl⟩, rfl⟩ := h
    rw [q_eqH_s h4]
  · cases h
set_option maxRecDepth 100000 in
theorem zp_pre : q_pref (q_own 225) (q_maxL 225) (q_ini 225) (q_code 225) (q_ret 225) 176 0 [(0, .ref 448)] [] zp_E1 0 0 = some (360, [(1, .int 0), (0, .ref 448)], [], zp_EH ++ zp_EL, 39, 2950516) := q_eqP_s (by decide +kernel)
