/-! the two constructors, exactly -/
set_option maxRecDepth 100000 in
theorem p_house : q_callf 4000 20 11 [.ref 0] p_E0 = some (none, p_EH, 223, 283975) := q_eqX_s (by decide +kernel)
def p_E1 : q_H := p_EH ++ [.inr (12, (List.range 78).map (fun j => defaultValue (q_Ty 12 j)))]
/-- what a dropped tree comes to, by its number -/
def p_tb (y : Nat) (as : List Value) (E : q_H) : Option q_X := bif y == 13 then (match as with
  | [.ref a, .int k] => bif a == 448 && decide (k.toNatClampNeg < 8) && decide (k = Int32.ofNat k.toNatClampNeg) && q_eqH E (p_P k.toNatClampNeg) then some (none, p_P (k.toNatClampNeg + 1), 0, 0) else none
  | _ => none) else none
theorem p_dt : ∀ j, j < 8 → q_callf 100000 19 13 [.ref 448, .int (Int32.ofNat j)] (p_P j) = some (none, p_P (j + 1), 0, 0)
  | 0, _ => p_dt0
  | 1, _ => p_dt1
  | 2, _ => p_dt2
  | 3, _ => p_dt3
  | 4, _ => p_dt4
  | 5, _ => p_dt5
  | 6, _ => p_dt6
  | 7, _ => p_dt7
  | j + 8, h => absurd h (by omega)
theorem p_tb_s {y : Nat} {as : List Value} {E : q_H} {x : q_X} (h : p_tb y as E = some x) : q_callf 100000 19 y as E = some x := by
  unfold p_tb at h
  cases hy : y == 13 with
  | false => rw [hy] at h; cases h
  | true =>
    rw [hy] at h
    have e1 := eq_of_beq hy
    subst e1
    dsimp only [cond_true] at h
    split at h
    · rename_i a k
      cases hb : (a == 448 && decide (k.toNatClampNeg < 8) && decide (k = Int32.ofNat k.toNatClampNeg) && q_eqH E (p_P k.toNatClampNeg)) with
      | false => rw [hb] at h; cases h
      | true =>
        rw [hb] at h
        cases h
        simp only [Bool.and_eq_true, beq_iff_eq, decide_eq_true_eq] at hb
        obtain ⟨⟨⟨rfl, h2⟩, h3⟩, h4⟩ := hb
        have h5 := p_dt _ h2
        rw [← h3] at h5
        rw [q_eqH_s h4]
        exact h5
    · cases h
def p_call (y : Nat) (as : List Value) (E : q_H) : Option q_X := match p_tb y as E with
  | some x => some x
  | none => q_callf 100000 19 y as E
theorem p_call_eq : p_call = q_callf 100000 19 := by
  funext y as E
  unfold p_call
  split
  · rename_i x h
    exact (p_tb_s h).symm
  · rfl
set_option maxRecDepth 1000000 in
theorem p_run12 : q_eqX (q_run p_call (q_own 12) (q_maxL 12) (q_ini 12) (q_code 12) (q_ret 12) 100000 0 [(0, .ref 448)] [] p_E1 0 0) none (p_EH ++ p_EM) 39 2950516 = true := by decide +kernel
theorem p_model : q_callf 100000 20 12 [.ref 448] p_E1 = some (none, p_EH ++ p_EM, 39, 2950516) := by
  refine q_cg rfl ?_
  rw [← p_call_eq]
  exact q_eqX_s p_run12
