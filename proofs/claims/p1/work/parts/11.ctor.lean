/-! the two constructors, exactly -/
set_option maxRecDepth 100000 in
theorem p_house : q_callf 4000 20 11 [.ref 0] p_E0 = some (none, p_EH, 223, 283975) := q_eqX_s (by decide +kernel)
def p_E1 : q_H := p_EH ++ [.inr (12, (List.range 78).map (fun j => defaultValue (q_Ty 12 j)))]
set_option maxRecDepth 1000000 in
theorem p_model : q_callf 100000 20 12 [.ref 448] p_E1 = some (none, p_EH ++ p_EM, 39, 2950516) := q_eqX_s (by decide +kernel)
