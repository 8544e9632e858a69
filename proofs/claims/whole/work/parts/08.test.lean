def t_EH : q_H := [.inr (11, (List.range 19).map (fun j => defaultValue (q_Ty 11 j)))]
set_option maxRecDepth 100000 in
theorem t_H : (match q_callf 4000 20 11 [.ref 0] t_EH with | some (none, E, c, s) => decide (E.length = 231) || decide (c < 400) | _ => false) = true := by decide +kernel
