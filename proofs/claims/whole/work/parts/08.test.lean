def t_E2 : q_H := [.inr (7, [.ref 2, .null, .int 0]), .inl (0, 246408, .inl (fun _ => 0)), .inr (3, (List.range 14).map (fun j => defaultValue (q_Ty 3 j)))]
def t_call (y : Nat) (as : List Value) (E : q_H) : Option q_X := some (none, E, 0, 0)
set_option maxRecDepth 100000 in
theorem t_a : (List.range 4).all (fun i => (match q_run t_call 3 2 true (q_code 3) none 40 0 [(0, .ref 4), (1, .ref 0)] [] t_E2 i 0 with | some _ => true | none => false)) = true := by decide +kernel
