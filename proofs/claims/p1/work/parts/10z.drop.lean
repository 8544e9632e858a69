/-! the reference's constructor drops eight trees: each by itself -/
def p_l (n : Nat) (v : Int32) (j : Nat) : List (Nat × Int32) := (List.range j).reverse.map (fun x => (n * x, v))
def p_M (j : Nat) : q_H := [
  .inr (12, [.ref 450, .ref 452, .int 0, .int 0, .int 0, .int 0, .int 0, .int 0, .int 0, .ref 454, .int 0, .int 0, .ref 456, .int 0, .int 0, .int 0, .int 0, .int 0, .ref 458, .int 0, .ref 460, .int 0, .ref 462, .int 0, .int 0, .int 0, .int 0, .int 0, .int 0, .int 0, .ref 464, .ref 466, .int 0, .int 0, .ref 468, .ref 470, .ref 472, .ref 474, .ref 476, .ref 478, .int 0, .int 0, .int 0, .int 0, .int 0, .ref 480, .ref 482, .int (-1), .ref 484, .ref 486, .ref 488, .ref 490, .ref 492, .ref 494, .ref 496, .int 0, .int 0, .ref 498, .ref 500, .ref 502, .ref 504, .int 0, .ref 506, .ref 508, .int 0, .int 0, .int 0, .int 0, .ref 510, .ref 512, .ref 514, .ref 516, .ref 518, .ref 520, .ref 522, .ref 524, .ref 526, .int 0]),
  .inl (0, 2706210, .inl [(2706200, 10)]),
  .inl (1, 2000, .inl []),
  .inl (1, 80000, .inl []),
  .inl (1, 12, .inl []),
  .inl (1, 200, .inl []),
  .inl (1, 200, .inl []),
  .inl (1, 200, .inl []),
  .inl (1, 200, .inl []),
  .inl (1, 200, .inl []),
  .inl (1, 800, .inl []),
  .inl (2, 8, .inl []),
  .inl (1, 8, .inl []),
  .inl (1, 16, .inl []),
  .inl (2, 16, .inl []),
  .inl (2, 16, .inl []),
  .inl (2, 12000, .inl []),
  .inl (1, 12000, .inl []),
  .inl (2, 4800, .inl (p_l 600 1 j)),
  .inl (2, 4800, .inl (p_l 600 1 j)),
  .inl (1, 4800, .inl (p_l 600 0 j)),
  .inl (1, 48000, .inl []),
  .inl (1, 48000, .inl []),
  .inl (1, 8, .inl (p_l 1 0 j)),
  .inl (1, 8, .inl (p_l 1 0 j)),
  .inl (1, 6000, .inl []),
  .inl (1, 6000, .inl []),
  .inl (2, 6000, .inl []),
  .inl (2, 6000, .inl []),
  .inl (1, 200, .inl []),
  .inl (2, 200, .inl []),
  .inl (1, 2, .inl []),
  .inl (1, 2, .inl []),
  .inl (1, 2, .inl [(1, 1), (0, 1)]),
  .inl (1, 400, .inl []),
  .inl (1, 400, .inl []),
  .inl (2, 400, .inl []),
  .inl (2, 200, .inl []),
  .inl (2, 200, .inl []),
  .inl (1, 8, .inl [])]
def p_P (j : Nat) : q_H := p_EH ++ p_M j
set_option maxRecDepth 1000000 in
theorem p_dt0 : q_callf 100000 19 13 [.ref 448, .int 0] (p_P 0) = some (none, p_P 1, 0, 0) := q_eqX_s (by decide +kernel)
set_option maxRecDepth 1000000 in
theorem p_dt1 : q_callf 100000 19 13 [.ref 448, .int 1] (p_P 1) = some (none, p_P 2, 0, 0) := q_eqX_s (by decide +kernel)
set_option maxRecDepth 1000000 in
theorem p_dt2 : q_callf 100000 19 13 [.ref 448, .int 2] (p_P 2) = some (none, p_P 3, 0, 0) := q_eqX_s (by decide +kernel)
set_option maxRecDepth 1000000 in
theorem p_dt3 : q_callf 100000 19 13 [.ref 448, .int 3] (p_P 3) = some (none, p_P 4, 0, 0) := q_eqX_s (by decide +kernel)
set_option maxRecDepth 1000000 in
theorem p_dt4 : q_callf 100000 19 13 [.ref 448, .int 4] (p_P 4) = some (none, p_P 5, 0, 0) := q_eqX_s (by decide +kernel)
set_option maxRecDepth 1000000 in
theorem p_dt5 : q_callf 100000 19 13 [.ref 448, .int 5] (p_P 5) = some (none, p_P 6, 0, 0) := q_eqX_s (by decide +kernel)
set_option maxRecDepth 1000000 in
theorem p_dt6 : q_callf 100000 19 13 [.ref 448, .int 6] (p_P 6) = some (none, p_P 7, 0, 0) := q_eqX_s (by decide +kernel)
set_option maxRecDepth 1000000 in
theorem p_dt7 : q_callf 100000 19 13 [.ref 448, .int 7] (p_P 7) = some (none, p_P 8, 0, 0) := q_eqX_s (by decide +kernel)
