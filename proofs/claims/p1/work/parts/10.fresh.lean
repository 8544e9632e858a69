/-! calls on fresh objects: a house and its model, side by side on one heap -/
def p_E : q_H := p_EH ++ p_EM
set_option maxRecDepth 100000 in
theorem e_0 : p_E[0]? = some (.inr (11, [.ref 4, .ref 8, .ref 12, .ref 14, .ref 22, .ref 34, .ref 74, .ref 90, .ref 96, .ref 102, .ref 444, .ref 446, .int 0, .int 0, .int 0, .int 0, .ref 104, .int 0, .int 0])) := rfl
set_option maxRecDepth 100000 in
theorem e_51 : p_E[51]? = some (.inl (4, 2, .inr [(1, 274), (0, 104)])) := rfl
set_option maxRecDepth 100000 in
theorem e_52 : p_E[52]? = some (.inr (8, [.ref 4, .int 2008, .ref 106, .ref 108, .ref 112, .ref 110, .int 0, .int 0, .int 0, .int 2008])) := rfl
set_option maxRecDepth 100000 in
theorem e_137 : p_E[137]? = some (.inr (8, [.ref 4, .int 42408, .ref 276, .ref 278, .ref 282, .ref 280, .int 0, .int 0, .int 0, .int 42408])) := rfl
set_option maxRecDepth 100000 in
theorem e_224 : p_E[224]? = some (.inr (12, [.ref 450, .ref 452, .int 0, .int 0, .int 0, .int 0, .int 0, .int 0, .int 0, .ref 454, .int 0, .int 0, .ref 456, .int 0, .int 0, .int 0, .int 0, .int 0, .ref 458, .int 0, .ref 460, .int 0, .ref 462, .int 0, .int 0, .int 0, .int 0, .int 0, .int 0, .int 0, .ref 464, .ref 466, .int 0, .int 0, .ref 468, .ref 470, .ref 472, .ref 474, .ref 476, .ref 478, .int 0, .int 0, .int 0, .int 0, .int 0, .ref 480, .ref 482, .int (-1), .ref 484, .ref 486, .ref 488, .ref 490, .ref 492, .ref 494, .ref 496, .int 0, .int 0, .ref 498, .ref 500, .ref 502, .ref 504, .int 0, .ref 506, .ref 508, .int 0, .int 0, .int 0, .int 0, .ref 510, .ref 512, .ref 514, .ref 516, .ref 518, .ref 520, .ref 522, .ref 524, .ref 526, .int 0])) := rfl
set_option maxRecDepth 100000 in
theorem e_255 : p_E[255]? = some (.inl (1, 2, .inl [])) := rfl
set_option maxRecDepth 100000 in
theorem e_4 : p_E[4]? = some (.inr (4, [.ref 10, .int 0, .int 8000, .int 0])) := rfl
set_option maxRecDepth 100000 in
theorem e_2 : p_E[2]? = some (.inl (0, 246408, .inl [(2, 3), (0, 10)])) := rfl
set_option maxRecDepth 100000 in
theorem e_226 : p_E[226]? = some (.inl (1, 2000, .inl [])) := rfl
theorem s_A {a k : Int32} {d : Nat} (h0 : ¬ a = 0) (h1 : ¬ a = 1) : q_callf 4000 (d + 1) 26 [.ref 0, .int a, .int k] p_E = some (some (.int 0), p_E, 0, 0) := by
  refine q_cg rfl ?_
  refine q_sg x_26_0 rfl rfl (pc1 := 1) (lv1 := [(0, .ref 0), (1, .int a), (2, .int k)]) (st1 := [.int a]) rfl ?_
  refine q_s_if x_26_1 (t := 9) (by decide +kernel) (show q_c1 .eq a = false by simpa [q_c1] using h0) (pc1 := 4) rfl ?_
  refine q_sg x_26_4 rfl rfl (pc1 := 5) (lv1 := [(0, .ref 0), (1, .int a), (2, .int k)]) (st1 := [.int a]) rfl ?_
  refine q_sg x_26_5 rfl rfl (pc1 := 6) (lv1 := [(0, .ref 0), (1, .int a), (2, .int k)]) (st1 := [.int 1, .int a]) rfl ?_
  refine q_s_ic x_26_6 (t := 37) (by decide +kernel) (show q_c2 .ne a 1 = true by simpa [q_c2] using h1) (pc1 := 37) rfl ?_
  refine q_sg x_26_37 rfl rfl (pc1 := 38) (lv1 := [(0, .ref 0), (1, .int a), (2, .int k)]) (st1 := [.int 0]) rfl ?_
  exact q_sr x_26_38 rfl
theorem s_B0 {k : Int32} {d : Nat} (hk : k < 0) : q_callf 4000 (d + 1) 26 [.ref 0, .int 0, .int k] p_E = some (some (.int 0), p_E, 0, 0) := by
  refine q_cg rfl ?_
  refine q_sg x_26_0 rfl rfl (pc1 := 1) (lv1 := [(0, .ref 0), (1, .int 0), (2, .int k)]) (st1 := [.int 0]) rfl ?_
  refine q_sg x_26_1 rfl rfl (pc1 := 9) (lv1 := [(0, .ref 0), (1, .int 0), (2, .int k)]) (st1 := []) rfl ?_
  refine q_sg x_26_9 rfl rfl (pc1 := 10) (lv1 := [(0, .ref 0), (1, .int 0), (2, .int k)]) (st1 := [.int k]) rfl ?_
  refine q_s_if x_26_10 (t := 37) (by decide +kernel) (show q_c1 .lt k = true by simpa [q_c1] using hk) (pc1 := 37) rfl ?_
  refine q_sg x_26_37 rfl rfl (pc1 := 38) (lv1 := [(0, .ref 0), (1, .int 0), (2, .int k)]) (st1 := [.int 0]) rfl ?_
  exact q_sr x_26_38 rfl
theorem s_C0 {k : Int32} {d : Nat} (hk : ¬ k < 0) : q_callf 4000 (d + 1) 26 [.ref 0, .int 0, .int k] p_E = some (some (.int 0), p_E, 0, 0) := by
  refine q_cg rfl ?_
  refine q_sg x_26_0 rfl rfl (pc1 := 1) (lv1 := [(0, .ref 0), (1, .int 0), (2, .int k)]) (st1 := [.int 0]) rfl ?_
  refine q_sg x_26_1 rfl rfl (pc1 := 9) (lv1 := [(0, .ref 0), (1, .int 0), (2, .int k)]) (st1 := []) rfl ?_
  refine q_sg x_26_9 rfl rfl (pc1 := 10) (lv1 := [(0, .ref 0), (1, .int 0), (2, .int k)]) (st1 := [.int k]) rfl ?_
  refine q_s_if x_26_10 (t := 37) (by decide +kernel) (show q_c1 .lt k = false by simpa [q_c1] using hk) (pc1 := 13) rfl ?_
  refine q_sg x_26_13 rfl rfl (pc1 := 14) (lv1 := [(0, .ref 0), (1, .int 0), (2, .int k)]) (st1 := [.int k]) rfl ?_
  refine q_sg x_26_14 rfl rfl (pc1 := 15) (lv1 := [(0, .ref 0), (1, .int 0), (2, .int k)]) (st1 := [.ref 0, .int k]) rfl ?_
  refine q_s_get x_26_15 rfl (pc1 := 18) rfl (ci := 11) (k := 9) (ns := 0) (by decide +kernel) (q_ob e_0 rfl) (v := .ref 102) rfl ?_
  refine q_sg x_26_18 rfl rfl (pc1 := 19) (lv1 := [(0, .ref 0), (1, .int 0), (2, .int k)]) (st1 := [.int 0, .ref 102, .int k]) rfl ?_
  refine q_s_aal x_26_19 (pc1 := 20) rfl (q_aR e_51 rfl) (by decide +kernel) (v := .ref 104) rfl ?_
  refine q_s_get x_26_20 rfl (pc1 := 23) rfl (ci := 8) (k := 6) (ns := 1) (by decide +kernel) (q_ob e_52 rfl) (v := .int 0) rfl ?_
  refine q_s_ic x_26_23 (t := 37) (by decide +kernel) (show q_c2 .ge k 0 = true by simpa [q_c2] using (Int32.not_lt.mp hk)) (pc1 := 37) rfl ?_
  refine q_sg x_26_37 rfl rfl (pc1 := 38) (lv1 := [(0, .ref 0), (1, .int 0), (2, .int k)]) (st1 := [.int 0]) rfl ?_
  exact q_sr x_26_38 rfl
theorem s_B1 {k : Int32} {d : Nat} (hk : k < 0) : q_callf 4000 (d + 1) 26 [.ref 0, .int 1, .int k] p_E = some (some (.int 0), p_E, 0, 0) := by
  refine q_cg rfl ?_
  refine q_sg x_26_0 rfl rfl (pc1 := 1) (lv1 := [(0, .ref 0), (1, .int 1), (2, .int k)]) (st1 := [.int 1]) rfl ?_
  refine q_sg x_26_1 rfl rfl (pc1 := 4) (lv1 := [(0, .ref 0), (1, .int 1), (2, .int k)]) (st1 := []) rfl ?_
  refine q_sg x_26_4 rfl rfl (pc1 := 5) (lv1 := [(0, .ref 0), (1, .int 1), (2, .int k)]) (st1 := [.int 1]) rfl ?_
  refine q_sg x_26_5 rfl rfl (pc1 := 6) (lv1 := [(0, .ref 0), (1, .int 1), (2, .int k)]) (st1 := [.int 1, .int 1]) rfl ?_
  refine q_sg x_26_6 rfl rfl (pc1 := 9) (lv1 := [(0, .ref 0), (1, .int 1), (2, .int k)]) (st1 := []) rfl ?_
  refine q_sg x_26_9 rfl rfl (pc1 := 10) (lv1 := [(0, .ref 0), (1, .int 1), (2, .int k)]) (st1 := [.int k]) rfl ?_
  refine q_s_if x_26_10 (t := 37) (by decide +kernel) (show q_c1 .lt k = true by simpa [q_c1] using hk) (pc1 := 37) rfl ?_
  refine q_sg x_26_37 rfl rfl (pc1 := 38) (lv1 := [(0, .ref 0), (1, .int 1), (2, .int k)]) (st1 := [.int 0]) rfl ?_
  exact q_sr x_26_38 rfl
theorem s_C1 {k : Int32} {d : Nat} (hk : ¬ k < 0) : q_callf 4000 (d + 1) 26 [.ref 0, .int 1, .int k] p_E = some (some (.int 0), p_E, 0, 0) := by
  refine q_cg rfl ?_
  refine q_sg x_26_0 rfl rfl (pc1 := 1) (lv1 := [(0, .ref 0), (1, .int 1), (2, .int k)]) (st1 := [.int 1]) rfl ?_
  refine q_sg x_26_1 rfl rfl (pc1 := 4) (lv1 := [(0, .ref 0), (1, .int 1), (2, .int k)]) (st1 := []) rfl ?_
  refine q_sg x_26_4 rfl rfl (pc1 := 5) (lv1 := [(0, .ref 0), (1, .int 1), (2, .int k)]) (st1 := [.int 1]) rfl ?_
  refine q_sg x_26_5 rfl rfl (pc1 := 6) (lv1 := [(0, .ref 0), (1, .int 1), (2, .int k)]) (st1 := [.int 1, .int 1]) rfl ?_
  refine q_sg x_26_6 rfl rfl (pc1 := 9) (lv1 := [(0, .ref 0), (1, .int 1), (2, .int k)]) (st1 := []) rfl ?_
  refine q_sg x_26_9 rfl rfl (pc1 := 10) (lv1 := [(0, .ref 0), (1, .int 1), (2, .int k)]) (st1 := [.int k]) rfl ?_
  refine q_s_if x_26_10 (t := 37) (by decide +kernel) (show q_c1 .lt k = false by simpa [q_c1] using hk) (pc1 := 13) rfl ?_
  refine q_sg x_26_13 rfl rfl (pc1 := 14) (lv1 := [(0, .ref 0), (1, .int 1), (2, .int k)]) (st1 := [.int k]) rfl ?_
  refine q_sg x_26_14 rfl rfl (pc1 := 15) (lv1 := [(0, .ref 0), (1, .int 1), (2, .int k)]) (st1 := [.ref 0, .int k]) rfl ?_
  refine q_s_get x_26_15 rfl (pc1 := 18) rfl (ci := 11) (k := 9) (ns := 0) (by decide +kernel) (q_ob e_0 rfl) (v := .ref 102) rfl ?_
  refine q_sg x_26_18 rfl rfl (pc1 := 19) (lv1 := [(0, .ref 0), (1, .int 1), (2, .int k)]) (st1 := [.int 1, .ref 102, .int k]) rfl ?_
  refine q_s_aal x_26_19 (pc1 := 20) rfl (q_aR e_51 rfl) (by decide +kernel) (v := .ref 274) rfl ?_
  refine q_s_get x_26_20 rfl (pc1 := 23) rfl (ci := 8) (k := 6) (ns := 1) (by decide +kernel) (q_ob e_137 rfl) (v := .int 0) rfl ?_
  refine q_s_ic x_26_23 (t := 37) (by decide +kernel) (show q_c2 .ge k 0 = true by simpa [q_c2] using (Int32.not_lt.mp hk)) (pc1 := 37) rfl ?_
  refine q_sg x_26_37 rfl rfl (pc1 := 38) (lv1 := [(0, .ref 0), (1, .int 1), (2, .int k)]) (st1 := [.int 0]) rfl ?_
  exact q_sr x_26_38 rfl
theorem s_N (a k : Int32) (d : Nat) : q_callf 4000 (d + 1) 26 [.ref 0, .int a, .int k] p_E = some (some (.int 0), p_E, 0, 0) := by
  by_cases h0 : a = 0
  · subst h0
    by_cases hk : k < 0
    · exact s_B0 hk
    · exact s_C0 hk
  · by_cases h1 : a = 1
    · subst h1
      by_cases hk : k < 0
      · exact s_B1 hk
      · exact s_C1 hk
    · exact s_A h0 h1
theorem t_A {a k : Int32} {d : Nat} (h0 : ¬ a = 0) (h1 : ¬ a = 1) : q_callf 4000 (d + 1) 58 [.ref 448, .int a, .int k] p_E = some (some (.int 0), p_E, 0, 0) := by
  refine q_cg rfl ?_
  refine q_sg x_58_0 rfl rfl (pc1 := 1) (lv1 := [(0, .ref 448), (1, .int a), (2, .int k)]) (st1 := [.int a]) rfl ?_
  refine q_s_if x_58_1 (t := 9) (by decide +kernel) (show q_c1 .eq a = false by simpa [q_c1] using h0) (pc1 := 4) rfl ?_
  refine q_sg x_58_4 rfl rfl (pc1 := 5) (lv1 := [(0, .ref 448), (1, .int a), (2, .int k)]) (st1 := [.int a]) rfl ?_
  refine q_sg x_58_5 rfl rfl (pc1 := 6) (lv1 := [(0, .ref 448), (1, .int a), (2, .int k)]) (st1 := [.int 1, .int a]) rfl ?_
  refine q_s_ic x_58_6 (t := 27) (by decide +kernel) (show q_c2 .ne a 1 = true by simpa [q_c2] using h1) (pc1 := 27) rfl ?_
  refine q_sg x_58_27 rfl rfl (pc1 := 28) (lv1 := [(0, .ref 448), (1, .int a), (2, .int k)]) (st1 := [.int 0]) rfl ?_
  exact q_sr x_58_28 rfl
theorem t_B0 {k : Int32} {d : Nat} (hk : k < 0) : q_callf 4000 (d + 1) 58 [.ref 448, .int 0, .int k] p_E = some (some (.int 0), p_E, 0, 0) := by
  refine q_cg rfl ?_
  refine q_sg x_58_0 rfl rfl (pc1 := 1) (lv1 := [(0, .ref 448), (1, .int 0), (2, .int k)]) (st1 := [.int 0]) rfl ?_
  refine q_sg x_58_1 rfl rfl (pc1 := 9) (lv1 := [(0, .ref 448), (1, .int 0), (2, .int k)]) (st1 := []) rfl ?_
  refine q_sg x_58_9 rfl rfl (pc1 := 10) (lv1 := [(0, .ref 448), (1, .int 0), (2, .int k)]) (st1 := [.int k]) rfl ?_
  refine q_s_if x_58_10 (t := 27) (by decide +kernel) (show q_c1 .lt k = true by simpa [q_c1] using hk) (pc1 := 27) rfl ?_
  refine q_sg x_58_27 rfl rfl (pc1 := 28) (lv1 := [(0, .ref 448), (1, .int 0), (2, .int k)]) (st1 := [.int 0]) rfl ?_
  exact q_sr x_58_28 rfl
theorem t_C0 {k : Int32} {d : Nat} (hk : ¬ k < 0) : q_callf 4000 (d + 1) 58 [.ref 448, .int 0, .int k] p_E = some (some (.int 0), p_E, 0, 0) := by
  refine q_cg rfl ?_
  refine q_sg x_58_0 rfl rfl (pc1 := 1) (lv1 := [(0, .ref 448), (1, .int 0), (2, .int k)]) (st1 := [.int 0]) rfl ?_
  refine q_sg x_58_1 rfl rfl (pc1 := 9) (lv1 := [(0, .ref 448), (1, .int 0), (2, .int k)]) (st1 := []) rfl ?_
  refine q_sg x_58_9 rfl rfl (pc1 := 10) (lv1 := [(0, .ref 448), (1, .int 0), (2, .int k)]) (st1 := [.int k]) rfl ?_
  refine q_s_if x_58_10 (t := 27) (by decide +kernel) (show q_c1 .lt k = false by simpa [q_c1] using hk) (pc1 := 13) rfl ?_
  refine q_sg x_58_13 rfl rfl (pc1 := 14) (lv1 := [(0, .ref 448), (1, .int 0), (2, .int k)]) (st1 := [.int k]) rfl ?_
  refine q_sg x_58_14 rfl rfl (pc1 := 15) (lv1 := [(0, .ref 448), (1, .int 0), (2, .int k)]) (st1 := [.ref 448, .int k]) rfl ?_
  refine q_s_get x_58_15 rfl (pc1 := 18) rfl (ci := 12) (k := 68) (ns := 0) (by decide +kernel) (q_ob e_224 rfl) (v := .ref 510) rfl ?_
  refine q_sg x_58_18 rfl rfl (pc1 := 19) (lv1 := [(0, .ref 448), (1, .int 0), (2, .int k)]) (st1 := [.int 0, .ref 510, .int k]) rfl ?_
  refine q_s_ial x_58_19 (pc1 := 20) rfl (q_ar e_255 rfl) (by decide +kernel) (u := 0) rfl ?_
  refine q_s_ic x_58_20 (t := 27) (by decide +kernel) (show q_c2 .ge k 0 = true by simpa [q_c2] using (Int32.not_lt.mp hk)) (pc1 := 27) rfl ?_
  refine q_sg x_58_27 rfl rfl (pc1 := 28) (lv1 := [(0, .ref 448), (1, .int 0), (2, .int k)]) (st1 := [.int 0]) rfl ?_
  exact q_sr x_58_28 rfl
theorem t_B1 {k : Int32} {d : Nat} (hk : k < 0) : q_callf 4000 (d + 1) 58 [.ref 448, .int 1, .int k] p_E = some (some (.int 0), p_E, 0, 0) := by
  refine q_cg rfl ?_
  refine q_sg x_58_0 rfl rfl (pc1 := 1) (lv1 := [(0, .ref 448), (1, .int 1), (2, .int k)]) (st1 := [.int 1]) rfl ?_
  refine q_sg x_58_1 rfl rfl (pc1 := 4) (lv1 := [(0, .ref 448), (1, .int 1), (2, .int k)]) (st1 := []) rfl ?_
  refine q_sg x_58_4 rfl rfl (pc1 := 5) (lv1 := [(0, .ref 448), (1, .int 1), (2, .int k)]) (st1 := [.int 1]) rfl ?_
  refine q_sg x_58_5 rfl rfl (pc1 := 6) (lv1 := [(0, .ref 448), (1, .int 1), (2, .int k)]) (st1 := [.int 1, .int 1]) rfl ?_
  refine q_sg x_58_6 rfl rfl (pc1 := 9) (lv1 := [(0, .ref 448), (1, .int 1), (2, .int k)]) (st1 := []) rfl ?_
  refine q_sg x_58_9 rfl rfl (pc1 := 10) (lv1 := [(0, .ref 448), (1, .int 1), (2, .int k)]) (st1 := [.int k]) rfl ?_
  refine q_s_if x_58_10 (t := 27) (by decide +kernel) (show q_c1 .lt k = true by simpa [q_c1] using hk) (pc1 := 27) rfl ?_
  refine q_sg x_58_27 rfl rfl (pc1 := 28) (lv1 := [(0, .ref 448), (1, .int 1), (2, .int k)]) (st1 := [.int 0]) rfl ?_
  exact q_sr x_58_28 rfl
theorem t_C1 {k : Int32} {d : Nat} (hk : ¬ k < 0) : q_callf 4000 (d + 1) 58 [.ref 448, .int 1, .int k] p_E = some (some (.int 0), p_E, 0, 0) := by
  refine q_cg rfl ?_
  refine q_sg x_58_0 rfl rfl (pc1 := 1) (lv1 := [(0, .ref 448), (1, .int 1), (2, .int k)]) (st1 := [.int 1]) rfl ?_
  refine q_sg x_58_1 rfl rfl (pc1 := 4) (lv1 := [(0, .ref 448), (1, .int 1), (2, .int k)]) (st1 := []) rfl ?_
  refine q_sg x_58_4 rfl rfl (pc1 := 5) (lv1 := [(0, .ref 448), (1, .int 1), (2, .int k)]) (st1 := [.int 1]) rfl ?_
  refine q_sg x_58_5 rfl rfl (pc1 := 6) (lv1 := [(0, .ref 448), (1, .int 1), (2, .int k)]) (st1 := [.int 1, .int 1]) rfl ?_
  refine q_sg x_58_6 rfl rfl (pc1 := 9) (lv1 := [(0, .ref 448), (1, .int 1), (2, .int k)]) (st1 := []) rfl ?_
  refine q_sg x_58_9 rfl rfl (pc1 := 10) (lv1 := [(0, .ref 448), (1, .int 1), (2, .int k)]) (st1 := [.int k]) rfl ?_
  refine q_s_if x_58_10 (t := 27) (by decide +kernel) (show q_c1 .lt k = false by simpa [q_c1] using hk) (pc1 := 13) rfl ?_
  refine q_sg x_58_13 rfl rfl (pc1 := 14) (lv1 := [(0, .ref 448), (1, .int 1), (2, .int k)]) (st1 := [.int k]) rfl ?_
  refine q_sg x_58_14 rfl rfl (pc1 := 15) (lv1 := [(0, .ref 448), (1, .int 1), (2, .int k)]) (st1 := [.ref 448, .int k]) rfl ?_
  refine q_s_get x_58_15 rfl (pc1 := 18) rfl (ci := 12) (k := 68) (ns := 0) (by decide +kernel) (q_ob e_224 rfl) (v := .ref 510) rfl ?_
  refine q_sg x_58_18 rfl rfl (pc1 := 19) (lv1 := [(0, .ref 448), (1, .int 1), (2, .int k)]) (st1 := [.int 1, .ref 510, .int k]) rfl ?_
  refine q_s_ial x_58_19 (pc1 := 20) rfl (q_ar e_255 rfl) (by decide +kernel) (u := 0) rfl ?_
  refine q_s_ic x_58_20 (t := 27) (by decide +kernel) (show q_c2 .ge k 0 = true by simpa [q_c2] using (Int32.not_lt.mp hk)) (pc1 := 27) rfl ?_
  refine q_sg x_58_27 rfl rfl (pc1 := 28) (lv1 := [(0, .ref 448), (1, .int 1), (2, .int k)]) (st1 := [.int 0]) rfl ?_
  exact q_sr x_58_28 rfl
theorem t_N (a k : Int32) (d : Nat) : q_callf 4000 (d + 1) 58 [.ref 448, .int a, .int k] p_E = some (some (.int 0), p_E, 0, 0) := by
  by_cases h0 : a = 0
  · subst h0
    by_cases hk : k < 0
    · exact t_B0 hk
    · exact t_C0 hk
  · by_cases h1 : a = 1
    · subst h1
      by_cases hk : k < 0
      · exact t_B1 hk
      · exact t_C1 hk
    · exact t_A h0 h1
theorem s_num (a k : Int32) (d : Nat) : q_callf 4000 (d + 2) 23 [.ref 0, .int a, .int k] p_E = some (some (.int 0), p_E, 0, 0) := by
  refine q_cg rfl ?_
  refine q_sg x_23_0 rfl rfl (pc1 := 1) (lv1 := [(0, .ref 0), (1, .int a), (2, .int k)]) (st1 := [.ref 0]) rfl ?_
  refine q_sg x_23_1 rfl rfl (pc1 := 2) (lv1 := [(0, .ref 0), (1, .int a), (2, .int k)]) (st1 := [.int a, .ref 0]) rfl ?_
  refine q_sg x_23_2 rfl rfl (pc1 := 3) (lv1 := [(0, .ref 0), (1, .int a), (2, .int k)]) (st1 := [.int k, .int a, .ref 0]) rfl ?_
  refine q_s_inv x_23_3 (y := 26) (z := 0) (by decide +kernel) (pc1 := 6) rfl (as := [.int a, .int k]) (r := []) rfl rfl rfl rfl (ci := 11) rfl (by decide) (q_ob e_0 rfl) (Nat.zero_le _) (s_N a k _) (st1 := [.int 0]) rfl ?_
  refine q_sg x_23_6 rfl rfl (pc1 := 23) (lv1 := [(0, .ref 0), (1, .int a), (2, .int k)]) (st1 := []) rfl ?_
  refine q_sg x_23_23 rfl rfl (pc1 := 24) (lv1 := [(0, .ref 0), (1, .int a), (2, .int k)]) (st1 := [.int 0]) rfl ?_
  exact q_sr x_23_24 rfl
theorem s_siz (a k : Int32) (d : Nat) : q_callf 4000 (d + 2) 24 [.ref 0, .int a, .int k] p_E = some (some (.int (-1)), p_E, 0, 0) := by
  refine q_cg rfl ?_
  refine q_sg x_24_0 rfl rfl (pc1 := 1) (lv1 := [(0, .ref 0), (1, .int a), (2, .int k)]) (st1 := [.ref 0]) rfl ?_
  refine q_sg x_24_1 rfl rfl (pc1 := 2) (lv1 := [(0, .ref 0), (1, .int a), (2, .int k)]) (st1 := [.int a, .ref 0]) rfl ?_
  refine q_sg x_24_2 rfl rfl (pc1 := 3) (lv1 := [(0, .ref 0), (1, .int a), (2, .int k)]) (st1 := [.int k, .int a, .ref 0]) rfl ?_
  refine q_s_inv x_24_3 (y := 26) (z := 0) (by decide +kernel) (pc1 := 6) rfl (as := [.int a, .int k]) (r := []) rfl rfl rfl rfl (ci := 11) rfl (by decide) (q_ob e_0 rfl) (Nat.zero_le _) (s_N a k _) (st1 := [.int 0]) rfl ?_
  refine q_sg x_24_6 rfl rfl (pc1 := 32) (lv1 := [(0, .ref 0), (1, .int a), (2, .int k)]) (st1 := []) rfl ?_
  refine q_sg x_24_32 rfl rfl (pc1 := 33) (lv1 := [(0, .ref 0), (1, .int a), (2, .int k)]) (st1 := [.int (-1)]) rfl ?_
  exact q_sr x_24_33 rfl
theorem s_byt (a k i : Int32) (d : Nat) : q_callf 4000 (d + 2) 25 [.ref 0, .int a, .int k, .int i] p_E = some (some (.int (-1)), p_E, 0, 0) := by
  refine q_cg rfl ?_
  refine q_sg x_25_0 rfl rfl (pc1 := 1) (lv1 := [(0, .ref 0), (1, .int a), (2, .int k), (3, .int i)]) (st1 := [.ref 0]) rfl ?_
  refine q_sg x_25_1 rfl rfl (pc1 := 2) (lv1 := [(0, .ref 0), (1, .int a), (2, .int k), (3, .int i)]) (st1 := [.int a, .ref 0]) rfl ?_
  refine q_sg x_25_2 rfl rfl (pc1 := 3) (lv1 := [(0, .ref 0), (1, .int a), (2, .int k), (3, .int i)]) (st1 := [.int k, .int a, .ref 0]) rfl ?_
  refine q_s_inv x_25_3 (y := 26) (z := 0) (by decide +kernel) (pc1 := 6) rfl (as := [.int a, .int k]) (r := []) rfl rfl rfl rfl (ci := 11) rfl (by decide) (q_ob e_0 rfl) (Nat.zero_le _) (s_N a k _) (st1 := [.int 0]) rfl ?_
  refine q_sg x_25_6 rfl rfl (pc1 := 13) (lv1 := [(0, .ref 0), (1, .int a), (2, .int k), (3, .int i)]) (st1 := []) rfl ?_
  refine q_sg x_25_13 rfl rfl (pc1 := 14) (lv1 := [(0, .ref 0), (1, .int a), (2, .int k), (3, .int i)]) (st1 := [.int (-1)]) rfl ?_
  exact q_sr x_25_14 rfl
theorem t_num (a k : Int32) (d : Nat) : q_callf 4000 (d + 2) 59 [.ref 448, .int a, .int k] p_E = some (some (.int 0), p_E, 0, 0) := by
  refine q_cg rfl ?_
  refine q_sg x_59_0 rfl rfl (pc1 := 1) (lv1 := [(0, .ref 448), (1, .int a), (2, .int k)]) (st1 := [.ref 448]) rfl ?_
  refine q_sg x_59_1 rfl rfl (pc1 := 2) (lv1 := [(0, .ref 448), (1, .int a), (2, .int k)]) (st1 := [.int a, .ref 448]) rfl ?_
  refine q_sg x_59_2 rfl rfl (pc1 := 3) (lv1 := [(0, .ref 448), (1, .int a), (2, .int k)]) (st1 := [.int k, .int a, .ref 448]) rfl ?_
  refine q_s_inv x_59_3 (y := 58) (z := 0) (by decide +kernel) (pc1 := 6) rfl (as := [.int a, .int k]) (r := []) rfl rfl rfl rfl (ci := 12) rfl (by decide) (q_ob e_224 rfl) (Nat.zero_le _) (t_N a k _) (st1 := [.int 0]) rfl ?_
  refine q_sg x_59_6 rfl rfl (pc1 := 24) (lv1 := [(0, .ref 448), (1, .int a), (2, .int k)]) (st1 := []) rfl ?_
  refine q_sg x_59_24 rfl rfl (pc1 := 25) (lv1 := [(0, .ref 448), (1, .int a), (2, .int k)]) (st1 := [.int 0]) rfl ?_
  exact q_sr x_59_25 rfl
theorem t_siz (a k : Int32) (d : Nat) : q_callf 4000 (d + 2) 60 [.ref 448, .int a, .int k] p_E = some (some (.int (-1)), p_E, 0, 0) := by
  refine q_cg rfl ?_
  refine q_sg x_60_0 rfl rfl (pc1 := 1) (lv1 := [(0, .ref 448), (1, .int a), (2, .int k)]) (st1 := [.ref 448]) rfl ?_
  refine q_sg x_60_1 rfl rfl (pc1 := 2) (lv1 := [(0, .ref 448), (1, .int a), (2, .int k)]) (st1 := [.int a, .ref 448]) rfl ?_
  refine q_sg x_60_2 rfl rfl (pc1 := 3) (lv1 := [(0, .ref 448), (1, .int a), (2, .int k)]) (st1 := [.int k, .int a, .ref 448]) rfl ?_
  refine q_s_inv x_60_3 (y := 58) (z := 0) (by decide +kernel) (pc1 := 6) rfl (as := [.int a, .int k]) (r := []) rfl rfl rfl rfl (ci := 12) rfl (by decide) (q_ob e_224 rfl) (Nat.zero_le _) (t_N a k _) (st1 := [.int 0]) rfl ?_
  refine q_sg x_60_6 rfl rfl (pc1 := 22) (lv1 := [(0, .ref 448), (1, .int a), (2, .int k)]) (st1 := []) rfl ?_
  refine q_sg x_60_22 rfl rfl (pc1 := 23) (lv1 := [(0, .ref 448), (1, .int a), (2, .int k)]) (st1 := [.int (-1)]) rfl ?_
  exact q_sr x_60_23 rfl
theorem t_byt (a k i : Int32) (d : Nat) : q_callf 4000 (d + 2) 61 [.ref 448, .int a, .int k, .int i] p_E = some (some (.int (-1)), p_E, 0, 0) := by
  refine q_cg rfl ?_
  refine q_sg x_61_0 rfl rfl (pc1 := 1) (lv1 := [(0, .ref 448), (1, .int a), (2, .int k), (3, .int i)]) (st1 := [.ref 448]) rfl ?_
  refine q_sg x_61_1 rfl rfl (pc1 := 2) (lv1 := [(0, .ref 448), (1, .int a), (2, .int k), (3, .int i)]) (st1 := [.int a, .ref 448]) rfl ?_
  refine q_sg x_61_2 rfl rfl (pc1 := 3) (lv1 := [(0, .ref 448), (1, .int a), (2, .int k), (3, .int i)]) (st1 := [.int k, .int a, .ref 448]) rfl ?_
  refine q_s_inv x_61_3 (y := 58) (z := 0) (by decide +kernel) (pc1 := 6) rfl (as := [.int a, .int k]) (r := []) rfl rfl rfl rfl (ci := 12) rfl (by decide) (q_ob e_224 rfl) (Nat.zero_le _) (t_N a k _) (st1 := [.int 0]) rfl ?_
  refine q_sg x_61_6 rfl rfl (pc1 := 42) (lv1 := [(0, .ref 448), (1, .int a), (2, .int k), (3, .int i)]) (st1 := []) rfl ?_
  refine q_sg x_61_42 rfl rfl (pc1 := 43) (lv1 := [(0, .ref 448), (1, .int a), (2, .int k), (3, .int i)]) (st1 := [.int (-1)]) rfl ?_
  exact q_sr x_61_43 rfl
theorem s_ansB {k : Int32} {d : Nat} (hk : k < 0) : q_callf 4000 (d + 1) 21 [.ref 0, .int k] p_E = some (some (.int (-1)), p_E, 0, 0) := by
  refine q_cg rfl ?_
  refine q_sg x_21_0 rfl rfl (pc1 := 1) (lv1 := [(0, .ref 0), (1, .int k)]) (st1 := [.int k]) rfl ?_
  refine q_s_if x_21_1 (t := 43) (by decide +kernel) (show q_c1 .lt k = true by simpa [q_c1] using hk) (pc1 := 43) rfl ?_
  refine q_sg x_21_43 rfl rfl (pc1 := 44) (lv1 := [(0, .ref 0), (1, .int k)]) (st1 := [.int (-1)]) rfl ?_
  exact q_sr x_21_44 rfl
theorem s_ansC {k : Int32} {d : Nat} (hk : ¬ k < 0) : q_callf 4000 (d + 1) 21 [.ref 0, .int k] p_E = some (some (.int (-1)), p_E, 0, 0) := by
  refine q_cg rfl ?_
  refine q_sg x_21_0 rfl rfl (pc1 := 1) (lv1 := [(0, .ref 0), (1, .int k)]) (st1 := [.int k]) rfl ?_
  refine q_s_if x_21_1 (t := 43) (by decide +kernel) (show q_c1 .lt k = false by simpa [q_c1] using hk) (pc1 := 4) rfl ?_
  refine q_sg x_21_4 rfl rfl (pc1 := 5) (lv1 := [(0, .ref 0), (1, .int k)]) (st1 := [.int k]) rfl ?_
  refine q_sg x_21_5 rfl rfl (pc1 := 6) (lv1 := [(0, .ref 0), (1, .int k)]) (st1 := [.ref 0, .int k]) rfl ?_
  refine q_s_get x_21_6 rfl (pc1 := 9) rfl (ci := 11) (k := 1) (ns := 0) (by decide +kernel) (q_ob e_0 rfl) (v := .ref 8) rfl ?_
  refine q_s_get x_21_9 rfl (pc1 := 12) rfl (ci := 4) (k := 1) (ns := 1) (by decide +kernel) (q_ob e_4 rfl) (v := .int 0) rfl ?_
  refine q_s_ic x_21_12 (t := 43) (by decide +kernel) (show q_c2 .ge k 0 = true by simpa [q_c2] using (Int32.not_lt.mp hk)) (pc1 := 43) rfl ?_
  refine q_sg x_21_43 rfl rfl (pc1 := 44) (lv1 := [(0, .ref 0), (1, .int k)]) (st1 := [.int (-1)]) rfl ?_
  exact q_sr x_21_44 rfl
theorem s_ans (k : Int32) (d : Nat) : q_callf 4000 (d + 1) 21 [.ref 0, .int k] p_E = some (some (.int (-1)), p_E, 0, 0) := by
  by_cases hk : k < 0
  · exact s_ansB hk
  · exact s_ansC hk
theorem t_ansB {k : Int32} {d : Nat} (hk : k < 0) : q_callf 4000 (d + 1) 56 [.ref 448, .int k] p_E = some (some (.int (-1)), p_E, 0, 0) := by
  refine q_cg rfl ?_
  refine q_sg x_56_0 rfl rfl (pc1 := 1) (lv1 := [(0, .ref 448), (1, .int k)]) (st1 := [.int k]) rfl ?_
  refine q_s_if x_56_1 (t := 24) (by decide +kernel) (show q_c1 .lt k = true by simpa [q_c1] using hk) (pc1 := 24) rfl ?_
  refine q_sg x_56_24 rfl rfl (pc1 := 25) (lv1 := [(0, .ref 448), (1, .int k)]) (st1 := [.int (-1)]) rfl ?_
  exact q_sr x_56_25 rfl
theorem t_ansC {k : Int32} {d : Nat} (hk : ¬ k < 0) : q_callf 4000 (d + 1) 56 [.ref 448, .int k] p_E = some (some (.int (-1)), p_E, 0, 0) := by
  refine q_cg rfl ?_
  refine q_sg x_56_0 rfl rfl (pc1 := 1) (lv1 := [(0, .ref 448), (1, .int k)]) (st1 := [.int k]) rfl ?_
  refine q_s_if x_56_1 (t := 24) (by decide +kernel) (show q_c1 .lt k = false by simpa [q_c1] using hk) (pc1 := 4) rfl ?_
  refine q_sg x_56_4 rfl rfl (pc1 := 5) (lv1 := [(0, .ref 448), (1, .int k)]) (st1 := [.int k]) rfl ?_
  refine q_sg x_56_5 rfl rfl (pc1 := 6) (lv1 := [(0, .ref 448), (1, .int k)]) (st1 := [.ref 448, .int k]) rfl ?_
  refine q_s_get x_56_6 rfl (pc1 := 9) rfl (ci := 12) (k := 3) (ns := 0) (by decide +kernel) (q_ob e_224 rfl) (v := .int 0) rfl ?_
  refine q_s_ic x_56_9 (t := 24) (by decide +kernel) (show q_c2 .ge k 0 = true by simpa [q_c2] using (Int32.not_lt.mp hk)) (pc1 := 24) rfl ?_
  refine q_sg x_56_24 rfl rfl (pc1 := 25) (lv1 := [(0, .ref 448), (1, .int k)]) (st1 := [.int (-1)]) rfl ?_
  exact q_sr x_56_25 rfl
theorem t_ans (k : Int32) (d : Nat) : q_callf 4000 (d + 1) 56 [.ref 448, .int k] p_E = some (some (.int (-1)), p_E, 0, 0) := by
  by_cases hk : k < 0
  · exact t_ansB hk
  · exact t_ansC hk
theorem s_askB {k : Int32} {d : Nat} (hk : k < 0) : q_callf 4000 (d + 1) 18 [.ref 0, .int k] p_E = some (some (.int (-1)), p_E, 0, 0) := by
  refine q_cg rfl ?_
  refine q_sg x_18_0 rfl rfl (pc1 := 1) (lv1 := [(0, .ref 0), (1, .int k)]) (st1 := [.int k]) rfl ?_
  refine q_s_if x_18_1 (t := 12) (by decide +kernel) (show q_c1 .lt k = true by simpa [q_c1] using hk) (pc1 := 12) rfl ?_
  refine q_sg x_18_12 rfl rfl (pc1 := 13) (lv1 := [(0, .ref 0), (1, .int k)]) (st1 := [.int (-1)]) rfl ?_
  exact q_sr x_18_13 rfl
theorem s_askC {k : Int32} {d : Nat} (hk : ¬ k < 0) (h0 : ¬ k ≤ 0) : q_callf 4000 (d + 1) 18 [.ref 0, .int k] p_E = some (some (.int (-1)), p_E, 0, 0) := by
  refine q_cg rfl ?_
  refine q_sg x_18_0 rfl rfl (pc1 := 1) (lv1 := [(0, .ref 0), (1, .int k)]) (st1 := [.int k]) rfl ?_
  refine q_s_if x_18_1 (t := 12) (by decide +kernel) (show q_c1 .lt k = false by simpa [q_c1] using hk) (pc1 := 4) rfl ?_
  refine q_sg x_18_4 rfl rfl (pc1 := 5) (lv1 := [(0, .ref 0), (1, .int k)]) (st1 := [.int k]) rfl ?_
  refine q_sg x_18_5 rfl rfl (pc1 := 6) (lv1 := [(0, .ref 0), (1, .int k)]) (st1 := [.ref 0, .int k]) rfl ?_
  refine q_s_get x_18_6 rfl (pc1 := 9) rfl (ci := 11) (k := 12) (ns := 0) (by decide +kernel) (q_ob e_0 rfl) (v := .int 0) rfl ?_
  refine q_s_ic x_18_9 (t := 14) (by decide +kernel) (show q_c2 .le k 0 = false by simpa [q_c2] using h0) (pc1 := 12) rfl ?_
  refine q_sg x_18_12 rfl rfl (pc1 := 13) (lv1 := [(0, .ref 0), (1, .int k)]) (st1 := [.int (-1)]) rfl ?_
  exact q_sr x_18_13 rfl
theorem t_askB {k : Int32} {d : Nat} (hk : k < 0) : q_callf 4000 (d + 1) 41 [.ref 448, .int k] p_E = some (some (.int (-1)), p_E, 0, 0) := by
  refine q_cg rfl ?_
  refine q_sg x_41_0 rfl rfl (pc1 := 1) (lv1 := [(0, .ref 448), (1, .int k)]) (st1 := [.int k]) rfl ?_
  refine q_s_if x_41_1 (t := 12) (by decide +kernel) (show q_c1 .lt k = true by simpa [q_c1] using hk) (pc1 := 12) rfl ?_
  refine q_sg x_41_12 rfl rfl (pc1 := 13) (lv1 := [(0, .ref 448), (1, .int k)]) (st1 := [.int (-1)]) rfl ?_
  exact q_sr x_41_13 rfl
theorem t_askC {k : Int32} {d : Nat} (hk : ¬ k < 0) (h0 : ¬ k ≤ 0) : q_callf 4000 (d + 1) 41 [.ref 448, .int k] p_E = some (some (.int (-1)), p_E, 0, 0) := by
  refine q_cg rfl ?_
  refine q_sg x_41_0 rfl rfl (pc1 := 1) (lv1 := [(0, .ref 448), (1, .int k)]) (st1 := [.int k]) rfl ?_
  refine q_s_if x_41_1 (t := 12) (by decide +kernel) (show q_c1 .lt k = false by simpa [q_c1] using hk) (pc1 := 4) rfl ?_
  refine q_sg x_41_4 rfl rfl (pc1 := 5) (lv1 := [(0, .ref 448), (1, .int k)]) (st1 := [.int k]) rfl ?_
  refine q_sg x_41_5 rfl rfl (pc1 := 6) (lv1 := [(0, .ref 448), (1, .int k)]) (st1 := [.ref 448, .int k]) rfl ?_
  refine q_s_get x_41_6 rfl (pc1 := 9) rfl (ci := 12) (k := 2) (ns := 0) (by decide +kernel) (q_ob e_224 rfl) (v := .int 0) rfl ?_
  refine q_s_ic x_41_9 (t := 14) (by decide +kernel) (show q_c2 .le k 0 = false by simpa [q_c2] using h0) (pc1 := 12) rfl ?_
  refine q_sg x_41_12 rfl rfl (pc1 := 13) (lv1 := [(0, .ref 448), (1, .int k)]) (st1 := [.int (-1)]) rfl ?_
  exact q_sr x_41_13 rfl
theorem s_sta {k : Int32} {d : Nat} (hq : k.toInt < 0 ∨ 7 < k.toInt) : q_callf 4000 (d + 1) 22 [.ref 0, .int k] p_E = some (some (.int (-1)), p_E, 0, 0) := by
  refine q_cg rfl ?_
  refine q_sg x_22_0 rfl rfl (pc1 := 1) (lv1 := [(0, .ref 0), (1, .int k)]) (st1 := [.int k]) rfl ?_
  refine q_s_tab x_22_1 hq (pc1 := 95) (by decide +kernel) ?_
  refine q_sg x_22_95 rfl rfl (pc1 := 96) (lv1 := [(0, .ref 0), (1, .int k)]) (st1 := [.int (-1)]) rfl ?_
  exact q_sr x_22_96 rfl
theorem t_sta {k : Int32} {d : Nat} (h0 : ¬ k = 0) (h1 : ¬ k = 1) (h2 : ¬ k = 2) (h3 : ¬ k = 3) (h4 : ¬ k = 4) (h5 : ¬ k = 5) (h6 : ¬ k = 6) (h7 : ¬ k = 7) : q_callf 4000 (d + 1) 57 [.ref 448, .int k] p_E = some (some (.int (-1)), p_E, 0, 0) := by
  refine q_cg rfl ?_
  refine q_sg x_57_0 rfl rfl (pc1 := 1) (lv1 := [(0, .ref 448), (1, .int k)]) (st1 := [.int k]) rfl ?_
  refine q_s_if x_57_1 (t := 9) (by decide +kernel) (show q_c1 .eq k = false by simpa [q_c1] using h0) (pc1 := 4) rfl ?_
  refine q_sg x_57_4 rfl rfl (pc1 := 5) (lv1 := [(0, .ref 448), (1, .int k)]) (st1 := [.int k]) rfl ?_
  refine q_sg x_57_5 rfl rfl (pc1 := 6) (lv1 := [(0, .ref 448), (1, .int k)]) (st1 := [.int 1, .int k]) rfl ?_
  refine q_s_ic x_57_6 (t := 16) (by decide +kernel) (show q_c2 .ne k 1 = true by simpa [q_c2] using h1) (pc1 := 16) rfl ?_
  refine q_sg x_57_16 rfl rfl (pc1 := 17) (lv1 := [(0, .ref 448), (1, .int k)]) (st1 := [.int k]) rfl ?_
  refine q_sg x_57_17 rfl rfl (pc1 := 18) (lv1 := [(0, .ref 448), (1, .int k)]) (st1 := [.int 2, .int k]) rfl ?_
  refine q_s_ic x_57_18 (t := 26) (by decide +kernel) (show q_c2 .eq k 2 = false by simpa [q_c2] using h2) (pc1 := 21) rfl ?_
  refine q_sg x_57_21 rfl rfl (pc1 := 22) (lv1 := [(0, .ref 448), (1, .int k)]) (st1 := [.int k]) rfl ?_
  refine q_sg x_57_22 rfl rfl (pc1 := 23) (lv1 := [(0, .ref 448), (1, .int k)]) (st1 := [.int 3, .int k]) rfl ?_
  refine q_s_ic x_57_23 (t := 35) (by decide +kernel) (show q_c2 .ne k 3 = true by simpa [q_c2] using h3) (pc1 := 35) rfl ?_
  refine q_sg x_57_35 rfl rfl (pc1 := 36) (lv1 := [(0, .ref 448), (1, .int k)]) (st1 := [.int k]) rfl ?_
  refine q_sg x_57_36 rfl rfl (pc1 := 38) (lv1 := [(0, .ref 448), (1, .int k)]) (st1 := [.int 6, .int k]) rfl ?_
  refine q_s_ic x_57_38 (t := 46) (by decide +kernel) (show q_c2 .ne k 6 = true by simpa [q_c2] using h6) (pc1 := 46) rfl ?_
  refine q_sg x_57_46 rfl rfl (pc1 := 47) (lv1 := [(0, .ref 448), (1, .int k)]) (st1 := [.int k]) rfl ?_
  refine q_sg x_57_47 rfl rfl (pc1 := 49) (lv1 := [(0, .ref 448), (1, .int k)]) (st1 := [.int 7, .int k]) rfl ?_
  refine q_s_ic x_57_49 (t := 57) (by decide +kernel) (show q_c2 .ne k 7 = true by simpa [q_c2] using h7) (pc1 := 57) rfl ?_
  refine q_sg x_57_57 rfl rfl (pc1 := 58) (lv1 := [(0, .ref 448), (1, .int k)]) (st1 := [.int k]) rfl ?_
  refine q_sg x_57_58 rfl rfl (pc1 := 59) (lv1 := [(0, .ref 448), (1, .int k)]) (st1 := [.int 4, .int k]) rfl ?_
  refine q_s_ic x_57_59 (t := 69) (by decide +kernel) (show q_c2 .eq k 4 = false by simpa [q_c2] using h4) (pc1 := 62) rfl ?_
  refine q_sg x_57_62 rfl rfl (pc1 := 63) (lv1 := [(0, .ref 448), (1, .int k)]) (st1 := [.int k]) rfl ?_
  refine q_sg x_57_63 rfl rfl (pc1 := 64) (lv1 := [(0, .ref 448), (1, .int k)]) (st1 := [.int 5, .int k]) rfl ?_
  refine q_s_ic x_57_64 (t := 69) (by decide +kernel) (show q_c2 .eq k 5 = false by simpa [q_c2] using h5) (pc1 := 67) rfl ?_
  refine q_sg x_57_67 rfl rfl (pc1 := 68) (lv1 := [(0, .ref 448), (1, .int k)]) (st1 := [.int (-1)]) rfl ?_
  exact q_sr x_57_68 rfl
def h_F (G : q_H) (t : Int32) (L : List (Nat × Int32)) : q_H := (G.set 0 (.inr (11, [.ref 4, .ref 8, .ref 12, .ref 14, .ref 22, .ref 34, .ref 74, .ref 90, .ref 96, .ref 102, .ref 444, .ref 446, .int t, .int 0, .int 0, .int 0, .ref 104, .int 0, .int 0]))).set 2 (.inl (0, 246408, .inl L))
def m_F (G : q_H) (t : Int32) (L : List (Nat × Int32)) : q_H := (G.set 224 (.inr (12, [.ref 450, .ref 452, .int t, .int 0, .int 0, .int 0, .int 0, .int 0, .int 0, .ref 454, .int 0, .int 0, .ref 456, .int 0, .int 0, .int 0, .int 0, .int 0, .ref 458, .int 0, .ref 460, .int 0, .ref 462, .int 0, .int 0, .int 0, .int 0, .int 0, .int 0, .int 0, .ref 464, .ref 466, .int 0, .int 0, .ref 468, .ref 470, .ref 472, .ref 474, .ref 476, .ref 478, .int 0, .int 0, .int 0, .int 0, .int 0, .ref 480, .ref 482, .int (-1), .ref 484, .ref 486, .ref 488, .ref 490, .ref 492, .ref 494, .ref 496, .int 0, .int 0, .ref 498, .ref 500, .ref 502, .ref 504, .int 0, .ref 506, .ref 508, .int 0, .int 0, .int 0, .int 0, .ref 510, .ref 512, .ref 514, .ref 516, .ref 518, .ref 520, .ref 522, .ref 524, .ref 526, .int 0]))).set 226 (.inl (1, 2000, .inl L))
theorem h_F0 {G : q_H} (hG : 264 ≤ G.length) (t : Int32) (L : List (Nat × Int32)) : (h_F G t L)[0]? = some (.inr (11, [.ref 4, .ref 8, .ref 12, .ref 14, .ref 22, .ref 34, .ref 74, .ref 90, .ref 96, .ref 102, .ref 444, .ref 446, .int t, .int 0, .int 0, .int 0, .ref 104, .int 0, .int 0])) := by
  unfold h_F
  rw [List.getElem?_set_ne (by decide), List.getElem?_set_self (by omega)]
theorem h_F1 {G : q_H} (hG : 264 ≤ G.length) (t : Int32) (L : List (Nat × Int32)) : (h_F G t L)[2]? = some (.inl (0, 246408, .inl L)) := by
  unfold h_F
  rw [List.getElem?_set_self (by rw [List.length_set]; omega)]
theorem h_Fs {G : q_H} (t t1 : Int32) (L : List (Nat × Int32)) : (h_F G t L).set 0 (.inr (11, [.ref 4, .ref 8, .ref 12, .ref 14, .ref 22, .ref 34, .ref 74, .ref 90, .ref 96, .ref 102, .ref 444, .ref 446, .int t1, .int 0, .int 0, .int 0, .ref 104, .int 0, .int 0])) = h_F G t1 L := by
  unfold h_F
  rw [List.set_comm _ _ (by decide), List.set_set]
theorem h_Fa {G : q_H} (t : Int32) (L L1 : List (Nat × Int32)) : (h_F G t L).set 2 (.inl (0, 246408, .inl L1)) = h_F G t L1 := by
  unfold h_F
  rw [List.set_set]
theorem h_F_eq {G : q_H} {t : Int32} {L : List (Nat × Int32)} (h0 : G[0]? = some (.inr (11, [.ref 4, .ref 8, .ref 12, .ref 14, .ref 22, .ref 34, .ref 74, .ref 90, .ref 96, .ref 102, .ref 444, .ref 446, .int t, .int 0, .int 0, .int 0, .ref 104, .int 0, .int 0]))) (h1 : G[2]? = some (.inl (0, 246408, .inl L))) : h_F G t L = G := by
  unfold h_F
  rw [q_setE_same h0, q_setE_same h1]
theorem m_F0 {G : q_H} (hG : 264 ≤ G.length) (t : Int32) (L : List (Nat × Int32)) : (m_F G t L)[224]? = some (.inr (12, [.ref 450, .ref 452, .int t, .int 0, .int 0, .int 0, .int 0, .int 0, .int 0, .ref 454, .int 0, .int 0, .ref 456, .int 0, .int 0, .int 0, .int 0, .int 0, .ref 458, .int 0, .ref 460, .int 0, .ref 462, .int 0, .int 0, .int 0, .int 0, .int 0, .int 0, .int 0, .ref 464, .ref 466, .int 0, .int 0, .ref 468, .ref 470, .ref 472, .ref 474, .ref 476, .ref 478, .int 0, .int 0, .int 0, .int 0, .int 0, .ref 480, .ref 482, .int (-1), .ref 484, .ref 486, .ref 488, .ref 490, .ref 492, .ref 494, .ref 496, .int 0, .int 0, .ref 498, .ref 500, .ref 502, .ref 504, .int 0, .ref 506, .ref 508, .int 0, .int 0, .int 0, .int 0, .ref 510, .ref 512, .ref 514, .ref 516, .ref 518, .ref 520, .ref 522, .ref 524, .ref 526, .int 0])) := by
  unfold m_F
  rw [List.getElem?_set_ne (by decide), List.getElem?_set_self (by omega)]
theorem m_F1 {G : q_H} (hG : 264 ≤ G.length) (t : Int32) (L : List (Nat × Int32)) : (m_F G t L)[226]? = some (.inl (1, 2000, .inl L)) := by
  unfold m_F
  rw [List.getElem?_set_self (by rw [List.length_set]; omega)]
theorem m_Fs {G : q_H} (t t1 : Int32) (L : List (Nat × Int32)) : (m_F G t L).set 224 (.inr (12, [.ref 450, .ref 452, .int t1, .int 0, .int 0, .int 0, .int 0, .int 0, .int 0, .ref 454, .int 0, .int 0, .ref 456, .int 0, .int 0, .int 0, .int 0, .int 0, .ref 458, .int 0, .ref 460, .int 0, .ref 462, .int 0, .int 0, .int 0, .int 0, .int 0, .int 0, .int 0, .ref 464, .ref 466, .int 0, .int 0, .ref 468, .ref 470, .ref 472, .ref 474, .ref 476, .ref 478, .int 0, .int 0, .int 0, .int 0, .int 0, .ref 480, .ref 482, .int (-1), .ref 484, .ref 486, .ref 488, .ref 490, .ref 492, .ref 494, .ref 496, .int 0, .int 0, .ref 498, .ref 500, .ref 502, .ref 504, .int 0, .ref 506, .ref 508, .int 0, .int 0, .int 0, .int 0, .ref 510, .ref 512, .ref 514, .ref 516, .ref 518, .ref 520, .ref 522, .ref 524, .ref 526, .int 0])) = m_F G t1 L := by
  unfold m_F
  rw [List.set_comm _ _ (by decide), List.set_set]
theorem m_Fa {G : q_H} (t : Int32) (L L1 : List (Nat × Int32)) : (m_F G t L).set 226 (.inl (1, 2000, .inl L1)) = m_F G t L1 := by
  unfold m_F
  rw [List.set_set]
theorem m_F_eq {G : q_H} {t : Int32} {L : List (Nat × Int32)} (h0 : G[224]? = some (.inr (12, [.ref 450, .ref 452, .int t, .int 0, .int 0, .int 0, .int 0, .int 0, .int 0, .ref 454, .int 0, .int 0, .ref 456, .int 0, .int 0, .int 0, .int 0, .int 0, .ref 458, .int 0, .ref 460, .int 0, .ref 462, .int 0, .int 0, .int 0, .int 0, .int 0, .int 0, .int 0, .ref 464, .ref 466, .int 0, .int 0, .ref 468, .ref 470, .ref 472, .ref 474, .ref 476, .ref 478, .int 0, .int 0, .int 0, .int 0, .int 0, .ref 480, .ref 482, .int (-1), .ref 484, .ref 486, .ref 488, .ref 490, .ref 492, .ref 494, .ref 496, .int 0, .int 0, .ref 498, .ref 500, .ref 502, .ref 504, .int 0, .ref 506, .ref 508, .int 0, .int 0, .int 0, .int 0, .ref 510, .ref 512, .ref 514, .ref 516, .ref 518, .ref 520, .ref 522, .ref 524, .ref 526, .int 0]))) (h1 : G[226]? = some (.inl (1, 2000, .inl L))) : m_F G t L = G := by
  unfold m_F
  rw [q_setE_same h0, q_setE_same h1]
def h_L (t : Nat) (w : Int32) (L : List (Nat × Int32)) : List (Nat × Int32) := (t + 7, w.toInt8.toInt32.toInt8.toInt32) :: (t + 6, (w >>> (8 &&& 31)).toInt8.toInt32.toInt8.toInt32) :: (t + 5, (w >>> (16 &&& 31)).toInt8.toInt32.toInt8.toInt32) :: (t + 4, (w >>> (24 &&& 31)).toInt8.toInt32.toInt8.toInt32) :: L
theorem h_put0 {G : q_H} (hG : 264 ≤ G.length) (w : Int32) (L : List (Nat × Int32)) (d : Nat) : q_callf 4000 (d + 1) 17 [.ref 0, .int w] (h_F G 0 L) = some (none, h_F G 4 (h_L 0 w L), 0, 0) := by
  refine q_cg rfl ?_
  refine q_sg x_17_0 rfl rfl (pc1 := 1) (lv1 := [(0, .ref 0), (1, .int w)]) (st1 := [.int 4]) rfl ?_
  refine q_sg x_17_1 rfl rfl (pc1 := 2) (lv1 := [(0, .ref 0), (1, .int w)]) (st1 := [.ref 0, .int 4]) rfl ?_
  refine q_s_get x_17_2 rfl (pc1 := 5) rfl (ci := 11) (k := 12) (ns := 0) (by decide +kernel) (q_ob (h_F0 hG 0 L) rfl) (v := .int 0) rfl ?_
  refine q_sg x_17_5 rfl rfl (pc1 := 6) (lv1 := [(0, .ref 0), (1, .int w)]) (st1 := [.int 4]) rfl ?_
  refine q_sg x_17_6 rfl rfl (pc1 := 7) (lv1 := [(2, .int 4), (0, .ref 0), (1, .int w)]) (st1 := []) rfl ?_
  refine q_sg x_17_7 rfl rfl (pc1 := 8) (lv1 := [(2, .int 4), (0, .ref 0), (1, .int w)]) (st1 := [.ref 0]) rfl ?_
  refine q_s_get x_17_8 rfl (pc1 := 11) rfl (ci := 11) (k := 0) (ns := 0) (by decide +kernel) (q_ob (h_F0 hG 0 L) rfl) (v := .ref 4) rfl ?_
  refine q_sg x_17_11 rfl rfl (pc1 := 12) (lv1 := [(2, .int 4), (0, .ref 0), (1, .int w)]) (st1 := [.int 4, .ref 4]) rfl ?_
  refine q_sg x_17_12 rfl rfl (pc1 := 13) (lv1 := [(2, .int 4), (0, .ref 0), (1, .int w)]) (st1 := [.int w, .int 4, .ref 4]) rfl ?_
  refine q_sg x_17_13 rfl rfl (pc1 := 15) (lv1 := [(2, .int 4), (0, .ref 0), (1, .int w)]) (st1 := [.int 24, .int w, .int 4, .ref 4]) rfl ?_
  refine q_sg x_17_15 rfl rfl (pc1 := 16) (lv1 := [(2, .int 4), (0, .ref 0), (1, .int w)]) (st1 := [.int (w >>> (24 &&& 31)), .int 4, .ref 4]) rfl ?_
  refine q_sg x_17_16 rfl rfl (pc1 := 17) (lv1 := [(2, .int 4), (0, .ref 0), (1, .int w)]) (st1 := [.int ((w >>> (24 &&& 31)).toInt8.toInt32), .int 4, .ref 4]) rfl ?_
  refine q_s_bas x_17_17 (pc1 := 18) rfl (q_ar (h_F1 hG 0 L) rfl) (by decide +kernel) (j := 4) rfl (h_Fa _ _ ((4, ((w >>> (24 &&& 31)).toInt8.toInt32).toInt8.toInt32) :: L)) ?_
  refine q_sg x_17_18 rfl rfl (pc1 := 19) (lv1 := [(2, .int 4), (0, .ref 0), (1, .int w)]) (st1 := [.ref 0]) rfl ?_
  refine q_s_get x_17_19 rfl (pc1 := 22) rfl (ci := 11) (k := 0) (ns := 0) (by decide +kernel) (q_ob (h_F0 hG 0 ((4, ((w >>> (24 &&& 31)).toInt8.toInt32).toInt8.toInt32) :: L)) rfl) (v := .ref 4) rfl ?_
  refine q_sg x_17_22 rfl rfl (pc1 := 23) (lv1 := [(2, .int 4), (0, .ref 0), (1, .int w)]) (st1 := [.int 4, .ref 4]) rfl ?_
  refine q_sg x_17_23 rfl rfl (pc1 := 24) (lv1 := [(2, .int 4), (0, .ref 0), (1, .int w)]) (st1 := [.int 1, .int 4, .ref 4]) rfl ?_
  refine q_sg x_17_24 rfl rfl (pc1 := 25) (lv1 := [(2, .int 4), (0, .ref 0), (1, .int w)]) (st1 := [.int 5, .ref 4]) rfl ?_
  refine q_sg x_17_25 rfl rfl (pc1 := 26) (lv1 := [(2, .int 4), (0, .ref 0), (1, .int w)]) (st1 := [.int w, .int 5, .ref 4]) rfl ?_
  refine q_sg x_17_26 rfl rfl (pc1 := 28) (lv1 := [(2, .int 4), (0, .ref 0), (1, .int w)]) (st1 := [.int 16, .int w, .int 5, .ref 4]) rfl ?_
  refine q_sg x_17_28 rfl rfl (pc1 := 29) (lv1 := [(2, .int 4), (0, .ref 0), (1, .int w)]) (st1 := [.int (w >>> (16 &&& 31)), .int 5, .ref 4]) rfl ?_
  refine q_sg x_17_29 rfl rfl (pc1 := 30) (lv1 := [(2, .int 4), (0, .ref 0), (1, .int w)]) (st1 := [.int ((w >>> (16 &&& 31)).toInt8.toInt32), .int 5, .ref 4]) rfl ?_
  refine q_s_bas x_17_30 (pc1 := 31) rfl (q_ar (h_F1 hG 0 ((4, ((w >>> (24 &&& 31)).toInt8.toInt32).toInt8.toInt32) :: L)) rfl) (by decide +kernel) (j := 5) rfl (h_Fa _ _ ((5, ((w >>> (16 &&& 31)).toInt8.toInt32).toInt8.toInt32) :: ((4, ((w >>> (24 &&& 31)).toInt8.toInt32).toInt8.toInt32) :: L))) ?_
  refine q_sg x_17_31 rfl rfl (pc1 := 32) (lv1 := [(2, .int 4), (0, .ref 0), (1, .int w)]) (st1 := [.ref 0]) rfl ?_
  refine q_s_get x_17_32 rfl (pc1 := 35) rfl (ci := 11) (k := 0) (ns := 0) (by decide +kernel) (q_ob (h_F0 hG 0 ((5, ((w >>> (16 &&& 31)).toInt8.toInt32).toInt8.toInt32) :: ((4, ((w >>> (24 &&& 31)).toInt8.toInt32).toInt8.toInt32) :: L))) rfl) (v := .ref 4) rfl ?_
  refine q_sg x_17_35 rfl rfl (pc1 := 36) (lv1 := [(2, .int 4), (0, .ref 0), (1, .int w)]) (st1 := [.int 4, .ref 4]) rfl ?_
  refine q_sg x_17_36 rfl rfl (pc1 := 37) (lv1 := [(2, .int 4), (0, .ref 0), (1, .int w)]) (st1 := [.int 2, .int 4, .ref 4]) rfl ?_
  refine q_sg x_17_37 rfl rfl (pc1 := 38) (lv1 := [(2, .int 4), (0, .ref 0), (1, .int w)]) (st1 := [.int 6, .ref 4]) rfl ?_
  refine q_sg x_17_38 rfl rfl (pc1 := 39) (lv1 := [(2, .int 4), (0, .ref 0), (1, .int w)]) (st1 := [.int w, .int 6, .ref 4]) rfl ?_
  refine q_sg x_17_39 rfl rfl (pc1 := 41) (lv1 := [(2, .int 4), (0, .ref 0), (1, .int w)]) (st1 := [.int 8, .int w, .int 6, .ref 4]) rfl ?_
  refine q_sg x_17_41 rfl rfl (pc1 := 42) (lv1 := [(2, .int 4), (0, .ref 0), (1, .int w)]) (st1 := [.int (w >>> (8 &&& 31)), .int 6, .ref 4]) rfl ?_
  refine q_sg x_17_42 rfl rfl (pc1 := 43) (lv1 := [(2, .int 4), (0, .ref 0), (1, .int w)]) (st1 := [.int ((w >>> (8 &&& 31)).toInt8.toInt32), .int 6, .ref 4]) rfl ?_
  refine q_s_bas x_17_43 (pc1 := 44) rfl (q_ar (h_F1 hG 0 ((5, ((w >>> (16 &&& 31)).toInt8.toInt32).toInt8.toInt32) :: ((4, ((w >>> (24 &&& 31)).toInt8.toInt32).toInt8.toInt32) :: L))) rfl) (by decide +kernel) (j := 6) rfl (h_Fa _ _ ((6, ((w >>> (8 &&& 31)).toInt8.toInt32).toInt8.toInt32) :: ((5, ((w >>> (16 &&& 31)).toInt8.toInt32).toInt8.toInt32) :: ((4, ((w >>> (24 &&& 31)).toInt8.toInt32).toInt8.toInt32) :: L)))) ?_
  refine q_sg x_17_44 rfl rfl (pc1 := 45) (lv1 := [(2, .int 4), (0, .ref 0), (1, .int w)]) (st1 := [.ref 0]) rfl ?_
  refine q_s_get x_17_45 rfl (pc1 := 48) rfl (ci := 11) (k := 0) (ns := 0) (by decide +kernel) (q_ob (h_F0 hG 0 ((6, ((w >>> (8 &&& 31)).toInt8.toInt32).toInt8.toInt32) :: ((5, ((w >>> (16 &&& 31)).toInt8.toInt32).toInt8.toInt32) :: ((4, ((w >>> (24 &&& 31)).toInt8.toInt32).toInt8.toInt32) :: L)))) rfl) (v := .ref 4) rfl ?_
  refine q_sg x_17_48 rfl rfl (pc1 := 49) (lv1 := [(2, .int 4), (0, .ref 0), (1, .int w)]) (st1 := [.int 4, .ref 4]) rfl ?_
  refine q_sg x_17_49 rfl rfl (pc1 := 50) (lv1 := [(2, .int 4), (0, .ref 0), (1, .int w)]) (st1 := [.int 3, .int 4, .ref 4]) rfl ?_
  refine q_sg x_17_50 rfl rfl (pc1 := 51) (lv1 := [(2, .int 4), (0, .ref 0), (1, .int w)]) (st1 := [.int 7, .ref 4]) rfl ?_
  refine q_sg x_17_51 rfl rfl (pc1 := 52) (lv1 := [(2, .int 4), (0, .ref 0), (1, .int w)]) (st1 := [.int w, .int 7, .ref 4]) rfl ?_
  refine q_sg x_17_52 rfl rfl (pc1 := 53) (lv1 := [(2, .int 4), (0, .ref 0), (1, .int w)]) (st1 := [.int (w.toInt8.toInt32), .int 7, .ref 4]) rfl ?_
  refine q_s_bas x_17_53 (pc1 := 54) rfl (q_ar (h_F1 hG 0 ((6, ((w >>> (8 &&& 31)).toInt8.toInt32).toInt8.toInt32) :: ((5, ((w >>> (16 &&& 31)).toInt8.toInt32).toInt8.toInt32) :: ((4, ((w >>> (24 &&& 31)).toInt8.toInt32).toInt8.toInt32) :: L)))) rfl) (by decide +kernel) (j := 7) rfl (h_Fa _ _ ((7, (w.toInt8.toInt32).toInt8.toInt32) :: ((6, ((w >>> (8 &&& 31)).toInt8.toInt32).toInt8.toInt32) :: ((5, ((w >>> (16 &&& 31)).toInt8.toInt32).toInt8.toInt32) :: ((4, ((w >>> (24 &&& 31)).toInt8.toInt32).toInt8.toInt32) :: L))))) ?_
  refine q_sg x_17_54 rfl rfl (pc1 := 55) (lv1 := [(2, .int 4), (0, .ref 0), (1, .int w)]) (st1 := [.ref 0]) rfl ?_
  refine q_sg x_17_55 rfl rfl (pc1 := 56) (lv1 := [(2, .int 4), (0, .ref 0), (1, .int w)]) (st1 := [.ref 0, .ref 0]) rfl ?_
  refine q_s_get x_17_56 rfl (pc1 := 59) rfl (ci := 11) (k := 12) (ns := 0) (by decide +kernel) (q_ob (h_F0 hG 0 ((7, (w.toInt8.toInt32).toInt8.toInt32) :: ((6, ((w >>> (8 &&& 31)).toInt8.toInt32).toInt8.toInt32) :: ((5, ((w >>> (16 &&& 31)).toInt8.toInt32).toInt8.toInt32) :: ((4, ((w >>> (24 &&& 31)).toInt8.toInt32).toInt8.toInt32) :: L))))) rfl) (v := .int 0) rfl ?_
  refine q_sg x_17_59 rfl rfl (pc1 := 60) (lv1 := [(2, .int 4), (0, .ref 0), (1, .int w)]) (st1 := [.int 4, .int 0, .ref 0]) rfl ?_
  refine q_sg x_17_60 rfl rfl (pc1 := 61) (lv1 := [(2, .int 4), (0, .ref 0), (1, .int w)]) (st1 := [.int 4, .ref 0]) rfl ?_
  refine q_s_put x_17_61 (pc1 := 64) rfl (ci := 11) (k := 12) (ns := 0) (by decide +kernel) (q_ob (h_F0 hG 0 ((7, (w.toInt8.toInt32).toInt8.toInt32) :: ((6, ((w >>> (8 &&& 31)).toInt8.toInt32).toInt8.toInt32) :: ((5, ((w >>> (16 &&& 31)).toInt8.toInt32).toInt8.toInt32) :: ((4, ((w >>> (24 &&& 31)).toInt8.toInt32).toInt8.toInt32) :: L))))) rfl) (by decide +kernel) (h_Fs _ 4 _) ?_
  exact q_sr x_17_64 rfl
theorem h_put4 {G : q_H} (hG : 264 ≤ G.length) (w : Int32) (L : List (Nat × Int32)) (d : Nat) : q_callf 4000 (d + 1) 17 [.ref 0, .int w] (h_F G 4 L) = some (none, h_F G 8 (h_L 4 w L), 0, 0) := by
  refine q_cg rfl ?_
  refine q_sg x_17_0 rfl rfl (pc1 := 1) (lv1 := [(0, .ref 0), (1, .int w)]) (st1 := [.int 4]) rfl ?_
  refine q_sg x_17_1 rfl rfl (pc1 := 2) (lv1 := [(0, .ref 0), (1, .int w)]) (st1 := [.ref 0, .int 4]) rfl ?_
  refine q_s_get x_17_2 rfl (pc1 := 5) rfl (ci := 11) (k := 12) (ns := 0) (by decide +kernel) (q_ob (h_F0 hG 4 L) rfl) (v := .int 4) rfl ?_
  refine q_sg x_17_5 rfl rfl (pc1 := 6) (lv1 := [(0, .ref 0), (1, .int w)]) (st1 := [.int 8]) rfl ?_
  refine q_sg x_17_6 rfl rfl (pc1 := 7) (lv1 := [(2, .int 8), (0, .ref 0), (1, .int w)]) (st1 := []) rfl ?_
  refine q_sg x_17_7 rfl rfl (pc1 := 8) (lv1 := [(2, .int 8), (0, .ref 0), (1, .int w)]) (st1 := [.ref 0]) rfl ?_
  refine q_s_get x_17_8 rfl (pc1 := 11) rfl (ci := 11) (k := 0) (ns := 0) (by decide +kernel) (q_ob (h_F0 hG 4 L) rfl) (v := .ref 4) rfl ?_
  refine q_sg x_17_11 rfl rfl (pc1 := 12) (lv1 := [(2, .int 8), (0, .ref 0), (1, .int w)]) (st1 := [.int 8, .ref 4]) rfl ?_
  refine q_sg x_17_12 rfl rfl (pc1 := 13) (lv1 := [(2, .int 8), (0, .ref 0), (1, .int w)]) (st1 := [.int w, .int 8, .ref 4]) rfl ?_
  refine q_sg x_17_13 rfl rfl (pc1 := 15) (lv1 := [(2, .int 8), (0, .ref 0), (1, .int w)]) (st1 := [.int 24, .int w, .int 8, .ref 4]) rfl ?_
  refine q_sg x_17_15 rfl rfl (pc1 := 16) (lv1 := [(2, .int 8), (0, .ref 0), (1, .int w)]) (st1 := [.int (w >>> (24 &&& 31)), .int 8, .ref 4]) rfl ?_
  refine q_sg x_17_16 rfl rfl (pc1 := 17) (lv1 := [(2, .int 8), (0, .ref 0), (1, .int w)]) (st1 := [.int ((w >>> (24 &&& 31)).toInt8.toInt32), .int 8, .ref 4]) rfl ?_
  refine q_s_bas x_17_17 (pc1 := 18) rfl (q_ar (h_F1 hG 4 L) rfl) (by decide +kernel) (j := 8) rfl (h_Fa _ _ ((8, ((w >>> (24 &&& 31)).toInt8.toInt32).toInt8.toInt32) :: L)) ?_
  refine q_sg x_17_18 rfl rfl (pc1 := 19) (lv1 := [(2, .int 8), (0, .ref 0), (1, .int w)]) (st1 := [.ref 0]) rfl ?_
  refine q_s_get x_17_19 rfl (pc1 := 22) rfl (ci := 11) (k := 0) (ns := 0) (by decide +kernel) (q_ob (h_F0 hG 4 ((8, ((w >>> (24 &&& 31)).toInt8.toInt32).toInt8.toInt32) :: L)) rfl) (v := .ref 4) rfl ?_
  refine q_sg x_17_22 rfl rfl (pc1 := 23) (lv1 := [(2, .int 8), (0, .ref 0), (1, .int w)]) (st1 := [.int 8, .ref 4]) rfl ?_
  refine q_sg x_17_23 rfl rfl (pc1 := 24) (lv1 := [(2, .int 8), (0, .ref 0), (1, .int w)]) (st1 := [.int 1, .int 8, .ref 4]) rfl ?_
  refine q_sg x_17_24 rfl rfl (pc1 := 25) (lv1 := [(2, .int 8), (0, .ref 0), (1, .int w)]) (st1 := [.int 9, .ref 4]) rfl ?_
  refine q_sg x_17_25 rfl rfl (pc1 := 26) (lv1 := [(2, .int 8), (0, .ref 0), (1, .int w)]) (st1 := [.int w, .int 9, .ref 4]) rfl ?_
  refine q_sg x_17_26 rfl rfl (pc1 := 28) (lv1 := [(2, .int 8), (0, .ref 0), (1, .int w)]) (st1 := [.int 16, .int w, .int 9, .ref 4]) rfl ?_
  refine q_sg x_17_28 rfl rfl (pc1 := 29) (lv1 := [(2, .int 8), (0, .ref 0), (1, .int w)]) (st1 := [.int (w >>> (16 &&& 31)), .int 9, .ref 4]) rfl ?_
  refine q_sg x_17_29 rfl rfl (pc1 := 30) (lv1 := [(2, .int 8), (0, .ref 0), (1, .int w)]) (st1 := [.int ((w >>> (16 &&& 31)).toInt8.toInt32), .int 9, .ref 4]) rfl ?_
  refine q_s_bas x_17_30 (pc1 := 31) rfl (q_ar (h_F1 hG 4 ((8, ((w >>> (24 &&& 31)).toInt8.toInt32).toInt8.toInt32) :: L)) rfl) (by decide +kernel) (j := 9) rfl (h_Fa _ _ ((9, ((w >>> (16 &&& 31)).toInt8.toInt32).toInt8.toInt32) :: ((8, ((w >>> (24 &&& 31)).toInt8.toInt32).toInt8.toInt32) :: L))) ?_
  refine q_sg x_17_31 rfl rfl (pc1 := 32) (lv1 := [(2, .int 8), (0, .ref 0), (1, .int w)]) (st1 := [.ref 0]) rfl ?_
  refine q_s_get x_17_32 rfl (pc1 := 35) rfl (ci := 11) (k := 0) (ns := 0) (by decide +kernel) (q_ob (h_F0 hG 4 ((9, ((w >>> (16 &&& 31)).toInt8.toInt32).toInt8.toInt32) :: ((8, ((w >>> (24 &&& 31)).toInt8.toInt32).toInt8.toInt32) :: L))) rfl) (v := .ref 4) rfl ?_
  refine q_sg x_17_35 rfl rfl (pc1 := 36) (lv1 := [(2, .int 8), (0, .ref 0), (1, .int w)]) (st1 := [.int 8, .ref 4]) rfl ?_
  refine q_sg x_17_36 rfl rfl (pc1 := 37) (lv1 := [(2, .int 8), (0, .ref 0), (1, .int w)]) (st1 := [.int 2, .int 8, .ref 4]) rfl ?_
  refine q_sg x_17_37 rfl rfl (pc1 := 38) (lv1 := [(2, .int 8), (0, .ref 0), (1, .int w)]) (st1 := [.int 10, .ref 4]) rfl ?_
  refine q_sg x_17_38 rfl rfl (pc1 := 39) (lv1 := [(2, .int 8), (0, .ref 0), (1, .int w)]) (st1 := [.int w, .int 10, .ref 4]) rfl ?_
  refine q_sg x_17_39 rfl rfl (pc1 := 41) (lv1 := [(2, .int 8), (0, .ref 0), (1, .int w)]) (st1 := [.int 8, .int w, .int 10, .ref 4]) rfl ?_
  refine q_sg x_17_41 rfl rfl (pc1 := 42) (lv1 := [(2, .int 8), (0, .ref 0), (1, .int w)]) (st1 := [.int (w >>> (8 &&& 31)), .int 10, .ref 4]) rfl ?_
  refine q_sg x_17_42 rfl rfl (pc1 := 43) (lv1 := [(2, .int 8), (0, .ref 0), (1, .int w)]) (st1 := [.int ((w >>> (8 &&& 31)).toInt8.toInt32), .int 10, .ref 4]) rfl ?_
  refine q_s_bas x_17_43 (pc1 := 44) rfl (q_ar (h_F1 hG 4 ((9, ((w >>> (16 &&& 31)).toInt8.toInt32).toInt8.toInt32) :: ((8, ((w >>> (24 &&& 31)).toInt8.toInt32).toInt8.toInt32) :: L))) rfl) (by decide +kernel) (j := 10) rfl (h_Fa _ _ ((10, ((w >>> (8 &&& 31)).toInt8.toInt32).toInt8.toInt32) :: ((9, ((w >>> (16 &&& 31)).toInt8.toInt32).toInt8.toInt32) :: ((8, ((w >>> (24 &&& 31)).toInt8.toInt32).toInt8.toInt32) :: L)))) ?_
  refine q_sg x_17_44 rfl rfl (pc1 := 45) (lv1 := [(2, .int 8), (0, .ref 0), (1, .int w)]) (st1 := [.ref 0]) rfl ?_
  refine q_s_get x_17_45 rfl (pc1 := 48) rfl (ci := 11) (k := 0) (ns := 0) (by decide +kernel) (q_ob (h_F0 hG 4 ((10, ((w >>> (8 &&& 31)).toInt8.toInt32).toInt8.toInt32) :: ((9, ((w >>> (16 &&& 31)).toInt8.toInt32).toInt8.toInt32) :: ((8, ((w >>> (24 &&& 31)).toInt8.toInt32).toInt8.toInt32) :: L)))) rfl) (v := .ref 4) rfl ?_
  refine q_sg x_17_48 rfl rfl (pc1 := 49) (lv1 := [(2, .int 8), (0, .ref 0), (1, .int w)]) (st1 := [.int 8, .ref 4]) rfl ?_
  refine q_sg x_17_49 rfl rfl (pc1 := 50) (lv1 := [(2, .int 8), (0, .ref 0), (1, .int w)]) (st1 := [.int 3, .int 8, .ref 4]) rfl ?_
  refine q_sg x_17_50 rfl rfl (pc1 := 51) (lv1 := [(2, .int 8), (0, .ref 0), (1, .int w)]) (st1 := [.int 11, .ref 4]) rfl ?_
  refine q_sg x_17_51 rfl rfl (pc1 := 52) (lv1 := [(2, .int 8), (0, .ref 0), (1, .int w)]) (st1 := [.int w, .int 11, .ref 4]) rfl ?_
  refine q_sg x_17_52 rfl rfl (pc1 := 53) (lv1 := [(2, .int 8), (0, .ref 0), (1, .int w)]) (st1 := [.int (w.toInt8.toInt32), .int 11, .ref 4]) rfl ?_
  refine q_s_bas x_17_53 (pc1 := 54) rfl (q_ar (h_F1 hG 4 ((10, ((w >>> (8 &&& 31)).toInt8.toInt32).toInt8.toInt32) :: ((9, ((w >>> (16 &&& 31)).toInt8.toInt32).toInt8.toInt32) :: ((8, ((w >>> (24 &&& 31)).toInt8.toInt32).toInt8.toInt32) :: L)))) rfl) (by decide +kernel) (j := 11) rfl (h_Fa _ _ ((11, (w.toInt8.toInt32).toInt8.toInt32) :: ((10, ((w >>> (8 &&& 31)).toInt8.toInt32).toInt8.toInt32) :: ((9, ((w >>> (16 &&& 31)).toInt8.toInt32).toInt8.toInt32) :: ((8, ((w >>> (24 &&& 31)).toInt8.toInt32).toInt8.toInt32) :: L))))) ?_
  refine q_sg x_17_54 rfl rfl (pc1 := 55) (lv1 := [(2, .int 8), (0, .ref 0), (1, .int w)]) (st1 := [.ref 0]) rfl ?_
  refine q_sg x_17_55 rfl rfl (pc1 := 56) (lv1 := [(2, .int 8), (0, .ref 0), (1, .int w)]) (st1 := [.ref 0, .ref 0]) rfl ?_
  refine q_s_get x_17_56 rfl (pc1 := 59) rfl (ci := 11) (k := 12) (ns := 0) (by decide +kernel) (q_ob (h_F0 hG 4 ((11, (w.toInt8.toInt32).toInt8.toInt32) :: ((10, ((w >>> (8 &&& 31)).toInt8.toInt32).toInt8.toInt32) :: ((9, ((w >>> (16 &&& 31)).toInt8.toInt32).toInt8.toInt32) :: ((8, ((w >>> (24 &&& 31)).toInt8.toInt32).toInt8.toInt32) :: L))))) rfl) (v := .int 4) rfl ?_
  refine q_sg x_17_59 rfl rfl (pc1 := 60) (lv1 := [(2, .int 8), (0, .ref 0), (1, .int w)]) (st1 := [.int 4, .int 4, .ref 0]) rfl ?_
  refine q_sg x_17_60 rfl rfl (pc1 := 61) (lv1 := [(2, .int 8), (0, .ref 0), (1, .int w)]) (st1 := [.int 8, .ref 0]) rfl ?_
  refine q_s_put x_17_61 (pc1 := 64) rfl (ci := 11) (k := 12) (ns := 0) (by decide +kernel) (q_ob (h_F0 hG 4 ((11, (w.toInt8.toInt32).toInt8.toInt32) :: ((10, ((w >>> (8 &&& 31)).toInt8.toInt32).toInt8.toInt32) :: ((9, ((w >>> (16 &&& 31)).toInt8.toInt32).toInt8.toInt32) :: ((8, ((w >>> (24 &&& 31)).toInt8.toInt32).toInt8.toInt32) :: L))))) rfl) (by decide +kernel) (h_Fs _ 8 _) ?_
  exact q_sr x_17_64 rfl
theorem h_put8 {G : q_H} (hG : 264 ≤ G.length) (w : Int32) (L : List (Nat × Int32)) (d : Nat) : q_callf 4000 (d + 1) 17 [.ref 0, .int w] (h_F G 8 L) = some (none, h_F G 12 (h_L 8 w L), 0, 0) := by
  refine q_cg rfl ?_
  refine q_sg x_17_0 rfl rfl (pc1 := 1) (lv1 := [(0, .ref 0), (1, .int w)]) (st1 := [.int 4]) rfl ?_
  refine q_sg x_17_1 rfl rfl (pc1 := 2) (lv1 := [(0, .ref 0), (1, .int w)]) (st1 := [.ref 0, .int 4]) rfl ?_
  refine q_s_get x_17_2 rfl (pc1 := 5) rfl (ci := 11) (k := 12) (ns := 0) (by decide +kernel) (q_ob (h_F0 hG 8 L) rfl) (v := .int 8) rfl ?_
  refine q_sg x_17_5 rfl rfl (pc1 := 6) (lv1 := [(0, .ref 0), (1, .int w)]) (st1 := [.int 12]) rfl ?_
  refine q_sg x_17_6 rfl rfl (pc1 := 7) (lv1 := [(2, .int 12), (0, .ref 0), (1, .int w)]) (st1 := []) rfl ?_
  refine q_sg x_17_7 rfl rfl (pc1 := 8) (lv1 := [(2, .int 12), (0, .ref 0), (1, .int w)]) (st1 := [.ref 0]) rfl ?_
  refine q_s_get x_17_8 rfl (pc1 := 11) rfl (ci := 11) (k := 0) (ns := 0) (by decide +kernel) (q_ob (h_F0 hG 8 L) rfl) (v := .ref 4) rfl ?_
  refine q_sg x_17_11 rfl rfl (pc1 := 12) (lv1 := [(2, .int 12), (0, .ref 0), (1, .int w)]) (st1 := [.int 12, .ref 4]) rfl ?_
  refine q_sg x_17_12 rfl rfl (pc1 := 13) (lv1 := [(2, .int 12), (0, .ref 0), (1, .int w)]) (st1 := [.int w, .int 12, .ref 4]) rfl ?_
  refine q_sg x_17_13 rfl rfl (pc1 := 15) (lv1 := [(2, .int 12), (0, .ref 0), (1, .int w)]) (st1 := [.int 24, .int w, .int 12, .ref 4]) rfl ?_
  refine q_sg x_17_15 rfl rfl (pc1 := 16) (lv1 := [(2, .int 12), (0, .ref 0), (1, .int w)]) (st1 := [.int (w >>> (24 &&& 31)), .int 12, .ref 4]) rfl ?_
  refine q_sg x_17_16 rfl rfl (pc1 := 17) (lv1 := [(2, .int 12), (0, .ref 0), (1, .int w)]) (st1 := [.int ((w >>> (24 &&& 31)).toInt8.toInt32), .int 12, .ref 4]) rfl ?_
  refine q_s_bas x_17_17 (pc1 := 18) rfl (q_ar (h_F1 hG 8 L) rfl) (by decide +kernel) (j := 12) rfl (h_Fa _ _ ((12, ((w >>> (24 &&& 31)).toInt8.toInt32).toInt8.toInt32) :: L)) ?_
  refine q_sg x_17_18 rfl rfl (pc1 := 19) (lv1 := [(2, .int 12), (0, .ref 0), (1, .int w)]) (st1 := [.ref 0]) rfl ?_
  refine q_s_get x_17_19 rfl (pc1 := 22) rfl (ci := 11) (k := 0) (ns := 0) (by decide +kernel) (q_ob (h_F0 hG 8 ((12, ((w >>> (24 &&& 31)).toInt8.toInt32).toInt8.toInt32) :: L)) rfl) (v := .ref 4) rfl ?_
  refine q_sg x_17_22 rfl rfl (pc1 := 23) (lv1 := [(2, .int 12), (0, .ref 0), (1, .int w)]) (st1 := [.int 12, .ref 4]) rfl ?_
  refine q_sg x_17_23 rfl rfl (pc1 := 24) (lv1 := [(2, .int 12), (0, .ref 0), (1, .int w)]) (st1 := [.int 1, .int 12, .ref 4]) rfl ?_
  refine q_sg x_17_24 rfl rfl (pc1 := 25) (lv1 := [(2, .int 12), (0, .ref 0), (1, .int w)]) (st1 := [.int 13, .ref 4]) rfl ?_
  refine q_sg x_17_25 rfl rfl (pc1 := 26) (lv1 := [(2, .int 12), (0, .ref 0), (1, .int w)]) (st1 := [.int w, .int 13, .ref 4]) rfl ?_
  refine q_sg x_17_26 rfl rfl (pc1 := 28) (lv1 := [(2, .int 12), (0, .ref 0), (1, .int w)]) (st1 := [.int 16, .int w, .int 13, .ref 4]) rfl ?_
  refine q_sg x_17_28 rfl rfl (pc1 := 29) (lv1 := [(2, .int 12), (0, .ref 0), (1, .int w)]) (st1 := [.int (w >>> (16 &&& 31)), .int 13, .ref 4]) rfl ?_
  refine q_sg x_17_29 rfl rfl (pc1 := 30) (lv1 := [(2, .int 12), (0, .ref 0), (1, .int w)]) (st1 := [.int ((w >>> (16 &&& 31)).toInt8.toInt32), .int 13, .ref 4]) rfl ?_
  refine q_s_bas x_17_30 (pc1 := 31) rfl (q_ar (h_F1 hG 8 ((12, ((w >>> (24 &&& 31)).toInt8.toInt32).toInt8.toInt32) :: L)) rfl) (by decide +kernel) (j := 13) rfl (h_Fa _ _ ((13, ((w >>> (16 &&& 31)).toInt8.toInt32).toInt8.toInt32) :: ((12, ((w >>> (24 &&& 31)).toInt8.toInt32).toInt8.toInt32) :: L))) ?_
  refine q_sg x_17_31 rfl rfl (pc1 := 32) (lv1 := [(2, .int 12), (0, .ref 0), (1, .int w)]) (st1 := [.ref 0]) rfl ?_
  refine q_s_get x_17_32 rfl (pc1 := 35) rfl (ci := 11) (k := 0) (ns := 0) (by decide +kernel) (q_ob (h_F0 hG 8 ((13, ((w >>> (16 &&& 31)).toInt8.toInt32).toInt8.toInt32) :: ((12, ((w >>> (24 &&& 31)).toInt8.toInt32).toInt8.toInt32) :: L))) rfl) (v := .ref 4) rfl ?_
  refine q_sg x_17_35 rfl rfl (pc1 := 36) (lv1 := [(2, .int 12), (0, .ref 0), (1, .int w)]) (st1 := [.int 12, .ref 4]) rfl ?_
  refine q_sg x_17_36 rfl rfl (pc1 := 37) (lv1 := [(2, .int 12), (0, .ref 0), (1, .int w)]) (st1 := [.int 2, .int 12, .ref 4]) rfl ?_
  refine q_sg x_17_37 rfl rfl (pc1 := 38) (lv1 := [(2, .int 12), (0, .ref 0), (1, .int w)]) (st1 := [.int 14, .ref 4]) rfl ?_
  refine q_sg x_17_38 rfl rfl (pc1 := 39) (lv1 := [(2, .int 12), (0, .ref 0), (1, .int w)]) (st1 := [.int w, .int 14, .ref 4]) rfl ?_
  refine q_sg x_17_39 rfl rfl (pc1 := 41) (lv1 := [(2, .int 12), (0, .ref 0), (1, .int w)]) (st1 := [.int 8, .int w, .int 14, .ref 4]) rfl ?_
  refine q_sg x_17_41 rfl rfl (pc1 := 42) (lv1 := [(2, .int 12), (0, .ref 0), (1, .int w)]) (st1 := [.int (w >>> (8 &&& 31)), .int 14, .ref 4]) rfl ?_
  refine q_sg x_17_42 rfl rfl (pc1 := 43) (lv1 := [(2, .int 12), (0, .ref 0), (1, .int w)]) (st1 := [.int ((w >>> (8 &&& 31)).toInt8.toInt32), .int 14, .ref 4]) rfl ?_
  refine q_s_bas x_17_43 (pc1 := 44) rfl (q_ar (h_F1 hG 8 ((13, ((w >>> (16 &&& 31)).toInt8.toInt32).toInt8.toInt32) :: ((12, ((w >>> (24 &&& 31)).toInt8.toInt32).toInt8.toInt32) :: L))) rfl) (by decide +kernel) (j := 14) rfl (h_Fa _ _ ((14, ((w >>> (8 &&& 31)).toInt8.toInt32).toInt8.toInt32) :: ((13, ((w >>> (16 &&& 31)).toInt8.toInt32).toInt8.toInt32) :: ((12, ((w >>> (24 &&& 31)).toInt8.toInt32).toInt8.toInt32) :: L)))) ?_
  refine q_sg x_17_44 rfl rfl (pc1 := 45) (lv1 := [(2, .int 12), (0, .ref 0), (1, .int w)]) (st1 := [.ref 0]) rfl ?_
  refine q_s_get x_17_45 rfl (pc1 := 48) rfl (ci := 11) (k := 0) (ns := 0) (by decide +kernel) (q_ob (h_F0 hG 8 ((14, ((w >>> (8 &&& 31)).toInt8.toInt32).toInt8.toInt32) :: ((13, ((w >>> (16 &&& 31)).toInt8.toInt32).toInt8.toInt32) :: ((12, ((w >>> (24 &&& 31)).toInt8.toInt32).toInt8.toInt32) :: L)))) rfl) (v := .ref 4) rfl ?_
  refine q_sg x_17_48 rfl rfl (pc1 := 49) (lv1 := [(2, .int 12), (0, .ref 0), (1, .int w)]) (st1 := [.int 12, .ref 4]) rfl ?_
  refine q_sg x_17_49 rfl rfl (pc1 := 50) (lv1 := [(2, .int 12), (0, .ref 0), (1, .int w)]) (st1 := [.int 3, .int 12, .ref 4]) rfl ?_
  refine q_sg x_17_50 rfl rfl (pc1 := 51) (lv1 := [(2, .int 12), (0, .ref 0), (1, .int w)]) (st1 := [.int 15, .ref 4]) rfl ?_
  refine q_sg x_17_51 rfl rfl (pc1 := 52) (lv1 := [(2, .int 12), (0, .ref 0), (1, .int w)]) (st1 := [.int w, .int 15, .ref 4]) rfl ?_
  refine q_sg x_17_52 rfl rfl (pc1 := 53) (lv1 := [(2, .int 12), (0, .ref 0), (1, .int w)]) (st1 := [.int (w.toInt8.toInt32), .int 15, .ref 4]) rfl ?_
  refine q_s_bas x_17_53 (pc1 := 54) rfl (q_ar (h_F1 hG 8 ((14, ((w >>> (8 &&& 31)).toInt8.toInt32).toInt8.toInt32) :: ((13, ((w >>> (16 &&& 31)).toInt8.toInt32).toInt8.toInt32) :: ((12, ((w >>> (24 &&& 31)).toInt8.toInt32).toInt8.toInt32) :: L)))) rfl) (by decide +kernel) (j := 15) rfl (h_Fa _ _ ((15, (w.toInt8.toInt32).toInt8.toInt32) :: ((14, ((w >>> (8 &&& 31)).toInt8.toInt32).toInt8.toInt32) :: ((13, ((w >>> (16 &&& 31)).toInt8.toInt32).toInt8.toInt32) :: ((12, ((w >>> (24 &&& 31)).toInt8.toInt32).toInt8.toInt32) :: L))))) ?_
  refine q_sg x_17_54 rfl rfl (pc1 := 55) (lv1 := [(2, .int 12), (0, .ref 0), (1, .int w)]) (st1 := [.ref 0]) rfl ?_
  refine q_sg x_17_55 rfl rfl (pc1 := 56) (lv1 := [(2, .int 12), (0, .ref 0), (1, .int w)]) (st1 := [.ref 0, .ref 0]) rfl ?_
  refine q_s_get x_17_56 rfl (pc1 := 59) rfl (ci := 11) (k := 12) (ns := 0) (by decide +kernel) (q_ob (h_F0 hG 8 ((15, (w.toInt8.toInt32).toInt8.toInt32) :: ((14, ((w >>> (8 &&& 31)).toInt8.toInt32).toInt8.toInt32) :: ((13, ((w >>> (16 &&& 31)).toInt8.toInt32).toInt8.toInt32) :: ((12, ((w >>> (24 &&& 31)).toInt8.toInt32).toInt8.toInt32) :: L))))) rfl) (v := .int 8) rfl ?_
  refine q_sg x_17_59 rfl rfl (pc1 := 60) (lv1 := [(2, .int 12), (0, .ref 0), (1, .int w)]) (st1 := [.int 4, .int 8, .ref 0]) rfl ?_
  refine q_sg x_17_60 rfl rfl (pc1 := 61) (lv1 := [(2, .int 12), (0, .ref 0), (1, .int w)]) (st1 := [.int 12, .ref 0]) rfl ?_
  refine q_s_put x_17_61 (pc1 := 64) rfl (ci := 11) (k := 12) (ns := 0) (by decide +kernel) (q_ob (h_F0 hG 8 ((15, (w.toInt8.toInt32).toInt8.toInt32) :: ((14, ((w >>> (8 &&& 31)).toInt8.toInt32).toInt8.toInt32) :: ((13, ((w >>> (16 &&& 31)).toInt8.toInt32).toInt8.toInt32) :: ((12, ((w >>> (24 &&& 31)).toInt8.toInt32).toInt8.toInt32) :: L))))) rfl) (by decide +kernel) (h_Fs _ 12 _) ?_
  exact q_sr x_17_64 rfl
theorem h_put12 {G : q_H} (hG : 264 ≤ G.length) (w : Int32) (L : List (Nat × Int32)) (d : Nat) : q_callf 4000 (d + 1) 17 [.ref 0, .int w] (h_F G 12 L) = some (none, h_F G 16 (h_L 12 w L), 0, 0) := by
  refine q_cg rfl ?_
  refine q_sg x_17_0 rfl rfl (pc1 := 1) (lv1 := [(0, .ref 0), (1, .int w)]) (st1 := [.int 4]) rfl ?_
  refine q_sg x_17_1 rfl rfl (pc1 := 2) (lv1 := [(0, .ref 0), (1, .int w)]) (st1 := [.ref 0, .int 4]) rfl ?_
  refine q_s_get x_17_2 rfl (pc1 := 5) rfl (ci := 11) (k := 12) (ns := 0) (by decide +kernel) (q_ob (h_F0 hG 12 L) rfl) (v := .int 12) rfl ?_
  refine q_sg x_17_5 rfl rfl (pc1 := 6) (lv1 := [(0, .ref 0), (1, .int w)]) (st1 := [.int 16]) rfl ?_
  refine q_sg x_17_6 rfl rfl (pc1 := 7) (lv1 := [(2, .int 16), (0, .ref 0), (1, .int w)]) (st1 := []) rfl ?_
  refine q_sg x_17_7 rfl rfl (pc1 := 8) (lv1 := [(2, .int 16), (0, .ref 0), (1, .int w)]) (st1 := [.ref 0]) rfl ?_
  refine q_s_get x_17_8 rfl (pc1 := 11) rfl (ci := 11) (k := 0) (ns := 0) (by decide +kernel) (q_ob (h_F0 hG 12 L) rfl) (v := .ref 4) rfl ?_
  refine q_sg x_17_11 rfl rfl (pc1 := 12) (lv1 := [(2, .int 16), (0, .ref 0), (1, .int w)]) (st1 := [.int 16, .ref 4]) rfl ?_
  refine q_sg x_17_12 rfl rfl (pc1 := 13) (lv1 := [(2, .int 16), (0, .ref 0), (1, .int w)]) (st1 := [.int w, .int 16, .ref 4]) rfl ?_
  refine q_sg x_17_13 rfl rfl (pc1 := 15) (lv1 := [(2, .int 16), (0, .ref 0), (1, .int w)]) (st1 := [.int 24, .int w, .int 16, .ref 4]) rfl ?_
  refine q_sg x_17_15 rfl rfl (pc1 := 16) (lv1 := [(2, .int 16), (0, .ref 0), (1, .int w)]) (st1 := [.int (w >>> (24 &&& 31)), .int 16, .ref 4]) rfl ?_
  refine q_sg x_17_16 rfl rfl (pc1 := 17) (lv1 := [(2, .int 16), (0, .ref 0), (1, .int w)]) (st1 := [.int ((w >>> (24 &&& 31)).toInt8.toInt32), .int 16, .ref 4]) rfl ?_
  refine q_s_bas x_17_17 (pc1 := 18) rfl (q_ar (h_F1 hG 12 L) rfl) (by decide +kernel) (j := 16) rfl (h_Fa _ _ ((16, ((w >>> (24 &&& 31)).toInt8.toInt32).toInt8.toInt32) :: L)) ?_
  refine q_sg x_17_18 rfl rfl (pc1 := 19) (lv1 := [(2, .int 16), (0, .ref 0), (1, .int w)]) (st1 := [.ref 0]) rfl ?_
  refine q_s_get x_17_19 rfl (pc1 := 22) rfl (ci := 11) (k := 0) (ns := 0) (by decide +kernel) (q_ob (h_F0 hG 12 ((16, ((w >>> (24 &&& 31)).toInt8.toInt32).toInt8.toInt32) :: L)) rfl) (v := .ref 4) rfl ?_
  refine q_sg x_17_22 rfl rfl (pc1 := 23) (lv1 := [(2, .int 16), (0, .ref 0), (1, .int w)]) (st1 := [.int 16, .ref 4]) rfl ?_
  refine q_sg x_17_23 rfl rfl (pc1 := 24) (lv1 := [(2, .int 16), (0, .ref 0), (1, .int w)]) (st1 := [.int 1, .int 16, .ref 4]) rfl ?_
  refine q_sg x_17_24 rfl rfl (pc1 := 25) (lv1 := [(2, .int 16), (0, .ref 0), (1, .int w)]) (st1 := [.int 17, .ref 4]) rfl ?_
  refine q_sg x_17_25 rfl rfl (pc1 := 26) (lv1 := [(2, .int 16), (0, .ref 0), (1, .int w)]) (st1 := [.int w, .int 17, .ref 4]) rfl ?_
  refine q_sg x_17_26 rfl rfl (pc1 := 28) (lv1 := [(2, .int 16), (0, .ref 0), (1, .int w)]) (st1 := [.int 16, .int w, .int 17, .ref 4]) rfl ?_
  refine q_sg x_17_28 rfl rfl (pc1 := 29) (lv1 := [(2, .int 16), (0, .ref 0), (1, .int w)]) (st1 := [.int (w >>> (16 &&& 31)), .int 17, .ref 4]) rfl ?_
  refine q_sg x_17_29 rfl rfl (pc1 := 30) (lv1 := [(2, .int 16), (0, .ref 0), (1, .int w)]) (st1 := [.int ((w >>> (16 &&& 31)).toInt8.toInt32), .int 17, .ref 4]) rfl ?_
  refine q_s_bas x_17_30 (pc1 := 31) rfl (q_ar (h_F1 hG 12 ((16, ((w >>> (24 &&& 31)).toInt8.toInt32).toInt8.toInt32) :: L)) rfl) (by decide +kernel) (j := 17) rfl (h_Fa _ _ ((17, ((w >>> (16 &&& 31)).toInt8.toInt32).toInt8.toInt32) :: ((16, ((w >>> (24 &&& 31)).toInt8.toInt32).toInt8.toInt32) :: L))) ?_
  refine q_sg x_17_31 rfl rfl (pc1 := 32) (lv1 := [(2, .int 16), (0, .ref 0), (1, .int w)]) (st1 := [.ref 0]) rfl ?_
  refine q_s_get x_17_32 rfl (pc1 := 35) rfl (ci := 11) (k := 0) (ns := 0) (by decide +kernel) (q_ob (h_F0 hG 12 ((17, ((w >>> (16 &&& 31)).toInt8.toInt32).toInt8.toInt32) :: ((16, ((w >>> (24 &&& 31)).toInt8.toInt32).toInt8.toInt32) :: L))) rfl) (v := .ref 4) rfl ?_
  refine q_sg x_17_35 rfl rfl (pc1 := 36) (lv1 := [(2, .int 16), (0, .ref 0), (1, .int w)]) (st1 := [.int 16, .ref 4]) rfl ?_
  refine q_sg x_17_36 rfl rfl (pc1 := 37) (lv1 := [(2, .int 16), (0, .ref 0), (1, .int w)]) (st1 := [.int 2, .int 16, .ref 4]) rfl ?_
  refine q_sg x_17_37 rfl rfl (pc1 := 38) (lv1 := [(2, .int 16), (0, .ref 0), (1, .int w)]) (st1 := [.int 18, .ref 4]) rfl ?_
  refine q_sg x_17_38 rfl rfl (pc1 := 39) (lv1 := [(2, .int 16), (0, .ref 0), (1, .int w)]) (st1 := [.int w, .int 18, .ref 4]) rfl ?_
  refine q_sg x_17_39 rfl rfl (pc1 := 41) (lv1 := [(2, .int 16), (0, .ref 0), (1, .int w)]) (st1 := [.int 8, .int w, .int 18, .ref 4]) rfl ?_
  refine q_sg x_17_41 rfl rfl (pc1 := 42) (lv1 := [(2, .int 16), (0, .ref 0), (1, .int w)]) (st1 := [.int (w >>> (8 &&& 31)), .int 18, .ref 4]) rfl ?_
  refine q_sg x_17_42 rfl rfl (pc1 := 43) (lv1 := [(2, .int 16), (0, .ref 0), (1, .int w)]) (st1 := [.int ((w >>> (8 &&& 31)).toInt8.toInt32), .int 18, .ref 4]) rfl ?_
  refine q_s_bas x_17_43 (pc1 := 44) rfl (q_ar (h_F1 hG 12 ((17, ((w >>> (16 &&& 31)).toInt8.toInt32).toInt8.toInt32) :: ((16, ((w >>> (24 &&& 31)).toInt8.toInt32).toInt8.toInt32) :: L))) rfl) (by decide +kernel) (j := 18) rfl (h_Fa _ _ ((18, ((w >>> (8 &&& 31)).toInt8.toInt32).toInt8.toInt32) :: ((17, ((w >>> (16 &&& 31)).toInt8.toInt32).toInt8.toInt32) :: ((16, ((w >>> (24 &&& 31)).toInt8.toInt32).toInt8.toInt32) :: L)))) ?_
  refine q_sg x_17_44 rfl rfl (pc1 := 45) (lv1 := [(2, .int 16), (0, .ref 0), (1, .int w)]) (st1 := [.ref 0]) rfl ?_
  refine q_s_get x_17_45 rfl (pc1 := 48) rfl (ci := 11) (k := 0) (ns := 0) (by decide +kernel) (q_ob (h_F0 hG 12 ((18, ((w >>> (8 &&& 31)).toInt8.toInt32).toInt8.toInt32) :: ((17, ((w >>> (16 &&& 31)).toInt8.toInt32).toInt8.toInt32) :: ((16, ((w >>> (24 &&& 31)).toInt8.toInt32).toInt8.toInt32) :: L)))) rfl) (v := .ref 4) rfl ?_
  refine q_sg x_17_48 rfl rfl (pc1 := 49) (lv1 := [(2, .int 16), (0, .ref 0), (1, .int w)]) (st1 := [.int 16, .ref 4]) rfl ?_
  refine q_sg x_17_49 rfl rfl (pc1 := 50) (lv1 := [(2, .int 16), (0, .ref 0), (1, .int w)]) (st1 := [.int 3, .int 16, .ref 4]) rfl ?_
  refine q_sg x_17_50 rfl rfl (pc1 := 51) (lv1 := [(2, .int 16), (0, .ref 0), (1, .int w)]) (st1 := [.int 19, .ref 4]) rfl ?_
  refine q_sg x_17_51 rfl rfl (pc1 := 52) (lv1 := [(2, .int 16), (0, .ref 0), (1, .int w)]) (st1 := [.int w, .int 19, .ref 4]) rfl ?_
  refine q_sg x_17_52 rfl rfl (pc1 := 53) (lv1 := [(2, .int 16), (0, .ref 0), (1, .int w)]) (st1 := [.int (w.toInt8.toInt32), .int 19, .ref 4]) rfl ?_
  refine q_s_bas x_17_53 (pc1 := 54) rfl (q_ar (h_F1 hG 12 ((18, ((w >>> (8 &&& 31)).toInt8.toInt32).toInt8.toInt32) :: ((17, ((w >>> (16 &&& 31)).toInt8.toInt32).toInt8.toInt32) :: ((16, ((w >>> (24 &&& 31)).toInt8.toInt32).toInt8.toInt32) :: L)))) rfl) (by decide +kernel) (j := 19) rfl (h_Fa _ _ ((19, (w.toInt8.toInt32).toInt8.toInt32) :: ((18, ((w >>> (8 &&& 31)).toInt8.toInt32).toInt8.toInt32) :: ((17, ((w >>> (16 &&& 31)).toInt8.toInt32).toInt8.toInt32) :: ((16, ((w >>> (24 &&& 31)).toInt8.toInt32).toInt8.toInt32) :: L))))) ?_
  refine q_sg x_17_54 rfl rfl (pc1 := 55) (lv1 := [(2, .int 16), (0, .ref 0), (1, .int w)]) (st1 := [.ref 0]) rfl ?_
  refine q_sg x_17_55 rfl rfl (pc1 := 56) (lv1 := [(2, .int 16), (0, .ref 0), (1, .int w)]) (st1 := [.ref 0, .ref 0]) rfl ?_
  refine q_s_get x_17_56 rfl (pc1 := 59) rfl (ci := 11) (k := 12) (ns := 0) (by decide +kernel) (q_ob (h_F0 hG 12 ((19, (w.toInt8.toInt32).toInt8.toInt32) :: ((18, ((w >>> (8 &&& 31)).toInt8.toInt32).toInt8.toInt32) :: ((17, ((w >>> (16 &&& 31)).toInt8.toInt32).toInt8.toInt32) :: ((16, ((w >>> (24 &&& 31)).toInt8.toInt32).toInt8.toInt32) :: L))))) rfl) (v := .int 12) rfl ?_
  refine q_sg x_17_59 rfl rfl (pc1 := 60) (lv1 := [(2, .int 16), (0, .ref 0), (1, .int w)]) (st1 := [.int 4, .int 12, .ref 0]) rfl ?_
  refine q_sg x_17_60 rfl rfl (pc1 := 61) (lv1 := [(2, .int 16), (0, .ref 0), (1, .int w)]) (st1 := [.int 16, .ref 0]) rfl ?_
  refine q_s_put x_17_61 (pc1 := 64) rfl (ci := 11) (k := 12) (ns := 0) (by decide +kernel) (q_ob (h_F0 hG 12 ((19, (w.toInt8.toInt32).toInt8.toInt32) :: ((18, ((w >>> (8 &&& 31)).toInt8.toInt32).toInt8.toInt32) :: ((17, ((w >>> (16 &&& 31)).toInt8.toInt32).toInt8.toInt32) :: ((16, ((w >>> (24 &&& 31)).toInt8.toInt32).toInt8.toInt32) :: L))))) rfl) (by decide +kernel) (h_Fs _ 16 _) ?_
  exact q_sr x_17_64 rfl
theorem h_put16 {G : q_H} (hG : 264 ≤ G.length) (w : Int32) (L : List (Nat × Int32)) (d : Nat) : q_callf 4000 (d + 1) 17 [.ref 0, .int w] (h_F G 16 L) = some (none, h_F G 20 (h_L 16 w L), 0, 0) := by
  refine q_cg rfl ?_
  refine q_sg x_17_0 rfl rfl (pc1 := 1) (lv1 := [(0, .ref 0), (1, .int w)]) (st1 := [.int 4]) rfl ?_
  refine q_sg x_17_1 rfl rfl (pc1 := 2) (lv1 := [(0, .ref 0), (1, .int w)]) (st1 := [.ref 0, .int 4]) rfl ?_
  refine q_s_get x_17_2 rfl (pc1 := 5) rfl (ci := 11) (k := 12) (ns := 0) (by decide +kernel) (q_ob (h_F0 hG 16 L) rfl) (v := .int 16) rfl ?_
  refine q_sg x_17_5 rfl rfl (pc1 := 6) (lv1 := [(0, .ref 0), (1, .int w)]) (st1 := [.int 20]) rfl ?_
  refine q_sg x_17_6 rfl rfl (pc1 := 7) (lv1 := [(2, .int 20), (0, .ref 0), (1, .int w)]) (st1 := []) rfl ?_
  refine q_sg x_17_7 rfl rfl (pc1 := 8) (lv1 := [(2, .int 20), (0, .ref 0), (1, .int w)]) (st1 := [.ref 0]) rfl ?_
  refine q_s_get x_17_8 rfl (pc1 := 11) rfl (ci := 11) (k := 0) (ns := 0) (by decide +kernel) (q_ob (h_F0 hG 16 L) rfl) (v := .ref 4) rfl ?_
  refine q_sg x_17_11 rfl rfl (pc1 := 12) (lv1 := [(2, .int 20), (0, .ref 0), (1, .int w)]) (st1 := [.int 20, .ref 4]) rfl ?_
  refine q_sg x_17_12 rfl rfl (pc1 := 13) (lv1 := [(2, .int 20), (0, .ref 0), (1, .int w)]) (st1 := [.int w, .int 20, .ref 4]) rfl ?_
  refine q_sg x_17_13 rfl rfl (pc1 := 15) (lv1 := [(2, .int 20), (0, .ref 0), (1, .int w)]) (st1 := [.int 24, .int w, .int 20, .ref 4]) rfl ?_
  refine q_sg x_17_15 rfl rfl (pc1 := 16) (lv1 := [(2, .int 20), (0, .ref 0), (1, .int w)]) (st1 := [.int (w >>> (24 &&& 31)), .int 20, .ref 4]) rfl ?_
  refine q_sg x_17_16 rfl rfl (pc1 := 17) (lv1 := [(2, .int 20), (0, .ref 0), (1, .int w)]) (st1 := [.int ((w >>> (24 &&& 31)).toInt8.toInt32), .int 20, .ref 4]) rfl ?_
  refine q_s_bas x_17_17 (pc1 := 18) rfl (q_ar (h_F1 hG 16 L) rfl) (by decide +kernel) (j := 20) rfl (h_Fa _ _ ((20, ((w >>> (24 &&& 31)).toInt8.toInt32).toInt8.toInt32) :: L)) ?_
  refine q_sg x_17_18 rfl rfl (pc1 := 19) (lv1 := [(2, .int 20), (0, .ref 0), (1, .int w)]) (st1 := [.ref 0]) rfl ?_
  refine q_s_get x_17_19 rfl (pc1 := 22) rfl (ci := 11) (k := 0) (ns := 0) (by decide +kernel) (q_ob (h_F0 hG 16 ((20, ((w >>> (24 &&& 31)).toInt8.toInt32).toInt8.toInt32) :: L)) rfl) (v := .ref 4) rfl ?_
  refine q_sg x_17_22 rfl rfl (pc1 := 23) (lv1 := [(2, .int 20), (0, .ref 0), (1, .int w)]) (st1 := [.int 20, .ref 4]) rfl ?_
  refine q_sg x_17_23 rfl rfl (pc1 := 24) (lv1 := [(2, .int 20), (0, .ref 0), (1, .int w)]) (st1 := [.int 1, .int 20, .ref 4]) rfl ?_
  refine q_sg x_17_24 rfl rfl (pc1 := 25) (lv1 := [(2, .int 20), (0, .ref 0), (1, .int w)]) (st1 := [.int 21, .ref 4]) rfl ?_
  refine q_sg x_17_25 rfl rfl (pc1 := 26) (lv1 := [(2, .int 20), (0, .ref 0), (1, .int w)]) (st1 := [.int w, .int 21, .ref 4]) rfl ?_
  refine q_sg x_17_26 rfl rfl (pc1 := 28) (lv1 := [(2, .int 20), (0, .ref 0), (1, .int w)]) (st1 := [.int 16, .int w, .int 21, .ref 4]) rfl ?_
  refine q_sg x_17_28 rfl rfl (pc1 := 29) (lv1 := [(2, .int 20), (0, .ref 0), (1, .int w)]) (st1 := [.int (w >>> (16 &&& 31)), .int 21, .ref 4]) rfl ?_
  refine q_sg x_17_29 rfl rfl (pc1 := 30) (lv1 := [(2, .int 20), (0, .ref 0), (1, .int w)]) (st1 := [.int ((w >>> (16 &&& 31)).toInt8.toInt32), .int 21, .ref 4]) rfl ?_
  refine q_s_bas x_17_30 (pc1 := 31) rfl (q_ar (h_F1 hG 16 ((20, ((w >>> (24 &&& 31)).toInt8.toInt32).toInt8.toInt32) :: L)) rfl) (by decide +kernel) (j := 21) rfl (h_Fa _ _ ((21, ((w >>> (16 &&& 31)).toInt8.toInt32).toInt8.toInt32) :: ((20, ((w >>> (24 &&& 31)).toInt8.toInt32).toInt8.toInt32) :: L))) ?_
  refine q_sg x_17_31 rfl rfl (pc1 := 32) (lv1 := [(2, .int 20), (0, .ref 0), (1, .int w)]) (st1 := [.ref 0]) rfl ?_
  refine q_s_get x_17_32 rfl (pc1 := 35) rfl (ci := 11) (k := 0) (ns := 0) (by decide +kernel) (q_ob (h_F0 hG 16 ((21, ((w >>> (16 &&& 31)).toInt8.toInt32).toInt8.toInt32) :: ((20, ((w >>> (24 &&& 31)).toInt8.toInt32).toInt8.toInt32) :: L))) rfl) (v := .ref 4) rfl ?_
  refine q_sg x_17_35 rfl rfl (pc1 := 36) (lv1 := [(2, .int 20), (0, .ref 0), (1, .int w)]) (st1 := [.int 20, .ref 4]) rfl ?_
  refine q_sg x_17_36 rfl rfl (pc1 := 37) (lv1 := [(2, .int 20), (0, .ref 0), (1, .int w)]) (st1 := [.int 2, .int 20, .ref 4]) rfl ?_
  refine q_sg x_17_37 rfl rfl (pc1 := 38) (lv1 := [(2, .int 20), (0, .ref 0), (1, .int w)]) (st1 := [.int 22, .ref 4]) rfl ?_
  refine q_sg x_17_38 rfl rfl (pc1 := 39) (lv1 := [(2, .int 20), (0, .ref 0), (1, .int w)]) (st1 := [.int w, .int 22, .ref 4]) rfl ?_
  refine q_sg x_17_39 rfl rfl (pc1 := 41) (lv1 := [(2, .int 20), (0, .ref 0), (1, .int w)]) (st1 := [.int 8, .int w, .int 22, .ref 4]) rfl ?_
  refine q_sg x_17_41 rfl rfl (pc1 := 42) (lv1 := [(2, .int 20), (0, .ref 0), (1, .int w)]) (st1 := [.int (w >>> (8 &&& 31)), .int 22, .ref 4]) rfl ?_
  refine q_sg x_17_42 rfl rfl (pc1 := 43) (lv1 := [(2, .int 20), (0, .ref 0), (1, .int w)]) (st1 := [.int ((w >>> (8 &&& 31)).toInt8.toInt32), .int 22, .ref 4]) rfl ?_
  refine q_s_bas x_17_43 (pc1 := 44) rfl (q_ar (h_F1 hG 16 ((21, ((w >>> (16 &&& 31)).toInt8.toInt32).toInt8.toInt32) :: ((20, ((w >>> (24 &&& 31)).toInt8.toInt32).toInt8.toInt32) :: L))) rfl) (by decide +kernel) (j := 22) rfl (h_Fa _ _ ((22, ((w >>> (8 &&& 31)).toInt8.toInt32).toInt8.toInt32) :: ((21, ((w >>> (16 &&& 31)).toInt8.toInt32).toInt8.toInt32) :: ((20, ((w >>> (24 &&& 31)).toInt8.toInt32).toInt8.toInt32) :: L)))) ?_
  refine q_sg x_17_44 rfl rfl (pc1 := 45) (lv1 := [(2, .int 20), (0, .ref 0), (1, .int w)]) (st1 := [.ref 0]) rfl ?_
  refine q_s_get x_17_45 rfl (pc1 := 48) rfl (ci := 11) (k := 0) (ns := 0) (by decide +kernel) (q_ob (h_F0 hG 16 ((22, ((w >>> (8 &&& 31)).toInt8.toInt32).toInt8.toInt32) :: ((21, ((w >>> (16 &&& 31)).toInt8.toInt32).toInt8.toInt32) :: ((20, ((w >>> (24 &&& 31)).toInt8.toInt32).toInt8.toInt32) :: L)))) rfl) (v := .ref 4) rfl ?_
  refine q_sg x_17_48 rfl rfl (pc1 := 49) (lv1 := [(2, .int 20), (0, .ref 0), (1, .int w)]) (st1 := [.int 20, .ref 4]) rfl ?_
  refine q_sg x_17_49 rfl rfl (pc1 := 50) (lv1 := [(2, .int 20), (0, .ref 0), (1, .int w)]) (st1 := [.int 3, .int 20, .ref 4]) rfl ?_
  refine q_sg x_17_50 rfl rfl (pc1 := 51) (lv1 := [(2, .int 20), (0, .ref 0), (1, .int w)]) (st1 := [.int 23, .ref 4]) rfl ?_
  refine q_sg x_17_51 rfl rfl (pc1 := 52) (lv1 := [(2, .int 20), (0, .ref 0), (1, .int w)]) (st1 := [.int w, .int 23, .ref 4]) rfl ?_
  refine q_sg x_17_52 rfl rfl (pc1 := 53) (lv1 := [(2, .int 20), (0, .ref 0), (1, .int w)]) (st1 := [.int (w.toInt8.toInt32), .int 23, .ref 4]) rfl ?_
  refine q_s_bas x_17_53 (pc1 := 54) rfl (q_ar (h_F1 hG 16 ((22, ((w >>> (8 &&& 31)).toInt8.toInt32).toInt8.toInt32) :: ((21, ((w >>> (16 &&& 31)).toInt8.toInt32).toInt8.toInt32) :: ((20, ((w >>> (24 &&& 31)).toInt8.toInt32).toInt8.toInt32) :: L)))) rfl) (by decide +kernel) (j := 23) rfl (h_Fa _ _ ((23, (w.toInt8.toInt32).toInt8.toInt32) :: ((22, ((w >>> (8 &&& 31)).toInt8.toInt32).toInt8.toInt32) :: ((21, ((w >>> (16 &&& 31)).toInt8.toInt32).toInt8.toInt32) :: ((20, ((w >>> (24 &&& 31)).toInt8.toInt32).toInt8.toInt32) :: L))))) ?_
  refine q_sg x_17_54 rfl rfl (pc1 := 55) (lv1 := [(2, .int 20), (0, .ref 0), (1, .int w)]) (st1 := [.ref 0]) rfl ?_
  refine q_sg x_17_55 rfl rfl (pc1 := 56) (lv1 := [(2, .int 20), (0, .ref 0), (1, .int w)]) (st1 := [.ref 0, .ref 0]) rfl ?_
  refine q_s_get x_17_56 rfl (pc1 := 59) rfl (ci := 11) (k := 12) (ns := 0) (by decide +kernel) (q_ob (h_F0 hG 16 ((23, (w.toInt8.toInt32).toInt8.toInt32) :: ((22, ((w >>> (8 &&& 31)).toInt8.toInt32).toInt8.toInt32) :: ((21, ((w >>> (16 &&& 31)).toInt8.toInt32).toInt8.toInt32) :: ((20, ((w >>> (24 &&& 31)).toInt8.toInt32).toInt8.toInt32) :: L))))) rfl) (v := .int 16) rfl ?_
  refine q_sg x_17_59 rfl rfl (pc1 := 60) (lv1 := [(2, .int 20), (0, .ref 0), (1, .int w)]) (st1 := [.int 4, .int 16, .ref 0]) rfl ?_
  refine q_sg x_17_60 rfl rfl (pc1 := 61) (lv1 := [(2, .int 20), (0, .ref 0), (1, .int w)]) (st1 := [.int 20, .ref 0]) rfl ?_
  refine q_s_put x_17_61 (pc1 := 64) rfl (ci := 11) (k := 12) (ns := 0) (by decide +kernel) (q_ob (h_F0 hG 16 ((23, (w.toInt8.toInt32).toInt8.toInt32) :: ((22, ((w >>> (8 &&& 31)).toInt8.toInt32).toInt8.toInt32) :: ((21, ((w >>> (16 &&& 31)).toInt8.toInt32).toInt8.toInt32) :: ((20, ((w >>> (24 &&& 31)).toInt8.toInt32).toInt8.toInt32) :: L))))) rfl) (by decide +kernel) (h_Fs _ 20 _) ?_
  exact q_sr x_17_64 rfl
theorem h_feed {G : q_H} (hG : 264 ≤ G.length) (a b c e f : Int32) (L : List (Nat × Int32)) (d : Nat) : q_callf 4000 (d + 2) 16 [.ref 0, .int a, .int b, .int c, .int e, .int f] (h_F G 0 L) = some (some (.int 20), h_F G 20 (h_L 16 f (h_L 12 e (h_L 8 c (h_L 4 b (h_L 0 a L))))), 0, 0) := by
  refine q_cg rfl ?_
  refine q_sg x_16_0 rfl rfl (pc1 := 1) (lv1 := [(0, .ref 0), (1, .int a), (2, .int b), (3, .int c), (4, .int e), (5, .int f)]) (st1 := [.ref 0]) rfl ?_
  refine q_s_get x_16_1 rfl (pc1 := 4) rfl (ci := 11) (k := 12) (ns := 0) (by decide +kernel) (q_ob (h_F0 hG 0 L) rfl) (v := .int 0) rfl ?_
  refine q_sg x_16_4 rfl rfl (pc1 := 6) (lv1 := [(0, .ref 0), (1, .int a), (2, .int b), (3, .int c), (4, .int e), (5, .int f)]) (st1 := [.int 20, .int 0]) rfl ?_
  refine q_sg x_16_6 rfl rfl (pc1 := 7) (lv1 := [(0, .ref 0), (1, .int a), (2, .int b), (3, .int c), (4, .int e), (5, .int f)]) (st1 := [.int 20]) rfl ?_
  refine q_sg x_16_7 rfl rfl (pc1 := 10) (lv1 := [(0, .ref 0), (1, .int a), (2, .int b), (3, .int c), (4, .int e), (5, .int f)]) (st1 := [.int 2000, .int 20]) rfl ?_
  refine q_sg x_16_10 rfl rfl (pc1 := 15) (lv1 := [(0, .ref 0), (1, .int a), (2, .int b), (3, .int c), (4, .int e), (5, .int f)]) (st1 := []) rfl ?_
  refine q_sg x_16_15 rfl rfl (pc1 := 16) (lv1 := [(0, .ref 0), (1, .int a), (2, .int b), (3, .int c), (4, .int e), (5, .int f)]) (st1 := [.ref 0]) rfl ?_
  refine q_sg x_16_16 rfl rfl (pc1 := 17) (lv1 := [(0, .ref 0), (1, .int a), (2, .int b), (3, .int c), (4, .int e), (5, .int f)]) (st1 := [.int a, .ref 0]) rfl ?_
  refine q_s_inv x_16_17 (y := 17) (z := 0) (by decide +kernel) (pc1 := 20) rfl (as := [.int a]) (r := []) rfl rfl rfl rfl (ci := 11) rfl (by decide) (q_ob (h_F0 hG 0 L) rfl) (Nat.zero_le _) (h_put0 hG a L _) (st1 := []) rfl ?_
  refine q_sg x_16_20 rfl rfl (pc1 := 21) (lv1 := [(0, .ref 0), (1, .int a), (2, .int b), (3, .int c), (4, .int e), (5, .int f)]) (st1 := [.ref 0]) rfl ?_
  refine q_sg x_16_21 rfl rfl (pc1 := 22) (lv1 := [(0, .ref 0), (1, .int a), (2, .int b), (3, .int c), (4, .int e), (5, .int f)]) (st1 := [.int b, .ref 0]) rfl ?_
  refine q_s_inv x_16_22 (y := 17) (z := 0) (by decide +kernel) (pc1 := 25) rfl (as := [.int b]) (r := []) rfl rfl rfl rfl (ci := 11) rfl (by decide) (q_ob (h_F0 hG 4 (h_L 0 a L)) rfl) (Nat.zero_le _) (h_put4 hG b (h_L 0 a L) _) (st1 := []) rfl ?_
  refine q_sg x_16_25 rfl rfl (pc1 := 26) (lv1 := [(0, .ref 0), (1, .int a), (2, .int b), (3, .int c), (4, .int e), (5, .int f)]) (st1 := [.ref 0]) rfl ?_
  refine q_sg x_16_26 rfl rfl (pc1 := 27) (lv1 := [(0, .ref 0), (1, .int a), (2, .int b), (3, .int c), (4, .int e), (5, .int f)]) (st1 := [.int c, .ref 0]) rfl ?_
  refine q_s_inv x_16_27 (y := 17) (z := 0) (by decide +kernel) (pc1 := 30) rfl (as := [.int c]) (r := []) rfl rfl rfl rfl (ci := 11) rfl (by decide) (q_ob (h_F0 hG 8 (h_L 4 b (h_L 0 a L))) rfl) (Nat.zero_le _) (h_put8 hG c (h_L 4 b (h_L 0 a L)) _) (st1 := []) rfl ?_
  refine q_sg x_16_30 rfl rfl (pc1 := 31) (lv1 := [(0, .ref 0), (1, .int a), (2, .int b), (3, .int c), (4, .int e), (5, .int f)]) (st1 := [.ref 0]) rfl ?_
  refine q_sg x_16_31 rfl rfl (pc1 := 33) (lv1 := [(0, .ref 0), (1, .int a), (2, .int b), (3, .int c), (4, .int e), (5, .int f)]) (st1 := [.int e, .ref 0]) rfl ?_
  refine q_s_inv x_16_33 (y := 17) (z := 0) (by decide +kernel) (pc1 := 36) rfl (as := [.int e]) (r := []) rfl rfl rfl rfl (ci := 11) rfl (by decide) (q_ob (h_F0 hG 12 (h_L 8 c (h_L 4 b (h_L 0 a L)))) rfl) (Nat.zero_le _) (h_put12 hG e (h_L 8 c (h_L 4 b (h_L 0 a L))) _) (st1 := []) rfl ?_
  refine q_sg x_16_36 rfl rfl (pc1 := 37) (lv1 := [(0, .ref 0), (1, .int a), (2, .int b), (3, .int c), (4, .int e), (5, .int f)]) (st1 := [.ref 0]) rfl ?_
  refine q_sg x_16_37 rfl rfl (pc1 := 39) (lv1 := [(0, .ref 0), (1, .int a), (2, .int b), (3, .int c), (4, .int e), (5, .int f)]) (st1 := [.int f, .ref 0]) rfl ?_
  refine q_s_inv x_16_39 (y := 17) (z := 0) (by decide +kernel) (pc1 := 42) rfl (as := [.int f]) (r := []) rfl rfl rfl rfl (ci := 11) rfl (by decide) (q_ob (h_F0 hG 16 (h_L 12 e (h_L 8 c (h_L 4 b (h_L 0 a L))))) rfl) (Nat.zero_le _) (h_put16 hG f (h_L 12 e (h_L 8 c (h_L 4 b (h_L 0 a L)))) _) (st1 := []) rfl ?_
  refine q_sg x_16_42 rfl rfl (pc1 := 43) (lv1 := [(0, .ref 0), (1, .int a), (2, .int b), (3, .int c), (4, .int e), (5, .int f)]) (st1 := [.ref 0]) rfl ?_
  refine q_s_get x_16_43 rfl (pc1 := 46) rfl (ci := 11) (k := 12) (ns := 0) (by decide +kernel) (q_ob (h_F0 hG 20 (h_L 16 f (h_L 12 e (h_L 8 c (h_L 4 b (h_L 0 a L)))))) rfl) (v := .int 20) rfl ?_
  exact q_sr x_16_46 rfl
theorem m_turn0 {G : q_H} (hG : 264 ≤ G.length) {a b c e f : Int32} {L : List (Nat × Int32)} {d n : Nat} (kk : ∀ L1, ∃ E1, q_run (q_callf 4000 d) (q_own 40) (q_maxL 40) (q_ini 40) (q_code 40) (q_ret 40) n 18 [(6, .int 1), (7, .int a), (0, .ref 448), (1, .int a), (2, .int b), (3, .int c), (4, .int e), (5, .int f)] [] (m_F G 1 L1) 0 0 = some (some (.int 20), E1, 0, 0)) : ∃ E1, q_run (q_callf 4000 d) (q_own 40) (q_maxL 40) (q_ini 40) (q_code 40) (q_ret 40) (n + 33) 18 [(6, .int 0), (0, .ref 448), (1, .int a), (2, .int b), (3, .int c), (4, .int e), (5, .int f)] [] (m_F G 0 L) 0 0 = some (some (.int 20), E1, 0, 0) := by
  obtain ⟨E1, kk⟩ := kk ((0, ((a >>> (24 &&& 31)) &&& 255)) :: L)
  refine ⟨E1, ?_⟩
  refine q_sg x_40_18 rfl rfl (pc1 := 20) (lv1 := [(6, .int 0), (0, .ref 448), (1, .int a), (2, .int b), (3, .int c), (4, .int e), (5, .int f)]) (st1 := [.int 0]) rfl ?_
  refine q_sg x_40_20 rfl rfl (pc1 := 22) (lv1 := [(6, .int 0), (0, .ref 448), (1, .int a), (2, .int b), (3, .int c), (4, .int e), (5, .int f)]) (st1 := [.int 20, .int 0]) rfl ?_
  refine q_sg x_40_22 rfl rfl (pc1 := 25) (lv1 := [(6, .int 0), (0, .ref 448), (1, .int a), (2, .int b), (3, .int c), (4, .int e), (5, .int f)]) (st1 := []) rfl ?_
  refine q_sg x_40_25 rfl rfl (pc1 := 27) (lv1 := [(6, .int 0), (0, .ref 448), (1, .int a), (2, .int b), (3, .int c), (4, .int e), (5, .int f)]) (st1 := [.int 0]) rfl ?_
  refine q_sg x_40_27 rfl rfl (pc1 := 28) (lv1 := [(6, .int 0), (0, .ref 448), (1, .int a), (2, .int b), (3, .int c), (4, .int e), (5, .int f)]) (st1 := [.int 4, .int 0]) rfl ?_
  refine q_sg x_40_28 rfl rfl (pc1 := 31) (lv1 := [(6, .int 0), (0, .ref 448), (1, .int a), (2, .int b), (3, .int c), (4, .int e), (5, .int f)]) (st1 := []) rfl ?_
  refine q_sg x_40_31 rfl rfl (pc1 := 32) (lv1 := [(6, .int 0), (0, .ref 448), (1, .int a), (2, .int b), (3, .int c), (4, .int e), (5, .int f)]) (st1 := [.int a]) rfl ?_
  refine q_sg x_40_32 rfl rfl (pc1 := 71) (lv1 := [(6, .int 0), (0, .ref 448), (1, .int a), (2, .int b), (3, .int c), (4, .int e), (5, .int f)]) (st1 := [.int a]) rfl ?_
  refine q_sg x_40_71 rfl rfl (pc1 := 73) (lv1 := [(7, .int a), (6, .int 0), (0, .ref 448), (1, .int a), (2, .int b), (3, .int c), (4, .int e), (5, .int f)]) (st1 := []) rfl ?_
  refine q_sg x_40_73 rfl rfl (pc1 := 74) (lv1 := [(7, .int a), (6, .int 0), (0, .ref 448), (1, .int a), (2, .int b), (3, .int c), (4, .int e), (5, .int f)]) (st1 := [.ref 448]) rfl ?_
  refine q_s_get x_40_74 rfl (pc1 := 77) rfl (ci := 12) (k := 1) (ns := 0) (by decide +kernel) (q_ob (m_F0 hG 0 L) rfl) (v := .ref 452) rfl ?_
  refine q_sg x_40_77 rfl rfl (pc1 := 78) (lv1 := [(7, .int a), (6, .int 0), (0, .ref 448), (1, .int a), (2, .int b), (3, .int c), (4, .int e), (5, .int f)]) (st1 := [.ref 448, .ref 452]) rfl ?_
  refine q_s_get x_40_78 rfl (pc1 := 81) rfl (ci := 12) (k := 2) (ns := 0) (by decide +kernel) (q_ob (m_F0 hG 0 L) rfl) (v := .int 0) rfl ?_
  refine q_sg x_40_81 rfl rfl (pc1 := 83) (lv1 := [(7, .int a), (6, .int 0), (0, .ref 448), (1, .int a), (2, .int b), (3, .int c), (4, .int e), (5, .int f)]) (st1 := [.int a, .int 0, .ref 452]) rfl ?_
  refine q_sg x_40_83 rfl rfl (pc1 := 85) (lv1 := [(7, .int a), (6, .int 0), (0, .ref 448), (1, .int a), (2, .int b), (3, .int c), (4, .int e), (5, .int f)]) (st1 := [.int 24, .int a, .int 0, .ref 452]) rfl ?_
  refine q_sg x_40_85 rfl rfl (pc1 := 87) (lv1 := [(7, .int a), (6, .int 0), (0, .ref 448), (1, .int a), (2, .int b), (3, .int c), (4, .int e), (5, .int f)]) (st1 := [.int 8, .int 24, .int a, .int 0, .ref 452]) rfl ?_
  refine q_sg x_40_87 rfl rfl (pc1 := 89) (lv1 := [(7, .int a), (6, .int 0), (0, .ref 448), (1, .int a), (2, .int b), (3, .int c), (4, .int e), (5, .int f)]) (st1 := [.int 0, .int 8, .int 24, .int a, .int 0, .ref 452]) rfl ?_
  refine q_sg x_40_89 rfl rfl (pc1 := 90) (lv1 := [(7, .int a), (6, .int 0), (0, .ref 448), (1, .int a), (2, .int b), (3, .int c), (4, .int e), (5, .int f)]) (st1 := [.int 4, .int 0, .int 8, .int 24, .int a, .int 0, .ref 452]) rfl ?_
  refine q_sg x_40_90 rfl rfl (pc1 := 91) (lv1 := [(7, .int a), (6, .int 0), (0, .ref 448), (1, .int a), (2, .int b), (3, .int c), (4, .int e), (5, .int f)]) (st1 := [.int 0, .int 8, .int 24, .int a, .int 0, .ref 452]) rfl ?_
  refine q_sg x_40_91 rfl rfl (pc1 := 92) (lv1 := [(7, .int a), (6, .int 0), (0, .ref 448), (1, .int a), (2, .int b), (3, .int c), (4, .int e), (5, .int f)]) (st1 := [.int 0, .int 24, .int a, .int 0, .ref 452]) rfl ?_
  refine q_sg x_40_92 rfl rfl (pc1 := 93) (lv1 := [(7, .int a), (6, .int 0), (0, .ref 448), (1, .int a), (2, .int b), (3, .int c), (4, .int e), (5, .int f)]) (st1 := [.int 24, .int a, .int 0, .ref 452]) rfl ?_
  refine q_sg x_40_93 rfl rfl (pc1 := 94) (lv1 := [(7, .int a), (6, .int 0), (0, .ref 448), (1, .int a), (2, .int b), (3, .int c), (4, .int e), (5, .int f)]) (st1 := [.int (a >>> (24 &&& 31)), .int 0, .ref 452]) rfl ?_
  refine q_sg x_40_94 rfl rfl (pc1 := 97) (lv1 := [(7, .int a), (6, .int 0), (0, .ref 448), (1, .int a), (2, .int b), (3, .int c), (4, .int e), (5, .int f)]) (st1 := [.int 255, .int (a >>> (24 &&& 31)), .int 0, .ref 452]) rfl ?_
  refine q_sg x_40_97 rfl rfl (pc1 := 98) (lv1 := [(7, .int a), (6, .int 0), (0, .ref 448), (1, .int a), (2, .int b), (3, .int c), (4, .int e), (5, .int f)]) (st1 := [.int ((a >>> (24 &&& 31)) &&& 255), .int 0, .ref 452]) rfl ?_
  refine q_s_ias x_40_98 (pc1 := 99) rfl (q_ar (m_F1 hG 0 L) rfl) (by decide +kernel) (j := 0) rfl (m_Fa _ _ ((0, ((a >>> (24 &&& 31)) &&& 255)) :: L)) ?_
  refine q_sg x_40_99 rfl rfl (pc1 := 100) (lv1 := [(7, .int a), (6, .int 0), (0, .ref 448), (1, .int a), (2, .int b), (3, .int c), (4, .int e), (5, .int f)]) (st1 := [.ref 448]) rfl ?_
  refine q_sg x_40_100 rfl rfl (pc1 := 101) (lv1 := [(7, .int a), (6, .int 0), (0, .ref 448), (1, .int a), (2, .int b), (3, .int c), (4, .int e), (5, .int f)]) (st1 := [.ref 448, .ref 448]) rfl ?_
  refine q_s_get x_40_101 rfl (pc1 := 104) rfl (ci := 12) (k := 2) (ns := 0) (by decide +kernel) (q_ob (m_F0 hG 0 ((0, ((a >>> (24 &&& 31)) &&& 255)) :: L)) rfl) (v := .int 0) rfl ?_
  refine q_sg x_40_104 rfl rfl (pc1 := 105) (lv1 := [(7, .int a), (6, .int 0), (0, .ref 448), (1, .int a), (2, .int b), (3, .int c), (4, .int e), (5, .int f)]) (st1 := [.int 1, .int 0, .ref 448]) rfl ?_
  refine q_sg x_40_105 rfl rfl (pc1 := 106) (lv1 := [(7, .int a), (6, .int 0), (0, .ref 448), (1, .int a), (2, .int b), (3, .int c), (4, .int e), (5, .int f)]) (st1 := [.int 1, .ref 448]) rfl ?_
  refine q_s_put x_40_106 (pc1 := 109) rfl (ci := 12) (k := 2) (ns := 0) (by decide +kernel) (q_ob (m_F0 hG 0 ((0, ((a >>> (24 &&& 31)) &&& 255)) :: L)) rfl) (by decide +kernel) (m_Fs _ 1 _) ?_
  refine q_sg x_40_109 rfl rfl (pc1 := 112) (lv1 := [(6, .int 1), (7, .int a), (0, .ref 448), (1, .int a), (2, .int b), (3, .int c), (4, .int e), (5, .int f)]) (st1 := []) rfl ?_
  refine q_sg x_40_112 rfl rfl (pc1 := 18) (lv1 := [(6, .int 1), (7, .int a), (0, .ref 448), (1, .int a), (2, .int b), (3, .int c), (4, .int e), (5, .int f)]) (st1 := []) rfl ?_
  exact kk
theorem m_turn1 {G : q_H} (hG : 264 ≤ G.length) {a b c e f : Int32} {L : List (Nat × Int32)} {d n : Nat} (kk : ∀ L1, ∃ E1, q_run (q_callf 4000 d) (q_own 40) (q_maxL 40) (q_ini 40) (q_code 40) (q_ret 40) n 18 [(6, .int 2), (7, .int a), (0, .ref 448), (1, .int a), (2, .int b), (3, .int c), (4, .int e), (5, .int f)] [] (m_F G 2 L1) 0 0 = some (some (.int 20), E1, 0, 0)) : ∃ E1, q_run (q_callf 4000 d) (q_own 40) (q_maxL 40) (q_ini 40) (q_code 40) (q_ret 40) (n + 33) 18 [(6, .int 1), (7, .int a), (0, .ref 448), (1, .int a), (2, .int b), (3, .int c), (4, .int e), (5, .int f)] [] (m_F G 1 L) 0 0 = some (some (.int 20), E1, 0, 0) := by
  obtain ⟨E1, kk⟩ := kk ((1, ((a >>> (16 &&& 31)) &&& 255)) :: L)
  refine ⟨E1, ?_⟩
  refine q_sg x_40_18 rfl rfl (pc1 := 20) (lv1 := [(6, .int 1), (7, .int a), (0, .ref 448), (1, .int a), (2, .int b), (3, .int c), (4, .int e), (5, .int f)]) (st1 := [.int 1]) rfl ?_
  refine q_sg x_40_20 rfl rfl (pc1 := 22) (lv1 := [(6, .int 1), (7, .int a), (0, .ref 448), (1, .int a), (2, .int b), (3, .int c), (4, .int e), (5, .int f)]) (st1 := [.int 20, .int 1]) rfl ?_
  refine q_sg x_40_22 rfl rfl (pc1 := 25) (lv1 := [(6, .int 1), (7, .int a), (0, .ref 448), (1, .int a), (2, .int b), (3, .int c), (4, .int e), (5, .int f)]) (st1 := []) rfl ?_
  refine q_sg x_40_25 rfl rfl (pc1 := 27) (lv1 := [(6, .int 1), (7, .int a), (0, .ref 448), (1, .int a), (2, .int b), (3, .int c), (4, .int e), (5, .int f)]) (st1 := [.int 1]) rfl ?_
  refine q_sg x_40_27 rfl rfl (pc1 := 28) (lv1 := [(6, .int 1), (7, .int a), (0, .ref 448), (1, .int a), (2, .int b), (3, .int c), (4, .int e), (5, .int f)]) (st1 := [.int 4, .int 1]) rfl ?_
  refine q_sg x_40_28 rfl rfl (pc1 := 31) (lv1 := [(6, .int 1), (7, .int a), (0, .ref 448), (1, .int a), (2, .int b), (3, .int c), (4, .int e), (5, .int f)]) (st1 := []) rfl ?_
  refine q_sg x_40_31 rfl rfl (pc1 := 32) (lv1 := [(6, .int 1), (7, .int a), (0, .ref 448), (1, .int a), (2, .int b), (3, .int c), (4, .int e), (5, .int f)]) (st1 := [.int a]) rfl ?_
  refine q_sg x_40_32 rfl rfl (pc1 := 71) (lv1 := [(6, .int 1), (7, .int a), (0, .ref 448), (1, .int a), (2, .int b), (3, .int c), (4, .int e), (5, .int f)]) (st1 := [.int a]) rfl ?_
  refine q_sg x_40_71 rfl rfl (pc1 := 73) (lv1 := [(7, .int a), (6, .int 1), (0, .ref 448), (1, .int a), (2, .int b), (3, .int c), (4, .int e), (5, .int f)]) (st1 := []) rfl ?_
  refine q_sg x_40_73 rfl rfl (pc1 := 74) (lv1 := [(7, .int a), (6, .int 1), (0, .ref 448), (1, .int a), (2, .int b), (3, .int c), (4, .int e), (5, .int f)]) (st1 := [.ref 448]) rfl ?_
  refine q_s_get x_40_74 rfl (pc1 := 77) rfl (ci := 12) (k := 1) (ns := 0) (by decide +kernel) (q_ob (m_F0 hG 1 L) rfl) (v := .ref 452) rfl ?_
  refine q_sg x_40_77 rfl rfl (pc1 := 78) (lv1 := [(7, .int a), (6, .int 1), (0, .ref 448), (1, .int a), (2, .int b), (3, .int c), (4, .int e), (5, .int f)]) (st1 := [.ref 448, .ref 452]) rfl ?_
  refine q_s_get x_40_78 rfl (pc1 := 81) rfl (ci := 12) (k := 2) (ns := 0) (by decide +kernel) (q_ob (m_F0 hG 1 L) rfl) (v := .int 1) rfl ?_
  refine q_sg x_40_81 rfl rfl (pc1 := 83) (lv1 := [(7, .int a), (6, .int 1), (0, .ref 448), (1, .int a), (2, .int b), (3, .int c), (4, .int e), (5, .int f)]) (st1 := [.int a, .int 1, .ref 452]) rfl ?_
  refine q_sg x_40_83 rfl rfl (pc1 := 85) (lv1 := [(7, .int a), (6, .int 1), (0, .ref 448), (1, .int a), (2, .int b), (3, .int c), (4, .int e), (5, .int f)]) (st1 := [.int 24, .int a, .int 1, .ref 452]) rfl ?_
  refine q_sg x_40_85 rfl rfl (pc1 := 87) (lv1 := [(7, .int a), (6, .int 1), (0, .ref 448), (1, .int a), (2, .int b), (3, .int c), (4, .int e), (5, .int f)]) (st1 := [.int 8, .int 24, .int a, .int 1, .ref 452]) rfl ?_
  refine q_sg x_40_87 rfl rfl (pc1 := 89) (lv1 := [(7, .int a), (6, .int 1), (0, .ref 448), (1, .int a), (2, .int b), (3, .int c), (4, .int e), (5, .int f)]) (st1 := [.int 1, .int 8, .int 24, .int a, .int 1, .ref 452]) rfl ?_
  refine q_sg x_40_89 rfl rfl (pc1 := 90) (lv1 := [(7, .int a), (6, .int 1), (0, .ref 448), (1, .int a), (2, .int b), (3, .int c), (4, .int e), (5, .int f)]) (st1 := [.int 4, .int 1, .int 8, .int 24, .int a, .int 1, .ref 452]) rfl ?_
  refine q_sg x_40_90 rfl rfl (pc1 := 91) (lv1 := [(7, .int a), (6, .int 1), (0, .ref 448), (1, .int a), (2, .int b), (3, .int c), (4, .int e), (5, .int f)]) (st1 := [.int 1, .int 8, .int 24, .int a, .int 1, .ref 452]) rfl ?_
  refine q_sg x_40_91 rfl rfl (pc1 := 92) (lv1 := [(7, .int a), (6, .int 1), (0, .ref 448), (1, .int a), (2, .int b), (3, .int c), (4, .int e), (5, .int f)]) (st1 := [.int 8, .int 24, .int a, .int 1, .ref 452]) rfl ?_
  refine q_sg x_40_92 rfl rfl (pc1 := 93) (lv1 := [(7, .int a), (6, .int 1), (0, .ref 448), (1, .int a), (2, .int b), (3, .int c), (4, .int e), (5, .int f)]) (st1 := [.int 16, .int a, .int 1, .ref 452]) rfl ?_
  refine q_sg x_40_93 rfl rfl (pc1 := 94) (lv1 := [(7, .int a), (6, .int 1), (0, .ref 448), (1, .int a), (2, .int b), (3, .int c), (4, .int e), (5, .int f)]) (st1 := [.int (a >>> (16 &&& 31)), .int 1, .ref 452]) rfl ?_
  refine q_sg x_40_94 rfl rfl (pc1 := 97) (lv1 := [(7, .int a), (6, .int 1), (0, .ref 448), (1, .int a), (2, .int b), (3, .int c), (4, .int e), (5, .int f)]) (st1 := [.int 255, .int (a >>> (16 &&& 31)), .int 1, .ref 452]) rfl ?_
  refine q_sg x_40_97 rfl rfl (pc1 := 98) (lv1 := [(7, .int a), (6, .int 1), (0, .ref 448), (1, .int a), (2, .int b), (3, .int c), (4, .int e), (5, .int f)]) (st1 := [.int ((a >>> (16 &&& 31)) &&& 255), .int 1, .ref 452]) rfl ?_
  refine q_s_ias x_40_98 (pc1 := 99) rfl (q_ar (m_F1 hG 1 L) rfl) (by decide +kernel) (j := 1) rfl (m_Fa _ _ ((1, ((a >>> (16 &&& 31)) &&& 255)) :: L)) ?_
  refine q_sg x_40_99 rfl rfl (pc1 := 100) (lv1 := [(7, .int a), (6, .int 1), (0, .ref 448), (1, .int a), (2, .int b), (3, .int c), (4, .int e), (5, .int f)]) (st1 := [.ref 448]) rfl ?_
  refine q_sg x_40_100 rfl rfl (pc1 := 101) (lv1 := [(7, .int a), (6, .int 1), (0, .ref 448), (1, .int a), (2, .int b), (3, .int c), (4, .int e), (5, .int f)]) (st1 := [.ref 448, .ref 448]) rfl ?_
  refine q_s_get x_40_101 rfl (pc1 := 104) rfl (ci := 12) (k := 2) (ns := 0) (by decide +kernel) (q_ob (m_F0 hG 1 ((1, ((a >>> (16 &&& 31)) &&& 255)) :: L)) rfl) (v := .int 1) rfl ?_
  refine q_sg x_40_104 rfl rfl (pc1 := 105) (lv1 := [(7, .int a), (6, .int 1), (0, .ref 448), (1, .int a), (2, .int b), (3, .int c), (4, .int e), (5, .int f)]) (st1 := [.int 1, .int 1, .ref 448]) rfl ?_
  refine q_sg x_40_105 rfl rfl (pc1 := 106) (lv1 := [(7, .int a), (6, .int 1), (0, .ref 448), (1, .int a), (2, .int b), (3, .int c), (4, .int e), (5, .int f)]) (st1 := [.int 2, .ref 448]) rfl ?_
  refine q_s_put x_40_106 (pc1 := 109) rfl (ci := 12) (k := 2) (ns := 0) (by decide +kernel) (q_ob (m_F0 hG 1 ((1, ((a >>> (16 &&& 31)) &&& 255)) :: L)) rfl) (by decide +kernel) (m_Fs _ 2 _) ?_
  refine q_sg x_40_109 rfl rfl (pc1 := 112) (lv1 := [(6, .int 2), (7, .int a), (0, .ref 448), (1, .int a), (2, .int b), (3, .int c), (4, .int e), (5, .int f)]) (st1 := []) rfl ?_
  refine q_sg x_40_112 rfl rfl (pc1 := 18) (lv1 := [(6, .int 2), (7, .int a), (0, .ref 448), (1, .int a), (2, .int b), (3, .int c), (4, .int e), (5, .int f)]) (st1 := []) rfl ?_
  exact kk
theorem m_turn2 {G : q_H} (hG : 264 ≤ G.length) {a b c e f : Int32} {L : List (Nat × Int32)} {d n : Nat} (kk : ∀ L1, ∃ E1, q_run (q_callf 4000 d) (q_own 40) (q_maxL 40) (q_ini 40) (q_code 40) (q_ret 40) n 18 [(6, .int 3), (7, .int a), (0, .ref 448), (1, .int a), (2, .int b), (3, .int c), (4, .int e), (5, .int f)] [] (m_F G 3 L1) 0 0 = some (some (.int 20), E1, 0, 0)) : ∃ E1, q_run (q_callf 4000 d) (q_own 40) (q_maxL 40) (q_ini 40) (q_code 40) (q_ret 40) (n + 33) 18 [(6, .int 2), (7, .int a), (0, .ref 448), (1, .int a), (2, .int b), (3, .int c), (4, .int e), (5, .int f)] [] (m_F G 2 L) 0 0 = some (some (.int 20), E1, 0, 0) := by
  obtain ⟨E1, kk⟩ := kk ((2, ((a >>> (8 &&& 31)) &&& 255)) :: L)
  refine ⟨E1, ?_⟩
  refine q_sg x_40_18 rfl rfl (pc1 := 20) (lv1 := [(6, .int 2), (7, .int a), (0, .ref 448), (1, .int a), (2, .int b), (3, .int c), (4, .int e), (5, .int f)]) (st1 := [.int 2]) rfl ?_
  refine q_sg x_40_20 rfl rfl (pc1 := 22) (lv1 := [(6, .int 2), (7, .int a), (0, .ref 448), (1, .int a), (2, .int b), (3, .int c), (4, .int e), (5, .int f)]) (st1 := [.int 20, .int 2]) rfl ?_
  refine q_sg x_40_22 rfl rfl (pc1 := 25) (lv1 := [(6, .int 2), (7, .int a), (0, .ref 448), (1, .int a), (2, .int b), (3, .int c), (4, .int e), (5, .int f)]) (st1 := []) rfl ?_
  refine q_sg x_40_25 rfl rfl (pc1 := 27) (lv1 := [(6, .int 2), (7, .int a), (0, .ref 448), (1, .int a), (2, .int b), (3, .int c), (4, .int e), (5, .int f)]) (st1 := [.int 2]) rfl ?_
  refine q_sg x_40_27 rfl rfl (pc1 := 28) (lv1 := [(6, .int 2), (7, .int a), (0, .ref 448), (1, .int a), (2, .int b), (3, .int c), (4, .int e), (5, .int f)]) (st1 := [.int 4, .int 2]) rfl ?_
  refine q_sg x_40_28 rfl rfl (pc1 := 31) (lv1 := [(6, .int 2), (7, .int a), (0, .ref 448), (1, .int a), (2, .int b), (3, .int c), (4, .int e), (5, .int f)]) (st1 := []) rfl ?_
  refine q_sg x_40_31 rfl rfl (pc1 := 32) (lv1 := [(6, .int 2), (7, .int a), (0, .ref 448), (1, .int a), (2, .int b), (3, .int c), (4, .int e), (5, .int f)]) (st1 := [.int a]) rfl ?_
  refine q_sg x_40_32 rfl rfl (pc1 := 71) (lv1 := [(6, .int 2), (7, .int a), (0, .ref 448), (1, .int a), (2, .int b), (3, .int c), (4, .int e), (5, .int f)]) (st1 := [.int a]) rfl ?_
  refine q_sg x_40_71 rfl rfl (pc1 := 73) (lv1 := [(7, .int a), (6, .int 2), (0, .ref 448), (1, .int a), (2, .int b), (3, .int c), (4, .int e), (5, .int f)]) (st1 := []) rfl ?_
  refine q_sg x_40_73 rfl rfl (pc1 := 74) (lv1 := [(7, .int a), (6, .int 2), (0, .ref 448), (1, .int a), (2, .int b), (3, .int c), (4, .int e), (5, .int f)]) (st1 := [.ref 448]) rfl ?_
  refine q_s_get x_40_74 rfl (pc1 := 77) rfl (ci := 12) (k := 1) (ns := 0) (by decide +kernel) (q_ob (m_F0 hG 2 L) rfl) (v := .ref 452) rfl ?_
  refine q_sg x_40_77 rfl rfl (pc1 := 78) (lv1 := [(7, .int a), (6, .int 2), (0, .ref 448), (1, .int a), (2, .int b), (3, .int c), (4, .int e), (5, .int f)]) (st1 := [.ref 448, .ref 452]) rfl ?_
  refine q_s_get x_40_78 rfl (pc1 := 81) rfl (ci := 12) (k := 2) (ns := 0) (by decide +kernel) (q_ob (m_F0 hG 2 L) rfl) (v := .int 2) rfl ?_
  refine q_sg x_40_81 rfl rfl (pc1 := 83) (lv1 := [(7, .int a), (6, .int 2), (0, .ref 448), (1, .int a), (2, .int b), (3, .int c), (4, .int e), (5, .int f)]) (st1 := [.int a, .int 2, .ref 452]) rfl ?_
  refine q_sg x_40_83 rfl rfl (pc1 := 85) (lv1 := [(7, .int a), (6, .int 2), (0, .ref 448), (1, .int a), (2, .int b), (3, .int c), (4, .int e), (5, .int f)]) (st1 := [.int 24, .int a, .int 2, .ref 452]) rfl ?_
  refine q_sg x_40_85 rfl rfl (pc1 := 87) (lv1 := [(7, .int a), (6, .int 2), (0, .ref 448), (1, .int a), (2, .int b), (3, .int c), (4, .int e), (5, .int f)]) (st1 := [.int 8, .int 24, .int a, .int 2, .ref 452]) rfl ?_
  refine q_sg x_40_87 rfl rfl (pc1 := 89) (lv1 := [(7, .int a), (6, .int 2), (0, .ref 448), (1, .int a), (2, .int b), (3, .int c), (4, .int e), (5, .int f)]) (st1 := [.int 2, .int 8, .int 24, .int a, .int 2, .ref 452]) rfl ?_
  refine q_sg x_40_89 rfl rfl (pc1 := 90) (lv1 := [(7, .int a), (6, .int 2), (0, .ref 448), (1, .int a), (2, .int b), (3, .int c), (4, .int e), (5, .int f)]) (st1 := [.int 4, .int 2, .int 8, .int 24, .int a, .int 2, .ref 452]) rfl ?_
  refine q_sg x_40_90 rfl rfl (pc1 := 91) (lv1 := [(7, .int a), (6, .int 2), (0, .ref 448), (1, .int a), (2, .int b), (3, .int c), (4, .int e), (5, .int f)]) (st1 := [.int 2, .int 8, .int 24, .int a, .int 2, .ref 452]) rfl ?_
  refine q_sg x_40_91 rfl rfl (pc1 := 92) (lv1 := [(7, .int a), (6, .int 2), (0, .ref 448), (1, .int a), (2, .int b), (3, .int c), (4, .int e), (5, .int f)]) (st1 := [.int 16, .int 24, .int a, .int 2, .ref 452]) rfl ?_
  refine q_sg x_40_92 rfl rfl (pc1 := 93) (lv1 := [(7, .int a), (6, .int 2), (0, .ref 448), (1, .int a), (2, .int b), (3, .int c), (4, .int e), (5, .int f)]) (st1 := [.int 8, .int a, .int 2, .ref 452]) rfl ?_
  refine q_sg x_40_93 rfl rfl (pc1 := 94) (lv1 := [(7, .int a), (6, .int 2), (0, .ref 448), (1, .int a), (2, .int b), (3, .int c), (4, .int e), (5, .int f)]) (st1 := [.int (a >>> (8 &&& 31)), .int 2, .ref 452]) rfl ?_
  refine q_sg x_40_94 rfl rfl (pc1 := 97) (lv1 := [(7, .int a), (6, .int 2), (0, .ref 448), (1, .int a), (2, .int b), (3, .int c), (4, .int e), (5, .int f)]) (st1 := [.int 255, .int (a >>> (8 &&& 31)), .int 2, .ref 452]) rfl ?_
  refine q_sg x_40_97 rfl rfl (pc1 := 98) (lv1 := [(7, .int a), (6, .int 2), (0, .ref 448), (1, .int a), (2, .int b), (3, .int c), (4, .int e), (5, .int f)]) (st1 := [.int ((a >>> (8 &&& 31)) &&& 255), .int 2, .ref 452]) rfl ?_
  refine q_s_ias x_40_98 (pc1 := 99) rfl (q_ar (m_F1 hG 2 L) rfl) (by decide +kernel) (j := 2) rfl (m_Fa _ _ ((2, ((a >>> (8 &&& 31)) &&& 255)) :: L)) ?_
  refine q_sg x_40_99 rfl rfl (pc1 := 100) (lv1 := [(7, .int a), (6, .int 2), (0, .ref 448), (1, .int a), (2, .int b), (3, .int c), (4, .int e), (5, .int f)]) (st1 := [.ref 448]) rfl ?_
  refine q_sg x_40_100 rfl rfl (pc1 := 101) (lv1 := [(7, .int a), (6, .int 2), (0, .ref 448), (1, .int a), (2, .int b), (3, .int c), (4, .int e), (5, .int f)]) (st1 := [.ref 448, .ref 448]) rfl ?_
  refine q_s_get x_40_101 rfl (pc1 := 104) rfl (ci := 12) (k := 2) (ns := 0) (by decide +kernel) (q_ob (m_F0 hG 2 ((2, ((a >>> (8 &&& 31)) &&& 255)) :: L)) rfl) (v := .int 2) rfl ?_
  refine q_sg x_40_104 rfl rfl (pc1 := 105) (lv1 := [(7, .int a), (6, .int 2), (0, .ref 448), (1, .int a), (2, .int b), (3, .int c), (4, .int e), (5, .int f)]) (st1 := [.int 1, .int 2, .ref 448]) rfl ?_
  refine q_sg x_40_105 rfl rfl (pc1 := 106) (lv1 := [(7, .int a), (6, .int 2), (0, .ref 448), (1, .int a), (2, .int b), (3, .int c), (4, .int e), (5, .int f)]) (st1 := [.int 3, .ref 448]) rfl ?_
  refine q_s_put x_40_106 (pc1 := 109) rfl (ci := 12) (k := 2) (ns := 0) (by decide +kernel) (q_ob (m_F0 hG 2 ((2, ((a >>> (8 &&& 31)) &&& 255)) :: L)) rfl) (by decide +kernel) (m_Fs _ 3 _) ?_
  refine q_sg x_40_109 rfl rfl (pc1 := 112) (lv1 := [(6, .int 3), (7, .int a), (0, .ref 448), (1, .int a), (2, .int b), (3, .int c), (4, .int e), (5, .int f)]) (st1 := []) rfl ?_
  refine q_sg x_40_112 rfl rfl (pc1 := 18) (lv1 := [(6, .int 3), (7, .int a), (0, .ref 448), (1, .int a), (2, .int b), (3, .int c), (4, .int e), (5, .int f)]) (st1 := []) rfl ?_
  exact kk
theorem m_turn3 {G : q_H} (hG : 264 ≤ G.length) {a b c e f : Int32} {L : List (Nat × Int32)} {d n : Nat} (kk : ∀ L1, ∃ E1, q_run (q_callf 4000 d) (q_own 40) (q_maxL 40) (q_ini 40) (q_code 40) (q_ret 40) n 18 [(6, .int 4), (7, .int a), (0, .ref 448), (1, .int a), (2, .int b), (3, .int c), (4, .int e), (5, .int f)] [] (m_F G 4 L1) 0 0 = some (some (.int 20), E1, 0, 0)) : ∃ E1, q_run (q_callf 4000 d) (q_own 40) (q_maxL 40) (q_ini 40) (q_code 40) (q_ret 40) (n + 33) 18 [(6, .int 3), (7, .int a), (0, .ref 448), (1, .int a), (2, .int b), (3, .int c), (4, .int e), (5, .int f)] [] (m_F G 3 L) 0 0 = some (some (.int 20), E1, 0, 0) := by
  obtain ⟨E1, kk⟩ := kk ((3, ((a >>> (0 &&& 31)) &&& 255)) :: L)
  refine ⟨E1, ?_⟩
  refine q_sg x_40_18 rfl rfl (pc1 := 20) (lv1 := [(6, .int 3), (7, .int a), (0, .ref 448), (1, .int a), (2, .int b), (3, .int c), (4, .int e), (5, .int f)]) (st1 := [.int 3]) rfl ?_
  refine q_sg x_40_20 rfl rfl (pc1 := 22) (lv1 := [(6, .int 3), (7, .int a), (0, .ref 448), (1, .int a), (2, .int b), (3, .int c), (4, .int e), (5, .int f)]) (st1 := [.int 20, .int 3]) rfl ?_
  refine q_sg x_40_22 rfl rfl (pc1 := 25) (lv1 := [(6, .int 3), (7, .int a), (0, .ref 448), (1, .int a), (2, .int b), (3, .int c), (4, .int e), (5, .int f)]) (st1 := []) rfl ?_
  refine q_sg x_40_25 rfl rfl (pc1 := 27) (lv1 := [(6, .int 3), (7, .int a), (0, .ref 448), (1, .int a), (2, .int b), (3, .int c), (4, .int e), (5, .int f)]) (st1 := [.int 3]) rfl ?_
  refine q_sg x_40_27 rfl rfl (pc1 := 28) (lv1 := [(6, .int 3), (7, .int a), (0, .ref 448), (1, .int a), (2, .int b), (3, .int c), (4, .int e), (5, .int f)]) (st1 := [.int 4, .int 3]) rfl ?_
  refine q_sg x_40_28 rfl rfl (pc1 := 31) (lv1 := [(6, .int 3), (7, .int a), (0, .ref 448), (1, .int a), (2, .int b), (3, .int c), (4, .int e), (5, .int f)]) (st1 := []) rfl ?_
  refine q_sg x_40_31 rfl rfl (pc1 := 32) (lv1 := [(6, .int 3), (7, .int a), (0, .ref 448), (1, .int a), (2, .int b), (3, .int c), (4, .int e), (5, .int f)]) (st1 := [.int a]) rfl ?_
  refine q_sg x_40_32 rfl rfl (pc1 := 71) (lv1 := [(6, .int 3), (7, .int a), (0, .ref 448), (1, .int a), (2, .int b), (3, .int c), (4, .int e), (5, .int f)]) (st1 := [.int a]) rfl ?_
  refine q_sg x_40_71 rfl rfl (pc1 := 73) (lv1 := [(7, .int a), (6, .int 3), (0, .ref 448), (1, .int a), (2, .int b), (3, .int c), (4, .int e), (5, .int f)]) (st1 := []) rfl ?_
  refine q_sg x_40_73 rfl rfl (pc1 := 74) (lv1 := [(7, .int a), (6, .int 3), (0, .ref 448), (1, .int a), (2, .int b), (3, .int c), (4, .int e), (5, .int f)]) (st1 := [.ref 448]) rfl ?_
  refine q_s_get x_40_74 rfl (pc1 := 77) rfl (ci := 12) (k := 1) (ns := 0) (by decide +kernel) (q_ob (m_F0 hG 3 L) rfl) (v := .ref 452) rfl ?_
  refine q_sg x_40_77 rfl rfl (pc1 := 78) (lv1 := [(7, .int a), (6, .int 3), (0, .ref 448), (1, .int a), (2, .int b), (3, .int c), (4, .int e), (5, .int f)]) (st1 := [.ref 448, .ref 452]) rfl ?_
  refine q_s_get x_40_78 rfl (pc1 := 81) rfl (ci := 12) (k := 2) (ns := 0) (by decide +kernel) (q_ob (m_F0 hG 3 L) rfl) (v := .int 3) rfl ?_
  refine q_sg x_40_81 rfl rfl (pc1 := 83) (lv1 := [(7, .int a), (6, .int 3), (0, .ref 448), (1, .int a), (2, .int b), (3, .int c), (4, .int e), (5, .int f)]) (st1 := [.int a, .int 3, .ref 452]) rfl ?_
  refine q_sg x_40_83 rfl rfl (pc1 := 85) (lv1 := [(7, .int a), (6, .int 3), (0, .ref 448), (1, .int a), (2, .int b), (3, .int c), (4, .int e), (5, .int f)]) (st1 := [.int 24, .int a, .int 3, .ref 452]) rfl ?_
  refine q_sg x_40_85 rfl rfl (pc1 := 87) (lv1 := [(7, .int a), (6, .int 3), (0, .ref 448), (1, .int a), (2, .int b), (3, .int c), (4, .int e), (5, .int f)]) (st1 := [.int 8, .int 24, .int a, .int 3, .ref 452]) rfl ?_
  refine q_sg x_40_87 rfl rfl (pc1 := 89) (lv1 := [(7, .int a), (6, .int 3), (0, .ref 448), (1, .int a), (2, .int b), (3, .int c), (4, .int e), (5, .int f)]) (st1 := [.int 3, .int 8, .int 24, .int a, .int 3, .ref 452]) rfl ?_
  refine q_sg x_40_89 rfl rfl (pc1 := 90) (lv1 := [(7, .int a), (6, .int 3), (0, .ref 448), (1, .int a), (2, .int b), (3, .int c), (4, .int e), (5, .int f)]) (st1 := [.int 4, .int 3, .int 8, .int 24, .int a, .int 3, .ref 452]) rfl ?_
  refine q_sg x_40_90 rfl rfl (pc1 := 91) (lv1 := [(7, .int a), (6, .int 3), (0, .ref 448), (1, .int a), (2, .int b), (3, .int c), (4, .int e), (5, .int f)]) (st1 := [.int 3, .int 8, .int 24, .int a, .int 3, .ref 452]) rfl ?_
  refine q_sg x_40_91 rfl rfl (pc1 := 92) (lv1 := [(7, .int a), (6, .int 3), (0, .ref 448), (1, .int a), (2, .int b), (3, .int c), (4, .int e), (5, .int f)]) (st1 := [.int 24, .int 24, .int a, .int 3, .ref 452]) rfl ?_
  refine q_sg x_40_92 rfl rfl (pc1 := 93) (lv1 := [(7, .int a), (6, .int 3), (0, .ref 448), (1, .int a), (2, .int b), (3, .int c), (4, .int e), (5, .int f)]) (st1 := [.int 0, .int a, .int 3, .ref 452]) rfl ?_
  refine q_sg x_40_93 rfl rfl (pc1 := 94) (lv1 := [(7, .int a), (6, .int 3), (0, .ref 448), (1, .int a), (2, .int b), (3, .int c), (4, .int e), (5, .int f)]) (st1 := [.int (a >>> (0 &&& 31)), .int 3, .ref 452]) rfl ?_
  refine q_sg x_40_94 rfl rfl (pc1 := 97) (lv1 := [(7, .int a), (6, .int 3), (0, .ref 448), (1, .int a), (2, .int b), (3, .int c), (4, .int e), (5, .int f)]) (st1 := [.int 255, .int (a >>> (0 &&& 31)), .int 3, .ref 452]) rfl ?_
  refine q_sg x_40_97 rfl rfl (pc1 := 98) (lv1 := [(7, .int a), (6, .int 3), (0, .ref 448), (1, .int a), (2, .int b), (3, .int c), (4, .int e), (5, .int f)]) (st1 := [.int ((a >>> (0 &&& 31)) &&& 255), .int 3, .ref 452]) rfl ?_
  refine q_s_ias x_40_98 (pc1 := 99) rfl (q_ar (m_F1 hG 3 L) rfl) (by decide +kernel) (j := 3) rfl (m_Fa _ _ ((3, ((a >>> (0 &&& 31)) &&& 255)) :: L)) ?_
  refine q_sg x_40_99 rfl rfl (pc1 := 100) (lv1 := [(7, .int a), (6, .int 3), (0, .ref 448), (1, .int a), (2, .int b), (3, .int c), (4, .int e), (5, .int f)]) (st1 := [.ref 448]) rfl ?_
  refine q_sg x_40_100 rfl rfl (pc1 := 101) (lv1 := [(7, .int a), (6, .int 3), (0, .ref 448), (1, .int a), (2, .int b), (3, .int c), (4, .int e), (5, .int f)]) (st1 := [.ref 448, .ref 448]) rfl ?_
  refine q_s_get x_40_101 rfl (pc1 := 104) rfl (ci := 12) (k := 2) (ns := 0) (by decide +kernel) (q_ob (m_F0 hG 3 ((3, ((a >>> (0 &&& 31)) &&& 255)) :: L)) rfl) (v := .int 3) rfl ?_
  refine q_sg x_40_104 rfl rfl (pc1 := 105) (lv1 := [(7, .int a), (6, .int 3), (0, .ref 448), (1, .int a), (2, .int b), (3, .int c), (4, .int e), (5, .int f)]) (st1 := [.int 1, .int 3, .ref 448]) rfl ?_
  refine q_sg x_40_105 rfl rfl (pc1 := 106) (lv1 := [(7, .int a), (6, .int 3), (0, .ref 448), (1, .int a), (2, .int b), (3, .int c), (4, .int e), (5, .int f)]) (st1 := [.int 4, .ref 448]) rfl ?_
  refine q_s_put x_40_106 (pc1 := 109) rfl (ci := 12) (k := 2) (ns := 0) (by decide +kernel) (q_ob (m_F0 hG 3 ((3, ((a >>> (0 &&& 31)) &&& 255)) :: L)) rfl) (by decide +kernel) (m_Fs _ 4 _) ?_
  refine q_sg x_40_109 rfl rfl (pc1 := 112) (lv1 := [(6, .int 4), (7, .int a), (0, .ref 448), (1, .int a), (2, .int b), (3, .int c), (4, .int e), (5, .int f)]) (st1 := []) rfl ?_
  refine q_sg x_40_112 rfl rfl (pc1 := 18) (lv1 := [(6, .int 4), (7, .int a), (0, .ref 448), (1, .int a), (2, .int b), (3, .int c), (4, .int e), (5, .int f)]) (st1 := []) rfl ?_
  exact kk
theorem m_turn4 {G : q_H} (hG : 264 ≤ G.length) {a b c e f : Int32} {L : List (Nat × Int32)} {d n : Nat} (kk : ∀ L1, ∃ E1, q_run (q_callf 4000 d) (q_own 40) (q_maxL 40) (q_ini 40) (q_code 40) (q_ret 40) n 18 [(6, .int 5), (7, .int b), (0, .ref 448), (1, .int a), (2, .int b), (3, .int c), (4, .int e), (5, .int f)] [] (m_F G 5 L1) 0 0 = some (some (.int 20), E1, 0, 0)) : ∃ E1, q_run (q_callf 4000 d) (q_own 40) (q_maxL 40) (q_ini 40) (q_code 40) (q_ret 40) (n + 36) 18 [(6, .int 4), (7, .int a), (0, .ref 448), (1, .int a), (2, .int b), (3, .int c), (4, .int e), (5, .int f)] [] (m_F G 4 L) 0 0 = some (some (.int 20), E1, 0, 0) := by
  obtain ⟨E1, kk⟩ := kk ((4, ((b >>> (24 &&& 31)) &&& 255)) :: L)
  refine ⟨E1, ?_⟩
  refine q_sg x_40_18 rfl rfl (pc1 := 20) (lv1 := [(6, .int 4), (7, .int a), (0, .ref 448), (1, .int a), (2, .int b), (3, .int c), (4, .int e), (5, .int f)]) (st1 := [.int 4]) rfl ?_
  refine q_sg x_40_20 rfl rfl (pc1 := 22) (lv1 := [(6, .int 4), (7, .int a), (0, .ref 448), (1, .int a), (2, .int b), (3, .int c), (4, .int e), (5, .int f)]) (st1 := [.int 20, .int 4]) rfl ?_
  refine q_sg x_40_22 rfl rfl (pc1 := 25) (lv1 := [(6, .int 4), (7, .int a), (0, .ref 448), (1, .int a), (2, .int b), (3, .int c), (4, .int e), (5, .int f)]) (st1 := []) rfl ?_
  refine q_sg x_40_25 rfl rfl (pc1 := 27) (lv1 := [(6, .int 4), (7, .int a), (0, .ref 448), (1, .int a), (2, .int b), (3, .int c), (4, .int e), (5, .int f)]) (st1 := [.int 4]) rfl ?_
  refine q_sg x_40_27 rfl rfl (pc1 := 28) (lv1 := [(6, .int 4), (7, .int a), (0, .ref 448), (1, .int a), (2, .int b), (3, .int c), (4, .int e), (5, .int f)]) (st1 := [.int 4, .int 4]) rfl ?_
  refine q_sg x_40_28 rfl rfl (pc1 := 35) (lv1 := [(6, .int 4), (7, .int a), (0, .ref 448), (1, .int a), (2, .int b), (3, .int c), (4, .int e), (5, .int f)]) (st1 := []) rfl ?_
  refine q_sg x_40_35 rfl rfl (pc1 := 37) (lv1 := [(6, .int 4), (7, .int a), (0, .ref 448), (1, .int a), (2, .int b), (3, .int c), (4, .int e), (5, .int f)]) (st1 := [.int 4]) rfl ?_
  refine q_sg x_40_37 rfl rfl (pc1 := 39) (lv1 := [(6, .int 4), (7, .int a), (0, .ref 448), (1, .int a), (2, .int b), (3, .int c), (4, .int e), (5, .int f)]) (st1 := [.int 8, .int 4]) rfl ?_
  refine q_sg x_40_39 rfl rfl (pc1 := 42) (lv1 := [(6, .int 4), (7, .int a), (0, .ref 448), (1, .int a), (2, .int b), (3, .int c), (4, .int e), (5, .int f)]) (st1 := []) rfl ?_
  refine q_sg x_40_42 rfl rfl (pc1 := 43) (lv1 := [(6, .int 4), (7, .int a), (0, .ref 448), (1, .int a), (2, .int b), (3, .int c), (4, .int e), (5, .int f)]) (st1 := [.int b]) rfl ?_
  refine q_sg x_40_43 rfl rfl (pc1 := 71) (lv1 := [(6, .int 4), (7, .int a), (0, .ref 448), (1, .int a), (2, .int b), (3, .int c), (4, .int e), (5, .int f)]) (st1 := [.int b]) rfl ?_
  refine q_sg x_40_71 rfl rfl (pc1 := 73) (lv1 := [(7, .int b), (6, .int 4), (0, .ref 448), (1, .int a), (2, .int b), (3, .int c), (4, .int e), (5, .int f)]) (st1 := []) rfl ?_
  refine q_sg x_40_73 rfl rfl (pc1 := 74) (lv1 := [(7, .int b), (6, .int 4), (0, .ref 448), (1, .int a), (2, .int b), (3, .int c), (4, .int e), (5, .int f)]) (st1 := [.ref 448]) rfl ?_
  refine q_s_get x_40_74 rfl (pc1 := 77) rfl (ci := 12) (k := 1) (ns := 0) (by decide +kernel) (q_ob (m_F0 hG 4 L) rfl) (v := .ref 452) rfl ?_
  refine q_sg x_40_77 rfl rfl (pc1 := 78) (lv1 := [(7, .int b), (6, .int 4), (0, .ref 448), (1, .int a), (2, .int b), (3, .int c), (4, .int e), (5, .int f)]) (st1 := [.ref 448, .ref 452]) rfl ?_
  refine q_s_get x_40_78 rfl (pc1 := 81) rfl (ci := 12) (k := 2) (ns := 0) (by decide +kernel) (q_ob (m_F0 hG 4 L) rfl) (v := .int 4) rfl ?_
  refine q_sg x_40_81 rfl rfl (pc1 := 83) (lv1 := [(7, .int b), (6, .int 4), (0, .ref 448), (1, .int a), (2, .int b), (3, .int c), (4, .int e), (5, .int f)]) (st1 := [.int b, .int 4, .ref 452]) rfl ?_
  refine q_sg x_40_83 rfl rfl (pc1 := 85) (lv1 := [(7, .int b), (6, .int 4), (0, .ref 448), (1, .int a), (2, .int b), (3, .int c), (4, .int e), (5, .int f)]) (st1 := [.int 24, .int b, .int 4, .ref 452]) rfl ?_
  refine q_sg x_40_85 rfl rfl (pc1 := 87) (lv1 := [(7, .int b), (6, .int 4), (0, .ref 448), (1, .int a), (2, .int b), (3, .int c), (4, .int e), (5, .int f)]) (st1 := [.int 8, .int 24, .int b, .int 4, .ref 452]) rfl ?_
  refine q_sg x_40_87 rfl rfl (pc1 := 89) (lv1 := [(7, .int b), (6, .int 4), (0, .ref 448), (1, .int a), (2, .int b), (3, .int c), (4, .int e), (5, .int f)]) (st1 := [.int 4, .int 8, .int 24, .int b, .int 4, .ref 452]) rfl ?_
  refine q_sg x_40_89 rfl rfl (pc1 := 90) (lv1 := [(7, .int b), (6, .int 4), (0, .ref 448), (1, .int a), (2, .int b), (3, .int c), (4, .int e), (5, .int f)]) (st1 := [.int 4, .int 4, .int 8, .int 24, .int b, .int 4, .ref 452]) rfl ?_
  refine q_sg x_40_90 rfl rfl (pc1 := 91) (lv1 := [(7, .int b), (6, .int 4), (0, .ref 448), (1, .int a), (2, .int b), (3, .int c), (4, .int e), (5, .int f)]) (st1 := [.int 0, .int 8, .int 24, .int b, .int 4, .ref 452]) rfl ?_
  refine q_sg x_40_91 rfl rfl (pc1 := 92) (lv1 := [(7, .int b), (6, .int 4), (0, .ref 448), (1, .int a), (2, .int b), (3, .int c), (4, .int e), (5, .int f)]) (st1 := [.int 0, .int 24, .int b, .int 4, .ref 452]) rfl ?_
  refine q_sg x_40_92 rfl rfl (pc1 := 93) (lv1 := [(7, .int b), (6, .int 4), (0, .ref 448), (1, .int a), (2, .int b), (3, .int c), (4, .int e), (5, .int f)]) (st1 := [.int 24, .int b, .int 4, .ref 452]) rfl ?_
  refine q_sg x_40_93 rfl rfl (pc1 := 94) (lv1 := [(7, .int b), (6, .int 4), (0, .ref 448), (1, .int a), (2, .int b), (3, .int c), (4, .int e), (5, .int f)]) (st1 := [.int (b >>> (24 &&& 31)), .int 4, .ref 452]) rfl ?_
  refine q_sg x_40_94 rfl rfl (pc1 := 97) (lv1 := [(7, .int b), (6, .int 4), (0, .ref 448), (1, .int a), (2, .int b), (3, .int c), (4, .int e), (5, .int f)]) (st1 := [.int 255, .int (b >>> (24 &&& 31)), .int 4, .ref 452]) rfl ?_
  refine q_sg x_40_97 rfl rfl (pc1 := 98) (lv1 := [(7, .int b), (6, .int 4), (0, .ref 448), (1, .int a), (2, .int b), (3, .int c), (4, .int e), (5, .int f)]) (st1 := [.int ((b >>> (24 &&& 31)) &&& 255), .int 4, .ref 452]) rfl ?_
  refine q_s_ias x_40_98 (pc1 := 99) rfl (q_ar (m_F1 hG 4 L) rfl) (by decide +kernel) (j := 4) rfl (m_Fa _ _ ((4, ((b >>> (24 &&& 31)) &&& 255)) :: L)) ?_
  refine q_sg x_40_99 rfl rfl (pc1 := 100) (lv1 := [(7, .int b), (6, .int 4), (0, .ref 448), (1, .int a), (2, .int b), (3, .int c), (4, .int e), (5, .int f)]) (st1 := [.ref 448]) rfl ?_
  refine q_sg x_40_100 rfl rfl (pc1 := 101) (lv1 := [(7, .int b), (6, .int 4), (0, .ref 448), (1, .int a), (2, .int b), (3, .int c), (4, .int e), (5, .int f)]) (st1 := [.ref 448, .ref 448]) rfl ?_
  refine q_s_get x_40_101 rfl (pc1 := 104) rfl (ci := 12) (k := 2) (ns := 0) (by decide +kernel) (q_ob (m_F0 hG 4 ((4, ((b >>> (24 &&& 31)) &&& 255)) :: L)) rfl) (v := .int 4) rfl ?_
  refine q_sg x_40_104 rfl rfl (pc1 := 105) (lv1 := [(7, .int b), (6, .int 4), (0, .ref 448), (1, .int a), (2, .int b), (3, .int c), (4, .int e), (5, .int f)]) (st1 := [.int 1, .int 4, .ref 448]) rfl ?_
  refine q_sg x_40_105 rfl rfl (pc1 := 106) (lv1 := [(7, .int b), (6, .int 4), (0, .ref 448), (1, .int a), (2, .int b), (3, .int c), (4, .int e), (5, .int f)]) (st1 := [.int 5, .ref 448]) rfl ?_
  refine q_s_put x_40_106 (pc1 := 109) rfl (ci := 12) (k := 2) (ns := 0) (by decide +kernel) (q_ob (m_F0 hG 4 ((4, ((b >>> (24 &&& 31)) &&& 255)) :: L)) rfl) (by decide +kernel) (m_Fs _ 5 _) ?_
  refine q_sg x_40_109 rfl rfl (pc1 := 112) (lv1 := [(6, .int 5), (7, .int b), (0, .ref 448), (1, .int a), (2, .int b), (3, .int c), (4, .int e), (5, .int f)]) (st1 := []) rfl ?_
  refine q_sg x_40_112 rfl rfl (pc1 := 18) (lv1 := [(6, .int 5), (7, .int b), (0, .ref 448), (1, .int a), (2, .int b), (3, .int c), (4, .int e), (5, .int f)]) (st1 := []) rfl ?_
  exact kk
theorem m_turn5 {G : q_H} (hG : 264 ≤ G.length) {a b c e f : Int32} {L : List (Nat × Int32)} {d n : Nat} (kk : ∀ L1, ∃ E1, q_run (q_callf 4000 d) (q_own 40) (q_maxL 40) (q_ini 40) (q_code 40) (q_ret 40) n 18 [(6, .int 6), (7, .int b), (0, .ref 448), (1, .int a), (2, .int b), (3, .int c), (4, .int e), (5, .int f)] [] (m_F G 6 L1) 0 0 = some (some (.int 20), E1, 0, 0)) : ∃ E1, q_run (q_callf 4000 d) (q_own 40) (q_maxL 40) (q_ini 40) (q_code 40) (q_ret 40) (n + 36) 18 [(6, .int 5), (7, .int b), (0, .ref 448), (1, .int a), (2, .int b), (3, .int c), (4, .int e), (5, .int f)] [] (m_F G 5 L) 0 0 = some (some (.int 20), E1, 0, 0) := by
  obtain ⟨E1, kk⟩ := kk ((5, ((b >>> (16 &&& 31)) &&& 255)) :: L)
  refine ⟨E1, ?_⟩
  refine q_sg x_40_18 rfl rfl (pc1 := 20) (lv1 := [(6, .int 5), (7, .int b), (0, .ref 448), (1, .int a), (2, .int b), (3, .int c), (4, .int e), (5, .int f)]) (st1 := [.int 5]) rfl ?_
  refine q_sg x_40_20 rfl rfl (pc1 := 22) (lv1 := [(6, .int 5), (7, .int b), (0, .ref 448), (1, .int a), (2, .int b), (3, .int c), (4, .int e), (5, .int f)]) (st1 := [.int 20, .int 5]) rfl ?_
  refine q_sg x_40_22 rfl rfl (pc1 := 25) (lv1 := [(6, .int 5), (7, .int b), (0, .ref 448), (1, .int a), (2, .int b), (3, .int c), (4, .int e), (5, .int f)]) (st1 := []) rfl ?_
  refine q_sg x_40_25 rfl rfl (pc1 := 27) (lv1 := [(6, .int 5), (7, .int b), (0, .ref 448), (1, .int a), (2, .int b), (3, .int c), (4, .int e), (5, .int f)]) (st1 := [.int 5]) rfl ?_
  refine q_sg x_40_27 rfl rfl (pc1 := 28) (lv1 := [(6, .int 5), (7, .int b), (0, .ref 448), (1, .int a), (2, .int b), (3, .int c), (4, .int e), (5, .int f)]) (st1 := [.int 4, .int 5]) rfl ?_
  refine q_sg x_40_28 rfl rfl (pc1 := 35) (lv1 := [(6, .int 5), (7, .int b), (0, .ref 448), (1, .int a), (2, .int b), (3, .int c), (4, .int e), (5, .int f)]) (st1 := []) rfl ?_
  refine q_sg x_40_35 rfl rfl (pc1 := 37) (lv1 := [(6, .int 5), (7, .int b), (0, .ref 448), (1, .int a), (2, .int b), (3, .int c), (4, .int e), (5, .int f)]) (st1 := [.int 5]) rfl ?_
  refine q_sg x_40_37 rfl rfl (pc1 := 39) (lv1 := [(6, .int 5), (7, .int b), (0, .ref 448), (1, .int a), (2, .int b), (3, .int c), (4, .int e), (5, .int f)]) (st1 := [.int 8, .int 5]) rfl ?_
  refine q_sg x_40_39 rfl rfl (pc1 := 42) (lv1 := [(6, .int 5), (7, .int b), (0, .ref 448), (1, .int a), (2, .int b), (3, .int c), (4, .int e), (5, .int f)]) (st1 := []) rfl ?_
  refine q_sg x_40_42 rfl rfl (pc1 := 43) (lv1 := [(6, .int 5), (7, .int b), (0, .ref 448), (1, .int a), (2, .int b), (3, .int c), (4, .int e), (5, .int f)]) (st1 := [.int b]) rfl ?_
  refine q_sg x_40_43 rfl rfl (pc1 := 71) (lv1 := [(6, .int 5), (7, .int b), (0, .ref 448), (1, .int a), (2, .int b), (3, .int c), (4, .int e), (5, .int f)]) (st1 := [.int b]) rfl ?_
  refine q_sg x_40_71 rfl rfl (pc1 := 73) (lv1 := [(7, .int b), (6, .int 5), (0, .ref 448), (1, .int a), (2, .int b), (3, .int c), (4, .int e), (5, .int f)]) (st1 := []) rfl ?_
  refine q_sg x_40_73 rfl rfl (pc1 := 74) (lv1 := [(7, .int b), (6, .int 5), (0, .ref 448), (1, .int a), (2, .int b), (3, .int c), (4, .int e), (5, .int f)]) (st1 := [.ref 448]) rfl ?_
  refine q_s_get x_40_74 rfl (pc1 := 77) rfl (ci := 12) (k := 1) (ns := 0) (by decide +kernel) (q_ob (m_F0 hG 5 L) rfl) (v := .ref 452) rfl ?_
  refine q_sg x_40_77 rfl rfl (pc1 := 78) (lv1 := [(7, .int b), (6, .int 5), (0, .ref 448), (1, .int a), (2, .int b), (3, .int c), (4, .int e), (5, .int f)]) (st1 := [.ref 448, .ref 452]) rfl ?_
  refine q_s_get x_40_78 rfl (pc1 := 81) rfl (ci := 12) (k := 2) (ns := 0) (by decide +kernel) (q_ob (m_F0 hG 5 L) rfl) (v := .int 5) rfl ?_
  refine q_sg x_40_81 rfl rfl (pc1 := 83) (lv1 := [(7, .int b), (6, .int 5), (0, .ref 448), (1, .int a), (2, .int b), (3, .int c), (4, .int e), (5, .int f)]) (st1 := [.int b, .int 5, .ref 452]) rfl ?_
  refine q_sg x_40_83 rfl rfl (pc1 := 85) (lv1 := [(7, .int b), (6, .int 5), (0, .ref 448), (1, .int a), (2, .int b), (3, .int c), (4, .int e), (5, .int f)]) (st1 := [.int 24, .int b, .int 5, .ref 452]) rfl ?_
  refine q_sg x_40_85 rfl rfl (pc1 := 87) (lv1 := [(7, .int b), (6, .int 5), (0, .ref 448), (1, .int a), (2, .int b), (3, .int c), (4, .int e), (5, .int f)]) (st1 := [.int 8, .int 24, .int b, .int 5, .ref 452]) rfl ?_
  refine q_sg x_40_87 rfl rfl (pc1 := 89) (lv1 := [(7, .int b), (6, .int 5), (0, .ref 448), (1, .int a), (2, .int b), (3, .int c), (4, .int e), (5, .int f)]) (st1 := [.int 5, .int 8, .int 24, .int b, .int 5, .ref 452]) rfl ?_
  refine q_sg x_40_89 rfl rfl (pc1 := 90) (lv1 := [(7, .int b), (6, .int 5), (0, .ref 448), (1, .int a), (2, .int b), (3, .int c), (4, .int e), (5, .int f)]) (st1 := [.int 4, .int 5, .int 8, .int 24, .int b, .int 5, .ref 452]) rfl ?_
  refine q_sg x_40_90 rfl rfl (pc1 := 91) (lv1 := [(7, .int b), (6, .int 5), (0, .ref 448), (1, .int a), (2, .int b), (3, .int c), (4, .int e), (5, .int f)]) (st1 := [.int 1, .int 8, .int 24, .int b, .int 5, .ref 452]) rfl ?_
  refine q_sg x_40_91 rfl rfl (pc1 := 92) (lv1 := [(7, .int b), (6, .int 5), (0, .ref 448), (1, .int a), (2, .int b), (3, .int c), (4, .int e), (5, .int f)]) (st1 := [.int 8, .int 24, .int b, .int 5, .ref 452]) rfl ?_
  refine q_sg x_40_92 rfl rfl (pc1 := 93) (lv1 := [(7, .int b), (6, .int 5), (0, .ref 448), (1, .int a), (2, .int b), (3, .int c), (4, .int e), (5, .int f)]) (st1 := [.int 16, .int b, .int 5, .ref 452]) rfl ?_
  refine q_sg x_40_93 rfl rfl (pc1 := 94) (lv1 := [(7, .int b), (6, .int 5), (0, .ref 448), (1, .int a), (2, .int b), (3, .int c), (4, .int e), (5, .int f)]) (st1 := [.int (b >>> (16 &&& 31)), .int 5, .ref 452]) rfl ?_
  refine q_sg x_40_94 rfl rfl (pc1 := 97) (lv1 := [(7, .int b), (6, .int 5), (0, .ref 448), (1, .int a), (2, .int b), (3, .int c), (4, .int e), (5, .int f)]) (st1 := [.int 255, .int (b >>> (16 &&& 31)), .int 5, .ref 452]) rfl ?_
  refine q_sg x_40_97 rfl rfl (pc1 := 98) (lv1 := [(7, .int b), (6, .int 5), (0, .ref 448), (1, .int a), (2, .int b), (3, .int c), (4, .int e), (5, .int f)]) (st1 := [.int ((b >>> (16 &&& 31)) &&& 255), .int 5, .ref 452]) rfl ?_
  refine q_s_ias x_40_98 (pc1 := 99) rfl (q_ar (m_F1 hG 5 L) rfl) (by decide +kernel) (j := 5) rfl (m_Fa _ _ ((5, ((b >>> (16 &&& 31)) &&& 255)) :: L)) ?_
  refine q_sg x_40_99 rfl rfl (pc1 := 100) (lv1 := [(7, .int b), (6, .int 5), (0, .ref 448), (1, .int a), (2, .int b), (3, .int c), (4, .int e), (5, .int f)]) (st1 := [.ref 448]) rfl ?_
  refine q_sg x_40_100 rfl rfl (pc1 := 101) (lv1 := [(7, .int b), (6, .int 5), (0, .ref 448), (1, .int a), (2, .int b), (3, .int c), (4, .int e), (5, .int f)]) (st1 := [.ref 448, .ref 448]) rfl ?_
  refine q_s_get x_40_101 rfl (pc1 := 104) rfl (ci := 12) (k := 2) (ns := 0) (by decide +kernel) (q_ob (m_F0 hG 5 ((5, ((b >>> (16 &&& 31)) &&& 255)) :: L)) rfl) (v := .int 5) rfl ?_
  refine q_sg x_40_104 rfl rfl (pc1 := 105) (lv1 := [(7, .int b), (6, .int 5), (0, .ref 448), (1, .int a), (2, .int b), (3, .int c), (4, .int e), (5, .int f)]) (st1 := [.int 1, .int 5, .ref 448]) rfl ?_
  refine q_sg x_40_105 rfl rfl (pc1 := 106) (lv1 := [(7, .int b), (6, .int 5), (0, .ref 448), (1, .int a), (2, .int b), (3, .int c), (4, .int e), (5, .int f)]) (st1 := [.int 6, .ref 448]) rfl ?_
  refine q_s_put x_40_106 (pc1 := 109) rfl (ci := 12) (k := 2) (ns := 0) (by decide +kernel) (q_ob (m_F0 hG 5 ((5, ((b >>> (16 &&& 31)) &&& 255)) :: L)) rfl) (by decide +kernel) (m_Fs _ 6 _) ?_
  refine q_sg x_40_109 rfl rfl (pc1 := 112) (lv1 := [(6, .int 6), (7, .int b), (0, .ref 448), (1, .int a), (2, .int b), (3, .int c), (4, .int e), (5, .int f)]) (st1 := []) rfl ?_
  refine q_sg x_40_112 rfl rfl (pc1 := 18) (lv1 := [(6, .int 6), (7, .int b), (0, .ref 448), (1, .int a), (2, .int b), (3, .int c), (4, .int e), (5, .int f)]) (st1 := []) rfl ?_
  exact kk
theorem m_turn6 {G : q_H} (hG : 264 ≤ G.length) {a b c e f : Int32} {L : List (Nat × Int32)} {d n : Nat} (kk : ∀ L1, ∃ E1, q_run (q_callf 4000 d) (q_own 40) (q_maxL 40) (q_ini 40) (q_code 40) (q_ret 40) n 18 [(6, .int 7), (7, .int b), (0, .ref 448), (1, .int a), (2, .int b), (3, .int c), (4, .int e), (5, .int f)] [] (m_F G 7 L1) 0 0 = some (some (.int 20), E1, 0, 0)) : ∃ E1, q_run (q_callf 4000 d) (q_own 40) (q_maxL 40) (q_ini 40) (q_code 40) (q_ret 40) (n + 36) 18 [(6, .int 6), (7, .int b), (0, .ref 448), (1, .int a), (2, .int b), (3, .int c), (4, .int e), (5, .int f)] [] (m_F G 6 L) 0 0 = some (some (.int 20), E1, 0, 0) := by
  obtain ⟨E1, kk⟩ := kk ((6, ((b >>> (8 &&& 31)) &&& 255)) :: L)
  refine ⟨E1, ?_⟩
  refine q_sg x_40_18 rfl rfl (pc1 := 20) (lv1 := [(6, .int 6), (7, .int b), (0, .ref 448), (1, .int a), (2, .int b), (3, .int c), (4, .int e), (5, .int f)]) (st1 := [.int 6]) rfl ?_
  refine q_sg x_40_20 rfl rfl (pc1 := 22) (lv1 := [(6, .int 6), (7, .int b), (0, .ref 448), (1, .int a), (2, .int b), (3, .int c), (4, .int e), (5, .int f)]) (st1 := [.int 20, .int 6]) rfl ?_
  refine q_sg x_40_22 rfl rfl (pc1 := 25) (lv1 := [(6, .int 6), (7, .int b), (0, .ref 448), (1, .int a), (2, .int b), (3, .int c), (4, .int e), (5, .int f)]) (st1 := []) rfl ?_
  refine q_sg x_40_25 rfl rfl (pc1 := 27) (lv1 := [(6, .int 6), (7, .int b), (0, .ref 448), (1, .int a), (2, .int b), (3, .int c), (4, .int e), (5, .int f)]) (st1 := [.int 6]) rfl ?_
  refine q_sg x_40_27 rfl rfl (pc1 := 28) (lv1 := [(6, .int 6), (7, .int b), (0, .ref 448), (1, .int a), (2, .int b), (3, .int c), (4, .int e), (5, .int f)]) (st1 := [.int 4, .int 6]) rfl ?_
  refine q_sg x_40_28 rfl rfl (pc1 := 35) (lv1 := [(6, .int 6), (7, .int b), (0, .ref 448), (1, .int a), (2, .int b), (3, .int c), (4, .int e), (5, .int f)]) (st1 := []) rfl ?_
  refine q_sg x_40_35 rfl rfl (pc1 := 37) (lv1 := [(6, .int 6), (7, .int b), (0, .ref 448), (1, .int a), (2, .int b), (3, .int c), (4, .int e), (5, .int f)]) (st1 := [.int 6]) rfl ?_
  refine q_sg x_40_37 rfl rfl (pc1 := 39) (lv1 := [(6, .int 6), (7, .int b), (0, .ref 448), (1, .int a), (2, .int b), (3, .int c), (4, .int e), (5, .int f)]) (st1 := [.int 8, .int 6]) rfl ?_
  refine q_sg x_40_39 rfl rfl (pc1 := 42) (lv1 := [(6, .int 6), (7, .int b), (0, .ref 448), (1, .int a), (2, .int b), (3, .int c), (4, .int e), (5, .int f)]) (st1 := []) rfl ?_
  refine q_sg x_40_42 rfl rfl (pc1 := 43) (lv1 := [(6, .int 6), (7, .int b), (0, .ref 448), (1, .int a), (2, .int b), (3, .int c), (4, .int e), (5, .int f)]) (st1 := [.int b]) rfl ?_
  refine q_sg x_40_43 rfl rfl (pc1 := 71) (lv1 := [(6, .int 6), (7, .int b), (0, .ref 448), (1, .int a), (2, .int b), (3, .int c), (4, .int e), (5, .int f)]) (st1 := [.int b]) rfl ?_
  refine q_sg x_40_71 rfl rfl (pc1 := 73) (lv1 := [(7, .int b), (6, .int 6), (0, .ref 448), (1, .int a), (2, .int b), (3, .int c), (4, .int e), (5, .int f)]) (st1 := []) rfl ?_
  refine q_sg x_40_73 rfl rfl (pc1 := 74) (lv1 := [(7, .int b), (6, .int 6), (0, .ref 448), (1, .int a), (2, .int b), (3, .int c), (4, .int e), (5, .int f)]) (st1 := [.ref 448]) rfl ?_
  refine q_s_get x_40_74 rfl (pc1 := 77) rfl (ci := 12) (k := 1) (ns := 0) (by decide +kernel) (q_ob (m_F0 hG 6 L) rfl) (v := .ref 452) rfl ?_
  refine q_sg x_40_77 rfl rfl (pc1 := 78) (lv1 := [(7, .int b), (6, .int 6), (0, .ref 448), (1, .int a), (2, .int b), (3, .int c), (4, .int e), (5, .int f)]) (st1 := [.ref 448, .ref 452]) rfl ?_
  refine q_s_get x_40_78 rfl (pc1 := 81) rfl (ci := 12) (k := 2) (ns := 0) (by decide +kernel) (q_ob (m_F0 hG 6 L) rfl) (v := .int 6) rfl ?_
  refine q_sg x_40_81 rfl rfl (pc1 := 83) (lv1 := [(7, .int b), (6, .int 6), (0, .ref 448), (1, .int a), (2, .int b), (3, .int c), (4, .int e), (5, .int f)]) (st1 := [.int b, .int 6, .ref 452]) rfl ?_
  refine q_sg x_40_83 rfl rfl (pc1 := 85) (lv1 := [(7, .int b), (6, .int 6), (0, .ref 448), (1, .int a), (2, .int b), (3, .int c), (4, .int e), (5, .int f)]) (st1 := [.int 24, .int b, .int 6, .ref 452]) rfl ?_
  refine q_sg x_40_85 rfl rfl (pc1 := 87) (lv1 := [(7, .int b), (6, .int 6), (0, .ref 448), (1, .int a), (2, .int b), (3, .int c), (4, .int e), (5, .int f)]) (st1 := [.int 8, .int 24, .int b, .int 6, .ref 452]) rfl ?_
  refine q_sg x_40_87 rfl rfl (pc1 := 89) (lv1 := [(7, .int b), (6, .int 6), (0, .ref 448), (1, .int a), (2, .int b), (3, .int c), (4, .int e), (5, .int f)]) (st1 := [.int 6, .int 8, .int 24, .int b, .int 6, .ref 452]) rfl ?_
  refine q_sg x_40_89 rfl rfl (pc1 := 90) (lv1 := [(7, .int b), (6, .int 6), (0, .ref 448), (1, .int a), (2, .int b), (3, .int c), (4, .int e), (5, .int f)]) (st1 := [.int 4, .int 6, .int 8, .int 24, .int b, .int 6, .ref 452]) rfl ?_
  refine q_sg x_40_90 rfl rfl (pc1 := 91) (lv1 := [(7, .int b), (6, .int 6), (0, .ref 448), (1, .int a), (2, .int b), (3, .int c), (4, .int e), (5, .int f)]) (st1 := [.int 2, .int 8, .int 24, .int b, .int 6, .ref 452]) rfl ?_
  refine q_sg x_40_91 rfl rfl (pc1 := 92) (lv1 := [(7, .int b), (6, .int 6), (0, .ref 448), (1, .int a), (2, .int b), (3, .int c), (4, .int e), (5, .int f)]) (st1 := [.int 16, .int 24, .int b, .int 6, .ref 452]) rfl ?_
  refine q_sg x_40_92 rfl rfl (pc1 := 93) (lv1 := [(7, .int b), (6, .int 6), (0, .ref 448), (1, .int a), (2, .int b), (3, .int c), (4, .int e), (5, .int f)]) (st1 := [.int 8, .int b, .int 6, .ref 452]) rfl ?_
  refine q_sg x_40_93 rfl rfl (pc1 := 94) (lv1 := [(7, .int b), (6, .int 6), (0, .ref 448), (1, .int a), (2, .int b), (3, .int c), (4, .int e), (5, .int f)]) (st1 := [.int (b >>> (8 &&& 31)), .int 6, .ref 452]) rfl ?_
  refine q_sg x_40_94 rfl rfl (pc1 := 97) (lv1 := [(7, .int b), (6, .int 6), (0, .ref 448), (1, .int a), (2, .int b), (3, .int c), (4, .int e), (5, .int f)]) (st1 := [.int 255, .int (b >>> (8 &&& 31)), .int 6, .ref 452]) rfl ?_
  refine q_sg x_40_97 rfl rfl (pc1 := 98) (lv1 := [(7, .int b), (6, .int 6), (0, .ref 448), (1, .int a), (2, .int b), (3, .int c), (4, .int e), (5, .int f)]) (st1 := [.int ((b >>> (8 &&& 31)) &&& 255), .int 6, .ref 452]) rfl ?_
  refine q_s_ias x_40_98 (pc1 := 99) rfl (q_ar (m_F1 hG 6 L) rfl) (by decide +kernel) (j := 6) rfl (m_Fa _ _ ((6, ((b >>> (8 &&& 31)) &&& 255)) :: L)) ?_
  refine q_sg x_40_99 rfl rfl (pc1 := 100) (lv1 := [(7, .int b), (6, .int 6), (0, .ref 448), (1, .int a), (2, .int b), (3, .int c), (4, .int e), (5, .int f)]) (st1 := [.ref 448]) rfl ?_
  refine q_sg x_40_100 rfl rfl (pc1 := 101) (lv1 := [(7, .int b), (6, .int 6), (0, .ref 448), (1, .int a), (2, .int b), (3, .int c), (4, .int e), (5, .int f)]) (st1 := [.ref 448, .ref 448]) rfl ?_
  refine q_s_get x_40_101 rfl (pc1 := 104) rfl (ci := 12) (k := 2) (ns := 0) (by decide +kernel) (q_ob (m_F0 hG 6 ((6, ((b >>> (8 &&& 31)) &&& 255)) :: L)) rfl) (v := .int 6) rfl ?_
  refine q_sg x_40_104 rfl rfl (pc1 := 105) (lv1 := [(7, .int b), (6, .int 6), (0, .ref 448), (1, .int a), (2, .int b), (3, .int c), (4, .int e), (5, .int f)]) (st1 := [.int 1, .int 6, .ref 448]) rfl ?_
  refine q_sg x_40_105 rfl rfl (pc1 := 106) (lv1 := [(7, .int b), (6, .int 6), (0, .ref 448), (1, .int a), (2, .int b), (3, .int c), (4, .int e), (5, .int f)]) (st1 := [.int 7, .ref 448]) rfl ?_
  refine q_s_put x_40_106 (pc1 := 109) rfl (ci := 12) (k := 2) (ns := 0) (by decide +kernel) (q_ob (m_F0 hG 6 ((6, ((b >>> (8 &&& 31)) &&& 255)) :: L)) rfl) (by decide +kernel) (m_Fs _ 7 _) ?_
  refine q_sg x_40_109 rfl rfl (pc1 := 112) (lv1 := [(6, .int 7), (7, .int b), (0, .ref 448), (1, .int a), (2, .int b), (3, .int c), (4, .int e), (5, .int f)]) (st1 := []) rfl ?_
  refine q_sg x_40_112 rfl rfl (pc1 := 18) (lv1 := [(6, .int 7), (7, .int b), (0, .ref 448), (1, .int a), (2, .int b), (3, .int c), (4, .int e), (5, .int f)]) (st1 := []) rfl ?_
  exact kk
theorem m_turn7 {G : q_H} (hG : 264 ≤ G.length) {a b c e f : Int32} {L : List (Nat × Int32)} {d n : Nat} (kk : ∀ L1, ∃ E1, q_run (q_callf 4000 d) (q_own 40) (q_maxL 40) (q_ini 40) (q_code 40) (q_ret 40) n 18 [(6, .int 8), (7, .int b), (0, .ref 448), (1, .int a), (2, .int b), (3, .int c), (4, .int e), (5, .int f)] [] (m_F G 8 L1) 0 0 = some (some (.int 20), E1, 0, 0)) : ∃ E1, q_run (q_callf 4000 d) (q_own 40) (q_maxL 40) (q_ini 40) (q_code 40) (q_ret 40) (n + 36) 18 [(6, .int 7), (7, .int b), (0, .ref 448), (1, .int a), (2, .int b), (3, .int c), (4, .int e), (5, .int f)] [] (m_F G 7 L) 0 0 = some (some (.int 20), E1, 0, 0) := by
  obtain ⟨E1, kk⟩ := kk ((7, ((b >>> (0 &&& 31)) &&& 255)) :: L)
  refine ⟨E1, ?_⟩
  refine q_sg x_40_18 rfl rfl (pc1 := 20) (lv1 := [(6, .int 7), (7, .int b), (0, .ref 448), (1, .int a), (2, .int b), (3, .int c), (4, .int e), (5, .int f)]) (st1 := [.int 7]) rfl ?_
  refine q_sg x_40_20 rfl rfl (pc1 := 22) (lv1 := [(6, .int 7), (7, .int b), (0, .ref 448), (1, .int a), (2, .int b), (3, .int c), (4, .int e), (5, .int f)]) (st1 := [.int 20, .int 7]) rfl ?_
  refine q_sg x_40_22 rfl rfl (pc1 := 25) (lv1 := [(6, .int 7), (7, .int b), (0, .ref 448), (1, .int a), (2, .int b), (3, .int c), (4, .int e), (5, .int f)]) (st1 := []) rfl ?_
  refine q_sg x_40_25 rfl rfl (pc1 := 27) (lv1 := [(6, .int 7), (7, .int b), (0, .ref 448), (1, .int a), (2, .int b), (3, .int c), (4, .int e), (5, .int f)]) (st1 := [.int 7]) rfl ?_
  refine q_sg x_40_27 rfl rfl (pc1 := 28) (lv1 := [(6, .int 7), (7, .int b), (0, .ref 448), (1, .int a), (2, .int b), (3, .int c), (4, .int e), (5, .int f)]) (st1 := [.int 4, .int 7]) rfl ?_
  refine q_sg x_40_28 rfl rfl (pc1 := 35) (lv1 := [(6, .int 7), (7, .int b), (0, .ref 448), (1, .int a), (2, .int b), (3, .int c), (4, .int e), (5, .int f)]) (st1 := []) rfl ?_
  refine q_sg x_40_35 rfl rfl (pc1 := 37) (lv1 := [(6, .int 7), (7, .int b), (0, .ref 448), (1, .int a), (2, .int b), (3, .int c), (4, .int e), (5, .int f)]) (st1 := [.int 7]) rfl ?_
  refine q_sg x_40_37 rfl rfl (pc1 := 39) (lv1 := [(6, .int 7), (7, .int b), (0, .ref 448), (1, .int a), (2, .int b), (3, .int c), (4, .int e), (5, .int f)]) (st1 := [.int 8, .int 7]) rfl ?_
  refine q_sg x_40_39 rfl rfl (pc1 := 42) (lv1 := [(6, .int 7), (7, .int b), (0, .ref 448), (1, .int a), (2, .int b), (3, .int c), (4, .int e), (5, .int f)]) (st1 := []) rfl ?_
  refine q_sg x_40_42 rfl rfl (pc1 := 43) (lv1 := [(6, .int 7), (7, .int b), (0, .ref 448), (1, .int a), (2, .int b), (3, .int c), (4, .int e), (5, .int f)]) (st1 := [.int b]) rfl ?_
  refine q_sg x_40_43 rfl rfl (pc1 := 71) (lv1 := [(6, .int 7), (7, .int b), (0, .ref 448), (1, .int a), (2, .int b), (3, .int c), (4, .int e), (5, .int f)]) (st1 := [.int b]) rfl ?_
  refine q_sg x_40_71 rfl rfl (pc1 := 73) (lv1 := [(7, .int b), (6, .int 7), (0, .ref 448), (1, .int a), (2, .int b), (3, .int c), (4, .int e), (5, .int f)]) (st1 := []) rfl ?_
  refine q_sg x_40_73 rfl rfl (pc1 := 74) (lv1 := [(7, .int b), (6, .int 7), (0, .ref 448), (1, .int a), (2, .int b), (3, .int c), (4, .int e), (5, .int f)]) (st1 := [.ref 448]) rfl ?_
  refine q_s_get x_40_74 rfl (pc1 := 77) rfl (ci := 12) (k := 1) (ns := 0) (by decide +kernel) (q_ob (m_F0 hG 7 L) rfl) (v := .ref 452) rfl ?_
  refine q_sg x_40_77 rfl rfl (pc1 := 78) (lv1 := [(7, .int b), (6, .int 7), (0, .ref 448), (1, .int a), (2, .int b), (3, .int c), (4, .int e), (5, .int f)]) (st1 := [.ref 448, .ref 452]) rfl ?_
  refine q_s_get x_40_78 rfl (pc1 := 81) rfl (ci := 12) (k := 2) (ns := 0) (by decide +kernel) (q_ob (m_F0 hG 7 L) rfl) (v := .int 7) rfl ?_
  refine q_sg x_40_81 rfl rfl (pc1 := 83) (lv1 := [(7, .int b), (6, .int 7), (0, .ref 448), (1, .int a), (2, .int b), (3, .int c), (4, .int e), (5, .int f)]) (st1 := [.int b, .int 7, .ref 452]) rfl ?_
  refine q_sg x_40_83 rfl rfl (pc1 := 85) (lv1 := [(7, .int b), (6, .int 7), (0, .ref 448), (1, .int a), (2, .int b), (3, .int c), (4, .int e), (5, .int f)]) (st1 := [.int 24, .int b, .int 7, .ref 452]) rfl ?_
  refine q_sg x_40_85 rfl rfl (pc1 := 87) (lv1 := [(7, .int b), (6, .int 7), (0, .ref 448), (1, .int a), (2, .int b), (3, .int c), (4, .int e), (5, .int f)]) (st1 := [.int 8, .int 24, .int b, .int 7, .ref 452]) rfl ?_
  refine q_sg x_40_87 rfl rfl (pc1 := 89) (lv1 := [(7, .int b), (6, .int 7), (0, .ref 448), (1, .int a), (2, .int b), (3, .int c), (4, .int e), (5, .int f)]) (st1 := [.int 7, .int 8, .int 24, .int b, .int 7, .ref 452]) rfl ?_
  refine q_sg x_40_89 rfl rfl (pc1 := 90) (lv1 := [(7, .int b), (6, .int 7), (0, .ref 448), (1, .int a), (2, .int b), (3, .int c), (4, .int e), (5, .int f)]) (st1 := [.int 4, .int 7, .int 8, .int 24, .int b, .int 7, .ref 452]) rfl ?_
  refine q_sg x_40_90 rfl rfl (pc1 := 91) (lv1 := [(7, .int b), (6, .int 7), (0, .ref 448), (1, .int a), (2, .int b), (3, .int c), (4, .int e), (5, .int f)]) (st1 := [.int 3, .int 8, .int 24, .int b, .int 7, .ref 452]) rfl ?_
  refine q_sg x_40_91 rfl rfl (pc1 := 92) (lv1 := [(7, .int b), (6, .int 7), (0, .ref 448), (1, .int a), (2, .int b), (3, .int c), (4, .int e), (5, .int f)]) (st1 := [.int 24, .int 24, .int b, .int 7, .ref 452]) rfl ?_
  refine q_sg x_40_92 rfl rfl (pc1 := 93) (lv1 := [(7, .int b), (6, .int 7), (0, .ref 448), (1, .int a), (2, .int b), (3, .int c), (4, .int e), (5, .int f)]) (st1 := [.int 0, .int b, .int 7, .ref 452]) rfl ?_
  refine q_sg x_40_93 rfl rfl (pc1 := 94) (lv1 := [(7, .int b), (6, .int 7), (0, .ref 448), (1, .int a), (2, .int b), (3, .int c), (4, .int e), (5, .int f)]) (st1 := [.int (b >>> (0 &&& 31)), .int 7, .ref 452]) rfl ?_
  refine q_sg x_40_94 rfl rfl (pc1 := 97) (lv1 := [(7, .int b), (6, .int 7), (0, .ref 448), (1, .int a), (2, .int b), (3, .int c), (4, .int e), (5, .int f)]) (st1 := [.int 255, .int (b >>> (0 &&& 31)), .int 7, .ref 452]) rfl ?_
  refine q_sg x_40_97 rfl rfl (pc1 := 98) (lv1 := [(7, .int b), (6, .int 7), (0, .ref 448), (1, .int a), (2, .int b), (3, .int c), (4, .int e), (5, .int f)]) (st1 := [.int ((b >>> (0 &&& 31)) &&& 255), .int 7, .ref 452]) rfl ?_
  refine q_s_ias x_40_98 (pc1 := 99) rfl (q_ar (m_F1 hG 7 L) rfl) (by decide +kernel) (j := 7) rfl (m_Fa _ _ ((7, ((b >>> (0 &&& 31)) &&& 255)) :: L)) ?_
  refine q_sg x_40_99 rfl rfl (pc1 := 100) (lv1 := [(7, .int b), (6, .int 7), (0, .ref 448), (1, .int a), (2, .int b), (3, .int c), (4, .int e), (5, .int f)]) (st1 := [.ref 448]) rfl ?_
  refine q_sg x_40_100 rfl rfl (pc1 := 101) (lv1 := [(7, .int b), (6, .int 7), (0, .ref 448), (1, .int a), (2, .int b), (3, .int c), (4, .int e), (5, .int f)]) (st1 := [.ref 448, .ref 448]) rfl ?_
  refine q_s_get x_40_101 rfl (pc1 := 104) rfl (ci := 12) (k := 2) (ns := 0) (by decide +kernel) (q_ob (m_F0 hG 7 ((7, ((b >>> (0 &&& 31)) &&& 255)) :: L)) rfl) (v := .int 7) rfl ?_
  refine q_sg x_40_104 rfl rfl (pc1 := 105) (lv1 := [(7, .int b), (6, .int 7), (0, .ref 448), (1, .int a), (2, .int b), (3, .int c), (4, .int e), (5, .int f)]) (st1 := [.int 1, .int 7, .ref 448]) rfl ?_
  refine q_sg x_40_105 rfl rfl (pc1 := 106) (lv1 := [(7, .int b), (6, .int 7), (0, .ref 448), (1, .int a), (2, .int b), (3, .int c), (4, .int e), (5, .int f)]) (st1 := [.int 8, .ref 448]) rfl ?_
  refine q_s_put x_40_106 (pc1 := 109) rfl (ci := 12) (k := 2) (ns := 0) (by decide +kernel) (q_ob (m_F0 hG 7 ((7, ((b >>> (0 &&& 31)) &&& 255)) :: L)) rfl) (by decide +kernel) (m_Fs _ 8 _) ?_
  refine q_sg x_40_109 rfl rfl (pc1 := 112) (lv1 := [(6, .int 8), (7, .int b), (0, .ref 448), (1, .int a), (2, .int b), (3, .int c), (4, .int e), (5, .int f)]) (st1 := []) rfl ?_
  refine q_sg x_40_112 rfl rfl (pc1 := 18) (lv1 := [(6, .int 8), (7, .int b), (0, .ref 448), (1, .int a), (2, .int b), (3, .int c), (4, .int e), (5, .int f)]) (st1 := []) rfl ?_
  exact kk
theorem m_turn8 {G : q_H} (hG : 264 ≤ G.length) {a b c e f : Int32} {L : List (Nat × Int32)} {d n : Nat} (kk : ∀ L1, ∃ E1, q_run (q_callf 4000 d) (q_own 40) (q_maxL 40) (q_ini 40) (q_code 40) (q_ret 40) n 18 [(6, .int 9), (7, .int c), (0, .ref 448), (1, .int a), (2, .int b), (3, .int c), (4, .int e), (5, .int f)] [] (m_F G 9 L1) 0 0 = some (some (.int 20), E1, 0, 0)) : ∃ E1, q_run (q_callf 4000 d) (q_own 40) (q_maxL 40) (q_ini 40) (q_code 40) (q_ret 40) (n + 39) 18 [(6, .int 8), (7, .int b), (0, .ref 448), (1, .int a), (2, .int b), (3, .int c), (4, .int e), (5, .int f)] [] (m_F G 8 L) 0 0 = some (some (.int 20), E1, 0, 0) := by
  obtain ⟨E1, kk⟩ := kk ((8, ((c >>> (24 &&& 31)) &&& 255)) :: L)
  refine ⟨E1, ?_⟩
  refine q_sg x_40_18 rfl rfl (pc1 := 20) (lv1 := [(6, .int 8), (7, .int b), (0, .ref 448), (1, .int a), (2, .int b), (3, .int c), (4, .int e), (5, .int f)]) (st1 := [.int 8]) rfl ?_
  refine q_sg x_40_20 rfl rfl (pc1 := 22) (lv1 := [(6, .int 8), (7, .int b), (0, .ref 448), (1, .int a), (2, .int b), (3, .int c), (4, .int e), (5, .int f)]) (st1 := [.int 20, .int 8]) rfl ?_
  refine q_sg x_40_22 rfl rfl (pc1 := 25) (lv1 := [(6, .int 8), (7, .int b), (0, .ref 448), (1, .int a), (2, .int b), (3, .int c), (4, .int e), (5, .int f)]) (st1 := []) rfl ?_
  refine q_sg x_40_25 rfl rfl (pc1 := 27) (lv1 := [(6, .int 8), (7, .int b), (0, .ref 448), (1, .int a), (2, .int b), (3, .int c), (4, .int e), (5, .int f)]) (st1 := [.int 8]) rfl ?_
  refine q_sg x_40_27 rfl rfl (pc1 := 28) (lv1 := [(6, .int 8), (7, .int b), (0, .ref 448), (1, .int a), (2, .int b), (3, .int c), (4, .int e), (5, .int f)]) (st1 := [.int 4, .int 8]) rfl ?_
  refine q_sg x_40_28 rfl rfl (pc1 := 35) (lv1 := [(6, .int 8), (7, .int b), (0, .ref 448), (1, .int a), (2, .int b), (3, .int c), (4, .int e), (5, .int f)]) (st1 := []) rfl ?_
  refine q_sg x_40_35 rfl rfl (pc1 := 37) (lv1 := [(6, .int 8), (7, .int b), (0, .ref 448), (1, .int a), (2, .int b), (3, .int c), (4, .int e), (5, .int f)]) (st1 := [.int 8]) rfl ?_
  refine q_sg x_40_37 rfl rfl (pc1 := 39) (lv1 := [(6, .int 8), (7, .int b), (0, .ref 448), (1, .int a), (2, .int b), (3, .int c), (4, .int e), (5, .int f)]) (st1 := [.int 8, .int 8]) rfl ?_
  refine q_sg x_40_39 rfl rfl (pc1 := 46) (lv1 := [(6, .int 8), (7, .int b), (0, .ref 448), (1, .int a), (2, .int b), (3, .int c), (4, .int e), (5, .int f)]) (st1 := []) rfl ?_
  refine q_sg x_40_46 rfl rfl (pc1 := 48) (lv1 := [(6, .int 8), (7, .int b), (0, .ref 448), (1, .int a), (2, .int b), (3, .int c), (4, .int e), (5, .int f)]) (st1 := [.int 8]) rfl ?_
  refine q_sg x_40_48 rfl rfl (pc1 := 50) (lv1 := [(6, .int 8), (7, .int b), (0, .ref 448), (1, .int a), (2, .int b), (3, .int c), (4, .int e), (5, .int f)]) (st1 := [.int 12, .int 8]) rfl ?_
  refine q_sg x_40_50 rfl rfl (pc1 := 53) (lv1 := [(6, .int 8), (7, .int b), (0, .ref 448), (1, .int a), (2, .int b), (3, .int c), (4, .int e), (5, .int f)]) (st1 := []) rfl ?_
  refine q_sg x_40_53 rfl rfl (pc1 := 54) (lv1 := [(6, .int 8), (7, .int b), (0, .ref 448), (1, .int a), (2, .int b), (3, .int c), (4, .int e), (5, .int f)]) (st1 := [.int c]) rfl ?_
  refine q_sg x_40_54 rfl rfl (pc1 := 71) (lv1 := [(6, .int 8), (7, .int b), (0, .ref 448), (1, .int a), (2, .int b), (3, .int c), (4, .int e), (5, .int f)]) (st1 := [.int c]) rfl ?_
  refine q_sg x_40_71 rfl rfl (pc1 := 73) (lv1 := [(7, .int c), (6, .int 8), (0, .ref 448), (1, .int a), (2, .int b), (3, .int c), (4, .int e), (5, .int f)]) (st1 := []) rfl ?_
  refine q_sg x_40_73 rfl rfl (pc1 := 74) (lv1 := [(7, .int c), (6, .int 8), (0, .ref 448), (1, .int a), (2, .int b), (3, .int c), (4, .int e), (5, .int f)]) (st1 := [.ref 448]) rfl ?_
  refine q_s_get x_40_74 rfl (pc1 := 77) rfl (ci := 12) (k := 1) (ns := 0) (by decide +kernel) (q_ob (m_F0 hG 8 L) rfl) (v := .ref 452) rfl ?_
  refine q_sg x_40_77 rfl rfl (pc1 := 78) (lv1 := [(7, .int c), (6, .int 8), (0, .ref 448), (1, .int a), (2, .int b), (3, .int c), (4, .int e), (5, .int f)]) (st1 := [.ref 448, .ref 452]) rfl ?_
  refine q_s_get x_40_78 rfl (pc1 := 81) rfl (ci := 12) (k := 2) (ns := 0) (by decide +kernel) (q_ob (m_F0 hG 8 L) rfl) (v := .int 8) rfl ?_
  refine q_sg x_40_81 rfl rfl (pc1 := 83) (lv1 := [(7, .int c), (6, .int 8), (0, .ref 448), (1, .int a), (2, .int b), (3, .int c), (4, .int e), (5, .int f)]) (st1 := [.int c, .int 8, .ref 452]) rfl ?_
  refine q_sg x_40_83 rfl rfl (pc1 := 85) (lv1 := [(7, .int c), (6, .int 8), (0, .ref 448), (1, .int a), (2, .int b), (3, .int c), (4, .int e), (5, .int f)]) (st1 := [.int 24, .int c, .int 8, .ref 452]) rfl ?_
  refine q_sg x_40_85 rfl rfl (pc1 := 87) (lv1 := [(7, .int c), (6, .int 8), (0, .ref 448), (1, .int a), (2, .int b), (3, .int c), (4, .int e), (5, .int f)]) (st1 := [.int 8, .int 24, .int c, .int 8, .ref 452]) rfl ?_
  refine q_sg x_40_87 rfl rfl (pc1 := 89) (lv1 := [(7, .int c), (6, .int 8), (0, .ref 448), (1, .int a), (2, .int b), (3, .int c), (4, .int e), (5, .int f)]) (st1 := [.int 8, .int 8, .int 24, .int c, .int 8, .ref 452]) rfl ?_
  refine q_sg x_40_89 rfl rfl (pc1 := 90) (lv1 := [(7, .int c), (6, .int 8), (0, .ref 448), (1, .int a), (2, .int b), (3, .int c), (4, .int e), (5, .int f)]) (st1 := [.int 4, .int 8, .int 8, .int 24, .int c, .int 8, .ref 452]) rfl ?_
  refine q_sg x_40_90 rfl rfl (pc1 := 91) (lv1 := [(7, .int c), (6, .int 8), (0, .ref 448), (1, .int a), (2, .int b), (3, .int c), (4, .int e), (5, .int f)]) (st1 := [.int 0, .int 8, .int 24, .int c, .int 8, .ref 452]) rfl ?_
  refine q_sg x_40_91 rfl rfl (pc1 := 92) (lv1 := [(7, .int c), (6, .int 8), (0, .ref 448), (1, .int a), (2, .int b), (3, .int c), (4, .int e), (5, .int f)]) (st1 := [.int 0, .int 24, .int c, .int 8, .ref 452]) rfl ?_
  refine q_sg x_40_92 rfl rfl (pc1 := 93) (lv1 := [(7, .int c), (6, .int 8), (0, .ref 448), (1, .int a), (2, .int b), (3, .int c), (4, .int e), (5, .int f)]) (st1 := [.int 24, .int c, .int 8, .ref 452]) rfl ?_
  refine q_sg x_40_93 rfl rfl (pc1 := 94) (lv1 := [(7, .int c), (6, .int 8), (0, .ref 448), (1, .int a), (2, .int b), (3, .int c), (4, .int e), (5, .int f)]) (st1 := [.int (c >>> (24 &&& 31)), .int 8, .ref 452]) rfl ?_
  refine q_sg x_40_94 rfl rfl (pc1 := 97) (lv1 := [(7, .int c), (6, .int 8), (0, .ref 448), (1, .int a), (2, .int b), (3, .int c), (4, .int e), (5, .int f)]) (st1 := [.int 255, .int (c >>> (24 &&& 31)), .int 8, .ref 452]) rfl ?_
  refine q_sg x_40_97 rfl rfl (pc1 := 98) (lv1 := [(7, .int c), (6, .int 8), (0, .ref 448), (1, .int a), (2, .int b), (3, .int c), (4, .int e), (5, .int f)]) (st1 := [.int ((c >>> (24 &&& 31)) &&& 255), .int 8, .ref 452]) rfl ?_
  refine q_s_ias x_40_98 (pc1 := 99) rfl (q_ar (m_F1 hG 8 L) rfl) (by decide +kernel) (j := 8) rfl (m_Fa _ _ ((8, ((c >>> (24 &&& 31)) &&& 255)) :: L)) ?_
  refine q_sg x_40_99 rfl rfl (pc1 := 100) (lv1 := [(7, .int c), (6, .int 8), (0, .ref 448), (1, .int a), (2, .int b), (3, .int c), (4, .int e), (5, .int f)]) (st1 := [.ref 448]) rfl ?_
  refine q_sg x_40_100 rfl rfl (pc1 := 101) (lv1 := [(7, .int c), (6, .int 8), (0, .ref 448), (1, .int a), (2, .int b), (3, .int c), (4, .int e), (5, .int f)]) (st1 := [.ref 448, .ref 448]) rfl ?_
  refine q_s_get x_40_101 rfl (pc1 := 104) rfl (ci := 12) (k := 2) (ns := 0) (by decide +kernel) (q_ob (m_F0 hG 8 ((8, ((c >>> (24 &&& 31)) &&& 255)) :: L)) rfl) (v := .int 8) rfl ?_
  refine q_sg x_40_104 rfl rfl (pc1 := 105) (lv1 := [(7, .int c), (6, .int 8), (0, .ref 448), (1, .int a), (2, .int b), (3, .int c), (4, .int e), (5, .int f)]) (st1 := [.int 1, .int 8, .ref 448]) rfl ?_
  refine q_sg x_40_105 rfl rfl (pc1 := 106) (lv1 := [(7, .int c), (6, .int 8), (0, .ref 448), (1, .int a), (2, .int b), (3, .int c), (4, .int e), (5, .int f)]) (st1 := [.int 9, .ref 448]) rfl ?_
  refine q_s_put x_40_106 (pc1 := 109) rfl (ci := 12) (k := 2) (ns := 0) (by decide +kernel) (q_ob (m_F0 hG 8 ((8, ((c >>> (24 &&& 31)) &&& 255)) :: L)) rfl) (by decide +kernel) (m_Fs _ 9 _) ?_
  refine q_sg x_40_109 rfl rfl (pc1 := 112) (lv1 := [(6, .int 9), (7, .int c), (0, .ref 448), (1, .int a), (2, .int b), (3, .int c), (4, .int e), (5, .int f)]) (st1 := []) rfl ?_
  refine q_sg x_40_112 rfl rfl (pc1 := 18) (lv1 := [(6, .int 9), (7, .int c), (0, .ref 448), (1, .int a), (2, .int b), (3, .int c), (4, .int e), (5, .int f)]) (st1 := []) rfl ?_
  exact kk
theorem m_turn9 {G : q_H} (hG : 264 ≤ G.length) {a b c e f : Int32} {L : List (Nat × Int32)} {d n : Nat} (kk : ∀ L1, ∃ E1, q_run (q_callf 4000 d) (q_own 40) (q_maxL 40) (q_ini 40) (q_code 40) (q_ret 40) n 18 [(6, .int 10), (7, .int c), (0, .ref 448), (1, .int a), (2, .int b), (3, .int c), (4, .int e), (5, .int f)] [] (m_F G 10 L1) 0 0 = some (some (.int 20), E1, 0, 0)) : ∃ E1, q_run (q_callf 4000 d) (q_own 40) (q_maxL 40) (q_ini 40) (q_code 40) (q_ret 40) (n + 39) 18 [(6, .int 9), (7, .int c), (0, .ref 448), (1, .int a), (2, .int b), (3, .int c), (4, .int e), (5, .int f)] [] (m_F G 9 L) 0 0 = some (some (.int 20), E1, 0, 0) := by
  obtain ⟨E1, kk⟩ := kk ((9, ((c >>> (16 &&& 31)) &&& 255)) :: L)
  refine ⟨E1, ?_⟩
  refine q_sg x_40_18 rfl rfl (pc1 := 20) (lv1 := [(6, .int 9), (7, .int c), (0, .ref 448), (1, .int a), (2, .int b), (3, .int c), (4, .int e), (5, .int f)]) (st1 := [.int 9]) rfl ?_
  refine q_sg x_40_20 rfl rfl (pc1 := 22) (lv1 := [(6, .int 9), (7, .int c), (0, .ref 448), (1, .int a), (2, .int b), (3, .int c), (4, .int e), (5, .int f)]) (st1 := [.int 20, .int 9]) rfl ?_
  refine q_sg x_40_22 rfl rfl (pc1 := 25) (lv1 := [(6, .int 9), (7, .int c), (0, .ref 448), (1, .int a), (2, .int b), (3, .int c), (4, .int e), (5, .int f)]) (st1 := []) rfl ?_
  refine q_sg x_40_25 rfl rfl (pc1 := 27) (lv1 := [(6, .int 9), (7, .int c), (0, .ref 448), (1, .int a), (2, .int b), (3, .int c), (4, .int e), (5, .int f)]) (st1 := [.int 9]) rfl ?_
  refine q_sg x_40_27 rfl rfl (pc1 := 28) (lv1 := [(6, .int 9), (7, .int c), (0, .ref 448), (1, .int a), (2, .int b), (3, .int c), (4, .int e), (5, .int f)]) (st1 := [.int 4, .int 9]) rfl ?_
  refine q_sg x_40_28 rfl rfl (pc1 := 35) (lv1 := [(6, .int 9), (7, .int c), (0, .ref 448), (1, .int a), (2, .int b), (3, .int c), (4, .int e), (5, .int f)]) (st1 := []) rfl ?_
  refine q_sg x_40_35 rfl rfl (pc1 := 37) (lv1 := [(6, .int 9), (7, .int c), (0, .ref 448), (1, .int a), (2, .int b), (3, .int c), (4, .int e), (5, .int f)]) (st1 := [.int 9]) rfl ?_
  refine q_sg x_40_37 rfl rfl (pc1 := 39) (lv1 := [(6, .int 9), (7, .int c), (0, .ref 448), (1, .int a), (2, .int b), (3, .int c), (4, .int e), (5, .int f)]) (st1 := [.int 8, .int 9]) rfl ?_
  refine q_sg x_40_39 rfl rfl (pc1 := 46) (lv1 := [(6, .int 9), (7, .int c), (0, .ref 448), (1, .int a), (2, .int b), (3, .int c), (4, .int e), (5, .int f)]) (st1 := []) rfl ?_
  refine q_sg x_40_46 rfl rfl (pc1 := 48) (lv1 := [(6, .int 9), (7, .int c), (0, .ref 448), (1, .int a), (2, .int b), (3, .int c), (4, .int e), (5, .int f)]) (st1 := [.int 9]) rfl ?_
  refine q_sg x_40_48 rfl rfl (pc1 := 50) (lv1 := [(6, .int 9), (7, .int c), (0, .ref 448), (1, .int a), (2, .int b), (3, .int c), (4, .int e), (5, .int f)]) (st1 := [.int 12, .int 9]) rfl ?_
  refine q_sg x_40_50 rfl rfl (pc1 := 53) (lv1 := [(6, .int 9), (7, .int c), (0, .ref 448), (1, .int a), (2, .int b), (3, .int c), (4, .int e), (5, .int f)]) (st1 := []) rfl ?_
  refine q_sg x_40_53 rfl rfl (pc1 := 54) (lv1 := [(6, .int 9), (7, .int c), (0, .ref 448), (1, .int a), (2, .int b), (3, .int c), (4, .int e), (5, .int f)]) (st1 := [.int c]) rfl ?_
  refine q_sg x_40_54 rfl rfl (pc1 := 71) (lv1 := [(6, .int 9), (7, .int c), (0, .ref 448), (1, .int a), (2, .int b), (3, .int c), (4, .int e), (5, .int f)]) (st1 := [.int c]) rfl ?_
  refine q_sg x_40_71 rfl rfl (pc1 := 73) (lv1 := [(7, .int c), (6, .int 9), (0, .ref 448), (1, .int a), (2, .int b), (3, .int c), (4, .int e), (5, .int f)]) (st1 := []) rfl ?_
  refine q_sg x_40_73 rfl rfl (pc1 := 74) (lv1 := [(7, .int c), (6, .int 9), (0, .ref 448), (1, .int a), (2, .int b), (3, .int c), (4, .int e), (5, .int f)]) (st1 := [.ref 448]) rfl ?_
  refine q_s_get x_40_74 rfl (pc1 := 77) rfl (ci := 12) (k := 1) (ns := 0) (by decide +kernel) (q_ob (m_F0 hG 9 L) rfl) (v := .ref 452) rfl ?_
  refine q_sg x_40_77 rfl rfl (pc1 := 78) (lv1 := [(7, .int c), (6, .int 9), (0, .ref 448), (1, .int a), (2, .int b), (3, .int c), (4, .int e), (5, .int f)]) (st1 := [.ref 448, .ref 452]) rfl ?_
  refine q_s_get x_40_78 rfl (pc1 := 81) rfl (ci := 12) (k := 2) (ns := 0) (by decide +kernel) (q_ob (m_F0 hG 9 L) rfl) (v := .int 9) rfl ?_
  refine q_sg x_40_81 rfl rfl (pc1 := 83) (lv1 := [(7, .int c), (6, .int 9), (0, .ref 448), (1, .int a), (2, .int b), (3, .int c), (4, .int e), (5, .int f)]) (st1 := [.int c, .int 9, .ref 452]) rfl ?_
  refine q_sg x_40_83 rfl rfl (pc1 := 85) (lv1 := [(7, .int c), (6, .int 9), (0, .ref 448), (1, .int a), (2, .int b), (3, .int c), (4, .int e), (5, .int f)]) (st1 := [.int 24, .int c, .int 9, .ref 452]) rfl ?_
  refine q_sg x_40_85 rfl rfl (pc1 := 87) (lv1 := [(7, .int c), (6, .int 9), (0, .ref 448), (1, .int a), (2, .int b), (3, .int c), (4, .int e), (5, .int f)]) (st1 := [.int 8, .int 24, .int c, .int 9, .ref 452]) rfl ?_
  refine q_sg x_40_87 rfl rfl (pc1 := 89) (lv1 := [(7, .int c), (6, .int 9), (0, .ref 448), (1, .int a), (2, .int b), (3, .int c), (4, .int e), (5, .int f)]) (st1 := [.int 9, .int 8, .int 24, .int c, .int 9, .ref 452]) rfl ?_
  refine q_sg x_40_89 rfl rfl (pc1 := 90) (lv1 := [(7, .int c), (6, .int 9), (0, .ref 448), (1, .int a), (2, .int b), (3, .int c), (4, .int e), (5, .int f)]) (st1 := [.int 4, .int 9, .int 8, .int 24, .int c, .int 9, .ref 452]) rfl ?_
  refine q_sg x_40_90 rfl rfl (pc1 := 91) (lv1 := [(7, .int c), (6, .int 9), (0, .ref 448), (1, .int a), (2, .int b), (3, .int c), (4, .int e), (5, .int f)]) (st1 := [.int 1, .int 8, .int 24, .int c, .int 9, .ref 452]) rfl ?_
  refine q_sg x_40_91 rfl rfl (pc1 := 92) (lv1 := [(7, .int c), (6, .int 9), (0, .ref 448), (1, .int a), (2, .int b), (3, .int c), (4, .int e), (5, .int f)]) (st1 := [.int 8, .int 24, .int c, .int 9, .ref 452]) rfl ?_
  refine q_sg x_40_92 rfl rfl (pc1 := 93) (lv1 := [(7, .int c), (6, .int 9), (0, .ref 448), (1, .int a), (2, .int b), (3, .int c), (4, .int e), (5, .int f)]) (st1 := [.int 16, .int c, .int 9, .ref 452]) rfl ?_
  refine q_sg x_40_93 rfl rfl (pc1 := 94) (lv1 := [(7, .int c), (6, .int 9), (0, .ref 448), (1, .int a), (2, .int b), (3, .int c), (4, .int e), (5, .int f)]) (st1 := [.int (c >>> (16 &&& 31)), .int 9, .ref 452]) rfl ?_
  refine q_sg x_40_94 rfl rfl (pc1 := 97) (lv1 := [(7, .int c), (6, .int 9), (0, .ref 448), (1, .int a), (2, .int b), (3, .int c), (4, .int e), (5, .int f)]) (st1 := [.int 255, .int (c >>> (16 &&& 31)), .int 9, .ref 452]) rfl ?_
  refine q_sg x_40_97 rfl rfl (pc1 := 98) (lv1 := [(7, .int c), (6, .int 9), (0, .ref 448), (1, .int a), (2, .int b), (3, .int c), (4, .int e), (5, .int f)]) (st1 := [.int ((c >>> (16 &&& 31)) &&& 255), .int 9, .ref 452]) rfl ?_
  refine q_s_ias x_40_98 (pc1 := 99) rfl (q_ar (m_F1 hG 9 L) rfl) (by decide +kernel) (j := 9) rfl (m_Fa _ _ ((9, ((c >>> (16 &&& 31)) &&& 255)) :: L)) ?_
  refine q_sg x_40_99 rfl rfl (pc1 := 100) (lv1 := [(7, .int c), (6, .int 9), (0, .ref 448), (1, .int a), (2, .int b), (3, .int c), (4, .int e), (5, .int f)]) (st1 := [.ref 448]) rfl ?_
  refine q_sg x_40_100 rfl rfl (pc1 := 101) (lv1 := [(7, .int c), (6, .int 9), (0, .ref 448), (1, .int a), (2, .int b), (3, .int c), (4, .int e), (5, .int f)]) (st1 := [.ref 448, .ref 448]) rfl ?_
  refine q_s_get x_40_101 rfl (pc1 := 104) rfl (ci := 12) (k := 2) (ns := 0) (by decide +kernel) (q_ob (m_F0 hG 9 ((9, ((c >>> (16 &&& 31)) &&& 255)) :: L)) rfl) (v := .int 9) rfl ?_
  refine q_sg x_40_104 rfl rfl (pc1 := 105) (lv1 := [(7, .int c), (6, .int 9), (0, .ref 448), (1, .int a), (2, .int b), (3, .int c), (4, .int e), (5, .int f)]) (st1 := [.int 1, .int 9, .ref 448]) rfl ?_
  refine q_sg x_40_105 rfl rfl (pc1 := 106) (lv1 := [(7, .int c), (6, .int 9), (0, .ref 448), (1, .int a), (2, .int b), (3, .int c), (4, .int e), (5, .int f)]) (st1 := [.int 10, .ref 448]) rfl ?_
  refine q_s_put x_40_106 (pc1 := 109) rfl (ci := 12) (k := 2) (ns := 0) (by decide +kernel) (q_ob (m_F0 hG 9 ((9, ((c >>> (16 &&& 31)) &&& 255)) :: L)) rfl) (by decide +kernel) (m_Fs _ 10 _) ?_
  refine q_sg x_40_109 rfl rfl (pc1 := 112) (lv1 := [(6, .int 10), (7, .int c), (0, .ref 448), (1, .int a), (2, .int b), (3, .int c), (4, .int e), (5, .int f)]) (st1 := []) rfl ?_
  refine q_sg x_40_112 rfl rfl (pc1 := 18) (lv1 := [(6, .int 10), (7, .int c), (0, .ref 448), (1, .int a), (2, .int b), (3, .int c), (4, .int e), (5, .int f)]) (st1 := []) rfl ?_
  exact kk
theorem m_turn10 {G : q_H} (hG : 264 ≤ G.length) {a b c e f : Int32} {L : List (Nat × Int32)} {d n : Nat} (kk : ∀ L1, ∃ E1, q_run (q_callf 4000 d) (q_own 40) (q_maxL 40) (q_ini 40) (q_code 40) (q_ret 40) n 18 [(6, .int 11), (7, .int c), (0, .ref 448), (1, .int a), (2, .int b), (3, .int c), (4, .int e), (5, .int f)] [] (m_F G 11 L1) 0 0 = some (some (.int 20), E1, 0, 0)) : ∃ E1, q_run (q_callf 4000 d) (q_own 40) (q_maxL 40) (q_ini 40) (q_code 40) (q_ret 40) (n + 39) 18 [(6, .int 10), (7, .int c), (0, .ref 448), (1, .int a), (2, .int b), (3, .int c), (4, .int e), (5, .int f)] [] (m_F G 10 L) 0 0 = some (some (.int 20), E1, 0, 0) := by
  obtain ⟨E1, kk⟩ := kk ((10, ((c >>> (8 &&& 31)) &&& 255)) :: L)
  refine ⟨E1, ?_⟩
  refine q_sg x_40_18 rfl rfl (pc1 := 20) (lv1 := [(6, .int 10), (7, .int c), (0, .ref 448), (1, .int a), (2, .int b), (3, .int c), (4, .int e), (5, .int f)]) (st1 := [.int 10]) rfl ?_
  refine q_sg x_40_20 rfl rfl (pc1 := 22) (lv1 := [(6, .int 10), (7, .int c), (0, .ref 448), (1, .int a), (2, .int b), (3, .int c), (4, .int e), (5, .int f)]) (st1 := [.int 20, .int 10]) rfl ?_
  refine q_sg x_40_22 rfl rfl (pc1 := 25) (lv1 := [(6, .int 10), (7, .int c), (0, .ref 448), (1, .int a), (2, .int b), (3, .int c), (4, .int e), (5, .int f)]) (st1 := []) rfl ?_
  refine q_sg x_40_25 rfl rfl (pc1 := 27) (lv1 := [(6, .int 10), (7, .int c), (0, .ref 448), (1, .int a), (2, .int b), (3, .int c), (4, .int e), (5, .int f)]) (st1 := [.int 10]) rfl ?_
  refine q_sg x_40_27 rfl rfl (pc1 := 28) (lv1 := [(6, .int 10), (7, .int c), (0, .ref 448), (1, .int a), (2, .int b), (3, .int c), (4, .int e), (5, .int f)]) (st1 := [.int 4, .int 10]) rfl ?_
  refine q_sg x_40_28 rfl rfl (pc1 := 35) (lv1 := [(6, .int 10), (7, .int c), (0, .ref 448), (1, .int a), (2, .int b), (3, .int c), (4, .int e), (5, .int f)]) (st1 := []) rfl ?_
  refine q_sg x_40_35 rfl rfl (pc1 := 37) (lv1 := [(6, .int 10), (7, .int c), (0, .ref 448), (1, .int a), (2, .int b), (3, .int c), (4, .int e), (5, .int f)]) (st1 := [.int 10]) rfl ?_
  refine q_sg x_40_37 rfl rfl (pc1 := 39) (lv1 := [(6, .int 10), (7, .int c), (0, .ref 448), (1, .int a), (2, .int b), (3, .int c), (4, .int e), (5, .int f)]) (st1 := [.int 8, .int 10]) rfl ?_
  refine q_sg x_40_39 rfl rfl (pc1 := 46) (lv1 := [(6, .int 10), (7, .int c), (0, .ref 448), (1, .int a), (2, .int b), (3, .int c), (4, .int e), (5, .int f)]) (st1 := []) rfl ?_
  refine q_sg x_40_46 rfl rfl (pc1 := 48) (lv1 := [(6, .int 10), (7, .int c), (0, .ref 448), (1, .int a), (2, .int b), (3, .int c), (4, .int e), (5, .int f)]) (st1 := [.int 10]) rfl ?_
  refine q_sg x_40_48 rfl rfl (pc1 := 50) (lv1 := [(6, .int 10), (7, .int c), (0, .ref 448), (1, .int a), (2, .int b), (3, .int c), (4, .int e), (5, .int f)]) (st1 := [.int 12, .int 10]) rfl ?_
  refine q_sg x_40_50 rfl rfl (pc1 := 53) (lv1 := [(6, .int 10), (7, .int c), (0, .ref 448), (1, .int a), (2, .int b), (3, .int c), (4, .int e), (5, .int f)]) (st1 := []) rfl ?_
  refine q_sg x_40_53 rfl rfl (pc1 := 54) (lv1 := [(6, .int 10), (7, .int c), (0, .ref 448), (1, .int a), (2, .int b), (3, .int c), (4, .int e), (5, .int f)]) (st1 := [.int c]) rfl ?_
  refine q_sg x_40_54 rfl rfl (pc1 := 71) (lv1 := [(6, .int 10), (7, .int c), (0, .ref 448), (1, .int a), (2, .int b), (3, .int c), (4, .int e), (5, .int f)]) (st1 := [.int c]) rfl ?_
  refine q_sg x_40_71 rfl rfl (pc1 := 73) (lv1 := [(7, .int c), (6, .int 10), (0, .ref 448), (1, .int a), (2, .int b), (3, .int c), (4, .int e), (5, .int f)]) (st1 := []) rfl ?_
  refine q_sg x_40_73 rfl rfl (pc1 := 74) (lv1 := [(7, .int c), (6, .int 10), (0, .ref 448), (1, .int a), (2, .int b), (3, .int c), (4, .int e), (5, .int f)]) (st1 := [.ref 448]) rfl ?_
  refine q_s_get x_40_74 rfl (pc1 := 77) rfl (ci := 12) (k := 1) (ns := 0) (by decide +kernel) (q_ob (m_F0 hG 10 L) rfl) (v := .ref 452) rfl ?_
  refine q_sg x_40_77 rfl rfl (pc1 := 78) (lv1 := [(7, .int c), (6, .int 10), (0, .ref 448), (1, .int a), (2, .int b), (3, .int c), (4, .int e), (5, .int f)]) (st1 := [.ref 448, .ref 452]) rfl ?_
  refine q_s_get x_40_78 rfl (pc1 := 81) rfl (ci := 12) (k := 2) (ns := 0) (by decide +kernel) (q_ob (m_F0 hG 10 L) rfl) (v := .int 10) rfl ?_
  refine q_sg x_40_81 rfl rfl (pc1 := 83) (lv1 := [(7, .int c), (6, .int 10), (0, .ref 448), (1, .int a), (2, .int b), (3, .int c), (4, .int e), (5, .int f)]) (st1 := [.int c, .int 10, .ref 452]) rfl ?_
  refine q_sg x_40_83 rfl rfl (pc1 := 85) (lv1 := [(7, .int c), (6, .int 10), (0, .ref 448), (1, .int a), (2, .int b), (3, .int c), (4, .int e), (5, .int f)]) (st1 := [.int 24, .int c, .int 10, .ref 452]) rfl ?_
  refine q_sg x_40_85 rfl rfl (pc1 := 87) (lv1 := [(7, .int c), (6, .int 10), (0, .ref 448), (1, .int a), (2, .int b), (3, .int c), (4, .int e), (5, .int f)]) (st1 := [.int 8, .int 24, .int c, .int 10, .ref 452]) rfl ?_
  refine q_sg x_40_87 rfl rfl (pc1 := 89) (lv1 := [(7, .int c), (6, .int 10), (0, .ref 448), (1, .int a), (2, .int b), (3, .int c), (4, .int e), (5, .int f)]) (st1 := [.int 10, .int 8, .int 24, .int c, .int 10, .ref 452]) rfl ?_
  refine q_sg x_40_89 rfl rfl (pc1 := 90) (lv1 := [(7, .int c), (6, .int 10), (0, .ref 448), (1, .int a), (2, .int b), (3, .int c), (4, .int e), (5, .int f)]) (st1 := [.int 4, .int 10, .int 8, .int 24, .int c, .int 10, .ref 452]) rfl ?_
  refine q_sg x_40_90 rfl rfl (pc1 := 91) (lv1 := [(7, .int c), (6, .int 10), (0, .ref 448), (1, .int a), (2, .int b), (3, .int c), (4, .int e), (5, .int f)]) (st1 := [.int 2, .int 8, .int 24, .int c, .int 10, .ref 452]) rfl ?_
  refine q_sg x_40_91 rfl rfl (pc1 := 92) (lv1 := [(7, .int c), (6, .int 10), (0, .ref 448), (1, .int a), (2, .int b), (3, .int c), (4, .int e), (5, .int f)]) (st1 := [.int 16, .int 24, .int c, .int 10, .ref 452]) rfl ?_
  refine q_sg x_40_92 rfl rfl (pc1 := 93) (lv1 := [(7, .int c), (6, .int 10), (0, .ref 448), (1, .int a), (2, .int b), (3, .int c), (4, .int e), (5, .int f)]) (st1 := [.int 8, .int c, .int 10, .ref 452]) rfl ?_
  refine q_sg x_40_93 rfl rfl (pc1 := 94) (lv1 := [(7, .int c), (6, .int 10), (0, .ref 448), (1, .int a), (2, .int b), (3, .int c), (4, .int e), (5, .int f)]) (st1 := [.int (c >>> (8 &&& 31)), .int 10, .ref 452]) rfl ?_
  refine q_sg x_40_94 rfl rfl (pc1 := 97) (lv1 := [(7, .int c), (6, .int 10), (0, .ref 448), (1, .int a), (2, .int b), (3, .int c), (4, .int e), (5, .int f)]) (st1 := [.int 255, .int (c >>> (8 &&& 31)), .int 10, .ref 452]) rfl ?_
  refine q_sg x_40_97 rfl rfl (pc1 := 98) (lv1 := [(7, .int c), (6, .int 10), (0, .ref 448), (1, .int a), (2, .int b), (3, .int c), (4, .int e), (5, .int f)]) (st1 := [.int ((c >>> (8 &&& 31)) &&& 255), .int 10, .ref 452]) rfl ?_
  refine q_s_ias x_40_98 (pc1 := 99) rfl (q_ar (m_F1 hG 10 L) rfl) (by decide +kernel) (j := 10) rfl (m_Fa _ _ ((10, ((c >>> (8 &&& 31)) &&& 255)) :: L)) ?_
  refine q_sg x_40_99 rfl rfl (pc1 := 100) (lv1 := [(7, .int c), (6, .int 10), (0, .ref 448), (1, .int a), (2, .int b), (3, .int c), (4, .int e), (5, .int f)]) (st1 := [.ref 448]) rfl ?_
  refine q_sg x_40_100 rfl rfl (pc1 := 101) (lv1 := [(7, .int c), (6, .int 10), (0, .ref 448), (1, .int a), (2, .int b), (3, .int c), (4, .int e), (5, .int f)]) (st1 := [.ref 448, .ref 448]) rfl ?_
  refine q_s_get x_40_101 rfl (pc1 := 104) rfl (ci := 12) (k := 2) (ns := 0) (by decide +kernel) (q_ob (m_F0 hG 10 ((10, ((c >>> (8 &&& 31)) &&& 255)) :: L)) rfl) (v := .int 10) rfl ?_
  refine q_sg x_40_104 rfl rfl (pc1 := 105) (lv1 := [(7, .int c), (6, .int 10), (0, .ref 448), (1, .int a), (2, .int b), (3, .int c), (4, .int e), (5, .int f)]) (st1 := [.int 1, .int 10, .ref 448]) rfl ?_
  refine q_sg x_40_105 rfl rfl (pc1 := 106) (lv1 := [(7, .int c), (6, .int 10), (0, .ref 448), (1, .int a), (2, .int b), (3, .int c), (4, .int e), (5, .int f)]) (st1 := [.int 11, .ref 448]) rfl ?_
  refine q_s_put x_40_106 (pc1 := 109) rfl (ci := 12) (k := 2) (ns := 0) (by decide +kernel) (q_ob (m_F0 hG 10 ((10, ((c >>> (8 &&& 31)) &&& 255)) :: L)) rfl) (by decide +kernel) (m_Fs _ 11 _) ?_
  refine q_sg x_40_109 rfl rfl (pc1 := 112) (lv1 := [(6, .int 11), (7, .int c), (0, .ref 448), (1, .int a), (2, .int b), (3, .int c), (4, .int e), (5, .int f)]) (st1 := []) rfl ?_
  refine q_sg x_40_112 rfl rfl (pc1 := 18) (lv1 := [(6, .int 11), (7, .int c), (0, .ref 448), (1, .int a), (2, .int b), (3, .int c), (4, .int e), (5, .int f)]) (st1 := []) rfl ?_
  exact kk
theorem m_turn11 {G : q_H} (hG : 264 ≤ G.length) {a b c e f : Int32} {L : List (Nat × Int32)} {d n : Nat} (kk : ∀ L1, ∃ E1, q_run (q_callf 4000 d) (q_own 40) (q_maxL 40) (q_ini 40) (q_code 40) (q_ret 40) n 18 [(6, .int 12), (7, .int c), (0, .ref 448), (1, .int a), (2, .int b), (3, .int c), (4, .int e), (5, .int f)] [] (m_F G 12 L1) 0 0 = some (some (.int 20), E1, 0, 0)) : ∃ E1, q_run (q_callf 4000 d) (q_own 40) (q_maxL 40) (q_ini 40) (q_code 40) (q_ret 40) (n + 39) 18 [(6, .int 11), (7, .int c), (0, .ref 448), (1, .int a), (2, .int b), (3, .int c), (4, .int e), (5, .int f)] [] (m_F G 11 L) 0 0 = some (some (.int 20), E1, 0, 0) := by
  obtain ⟨E1, kk⟩ := kk ((11, ((c >>> (0 &&& 31)) &&& 255)) :: L)
  refine ⟨E1, ?_⟩
  refine q_sg x_40_18 rfl rfl (pc1 := 20) (lv1 := [(6, .int 11), (7, .int c), (0, .ref 448), (1, .int a), (2, .int b), (3, .int c), (4, .int e), (5, .int f)]) (st1 := [.int 11]) rfl ?_
  refine q_sg x_40_20 rfl rfl (pc1 := 22) (lv1 := [(6, .int 11), (7, .int c), (0, .ref 448), (1, .int a), (2, .int b), (3, .int c), (4, .int e), (5, .int f)]) (st1 := [.int 20, .int 11]) rfl ?_
  refine q_sg x_40_22 rfl rfl (pc1 := 25) (lv1 := [(6, .int 11), (7, .int c), (0, .ref 448), (1, .int a), (2, .int b), (3, .int c), (4, .int e), (5, .int f)]) (st1 := []) rfl ?_
  refine q_sg x_40_25 rfl rfl (pc1 := 27) (lv1 := [(6, .int 11), (7, .int c), (0, .ref 448), (1, .int a), (2, .int b), (3, .int c), (4, .int e), (5, .int f)]) (st1 := [.int 11]) rfl ?_
  refine q_sg x_40_27 rfl rfl (pc1 := 28) (lv1 := [(6, .int 11), (7, .int c), (0, .ref 448), (1, .int a), (2, .int b), (3, .int c), (4, .int e), (5, .int f)]) (st1 := [.int 4, .int 11]) rfl ?_
  refine q_sg x_40_28 rfl rfl (pc1 := 35) (lv1 := [(6, .int 11), (7, .int c), (0, .ref 448), (1, .int a), (2, .int b), (3, .int c), (4, .int e), (5, .int f)]) (st1 := []) rfl ?_
  refine q_sg x_40_35 rfl rfl (pc1 := 37) (lv1 := [(6, .int 11), (7, .int c), (0, .ref 448), (1, .int a), (2, .int b), (3, .int c), (4, .int e), (5, .int f)]) (st1 := [.int 11]) rfl ?_
  refine q_sg x_40_37 rfl rfl (pc1 := 39) (lv1 := [(6, .int 11), (7, .int c), (0, .ref 448), (1, .int a), (2, .int b), (3, .int c), (4, .int e), (5, .int f)]) (st1 := [.int 8, .int 11]) rfl ?_
  refine q_sg x_40_39 rfl rfl (pc1 := 46) (lv1 := [(6, .int 11), (7, .int c), (0, .ref 448), (1, .int a), (2, .int b), (3, .int c), (4, .int e), (5, .int f)]) (st1 := []) rfl ?_
  refine q_sg x_40_46 rfl rfl (pc1 := 48) (lv1 := [(6, .int 11), (7, .int c), (0, .ref 448), (1, .int a), (2, .int b), (3, .int c), (4, .int e), (5, .int f)]) (st1 := [.int 11]) rfl ?_
  refine q_sg x_40_48 rfl rfl (pc1 := 50) (lv1 := [(6, .int 11), (7, .int c), (0, .ref 448), (1, .int a), (2, .int b), (3, .int c), (4, .int e), (5, .int f)]) (st1 := [.int 12, .int 11]) rfl ?_
  refine q_sg x_40_50 rfl rfl (pc1 := 53) (lv1 := [(6, .int 11), (7, .int c), (0, .ref 448), (1, .int a), (2, .int b), (3, .int c), (4, .int e), (5, .int f)]) (st1 := []) rfl ?_
  refine q_sg x_40_53 rfl rfl (pc1 := 54) (lv1 := [(6, .int 11), (7, .int c), (0, .ref 448), (1, .int a), (2, .int b), (3, .int c), (4, .int e), (5, .int f)]) (st1 := [.int c]) rfl ?_
  refine q_sg x_40_54 rfl rfl (pc1 := 71) (lv1 := [(6, .int 11), (7, .int c), (0, .ref 448), (1, .int a), (2, .int b), (3, .int c), (4, .int e), (5, .int f)]) (st1 := [.int c]) rfl ?_
  refine q_sg x_40_71 rfl rfl (pc1 := 73) (lv1 := [(7, .int c), (6, .int 11), (0, .ref 448), (1, .int a), (2, .int b), (3, .int c), (4, .int e), (5, .int f)]) (st1 := []) rfl ?_
  refine q_sg x_40_73 rfl rfl (pc1 := 74) (lv1 := [(7, .int c), (6, .int 11), (0, .ref 448), (1, .int a), (2, .int b), (3, .int c), (4, .int e), (5, .int f)]) (st1 := [.ref 448]) rfl ?_
  refine q_s_get x_40_74 rfl (pc1 := 77) rfl (ci := 12) (k := 1) (ns := 0) (by decide +kernel) (q_ob (m_F0 hG 11 L) rfl) (v := .ref 452) rfl ?_
  refine q_sg x_40_77 rfl rfl (pc1 := 78) (lv1 := [(7, .int c), (6, .int 11), (0, .ref 448), (1, .int a), (2, .int b), (3, .int c), (4, .int e), (5, .int f)]) (st1 := [.ref 448, .ref 452]) rfl ?_
  refine q_s_get x_40_78 rfl (pc1 := 81) rfl (ci := 12) (k := 2) (ns := 0) (by decide +kernel) (q_ob (m_F0 hG 11 L) rfl) (v := .int 11) rfl ?_
  refine q_sg x_40_81 rfl rfl (pc1 := 83) (lv1 := [(7, .int c), (6, .int 11), (0, .ref 448), (1, .int a), (2, .int b), (3, .int c), (4, .int e), (5, .int f)]) (st1 := [.int c, .int 11, .ref 452]) rfl ?_
  refine q_sg x_40_83 rfl rfl (pc1 := 85) (lv1 := [(7, .int c), (6, .int 11), (0, .ref 448), (1, .int a), (2, .int b), (3, .int c), (4, .int e), (5, .int f)]) (st1 := [.int 24, .int c, .int 11, .ref 452]) rfl ?_
  refine q_sg x_40_85 rfl rfl (pc1 := 87) (lv1 := [(7, .int c), (6, .int 11), (0, .ref 448), (1, .int a), (2, .int b), (3, .int c), (4, .int e), (5, .int f)]) (st1 := [.int 8, .int 24, .int c, .int 11, .ref 452]) rfl ?_
  refine q_sg x_40_87 rfl rfl (pc1 := 89) (lv1 := [(7, .int c), (6, .int 11), (0, .ref 448), (1, .int a), (2, .int b), (3, .int c), (4, .int e), (5, .int f)]) (st1 := [.int 11, .int 8, .int 24, .int c, .int 11, .ref 452]) rfl ?_
  refine q_sg x_40_89 rfl rfl (pc1 := 90) (lv1 := [(7, .int c), (6, .int 11), (0, .ref 448), (1, .int a), (2, .int b), (3, .int c), (4, .int e), (5, .int f)]) (st1 := [.int 4, .int 11, .int 8, .int 24, .int c, .int 11, .ref 452]) rfl ?_
  refine q_sg x_40_90 rfl rfl (pc1 := 91) (lv1 := [(7, .int c), (6, .int 11), (0, .ref 448), (1, .int a), (2, .int b), (3, .int c), (4, .int e), (5, .int f)]) (st1 := [.int 3, .int 8, .int 24, .int c, .int 11, .ref 452]) rfl ?_
  refine q_sg x_40_91 rfl rfl (pc1 := 92) (lv1 := [(7, .int c), (6, .int 11), (0, .ref 448), (1, .int a), (2, .int b), (3, .int c), (4, .int e), (5, .int f)]) (st1 := [.int 24, .int 24, .int c, .int 11, .ref 452]) rfl ?_
  refine q_sg x_40_92 rfl rfl (pc1 := 93) (lv1 := [(7, .int c), (6, .int 11), (0, .ref 448), (1, .int a), (2, .int b), (3, .int c), (4, .int e), (5, .int f)]) (st1 := [.int 0, .int c, .int 11, .ref 452]) rfl ?_
  refine q_sg x_40_93 rfl rfl (pc1 := 94) (lv1 := [(7, .int c), (6, .int 11), (0, .ref 448), (1, .int a), (2, .int b), (3, .int c), (4, .int e), (5, .int f)]) (st1 := [.int (c >>> (0 &&& 31)), .int 11, .ref 452]) rfl ?_
  refine q_sg x_40_94 rfl rfl (pc1 := 97) (lv1 := [(7, .int c), (6, .int 11), (0, .ref 448), (1, .int a), (2, .int b), (3, .int c), (4, .int e), (5, .int f)]) (st1 := [.int 255, .int (c >>> (0 &&& 31)), .int 11, .ref 452]) rfl ?_
  refine q_sg x_40_97 rfl rfl (pc1 := 98) (lv1 := [(7, .int c), (6, .int 11), (0, .ref 448), (1, .int a), (2, .int b), (3, .int c), (4, .int e), (5, .int f)]) (st1 := [.int ((c >>> (0 &&& 31)) &&& 255), .int 11, .ref 452]) rfl ?_
  refine q_s_ias x_40_98 (pc1 := 99) rfl (q_ar (m_F1 hG 11 L) rfl) (by decide +kernel) (j := 11) rfl (m_Fa _ _ ((11, ((c >>> (0 &&& 31)) &&& 255)) :: L)) ?_
  refine q_sg x_40_99 rfl rfl (pc1 := 100) (lv1 := [(7, .int c), (6, .int 11), (0, .ref 448), (1, .int a), (2, .int b), (3, .int c), (4, .int e), (5, .int f)]) (st1 := [.ref 448]) rfl ?_
  refine q_sg x_40_100 rfl rfl (pc1 := 101) (lv1 := [(7, .int c), (6, .int 11), (0, .ref 448), (1, .int a), (2, .int b), (3, .int c), (4, .int e), (5, .int f)]) (st1 := [.ref 448, .ref 448]) rfl ?_
  refine q_s_get x_40_101 rfl (pc1 := 104) rfl (ci := 12) (k := 2) (ns := 0) (by decide +kernel) (q_ob (m_F0 hG 11 ((11, ((c >>> (0 &&& 31)) &&& 255)) :: L)) rfl) (v := .int 11) rfl ?_
  refine q_sg x_40_104 rfl rfl (pc1 := 105) (lv1 := [(7, .int c), (6, .int 11), (0, .ref 448), (1, .int a), (2, .int b), (3, .int c), (4, .int e), (5, .int f)]) (st1 := [.int 1, .int 11, .ref 448]) rfl ?_
  refine q_sg x_40_105 rfl rfl (pc1 := 106) (lv1 := [(7, .int c), (6, .int 11), (0, .ref 448), (1, .int a), (2, .int b), (3, .int c), (4, .int e), (5, .int f)]) (st1 := [.int 12, .ref 448]) rfl ?_
  refine q_s_put x_40_106 (pc1 := 109) rfl (ci := 12) (k := 2) (ns := 0) (by decide +kernel) (q_ob (m_F0 hG 11 ((11, ((c >>> (0 &&& 31)) &&& 255)) :: L)) rfl) (by decide +kernel) (m_Fs _ 12 _) ?_
  refine q_sg x_40_109 rfl rfl (pc1 := 112) (lv1 := [(6, .int 12), (7, .int c), (0, .ref 448), (1, .int a), (2, .int b), (3, .int c), (4, .int e), (5, .int f)]) (st1 := []) rfl ?_
  refine q_sg x_40_112 rfl rfl (pc1 := 18) (lv1 := [(6, .int 12), (7, .int c), (0, .ref 448), (1, .int a), (2, .int b), (3, .int c), (4, .int e), (5, .int f)]) (st1 := []) rfl ?_
  exact kk
theorem m_turn12 {G : q_H} (hG : 264 ≤ G.length) {a b c e f : Int32} {L : List (Nat × Int32)} {d n : Nat} (kk : ∀ L1, ∃ E1, q_run (q_callf 4000 d) (q_own 40) (q_maxL 40) (q_ini 40) (q_code 40) (q_ret 40) n 18 [(6, .int 13), (7, .int e), (0, .ref 448), (1, .int a), (2, .int b), (3, .int c), (4, .int e), (5, .int f)] [] (m_F G 13 L1) 0 0 = some (some (.int 20), E1, 0, 0)) : ∃ E1, q_run (q_callf 4000 d) (q_own 40) (q_maxL 40) (q_ini 40) (q_code 40) (q_ret 40) (n + 42) 18 [(6, .int 12), (7, .int c), (0, .ref 448), (1, .int a), (2, .int b), (3, .int c), (4, .int e), (5, .int f)] [] (m_F G 12 L) 0 0 = some (some (.int 20), E1, 0, 0) := by
  obtain ⟨E1, kk⟩ := kk ((12, ((e >>> (24 &&& 31)) &&& 255)) :: L)
  refine ⟨E1, ?_⟩
  refine q_sg x_40_18 rfl rfl (pc1 := 20) (lv1 := [(6, .int 12), (7, .int c), (0, .ref 448), (1, .int a), (2, .int b), (3, .int c), (4, .int e), (5, .int f)]) (st1 := [.int 12]) rfl ?_
  refine q_sg x_40_20 rfl rfl (pc1 := 22) (lv1 := [(6, .int 12), (7, .int c), (0, .ref 448), (1, .int a), (2, .int b), (3, .int c), (4, .int e), (5, .int f)]) (st1 := [.int 20, .int 12]) rfl ?_
  refine q_sg x_40_22 rfl rfl (pc1 := 25) (lv1 := [(6, .int 12), (7, .int c), (0, .ref 448), (1, .int a), (2, .int b), (3, .int c), (4, .int e), (5, .int f)]) (st1 := []) rfl ?_
  refine q_sg x_40_25 rfl rfl (pc1 := 27) (lv1 := [(6, .int 12), (7, .int c), (0, .ref 448), (1, .int a), (2, .int b), (3, .int c), (4, .int e), (5, .int f)]) (st1 := [.int 12]) rfl ?_
  refine q_sg x_40_27 rfl rfl (pc1 := 28) (lv1 := [(6, .int 12), (7, .int c), (0, .ref 448), (1, .int a), (2, .int b), (3, .int c), (4, .int e), (5, .int f)]) (st1 := [.int 4, .int 12]) rfl ?_
  refine q_sg x_40_28 rfl rfl (pc1 := 35) (lv1 := [(6, .int 12), (7, .int c), (0, .ref 448), (1, .int a), (2, .int b), (3, .int c), (4, .int e), (5, .int f)]) (st1 := []) rfl ?_
  refine q_sg x_40_35 rfl rfl (pc1 := 37) (lv1 := [(6, .int 12), (7, .int c), (0, .ref 448), (1, .int a), (2, .int b), (3, .int c), (4, .int e), (5, .int f)]) (st1 := [.int 12]) rfl ?_
  refine q_sg x_40_37 rfl rfl (pc1 := 39) (lv1 := [(6, .int 12), (7, .int c), (0, .ref 448), (1, .int a), (2, .int b), (3, .int c), (4, .int e), (5, .int f)]) (st1 := [.int 8, .int 12]) rfl ?_
  refine q_sg x_40_39 rfl rfl (pc1 := 46) (lv1 := [(6, .int 12), (7, .int c), (0, .ref 448), (1, .int a), (2, .int b), (3, .int c), (4, .int e), (5, .int f)]) (st1 := []) rfl ?_
  refine q_sg x_40_46 rfl rfl (pc1 := 48) (lv1 := [(6, .int 12), (7, .int c), (0, .ref 448), (1, .int a), (2, .int b), (3, .int c), (4, .int e), (5, .int f)]) (st1 := [.int 12]) rfl ?_
  refine q_sg x_40_48 rfl rfl (pc1 := 50) (lv1 := [(6, .int 12), (7, .int c), (0, .ref 448), (1, .int a), (2, .int b), (3, .int c), (4, .int e), (5, .int f)]) (st1 := [.int 12, .int 12]) rfl ?_
  refine q_sg x_40_50 rfl rfl (pc1 := 57) (lv1 := [(6, .int 12), (7, .int c), (0, .ref 448), (1, .int a), (2, .int b), (3, .int c), (4, .int e), (5, .int f)]) (st1 := []) rfl ?_
  refine q_sg x_40_57 rfl rfl (pc1 := 59) (lv1 := [(6, .int 12), (7, .int c), (0, .ref 448), (1, .int a), (2, .int b), (3, .int c), (4, .int e), (5, .int f)]) (st1 := [.int 12]) rfl ?_
  refine q_sg x_40_59 rfl rfl (pc1 := 61) (lv1 := [(6, .int 12), (7, .int c), (0, .ref 448), (1, .int a), (2, .int b), (3, .int c), (4, .int e), (5, .int f)]) (st1 := [.int 16, .int 12]) rfl ?_
  refine q_sg x_40_61 rfl rfl (pc1 := 64) (lv1 := [(6, .int 12), (7, .int c), (0, .ref 448), (1, .int a), (2, .int b), (3, .int c), (4, .int e), (5, .int f)]) (st1 := []) rfl ?_
  refine q_sg x_40_64 rfl rfl (pc1 := 66) (lv1 := [(6, .int 12), (7, .int c), (0, .ref 448), (1, .int a), (2, .int b), (3, .int c), (4, .int e), (5, .int f)]) (st1 := [.int e]) rfl ?_
  refine q_sg x_40_66 rfl rfl (pc1 := 71) (lv1 := [(6, .int 12), (7, .int c), (0, .ref 448), (1, .int a), (2, .int b), (3, .int c), (4, .int e), (5, .int f)]) (st1 := [.int e]) rfl ?_
  refine q_sg x_40_71 rfl rfl (pc1 := 73) (lv1 := [(7, .int e), (6, .int 12), (0, .ref 448), (1, .int a), (2, .int b), (3, .int c), (4, .int e), (5, .int f)]) (st1 := []) rfl ?_
  refine q_sg x_40_73 rfl rfl (pc1 := 74) (lv1 := [(7, .int e), (6, .int 12), (0, .ref 448), (1, .int a), (2, .int b), (3, .int c), (4, .int e), (5, .int f)]) (st1 := [.ref 448]) rfl ?_
  refine q_s_get x_40_74 rfl (pc1 := 77) rfl (ci := 12) (k := 1) (ns := 0) (by decide +kernel) (q_ob (m_F0 hG 12 L) rfl) (v := .ref 452) rfl ?_
  refine q_sg x_40_77 rfl rfl (pc1 := 78) (lv1 := [(7, .int e), (6, .int 12), (0, .ref 448), (1, .int a), (2, .int b), (3, .int c), (4, .int e), (5, .int f)]) (st1 := [.ref 448, .ref 452]) rfl ?_
  refine q_s_get x_40_78 rfl (pc1 := 81) rfl (ci := 12) (k := 2) (ns := 0) (by decide +kernel) (q_ob (m_F0 hG 12 L) rfl) (v := .int 12) rfl ?_
  refine q_sg x_40_81 rfl rfl (pc1 := 83) (lv1 := [(7, .int e), (6, .int 12), (0, .ref 448), (1, .int a), (2, .int b), (3, .int c), (4, .int e), (5, .int f)]) (st1 := [.int e, .int 12, .ref 452]) rfl ?_
  refine q_sg x_40_83 rfl rfl (pc1 := 85) (lv1 := [(7, .int e), (6, .int 12), (0, .ref 448), (1, .int a), (2, .int b), (3, .int c), (4, .int e), (5, .int f)]) (st1 := [.int 24, .int e, .int 12, .ref 452]) rfl ?_
  refine q_sg x_40_85 rfl rfl (pc1 := 87) (lv1 := [(7, .int e), (6, .int 12), (0, .ref 448), (1, .int a), (2, .int b), (3, .int c), (4, .int e), (5, .int f)]) (st1 := [.int 8, .int 24, .int e, .int 12, .ref 452]) rfl ?_
  refine q_sg x_40_87 rfl rfl (pc1 := 89) (lv1 := [(7, .int e), (6, .int 12), (0, .ref 448), (1, .int a), (2, .int b), (3, .int c), (4, .int e), (5, .int f)]) (st1 := [.int 12, .int 8, .int 24, .int e, .int 12, .ref 452]) rfl ?_
  refine q_sg x_40_89 rfl rfl (pc1 := 90) (lv1 := [(7, .int e), (6, .int 12), (0, .ref 448), (1, .int a), (2, .int b), (3, .int c), (4, .int e), (5, .int f)]) (st1 := [.int 4, .int 12, .int 8, .int 24, .int e, .int 12, .ref 452]) rfl ?_
  refine q_sg x_40_90 rfl rfl (pc1 := 91) (lv1 := [(7, .int e), (6, .int 12), (0, .ref 448), (1, .int a), (2, .int b), (3, .int c), (4, .int e), (5, .int f)]) (st1 := [.int 0, .int 8, .int 24, .int e, .int 12, .ref 452]) rfl ?_
  refine q_sg x_40_91 rfl rfl (pc1 := 92) (lv1 := [(7, .int e), (6, .int 12), (0, .ref 448), (1, .int a), (2, .int b), (3, .int c), (4, .int e), (5, .int f)]) (st1 := [.int 0, .int 24, .int e, .int 12, .ref 452]) rfl ?_
  refine q_sg x_40_92 rfl rfl (pc1 := 93) (lv1 := [(7, .int e), (6, .int 12), (0, .ref 448), (1, .int a), (2, .int b), (3, .int c), (4, .int e), (5, .int f)]) (st1 := [.int 24, .int e, .int 12, .ref 452]) rfl ?_
  refine q_sg x_40_93 rfl rfl (pc1 := 94) (lv1 := [(7, .int e), (6, .int 12), (0, .ref 448), (1, .int a), (2, .int b), (3, .int c), (4, .int e), (5, .int f)]) (st1 := [.int (e >>> (24 &&& 31)), .int 12, .ref 452]) rfl ?_
  refine q_sg x_40_94 rfl rfl (pc1 := 97) (lv1 := [(7, .int e), (6, .int 12), (0, .ref 448), (1, .int a), (2, .int b), (3, .int c), (4, .int e), (5, .int f)]) (st1 := [.int 255, .int (e >>> (24 &&& 31)), .int 12, .ref 452]) rfl ?_
  refine q_sg x_40_97 rfl rfl (pc1 := 98) (lv1 := [(7, .int e), (6, .int 12), (0, .ref 448), (1, .int a), (2, .int b), (3, .int c), (4, .int e), (5, .int f)]) (st1 := [.int ((e >>> (24 &&& 31)) &&& 255), .int 12, .ref 452]) rfl ?_
  refine q_s_ias x_40_98 (pc1 := 99) rfl (q_ar (m_F1 hG 12 L) rfl) (by decide +kernel) (j := 12) rfl (m_Fa _ _ ((12, ((e >>> (24 &&& 31)) &&& 255)) :: L)) ?_
  refine q_sg x_40_99 rfl rfl (pc1 := 100) (lv1 := [(7, .int e), (6, .int 12), (0, .ref 448), (1, .int a), (2, .int b), (3, .int c), (4, .int e), (5, .int f)]) (st1 := [.ref 448]) rfl ?_
  refine q_sg x_40_100 rfl rfl (pc1 := 101) (lv1 := [(7, .int e), (6, .int 12), (0, .ref 448), (1, .int a), (2, .int b), (3, .int c), (4, .int e), (5, .int f)]) (st1 := [.ref 448, .ref 448]) rfl ?_
  refine q_s_get x_40_101 rfl (pc1 := 104) rfl (ci := 12) (k := 2) (ns := 0) (by decide +kernel) (q_ob (m_F0 hG 12 ((12, ((e >>> (24 &&& 31)) &&& 255)) :: L)) rfl) (v := .int 12) rfl ?_
  refine q_sg x_40_104 rfl rfl (pc1 := 105) (lv1 := [(7, .int e), (6, .int 12), (0, .ref 448), (1, .int a), (2, .int b), (3, .int c), (4, .int e), (5, .int f)]) (st1 := [.int 1, .int 12, .ref 448]) rfl ?_
  refine q_sg x_40_105 rfl rfl (pc1 := 106) (lv1 := [(7, .int e), (6, .int 12), (0, .ref 448), (1, .int a), (2, .int b), (3, .int c), (4, .int e), (5, .int f)]) (st1 := [.int 13, .ref 448]) rfl ?_
  refine q_s_put x_40_106 (pc1 := 109) rfl (ci := 12) (k := 2) (ns := 0) (by decide +kernel) (q_ob (m_F0 hG 12 ((12, ((e >>> (24 &&& 31)) &&& 255)) :: L)) rfl) (by decide +kernel) (m_Fs _ 13 _) ?_
  refine q_sg x_40_109 rfl rfl (pc1 := 112) (lv1 := [(6, .int 13), (7, .int e), (0, .ref 448), (1, .int a), (2, .int b), (3, .int c), (4, .int e), (5, .int f)]) (st1 := []) rfl ?_
  refine q_sg x_40_112 rfl rfl (pc1 := 18) (lv1 := [(6, .int 13), (7, .int e), (0, .ref 448), (1, .int a), (2, .int b), (3, .int c), (4, .int e), (5, .int f)]) (st1 := []) rfl ?_
  exact kk
theorem m_turn13 {G : q_H} (hG : 264 ≤ G.length) {a b c e f : Int32} {L : List (Nat × Int32)} {d n : Nat} (kk : ∀ L1, ∃ E1, q_run (q_callf 4000 d) (q_own 40) (q_maxL 40) (q_ini 40) (q_code 40) (q_ret 40) n 18 [(6, .int 14), (7, .int e), (0, .ref 448), (1, .int a), (2, .int b), (3, .int c), (4, .int e), (5, .int f)] [] (m_F G 14 L1) 0 0 = some (some (.int 20), E1, 0, 0)) : ∃ E1, q_run (q_callf 4000 d) (q_own 40) (q_maxL 40) (q_ini 40) (q_code 40) (q_ret 40) (n + 42) 18 [(6, .int 13), (7, .int e), (0, .ref 448), (1, .int a), (2, .int b), (3, .int c), (4, .int e), (5, .int f)] [] (m_F G 13 L) 0 0 = some (some (.int 20), E1, 0, 0) := by
  obtain ⟨E1, kk⟩ := kk ((13, ((e >>> (16 &&& 31)) &&& 255)) :: L)
  refine ⟨E1, ?_⟩
  refine q_sg x_40_18 rfl rfl (pc1 := 20) (lv1 := [(6, .int 13), (7, .int e), (0, .ref 448), (1, .int a), (2, .int b), (3, .int c), (4, .int e), (5, .int f)]) (st1 := [.int 13]) rfl ?_
  refine q_sg x_40_20 rfl rfl (pc1 := 22) (lv1 := [(6, .int 13), (7, .int e), (0, .ref 448), (1, .int a), (2, .int b), (3, .int c), (4, .int e), (5, .int f)]) (st1 := [.int 20, .int 13]) rfl ?_
  refine q_sg x_40_22 rfl rfl (pc1 := 25) (lv1 := [(6, .int 13), (7, .int e), (0, .ref 448), (1, .int a), (2, .int b), (3, .int c), (4, .int e), (5, .int f)]) (st1 := []) rfl ?_
  refine q_sg x_40_25 rfl rfl (pc1 := 27) (lv1 := [(6, .int 13), (7, .int e), (0, .ref 448), (1, .int a), (2, .int b), (3, .int c), (4, .int e), (5, .int f)]) (st1 := [.int 13]) rfl ?_
  refine q_sg x_40_27 rfl rfl (pc1 := 28) (lv1 := [(6, .int 13), (7, .int e), (0, .ref 448), (1, .int a), (2, .int b), (3, .int c), (4, .int e), (5, .int f)]) (st1 := [.int 4, .int 13]) rfl ?_
  refine q_sg x_40_28 rfl rfl (pc1 := 35) (lv1 := [(6, .int 13), (7, .int e), (0, .ref 448), (1, .int a), (2, .int b), (3, .int c), (4, .int e), (5, .int f)]) (st1 := []) rfl ?_
  refine q_sg x_40_35 rfl rfl (pc1 := 37) (lv1 := [(6, .int 13), (7, .int e), (0, .ref 448), (1, .int a), (2, .int b), (3, .int c), (4, .int e), (5, .int f)]) (st1 := [.int 13]) rfl ?_
  refine q_sg x_40_37 rfl rfl (pc1 := 39) (lv1 := [(6, .int 13), (7, .int e), (0, .ref 448), (1, .int a), (2, .int b), (3, .int c), (4, .int e), (5, .int f)]) (st1 := [.int 8, .int 13]) rfl ?_
  refine q_sg x_40_39 rfl rfl (pc1 := 46) (lv1 := [(6, .int 13), (7, .int e), (0, .ref 448), (1, .int a), (2, .int b), (3, .int c), (4, .int e), (5, .int f)]) (st1 := []) rfl ?_
  refine q_sg x_40_46 rfl rfl (pc1 := 48) (lv1 := [(6, .int 13), (7, .int e), (0, .ref 448), (1, .int a), (2, .int b), (3, .int c), (4, .int e), (5, .int f)]) (st1 := [.int 13]) rfl ?_
  refine q_sg x_40_48 rfl rfl (pc1 := 50) (lv1 := [(6, .int 13), (7, .int e), (0, .ref 448), (1, .int a), (2, .int b), (3, .int c), (4, .int e), (5, .int f)]) (st1 := [.int 12, .int 13]) rfl ?_
  refine q_sg x_40_50 rfl rfl (pc1 := 57) (lv1 := [(6, .int 13), (7, .int e), (0, .ref 448), (1, .int a), (2, .int b), (3, .int c), (4, .int e), (5, .int f)]) (st1 := []) rfl ?_
  refine q_sg x_40_57 rfl rfl (pc1 := 59) (lv1 := [(6, .int 13), (7, .int e), (0, .ref 448), (1, .int a), (2, .int b), (3, .int c), (4, .int e), (5, .int f)]) (st1 := [.int 13]) rfl ?_
  refine q_sg x_40_59 rfl rfl (pc1 := 61) (lv1 := [(6, .int 13), (7, .int e), (0, .ref 448), (1, .int a), (2, .int b), (3, .int c), (4, .int e), (5, .int f)]) (st1 := [.int 16, .int 13]) rfl ?_
  refine q_sg x_40_61 rfl rfl (pc1 := 64) (lv1 := [(6, .int 13), (7, .int e), (0, .ref 448), (1, .int a), (2, .int b), (3, .int c), (4, .int e), (5, .int f)]) (st1 := []) rfl ?_
  refine q_sg x_40_64 rfl rfl (pc1 := 66) (lv1 := [(6, .int 13), (7, .int e), (0, .ref 448), (1, .int a), (2, .int b), (3, .int c), (4, .int e), (5, .int f)]) (st1 := [.int e]) rfl ?_
  refine q_sg x_40_66 rfl rfl (pc1 := 71) (lv1 := [(6, .int 13), (7, .int e), (0, .ref 448), (1, .int a), (2, .int b), (3, .int c), (4, .int e), (5, .int f)]) (st1 := [.int e]) rfl ?_
  refine q_sg x_40_71 rfl rfl (pc1 := 73) (lv1 := [(7, .int e), (6, .int 13), (0, .ref 448), (1, .int a), (2, .int b), (3, .int c), (4, .int e), (5, .int f)]) (st1 := []) rfl ?_
  refine q_sg x_40_73 rfl rfl (pc1 := 74) (lv1 := [(7, .int e), (6, .int 13), (0, .ref 448), (1, .int a), (2, .int b), (3, .int c), (4, .int e), (5, .int f)]) (st1 := [.ref 448]) rfl ?_
  refine q_s_get x_40_74 rfl (pc1 := 77) rfl (ci := 12) (k := 1) (ns := 0) (by decide +kernel) (q_ob (m_F0 hG 13 L) rfl) (v := .ref 452) rfl ?_
  refine q_sg x_40_77 rfl rfl (pc1 := 78) (lv1 := [(7, .int e), (6, .int 13), (0, .ref 448), (1, .int a), (2, .int b), (3, .int c), (4, .int e), (5, .int f)]) (st1 := [.ref 448, .ref 452]) rfl ?_
  refine q_s_get x_40_78 rfl (pc1 := 81) rfl (ci := 12) (k := 2) (ns := 0) (by decide +kernel) (q_ob (m_F0 hG 13 L) rfl) (v := .int 13) rfl ?_
  refine q_sg x_40_81 rfl rfl (pc1 := 83) (lv1 := [(7, .int e), (6, .int 13), (0, .ref 448), (1, .int a), (2, .int b), (3, .int c), (4, .int e), (5, .int f)]) (st1 := [.int e, .int 13, .ref 452]) rfl ?_
  refine q_sg x_40_83 rfl rfl (pc1 := 85) (lv1 := [(7, .int e), (6, .int 13), (0, .ref 448), (1, .int a), (2, .int b), (3, .int c), (4, .int e), (5, .int f)]) (st1 := [.int 24, .int e, .int 13, .ref 452]) rfl ?_
  refine q_sg x_40_85 rfl rfl (pc1 := 87) (lv1 := [(7, .int e), (6, .int 13), (0, .ref 448), (1, .int a), (2, .int b), (3, .int c), (4, .int e), (5, .int f)]) (st1 := [.int 8, .int 24, .int e, .int 13, .ref 452]) rfl ?_
  refine q_sg x_40_87 rfl rfl (pc1 := 89) (lv1 := [(7, .int e), (6, .int 13), (0, .ref 448), (1, .int a), (2, .int b), (3, .int c), (4, .int e), (5, .int f)]) (st1 := [.int 13, .int 8, .int 24, .int e, .int 13, .ref 452]) rfl ?_
  refine q_sg x_40_89 rfl rfl (pc1 := 90) (lv1 := [(7, .int e), (6, .int 13), (0, .ref 448), (1, .int a), (2, .int b), (3, .int c), (4, .int e), (5, .int f)]) (st1 := [.int 4, .int 13, .int 8, .int 24, .int e, .int 13, .ref 452]) rfl ?_
  refine q_sg x_40_90 rfl rfl (pc1 := 91) (lv1 := [(7, .int e), (6, .int 13), (0, .ref 448), (1, .int a), (2, .int b), (3, .int c), (4, .int e), (5, .int f)]) (st1 := [.int 1, .int 8, .int 24, .int e, .int 13, .ref 452]) rfl ?_
  refine q_sg x_40_91 rfl rfl (pc1 := 92) (lv1 := [(7, .int e), (6, .int 13), (0, .ref 448), (1, .int a), (2, .int b), (3, .int c), (4, .int e), (5, .int f)]) (st1 := [.int 8, .int 24, .int e, .int 13, .ref 452]) rfl ?_
  refine q_sg x_40_92 rfl rfl (pc1 := 93) (lv1 := [(7, .int e), (6, .int 13), (0, .ref 448), (1, .int a), (2, .int b), (3, .int c), (4, .int e), (5, .int f)]) (st1 := [.int 16, .int e, .int 13, .ref 452]) rfl ?_
  refine q_sg x_40_93 rfl rfl (pc1 := 94) (lv1 := [(7, .int e), (6, .int 13), (0, .ref 448), (1, .int a), (2, .int b), (3, .int c), (4, .int e), (5, .int f)]) (st1 := [.int (e >>> (16 &&& 31)), .int 13, .ref 452]) rfl ?_
  refine q_sg x_40_94 rfl rfl (pc1 := 97) (lv1 := [(7, .int e), (6, .int 13), (0, .ref 448), (1, .int a), (2, .int b), (3, .int c), (4, .int e), (5, .int f)]) (st1 := [.int 255, .int (e >>> (16 &&& 31)), .int 13, .ref 452]) rfl ?_
  refine q_sg x_40_97 rfl rfl (pc1 := 98) (lv1 := [(7, .int e), (6, .int 13), (0, .ref 448), (1, .int a), (2, .int b), (3, .int c), (4, .int e), (5, .int f)]) (st1 := [.int ((e >>> (16 &&& 31)) &&& 255), .int 13, .ref 452]) rfl ?_
  refine q_s_ias x_40_98 (pc1 := 99) rfl (q_ar (m_F1 hG 13 L) rfl) (by decide +kernel) (j := 13) rfl (m_Fa _ _ ((13, ((e >>> (16 &&& 31)) &&& 255)) :: L)) ?_
  refine q_sg x_40_99 rfl rfl (pc1 := 100) (lv1 := [(7, .int e), (6, .int 13), (0, .ref 448), (1, .int a), (2, .int b), (3, .int c), (4, .int e), (5, .int f)]) (st1 := [.ref 448]) rfl ?_
  refine q_sg x_40_100 rfl rfl (pc1 := 101) (lv1 := [(7, .int e), (6, .int 13), (0, .ref 448), (1, .int a), (2, .int b), (3, .int c), (4, .int e), (5, .int f)]) (st1 := [.ref 448, .ref 448]) rfl ?_
  refine q_s_get x_40_101 rfl (pc1 := 104) rfl (ci := 12) (k := 2) (ns := 0) (by decide +kernel) (q_ob (m_F0 hG 13 ((13, ((e >>> (16 &&& 31)) &&& 255)) :: L)) rfl) (v := .int 13) rfl ?_
  refine q_sg x_40_104 rfl rfl (pc1 := 105) (lv1 := [(7, .int e), (6, .int 13), (0, .ref 448), (1, .int a), (2, .int b), (3, .int c), (4, .int e), (5, .int f)]) (st1 := [.int 1, .int 13, .ref 448]) rfl ?_
  refine q_sg x_40_105 rfl rfl (pc1 := 106) (lv1 := [(7, .int e), (6, .int 13), (0, .ref 448), (1, .int a), (2, .int b), (3, .int c), (4, .int e), (5, .int f)]) (st1 := [.int 14, .ref 448]) rfl ?_
  refine q_s_put x_40_106 (pc1 := 109) rfl (ci := 12) (k := 2) (ns := 0) (by decide +kernel) (q_ob (m_F0 hG 13 ((13, ((e >>> (16 &&& 31)) &&& 255)) :: L)) rfl) (by decide +kernel) (m_Fs _ 14 _) ?_
  refine q_sg x_40_109 rfl rfl (pc1 := 112) (lv1 := [(6, .int 14), (7, .int e), (0, .ref 448), (1, .int a), (2, .int b), (3, .int c), (4, .int e), (5, .int f)]) (st1 := []) rfl ?_
  refine q_sg x_40_112 rfl rfl (pc1 := 18) (lv1 := [(6, .int 14), (7, .int e), (0, .ref 448), (1, .int a), (2, .int b), (3, .int c), (4, .int e), (5, .int f)]) (st1 := []) rfl ?_
  exact kk
theorem m_turn14 {G : q_H} (hG : 264 ≤ G.length) {a b c e f : Int32} {L : List (Nat × Int32)} {d n : Nat} (kk : ∀ L1, ∃ E1, q_run (q_callf 4000 d) (q_own 40) (q_maxL 40) (q_ini 40) (q_code 40) (q_ret 40) n 18 [(6, .int 15), (7, .int e), (0, .ref 448), (1, .int a), (2, .int b), (3, .int c), (4, .int e), (5, .int f)] [] (m_F G 15 L1) 0 0 = some (some (.int 20), E1, 0, 0)) : ∃ E1, q_run (q_callf 4000 d) (q_own 40) (q_maxL 40) (q_ini 40) (q_code 40) (q_ret 40) (n + 42) 18 [(6, .int 14), (7, .int e), (0, .ref 448), (1, .int a), (2, .int b), (3, .int c), (4, .int e), (5, .int f)] [] (m_F G 14 L) 0 0 = some (some (.int 20), E1, 0, 0) := by
  obtain ⟨E1, kk⟩ := kk ((14, ((e >>> (8 &&& 31)) &&& 255)) :: L)
  refine ⟨E1, ?_⟩
  refine q_sg x_40_18 rfl rfl (pc1 := 20) (lv1 := [(6, .int 14), (7, .int e), (0, .ref 448), (1, .int a), (2, .int b), (3, .int c), (4, .int e), (5, .int f)]) (st1 := [.int 14]) rfl ?_
  refine q_sg x_40_20 rfl rfl (pc1 := 22) (lv1 := [(6, .int 14), (7, .int e), (0, .ref 448), (1, .int a), (2, .int b), (3, .int c), (4, .int e), (5, .int f)]) (st1 := [.int 20, .int 14]) rfl ?_
  refine q_sg x_40_22 rfl rfl (pc1 := 25) (lv1 := [(6, .int 14), (7, .int e), (0, .ref 448), (1, .int a), (2, .int b), (3, .int c), (4, .int e), (5, .int f)]) (st1 := []) rfl ?_
  refine q_sg x_40_25 rfl rfl (pc1 := 27) (lv1 := [(6, .int 14), (7, .int e), (0, .ref 448), (1, .int a), (2, .int b), (3, .int c), (4, .int e), (5, .int f)]) (st1 := [.int 14]) rfl ?_
  refine q_sg x_40_27 rfl rfl (pc1 := 28) (lv1 := [(6, .int 14), (7, .int e), (0, .ref 448), (1, .int a), (2, .int b), (3, .int c), (4, .int e), (5, .int f)]) (st1 := [.int 4, .int 14]) rfl ?_
  refine q_sg x_40_28 rfl rfl (pc1 := 35) (lv1 := [(6, .int 14), (7, .int e), (0, .ref 448), (1, .int a), (2, .int b), (3, .int c), (4, .int e), (5, .int f)]) (st1 := []) rfl ?_
  refine q_sg x_40_35 rfl rfl (pc1 := 37) (lv1 := [(6, .int 14), (7, .int e), (0, .ref 448), (1, .int a), (2, .int b), (3, .int c), (4, .int e), (5, .int f)]) (st1 := [.int 14]) rfl ?_
  refine q_sg x_40_37 rfl rfl (pc1 := 39) (lv1 := [(6, .int 14), (7, .int e), (0, .ref 448), (1, .int a), (2, .int b), (3, .int c), (4, .int e), (5, .int f)]) (st1 := [.int 8, .int 14]) rfl ?_
  refine q_sg x_40_39 rfl rfl (pc1 := 46) (lv1 := [(6, .int 14), (7, .int e), (0, .ref 448), (1, .int a), (2, .int b), (3, .int c), (4, .int e), (5, .int f)]) (st1 := []) rfl ?_
  refine q_sg x_40_46 rfl rfl (pc1 := 48) (lv1 := [(6, .int 14), (7, .int e), (0, .ref 448), (1, .int a), (2, .int b), (3, .int c), (4, .int e), (5, .int f)]) (st1 := [.int 14]) rfl ?_
  refine q_sg x_40_48 rfl rfl (pc1 := 50) (lv1 := [(6, .int 14), (7, .int e), (0, .ref 448), (1, .int a), (2, .int b), (3, .int c), (4, .int e), (5, .int f)]) (st1 := [.int 12, .int 14]) rfl ?_
  refine q_sg x_40_50 rfl rfl (pc1 := 57) (lv1 := [(6, .int 14), (7, .int e), (0, .ref 448), (1, .int a), (2, .int b), (3, .int c), (4, .int e), (5, .int f)]) (st1 := []) rfl ?_
  refine q_sg x_40_57 rfl rfl (pc1 := 59) (lv1 := [(6, .int 14), (7, .int e), (0, .ref 448), (1, .int a), (2, .int b), (3, .int c), (4, .int e), (5, .int f)]) (st1 := [.int 14]) rfl ?_
  refine q_sg x_40_59 rfl rfl (pc1 := 61) (lv1 := [(6, .int 14), (7, .int e), (0, .ref 448), (1, .int a), (2, .int b), (3, .int c), (4, .int e), (5, .int f)]) (st1 := [.int 16, .int 14]) rfl ?_
  refine q_sg x_40_61 rfl rfl (pc1 := 64) (lv1 := [(6, .int 14), (7, .int e), (0, .ref 448), (1, .int a), (2, .int b), (3, .int c), (4, .int e), (5, .int f)]) (st1 := []) rfl ?_
  refine q_sg x_40_64 rfl rfl (pc1 := 66) (lv1 := [(6, .int 14), (7, .int e), (0, .ref 448), (1, .int a), (2, .int b), (3, .int c), (4, .int e), (5, .int f)]) (st1 := [.int e]) rfl ?_
  refine q_sg x_40_66 rfl rfl (pc1 := 71) (lv1 := [(6, .int 14), (7, .int e), (0, .ref 448), (1, .int a), (2, .int b), (3, .int c), (4, .int e), (5, .int f)]) (st1 := [.int e]) rfl ?_
  refine q_sg x_40_71 rfl rfl (pc1 := 73) (lv1 := [(7, .int e), (6, .int 14), (0, .ref 448), (1, .int a), (2, .int b), (3, .int c), (4, .int e), (5, .int f)]) (st1 := []) rfl ?_
  refine q_sg x_40_73 rfl rfl (pc1 := 74) (lv1 := [(7, .int e), (6, .int 14), (0, .ref 448), (1, .int a), (2, .int b), (3, .int c), (4, .int e), (5, .int f)]) (st1 := [.ref 448]) rfl ?_
  refine q_s_get x_40_74 rfl (pc1 := 77) rfl (ci := 12) (k := 1) (ns := 0) (by decide +kernel) (q_ob (m_F0 hG 14 L) rfl) (v := .ref 452) rfl ?_
  refine q_sg x_40_77 rfl rfl (pc1 := 78) (lv1 := [(7, .int e), (6, .int 14), (0, .ref 448), (1, .int a), (2, .int b), (3, .int c), (4, .int e), (5, .int f)]) (st1 := [.ref 448, .ref 452]) rfl ?_
  refine q_s_get x_40_78 rfl (pc1 := 81) rfl (ci := 12) (k := 2) (ns := 0) (by decide +kernel) (q_ob (m_F0 hG 14 L) rfl) (v := .int 14) rfl ?_
  refine q_sg x_40_81 rfl rfl (pc1 := 83) (lv1 := [(7, .int e), (6, .int 14), (0, .ref 448), (1, .int a), (2, .int b), (3, .int c), (4, .int e), (5, .int f)]) (st1 := [.int e, .int 14, .ref 452]) rfl ?_
  refine q_sg x_40_83 rfl rfl (pc1 := 85) (lv1 := [(7, .int e), (6, .int 14), (0, .ref 448), (1, .int a), (2, .int b), (3, .int c), (4, .int e), (5, .int f)]) (st1 := [.int 24, .int e, .int 14, .ref 452]) rfl ?_
  refine q_sg x_40_85 rfl rfl (pc1 := 87) (lv1 := [(7, .int e), (6, .int 14), (0, .ref 448), (1, .int a), (2, .int b), (3, .int c), (4, .int e), (5, .int f)]) (st1 := [.int 8, .int 24, .int e, .int 14, .ref 452]) rfl ?_
  refine q_sg x_40_87 rfl rfl (pc1 := 89) (lv1 := [(7, .int e), (6, .int 14), (0, .ref 448), (1, .int a), (2, .int b), (3, .int c), (4, .int e), (5, .int f)]) (st1 := [.int 14, .int 8, .int 24, .int e, .int 14, .ref 452]) rfl ?_
  refine q_sg x_40_89 rfl rfl (pc1 := 90) (lv1 := [(7, .int e), (6, .int 14), (0, .ref 448), (1, .int a), (2, .int b), (3, .int c), (4, .int e), (5, .int f)]) (st1 := [.int 4, .int 14, .int 8, .int 24, .int e, .int 14, .ref 452]) rfl ?_
  refine q_sg x_40_90 rfl rfl (pc1 := 91) (lv1 := [(7, .int e), (6, .int 14), (0, .ref 448), (1, .int a), (2, .int b), (3, .int c), (4, .int e), (5, .int f)]) (st1 := [.int 2, .int 8, .int 24, .int e, .int 14, .ref 452]) rfl ?_
  refine q_sg x_40_91 rfl rfl (pc1 := 92) (lv1 := [(7, .int e), (6, .int 14), (0, .ref 448), (1, .int a), (2, .int b), (3, .int c), (4, .int e), (5, .int f)]) (st1 := [.int 16, .int 24, .int e, .int 14, .ref 452]) rfl ?_
  refine q_sg x_40_92 rfl rfl (pc1 := 93) (lv1 := [(7, .int e), (6, .int 14), (0, .ref 448), (1, .int a), (2, .int b), (3, .int c), (4, .int e), (5, .int f)]) (st1 := [.int 8, .int e, .int 14, .ref 452]) rfl ?_
  refine q_sg x_40_93 rfl rfl (pc1 := 94) (lv1 := [(7, .int e), (6, .int 14), (0, .ref 448), (1, .int a), (2, .int b), (3, .int c), (4, .int e), (5, .int f)]) (st1 := [.int (e >>> (8 &&& 31)), .int 14, .ref 452]) rfl ?_
  refine q_sg x_40_94 rfl rfl (pc1 := 97) (lv1 := [(7, .int e), (6, .int 14), (0, .ref 448), (1, .int a), (2, .int b), (3, .int c), (4, .int e), (5, .int f)]) (st1 := [.int 255, .int (e >>> (8 &&& 31)), .int 14, .ref 452]) rfl ?_
  refine q_sg x_40_97 rfl rfl (pc1 := 98) (lv1 := [(7, .int e), (6, .int 14), (0, .ref 448), (1, .int a), (2, .int b), (3, .int c), (4, .int e), (5, .int f)]) (st1 := [.int ((e >>> (8 &&& 31)) &&& 255), .int 14, .ref 452]) rfl ?_
  refine q_s_ias x_40_98 (pc1 := 99) rfl (q_ar (m_F1 hG 14 L) rfl) (by decide +kernel) (j := 14) rfl (m_Fa _ _ ((14, ((e >>> (8 &&& 31)) &&& 255)) :: L)) ?_
  refine q_sg x_40_99 rfl rfl (pc1 := 100) (lv1 := [(7, .int e), (6, .int 14), (0, .ref 448), (1, .int a), (2, .int b), (3, .int c), (4, .int e), (5, .int f)]) (st1 := [.ref 448]) rfl ?_
  refine q_sg x_40_100 rfl rfl (pc1 := 101) (lv1 := [(7, .int e), (6, .int 14), (0, .ref 448), (1, .int a), (2, .int b), (3, .int c), (4, .int e), (5, .int f)]) (st1 := [.ref 448, .ref 448]) rfl ?_
  refine q_s_get x_40_101 rfl (pc1 := 104) rfl (ci := 12) (k := 2) (ns := 0) (by decide +kernel) (q_ob (m_F0 hG 14 ((14, ((e >>> (8 &&& 31)) &&& 255)) :: L)) rfl) (v := .int 14) rfl ?_
  refine q_sg x_40_104 rfl rfl (pc1 := 105) (lv1 := [(7, .int e), (6, .int 14), (0, .ref 448), (1, .int a), (2, .int b), (3, .int c), (4, .int e), (5, .int f)]) (st1 := [.int 1, .int 14, .ref 448]) rfl ?_
  refine q_sg x_40_105 rfl rfl (pc1 := 106) (lv1 := [(7, .int e), (6, .int 14), (0, .ref 448), (1, .int a), (2, .int b), (3, .int c), (4, .int e), (5, .int f)]) (st1 := [.int 15, .ref 448]) rfl ?_
  refine q_s_put x_40_106 (pc1 := 109) rfl (ci := 12) (k := 2) (ns := 0) (by decide +kernel) (q_ob (m_F0 hG 14 ((14, ((e >>> (8 &&& 31)) &&& 255)) :: L)) rfl) (by decide +kernel) (m_Fs _ 15 _) ?_
  refine q_sg x_40_109 rfl rfl (pc1 := 112) (lv1 := [(6, .int 15), (7, .int e), (0, .ref 448), (1, .int a), (2, .int b), (3, .int c), (4, .int e), (5, .int f)]) (st1 := []) rfl ?_
  refine q_sg x_40_112 rfl rfl (pc1 := 18) (lv1 := [(6, .int 15), (7, .int e), (0, .ref 448), (1, .int a), (2, .int b), (3, .int c), (4, .int e), (5, .int f)]) (st1 := []) rfl ?_
  exact kk
theorem m_turn15 {G : q_H} (hG : 264 ≤ G.length) {a b c e f : Int32} {L : List (Nat × Int32)} {d n : Nat} (kk : ∀ L1, ∃ E1, q_run (q_callf 4000 d) (q_own 40) (q_maxL 40) (q_ini 40) (q_code 40) (q_ret 40) n 18 [(6, .int 16), (7, .int e), (0, .ref 448), (1, .int a), (2, .int b), (3, .int c), (4, .int e), (5, .int f)] [] (m_F G 16 L1) 0 0 = some (some (.int 20), E1, 0, 0)) : ∃ E1, q_run (q_callf 4000 d) (q_own 40) (q_maxL 40) (q_ini 40) (q_code 40) (q_ret 40) (n + 42) 18 [(6, .int 15), (7, .int e), (0, .ref 448), (1, .int a), (2, .int b), (3, .int c), (4, .int e), (5, .int f)] [] (m_F G 15 L) 0 0 = some (some (.int 20), E1, 0, 0) := by
  obtain ⟨E1, kk⟩ := kk ((15, ((e >>> (0 &&& 31)) &&& 255)) :: L)
  refine ⟨E1, ?_⟩
  refine q_sg x_40_18 rfl rfl (pc1 := 20) (lv1 := [(6, .int 15), (7, .int e), (0, .ref 448), (1, .int a), (2, .int b), (3, .int c), (4, .int e), (5, .int f)]) (st1 := [.int 15]) rfl ?_
  refine q_sg x_40_20 rfl rfl (pc1 := 22) (lv1 := [(6, .int 15), (7, .int e), (0, .ref 448), (1, .int a), (2, .int b), (3, .int c), (4, .int e), (5, .int f)]) (st1 := [.int 20, .int 15]) rfl ?_
  refine q_sg x_40_22 rfl rfl (pc1 := 25) (lv1 := [(6, .int 15), (7, .int e), (0, .ref 448), (1, .int a), (2, .int b), (3, .int c), (4, .int e), (5, .int f)]) (st1 := []) rfl ?_
  refine q_sg x_40_25 rfl rfl (pc1 := 27) (lv1 := [(6, .int 15), (7, .int e), (0, .ref 448), (1, .int a), (2, .int b), (3, .int c), (4, .int e), (5, .int f)]) (st1 := [.int 15]) rfl ?_
  refine q_sg x_40_27 rfl rfl (pc1 := 28) (lv1 := [(6, .int 15), (7, .int e), (0, .ref 448), (1, .int a), (2, .int b), (3, .int c), (4, .int e), (5, .int f)]) (st1 := [.int 4, .int 15]) rfl ?_
  refine q_sg x_40_28 rfl rfl (pc1 := 35) (lv1 := [(6, .int 15), (7, .int e), (0, .ref 448), (1, .int a), (2, .int b), (3, .int c), (4, .int e), (5, .int f)]) (st1 := []) rfl ?_
  refine q_sg x_40_35 rfl rfl (pc1 := 37) (lv1 := [(6, .int 15), (7, .int e), (0, .ref 448), (1, .int a), (2, .int b), (3, .int c), (4, .int e), (5, .int f)]) (st1 := [.int 15]) rfl ?_
  refine q_sg x_40_37 rfl rfl (pc1 := 39) (lv1 := [(6, .int 15), (7, .int e), (0, .ref 448), (1, .int a), (2, .int b), (3, .int c), (4, .int e), (5, .int f)]) (st1 := [.int 8, .int 15]) rfl ?_
  refine q_sg x_40_39 rfl rfl (pc1 := 46) (lv1 := [(6, .int 15), (7, .int e), (0, .ref 448), (1, .int a), (2, .int b), (3, .int c), (4, .int e), (5, .int f)]) (st1 := []) rfl ?_
  refine q_sg x_40_46 rfl rfl (pc1 := 48) (lv1 := [(6, .int 15), (7, .int e), (0, .ref 448), (1, .int a), (2, .int b), (3, .int c), (4, .int e), (5, .int f)]) (st1 := [.int 15]) rfl ?_
  refine q_sg x_40_48 rfl rfl (pc1 := 50) (lv1 := [(6, .int 15), (7, .int e), (0, .ref 448), (1, .int a), (2, .int b), (3, .int c), (4, .int e), (5, .int f)]) (st1 := [.int 12, .int 15]) rfl ?_
  refine q_sg x_40_50 rfl rfl (pc1 := 57) (lv1 := [(6, .int 15), (7, .int e), (0, .ref 448), (1, .int a), (2, .int b), (3, .int c), (4, .int e), (5, .int f)]) (st1 := []) rfl ?_
  refine q_sg x_40_57 rfl rfl (pc1 := 59) (lv1 := [(6, .int 15), (7, .int e), (0, .ref 448), (1, .int a), (2, .int b), (3, .int c), (4, .int e), (5, .int f)]) (st1 := [.int 15]) rfl ?_
  refine q_sg x_40_59 rfl rfl (pc1 := 61) (lv1 := [(6, .int 15), (7, .int e), (0, .ref 448), (1, .int a), (2, .int b), (3, .int c), (4, .int e), (5, .int f)]) (st1 := [.int 16, .int 15]) rfl ?_
  refine q_sg x_40_61 rfl rfl (pc1 := 64) (lv1 := [(6, .int 15), (7, .int e), (0, .ref 448), (1, .int a), (2, .int b), (3, .int c), (4, .int e), (5, .int f)]) (st1 := []) rfl ?_
  refine q_sg x_40_64 rfl rfl (pc1 := 66) (lv1 := [(6, .int 15), (7, .int e), (0, .ref 448), (1, .int a), (2, .int b), (3, .int c), (4, .int e), (5, .int f)]) (st1 := [.int e]) rfl ?_
  refine q_sg x_40_66 rfl rfl (pc1 := 71) (lv1 := [(6, .int 15), (7, .int e), (0, .ref 448), (1, .int a), (2, .int b), (3, .int c), (4, .int e), (5, .int f)]) (st1 := [.int e]) rfl ?_
  refine q_sg x_40_71 rfl rfl (pc1 := 73) (lv1 := [(7, .int e), (6, .int 15), (0, .ref 448), (1, .int a), (2, .int b), (3, .int c), (4, .int e), (5, .int f)]) (st1 := []) rfl ?_
  refine q_sg x_40_73 rfl rfl (pc1 := 74) (lv1 := [(7, .int e), (6, .int 15), (0, .ref 448), (1, .int a), (2, .int b), (3, .int c), (4, .int e), (5, .int f)]) (st1 := [.ref 448]) rfl ?_
  refine q_s_get x_40_74 rfl (pc1 := 77) rfl (ci := 12) (k := 1) (ns := 0) (by decide +kernel) (q_ob (m_F0 hG 15 L) rfl) (v := .ref 452) rfl ?_
  refine q_sg x_40_77 rfl rfl (pc1 := 78) (lv1 := [(7, .int e), (6, .int 15), (0, .ref 448), (1, .int a), (2, .int b), (3, .int c), (4, .int e), (5, .int f)]) (st1 := [.ref 448, .ref 452]) rfl ?_
  refine q_s_get x_40_78 rfl (pc1 := 81) rfl (ci := 12) (k := 2) (ns := 0) (by decide +kernel) (q_ob (m_F0 hG 15 L) rfl) (v := .int 15) rfl ?_
  refine q_sg x_40_81 rfl rfl (pc1 := 83) (lv1 := [(7, .int e), (6, .int 15), (0, .ref 448), (1, .int a), (2, .int b), (3, .int c), (4, .int e), (5, .int f)]) (st1 := [.int e, .int 15, .ref 452]) rfl ?_
  refine q_sg x_40_83 rfl rfl (pc1 := 85) (lv1 := [(7, .int e), (6, .int 15), (0, .ref 448), (1, .int a), (2, .int b), (3, .int c), (4, .int e), (5, .int f)]) (st1 := [.int 24, .int e, .int 15, .ref 452]) rfl ?_
  refine q_sg x_40_85 rfl rfl (pc1 := 87) (lv1 := [(7, .int e), (6, .int 15), (0, .ref 448), (1, .int a), (2, .int b), (3, .int c), (4, .int e), (5, .int f)]) (st1 := [.int 8, .int 24, .int e, .int 15, .ref 452]) rfl ?_
  refine q_sg x_40_87 rfl rfl (pc1 := 89) (lv1 := [(7, .int e), (6, .int 15), (0, .ref 448), (1, .int a), (2, .int b), (3, .int c), (4, .int e), (5, .int f)]) (st1 := [.int 15, .int 8, .int 24, .int e, .int 15, .ref 452]) rfl ?_
  refine q_sg x_40_89 rfl rfl (pc1 := 90) (lv1 := [(7, .int e), (6, .int 15), (0, .ref 448), (1, .int a), (2, .int b), (3, .int c), (4, .int e), (5, .int f)]) (st1 := [.int 4, .int 15, .int 8, .int 24, .int e, .int 15, .ref 452]) rfl ?_
  refine q_sg x_40_90 rfl rfl (pc1 := 91) (lv1 := [(7, .int e), (6, .int 15), (0, .ref 448), (1, .int a), (2, .int b), (3, .int c), (4, .int e), (5, .int f)]) (st1 := [.int 3, .int 8, .int 24, .int e, .int 15, .ref 452]) rfl ?_
  refine q_sg x_40_91 rfl rfl (pc1 := 92) (lv1 := [(7, .int e), (6, .int 15), (0, .ref 448), (1, .int a), (2, .int b), (3, .int c), (4, .int e), (5, .int f)]) (st1 := [.int 24, .int 24, .int e, .int 15, .ref 452]) rfl ?_
  refine q_sg x_40_92 rfl rfl (pc1 := 93) (lv1 := [(7, .int e), (6, .int 15), (0, .ref 448), (1, .int a), (2, .int b), (3, .int c), (4, .int e), (5, .int f)]) (st1 := [.int 0, .int e, .int 15, .ref 452]) rfl ?_
  refine q_sg x_40_93 rfl rfl (pc1 := 94) (lv1 := [(7, .int e), (6, .int 15), (0, .ref 448), (1, .int a), (2, .int b), (3, .int c), (4, .int e), (5, .int f)]) (st1 := [.int (e >>> (0 &&& 31)), .int 15, .ref 452]) rfl ?_
  refine q_sg x_40_94 rfl rfl (pc1 := 97) (lv1 := [(7, .int e), (6, .int 15), (0, .ref 448), (1, .int a), (2, .int b), (3, .int c), (4, .int e), (5, .int f)]) (st1 := [.int 255, .int (e >>> (0 &&& 31)), .int 15, .ref 452]) rfl ?_
  refine q_sg x_40_97 rfl rfl (pc1 := 98) (lv1 := [(7, .int e), (6, .int 15), (0, .ref 448), (1, .int a), (2, .int b), (3, .int c), (4, .int e), (5, .int f)]) (st1 := [.int ((e >>> (0 &&& 31)) &&& 255), .int 15, .ref 452]) rfl ?_
  refine q_s_ias x_40_98 (pc1 := 99) rfl (q_ar (m_F1 hG 15 L) rfl) (by decide +kernel) (j := 15) rfl (m_Fa _ _ ((15, ((e >>> (0 &&& 31)) &&& 255)) :: L)) ?_
  refine q_sg x_40_99 rfl rfl (pc1 := 100) (lv1 := [(7, .int e), (6, .int 15), (0, .ref 448), (1, .int a), (2, .int b), (3, .int c), (4, .int e), (5, .int f)]) (st1 := [.ref 448]) rfl ?_
  refine q_sg x_40_100 rfl rfl (pc1 := 101) (lv1 := [(7, .int e), (6, .int 15), (0, .ref 448), (1, .int a), (2, .int b), (3, .int c), (4, .int e), (5, .int f)]) (st1 := [.ref 448, .ref 448]) rfl ?_
  refine q_s_get x_40_101 rfl (pc1 := 104) rfl (ci := 12) (k := 2) (ns := 0) (by decide +kernel) (q_ob (m_F0 hG 15 ((15, ((e >>> (0 &&& 31)) &&& 255)) :: L)) rfl) (v := .int 15) rfl ?_
  refine q_sg x_40_104 rfl rfl (pc1 := 105) (lv1 := [(7, .int e), (6, .int 15), (0, .ref 448), (1, .int a), (2, .int b), (3, .int c), (4, .int e), (5, .int f)]) (st1 := [.int 1, .int 15, .ref 448]) rfl ?_
  refine q_sg x_40_105 rfl rfl (pc1 := 106) (lv1 := [(7, .int e), (6, .int 15), (0, .ref 448), (1, .int a), (2, .int b), (3, .int c), (4, .int e), (5, .int f)]) (st1 := [.int 16, .ref 448]) rfl ?_
  refine q_s_put x_40_106 (pc1 := 109) rfl (ci := 12) (k := 2) (ns := 0) (by decide +kernel) (q_ob (m_F0 hG 15 ((15, ((e >>> (0 &&& 31)) &&& 255)) :: L)) rfl) (by decide +kernel) (m_Fs _ 16 _) ?_
  refine q_sg x_40_109 rfl rfl (pc1 := 112) (lv1 := [(6, .int 16), (7, .int e), (0, .ref 448), (1, .int a), (2, .int b), (3, .int c), (4, .int e), (5, .int f)]) (st1 := []) rfl ?_
  refine q_sg x_40_112 rfl rfl (pc1 := 18) (lv1 := [(6, .int 16), (7, .int e), (0, .ref 448), (1, .int a), (2, .int b), (3, .int c), (4, .int e), (5, .int f)]) (st1 := []) rfl ?_
  exact kk
theorem m_turn16 {G : q_H} (hG : 264 ≤ G.length) {a b c e f : Int32} {L : List (Nat × Int32)} {d n : Nat} (kk : ∀ L1, ∃ E1, q_run (q_callf 4000 d) (q_own 40) (q_maxL 40) (q_ini 40) (q_code 40) (q_ret 40) n 18 [(6, .int 17), (7, .int f), (0, .ref 448), (1, .int a), (2, .int b), (3, .int c), (4, .int e), (5, .int f)] [] (m_F G 17 L1) 0 0 = some (some (.int 20), E1, 0, 0)) : ∃ E1, q_run (q_callf 4000 d) (q_own 40) (q_maxL 40) (q_ini 40) (q_code 40) (q_ret 40) (n + 41) 18 [(6, .int 16), (7, .int e), (0, .ref 448), (1, .int a), (2, .int b), (3, .int c), (4, .int e), (5, .int f)] [] (m_F G 16 L) 0 0 = some (some (.int 20), E1, 0, 0) := by
  obtain ⟨E1, kk⟩ := kk ((16, ((f >>> (24 &&& 31)) &&& 255)) :: L)
  refine ⟨E1, ?_⟩
  refine q_sg x_40_18 rfl rfl (pc1 := 20) (lv1 := [(6, .int 16), (7, .int e), (0, .ref 448), (1, .int a), (2, .int b), (3, .int c), (4, .int e), (5, .int f)]) (st1 := [.int 16]) rfl ?_
  refine q_sg x_40_20 rfl rfl (pc1 := 22) (lv1 := [(6, .int 16), (7, .int e), (0, .ref 448), (1, .int a), (2, .int b), (3, .int c), (4, .int e), (5, .int f)]) (st1 := [.int 20, .int 16]) rfl ?_
  refine q_sg x_40_22 rfl rfl (pc1 := 25) (lv1 := [(6, .int 16), (7, .int e), (0, .ref 448), (1, .int a), (2, .int b), (3, .int c), (4, .int e), (5, .int f)]) (st1 := []) rfl ?_
  refine q_sg x_40_25 rfl rfl (pc1 := 27) (lv1 := [(6, .int 16), (7, .int e), (0, .ref 448), (1, .int a), (2, .int b), (3, .int c), (4, .int e), (5, .int f)]) (st1 := [.int 16]) rfl ?_
  refine q_sg x_40_27 rfl rfl (pc1 := 28) (lv1 := [(6, .int 16), (7, .int e), (0, .ref 448), (1, .int a), (2, .int b), (3, .int c), (4, .int e), (5, .int f)]) (st1 := [.int 4, .int 16]) rfl ?_
  refine q_sg x_40_28 rfl rfl (pc1 := 35) (lv1 := [(6, .int 16), (7, .int e), (0, .ref 448), (1, .int a), (2, .int b), (3, .int c), (4, .int e), (5, .int f)]) (st1 := []) rfl ?_
  refine q_sg x_40_35 rfl rfl (pc1 := 37) (lv1 := [(6, .int 16), (7, .int e), (0, .ref 448), (1, .int a), (2, .int b), (3, .int c), (4, .int e), (5, .int f)]) (st1 := [.int 16]) rfl ?_
  refine q_sg x_40_37 rfl rfl (pc1 := 39) (lv1 := [(6, .int 16), (7, .int e), (0, .ref 448), (1, .int a), (2, .int b), (3, .int c), (4, .int e), (5, .int f)]) (st1 := [.int 8, .int 16]) rfl ?_
  refine q_sg x_40_39 rfl rfl (pc1 := 46) (lv1 := [(6, .int 16), (7, .int e), (0, .ref 448), (1, .int a), (2, .int b), (3, .int c), (4, .int e), (5, .int f)]) (st1 := []) rfl ?_
  refine q_sg x_40_46 rfl rfl (pc1 := 48) (lv1 := [(6, .int 16), (7, .int e), (0, .ref 448), (1, .int a), (2, .int b), (3, .int c), (4, .int e), (5, .int f)]) (st1 := [.int 16]) rfl ?_
  refine q_sg x_40_48 rfl rfl (pc1 := 50) (lv1 := [(6, .int 16), (7, .int e), (0, .ref 448), (1, .int a), (2, .int b), (3, .int c), (4, .int e), (5, .int f)]) (st1 := [.int 12, .int 16]) rfl ?_
  refine q_sg x_40_50 rfl rfl (pc1 := 57) (lv1 := [(6, .int 16), (7, .int e), (0, .ref 448), (1, .int a), (2, .int b), (3, .int c), (4, .int e), (5, .int f)]) (st1 := []) rfl ?_
  refine q_sg x_40_57 rfl rfl (pc1 := 59) (lv1 := [(6, .int 16), (7, .int e), (0, .ref 448), (1, .int a), (2, .int b), (3, .int c), (4, .int e), (5, .int f)]) (st1 := [.int 16]) rfl ?_
  refine q_sg x_40_59 rfl rfl (pc1 := 61) (lv1 := [(6, .int 16), (7, .int e), (0, .ref 448), (1, .int a), (2, .int b), (3, .int c), (4, .int e), (5, .int f)]) (st1 := [.int 16, .int 16]) rfl ?_
  refine q_sg x_40_61 rfl rfl (pc1 := 69) (lv1 := [(6, .int 16), (7, .int e), (0, .ref 448), (1, .int a), (2, .int b), (3, .int c), (4, .int e), (5, .int f)]) (st1 := []) rfl ?_
  refine q_sg x_40_69 rfl rfl (pc1 := 71) (lv1 := [(6, .int 16), (7, .int e), (0, .ref 448), (1, .int a), (2, .int b), (3, .int c), (4, .int e), (5, .int f)]) (st1 := [.int f]) rfl ?_
  refine q_sg x_40_71 rfl rfl (pc1 := 73) (lv1 := [(7, .int f), (6, .int 16), (0, .ref 448), (1, .int a), (2, .int b), (3, .int c), (4, .int e), (5, .int f)]) (st1 := []) rfl ?_
  refine q_sg x_40_73 rfl rfl (pc1 := 74) (lv1 := [(7, .int f), (6, .int 16), (0, .ref 448), (1, .int a), (2, .int b), (3, .int c), (4, .int e), (5, .int f)]) (st1 := [.ref 448]) rfl ?_
  refine q_s_get x_40_74 rfl (pc1 := 77) rfl (ci := 12) (k := 1) (ns := 0) (by decide +kernel) (q_ob (m_F0 hG 16 L) rfl) (v := .ref 452) rfl ?_
  refine q_sg x_40_77 rfl rfl (pc1 := 78) (lv1 := [(7, .int f), (6, .int 16), (0, .ref 448), (1, .int a), (2, .int b), (3, .int c), (4, .int e), (5, .int f)]) (st1 := [.ref 448, .ref 452]) rfl ?_
  refine q_s_get x_40_78 rfl (pc1 := 81) rfl (ci := 12) (k := 2) (ns := 0) (by decide +kernel) (q_ob (m_F0 hG 16 L) rfl) (v := .int 16) rfl ?_
  refine q_sg x_40_81 rfl rfl (pc1 := 83) (lv1 := [(7, .int f), (6, .int 16), (0, .ref 448), (1, .int a), (2, .int b), (3, .int c), (4, .int e), (5, .int f)]) (st1 := [.int f, .int 16, .ref 452]) rfl ?_
  refine q_sg x_40_83 rfl rfl (pc1 := 85) (lv1 := [(7, .int f), (6, .int 16), (0, .ref 448), (1, .int a), (2, .int b), (3, .int c), (4, .int e), (5, .int f)]) (st1 := [.int 24, .int f, .int 16, .ref 452]) rfl ?_
  refine q_sg x_40_85 rfl rfl (pc1 := 87) (lv1 := [(7, .int f), (6, .int 16), (0, .ref 448), (1, .int a), (2, .int b), (3, .int c), (4, .int e), (5, .int f)]) (st1 := [.int 8, .int 24, .int f, .int 16, .ref 452]) rfl ?_
  refine q_sg x_40_87 rfl rfl (pc1 := 89) (lv1 := [(7, .int f), (6, .int 16), (0, .ref 448), (1, .int a), (2, .int b), (3, .int c), (4, .int e), (5, .int f)]) (st1 := [.int 16, .int 8, .int 24, .int f, .int 16, .ref 452]) rfl ?_
  refine q_sg x_40_89 rfl rfl (pc1 := 90) (lv1 := [(7, .int f), (6, .int 16), (0, .ref 448), (1, .int a), (2, .int b), (3, .int c), (4, .int e), (5, .int f)]) (st1 := [.int 4, .int 16, .int 8, .int 24, .int f, .int 16, .ref 452]) rfl ?_
  refine q_sg x_40_90 rfl rfl (pc1 := 91) (lv1 := [(7, .int f), (6, .int 16), (0, .ref 448), (1, .int a), (2, .int b), (3, .int c), (4, .int e), (5, .int f)]) (st1 := [.int 0, .int 8, .int 24, .int f, .int 16, .ref 452]) rfl ?_
  refine q_sg x_40_91 rfl rfl (pc1 := 92) (lv1 := [(7, .int f), (6, .int 16), (0, .ref 448), (1, .int a), (2, .int b), (3, .int c), (4, .int e), (5, .int f)]) (st1 := [.int 0, .int 24, .int f, .int 16, .ref 452]) rfl ?_
  refine q_sg x_40_92 rfl rfl (pc1 := 93) (lv1 := [(7, .int f), (6, .int 16), (0, .ref 448), (1, .int a), (2, .int b), (3, .int c), (4, .int e), (5, .int f)]) (st1 := [.int 24, .int f, .int 16, .ref 452]) rfl ?_
  refine q_sg x_40_93 rfl rfl (pc1 := 94) (lv1 := [(7, .int f), (6, .int 16), (0, .ref 448), (1, .int a), (2, .int b), (3, .int c), (4, .int e), (5, .int f)]) (st1 := [.int (f >>> (24 &&& 31)), .int 16, .ref 452]) rfl ?_
  refine q_sg x_40_94 rfl rfl (pc1 := 97) (lv1 := [(7, .int f), (6, .int 16), (0, .ref 448), (1, .int a), (2, .int b), (3, .int c), (4, .int e), (5, .int f)]) (st1 := [.int 255, .int (f >>> (24 &&& 31)), .int 16, .ref 452]) rfl ?_
  refine q_sg x_40_97 rfl rfl (pc1 := 98) (lv1 := [(7, .int f), (6, .int 16), (0, .ref 448), (1, .int a), (2, .int b), (3, .int c), (4, .int e), (5, .int f)]) (st1 := [.int ((f >>> (24 &&& 31)) &&& 255), .int 16, .ref 452]) rfl ?_
  refine q_s_ias x_40_98 (pc1 := 99) rfl (q_ar (m_F1 hG 16 L) rfl) (by decide +kernel) (j := 16) rfl (m_Fa _ _ ((16, ((f >>> (24 &&& 31)) &&& 255)) :: L)) ?_
  refine q_sg x_40_99 rfl rfl (pc1 := 100) (lv1 := [(7, .int f), (6, .int 16), (0, .ref 448), (1, .int a), (2, .int b), (3, .int c), (4, .int e), (5, .int f)]) (st1 := [.ref 448]) rfl ?_
  refine q_sg x_40_100 rfl rfl (pc1 := 101) (lv1 := [(7, .int f), (6, .int 16), (0, .ref 448), (1, .int a), (2, .int b), (3, .int c), (4, .int e), (5, .int f)]) (st1 := [.ref 448, .ref 448]) rfl ?_
  refine q_s_get x_40_101 rfl (pc1 := 104) rfl (ci := 12) (k := 2) (ns := 0) (by decide +kernel) (q_ob (m_F0 hG 16 ((16, ((f >>> (24 &&& 31)) &&& 255)) :: L)) rfl) (v := .int 16) rfl ?_
  refine q_sg x_40_104 rfl rfl (pc1 := 105) (lv1 := [(7, .int f), (6, .int 16), (0, .ref 448), (1, .int a), (2, .int b), (3, .int c), (4, .int e), (5, .int f)]) (st1 := [.int 1, .int 16, .ref 448]) rfl ?_
  refine q_sg x_40_105 rfl rfl (pc1 := 106) (lv1 := [(7, .int f), (6, .int 16), (0, .ref 448), (1, .int a), (2, .int b), (3, .int c), (4, .int e), (5, .int f)]) (st1 := [.int 17, .ref 448]) rfl ?_
  refine q_s_put x_40_106 (pc1 := 109) rfl (ci := 12) (k := 2) (ns := 0) (by decide +kernel) (q_ob (m_F0 hG 16 ((16, ((f >>> (24 &&& 31)) &&& 255)) :: L)) rfl) (by decide +kernel) (m_Fs _ 17 _) ?_
  refine q_sg x_40_109 rfl rfl (pc1 := 112) (lv1 := [(6, .int 17), (7, .int f), (0, .ref 448), (1, .int a), (2, .int b), (3, .int c), (4, .int e), (5, .int f)]) (st1 := []) rfl ?_
  refine q_sg x_40_112 rfl rfl (pc1 := 18) (lv1 := [(6, .int 17), (7, .int f), (0, .ref 448), (1, .int a), (2, .int b), (3, .int c), (4, .int e), (5, .int f)]) (st1 := []) rfl ?_
  exact kk
theorem m_turn17 {G : q_H} (hG : 264 ≤ G.length) {a b c e f : Int32} {L : List (Nat × Int32)} {d n : Nat} (kk : ∀ L1, ∃ E1, q_run (q_callf 4000 d) (q_own 40) (q_maxL 40) (q_ini 40) (q_code 40) (q_ret 40) n 18 [(6, .int 18), (7, .int f), (0, .ref 448), (1, .int a), (2, .int b), (3, .int c), (4, .int e), (5, .int f)] [] (m_F G 18 L1) 0 0 = some (some (.int 20), E1, 0, 0)) : ∃ E1, q_run (q_callf 4000 d) (q_own 40) (q_maxL 40) (q_ini 40) (q_code 40) (q_ret 40) (n + 41) 18 [(6, .int 17), (7, .int f), (0, .ref 448), (1, .int a), (2, .int b), (3, .int c), (4, .int e), (5, .int f)] [] (m_F G 17 L) 0 0 = some (some (.int 20), E1, 0, 0) := by
  obtain ⟨E1, kk⟩ := kk ((17, ((f >>> (16 &&& 31)) &&& 255)) :: L)
  refine ⟨E1, ?_⟩
  refine q_sg x_40_18 rfl rfl (pc1 := 20) (lv1 := [(6, .int 17), (7, .int f), (0, .ref 448), (1, .int a), (2, .int b), (3, .int c), (4, .int e), (5, .int f)]) (st1 := [.int 17]) rfl ?_
  refine q_sg x_40_20 rfl rfl (pc1 := 22) (lv1 := [(6, .int 17), (7, .int f), (0, .ref 448), (1, .int a), (2, .int b), (3, .int c), (4, .int e), (5, .int f)]) (st1 := [.int 20, .int 17]) rfl ?_
  refine q_sg x_40_22 rfl rfl (pc1 := 25) (lv1 := [(6, .int 17), (7, .int f), (0, .ref 448), (1, .int a), (2, .int b), (3, .int c), (4, .int e), (5, .int f)]) (st1 := []) rfl ?_
  refine q_sg x_40_25 rfl rfl (pc1 := 27) (lv1 := [(6, .int 17), (7, .int f), (0, .ref 448), (1, .int a), (2, .int b), (3, .int c), (4, .int e), (5, .int f)]) (st1 := [.int 17]) rfl ?_
  refine q_sg x_40_27 rfl rfl (pc1 := 28) (lv1 := [(6, .int 17), (7, .int f), (0, .ref 448), (1, .int a), (2, .int b), (3, .int c), (4, .int e), (5, .int f)]) (st1 := [.int 4, .int 17]) rfl ?_
  refine q_sg x_40_28 rfl rfl (pc1 := 35) (lv1 := [(6, .int 17), (7, .int f), (0, .ref 448), (1, .int a), (2, .int b), (3, .int c), (4, .int e), (5, .int f)]) (st1 := []) rfl ?_
  refine q_sg x_40_35 rfl rfl (pc1 := 37) (lv1 := [(6, .int 17), (7, .int f), (0, .ref 448), (1, .int a), (2, .int b), (3, .int c), (4, .int e), (5, .int f)]) (st1 := [.int 17]) rfl ?_
  refine q_sg x_40_37 rfl rfl (pc1 := 39) (lv1 := [(6, .int 17), (7, .int f), (0, .ref 448), (1, .int a), (2, .int b), (3, .int c), (4, .int e), (5, .int f)]) (st1 := [.int 8, .int 17]) rfl ?_
  refine q_sg x_40_39 rfl rfl (pc1 := 46) (lv1 := [(6, .int 17), (7, .int f), (0, .ref 448), (1, .int a), (2, .int b), (3, .int c), (4, .int e), (5, .int f)]) (st1 := []) rfl ?_
  refine q_sg x_40_46 rfl rfl (pc1 := 48) (lv1 := [(6, .int 17), (7, .int f), (0, .ref 448), (1, .int a), (2, .int b), (3, .int c), (4, .int e), (5, .int f)]) (st1 := [.int 17]) rfl ?_
  refine q_sg x_40_48 rfl rfl (pc1 := 50) (lv1 := [(6, .int 17), (7, .int f), (0, .ref 448), (1, .int a), (2, .int b), (3, .int c), (4, .int e), (5, .int f)]) (st1 := [.int 12, .int 17]) rfl ?_
  refine q_sg x_40_50 rfl rfl (pc1 := 57) (lv1 := [(6, .int 17), (7, .int f), (0, .ref 448), (1, .int a), (2, .int b), (3, .int c), (4, .int e), (5, .int f)]) (st1 := []) rfl ?_
  refine q_sg x_40_57 rfl rfl (pc1 := 59) (lv1 := [(6, .int 17), (7, .int f), (0, .ref 448), (1, .int a), (2, .int b), (3, .int c), (4, .int e), (5, .int f)]) (st1 := [.int 17]) rfl ?_
  refine q_sg x_40_59 rfl rfl (pc1 := 61) (lv1 := [(6, .int 17), (7, .int f), (0, .ref 448), (1, .int a), (2, .int b), (3, .int c), (4, .int e), (5, .int f)]) (st1 := [.int 16, .int 17]) rfl ?_
  refine q_sg x_40_61 rfl rfl (pc1 := 69) (lv1 := [(6, .int 17), (7, .int f), (0, .ref 448), (1, .int a), (2, .int b), (3, .int c), (4, .int e), (5, .int f)]) (st1 := []) rfl ?_
  refine q_sg x_40_69 rfl rfl (pc1 := 71) (lv1 := [(6, .int 17), (7, .int f), (0, .ref 448), (1, .int a), (2, .int b), (3, .int c), (4, .int e), (5, .int f)]) (st1 := [.int f]) rfl ?_
  refine q_sg x_40_71 rfl rfl (pc1 := 73) (lv1 := [(7, .int f), (6, .int 17), (0, .ref 448), (1, .int a), (2, .int b), (3, .int c), (4, .int e), (5, .int f)]) (st1 := []) rfl ?_
  refine q_sg x_40_73 rfl rfl (pc1 := 74) (lv1 := [(7, .int f), (6, .int 17), (0, .ref 448), (1, .int a), (2, .int b), (3, .int c), (4, .int e), (5, .int f)]) (st1 := [.ref 448]) rfl ?_
  refine q_s_get x_40_74 rfl (pc1 := 77) rfl (ci := 12) (k := 1) (ns := 0) (by decide +kernel) (q_ob (m_F0 hG 17 L) rfl) (v := .ref 452) rfl ?_
  refine q_sg x_40_77 rfl rfl (pc1 := 78) (lv1 := [(7, .int f), (6, .int 17), (0, .ref 448), (1, .int a), (2, .int b), (3, .int c), (4, .int e), (5, .int f)]) (st1 := [.ref 448, .ref 452]) rfl ?_
  refine q_s_get x_40_78 rfl (pc1 := 81) rfl (ci := 12) (k := 2) (ns := 0) (by decide +kernel) (q_ob (m_F0 hG 17 L) rfl) (v := .int 17) rfl ?_
  refine q_sg x_40_81 rfl rfl (pc1 := 83) (lv1 := [(7, .int f), (6, .int 17), (0, .ref 448), (1, .int a), (2, .int b), (3, .int c), (4, .int e), (5, .int f)]) (st1 := [.int f, .int 17, .ref 452]) rfl ?_
  refine q_sg x_40_83 rfl rfl (pc1 := 85) (lv1 := [(7, .int f), (6, .int 17), (0, .ref 448), (1, .int a), (2, .int b), (3, .int c), (4, .int e), (5, .int f)]) (st1 := [.int 24, .int f, .int 17, .ref 452]) rfl ?_
  refine q_sg x_40_85 rfl rfl (pc1 := 87) (lv1 := [(7, .int f), (6, .int 17), (0, .ref 448), (1, .int a), (2, .int b), (3, .int c), (4, .int e), (5, .int f)]) (st1 := [.int 8, .int 24, .int f, .int 17, .ref 452]) rfl ?_
  refine q_sg x_40_87 rfl rfl (pc1 := 89) (lv1 := [(7, .int f), (6, .int 17), (0, .ref 448), (1, .int a), (2, .int b), (3, .int c), (4, .int e), (5, .int f)]) (st1 := [.int 17, .int 8, .int 24, .int f, .int 17, .ref 452]) rfl ?_
  refine q_sg x_40_89 rfl rfl (pc1 := 90) (lv1 := [(7, .int f), (6, .int 17), (0, .ref 448), (1, .int a), (2, .int b), (3, .int c), (4, .int e), (5, .int f)]) (st1 := [.int 4, .int 17, .int 8, .int 24, .int f, .int 17, .ref 452]) rfl ?_
  refine q_sg x_40_90 rfl rfl (pc1 := 91) (lv1 := [(7, .int f), (6, .int 17), (0, .ref 448), (1, .int a), (2, .int b), (3, .int c), (4, .int e), (5, .int f)]) (st1 := [.int 1, .int 8, .int 24, .int f, .int 17, .ref 452]) rfl ?_
  refine q_sg x_40_91 rfl rfl (pc1 := 92) (lv1 := [(7, .int f), (6, .int 17), (0, .ref 448), (1, .int a), (2, .int b), (3, .int c), (4, .int e), (5, .int f)]) (st1 := [.int 8, .int 24, .int f, .int 17, .ref 452]) rfl ?_
  refine q_sg x_40_92 rfl rfl (pc1 := 93) (lv1 := [(7, .int f), (6, .int 17), (0, .ref 448), (1, .int a), (2, .int b), (3, .int c), (4, .int e), (5, .int f)]) (st1 := [.int 16, .int f, .int 17, .ref 452]) rfl ?_
  refine q_sg x_40_93 rfl rfl (pc1 := 94) (lv1 := [(7, .int f), (6, .int 17), (0, .ref 448), (1, .int a), (2, .int b), (3, .int c), (4, .int e), (5, .int f)]) (st1 := [.int (f >>> (16 &&& 31)), .int 17, .ref 452]) rfl ?_
  refine q_sg x_40_94 rfl rfl (pc1 := 97) (lv1 := [(7, .int f), (6, .int 17), (0, .ref 448), (1, .int a), (2, .int b), (3, .int c), (4, .int e), (5, .int f)]) (st1 := [.int 255, .int (f >>> (16 &&& 31)), .int 17, .ref 452]) rfl ?_
  refine q_sg x_40_97 rfl rfl (pc1 := 98) (lv1 := [(7, .int f), (6, .int 17), (0, .ref 448), (1, .int a), (2, .int b), (3, .int c), (4, .int e), (5, .int f)]) (st1 := [.int ((f >>> (16 &&& 31)) &&& 255), .int 17, .ref 452]) rfl ?_
  refine q_s_ias x_40_98 (pc1 := 99) rfl (q_ar (m_F1 hG 17 L) rfl) (by decide +kernel) (j := 17) rfl (m_Fa _ _ ((17, ((f >>> (16 &&& 31)) &&& 255)) :: L)) ?_
  refine q_sg x_40_99 rfl rfl (pc1 := 100) (lv1 := [(7, .int f), (6, .int 17), (0, .ref 448), (1, .int a), (2, .int b), (3, .int c), (4, .int e), (5, .int f)]) (st1 := [.ref 448]) rfl ?_
  refine q_sg x_40_100 rfl rfl (pc1 := 101) (lv1 := [(7, .int f), (6, .int 17), (0, .ref 448), (1, .int a), (2, .int b), (3, .int c), (4, .int e), (5, .int f)]) (st1 := [.ref 448, .ref 448]) rfl ?_
  refine q_s_get x_40_101 rfl (pc1 := 104) rfl (ci := 12) (k := 2) (ns := 0) (by decide +kernel) (q_ob (m_F0 hG 17 ((17, ((f >>> (16 &&& 31)) &&& 255)) :: L)) rfl) (v := .int 17) rfl ?_
  refine q_sg x_40_104 rfl rfl (pc1 := 105) (lv1 := [(7, .int f), (6, .int 17), (0, .ref 448), (1, .int a), (2, .int b), (3, .int c), (4, .int e), (5, .int f)]) (st1 := [.int 1, .int 17, .ref 448]) rfl ?_
  refine q_sg x_40_105 rfl rfl (pc1 := 106) (lv1 := [(7, .int f), (6, .int 17), (0, .ref 448), (1, .int a), (2, .int b), (3, .int c), (4, .int e), (5, .int f)]) (st1 := [.int 18, .ref 448]) rfl ?_
  refine q_s_put x_40_106 (pc1 := 109) rfl (ci := 12) (k := 2) (ns := 0) (by decide +kernel) (q_ob (m_F0 hG 17 ((17, ((f >>> (16 &&& 31)) &&& 255)) :: L)) rfl) (by decide +kernel) (m_Fs _ 18 _) ?_
  refine q_sg x_40_109 rfl rfl (pc1 := 112) (lv1 := [(6, .int 18), (7, .int f), (0, .ref 448), (1, .int a), (2, .int b), (3, .int c), (4, .int e), (5, .int f)]) (st1 := []) rfl ?_
  refine q_sg x_40_112 rfl rfl (pc1 := 18) (lv1 := [(6, .int 18), (7, .int f), (0, .ref 448), (1, .int a), (2, .int b), (3, .int c), (4, .int e), (5, .int f)]) (st1 := []) rfl ?_
  exact kk
theorem m_turn18 {G : q_H} (hG : 264 ≤ G.length) {a b c e f : Int32} {L : List (Nat × Int32)} {d n : Nat} (kk : ∀ L1, ∃ E1, q_run (q_callf 4000 d) (q_own 40) (q_maxL 40) (q_ini 40) (q_code 40) (q_ret 40) n 18 [(6, .int 19), (7, .int f), (0, .ref 448), (1, .int a), (2, .int b), (3, .int c), (4, .int e), (5, .int f)] [] (m_F G 19 L1) 0 0 = some (some (.int 20), E1, 0, 0)) : ∃ E1, q_run (q_callf 4000 d) (q_own 40) (q_maxL 40) (q_ini 40) (q_code 40) (q_ret 40) (n + 41) 18 [(6, .int 18), (7, .int f), (0, .ref 448), (1, .int a), (2, .int b), (3, .int c), (4, .int e), (5, .int f)] [] (m_F G 18 L) 0 0 = some (some (.int 20), E1, 0, 0) := by
  obtain ⟨E1, kk⟩ := kk ((18, ((f >>> (8 &&& 31)) &&& 255)) :: L)
  refine ⟨E1, ?_⟩
  refine q_sg x_40_18 rfl rfl (pc1 := 20) (lv1 := [(6, .int 18), (7, .int f), (0, .ref 448), (1, .int a), (2, .int b), (3, .int c), (4, .int e), (5, .int f)]) (st1 := [.int 18]) rfl ?_
  refine q_sg x_40_20 rfl rfl (pc1 := 22) (lv1 := [(6, .int 18), (7, .int f), (0, .ref 448), (1, .int a), (2, .int b), (3, .int c), (4, .int e), (5, .int f)]) (st1 := [.int 20, .int 18]) rfl ?_
  refine q_sg x_40_22 rfl rfl (pc1 := 25) (lv1 := [(6, .int 18), (7, .int f), (0, .ref 448), (1, .int a), (2, .int b), (3, .int c), (4, .int e), (5, .int f)]) (st1 := []) rfl ?_
  refine q_sg x_40_25 rfl rfl (pc1 := 27) (lv1 := [(6, .int 18), (7, .int f), (0, .ref 448), (1, .int a), (2, .int b), (3, .int c), (4, .int e), (5, .int f)]) (st1 := [.int 18]) rfl ?_
  refine q_sg x_40_27 rfl rfl (pc1 := 28) (lv1 := [(6, .int 18), (7, .int f), (0, .ref 448), (1, .int a), (2, .int b), (3, .int c), (4, .int e), (5, .int f)]) (st1 := [.int 4, .int 18]) rfl ?_
  refine q_sg x_40_28 rfl rfl (pc1 := 35) (lv1 := [(6, .int 18), (7, .int f), (0, .ref 448), (1, .int a), (2, .int b), (3, .int c), (4, .int e), (5, .int f)]) (st1 := []) rfl ?_
  refine q_sg x_40_35 rfl rfl (pc1 := 37) (lv1 := [(6, .int 18), (7, .int f), (0, .ref 448), (1, .int a), (2, .int b), (3, .int c), (4, .int e), (5, .int f)]) (st1 := [.int 18]) rfl ?_
  refine q_sg x_40_37 rfl rfl (pc1 := 39) (lv1 := [(6, .int 18), (7, .int f), (0, .ref 448), (1, .int a), (2, .int b), (3, .int c), (4, .int e), (5, .int f)]) (st1 := [.int 8, .int 18]) rfl ?_
  refine q_sg x_40_39 rfl rfl (pc1 := 46) (lv1 := [(6, .int 18), (7, .int f), (0, .ref 448), (1, .int a), (2, .int b), (3, .int c), (4, .int e), (5, .int f)]) (st1 := []) rfl ?_
  refine q_sg x_40_46 rfl rfl (pc1 := 48) (lv1 := [(6, .int 18), (7, .int f), (0, .ref 448), (1, .int a), (2, .int b), (3, .int c), (4, .int e), (5, .int f)]) (st1 := [.int 18]) rfl ?_
  refine q_sg x_40_48 rfl rfl (pc1 := 50) (lv1 := [(6, .int 18), (7, .int f), (0, .ref 448), (1, .int a), (2, .int b), (3, .int c), (4, .int e), (5, .int f)]) (st1 := [.int 12, .int 18]) rfl ?_
  refine q_sg x_40_50 rfl rfl (pc1 := 57) (lv1 := [(6, .int 18), (7, .int f), (0, .ref 448), (1, .int a), (2, .int b), (3, .int c), (4, .int e), (5, .int f)]) (st1 := []) rfl ?_
  refine q_sg x_40_57 rfl rfl (pc1 := 59) (lv1 := [(6, .int 18), (7, .int f), (0, .ref 448), (1, .int a), (2, .int b), (3, .int c), (4, .int e), (5, .int f)]) (st1 := [.int 18]) rfl ?_
  refine q_sg x_40_59 rfl rfl (pc1 := 61) (lv1 := [(6, .int 18), (7, .int f), (0, .ref 448), (1, .int a), (2, .int b), (3, .int c), (4, .int e), (5, .int f)]) (st1 := [.int 16, .int 18]) rfl ?_
  refine q_sg x_40_61 rfl rfl (pc1 := 69) (lv1 := [(6, .int 18), (7, .int f), (0, .ref 448), (1, .int a), (2, .int b), (3, .int c), (4, .int e), (5, .int f)]) (st1 := []) rfl ?_
  refine q_sg x_40_69 rfl rfl (pc1 := 71) (lv1 := [(6, .int 18), (7, .int f), (0, .ref 448), (1, .int a), (2, .int b), (3, .int c), (4, .int e), (5, .int f)]) (st1 := [.int f]) rfl ?_
  refine q_sg x_40_71 rfl rfl (pc1 := 73) (lv1 := [(7, .int f), (6, .int 18), (0, .ref 448), (1, .int a), (2, .int b), (3, .int c), (4, .int e), (5, .int f)]) (st1 := []) rfl ?_
  refine q_sg x_40_73 rfl rfl (pc1 := 74) (lv1 := [(7, .int f), (6, .int 18), (0, .ref 448), (1, .int a), (2, .int b), (3, .int c), (4, .int e), (5, .int f)]) (st1 := [.ref 448]) rfl ?_
  refine q_s_get x_40_74 rfl (pc1 := 77) rfl (ci := 12) (k := 1) (ns := 0) (by decide +kernel) (q_ob (m_F0 hG 18 L) rfl) (v := .ref 452) rfl ?_
  refine q_sg x_40_77 rfl rfl (pc1 := 78) (lv1 := [(7, .int f), (6, .int 18), (0, .ref 448), (1, .int a), (2, .int b), (3, .int c), (4, .int e), (5, .int f)]) (st1 := [.ref 448, .ref 452]) rfl ?_
  refine q_s_get x_40_78 rfl (pc1 := 81) rfl (ci := 12) (k := 2) (ns := 0) (by decide +kernel) (q_ob (m_F0 hG 18 L) rfl) (v := .int 18) rfl ?_
  refine q_sg x_40_81 rfl rfl (pc1 := 83) (lv1 := [(7, .int f), (6, .int 18), (0, .ref 448), (1, .int a), (2, .int b), (3, .int c), (4, .int e), (5, .int f)]) (st1 := [.int f, .int 18, .ref 452]) rfl ?_
  refine q_sg x_40_83 rfl rfl (pc1 := 85) (lv1 := [(7, .int f), (6, .int 18), (0, .ref 448), (1, .int a), (2, .int b), (3, .int c), (4, .int e), (5, .int f)]) (st1 := [.int 24, .int f, .int 18, .ref 452]) rfl ?_
  refine q_sg x_40_85 rfl rfl (pc1 := 87) (lv1 := [(7, .int f), (6, .int 18), (0, .ref 448), (1, .int a), (2, .int b), (3, .int c), (4, .int e), (5, .int f)]) (st1 := [.int 8, .int 24, .int f, .int 18, .ref 452]) rfl ?_
  refine q_sg x_40_87 rfl rfl (pc1 := 89) (lv1 := [(7, .int f), (6, .int 18), (0, .ref 448), (1, .int a), (2, .int b), (3, .int c), (4, .int e), (5, .int f)]) (st1 := [.int 18, .int 8, .int 24, .int f, .int 18, .ref 452]) rfl ?_
  refine q_sg x_40_89 rfl rfl (pc1 := 90) (lv1 := [(7, .int f), (6, .int 18), (0, .ref 448), (1, .int a), (2, .int b), (3, .int c), (4, .int e), (5, .int f)]) (st1 := [.int 4, .int 18, .int 8, .int 24, .int f, .int 18, .ref 452]) rfl ?_
  refine q_sg x_40_90 rfl rfl (pc1 := 91) (lv1 := [(7, .int f), (6, .int 18), (0, .ref 448), (1, .int a), (2, .int b), (3, .int c), (4, .int e), (5, .int f)]) (st1 := [.int 2, .int 8, .int 24, .int f, .int 18, .ref 452]) rfl ?_
  refine q_sg x_40_91 rfl rfl (pc1 := 92) (lv1 := [(7, .int f), (6, .int 18), (0, .ref 448), (1, .int a), (2, .int b), (3, .int c), (4, .int e), (5, .int f)]) (st1 := [.int 16, .int 24, .int f, .int 18, .ref 452]) rfl ?_
  refine q_sg x_40_92 rfl rfl (pc1 := 93) (lv1 := [(7, .int f), (6, .int 18), (0, .ref 448), (1, .int a), (2, .int b), (3, .int c), (4, .int e), (5, .int f)]) (st1 := [.int 8, .int f, .int 18, .ref 452]) rfl ?_
  refine q_sg x_40_93 rfl rfl (pc1 := 94) (lv1 := [(7, .int f), (6, .int 18), (0, .ref 448), (1, .int a), (2, .int b), (3, .int c), (4, .int e), (5, .int f)]) (st1 := [.int (f >>> (8 &&& 31)), .int 18, .ref 452]) rfl ?_
  refine q_sg x_40_94 rfl rfl (pc1 := 97) (lv1 := [(7, .int f), (6, .int 18), (0, .ref 448), (1, .int a), (2, .int b), (3, .int c), (4, .int e), (5, .int f)]) (st1 := [.int 255, .int (f >>> (8 &&& 31)), .int 18, .ref 452]) rfl ?_
  refine q_sg x_40_97 rfl rfl (pc1 := 98) (lv1 := [(7, .int f), (6, .int 18), (0, .ref 448), (1, .int a), (2, .int b), (3, .int c), (4, .int e), (5, .int f)]) (st1 := [.int ((f >>> (8 &&& 31)) &&& 255), .int 18, .ref 452]) rfl ?_
  refine q_s_ias x_40_98 (pc1 := 99) rfl (q_ar (m_F1 hG 18 L) rfl) (by decide +kernel) (j := 18) rfl (m_Fa _ _ ((18, ((f >>> (8 &&& 31)) &&& 255)) :: L)) ?_
  refine q_sg x_40_99 rfl rfl (pc1 := 100) (lv1 := [(7, .int f), (6, .int 18), (0, .ref 448), (1, .int a), (2, .int b), (3, .int c), (4, .int e), (5, .int f)]) (st1 := [.ref 448]) rfl ?_
  refine q_sg x_40_100 rfl rfl (pc1 := 101) (lv1 := [(7, .int f), (6, .int 18), (0, .ref 448), (1, .int a), (2, .int b), (3, .int c), (4, .int e), (5, .int f)]) (st1 := [.ref 448, .ref 448]) rfl ?_
  refine q_s_get x_40_101 rfl (pc1 := 104) rfl (ci := 12) (k := 2) (ns := 0) (by decide +kernel) (q_ob (m_F0 hG 18 ((18, ((f >>> (8 &&& 31)) &&& 255)) :: L)) rfl) (v := .int 18) rfl ?_
  refine q_sg x_40_104 rfl rfl (pc1 := 105) (lv1 := [(7, .int f), (6, .int 18), (0, .ref 448), (1, .int a), (2, .int b), (3, .int c), (4, .int e), (5, .int f)]) (st1 := [.int 1, .int 18, .ref 448]) rfl ?_
  refine q_sg x_40_105 rfl rfl (pc1 := 106) (lv1 := [(7, .int f), (6, .int 18), (0, .ref 448), (1, .int a), (2, .int b), (3, .int c), (4, .int e), (5, .int f)]) (st1 := [.int 19, .ref 448]) rfl ?_
  refine q_s_put x_40_106 (pc1 := 109) rfl (ci := 12) (k := 2) (ns := 0) (by decide +kernel) (q_ob (m_F0 hG 18 ((18, ((f >>> (8 &&& 31)) &&& 255)) :: L)) rfl) (by decide +kernel) (m_Fs _ 19 _) ?_
  refine q_sg x_40_109 rfl rfl (pc1 := 112) (lv1 := [(6, .int 19), (7, .int f), (0, .ref 448), (1, .int a), (2, .int b), (3, .int c), (4, .int e), (5, .int f)]) (st1 := []) rfl ?_
  refine q_sg x_40_112 rfl rfl (pc1 := 18) (lv1 := [(6, .int 19), (7, .int f), (0, .ref 448), (1, .int a), (2, .int b), (3, .int c), (4, .int e), (5, .int f)]) (st1 := []) rfl ?_
  exact kk
theorem m_turn19 {G : q_H} (hG : 264 ≤ G.length) {a b c e f : Int32} {L : List (Nat × Int32)} {d n : Nat} (kk : ∀ L1, ∃ E1, q_run (q_callf 4000 d) (q_own 40) (q_maxL 40) (q_ini 40) (q_code 40) (q_ret 40) n 18 [(6, .int 20), (7, .int f), (0, .ref 448), (1, .int a), (2, .int b), (3, .int c), (4, .int e), (5, .int f)] [] (m_F G 20 L1) 0 0 = some (some (.int 20), E1, 0, 0)) : ∃ E1, q_run (q_callf 4000 d) (q_own 40) (q_maxL 40) (q_ini 40) (q_code 40) (q_ret 40) (n + 41) 18 [(6, .int 19), (7, .int f), (0, .ref 448), (1, .int a), (2, .int b), (3, .int c), (4, .int e), (5, .int f)] [] (m_F G 19 L) 0 0 = some (some (.int 20), E1, 0, 0) := by
  obtain ⟨E1, kk⟩ := kk ((19, ((f >>> (0 &&& 31)) &&& 255)) :: L)
  refine ⟨E1, ?_⟩
  refine q_sg x_40_18 rfl rfl (pc1 := 20) (lv1 := [(6, .int 19), (7, .int f), (0, .ref 448), (1, .int a), (2, .int b), (3, .int c), (4, .int e), (5, .int f)]) (st1 := [.int 19]) rfl ?_
  refine q_sg x_40_20 rfl rfl (pc1 := 22) (lv1 := [(6, .int 19), (7, .int f), (0, .ref 448), (1, .int a), (2, .int b), (3, .int c), (4, .int e), (5, .int f)]) (st1 := [.int 20, .int 19]) rfl ?_
  refine q_sg x_40_22 rfl rfl (pc1 := 25) (lv1 := [(6, .int 19), (7, .int f), (0, .ref 448), (1, .int a), (2, .int b), (3, .int c), (4, .int e), (5, .int f)]) (st1 := []) rfl ?_
  refine q_sg x_40_25 rfl rfl (pc1 := 27) (lv1 := [(6, .int 19), (7, .int f), (0, .ref 448), (1, .int a), (2, .int b), (3, .int c), (4, .int e), (5, .int f)]) (st1 := [.int 19]) rfl ?_
  refine q_sg x_40_27 rfl rfl (pc1 := 28) (lv1 := [(6, .int 19), (7, .int f), (0, .ref 448), (1, .int a), (2, .int b), (3, .int c), (4, .int e), (5, .int f)]) (st1 := [.int 4, .int 19]) rfl ?_
  refine q_sg x_40_28 rfl rfl (pc1 := 35) (lv1 := [(6, .int 19), (7, .int f), (0, .ref 448), (1, .int a), (2, .int b), (3, .int c), (4, .int e), (5, .int f)]) (st1 := []) rfl ?_
  refine q_sg x_40_35 rfl rfl (pc1 := 37) (lv1 := [(6, .int 19), (7, .int f), (0, .ref 448), (1, .int a), (2, .int b), (3, .int c), (4, .int e), (5, .int f)]) (st1 := [.int 19]) rfl ?_
  refine q_sg x_40_37 rfl rfl (pc1 := 39) (lv1 := [(6, .int 19), (7, .int f), (0, .ref 448), (1, .int a), (2, .int b), (3, .int c), (4, .int e), (5, .int f)]) (st1 := [.int 8, .int 19]) rfl ?_
  refine q_sg x_40_39 rfl rfl (pc1 := 46) (lv1 := [(6, .int 19), (7, .int f), (0, .ref 448), (1, .int a), (2, .int b), (3, .int c), (4, .int e), (5, .int f)]) (st1 := []) rfl ?_
  refine q_sg x_40_46 rfl rfl (pc1 := 48) (lv1 := [(6, .int 19), (7, .int f), (0, .ref 448), (1, .int a), (2, .int b), (3, .int c), (4, .int e), (5, .int f)]) (st1 := [.int 19]) rfl ?_
  refine q_sg x_40_48 rfl rfl (pc1 := 50) (lv1 := [(6, .int 19), (7, .int f), (0, .ref 448), (1, .int a), (2, .int b), (3, .int c), (4, .int e), (5, .int f)]) (st1 := [.int 12, .int 19]) rfl ?_
  refine q_sg x_40_50 rfl rfl (pc1 := 57) (lv1 := [(6, .int 19), (7, .int f), (0, .ref 448), (1, .int a), (2, .int b), (3, .int c), (4, .int e), (5, .int f)]) (st1 := []) rfl ?_
  refine q_sg x_40_57 rfl rfl (pc1 := 59) (lv1 := [(6, .int 19), (7, .int f), (0, .ref 448), (1, .int a), (2, .int b), (3, .int c), (4, .int e), (5, .int f)]) (st1 := [.int 19]) rfl ?_
  refine q_sg x_40_59 rfl rfl (pc1 := 61) (lv1 := [(6, .int 19), (7, .int f), (0, .ref 448), (1, .int a), (2, .int b), (3, .int c), (4, .int e), (5, .int f)]) (st1 := [.int 16, .int 19]) rfl ?_
  refine q_sg x_40_61 rfl rfl (pc1 := 69) (lv1 := [(6, .int 19), (7, .int f), (0, .ref 448), (1, .int a), (2, .int b), (3, .int c), (4, .int e), (5, .int f)]) (st1 := []) rfl ?_
  refine q_sg x_40_69 rfl rfl (pc1 := 71) (lv1 := [(6, .int 19), (7, .int f), (0, .ref 448), (1, .int a), (2, .int b), (3, .int c), (4, .int e), (5, .int f)]) (st1 := [.int f]) rfl ?_
  refine q_sg x_40_71 rfl rfl (pc1 := 73) (lv1 := [(7, .int f), (6, .int 19), (0, .ref 448), (1, .int a), (2, .int b), (3, .int c), (4, .int e), (5, .int f)]) (st1 := []) rfl ?_
  refine q_sg x_40_73 rfl rfl (pc1 := 74) (lv1 := [(7, .int f), (6, .int 19), (0, .ref 448), (1, .int a), (2, .int b), (3, .int c), (4, .int e), (5, .int f)]) (st1 := [.ref 448]) rfl ?_
  refine q_s_get x_40_74 rfl (pc1 := 77) rfl (ci := 12) (k := 1) (ns := 0) (by decide +kernel) (q_ob (m_F0 hG 19 L) rfl) (v := .ref 452) rfl ?_
  refine q_sg x_40_77 rfl rfl (pc1 := 78) (lv1 := [(7, .int f), (6, .int 19), (0, .ref 448), (1, .int a), (2, .int b), (3, .int c), (4, .int e), (5, .int f)]) (st1 := [.ref 448, .ref 452]) rfl ?_
  refine q_s_get x_40_78 rfl (pc1 := 81) rfl (ci := 12) (k := 2) (ns := 0) (by decide +kernel) (q_ob (m_F0 hG 19 L) rfl) (v := .int 19) rfl ?_
  refine q_sg x_40_81 rfl rfl (pc1 := 83) (lv1 := [(7, .int f), (6, .int 19), (0, .ref 448), (1, .int a), (2, .int b), (3, .int c), (4, .int e), (5, .int f)]) (st1 := [.int f, .int 19, .ref 452]) rfl ?_
  refine q_sg x_40_83 rfl rfl (pc1 := 85) (lv1 := [(7, .int f), (6, .int 19), (0, .ref 448), (1, .int a), (2, .int b), (3, .int c), (4, .int e), (5, .int f)]) (st1 := [.int 24, .int f, .int 19, .ref 452]) rfl ?_
  refine q_sg x_40_85 rfl rfl (pc1 := 87) (lv1 := [(7, .int f), (6, .int 19), (0, .ref 448), (1, .int a), (2, .int b), (3, .int c), (4, .int e), (5, .int f)]) (st1 := [.int 8, .int 24, .int f, .int 19, .ref 452]) rfl ?_
  refine q_sg x_40_87 rfl rfl (pc1 := 89) (lv1 := [(7, .int f), (6, .int 19), (0, .ref 448), (1, .int a), (2, .int b), (3, .int c), (4, .int e), (5, .int f)]) (st1 := [.int 19, .int 8, .int 24, .int f, .int 19, .ref 452]) rfl ?_
  refine q_sg x_40_89 rfl rfl (pc1 := 90) (lv1 := [(7, .int f), (6, .int 19), (0, .ref 448), (1, .int a), (2, .int b), (3, .int c), (4, .int e), (5, .int f)]) (st1 := [.int 4, .int 19, .int 8, .int 24, .int f, .int 19, .ref 452]) rfl ?_
  refine q_sg x_40_90 rfl rfl (pc1 := 91) (lv1 := [(7, .int f), (6, .int 19), (0, .ref 448), (1, .int a), (2, .int b), (3, .int c), (4, .int e), (5, .int f)]) (st1 := [.int 3, .int 8, .int 24, .int f, .int 19, .ref 452]) rfl ?_
  refine q_sg x_40_91 rfl rfl (pc1 := 92) (lv1 := [(7, .int f), (6, .int 19), (0, .ref 448), (1, .int a), (2, .int b), (3, .int c), (4, .int e), (5, .int f)]) (st1 := [.int 24, .int 24, .int f, .int 19, .ref 452]) rfl ?_
  refine q_sg x_40_92 rfl rfl (pc1 := 93) (lv1 := [(7, .int f), (6, .int 19), (0, .ref 448), (1, .int a), (2, .int b), (3, .int c), (4, .int e), (5, .int f)]) (st1 := [.int 0, .int f, .int 19, .ref 452]) rfl ?_
  refine q_sg x_40_93 rfl rfl (pc1 := 94) (lv1 := [(7, .int f), (6, .int 19), (0, .ref 448), (1, .int a), (2, .int b), (3, .int c), (4, .int e), (5, .int f)]) (st1 := [.int (f >>> (0 &&& 31)), .int 19, .ref 452]) rfl ?_
  refine q_sg x_40_94 rfl rfl (pc1 := 97) (lv1 := [(7, .int f), (6, .int 19), (0, .ref 448), (1, .int a), (2, .int b), (3, .int c), (4, .int e), (5, .int f)]) (st1 := [.int 255, .int (f >>> (0 &&& 31)), .int 19, .ref 452]) rfl ?_
  refine q_sg x_40_97 rfl rfl (pc1 := 98) (lv1 := [(7, .int f), (6, .int 19), (0, .ref 448), (1, .int a), (2, .int b), (3, .int c), (4, .int e), (5, .int f)]) (st1 := [.int ((f >>> (0 &&& 31)) &&& 255), .int 19, .ref 452]) rfl ?_
  refine q_s_ias x_40_98 (pc1 := 99) rfl (q_ar (m_F1 hG 19 L) rfl) (by decide +kernel) (j := 19) rfl (m_Fa _ _ ((19, ((f >>> (0 &&& 31)) &&& 255)) :: L)) ?_
  refine q_sg x_40_99 rfl rfl (pc1 := 100) (lv1 := [(7, .int f), (6, .int 19), (0, .ref 448), (1, .int a), (2, .int b), (3, .int c), (4, .int e), (5, .int f)]) (st1 := [.ref 448]) rfl ?_
  refine q_sg x_40_100 rfl rfl (pc1 := 101) (lv1 := [(7, .int f), (6, .int 19), (0, .ref 448), (1, .int a), (2, .int b), (3, .int c), (4, .int e), (5, .int f)]) (st1 := [.ref 448, .ref 448]) rfl ?_
  refine q_s_get x_40_101 rfl (pc1 := 104) rfl (ci := 12) (k := 2) (ns := 0) (by decide +kernel) (q_ob (m_F0 hG 19 ((19, ((f >>> (0 &&& 31)) &&& 255)) :: L)) rfl) (v := .int 19) rfl ?_
  refine q_sg x_40_104 rfl rfl (pc1 := 105) (lv1 := [(7, .int f), (6, .int 19), (0, .ref 448), (1, .int a), (2, .int b), (3, .int c), (4, .int e), (5, .int f)]) (st1 := [.int 1, .int 19, .ref 448]) rfl ?_
  refine q_sg x_40_105 rfl rfl (pc1 := 106) (lv1 := [(7, .int f), (6, .int 19), (0, .ref 448), (1, .int a), (2, .int b), (3, .int c), (4, .int e), (5, .int f)]) (st1 := [.int 20, .ref 448]) rfl ?_
  refine q_s_put x_40_106 (pc1 := 109) rfl (ci := 12) (k := 2) (ns := 0) (by decide +kernel) (q_ob (m_F0 hG 19 ((19, ((f >>> (0 &&& 31)) &&& 255)) :: L)) rfl) (by decide +kernel) (m_Fs _ 20 _) ?_
  refine q_sg x_40_109 rfl rfl (pc1 := 112) (lv1 := [(6, .int 20), (7, .int f), (0, .ref 448), (1, .int a), (2, .int b), (3, .int c), (4, .int e), (5, .int f)]) (st1 := []) rfl ?_
  refine q_sg x_40_112 rfl rfl (pc1 := 18) (lv1 := [(6, .int 20), (7, .int f), (0, .ref 448), (1, .int a), (2, .int b), (3, .int c), (4, .int e), (5, .int f)]) (st1 := []) rfl ?_
  exact kk
theorem m_turn20 {G : q_H} (hG : 264 ≤ G.length) {a b c e f : Int32} {d n : Nat} (L : List (Nat × Int32)) : ∃ E1, q_run (q_callf 4000 d) (q_own 40) (q_maxL 40) (q_ini 40) (q_code 40) (q_ret 40) (n + 6) 18 [(6, .int 20), (7, .int f), (0, .ref 448), (1, .int a), (2, .int b), (3, .int c), (4, .int e), (5, .int f)] [] (m_F G 20 L) 0 0 = some (some (.int 20), E1, 0, 0) := by
  refine ⟨m_F G 20 L, ?_⟩
  refine q_sg x_40_18 rfl rfl (pc1 := 20) (lv1 := [(6, .int 20), (7, .int f), (0, .ref 448), (1, .int a), (2, .int b), (3, .int c), (4, .int e), (5, .int f)]) (st1 := [.int 20]) rfl ?_
  refine q_sg x_40_20 rfl rfl (pc1 := 22) (lv1 := [(6, .int 20), (7, .int f), (0, .ref 448), (1, .int a), (2, .int b), (3, .int c), (4, .int e), (5, .int f)]) (st1 := [.int 20, .int 20]) rfl ?_
  refine q_sg x_40_22 rfl rfl (pc1 := 115) (lv1 := [(6, .int 20), (7, .int f), (0, .ref 448), (1, .int a), (2, .int b), (3, .int c), (4, .int e), (5, .int f)]) (st1 := []) rfl ?_
  refine q_sg x_40_115 rfl rfl (pc1 := 116) (lv1 := [(6, .int 20), (7, .int f), (0, .ref 448), (1, .int a), (2, .int b), (3, .int c), (4, .int e), (5, .int f)]) (st1 := [.ref 448]) rfl ?_
  refine q_s_get x_40_116 rfl (pc1 := 119) rfl (ci := 12) (k := 2) (ns := 0) (by decide +kernel) (q_ob (m_F0 hG 20 L) rfl) (v := .int 20) rfl ?_
  exact q_sr x_40_119 rfl
theorem m_feed {G : q_H} (hG : 264 ≤ G.length) (a b c e f : Int32) (L : List (Nat × Int32)) (d : Nat) : ∃ E1, q_callf 4000 (d + 1) 40 [.ref 448, .int a, .int b, .int c, .int e, .int f] (m_F G 0 L) = some (some (.int 20), E1, 0, 0) := by
  have kk : ∃ E1, q_run (q_callf 4000 d) (q_own 40) (q_maxL 40) (q_ini 40) (q_code 40) (q_ret 40) 3992 18 [(6, .int 0), (0, .ref 448), (1, .int a), (2, .int b), (3, .int c), (4, .int e), (5, .int f)] [] (m_F G 0 L) 0 0 = some (some (.int 20), E1, 0, 0) := m_turn0 hG fun L0 => m_turn1 hG fun L1 => m_turn2 hG fun L2 => m_turn3 hG fun L3 => m_turn4 hG fun L4 => m_turn5 hG fun L5 => m_turn6 hG fun L6 => m_turn7 hG fun L7 => m_turn8 hG fun L8 => m_turn9 hG fun L9 => m_turn10 hG fun L10 => m_turn11 hG fun L11 => m_turn12 hG fun L12 => m_turn13 hG fun L13 => m_turn14 hG fun L14 => m_turn15 hG fun L15 => m_turn16 hG fun L16 => m_turn17 hG fun L17 => m_turn18 hG fun L18 => m_turn19 hG fun L19 => m_turn20 hG L19
  obtain ⟨E1, kk⟩ := kk
  refine ⟨E1, q_cg rfl ?_⟩
  refine q_sg x_40_0 rfl rfl (pc1 := 1) (lv1 := [(0, .ref 448), (1, .int a), (2, .int b), (3, .int c), (4, .int e), (5, .int f)]) (st1 := [.ref 448]) rfl ?_
  refine q_s_get x_40_1 rfl (pc1 := 4) rfl (ci := 12) (k := 2) (ns := 0) (by decide +kernel) (q_ob (m_F0 hG 0 L) rfl) (v := .int 0) rfl ?_
  refine q_sg x_40_4 rfl rfl (pc1 := 6) (lv1 := [(0, .ref 448), (1, .int a), (2, .int b), (3, .int c), (4, .int e), (5, .int f)]) (st1 := [.int 20, .int 0]) rfl ?_
  refine q_sg x_40_6 rfl rfl (pc1 := 7) (lv1 := [(0, .ref 448), (1, .int a), (2, .int b), (3, .int c), (4, .int e), (5, .int f)]) (st1 := [.int 20]) rfl ?_
  refine q_sg x_40_7 rfl rfl (pc1 := 10) (lv1 := [(0, .ref 448), (1, .int a), (2, .int b), (3, .int c), (4, .int e), (5, .int f)]) (st1 := [.int 2000, .int 20]) rfl ?_
  refine q_sg x_40_10 rfl rfl (pc1 := 15) (lv1 := [(0, .ref 448), (1, .int a), (2, .int b), (3, .int c), (4, .int e), (5, .int f)]) (st1 := []) rfl ?_
  refine q_sg x_40_15 rfl rfl (pc1 := 16) (lv1 := [(0, .ref 448), (1, .int a), (2, .int b), (3, .int c), (4, .int e), (5, .int f)]) (st1 := [.int 0]) rfl ?_
  refine q_sg x_40_16 rfl rfl (pc1 := 18) (lv1 := [(6, .int 0), (0, .ref 448), (1, .int a), (2, .int b), (3, .int c), (4, .int e), (5, .int f)]) (st1 := []) rfl ?_
  exact kk
def q_two (yH yM : Nat) (as : List Value) : Prop := ∃ (v : Int32) (E1 E2 : q_H), q_callf 4000 20 yH (.ref 0 :: as) p_E = some (some (.int v), E1, 0, 0) ∧ q_callf 4000 20 yM (.ref 448 :: as) E1 = some (some (.int v), E2, 0, 0) ∧ ∃ fs1 fs2 : List Value, q_obj p_E 0 (q_own yH) = some fs1 ∧ q_obj E1 448 (q_own yM) = some fs2
def q_chB (yH yM : Nat) (as : List Value) : Bool := match q_callf 4000 20 yH (.ref 0 :: as) p_E with
  | some (some (.int v), E1, 0, 0) => (match q_callf 4000 20 yM (.ref 448 :: as) E1 with
    | some (some (.int w), _, 0, 0) => decide (w = v)
    | _ => false) && (q_obj p_E 0 (q_own yH)).isSome && (q_obj E1 448 (q_own yM)).isSome
  | _ => false
theorem q_chB_s {yH yM : Nat} {as : List Value} (h : q_chB yH yM as = true) : q_two yH yM as := by
  unfold q_chB at h
  split at h
  · rename_i v E1 e1
    simp only [Bool.and_eq_true] at h
    obtain ⟨⟨h, h2⟩, h3⟩ := h
    obtain ⟨fs1, h2⟩ := Option.isSome_iff_exists.mp h2
    obtain ⟨fs2, h3⟩ := Option.isSome_iff_exists.mp h3
    split at h
    · rename_i w E2 e2
      have := of_decide_eq_true h
      subst this
      exact ⟨w, E1, E2, e1, e2, fs1, fs2, h2, h3⟩
    · cases h
  · cases h
theorem q_two_same {yH yM : Nat} {as : List Value} {v : Int32} (hH : q_own yH = 11) (hM : q_own yM = 12) (h1 : q_callf 4000 20 yH (.ref 0 :: as) p_E = some (some (.int v), p_E, 0, 0)) (h2 : q_callf 4000 20 yM (.ref 448 :: as) p_E = some (some (.int v), p_E, 0, 0)) : q_two yH yM as :=
  ⟨v, p_E, p_E, h1, h2, _, _, by rw [hH]; exact q_ob e_0 rfl, by rw [hM]; exact q_ob e_224 rfl⟩
theorem p_len : 264 ≤ p_E.length := by decide +kernel
theorem two_feed (a b c e f : Int32) : q_two 16 40 [.int a, .int b, .int c, .int e, .int f] := by
  have h1 := h_feed p_len a b c e f [(2, 3), (0, 10)] 18
  rw [h_F_eq e_0 e_2] at h1
  obtain ⟨E2, h2⟩ := m_feed (G := h_F p_E 20 (h_L 16 f (h_L 12 e (h_L 8 c (h_L 4 b (h_L 0 a [(2, 3), (0, 10)])))))) (by unfold h_F; rw [List.length_set, List.length_set]; exact p_len) a b c e f [] 19
  rw [m_F_eq (by unfold h_F; rw [List.getElem?_set_ne (by decide), List.getElem?_set_ne (by decide)]; exact e_224) (by unfold h_F; rw [List.getElem?_set_ne (by decide), List.getElem?_set_ne (by decide)]; exact e_226)] at h2
  exact ⟨_, _, E2, h1, h2, _, _, q_ob e_0 rfl, q_ob (by unfold h_F; rw [List.getElem?_set_ne (by decide), List.getElem?_set_ne (by decide)]; exact e_224) rfl⟩
set_option maxRecDepth 100000 in
theorem two_ask0 : q_chB 18 41 [.int 0] = true := by decide +kernel
theorem two_ask (k : Int32) : q_two 18 41 [.int k] := by
  by_cases hk : k < 0
  · exact q_two_same rfl rfl (s_askB hk) (t_askB hk)
  · by_cases h0 : k ≤ 0
    · have : k = 0 := Int32.le_antisymm h0 (Int32.not_lt.mp hk)
      subst this
      exact q_chB_s two_ask0
    · exact q_two_same rfl rfl (s_askC hk h0) (t_askC hk h0)
theorem two_answer (k : Int32) : q_two 21 56 [.int k] := q_two_same rfl rfl (s_ans k 19) (t_ans k 19)
theorem two_number (a k : Int32) : q_two 23 59 [.int a, .int k] := q_two_same rfl rfl (s_num a k 18) (t_num a k 18)
theorem two_size (a k : Int32) : q_two 24 60 [.int a, .int k] := q_two_same rfl rfl (s_siz a k 18) (t_siz a k 18)
theorem two_byteAt (a k i : Int32) : q_two 25 61 [.int a, .int k, .int i] := q_two_same rfl rfl (s_byt a k i 18) (t_byt a k i 18)
set_option maxRecDepth 100000 in
theorem two_st : [0, 1, 2, 3, 4, 5, 6, 7].all (fun k : Int32 => q_chB 22 57 [.int k]) = true := by decide +kernel
theorem two_state (k : Int32) : q_two 22 57 [.int k] := by
  by_cases hm : k ∈ ([0, 1, 2, 3, 4, 5, 6, 7] : List Int32)
  · exact q_chB_s (List.all_eq_true.mp two_st k hm)
  · simp only [List.mem_cons, List.not_mem_nil, or_false, not_or] at hm
    obtain ⟨h0, h1, h2, h3, h4, h5, h6, h7⟩ := hm
    have hq : k.toInt < 0 ∨ 7 < k.toInt := by
      have g0 : k.toInt ≠ 0 := fun h => h0 (Int32.toInt_inj.mp h)
      have g1 : k.toInt ≠ 1 := fun h => h1 (Int32.toInt_inj.mp h)
      have g2 : k.toInt ≠ 2 := fun h => h2 (Int32.toInt_inj.mp h)
      have g3 : k.toInt ≠ 3 := fun h => h3 (Int32.toInt_inj.mp h)
      have g4 : k.toInt ≠ 4 := fun h => h4 (Int32.toInt_inj.mp h)
      have g5 : k.toInt ≠ 5 := fun h => h5 (Int32.toInt_inj.mp h)
      have g6 : k.toInt ≠ 6 := fun h => h6 (Int32.toInt_inj.mp h)
      have g7 : k.toInt ≠ 7 := fun h => h7 (Int32.toInt_inj.mp h)
      omega
    exact q_two_same rfl rfl (s_sta hq) (t_sta h0 h1 h2 h3 h4 h5 h6 h7)
