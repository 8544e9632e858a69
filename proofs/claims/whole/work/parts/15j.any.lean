/-! methods whose sums wrap around -/
section WRAPS
theorem wm_X7_next {d : Nat} {M : g_M} {Q : Int → g_M → Prop} {a0 : Nat} {v1 : Int} (hv1 : g_InR v1) (h : g_ok M → ((v1 < 0 → ∃ n1, g_A M a0 0 n1 ∧ g_InR n1 ∧ Q n1 M) ∧ (¬ v1 < 0 → ∃ n4, g_A M a0 0 n4 ∧ g_InR n4 ∧ ((v1 < n4 → g_Run d 111 17 [(0, .ref a0), (1, g_n v1), (2, g_n (g_w32 (v1 + 1)))] [] M (g_qI Q)) ∧ (¬ v1 < n4 → g_InR n4 ∧ Q n4 M))))) : g_Call (d + 1) 111 [.ref a0, g_n v1] M (g_qI Q) := by
  refine g_Call.ok fun hok0 => ?_
  replace h := h hok0
  refine r_body rfl (lv := [(0, .ref a0), (1, g_n v1)]) rfl ?_
  refine g_Run.ok fun hok => ?_
  refine r_iload_n x_111_0 rfl ?_
  refine r_if_lt x_111_1 (t := 10) (by decide +kernel) hv1 (fun hc => ?_) (fun hc => ?_)
  · replace h := h.1 hc
    refine r_aload_n x_111_10 rfl ?_
    obtain ⟨n1, hA2, h⟩ := h
    refine r_alen x_111_11 hA2 ?_
    obtain ⟨h3, h⟩ := h
    exact r_retI x_111_12 rfl h3 h
  · replace h := h.2 hc
    refine r_iload_n x_111_4 rfl ?_
    refine r_aload_n x_111_5 rfl ?_
    obtain ⟨n4, hA5, h⟩ := h
    refine r_alen x_111_6 hA5 ?_
    obtain ⟨h6, h⟩ := h
    refine r_ic_lt x_111_7 (t := 13) (by decide +kernel) hv1 h6 (fun hc => ?_) (fun hc => ?_)
    · replace h := h.1 hc
      refine r_iload_n x_111_13 rfl ?_
      refine r_iconst x_111_14 ?_
      refine r_iaddW x_111_15 ?_
      refine r_istore_n x_111_16 (by decide +kernel) rfl (lv1 := [(0, .ref a0), (1, g_n v1), (2, g_n (g_w32 (v1 + 1)))]) rfl ?_
      exact h
    · replace h := h.2 hc
      refine r_aload_n x_111_10 rfl ?_
      refine r_alen x_111_11 hA5 ?_
      obtain ⟨h7, h⟩ := h
      exact r_retI x_111_12 rfl h7 h
theorem ws_X7_next_17 {d : Nat} {M : g_M} {Q : Int → g_M → Prop} {a0 : Nat} {v1 : Int} (hv1 : g_InR v1) {v2 : Int} (hv2 : g_InR v2) (h : g_ok M → ∃ n1, g_A M a0 0 n1 ∧ g_InR n1 ∧ ((v2 < n1 → ((0 : Int) ≤ v2 ∧ (v2 : Int) < n1) ∧ ((g_i M a0 v2 = 0 → g_Run d 111 38 [(0, .ref a0), (1, g_n v1), (2, g_n v2)] [] M (g_qI Q)) ∧ (¬ g_i M a0 v2 = 0 → g_InR (v2 + 1) ∧ g_Run d 111 17 [(0, .ref a0), (1, g_n v1), (2, g_n (v2 + 1))] [] M (g_qI Q)))) ∧ (¬ v2 < n1 → g_Run d 111 38 [(0, .ref a0), (1, g_n v1), (2, g_n v2)] [] M (g_qI Q)))) : g_Run d 111 17 [(0, .ref a0), (1, g_n v1), (2, g_n v2)] [] M (g_qI Q) := by
  refine g_Run.ok fun hok => ?_
  replace h := h hok
  refine r_iload_n x_111_17 rfl ?_
  refine r_aload_n x_111_18 rfl ?_
  obtain ⟨n1, hA2, h⟩ := h
  refine r_alen x_111_19 hA2 ?_
  obtain ⟨h3, h⟩ := h
  refine r_ic_ge x_111_20 (t := 38) (by decide +kernel) hv2 h3 (fun hc => ?_) (fun hc => ?_)
  · replace h := h.2 hc
    exact h
  · replace h := h.1 hc
    refine r_aload_n x_111_23 rfl ?_
    refine r_iload_n x_111_24 rfl ?_
    obtain ⟨h4, h⟩ := h
    refine r_bald x_111_25 (Or.inl rfl) hA2 hv2 h4.1 h4.2 ?_
    refine r_if_ne x_111_26 (t := 32) (by decide +kernel) (hok.1 _ _) (fun hc => ?_) (fun hc => ?_)
    · replace h := h.2 hc
      obtain ⟨h5, h⟩ := h
      refine r_iinc x_111_32 (by decide +kernel) rfl rfl (lv1 := [(0, .ref a0), (1, g_n v1), (2, g_n (v2 + 1))]) rfl ?_
      refine r_goto x_111_35 (t := 17) (by decide +kernel) ?_
      exact h
    · replace h := h.1 hc
      refine r_goto x_111_29 (t := 38) (by decide +kernel) ?_
      exact h
theorem ws_X7_next_38 {d : Nat} {M : g_M} {Q : Int → g_M → Prop} {a0 : Nat} {v1 : Int} (hv1 : g_InR v1) {v2 : Int} (hv2 : g_InR v2) (h : g_ok M → g_InR (v2 + 1) ∧ ∃ n2, g_A M a0 0 n2 ∧ ((0 : Int) ≤ v1 ∧ (v1 : Int) < n2) ∧ ((g_i M a0 v1 = 2 → g_InR n2 ∧ ((n2 < g_w32 ((v2 + 1) + 4) → g_InR n2 ∧ Q n2 M) ∧ (¬ n2 < g_w32 ((v2 + 1) + 4) → ((0 : Int) ≤ v2 + 1 ∧ (v2 + 1 : Int) < n2) ∧ ((0 : Int) ≤ g_w32 ((v2 + 1) + 1) ∧ (g_w32 ((v2 + 1) + 1) : Int) < n2) ∧ ((0 : Int) ≤ g_w32 ((v2 + 1) + 2) ∧ (g_w32 ((v2 + 1) + 2) : Int) < n2) ∧ ((0 : Int) ≤ g_w32 ((v2 + 1) + 3) ∧ (g_w32 ((v2 + 1) + 3) : Int) < n2) ∧ ((0 : Int) ≤ v1 ∧ (v1 : Int) < n2) ∧ ((g_i M a0 v1 = 2 → Q (g_w32 ((g_w32 ((v2 + 1) + 4)) + (g_or (g_or (g_or (g_and (g_i M a0 (v2 + 1)) 255) (g_shl (g_and (g_i M a0 (g_w32 ((v2 + 1) + 1))) 255) 8)) (g_shl (g_and (g_i M a0 (g_w32 ((v2 + 1) + 2))) 255) 16)) (g_shl (g_i M a0 (g_w32 ((v2 + 1) + 3))) 24)))) M) ∧ (¬ g_i M a0 v1 = 2 → Q (g_w32 ((v2 + 1) + (g_or (g_or (g_or (g_and (g_i M a0 (v2 + 1)) 255) (g_shl (g_and (g_i M a0 (g_w32 ((v2 + 1) + 1))) 255) 8)) (g_shl (g_and (g_i M a0 (g_w32 ((v2 + 1) + 2))) 255) 16)) (g_shl (g_i M a0 (g_w32 ((v2 + 1) + 3))) 24)))) M))))) ∧ (¬ g_i M a0 v1 = 2 → ((g_i M a0 v1 = 3 → g_InR n2 ∧ ((n2 < g_w32 ((v2 + 1) + 4) → g_InR n2 ∧ Q n2 M) ∧ (¬ n2 < g_w32 ((v2 + 1) + 4) → ((0 : Int) ≤ v2 + 1 ∧ (v2 + 1 : Int) < n2) ∧ ((0 : Int) ≤ g_w32 ((v2 + 1) + 1) ∧ (g_w32 ((v2 + 1) + 1) : Int) < n2) ∧ ((0 : Int) ≤ g_w32 ((v2 + 1) + 2) ∧ (g_w32 ((v2 + 1) + 2) : Int) < n2) ∧ ((0 : Int) ≤ g_w32 ((v2 + 1) + 3) ∧ (g_w32 ((v2 + 1) + 3) : Int) < n2) ∧ ((0 : Int) ≤ v1 ∧ (v1 : Int) < n2) ∧ ((g_i M a0 v1 = 2 → Q (g_w32 ((g_w32 ((v2 + 1) + 4)) + (g_or (g_or (g_or (g_and (g_i M a0 (v2 + 1)) 255) (g_shl (g_and (g_i M a0 (g_w32 ((v2 + 1) + 1))) 255) 8)) (g_shl (g_and (g_i M a0 (g_w32 ((v2 + 1) + 2))) 255) 16)) (g_shl (g_i M a0 (g_w32 ((v2 + 1) + 3))) 24)))) M) ∧ (¬ g_i M a0 v1 = 2 → Q (g_w32 ((v2 + 1) + (g_or (g_or (g_or (g_and (g_i M a0 (v2 + 1)) 255) (g_shl (g_and (g_i M a0 (g_w32 ((v2 + 1) + 1))) 255) 8)) (g_shl (g_and (g_i M a0 (g_w32 ((v2 + 1) + 2))) 255) 16)) (g_shl (g_i M a0 (g_w32 ((v2 + 1) + 3))) 24)))) M))))) ∧ (¬ g_i M a0 v1 = 3 → ((g_i M a0 v1 = 4 → g_InR n2 ∧ ((n2 < g_w32 ((v2 + 1) + 4) → g_InR n2 ∧ Q n2 M) ∧ (¬ n2 < g_w32 ((v2 + 1) + 4) → ((0 : Int) ≤ v2 + 1 ∧ (v2 + 1 : Int) < n2) ∧ ((0 : Int) ≤ g_w32 ((v2 + 1) + 1) ∧ (g_w32 ((v2 + 1) + 1) : Int) < n2) ∧ ((0 : Int) ≤ g_w32 ((v2 + 1) + 2) ∧ (g_w32 ((v2 + 1) + 2) : Int) < n2) ∧ ((0 : Int) ≤ g_w32 ((v2 + 1) + 3) ∧ (g_w32 ((v2 + 1) + 3) : Int) < n2) ∧ ((0 : Int) ≤ v1 ∧ (v1 : Int) < n2) ∧ ((g_i M a0 v1 = 2 → Q (g_w32 ((g_w32 ((v2 + 1) + 4)) + (g_or (g_or (g_or (g_and (g_i M a0 (v2 + 1)) 255) (g_shl (g_and (g_i M a0 (g_w32 ((v2 + 1) + 1))) 255) 8)) (g_shl (g_and (g_i M a0 (g_w32 ((v2 + 1) + 2))) 255) 16)) (g_shl (g_i M a0 (g_w32 ((v2 + 1) + 3))) 24)))) M) ∧ (¬ g_i M a0 v1 = 2 → Q (g_w32 ((v2 + 1) + (g_or (g_or (g_or (g_and (g_i M a0 (v2 + 1)) 255) (g_shl (g_and (g_i M a0 (g_w32 ((v2 + 1) + 1))) 255) 8)) (g_shl (g_and (g_i M a0 (g_w32 ((v2 + 1) + 2))) 255) 16)) (g_shl (g_i M a0 (g_w32 ((v2 + 1) + 3))) 24)))) M))))) ∧ (¬ g_i M a0 v1 = 4 → ((g_i M a0 v1 = 5 → Q (v2 + 1) M) ∧ (¬ g_i M a0 v1 = 5 → ((g_i M a0 v1 = 6 → Q (v2 + 1) M) ∧ (¬ g_i M a0 v1 = 6 → ((g_i M a0 v1 = 7 → Q (v2 + 1) M) ∧ (¬ g_i M a0 v1 = 7 → ((g_i M a0 v1 = 8 → Q (g_w32 ((v2 + 1) + 1)) M) ∧ (¬ g_i M a0 v1 = 8 → ((g_i M a0 v1 = 9 → Q (v2 + 1) M) ∧ (¬ g_i M a0 v1 = 9 → ((g_i M a0 v1 = 10 → Q (v2 + 1) M) ∧ (¬ g_i M a0 v1 = 10 → ((g_i M a0 v1 = 11 → Q (v2 + 1) M) ∧ (¬ g_i M a0 v1 = 11 → ((g_i M a0 v1 = 12 → Q (v2 + 1) M) ∧ (¬ g_i M a0 v1 = 12 → ((g_i M a0 v1 = 13 → Q (v2 + 1) M) ∧ (¬ g_i M a0 v1 = 13 → ((g_i M a0 v1 = 14 → Q (v2 + 1) M) ∧ (¬ g_i M a0 v1 = 14 → ((g_i M a0 v1 = 15 → Q (v2 + 1) M) ∧ (¬ g_i M a0 v1 = 15 → ((g_i M a0 v1 = 16 → Q (g_w32 ((v2 + 1) + 4)) M) ∧ (¬ g_i M a0 v1 = 16 → ((g_i M a0 v1 = 17 → Q (v2 + 1) M) ∧ (¬ g_i M a0 v1 = 17 → ((g_i M a0 v1 = 18 → Q (g_w32 ((v2 + 1) + 8)) M) ∧ (¬ g_i M a0 v1 = 18 → Q (v2 + 1) M))))))))))))))))))))))))))))))))))) : g_Run d 111 38 [(0, .ref a0), (1, g_n v1), (2, g_n v2)] [] M (g_qI Q) := by
  refine g_Run.ok fun hok => ?_
  replace h := h hok
  obtain ⟨h1, h⟩ := h
  refine r_iinc x_111_38 (by decide +kernel) rfl rfl (lv1 := [(0, .ref a0), (1, g_n v1), (2, g_n (v2 + 1))]) rfl ?_
  refine r_aload_n x_111_41 rfl ?_
  refine r_iload_n x_111_42 rfl ?_
  obtain ⟨n2, hA3, h⟩ := h
  obtain ⟨h4, h⟩ := h
  refine r_bald x_111_43 (Or.inl rfl) hA3 hv1 h4.1 h4.2 ?_
  by_cases hk12 : g_i M a0 v1 = 2
  · refine r_tableAt x_111_44 hk12 (t := 141) (g_Rk rfl) (by decide +kernel) ?_
    replace h := h.1 hk12
    refine r_goto x_111_141 (t := 146) (by decide +kernel) ?_
    refine r_iload_n x_111_146 rfl ?_
    refine r_iconst x_111_147 ?_
    refine r_iaddW x_111_148 ?_
    refine r_aload_n x_111_149 rfl ?_
    refine r_alen x_111_150 hA3 ?_
    obtain ⟨h5, h⟩ := h
    refine r_ic_le x_111_151 (t := 157) (by decide +kernel) (g_InR_toInt _) h5 (fun hc => ?_) (fun hc => ?_)
    · replace h := h.2 hc
      refine r_aload_n x_111_157 rfl ?_
      refine r_iload_n x_111_158 rfl ?_
      obtain ⟨h6, h⟩ := h
      refine r_bald x_111_159 (Or.inl rfl) hA3 h1 h6.1 h6.2 ?_
      refine r_sipush x_111_160 (x := 255) rfl ?_
      refine r_iand x_111_163 ?_
      refine r_aload_n x_111_164 rfl ?_
      refine r_iload_n x_111_165 rfl ?_
      refine r_iconst x_111_166 ?_
      refine r_iaddW x_111_167 ?_
      obtain ⟨h7, h⟩ := h
      refine r_bald x_111_168 (Or.inl rfl) hA3 (g_InR_toInt _) h7.1 h7.2 ?_
      refine r_sipush x_111_169 (x := 255) rfl ?_
      refine r_iand x_111_172 ?_
      refine r_bipush x_111_173 (x := 8) rfl ?_
      refine r_ishl x_111_175 ?_
      refine r_ior x_111_176 ?_
      refine r_aload_n x_111_177 rfl ?_
      refine r_iload_n x_111_178 rfl ?_
      refine r_iconst x_111_179 ?_
      refine r_iaddW x_111_180 ?_
      obtain ⟨h8, h⟩ := h
      refine r_bald x_111_181 (Or.inl rfl) hA3 (g_InR_toInt _) h8.1 h8.2 ?_
      refine r_sipush x_111_182 (x := 255) rfl ?_
      refine r_iand x_111_185 ?_
      refine r_bipush x_111_186 (x := 16) rfl ?_
      refine r_ishl x_111_188 ?_
      refine r_ior x_111_189 ?_
      refine r_aload_n x_111_190 rfl ?_
      refine r_iload_n x_111_191 rfl ?_
      refine r_iconst x_111_192 ?_
      refine r_iaddW x_111_193 ?_
      obtain ⟨h9, h⟩ := h
      refine r_bald x_111_194 (Or.inl rfl) hA3 (g_InR_toInt _) h9.1 h9.2 ?_
      refine r_bipush x_111_195 (x := 24) rfl ?_
      refine r_ishl x_111_197 ?_
      refine r_ior x_111_198 ?_
      refine r_istore_n x_111_199 (by decide +kernel) rfl (lv1 := [(0, .ref a0), (1, g_n v1), (2, g_n (v2 + 1)), (3, g_n (g_or (g_or (g_or (g_and (g_i M a0 (v2 + 1)) 255) (g_shl (g_and (g_i M a0 (g_w32 ((v2 + 1) + 1))) 255) 8)) (g_shl (g_and (g_i M a0 (g_w32 ((v2 + 1) + 2))) 255) 16)) (g_shl (g_i M a0 (g_w32 ((v2 + 1) + 3))) 24)))]) rfl ?_
      refine r_aload_n x_111_200 rfl ?_
      refine r_iload_n x_111_201 rfl ?_
      obtain ⟨h10, h⟩ := h
      refine r_bald x_111_202 (Or.inl rfl) hA3 hv1 h10.1 h10.2 ?_
      refine r_iconst x_111_203 ?_
      refine r_ic_ne x_111_204 (t := 215) (by decide +kernel) (hok.1 _ _) (g_Rk rfl) (fun hc => ?_) (fun hc => ?_)
      · replace h := h.2 hc
        refine r_iload_n x_111_215 rfl ?_
        refine r_iload_n x_111_216 rfl ?_
        refine r_iaddW x_111_217 ?_
        exact r_retI x_111_218 rfl (g_InR_toInt _) h
      · replace h := h.1 hc
        refine r_iload_n x_111_207 rfl ?_
        refine r_iconst x_111_208 ?_
        refine r_iaddW x_111_209 ?_
        refine r_iload_n x_111_210 rfl ?_
        refine r_iaddW x_111_211 ?_
        refine r_goto x_111_212 (t := 218) (by decide +kernel) ?_
        exact r_retI x_111_218 rfl (g_InR_toInt _) h
    · replace h := h.1 hc
      refine r_aload_n x_111_154 rfl ?_
      refine r_alen x_111_155 hA3 ?_
      obtain ⟨h11, h⟩ := h
      exact r_retI x_111_156 rfl h11 h
  replace h := h.2 hk12
  by_cases hk20 : g_i M a0 v1 = 3
  · refine r_tableAt x_111_44 hk20 (t := 141) (g_Rk rfl) (by decide +kernel) ?_
    replace h := h.1 hk20
    refine r_goto x_111_141 (t := 146) (by decide +kernel) ?_
    refine r_iload_n x_111_146 rfl ?_
    refine r_iconst x_111_147 ?_
    refine r_iaddW x_111_148 ?_
    refine r_aload_n x_111_149 rfl ?_
    refine r_alen x_111_150 hA3 ?_
    obtain ⟨h13, h⟩ := h
    refine r_ic_le x_111_151 (t := 157) (by decide +kernel) (g_InR_toInt _) h13 (fun hc => ?_) (fun hc => ?_)
    · replace h := h.2 hc
      refine r_aload_n x_111_157 rfl ?_
      refine r_iload_n x_111_158 rfl ?_
      obtain ⟨h14, h⟩ := h
      refine r_bald x_111_159 (Or.inl rfl) hA3 h1 h14.1 h14.2 ?_
      refine r_sipush x_111_160 (x := 255) rfl ?_
      refine r_iand x_111_163 ?_
      refine r_aload_n x_111_164 rfl ?_
      refine r_iload_n x_111_165 rfl ?_
      refine r_iconst x_111_166 ?_
      refine r_iaddW x_111_167 ?_
      obtain ⟨h15, h⟩ := h
      refine r_bald x_111_168 (Or.inl rfl) hA3 (g_InR_toInt _) h15.1 h15.2 ?_
      refine r_sipush x_111_169 (x := 255) rfl ?_
      refine r_iand x_111_172 ?_
      refine r_bipush x_111_173 (x := 8) rfl ?_
      refine r_ishl x_111_175 ?_
      refine r_ior x_111_176 ?_
      refine r_aload_n x_111_177 rfl ?_
      refine r_iload_n x_111_178 rfl ?_
      refine r_iconst x_111_179 ?_
      refine r_iaddW x_111_180 ?_
      obtain ⟨h16, h⟩ := h
      refine r_bald x_111_181 (Or.inl rfl) hA3 (g_InR_toInt _) h16.1 h16.2 ?_
      refine r_sipush x_111_182 (x := 255) rfl ?_
      refine r_iand x_111_185 ?_
      refine r_bipush x_111_186 (x := 16) rfl ?_
      refine r_ishl x_111_188 ?_
      refine r_ior x_111_189 ?_
      refine r_aload_n x_111_190 rfl ?_
      refine r_iload_n x_111_191 rfl ?_
      refine r_iconst x_111_192 ?_
      refine r_iaddW x_111_193 ?_
      obtain ⟨h17, h⟩ := h
      refine r_bald x_111_194 (Or.inl rfl) hA3 (g_InR_toInt _) h17.1 h17.2 ?_
      refine r_bipush x_111_195 (x := 24) rfl ?_
      refine r_ishl x_111_197 ?_
      refine r_ior x_111_198 ?_
      refine r_istore_n x_111_199 (by decide +kernel) rfl (lv1 := [(0, .ref a0), (1, g_n v1), (2, g_n (v2 + 1)), (3, g_n (g_or (g_or (g_or (g_and (g_i M a0 (v2 + 1)) 255) (g_shl (g_and (g_i M a0 (g_w32 ((v2 + 1) + 1))) 255) 8)) (g_shl (g_and (g_i M a0 (g_w32 ((v2 + 1) + 2))) 255) 16)) (g_shl (g_i M a0 (g_w32 ((v2 + 1) + 3))) 24)))]) rfl ?_
      refine r_aload_n x_111_200 rfl ?_
      refine r_iload_n x_111_201 rfl ?_
      obtain ⟨h18, h⟩ := h
      refine r_bald x_111_202 (Or.inl rfl) hA3 hv1 h18.1 h18.2 ?_
      refine r_iconst x_111_203 ?_
      refine r_ic_ne x_111_204 (t := 215) (by decide +kernel) (hok.1 _ _) (g_Rk rfl) (fun hc => ?_) (fun hc => ?_)
      · replace h := h.2 hc
        refine r_iload_n x_111_215 rfl ?_
        refine r_iload_n x_111_216 rfl ?_
        refine r_iaddW x_111_217 ?_
        exact r_retI x_111_218 rfl (g_InR_toInt _) h
      · replace h := h.1 hc
        refine r_iload_n x_111_207 rfl ?_
        refine r_iconst x_111_208 ?_
        refine r_iaddW x_111_209 ?_
        refine r_iload_n x_111_210 rfl ?_
        refine r_iaddW x_111_211 ?_
        refine r_goto x_111_212 (t := 218) (by decide +kernel) ?_
        exact r_retI x_111_218 rfl (g_InR_toInt _) h
    · replace h := h.1 hc
      refine r_aload_n x_111_154 rfl ?_
      refine r_alen x_111_155 hA3 ?_
      obtain ⟨h19, h⟩ := h
      exact r_retI x_111_156 rfl h19 h
  replace h := h.2 hk20
  by_cases hk28 : g_i M a0 v1 = 4
  · refine r_tableAt x_111_44 hk28 (t := 141) (g_Rk rfl) (by decide +kernel) ?_
    replace h := h.1 hk28
    refine r_goto x_111_141 (t := 146) (by decide +kernel) ?_
    refine r_iload_n x_111_146 rfl ?_
    refine r_iconst x_111_147 ?_
    refine r_iaddW x_111_148 ?_
    refine r_aload_n x_111_149 rfl ?_
    refine r_alen x_111_150 hA3 ?_
    obtain ⟨h21, h⟩ := h
    refine r_ic_le x_111_151 (t := 157) (by decide +kernel) (g_InR_toInt _) h21 (fun hc => ?_) (fun hc => ?_)
    · replace h := h.2 hc
      refine r_aload_n x_111_157 rfl ?_
      refine r_iload_n x_111_158 rfl ?_
      obtain ⟨h22, h⟩ := h
      refine r_bald x_111_159 (Or.inl rfl) hA3 h1 h22.1 h22.2 ?_
      refine r_sipush x_111_160 (x := 255) rfl ?_
      refine r_iand x_111_163 ?_
      refine r_aload_n x_111_164 rfl ?_
      refine r_iload_n x_111_165 rfl ?_
      refine r_iconst x_111_166 ?_
      refine r_iaddW x_111_167 ?_
      obtain ⟨h23, h⟩ := h
      refine r_bald x_111_168 (Or.inl rfl) hA3 (g_InR_toInt _) h23.1 h23.2 ?_
      refine r_sipush x_111_169 (x := 255) rfl ?_
      refine r_iand x_111_172 ?_
      refine r_bipush x_111_173 (x := 8) rfl ?_
      refine r_ishl x_111_175 ?_
      refine r_ior x_111_176 ?_
      refine r_aload_n x_111_177 rfl ?_
      refine r_iload_n x_111_178 rfl ?_
      refine r_iconst x_111_179 ?_
      refine r_iaddW x_111_180 ?_
      obtain ⟨h24, h⟩ := h
      refine r_bald x_111_181 (Or.inl rfl) hA3 (g_InR_toInt _) h24.1 h24.2 ?_
      refine r_sipush x_111_182 (x := 255) rfl ?_
      refine r_iand x_111_185 ?_
      refine r_bipush x_111_186 (x := 16) rfl ?_
      refine r_ishl x_111_188 ?_
      refine r_ior x_111_189 ?_
      refine r_aload_n x_111_190 rfl ?_
      refine r_iload_n x_111_191 rfl ?_
      refine r_iconst x_111_192 ?_
      refine r_iaddW x_111_193 ?_
      obtain ⟨h25, h⟩ := h
      refine r_bald x_111_194 (Or.inl rfl) hA3 (g_InR_toInt _) h25.1 h25.2 ?_
      refine r_bipush x_111_195 (x := 24) rfl ?_
      refine r_ishl x_111_197 ?_
      refine r_ior x_111_198 ?_
      refine r_istore_n x_111_199 (by decide +kernel) rfl (lv1 := [(0, .ref a0), (1, g_n v1), (2, g_n (v2 + 1)), (3, g_n (g_or (g_or (g_or (g_and (g_i M a0 (v2 + 1)) 255) (g_shl (g_and (g_i M a0 (g_w32 ((v2 + 1) + 1))) 255) 8)) (g_shl (g_and (g_i M a0 (g_w32 ((v2 + 1) + 2))) 255) 16)) (g_shl (g_i M a0 (g_w32 ((v2 + 1) + 3))) 24)))]) rfl ?_
      refine r_aload_n x_111_200 rfl ?_
      refine r_iload_n x_111_201 rfl ?_
      obtain ⟨h26, h⟩ := h
      refine r_bald x_111_202 (Or.inl rfl) hA3 hv1 h26.1 h26.2 ?_
      refine r_iconst x_111_203 ?_
      refine r_ic_ne x_111_204 (t := 215) (by decide +kernel) (hok.1 _ _) (g_Rk rfl) (fun hc => ?_) (fun hc => ?_)
      · replace h := h.2 hc
        refine r_iload_n x_111_215 rfl ?_
        refine r_iload_n x_111_216 rfl ?_
        refine r_iaddW x_111_217 ?_
        exact r_retI x_111_218 rfl (g_InR_toInt _) h
      · replace h := h.1 hc
        refine r_iload_n x_111_207 rfl ?_
        refine r_iconst x_111_208 ?_
        refine r_iaddW x_111_209 ?_
        refine r_iload_n x_111_210 rfl ?_
        refine r_iaddW x_111_211 ?_
        refine r_goto x_111_212 (t := 218) (by decide +kernel) ?_
        exact r_retI x_111_218 rfl (g_InR_toInt _) h
    · replace h := h.1 hc
      refine r_aload_n x_111_154 rfl ?_
      refine r_alen x_111_155 hA3 ?_
      obtain ⟨h27, h⟩ := h
      exact r_retI x_111_156 rfl h27 h
  replace h := h.2 hk28
  by_cases hk29 : g_i M a0 v1 = 5
  · refine r_tableAt x_111_44 hk29 (t := 144) (g_Rk rfl) (by decide +kernel) ?_
    replace h := h.1 hk29
    refine r_iload_n x_111_144 rfl ?_
    exact r_retI x_111_145 rfl h1 h
  replace h := h.2 hk29
  by_cases hk30 : g_i M a0 v1 = 6
  · refine r_tableAt x_111_44 hk30 (t := 144) (g_Rk rfl) (by decide +kernel) ?_
    replace h := h.1 hk30
    refine r_iload_n x_111_144 rfl ?_
    exact r_retI x_111_145 rfl h1 h
  replace h := h.2 hk30
  by_cases hk31 : g_i M a0 v1 = 7
  · refine r_tableAt x_111_44 hk31 (t := 144) (g_Rk rfl) (by decide +kernel) ?_
    replace h := h.1 hk31
    refine r_iload_n x_111_144 rfl ?_
    exact r_retI x_111_145 rfl h1 h
  replace h := h.2 hk31
  by_cases hk32 : g_i M a0 v1 = 8
  · refine r_tableAt x_111_44 hk32 (t := 137) (g_Rk rfl) (by decide +kernel) ?_
    replace h := h.1 hk32
    refine r_iload_n x_111_137 rfl ?_
    refine r_iconst x_111_138 ?_
    refine r_iaddW x_111_139 ?_
    exact r_retI x_111_140 rfl (g_InR_toInt _) h
  replace h := h.2 hk32
  by_cases hk33 : g_i M a0 v1 = 9
  · refine r_tableAt x_111_44 hk33 (t := 144) (g_Rk rfl) (by decide +kernel) ?_
    replace h := h.1 hk33
    refine r_iload_n x_111_144 rfl ?_
    exact r_retI x_111_145 rfl h1 h
  replace h := h.2 hk33
  by_cases hk34 : g_i M a0 v1 = 10
  · refine r_tableAt x_111_44 hk34 (t := 144) (g_Rk rfl) (by decide +kernel) ?_
    replace h := h.1 hk34
    refine r_iload_n x_111_144 rfl ?_
    exact r_retI x_111_145 rfl h1 h
  replace h := h.2 hk34
  by_cases hk35 : g_i M a0 v1 = 11
  · refine r_tableAt x_111_44 hk35 (t := 144) (g_Rk rfl) (by decide +kernel) ?_
    replace h := h.1 hk35
    refine r_iload_n x_111_144 rfl ?_
    exact r_retI x_111_145 rfl h1 h
  replace h := h.2 hk35
  by_cases hk36 : g_i M a0 v1 = 12
  · refine r_tableAt x_111_44 hk36 (t := 144) (g_Rk rfl) (by decide +kernel) ?_
    replace h := h.1 hk36
    refine r_iload_n x_111_144 rfl ?_
    exact r_retI x_111_145 rfl h1 h
  replace h := h.2 hk36
  by_cases hk37 : g_i M a0 v1 = 13
  · refine r_tableAt x_111_44 hk37 (t := 144) (g_Rk rfl) (by decide +kernel) ?_
    replace h := h.1 hk37
    refine r_iload_n x_111_144 rfl ?_
    exact r_retI x_111_145 rfl h1 h
  replace h := h.2 hk37
  by_cases hk38 : g_i M a0 v1 = 14
  · refine r_tableAt x_111_44 hk38 (t := 144) (g_Rk rfl) (by decide +kernel) ?_
    replace h := h.1 hk38
    refine r_iload_n x_111_144 rfl ?_
    exact r_retI x_111_145 rfl h1 h
  replace h := h.2 hk38
  by_cases hk39 : g_i M a0 v1 = 15
  · refine r_tableAt x_111_44 hk39 (t := 144) (g_Rk rfl) (by decide +kernel) ?_
    replace h := h.1 hk39
    refine r_iload_n x_111_144 rfl ?_
    exact r_retI x_111_145 rfl h1 h
  replace h := h.2 hk39
  by_cases hk40 : g_i M a0 v1 = 16
  · refine r_tableAt x_111_44 hk40 (t := 128) (g_Rk rfl) (by decide +kernel) ?_
    replace h := h.1 hk40
    refine r_iload_n x_111_128 rfl ?_
    refine r_iconst x_111_129 ?_
    refine r_iaddW x_111_130 ?_
    exact r_retI x_111_131 rfl (g_InR_toInt _) h
  replace h := h.2 hk40
  by_cases hk41 : g_i M a0 v1 = 17
  · refine r_tableAt x_111_44 hk41 (t := 144) (g_Rk rfl) (by decide +kernel) ?_
    replace h := h.1 hk41
    refine r_iload_n x_111_144 rfl ?_
    exact r_retI x_111_145 rfl h1 h
  replace h := h.2 hk41
  by_cases hk42 : g_i M a0 v1 = 18
  · refine r_tableAt x_111_44 hk42 (t := 132) (g_Rk rfl) (by decide +kernel) ?_
    replace h := h.1 hk42
    refine r_iload_n x_111_132 rfl ?_
    refine r_bipush x_111_133 (x := 8) rfl ?_
    refine r_iaddW x_111_135 ?_
    exact r_retI x_111_136 rfl (g_InR_toInt _) h
  replace h := h.2 hk42
  refine r_tableD x_111_44 (hok.1 _ _) (t := 144) (lo := 2) (hi := 18) (by omega) (by decide +kernel) ?_
  refine r_iload_n x_111_144 rfl ?_
  exact r_retI x_111_145 rfl h1 h
end WRAPS
/-! places that are no elements: the class looks there too -/
section CANY
variable {d a o buf : Nat} {M : g_M} {Q : g_M → Prop} {Qi : Int → g_M → Prop} {n lo lim : Int} {x : List Int}
theorem c_nextAny {p : Int} (hA : g_A M a 0 n) (hn : n ≤ 1000000000) (hp : g_InR p) (h : ∀ r, g_InR r → Qi r M) : g_Call (d + 1) 111 [.ref a, g_n p] M (g_qI Qi) := by
  have hnl := hA.len
  have hnR : g_InR n := ⟨by omega, by omega⟩
  refine wm_X7_next hp fun _ => ⟨fun _ => ⟨n, hA, hnR, h n hnR⟩, fun g => ⟨n, hA, hnR, fun g2 => ?_, fun _ => ⟨hnR, h n hnR⟩⟩⟩
  have h38 : ∀ v2 : Int, p + 1 ≤ v2 → v2 ≤ n → g_Run d 111 38 [(0, .ref a), (1, g_n p), (2, g_n v2)] [] M (g_qI Qi) := by
    intro v2 h1 h2
    have w1 : g_w32 (v2 + 1 + 1) = v2 + 1 + 1 := g_w32_of ⟨by omega, by omega⟩
    have w2 : g_w32 (v2 + 1 + 2) = v2 + 1 + 2 := g_w32_of ⟨by omega, by omega⟩
    have w3 : g_w32 (v2 + 1 + 3) = v2 + 1 + 3 := g_w32_of ⟨by omega, by omega⟩
    have w4 : g_w32 (v2 + 1 + 4) = v2 + 1 + 4 := g_w32_of ⟨by omega, by omega⟩
    refine ws_X7_next_38 hp ⟨by omega, by omega⟩ fun _ => ⟨⟨by omega, by omega⟩, n, hA, ⟨by omega, by omega⟩, ?_⟩
    rw [w1, w2, w3, w4]
    have hall : ∀ r : Int, Qi (g_w32 r) M := fun r => h _ (g_InR_toInt _)
    repeat' first
      | exact hall _
      | exact h _ hnR
      | exact hnR
      | (refine ⟨fun _ => ?_, fun _ => ?_⟩)
      | (refine ⟨?_, ?_⟩)
      | intro _
      | (exact h _ ⟨by omega, by omega⟩)
      | omega
  have h17 : ∀ (r : Nat) (v2 : Int), v2 + r = n → p + 1 ≤ v2 → g_Run d 111 17 [(0, .ref a), (1, g_n p), (2, g_n v2)] [] M (g_qI Qi) := by
    intro r
    induction r with
    | zero =>
      intro v2 hr hv
      exact ws_X7_next_17 hp ⟨by omega, by omega⟩ fun _ => ⟨n, hA, hnR, fun g3 => absurd g3 (by omega), fun _ => h38 v2 hv (by omega)⟩
    | succ r ih =>
      intro v2 hr hv
      refine ws_X7_next_17 hp ⟨by omega, by omega⟩ fun _ => ⟨n, hA, hnR, fun g3 => ⟨⟨by omega, by omega⟩, fun _ => h38 v2 hv (by omega), fun _ => ⟨⟨by omega, by omega⟩, ih (v2 + 1) (by omega) (by omega)⟩⟩, fun g3 => absurd (by omega) g3⟩
  rw [g_w32_of (by exact ⟨by omega, by omega⟩)]
  obtain ⟨r, hr⟩ : ∃ r : Nat, p + 1 + r = n := ⟨(n - (p + 1)).toNat, by omega⟩
  exact h17 r (p + 1) hr (Int.le_refl _)
theorem c_vaAny {p : Int} (hA : g_A M a 0 n) (hn : n ≤ 1000000000) (hp : g_InR p) (h : ∀ r, 0 ≤ r → r ≤ n → Qi r M) : g_Call (d + 1) 110 [.ref a, g_n p] M (g_qI Qi) := by
  have hnl := hA.len
  have hnR : g_InR n := ⟨by omega, by omega⟩
  have hend : ∀ v2 : Int, g_InR v2 → ¬ v2 < n - 1 → g_Run d 110 11 [(0, .ref a), (1, g_n p), (2, g_n v2)] [] M (g_qI Qi) := fun v2 hv h2 => s_X7_valueAt_11 hp hv fun _ => ⟨n, hA, hnR, ⟨by omega, by omega⟩, fun g => absurd g h2, fun _ => ⟨hnR, h n (by omega) (Int.le_refl _)⟩⟩
  have hlp : ∀ (r : Nat) (v2 : Int), v2 + r = n - 1 → 0 ≤ v2 → g_Run d 110 11 [(0, .ref a), (1, g_n p), (2, g_n v2)] [] M (g_qI Qi) := by
    intro r
    induction r with
    | zero => exact fun v2 hr hv => hend v2 ⟨by omega, by omega⟩ (by omega)
    | succ r ih =>
      intro v2 hr hv
      exact s_X7_valueAt_11 hp ⟨by omega, by omega⟩ fun _ => ⟨n, hA, hnR, ⟨by omega, by omega⟩, fun g => ⟨⟨by omega, by omega⟩, ⟨by omega, by omega⟩, fun _ => ⟨⟨by omega, by omega⟩, h _ (by omega) (by omega)⟩, fun _ => ⟨⟨by omega, by omega⟩, ih (v2 + 1) (by omega) (by omega)⟩⟩, fun g => absurd (by omega) g⟩
  refine m_X7_valueAt hp fun _ => ⟨fun _ => ⟨n, hA, hnR, hend n hnR (by omega)⟩, fun g => ?_⟩
  by_cases g2 : p < n - 1
  · obtain ⟨r, hr⟩ : ∃ r : Nat, p + r = n - 1 := ⟨(n - 1 - p).toNat, by omega⟩
    exact hlp r p hr (by omega)
  · exact hend p hp g2
theorem b_at_some (B : Int → Int) (p : Int) : ∀ l : Nat, ∃ y : List Int, y.length = l ∧ b_at B p y := by
  intro l
  induction l generalizing p with
  | zero => exact ⟨[], rfl, b_nil _ _⟩
  | succ l ih =>
    obtain ⟨y, h1, h2⟩ := ih (p + 1)
    exact ⟨B p :: y, by rw [List.length_cons, h1], b_cons.mpr ⟨rfl, h2⟩⟩
theorem c_copyAny {f t n1 : Int} (h : c_Wr o buf n lo lim x M) (hA : g_A M a 0 n1) (hn1 : n1 ≤ 1000000000) (hf : g_InR f) (ht : g_InR t) (hq : ∀ M1 y, e_fr (c_WL o buf lo lim) M M1 → c_Wr o buf n lo lim (x ++ y) M1 → Q M1) : g_Call (d + 1) 80 [.ref o, .ref a, g_n f, g_n t] M (g_qV Q) := by
  have hover : Q (g_wi M o 3 1) := by
    obtain ⟨w1, w2⟩ := h.2.2.2.fail (ka := 1) (kl := 2) (ko := 3) (by decide) (by decide) (List.replicate (lim - lo + 1).toNat 0) (Or.inr (by rw [List.length_append, List.length_replicate]; omega))
    exact hq _ _ w2 (h.to w2 w1)
  have hnl := hA.len
  by_cases g1 : f < 0
  · refine m_X4_copy hf ht fun _ => ⟨fun _ => ⟨h.1.1, ?_⟩, fun g => absurd g1 g⟩
    rintro M2 rfl _
    exact hover
  by_cases g2 : t < f
  · refine m_X4_copy hf ht fun _ => ⟨fun g => absurd g g1, fun _ => ⟨fun _ => ⟨h.1.1, ?_⟩, fun g => absurd g2 g⟩⟩
    rintro M2 rfl _
    exact hover
  by_cases g3 : n1 < t
  · refine m_X4_copy hf ht fun _ => ⟨fun g => absurd g g1, fun _ => ⟨fun g => absurd g g2, fun _ => ⟨n1, hA, ⟨by omega, by omega⟩, fun _ => ⟨h.1.1, ?_⟩, fun g => absurd g3 g⟩⟩⟩
    rintro M2 rfl _
    exact hover
  obtain ⟨y, y1, y2⟩ := b_at_some (g_i M a) f (t - f).toNat
  have h9 := c_copy (d := d) h hA hn1 y2 (by omega) (by omega) fun M1 f1 W1 => hq M1 y f1 W1
  rwa [show f + (y.length : Int) = t by omega] at h9
theorem c_outAny {p n1 : Int} (h : c_Wr o buf n lo lim x M) (hA : g_A M a 0 n1) (hn1 : n1 ≤ 1000000000) (hp : g_InR p) (hq : ∀ M1 y, e_fr (c_WL o buf lo lim) M M1 → c_Wr o buf n lo lim (x ++ y) M1 → Q M1) : g_Call (d + 2) 84 [.ref o, .ref a, g_n p] M (g_qV Q) := by
  have hnl := hA.len
  refine m_X4_value hp fun _ => c_vaAny (d := d) hA hn1 hp fun r4 h40 h41 => ?_
  intro _ _ _
  refine c_nextAny (d := d) hA hn1 hp fun r9 h9 => ?_
  intro _ _ _
  refine ⟨h.1.1, c_copyAny (d := d) h hA hn1 ⟨by omega, by omega⟩ h9 fun M1 y f1 W1 => ?_⟩
  intro _ _
  exact hq M1 y f1 W1
theorem c_headAny {k p n1 : Int} {y : List Int} (h : c_Wr o buf n lo lim x M) (hk : g_InR k) (hA : g_A M a 0 n1) (hn1 : n1 ≤ 1000000000) (hy : ∀ M1, e_fr (c_WL o buf lo lim) M M1 → b_at (g_i M1 a) p y) (h0 : 0 ≤ p) (h1 : p + y.length ≤ n1) (hq : ∀ M1, e_fr (c_WL o buf lo lim) M M1 → c_Wr o buf n lo lim (x ++ (g_w8 k :: (y ++ [0]))) M1 → Q M1) : g_Call (d + 2) 82 [.ref o, g_n k, .ref a, g_n p, g_n (p + y.length)] M (g_qV Q) := by
  have hnl := hA.len
  refine m_X4_headOf hk ⟨by omega, by omega⟩ ⟨by omega, by omega⟩ fun _ => ⟨h.1.1, c_put (d := d) h hk fun M1 f1 W1 => ?_⟩
  intro _ _
  refine c_copy (d := d) W1 (f1.A hA) hn1 (hy M1 f1) h0 h1 fun M2 f2 W2 => ?_
  intro _ _
  refine c_put (d := d) W2 ⟨by decide, by decide⟩ fun M3 f3 W3 => ?_
  intro _ _
  have ew : x ++ [g_w8 k] ++ y ++ [g_w8 0] = x ++ (g_w8 k :: (y ++ [0])) := by
    rw [show g_w8 0 = 0 from rfl]
    simp
  rw [ew] at W3
  exact hq M3 ((f1.tr f2).tr f3) W3
end CANY
