/-! THE LAW: each of its calls, both answers alike; its loop -/
theorem l_in {i L : Nat} {c : Int32} (j : Nat) (hc : c = Int32.ofInt (j : Int)) (h : i + j < L) (hL : L ≤ 3072) : vp_in (Int32.ofInt (i : Int) + c) L := by
  refine q_in_s ?_
  rw [hc, ← Int32.ofInt_add]
  have hR : g_InR ((i : Int) + (j : Int)) := ⟨by omega, by omega⟩
  have hlt : ¬ Int32.ofInt ((i : Int) + (j : Int)) < 0 := by
    rw [g_of0, g_ofLt hR g_R0]
    omega
  unfold q_in
  rw [g_clamp hR, decide_eq_false hlt, decide_eq_true (by omega)]
  rfl
theorem l_cmp {i L : Nat} (hi : i ≤ 4000) (hL : L ≤ 3072) : (Int32.ofNat L - 6 < Int32.ofInt (i : Int)) ↔ L < i + 6 := by
  have e1 : Int32.ofNat L - 6 = Int32.ofInt ((L : Int) - 6) := by
    rw [Int32.ofInt_sub]
    rfl
  rw [e1, g_ofLt ⟨by omega, by omega⟩ ⟨by omega, by omega⟩]
  omega
/-- a call that is none -/
theorem Z_more {k sl : Nat} {E : q_H} (h : Z_I k E sl) (hk : k < 512) : Z_I (k + 1) E sl := by
  obtain ⟨-, M, ι, κ, ρ, al, sz, cB, eB, S, q, an, F, tp, hE, hsl, hA, hB, hP, hZ, ⟨r1, r2⟩, hW, hgv⟩ := h
  exact ⟨by omega, M, ι, κ, ρ, al, sz, cB, eB, S, q, an, F, tp, hE, hsl, hA, hB, hP, hZ, ⟨by omega, by omega⟩, hW, fun w hw => by have := hgv w hw; omega⟩
section LAW
variable {p : Program} {l : Launch} {e : Env} {s : State} {m : MethodId} {below : List Frame} {meth : Method} {c : Code} {b L : Nat} {xs : Nat → Int32} {D : va_G} {ad : Nat → Nat} {cy : Nat → ClassId} {H : Heap} {locs : List Loc} {cells slots : Nat} {Q : State → Prop} {pc : Nat} {ls : Array Slot}
theorem l_case0 {k sl i : Nat} {E : q_H} (C1 : l_St p s m meth c b L xs D ad cy) (hL : L ≤ 3072) (hi : i + 6 ≤ L) (hZ : Z_I k E sl) (hk : k < 512) (hw : l_W D s ad cy E H) (hS : l_S s H locs) (hl : lv_has ls 4 [(3, .int (Int32.ofInt (i : Int))), (2, .ref (q_rho s.heap.size ad 448)), (1, .ref (q_rho s.heap.size ad 0)), (0, .ref b)]) (kk : ∀ (E2 : q_H) (sl2 : Nat) (H1 : Heap) (locs1 : List Loc), Z_I (k + 1) E2 sl2 → l_W D s ad cy E2 H1 → l_S s H1 locs1 → W p l e room_1 s m #[Value.ref b] below meth c H1 locs1 E2.length sl2 (lw_Z below #[Value.ref b] s) (F0 m 317 ls [])) : W p l e room_1 s m #[Value.ref b] below meth c H locs E.length sl (lw_Z below #[Value.ref b] s) (F0 m 76 ls []) := by
  have C0 := C1
  obtain ⟨⟨hx, hb, hr, hml, hown, hts, hX, hbl, hlocks, hgv⟩, hK, hT, hF⟩ := C0
  have hbA : ¬ (fun q : Nat => s.heap.size ≤ q) b := Nat.not_le.mpr hbl
  obtain ⟨v, E1, E2, c1, s1, c2, s2, F1, F2, fs1, fs2, h1, h2, hob1, hob2, hZ2, hlen⟩ := two_feed hZ hk (xs (Int32.ofInt (i : Int) + 1 : Int32).toNatClampNeg) (xs (Int32.ofInt (i : Int) + 2 : Int32).toNatClampNeg) (xs (Int32.ofInt (i : Int) + 3 : Int32).toNatClampNeg) (xs (Int32.ofInt (i : Int) + 4 : Int32).toNatClampNeg) (xs (Int32.ofInt (i : Int) + 5 : Int32).toNatClampNeg)
  obtain ⟨hr1, hr2⟩ := Z_room hZ2
  refine lv_aload_n hx hb d_law_76 rfl (lv_at hl 2 rfl) ?_
  refine lv_aload_n hx hb d_law_77 rfl (lv_at hl 3 rfl) ?_
  refine lv_iload_n hx hb d_law_78 rfl (lv_at hl 0 rfl) ?_
  refine lv_iconst (v := 1) hx hb d_law_79 (by decide) ?_
  refine lv_iadd hx hb d_law_80 ?_
  refine va_sld hx hb hX hbl hbA hS (l_in 1 rfl (by omega) hL) d_law_81 ?_
  refine lv_aload_n hx hb d_law_82 rfl (lv_at hl 3 rfl) ?_
  refine lv_iload_n hx hb d_law_83 rfl (lv_at hl 0 rfl) ?_
  refine lv_iconst (v := 2) hx hb d_law_84 (by decide) ?_
  refine lv_iadd hx hb d_law_85 ?_
  refine va_sld hx hb hX hbl hbA hS (l_in 2 rfl (by omega) hL) d_law_86 ?_
  refine lv_aload_n hx hb d_law_87 rfl (lv_at hl 3 rfl) ?_
  refine lv_iload_n hx hb d_law_88 rfl (lv_at hl 0 rfl) ?_
  refine lv_iconst (v := 3) hx hb d_law_89 (by decide) ?_
  refine lv_iadd hx hb d_law_90 ?_
  refine va_sld hx hb hX hbl hbA hS (l_in 3 rfl (by omega) hL) d_law_91 ?_
  refine lv_aload_n hx hb d_law_92 rfl (lv_at hl 3 rfl) ?_
  refine lv_iload_n hx hb d_law_93 rfl (lv_at hl 0 rfl) ?_
  refine lv_iconst (v := 4) hx hb d_law_94 (by decide) ?_
  refine lv_iadd hx hb d_law_95 ?_
  refine va_sld hx hb hX hbl hbA hS (l_in 4 rfl (by omega) hL) d_law_96 ?_
  refine lv_aload_n hx hb d_law_97 rfl (lv_at hl 3 rfl) ?_
  refine lv_iload_n hx hb d_law_98 rfl (lv_at hl 0 rfl) ?_
  refine lv_iconst (v := 5) hx hb d_law_99 (by decide) ?_
  refine lv_iadd hx hb d_law_100 ?_
  refine va_sld hx hb hX hbl hbA hS (l_in 5 rfl (by omega) hL) d_law_101 ?_
  refine l_inv (y := 193) (idx := 13) (a := 0) (as := [.int (xs (Int32.ofInt (i : Int) + 1 : Int32).toNatClampNeg), .int (xs (Int32.ofInt (i : Int) + 2 : Int32).toNatClampNeg), .int (xs (Int32.ofInt (i : Int) + 3 : Int32).toNatClampNeg), .int (xs (Int32.ofInt (i : Int) + 4 : Int32).toNatClampNeg), .int (xs (Int32.ofInt (i : Int) + 5 : Int32).toNatClampNeg)]) (rest := []) C1 (by decide) h1 k_law_13 d_law_102 rfl rfl rfl rfl (by decide) hob1 (by decide) (by decide +kernel) (by decide) (by omega) (by omega) hw hS hl.1 (fun H locs hw hS => ?_)
  refine lv_aload_n hx hb d_law_105 rfl (lv_at hl 1 rfl) ?_
  refine lv_aload_n hx hb d_law_106 rfl (lv_at hl 3 rfl) ?_
  refine lv_iload_n hx hb d_law_107 rfl (lv_at hl 0 rfl) ?_
  refine lv_iconst (v := 1) hx hb d_law_108 (by decide) ?_
  refine lv_iadd hx hb d_law_109 ?_
  refine va_sld hx hb hX hbl hbA hS (l_in 1 rfl (by omega) hL) d_law_110 ?_
  refine lv_aload_n hx hb d_law_111 rfl (lv_at hl 3 rfl) ?_
  refine lv_iload_n hx hb d_law_112 rfl (lv_at hl 0 rfl) ?_
  refine lv_iconst (v := 2) hx hb d_law_113 (by decide) ?_
  refine lv_iadd hx hb d_law_114 ?_
  refine va_sld hx hb hX hbl hbA hS (l_in 2 rfl (by omega) hL) d_law_115 ?_
  refine lv_aload_n hx hb d_law_116 rfl (lv_at hl 3 rfl) ?_
  refine lv_iload_n hx hb d_law_117 rfl (lv_at hl 0 rfl) ?_
  refine lv_iconst (v := 3) hx hb d_law_118 (by decide) ?_
  refine lv_iadd hx hb d_law_119 ?_
  refine va_sld hx hb hX hbl hbA hS (l_in 3 rfl (by omega) hL) d_law_120 ?_
  refine lv_aload_n hx hb d_law_121 rfl (lv_at hl 3 rfl) ?_
  refine lv_iload_n hx hb d_law_122 rfl (lv_at hl 0 rfl) ?_
  refine lv_iconst (v := 4) hx hb d_law_123 (by decide) ?_
  refine lv_iadd hx hb d_law_124 ?_
  refine va_sld hx hb hX hbl hbA hS (l_in 4 rfl (by omega) hL) d_law_125 ?_
  refine lv_aload_n hx hb d_law_126 rfl (lv_at hl 3 rfl) ?_
  refine lv_iload_n hx hb d_law_127 rfl (lv_at hl 0 rfl) ?_
  refine lv_iconst (v := 5) hx hb d_law_128 (by decide) ?_
  refine lv_iadd hx hb d_law_129 ?_
  refine va_sld hx hb hX hbl hbA hS (l_in 5 rfl (by omega) hL) d_law_130 ?_
  refine l_inv (y := 425) (idx := 17) (a := 448) (as := [.int (xs (Int32.ofInt (i : Int) + 1 : Int32).toNatClampNeg), .int (xs (Int32.ofInt (i : Int) + 2 : Int32).toNatClampNeg), .int (xs (Int32.ofInt (i : Int) + 3 : Int32).toNatClampNeg), .int (xs (Int32.ofInt (i : Int) + 4 : Int32).toNatClampNeg), .int (xs (Int32.ofInt (i : Int) + 5 : Int32).toNatClampNeg)]) (rest := [.int v]) C1 (by decide) h2 k_law_17 d_law_131 rfl rfl rfl rfl (by decide) hob2 (by decide) (by decide +kernel) (Nat.le_of_ble_eq_true rfl) (by omega) (by omega) hw hS hl.1 (fun H locs hw hS => ?_)
  rw [← hlen]
  refine lv_icmp_eq (tgt := 317) hx hb d_law_134 (by decide) (fun _ => ?_) (fun g => absurd rfl g)
  exact kk E2 _ H locs hZ2 hw hS
theorem l_case1 {k sl i : Nat} {E : q_H} (C1 : l_St p s m meth c b L xs D ad cy) (hL : L ≤ 3072) (hi : i + 6 ≤ L) (hZ : Z_I k E sl) (hk : k < 512) (hw : l_W D s ad cy E H) (hS : l_S s H locs) (hl : lv_has ls 4 [(3, .int (Int32.ofInt (i : Int))), (2, .ref (q_rho s.heap.size ad 448)), (1, .ref (q_rho s.heap.size ad 0)), (0, .ref b)]) (kk : ∀ (E2 : q_H) (sl2 : Nat) (H1 : Heap) (locs1 : List Loc), Z_I (k + 1) E2 sl2 → l_W D s ad cy E2 H1 → l_S s H1 locs1 → W p l e room_1 s m #[Value.ref b] below meth c H1 locs1 E2.length sl2 (lw_Z below #[Value.ref b] s) (F0 m 317 ls [])) : W p l e room_1 s m #[Value.ref b] below meth c H locs E.length sl (lw_Z below #[Value.ref b] s) (F0 m 139 ls []) := by
  have C0 := C1
  obtain ⟨⟨hx, hb, hr, hml, hown, hts, hX, hbl, hlocks, hgv⟩, hK, hT, hF⟩ := C0
  have hbA : ¬ (fun q : Nat => s.heap.size ≤ q) b := Nat.not_le.mpr hbl
  obtain ⟨v, E1, E2, c1, s1, c2, s2, F1, F2, fs1, fs2, h1, h2, hob1, hob2, hZ2, hlen⟩ := two_ask hZ hk (xs (Int32.ofInt (i : Int) + 1 : Int32).toNatClampNeg)
  obtain ⟨hr1, hr2⟩ := Z_room hZ2
  refine lv_aload_n hx hb d_law_139 rfl (lv_at hl 2 rfl) ?_
  refine lv_aload_n hx hb d_law_140 rfl (lv_at hl 3 rfl) ?_
  refine lv_iload_n hx hb d_law_141 rfl (lv_at hl 0 rfl) ?_
  refine lv_iconst (v := 1) hx hb d_law_142 (by decide) ?_
  refine lv_iadd hx hb d_law_143 ?_
  refine va_sld hx hb hX hbl hbA hS (l_in 1 rfl (by omega) hL) d_law_144 ?_
  refine l_inv (y := 195) (idx := 18) (a := 0) (as := [.int (xs (Int32.ofInt (i : Int) + 1 : Int32).toNatClampNeg)]) (rest := []) C1 (by decide) h1 k_law_18 d_law_145 rfl rfl rfl rfl (by decide) hob1 (by decide) (by decide +kernel) (by decide) (by omega) (by omega) hw hS hl.1 (fun H locs hw hS => ?_)
  refine lv_aload_n hx hb d_law_148 rfl (lv_at hl 1 rfl) ?_
  refine lv_aload_n hx hb d_law_149 rfl (lv_at hl 3 rfl) ?_
  refine lv_iload_n hx hb d_law_150 rfl (lv_at hl 0 rfl) ?_
  refine lv_iconst (v := 1) hx hb d_law_151 (by decide) ?_
  refine lv_iadd hx hb d_law_152 ?_
  refine va_sld hx hb hX hbl hbA hS (l_in 1 rfl (by omega) hL) d_law_153 ?_
  refine l_inv (y := 426) (idx := 22) (a := 448) (as := [.int (xs (Int32.ofInt (i : Int) + 1 : Int32).toNatClampNeg)]) (rest := [.int v]) C1 (by decide) h2 k_law_22 d_law_154 rfl rfl rfl rfl (by decide) hob2 (by decide) (by decide +kernel) (Nat.le_of_ble_eq_true rfl) (by omega) (by omega) hw hS hl.1 (fun H locs hw hS => ?_)
  rw [← hlen]
  refine lv_icmp_eq (tgt := 317) hx hb d_law_157 (by decide) (fun _ => ?_) (fun g => absurd rfl g)
  exact kk E2 _ H locs hZ2 hw hS
theorem l_case2 {k sl i : Nat} {E : q_H} (C1 : l_St p s m meth c b L xs D ad cy) (hL : L ≤ 3072) (hi : i + 6 ≤ L) (hZ : Z_I k E sl) (hk : k < 512) (hw : l_W D s ad cy E H) (hS : l_S s H locs) (hl : lv_has ls 4 [(3, .int (Int32.ofInt (i : Int))), (2, .ref (q_rho s.heap.size ad 448)), (1, .ref (q_rho s.heap.size ad 0)), (0, .ref b)]) (kk : ∀ (E2 : q_H) (sl2 : Nat) (H1 : Heap) (locs1 : List Loc), Z_I (k + 1) E2 sl2 → l_W D s ad cy E2 H1 → l_S s H1 locs1 → W p l e room_1 s m #[Value.ref b] below meth c H1 locs1 E2.length sl2 (lw_Z below #[Value.ref b] s) (F0 m 317 ls [])) : W p l e room_1 s m #[Value.ref b] below meth c H locs E.length sl (lw_Z below #[Value.ref b] s) (F0 m 162 ls []) := by
  have C0 := C1
  obtain ⟨⟨hx, hb, hr, hml, hown, hts, hX, hbl, hlocks, hgv⟩, hK, hT, hF⟩ := C0
  have hbA : ¬ (fun q : Nat => s.heap.size ≤ q) b := Nat.not_le.mpr hbl
  obtain ⟨v, E1, E2, c1, s1, c2, s2, F1, F2, fs1, fs2, h1, h2, hob1, hob2, hZ2, hlen⟩ := two_answer hZ hk (xs (Int32.ofInt (i : Int) + 1 : Int32).toNatClampNeg)
  obtain ⟨hr1, hr2⟩ := Z_room hZ2
  refine lv_aload_n hx hb d_law_162 rfl (lv_at hl 2 rfl) ?_
  refine lv_aload_n hx hb d_law_163 rfl (lv_at hl 3 rfl) ?_
  refine lv_iload_n hx hb d_law_164 rfl (lv_at hl 0 rfl) ?_
  refine lv_iconst (v := 1) hx hb d_law_165 (by decide) ?_
  refine lv_iadd hx hb d_law_166 ?_
  refine va_sld hx hb hX hbl hbA hS (l_in 1 rfl (by omega) hL) d_law_167 ?_
  refine l_inv (y := 199) (idx := 23) (a := 0) (as := [.int (xs (Int32.ofInt (i : Int) + 1 : Int32).toNatClampNeg)]) (rest := []) C1 (by decide) h1 k_law_23 d_law_168 rfl rfl rfl rfl (by decide) hob1 (by decide) (by decide +kernel) (by decide) (by omega) (by omega) hw hS hl.1 (fun H locs hw hS => ?_)
  refine lv_aload_n hx hb d_law_171 rfl (lv_at hl 1 rfl) ?_
  refine lv_aload_n hx hb d_law_172 rfl (lv_at hl 3 rfl) ?_
  refine lv_iload_n hx hb d_law_173 rfl (lv_at hl 0 rfl) ?_
  refine lv_iconst (v := 1) hx hb d_law_174 (by decide) ?_
  refine lv_iadd hx hb d_law_175 ?_
  refine va_sld hx hb hX hbl hbA hS (l_in 1 rfl (by omega) hL) d_law_176 ?_
  refine l_inv (y := 427) (idx := 26) (a := 448) (as := [.int (xs (Int32.ofInt (i : Int) + 1 : Int32).toNatClampNeg)]) (rest := [.int v]) C1 (by decide) h2 k_law_26 d_law_177 rfl rfl rfl rfl (by decide) hob2 (by decide) (by decide +kernel) (Nat.le_of_ble_eq_true rfl) (by omega) (by omega) hw hS hl.1 (fun H locs hw hS => ?_)
  rw [← hlen]
  refine lv_icmp_eq (tgt := 317) hx hb d_law_180 (by decide) (fun _ => ?_) (fun g => absurd rfl g)
  exact kk E2 _ H locs hZ2 hw hS
theorem l_case3 {k sl i : Nat} {E : q_H} (C1 : l_St p s m meth c b L xs D ad cy) (hL : L ≤ 3072) (hi : i + 6 ≤ L) (hZ : Z_I k E sl) (hk : k < 512) (hw : l_W D s ad cy E H) (hS : l_S s H locs) (hl : lv_has ls 4 [(3, .int (Int32.ofInt (i : Int))), (2, .ref (q_rho s.heap.size ad 448)), (1, .ref (q_rho s.heap.size ad 0)), (0, .ref b)]) (kk : ∀ (E2 : q_H) (sl2 : Nat) (H1 : Heap) (locs1 : List Loc), Z_I (k + 1) E2 sl2 → l_W D s ad cy E2 H1 → l_S s H1 locs1 → W p l e room_1 s m #[Value.ref b] below meth c H1 locs1 E2.length sl2 (lw_Z below #[Value.ref b] s) (F0 m 317 ls [])) : W p l e room_1 s m #[Value.ref b] below meth c H locs E.length sl (lw_Z below #[Value.ref b] s) (F0 m 185 ls []) := by
  have C0 := C1
  obtain ⟨⟨hx, hb, hr, hml, hown, hts, hX, hbl, hlocks, hgv⟩, hK, hT, hF⟩ := C0
  have hbA : ¬ (fun q : Nat => s.heap.size ≤ q) b := Nat.not_le.mpr hbl
  obtain ⟨v, E1, E2, c1, s1, c2, s2, F1, F2, fs1, fs2, h1, h2, hob1, hob2, hZ2, hlen⟩ := two_state hZ hk (xs (Int32.ofInt (i : Int) + 1 : Int32).toNatClampNeg)
  obtain ⟨hr1, hr2⟩ := Z_room hZ2
  refine lv_aload_n hx hb d_law_185 rfl (lv_at hl 2 rfl) ?_
  refine lv_aload_n hx hb d_law_186 rfl (lv_at hl 3 rfl) ?_
  refine lv_iload_n hx hb d_law_187 rfl (lv_at hl 0 rfl) ?_
  refine lv_iconst (v := 1) hx hb d_law_188 (by decide) ?_
  refine lv_iadd hx hb d_law_189 ?_
  refine va_sld hx hb hX hbl hbA hS (l_in 1 rfl (by omega) hL) d_law_190 ?_
  refine l_inv (y := 200) (idx := 27) (a := 0) (as := [.int (xs (Int32.ofInt (i : Int) + 1 : Int32).toNatClampNeg)]) (rest := []) C1 (by decide) h1 k_law_27 d_law_191 rfl rfl rfl rfl (by decide) hob1 (by decide) (by decide +kernel) (by decide) (by omega) (by omega) hw hS hl.1 (fun H locs hw hS => ?_)
  refine lv_aload_n hx hb d_law_194 rfl (lv_at hl 1 rfl) ?_
  refine lv_aload_n hx hb d_law_195 rfl (lv_at hl 3 rfl) ?_
  refine lv_iload_n hx hb d_law_196 rfl (lv_at hl 0 rfl) ?_
  refine lv_iconst (v := 1) hx hb d_law_197 (by decide) ?_
  refine lv_iadd hx hb d_law_198 ?_
  refine va_sld hx hb hX hbl hbA hS (l_in 1 rfl (by omega) hL) d_law_199 ?_
  refine l_inv (y := 428) (idx := 30) (a := 448) (as := [.int (xs (Int32.ofInt (i : Int) + 1 : Int32).toNatClampNeg)]) (rest := [.int v]) C1 (by decide) h2 k_law_30 d_law_200 rfl rfl rfl rfl (by decide) hob2 (by decide) (by decide +kernel) (Nat.le_of_ble_eq_true rfl) (by omega) (by omega) hw hS hl.1 (fun H locs hw hS => ?_)
  rw [← hlen]
  refine lv_icmp_eq (tgt := 317) hx hb d_law_203 (by decide) (fun _ => ?_) (fun g => absurd rfl g)
  exact kk E2 _ H locs hZ2 hw hS
theorem l_case4 {k sl i : Nat} {E : q_H} (C1 : l_St p s m meth c b L xs D ad cy) (hL : L ≤ 3072) (hi : i + 6 ≤ L) (hZ : Z_I k E sl) (hk : k < 512) (hw : l_W D s ad cy E H) (hS : l_S s H locs) (hl : lv_has ls 4 [(3, .int (Int32.ofInt (i : Int))), (2, .ref (q_rho s.heap.size ad 448)), (1, .ref (q_rho s.heap.size ad 0)), (0, .ref b)]) (kk : ∀ (E2 : q_H) (sl2 : Nat) (H1 : Heap) (locs1 : List Loc), Z_I (k + 1) E2 sl2 → l_W D s ad cy E2 H1 → l_S s H1 locs1 → W p l e room_1 s m #[Value.ref b] below meth c H1 locs1 E2.length sl2 (lw_Z below #[Value.ref b] s) (F0 m 317 ls [])) : W p l e room_1 s m #[Value.ref b] below meth c H locs E.length sl (lw_Z below #[Value.ref b] s) (F0 m 208 ls []) := by
  have C0 := C1
  obtain ⟨⟨hx, hb, hr, hml, hown, hts, hX, hbl, hlocks, hgv⟩, hK, hT, hF⟩ := C0
  have hbA : ¬ (fun q : Nat => s.heap.size ≤ q) b := Nat.not_le.mpr hbl
  obtain ⟨v, E1, E2, c1, s1, c2, s2, F1, F2, fs1, fs2, h1, h2, hob1, hob2, hZ2, hlen⟩ := two_number hZ hk (xs (Int32.ofInt (i : Int) + 1 : Int32).toNatClampNeg) (xs (Int32.ofInt (i : Int) + 2 : Int32).toNatClampNeg)
  obtain ⟨hr1, hr2⟩ := Z_room hZ2
  refine lv_aload_n hx hb d_law_208 rfl (lv_at hl 2 rfl) ?_
  refine lv_aload_n hx hb d_law_209 rfl (lv_at hl 3 rfl) ?_
  refine lv_iload_n hx hb d_law_210 rfl (lv_at hl 0 rfl) ?_
  refine lv_iconst (v := 1) hx hb d_law_211 (by decide) ?_
  refine lv_iadd hx hb d_law_212 ?_
  refine va_sld hx hb hX hbl hbA hS (l_in 1 rfl (by omega) hL) d_law_213 ?_
  refine lv_aload_n hx hb d_law_214 rfl (lv_at hl 3 rfl) ?_
  refine lv_iload_n hx hb d_law_215 rfl (lv_at hl 0 rfl) ?_
  refine lv_iconst (v := 2) hx hb d_law_216 (by decide) ?_
  refine lv_iadd hx hb d_law_217 ?_
  refine va_sld hx hb hX hbl hbA hS (l_in 2 rfl (by omega) hL) d_law_218 ?_
  refine l_inv (y := 201) (idx := 31) (a := 0) (as := [.int (xs (Int32.ofInt (i : Int) + 1 : Int32).toNatClampNeg), .int (xs (Int32.ofInt (i : Int) + 2 : Int32).toNatClampNeg)]) (rest := []) C1 (by decide) h1 k_law_31 d_law_219 rfl rfl rfl rfl (by decide) hob1 (by decide) (by decide +kernel) (by decide) (by omega) (by omega) hw hS hl.1 (fun H locs hw hS => ?_)
  refine lv_aload_n hx hb d_law_222 rfl (lv_at hl 1 rfl) ?_
  refine lv_aload_n hx hb d_law_223 rfl (lv_at hl 3 rfl) ?_
  refine lv_iload_n hx hb d_law_224 rfl (lv_at hl 0 rfl) ?_
  refine lv_iconst (v := 1) hx hb d_law_225 (by decide) ?_
  refine lv_iadd hx hb d_law_226 ?_
  refine va_sld hx hb hX hbl hbA hS (l_in 1 rfl (by omega) hL) d_law_227 ?_
  refine lv_aload_n hx hb d_law_228 rfl (lv_at hl 3 rfl) ?_
  refine lv_iload_n hx hb d_law_229 rfl (lv_at hl 0 rfl) ?_
  refine lv_iconst (v := 2) hx hb d_law_230 (by decide) ?_
  refine lv_iadd hx hb d_law_231 ?_
  refine va_sld hx hb hX hbl hbA hS (l_in 2 rfl (by omega) hL) d_law_232 ?_
  refine l_inv (y := 430) (idx := 35) (a := 448) (as := [.int (xs (Int32.ofInt (i : Int) + 1 : Int32).toNatClampNeg), .int (xs (Int32.ofInt (i : Int) + 2 : Int32).toNatClampNeg)]) (rest := [.int v]) C1 (by decide) h2 k_law_35 d_law_233 rfl rfl rfl rfl (by decide) hob2 (by decide) (by decide +kernel) (Nat.le_of_ble_eq_true rfl) (by omega) (by omega) hw hS hl.1 (fun H locs hw hS => ?_)
  rw [← hlen]
  refine lv_icmp_eq (tgt := 317) hx hb d_law_236 (by decide) (fun _ => ?_) (fun g => absurd rfl g)
  exact kk E2 _ H locs hZ2 hw hS
theorem l_case5 {k sl i : Nat} {E : q_H} (C1 : l_St p s m meth c b L xs D ad cy) (hL : L ≤ 3072) (hi : i + 6 ≤ L) (hZ : Z_I k E sl) (hk : k < 512) (hw : l_W D s ad cy E H) (hS : l_S s H locs) (hl : lv_has ls 4 [(3, .int (Int32.ofInt (i : Int))), (2, .ref (q_rho s.heap.size ad 448)), (1, .ref (q_rho s.heap.size ad 0)), (0, .ref b)]) (kk : ∀ (E2 : q_H) (sl2 : Nat) (H1 : Heap) (locs1 : List Loc), Z_I (k + 1) E2 sl2 → l_W D s ad cy E2 H1 → l_S s H1 locs1 → W p l e room_1 s m #[Value.ref b] below meth c H1 locs1 E2.length sl2 (lw_Z below #[Value.ref b] s) (F0 m 317 ls [])) : W p l e room_1 s m #[Value.ref b] below meth c H locs E.length sl (lw_Z below #[Value.ref b] s) (F0 m 241 ls []) := by
  have C0 := C1
  obtain ⟨⟨hx, hb, hr, hml, hown, hts, hX, hbl, hlocks, hgv⟩, hK, hT, hF⟩ := C0
  have hbA : ¬ (fun q : Nat => s.heap.size ≤ q) b := Nat.not_le.mpr hbl
  obtain ⟨v, E1, E2, c1, s1, c2, s2, F1, F2, fs1, fs2, h1, h2, hob1, hob2, hZ2, hlen⟩ := two_size hZ hk (xs (Int32.ofInt (i : Int) + 1 : Int32).toNatClampNeg) (xs (Int32.ofInt (i : Int) + 2 : Int32).toNatClampNeg)
  obtain ⟨hr1, hr2⟩ := Z_room hZ2
  refine lv_aload_n hx hb d_law_241 rfl (lv_at hl 2 rfl) ?_
  refine lv_aload_n hx hb d_law_242 rfl (lv_at hl 3 rfl) ?_
  refine lv_iload_n hx hb d_law_243 rfl (lv_at hl 0 rfl) ?_
  refine lv_iconst (v := 1) hx hb d_law_244 (by decide) ?_
  refine lv_iadd hx hb d_law_245 ?_
  refine va_sld hx hb hX hbl hbA hS (l_in 1 rfl (by omega) hL) d_law_246 ?_
  refine lv_aload_n hx hb d_law_247 rfl (lv_at hl 3 rfl) ?_
  refine lv_iload_n hx hb d_law_248 rfl (lv_at hl 0 rfl) ?_
  refine lv_iconst (v := 2) hx hb d_law_249 (by decide) ?_
  refine lv_iadd hx hb d_law_250 ?_
  refine va_sld hx hb hX hbl hbA hS (l_in 2 rfl (by omega) hL) d_law_251 ?_
  refine l_inv (y := 202) (idx := 36) (a := 0) (as := [.int (xs (Int32.ofInt (i : Int) + 1 : Int32).toNatClampNeg), .int (xs (Int32.ofInt (i : Int) + 2 : Int32).toNatClampNeg)]) (rest := []) C1 (by decide) h1 k_law_36 d_law_252 rfl rfl rfl rfl (by decide) hob1 (by decide) (by decide +kernel) (by decide) (by omega) (by omega) hw hS hl.1 (fun H locs hw hS => ?_)
  refine lv_aload_n hx hb d_law_255 rfl (lv_at hl 1 rfl) ?_
  refine lv_aload_n hx hb d_law_256 rfl (lv_at hl 3 rfl) ?_
  refine lv_iload_n hx hb d_law_257 rfl (lv_at hl 0 rfl) ?_
  refine lv_iconst (v := 1) hx hb d_law_258 (by decide) ?_
  refine lv_iadd hx hb d_law_259 ?_
  refine va_sld hx hb hX hbl hbA hS (l_in 1 rfl (by omega) hL) d_law_260 ?_
  refine lv_aload_n hx hb d_law_261 rfl (lv_at hl 3 rfl) ?_
  refine lv_iload_n hx hb d_law_262 rfl (lv_at hl 0 rfl) ?_
  refine lv_iconst (v := 2) hx hb d_law_263 (by decide) ?_
  refine lv_iadd hx hb d_law_264 ?_
  refine va_sld hx hb hX hbl hbA hS (l_in 2 rfl (by omega) hL) d_law_265 ?_
  refine l_inv (y := 431) (idx := 39) (a := 448) (as := [.int (xs (Int32.ofInt (i : Int) + 1 : Int32).toNatClampNeg), .int (xs (Int32.ofInt (i : Int) + 2 : Int32).toNatClampNeg)]) (rest := [.int v]) C1 (by decide) h2 k_law_39 d_law_266 rfl rfl rfl rfl (by decide) hob2 (by decide) (by decide +kernel) (Nat.le_of_ble_eq_true rfl) (by omega) (by omega) hw hS hl.1 (fun H locs hw hS => ?_)
  rw [← hlen]
  refine lv_icmp_eq (tgt := 317) hx hb d_law_269 (by decide) (fun _ => ?_) (fun g => absurd rfl g)
  exact kk E2 _ H locs hZ2 hw hS
theorem l_case6 {k sl i : Nat} {E : q_H} (C1 : l_St p s m meth c b L xs D ad cy) (hL : L ≤ 3072) (hi : i + 6 ≤ L) (hZ : Z_I k E sl) (hk : k < 512) (hw : l_W D s ad cy E H) (hS : l_S s H locs) (hl : lv_has ls 4 [(3, .int (Int32.ofInt (i : Int))), (2, .ref (q_rho s.heap.size ad 448)), (1, .ref (q_rho s.heap.size ad 0)), (0, .ref b)]) (kk : ∀ (E2 : q_H) (sl2 : Nat) (H1 : Heap) (locs1 : List Loc), Z_I (k + 1) E2 sl2 → l_W D s ad cy E2 H1 → l_S s H1 locs1 → W p l e room_1 s m #[Value.ref b] below meth c H1 locs1 E2.length sl2 (lw_Z below #[Value.ref b] s) (F0 m 317 ls [])) : W p l e room_1 s m #[Value.ref b] below meth c H locs E.length sl (lw_Z below #[Value.ref b] s) (F0 m 274 ls []) := by
  have C0 := C1
  obtain ⟨⟨hx, hb, hr, hml, hown, hts, hX, hbl, hlocks, hgv⟩, hK, hT, hF⟩ := C0
  have hbA : ¬ (fun q : Nat => s.heap.size ≤ q) b := Nat.not_le.mpr hbl
  obtain ⟨v, E1, E2, c1, s1, c2, s2, F1, F2, fs1, fs2, h1, h2, hob1, hob2, hZ2, hlen⟩ := two_byteAt hZ hk (xs (Int32.ofInt (i : Int) + 1 : Int32).toNatClampNeg) (xs (Int32.ofInt (i : Int) + 2 : Int32).toNatClampNeg) (xs (Int32.ofInt (i : Int) + 3 : Int32).toNatClampNeg)
  obtain ⟨hr1, hr2⟩ := Z_room hZ2
  refine lv_aload_n hx hb d_law_274 rfl (lv_at hl 2 rfl) ?_
  refine lv_aload_n hx hb d_law_275 rfl (lv_at hl 3 rfl) ?_
  refine lv_iload_n hx hb d_law_276 rfl (lv_at hl 0 rfl) ?_
  refine lv_iconst (v := 1) hx hb d_law_277 (by decide) ?_
  refine lv_iadd hx hb d_law_278 ?_
  refine va_sld hx hb hX hbl hbA hS (l_in 1 rfl (by omega) hL) d_law_279 ?_
  refine lv_aload_n hx hb d_law_280 rfl (lv_at hl 3 rfl) ?_
  refine lv_iload_n hx hb d_law_281 rfl (lv_at hl 0 rfl) ?_
  refine lv_iconst (v := 2) hx hb d_law_282 (by decide) ?_
  refine lv_iadd hx hb d_law_283 ?_
  refine va_sld hx hb hX hbl hbA hS (l_in 2 rfl (by omega) hL) d_law_284 ?_
  refine lv_aload_n hx hb d_law_285 rfl (lv_at hl 3 rfl) ?_
  refine lv_iload_n hx hb d_law_286 rfl (lv_at hl 0 rfl) ?_
  refine lv_iconst (v := 3) hx hb d_law_287 (by decide) ?_
  refine lv_iadd hx hb d_law_288 ?_
  refine va_sld hx hb hX hbl hbA hS (l_in 3 rfl (by omega) hL) d_law_289 ?_
  refine l_inv (y := 203) (idx := 40) (a := 0) (as := [.int (xs (Int32.ofInt (i : Int) + 1 : Int32).toNatClampNeg), .int (xs (Int32.ofInt (i : Int) + 2 : Int32).toNatClampNeg), .int (xs (Int32.ofInt (i : Int) + 3 : Int32).toNatClampNeg)]) (rest := []) C1 (by decide) h1 k_law_40 d_law_290 rfl rfl rfl rfl (by decide) hob1 (by decide) (by decide +kernel) (by decide) (by omega) (by omega) hw hS hl.1 (fun H locs hw hS => ?_)
  refine lv_aload_n hx hb d_law_293 rfl (lv_at hl 1 rfl) ?_
  refine lv_aload_n hx hb d_law_294 rfl (lv_at hl 3 rfl) ?_
  refine lv_iload_n hx hb d_law_295 rfl (lv_at hl 0 rfl) ?_
  refine lv_iconst (v := 1) hx hb d_law_296 (by decide) ?_
  refine lv_iadd hx hb d_law_297 ?_
  refine va_sld hx hb hX hbl hbA hS (l_in 1 rfl (by omega) hL) d_law_298 ?_
  refine lv_aload_n hx hb d_law_299 rfl (lv_at hl 3 rfl) ?_
  refine lv_iload_n hx hb d_law_300 rfl (lv_at hl 0 rfl) ?_
  refine lv_iconst (v := 2) hx hb d_law_301 (by decide) ?_
  refine lv_iadd hx hb d_law_302 ?_
  refine va_sld hx hb hX hbl hbA hS (l_in 2 rfl (by omega) hL) d_law_303 ?_
  refine lv_aload_n hx hb d_law_304 rfl (lv_at hl 3 rfl) ?_
  refine lv_iload_n hx hb d_law_305 rfl (lv_at hl 0 rfl) ?_
  refine lv_iconst (v := 3) hx hb d_law_306 (by decide) ?_
  refine lv_iadd hx hb d_law_307 ?_
  refine va_sld hx hb hX hbl hbA hS (l_in 3 rfl (by omega) hL) d_law_308 ?_
  refine l_inv (y := 432) (idx := 44) (a := 448) (as := [.int (xs (Int32.ofInt (i : Int) + 1 : Int32).toNatClampNeg), .int (xs (Int32.ofInt (i : Int) + 2 : Int32).toNatClampNeg), .int (xs (Int32.ofInt (i : Int) + 3 : Int32).toNatClampNeg)]) (rest := [.int v]) C1 (by decide) h2 k_law_44 d_law_309 rfl rfl rfl rfl (by decide) hob2 (by decide) (by decide +kernel) (Nat.le_of_ble_eq_true rfl) (by omega) (by omega) hw hS hl.1 (fun H locs hw hS => ?_)
  rw [← hlen]
  refine lv_icmp_eq (tgt := 317) hx hb d_law_312 (by decide) (fun _ => ?_) (fun g => absurd rfl g)
  exact kk E2 _ H locs hZ2 hw hS
theorem l_and7 (x : Int32) : ∃ n, n < 8 ∧ x &&& 7 = Int32.ofNat n := by
  refine ⟨(x &&& 7).toBitVec.toNat, ?_, ?_⟩
  · rw [show (x &&& 7).toBitVec = x.toBitVec &&& 7#32 from rfl, BitVec.toNat_and]
    exact Nat.lt_of_le_of_lt Nat.and_le_right (by decide)
  · apply Int32.toBitVec_inj.mp
    show (x &&& 7).toBitVec = BitVec.ofNat 32 _
    simp
/-- the law's loop: k calls were made, r more may come -/
theorem l_loop (C1 : l_St p s m meth c b L xs D ad cy) (hL : L ≤ 3072) : ∀ (r k sl : Nat) (E : q_H) (H : Heap) (locs : List Loc) (ls : Array Slot), L < 6 * k + 6 * r + 6 → Z_I k E sl → l_W D s ad cy E H → l_S s H locs → lv_has ls 4 [(3, .int (Int32.ofInt ((6 * k : Nat) : Int))), (2, .ref (q_rho s.heap.size ad 448)), (1, .ref (q_rho s.heap.size ad 0)), (0, .ref b)] → W p l e room_1 s m #[Value.ref b] below meth c H locs E.length sl (lw_Z below #[Value.ref b] s) (F0 m 18 ls []) := by
  have C0 := C1
  obtain ⟨⟨hx, hb, hr, hml, hown, hts, hX, hbl, hlocks, hgv⟩, hK, hT, hF⟩ := C0
  have hbA : ¬ (fun q : Nat => s.heap.size ≤ q) b := Nat.not_le.mpr hbl
  intro r
  induction r with
  | zero =>
    intro k sl E H locs ls hr0 hZ hw hS hl
    have hk := hZ.1
    obtain ⟨hc, hs⟩ := Z_room hZ
    refine lv_iload_n hx hb d_law_18 rfl (lv_at hl 0 rfl) ?_
    refine lv_aload_n hx hb d_law_19 rfl (lv_at hl 3 rfl) ?_
    refine va_slen hx hb hX hbl hbA hS d_law_20 ?_
    refine lv_bipush (v := 6) hx hb d_law_21 (by decide) ?_
    refine lv_isub hx hb d_law_23 ?_
    exact lv_icmp_gt (tgt := 323) hx hb d_law_24 (by decide) (fun _ => l_end C1 hS hc hs) fun g => absurd ((l_cmp (by omega) hL).mpr (by omega)) g
  | succ r ih =>
    intro k sl E H locs ls hr0 hZ hw hS hl
    have hk := hZ.1
    obtain ⟨hc, hs⟩ := Z_room hZ
    refine lv_iload_n hx hb d_law_18 rfl (lv_at hl 0 rfl) ?_
    refine lv_aload_n hx hb d_law_19 rfl (lv_at hl 3 rfl) ?_
    refine va_slen hx hb hX hbl hbA hS d_law_20 ?_
    refine lv_bipush (v := 6) hx hb d_law_21 (by decide) ?_
    refine lv_isub hx hb d_law_23 ?_
    refine lv_icmp_gt (tgt := 323) hx hb d_law_24 (by decide) (fun _ => l_end C1 hS hc hs) (fun g => ?_)
    have h6 : 6 * k + 6 ≤ L := by
      have h7 : ¬ L < 6 * k + 6 := fun z => g ((l_cmp (by omega) hL).mpr z)
      omega
    have hk5 : k < 512 := by omega
    have kk : ∀ (E2 : q_H) (sl2 : Nat) (H1 : Heap) (locs1 : List Loc), Z_I (k + 1) E2 sl2 → l_W D s ad cy E2 H1 → l_S s H1 locs1 → W p l e room_1 s m #[Value.ref b] below meth c H1 locs1 E2.length sl2 (lw_Z below #[Value.ref b] s) (F0 m 317 ls []) := fun E2 sl2 H1 locs1 hZ2 hw2 hS2 => by
      refine lv_iinc (v := Int32.ofInt ((6 * (k + 1) : Nat) : Int)) (lv' := [(3, .int (Int32.ofInt ((6 * (k + 1) : Nat) : Int))), (2, .ref (q_rho s.heap.size ad 448)), (1, .ref (q_rho s.heap.size ad 0)), (0, .ref b)]) hx hb d_law_317 hl (k := 0) rfl ?_ (by decide) rfl (fun ls hl => ?_)
      · rw [← Int32.ofInt_add]
        congr 1
      refine lv_goto (tgt := 18) hx hb d_law_320 (by decide) ?_
      exact ih (k + 1) sl2 E2 H1 locs1 ls (by omega) hZ2 hw2 hS2 hl
    refine lv_aload_n hx hb d_law_27 rfl (lv_at hl 3 rfl) ?_
    refine lv_iload_n hx hb d_law_28 rfl (lv_at hl 0 rfl) ?_
    refine va_sld hx hb hX hbl hbA hS (by have h9 := l_in (i := 6 * k) (L := L) (c := 0) 0 rfl (by omega) hL; rwa [Int32.add_zero] at h9) d_law_29 ?_
    refine lv_bipush (v := 7) hx hb d_law_30 (by decide) ?_
    refine lv_iand hx hb d_law_32 ?_
    obtain ⟨n, hn, e7⟩ := l_and7 (xs (Int32.ofInt ((6 * k : Nat) : Int)).toNatClampNeg)
    rw [e7]
    match n, hn with
    | 0, _ => exact lv_tableIn (off := 43) (tgt := 76) hx hb d_law_33 (by decide) (by decide) (by decide) (by decide) (l_case0 C1 hL h6 hZ hk5 hw hS hl kk)
    | 1, _ => exact lv_tableIn (off := 106) (tgt := 139) hx hb d_law_33 (by decide) (by decide) (by decide) (by decide) (l_case1 C1 hL h6 hZ hk5 hw hS hl kk)
    | 2, _ => exact lv_tableIn (off := 129) (tgt := 162) hx hb d_law_33 (by decide) (by decide) (by decide) (by decide) (l_case2 C1 hL h6 hZ hk5 hw hS hl kk)
    | 3, _ => exact lv_tableIn (off := 152) (tgt := 185) hx hb d_law_33 (by decide) (by decide) (by decide) (by decide) (l_case3 C1 hL h6 hZ hk5 hw hS hl kk)
    | 4, _ => exact lv_tableIn (off := 175) (tgt := 208) hx hb d_law_33 (by decide) (by decide) (by decide) (by decide) (l_case4 C1 hL h6 hZ hk5 hw hS hl kk)
    | 5, _ => exact lv_tableIn (off := 208) (tgt := 241) hx hb d_law_33 (by decide) (by decide) (by decide) (by decide) (l_case5 C1 hL h6 hZ hk5 hw hS hl kk)
    | 6, _ => exact lv_tableIn (off := 241) (tgt := 274) hx hb d_law_33 (by decide) (by decide) (by decide) (by decide) (l_case6 C1 hL h6 hZ hk5 hw hS hl kk)
    | 7, _ => exact lv_tableOut (tgt := 317) hx hb d_law_33 (by decide) (by decide) (kk E sl H locs (Z_more hZ hk5) hw hS)
    | n + 8, h => exact absurd h (by omega)
end LAW
