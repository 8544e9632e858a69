/-! NUMBERS as bytes, there and back -/
theorem g_or_neg2 {x y : Int} (hx : 0 ≤ x) (hx2 : x < 16777216) (hy : -128 ≤ y) (hy2 : y < 0) : g_or x (g_shl y 24) = x + y * 16777216 := by
  have h1 : ∀ k : Fin 128, Int32.ofInt (g_shl ((k.val : Int) - 128) 24) = Int32.ofNat (2 ^ 24 * (128 + k.val)) := by decide +kernel
  obtain ⟨k, hk, rfl⟩ : ∃ k : Nat, k < 128 ∧ y = (k : Int) - 128 := ⟨(y + 128).toNat, by omega, by omega⟩
  obtain ⟨z, rfl⟩ : ∃ z : Nat, x = z := ⟨x.toNat, by omega⟩
  have h2 := h1 ⟨k, hk⟩
  simp only at h2
  have hz : z < 2 ^ 24 := by omega
  unfold g_or
  rw [h2, Int32.ofInt_eq_ofNat, nx_or, Nat.or_comm, ← Nat.two_pow_add_eq_or_of_lt hz, ← Int32.ofInt_eq_ofNat, Int32.toInt_ofInt]
  simp [Int.bmod]
  omega
theorem b_w4_val {B : Int → Int} {p : Int} (h0 : -128 ≤ B p ∧ B p ≤ 127) (h1 : -128 ≤ B (p + 1) ∧ B (p + 1) ≤ 127) (h2 : -128 ≤ B (p + 2) ∧ B (p + 2) ≤ 127) (h3 : -128 ≤ B (p + 3) ∧ B (p + 3) ≤ 127) : b_w4 B p = B p % 256 + B (p + 1) % 256 * 256 + B (p + 2) % 256 * 65536 + B (p + 3) * 16777216 := by
  unfold b_w4
  rw [g_and255 h0.1 h0.2, g_and255 h1.1 h1.2, g_and255 h2.1 h2.2, g_shl8 (by omega) (by omega), g_shl16 (by omega) (by omega), g_or_add 8 (by omega) (by omega) (by omega) (by omega), g_or_add 16 (by omega) (by omega) (by omega) (by omega)]
  by_cases hn : 0 ≤ B (p + 3)
  · rw [g_shl24p hn (by omega), g_or_add 24 (by omega) (by omega) (by omega) (by omega)]
    omega
  · rw [g_or_neg2 (by omega) (by omega) h3.1 (by omega)]
    omega
theorem b_fnB {vb : List Int} (h : b_B vb) (i : Int) : -128 ≤ b_fn vb i ∧ b_fn vb i ≤ 127 := by
  unfold b_fn
  rw [List.getD_eq_getElem?_getD]
  rcases hg : vb[i.toNat]? with _ | v
  · exact ⟨by decide, by decide⟩
  · exact h v (List.mem_of_getElem? hg)
theorem enc4 {a b c e : Int} {B : Int → Int} {p : Int} (h0 : B p = a) (h1 : B (p + 1) = b) (h2 : B (p + 2) = c) (h3 : B (p + 3) = e) (hB : ∀ q, -128 ≤ B q ∧ B q ≤ 127) : b_le4 (b_w4 B p) = [a, b, c, e] := by
  have hv := b_w4_val (hB p) (hB (p + 1)) (hB (p + 2)) (hB (p + 3))
  have k0 := hB p
  have k1 := hB (p + 1)
  have k2 := hB (p + 2)
  have k3 := hB (p + 3)
  rw [h0] at hv k0
  rw [h1] at hv k1
  rw [h2] at hv k2
  rw [h3] at hv k3
  generalize b_w4 B p = v at hv
  have m0 := g_w8_mod v
  have m1 := g_w8_mod (v / 256)
  have m2 := g_w8_mod (v / 65536)
  have m3 := g_w8_mod (v / 16777216)
  have r0 := g_w8_R v
  have r1 := g_w8_R (v / 256)
  have r2 := g_w8_R (v / 65536)
  have r3 := g_w8_R (v / 16777216)
  unfold b_le4
  rw [show g_w8 v = a by omega, show g_w8 (v / 256) = b by omega, show g_w8 (v / 65536) = c by omega, show g_w8 (v / 16777216) = e by omega]
theorem enc4L {vb : List Int} (hl : vb.length = 4) (hB : b_B vb) : b_le4 (b_w4 (b_fn vb) 0) = vb := by
  rcases vb with _ | ⟨a, _ | ⟨b, _ | ⟨c, _ | ⟨e, _ | ⟨f, vb⟩⟩⟩⟩⟩
  · exact absurd hl (by simp)
  · exact absurd hl (by simp)
  · exact absurd hl (by simp)
  · exact absurd hl (by simp)
  · exact enc4 rfl rfl rfl rfl (b_fnB hB)
  · exact absurd hl (by simp)
theorem le4_inj {n k : Int} (hn : g_InR n) (hk : g_InR k) (h : b_le4 n = b_le4 k) : n = k := by
  unfold b_le4 at h
  rw [List.cons.injEq, List.cons.injEq, List.cons.injEq, List.cons.injEq] at h
  obtain ⟨a0, a1, a2, a3, -⟩ := h
  have m0 := g_w8_mod n
  have m1 := g_w8_mod (n / 256)
  have m2 := g_w8_mod (n / 65536)
  have m3 := g_w8_mod (n / 16777216)
  have q0 := g_w8_mod k
  have q1 := g_w8_mod (k / 256)
  have q2 := g_w8_mod (k / 65536)
  have q3 := g_w8_mod (k / 16777216)
  obtain ⟨n1, n2⟩ := hn
  obtain ⟨k1, k2⟩ := hk
  omega
theorem u_sh32 : ((Int32.ofInt 32).toInt64 &&& 63) = (32 : Int64) := by decide +kernel
theorem u_mask : ∀ i : Fin 64, (4294967295#64).getLsbD i.val = decide (i.val < 32) := by decide +kernel
theorem u_sx (x : BitVec 64) {i : Nat} (hi : i < 32) : (x.signExtend 32).getLsbD i = x.getLsbD i := by
  rw [BitVec.getLsbD_signExtend, decide_eq_true hi, if_pos (by omega), Bool.true_and]
theorem u_lo (A Z : Int64) : ((A &&& 4294967295) ||| (Z <<< ((Int32.ofInt 32).toInt64 &&& 63))).toInt32 = A.toInt32 := by
  rw [u_sh32]
  apply Int32.toBitVec_inj.1
  rw [Int64.toBitVec_toInt32, Int64.toBitVec_toInt32]
  apply BitVec.eq_of_getLsbD_eq
  intro i hi
  have hm := u_mask ⟨i, by omega⟩
  simp only at hm
  have hsh : (Z <<< (32 : Int64)).toBitVec = Z.toBitVec <<< 32 := by
    rw [Int64.toBitVec_shiftLeft]
    rfl
  have hmk : (4294967295 : Int64).toBitVec = 4294967295#64 := rfl
  rw [u_sx _ hi, u_sx _ hi, Int64.toBitVec_or, Int64.toBitVec_and, hsh, hmk, BitVec.getLsbD_or, BitVec.getLsbD_and, BitVec.getLsbD_shiftLeft, hm]
  simp [hi]
theorem u_hi (A Z : Int64) : (((A &&& 4294967295) ||| (Z <<< ((Int32.ofInt 32).toInt64 &&& 63))) >>> ((Int32.ofInt 32).toInt64 &&& 63)).toInt32 = Z.toInt32 := by
  rw [u_sh32]
  apply Int32.toBitVec_inj.1
  rw [Int64.toBitVec_toInt32, Int64.toBitVec_toInt32]
  apply BitVec.eq_of_getLsbD_eq
  intro i hi
  have hm := u_mask ⟨32 + i, by omega⟩
  simp only at hm
  have hsh : (Z <<< (32 : Int64)).toBitVec = Z.toBitVec <<< 32 := by
    rw [Int64.toBitVec_shiftLeft]
    rfl
  have hsr : ∀ Y : Int64, (Y >>> (32 : Int64)).toBitVec = Y.toBitVec.sshiftRight 32 := by
    intro Y
    rw [Int64.toBitVec_shiftRight]
    rfl
  have hmk : (4294967295 : Int64).toBitVec = 4294967295#64 := rfl
  rw [u_sx _ hi, u_sx _ hi, hsr, BitVec.getLsbD_sshiftRight, Int64.toBitVec_or, Int64.toBitVec_and, hsh, hmk, BitVec.getLsbD_or, BitVec.getLsbD_and, BitVec.getLsbD_shiftLeft, hm]
  have a1 : ¬ 32 + i < 32 := by omega
  have a2 : 32 + i < 64 := by omega
  have a3 : 32 + i - 32 = i := by omega
  rw [a3]
  simp [a1, a2, hi]
  try omega
theorem le8_inj {X Y : Int64} (h : b_le8 X = b_le8 Y) : X = Y := by
  unfold b_le8 at h
  have hl4 : ∀ n : Int, (b_le4 n).length = 4 := fun _ => rfl
  have hl := List.append_inj h (by rw [hl4, hl4])
  have e1 := le4_inj (g_InR_toInt _) (g_InR_toInt _) hl.1
  have e2 := le4_inj (g_InR_toInt _) (g_InR_toInt _) hl.2
  rw [u_sh32] at e2
  have e1 := Int32.toInt_inj.1 e1
  have e2 := Int32.toInt_inj.1 e2
  apply Int64.toBitVec_inj.1
  apply BitVec.eq_of_getLsbD_eq
  intro i hi
  have hsr : ∀ Y : Int64, (Y >>> (32 : Int64)).toBitVec = Y.toBitVec.sshiftRight 32 := by
    intro Y
    rw [Int64.toBitVec_shiftRight]
    rfl
  by_cases h32 : i < 32
  · have := congrArg (fun z => z.toBitVec.getLsbD i) e1
    rwa [Int64.toBitVec_toInt32, Int64.toBitVec_toInt32, u_sx _ h32, u_sx _ h32] at this
  · have := congrArg (fun z => z.toBitVec.getLsbD (i - 32)) e2
    have h33 : i - 32 < 32 := by omega
    have h34 : 32 + (i - 32) = i := by omega
    rw [Int64.toBitVec_toInt32, Int64.toBitVec_toInt32, u_sx _ h33, u_sx _ h33, hsr, hsr, BitVec.getLsbD_sshiftRight, BitVec.getLsbD_sshiftRight, h34, decide_eq_false (by omega), if_pos hi, if_pos hi] at this
    simpa using this
theorem u_to32 {r : Int} (h : g_InR r) : (Int64.ofInt r).toInt32.toInt = r := by
  obtain ⟨g1, g2⟩ := id h
  rw [Int64.toInt_toInt32, u_i64 h]
  simp [Int.bmod]
  omega
theorem enc8 {vb : List Int} (hl : vb.length = 8) (hB : b_B vb) : b_le8 (v_num 18 vb) = vb := by
  have hv : v_num 18 vb = ((Int64.ofInt (b_w4 (b_fn vb) 0)) &&& 4294967295) ||| ((Int64.ofInt (b_w4 (b_fn vb) 4)) <<< ((Int32.ofInt 32).toInt64 &&& 63)) := rfl
  unfold b_le8
  rw [hv, u_lo, u_hi, u_to32 (b_w4_R _ _), u_to32 (b_w4_R _ _)]
  have hF := b_fnB hB
  rcases vb with _ | ⟨a, _ | ⟨b, _ | ⟨c, _ | ⟨e, _ | ⟨a2, _ | ⟨b2, _ | ⟨c2, _ | ⟨e2, _ | ⟨f, vb⟩⟩⟩⟩⟩⟩⟩⟩⟩
  case cons.cons.cons.cons.cons.cons.cons.cons.nil =>
    rw [enc4 (a := a) (b := b) (c := c) (e := e) rfl rfl rfl rfl hF, enc4 (a := a2) (b := b2) (c := c2) (e := e2) rfl rfl rfl rfl hF]
    rfl
  all_goals exact absurd hl (by simp)
theorem v_num16 {vb : List Int} : v_num 16 vb = Int64.ofInt (b_w4 (b_fn vb) 0) := rfl
theorem g_lc0 (X Y : Int64) : g_lc X Y = 0 ↔ X = Y := by
  have h1 := u_lt X Y
  have h2 := u_gt X Y
  constructor
  · intro h
    exact Int64.toInt_inj.1 (by omega)
  · rintro rfl
    omega
