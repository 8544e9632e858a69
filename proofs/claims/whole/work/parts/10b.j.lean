theorem x_433_0 : decode (q_code 433) 0 = .ok (.aload_n 0, 1) := by decide +kernel
theorem x_433_1 : decode (q_code 433) 1 = .ok (.getfield 9, 3) := by decide +kernel
theorem x_433_4 : decode (q_code 433) 4 = .ok (.arraylength, 1) := by decide +kernel
theorem x_433_5 : decode (q_code 433) 5 = .ok (.aload_n 0, 1) := by decide +kernel
theorem x_433_6 : decode (q_code 433) 6 = .ok (.invokevirtual 335, 3) := by decide +kernel
theorem x_433_9 : decode (q_code 433) 9 = .ok (.ishr, 1) := by decide +kernel
theorem x_433_10 : decode (q_code 433) 10 = .ok (.ireturn, 1) := by decide +kernel
theorem x_434_0 : decode (q_code 434) 0 = .ok (.aload_n 0, 1) := by decide +kernel
theorem x_434_1 : decode (q_code 434) 1 = .ok (.invokevirtual 492, 3) := by decide +kernel
theorem x_434_4 : decode (q_code 434) 4 = .ok (.ifCond .eq 12, 3) := by decide +kernel
theorem x_434_7 : decode (q_code 434) 7 = .ok (.aload_n 0, 1) := by decide +kernel
theorem x_434_8 : decode (q_code 434) 8 = .ok (.getfield 9, 3) := by decide +kernel
theorem x_434_11 : decode (q_code 434) 11 = .ok (.iload_n 1, 1) := by decide +kernel
theorem x_434_12 : decode (q_code 434) 12 = .ok (.invokestatic 495, 3) := by decide +kernel
theorem x_434_15 : decode (q_code 434) 15 = .ok (.ireturn, 1) := by decide +kernel
theorem x_434_16 : decode (q_code 434) 16 = .ok (.aload_n 0, 1) := by decide +kernel
theorem x_434_17 : decode (q_code 434) 17 = .ok (.getfield 9, 3) := by decide +kernel
theorem x_434_20 : decode (q_code 434) 20 = .ok (.iload_n 1, 1) := by decide +kernel
theorem x_434_21 : decode (q_code 434) 21 = .ok (.invokestatic 498, 3) := by decide +kernel
theorem x_435_0 : decode (q_code 435) 0 = .ok (.getstatic 38, 3) := by decide +kernel
theorem x_435_3 : decode (q_code 435) 3 = .ok (.ifCond .eq 10, 3) := by decide +kernel
theorem x_435_6 : decode (q_code 435) 6 = .ok (.aload_n 0, 1) := by decide +kernel
theorem x_435_7 : decode (q_code 435) 7 = .ok (.getfield 15, 3) := by decide +kernel
theorem x_435_10 : decode (q_code 435) 10 = .ok (.goto 4, 3) := by decide +kernel
theorem x_435_14 : decode (q_code 435) 14 = .ok (.ireturn, 1) := by decide +kernel
theorem x_436_0 : decode (q_code 436) 0 = .ok (.getstatic 38, 3) := by decide +kernel
theorem x_436_3 : decode (q_code 436) 3 = .ok (.ifCond .eq 14, 3) := by decide +kernel
theorem x_436_6 : decode (q_code 436) 6 = .ok (.aload_n 0, 1) := by decide +kernel
theorem x_436_7 : decode (q_code 436) 7 = .ok (.getfield 15, 3) := by decide +kernel
theorem x_436_10 : decode (q_code 436) 10 = .ok (.ifCond .ne 7, 3) := by decide +kernel
theorem x_436_13 : decode (q_code 436) 13 = .ok (.iconst 1, 1) := by decide +kernel
theorem x_436_14 : decode (q_code 436) 14 = .ok (.goto 4, 3) := by decide +kernel
theorem x_436_18 : decode (q_code 436) 18 = .ok (.ireturn, 1) := by decide +kernel
theorem x_437_0 : decode (q_code 437) 0 = .ok (.iload_n 1, 1) := by decide +kernel
theorem x_437_1 : decode (q_code 437) 1 = .ok (.aload_n 0, 1) := by decide +kernel
theorem x_437_2 : decode (q_code 437) 2 = .ok (.arraylength, 1) := by decide +kernel
theorem x_437_3 : decode (q_code 437) 3 = .ok (.invokestatic 9, 3) := by decide +kernel
theorem x_437_6 : decode (q_code 437) 6 = .ok (.aload_n 0, 1) := by decide +kernel
theorem x_437_7 : decode (q_code 437) 7 = .ok (.iload_n 1, 1) := by decide +kernel
theorem x_437_8 : decode (q_code 437) 8 = .ok (.baload, 1) := by decide +kernel
theorem x_437_9 : decode (q_code 437) 9 = .ok (.sipush 255, 3) := by decide +kernel
theorem x_437_12 : decode (q_code 437) 12 = .ok (.iand, 1) := by decide +kernel
theorem x_437_13 : decode (q_code 437) 13 = .ok (.i2c, 1) := by decide +kernel
theorem x_437_14 : decode (q_code 437) 14 = .ok (.ireturn, 1) := by decide +kernel
theorem x_438_0 : decode (q_code 438) 0 = .ok (.iload_n 1, 1) := by decide +kernel
theorem x_438_1 : decode (q_code 438) 1 = .ok (.aload_n 0, 1) := by decide +kernel
theorem x_438_2 : decode (q_code 438) 2 = .ok (.arraylength, 1) := by decide +kernel
theorem x_438_3 : decode (q_code 438) 3 = .ok (.if_icmp .ne 11, 3) := by decide +kernel
theorem x_438_6 : decode (q_code 438) 6 = .ok (.aload_n 0, 1) := by decide +kernel
theorem x_438_7 : decode (q_code 438) 7 = .ok (.invokevirtual 310, 3) := by decide +kernel
theorem x_438_14 : decode (q_code 438) 14 = .ok (.iload_n 1, 1) := by decide +kernel
theorem x_438_15 : decode (q_code 438) 15 = .ok (.newarray .byte, 2) := by decide +kernel
theorem x_438_17 : decode (q_code 438) 17 = .ok (.astore_n 2, 1) := by decide +kernel
theorem x_438_18 : decode (q_code 438) 18 = .ok (.aload_n 0, 1) := by decide +kernel
theorem x_438_19 : decode (q_code 438) 19 = .ok (.iconst 0, 1) := by decide +kernel
theorem x_438_20 : decode (q_code 438) 20 = .ok (.aload_n 2, 1) := by decide +kernel
theorem x_438_21 : decode (q_code 438) 21 = .ok (.iconst 0, 1) := by decide +kernel
theorem x_438_22 : decode (q_code 438) 22 = .ok (.aload_n 0, 1) := by decide +kernel
theorem x_438_23 : decode (q_code 438) 23 = .ok (.arraylength, 1) := by decide +kernel
theorem x_438_24 : decode (q_code 438) 24 = .ok (.iload_n 1, 1) := by decide +kernel
theorem x_438_25 : decode (q_code 438) 25 = .ok (.invokestatic 304, 3) := by decide +kernel
theorem x_438_28 : decode (q_code 438) 28 = .ok (.invokestatic 150, 3) := by decide +kernel
theorem x_438_31 : decode (q_code 438) 31 = .ok (.aload_n 2, 1) := by decide +kernel
theorem x_438_32 : decode (q_code 438) 32 = .ok (.areturn, 1) := by decide +kernel
theorem x_439_0 : decode (q_code 439) 0 = .ok (.iload_n 1, 1) := by decide +kernel
theorem x_439_1 : decode (q_code 439) 1 = .ok (.aload_n 0, 1) := by decide +kernel
theorem x_439_2 : decode (q_code 439) 2 = .ok (.arraylength, 1) := by decide +kernel
theorem x_439_3 : decode (q_code 439) 3 = .ok (.if_icmp .ne 11, 3) := by decide +kernel
theorem x_439_6 : decode (q_code 439) 6 = .ok (.aload_n 0, 1) := by decide +kernel
theorem x_439_7 : decode (q_code 439) 7 = .ok (.invokevirtual 316, 3) := by decide +kernel
theorem x_439_14 : decode (q_code 439) 14 = .ok (.iload_n 1, 1) := by decide +kernel
theorem x_439_15 : decode (q_code 439) 15 = .ok (.newarray .int, 2) := by decide +kernel
theorem x_439_17 : decode (q_code 439) 17 = .ok (.astore_n 2, 1) := by decide +kernel
theorem x_439_18 : decode (q_code 439) 18 = .ok (.aload_n 0, 1) := by decide +kernel
theorem x_439_19 : decode (q_code 439) 19 = .ok (.iconst 0, 1) := by decide +kernel
theorem x_439_20 : decode (q_code 439) 20 = .ok (.aload_n 2, 1) := by decide +kernel
theorem x_439_21 : decode (q_code 439) 21 = .ok (.iconst 0, 1) := by decide +kernel
theorem x_439_22 : decode (q_code 439) 22 = .ok (.aload_n 0, 1) := by decide +kernel
theorem x_439_23 : decode (q_code 439) 23 = .ok (.arraylength, 1) := by decide +kernel
theorem x_439_24 : decode (q_code 439) 24 = .ok (.iload_n 1, 1) := by decide +kernel
theorem x_439_25 : decode (q_code 439) 25 = .ok (.invokestatic 304, 3) := by decide +kernel
theorem x_439_28 : decode (q_code 439) 28 = .ok (.invokestatic 150, 3) := by decide +kernel
theorem x_439_31 : decode (q_code 439) 31 = .ok (.aload_n 2, 1) := by decide +kernel
theorem x_439_32 : decode (q_code 439) 32 = .ok (.areturn, 1) := by decide +kernel
theorem x_440_0 : decode (q_code 440) 0 = .ok (.iload_n 0, 1) := by decide +kernel
theorem x_440_1 : decode (q_code 440) 1 = .ok (.iload_n 1, 1) := by decide +kernel
theorem x_440_2 : decode (q_code 440) 2 = .ok (.if_icmp .ge 7, 3) := by decide +kernel
theorem x_440_5 : decode (q_code 440) 5 = .ok (.iconst (-1), 1) := by decide +kernel
theorem x_440_6 : decode (q_code 440) 6 = .ok (.goto 13, 3) := by decide +kernel
theorem x_440_9 : decode (q_code 440) 9 = .ok (.iload_n 0, 1) := by decide +kernel
theorem x_440_10 : decode (q_code 440) 10 = .ok (.iload_n 1, 1) := by decide +kernel
theorem x_440_11 : decode (q_code 440) 11 = .ok (.if_icmp .ne 7, 3) := by decide +kernel
theorem x_440_14 : decode (q_code 440) 14 = .ok (.iconst 0, 1) := by decide +kernel
theorem x_440_15 : decode (q_code 440) 15 = .ok (.goto 4, 3) := by decide +kernel
theorem x_440_18 : decode (q_code 440) 18 = .ok (.iconst 1, 1) := by decide +kernel
theorem x_440_19 : decode (q_code 440) 19 = .ok (.ireturn, 1) := by decide +kernel
theorem x_441_0 : decode (q_code 441) 0 = .ok (.lload_n 0, 1) := by decide +kernel
theorem x_441_1 : decode (q_code 441) 1 = .ok (.lload_n 2, 1) := by decide +kernel
theorem x_441_2 : decode (q_code 441) 2 = .ok (.lcmp, 1) := by decide +kernel
theorem x_441_3 : decode (q_code 441) 3 = .ok (.ifCond .ge 7, 3) := by decide +kernel
theorem x_441_6 : decode (q_code 441) 6 = .ok (.iconst (-1), 1) := by decide +kernel
theorem x_441_7 : decode (q_code 441) 7 = .ok (.goto 14, 3) := by decide +kernel
theorem x_441_10 : decode (q_code 441) 10 = .ok (.lload_n 0, 1) := by decide +kernel
theorem x_441_11 : decode (q_code 441) 11 = .ok (.lload_n 2, 1) := by decide +kernel
theorem x_441_12 : decode (q_code 441) 12 = .ok (.lcmp, 1) := by decide +kernel
theorem x_441_13 : decode (q_code 441) 13 = .ok (.ifCond .ne 7, 3) := by decide +kernel
theorem x_441_16 : decode (q_code 441) 16 = .ok (.iconst 0, 1) := by decide +kernel
theorem x_441_17 : decode (q_code 441) 17 = .ok (.goto 4, 3) := by decide +kernel
theorem x_441_20 : decode (q_code 441) 20 = .ok (.iconst 1, 1) := by decide +kernel
theorem x_441_21 : decode (q_code 441) 21 = .ok (.ireturn, 1) := by decide +kernel
theorem m_J0_length {d : Nat} {M : g_M} {Q : Int → g_M → Prop} {j0 : Nat} (hj0 : j0 < q_nS) (h : g_ok M → g_InR ((q_sb j0).length : Int) ∧ g_Call d 435 [.ref (4 * j0 + 1)] M (g_qI fun r5 M2 => g_ext M M2 → g_ok M2 → g_InR r5 → Q (g_shr (((q_sb j0).length : Int)) r5) M2)) : g_Call (d + 1) 433 [.ref (4 * j0 + 1)] M (g_qI Q) := by
  refine g_Call.ok fun hok0 => ?_
  replace h := h hok0
  refine r_body rfl (lv := [(0, .ref (4 * j0 + 1))]) rfl ?_
  refine g_Run.ok fun hok => ?_
  refine r_aload_n x_433_0 rfl ?_
  refine r_sval x_433_1 rfl hj0 ?_
  refine r_slen x_433_4 hj0 ?_
  obtain ⟨h1, h⟩ := h
  refine r_aload_n x_433_5 rfl ?_
  refine r_invT x_433_6 (z := 435) (ns := 0) (by decide +kernel) (as := []) (r := [g_n (((q_sb j0).length : Int))]) rfl rfl hj0 rfl rfl ?_
  refine r_callI h fun r5 M2 hx3 hok4 hr6 h => ?_
  replace h := h hx3 hok4 hr6
  refine r_ishr x_433_9 ?_
  exact r_retI x_433_10 rfl (g_InR_toInt _) h
theorem m_J0_charAt {d : Nat} {M : g_M} {Q : Int → g_M → Prop} {j0 : Nat} (hj0 : j0 < q_nS) {v1 : Int} (hv1 : g_InR v1) (h : g_ok M → g_Call d 436 [.ref (4 * j0 + 1)] M (g_qI fun r4 M1 => g_ext M M1 → g_ok M1 → g_InR r4 → ((r4 = 0 → False) ∧ (¬ r4 = 0 → g_Call d 437 [.ref (4 * j0 + 3), g_n v1] M1 (g_qI fun r9 M6 => g_ext M1 M6 → g_ok M6 → g_InR r9 → q_nar .char (Int32.ofInt r9) = true ∧ Q r9 M6))))) : g_Call (d + 1) 434 [.ref (4 * j0 + 1), g_n v1] M (g_qI Q) := by
  refine g_Call.ok fun hok0 => ?_
  replace h := h hok0
  refine r_body rfl (lv := [(0, .ref (4 * j0 + 1)), (1, g_n v1)]) rfl ?_
  refine g_Run.ok fun hok => ?_
  refine r_aload_n x_434_0 rfl ?_
  refine r_invT x_434_1 (z := 436) (ns := 0) (by decide +kernel) (as := []) (r := []) rfl rfl hj0 rfl rfl ?_
  refine r_callI h fun r4 M1 hx2 hok3 hr5 h => ?_
  replace h := h hx2 hok3 hr5
  refine r_if_eq x_434_4 (t := 16) (by decide +kernel) hr5 (fun hc => ?_) (fun hc => ?_)
  · replace h := h.1 hc
    refine r_aload_n x_434_16 rfl ?_
    refine r_sval x_434_17 rfl hj0 ?_
    refine r_iload_n x_434_20 rfl ?_
    exact h.elim
  · replace h := h.2 hc
    refine r_aload_n x_434_7 rfl ?_
    refine r_sval x_434_8 rfl hj0 ?_
    refine r_iload_n x_434_11 rfl ?_
    refine r_invS x_434_12 (z := 437) (ns := 0) (by decide +kernel) (as := [.ref (4 * j0 + 3), g_n v1]) (r := []) rfl rfl rfl ?_
    refine r_callI h fun r9 M6 hx7 hok8 hr10 h => ?_
    replace h := h hx7 hok8 hr10
    obtain ⟨h11, h⟩ := h
    exact r_retX x_434_15 rfl hr10 h11 h
theorem m_J0_coder {d : Nat} {M : g_M} {Q : Int → g_M → Prop} {j0 : Nat} (hj0 : j0 < q_nS) (h : g_ok M → q_nar .byte (Int32.ofInt 0) = true ∧ Q 0 M) : g_Call (d + 1) 435 [.ref (4 * j0 + 1)] M (g_qI Q) := by
  refine g_Call.ok fun hok0 => ?_
  replace h := h hok0
  refine r_body rfl (lv := [(0, .ref (4 * j0 + 1))]) rfl ?_
  refine g_Run.ok fun hok => ?_
  refine r_gets x_435_0 rfl ?_
  refine r_if_eq x_435_3 (t := 13) (by decide +kernel) (g_Rk rfl) (fun hc => ?_) (fun hc => ?_)
  · exfalso; omega
  · skip
    refine r_aload_n x_435_6 rfl ?_
    refine r_scoder x_435_7 rfl hj0 ?_
    refine r_goto x_435_10 (t := 14) (by decide +kernel) ?_
    obtain ⟨h1, h⟩ := h
    exact r_retX x_435_14 rfl (g_Rk rfl) h1 h
theorem m_J0_isLatin1 {d : Nat} {M : g_M} {Q : Int → g_M → Prop} {j0 : Nat} (hj0 : j0 < q_nS) (h : g_ok M → Q 1 M) : g_Call (d + 1) 436 [.ref (4 * j0 + 1)] M (g_qI Q) := by
  refine g_Call.ok fun hok0 => ?_
  replace h := h hok0
  refine r_body rfl (lv := [(0, .ref (4 * j0 + 1))]) rfl ?_
  refine g_Run.ok fun hok => ?_
  refine r_gets x_436_0 rfl ?_
  refine r_if_eq x_436_3 (t := 17) (by decide +kernel) (g_Rk rfl) (fun hc => ?_) (fun hc => ?_)
  · exfalso; omega
  · skip
    refine r_aload_n x_436_6 rfl ?_
    refine r_scoder x_436_7 rfl hj0 ?_
    refine r_if_ne x_436_10 (t := 17) (by decide +kernel) (g_Rk rfl) (fun hc => ?_) (fun hc => ?_)
    · exfalso; omega
    · skip
      refine r_iconst x_436_13 ?_
      refine r_goto x_436_14 (t := 18) (by decide +kernel) ?_
      exact r_retZ x_436_18 rfl (Or.inr rfl) h
theorem m_J1_charAt {d : Nat} {M : g_M} {Q : Int → g_M → Prop} {j0 : Nat} (hj0 : j0 < q_nS) {v1 : Int} (hv1 : g_InR v1) (h : g_ok M → g_InR ((q_sb j0).length : Int) ∧ ((0 : Int) ≤ v1 ∧ v1 < ((q_sb j0).length : Int)) ∧ ((0 : Int) ≤ v1 ∧ (v1 : Int) < (q_sb j0).length) ∧ q_nar .char (Int32.ofInt (g_i2c (g_and (((q_sb j0).getD (v1).toNat 0).toInt) 255))) = true ∧ Q (g_i2c (g_and (((q_sb j0).getD (v1).toNat 0).toInt) 255)) M) : g_Call (d + 1) 437 [.ref (4 * j0 + 3), g_n v1] M (g_qI Q) := by
  refine g_Call.ok fun hok0 => ?_
  replace h := h hok0
  refine r_body rfl (lv := [(0, .ref (4 * j0 + 3)), (1, g_n v1)]) rfl ?_
  refine g_Run.ok fun hok => ?_
  refine r_iload_n x_437_0 rfl ?_
  refine r_aload_n x_437_1 rfl ?_
  refine r_slen x_437_2 hj0 ?_
  obtain ⟨h1, h⟩ := h
  obtain ⟨h2, h⟩ := h
  refine r_ck x_437_3 rfl rfl rfl hv1 h1 h2.1 h2.2 ?_
  refine r_aload_n x_437_6 rfl ?_
  refine r_iload_n x_437_7 rfl ?_
  obtain ⟨h3, h⟩ := h
  refine r_sbal x_437_8 hj0 hv1 h3.1 h3.2 ?_
  refine r_sipush x_437_9 (x := 255) rfl ?_
  refine r_iand x_437_12 ?_
  refine r_i2c x_437_13 ?_
  obtain ⟨h4, h⟩ := h
  exact r_retX x_437_14 rfl (g_InR_toInt _) h4 h
theorem m_J7_copyOfB {d : Nat} {M : g_M} {Q : Option Nat → g_M → Prop} {a0 : Nat} {v1 : Int} (hv1 : g_InR v1) (h : g_ok M → ∃ n1, g_A M a0 0 n1 ∧ g_InR n1 ∧ ((v1 = n1 → False) ∧ (¬ v1 = n1 → ((0 : Int) ≤ v1 ∧ (v1 : Int) ≤ 134217728) ∧ (∀ M5, M5 = g_nw M 0 v1.toNat → g_ok M5 → g_InR n1 ∧ ∃ n10, g_A M5 (2 * (M).1.length) 0 n10 ∧ ((0 : Int) ≤ 0 ∧ (0 : Int) ≤ 0 ∧ (0 : Int) ≤ min n1 v1 ∧ (0 : Int) + (min n1 v1) ≤ n1 ∧ (0 : Int) + (min n1 v1) ≤ n10) ∧ (∀ M13, M13 = g_cp M5 a0 (2 * (M).1.length) 0 0 (min n1 v1) → g_ok M13 → Q (some (2 * (M).1.length)) M13))))) : g_Call (d + 1) 438 [.ref a0, g_n v1] M (g_qR Q) := by
  refine g_Call.ok fun hok0 => ?_
  replace h := h hok0
  refine r_body rfl (lv := [(0, .ref a0), (1, g_n v1)]) rfl ?_
  refine g_Run.ok fun hok => ?_
  refine r_iload_n x_438_0 rfl ?_
  refine r_aload_n x_438_1 rfl ?_
  obtain ⟨n1, hA2, h⟩ := h
  refine r_alen x_438_2 hA2 ?_
  obtain ⟨h3, h⟩ := h
  refine r_ic_ne x_438_3 (t := 14) (by decide +kernel) hv1 h3 (fun hc => ?_) (fun hc => ?_)
  · replace h := h.2 hc
    refine r_iload_n x_438_14 rfl ?_
    obtain ⟨h4, h⟩ := h
    refine r_newa x_438_15 (t := 0) rfl (by decide) hv1 h4.1 h4.2 ?_
    obtain ⟨M5, hM6⟩ : ∃ Mz, Mz = g_nw M 0 v1.toNat := ⟨_, rfl⟩
    rw [← hM6]
    refine g_Run.ok fun hok7 => ?_
    replace h := h M5 hM6 hok7
    have hx8 := g_extN hM6
    replace hA2 := hA2.up hx8
    refine r_astore_n x_438_17 (o := (some (2 * (M).1.length))) (by decide +kernel) rfl (lv1 := [(0, .ref a0), (1, g_n v1), (2, .ref (2 * (M).1.length))]) rfl ?_
    refine r_aload_n x_438_18 rfl ?_
    refine r_iconst x_438_19 ?_
    refine r_aload_n x_438_20 rfl ?_
    refine r_iconst x_438_21 ?_
    refine r_aload_n x_438_22 rfl ?_
    refine r_alen x_438_23 hA2 ?_
    obtain ⟨h9, h⟩ := h
    refine r_iload_n x_438_24 rfl ?_
    refine r_min x_438_25 rfl rfl rfl rfl h9 hv1 ?_
    obtain ⟨n10, hA11, h⟩ := h
    obtain ⟨h12, h⟩ := h
    refine r_copy x_438_28 rfl rfl rfl rfl rfl rfl (by decide) hA2 hA11 (g_Rk rfl) (g_Rk rfl) (g_min_R h9 hv1) h12.1 h12.2.1 h12.2.2.1 h12.2.2.2.1 h12.2.2.2.2 ?_
    obtain ⟨M13, hM14⟩ : ∃ Mz, Mz = g_cp M5 a0 (2 * (M).1.length) 0 0 (min n1 v1) := ⟨_, rfl⟩
    rw [← hM14]
    refine g_Run.ok fun hok15 => ?_
    replace h := h M13 hM14 hok15
    have hx16 := g_extC hM14
    replace hA2 := hA2.up hx16
    replace hA11 := hA11.up hx16
    refine r_aload_n x_438_31 rfl ?_
    exact r_retA x_438_32 (by decide +kernel) h
  · replace h := h.1 hc
    refine r_aload_n x_438_6 rfl ?_
    exact h.elim
theorem m_J7_copyOfI {d : Nat} {M : g_M} {Q : Option Nat → g_M → Prop} {a0 : Nat} {v1 : Int} (hv1 : g_InR v1) (h : g_ok M → ∃ n1, g_A M a0 1 n1 ∧ g_InR n1 ∧ ((v1 = n1 → False) ∧ (¬ v1 = n1 → ((0 : Int) ≤ v1 ∧ (v1 : Int) ≤ 134217728) ∧ (∀ M5, M5 = g_nw M 1 v1.toNat → g_ok M5 → g_InR n1 ∧ ∃ n10, g_A M5 (2 * (M).1.length) 1 n10 ∧ ((0 : Int) ≤ 0 ∧ (0 : Int) ≤ 0 ∧ (0 : Int) ≤ min n1 v1 ∧ (0 : Int) + (min n1 v1) ≤ n1 ∧ (0 : Int) + (min n1 v1) ≤ n10) ∧ (∀ M13, M13 = g_cp M5 a0 (2 * (M).1.length) 0 0 (min n1 v1) → g_ok M13 → Q (some (2 * (M).1.length)) M13))))) : g_Call (d + 1) 439 [.ref a0, g_n v1] M (g_qR Q) := by
  refine g_Call.ok fun hok0 => ?_
  replace h := h hok0
  refine r_body rfl (lv := [(0, .ref a0), (1, g_n v1)]) rfl ?_
  refine g_Run.ok fun hok => ?_
  refine r_iload_n x_439_0 rfl ?_
  refine r_aload_n x_439_1 rfl ?_
  obtain ⟨n1, hA2, h⟩ := h
  refine r_alen x_439_2 hA2 ?_
  obtain ⟨h3, h⟩ := h
  refine r_ic_ne x_439_3 (t := 14) (by decide +kernel) hv1 h3 (fun hc => ?_) (fun hc => ?_)
  · replace h := h.2 hc
    refine r_iload_n x_439_14 rfl ?_
    obtain ⟨h4, h⟩ := h
    refine r_newa x_439_15 (t := 1) rfl (by decide) hv1 h4.1 h4.2 ?_
    obtain ⟨M5, hM6⟩ : ∃ Mz, Mz = g_nw M 1 v1.toNat := ⟨_, rfl⟩
    rw [← hM6]
    refine g_Run.ok fun hok7 => ?_
    replace h := h M5 hM6 hok7
    have hx8 := g_extN hM6
    replace hA2 := hA2.up hx8
    refine r_astore_n x_439_17 (o := (some (2 * (M).1.length))) (by decide +kernel) rfl (lv1 := [(0, .ref a0), (1, g_n v1), (2, .ref (2 * (M).1.length))]) rfl ?_
    refine r_aload_n x_439_18 rfl ?_
    refine r_iconst x_439_19 ?_
    refine r_aload_n x_439_20 rfl ?_
    refine r_iconst x_439_21 ?_
    refine r_aload_n x_439_22 rfl ?_
    refine r_alen x_439_23 hA2 ?_
    obtain ⟨h9, h⟩ := h
    refine r_iload_n x_439_24 rfl ?_
    refine r_min x_439_25 rfl rfl rfl rfl h9 hv1 ?_
    obtain ⟨n10, hA11, h⟩ := h
    obtain ⟨h12, h⟩ := h
    refine r_copy x_439_28 rfl rfl rfl rfl rfl rfl (by decide) hA2 hA11 (g_Rk rfl) (g_Rk rfl) (g_min_R h9 hv1) h12.1 h12.2.1 h12.2.2.1 h12.2.2.2.1 h12.2.2.2.2 ?_
    obtain ⟨M13, hM14⟩ : ∃ Mz, Mz = g_cp M5 a0 (2 * (M).1.length) 0 0 (min n1 v1) := ⟨_, rfl⟩
    rw [← hM14]
    refine g_Run.ok fun hok15 => ?_
    replace h := h M13 hM14 hok15
    have hx16 := g_extC hM14
    replace hA2 := hA2.up hx16
    replace hA11 := hA11.up hx16
    refine r_aload_n x_439_31 rfl ?_
    exact r_retA x_439_32 (by decide +kernel) h
  · replace h := h.1 hc
    refine r_aload_n x_439_6 rfl ?_
    exact h.elim
theorem m_J6_compare {d : Nat} {M : g_M} {Q : Int → g_M → Prop} {v0 : Int} (hv0 : g_InR v0) {v1 : Int} (hv1 : g_InR v1) (h : g_ok M → ((v0 < v1 → Q ((-1)) M) ∧ (¬ v0 < v1 → ((v0 = v1 → Q 0 M) ∧ (¬ v0 = v1 → Q 1 M))))) : g_Call (d + 1) 440 [g_n v0, g_n v1] M (g_qI Q) := by
  refine g_Call.ok fun hok0 => ?_
  replace h := h hok0
  refine r_body rfl (lv := [(0, g_n v0), (1, g_n v1)]) rfl ?_
  refine g_Run.ok fun hok => ?_
  refine r_iload_n x_440_0 rfl ?_
  refine r_iload_n x_440_1 rfl ?_
  refine r_ic_ge x_440_2 (t := 9) (by decide +kernel) hv0 hv1 (fun hc => ?_) (fun hc => ?_)
  · replace h := h.2 hc
    refine r_iload_n x_440_9 rfl ?_
    refine r_iload_n x_440_10 rfl ?_
    refine r_ic_ne x_440_11 (t := 18) (by decide +kernel) hv0 hv1 (fun hc => ?_) (fun hc => ?_)
    · replace h := h.2 hc
      refine r_iconst x_440_18 ?_
      exact r_retI x_440_19 rfl (g_Rk rfl) h
    · replace h := h.1 hc
      refine r_iconst x_440_14 ?_
      refine r_goto x_440_15 (t := 19) (by decide +kernel) ?_
      exact r_retI x_440_19 rfl (g_Rk rfl) h
  · replace h := h.1 hc
    refine r_iconst x_440_5 ?_
    refine r_goto x_440_6 (t := 19) (by decide +kernel) ?_
    exact r_retI x_440_19 rfl (g_Rk rfl) h
theorem m_J13_compare {d : Nat} {M : g_M} {Q : Int → g_M → Prop} {V0 : Int64} {V2 : Int64} (h : g_ok M → ((g_lc V0 V2 < 0 → Q ((-1)) M) ∧ (¬ g_lc V0 V2 < 0 → ((g_lc V0 V2 = 0 → Q 0 M) ∧ (¬ g_lc V0 V2 = 0 → Q 1 M))))) : g_Call (d + 1) 441 [.long V0, .long V2] M (g_qI Q) := by
  refine g_Call.ok fun hok0 => ?_
  replace h := h hok0
  refine r_body rfl (lv := [(0, .long V0), (2, .long V2)]) rfl ?_
  refine g_Run.ok fun hok => ?_
  refine r_lload_n x_441_0 rfl ?_
  refine r_lload_n x_441_1 rfl ?_
  refine r_lcmp x_441_2 ?_
  refine r_if_ge x_441_3 (t := 10) (by decide +kernel) (g_InR_toInt _) (fun hc => ?_) (fun hc => ?_)
  · replace h := h.2 hc
    refine r_lload_n x_441_10 rfl ?_
    refine r_lload_n x_441_11 rfl ?_
    refine r_lcmp x_441_12 ?_
    refine r_if_ne x_441_13 (t := 20) (by decide +kernel) (g_InR_toInt _) (fun hc => ?_) (fun hc => ?_)
    · replace h := h.2 hc
      refine r_iconst x_441_20 ?_
      exact r_retI x_441_21 rfl (g_Rk rfl) h
    · replace h := h.1 hc
      refine r_iconst x_441_16 ?_
      refine r_goto x_441_17 (t := 21) (by decide +kernel) ?_
      exact r_retI x_441_21 rfl (g_Rk rfl) h
  · replace h := h.1 hc
    refine r_iconst x_441_6 ?_
    refine r_goto x_441_7 (t := 21) (by decide +kernel) ?_
    exact r_retI x_441_21 rfl (g_Rk rfl) h
