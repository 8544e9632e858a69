/-- the texts' signs -/
def b_txL : List (List Int) := [
  [105, 110, 115, 101, 114, 116],
  [102, 105, 110, 100],
  [99, 111, 117, 110, 116],
  [117, 112, 100, 97, 116, 101],
  [100, 101, 108, 101, 116, 101],
  [105, 110, 100, 101, 120],
  [100, 114, 111, 112],
  [112, 105, 112, 101, 108, 105, 110, 101],
  [101, 120, 112, 108, 97, 105, 110],
  [115, 104, 97, 112, 101],
  [115, 104, 101, 108, 102],
  [99, 104, 97, 110, 103, 101],
  [100, 111, 119, 110],
  [110, 117, 109, 98, 101, 114],
  [36, 97, 110, 100],
  [36, 111, 114],
  [36, 110, 111, 114],
  [36, 101, 113],
  [36, 110, 101],
  [36, 105, 110],
  [36, 110, 105, 110],
  [36, 108, 116],
  [36, 108, 116, 101],
  [36, 103, 116],
  [36, 103, 116, 101],
  [36, 101, 120, 105, 115, 116, 115],
  [36, 115, 105, 122, 101],
  [36, 101, 108, 101, 109],
  [36, 110, 111, 116],
  [109, 97, 110, 121],
  [102, 111, 117, 110, 100],
  [105, 115],
  [36, 115, 101, 116],
  [36, 117, 110, 115, 101, 116],
  [36, 105, 110, 99],
  [36, 112, 117, 115, 104],
  [36, 112, 117, 108, 108],
  [36, 97, 100, 100, 84, 111, 83, 101, 116],
  [99, 104, 97, 110, 103, 101, 100],
  [100, 114, 111, 112, 112, 101, 100],
  [36, 109, 97, 116, 99, 104],
  [36, 112, 114, 111, 106, 101, 99, 116],
  [36, 117, 110, 119, 105, 110, 100],
  [36, 103, 114, 111, 117, 112],
  [36, 115, 111, 114, 116],
  [36, 115, 107, 105, 112],
  [36, 108, 105, 109, 105, 116],
  [36, 108, 111, 111, 107, 117, 112],
  [98, 121],
  [36, 99, 111, 117, 110, 116],
  [36, 115, 117, 109],
  [36, 109, 105, 110],
  [36, 109, 97, 120],
  [36, 102, 105, 114, 115, 116],
  [36, 108, 97, 115, 116],
  [36, 112, 117, 115, 104],
  [36, 97, 100, 100, 84, 111, 83, 101, 116],
  [104, 101, 114, 101],
  [116, 104, 101, 114, 101],
  [97, 115],
  [36, 97, 110, 100],
  [36, 101, 108, 101, 109],
  [114, 97, 110, 107],
  [114, 97, 110, 103, 101, 115],
  [108, 111, 111, 107, 101, 100],
  [101, 110, 116, 114, 105, 101, 115],
  [108, 101, 118, 101, 108, 115],
  [108, 101, 97, 118, 101, 115],
  [110, 111, 100, 101, 115],
  [102, 105, 114, 115, 116],
  [115, 101, 99, 111, 110, 100],
  [102, 97, 117, 108, 116],
  [112, 108, 97, 99, 101],
  [105, 110, 115, 101, 114, 116],
  [102, 105, 110, 100],
  [99, 111, 117, 110, 116],
  [117, 112, 100, 97, 116, 101],
  [100, 101, 108, 101, 116, 101],
  [101, 120, 112, 108, 97, 105, 110],
  [100, 114, 111, 112],
  [115, 104, 97, 112, 101],
  [112, 105, 112, 101, 108, 105, 110, 101],
  [105, 110, 100, 101, 120],
  [115, 104, 101, 108, 102],
  [99, 104, 97, 110, 103, 101],
  [100, 111, 119, 110],
  [100, 114, 111, 112, 112, 101, 100],
  [101, 110, 116, 114, 105, 101, 115],
  [108, 101, 118, 101, 108, 115],
  [108, 101, 97, 118, 101, 115],
  [110, 111, 100, 101, 115],
  [102, 105, 114, 115, 116],
  [115, 101, 99, 111, 110, 100],
  [36, 109, 97, 116, 99, 104],
  [36, 97, 110, 100],
  [36, 111, 114],
  [36, 110, 111, 114],
  [36, 101, 113],
  [36, 110, 101],
  [36, 105, 110],
  [36, 110, 105, 110],
  [36, 108, 116],
  [36, 108, 116, 101],
  [36, 103, 116],
  [36, 103, 116, 101],
  [36, 101, 120, 105, 115, 116, 115],
  [36, 115, 105, 122, 101],
  [36, 101, 108, 101, 109],
  [36, 110, 111, 116],
  [36, 112, 114, 111, 106, 101, 99, 116],
  [36, 117, 110, 119, 105, 110, 100],
  [36, 103, 114, 111, 117, 112],
  [98, 121],
  [36, 115, 117, 109],
  [36, 109, 105, 110],
  [36, 109, 97, 120],
  [36, 102, 105, 114, 115, 116],
  [36, 108, 97, 115, 116],
  [36, 112, 117, 115, 104],
  [36, 97, 100, 100, 84, 111, 83, 101, 116],
  [36, 99, 111, 117, 110, 116],
  [36, 115, 111, 114, 116],
  [36, 115, 107, 105, 112],
  [36, 108, 105, 109, 105, 116],
  [36, 108, 111, 111, 107, 117, 112],
  [104, 101, 114, 101],
  [116, 104, 101, 114, 101],
  [97, 115],
  [109, 97, 110, 121],
  [102, 111, 117, 110, 100],
  [110, 117, 109, 98, 101, 114],
  [114, 97, 110, 107],
  [114, 97, 110, 103, 101, 115],
  [108, 111, 111, 107, 101, 100],
  [36, 115, 101, 116],
  [36, 117, 110, 115, 101, 116],
  [36, 105, 110, 99],
  [36, 112, 117, 108, 108],
  [99, 104, 97, 110, 103, 101, 100],
  [105, 115],
  [102, 97, 117, 108, 116],
  [112, 108, 97, 99, 101]]
def b_tx (j : Nat) : List Int := b_txL.getD j []
set_option maxRecDepth 1000000 in
theorem b_txA : (List.range 142).all (fun j => (q_sb j).map (fun x => x.toInt) == b_tx j && (b_tx j).all (fun c => decide (0 < c) && decide (c < 128)) && decide ((b_tx j).length < 100)) = true := by decide +kernel
theorem b_tx1 {j : Nat} (hj : j < q_nS) : (q_sb j).map (fun x => x.toInt) = b_tx j ∧ (∀ c ∈ b_tx j, 0 < c ∧ c < 128) ∧ (b_tx j).length < 100 := by
  have h := List.all_eq_true.mp b_txA j (List.mem_range.mpr hj)
  simp only [Bool.and_eq_true, beq_iff_eq, List.all_eq_true, decide_eq_true_eq] at h
  exact ⟨h.1.1, h.1.2, h.2⟩
theorem b_txl {j : Nat} (hj : j < q_nS) : (q_sb j).length = (b_tx j).length := by
  rw [← (b_tx1 hj).1, List.length_map]
theorem b_txg {j i : Nat} (hj : j < q_nS) (hi : i < (b_tx j).length) : ((q_sb j).getD i 0).toInt = (b_tx j)[i] := by
  have h1 := (b_tx1 hj).1
  have h2 : i < (q_sb j).length := by rw [b_txl hj]; exact hi
  rw [List.getD_eq_getElem?_getD, List.getElem?_eq_getElem h2]
  show ((q_sb j)[i]).toInt = _
  have h3 : ((q_sb j).map (fun x => x.toInt))[i]? = (b_tx j)[i]? := by rw [h1]
  rw [List.getElem?_map, List.getElem?_eq_getElem h2, List.getElem?_eq_getElem hi] at h3
  exact Option.some.inj h3
theorem g_shr0 {x : Int} (h : g_InR x) : g_shr x 0 = x := by
  unfold g_shr
  have h1 : Int32.ofInt x >>> (Int32.ofInt 0 &&& 31) = Int32.ofInt x := by
    show Int32.ofInt x >>> (0 : Int32) = _
    simp
  rw [h1, g_toInt h]
theorem g_i2c7 {x : Int} (h : 0 ≤ x) (h2 : x < 128) : g_i2c (g_and x 255) = x ∧ q_nar .char (Int32.ofInt x) = true := by
  have h3 : ∀ k : Fin 128, g_i2c (g_and (k.val : Int) 255) = (k.val : Int) ∧ q_nar .char (Int32.ofInt (k.val : Int)) = true := by decide +kernel
  have h4 : g_i2c (g_and ((x.toNat : Nat) : Int) 255) = ((x.toNat : Nat) : Int) ∧ q_nar .char (Int32.ofInt ((x.toNat : Nat) : Int)) = true := h3 ⟨x.toNat, by omega⟩
  rwa [show ((x.toNat : Nat) : Int) = x by omega] at h4
section C14
variable {d a : Nat} {M : g_M} {Q : Int → g_M → Prop} {n p z : Int}
theorem c_slen {j : Nat} (hj : j < q_nS) (h : Q (b_tx j).length M) : g_Call (d + 2) 433 [.ref (4 * j + 1)] M (g_qI Q) := by
  have h1 := (b_tx1 hj).2.2
  refine m_J0_length hj fun hok => ⟨by rw [b_txl hj]; exact ⟨by omega, by omega⟩, m_J0_coder hj fun _ => ⟨by decide +kernel, fun _ _ _ => ?_⟩⟩
  rw [b_txl hj, g_shr0 ⟨by omega, by omega⟩]
  exact h
theorem c_charAt {j i : Nat} (hj : j < q_nS) (hi : i < (b_tx j).length) (h : Q (b_tx j)[i] M) : g_Call (d + 2) 434 [.ref (4 * j + 1), g_n i] M (g_qI Q) := by
  obtain ⟨h1, h2, h3⟩ := b_tx1 hj
  have h4 := h2 _ (List.getElem_mem hi)
  have h5 := g_i2c7 (Int.le_of_lt h4.1) h4.2
  refine m_J0_charAt hj ⟨by omega, by omega⟩ fun hok => m_J0_isLatin1 hj fun _ => fun _ _ _ => ⟨fun q => absurd q (by decide), fun _ => m_J1_charAt hj ⟨by omega, by omega⟩ fun _ => ?_⟩
  rw [b_txl hj, show ((i : Int)).toNat = i by omega, b_txg hj hi, h5.1]
  exact ⟨⟨by omega, by omega⟩, ⟨by omega, by omega⟩, ⟨by omega, by omega⟩, h5.2, fun _ _ _ => ⟨h5.2, h⟩⟩
theorem c_named {j : Nat} (hj : j < q_nS) (hA : g_A M a 0 n) (hn : n ≤ 1000000000) {k : Int} {nm vb : List Int} (hat : b_at (g_i M a) p (b_el k nm vb)) (hz : b_nz nm) (h0 : 0 ≤ p) (h1 : p + 1 + nm.length < n) (h : Q (if nm = b_tx j then 1 else 0) M) : g_Call (d + 3) 115 [.ref a, g_n p, .ref (4 * j + 1)] M (g_qI Q) := by
  obtain ⟨t1, t2, t3⟩ := b_tx1 hj
  obtain ⟨-, e1, e2, -⟩ := b_el_at hat
  have hl0 := hA.len
  have hl : ∀ (ts ns : List Int) (i : Nat), (b_tx j).drop i = ts → i ≤ (b_tx j).length → b_at (g_i M a) (p + 1 + i) ns → g_i M a (p + 1 + i + ns.length) = 0 → p + 1 + i + ns.length < n → p + 1 + (b_tx j).length < n → b_nz ns → Q (if ns = ts then 1 else 0) M → g_Run (d + 2) 115 24 [(0, .ref a), (1, g_n p), (2, .ref (4 * j + 1)), (3, g_n (b_tx j).length), (4, g_n i)] [] M (g_qI Q) := by
    intro ts
    induction ts with
    | nil =>
      intro ns i hd hi hb hb0 hb1 hb2 hnz hq
      have hi2 : i = (b_tx j).length := by
        have := congrArg List.length hd
        rw [List.length_drop, List.length_nil] at this
        omega
      refine s_X7_named_24 ⟨by omega, by omega⟩ hj ⟨by omega, by omega⟩ ⟨by omega, by omega⟩ fun hok => ⟨fun q => absurd q (by omega), fun _ => ⟨⟨by omega, by omega⟩, ⟨by omega, by omega⟩, n, hA, ⟨by omega, by omega⟩, ?_⟩⟩
      rw [← hi2]
      cases ns with
      | nil =>
        rw [List.length_nil, show p + 1 + (i : Int) + ((0 : Nat) : Int) = p + 1 + i by omega] at hb0
        exact ⟨fun _ => by simpa using hq, fun q => absurd hb0 q⟩
      | cons c ns =>
        obtain ⟨b1, -⟩ := b_cons.mp hb
        have := hnz c List.mem_cons_self
        exact ⟨fun q => absurd (b1.symm.trans q) this, fun _ => by simpa using hq⟩
    | cons t ts ih =>
      intro ns i hd hi hb hb0 hb1 hb2 hnz hq
      have hi2 : i < (b_tx j).length := by
        have := congrArg List.length hd
        rw [List.length_drop, List.length_cons] at this
        omega
      have ht : (b_tx j)[i] = t := by
        have h9 : (b_tx j).drop i = (b_tx j)[i] :: (b_tx j).drop (i + 1) := List.drop_eq_getElem_cons hi2
        rw [hd] at h9
        exact (List.cons.inj h9).1.symm
      have hd2 : (b_tx j).drop (i + 1) = ts := by
        have h9 : (b_tx j).drop i = (b_tx j)[i] :: (b_tx j).drop (i + 1) := List.drop_eq_getElem_cons hi2
        rw [hd] at h9
        exact (List.cons.inj h9).2.symm
      have htp := t2 _ (List.getElem_mem hi2)
      rw [ht] at htp
      refine s_X7_named_24 ⟨by omega, by omega⟩ hj ⟨by omega, by omega⟩ ⟨by omega, by omega⟩ fun hok => ⟨fun _ => ⟨⟨by omega, by omega⟩, ⟨by omega, by omega⟩, n, hA, ⟨by omega, by omega⟩, c_charAt hj hi2 fun _ _ _ => ?_⟩, fun q => absurd ?_ q⟩
      · rw [ht]
        cases ns with
        | nil =>
          rw [List.length_nil, show p + 1 + (i : Int) + ((0 : Nat) : Int) = p + 1 + i by omega] at hb0
          exact ⟨fun q => absurd (hb0.symm.trans q) (by omega), fun _ => by simpa using hq⟩
        | cons c ns =>
          obtain ⟨b1, b2⟩ := b_cons.mp hb
          rw [List.length_cons] at hb0 hb1
          rw [b1]
          refine ⟨fun q => ⟨⟨by omega, by omega⟩, ?_⟩, fun q => ?_⟩
          · have h8 := ih ns (i + 1) hd2 (by omega) (by rwa [show p + 1 + ((i + 1 : Nat) : Int) = p + 1 + i + 1 by omega]) (by rwa [show p + 1 + ((i + 1 : Nat) : Int) + (ns.length : Int) = p + 1 + i + ((ns.length + 1 : Nat) : Int) by omega]) (by omega) hb2 (fun c' hc' => hnz c' (List.mem_cons_of_mem _ hc')) (by
              subst q
              simpa using hq)
            rwa [show (((i + 1 : Nat)) : Int) = (i : Int) + 1 by omega] at h8
          · have : ¬ (c :: ns = t :: ts) := fun e => q (List.cons.inj e).1
            rwa [if_neg this] at hq
      · omega
  refine m_X7_named ⟨by omega, by omega⟩ hj fun hok => c_slen hj fun _ _ _ => ⟨fun q => absurd q (by omega), fun _ => ⟨⟨by omega, by omega⟩, ⟨by omega, by omega⟩, n, hA, ⟨by omega, by omega⟩, fun q => ?_, fun q => ?_⟩⟩
  · have h8 := hl (b_tx j) nm 0 rfl (by omega) (by rwa [show p + 1 + ((0 : Nat) : Int) = p + 1 by omega]) (by rwa [show p + 1 + ((0 : Nat) : Int) + (nm.length : Int) = p + 1 + nm.length by omega]) (by omega) q hz h
    exact h8
  · have : ¬ nm = b_tx j := by
      intro e
      rw [e] at h1
      exact q h1
    rwa [if_neg this] at h
end C14
