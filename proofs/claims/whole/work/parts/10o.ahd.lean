/-! names that stood ahead; slices; sizes -/
def b_sub (B : Int → Int) : Nat → Int → List Int
  | 0, _ => []
  | l + 1, p => B p :: b_sub B l (p + 1)
theorem b_sub_len (B : Int → Int) : ∀ (l : Nat) (p : Int), (b_sub B l p).length = l := by
  intro l
  induction l with
  | zero => exact fun _ => rfl
  | succ l ih =>
    intro p
    unfold b_sub
    rw [List.length_cons, ih]
theorem b_sub_at (B : Int → Int) : ∀ (l : Nat) (p : Int), b_at B p (b_sub B l p) := by
  intro l
  induction l with
  | zero => exact fun p => b_nil B p
  | succ l ih => exact fun p => b_cons.mpr ⟨rfl, ih (p + 1)⟩
theorem b_sub_eq {B : Int → Int} : ∀ {x : List Int} {p : Int}, b_at B p x → b_sub B x.length p = x := by
  intro x
  induction x with
  | nil => exact fun _ => rfl
  | cons v x ih =>
    intro p h
    obtain ⟨h1, h2⟩ := b_cons.mp h
    rw [List.length_cons]
    unfold b_sub
    rw [h1, ih h2]
theorem b_sub_nz {B : Int → Int} : ∀ {l : Nat} {p : Int}, (∀ q, p ≤ q → q < p + l → B q ≠ 0) → b_nz (b_sub B l p) := by
  intro l
  induction l with
  | zero => exact fun _ c hc => absurd hc (by simp [b_sub])
  | succ l ih =>
    intro p h c hc
    unfold b_sub at hc
    rcases List.mem_cons.mp hc with rfl | hc
    · exact h p (Int.le_refl _) (by omega)
    · exact ih (fun q q1 q2 => h q (by omega) (by omega)) c hc
theorem b_sub_B {B : Int → Int} (hB : ∀ q, -128 ≤ B q ∧ B q ≤ 127) : ∀ {l : Nat} {p : Int}, b_B (b_sub B l p) := by
  intro l
  induction l with
  | zero => exact fun c hc => absurd hc (by simp [b_sub])
  | succ l ih =>
    intro p c hc
    unfold b_sub at hc
    rcases List.mem_cons.mp hc with rfl | hc
    · exact hB p
    · exact ih c hc
theorem b_at_B {B : Int → Int} (hB : ∀ q, -128 ≤ B q ∧ B q ≤ 127) {x : List Int} {p : Int} (h : b_at B p x) : b_B x := by
  rw [← b_sub_eq h]
  exact b_sub_B hB
def u_has : List b_E → List Int → Bool
  | [], _ => false
  | e :: es, x => decide (e.2.1 = x) || u_has es x
section AHEAD
variable {d : Nat} {M : g_M} {Q : Int → g_M → Prop} {p c : Int} {m b a : Nat} {n : Int} {es : List b_E} {x : List Int}
theorem e_there (hR : e_R M m b) (hat : b_at (g_i M b) (c + 4) (b_ser es)) (hok : ∀ e ∈ es, b_okE e) (hc : 0 ≤ c) (hc1 : c + 4 + (b_ser es).length ≤ 2706210) (hx : b_at (g_i M b) p x) (h0 : 0 ≤ p) (h1 : p + x.length ≤ 2706210) (h : Q (if u_has es x = true then 1 else 0) M) : g_Call (d + 5) 265 [.ref m, g_n c, g_n (c + 4 + (b_ser es).length), g_n p, g_n (p + x.length)] M (g_qI Q) := by
  have hl : ∀ (fs : List b_E) (q : Int), (∀ e ∈ fs, b_okE e) → b_at (g_i M b) q (b_ser fs) → 0 ≤ q → q + (b_ser fs).length = c + 4 + (b_ser es).length → Q (if u_has fs x = true then 1 else 0) M → g_Run (d + 4) 265 6 [(0, .ref m), (1, g_n c), (2, g_n (c + 4 + (b_ser es).length)), (3, g_n p), (4, g_n (p + x.length)), (5, g_n q)] [] M (g_qI Q) := by
    intro fs
    induction fs with
    | nil =>
      intro q _ _ hq0 hq hQ
      rw [show b_ser [] = [] from rfl, List.length_nil] at hq
      exact s_X12_isThere_6 ⟨by omega, by omega⟩ ⟨by omega, by omega⟩ ⟨by omega, by omega⟩ ⟨by omega, by omega⟩ ⟨by omega, by omega⟩ fun _ => ⟨fun g => absurd g (by omega), fun _ => hQ⟩
    | cons e fs ih =>
      intro q ho hb hq0 hq hQ
      obtain ⟨b1, b2⟩ := b_ser_cons_at hb
      rw [b_ser_len] at hq
      have he := ho e List.mem_cons_self
      have hl := b_el_len e.1 e.2.1 e.2.2
      have hnm := b_el_nm (n := 2706210) b1 he.1 hq0 (by omega)
      refine s_X12_isThere_6 ⟨by omega, by omega⟩ ⟨by omega, by omega⟩ ⟨by omega, by omega⟩ ⟨by omega, by omega⟩ ⟨by omega, by omega⟩ fun _ => ⟨fun _ => ⟨⟨by omega, by omega⟩, hR.1, e_nameEnd hR hnm fun _ _ _ => e_same hR (b_el_at b1).2.1 hx (by omega) (by omega) h0 h1 fun _ _ _ => ⟨fun g => e_behind hR b1 he.1 he.2 hq0 (by omega) fun _ _ _ => ?_, fun g => ?_⟩⟩, fun g => absurd (by omega) g⟩
      · have g2 : ¬ e.2.1 = x := fun g2 => by
          rw [if_pos g2] at g
          omega
        refine ih _ (fun f hf => ho f (List.mem_cons_of_mem _ hf)) b2 (by omega) (by omega) ?_
        unfold u_has at hQ
        rwa [decide_eq_false g2, Bool.false_or] at hQ
      · have g2 : e.2.1 = x := Decidable.byContradiction fun g2 => by
          rw [if_neg g2] at g
          omega
        unfold u_has at hQ
        rwa [decide_eq_true g2, Bool.true_or, if_pos rfl] at hQ
  exact m_X12_isThere ⟨by omega, by omega⟩ ⟨by omega, by omega⟩ ⟨by omega, by omega⟩ ⟨by omega, by omega⟩ fun _ => e_first (by omega) (by omega) fun _ _ _ => hl es (c + 4) hok hat (by omega) rfl h
/-- a Reader of the class, and its bytes -/
def c_RD (M : g_M) (o a : Nat) (n : Int) : Prop := g_O M o 6 ∧ g_r M o 0 = some a ∧ g_A M a 0 n ∧ n ≤ 1000000000
theorem c_ahead {o : Nat} (hD : c_RD M o a n) (hat : b_at (g_i M a) c (b_ser es)) (hok : ∀ e ∈ es, b_okE e) (hc : 0 ≤ c) (hm : es.length < 2000) (hx : b_at (g_i M a) (c + (b_ser es).length + 1) x) (h1 : c + (b_ser es).length + 1 + x.length ≤ n) (h : Q (if u_has es x = true then 1 else 0) M) : g_Call (d + 3) 100 [.ref o, g_n c, g_n (c + (b_ser es).length), g_n (c + (b_ser es).length + 1 + x.length)] M (g_qI Q) := by
  obtain ⟨hO, hr, hA, hn⟩ := hD
  have hl : ∀ (fs : List b_E) (q : Int) (i : Nat), (∀ e ∈ fs, b_okE e) → b_at (g_i M a) q (b_ser fs) → 0 ≤ q → q + (b_ser fs).length = c + (b_ser es).length → i + fs.length < 2000 → Q (if u_has fs x = true then 1 else 0) M → g_Run (d + 2) 100 6 [(0, .ref o), (1, g_n c), (2, g_n (c + (b_ser es).length)), (3, g_n (c + (b_ser es).length + 1 + x.length)), (4, g_n q), (5, g_n i)] [] M (g_qI Q) := by
    intro fs
    induction fs with
    | nil =>
      intro q i _ _ hq0 hq hi hQ
      rw [show b_ser [] = [] from rfl, List.length_nil] at hq
      exact s_X6_stoodAhead_6 ⟨by omega, by omega⟩ ⟨by omega, by omega⟩ ⟨by omega, by omega⟩ ⟨by omega, by omega⟩ ⟨by omega, by omega⟩ fun _ => ⟨fun _ => ⟨fun g => absurd g (by omega), fun _ => hQ⟩, fun g => absurd (by omega) g⟩
    | cons e fs ih =>
      intro q i ho hb hq0 hq hi hQ
      obtain ⟨b1, b2⟩ := b_ser_cons_at hb
      rw [b_ser_len] at hq
      rw [List.length_cons] at hi
      have he := ho e List.mem_cons_self
      have hl := b_el_len e.1 e.2.1 e.2.2
      have hnm := b_el_nm (n := n) b1 he.1 hq0 (by omega)
      refine s_X6_stoodAhead_6 ⟨by omega, by omega⟩ ⟨by omega, by omega⟩ ⟨by omega, by omega⟩ ⟨by omega, by omega⟩ ⟨by omega, by omega⟩ fun hkk => ⟨fun _ => ⟨fun _ => ⟨hO, a, hr, ⟨by omega, by omega⟩, a, hr, c_va hA ⟨by omega, by omega⟩ hnm fun _ _ _ => ⟨⟨by omega, by omega⟩, a, hr, ⟨by omega, by omega⟩, ?_⟩⟩, fun g => absurd (by omega) g⟩, fun g => absurd (by omega) g⟩
      rw [show q + 1 + (e.2.1.length : Int) + 1 - 1 = q + 1 + e.2.1.length by omega]
      have hB := b_cmp0 (b_at_B (hkk.byte hA) (b_el_at b1).2.1) (b_at_B (hkk.byte hA) hx)
      refine c_cmp hA hA hn hn (b_el_at b1).2.1 hx (by omega) (by omega) (by omega) (by omega) fun _ _ _ => ⟨fun g => ?_, fun g => ⟨a, hr, c_next hA hn b1 he.1 he.2 hq0 (by omega) fun _ _ _ => ⟨⟨by omega, by omega⟩, ?_⟩⟩⟩
      · unfold u_has at hQ
        rwa [decide_eq_true (hB.mp g), Bool.true_or, if_pos rfl] at hQ
      · unfold u_has at hQ
        rw [decide_eq_false (fun e2 => g (hB.mpr e2)), Bool.false_or] at hQ
        have h8 := ih _ (i + 1) (fun f hf => ho f (List.mem_cons_of_mem _ hf)) b2 (by omega) (by omega) (by omega) hQ
        rwa [show ((i + 1 : Nat) : Int) = (i : Int) + 1 by omega] at h8
  exact m_X6_stoodAhead ⟨by omega, by omega⟩ ⟨by omega, by omega⟩ ⟨by omega, by omega⟩ fun _ => hl es c 0 hok hat hc rfl (by omega) h
end AHEAD
/-! sizes without a sign -/
theorem u_U {r : Int} (h : g_InR r) : ((Int64.ofInt r) &&& 4294967295).toInt = if r < 0 then r + 4294967296 else r := by
  obtain ⟨g1, g2⟩ := h
  have h1 : ((Int64.ofInt r) &&& 4294967295).toBitVec.toNat = (if r < 0 then r + 4294967296 else r).toNat := by
    rw [Int64.toBitVec_and, BitVec.toNat_and]
    rw [show (4294967295 : Int64).toBitVec.toNat = 2 ^ 32 - 1 from rfl, Nat.and_two_pow_sub_one_eq_mod]
    rw [Int64.toBitVec_ofInt, BitVec.toNat_ofInt]
    split <;> omega
  rw [← Int64.toInt_toBitVec, BitVec.toInt_eq_toNat_of_lt]
  · rw [h1]
    split <;> omega
  · rw [h1]
    split <;> omega
theorem u_U32 {r : Int} (h : g_InR r) : (((Int64.ofInt r) &&& 4294967295).toInt32.toInt) = r := by
  obtain ⟨g1, g2⟩ := id h
  rw [Int64.toInt_toInt32, u_U h]
  split <;> simp [Int.bmod] <;> omega
theorem u_i64 {x : Int} (h : g_InR x) : (Int64.ofInt x).toInt = x := by
  obtain ⟨g1, g2⟩ := h
  rw [Int64.toInt_ofInt_of_le] <;> omega
theorem u_lt (X Y : Int64) : g_lc X Y < 0 ↔ X.toInt < Y.toInt := by
  rw [← Int64.lt_iff_toInt_lt, ← lg_cmp_lt, Int32.lt_iff_toInt_lt]
  exact Iff.rfl
theorem u_gt (X Y : Int64) : 0 < g_lc X Y ↔ Y.toInt < X.toInt := by
  rw [← Int64.lt_iff_toInt_lt, ← lg_cmp_gt, Int32.lt_iff_toInt_lt]
  exact Iff.rfl
theorem u_ltU {r k : Int} (h : g_InR r) (hk : g_InR k) : g_lc ((Int64.ofInt r) &&& 4294967295) (Int64.ofInt k) < 0 ↔ (0 ≤ r ∧ r < k) ∨ (r < 0 ∧ r + 4294967296 < k) := by
  rw [u_lt, u_U h, u_i64 hk]
  split <;> omega
theorem u_gtU {r k : Int} (h : g_InR r) (hk : g_InR k) : 0 < g_lc ((Int64.ofInt r) &&& 4294967295) (Int64.ofInt k) ↔ (0 ≤ r ∧ k < r) ∨ (r < 0 ∧ k < r + 4294967296) := by
  rw [u_gt, u_U h, u_i64 hk]
  split <;> omega
theorem u_neg : ∀ k : Fin 128, (Int32.ofInt ((k.val : Int) - 128) <<< (Int32.ofInt 24 &&& 31)).toBitVec.msb = true := by decide +kernel
theorem g_or_neg {x y : Int} (h0 : -128 ≤ y) (h1 : y < 0) : g_or x (g_shl y 24) < 0 := by
  have h2 := u_neg ⟨(y + 128).toNat, by omega⟩
  simp only at h2
  rw [show (((y + 128).toNat : Nat) : Int) - 128 = y by omega] at h2
  have h3 : (Int32.ofInt x ||| (Int32.ofInt y <<< (Int32.ofInt 24 &&& 31))).toBitVec.msb = true := by
    rw [Int32.toBitVec_or, BitVec.msb_or, h2, Bool.or_true]
  rw [BitVec.msb_eq_toInt] at h3
  unfold g_or g_shl
  rw [Int32.ofInt_toInt]
  exact of_decide_eq_true h3
theorem g_shl24p {x : Int} (h : 0 ≤ x) (h2 : x < 128) : g_shl x 24 = x * 2 ^ 24 := g_fin (fun x => g_shl x 24) (fun x => x * 2 ^ 24) 128 (by decide +kernel) h h2
/-- a size is four bytes in but one way -/
theorem b_w4_inv {B : Int → Int} {p : Int} (hB : ∀ q, -128 ≤ B q ∧ B q ≤ 127) (h0 : 0 ≤ b_w4 B p) (h1 : b_w4 B p < 16777216) : b_at B p (b_le4 (b_w4 B p)) := by
  have c0 := hB p
  have c1 := hB (p + 1)
  have c2 := hB (p + 2)
  have c3 := hB (p + 3)
  have e : b_w4 B p = g_or (B p % 256 + (B (p + 1) % 256) * 2 ^ 8 + (B (p + 2) % 256) * 2 ^ 16) (g_shl (B (p + 3)) 24) := by
    unfold b_w4
    rw [g_and255 c0.1 c0.2, g_and255 c1.1 c1.2, g_and255 c2.1 c2.2, g_shl8 (by omega) (by omega), g_shl16 (by omega) (by omega), g_or_add 8 (by omega) (by omega) (by omega) (by omega), g_or_add 16 (by omega) (by omega) (by omega) (by omega)]
  have h3 : B (p + 3) = 0 := by
    by_cases g : B (p + 3) < 0
    · have := g_or_neg (x := B p % 256 + (B (p + 1) % 256) * 2 ^ 8 + (B (p + 2) % 256) * 2 ^ 16) c3.1 g
      omega
    · rw [g_shl24p (by omega) (by omega), g_or_add 24 (by omega) (by omega) (by omega) (by omega)] at e
      omega
  have e2 : b_w4 B p = B p % 256 + (B (p + 1) % 256) * 2 ^ 8 + (B (p + 2) % 256) * 2 ^ 16 := by
    rw [e, g_shl24p (by omega) (by omega), g_or_add 24 (by omega) (by omega) (by omega) (by omega)]
    omega
  have hw : ∀ c x : Int, -128 ≤ c → c ≤ 127 → c % 256 = x % 256 → c = g_w8 x := by
    intro c x g1 g2 g3
    have g4 := g_w8_mod x
    have g5 := g_w8_R x
    omega
  unfold b_le4
  refine b_cons.mpr ⟨hw _ _ c0.1 c0.2 (by omega), b_cons.mpr ⟨hw _ _ c1.1 c1.2 (by omega), b_cons.mpr ⟨?_, b_cons.mpr ⟨?_, b_nil _ _⟩⟩⟩⟩
  · rw [show p + 1 + 1 = p + 2 by omega]
    exact hw _ _ c2.1 c2.2 (by omega)
  · rw [show p + 1 + 1 + 1 = p + 3 by omega]
    exact hw _ _ c3.1 c3.2 (by omega)
