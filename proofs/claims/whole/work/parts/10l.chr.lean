/-! CHARACTERS: right UTF-8, as both tell it -/
theorem g_fin (f h : Int → Int) (n : Nat) (hf : ∀ k : Fin n, f k.val = h k.val) {x : Int} (h0 : 0 ≤ x) (h1 : x < n) : f x = h x := by
  have h4 := hf ⟨x.toNat, by omega⟩
  rwa [show ((x.toNat : Nat) : Int) = x by omega] at h4
theorem g_and31 {x : Int} (h : 0 ≤ x) (h2 : x < 256) : g_and x 31 = x % 32 := g_fin (fun x => g_and x 31) (fun x => x % 32) 256 (by decide +kernel) h h2
theorem g_and15 {x : Int} (h : 0 ≤ x) (h2 : x < 256) : g_and x 15 = x % 16 := g_fin (fun x => g_and x 15) (fun x => x % 16) 256 (by decide +kernel) h h2
theorem g_and7 {x : Int} (h : 0 ≤ x) (h2 : x < 256) : g_and x 7 = x % 8 := g_fin (fun x => g_and x 7) (fun x => x % 8) 256 (by decide +kernel) h h2
theorem g_and63 {x : Int} (h : 0 ≤ x) (h2 : x < 256) : g_and x 63 = x % 64 := g_fin (fun x => g_and x 63) (fun x => x % 64) 256 (by decide +kernel) h h2
theorem g_and192 {x : Int} (h : 0 ≤ x) (h2 : x < 256) : g_and x 192 = x / 64 * 64 := g_fin (fun x => g_and x 192) (fun x => x / 64 * 64) 256 (by decide +kernel) h h2
theorem g_and192s {x : Int} (h : -128 ≤ x) (h2 : x ≤ 127) : g_and x 192 = (x % 256) / 64 * 64 := by
  have h3 := g_fin (fun x => g_and (x - 128) 192) (fun x => ((x - 128) % 256) / 64 * 64) 256 (by decide +kernel) (x := x + 128) (by omega) (by omega)
  rwa [show x + 128 - 128 = x by omega] at h3
theorem g_shl6 {x : Int} (h : 0 ≤ x) (h2 : x < 131072) : g_shl x 6 = x * 2 ^ 6 := by
  obtain ⟨y, rfl⟩ : ∃ y : Nat, x = y := ⟨x.toNat, by omega⟩
  unfold g_shl
  rw [show (Int32.ofInt 6 &&& 31) = 6 from rfl, Int32.ofInt_eq_ofNat]
  have h5 : Int32.ofNat y <<< 6 = Int32.ofNat (y * 2 ^ 6) := by
    apply Int32.toBitVec_inj.1
    apply BitVec.eq_of_toNat_eq
    simp [Nat.shiftLeft_eq]
  rw [h5, Int32.toInt_ofNat_of_lt (by omega)]
  push_cast
  rfl
theorem g_or_comm (x y : Int) : g_or x y = g_or y x := by
  unfold g_or
  rw [Int32.or_comm]
theorem g_sixes {v r : Int} (h : 0 ≤ v) (h2 : v < 131072) (h3 : 0 ≤ r) (h4 : r < 256) : g_or (g_shl v 6) (g_and r 63) = v * 64 + r % 64 := by
  rw [g_shl6 h h2, g_and63 h3 h4, g_or_comm, g_or_add 6 (by omega) (by omega) h (by omega)]
  omega
def u_at (B : Int → Int) (p : Int) : Int := B p % 256
theorem u_at_R (B : Int → Int) (p : Int) : 0 ≤ u_at B p ∧ u_at B p < 256 := by
  unfold u_at
  omega
def u_lead (c : Int) : Int := if c < 128 then 1 else if c < 194 then 0 else if c < 224 then 2 else if c < 240 then 3 else if c < 245 then 4 else 0
def u_ct (c : Int) : Bool := decide (128 ≤ c ∧ c < 192)
theorem u_ct_iff {c : Int} : u_ct c = true ↔ 128 ≤ c ∧ c < 192 := by
  unfold u_ct
  exact decide_eq_true_iff
def u_cts (B : Int → Int) (p : Int) : Nat → Int → Bool
  | 0, _ => true
  | n + 1, i => u_ct (u_at B (p + i)) && u_cts B p n (i + 1)
def u_secP (c s : Int) : Prop := ¬ (c = 224 ∧ s < 160) ∧ ¬ (c = 237 ∧ 159 < s) ∧ ¬ (c = 240 ∧ s < 144) ∧ ¬ (c = 244 ∧ 143 < s)
noncomputable def u_sec (c s : Int) : Bool := @decide (u_secP c s) (Classical.propDecidable _)
theorem u_sec_iff {c s : Int} : u_sec c s = true ↔ u_secP c s := by
  unfold u_sec
  exact @decide_eq_true_iff _ (Classical.propDecidable _)
/-- how many bytes the character at p has; 0: it is no right one -/
noncomputable def u_ch (B : Int → Int) (p to : Int) : Int :=
  if u_lead (u_at B p) = 0 then 0 else if to < p + u_lead (u_at B p) then 0 else if u_lead (u_at B p) = 1 then 1
  else if u_cts B p (u_lead (u_at B p) - 1).toNat 1 = true then (if u_sec (u_at B p) (u_at B (p + 1)) = true then u_lead (u_at B p) else 0) else 0
theorem u_lead_R (c : Int) : 0 ≤ u_lead c ∧ u_lead c ≤ 4 := by
  unfold u_lead
  repeat' split
  all_goals omega
theorem u_ch_R (B : Int → Int) (p to : Int) : 0 ≤ u_ch B p to ∧ u_ch B p to ≤ 4 := by
  have := u_lead_R (u_at B p)
  unfold u_ch
  repeat' split
  all_goals omega
theorem u_ch_to {B : Int → Int} {p to : Int} (h : u_ch B p to ≠ 0) : p + u_ch B p to ≤ to := by
  have := u_lead_R (u_at B p)
  unfold u_ch at h ⊢
  split at h
  · exact absurd rfl h
  · split at h
    · exact absurd rfl h
    · rw [if_neg (by assumption), if_neg (by assumption)]
      repeat' split
      all_goals omega
theorem u_at_byte {B : Int → Int} {p : Int} (h : -128 ≤ B p ∧ B p ≤ 127) : g_and (B p) 255 = u_at B p := g_and255 h.1 h.2
section CH
variable {d : Nat} {M : g_M} {Q : Int → g_M → Prop} {p to : Int}
theorem c_chLen {a : Nat} {n : Int} (hA : g_A M a 0 n) (hn : n ≤ 1000000000) (h0 : 0 ≤ p) (h1 : p < to) (h2 : to ≤ n) (h : Q (u_ch (g_i M a) p to) M) : g_Call (d + 1) 127 [.ref a, g_n p, g_n to] M (g_qI Q) := by
  have hn0 := hA.len
  have hi : ∀ q, 0 ≤ q → q < n → g_ok M → g_and (g_i M a q) 255 = u_at (g_i M a) q := fun q _ _ hok => u_at_byte (hok.byte hA q)
  have hc := u_at_R (g_i M a) p
  have hL := u_lead_R (u_at (g_i M a) p)
  have hend : ∀ w c s : Int, g_InR w → g_InR c → g_InR s → Q (if u_sec c s = true then w else 0) M → g_Run d 127 143 [(0, .ref a), (1, g_n p), (2, g_n to), (3, g_n c), (4, g_n w), (5, g_n s)] [] M (g_qI Q) ∨ c = 224 ∧ s < 160 := by
    intro w c s hw hc hs hq
    by_cases g0 : c = 224 ∧ s < 160
    · exact Or.inr g0
    refine Or.inl ?_
    have h4 : (¬ (c = 237 ∧ 159 < s) → g_Run d 127 158 [(0, .ref a), (1, g_n p), (2, g_n to), (3, g_n c), (4, g_n w), (5, g_n s)] [] M (g_qI Q)) := by
      intro g1
      have h5 : (¬ (c = 240 ∧ s < 144) → g_Run d 127 173 [(0, .ref a), (1, g_n p), (2, g_n to), (3, g_n c), (4, g_n w), (5, g_n s)] [] M (g_qI Q)) := by
        intro g2
        refine s_X7_characterLength_173 ⟨by omega, by omega⟩ ⟨by omega, by omega⟩ hc hw hs fun _ => ⟨fun e => ⟨fun g3 => ?_, fun g3 => ?_⟩, fun e => ?_⟩
        · rwa [if_neg (fun x => (u_sec_iff.mp x).2.2.2 ⟨e, g3⟩)] at hq
        · rwa [if_pos (u_sec_iff.mpr ⟨g0, g1, g2, fun x => g3 x.2⟩)] at hq
        · rwa [if_pos (u_sec_iff.mpr ⟨g0, g1, g2, fun x => e x.1⟩)] at hq
      refine s_X7_characterLength_158 ⟨by omega, by omega⟩ ⟨by omega, by omega⟩ hc hw hs fun _ => ⟨fun e => ⟨fun g3 => ?_, fun g3 => h5 fun x => g3 x.2⟩, fun e => h5 fun x => e x.1⟩
      rwa [if_neg (fun x => (u_sec_iff.mp x).2.2.1 ⟨e, g3⟩)] at hq
    refine s_X7_characterLength_143 ⟨by omega, by omega⟩ ⟨by omega, by omega⟩ hc hw hs fun _ => ⟨fun e => ⟨fun g3 => ?_, fun g3 => h4 fun x => g3 x.2⟩, fun e => h4 fun x => e x.1⟩
    rwa [if_neg (fun x => (u_sec_iff.mp x).2.1 ⟨e, g3⟩)] at hq
  have hl : ∀ (k : Nat) (w c i : Int), i + k = w → 1 ≤ i → 2 ≤ w → w ≤ 4 → p + w ≤ to → g_InR c → Q (if u_cts (g_i M a) p k i = true then (if u_sec c (u_at (g_i M a) (p + 1)) = true then w else 0) else 0) M → g_Run d 127 86 [(0, .ref a), (1, g_n p), (2, g_n to), (3, g_n c), (4, g_n w), (5, g_n i)] [] M (g_qI Q) := by
    intro k
    induction k with
    | zero =>
      intro w c i hiw hi1 hw2 hw4 hpw hcR hq
      unfold u_cts at hq
      rw [if_pos rfl] at hq
      refine s_X7_characterLength_86 ⟨by omega, by omega⟩ ⟨by omega, by omega⟩ hcR ⟨by omega, by omega⟩ ⟨by omega, by omega⟩ fun hok => ⟨fun g => absurd g (by omega), fun _ => ⟨⟨by omega, by omega⟩, n, hA, ⟨by omega, by omega⟩, ?_⟩⟩
      have hs := u_at_R (g_i M a) (p + 1)
      rw [hi _ (by omega) (by omega) hok]
      refine ⟨fun e => ⟨fun g3 => ?_, fun g3 => ?_⟩, fun e => ?_⟩
      · rwa [if_neg (fun x => (u_sec_iff.mp x).1 ⟨e, g3⟩)] at hq
      · exact (hend w c _ ⟨by omega, by omega⟩ hcR ⟨by omega, by omega⟩ hq).resolve_right fun x => g3 x.2
      · exact (hend w c _ ⟨by omega, by omega⟩ hcR ⟨by omega, by omega⟩ hq).resolve_right fun x => e x.1
    | succ k ih =>
      intro w c i hiw hi1 hw2 hw4 hpw hcR hq
      unfold u_cts at hq
      refine s_X7_characterLength_86 ⟨by omega, by omega⟩ ⟨by omega, by omega⟩ hcR ⟨by omega, by omega⟩ ⟨by omega, by omega⟩ fun hok => ⟨fun _ => ⟨⟨by omega, by omega⟩, n, hA, ⟨by omega, by omega⟩, ?_⟩, fun g => absurd (by omega) g⟩
      have hb := hok.byte hA (p + i)
      rw [g_and192s hb.1 hb.2]
      have hct : u_ct (u_at (g_i M a) (p + i)) = true ↔ g_i M a (p + i) % 256 / 64 * 64 = 128 := by
        rw [u_ct_iff]
        unfold u_at
        omega
      refine ⟨fun g => ⟨⟨by omega, by omega⟩, ih w c (i + 1) (by omega) (by omega) hw2 hw4 hpw hcR ?_⟩, fun g => ?_⟩
      · rwa [hct.mpr g, Bool.true_and] at hq
      · rw [if_neg] at hq
        · exact hq
        · intro x
          rw [Bool.and_eq_true] at x
          exact g (hct.mp x.1)
  unfold u_ch at h
  have h57 : ∀ w : Int, 2 ≤ w → w ≤ 4 → (194 ≤ u_at (g_i M a) p → u_at (g_i M a) p ≤ 244 → u_lead (u_at (g_i M a) p) = w) → (u_at (g_i M a) p < 194 ∨ 244 < u_at (g_i M a) p → u_lead (u_at (g_i M a) p) = 0) → g_Run d 127 57 [(0, .ref a), (1, g_n p), (2, g_n to), (3, g_n (u_at (g_i M a) p))] [g_n w] M (g_qI Q) := by
    intro w w2 w4 hw hw0
    refine s_X7_characterLength_57 ⟨by omega, by omega⟩ ⟨by omega, by omega⟩ ⟨by omega, by omega⟩ ⟨by omega, by omega⟩ fun _ => ⟨fun g => ?_, fun g1 => ⟨fun g => ?_, fun g2 => ⟨⟨by omega, by omega⟩, fun g => ?_, fun g => ?_⟩⟩⟩
    · rwa [if_pos (hw0 (Or.inl g))] at h
    · rwa [if_pos (hw0 (Or.inr g))] at h
    · have hw := hw (by omega) (by omega)
      rw [hw] at h
      rwa [if_neg (by omega), if_pos g] at h
    · have hw := hw (by omega) (by omega)
      rw [hw] at h
      rw [if_neg (by omega), if_neg g, if_neg (by omega)] at h
      exact hl (w - 1).toNat w _ 1 (by omega) (by omega) w2 w4 (by omega) ⟨by omega, by omega⟩ h
  refine m_X7_characterLength ⟨by omega, by omega⟩ ⟨by omega, by omega⟩ fun hok => ⟨fun g => absurd g (by omega), fun _ => ⟨fun _ => ⟨n, hA, ⟨by omega, by omega⟩, fun g => absurd g (by omega), fun _ => ⟨⟨by omega, by omega⟩, ?_⟩⟩, fun g => absurd h1 g⟩⟩
  rw [hi _ (by omega) (by omega) hok]
  refine ⟨fun g => ?_, fun g1 => ⟨fun g2 => ?_, fun g2 => ⟨fun g3 => ?_, fun g3 => ?_⟩⟩⟩
  · have hw : u_lead (u_at (g_i M a) p) = 1 := by
      unfold u_lead
      rw [if_pos g]
    rw [hw] at h
    rwa [if_neg (by omega), if_neg (by omega), if_pos rfl] at h
  · refine h57 2 (by omega) (by omega) (fun e1 e2 => ?_) (fun e => ?_)
    · unfold u_lead
      rw [if_neg (by omega), if_neg (by omega), if_pos (by omega)]
    · unfold u_lead
      rw [if_neg (by omega), if_pos (by omega)]
  · refine h57 3 (by omega) (by omega) (fun e1 e2 => ?_) (fun e => ?_)
    · unfold u_lead
      rw [if_neg (by omega), if_neg (by omega), if_neg (by omega), if_pos (by omega)]
    · omega
  · refine h57 4 (by omega) (by omega) (fun e1 e2 => ?_) (fun e => ?_)
    · unfold u_lead
      rw [if_neg (by omega), if_neg (by omega), if_neg (by omega), if_neg (by omega), if_pos (by omega)]
    · unfold u_lead
      rw [if_neg (by omega), if_neg (by omega), if_neg (by omega), if_neg (by omega), if_neg (by omega)]
end CH
