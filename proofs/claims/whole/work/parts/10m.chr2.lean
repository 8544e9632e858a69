/-! characters: the reference; runs of characters -/
def u_val (B : Int → Int) (p : Int) : Nat → Int → Int → Int
  | 0, _, v => v
  | k + 1, i, v => u_val B p k (i + 1) (v * 64 + u_at B (p + i) % 64)
def u_finP (w v : Int) : Prop := (w < 3 ∨ (w = 3 ∧ 2048 ≤ v) ∨ (¬ w < 3 ∧ ¬ w = 3 ∧ 65536 ≤ v)) ∧ v ≤ 1114111 ∧ (v < 55296 ∨ 57343 < v)
noncomputable def u_bad (B : Int → Int) (to : Int) : Nat → Int → Int
  | 0, _ => -1
  | f + 1, p => if p < to then (if u_ch B p to = 0 then p else u_bad B to f (p + u_ch B p to)) else -1
section CH2
variable {d : Nat} {M : g_M} {Q : Int → g_M → Prop} {p to : Int} {m b : Nat}
theorem e_ch (hR : e_R M m b) (h0 : 0 ≤ p) (h1 : p < to) (h2 : to ≤ 2706210) (h : Q (u_ch (g_i M b) p to) M) : g_Call (d + 2) 258 [.ref m, g_n p, g_n to] M (g_qI Q) := by
  have hA := hR.2.2
  have hc := u_at_R (g_i M b) p
  have hL := u_lead_R (u_at (g_i M b) p)
  have hat : ∀ q (Q1 : Int → g_M → Prop), 0 ≤ q → q < 2706210 → Q1 (u_at (g_i M b) q) M → g_ok M → g_Call (d + 1) 226 [.ref m, g_n q] M (g_qI Q1) := by
    intro q Q1 q0 q1 hq hok
    refine e_at hR q0 q1 ?_
    rwa [u_at_byte (hok.byte hA q)]
  have hend : ∀ c w v i : Int, g_InR c → 2 ≤ w → w ≤ 4 → 0 ≤ v → v < 8388608 → g_InR i → ¬ i < w → (u_finP w v → Q w M) → (¬ u_finP w v → Q 0 M) → g_Run (d + 1) 258 124 [(0, .ref m), (1, g_n p), (2, g_n to), (3, g_n c), (4, g_n w), (5, g_n v), (6, g_n i)] [] M (g_qI Q) := by
    intro c w v i hc hw hw4 hv hv2 hi hiw hq1 hq0
    have h211 : (w < 3 ∨ (w = 3 ∧ 2048 ≤ v) ∨ (¬ w < 3 ∧ ¬ w = 3 ∧ 65536 ≤ v)) → g_Run (d + 1) 258 211 [(0, .ref m), (1, g_n p), (2, g_n to), (3, g_n c), (4, g_n w), (5, g_n v), (6, g_n i)] [g_n 1] M (g_qI Q) := fun hs =>
      s_X12_character_211 ⟨by omega, by omega⟩ ⟨by omega, by omega⟩ hc ⟨by omega, by omega⟩ ⟨by omega, by omega⟩ hi ⟨by decide, by decide⟩ fun _ => ⟨fun g => absurd g (by omega), fun _ => ⟨fun g => hq0 fun x => absurd x.2.1 (by omega), fun g => ⟨fun g2 => hq1 ⟨hs, by omega, Or.inl g2⟩, fun g2 => ⟨fun g3 => hq1 ⟨hs, by omega, Or.inr g3⟩, fun g3 => hq0 fun x => absurd x.2.2 (by omega)⟩⟩⟩⟩
    have h210 : ¬ (w < 3 ∨ (w = 3 ∧ 2048 ≤ v) ∨ (¬ w < 3 ∧ ¬ w = 3 ∧ 65536 ≤ v)) → g_Run (d + 1) 258 211 [(0, .ref m), (1, g_n p), (2, g_n to), (3, g_n c), (4, g_n w), (5, g_n v), (6, g_n i)] [g_n 0] M (g_qI Q) := fun hs =>
      s_X12_character_211 ⟨by omega, by omega⟩ ⟨by omega, by omega⟩ hc ⟨by omega, by omega⟩ ⟨by omega, by omega⟩ hi ⟨by decide, by decide⟩ fun _ => ⟨fun _ => hq0 fun x => hs x.1, fun g => absurd rfl g⟩
    exact s_X12_character_124 ⟨by omega, by omega⟩ ⟨by omega, by omega⟩ hc ⟨by omega, by omega⟩ ⟨by omega, by omega⟩ hi fun _ => ⟨fun g => absurd g hiw, fun _ => ⟨fun g => h211 (Or.inl g), fun g => ⟨fun g3 => ⟨fun g4 => h210 (by omega), fun g4 => h211 (by omega)⟩, fun g3 => ⟨fun g4 => h210 (by omega), fun g4 => h211 (by omega)⟩⟩⟩⟩
  have hl : ∀ (k : Nat) (c w i v : Int), g_InR c → i + k = w → 1 ≤ i → 2 ≤ w → w ≤ 4 → p + w ≤ to → 0 ≤ v → v < 2097152 → (k = 1 → v < 32768) → (k = 2 → v < 512) → (k = 3 → v < 8) → (u_cts (g_i M b) p k i = true → u_finP w (u_val (g_i M b) p k i v) → Q w M) → (¬ (u_cts (g_i M b) p k i = true ∧ u_finP w (u_val (g_i M b) p k i v)) → Q 0 M) → g_Run (d + 1) 258 124 [(0, .ref m), (1, g_n p), (2, g_n to), (3, g_n c), (4, g_n w), (5, g_n v), (6, g_n i)] [] M (g_qI Q) := by
    intro k
    induction k with
    | zero =>
      intro c w i v hcR hiw hi1 hw2 hw4 hpw hv hv2 k1 k2 k3 hq1 hq0
      exact hend c w v i hcR hw2 hw4 hv (by omega) ⟨by omega, by omega⟩ (by omega) (hq1 rfl) (fun x => hq0 fun y => x y.2)
    | succ k ih =>
      intro c w i v hcR hiw hi1 hw2 hw4 hpw hv hv2 k1 k2 k3 hq1 hq0
      have hr := u_at_R (g_i M b) (p + i)
      unfold u_cts u_val at hq1 hq0
      refine s_X12_character_124 ⟨by omega, by omega⟩ ⟨by omega, by omega⟩ hcR ⟨by omega, by omega⟩ ⟨by omega, by omega⟩ ⟨by omega, by omega⟩ fun hok => ⟨fun _ => ⟨⟨by omega, by omega⟩, hR.1, hat _ _ (by omega) (by omega) (fun _ _ _ => ?_) hok⟩, fun g => absurd (by omega) g⟩
      rw [g_and192 hr.1 hr.2]
      have hct : u_ct (u_at (g_i M b) (p + i)) = true ↔ u_at (g_i M b) (p + i) / 64 * 64 = 128 := by
        rw [u_ct_iff]
        omega
      refine ⟨fun g => ⟨⟨by omega, by omega⟩, hat _ _ (by omega) (by omega) (fun _ _ _ => ?_) hok⟩, fun g => ?_⟩
      · rw [g_sixes hv (by omega) hr.1 hr.2]
        refine ⟨⟨by omega, by omega⟩, ih c w (i + 1) _ hcR (by omega) (by omega) hw2 hw4 hpw (by omega) (by omega) (by omega) (by omega) (by omega) (fun x y => ?_) (fun x => ?_)⟩
        · refine hq1 ?_ y
          rw [hct.mpr g, x]
          rfl
        · refine hq0 fun y => x ⟨?_, y.2⟩
          have y1 := y.1
          rwa [hct.mpr g, Bool.true_and] at y1
      · refine hq0 fun y => g (hct.mp ?_)
        have y1 := y.1
        rw [Bool.and_eq_true] at y1
        exact y1.1
  unfold u_ch at h
  refine m_X12_character ⟨by omega, by omega⟩ ⟨by omega, by omega⟩ fun hok => ⟨hR.1, hat _ _ h0 (by omega) (fun _ _ _ => ?_) hok⟩
  have h62 : ∀ w : Int, w = u_lead (u_at (g_i M b) p) → (w = 1 → u_at (g_i M b) p < 128) → (w = 2 → 194 ≤ u_at (g_i M b) p ∧ u_at (g_i M b) p < 224) → (w = 3 → 224 ≤ u_at (g_i M b) p ∧ u_at (g_i M b) p < 240) → (w = 4 → 240 ≤ u_at (g_i M b) p ∧ u_at (g_i M b) p < 245) → g_Run (d + 1) 258 62 [(0, .ref m), (1, g_n p), (2, g_n to), (3, g_n (u_at (g_i M b) p))] [g_n w] M (g_qI Q) := by
    intro w hw a1 a2 a3 a4
    rw [← hw] at h
    refine s_X12_character_62 ⟨by omega, by omega⟩ ⟨by omega, by omega⟩ ⟨by omega, by omega⟩ ⟨by omega, by omega⟩ fun _ => ⟨fun g => ?_, fun g0 => ⟨⟨by omega, by omega⟩, fun g => ?_, fun g2 => ⟨fun g => ?_, fun g3 => ⟨fun g => ?_, fun g4 => ⟨fun g => ?_, fun g5 => ?_⟩⟩⟩⟩⟩
    · rwa [if_pos g] at h
    · rwa [if_neg g0, if_pos g] at h
    · rw [if_neg g0, if_neg g2, if_pos g] at h
      have := a1 g
      subst g
      refine s_X12_character_124 ⟨by omega, by omega⟩ ⟨by omega, by omega⟩ ⟨by omega, by omega⟩ ⟨by omega, by omega⟩ ⟨by omega, by omega⟩ ⟨by omega, by omega⟩ fun _ => ⟨fun g => absurd g (by omega), fun _ => ⟨fun _ => ?_, fun g => absurd (by omega) g⟩⟩
      exact s_X12_character_211 ⟨by omega, by omega⟩ ⟨by omega, by omega⟩ ⟨by omega, by omega⟩ ⟨by omega, by omega⟩ ⟨by omega, by omega⟩ ⟨by omega, by omega⟩ ⟨by decide, by decide⟩ fun _ => ⟨fun g => absurd g (by omega), fun _ => ⟨fun g => absurd g (by omega), fun _ => ⟨fun _ => h, fun g => absurd (by omega) g⟩⟩⟩
    · rw [if_neg g0, if_neg g2, if_neg g3] at h
      have hx := a2 g
      subst g
      rw [g_and31 hc.1 hc.2]
      have hk : (2 - 1 : Int).toNat = 1 := rfl
      rw [hk] at h
      have hs := u_at_R (g_i M b) (p + 1)
      have hcts : u_cts (g_i M b) p 1 1 = true → 128 ≤ u_at (g_i M b) (p + 1) ∧ u_at (g_i M b) (p + 1) < 192 := fun x => by
        unfold u_cts u_cts at x
        rw [Bool.and_true] at x
        exact u_ct_iff.mp x
      refine hl 1 _ 2 1 _ ⟨by omega, by omega⟩ (by omega) (by omega) (by omega) (by omega) (by omega) (by omega) (by omega) (by omega) (by omega) (by omega) (fun x y => ?_) (fun x => ?_)
      · rwa [if_pos x, if_pos (u_sec_iff.mpr ⟨by omega, by omega, by omega, by omega⟩)] at h
      · by_cases y : u_cts (g_i M b) p 1 1 = true
        · refine absurd ⟨y, ?_⟩ x
          have z := hcts y
          unfold u_val u_val u_finP
          omega
        · rwa [if_neg y] at h
    · rw [if_neg g0, if_neg g2, if_neg g3] at h
      have hx := a3 g
      subst g
      rw [g_and15 hc.1 hc.2]
      have hk : (3 - 1 : Int).toNat = 2 := rfl
      rw [hk] at h
      have hs := u_at_R (g_i M b) (p + 1)
      have ht := u_at_R (g_i M b) (p + 2)
      have hcts : u_cts (g_i M b) p 2 1 = true → (128 ≤ u_at (g_i M b) (p + 1) ∧ u_at (g_i M b) (p + 1) < 192) ∧ (128 ≤ u_at (g_i M b) (p + 2) ∧ u_at (g_i M b) (p + 2) < 192) := fun x => by
        unfold u_cts u_cts u_cts at x
        rw [Bool.and_true, Bool.and_eq_true, u_ct_iff, u_ct_iff] at x
        exact x
      refine hl 2 _ 3 1 _ ⟨by omega, by omega⟩ (by omega) (by omega) (by omega) (by omega) (by omega) (by omega) (by omega) (by omega) (by omega) (by omega) (fun x y => ?_) (fun x => ?_)
      · have z := hcts x
        unfold u_val u_val u_val u_finP at y
        rw [show p + (1 + 1) = p + 2 by omega] at y
        rw [if_pos x] at h
        by_cases g : u_sec (u_at (g_i M b) p) (u_at (g_i M b) (p + 1)) = true
        · rwa [if_pos g] at h
        · refine absurd (u_sec_iff.mpr ⟨by omega, by omega, by omega, by omega⟩) g
      · by_cases y : u_cts (g_i M b) p 2 1 = true
        · have z := hcts y
          rw [if_pos y] at h
          by_cases g : u_sec (u_at (g_i M b) p) (u_at (g_i M b) (p + 1)) = true
          · refine absurd ⟨y, ?_⟩ x
            have g8 := u_sec_iff.mp g
            unfold u_secP at g8
            unfold u_val u_val u_val u_finP
            rw [show p + (1 + 1) = p + 2 by omega]
            omega
          · rwa [if_neg g] at h
        · rwa [if_neg y] at h
    · have g6 : w = 4 := by omega
      rw [if_neg g0, if_neg g2, if_neg g3] at h
      have hx := a4 g6
      subst g6
      rw [g_and7 hc.1 hc.2]
      have hk : (4 - 1 : Int).toNat = 3 := rfl
      rw [hk] at h
      have hs := u_at_R (g_i M b) (p + 1)
      have ht := u_at_R (g_i M b) (p + 2)
      have hv := u_at_R (g_i M b) (p + 3)
      have hcts : u_cts (g_i M b) p 3 1 = true → (128 ≤ u_at (g_i M b) (p + 1) ∧ u_at (g_i M b) (p + 1) < 192) ∧ (128 ≤ u_at (g_i M b) (p + 2) ∧ u_at (g_i M b) (p + 2) < 192) ∧ (128 ≤ u_at (g_i M b) (p + 3) ∧ u_at (g_i M b) (p + 3) < 192) := fun x => by
        unfold u_cts u_cts u_cts u_cts at x
        rw [Bool.and_true, Bool.and_eq_true, Bool.and_eq_true, u_ct_iff, u_ct_iff, u_ct_iff] at x
        exact x
      refine hl 3 _ 4 1 _ ⟨by omega, by omega⟩ (by omega) (by omega) (by omega) (by omega) (by omega) (by omega) (by omega) (by omega) (by omega) (by omega) (fun x y => ?_) (fun x => ?_)
      · have z := hcts x
        unfold u_val u_val u_val u_val u_finP at y
        rw [show p + (1 + 1) = p + 2 by omega, show p + (1 + 1 + 1) = p + 3 by omega] at y
        rw [if_pos x] at h
        by_cases g : u_sec (u_at (g_i M b) p) (u_at (g_i M b) (p + 1)) = true
        · rwa [if_pos g] at h
        · refine absurd (u_sec_iff.mpr ⟨by omega, by omega, by omega, by omega⟩) g
      · by_cases y : u_cts (g_i M b) p 3 1 = true
        · have z := hcts y
          rw [if_pos y] at h
          by_cases g : u_sec (u_at (g_i M b) p) (u_at (g_i M b) (p + 1)) = true
          · refine absurd ⟨y, ?_⟩ x
            have g8 := u_sec_iff.mp g
            unfold u_secP at g8
            unfold u_val u_val u_val u_val u_finP
            rw [show p + (1 + 1) = p + 2 by omega, show p + (1 + 1 + 1) = p + 3 by omega]
            omega
          · rwa [if_neg g] at h
        · rwa [if_neg y] at h
  have hld : ∀ c w : Int, (if c < 128 then (1 : Int) else if c < 194 then 0 else if c < 224 then 2 else if c < 240 then 3 else if c < 245 then 4 else 0) = w → w = u_lead c := fun c w e => by
    unfold u_lead
    exact e.symm
  refine ⟨fun g => h62 1 (hld _ _ (by rw [if_pos g])) (fun _ => g) (by omega) (by omega) (by omega), fun g1 => ⟨fun g => h62 0 (hld _ _ (by rw [if_neg g1, if_pos g])) (by omega) (by omega) (by omega) (by omega), fun g2 => ⟨fun g => h62 2 (hld _ _ (by rw [if_neg g1, if_neg g2, if_pos g])) (by omega) (by omega) (by omega) (by omega), fun g3 => ⟨fun g => h62 3 (hld _ _ (by rw [if_neg g1, if_neg g2, if_neg g3, if_pos g])) (by omega) (by omega) (by omega) (by omega), fun g4 => ⟨fun g => h62 4 (hld _ _ (by rw [if_neg g1, if_neg g2, if_neg g3, if_neg g4, if_pos g])) (by omega) (by omega) (by omega) (by omega), fun g5 => h62 0 (hld _ _ (by rw [if_neg g1, if_neg g2, if_neg g3, if_neg g4, if_neg g5])) (by omega) (by omega) (by omega) (by omega)⟩⟩⟩⟩⟩
end CH2
