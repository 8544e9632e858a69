/-! CHANGES: the reference splices -/
/-- its place of work, with the head that a document elsewhere has -/
def e_B (M : g_M) (b : Nat) : Int → Int := fun k => if k = 921998 then 3 else if k = 921999 then 0 else g_i M b k
theorem e_B_ge {M : g_M} {b : Nat} {k : Int} (h : 922000 ≤ k) : e_B M b k = g_i M b k := by
  unfold e_B
  rw [if_neg (by omega), if_neg (by omega)]
theorem e_B_at {M : g_M} {b : Nat} {q : Int} {x : List Int} (h : 922000 ≤ q) : b_at (e_B M b) q x ↔ b_at (g_i M b) q x :=
  ⟨fun g => b_at_keep g fun k k1 _ => (e_B_ge (by omega)).symm, fun g => b_at_keep g fun k k1 _ => e_B_ge (by omega)⟩
theorem e_B_eq {M M1 : g_M} {b : Nat} {k : Int} (h : 922000 ≤ k → g_i M1 b k = g_i M b k) (hk : 921998 ≤ k) : e_B M1 b k = e_B M b k := by
  unfold e_B
  by_cases h1 : k = 921998
  · rw [if_pos h1, if_pos h1]
  · by_cases h2 : k = 921999
    · rw [if_neg h1, if_neg h1, if_pos h2, if_pos h2]
    · rw [if_neg h1, if_neg h1, if_neg h2, if_neg h2]
      exact h (by omega)
/-- where the values around begin -/
def h_vc : Int → List h_F → List Int
  | _, [] => []
  | p, f :: c => (p + 2 + f.2.1.length) :: h_vc (h_q p f) c
theorem h_vc_len : ∀ (c : List h_F) (p : Int), (h_vc p c).length = c.length := by
  intro c
  induction c with
  | nil => exact fun _ => rfl
  | cons f c ih =>
    intro p
    show (h_vc (h_q p f) c).length + 1 = c.length + 1
    rw [ih]
theorem h_vc_snoc : ∀ (c : List h_F) (f : h_F) (p : Int), h_vc p (c ++ [f]) = h_vc p c ++ [h_at p c + 2 + f.2.1.length] := by
  intro c
  induction c with
  | nil => exact fun _ _ => rfl
  | cons g c ih =>
    intro f p
    show _ :: h_vc (h_q p g) (c ++ [f]) = _ :: (h_vc (h_q p g) c ++ [h_at (h_q p g) c + 2 + f.2.1.length])
    rw [ih]
def R_WK (b : Nat) (y : Nat) (k : Int) : Prop := y = b ∧ 922000 ≤ k ∧ k < 952000
section ESPL
variable {d m b ch : Nat} {M : g_M}
theorem e_splice {Q : g_M → Prop} {c : List h_F} {f0 : h_F} {c0 : List h_F} {h h2 : Nat} {a cut : Int} {x : List Int} (hR : e_R M m b) (hc12 : g_r M m 12 = some ch) (hcA : g_A M ch 1 12) (hc0 : c = f0 :: c0) (hf0 : f0.2.1 = []) (hlen : c.length ≤ 11) (hZ : h_Z (e_B M b) h 921998 c) (hln : g_i M m 13 = c.length) (hch : b_at (g_i M ch) 0 (h_vc 921998 c)) (hx : b_at (g_i M b) 2606200 x) (hw : g_i M m 4 = 2606200 + x.length) (hxl : x.length ≤ 60000) (ha : h_at 921998 c ≤ a) (hcut : 0 ≤ cut) (ha2 : a + cut ≤ h_at 921998 c + h) (hh2 : (h2 : Int) = h + x.length - cut) (hmx : (h_hs h c : Int) ≤ 25000) (hmx2 : (h_hs h2 c : Int) ≤ 25000)
    (hq : ∀ M1, e_fr (R_WK b) M M1 → h_Z (e_B M1 b) h2 921998 c → (∀ k, h_at 921998 c ≤ k → k < a → g_i M1 b k = g_i M b k) → (∀ k, a + cut ≤ k → k < h_at 921998 c + h → g_i M1 b (k + (x.length - cut)) = g_i M b k) → b_at (g_i M1 b) a x → Q M1) : g_Call (d + 4) 306 [.ref m, g_n a, g_n cut] M (g_qV Q) := by
  have hne : m ≠ b := g_neOA hR.1 hR.2.2
  have hcb : ch ≠ b := g_neAA hcA hR.2.2 (by omega)
  have hin := h_at_in h c 921998
  have hat0 : h_at 921998 c = h_at (h_q 921998 f0) c0 := by rw [hc0]; rfl
  have hge := h_at_ge c0 (h_q 921998 f0)
  have hq0 : h_q 921998 f0 = 922004 + (b_ser f0.2.2.1).length := by
    unfold h_q
    rw [hf0]
    show (921998 : Int) + 6 + ((0 : Nat) : Int) + _ = _
    omega
  have hhs : (h_hs h2 c : Int) = h_hs h c + (x.length - cut) := by
    have g2 := h_hs_add (min h h2) (h - min h h2) c
    have g3 := h_hs_add (min h h2) (h2 - min h h2) c
    rw [show min h h2 + (h - min h h2) = h by omega] at g2
    rw [show min h h2 + (h2 - min h h2) = h2 by omega] at g3
    omega
  have hint : b_w4 (g_i M b) 922000 = (h_hs h c : Int) - 2 := by
    have hZ' := hZ
    rw [hc0] at hZ'
    obtain ⟨-, z2, -⟩ := hZ'
    have hsz : (h_sz h f0 c0 : Int) = (h_hs h c : Int) - 2 := by
      rw [hc0]
      have : h_hs h (f0 :: c0) = f0.2.1.length + (b_ser f0.2.2.1).length + h_hs h c0 + (b_ser f0.2.2.2).length + 7 := rfl
      rw [hf0, List.length_nil] at this
      unfold h_sz
      omega
    rw [hf0, show (921998 : Int) + 2 + (([] : List Int).length : Int) = 922000 from rfl] at z2
    have z3 := (e_B_at (by decide)).mp z2
    rw [b_w4_le4 (by omega) (by omega) z3, hsz]
  have hrd : ∀ {M2 : g_M}, e_fr (R_WK b) M M2 → e_R M2 m b ∧ g_r M2 m 12 = some ch ∧ g_A M2 ch 1 12 ∧ (∀ k, g_i M2 m k = g_i M m k) ∧ ∀ k, g_i M2 ch k = g_i M ch k := fun f2 => ⟨f2.R hR, by rw [f2.2.2]; exact hc12, f2.A hcA, fun k => f2.2.1 m k fun z => hne z.1, fun k => f2.2.1 ch k fun z => hcb z.1⟩
  have hstop : ∃ st : Int, st = 921998 + h_hs h c := ⟨_, rfl⟩
  obtain ⟨st, hst⟩ := hstop
  -- the sizes around
  have hlp : ∀ (c2 : List h_F) (p : Int) (i : Nat) (M2 : g_M), 921998 ≤ p → h_at p c2 ≤ a → (h_hs h c2 : Int) ≤ 25000 → (h_hs h2 c2 : Int) ≤ 25000 → i + c2.length = c.length → b_at (g_i M ch) i (h_vc p c2) → h_hd (e_B M2 b) h p c2 → e_fr (R_WK b) M M2 → (∀ M3, e_fr (fun y k => y = b ∧ h_fl p c2 k) M2 M3 → h_sd (e_B M3 b) h2 p c2 → Q M3) → g_Run (d + 3) 306 142 [(0, .ref m), (1, g_n a), (2, g_n cut), (3, g_n x.length), (4, g_n st), (5, g_n i)] [] M2 (g_qV Q) := by
    intro c2
    induction c2 with
    | nil =>
      intro p i M2 _ _ _ _ hi _ _ f2 hq
      obtain ⟨hR2, h12, hA2, hm2, hc2⟩ := hrd f2
      rw [List.length_nil] at hi
      have e13 := hm2 13
      exact s_X12_splice_142 ⟨by omega, by omega⟩ ⟨by omega, by omega⟩ ⟨by omega, by omega⟩ ⟨by omega, by omega⟩ ⟨by omega, by omega⟩ fun _ => ⟨hR2.1, fun g => absurd g (by omega), fun _ => hq M2 (e_fr.rf _ _) trivial⟩
    | cons g c2 ih =>
      intro p i M2 hp hat hm1 hm2' hi hch2 hhd2 f2 hq
      obtain ⟨hR2, h12, hA2, hm2, hc2⟩ := hrd f2
      have e13 := hm2 13
      rw [List.length_cons] at hi
      obtain ⟨c1, c2'⟩ := b_cons.mp hch2
      have ec : g_i M2 ch i = p + 2 + g.2.1.length := by rw [hc2]; exact c1
      obtain ⟨d1, d2, d3⟩ := hhd2
      have hge2 := h_at_ge c2 (h_q p g)
      have hat2 : h_at (h_q p g) c2 ≤ a := hat
      have hqd : h_q p g = p + 6 + g.2.1.length + (b_ser g.2.2.1).length := rfl
      have hh1 : h_hs h (g :: c2) = g.2.1.length + (b_ser g.2.2.1).length + h_hs h c2 + (b_ser g.2.2.2).length + 7 := rfl
      have hh1' : h_hs h2 (g :: c2) = g.2.1.length + (b_ser g.2.2.1).length + h_hs h2 c2 + (b_ser g.2.2.2).length + 7 := rfl
      have hsz2 : (h_sz h2 g c2 : Int) = h_sz h g c2 + (x.length - cut) := by
        have g2 := h_hs_add (min h h2) (h - min h h2) c2
        have g3 := h_hs_add (min h h2) (h2 - min h h2) c2
        rw [show min h h2 + (h - min h h2) = h by omega] at g2
        rw [show min h h2 + (h2 - min h h2) = h2 by omega] at g3
        unfold h_sz
        omega
      have hsz : (h_sz h g c2 : Int) = (b_ser g.2.2.1).length + h_hs h c2 + (b_ser g.2.2.2).length + 5 := by unfold h_sz; omega
      have d2' := (e_B_at (by omega)).mp d2
      refine s_X12_splice_142 ⟨by omega, by omega⟩ ⟨by omega, by omega⟩ ⟨by omega, by omega⟩ ⟨by omega, by omega⟩ ⟨by omega, by omega⟩ fun _ => ⟨hR2.1, fun _ => ⟨ch, h12, _, hA2, ⟨by omega, by omega⟩, ch, h12, _, hA2, ⟨by omega, by omega⟩, ?_⟩, fun gg => absurd gg (by omega)⟩
      rw [ec]
      refine e_int4 (d := d + 1) hR2 (by omega) (by omega) ?_
      rw [b_w4_le4 (by omega) (by omega) d2']
      intro _ _ _
      rw [show (h_sz h g c2 : Int) + x.length - cut = h_sz h2 g c2 by omega]
      refine ⟨⟨by omega, by omega⟩, ⟨by omega, by omega⟩, e_setInt4 (d := d + 2) hR2 (by omega) (by omega) ⟨by omega, by omega⟩ fun M38 f38 hb38 => ?_⟩
      intro _ _
      refine ⟨⟨by omega, by omega⟩, ?_⟩
      have h9 := ih (h_q p g) (i + 1) M38 (by omega) hat2 (by omega) (by omega) (by omega) ?_ (d3.keep fun k k1 k2 => e_B_eq (fun _ => f38.2.1 b k fun z => by omega) (by omega)) (f2.tr (f38.up fun y k hy => ⟨hy.1, by omega, by omega⟩)) fun M3 f3 hs3 => ?_
      · rwa [show ((i + 1 : Nat) : Int) = (i : Int) + 1 by omega] at h9
      · rw [show ((i + 1 : Nat) : Int) = (i : Int) + 1 by omega]
        exact c2'
      · refine hq M3 ((f38.up fun y k hy => ⟨hy.1, Or.inl ⟨by omega, by omega⟩⟩).tr (f3.up fun y k hy => ⟨hy.1, Or.inr hy.2⟩)) ⟨?_, hs3⟩
        refine (e_B_at (by omega)).mpr (b_at_keep hb38 fun k k1 k2 => f3.2.1 b k fun z => ?_)
        have := (h_fl_lt c2 _ _ z.2).1
        have e4' : (b_le4 (h_sz h2 g c2)).length = 4 := rfl
        omega
  -- what was written comes in
  have h107 : ∀ (r j : Nat) (M2 : g_M), j + r = x.length → e_fr (R_WK b) M M2 → (∀ k, g_i M2 b k = if a ≤ k ∧ k < a + j then g_i M b (2606200 + (k - a)) else if a + x.length ≤ k ∧ k < st + (x.length - cut) then g_i M b (k - (x.length - cut)) else if a ≤ k ∧ k < st + (x.length - cut) then g_i M2 b k else g_i M b k) → g_Run (d + 3) 306 107 [(0, .ref m), (1, g_n a), (2, g_n cut), (3, g_n x.length), (4, g_n st), (5, g_n j)] [] M2 (g_qV Q) := by
    intro r
    induction r with
    | zero =>
      intro j M2 hj f2 hB
      obtain ⟨hR2, h12, hA2, hm2, hc2⟩ := hrd f2
      refine s_X12_splice_107 ⟨by omega, by omega⟩ ⟨by omega, by omega⟩ ⟨by omega, by omega⟩ ⟨by omega, by omega⟩ ⟨by omega, by omega⟩ fun _ => ⟨fun g => absurd g (by omega), fun _ => ?_⟩
      have hB1 : ∀ k, k < a → g_i M2 b k = g_i M b k := fun k hk => by
        rw [hB, if_neg (by omega), if_neg (by omega), if_neg (by omega)]
      have hB2 : ∀ k, a + cut ≤ k → k < st → g_i M2 b (k + (x.length - cut)) = g_i M b k := fun k k1 k2 => by
        rw [hB, if_neg (by omega), if_pos ⟨by omega, by omega⟩, show k + ((x.length : Int) - cut) - (x.length - cut) = k by omega]
      have hB3 : b_at (g_i M2 b) a x := by
        have := b_at_move (B2 := g_i M2 b) (s := a - 2606200) hx fun k k1 k2 => by
          rw [hB, if_pos ⟨by omega, by omega⟩, show 2606200 + (k + (a - 2606200) - a) = k by omega]
        rwa [show 2606200 + (a - 2606200) = a by omega] at this
      refine hlp c 921998 0 M2 (Int.le_refl _) ha hmx hmx2 (by omega) hch (hZ.hd.keep fun k k1 k2 => e_B_eq (fun _ => hB1 k (by omega)) k1) f2 fun M3 f3 hs3 => ?_
      have hnf : ∀ k, h_at 921998 c ≤ k → ¬ h_fl 921998 c k := fun k hk hf => by
        have := (h_fl_lt c _ _ hf).2
        omega
      have hk3 : ∀ k, ¬ h_fl 921998 c k → g_i M3 b k = g_i M2 b k := fun k hk => f3.2.1 b k fun z => hk z.2
      have hfl : ∀ k, h_fl 921998 c k → 922000 ≤ k := fun k hk => by
        have hk' := hk
        rw [hc0] at hk'
        rcases hk' with ⟨z, -⟩ | z
        · omega
        · have := (h_fl_lt c0 _ _ z).1
          omega
      refine hq M3 (f2.tr (f3.up fun y k hy => ⟨hy.1, hfl k hy.2, by have := (h_fl_lt c _ _ hy.2).2; omega⟩)) (h_Z_move hh2 c 921998 hZ ha ha2 hcut (fun k k1 k2 k3 => e_B_eq (fun _ => by rw [hk3 k k3, hB1 k k2]) k1) (fun k k1 k2 => ?_) hs3) (fun k k1 k2 => by rw [hk3 k (hnf k k1), hB1 k k2]) (fun k k1 k2 => by rw [hk3 _ (hnf _ (by omega)), hB2 k k1 (by omega)]) (b_at_keep hB3 fun k k1 k2 => hk3 k (hnf k (by omega)))
      rw [e_B_ge (by omega), e_B_ge (by omega), hk3 _ (hnf _ (by omega)), hB2 k k1 (by omega)]
    | succ r ih =>
      intro j M2 hj f2 hB
      obtain ⟨hR2, h12, hA2, hm2, hc2⟩ := hrd f2
      refine s_X12_splice_107 ⟨by omega, by omega⟩ ⟨by omega, by omega⟩ ⟨by omega, by omega⟩ ⟨by omega, by omega⟩ ⟨by omega, by omega⟩ fun hg => ⟨fun _ => ⟨hR2.1, b, hR2.2.1, ⟨by omega, by omega⟩, b, hR2.2.1, ⟨by omega, by omega⟩, _, hR2.2.2, ⟨by omega, by omega⟩, _, hR2.2.2, ⟨by omega, by omega⟩, ?_⟩, fun g => absurd (by omega) g⟩
      rintro M14 rfl _
      refine ⟨⟨by omega, by omega⟩, ?_⟩
      have hby := hg.byte hR2.2.2 (2606200 + j)
      have hv : g_w8 (g_i M2 b (2606200 + j)) = g_i M b (2606200 + j) := by
        rw [g_w8_of hby.1 hby.2, hB, if_neg (by omega), if_neg (by omega), if_neg (by omega)]
      refine ih (j + 1) _ (by omega) (f2.tr (e_fr.wi _ ⟨rfl, by omega, by omega⟩)) fun k => ?_
      rw [g_i_wi, hv]
      by_cases hk : k = a + j
      · rw [if_pos ⟨rfl, hk⟩, if_pos ⟨by omega, by omega⟩, hk]
        congr 1
        omega
      · rw [if_neg fun z => hk z.2]
        have hBk := hB k
        by_cases h1 : a ≤ k ∧ k < a + j
        · rw [if_pos h1] at hBk
          rw [if_pos ⟨by omega, by omega⟩, hBk]
        · rw [if_neg h1] at hBk
          rw [if_neg (by omega)]
          exact hBk
  have hsh : ∀ M2 : g_M, e_fr (R_WK b) M M2 → (∀ k, g_i M2 b k = if a + x.length ≤ k ∧ k < st + (x.length - cut) then g_i M b (k - (x.length - cut)) else if a ≤ k ∧ k < st + (x.length - cut) then g_i M2 b k else g_i M b k) → g_Run (d + 3) 306 107 [(0, .ref m), (1, g_n a), (2, g_n cut), (3, g_n x.length), (4, g_n st), (5, g_n 0)] [] M2 (g_qV Q) := fun M2 f2 hB => h107 x.length 0 M2 (by omega) f2 fun k => by
    rw [if_neg (by omega)]
    exact hB k
  have hA : ∀ (r : Nat) (v5 : Int) (M2 : g_M), v5 + r = st → a + cut ≤ v5 → (x.length : Int) < cut → e_fr (R_WK b) M M2 → (∀ k, g_i M2 b k = if a + x.length ≤ k ∧ k < v5 + (x.length - cut) then g_i M b (k - (x.length - cut)) else g_i M b k) → g_Run (d + 3) 306 32 [(0, .ref m), (1, g_n a), (2, g_n cut), (3, g_n x.length), (4, g_n st), (5, g_n v5)] [] M2 (g_qV Q) := by
    intro r
    induction r with
    | zero =>
      intro v5 M2 hr h5 hlt f2 hB
      refine s_X12_splice_32 ⟨by omega, by omega⟩ ⟨by omega, by omega⟩ ⟨by omega, by omega⟩ ⟨by omega, by omega⟩ ⟨by omega, by omega⟩ fun _ => ⟨fun g => absurd g (by omega), fun _ => hsh M2 f2 fun k => ?_⟩
      have hBk := hB k
      by_cases h1 : a + x.length ≤ k ∧ k < st + (x.length - cut)
      · rw [if_pos ⟨by omega, by omega⟩] at hBk
        rw [if_pos h1]
        exact hBk
      · rw [if_neg h1]
        by_cases h2 : a ≤ k ∧ k < st + (x.length - cut)
        · rw [if_pos h2]
        · rw [if_neg h2]
          rw [if_neg (by omega)] at hBk
          exact hBk
    | succ r ih =>
      intro v5 M2 hr h5 hlt f2 hB
      obtain ⟨hR2, h12, hA2, hm2, hc2⟩ := hrd f2
      refine s_X12_splice_32 ⟨by omega, by omega⟩ ⟨by omega, by omega⟩ ⟨by omega, by omega⟩ ⟨by omega, by omega⟩ ⟨by omega, by omega⟩ fun hg => ⟨fun _ => ⟨hR2.1, b, hR2.2.1, ⟨by omega, by omega⟩, ⟨by omega, by omega⟩, b, hR2.2.1, _, hR2.2.2, ⟨by omega, by omega⟩, _, hR2.2.2, ⟨by omega, by omega⟩, ?_⟩, fun g => absurd (by omega) g⟩
      rintro M14 rfl _
      refine ⟨⟨by omega, by omega⟩, ?_⟩
      have hby := hg.byte hR2.2.2 v5
      have hv : g_w8 (g_i M2 b v5) = g_i M b v5 := by
        rw [g_w8_of hby.1 hby.2, hB, if_neg (by omega)]
      refine ih (v5 + 1) _ (by omega) (by omega) hlt (f2.tr (e_fr.wi _ ⟨rfl, by omega, by omega⟩)) fun k => ?_
      rw [g_i_wi, hv]
      by_cases hk : k = v5 + x.length - cut
      · rw [if_pos ⟨rfl, hk⟩, if_pos ⟨by omega, by omega⟩, hk]
        congr 1
        omega
      · rw [if_neg fun z => hk z.2]
        have hBk := hB k
        by_cases h1 : a + x.length ≤ k ∧ k < v5 + (x.length - cut)
        · rw [if_pos h1] at hBk
          rw [if_pos ⟨by omega, by omega⟩, hBk]
        · rw [if_neg h1] at hBk
          rw [if_neg (by omega)]
          exact hBk
  have hD : ∀ (r : Nat) (v5 : Int) (M2 : g_M), v5 + 1 = a + cut + r → v5 < st → cut ≤ (x.length : Int) → e_fr (R_WK b) M M2 → (∀ k, g_i M2 b k = if v5 + 1 + (x.length - cut) ≤ k ∧ k < st + (x.length - cut) then g_i M b (k - (x.length - cut)) else g_i M b k) → g_Run (d + 3) 306 72 [(0, .ref m), (1, g_n a), (2, g_n cut), (3, g_n x.length), (4, g_n st), (5, g_n v5)] [] M2 (g_qV Q) := by
    intro r
    induction r with
    | zero =>
      intro v5 M2 hr hv5 hlt f2 hB
      refine s_X12_splice_72 ⟨by omega, by omega⟩ ⟨by omega, by omega⟩ ⟨by omega, by omega⟩ ⟨by omega, by omega⟩ ⟨by omega, by omega⟩ fun _ => ⟨⟨by omega, by omega⟩, fun _ => hsh M2 f2 fun k => ?_, fun g => absurd (by omega) g⟩
      have hBk := hB k
      by_cases h1 : a + x.length ≤ k ∧ k < st + (x.length - cut)
      · rw [if_pos ⟨by omega, by omega⟩] at hBk
        rw [if_pos h1]
        exact hBk
      · rw [if_neg h1]
        by_cases h2 : a ≤ k ∧ k < st + (x.length - cut)
        · rw [if_pos h2]
        · rw [if_neg h2]
          rw [if_neg (by omega)] at hBk
          exact hBk
    | succ r ih =>
      intro v5 M2 hr hv5 hlt f2 hB
      obtain ⟨hR2, h12, hA2, hm2, hc2⟩ := hrd f2
      refine s_X12_splice_72 ⟨by omega, by omega⟩ ⟨by omega, by omega⟩ ⟨by omega, by omega⟩ ⟨by omega, by omega⟩ ⟨by omega, by omega⟩ fun hg => ⟨⟨by omega, by omega⟩, fun g => absurd g (by omega), fun _ => ⟨hR2.1, b, hR2.2.1, ⟨by omega, by omega⟩, ⟨by omega, by omega⟩, b, hR2.2.1, _, hR2.2.2, ⟨by omega, by omega⟩, _, hR2.2.2, ⟨by omega, by omega⟩, ?_⟩⟩
      rintro M14 rfl _
      refine ⟨⟨by omega, by omega⟩, ?_⟩
      have hby := hg.byte hR2.2.2 v5
      have hv : g_w8 (g_i M2 b v5) = g_i M b v5 := by
        rw [g_w8_of hby.1 hby.2, hB, if_neg (by omega)]
      refine ih (v5 + (-1)) _ (by omega) (by omega) hlt (f2.tr (e_fr.wi _ ⟨rfl, by omega, by omega⟩)) fun k => ?_
      rw [g_i_wi, hv]
      by_cases hk : k = v5 + x.length - cut
      · rw [if_pos ⟨rfl, hk⟩, if_pos ⟨by omega, by omega⟩, hk]
        congr 1
        omega
      · rw [if_neg fun z => hk z.2]
        have hBk := hB k
        by_cases h1 : v5 + 1 + (x.length - cut) ≤ k ∧ k < st + (x.length - cut)
        · rw [if_pos h1] at hBk
          rw [if_pos ⟨by omega, by omega⟩, hBk]
        · rw [if_neg h1] at hBk
          rw [if_neg (by omega)]
          exact hBk
  refine m_X12_splice ⟨by omega, by omega⟩ ⟨by omega, by omega⟩ fun _ => ⟨hR.1, ⟨by omega, by omega⟩, e_int4 (d := d + 1) hR (by decide) (by decide) ?_⟩
  rw [hint]
  intro _ _ _
  rw [show g_i M m 4 - 2606200 = (x.length : Int) by omega, show (922000 : Int) + ((h_hs h c : Int) - 2) = st by omega]
  refine ⟨⟨by omega, by omega⟩, fun g => ⟨⟨by omega, by omega⟩, ?_⟩, fun g => ⟨⟨by omega, by omega⟩, ?_⟩⟩
  · obtain ⟨r, hr⟩ : ∃ r : Nat, a + cut + (r : Int) = st := ⟨(st - (a + cut)).toNat, by omega⟩
    exact hA r (a + cut) M hr (by omega) g (e_fr.rf _ _) fun k => by rw [if_neg (by omega)]
  · obtain ⟨r, hr⟩ : ∃ r : Nat, a + cut + (r : Int) = st := ⟨(st - (a + cut)).toNat, by omega⟩
    exact hD r (st - 1) M (by omega) (by omega) (by omega) (e_fr.rf _ _) fun k => by rw [if_neg (by omega)]
end ESPL
