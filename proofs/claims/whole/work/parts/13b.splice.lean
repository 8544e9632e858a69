/-! CHANGES: the class splices -/
def h_ch : Int → List h_F → List Int
  | _, [] => []
  | p, f :: c => p :: h_ch (h_q p f) c
theorem h_ch_len : ∀ (c : List h_F) (p : Int), (h_ch p c).length = c.length := by
  intro c
  induction c with
  | nil => exact fun _ => rfl
  | cons f c ih =>
    intro p
    show (h_ch (h_q p f) c).length + 1 = c.length + 1
    rw [ih]
theorem h_ch_snoc : ∀ (c : List h_F) (f : h_F) (p : Int), h_ch p (c ++ [f]) = h_ch p c ++ [h_at p c] := by
  intro c
  induction c with
  | nil => exact fun _ _ => rfl
  | cons g c ih =>
    intro f p
    show p :: h_ch (h_q p g) (c ++ [f]) = p :: (h_ch (h_q p g) c ++ [h_at (h_q p g) c])
    rw [ih]
def h_ok (c : List h_F) : Prop := ∀ f ∈ c, b_nz f.2.1
/-- heads and sizes of what is around -/
def h_hd (B : Int → Int) (h : Nat) : Int → List h_F → Prop
  | _, [] => True
  | p, f :: c => b_at B p (f.1 :: (f.2.1 ++ [0])) ∧ b_at B (p + 2 + f.2.1.length) (b_le4 (h_sz h f c)) ∧ h_hd B h (h_q p f) c
theorem h_Z.hd {B : Int → Int} {h : Nat} : ∀ {c : List h_F} {p : Int}, h_Z B h p c → h_hd B h p c := by
  intro c
  induction c with
  | nil => exact fun _ => trivial
  | cons f c ih => exact fun hz => ⟨hz.1, hz.2.1, ih hz.2.2.2.1⟩
theorem h_hd.keep {B B2 : Int → Int} {h : Nat} : ∀ {c : List h_F} {p : Int}, h_hd B h p c → (∀ k, p ≤ k → k < h_at p c → B2 k = B k) → h_hd B2 h p c := by
  intro c
  induction c with
  | nil => exact fun _ _ => trivial
  | cons f c ih =>
    intro p hz e
    obtain ⟨z1, z2, z3⟩ := hz
    have hge := h_at_ge c (h_q p f)
    have hat : h_at p (f :: c) = h_at (h_q p f) c := rfl
    have hq : h_q p f = p + 6 + f.2.1.length + (b_ser f.2.2.1).length := rfl
    refine ⟨b_at_keep z1 fun k k1 k2 => e k k1 ?_, b_at_keep z2 fun k k1 k2 => e k (by omega) ?_, ih z3 fun k k1 k2 => e k (by omega) k2⟩
    · rw [List.length_cons, List.length_append, List.length_singleton] at k2
      omega
    · have : (b_le4 (h_sz h f c)).length = 4 := rfl
      omega
section SPL
variable {d o b po pf pt ch wo : Nat} {M : g_M}
/-- four bytes are told -/
theorem c_patch {buf : Nat} {n p v lim : Int} {Q : g_M → Prop} (h1 : g_O M wo 4) (h2 : g_r M wo 0 = some buf) (h3 : g_A M buf 0 n) (h4 : n ≤ 1000000000) (hl : g_i M wo 2 = lim) (h0 : 0 ≤ p) (hp : p + 4 ≤ lim) (hn : p + 4 ≤ n) (hv : g_InR v) (hq : ∀ M1, e_fr (fun y k => y = buf ∧ p ≤ k ∧ k < p + 4) M M1 → b_at (g_i M1 buf) p (b_le4 v) → Q M1) : g_Call (d + 1) 79 [.ref wo, g_n p, g_n v] M (g_qV Q) := by
  refine m_X4_patch ⟨by omega, by omega⟩ hv fun _ => ⟨fun g => absurd g (by omega), fun _ => ⟨⟨by omega, by omega⟩, h1, fun g => absurd g (by omega), fun _ => ⟨⟨by omega, by omega⟩, buf, h2, n, h3, ⟨by omega, by omega⟩, fun g => absurd g (by omega), fun _ => ⟨buf, h2, n, h3, ⟨by omega, by omega⟩, fun M23 e23 _ => ⟨buf, by subst e23; exact h2, ⟨by omega, by omega⟩, n, by subst e23; exact h3, ⟨by omega, by omega⟩, fun M33 e33 _ => ⟨buf, by subst e33; subst e23; exact h2, ⟨by omega, by omega⟩, n, by subst e33; subst e23; exact h3, ⟨by omega, by omega⟩, fun M43 e43 _ => ⟨buf, by subst e43; subst e33; subst e23; exact h2, ⟨by omega, by omega⟩, n, by subst e43; subst e33; subst e23; exact h3, ⟨by omega, by omega⟩, fun M53 e53 _ => ?_⟩⟩⟩⟩⟩⟩⟩
  have l0 := le4_0 hv
  have l1 := le4_1 hv
  have l2 := le4_2 hv
  have l3 := le4_3 hv
  subst e53
  subst e43
  subst e33
  subst e23
  refine hq _ ((((e_fr.wi _ ⟨rfl, by omega, by omega⟩).tr (e_fr.wi _ ⟨rfl, by omega, by omega⟩)).tr (e_fr.wi _ ⟨rfl, by omega, by omega⟩)).tr (e_fr.wi _ ⟨rfl, by omega, by omega⟩)) ?_
  refine b_cons.mpr ⟨?_, b_cons.mpr ⟨?_, b_cons.mpr ⟨?_, b_cons.mpr ⟨?_, b_nil _ _⟩⟩⟩⟩
  · rw [g_i_wi, if_neg (by omega), g_i_wi, if_neg (by omega), g_i_wi, if_neg (by omega), g_i_wi, if_pos ⟨rfl, rfl⟩, g_w88]
  · rw [g_i_wi, if_neg (by omega), g_i_wi, if_neg (by omega), g_i_wi, if_pos ⟨rfl, rfl⟩]
    exact l1
  · rw [g_i_wi, if_neg (by omega), g_i_wi, if_pos ⟨rfl, by omega⟩]
    exact l2
  · rw [g_i_wi, if_pos ⟨rfl, by omega⟩]
    exact l3
/-- the object that changes, with its path, its chain, its Out -/
def X_O (o b po pf pt ch wo : Nat) (M : g_M) : Prop := (g_O M o 1 ∧ g_r M o 0 = some b ∧ g_r M o 1 = some po ∧ g_r M o 2 = some ch ∧ g_r M o 3 = some wo) ∧ p_P M po pf pt ∧ g_A M ch 1 10 ∧ g_A M b 0 246408 ∧ g_O M wo 4 ∧ g_r M wo 0 = some b
def X_SL (o b wo : Nat) (y : Nat) (k : Int) : Prop := (y = o ∧ (k = 5 ∨ k = 6)) ∨ (y = wo ∧ (k = 1 ∨ k = 2 ∨ k = 3)) ∨ (y = b ∧ 163608 ≤ k)
theorem X_O.fr {S : Nat → Int → Prop} {M1 : g_M} (h : X_O o b po pf pt ch wo M) (f : e_fr S M M1) : X_O o b po pf pt ch wo M1 := by
  obtain ⟨⟨h1, h2, h3, h4, h5⟩, ⟨p1, p2, p3, p4, p5, p6⟩, h6, h7, h8, h9⟩ := h
  exact ⟨⟨f.O h1, by rw [f.2.2]; exact h2, by rw [f.2.2]; exact h3, by rw [f.2.2]; exact h4, by rw [f.2.2]; exact h5⟩, ⟨f.O p1, by rw [f.2.2]; exact p2, by rw [f.2.2]; exact p3, f.A p4, f.A p5, p6⟩, f.A h6, f.A h7, f.O h8, by rw [f.2.2]; exact h9⟩
theorem X_O.ne (h : X_O o b po pf pt ch wo M) : o ≠ b ∧ o ≠ wo ∧ wo ≠ b ∧ ch ≠ b ∧ ch ≠ o ∧ ch ≠ wo := by
  obtain ⟨⟨h1, -⟩, -, h6, h7, h8, -⟩ := h
  exact ⟨g_neOA h1 h7, g_neOO h1 h8 (by decide), g_neOA h8 h7, g_neAA h6 h7 (by omega), (g_neOA h1 h6).symm, (g_neOA h8 h6).symm⟩
theorem c_splice {Q : Int → g_M → Prop} {c : List h_F} {h h2 : Nat} {a old fresh : Int} (hO : X_O o b po pf pt ch wo M) (hc : h_ok c) (hlen : c.length ≤ 10) (hZ : h_Z (g_i M b) h 163608 c) (hln : g_i M o 4 = c.length) (hch : b_at (g_i M ch) 0 (h_ch 163608 c)) (hend : g_i M o 5 = 163608 + h_hs h c) (ha : h_at 163608 c ≤ a) (hold : 0 ≤ old) (hfr : 0 ≤ fresh) (ha2 : a + old ≤ h_at 163608 c + h) (hh2 : (h2 : Int) = h + fresh - old) (hmx : (h_hs h c : Int) ≤ 80000) (hmx2 : (h_hs h2 c : Int) ≤ 80000)
    (hq : ∀ M1, e_fr (X_SL o b wo) M M1 → h_Z (g_i M1 b) h2 163608 c → g_i M1 o 5 = 163608 + h_hs h2 c → g_i M1 o 6 = 1 → (∀ k, h_at 163608 c ≤ k → k < a + fresh → g_i M1 b k = g_i M b k) → (∀ k, a + old ≤ k → k < h_at 163608 c + h → g_i M1 b (k + (fresh - old)) = g_i M b k) → c_Wr wo b 246408 a (a + fresh) [] M1 → Q 1 M1) : g_Call (d + 2) 24 [.ref o, g_n a, g_n old, g_n fresh] M (g_qI Q) := by
  have hO0 := hO
  obtain ⟨n1, n2, n3, n4, n5, n6⟩ := hO.ne
  obtain ⟨⟨o1, o2, o3, o4, o5⟩, hP, och, ob, ow, owb⟩ := hO
  have hin := h_at_in h c 163608
  have hge := h_at_ge c 163608
  have hhs : (h_hs h2 c : Int) = h_hs h c + (fresh - old) := by
    have g2 := h_hs_add (min h h2) (h - min h h2) c
    have g3 := h_hs_add (min h h2) (h2 - min h h2) c
    rw [show min h h2 + (h - min h h2) = h by omega] at g2
    rw [show min h h2 + (h2 - min h h2) = h2 by omega] at g3
    omega
  refine m_X1_splice ⟨by omega, by omega⟩ ⟨by omega, by omega⟩ ⟨by omega, by omega⟩ fun _ => ⟨⟨by omega, by omega⟩, fun g => absurd g (by omega), fun _ => ⟨fun g => absurd g (by omega), fun _ => ⟨fun g => absurd g (by omega), fun _ => ⟨⟨by omega, by omega⟩, o1, fun g => absurd g (by omega), fun _ => ⟨by rw [hend]; exact ⟨by omega, by omega⟩, fun g => absurd g (by omega), fun _ => ⟨b, o2, ⟨by omega, by omega⟩, b, o2, ⟨by omega, by omega⟩, ⟨by omega, by omega⟩, ⟨by omega, by omega⟩, _, ob, _, ob, ⟨by omega, by omega, by omega, by omega, by omega⟩, fun M18 e18 _ => ?_⟩⟩⟩⟩⟩⟩
  have ei18 : ∀ y, y ≠ b → ∀ k, g_i M18 y k = g_i M y k := fun y hy k => by
    subst e18
    rw [g_i_cp, if_neg (fun z => hy z.1)]
  have eb18 : ∀ k, g_i M18 b k = if a + fresh ≤ k ∧ k < 163608 + h_hs h2 c then g_i M b (k - (fresh - old)) else g_i M b k := fun k => by
    subst e18
    rw [g_i_cp]
    by_cases hk : a + fresh ≤ k ∧ k < 163608 + h_hs h2 c
    · rw [if_pos ⟨rfl, by omega, by omega⟩, if_pos hk]
      congr 1
      omega
    · rw [if_neg (fun z => hk ⟨z.2.1, by omega⟩), if_neg hk]
  have f18 : e_fr (X_SL o b wo) M M18 := by
    subst e18
    refine ⟨rfl, fun y k hy => ?_, fun _ _ => rfl⟩
    rw [g_i_cp, if_neg (fun z => hy (Or.inr (Or.inr ⟨z.1, by omega⟩)))]
  refine ⟨by rw [ei18 o n1, hend]; exact ⟨by omega, by omega⟩, fun M23 e23 _ => ?_⟩
  rw [ei18 o n1] at e23
  have f23 : e_fr (X_SL o b wo) M18 M23 := by
    subst e23
    exact e_fr.wi _ (Or.inl ⟨rfl, Or.inl rfl⟩)
  have f := f18.tr f23
  have hO23 := hO0.fr f
  obtain ⟨⟨q1, q2, q3, q4, q5⟩, qP, qch, qb, qw, qwb⟩ := hO23
  have eb23 : ∀ k, g_i M23 b k = g_i M18 b k := fun k => by
    subst e23
    rw [g_i_wi, if_neg (fun z => n1 z.1.symm)]
  refine ⟨wo, q5, ⟨by omega, by omega⟩, qw, c_start qw qwb qb (by decide) (by omega) (by omega) (by omega) fun M31 f31 W31 => ?_⟩
  intro _ _
  have f31' : e_fr (X_SL o b wo) M23 M31 := f31.up fun y k hy => Or.inr (Or.inl hy)
  have hO31 := (hO0.fr f).fr f31'
  have fall := f.tr f31'
  have eb31 : ∀ k, g_i M31 b k = g_i M18 b k := fun k => by
    rw [f31.2.1 b k (fun z => n3 z.1.symm), eb23]
  have eo31 : ∀ k, k ≠ 5 → g_i M31 o k = g_i M o k := fun k hk => by
    rw [f31.2.1 o k (fun z => n2 z.1)]
    subst e23
    rw [g_i_wi, if_neg (fun z => hk z.2), ei18 o n1]
  have ech31 : ∀ k, g_i M31 ch k = g_i M ch k := fun k => by
    rw [f31.2.1 ch k (fun z => n6 z.1)]
    subst e23
    rw [g_i_wi, if_neg (fun z => n5 z.1), ei18 ch n4]
  have hhd : h_hd (g_i M31 b) h 163608 c := hZ.hd.keep fun k k1 k2 => by rw [eb31, eb18, if_neg (by omega)]
  have e5 : g_i M31 o 5 = 163608 + h_hs h2 c := by
    rw [f31.2.1 o 5 (fun z => n2 z.1)]
    subst e23
    rw [g_i_wi, if_pos ⟨rfl, rfl⟩, hend]
    omega
  -- the sizes around
  have hlp : ∀ (c2 : List h_F) (p : Int) (i : Nat) (M2 : g_M), h_ok c2 → 163608 ≤ p → h_at p c2 ≤ a → (h_hs h c2 : Int) ≤ 80000 → (h_hs h2 c2 : Int) ≤ 80000 → i + c2.length = c.length → b_at (g_i M ch) i (h_ch p c2) → h_hd (g_i M2 b) h p c2 → e_fr (fun y k => y = b ∧ 163608 ≤ k ∧ k < a) M31 M2 → (∀ M3, e_fr (fun y k => y = b ∧ h_fl p c2 k) M2 M3 → h_sd (g_i M3 b) h2 p c2 → ∀ M4, M4 = g_wi M3 o 6 1 → Q 1 M4) → g_Run (d + 1) 24 93 [(0, .ref o), (1, g_n a), (2, g_n old), (3, g_n fresh), (4, g_n (fresh - old)), (5, g_n i)] [] M2 (g_qI Q) := by
    intro c2
    induction c2 with
    | nil =>
      intro p i M2 _ _ _ _ _ hi _ _ f2 hq
      obtain ⟨⟨r1, r2, r3, r4, r5⟩, rP, rch, rb, rw', rwb⟩ := hO31.fr f2
      have e4 : g_i M2 o 4 = c.length := by
        rw [f2.2.1 o 4 (fun z => n1 z.1), eo31 4 (by decide), hln]
      rw [List.length_nil] at hi
      exact s_X1_splice_93 ⟨by omega, by omega⟩ ⟨by omega, by omega⟩ ⟨by omega, by omega⟩ ⟨by omega, by omega⟩ ⟨by omega, by omega⟩ fun _ => ⟨r1, fun g => absurd g (by omega), fun _ M4 e4 _ => hq M2 (e_fr.rf _ _) trivial M4 e4⟩
    | cons g c2 ih =>
      intro p i M2 hok hp hat hm1 hm2 hi hch2 hhd2 f2 hq
      obtain ⟨⟨r1, r2, r3, r4, r5⟩, rP, rch, rb, rw', rwb⟩ := hO31.fr f2
      have e4 : g_i M2 o 4 = c.length := by
        rw [f2.2.1 o 4 (fun z => n1 z.1), eo31 4 (by decide), hln]
      rw [List.length_cons] at hi
      obtain ⟨c1, c2'⟩ := b_cons.mp hch2
      have ec : g_i M2 ch i = p := by
        rw [f2.2.1 ch i (fun z => n4 z.1), ech31]
        exact c1
      obtain ⟨d1, d2, d3⟩ := hhd2
      have hge2 := h_at_ge c2 (h_q p g)
      have hat2 : h_at (h_q p g) c2 ≤ a := hat
      have hqd : h_q p g = p + 6 + g.2.1.length + (b_ser g.2.2.1).length := rfl
      have hh1 : h_hs h (g :: c2) = g.2.1.length + (b_ser g.2.2.1).length + h_hs h c2 + (b_ser g.2.2.2).length + 7 := rfl
      have hh1' : h_hs h2 (g :: c2) = g.2.1.length + (b_ser g.2.2.1).length + h_hs h2 c2 + (b_ser g.2.2.2).length + 7 := rfl
      have hnz := hok g List.mem_cons_self
      have hsz : (h_sz h g c2 : Int) = (b_ser g.2.2.1).length + h_hs h c2 + (b_ser g.2.2.2).length + 5 := by unfold h_sz; omega
      have hsz2 : (h_sz h2 g c2 : Int) = h_sz h g c2 + (fresh - old) := by
        have g2 := h_hs_add (min h h2) (h - min h h2) c2
        have g3 := h_hs_add (min h h2) (h2 - min h h2) c2
        rw [show min h h2 + (h - min h h2) = h by omega] at g2
        rw [show min h h2 + (h2 - min h h2) = h2 by omega] at g3
        unfold h_sz
        omega
      have hnm : b_nm (g_i M2 b) 246408 p (p + 1 + g.2.1.length) := by
        have hel : b_at (g_i M2 b) p (b_el g.1 g.2.1 []) := d1
        exact b_el_nm hel hnz (by omega) (by omega)
      have hwl : g_i M2 wo 2 = a + fresh := by
        rw [f2.2.1 wo 2 (fun z => n3 z.1)]
        exact W31.2.2.2.1
      refine s_X1_splice_93 ⟨by omega, by omega⟩ ⟨by omega, by omega⟩ ⟨by omega, by omega⟩ ⟨by omega, by omega⟩ ⟨by omega, by omega⟩ fun _ => ⟨r1, fun _ => ⟨ch, r4, _, rch, ⟨by decide, by decide⟩, fun _ => ⟨b, r2, ch, r4, _, rch, ⟨by omega, by omega⟩, ?_⟩, fun g => absurd g (by omega)⟩, fun gg => absurd gg (by omega)⟩
      rw [ec]
      refine c_va rb ⟨by decide, by decide⟩ hnm fun _ _ _ => ⟨wo, r5, b, r2, c_w4 rb ⟨by decide, by decide⟩ (by omega) (by omega) fun _ _ _ => ?_⟩
      rw [show p + 1 + (g.2.1.length : Int) + 1 = p + 2 + g.2.1.length by omega, b_w4_le4 (by omega) (by omega) d2, ← hsz2]
      refine ⟨⟨by omega, by omega⟩, rw', c_patch rw' rwb rb (by decide) hwl (by omega) (by omega) (by omega) ⟨by omega, by omega⟩ fun M38 f38 hb38 => ?_⟩
      intro _ _
      refine ⟨⟨by omega, by omega⟩, ?_⟩
      have h9 := ih (h_q p g) (i + 1) M38 (fun x hx => hok x (List.mem_cons_of_mem _ hx)) (by omega) hat2 (by omega) (by omega) (by omega) ?_ (d3.keep fun k k1 k2 => f38.2.1 b k (fun z => by omega)) (f2.tr (f38.up fun y k hy => ⟨hy.1, by omega, by omega⟩)) fun M3 f3 hs3 => ?_
      · rwa [show ((i + 1 : Nat) : Int) = (i : Int) + 1 by omega] at h9
      · rw [show ((i + 1 : Nat) : Int) = (i : Int) + 1 by omega]
        exact c2'
      · refine hq M3 ((f38.up fun y k hy => ⟨hy.1, Or.inl ⟨by omega, by omega⟩⟩).tr (f3.up fun y k hy => ⟨hy.1, Or.inr hy.2⟩)) ⟨?_, hs3⟩
        refine b_at_keep hb38 fun k k1 k2 => f3.2.1 b k fun z => ?_
        have := (h_fl_lt c2 _ _ z.2).1
        have e4' : (b_le4 (h_sz h2 g c2)).length = 4 := rfl
        omega
  refine hlp c 163608 0 M31 hc (by decide) ha hmx hmx2 (by omega) hch hhd (e_fr.rf _ _) fun M3 f3 hs3 M4 e4 => ?_
  have f4 : e_fr (X_SL o b wo) M3 M4 := by
    subst e4
    exact e_fr.wi _ (Or.inl ⟨rfl, Or.inr rfl⟩)
  have eb4 : ∀ k, g_i M4 b k = g_i M3 b k := fun k => by
    subst e4
    rw [g_i_wi, if_neg (fun z => n1 z.1.symm)]
  have eo4 : ∀ k, k ≠ 6 → g_i M4 o k = g_i M31 o k := fun k hk => by
    subst e4
    rw [g_i_wi, if_neg (fun z => hk z.2), f3.2.1 o k (fun z => n1 z.1)]
  have ew4 : ∀ k, g_i M4 wo k = g_i M31 wo k := fun k => by
    subst e4
    rw [g_i_wi, if_neg (fun z => n2 z.1.symm), f3.2.1 wo k (fun z => n3 z.1)]
  have f3' : e_fr (X_SL o b wo) M31 M3 := f3.up fun y k hy => Or.inr (Or.inr ⟨hy.1, (h_fl_lt c _ _ hy.2).1⟩)
  have hsd4 : h_sd (g_i M4 b) h2 163608 c := by
    have : g_i M4 b = g_i M3 b := funext eb4
    rw [this]
    exact hs3
  have hbk : ∀ k, 163608 ≤ k → ¬ h_fl 163608 c k → g_i M4 b k = g_i M18 b k := fun k hk hf => by
    rw [eb4, f3.2.1 b k (fun z => hf z.2), eb31]
  have hnf : ∀ k, h_at 163608 c ≤ k → ¬ h_fl 163608 c k := fun k hk hf => by
    have := (h_fl_lt c _ _ hf).2
    omega
  refine hq M4 ((fall.tr f3').tr f4) (h_Z_move hh2 c 163608 hZ ha ha2 hold (fun k k1 k2 k3 => ?_) (fun k k1 k2 => ?_) hsd4) ?_ ?_ (fun k k1 k2 => ?_) (fun k k1 k2 => ?_) ?_
  · rw [hbk k k1 k3, eb18, if_neg (by omega)]
  · rw [hbk _ (by omega) (hnf _ (by omega)), eb18, if_pos (by omega)]
    congr 1
    omega
  · rw [eo4 5 (by decide), e5]
  · subst e4
    rw [g_i_wi, if_pos ⟨rfl, rfl⟩]
  · rw [hbk k (by omega) (hnf k k1), eb18, if_neg (by omega)]
  · rw [hbk _ (by omega) (hnf _ (by omega)), eb18, if_pos (by omega)]
    congr 1
    omega
  · obtain ⟨⟨w1, w2, w3, w4⟩, w5, w6, w7, w8⟩ := W31
    have f34 := f3'.tr f4
    refine ⟨⟨f34.O w1, by rw [f34.2.2]; exact w2, f34.A w3, w4⟩, w5, w6, by rw [ew4]; exact w7, ?_⟩
    rw [ew4, ew4]
    rcases w8 with ⟨a1, a2, a3, a4⟩ | w8
    · exact Or.inl ⟨a1, a2, a3, b_nil _ _⟩
    · exact Or.inr w8
theorem c_link {Q : g_M → Prop} {c : List h_F} {f : h_F} (hO : X_O o b po pf pt ch wo M) (hlen : c.length < 10) (hln : g_i M o 4 = c.length) (hch : b_at (g_i M ch) 0 (h_ch 163608 c)) (hR : h_at 163608 c ≤ 1000000000) (hq : ∀ M1, e_fr (fun y k => (y = o ∧ k = 4) ∨ y = ch) M M1 → g_i M1 o 4 = (c ++ [f]).length → b_at (g_i M1 ch) 0 (h_ch 163608 (c ++ [f])) → Q M1) : g_Call (d + 1) 25 [.ref o, g_n (h_at 163608 c)] M (g_qV Q) := by
  obtain ⟨n1, n2, n3, n4, n5, n6⟩ := hO.ne
  obtain ⟨⟨o1, o2, o3, o4, o5⟩, hP, och, ob, ow, owb⟩ := hO
  have hge := h_at_ge c 163608
  refine m_X1_link ⟨by omega, by omega⟩ fun _ => ⟨o1, ch, o4, _, och, ⟨by decide, by decide⟩, fun _ => ⟨ch, o4, _, och, ⟨by omega, by omega⟩, fun M12 e12 _ => ?_⟩, fun g => absurd g (by omega)⟩
  subst e12
  have e4 : g_i (g_wi M ch (g_i M o 4) (h_at 163608 c)) o 4 = g_i M o 4 := by rw [g_i_wi, if_neg (fun z => n5 z.1.symm)]
  rw [e4, hln]
  refine ⟨⟨by omega, by omega⟩, fun M17 e17 _ => ?_⟩
  subst e17
  refine hq _ ((e_fr.wi _ (Or.inr rfl)).tr (e_fr.wi _ (Or.inl ⟨rfl, rfl⟩))) ?_ ?_
  · rw [g_i_wi, if_pos ⟨rfl, rfl⟩, List.length_append, List.length_singleton]
    omega
  · rw [h_ch_snoc]
    have hl := h_ch_len c 163608
    refine b_app.mpr ⟨fun i w hw => ?_, b_cons.mpr ⟨?_, b_nil _ _⟩⟩
    · have := (List.getElem?_eq_some_iff.mp hw).1
      rw [g_i_wi, if_neg (fun z => n5 z.1), g_i_wi, if_neg (by omega)]
      exact hch i w hw
    · rw [g_i_wi, if_neg (fun z => n5 z.1), g_i_wi, if_pos ⟨rfl, by omega⟩]
end SPL
