/-! TREES OF THE CLASS: trees with their nodes and slots -/
/-- an entry with its slot; a mark with its slot and the node behind it -/
abbrev V_W : Type := (Nat × Nat) × I_E
def V_s (x : V_W) : Nat := x.1.1
def V_n (x : V_W) : Nat := x.1.2
def V_e (x : V_W) : I_E := x.2
def V_k : (h : Nat) → N_i V_W h → Nat
  | 0, x => V_s x
  | _ + 1, x => V_n x.1
def B_eg (S : B_S) (s : Nat) (e : I_E) : Prop := B_e S s e ∧ I_eg e
def V_ts (h : Nat) (l : List (N_i V_W (h + 1))) : List Nat := l.tail.map fun x => V_s x.1
/-- the node n holds these items, and so below -/
def C_D (S : B_S) : (h : Nat) → Nat → List (N_i V_W h) → Prop
  | 0, n, l => B_no S n 1 (l.map (V_k 0)) [] ∧ l.length ≤ 9 ∧ ∀ x ∈ l, B_eg S (V_k 0 x) (V_e x)
  | h + 1, n, l => B_no S n 0 (l.map (V_k (h + 1))) (V_ts h l) ∧ l.length ≤ 9 ∧ (∀ x ∈ l.tail, B_eg S (V_s x.1) (V_e x.1)) ∧ ∀ x ∈ l, C_D S h (V_n x.1) x.2
def V_ns : (h : Nat) → Nat → List (N_i V_W h) → List Nat
  | 0, n, _ => [n]
  | h + 1, n, l => n :: List.flatMap (fun x : N_i V_W (h + 1) => V_ns h (V_n x.1) x.2) l
def V_us : (h : Nat) → List (N_i V_W h) → List Nat
  | 0, l => l.map (V_k 0)
  | h + 1, l => V_ts h l ++ List.flatMap (fun x : N_i V_W (h + 1) => V_us h x.2) l
/-- without nodes and slots -/
def V_er : (h : Nat) → N_i V_W h → N_i I_E h
  | 0, x => N_e (V_e x)
  | h + 1, x => N_mk h (V_e x.1) (x.2.map (V_er h))
theorem C_D_0 {S : B_S} {n : Nat} {l : List (N_i V_W 0)} : C_D S 0 n l ↔ B_no S n 1 (l.map (V_k 0)) [] ∧ l.length ≤ 9 ∧ ∀ x ∈ l, B_eg S (V_k 0 x) (V_e x) := Iff.rfl
theorem C_D_s {S : B_S} {h n : Nat} {l : List (N_i V_W (h + 1))} : C_D S (h + 1) n l ↔ B_no S n 0 (l.map (V_k (h + 1))) (V_ts h l) ∧ l.length ≤ 9 ∧ (∀ x ∈ l.tail, B_eg S (V_s x.1) (V_e x.1)) ∧ ∀ x ∈ l, C_D S h (V_n x.1) x.2 := Iff.rfl
theorem V_ns_s (h n : Nat) (l : List (N_i V_W (h + 1))) : V_ns (h + 1) n l = n :: l.flatMap fun x => V_ns h (V_n x.1) x.2 := rfl
theorem V_us_s (h : Nat) (l : List (N_i V_W (h + 1))) : V_us (h + 1) l = V_ts h l ++ l.flatMap fun x => V_us h x.2 := rfl
theorem V_us_0 (l : List (N_i V_W 0)) : V_us 0 l = l.map (V_k 0) := rfl
theorem V_ns_m : ∀ (h n : Nat) (l : List (N_i V_W h)), n ∈ V_ns h n l := by
  intro h n l
  cases h with
  | zero => exact List.mem_singleton.mpr rfl
  | succ h => exact List.mem_cons_self
theorem V_ts_len (h : Nat) (l : List (N_i V_W (h + 1))) : (V_ts h l).length = l.length - 1 := by
  unfold V_ts
  rw [List.length_map, List.length_tail]
def B_nav (A : Nat → Int → Prop) (m : Nat) : Prop := (∀ q : Int, 9 * (m : Int) ≤ q → q < 9 * m + 9 → ¬ A 4 q ∧ ¬ A 5 q) ∧ ¬ A 6 m ∧ ¬ A 7 m
def B_sav (A : Nat → Int → Prop) (s : Nat) : Prop := (∀ q : Int, 132 * (s : Int) ≤ q → q < 132 * s + 132 → ¬ A 0 q) ∧ ¬ A 1 s
/-- there is room for so many slots -/
def B_us (S : B_S) (U : Int) : Prop := S.1 0 = 132 * U ∧ S.1 1 = U ∧ U ≤ 1369
theorem B_sl.us {S : B_S} {j : Nat} {FS us : List Nat} (h : B_sl S j FS us) : B_us S (B_cs j) := by
  obtain ⟨⟨l0, l1, l2, lj⟩, -⟩ := h
  have hcs := B_cs_le ⟨j, by omega⟩
  simp only at hcs
  exact ⟨l0, l1, by omega⟩
section CD
variable {A : Nat → Int → Prop} {G : Int → Prop} {S S1 : B_S} {N U : Int}
theorem B_eg.ag {s : Nat} {e : I_E} (h : B_eg S s e) (hU : B_us S U) (hs : (s : Int) < U) (g : B_ag A G S S1) (ha : B_sav A s) : B_eg S1 s e := by
  obtain ⟨⟨h1, h2, h3⟩, hg⟩ := h
  obtain ⟨u1, u2, u3⟩ := hU
  have l1 := b_el_len e.1.1 [] e.1.2
  have l2 := b_el_len e.2.1.1 [] e.2.1.2
  rw [List.length_nil] at l1 l2
  have g1 := hg.1.2
  have g2 := hg.2.1.2
  refine ⟨⟨b_at_keep h1 fun q q1 q2 => g.2.1 0 q (ha.1 q (by omega) (by omega)) (by omega) (by omega), b_at_keep h2 fun q q1 q2 => g.2.1 0 q (ha.1 q (by omega) (by omega)) (by omega) (by omega), ?_⟩, hg⟩
  rw [g.2.1 1 s ha.2 (by omega) (by omega)]
  exact h3
theorem C_D.ag : ∀ {h n : Nat} {l : List (N_i V_W h)}, C_D S h n l → B_ln S N → B_us S U → (∀ m ∈ V_ns h n l, (m : Int) < N) → (∀ s ∈ V_us h l, (s : Int) < U) → B_ag A G S S1 → (∀ m ∈ V_ns h n l, B_nav A m) → (∀ s ∈ V_us h l, B_sav A s) → C_D S1 h n l := by
  intro h
  induction h with
  | zero =>
    intro n l hD hN hU h1 h2 g h3 h4
    obtain ⟨d1, d2, d3⟩ := C_D_0.mp hD
    have hn := V_ns_m 0 n l
    refine C_D_0.mpr ⟨d1.ag hN (h1 n hn) (by rw [List.length_map]; exact d2) (by decide) g (h3 n hn).1 (h3 n hn).2.1 (h3 n hn).2.2, d2, fun x hx => ?_⟩
    have hm : V_k 0 x ∈ V_us 0 l := List.mem_map.mpr ⟨x, hx, rfl⟩
    exact (d3 x hx).ag hU (h2 _ hm) g (h4 _ hm)
  | succ h ih =>
    intro n l hD hN hU h1 h2 g h3 h4
    obtain ⟨d1, d2, d3, d4⟩ := C_D_s.mp hD
    have hn := V_ns_m (h + 1) n l
    refine C_D_s.mpr ⟨d1.ag hN (h1 n hn) (by rw [List.length_map]; exact d2) (by rw [V_ts_len]; omega) g (h3 n hn).1 (h3 n hn).2.1 (h3 n hn).2.2, d2, fun x hx => ?_, fun x hx => ?_⟩
    · have hm : V_s x.1 ∈ V_us (h + 1) l := List.mem_append_left _ (List.mem_map.mpr ⟨x, hx, rfl⟩)
      exact (d3 x hx).ag hU (h2 _ hm) g (h4 _ hm)
    · have hm1 : ∀ m ∈ V_ns h (V_n x.1) x.2, m ∈ V_ns (h + 1) n l := fun m hm => List.mem_cons_of_mem _ (List.mem_flatMap.mpr ⟨x, hx, hm⟩)
      have hm2 : ∀ s ∈ V_us h x.2, s ∈ V_us (h + 1) l := fun s hs => List.mem_append_right _ (List.mem_flatMap.mpr ⟨x, hx, hs⟩)
      exact ih (d4 x hx) hN hU (fun m hm => h1 m (hm1 m hm)) (fun s hs => h2 s (hm2 s hs)) g (fun m hm => h3 m (hm1 m hm)) fun s hs => h4 s (hm2 s hs)
end CD
theorem B_kA_nav {n m : Nat} (h : m ≠ n) : B_nav (B_kA n) m := by
  refine ⟨fun q q1 q2 => ⟨fun z => ?_, fun z => ?_⟩, fun z => ?_, fun z => ?_⟩
  · rcases z with ⟨-, z1, z2⟩ | ⟨z, -⟩ <;> omega
  · rcases z with ⟨z, -⟩ | ⟨z, -⟩ <;> omega
  · rcases z with ⟨z, -⟩ | ⟨-, z⟩ <;> omega
  · rcases z with ⟨z, -⟩ | ⟨z, -⟩ <;> omega
theorem B_kA_sav (n s : Nat) : B_sav (B_kA n) s := by
  refine ⟨fun q _ _ z => ?_, fun z => ?_⟩
  · rcases z with ⟨z, -⟩ | ⟨z, -⟩ <;> omega
  · rcases z with ⟨z, -⟩ | ⟨z, -⟩ <;> omega
theorem B_mA_nav {n m : Nat} (h : m ≠ n) : B_nav (B_mA n) m := by
  refine ⟨fun q q1 q2 => ⟨fun z => ?_, fun z => ?_⟩, fun z => ?_, fun z => ?_⟩
  · have := z.1; omega
  · obtain ⟨-, z1, z2⟩ := z; omega
  · have := z.1; omega
  · have := z.1; omega
theorem B_mA_sav (n s : Nat) : B_sav (B_mA n) s := by
  refine ⟨fun q _ _ z => ?_, fun z => ?_⟩
  · have := z.1; omega
  · have := z.1; omega
theorem B_2_nav (m : Nat) : B_nav (fun k _ => k = 2) m := ⟨fun q _ _ => ⟨fun z => absurd (show (4 : Nat) = 2 from z) (by decide), fun z => absurd (show (5 : Nat) = 2 from z) (by decide)⟩, fun z => absurd (show (6 : Nat) = 2 from z) (by decide), fun z => absurd (show (7 : Nat) = 2 from z) (by decide)⟩
theorem B_2_sav (s : Nat) : B_sav (fun k _ => k = 2) s := ⟨fun q _ _ z => absurd (show (0 : Nat) = 2 from z) (by decide), fun z => absurd (show (1 : Nat) = 2 from z) (by decide)⟩
theorem B_8_nav (m : Nat) : B_nav (fun k _ => k = 8) m := ⟨fun q _ _ => ⟨fun z => absurd (show (4 : Nat) = 8 from z) (by decide), fun z => absurd (show (5 : Nat) = 8 from z) (by decide)⟩, fun z => absurd (show (6 : Nat) = 8 from z) (by decide), fun z => absurd (show (7 : Nat) = 8 from z) (by decide)⟩
theorem B_8_sav (s : Nat) : B_sav (fun k _ => k = 8) s := ⟨fun q _ _ z => absurd (show (0 : Nat) = 8 from z) (by decide), fun z => absurd (show (1 : Nat) = 8 from z) (by decide)⟩
theorem B_nA_nav {n m : Nat} (h : m ≠ n) : B_nav (B_nA n) m := by
  refine ⟨fun q q1 q2 => ⟨fun z => ?_, fun z => ?_⟩, fun z => ?_, fun z => ?_⟩
  · rcases z with z | ⟨z, -⟩ <;> omega
  · rcases z with z | ⟨z, -⟩ <;> omega
  · rcases z with z | ⟨-, z⟩ <;> omega
  · rcases z with z | ⟨-, z⟩ <;> omega
theorem B_nA_sav (n s : Nat) : B_sav (B_nA n) s := by
  refine ⟨fun q _ _ z => ?_, fun z => ?_⟩
  · rcases z with z | ⟨z, -⟩ <;> omega
  · rcases z with z | ⟨z, -⟩ <;> omega
/-- a slot's places -/
def B_sA (s : Nat) (k : Nat) (q : Int) : Prop := (k = 0 ∧ 132 * (s : Int) ≤ q ∧ q < 132 * s + 132) ∨ (k = 1 ∧ q = s)
theorem B_sA_nav (s m : Nat) : B_nav (B_sA s) m := by
  refine ⟨fun q q1 q2 => ⟨fun z => ?_, fun z => ?_⟩, fun z => ?_, fun z => ?_⟩
  · rcases z with ⟨z, -⟩ | ⟨z, -⟩ <;> omega
  · rcases z with ⟨z, -⟩ | ⟨z, -⟩ <;> omega
  · rcases z with ⟨z, -⟩ | ⟨z, -⟩ <;> omega
  · rcases z with ⟨z, -⟩ | ⟨z, -⟩ <;> omega
theorem B_sA_sav {s s2 : Nat} (h : s2 ≠ s) : B_sav (B_sA s) s2 := by
  refine ⟨fun q q1 q2 z => ?_, fun z => ?_⟩
  · rcases z with ⟨-, z1, z2⟩ | ⟨z, -⟩ <;> omega
  · rcases z with ⟨z, -⟩ | ⟨-, z⟩ <;> omega
/-- a part of a row is copied from elsewhere -/
def B_px (S : B_S) (k1 : Nat) (dp n : Int) (f : Int → Int) : B_S := (S.1, fun k2 q => if k2 = k1 ∧ dp ≤ q ∧ q < dp + n then f (q - dp) else S.2.1 k2 q, S.2.2)
theorem B_t.cpx {t : Nat} {S : B_S} {M : g_M} (h : B_t t S M) {k1 a a1 : Nat} {sp dp n : Int} (hk1 : k1 ∈ B_fs) (ha1 : g_r M t k1 = some a1) : B_t t (B_px S k1 dp n fun i => g_i M a (sp + i)) (g_cp M a a1 sp dp n) ∧ B_F t 0 0 M (g_cp M a a1 sp dp n) := by
  refine ⟨?_, B_F.same hk1 ha1 rfl (fun _ _ => rfl) fun y j hy => by rw [g_i_cp, if_neg fun z => hy z.1]⟩
  obtain ⟨h1, h2, h3, h4⟩ := id h
  obtain ⟨a2, d1, d2, -⟩ := h3 k1 hk1
  have ea : a2 = a1 := by rw [ha1] at d1; exact (Option.some.inj d1).symm
  subst ea
  refine ⟨h1, fun k2 => ?_, fun k2 hk2 => ?_, h4⟩
  · rw [g_i_cp, if_neg fun z => g_neOA h1 d2 z.1]
    exact h2 k2
  · obtain ⟨a3, c1, c2, c3⟩ := h3 k2 hk2
    refine ⟨a3, c1, c2, fun q g1 g2 => ?_⟩
    show g_i (g_cp M a a2 sp dp n) a3 q = if k2 = k1 ∧ dp ≤ q ∧ q < dp + n then g_i M a (sp + (q - dp)) else S.2.1 k2 q
    rw [g_i_cp]
    by_cases g : k2 = k1
    · subst g
      have : a3 = a2 := by rw [ha1] at c1; exact (Option.some.inj c1).symm
      subst this
      by_cases g3 : dp ≤ q ∧ q < dp + n
      · rw [if_pos ⟨rfl, g3⟩, if_pos ⟨rfl, g3⟩]
      · rw [if_neg fun z => g3 z.2, if_neg fun z => g3 z.2]
        exact c3 q g1 g2
    · rw [if_neg fun z => h.ne hk2 hk1 c1 ha1 g z.1, if_neg fun z => g z.1]
      exact c3 q g1 g2
theorem B_px_v (S : B_S) (k1 : Nat) (dp n : Int) (f : Int → Int) (k2 : Nat) (q : Int) : (B_px S k1 dp n f).2.1 k2 q = if k2 = k1 ∧ dp ≤ q ∧ q < dp + n then f (q - dp) else S.2.1 k2 q := rfl
theorem B_F.out {t a : Nat} {x w : Int} {M M1 : g_M} (h : B_F t x w M M1) (ha : a < 2 * M.1.length) (hn : ¬ B_own t M a) : g_i M1 a = g_i M a ∧ g_r M1 a = g_r M a ∧ ¬ B_own t M1 a := ⟨(h.2.2.1 a ha hn).1, (h.2.2.1 a ha hn).2, fun z => by
  rcases h.2.2.2.1 a z with g | g
  · exact hn g
  · omega⟩
section BFILL
variable {d t : Nat} {S : B_S} {M : g_M} {U : Int}
/-- an entry comes to a slot -/
theorem c_fill {Q : g_M → Prop} {s a : Nat} {n p q v : Int} {D D2 : Nat} {k k2 : Int} {nm nm2 vb vb2 : List Int} (h : B_t t S M) (hU : B_us S U) (hs : (s : Int) < U) (hA : g_A M a 0 n) (hn : n ≤ 1000000000) (hna : ¬ B_own t M a) (h1 : b_st (g_i M a) n p D k nm vb) (h2 : b_st (g_i M a) n q D2 k2 nm2 vb2) (l1 : vb.length ≤ 64) (l2 : vb2.length ≤ 64) (hv : g_InR v) (hq : ∀ S1 M1, B_t t S1 M1 → B_F t 0 0 M M1 → B_ag (B_sA s) B_0 S S1 → S1.1 = S.1 → B_e S1 s ((k, vb), (k2, vb2), v) → Q M1) : g_Call (d + 3) 178 [.ref t, g_n s, .ref a, g_n p, g_n q, g_n v] M (g_qV Q) := by
  obtain ⟨u0, u1, u3⟩ := id hU
  have hal := hA.lt
  have p4 := h1.2.2.2.1
  have p5 := h1.2.2.2.2
  have q4 := h2.2.2.2.1
  have q5 := h2.2.2.2.2
  obtain ⟨nu, n1, n2, n3⟩ := h.at (k := 1) (by decide)
  have n2 : g_A M nu 1 (S.1 1) := n2
  have hpR : g_InR p := ⟨by omega, by omega⟩
  have hqR : g_InR q := ⟨by omega, by omega⟩
  refine m_X10_fill ⟨by omega, by omega⟩ hpR hqR hv fun hok => ⟨h.1, nu, n1, S.1 1, n2, ⟨by omega, by omega⟩, fun M7 e7 _ => ?_⟩
  have hkb : ∀ {x : Int} {D : Nat} {k : Int} {nm vb : List Int}, b_st (g_i M a) n x D k nm vb → g_w8 (g_w8 k) = k := fun {x D k nm vb} hb => by
    have h3 := hb.val.2.2.2
    have h4 := hok.byte hA x
    rw [h3] at h4
    rw [g_w8_of h4.1 h4.2, g_w8_of h4.1 h4.2]
  obtain ⟨t7, f7⟩ := h.set (k := 1) (by decide) n1 (s : Int) v
  rw [← e7] at t7 f7
  -- one of the two keys
  have hstep : ∀ (i : Nat) (x : Int) (D : Nat) (k : Int) (nm vb : List Int) (S2 : B_S) (M2 : g_M), i < 2 → b_st (g_i M a) n x D k nm vb → vb.length ≤ 64 → B_t t S2 M2 → B_F t 0 0 M M2 → S2.1 = S.1 → (∀ S3 M3, B_t t S3 M3 → B_F t 0 0 M2 M3 → S3.1 = S2.1 → (∀ (k2 : Nat) (q : Int), ¬ (k2 = 0 ∧ 132 * (s : Int) + 66 * i ≤ q ∧ q < 132 * s + 66 * i + 66) → S3.2.1 k2 q = S2.2.1 k2 q) → S3.2.2 = S2.2.2 → b_at (S3.2.1 0) (132 * s + 66 * i) (b_el k [] vb) → g_Run (d + 2) 178 11 [(0, .ref t), (1, g_n s), (2, .ref a), (3, g_n p), (4, g_n q), (5, g_n v), (6, g_n ((i : Int) + 1))] [] M3 (g_qV Q)) → g_Run (d + 2) 178 28 [(0, .ref t), (1, g_n s), (2, .ref a), (3, g_n p), (4, g_n q), (5, g_n v), (6, g_n i)] [g_n x] M2 (g_qV Q) := by
    intro i x D k nm vb S2 M2 hi hb hvl t2 f2 e2 hc
    have x4 := hb.2.2.2.1
    have x5 := hb.2.2.2.2
    have xl := b_el_len k nm vb
    obtain ⟨o1, o2, o3⟩ := f2.out hal hna
    have hb2 : b_st (g_i M2 a) n x D k nm vb := by rw [o1]; exact hb
    have hA2 := hA.up f2.1
    obtain ⟨ky, k1, k2, -⟩ := t2.at (k := 0) (by decide)
    have k2 : g_A M2 ky 0 (S2.1 0) := k2
    have hl0 : S2.1 0 = 132 * U := by rw [e2]; exact u0
    refine s_X10_fill_28 ⟨by omega, by omega⟩ hpR hqR hv ⟨by omega, by omega⟩ ⟨by omega, by omega⟩ fun _ => ⟨⟨by omega, by omega⟩, ⟨by omega, by omega⟩, ⟨by omega, by omega⟩, c_va2 (d := d + 1) hA2 hn hb2 ?_⟩
    intro _ _ _
    refine ⟨t2.1, ky, k1, c_kd2 (d := d + 1) hA2 hn hb2 ?_⟩
    intro _ _ _
    refine ⟨S2.1 0, k2, ⟨by omega, by omega⟩, fun M20 e20 _ => ?_⟩
    rw [hkb hb] at e20
    obtain ⟨t20, f20⟩ := t2.set (k := 0) (by decide) k1 ((s : Int) * 132 + (i : Int) * 66) k
    rw [← e20] at t20 f20
    obtain ⟨ky2, k3, k4, -⟩ := t20.at (k := 0) (by decide)
    have k4 : g_A M20 ky2 0 (S2.1 0) := k4
    refine ⟨ky2, k3, ⟨by omega, by omega⟩, S2.1 0, k4, ⟨by omega, by omega⟩, fun M30 e30 _ => ?_⟩
    rw [show g_w8 0 = 0 from by decide] at e30
    obtain ⟨t30, f30⟩ := t20.set (k := 0) (by decide) k3 ((s : Int) * 132 + (i : Int) * 66 + 1) 0
    rw [← e30] at t30 f30
    obtain ⟨ky3, k5, k6, -⟩ := t30.at (k := 0) (by decide)
    have k6 : g_A M30 ky3 0 (S2.1 0) := k6
    have f230 := (f2.tr0 f20).tr0 f30
    obtain ⟨o4, o5, o6⟩ := f230.out hal hna
    have hA30 := hA.up f230.1
    refine ⟨ky3, k5, ⟨by omega, by omega⟩, c_nx2 (d := d + 1) hA30 hn (by rw [o4]; exact hb) ?_⟩
    intro _ _ _
    have hmin : min (x + ((b_el k nm vb).length : Int) - (x + 2 + (nm.length : Int))) 64 = vb.length := by
      rw [show x + ((b_el k nm vb).length : Int) - (x + 2 + (nm.length : Int)) = vb.length by omega]
      exact Int.min_eq_left (by omega)
    refine ⟨⟨by omega, by omega⟩, n, hA30, S2.1 0, k6, ?_⟩
    rw [hmin]
    refine ⟨⟨by omega, by omega, by omega, by omega, by omega⟩, fun M48 e48 _ => ⟨⟨by omega, by omega⟩, ?_⟩⟩
    obtain ⟨t48, f48⟩ := t30.cpx (k1 := 0) (a := a) (sp := x + 2 + (nm.length : Int)) (dp := (s : Int) * 132 + (i : Int) * 66 + 2) (n := vb.length) (by decide) k5
    rw [← e48] at t48 f48
    refine hc _ M48 t48 ((f20.tr0 f30).tr0 f48) rfl (fun k2 q hk2 => ?_) rfl (b_cons.mpr ⟨?_, b_cons.mpr ⟨?_, fun j w hj => ?_⟩⟩)
    · rw [B_px_v, if_neg (by omega), B_set_v, if_neg (by omega), B_set_v, if_neg (by omega)]
    · rw [B_px_v, if_neg (by omega), B_set_v, if_neg (by omega), B_set_v, if_pos ⟨rfl, by omega⟩]
    · rw [B_px_v, if_neg (by omega), B_set_v, if_pos ⟨rfl, by omega⟩]
    · have := (List.getElem?_eq_some_iff.mp hj).1
      rw [B_px_v, if_pos ⟨rfl, by omega, by omega⟩, o4]
      have h9 := hb.val.1 j w hj
      rw [← h9]
      congr 1
      omega
  have hag : ∀ (k2 : Nat) (q : Int), (B_set S 1 s v).2.1 k2 q = if k2 = 1 ∧ q = s then v else S.2.1 k2 q := fun k2 q => rfl
  refine s_X10_fill_11 ⟨by omega, by omega⟩ hpR hqR hv ⟨by decide, by decide⟩ fun _ => ⟨fun _ => ⟨fun _ => ?_, fun z => absurd rfl z⟩, fun z => absurd (by decide) z⟩
  refine hstep 0 p D k nm vb _ M7 (by decide) h1 l1 t7 f7 rfl fun S3 M3 t3 f3 e3 g3 y3 a3 => ?_
  refine s_X10_fill_11 ⟨by omega, by omega⟩ hpR hqR hv ⟨by decide, by decide⟩ fun _ => ⟨fun _ => ⟨fun z => absurd z (by decide), fun _ => ?_⟩, fun z => absurd (by decide) z⟩
  refine hstep 1 q D2 k2 nm2 vb2 S3 M3 (by decide) h2 l2 t3 (f7.tr0 f3) (by rw [e3]; rfl) fun S4 M4 t4 f4 e4 g4 y4 a4 => ?_
  refine s_X10_fill_11 ⟨by omega, by omega⟩ hpR hqR hv ⟨by decide, by decide⟩ fun _ => ⟨fun z => absurd z (by decide), fun _ => ?_⟩
  have hl1 := b_el_len k [] vb
  rw [List.length_nil] at hl1
  refine hq S4 M4 t4 ((f7.tr0 f3).tr0 f4) ⟨fun k2 => by rw [e4, e3]; exact Int.le_refl _, fun k2 x hA h0 hx => ?_, fun k2 _ => by rw [y4, y3]; rfl⟩ (by rw [e4, e3]; rfl) ⟨?_, ?_, ?_⟩
  · rw [g4 k2 x fun z => hA (Or.inl (by omega)), g3 k2 x fun z => hA (Or.inl (by omega)), hag, if_neg fun z => hA (Or.inr z)]
  · rw [show 132 * (s : Int) + 66 * (0 : Nat) = 132 * s by omega] at a3
    show b_at (S4.2.1 0) (132 * (s : Int)) (b_el k [] vb)
    exact b_at_keep a3 fun x x1 x2 => g4 0 x (by omega)
  · exact a4
  · rw [g4 1 _ (by omega), g3 1 _ (by omega), hag, if_pos ⟨rfl, rfl⟩]
end BFILL
