/-! TREES OF THE REFERENCE: a tree stands; which way an entry goes -/
/-- the node n holds these items, and so below -/
def R_D (b : Nat) (ρ : Nat → Nat) (x : Nat) (M : g_M) : (h : Nat) → Nat → List (N_i V_W h) → Prop
  | 0, n, l => n < 600 ∧ l.length ≤ 9 ∧ (∃ ps, R_no ρ x n M 1 ps ∧ R_ps ps ∧ ps.map Prod.fst = B_il (l.map (V_k 0))) ∧ ∀ y ∈ l, R_e b ρ x (V_k 0 y) M (V_e y)
  | h + 1, n, l => n < 600 ∧ l.length ≤ 9 ∧ (∃ ps, R_no ρ x n M 0 ps ∧ R_ps ps ∧ ps.map Prod.fst = B_il (l.map (V_k (h + 1))) ∧ ps.tail.map Prod.snd = B_il (V_ts h l)) ∧ (∀ y ∈ l.tail, R_e b ρ x (V_s y.1) M (V_e y.1)) ∧ ∀ y ∈ l, R_D b ρ x M h (V_n y.1) y.2
section RD
variable {m b d x : Nat} {ρ : Nat → Nat} {M M1 : g_M} {w1 w2 : Int} {dn : Nat}
theorem R_D_0 {n : Nat} {l : List (N_i V_W 0)} : R_D b ρ x M 0 n l ↔ n < 600 ∧ l.length ≤ 9 ∧ (∃ ps, R_no ρ x n M 1 ps ∧ R_ps ps ∧ ps.map Prod.fst = B_il (l.map (V_k 0))) ∧ ∀ y ∈ l, R_e b ρ x (V_k 0 y) M (V_e y) := Iff.rfl
theorem R_D_s {h n : Nat} {l : List (N_i V_W (h + 1))} : R_D b ρ x M (h + 1) n l ↔ n < 600 ∧ l.length ≤ 9 ∧ (∃ ps, R_no ρ x n M 0 ps ∧ R_ps ps ∧ ps.map Prod.fst = B_il (l.map (V_k (h + 1))) ∧ ps.tail.map Prod.snd = B_il (V_ts h l)) ∧ (∀ y ∈ l.tail, R_e b ρ x (V_s y.1) M (V_e y.1)) ∧ ∀ y ∈ l, R_D b ρ x M h (V_n y.1) y.2 := Iff.rfl
theorem R_D.lt : ∀ {h n : Nat} {l : List (N_i V_W h)}, R_D b ρ x M h n l → n < 600 := by
  intro h n l
  cases h with
  | zero => exact fun z => z.1
  | succ h => exact fun z => z.1
/-- the entries' bytes and numbers -/
def R_eA (b : Nat) (ρ : Nat → Nat) (y : Nat) (_ : Int) : Prop := y = b ∨ y = ρ 46
theorem R_e.fr {S : Nat → Int → Prop} {s : Nat} {e : I_E} (h : R_e b ρ x s M e) (f : e_fr S M M1) (hS : ∀ y q, R_eA b ρ y q → ¬ S y q) : R_e b ρ x s M1 e := by
  obtain ⟨h1, h2, h3, h4, h5, h6⟩ := h
  exact ⟨h1, b_at_keep h2 fun q _ _ => f.2.1 b q (hS b q (Or.inl rfl)), b_at_keep h3 fun q _ _ => f.2.1 b q (hS b q (Or.inl rfl)), by rw [f.2.1 (ρ 46) _ (hS _ _ (Or.inr rfl))]; exact h4, h5, h6⟩
/-- the places that tell of a node -/
def R_nd (ρ : Nat → Nat) (x n : Nat) (y : Nat) (q : Int) : Prop := R_nA ρ x n y q ∨ (y = ρ 49 ∧ q = 600 * x + n)
theorem R_no.fr {S : Nat → Int → Prop} {n : Nat} {f : Int} {ps : List (Int × Int)} (h : R_no ρ x n M f ps) (g : e_fr S M M1) (h10 : ps.length ≤ 10) (hS : ∀ y q, R_nd ρ x n y q → ¬ S y q) : R_no ρ x n M1 f ps := by
  obtain ⟨h1, h2, h3⟩ := h
  refine ⟨by rw [g.2.1 _ _ (hS _ _ (Or.inr ⟨rfl, rfl⟩))]; exact h1, by rw [g.2.1 _ _ (hS _ _ (Or.inl (Or.inr ⟨rfl, rfl⟩)))]; exact h2, h3.fr g h10 fun q q1 q2 => ⟨hS _ _ (Or.inl (Or.inl ⟨Or.inl rfl, q1, q2⟩)), hS _ _ (Or.inl (Or.inl ⟨Or.inr rfl, q1, q2⟩))⟩⟩
theorem R_ps_len {n : Nat} {f : Int} {ps : List (Int × Int)} {l : List Nat} (h : ps.map Prod.fst = B_il l) : ps.length = l.length := by
  have := congrArg List.length h
  rwa [List.length_map, B_il_len] at this
theorem R_D.fr {S : Nat → Int → Prop} (g : e_fr S M M1) (hE : ∀ y q, R_eA b ρ y q → ¬ S y q) : ∀ {h n : Nat} {l : List (N_i V_W h)}, R_D b ρ x M h n l → (∀ k ∈ V_ns h n l, ∀ y q, R_nd ρ x k y q → ¬ S y q) → R_D b ρ x M1 h n l := by
  intro h
  induction h with
  | zero =>
    intro n l hD hS
    obtain ⟨a1, a2, ⟨ps, p1, p2, p3⟩, a4⟩ := R_D_0.mp hD
    have hpl := R_ps_len (n := n) (f := 0) p3
    rw [List.length_map] at hpl
    exact R_D_0.mpr ⟨a1, a2, ⟨ps, p1.fr g (by omega) (hS n (V_ns_m 0 n l)), p2, p3⟩, fun y hy => (a4 y hy).fr g hE⟩
  | succ h ih =>
    intro n l hD hS
    obtain ⟨a1, a2, ⟨ps, p1, p2, p3, p4⟩, a4, a5⟩ := R_D_s.mp hD
    have hpl := R_ps_len (n := n) (f := 0) p3
    rw [List.length_map] at hpl
    refine R_D_s.mpr ⟨a1, a2, ⟨ps, p1.fr g (by omega) (hS n (V_ns_m (h + 1) n l)), p2, p3, p4⟩, fun y hy => (a4 y hy).fr g hE, fun y hy => ih (a5 y hy) fun k hk => hS k ?_⟩
    rw [V_ns_s]
    exact List.mem_cons_of_mem _ (List.mem_flatMap.mpr ⟨y, hy, hk⟩)
theorem R_no.child {n : Nat} {f : Int} {ps : List (Int × Int)} {A B : List Nat} {k : Nat} (h : R_no ρ x n M f ps) (hp : ps.map Prod.fst = B_il (A ++ k :: B)) : g_i M (ρ 51) (10 * (600 * x + n) + A.length) = k := by
  have h1 := h.2.2.1
  rw [hp, B_il_app, B_il_c] at h1
  have h2 := (b_cons.mp (b_app.mp h1).2).1
  rwa [B_il_len] at h2
theorem R_no.mark {n : Nat} {f : Int} {ps : List (Int × Int)} {A B : List Nat} {k : Nat} (h : R_no ρ x n M f ps) (hp : ps.tail.map Prod.snd = B_il (A ++ k :: B)) : g_i M (ρ 52) (10 * (600 * x + n) + (A.length + 1 : Nat)) = k := by
  rcases ps with _ | ⟨p, ps⟩
  · have := congrArg List.length hp
    rw [B_il_len, List.length_append, List.length_cons] at this
    exact absurd this (by show ¬ (0 = _); omega)
  · have h1 := h.2.2.2
    change ps.map Prod.snd = _ at hp
    rw [List.map_cons, hp, B_il_app, B_il_c] at h1
    have h3 := (b_cons.mp h1).2
    have h2 := (b_cons.mp (b_app.mp h3).2).1
    rw [B_il_len] at h2
    rw [show 10 * (600 * (x : Int) + n) + ((A.length + 1 : Nat) : Int) = 10 * (600 * x + n) + 1 + A.length by omega]
    exact h2
theorem e_placeIn {Q : Int → g_M → Prop} {n s : Nat} {l : List (N_i V_W 0)} {e : I_E} (hR : R_rw m b ρ M) (hx : x < 8) (hw : R_wy m x w1 w2 dn M) (hD : R_D b ρ x M 0 n l) (he : R_e b ρ x s M e) (hq : Q (N_pl (I_c w1 w2) e (l.map fun y : N_i V_W 0 => V_e y)) M) : g_Call (d + 41) 375 [.ref m, g_n x, g_n n, g_n s] M (g_qI Q) := by
  obtain ⟨a1, a2, ⟨ps, p1, p2, p3⟩, a4⟩ := R_D_0.mp hD
  have hpl := R_ps_len (n := n) (f := 0) p3
  rw [List.length_map] at hpl
  have hs := he.1
  obtain ⟨r1, r2⟩ := hR.at (k := 51) (by decide)
  have r2 : g_A M (ρ 51) 1 48000 := r2
  have hlp : ∀ (B A : List (N_i V_W 0)), l = A ++ B → A.length + N_pl (I_c w1 w2) e (B.map fun y : N_i V_W 0 => V_e y) = N_pl (I_c w1 w2) e (l.map fun y : N_i V_W 0 => V_e y) → g_Run (d + 40) 375 3 [(0, .ref m), (1, g_n x), (2, g_n n), (3, g_n s), (4, g_n A.length)] [] M (g_qI Q) := by
    intro B
    induction B with
    | nil =>
      intro A hl hA
      rw [List.append_nil] at hl
      have hll := congrArg List.length hl
      refine s_X12_placeIn_3 ⟨by omega, by omega⟩ ⟨by omega, by omega⟩ ⟨by omega, by omega⟩ ⟨by omega, by omega⟩ fun _ => ⟨hR.1.1, e_sizeOf (d := d + 39) hR hx a1 ?_⟩
      intro _ _ _
      rw [p1.2.1, hpl]
      refine ⟨fun z => absurd z (by omega), fun _ => ?_⟩
      rw [← hA] at hq
      exact hq
    | cons y B ih =>
      intro A hl hA
      have hll := congrArg List.length hl
      rw [List.length_append, List.length_cons] at hll
      have hye := a4 y (by rw [hl]; simp)
      have hys := hye.1
      have hch : g_i M (ρ 51) (10 * (600 * x + n) + A.length) = (V_k 0 y : Nat) := by
        have h9 := p1.child (A := A.map (V_k 0)) (B := B.map (V_k 0)) (k := V_k 0 y) (by
          rw [p3, hl]
          congr 1
          exact List.map_append)
        rwa [List.length_map] at h9
      have hpls : N_pl (I_c w1 w2) e ((y :: B).map fun y : N_i V_W 0 => V_e y) = if I_c w1 w2 (V_e y) e < 0 then N_pl (I_c w1 w2) e (B.map fun y : N_i V_W 0 => V_e y) + 1 else 0 := rfl
      rw [hpls] at hA
      refine s_X12_placeIn_3 ⟨by omega, by omega⟩ ⟨by omega, by omega⟩ ⟨by omega, by omega⟩ ⟨by omega, by omega⟩ fun _ => ⟨hR.1.1, e_sizeOf (d := d + 39) hR hx a1 ?_⟩
      intro _ _ _
      rw [p1.2.1, hpl]
      refine ⟨fun _ => ⟨ρ 51, r1, e_slot (d := d + 39) hx a1 (by omega) (by omega) ?_⟩, fun z => absurd (by omega) z⟩
      intro _ _ _
      refine ⟨48000, r2, ⟨by omega, by omega⟩, ?_⟩
      rw [hch]
      refine e_order (d := d + 1) hR hx hw hye he fun r hr1 hr2 => ?_
      intro _ _ _
      refine ⟨fun g => ⟨⟨by omega, by omega⟩, ?_⟩, fun g => ?_⟩
      · have hc := hr1.mp g
        rw [if_pos hc] at hA
        have h9 := ih (A ++ [y]) (by rw [hl]; simp) (by rw [List.length_append, List.length_singleton, ← hA]; omega)
        rwa [show ((A ++ [y]).length : Int) = (A.length : Int) + 1 by rw [List.length_append, List.length_singleton]; omega] at h9
      · have hc : ¬ I_c w1 w2 (V_e y) e < 0 := fun z => g (hr1.mpr z)
        rw [if_neg hc] at hA
        rw [← hA] at hq
        exact hq
  refine m_X12_placeIn ⟨by omega, by omega⟩ ⟨by omega, by omega⟩ ⟨by omega, by omega⟩ fun _ => ?_
  exact hlp l [] rfl (by rw [List.length_nil, Nat.zero_add])
theorem e_downTo {Q : Int → g_M → Prop} {h n s : Nat} {l : List (N_i V_W (h + 1))} {e : I_E} (hR : R_rw m b ρ M) (hx : x < 8) (hw : R_wy m x w1 w2 dn M) (hD : R_D b ρ x M (h + 1) n l) (hne : l ≠ []) (he : R_e b ρ x s M e) (hq : Q (N_dm (I_c w1 w2) e (l.tail.map fun y : N_i V_W (h + 1) => V_e y.1)) M) : g_Call (d + 41) 374 [.ref m, g_n x, g_n n, g_n s] M (g_qI Q) := by
  obtain ⟨a1, a2, ⟨ps, p1, p2, p3, p4⟩, a4, a5⟩ := R_D_s.mp hD
  have hpl := R_ps_len (n := n) (f := 0) p3
  rw [List.length_map] at hpl
  have hs := he.1
  obtain ⟨r1, r2⟩ := hR.at (k := 52) (by decide)
  have r2 : g_A M (ρ 52) 1 48000 := r2
  have hlt : l.tail.length + 1 = l.length := by
    rw [List.length_tail]
    have := List.length_pos_iff.mpr hne
    omega
  have hlp : ∀ (B A : List (N_i V_W (h + 1))), l.tail = A ++ B → A.length + N_dm (I_c w1 w2) e (B.map fun y : N_i V_W (h + 1) => V_e y.1) = N_dm (I_c w1 w2) e (l.tail.map fun y : N_i V_W (h + 1) => V_e y.1) → g_Run (d + 40) 374 3 [(0, .ref m), (1, g_n x), (2, g_n n), (3, g_n s), (4, g_n A.length)] [] M (g_qI Q) := by
    intro B
    induction B with
    | nil =>
      intro A hl hA
      rw [List.append_nil] at hl
      have hll := congrArg List.length hl
      refine s_X12_downTo_3 ⟨by omega, by omega⟩ ⟨by omega, by omega⟩ ⟨by omega, by omega⟩ ⟨by omega, by omega⟩ fun _ => ⟨⟨by omega, by omega⟩, hR.1.1, e_sizeOf (d := d + 39) hR hx a1 ?_⟩
      intro _ _ _
      rw [p1.2.1, hpl]
      refine ⟨fun z => absurd z (by omega), fun _ => ?_⟩
      rw [← hA] at hq
      exact hq
    | cons y B ih =>
      intro A hl hA
      have hll := congrArg List.length hl
      rw [List.length_append, List.length_cons] at hll
      have hye := a4 y (by rw [hl]; simp)
      have hys := hye.1
      have hmk : g_i M (ρ 52) (10 * (600 * x + n) + (A.length + 1 : Nat)) = (V_s y.1 : Nat) := by
        have h9 := p1.mark (A := A.map fun y => V_s y.1) (B := B.map fun y => V_s y.1) (k := V_s y.1) (by
          rw [p4]
          unfold V_ts
          rw [hl]
          congr 1
          exact List.map_append)
        rwa [List.length_map] at h9
      have hpls : N_dm (I_c w1 w2) e ((y :: B).map fun y : N_i V_W (h + 1) => V_e y.1) = if I_c w1 w2 (V_e y.1) e ≤ 0 then N_dm (I_c w1 w2) e (B.map fun y : N_i V_W (h + 1) => V_e y.1) + 1 else 0 := rfl
      rw [hpls] at hA
      refine s_X12_downTo_3 ⟨by omega, by omega⟩ ⟨by omega, by omega⟩ ⟨by omega, by omega⟩ ⟨by omega, by omega⟩ fun _ => ⟨⟨by omega, by omega⟩, hR.1.1, e_sizeOf (d := d + 39) hR hx a1 ?_⟩
      intro _ _ _
      rw [p1.2.1, hpl]
      refine ⟨fun _ => ⟨ρ 52, r1, ⟨by omega, by omega⟩, e_slot (d := d + 39) hx a1 (by omega) (by omega) ?_⟩, fun z => absurd (by omega) z⟩
      intro _ _ _
      refine ⟨48000, r2, ⟨by omega, by omega⟩, ?_⟩
      rw [show ((A.length : Nat) : Int) + 1 = ((A.length + 1 : Nat) : Int) by omega, hmk]
      refine e_order (d := d + 1) hR hx hw hye he fun r hr1 hr2 => ?_
      intro _ _ _
      refine ⟨fun g => ?_, fun g => ⟨⟨by omega, by omega⟩, ?_⟩⟩
      · have hc : ¬ I_c w1 w2 (V_e y.1) e ≤ 0 := fun z => by
          have := hr2.mp g
          omega
        rw [if_neg hc] at hA
        rw [← hA] at hq
        exact hq
      · have hc : I_c w1 w2 (V_e y.1) e ≤ 0 := by
          by_cases z : 0 < I_c w1 w2 (V_e y.1) e
          · exact absurd (hr2.mpr z) g
          · omega
        rw [if_pos hc] at hA
        have h9 := ih (A ++ [y]) (by rw [hl]; simp) (by rw [List.length_append, List.length_singleton, ← hA]; omega)
        rwa [show ((A ++ [y]).length : Int) = ((A.length + 1 : Nat) : Int) by rw [List.length_append, List.length_singleton]] at h9
  refine m_X12_downTo ⟨by omega, by omega⟩ ⟨by omega, by omega⟩ ⟨by omega, by omega⟩ fun _ => ?_
  exact hlp l.tail [] rfl (by rw [List.length_nil, Nat.zero_add])
end RD
