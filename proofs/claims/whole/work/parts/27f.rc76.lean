/-! TREES OF THE REFERENCE: the split, the method's end -/
section RC76
variable {m b d x : Nat} {ρ : Nat → Nat} {M : g_M}
theorem R_C.A {k : Nat} {A : Nat → Prop} (h : A k) {y : Nat} {q : Int} (g : R_nA ρ x k y q) : R_C m ρ x A y q := Or.inl ⟨k, h, Or.inl g⟩
theorem R_C.N {k : Nat} {A : Nat → Prop} (h : A k) {y : Nat} {q : Int} (g : R_nN ρ x k y q) : R_C m ρ x A y q := Or.inl ⟨k, h, Or.inr g⟩
theorem R_mk_split {h : Nat} {L4 Lr : List (N_i V_W h)} {z0 : N_i V_W h} {P4 Pr : List (Int × Int)} {p : Int × Int} (hl : P4.length = L4.length) (h4 : 0 < L4.length) (g : R_mk h (L4 ++ z0 :: Lr) (P4 ++ p :: Pr)) : R_mk h L4 P4 ∧ R_mk h (z0 :: Lr) (p :: Pr) ∧ (0 < h → p.2 = (V_s (V_mi h z0) : Nat)) := by
  cases h with
  | zero => exact ⟨trivial, trivial, fun z => absurd z (Nat.lt_irrefl 0)⟩
  | succ h =>
    rcases L4 with _ | ⟨a, L4⟩
    · exact absurd h4 (Nat.lt_irrefl 0)
    rcases P4 with _ | ⟨p4, P4⟩
    · rw [List.length_nil, List.length_cons] at hl
      omega
    have g : (P4 ++ p :: Pr).map Prod.snd = B_il ((L4 ++ z0 :: Lr).map fun y => V_s y.1) := g
    rw [List.map_append, List.map_append, B_il_app, List.map_cons, List.map_cons, B_il_c] at g
    have hll : P4.length = L4.length := by
      rw [List.length_cons, List.length_cons] at hl
      omega
    obtain ⟨g1, g2⟩ := List.append_inj g (by rw [List.length_map, B_il_len, List.length_map, hll])
    obtain ⟨g3, g4⟩ := List.cons.inj g2
    exact ⟨g1, g4, fun _ => g3⟩
theorem e_c76 {Q : Int → g_M → Prop} {h n s : Nat} {us : List Nat} {L : List (N_i V_W h)} (hR : R_rw m b ρ M) (hx : x < 8) (hD : R_D b ρ x M h n L) (hnd : (V_ns h n L).Nodup) (hin : ∀ k ∈ V_ns h n L, k ∈ us) (hus : R_us ρ x M us) (hul : us.length < 600) (hs : s < 1500) (hq0 : L.length ≤ 8 → Q 0 M) (hq1 : ∀ M1 k L4 z0 Lr, L = L4 ++ z0 :: Lr → L4.length = 4 → 8 < L.length → k ∉ us → k < 600 → e_fr (R_C m ρ x (fun j => j = n ∨ j = k)) M M1 → R_D b ρ x M1 h n L4 → R_D b ρ x M1 h k (z0 :: Lr) → R_us ρ x M1 (k :: us) → R_e b ρ x (V_s (V_mi h z0)) M1 (V_e (V_mi h z0)) → g_i M1 m 55 = k → g_i M1 m 56 = (V_s (V_mi h z0) : Nat) → Q 1 M1) : g_Run (d + 43) 377 76 [(0, .ref m), (1, g_n x), (2, g_n n), (3, g_n s)] [] M (g_qI Q) := by
  obtain ⟨a1, a2, ⟨ps, p1, p2, p3, p4⟩, a4⟩ := R_D_u.mp hD
  have hpl := R_ps_len (n := n) (f := 0) p3
  rw [List.length_map] at hpl
  refine s_X12_comes_76 ⟨by omega, by omega⟩ ⟨by omega, by omega⟩ ⟨by omega, by omega⟩ fun _ => ⟨hR.1.1, e_sizeOf (d := d + 42) hR hx a1 ?_⟩
  intro _ _ _
  rw [p1.2.1, hpl]
  refine ⟨fun g8 => ?_, fun g8 => hq0 (by omega)⟩
  have hf01 : (if h = 0 then (1 : Int) else 0) = 0 ∨ (if h = 0 then (1 : Int) else 0) = 1 := by
    split
    · exact Or.inr rfl
    · exact Or.inl rfl
  obtain ⟨f, hf⟩ : ∃ f : Int, f = if h = 0 then 1 else 0 := ⟨_, rfl⟩
  rw [← hf] at hf01 p1
  refine e_isLeafN (d := d + 42) hR hx a1 (by rw [p1.1]; exact hf01) ?_
  intro _ _ _
  rw [p1.1]
  refine e_newNode (d := d + 41) hR hx hf01 (hus.free hul) fun k M12 hk hk0 f12 hk1 hno => ?_
  intro _ _ _
  have hku : k ∉ us := fun z => by
    rw [hus.1 k hk, if_pos z] at hk0
    exact absurd hk0 (by decide)
  have hnu : n ∈ us := hin n (V_ns_m h n L)
  have hnk : n ≠ k := fun z => hku (z ▸ hnu)
  have F12 : e_fr (R_C m ρ x (fun j => j = n ∨ j = k)) M M12 := f12.up fun y q z => R_C.N (Or.inr rfl) z
  have F12' : e_fr (R_C m ρ x (fun j => j = k)) M M12 := f12.up fun y q z => R_C.N (A := fun j => j = k) rfl z
  have hR12 := hR.fr f12
  have hus12 := hus.nN hk hku f12 hk1
  have hnoN : ∀ {M2 : g_M}, e_fr (R_C m ρ x (fun j => j = k)) M M2 → R_no ρ x n M2 f ps := fun g => p1.fr g (by omega) fun y q z => R_C_av (A := fun j => j = k) hR hnk z
  refine e_sizeOf (d := d + 42) hR12 hx a1 ?_
  intro _ _ _
  rw [(hnoN F12').2.1, hpl]
  -- its four and the rest
  obtain ⟨L4, z0, Lr, hL, hL4⟩ : ∃ L4 z0 Lr, L = L4 ++ z0 :: Lr ∧ L4.length = 4 := by
    have hd4 : L.drop 4 ≠ [] := fun z => by
      have := List.drop_eq_nil_iff.mp z
      omega
    obtain ⟨z0, Lr, hz⟩ := List.exists_cons_of_ne_nil hd4
    exact ⟨L.take 4, z0, Lr, by rw [← hz, List.take_append_drop], by rw [List.length_take]; omega⟩
  obtain ⟨P4, p0, Pr, hP, hP4⟩ : ∃ P4 p0 Pr, ps = P4 ++ p0 :: Pr ∧ P4.length = 4 := by
    have hd4 : ps.drop 4 ≠ [] := fun z => by
      have := List.drop_eq_nil_iff.mp z
      omega
    obtain ⟨z0, Lr, hz⟩ := List.exists_cons_of_ne_nil hd4
    exact ⟨ps.take 4, z0, Lr, by rw [← hz, List.take_append_drop], by rw [List.length_take]; omega⟩
  rw [hL, hP] at p4
  obtain ⟨m1, m2, m3⟩ := R_mk_split (by rw [hP4, hL4]) (by omega) p4
  have hfst : P4.map Prod.fst = B_il (L4.map (V_k h)) ∧ (p0 :: Pr).map Prod.fst = B_il ((z0 :: Lr).map (V_k h)) := by
    rw [hL, hP, List.map_append, List.map_append, B_il_app] at p3
    exact List.append_inj p3 (by rw [List.length_map, B_il_len, List.length_map, hP4, hL4])
  have hnb : V_nb h L = V_nb h L4 ++ V_nb h (z0 :: Lr) := by rw [hL, V_nb_app]
  have hbl : ∀ {M2 : g_M}, e_fr (R_C m ρ x (fun j => j = n ∨ j = k)) M M2 → R_bl b ρ x M2 h L := fun g => a4.fr g (fun y q z => R_C_eA hR z) fun j hj y q z => R_C_av (A := fun j => j = n ∨ j = k) hR (fun z2 => by
    have hjm : j ∈ V_ns h n L := by rw [V_ns_b]; exact List.mem_cons_of_mem _ hj
    rcases z2 with z2 | z2
    · rw [V_ns_b] at hnd
      exact (List.nodup_cons.mp hnd).1 (z2 ▸ hj)
    · exact hku (z2 ▸ hin j hjm)) z
  -- the rest goes over
  have hlp : ∀ (Q2 Q1 : List (Int × Int)) (M2 : g_M), p0 :: Pr = Q1 ++ Q2 → e_fr (R_C m ρ x (fun j => j = k)) M M2 → R_no ρ x k M2 f Q1 → R_us ρ x M2 (k :: us) → g_Run (d + 43) 377 113 [(0, .ref m), (1, g_n x), (2, g_n n), (3, g_n s), (4, g_n k), (5, g_n L.length), (6, g_n ((4 + Q1.length : Nat) : Int))] [] M2 (g_qI Q) := by
    intro Q2
    induction Q2 with
    | nil =>
      intro Q1 M2 hQ f2 hno2 hus2
      rw [List.append_nil] at hQ
      rw [← hQ] at hno2
      have hR2 := hR.fr f2
      have hQl := congrArg List.length hQ
      rw [List.length_cons] at hQl
      have hpsl := congrArg List.length hP
      rw [List.length_append, List.length_cons] at hpsl
      refine s_X12_comes_113 ⟨by omega, by omega⟩ ⟨by omega, by omega⟩ ⟨by omega, by omega⟩ ⟨by omega, by omega⟩ ⟨by omega, by omega⟩ ⟨by omega, by omega⟩ fun _ => ⟨fun z => absurd z (by omega), fun _ => ⟨hR2.1.1, e_setSize (d := d + 42) hR2 hx a1 ⟨by decide, by decide⟩ ?_⟩⟩
      intro _ _
      intro M5 e5 _
      have hno2n := hnoN f2
      have n50 := hR.ne (k := 50) (k2 := 51) (by decide) (by decide) (by decide)
      have n502 := hR.ne (k := 50) (k2 := 52) (by decide) (by decide) (by decide)
      have n495 := hR.ne (k := 49) (k2 := 50) (by decide) (by decide) (by decide)
      have hmr : ∀ {i : Nat}, i ∈ R_fs → ρ i ≠ m := fun hi => hR.nm hi
      have f4 : e_fr (R_C m ρ x (fun j => j = n)) M2 (g_wi M2 (ρ 50) (600 * x + n) 4) := e_fr.wi _ (R_C.A (A := fun j => j = n) (k := n) rfl (Or.inr ⟨rfl, rfl⟩))
      have f5 : e_fr (R_C m ρ x (fun j => j = n)) M2 M5 := f4.tr (by
        rw [e5]
        exact e_fr.wi _ (Or.inr ⟨rfl, Or.inl rfl⟩))
      have hwi : ∀ y q, y ≠ m → (y ≠ ρ 50 ∨ q ≠ 600 * (x : Int) + n) → g_i M5 y q = g_i M2 y q := fun y q h1 h2 => by
        rw [e5, g_i_wi, if_neg (fun z => h1 z.1), g_i_wi, if_neg (fun z => h2.elim (fun h2 => h2 z.1) fun h2 => h2 z.2)]
      have hnoN5 : R_no ρ x n M5 f P4 := by
        refine ⟨?_, ?_, ?_, ?_⟩
        · rw [hwi _ _ (hmr (by decide)) (Or.inl n495)]
          exact hno2n.1
        · rw [e5, g_i_wi, if_neg (fun z => hmr (i := 50) (by decide) z.1), g_i_wi, if_pos ⟨rfl, rfl⟩, hP4]
          rfl
        · have h9 := hno2n.2.2.1
          rw [hP, List.map_append] at h9
          exact b_at_keep (b_app.mp h9).1 fun q _ _ => hwi _ _ (hmr (by decide)) (Or.inl n50.symm)
        · have h9 := hno2n.2.2.2
          rw [hP, List.map_append] at h9
          exact b_at_keep (b_app.mp h9).1 fun q _ _ => hwi _ _ (hmr (by decide)) (Or.inl n502.symm)
      have hnoK5 : R_no ρ x k M5 f (p0 :: Pr) := hno2.fr f5 (by rw [List.length_cons]; omega) fun y q z => R_C_av (A := fun j => j = n) hR (fun z2 => hnk z2.symm) z
      have hR5 := hR2.fr f5
      have hus5 : R_us ρ x M5 (k :: us) := by
        refine ⟨fun j hj => ?_, hus2.2⟩
        rw [hwi _ _ (hmr (by decide)) (Or.inl (hR.ne (k := 48) (k2 := 50) (by decide) (by decide) (by decide)))]
        exact hus2.1 j hj
      have F5 : e_fr (R_C m ρ x (fun j => j = n ∨ j = k)) M M5 := (f2.up fun y q z => by
        rcases z with ⟨k', hk', z⟩ | z
        · exact Or.inl ⟨k', Or.inr hk', z⟩
        · exact Or.inr z).tr (f5.up fun y q z => by
        rcases z with ⟨k', hk', z⟩ | z
        · exact Or.inl ⟨k', Or.inl hk', z⟩
        · exact Or.inr z)
      have h55 : g_i M5 m 55 = k := by rw [e5, g_i_wi, if_pos ⟨rfl, rfl⟩]
      -- the mark told
      have hfin : ∀ M6, M6 = g_wi M5 m 56 (V_s (V_mi h z0) : Nat) → Q 1 M6 := by
        intro M6 e6
        have f6 : e_fr (R_C m ρ x (fun _ => False)) M5 M6 := by
          rw [e6]
          exact e_fr.wi _ (Or.inr ⟨rfl, Or.inr rfl⟩)
        have hav : ∀ (j : Nat) y q, R_nd ρ x j y q → ¬ R_C m ρ x (fun _ => False) y q := fun j y q z => R_C_av (A := fun _ => False) hR (fun z2 => z2) z
        have F6 : e_fr (R_C m ρ x (fun j => j = n ∨ j = k)) M M6 := F5.tr (f6.up fun y q z => by
          rcases z with ⟨k', hk', z⟩ | z
          · exact hk'.elim
          · exact Or.inr z)
        have hbl6 := hbl F6
        have hb4 : R_bl b ρ x M6 h L4 := hbl6.sub (fun y hy => by rw [hL]; exact List.mem_append_left _ hy) fun y hy => by
          rw [hL]
          rcases L4 with _ | ⟨a, L4⟩
          · exact absurd hy (by simp)
          · exact List.mem_append_left _ hy
        have htl : ∀ y ∈ z0 :: Lr, y ∈ L.tail := fun y hy => by
          rw [hL]
          rcases L4 with _ | ⟨a, L4⟩
          · rw [List.length_nil] at hL4
            omega
          · exact List.mem_append_right _ hy
        have hbr : R_bl b ρ x M6 h (z0 :: Lr) := hbl6.sub (fun y hy => by rw [hL]; exact List.mem_append_right _ hy) fun y hy => htl y (List.mem_cons_of_mem _ hy)
        have hLl := congrArg List.length hL
        rw [List.length_append, List.length_cons] at hLl
        have hmR : R_e b ρ x (V_s (V_mi h z0)) M6 (V_e (V_mi h z0)) := by
          cases h with
          | zero => exact hbl6 z0 (by rw [hL]; simp)
          | succ h => exact hbl6.1 z0 (htl z0 List.mem_cons_self)
        refine hq1 M6 k L4 z0 Lr hL hL4 (by omega) hku hk F6 (R_D_u.mpr ⟨a1, by omega, ⟨P4, ?_, fun y hy => p2 y (by rw [hP]; exact List.mem_append_left _ hy), hfst.1, m1⟩, hb4⟩) (R_D_u.mpr ⟨hk, by rw [List.length_cons]; omega, ⟨p0 :: Pr, ?_, fun y hy => p2 y (by rw [hP]; exact List.mem_append_right _ hy), hfst.2, m2⟩, hbr⟩) ?_ hmR ?_ ?_
        · rw [← hf]
          exact hnoN5.fr f6 (by omega) (hav n)
        · rw [← hf]
          exact hnoK5.fr f6 (by rw [List.length_cons]; omega) (hav k)
        · refine ⟨fun j hj => ?_, hus5.2⟩
          rw [e6, g_i_wi, if_neg (fun z => hmr (i := 48) (by decide) z.1)]
          exact hus5.1 j hj
        · rw [e6, g_i_wi, if_neg (fun z => absurd z.2 (by decide))]
          exact h55
        · rw [e6, g_i_wi, if_pos ⟨rfl, rfl⟩]
      refine e_isLeafN (d := d + 42) hR5 hx a1 (by rw [hnoN5.1]; exact hf01) ?_
      intro _ _ _
      rw [hnoN5.1]
      have hget := R_at.get (X := []) (Y := Pr) (v := p0) hnoK5.2.2
      have hcast : ((([] : List (Int × Int)).length : Nat) : Int) = 0 := rfl
      rw [hcast] at hget
      have hp0 : p0.1 = (V_k h z0 : Nat) := by
        have := hfst.2
        rw [List.map_cons, List.map_cons, B_il_c] at this
        exact (List.cons.inj this).1
      refine ⟨fun z => ?_, fun z => ?_⟩
      · obtain ⟨r1, r2⟩ := hR5.at (k := 52) (by decide)
        have r2 : g_A M5 (ρ 52) 1 48000 := r2
        have hh : 0 < h := by
          rcases Nat.eq_zero_or_pos h with h0 | h0
          · rw [hf, if_pos h0] at z
            exact absurd z (by decide)
          · exact h0
        refine ⟨ρ 52, r1, e_slot (d := d + 42) hx hk (by decide) (by decide) ?_⟩
        intro _ _ _
        refine ⟨48000, r2, ⟨by omega, by omega⟩, ?_⟩
        rw [hget.2, m3 hh]
        exact fun M6 e6 _ => hfin M6 e6
      · obtain ⟨r1, r2⟩ := hR5.at (k := 51) (by decide)
        have r2 : g_A M5 (ρ 51) 1 48000 := r2
        have hh : h = 0 := by
          rcases Nat.eq_zero_or_pos h with h0 | h0
          · exact h0
          · rw [hf, if_neg (by omega)] at z
            exact absurd rfl z
        refine ⟨ρ 51, r1, e_slot (d := d + 42) hx hk (by decide) (by decide) ?_⟩
        intro _ _ _
        refine ⟨48000, r2, ⟨by omega, by omega⟩, ?_⟩
        have hvk : V_k h z0 = V_s (V_mi h z0) := by
          subst hh
          rfl
        rw [hget.1, hp0, hvk]
        exact fun M6 e6 _ => hfin M6 e6
    | cons p Q2 ih =>
      intro Q1 M2 hQ f2 hno2 hus2
      have hR2 := hR.fr f2
      have hQl := congrArg List.length hQ
      rw [List.length_cons, List.length_append, List.length_cons] at hQl
      have hpsl := congrArg List.length hP
      rw [List.length_append, List.length_cons] at hpsl
      have hpp : ps = (P4 ++ Q1) ++ p :: Q2 := by rw [hP, hQ]; simp
      have hg := (hnoN f2).2.2
      rw [hpp] at hg
      obtain ⟨y1, y2⟩ := hg.get
      have hXl : ((P4 ++ Q1).length : Int) = ((4 + Q1.length : Nat) : Int) := by rw [List.length_append, hP4]
      rw [hXl] at y1 y2
      have hpR := p2 p (by rw [hpp]; simp)
      obtain ⟨r1, r2⟩ := hR2.at (k := 51) (by decide)
      have r2 : g_A M2 (ρ 51) 1 48000 := r2
      obtain ⟨s1, s2⟩ := hR2.at (k := 52) (by decide)
      have s2 : g_A M2 (ρ 52) 1 48000 := s2
      refine s_X12_comes_113 ⟨by omega, by omega⟩ ⟨by omega, by omega⟩ ⟨by omega, by omega⟩ ⟨by omega, by omega⟩ ⟨by omega, by omega⟩ ⟨by omega, by omega⟩ fun _ => ⟨fun _ => ⟨⟨by omega, by omega⟩, hR2.1.1, ρ 51, r1, e_slot (d := d + 42) hx a1 (by omega) (by omega) ?_⟩, fun z => absurd (by omega) z⟩
      intro _ _ _
      refine ⟨48000, r2, ⟨by omega, by omega⟩, ρ 52, s1, e_slot (d := d + 42) hx a1 (by omega) (by omega) ?_⟩
      intro _ _ _
      refine ⟨48000, s2, ⟨by omega, by omega⟩, ?_⟩
      rw [y1, y2, show ((4 + Q1.length : Nat) : Int) - 4 = ((Q1.length : Nat) : Int) by omega]
      refine e_insertAt (d := d + 41) (A := Q1) (B := []) (v := p.1) (w := p.2) hR2 hx hk (by rw [List.append_nil]; exact hno2) (by rw [List.append_nil]; omega) hpR.1 hpR.2 (fun y hy => p2 y (by rw [hP, hQ]; rw [List.append_nil] at hy; simp [hy])) fun M64 f64 hno64 => ?_
      intro _ _
      refine ⟨⟨by omega, by omega⟩, ?_⟩
      have h9 := ih (Q1 ++ [p]) M64 (by rw [hQ]; simp) (f2.tr (f64.up fun y q z => R_C.A (A := fun j => j = k) rfl z)) hno64 (hus2.nA (A := fun j => j = k) hR2 (f64.up fun y q z => ⟨k, rfl, z⟩))
      rwa [show ((4 + (Q1 ++ [p]).length : Nat) : Int) = ((4 + Q1.length : Nat) : Int) + 1 by rw [List.length_append, List.length_singleton]; omega] at h9
  have h9 := hlp (p0 :: Pr) [] M12 rfl F12' hno hus12
  exact h9
end RC76
