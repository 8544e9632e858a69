/-! TREES OF THE REFERENCE: an entry goes from below a node -/
section RGOES
variable {m b x : Nat} {ρ : Nat → Nat} {w1 w2 : Int} {dn : Nat}
theorem R_D.size {M : g_M} {h n : Nat} {l : List (N_i V_W h)} (hD : R_D b ρ x M h n l) : g_i M (ρ 50) (600 * x + n) = l.length := by
  obtain ⟨a1, a2, ⟨ps, p1, p2, p3, p4⟩, a4⟩ := R_D_u.mp hD
  have := R_ps_len (n := n) (f := 0) p3
  rw [List.length_map] at this
  rw [p1.2.1, this]
theorem R_D.ch {M : g_M} {h n : Nat} {A B : List (N_i V_W (h + 1))} {w : N_i V_W (h + 1)} (hD : R_D b ρ x M (h + 1) n (A ++ w :: B)) : g_i M (ρ 51) (10 * (600 * x + n) + A.length) = (V_n w.1 : Nat) := by
  obtain ⟨a1, a2, ⟨ps, p1, p2, p3, p4⟩, a4⟩ := R_D_u.mp hD
  rw [List.map_append, List.map_cons] at p3
  have := p1.child p3
  rw [List.length_map] at this
  exact this
theorem R_D.one {M M1 : g_M} (hR : R_rw m b ρ M) {h n : Nat} {A B : List (N_i V_W (h + 1))} {y y2 : N_i V_W (h + 1)} (hD : R_D b ρ x M (h + 1) n (A ++ y :: B)) (hnd : (V_ns (h + 1) n (A ++ y :: B)).Nodup) (f : e_fr (R_C m ρ x (fun k => k ∈ V_ns h (V_n y.1) y.2)) M M1) (hy : y2.1 = y.1) (hC : R_D b ρ x M1 h (V_n y.1) y2.2) : R_D b ρ x M1 (h + 1) n (A ++ y2 :: B) := by
  obtain ⟨a1, a2, ⟨ps, p1, p2, p3, p4⟩, a4, a5⟩ := R_D_s.mp hD
  have hpl := R_ps_len (n := n) (f := 0) p3
  rw [List.length_map] at hpl
  have hns : V_ns (h + 1) n (A ++ y :: B) = n :: (V_nb (h + 1) A ++ (V_ns h (V_n y.1) y.2 ++ V_nb (h + 1) B)) := by
    rw [V_ns_b, V_nb_app]
    rfl
  rw [hns] at hnd
  obtain ⟨n1, n2⟩ := List.nodup_cons.mp hnd
  obtain ⟨n3, n4, n5⟩ := List.nodup_append.mp n2
  obtain ⟨n6, n7, n8⟩ := List.nodup_append.mp n4
  have htl : ∀ w ∈ (A ++ y2 :: B).tail, w ∈ (A ++ y :: B).tail ∨ (w = y2 ∧ y ∈ (A ++ y :: B).tail) := fun w hw => by
    cases A with
    | nil => exact Or.inl hw
    | cons a A =>
      rcases List.mem_append.mp (show w ∈ A ++ y2 :: B from hw) with g | g
      · exact Or.inl (List.mem_append_left _ g)
      · rcases List.mem_cons.mp g with g | g
        · exact Or.inr ⟨g, List.mem_append_right _ List.mem_cons_self⟩
        · exact Or.inl (List.mem_append_right _ (List.mem_cons_of_mem _ g))
  refine R_D_s.mpr ⟨a1, by rw [List.length_append, List.length_cons] at a2 ⊢; exact a2, ⟨ps, p1.fr f (by omega) fun q q2 z => R_C_av (A := fun k => k ∈ V_ns h (V_n y.1) y.2) hR (fun g => n1 (List.mem_append_right _ (List.mem_append_left _ g))) z, p2, ?_, ?_⟩, fun w hw => ?_, fun w hw => ?_⟩
  · have : V_k (h + 1) y2 = V_k (h + 1) y := by
      show V_n y2.1 = V_n y.1
      rw [hy]
    rw [p3, List.map_append, List.map_append, List.map_cons, List.map_cons, this]
  · rw [p4]
    unfold V_ts
    cases A with
    | nil => rfl
    | cons a A =>
      show B_il ((A ++ y :: B).map _) = B_il ((A ++ y2 :: B).map _)
      rw [List.map_append, List.map_append, List.map_cons, List.map_cons, hy]
  · rcases htl w hw with g | ⟨g, g2⟩
    · exact (a4 w g).fr f fun q q2 z => R_C_eA hR z
    · rw [g, hy]
      exact (a4 y g2).fr f fun q q2 z => R_C_eA hR z
  · have hav : ∀ w, w ∈ A ++ y :: B → (∀ j ∈ V_ns h (V_n w.1) w.2, j ∉ V_ns h (V_n y.1) y.2) → R_D b ρ x M1 h (V_n w.1) w.2 := fun w hw hj => (a5 w hw).fr f (fun q q2 z => R_C_eA hR z) fun j hj2 q q2 z => R_C_av (A := fun k => k ∈ V_ns h (V_n y.1) y.2) hR (hj j hj2) z
    rcases List.mem_append.mp hw with g | g
    · exact hav w (List.mem_append_left _ g) fun j hj z => n5 j (List.mem_flatMap.mpr ⟨w, g, hj⟩) j (List.mem_append_left _ z) rfl
    · rcases List.mem_cons.mp g with g | g
      · rw [g, hy]
        exact hC
      · exact hav w (List.mem_append_right _ (List.mem_cons_of_mem _ g)) fun j hj z => n8 j z j (List.mem_flatMap.mpr ⟨w, g, hj⟩) rfl
theorem V_us_one {h : Nat} {A B : List (N_i V_W (h + 1))} {y y2 : N_i V_W (h + 1)} (hy : y2.1 = y.1) (hU : ∀ i ∈ V_us h y2.2, i ∈ V_us h y.2) : ∀ i ∈ V_us (h + 1) (A ++ y2 :: B), i ∈ V_us (h + 1) (A ++ y :: B) := by
  intro i hi
  rw [V_us_s] at hi ⊢
  rcases List.mem_append.mp hi with hi | hi
  · refine List.mem_append_left _ ?_
    have : V_ts h (A ++ y2 :: B) = V_ts h (A ++ y :: B) := by
      unfold V_ts
      cases A with
      | nil => rfl
      | cons a A =>
        show (A ++ y2 :: B).map _ = (A ++ y :: B).map _
        rw [List.map_append, List.map_append, List.map_cons, List.map_cons, hy]
    rw [← this]
    exact hi
  · obtain ⟨w, hw, hi⟩ := List.mem_flatMap.mp hi
    refine List.mem_append_right _ (List.mem_flatMap.mpr ?_)
    rcases List.mem_append.mp hw with g | g
    · exact ⟨w, List.mem_append_left _ g, hi⟩
    · rcases List.mem_cons.mp g with g | g
      · exact ⟨y, by simp, hU i (by rw [← g]; exact hi)⟩
      · exact ⟨w, List.mem_append_right _ (List.mem_cons_of_mem _ g), hi⟩
/-- a child with too few is mended -/
theorem e_mend {d h n s k : Nat} {us : List Nat} {A B : List (N_i V_W (h + 1))} {y : N_i V_W (h + 1)} {M : g_M} {Q : g_M → Prop} (hR : R_rw m b ρ M) (hx : x < 8) (hs : s < 1500) (hk : k = A.length) (hD : R_D b ρ x M (h + 1) n (A ++ y :: B)) (hnd : (V_ns (h + 1) n (A ++ y :: B)).Nodup) (hin : ∀ k ∈ V_ns (h + 1) n (A ++ y :: B), k ∈ us) (hus : R_us ρ x M us) (hy3 : y.2.length = 3) (h2 : 2 ≤ (A ++ y :: B).length) (hl8 : (A ++ y :: B).length ≤ 8) (hz : ∀ z, z ∈ A ∨ z ∈ B → 4 ≤ z.2.length ∧ z.2.length ≤ 8) (hq : R_gq m b ρ x (h + 1) n us (A ++ y :: B) (N_fix h (A.map (V_er (h + 1))) (V_er (h + 1) y) (B.map (V_er (h + 1)))) M Q) : ((0 < (k : Int) → ∃ b30, g_r M m 51 = some b30 ∧ g_InR ((k : Int) - 1) ∧ g_Call (d + 6) 369 [.ref m, g_n x, g_n n, g_n ((k : Int) - 1)] M (g_qI fun r36 M33 => g_ext M M33 → g_ok M33 → g_InR r36 → ∃ n38, g_A M33 b30 1 n38 ∧ ((0 : Int) ≤ r36 ∧ (r36 : Int) < n38) ∧ g_Call (d + 6) 367 [.ref m, g_n x, g_n (g_i M33 b30 r36)] M33 (g_qI fun r44 M41 => g_ext M33 M41 → g_ok M41 → g_InR r44 → ((4 < r44 → g_Call (d + 6) 380 [.ref m, g_n x, g_n n, g_n (k : Int)] M41 (g_qV fun M46 => g_ext M41 M46 → g_ok M46 → Q M46)) ∧ (¬ 4 < r44 → g_Run (d + 6) 379 107 [(0, .ref m), (1, g_n x), (2, g_n n), (3, g_n s), (4, g_n (k : Int)), (5, g_n (V_n y.1))] [] M41 (g_qV Q)))))) ∧ (¬ 0 < (k : Int) → g_Run (d + 6) 379 107 [(0, .ref m), (1, g_n x), (2, g_n n), (3, g_n s), (4, g_n (k : Int)), (5, g_n (V_n y.1))] [] M (g_qV Q))) := by
  have hD0 := hD
  obtain ⟨a1, a2, -, a4, a5⟩ := R_D_s.mp hD
  have hyn := (a5 y (by simp)).lt
  have hll := hl8
  rw [List.length_append, List.length_cons] at h2 hll
  have hsz := hD.size
  obtain ⟨r1, r2⟩ := hR.at (k := 51) (by decide)
  have r2 : g_A M (ρ 51) 1 48000 := r2
  have hy4 : (V_er (h + 1) y).2.length < 4 := by rw [V_er_2]; omega
  have hyne : y.2 ≠ [] := fun z => by rw [z, List.length_nil] at hy3; omega
  -- the end: two are joined
  have h155 : (∀ a, A.getLast? = some a → a.2.length ≤ 4) → (∀ w, B.head? = some w → w.2.length ≤ 4) → g_Run (d + 6) 379 155 [(0, .ref m), (1, g_n x), (2, g_n n), (3, g_n s), (4, g_n (k : Int)), (5, g_n (V_n y.1))] [] M (g_qV Q) := by
    intro hA4 hB4
    refine s_X12_goes_155 ⟨by omega, by omega⟩ ⟨by omega, by omega⟩ ⟨by omega, by omega⟩ ⟨by omega, by omega⟩ ⟨by omega, by omega⟩ fun _ => ⟨fun g => ⟨⟨by omega, by omega⟩, hR.1.1, ?_⟩, fun g => ⟨hR.1.1, ?_⟩⟩
    · rcases List.eq_nil_or_concat A with hA | ⟨A0, a, hA⟩
      · rw [hA, List.length_nil] at hk
        omega
      · have hA : A = A0 ++ [a] := by rw [hA]; simp
        subst hA
        rw [List.length_append, List.length_singleton] at hk
        have ha4 := hA4 a (by rw [List.getLast?_concat])
        have ha := hz a (Or.inl (by simp))
        have hL : (A0 ++ [a]) ++ y :: B = A0 ++ a :: y :: B := by simp
        rw [hL] at hD hnd hin hq
        rw [List.map_append, List.map_singleton, N_fix_3 hy4 (by rw [V_er_2]; exact ha4) (fun w hw => by
          rw [List.head?_map] at hw
          cases hB : B.head? with
          | none => rw [hB] at hw; exact absurd hw (by simp)
          | some w2 =>
            rw [hB] at hw
            have hw : V_er (h + 1) w2 = w := Option.some.inj hw
            rw [← hw, V_er_2]
            exact hB4 w2 hB)] at hq
        rw [show (k : Int) - 1 = (A0.length : Nat) by omega]
        refine e_mJ (d := d + 2) hR hx hD hnd hin hus (fun z => by rw [z, List.length_nil] at ha; omega) (by omega) fun M1 l1 us1 gone f1 D1 hT hu hp1 hp2 hU => ?_
        exact fun _ _ => hq M1 l1 us1 gone f1 D1 hT hu hp1 hp2 hU
    · have hA : A = [] := List.length_eq_zero_iff.mp (by omega)
      subst hA
      rw [List.length_nil] at h2 hk
      cases B with
      | nil => rw [List.length_nil] at h2; omega
      | cons w B =>
        have hw4 := hB4 w rfl
        have hw := hz w (Or.inr List.mem_cons_self)
        rw [List.map_nil, List.map_cons, N_fix_4 hy4 (by rw [V_er_2]; exact hw4)] at hq
        rw [hk]
        have h9 := e_mJ (d := d + 2) (A := []) (B := B) (u := y) (v := w) (Q := fun M2 => g_ext M M2 → g_ok M2 → Q M2) hR hx hD hnd hin hus hyne (by omega) fun M1 l1 us1 gone f1 D1 hT hu hp1 hp2 hU => fun _ _ => hq M1 l1 us1 gone f1 D1 hT hu hp1 hp2 hU
        exact h9
  have h107 : (∀ a, A.getLast? = some a → a.2.length ≤ 4) → g_Run (d + 6) 379 107 [(0, .ref m), (1, g_n x), (2, g_n n), (3, g_n s), (4, g_n (k : Int)), (5, g_n (V_n y.1))] [] M (g_qV Q) := by
    intro hA4
    refine s_X12_goes_107 ⟨by omega, by omega⟩ ⟨by omega, by omega⟩ ⟨by omega, by omega⟩ ⟨by omega, by omega⟩ ⟨by omega, by omega⟩ fun _ => ⟨⟨by omega, by omega⟩, hR.1.1, e_sizeOf (d := d + 5) hR hx a1 ?_⟩
    intro _ _ _
    rw [hsz, List.length_append, List.length_cons]
    refine ⟨fun g => ⟨ρ 51, r1, ⟨by omega, by omega⟩, e_slot (d := d + 5) hx a1 (by omega) (by omega) ?_⟩, fun g => h155 hA4 fun w hw => ?_⟩
    · intro _ _ _
      cases B with
      | nil => rw [List.length_nil] at g; omega
      | cons w B =>
        have hch := R_D.ch (A := A ++ [y]) (B := B) (w := w) (h := h) (n := n) (b := b) (ρ := ρ) (x := x) (M := M) (by rw [List.append_assoc]; exact hD)
        rw [List.length_append, List.length_singleton] at hch
        have hwD := a5 w (by simp)
        have hw := hz w (Or.inr List.mem_cons_self)
        refine ⟨48000, r2, ⟨by omega, by omega⟩, ?_⟩
        rw [show (k : Int) + 1 = ((A.length + 1 : Nat) : Int) by omega, hch]
        refine e_sizeOf (d := d + 5) hR hx hwD.lt ?_
        intro _ _ _
        rw [hwD.size]
        refine ⟨fun g4 => ?_, fun g4 => h155 hA4 fun w2 hw2 => ?_⟩
        · obtain ⟨y0, r0, r, hr⟩ : ∃ y0 r0 r, w.2 = [y0] ++ r0 :: r := by
            cases hw2 : w.2 with
            | nil => rw [hw2, List.length_nil] at hw; omega
            | cons y0 t =>
              cases t with
              | nil => rw [hw2, List.length_singleton] at hw; omega
              | cons r0 r => exact ⟨y0, r0, r, rfl⟩
          have hrl : w.2.length = r.length + 2 := by
            rw [hr]
            rfl
          rw [List.map_cons, N_fix_2 hy4 (fun a ha => by
            rw [List.getLast?_map] at ha
            cases hA : A.getLast? with
            | none => rw [hA] at ha; exact absurd ha (by simp)
            | some a2 =>
              rw [hA] at ha
              have ha : V_er (h + 1) a2 = a := Option.some.inj ha
              rw [← ha, V_er_2]
              exact hA4 a2 hA) (by rw [V_er_2]; omega)] at hq
          rw [hk]
          refine e_mB (d := d + 2) hR hx hD hnd hus hr hyne (by omega) (by omega) fun M1 l1 us1 gone f1 D1 hT hu hp1 hp2 hU => ?_
          exact fun _ _ => hq M1 l1 us1 gone f1 D1 hT hu hp1 hp2 hU
        · have hw2 : w = w2 := Option.some.inj hw2
          rw [← hw2]
          omega
    · cases B with
      | nil => exact absurd hw (by simp)
      | cons w2 B => rw [List.length_cons] at g; omega
  refine ⟨fun g => ⟨ρ 51, r1, ⟨by omega, by omega⟩, e_slot (d := d + 5) hx a1 (by omega) (by omega) ?_⟩, fun g => h107 fun a ha => ?_⟩
  · intro _ _ _
    rcases List.eq_nil_or_concat A with hA | ⟨A0, a, hA⟩
    · rw [hA, List.length_nil] at hk
      omega
    · have hA : A = A0 ++ [a] := by rw [hA]; simp
      subst hA
      rw [List.length_append, List.length_singleton] at hk
      have hL : (A0 ++ [a]) ++ y :: B = A0 ++ a :: y :: B := by simp
      have hch := R_D.ch (A := A0) (B := y :: B) (w := a) (h := h) (n := n) (b := b) (ρ := ρ) (x := x) (M := M) (by rw [← hL]; exact hD)
      have haD := a5 a (by simp)
      have ha := hz a (Or.inl (by simp))
      have hA1 : (A0 ++ [a]).length = A0.length + 1 := by rw [List.length_append, List.length_singleton]
      refine ⟨48000, r2, ⟨by omega, by omega⟩, ?_⟩
      rw [show (k : Int) - 1 = ((A0.length : Nat) : Int) by omega, hch]
      refine e_sizeOf (d := d + 5) hR hx haD.lt ?_
      intro _ _ _
      rw [haD.size]
      refine ⟨fun g4 => ?_, fun g4 => h107 fun a2 ha2 => ?_⟩
      · have hane : a.2 ≠ [] := fun z => by rw [z, List.length_nil] at ha; omega
        have hT : a.2 = a.2.dropLast ++ [a.2.getLast hane] := (List.dropLast_concat_getLast hane).symm
        obtain ⟨T, hTd⟩ : ∃ T, T = a.2.dropLast := ⟨_, rfl⟩
        rw [← hTd] at hT
        have hTl := congrArg List.length hT
        rw [List.length_append, List.length_singleton] at hTl
        rw [hL] at hD hnd hin hq
        rw [List.map_append, List.map_singleton, N_fix_1 hy4 (by rw [V_er_2]; omega)] at hq
        rw [hk]
        refine e_mA (d := d + 2) hR hx hD hnd hus hT (fun z => by rw [z, List.length_nil] at hTl; omega) hyne (by omega) (by omega) fun M1 l1 us1 gone f1 D1 hT hu hp1 hp2 hU => ?_
        exact fun _ _ => hq M1 l1 us1 gone f1 D1 hT hu hp1 hp2 hU
      · rw [List.getLast?_concat] at ha2
        have ha2 : a = a2 := Option.some.inj ha2
        rw [← ha2]
        omega
  · have hA : A = [] := List.length_eq_zero_iff.mp (by omega)
    rw [hA] at ha
    exact absurd ha (by simp)
theorem e_goes (hx : x < 8) : ∀ (h : Nat) {d n s : Nat} {us : List Nat} {l : List (N_i V_W h)} {M : g_M} {e : I_E} {Q : g_M → Prop}, R_rw m b ρ M → R_wy m x w1 w2 dn M → R_D b ρ x M h n l → N_ok (I_c w1 w2) h (l.map (V_er h)) → N_fl h (l.map (V_er h)) → (0 < h → 2 ≤ l.length) → l.length ≤ 8 → (V_ns h n l).Nodup → (∀ k ∈ V_ns h n l, k ∈ us) → R_us ρ x M us → R_e b ρ x s M e → (∃ a ∈ N_ins h (l.map (V_er h)), I_c w1 w2 a e = 0) → R_gq m b ρ x h n us l (N_gone (I_c w1 w2) e h (l.map (V_er h))) M Q → g_Call (d + h + 44) 379 [.ref m, g_n x, g_n n, g_n s] M (g_qV Q) := by
  intro h
  induction h with
  | zero =>
    intro d n s us l M e Q hR hw hD hok hfl hne h8 hnd hin hus he hex hq
    have hc : v_T (I_c w1 w2) := I_c_T hw.2.2.1 hw.2.2.2.1
    refine e_goes0 hR hx hw hD hus he ?_ hq
    have h1 := N_pl_lt hc (e := e) (l := l.map fun y : N_i V_W 0 => V_e y) ((N_ok_0 _).mp hok) (by
      obtain ⟨a, ha, hae⟩ := hex
      obtain ⟨z, hz, haz⟩ := N_mem_ins.mp ha
      have : a = z := List.mem_singleton.mp haz
      exact ⟨a, by rw [this]; exact hz, hae⟩)
    rw [List.length_map] at h1
    exact h1
  | succ h ih =>
    intro d n s us l M e Q hR hw hD hok hfl hne h8 hnd hin hus he hex hq
    have hc : v_T (I_c w1 w2) := I_c_T hw.2.2.1 hw.2.2.2.1
    obtain ⟨a1, a2, ⟨ps, p1, p2, p3, p4⟩, a4, a5⟩ := R_D_s.mp hD
    have hs := he.1
    have hl2 := hne (Nat.succ_pos h)
    have hlne : l ≠ [] := fun z => by rw [z, List.length_nil] at hl2; omega
    obtain ⟨k, hk⟩ : ∃ k, k = N_dm (I_c w1 w2) e (l.tail.map fun y : N_i V_W (h + 1) => V_e y.1) := ⟨_, rfl⟩
    have hkl : k < l.length := by
      have h1 := N_dm_le (I_c w1 w2) e (l.tail.map fun y : N_i V_W (h + 1) => V_e y.1)
      rw [List.length_map, List.length_tail] at h1
      omega
    obtain ⟨A, y, B, hl, hAk⟩ : ∃ A y B, l = A ++ y :: B ∧ A.length = k := by
      have hd : l.drop k ≠ [] := fun z => by
        have := List.drop_eq_nil_iff.mp z
        omega
      obtain ⟨y, B, hz⟩ := List.exists_cons_of_ne_nil hd
      exact ⟨l.take k, y, B, by rw [← hz, List.take_append_drop], by rw [List.length_take]; omega⟩
    have hlm : l.map (V_er (h + 1)) = A.map (V_er (h + 1)) ++ V_er (h + 1) y :: B.map (V_er (h + 1)) := by rw [hl, List.map_append, List.map_cons]
    have hdn : (A.map (V_er (h + 1))).length = N_dn (I_c w1 w2) e h (A.map (V_er (h + 1)) ++ V_er (h + 1) y :: B.map (V_er (h + 1))) := by
      rw [← hlm, List.length_map, hAk, hk]
      unfold N_dn N_ms
      rw [← List.map_tail, List.map_map]
      rfl
    have hok0 := hok
    have hfl0 := hfl
    have hex0 := hex
    rw [hlm] at hok hfl hex
    have hexy := N_ex hc hdn hok hfl hex
    have hyl : y ∈ l := by rw [hl]; simp
    have h2y : (V_er (h + 1) y).2 = y.2.map (V_er h) := rfl
    rw [h2y] at hexy
    have hoky : N_ok (I_c w1 w2) h (y.2.map (V_er h)) := hok.2 (V_er (h + 1) y) (List.mem_append_right _ List.mem_cons_self)
    have hfz : ∀ z ∈ l, (4 ≤ z.2.length ∧ z.2.length ≤ 8) ∧ N_fl h (z.2.map (V_er h)) := fun z hz => by
      have h1 := hfl0 (V_er (h + 1) z) (List.mem_map.mpr ⟨z, hz, rfl⟩)
      have h2 : (V_er (h + 1) z).2 = z.2.map (V_er h) := rfl
      rw [h2, List.length_map] at h1
      exact h1
    have hfy := hfz y hyl
    obtain ⟨-, -, gk1, gk2, -⟩ := N_gone_ok hc e h (y.2.map (V_er h)) hoky hfy.2 (fun _ => by rw [List.length_map]; omega) hexy
    rw [List.length_map] at gk1 gk2
    have hgone : N_gone (I_c w1 w2) e (h + 1) (l.map (V_er (h + 1))) = N_fix h (A.map (V_er (h + 1))) (N_mk h (V_e y.1) (N_gone (I_c w1 w2) e h (y.2.map (V_er h)))) (B.map (V_er (h + 1))) := by
      rw [hlm, N_gone_s (I_c w1 w2) e hdn]
      rfl
    rw [hgone] at hq
    have hnse : V_ns (h + 1) n l = n :: (V_nb (h + 1) A ++ (V_ns h (V_n y.1) y.2 ++ V_nb (h + 1) B)) := by
      rw [V_ns_b, hl, V_nb_app]
      rfl
    have hnd' := hnd
    rw [hnse] at hnd'
    obtain ⟨nd1, nd2⟩ := List.nodup_cons.mp hnd'
    obtain ⟨nd3, nd4, nd5⟩ := List.nodup_append.mp nd2
    obtain ⟨nd6, nd7, nd8⟩ := List.nodup_append.mp nd4
    have hchin : ∀ j ∈ V_ns h (V_n y.1) y.2, j ∈ V_ns (h + 1) n l := fun j hj => by rw [hnse]; simp [hj]
    have hyD := a5 y hyl
    have hyn := hyD.lt
    have hll := congrArg List.length hl
    rw [List.length_append, List.length_cons] at hll
    refine m_X12_goes ⟨by omega, by omega⟩ ⟨by omega, by omega⟩ ⟨by omega, by omega⟩ fun _ => ⟨hR.1.1, e_isLeafN (d := d + (h + 1) + 42) hR hx a1 (Or.inl p1.1) ?_⟩
    intro _ _ _
    rw [p1.1]
    refine ⟨fun _ => e_downTo (d := d + (h + 1) + 2) hR hx hw hD hlne he ?_, fun z => absurd rfl z⟩
    intro _ _ _
    rw [← hk]
    obtain ⟨r1, r2⟩ := hR.at (k := 51) (by decide)
    have r2 : g_A M (ρ 51) 1 48000 := r2
    refine ⟨ρ 51, r1, e_slot (d := d + (h + 1) + 42) hx a1 (by omega) (by omega) ?_⟩
    intro _ _ _
    refine ⟨48000, r2, ⟨by omega, by omega⟩, ?_⟩
    have hch := R_D.ch (A := A) (B := B) (w := y) (h := h) (n := n) (b := b) (ρ := ρ) (x := x) (M := M) (by rw [← hl]; exact hD)
    rw [hAk] at hch
    rw [hch]
    obtain ⟨K, hK⟩ : ∃ K : g_M → Prop, K = fun M22 => g_ext M M22 → g_ok M22 → g_Call (d + (h + 1) + 43) 367 [.ref m, g_n x, g_n (V_n y.1)] M22 (g_qI fun r28 M25 => g_ext M22 M25 → g_ok M25 → g_InR r28 → ((r28 < 4 → ((0 < (k : Int) → ∃ b30, g_r M25 m 51 = some b30 ∧ g_InR ((k : Int) - 1) ∧ g_Call (d + (h + 1) + 43) 369 [.ref m, g_n x, g_n n, g_n ((k : Int) - 1)] M25 (g_qI fun r36 M33 => g_ext M25 M33 → g_ok M33 → g_InR r36 → ∃ n38, g_A M33 b30 1 n38 ∧ ((0 : Int) ≤ r36 ∧ (r36 : Int) < n38) ∧ g_Call (d + (h + 1) + 43) 367 [.ref m, g_n x, g_n (g_i M33 b30 r36)] M33 (g_qI fun r44 M41 => g_ext M33 M41 → g_ok M41 → g_InR r44 → ((4 < r44 → g_Call (d + (h + 1) + 43) 380 [.ref m, g_n x, g_n n, g_n (k : Int)] M41 (g_qV fun M46 => g_ext M41 M46 → g_ok M46 → Q M46)) ∧ (¬ 4 < r44 → g_Run (d + (h + 1) + 43) 379 107 [(0, .ref m), (1, g_n x), (2, g_n n), (3, g_n s), (4, g_n (k : Int)), (5, g_n (V_n y.1))] [] M41 (g_qV Q)))))) ∧ (¬ 0 < (k : Int) → g_Run (d + (h + 1) + 43) 379 107 [(0, .ref m), (1, g_n x), (2, g_n n), (3, g_n s), (4, g_n (k : Int)), (5, g_n (V_n y.1))] [] M25 (g_qV Q)))) ∧ (¬ r28 < 4 → Q M25))) := ⟨_, rfl⟩
    have hrec := ih (d := d) (n := V_n y.1) (s := s) (us := us) (l := y.2) (M := M) (e := e) (Q := K) hR hw hyD hoky hfy.2 (fun _ => by omega) hfy.1.2 nd6 (fun j hj => hin j (hchin j hj)) hus he hexy ?_
    · rw [show d + h + 44 = d + (h + 1) + 43 by omega, hK] at hrec
      exact hrec
    rw [hK]
    intro M22 l1 us1 gone fC dC hTC husC hpu hpn hUC _ _
    rw [hTC] at hq gk1 gk2
    rw [List.length_map] at gk1 gk2
    have hR22 := hR.fr fC
    obtain ⟨y2, hy2⟩ : ∃ y2 : N_i V_W (h + 1), y2 = N_mk h y.1 l1 := ⟨_, rfl⟩
    have hy21 : y2.1 = y.1 := by rw [hy2]; rfl
    have hy22 : y2.2 = l1 := by rw [hy2]; rfl
    have hD22 : R_D b ρ x M22 (h + 1) n (A ++ y2 :: B) := R_D.one (y := y) hR (by rw [← hl]; exact hD) (by rw [← hl]; exact hnd) fC hy21 (by rw [hy22]; exact dC)
    have hU22 : ∀ i ∈ V_us (h + 1) (A ++ y2 :: B), i ∈ V_us (h + 1) l := by
      rw [hl]
      exact V_us_one hy21 (by rw [hy22]; exact hUC)
    have hpn22 : (V_ns (h + 1) n l).Perm (gone ++ V_ns (h + 1) n (A ++ y2 :: B)) := by
      have e2 : V_ns (h + 1) n (A ++ y2 :: B) = n :: (V_nb (h + 1) A ++ (V_ns h (V_n y.1) l1 ++ V_nb (h + 1) B)) := by
        rw [V_ns_b, V_nb_app, ← hy21, ← hy22]
        rfl
      rw [hnse, e2]
      refine List.perm_iff_count.mpr fun a => ?_
      have := List.perm_iff_count.mp hpn a
      simp only [List.count_append, List.count_cons] at this ⊢
      omega
    have hnd22 := hpn22.nodup_iff.mp hnd
    obtain ⟨nn1, nn2, nn3⟩ := List.nodup_append.mp hnd22
    have hin22 : ∀ k ∈ V_ns (h + 1) n (A ++ y2 :: B), k ∈ us1 := fun j hj => by
      have h1 := hin j (hpn22.mem_iff.mpr (List.mem_append_right _ hj))
      rcases List.mem_append.mp (hpu.mem_iff.mp h1) with g | g
      · exact absurd rfl (nn3 j g j hj)
      · exact g
    have F22 : e_fr (R_C m ρ x (fun k => k ∈ V_ns (h + 1) n l)) M M22 := fC.up fun q q2 z => by
      rcases z with ⟨k', hk', z⟩ | z
      · exact Or.inl ⟨k', hchin k' hk', z⟩
      · exact Or.inr z
    have hver : V_er (h + 1) y2 = N_mk h (V_e y.1) (l1.map (V_er h)) := by
      rw [hy2]
      rfl
    rw [← hver] at hq
    refine e_sizeOf (d := d + (h + 1) + 42) hR22 hx hyn ?_
    intro _ _ _
    rw [dC.size]
    refine ⟨fun g => ?_, fun g => ?_⟩
    · have h9 := e_mend (d := d + (h + 1) + 37) (s := s) (k := k) (A := A) (B := B) (y := y2) (M := M22) (us := us1) (n := n) (Q := Q) hR22 hx hs hAk.symm hD22 nn2 hin22 husC (by rw [hy22]; omega) (by rw [List.length_append, List.length_cons]; omega) (by rw [List.length_append, List.length_cons]; omega) (fun z hz => (hfz z (by
        rw [hl]
        rcases hz with hz | hz
        · exact List.mem_append_left _ hz
        · exact List.mem_append_right _ (List.mem_cons_of_mem _ hz))).1) fun M1 l3 us3 gone3 f3 D3 hT3 hu3 hp3 hq3 hU3 => ?_
      · rw [hy21] at h9
        exact h9
      · refine hq M1 l3 us3 (gone ++ gone3) (F22.tr (f3.up fun q q2 z => ?_)) D3 hT3 hu3 ?_ ?_ fun i hi => hU22 i (hU3 i hi)
        · rcases z with ⟨k', hk', z⟩ | z
          · exact Or.inl ⟨k', hpn22.mem_iff.mpr (List.mem_append_right _ hk'), z⟩
          · exact Or.inr z
        · rw [List.append_assoc]
          exact hpu.trans (List.Perm.append_left _ hp3)
        · rw [List.append_assoc]
          exact hpn22.trans (List.Perm.append_left _ hq3)
    · refine hq M22 (A ++ y2 :: B) us1 gone F22 hD22 ?_ husC hpu hpn22 hU22
      rw [N_fix_0 (by rw [V_er_2, hy22]; omega), List.map_append, List.map_cons]
end RGOES
