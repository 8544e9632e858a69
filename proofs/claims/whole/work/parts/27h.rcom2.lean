/-! TREES OF THE REFERENCE: an entry comes below a node, all -/
section RCOM2
variable {m b x : Nat} {ρ : Nat → Nat} {w1 w2 : Int} {dn : Nat}
theorem V_uo_toL {α β : Type} (f : α → β) (o : Option α) : (o.map f).toList = o.toList.map f := by cases o <;> rfl
theorem e_comes2 (hx : x < 8) : ∀ (h : Nat) {d n s : Nat} {us : List Nat} {l : List (N_i V_W h)} {M : g_M} {e : I_E} {Q : Int → g_M → Prop}, R_rw m b ρ M → R_wy m x w1 w2 dn M → R_D b ρ x M h n l → N_fl h (l.map (V_er h)) → (0 < h → l ≠ []) → l.length ≤ 8 → (V_ns h n l).Nodup → (∀ k ∈ V_ns h n l, k ∈ us) → R_us ρ x M us → us.length + h < 599 → R_e b ρ x s M e → R_cq m b ρ x h n s us l (N_come (I_c w1 w2) e h (l.map (V_er h))) M (h + 1) Q → g_Call (d + h + 44) 377 [.ref m, g_n x, g_n n, g_n s] M (g_qI Q) := by
  intro h
  induction h with
  | zero =>
    intro d n s us l M e Q hR hw hD hfl hne h8 hnd hin hus hul he hq
    obtain ⟨a1, a2, ⟨ps, p1, p2, p3⟩, a4⟩ := R_D_0.mp hD
    have hpl := R_ps_len (n := n) (f := 0) p3
    rw [List.length_map] at hpl
    have hs := he.1
    obtain ⟨k, hk⟩ : ∃ k, k = N_pl (I_c w1 w2) e (l.map fun y : N_i V_W 0 => V_e y) := ⟨_, rfl⟩
    have hkl : k ≤ l.length := by
      have := (N_pl_spec (c := I_c w1 w2) e (l.map fun y : N_i V_W 0 => V_e y)).1
      rw [List.length_map] at this
      rw [hk]
      exact this
    have hPA : (ps.take k).length = k := by rw [List.length_take]; omega
    have hpsd : ps.take k ++ ps.drop k = ps := List.take_append_drop _ _
    refine m_X12_comes ⟨by omega, by omega⟩ ⟨by omega, by omega⟩ ⟨by omega, by omega⟩ fun _ => ⟨hR.1.1, e_isLeafN (d := d + 42) hR hx a1 (Or.inr p1.1) ?_⟩
    intro _ _ _
    rw [p1.1]
    refine ⟨fun z => absurd z (by decide), fun _ => e_placeIn (d := d + 2) hR hx hw hD he ?_⟩
    intro _ _ _
    rw [← hk, show (k : Int) = ((ps.take k).length : Nat) by rw [hPA]]
    refine e_insertAt (d := d + 41) (A := ps.take k) (B := ps.drop k) (v := s) (w := 0) hR hx a1 (by rw [hpsd]; exact p1) (by rw [hpsd]; omega) ⟨by omega, by omega⟩ ⟨by decide, by decide⟩ (fun y hy => p2 y (by rw [hpsd] at hy; exact hy)) fun M36 f36 hno36 => ?_
    intro _ _
    obtain ⟨w, hwe⟩ : ∃ w : N_i V_W 0, w = (((s, 0), e) : V_W) := ⟨_, rfl⟩
    have f36' : e_fr (R_C m ρ x (fun j => j = n)) M M36 := f36.up fun y q z => R_C.A (A := fun j => j = n) rfl z
    have F36 : e_fr (R_C m ρ x (fun j => j < 600 ∧ (j ∈ V_ns 0 n l ∨ j ∉ us))) M M36 := f36.up fun y q z => R_C.A (A := fun j => j < 600 ∧ (j ∈ V_ns 0 n l ∨ j ∉ us)) ⟨a1, Or.inl (V_ns_m 0 n l)⟩ z
    have hll : (l.take k).length = k := by rw [List.length_take]; omega
    have hD2 : R_D b ρ x M36 0 n (l.take k ++ w :: l.drop k) := by
      refine R_D_0.mpr ⟨a1, ?_, ⟨_, hno36, fun y hy => ?_, ?_⟩, fun y hy => ?_⟩
      · rw [List.length_append, List.length_cons, List.length_take, List.length_drop]
        omega
      · rcases List.mem_append.mp hy with hy | hy
        · exact p2 y (List.mem_of_mem_take hy)
        · rcases List.mem_cons.mp hy with hy | hy
          · rw [hy]
            exact ⟨⟨by show (-2147483648 : Int) ≤ (s : Int); omega, by show (s : Int) ≤ 2147483647; omega⟩, ⟨by show (-2147483648 : Int) ≤ 0; decide, by show (0 : Int) ≤ 2147483647; decide⟩⟩
          · exact p2 y (List.mem_of_mem_drop hy)
      · rw [List.map_append, List.map_cons, List.map_append, List.map_cons, List.map_take, List.map_drop, p3, hwe]
        unfold B_il
        rw [List.map_append, List.map_cons, List.map_take, List.map_drop, List.map_take, List.map_drop]
        rfl
      · rcases List.mem_append.mp hy with hy | hy
        · exact (a4 y (List.mem_of_mem_take hy)).fr F36 fun y q z => R_C_eA hR z
        · rcases List.mem_cons.mp hy with hy | hy
          · rw [hy, hwe]
            exact he.fr F36 fun y q z => R_C_eA hR z
          · exact (a4 y (List.mem_of_mem_drop hy)).fr F36 fun y q z => R_C_eA hR z
    have h9 := e_cend (d := d) (us := us) (us2 := us) (c := 0) (Q := Q) (L2 := l.take k ++ w :: l.drop k) (hR.fr F36) hx hs hD2 hnd hin (hus.nA (A := fun j => j = n) hR (f36.up fun y q z => ⟨n, rfl, z⟩)) (by omega) ⟨[], rfl, List.Perm.refl _, Nat.le_refl _⟩ F36 (fun i hi => by
      obtain ⟨y, hy, rfl⟩ := List.mem_map.mp hi
      rcases List.mem_append.mp hy with hy | hy
      · exact Or.inr (List.mem_map.mpr ⟨y, List.mem_of_mem_take hy, rfl⟩)
      · rcases List.mem_cons.mp hy with hy | hy
        · rw [hy, hwe]
          exact Or.inl rfl
        · exact Or.inr (List.mem_map.mpr ⟨y, List.mem_of_mem_drop hy, rfl⟩)) (T := N_come (I_c w1 w2) e 0 (l.map (V_er 0))) (by
      rw [N_come_0]
      congr 1
      have hes : N_es (l.map (V_er 0)) = l.map fun y : N_i V_W 0 => V_e y := rfl
      rw [hes, ← hk]
      show (l.map (V_er 0)).take k ++ N_e e :: (l.map (V_er 0)).drop k = _
      rw [List.map_append, List.map_cons, List.map_take, List.map_drop, hwe]
      rfl) hq
    exact h9
  | succ h ih =>
    intro d n s us l M e Q hR hw hD hfl hne h8 hnd hin hus hul he hq
    obtain ⟨a1, a2, ⟨ps, p1, p2, p3, p4⟩, a4, a5⟩ := R_D_s.mp hD
    have hpl := R_ps_len (n := n) (f := 0) p3
    rw [List.length_map] at hpl
    have hs := he.1
    have hlne := hne (Nat.succ_pos h)
    obtain ⟨k, hk⟩ : ∃ k, k = N_dm (I_c w1 w2) e (l.tail.map fun y : N_i V_W (h + 1) => V_e y.1) := ⟨_, rfl⟩
    have hkl : k < l.length := by
      have h1 := N_dm_le (I_c w1 w2) e (l.tail.map fun y : N_i V_W (h + 1) => V_e y.1)
      rw [List.length_map, List.length_tail] at h1
      have h2 := List.length_pos_iff.mpr hlne
      omega
    obtain ⟨A, y, B, hl, hAk⟩ : ∃ A y B, l = A ++ y :: B ∧ A.length = k := by
      have hd : l.drop k ≠ [] := fun z => by
        have := List.drop_eq_nil_iff.mp z
        omega
      obtain ⟨y, B, hz⟩ := List.exists_cons_of_ne_nil hd
      exact ⟨l.take k, y, B, by rw [← hz, List.take_append_drop], by rw [List.length_take]; omega⟩
    obtain ⟨PA, p, PB, hps, hPAk⟩ : ∃ PA p PB, ps = PA ++ p :: PB ∧ PA.length = k := by
      have hd : ps.drop k ≠ [] := fun z => by
        have := List.drop_eq_nil_iff.mp z
        omega
      obtain ⟨y, B, hz⟩ := List.exists_cons_of_ne_nil hd
      exact ⟨ps.take k, y, B, by rw [← hz, List.take_append_drop], by rw [List.length_take]; omega⟩
    have hyl : y ∈ l := by rw [hl]; simp
    -- the nodes
    have hnse : V_ns (h + 1) n l = n :: (V_nb (h + 1) A ++ (V_ns h (V_n y.1) y.2 ++ V_nb (h + 1) B)) := by
      rw [V_ns_b, hl, V_nb_app]
      rfl
    have hnd' := hnd
    rw [hnse] at hnd'
    obtain ⟨nd1, nd2⟩ := List.nodup_cons.mp hnd'
    obtain ⟨nd3, nd4, nd5⟩ := List.nodup_append.mp nd2
    obtain ⟨nd6, nd7, nd8⟩ := List.nodup_append.mp nd4
    have hnl := hin n (V_ns_m (h + 1) n l)
    have hchin : ∀ j ∈ V_ns h (V_n y.1) y.2, j ∈ V_ns (h + 1) n l := fun j hj => by rw [hnse]; simp [hj]
    have hyD := a5 y hyl
    have hyn := hyD.lt
    have hfl2 : (4 ≤ y.2.length ∧ y.2.length ≤ 8) ∧ N_fl h (y.2.map (V_er h)) := by
      have h1 := hfl (V_er (h + 1) y) (List.mem_map.mpr ⟨y, hyl, rfl⟩)
      have h2 : (V_er (h + 1) y).2 = y.2.map (V_er h) := rfl
      rw [h2, List.length_map] at h1
      exact h1
    refine m_X12_comes ⟨by omega, by omega⟩ ⟨by omega, by omega⟩ ⟨by omega, by omega⟩ fun _ => ⟨hR.1.1, e_isLeafN (d := d + (h + 1) + 42) hR hx a1 (Or.inl p1.1) ?_⟩
    intro _ _ _
    rw [p1.1]
    refine ⟨fun _ => e_downTo (d := d + (h + 1) + 2) hR hx hw hD hlne he ?_, fun z => absurd rfl z⟩
    intro _ _ _
    rw [← hk]
    obtain ⟨r1, r2⟩ := hR.at (k := 51) (by decide)
    have r2 : g_A M (ρ 51) 1 48000 := r2
    refine ⟨ρ 51, r1, e_slot (d := d + (h + 1) + 42) hx a1 (by omega) (by omega) ?_⟩
    intro _ _ _
    refine ⟨48000, r2, ⟨by omega, by omega⟩, ?_⟩
    have hch : g_i M (ρ 51) (10 * (600 * x + n) + k) = (V_n y.1 : Nat) := by
      have h9 := p1.child (A := A.map (V_k (h + 1))) (B := B.map (V_k (h + 1))) (k := V_k (h + 1) y) (by
        rw [p3, hl, List.map_append, List.map_cons])
      rw [List.length_map, hAk] at h9
      exact h9
    rw [hch]
    have hrec := ih (d := d) (n := V_n y.1) (s := s) (us := us) (l := y.2) (M := M) (e := e) (Q := fun r25 M22 => g_ext M M22 → g_ok M22 → g_InR r25 → ((r25 = 0 → g_Run (d + (h + 1) + 43) 377 76 [(0, .ref m), (1, g_n x), (2, g_n n), (3, g_n s)] [] M22 (g_qI Q)) ∧ (¬ r25 = 0 → g_InR ((k : Int) + 1) ∧ g_Call (d + (h + 1) + 43) 372 [.ref m, g_n x, g_n n, g_n ((k : Int) + 1), g_n (g_i M22 m 55), g_n (g_i M22 m 56)] M22 (g_qV fun M28 => g_ext M22 M28 → g_ok M28 → g_Run (d + (h + 1) + 43) 377 76 [(0, .ref m), (1, g_n x), (2, g_n n), (3, g_n s)] [] M28 (g_qI Q))))) hR hw hyD hfl2.2 (fun _ z => by rw [z] at hfl2; exact absurd hfl2.1.1 (show ¬ 4 ≤ 0 by decide)) hfl2.1.2 nd6 (fun j hj => hin j (hchin j hj)) hus (by omega) he ?_
    · have hd44 : d + h + 44 = d + (h + 1) + 43 := by omega
      rw [hd44] at hrec
      exact hrec
    -- after it
    intro M22 l1 o us1 fC dC hTC husC hnwC huC hoC _ _ _
    obtain ⟨ndC, inC, lenC, subC, afC⟩ := hnwC.nd husC.2.1 nd6 fun j hj => hin j (hchin j hj)
    obtain ⟨y2, hy2⟩ : ∃ y2 : N_i V_W (h + 1), y2 = N_mk h y.1 l1 := ⟨_, rfl⟩
    have hy21 : y2.1 = y.1 := by rw [hy2]; rfl
    have hy22 : y2.2 = l1 := by rw [hy2]; rfl
    have hR22 := hR.fr fC
    have FC : e_fr (R_C m ρ x (fun j => j < 600 ∧ (j ∈ V_ns (h + 1) n l ∨ j ∉ us))) M M22 := fC.up fun q q2 z => by
      rcases z with ⟨k', hk', z⟩ | z
      · exact Or.inl ⟨k', ⟨hk'.1, hk'.2.imp (hchin k') id⟩, z⟩
      · exact Or.inr z
    have hno22 : R_no ρ x n M22 0 ps := p1.fr fC (by omega) fun q q2 z => R_C_av (A := fun j => j < 600 ∧ (j ∈ V_ns h (V_n y.1) y.2 ∨ j ∉ us)) hR (fun z2 => z2.2.elim (fun z2 => nd1 (by simp [z2])) fun z2 => z2 hnl) z
    have hsib : ∀ w, w ∈ A ∨ w ∈ B → R_D b ρ x M22 h (V_n w.1) w.2 := fun w hwm => by
      have hwl : w ∈ l := by
        rw [hl]
        rcases hwm with z | z
        · exact List.mem_append_left _ z
        · exact List.mem_append_right _ (List.mem_cons_of_mem _ z)
      refine (a5 w hwl).fr fC (fun q q2 z => R_C_eA hR z) fun j hj q q2 z => R_C_av (A := fun j => j < 600 ∧ (j ∈ V_ns h (V_n y.1) y.2 ∨ j ∉ us)) hR (fun z2 => ?_) z
      rcases z2.2 with z2 | z2
      · rcases hwm with g | g
        · exact nd5 j (List.mem_flatMap.mpr ⟨w, g, hj⟩) j (List.mem_append_left _ z2) rfl
        · exact nd8 j z2 j (List.mem_flatMap.mpr ⟨w, g, hj⟩) rfl
      · refine z2 (hin j ?_)
        rw [V_ns_b]
        exact List.mem_cons_of_mem _ (List.mem_flatMap.mpr ⟨w, hwl, hj⟩)
    have hfstA : PA.map Prod.fst = B_il (A.map (V_k (h + 1))) ∧ p.1 = (V_k (h + 1) y : Nat) ∧ PB.map Prod.fst = B_il (B.map (V_k (h + 1))) := by
      rw [hl, hps, List.map_append, List.map_append, B_il_app, List.map_cons, List.map_cons, B_il_c] at p3
      obtain ⟨g1, g2⟩ := List.append_inj p3 (by rw [List.length_map, B_il_len, List.length_map, hPAk, hAk])
      obtain ⟨g3, g4⟩ := List.cons.inj g2
      exact ⟨g1, g3, g4⟩
    have hmkl : R_mk (h + 1) (A ++ y :: B) (PA ++ p :: PB) := by
      rw [hl, hps] at p4
      exact p4
    have hmk2 := R_mk_ins (y2 := y2) o (by rw [hPAk, hAk]) hy21 hmkl
    have hol : o.toList.length ≤ 1 := by
      cases o
      · exact Nat.zero_le _
      · exact Nat.le_refl 1
    -- who stands behind the first
    have htl : ∀ w ∈ (A ++ y2 :: (o.toList ++ B)).tail, w ∈ l.tail ∨ (w = y2 ∧ y ∈ l.tail) ∨ w ∈ o.toList := by
      intro w hwm
      rw [hl]
      rcases A with _ | ⟨a, A⟩
      · have hwm : w ∈ o.toList ++ B := hwm
        rcases List.mem_append.mp hwm with g | g
        · exact Or.inr (Or.inr g)
        · exact Or.inl g
      · have hwm : w ∈ A ++ y2 :: (o.toList ++ B) := hwm
        rcases List.mem_append.mp hwm with g | g
        · exact Or.inl (List.mem_append_left _ g)
        · rcases List.mem_cons.mp g with g | g
          · exact Or.inr (Or.inl ⟨g, List.mem_append_right _ List.mem_cons_self⟩)
          · rcases List.mem_append.mp g with g | g
            · exact Or.inr (Or.inr g)
            · exact Or.inl (List.mem_append_right _ (List.mem_cons_of_mem _ g))
    have hD2 : ∀ M3, e_fr (R_C m ρ x (fun j => j = n)) M22 M3 → R_no ρ x n M3 0 (PA ++ p :: (o.toList.map (fun z : N_i V_W (h + 1) => (((V_n z.1 : Nat) : Int), ((V_s z.1 : Nat) : Int))) ++ PB)) → R_D b ρ x M3 (h + 1) n (A ++ y2 :: (o.toList ++ B)) := by
      intro M3 f3 hno3
      have hll := congrArg List.length hl
      rw [List.length_append, List.length_cons] at hll
      have hnotn : ∀ j ∈ V_ns h (V_n y.1) l1 ++ V_nb (h + 1) o.toList, j ≠ n := fun j hj z => by
        rcases afC j hj with g | g
        · exact nd1 (by rw [← z]; simp [g])
        · exact g (by rw [z]; exact hnl)
      refine R_D_u.mpr ⟨a1, ?_, ⟨_, hno3, fun q hq2 => ?_, ?_, hmk2⟩, fun w hwm => ?_, fun w hwm => ?_⟩
      · rw [List.length_append, List.length_cons, List.length_append]
        omega
      · rcases List.mem_append.mp hq2 with g | g
        · exact p2 q (by rw [hps]; exact List.mem_append_left _ g)
        · rcases List.mem_cons.mp g with g | g
          · exact p2 q (by rw [hps, g]; simp)
          · rcases List.mem_append.mp g with g | g
            · obtain ⟨z, hz, rfl⟩ := List.mem_map.mp g
              obtain ⟨g1, g2, -⟩ := hoC z (Option.mem_toList.mp hz)
              have g3 := g1.lt
              have g4 := g2.1
              exact ⟨⟨by show (-2147483648 : Int) ≤ ((V_n z.1 : Nat) : Int); omega, by show ((V_n z.1 : Nat) : Int) ≤ 2147483647; omega⟩, ⟨by show (-2147483648 : Int) ≤ ((V_s z.1 : Nat) : Int); omega, by show ((V_s z.1 : Nat) : Int) ≤ 2147483647; omega⟩⟩
            · exact p2 q (by rw [hps]; exact List.mem_append_right _ (List.mem_cons_of_mem _ g))
      · have hvk : V_k (h + 1) y2 = V_k (h + 1) y := by
          show V_n y2.1 = V_n y.1
          rw [hy21]
        have hof : (o.toList.map (fun z : N_i V_W (h + 1) => (((V_n z.1 : Nat) : Int), ((V_s z.1 : Nat) : Int)))).map Prod.fst = B_il (o.toList.map (V_k (h + 1))) := by
          cases o <;> rfl
        rw [List.map_append, List.map_cons, List.map_append, hfstA.1, hfstA.2.1, hof, hfstA.2.2, List.map_append, List.map_cons, List.map_append, B_il_app, B_il_c, B_il_app, hvk]
      · rcases htl w hwm with g | ⟨g, g2⟩ | g
        · exact ((a4 w g).fr fC fun q q2 z => R_C_eA hR z).fr f3 fun q q2 z => R_C_eA hR22 z
        · rw [g, hy21]
          exact ((a4 y g2).fr fC fun q q2 z => R_C_eA hR z).fr f3 fun q q2 z => R_C_eA hR22 z
        · exact (hoC w (Option.mem_toList.mp g)).2.1.fr f3 fun q q2 z => R_C_eA hR22 z
      · rcases List.mem_append.mp hwm with g | g
        · refine (hsib w (Or.inl g)).fr f3 (fun q q2 z => R_C_eA hR22 z) fun j hj q q2 z => R_C_av (A := fun j => j = n) hR22 (fun z2 => ?_) z
          exact nd1 (by rw [← z2]; exact List.mem_append_left _ (List.mem_flatMap.mpr ⟨w, g, hj⟩))
        · rcases List.mem_cons.mp g with g | g
          · rw [g, hy21, hy22]
            exact dC.fr f3 (fun q q2 z => R_C_eA hR22 z) fun j hj q q2 z => R_C_av (A := fun j => j = n) hR22 (hnotn j (List.mem_append_left _ hj)) z
          · rcases List.mem_append.mp g with g | g
            · exact (hoC w (Option.mem_toList.mp g)).1.fr f3 (fun q q2 z => R_C_eA hR22 z) fun j hj q q2 z => R_C_av (A := fun j => j = n) hR22 (hnotn j (List.mem_append_right _ (List.mem_flatMap.mpr ⟨w, g, hj⟩))) z
            · refine (hsib w (Or.inr g)).fr f3 (fun q q2 z => R_C_eA hR22 z) fun j hj q q2 z => R_C_av (A := fun j => j = n) hR22 (fun z2 => ?_) z
              exact nd1 (by rw [← z2]; exact List.mem_append_right _ (List.mem_append_right _ (List.mem_flatMap.mpr ⟨w, g, hj⟩)))
    have hnw2 : R_nw us us1 (V_ns (h + 1) n l) (V_ns (h + 1) n (A ++ y2 :: (o.toList ++ B))) (h + 1) := by
      obtain ⟨new, g1, g2, g3⟩ := hnwC
      refine ⟨new, g1, ?_, g3⟩
      have e2 : V_ns (h + 1) n (A ++ y2 :: (o.toList ++ B)) = n :: (V_nb (h + 1) A ++ (V_ns h (V_n y.1) l1 ++ (V_nb (h + 1) o.toList ++ V_nb (h + 1) B))) := by
        have e3 : V_nb (h + 1) (y2 :: (o.toList ++ B)) = V_ns h (V_n y2.1) y2.2 ++ V_nb (h + 1) (o.toList ++ B) := rfl
        rw [V_ns_b, V_nb_app, e3, V_nb_app, hy21, hy22]
      rw [hnse, e2]
      refine List.perm_iff_count.mpr fun a => ?_
      have := List.perm_iff_count.mp g2 a
      simp only [List.count_append, List.count_cons] at this ⊢
      omega
    have hu2 : ∀ i ∈ V_us (h + 1) (A ++ y2 :: (o.toList ++ B)), i = s ∨ i ∈ V_us (h + 1) l := by
      have hyus : ∀ i, i = s ∨ i ∈ V_us h y.2 → i = s ∨ i ∈ V_us (h + 1) l := fun i hi => hi.imp id fun g => by
        rw [V_us_s]
        exact List.mem_append_right _ (List.mem_flatMap.mpr ⟨y, hyl, g⟩)
      have htm : ∀ w, w ∈ l.tail → V_s w.1 ∈ V_us (h + 1) l := fun w g => by
        rw [V_us_s]
        exact List.mem_append_left _ (List.mem_map.mpr ⟨w, g, rfl⟩)
      have hws : ∀ w, w ∈ l → ∀ i ∈ V_us h w.2, i ∈ V_us (h + 1) l := fun w g i hi => by
        rw [V_us_s]
        exact List.mem_append_right _ (List.mem_flatMap.mpr ⟨w, g, hi⟩)
      intro i hi
      rw [V_us_s] at hi
      rcases List.mem_append.mp hi with hi | hi
      · obtain ⟨w, hwm, rfl⟩ := List.mem_map.mp hi
        rcases htl w hwm with g | ⟨g, g2⟩ | g
        · exact Or.inr (htm w g)
        · rw [g, hy21]
          exact Or.inr (htm y g2)
        · exact hyus _ (huC _ (List.mem_append_right _ (List.mem_flatMap.mpr ⟨w, g, List.mem_cons_self⟩)))
      · obtain ⟨w, hwm, hi⟩ := List.mem_flatMap.mp hi
        rcases List.mem_append.mp hwm with g | g
        · exact Or.inr (hws w (by rw [hl]; exact List.mem_append_left _ g) i hi)
        · rcases List.mem_cons.mp g with g | g
          · rw [g, hy22] at hi
            exact hyus _ (huC _ (List.mem_append_left _ hi))
          · rcases List.mem_append.mp g with g | g
            · exact hyus _ (huC _ (List.mem_append_right _ (List.mem_flatMap.mpr ⟨w, g, List.mem_cons_of_mem _ hi⟩)))
            · exact Or.inr (hws w (by rw [hl]; exact List.mem_append_right _ (List.mem_cons_of_mem _ g)) i hi)
    have hT2 : N_come (I_c w1 w2) e (h + 1) (l.map (V_er (h + 1))) = N_spl (h + 1) ((A ++ y2 :: (o.toList ++ B)).map (V_er (h + 1))) := by
      have hlm : l.map (V_er (h + 1)) = A.map (V_er (h + 1)) ++ V_er (h + 1) y :: B.map (V_er (h + 1)) := by rw [hl, List.map_append, List.map_cons]
      have hdn : (A.map (V_er (h + 1))).length = N_dn (I_c w1 w2) e h (A.map (V_er (h + 1)) ++ V_er (h + 1) y :: B.map (V_er (h + 1))) := by
        rw [← hlm, List.length_map, hAk, hk]
        unfold N_dn N_ms
        rw [← List.map_tail, List.map_map]
        rfl
      rw [hlm, N_come_s (I_c w1 w2) e hdn]
      have h2 : (V_er (h + 1) y).2 = y.2.map (V_er h) := rfl
      rw [h2, hTC]
      congr 1
      unfold N_ca
      rw [V_uo_toL, List.map_append, List.map_cons, List.map_append, hy2]
      rfl
    have hmid : ∀ M28, e_fr (R_C m ρ x (fun j => j = n)) M22 M28 → R_no ρ x n M28 0 (PA ++ p :: (o.toList.map (fun z : N_i V_W (h + 1) => (((V_n z.1 : Nat) : Int), ((V_s z.1 : Nat) : Int))) ++ PB)) → R_us ρ x M28 us1 → g_Run (d + (h + 1) + 43) 377 76 [(0, .ref m), (1, g_n x), (2, g_n n), (3, g_n s)] [] M28 (g_qI Q) := by
      intro M28 f28 hno28 hus28
      exact e_cend (d := d + (h + 1)) (us := us) (us2 := us1) (c := h + 1) (hR22.fr f28) hx hs (hD2 M28 f28 hno28) hnd hin hus28 (by omega) hnw2 (FC.tr (f28.up fun q q2 z => by
        rcases z with ⟨k', hk', z⟩ | z
        · exact Or.inl ⟨k', ⟨by rw [hk']; exact a1, Or.inl (by rw [hk']; exact V_ns_m (h + 1) n l)⟩, z⟩
        · exact Or.inr z)) hu2 hT2 hq
    rcases o with _ | z
    · refine ⟨fun _ => hmid M22 (e_fr.rf _ _) (by rw [hps] at hno22; exact hno22) husC, fun g => absurd rfl g⟩
    · obtain ⟨g1, g2, g3, g4⟩ := hoC z rfl
      have g5 := g1.lt
      have g6 := g2.1
      refine ⟨fun g => absurd g (show ¬ ((1 : Int) = 0) by decide), fun _ => ⟨⟨by omega, by omega⟩, ?_⟩⟩
      rw [g3, g4, show ((k : Nat) : Int) + 1 = (((PA ++ [p]).length : Nat) : Int) by rw [List.length_append, List.length_singleton]; omega]
      have hpp : ps = (PA ++ [p]) ++ PB := by rw [hps]; simp
      refine e_insertAt (d := d + (h + 1) + 41) (A := PA ++ [p]) (B := PB) hR22 hx a1 (by rw [← hpp]; exact hno22) (by rw [← hpp]; omega) ⟨by omega, by omega⟩ ⟨by omega, by omega⟩ (fun q hq2 => p2 q (by rw [hpp]; exact hq2)) fun M28 f28 hno28 => ?_
      intro _ _
      refine hmid M28 (f28.up fun q q2 z => R_C.A (A := fun j => j = n) rfl z) (by simpa using hno28) (husC.nA (A := fun j => j = n) hR22 (f28.up fun q q2 z => ⟨n, rfl, z⟩))
end RCOM2
