/-! SHELVES OF THE CLASS: documents are taken out; all are made anew -/
def Z_d (l : List (Bool × Int × List b_E)) : List (List b_E) := l.map fun z => z.2.2
def Z_k (l : List (Bool × Int × List b_E)) : List (Int × List b_E) := (l.filter fun z => not z.1).map fun z => z.2
theorem Z_k_app (A B : List (Bool × Int × List b_E)) : Z_k (A ++ B) = Z_k A ++ Z_k B := by
  unfold Z_k
  rw [List.filter_append, List.map_append]
theorem Z_k_1 (z : Bool × Int × List b_E) : Z_k [z] = if z.1 = true then [] else [z.2] := by
  unfold Z_k
  cases h : z.1 <;> simp [h]
theorem Z_d_app (A B : List (Bool × Int × List b_E)) : Z_d (A ++ B) = Z_d A ++ Z_d B := List.map_append
theorem Z_k_le : ∀ A : List (Bool × Int × List b_E), S_sum ((Z_k A).map Prod.snd) ≤ S_sum (Z_d A) ∧ (Z_k A).length ≤ A.length := by
  intro A
  induction A with
  | nil => exact ⟨Nat.le_refl _, Nat.le_refl _⟩
  | cons z A ih =>
    have h1 : Z_k (z :: A) = Z_k [z] ++ Z_k A := Z_k_app [z] A
    have h2 : Z_d (z :: A) = z.2.2 :: Z_d A := rfl
    rw [h1, h2, Z_k_1, S_sum_c, List.length_cons]
    by_cases g : z.1 = true
    · rw [if_pos g, List.nil_append]
      exact ⟨by omega, by omega⟩
    · rw [if_neg g, List.map_append, S_sum_app, List.map_singleton, S_sum_c, List.length_append, List.length_singleton]
      have : S_sum [] = 0 := rfl
      exact ⟨by omega, by omega⟩
theorem Z_k_sub {A : List (Bool × Int × List b_E)} {w : Int × List b_E} (h : w ∈ Z_k A) : w ∈ A.map fun z => z.2 := by
  obtain ⟨z, hz, rfl⟩ := List.mem_map.mp h
  exact List.mem_map.mpr ⟨z, (List.mem_filter.mp hz).1, rfl⟩
section HRM
variable {d sh b oh nh hi : Nat} {base gv : Int} {M : g_M} {zs : List (Bool × Int × List b_E)}
theorem c_sremove {Q : g_M → Prop} (h : H_sf sh b oh nh base (zs.map fun z => z.2) gv M) (hhi : g_A M hi 2 200) (hm : ∀ (i : Nat) (z : Bool × Int × List b_E), zs[i]? = some z → g_i M hi i = if z.1 = true then 1 else 0) (hq : ∀ M1, e_fr (H_sF sh b oh nh base) M M1 → H_sf sh b oh nh base (Z_k zs) gv M1 → Q M1) : g_Call (d + 2) 130 [.ref sh, .ref hi] M (g_qV Q) := by
  obtain ⟨⟨a1, a2, a3, a4, a5, a6, a7, a8⟩, ⟨b1, b2, b3⟩, ⟨d1, d2, d3, d4⟩, ⟨c1, c2, c3⟩, hok, hn⟩ := id h
  have nsb : sh ≠ b := g_neOA a1 a8
  have nso : sh ≠ oh := g_neOA a1 a5
  have nsn : sh ≠ nh := g_neOA a1 a6
  have nsh : sh ≠ hi := g_neOA a1 hhi
  have nbo : b ≠ oh := g_neAA a8 a5 (by omega)
  have nbn : b ≠ nh := g_neAA a8 a6 (by omega)
  have nbh : b ≠ hi := g_neAA a8 hhi (by omega)
  have noh : oh ≠ hi := g_neAA a5 hhi (by omega)
  have nnh : nh ≠ hi := g_neAA a6 hhi (by omega)
  have hzd : (zs.map fun z => z.2).map Prod.snd = Z_d zs := by rw [List.map_map]; rfl
  have hzf : (zs.map fun z => z.2).map Prod.fst = zs.map fun z => z.2.1 := by rw [List.map_map]; rfl
  rw [hzd] at c1 c2 hok d2 d4
  rw [hzf] at c3
  rw [List.length_map] at d1
  obtain ⟨ok1, ok2, ok3⟩ := hok
  have ok1 : (zs.map fun z => z.2.2).length ≤ 200 := ok1
  rw [List.length_map] at ok1
  have hokK : S_ok ((Z_k zs).map Prod.snd) := by
    obtain ⟨k1, k2⟩ := Z_k_le zs
    refine ⟨by rw [List.length_map]; omega, by omega, fun es he => ok3 es ?_⟩
    obtain ⟨w, hw, rfl⟩ := List.mem_map.mp he
    have := Z_k_sub hw
    obtain ⟨z, hz, rfl⟩ := List.mem_map.mp this
    exact List.mem_map.mpr ⟨z, hz, rfl⟩
  have hnK : ∀ z ∈ Z_k zs, g_InR z.1 := fun z hz => hn z (Z_k_sub hz)
  -- some of them are behind us
  have hlp : ∀ (B A : List (Bool × Int × List b_E)) (M1 : g_M), zs = A ++ B → e_fr (H_sF sh b oh nh base) M M1 → g_i M1 sh 1 = base → g_i M1 sh 6 = zs.length → g_i M1 sh 7 = S_sum ((Z_k A).map Prod.snd) → g_i M1 sh 8 = gv → g_i M1 sh 9 = base + (H_sb ((Z_k A).map Prod.snd)).length → b_at (g_i M1 b) base (H_sb ((Z_k A).map Prod.snd)) → b_at (g_i M1 b) (base + (H_sb (Z_d A)).length) (H_sb (Z_d B)) → b_at (g_i M1 oh) 0 (H_pls base ((Z_k A).map Prod.snd)) → b_at (g_i M1 oh) A.length (H_pls (base + (H_sb (Z_d A)).length) (Z_d B)) → b_at (g_i M1 nh) 0 ((Z_k A).map Prod.fst) → b_at (g_i M1 nh) A.length (B.map fun z => z.2.1) → g_Run (d + 1) 130 17 [(0, .ref sh), (1, .ref hi), (2, g_n (Z_k A).length), (3, g_n A.length)] [] M1 (g_qV Q) := by
    intro B
    induction B with
    | nil =>
      intro A M1 hz f s1 s6 s7 s8 s9 t1 t2 t3 t4 t5 t6
      rw [List.append_nil] at hz
      subst hz
      obtain ⟨k1, k2⟩ := Z_k_le zs
      refine s_X8_remove_17 ⟨by omega, by omega⟩ ⟨by omega, by omega⟩ fun _ => ⟨f.O a1, fun z => absurd z (by omega), fun _ => ?_⟩
      rintro M2 e2 _
      have f2 : e_fr (H_sF sh b oh nh base) M1 M2 := by
        rw [e2]
        exact e_fr.wi _ (Or.inl ⟨rfl, by omega⟩)
      have F2 := f.tr f2
      have g2 : ∀ (y : Nat) (k : Int), y ≠ sh ∨ k ≠ 6 → g_i M2 y k = g_i M1 y k := fun y k h1 => by rw [e2, g_i_wi, if_neg fun z => h1.elim (fun g => g z.1) fun g => g z.2]
      refine hq M2 F2 ⟨⟨F2.O a1, by rw [F2.2.2]; exact a2, by rw [F2.2.2]; exact a3, by rw [F2.2.2]; exact a4, F2.A a5, F2.A a6, a7, F2.A a8⟩, ⟨by rw [g2 sh 1 (Or.inr (by decide))]; exact s1, b2, b3⟩, ⟨by rw [e2, g_i_wi, if_pos ⟨rfl, rfl⟩], by rw [g2 sh 7 (Or.inr (by decide))]; exact s7, by rw [g2 sh 8 (Or.inr (by decide))]; exact s8, by rw [g2 sh 9 (Or.inr (by decide))]; exact s9⟩, ⟨b_at_keep t1 fun k _ _ => g2 b k (Or.inl nsb.symm), b_at_keep t3 fun k _ _ => g2 oh k (Or.inl nso.symm), b_at_keep t5 fun k _ _ => g2 nh k (Or.inl nsn.symm)⟩, hokK, hnK⟩
    | cons z B ih =>
      intro A M1 hz f s1 s6 s7 s8 s9 t1 t2 t3 t4 t5 t6
      have hll := congrArg List.length hz
      rw [List.length_append, List.length_cons] at hll
      obtain ⟨k1, k2⟩ := Z_k_le A
      have hKl := H_sb_len ((Z_k A).map Prod.snd)
      have hAl := H_sb_len (Z_d A)
      rw [List.length_map] at hKl
      have hdA : (Z_d A).length = A.length := List.length_map _
      rw [hdA] at hAl
      have hzi : zs[A.length]? = some z := by
        rw [hz, List.getElem?_append_right (Nat.le_refl _), Nat.sub_self]
        rfl
      have hmz := hm A.length z hzi
      have hmz1 : g_i M1 hi A.length = if z.1 = true then 1 else 0 := by
        rw [f.2.1 hi _ fun g => ?_]
        · exact hmz
        · rcases g with g | g | g | g
          · exact nsh g.1.symm
          · exact noh g.symm
          · exact nnh g.symm
          · exact nbh g.1.symm
      have hdz : Z_d (z :: B) = z.2.2 :: Z_d B := rfl
      rw [hdz, H_sb_c] at t2
      rw [hdz] at t4
      obtain ⟨t4a, t4b⟩ := b_cons.mp (show b_at (g_i M1 oh) A.length ((base + (H_sb (Z_d A)).length) :: H_pls (base + (H_sb (Z_d A)).length + (b_el 3 [] (b_doc z.2.2)).length) (Z_d B)) from t4)
      rw [List.map_cons] at t6
      obtain ⟨t6a, t6b⟩ := b_cons.mp t6
      obtain ⟨t2a, t2b⟩ := b_app.mp t2
      have hsumz : S_sum (Z_d zs) = S_sum (Z_d A) + ((b_doc z.2.2).length + S_sum (Z_d B)) := by
        rw [hz, Z_d_app, S_sum_app]
        show S_sum (Z_d A) + S_sum (z.2.2 :: Z_d B) = _
        rw [S_sum_c]
      obtain ⟨zl, zg⟩ := ok3 z.2.2 (by rw [hz, Z_d_app]; exact List.mem_append_right _ List.mem_cons_self)
      obtain ⟨p, hp⟩ : ∃ p : Int, p = base + (H_sb (Z_d A)).length := ⟨_, rfl⟩
      obtain ⟨en, hen⟩ : ∃ en : Int, en = base + (H_sb ((Z_k A).map Prod.snd)).length := ⟨_, rfl⟩
      rw [← hp] at t2a t2b t4a t4b
      rw [← hen] at s9
      have hlz := H_el_len z.2.2
      have hA1 : ((A ++ [z]).length : Int) = (A.length : Int) + 1 := by rw [List.length_append, List.length_singleton]; omega
      have hzA : zs = (A ++ [z]) ++ B := by rw [hz]; simp
      have hdA1 : Z_d (A ++ [z]) = Z_d A ++ [z.2.2] := Z_d_app A [z]
      have hsbA1 : ((H_sb (Z_d (A ++ [z]))).length : Int) = (H_sb (Z_d A)).length + (b_el 3 [] (b_doc z.2.2)).length := by
        rw [hdA1, H_sb_app, List.length_append, H_sb_c]
        show (((H_sb (Z_d A)).length + (b_el 3 [] (b_doc z.2.2) ++ []).length : Nat) : Int) = _
        rw [List.append_nil]
        omega
      refine s_X8_remove_17 ⟨by omega, by omega⟩ ⟨by omega, by omega⟩ fun _ => ⟨f.O a1, fun _ => ⟨200, f.A hhi, ⟨by decide, by decide⟩, fun _ => ⟨⟨by omega, by omega⟩, ?_⟩, fun z => absurd z (by omega)⟩, fun z => absurd (by omega) z⟩
      rw [hmz1]
      have hK1 := Z_k_app A [z]
      rw [Z_k_1] at hK1
      by_cases g : z.1 = true
      · rw [if_pos g]
        rw [if_pos g, List.append_nil] at hK1
        refine ⟨fun w => absurd w (by decide), fun _ => ⟨⟨by omega, by omega⟩, ?_⟩⟩
        have h9 := ih (A ++ [z]) M1 hzA f s1 s6 (by rw [hK1]; exact s7) s8 (by rw [hK1, s9]; exact hen) (by rw [hK1]; exact t1) (by
          rw [hsbA1, ← Int.add_assoc, ← hp]
          exact t2b) (by rw [hK1]; exact t3) (by
          rw [hsbA1, ← Int.add_assoc, ← hp, hA1]
          exact t4b) (by rw [hK1]; exact t5) (by rw [hA1]; exact t6b)
        rw [hA1, hK1] at h9
        exact h9
      · rw [if_neg g]
        rw [if_neg g] at hK1
        refine ⟨fun _ => ⟨b, by rw [f.2.2]; exact a2, oh, by rw [f.2.2]; exact a3, 200, f.A a5, ⟨by omega, by omega⟩, ?_⟩, fun w => absurd rfl w⟩
        rw [t4a]
        refine c_next (d := d) (f.A a8) (by decide) t2a (fun c hc => absurd hc (by simp)) (b_gv_vs (H_gv zg zl)) (by omega) (by omega) ?_
        intro _ _ _
        refine ⟨oh, by rw [f.2.2]; exact a3, 200, f.A a5, ⟨by omega, by omega⟩, ?_⟩
        rw [t4a, show p + ((b_el 3 [] (b_doc z.2.2)).length : Int) - p = (b_el 3 [] (b_doc z.2.2)).length by omega, s9]
        refine ⟨⟨by omega, by omega⟩, b, by rw [f.2.2]; exact a2, oh, by rw [f.2.2]; exact a3, 200, f.A a5, ⟨by omega, by omega⟩, b, by rw [f.2.2]; exact a2, 246408, f.A a8, 246408, f.A a8, ⟨by omega, by omega, by omega, by omega, by omega⟩, ?_⟩
        rintro M46 e46 _
        rw [t4a] at e46
        have f46 : e_fr (H_sF sh b oh nh base) M1 M46 := by
          rw [e46]
          exact ⟨rfl, fun y k hy => by rw [g_i_cp, if_neg fun w => hy (Or.inr (Or.inr (Or.inr ⟨w.1, by omega, by omega⟩)))], fun _ _ => rfl⟩
        have F46 := f.tr f46
        have s46 : ∀ (y : Nat) (k : Int), y ≠ b → g_i M46 y k = g_i M1 y k := fun y k h1 => by rw [e46, g_i_cp, if_neg fun w => h1 w.1]
        have hb46 : ∀ k, g_i M46 b k = if en ≤ k ∧ k < en + (b_el 3 [] (b_doc z.2.2)).length then g_i M1 b (p + (k - en)) else g_i M1 b k := fun k => by
          rw [e46, g_i_cp]
          by_cases g : en ≤ k ∧ k < en + (b_el 3 [] (b_doc z.2.2)).length
          · rw [if_pos ⟨rfl, g.1, g.2⟩, if_pos g]
          · rw [if_neg (fun w => g w.2), if_neg g]
        rw [s46 sh 9 nsb, s9]
        refine ⟨oh, by rw [F46.2.2]; exact a3, 200, F46.A a5, ⟨by omega, by omega⟩, ?_⟩
        rintro M55 e55 _
        have g55 : ∀ (y : Nat) (k : Int), y ≠ oh ∨ k ≠ (Z_k A).length → g_i M55 y k = g_i M46 y k := fun y k h1 => by rw [e55, g_i_wi, if_neg fun w => h1.elim (fun g => g w.1) fun g => g w.2]
        have f55 : e_fr (H_sF sh b oh nh base) M46 M55 := by
          rw [e55]
          exact e_fr.wi _ (Or.inr (Or.inl rfl))
        have F55 := F46.tr f55
        refine ⟨nh, by rw [F55.2.2]; exact a4, nh, by rw [F55.2.2]; exact a4, 200, F55.A a6, ⟨by omega, by omega⟩, 200, F55.A a6, ⟨by omega, by omega⟩, ?_⟩
        rw [g55 nh _ (Or.inl a7.symm), s46 nh _ nbn.symm, t6a]
        rintro M69 e69 _
        have g69 : ∀ (y : Nat) (k : Int), y ≠ nh ∨ k ≠ (Z_k A).length → g_i M69 y k = g_i M55 y k := fun y k h1 => by rw [e69, g_i_wi, if_neg fun w => h1.elim (fun g => g w.1) fun g => g w.2]
        have f69 : e_fr (H_sF sh b oh nh base) M55 M69 := by
          rw [e69]
          exact e_fr.wi _ (Or.inr (Or.inr (Or.inl rfl)))
        have F69 := F55.tr f69
        rw [g69 sh 9 (Or.inl nsn), g55 sh 9 (Or.inl nso), s46 sh 9 nsb, s9]
        refine ⟨⟨by omega, by omega⟩, ?_⟩
        rintro M74 e74 _
        have g74 : ∀ (y : Nat) (k : Int), y ≠ sh ∨ k ≠ 9 → g_i M74 y k = g_i M69 y k := fun y k h1 => by rw [e74, g_i_wi, if_neg fun w => h1.elim (fun g => g w.1) fun g => g w.2]
        have f74 : e_fr (H_sF sh b oh nh base) M69 M74 := by
          rw [e74]
          exact e_fr.wi _ (Or.inl ⟨rfl, by omega⟩)
        have h774 : g_i M74 sh 7 = S_sum ((Z_k A).map Prod.snd) := by
          rw [g74 sh 7 (Or.inr (by decide)), g69 sh 7 (Or.inl nsn), g55 sh 7 (Or.inl nso), s46 sh 7 nsb]
          exact s7
        rw [h774]
        refine ⟨⟨by omega, by omega⟩, ⟨by omega, by omega⟩, ?_⟩
        rintro M80 e80 _
        have g80 : ∀ (y : Nat) (k : Int), y ≠ sh ∨ k ≠ 7 → g_i M80 y k = g_i M74 y k := fun y k h1 => by rw [e80, g_i_wi, if_neg fun w => h1.elim (fun g => g w.1) fun g => g w.2]
        have f80 : e_fr (H_sF sh b oh nh base) M74 M80 := by
          rw [e80]
          exact e_fr.wi _ (Or.inl ⟨rfl, by omega⟩)
        have F80 := (F69.tr f74).tr f80
        have q80 : ∀ k, k ≠ 7 → k ≠ 9 → g_i M80 sh k = g_i M1 sh k := fun k h1 h2 => by rw [g80 sh k (Or.inr h1), g74 sh k (Or.inr h2), g69 sh k (Or.inl nsn), g55 sh k (Or.inl nso), s46 sh k nsb]
        have q80b : ∀ k, g_i M80 b k = g_i M46 b k := fun k => by rw [g80 b k (Or.inl nsb.symm), g74 b k (Or.inl nsb.symm), g69 b k (Or.inl nbn), g55 b k (Or.inl nbo)]
        have q80o : ∀ k, g_i M80 oh k = if k = (Z_k A).length then en else g_i M1 oh k := fun k => by
          rw [g80 oh k (Or.inl nso.symm), g74 oh k (Or.inl nso.symm), g69 oh k (Or.inl a7), e55, g_i_wi]
          by_cases g : k = (Z_k A).length
          · rw [if_pos ⟨rfl, g⟩, if_pos g]
          · rw [if_neg (fun w => g w.2), if_neg g, s46 oh k nbo.symm]
        have q80n : ∀ k, g_i M80 nh k = if k = (Z_k A).length then z.2.1 else g_i M1 nh k := fun k => by
          rw [g80 nh k (Or.inl nsn.symm), g74 nh k (Or.inl nsn.symm), e69, g_i_wi]
          by_cases g : k = (Z_k A).length
          · rw [if_pos ⟨rfl, g⟩, if_pos g]
          · rw [if_neg (fun w => g w.2), if_neg g, g55 nh k (Or.inl a7.symm), s46 nh k nbn.symm]
        refine ⟨⟨by omega, by omega⟩, ⟨by omega, by omega⟩, ?_⟩
        have hsK : (Z_k (A ++ [z])).map Prod.snd = (Z_k A).map Prod.snd ++ [z.2.2] := by rw [hK1, List.map_append]; rfl
        have hfK : (Z_k (A ++ [z])).map Prod.fst = (Z_k A).map Prod.fst ++ [z.2.1] := by rw [hK1, List.map_append]; rfl
        have hlK : ((Z_k (A ++ [z])).length : Int) = ((Z_k A).length : Int) + 1 := by rw [hK1, List.length_append, List.length_singleton]; omega
        have h1z : H_sb [z.2.2] = b_el 3 [] (b_doc z.2.2) := by
          rw [H_sb_c]
          exact List.append_nil _
        have h9 := ih (A ++ [z]) M80 hzA (f.tr (((((f46.tr f55).tr f69).tr f74).tr f80))) (by rw [q80 1 (by decide) (by decide)]; exact s1) (by rw [q80 6 (by decide) (by decide)]; exact s6) (by
          rw [e80, g_i_wi, if_pos ⟨rfl, rfl⟩, hsK, S_sum_app, S_sum_c]
          show _ = ((S_sum ((Z_k A).map Prod.snd) + ((b_doc z.2.2).length + 0) : Nat) : Int)
          omega) (by rw [q80 8 (by decide) (by decide)]; exact s8) (by
          rw [g80 sh 9 (Or.inr (by decide)), e74, g_i_wi, if_pos ⟨rfl, rfl⟩, hsK, H_sb_app, List.length_append, h1z]
          omega) (by
          rw [hsK, H_sb_app, h1z]
          refine b_app.mpr ⟨b_at_keep t1 fun k k1 k2 => by rw [q80b, hb46, if_neg (by omega)], ?_⟩
          rw [← hen]
          have hm2 := b_at_move (B2 := g_i M80 b) (s := en - p) t2a fun k k1 k2 => by
            rw [q80b, hb46, if_pos ⟨by omega, by omega⟩]
            congr 1
            omega
          rwa [show p + (en - p) = en by omega] at hm2) (by
          rw [hsbA1, ← Int.add_assoc, ← hp]
          exact b_at_keep t2b fun k k1 k2 => by rw [q80b, hb46, if_neg (by omega)]) (by
          rw [hsK, H_pls_app]
          refine b_app.mpr ⟨b_at_keep t3 fun k k1 k2 => ?_, ?_⟩
          · rw [H_pls_len, List.length_map] at k2
            rw [q80o, if_neg (by omega)]
          · rw [H_pls_len, List.length_map, ← hen]
            refine b_cons.mpr ⟨?_, b_nil _ _⟩
            rw [q80o, if_pos (by omega)]) (by
          rw [hsbA1, ← Int.add_assoc, ← hp, hA1]
          exact b_at_keep t4b fun k k1 k2 => by rw [q80o, if_neg (by omega)]) (by
          rw [hfK]
          refine b_app.mpr ⟨b_at_keep t5 fun k k1 k2 => ?_, ?_⟩
          · rw [List.length_map] at k2
            rw [q80n, if_neg (by omega)]
          · rw [List.length_map]
            refine b_cons.mpr ⟨?_, b_nil _ _⟩
            rw [q80n, if_pos (by omega)]) (by
          rw [hA1]
          exact b_at_keep t6b fun k k1 k2 => by rw [q80n, if_neg (by omega)])
        rw [hA1, hlK] at h9
        exact h9
  refine m_X8_remove fun _ => ⟨a1, ?_⟩
  rintro M2 e2 _ M6 e6 _
  have g2 : ∀ (y : Nat) (k : Int), y ≠ sh ∨ k ≠ 9 → g_i M2 y k = g_i M y k := fun y k h1 => by rw [e2, g_i_wi, if_neg fun w => h1.elim (fun g => g w.1) fun g => g w.2]
  have g6 : ∀ (y : Nat) (k : Int), y ≠ sh ∨ k ≠ 7 → g_i M6 y k = g_i M2 y k := fun y k h1 => by rw [e6, g_i_wi, if_neg fun w => h1.elim (fun g => g w.1) fun g => g w.2]
  have f6 : e_fr (H_sF sh b oh nh base) M M6 := by
    rw [e6, e2]
    exact (e_fr.wi _ (Or.inl ⟨rfl, by omega⟩)).tr (e_fr.wi _ (Or.inl ⟨rfl, by omega⟩))
  have ho : ∀ (y : Nat) (k : Int), y ≠ sh → g_i M6 y k = g_i M y k := fun y k h1 => by rw [g6 y k (Or.inl h1), g2 y k (Or.inl h1)]
  have h9 := hlp zs [] M6 rfl f6 (by rw [g6 sh 1 (Or.inr (by decide)), g2 sh 1 (Or.inr (by decide))]; exact b1) (by rw [g6 sh 6 (Or.inr (by decide)), g2 sh 6 (Or.inr (by decide))]; exact d1) (by rw [e6, g_i_wi, if_pos ⟨rfl, rfl⟩]; rfl) (by rw [g6 sh 8 (Or.inr (by decide)), g2 sh 8 (Or.inr (by decide))]; exact d3) (by
    rw [g6 sh 9 (Or.inr (by decide)), e2, g_i_wi, if_pos ⟨rfl, rfl⟩, b1]
    show base = base + ((0 : Nat) : Int)
    omega) (b_nil _ _) (by
    show b_at _ (base + ((0 : Nat) : Int)) _
    rw [show base + ((0 : Nat) : Int) = base by omega]
    exact b_at_keep c1 fun k _ _ => ho b k nsb.symm) (b_nil _ _) (by
    show b_at _ ((0 : Nat) : Int) (H_pls (base + ((0 : Nat) : Int)) _)
    rw [show base + ((0 : Nat) : Int) = base by omega]
    exact b_at_keep c2 fun k _ _ => ho oh k nso.symm) (b_nil _ _) (b_at_keep c3 fun k _ _ => ho nh k nsn.symm)
  exact h9
theorem c_srenew {Q : g_M → Prop} {pa : Nat} {ds ds2 : List (Int × List b_E)} (h : H_sf sh b oh nh base ds gv M) (hpa : g_A M pa 1 200) (hpo : pa ≠ oh ∧ pa ≠ nh) (hfst : ds2.map Prod.fst = ds.map Prod.fst) (hok2 : S_ok (ds2.map Prod.snd)) (hp : ∀ (i : Nat) (z : Int × List b_E), ds2[i]? = some z → b_st (g_i M b) 246408 (g_i M pa i) 16 3 [] (b_doc z.2) ∧ 82808 ≤ g_i M pa i) (hq : ∀ M1, e_fr (H_sF sh b oh nh base) M M1 → H_sf sh b oh nh base ds2 gv M1 → Q M1) : g_Call (d + 2) 131 [.ref sh, .ref pa] M (g_qV Q) := by
  obtain ⟨⟨a1, a2, a3, a4, a5, a6, a7, a8⟩, ⟨b1, b2, b3⟩, ⟨d1, d2, d3, d4⟩, ⟨c1, c2, c3⟩, hok, hn⟩ := id h
  have nsb : sh ≠ b := g_neOA a1 a8
  have nso : sh ≠ oh := g_neOA a1 a5
  have nsn : sh ≠ nh := g_neOA a1 a6
  have nsp : sh ≠ pa := g_neOA a1 hpa
  have nbo : b ≠ oh := g_neAA a8 a5 (by omega)
  have nbn : b ≠ nh := g_neAA a8 a6 (by omega)
  have nbp : b ≠ pa := g_neAA a8 hpa (by omega)
  have hdl : ds2.length = ds.length := by
    have := congrArg List.length hfst
    rwa [List.length_map, List.length_map] at this
  have hn2 : ∀ z ∈ ds2, g_InR z.1 := fun z hz => by
    have : z.1 ∈ ds.map Prod.fst := by
      rw [← hfst]
      exact List.mem_map.mpr ⟨z, hz, rfl⟩
    obtain ⟨w, hw, e⟩ := List.mem_map.mp this
    rw [← e]
    exact hn w hw
  have hok2c := hok2
  obtain ⟨ok1, ok2, ok3⟩ := hok2
  rw [List.length_map] at ok1
  have hlp : ∀ (B A : List (Int × List b_E)) (M1 : g_M), ds2 = A ++ B → e_fr (H_sF sh b oh nh base) M M1 → g_i M1 sh 1 = base → g_i M1 sh 6 = ds2.length → g_i M1 sh 7 = S_sum (A.map Prod.snd) → g_i M1 sh 8 = gv → g_i M1 sh 9 = base + (H_sb (A.map Prod.snd)).length → b_at (g_i M1 b) base (H_sb (A.map Prod.snd)) → b_at (g_i M1 oh) 0 (H_pls base (A.map Prod.snd)) → b_at (g_i M1 nh) 0 (ds2.map Prod.fst) → g_Run (d + 1) 131 15 [(0, .ref sh), (1, .ref pa), (2, g_n A.length)] [] M1 (g_qV Q) := by
    intro B
    induction B with
    | nil =>
      intro A M1 hz f s1 s6 s7 s8 s9 t1 t3 t5
      rw [List.append_nil] at hz
      subst hz
      refine s_X8_renew_15 ⟨by omega, by omega⟩ fun _ => ⟨f.O a1, fun z => absurd z (by omega), fun _ => ?_⟩
      exact hq M1 f ⟨⟨f.O a1, by rw [f.2.2]; exact a2, by rw [f.2.2]; exact a3, by rw [f.2.2]; exact a4, f.A a5, f.A a6, a7, f.A a8⟩, ⟨s1, b2, b3⟩, ⟨s6, s7, s8, s9⟩, ⟨t1, t3, t5⟩, hok2c, hn2⟩
    | cons z B ih =>
      intro A M1 hz f s1 s6 s7 s8 s9 t1 t3 t5
      have hll := congrArg List.length hz
      rw [List.length_append, List.length_cons] at hll
      have hKl := H_sb_len (A.map Prod.snd)
      rw [List.length_map] at hKl
      have hzi : ds2[A.length]? = some z := by
        rw [hz, List.getElem?_append_right (Nat.le_refl _), Nat.sub_self]
        rfl
      obtain ⟨p, hpp⟩ : ∃ p : Int, p = g_i M pa A.length := ⟨_, rfl⟩
      obtain ⟨en, hen⟩ : ∃ en : Int, en = base + (H_sb (A.map Prod.snd)).length := ⟨_, rfl⟩
      obtain ⟨st1, st2⟩ := hp A.length z hzi
      rw [← hpp] at st1 st2
      have hp1 : g_i M1 pa A.length = p := by
        rw [hpp]
        refine f.2.1 pa _ fun g => ?_
        rcases g with g | g | g | g
        · exact nsp g.1.symm
        · exact hpo.1 g
        · exact hpo.2 g
        · exact nbp g.1.symm
      have hbk : ∀ k, 82808 ≤ k → g_i M1 b k = g_i M b k := fun k hk => f.2.1 b k fun g => by
        rcases g with g | g | g | g
        · exact nsb g.1.symm
        · exact nbo g
        · exact nbn g
        · omega
      have st1' := b_at_keep (B2 := g_i M1 b) st1.1 fun k k1 k2 => hbk k (by omega)
      have st5 := st1.2.2.2.2
      have hsumz : S_sum (ds2.map Prod.snd) = S_sum (A.map Prod.snd) + ((b_doc z.2).length + S_sum (B.map Prod.snd)) := by
        rw [hz, List.map_append, S_sum_app, List.map_cons, S_sum_c]
      obtain ⟨zl, zg⟩ := ok3 z.2 (List.mem_map.mpr ⟨z, by rw [hz]; simp, rfl⟩)
      rw [← hen] at s9
      have hlz := H_el_len z.2
      have hA1 : ((A ++ [z]).length : Int) = (A.length : Int) + 1 := by rw [List.length_append, List.length_singleton]; omega
      have hzA : ds2 = (A ++ [z]) ++ B := by rw [hz]; simp
      have h1z : H_sb [z.2] = b_el 3 [] (b_doc z.2) := by
        rw [H_sb_c]
        exact List.append_nil _
      refine s_X8_renew_15 ⟨by omega, by omega⟩ fun _ => ⟨f.O a1, fun _ => ⟨200, f.A hpa, ⟨by decide, by decide⟩, fun _ => ⟨b, by rw [f.2.2]; exact a2, ⟨by omega, by omega⟩, ?_⟩, fun z => absurd z (by omega)⟩, fun z => absurd (by omega) z⟩
      rw [hp1]
      refine c_next (d := d) (f.A a8) (by decide) st1' (fun c hc => absurd hc (by simp)) (b_gv_vs st1.2.2.1) (by omega) (by omega) ?_
      intro _ _ _
      rw [hp1, show p + ((b_el 3 [] (b_doc z.2)).length : Int) - p = (b_el 3 [] (b_doc z.2)).length by omega, s9]
      refine ⟨⟨by omega, by omega⟩, ⟨by omega, by omega⟩, b, by rw [f.2.2]; exact a2, ⟨by omega, by omega⟩, b, by rw [f.2.2]; exact a2, 246408, f.A a8, 246408, f.A a8, ⟨by omega, by omega, by omega, by omega, by omega⟩, ?_⟩
      rintro M46 e46 _
      have f46 : e_fr (H_sF sh b oh nh base) M1 M46 := by
        rw [e46]
        exact ⟨rfl, fun y k hy => by rw [g_i_cp, if_neg fun w => hy (Or.inr (Or.inr (Or.inr ⟨w.1, by omega, by omega⟩)))], fun _ _ => rfl⟩
      have F46 := f.tr f46
      have s46 : ∀ (y : Nat) (k : Int), y ≠ b → g_i M46 y k = g_i M1 y k := fun y k h1 => by rw [e46, g_i_cp, if_neg fun w => h1 w.1]
      have hb46 : ∀ k, g_i M46 b k = if en ≤ k ∧ k < en + (b_el 3 [] (b_doc z.2)).length then g_i M1 b (p + (k - en)) else g_i M1 b k := fun k => by
        rw [e46, g_i_cp]
        by_cases g : en ≤ k ∧ k < en + (b_el 3 [] (b_doc z.2)).length
        · rw [if_pos ⟨rfl, g.1, g.2⟩, if_pos g]
        · rw [if_neg (fun w => g w.2), if_neg g]
      rw [s46 sh 9 nsb, s9]
      refine ⟨oh, by rw [F46.2.2]; exact a3, 200, F46.A a5, ⟨by omega, by omega⟩, ?_⟩
      rintro M55 e55 _
      have g55 : ∀ (y : Nat) (k : Int), y ≠ oh ∨ k ≠ A.length → g_i M55 y k = g_i M46 y k := fun y k h1 => by rw [e55, g_i_wi, if_neg fun w => h1.elim (fun g => g w.1) fun g => g w.2]
      have f55 : e_fr (H_sF sh b oh nh base) M46 M55 := by
        rw [e55]
        exact e_fr.wi _ (Or.inr (Or.inl rfl))
      rw [g55 sh 9 (Or.inl nso), s46 sh 9 nsb, s9]
      refine ⟨⟨by omega, by omega⟩, ?_⟩
      rintro M74 e74 _
      have g74 : ∀ (y : Nat) (k : Int), y ≠ sh ∨ k ≠ 9 → g_i M74 y k = g_i M55 y k := fun y k h1 => by rw [e74, g_i_wi, if_neg fun w => h1.elim (fun g => g w.1) fun g => g w.2]
      have f74 : e_fr (H_sF sh b oh nh base) M55 M74 := by
        rw [e74]
        exact e_fr.wi _ (Or.inl ⟨rfl, by omega⟩)
      have h774 : g_i M74 sh 7 = S_sum (A.map Prod.snd) := by
        rw [g74 sh 7 (Or.inr (by decide)), g55 sh 7 (Or.inl nso), s46 sh 7 nsb]
        exact s7
      rw [h774]
      refine ⟨⟨by omega, by omega⟩, ⟨by omega, by omega⟩, ?_⟩
      rintro M80 e80 _
      have g80 : ∀ (y : Nat) (k : Int), y ≠ sh ∨ k ≠ 7 → g_i M80 y k = g_i M74 y k := fun y k h1 => by rw [e80, g_i_wi, if_neg fun w => h1.elim (fun g => g w.1) fun g => g w.2]
      have f80 : e_fr (H_sF sh b oh nh base) M74 M80 := by
        rw [e80]
        exact e_fr.wi _ (Or.inl ⟨rfl, by omega⟩)
      have q80 : ∀ k, k ≠ 7 → k ≠ 9 → g_i M80 sh k = g_i M1 sh k := fun k h1 h2 => by rw [g80 sh k (Or.inr h1), g74 sh k (Or.inr h2), g55 sh k (Or.inl nso), s46 sh k nsb]
      have q80b : ∀ k, g_i M80 b k = g_i M46 b k := fun k => by rw [g80 b k (Or.inl nsb.symm), g74 b k (Or.inl nsb.symm), g55 b k (Or.inl nbo)]
      have q80o : ∀ k, g_i M80 oh k = if k = A.length then en else g_i M1 oh k := fun k => by
        rw [g80 oh k (Or.inl nso.symm), g74 oh k (Or.inl nso.symm), e55, g_i_wi]
        by_cases g : k = A.length
        · rw [if_pos ⟨rfl, g⟩, if_pos g]
        · rw [if_neg (fun w => g w.2), if_neg g, s46 oh k nbo.symm]
      have q80n : ∀ k, g_i M80 nh k = g_i M1 nh k := fun k => by rw [g80 nh k (Or.inl nsn.symm), g74 nh k (Or.inl nsn.symm), g55 nh k (Or.inl a7.symm), s46 nh k nbn.symm]
      refine ⟨⟨by omega, by omega⟩, ?_⟩
      have h9 := ih (A ++ [z]) M80 hzA (f.tr (((f46.tr f55).tr f74).tr f80)) (by rw [q80 1 (by decide) (by decide)]; exact s1) (by rw [q80 6 (by decide) (by decide)]; exact s6) (by
        rw [e80, g_i_wi, if_pos ⟨rfl, rfl⟩, List.map_append, S_sum_app, List.map_singleton, S_sum_c]
        show _ = ((S_sum (A.map Prod.snd) + ((b_doc z.2).length + 0) : Nat) : Int)
        omega) (by rw [q80 8 (by decide) (by decide)]; exact s8) (by
        rw [g80 sh 9 (Or.inr (by decide)), e74, g_i_wi, if_pos ⟨rfl, rfl⟩, List.map_append, H_sb_app, List.length_append, List.map_singleton, h1z]
        omega) (by
        rw [List.map_append, H_sb_app, List.map_singleton, h1z]
        refine b_app.mpr ⟨b_at_keep t1 fun k k1 k2 => by rw [q80b, hb46, if_neg (by omega)], ?_⟩
        rw [← hen]
        have hm2 := b_at_move (B2 := g_i M80 b) (s := en - p) st1' fun k k1 k2 => by
          rw [q80b, hb46, if_pos ⟨by omega, by omega⟩]
          congr 1
          omega
        rwa [show p + (en - p) = en by omega] at hm2) (by
        rw [List.map_append, H_pls_app]
        refine b_app.mpr ⟨b_at_keep t3 fun k k1 k2 => ?_, ?_⟩
        · rw [H_pls_len, List.length_map] at k2
          rw [q80o, if_neg (by omega)]
        · rw [H_pls_len, List.length_map, ← hen]
          refine b_cons.mpr ⟨?_, b_nil _ _⟩
          rw [q80o, if_pos (by omega)]) (b_at_keep t5 fun k _ _ => q80n k)
      rw [hA1] at h9
      exact h9
  refine m_X8_renew fun _ => ⟨a1, ?_⟩
  rintro M2 e2 _ M6 e6 _
  have g2 : ∀ (y : Nat) (k : Int), y ≠ sh ∨ k ≠ 9 → g_i M2 y k = g_i M y k := fun y k h1 => by rw [e2, g_i_wi, if_neg fun w => h1.elim (fun g => g w.1) fun g => g w.2]
  have g6 : ∀ (y : Nat) (k : Int), y ≠ sh ∨ k ≠ 7 → g_i M6 y k = g_i M2 y k := fun y k h1 => by rw [e6, g_i_wi, if_neg fun w => h1.elim (fun g => g w.1) fun g => g w.2]
  have f6 : e_fr (H_sF sh b oh nh base) M M6 := by
    rw [e6, e2]
    exact (e_fr.wi _ (Or.inl ⟨rfl, by omega⟩)).tr (e_fr.wi _ (Or.inl ⟨rfl, by omega⟩))
  have ho : ∀ (y : Nat) (k : Int), y ≠ sh → g_i M6 y k = g_i M y k := fun y k h1 => by rw [g6 y k (Or.inl h1), g2 y k (Or.inl h1)]
  have h9 := hlp ds2 [] M6 rfl f6 (by rw [g6 sh 1 (Or.inr (by decide)), g2 sh 1 (Or.inr (by decide))]; exact b1) (by rw [g6 sh 6 (Or.inr (by decide)), g2 sh 6 (Or.inr (by decide)), hdl]; exact d1) (by rw [e6, g_i_wi, if_pos ⟨rfl, rfl⟩]; rfl) (by rw [g6 sh 8 (Or.inr (by decide)), g2 sh 8 (Or.inr (by decide))]; exact d3) (by
    rw [g6 sh 9 (Or.inr (by decide)), e2, g_i_wi, if_pos ⟨rfl, rfl⟩, b1]
    show base = base + ((0 : Nat) : Int)
    omega) (b_nil _ _) (b_nil _ _) (by rw [hfst]; exact b_at_keep c3 fun k _ _ => ho nh k nsn.symm)
  exact h9
end HRM
