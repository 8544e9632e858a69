/-! TREES OF THE CLASS: two neighbours are joined -/
section CJN
variable {d t j i : Nat} {w1 w2 : Int} {FS us FN ns R R' : List Nat}
def B_jA (n : Nat) (k : Nat) (q : Int) : Prop := (k = 4 ∧ 9 * (n : Int) ≤ q ∧ q < 9 * n + 9) ∨ B_mA n k q ∨ k = 2
theorem B_jA_nav {n m : Nat} (h : m ≠ n) : B_nav (B_jA n) m := by
  obtain ⟨a1, a2, a3⟩ := B_mA_nav h
  refine ⟨fun q q1 q2 => ⟨fun z => ?_, fun z => ?_⟩, fun z => ?_, fun z => ?_⟩
  · rcases z with ⟨-, z1, z2⟩ | z | z
    · omega
    · exact (a1 q q1 q2).1 z
    · omega
  · rcases z with ⟨z, -⟩ | z | z
    · omega
    · exact (a1 q q1 q2).2 z
    · omega
  · rcases z with ⟨z, -⟩ | z | z
    · omega
    · exact a2 z
    · omega
  · rcases z with ⟨z, -⟩ | z | z
    · omega
    · exact a3 z
    · omega
theorem B_jA_sav (n s : Nat) : B_sav (B_jA n) s := by
  refine ⟨fun q _ _ z => ?_, fun z => ?_⟩
  · rcases z with ⟨z, -⟩ | ⟨z, -⟩ | z <;> omega
  · rcases z with ⟨z, -⟩ | ⟨z, -⟩ | z <;> omega
theorem c_join {Q : g_M → Prop} {h n : Nat} {A B : List (N_i V_W (h + 1))} {u v : N_i V_W (h + 1)} {S : B_S} {M : g_M} (hB : B_t t S M) (ha : B_all S j i FS us FN ns w1 w2) (hD : C_D S (h + 1) n (A ++ u :: v :: B)) (hun : u.2 ≠ []) (hvn : v.2 ≠ []) (huv : u.2.length + v.2.length ≤ 8) (hl8 : (A ++ u :: v :: B).length ≤ 8) (hpu : us.Perm (V_us (h + 1) (A ++ u :: v :: B) ++ R)) (hpn : ns.Perm (V_ns (h + 1) n (A ++ u :: v :: B) ++ R')) (h16 : 0 ≤ S.2.2 16 ∧ S.2.2 16 ≤ 1000) (h17 : 0 ≤ S.2.2 17 ∧ S.2.2 17 ≤ 1000) (hq : ∀ (FS1 us1 FN1 ns1 : List Nat) (S1 : B_S) (M1 : g_M), B_t t S1 M1 → B_Fc t j i j i M M1 → B_ag (V_A R' R) V_G4 S S1 → B_all S1 j i FS1 us1 FN1 ns1 w1 w2 → us1.Perm (V_us (h + 1) (A ++ (N_mk h u.1 (u.2 ++ V_hd h v.1 v.2) :: [] ++ B)) ++ R) → ns1.Perm (V_ns (h + 1) n (A ++ (N_mk h u.1 (u.2 ++ V_hd h v.1 v.2) :: [] ++ B)) ++ R') → C_D S1 (h + 1) n (A ++ (N_mk h u.1 (u.2 ++ V_hd h v.1 v.2) :: [] ++ B)) → S1.2.2 17 = S.2.2 17 - 1 → S1.2.2 16 = S.2.2 16 - V_f h → us1.length ≤ us.length → ns.length = ns1.length + 1 → Q M1) : g_Call (d + 4) 191 [.ref t, g_n n, g_n A.length] M (g_qV Q) := by
  obtain ⟨d1, d2, d3, d4⟩ := C_D_s.mp hD
  have hum : u ∈ A ++ u :: v :: B := List.mem_append_right _ List.mem_cons_self
  have hvm : v ∈ A ++ u :: v :: B := List.mem_append_right _ (List.mem_cons_of_mem _ List.mem_cons_self)
  have hvt : v ∈ (A ++ u :: v :: B).tail := by
    cases A with
    | nil => exact List.mem_cons_self
    | cons a A => exact List.mem_append_right _ (List.mem_cons_of_mem _ List.mem_cons_self)
  have Du := d4 u hum
  have Dv := d4 v hvm
  rw [List.length_append, List.length_cons, List.length_cons] at hl8
  obtain ⟨⟨n_u, n_v, u_v⟩, ⟨oA, oB, ou, ov, oR⟩, iA, iu, iv, iB, inn, iR⟩ := V_nbF ha hpn
  have hnlm : V_n u.1 ∈ V_ns h (V_n u.1) u.2 := V_ns_m h _ _
  have hnrm : V_n v.1 ∈ V_ns h (V_n v.1) v.2 := V_ns_m h _ _
  have hnlt := ha.2.1.lt inn
  have hnllt := ha.2.1.lt (iu _ hnlm)
  have hnrlt := ha.2.1.lt (iv _ hnrm)
  obtain ⟨l4, l5, l6, l7, lN⟩ := id ha.ln
  have iuu : ∀ s ∈ V_us h u.2, s ∈ us := fun s hs => hpu.mem_iff.mpr (List.mem_append_left _ (List.mem_append_right _ (List.mem_flatMap.mpr ⟨u, hum, hs⟩)))
  have ivu : ∀ s ∈ V_us h v.2, s ∈ us := fun s hs => hpu.mem_iff.mpr (List.mem_append_left _ (List.mem_append_right _ (List.mem_flatMap.mpr ⟨v, hvm, hs⟩)))
  obtain ⟨nou, lu⟩ := Du.no
  obtain ⟨nov, lv⟩ := Dv.no
  have hul := List.length_pos_iff.mpr hun
  have hvl := List.length_pos_iff.mpr hvn
  obtain ⟨P, hP⟩ : ∃ P, P = V_ts h (A ++ [u]) := ⟨_, rfl⟩
  have hPl : P.length = A.length := by rw [hP, V_ts_len, List.length_append, List.length_singleton]; rfl
  have htsp : V_ts h (A ++ u :: v :: B) = P ++ V_s v.1 :: B.map fun z => V_s z.1 := by rw [V_ts_cut, ← hP]; rfl
  obtain ⟨u', hu'⟩ : ∃ u', u' = N_mk h u.1 (u.2 ++ V_hd h v.1 v.2) := ⟨_, rfl⟩
  have eu1 : u'.1 = u.1 := by rw [hu']; rfl
  have eu2 : u'.2 = u.2 ++ V_hd h v.1 v.2 := by rw [hu']; rfl
  rw [← hu'] at hq
  have hlk : (u.2 ++ V_hd h v.1 v.2).map (V_k h) = u.2.map (V_k h) ++ v.2.map (V_k h) := by rw [List.map_append, V_hd_k]
  have hvu : V_s v.1 ∈ V_us (h + 1) (A ++ u :: v :: B) := List.mem_append_left _ (List.mem_map.mpr ⟨v, hvt, rfl⟩)
  have hf01 : V_f h = 0 ∨ V_f h = 1 := by
    unfold V_f
    split
    · exact Or.inr rfl
    · exact Or.inl rfl
  -- from the joined rows on
  have hend : ∀ (S3 : B_S) (M3 : g_M) (FS3 us3 : List Nat), B_t t S3 M3 → B_F t 0 0 M M3 → B_all S3 j i FS3 us3 FN ns w1 w2 → B_ag (B_jA (V_n u.1)) (fun k => k = 3) S S3 → b_at (S3.2.1 4) (9 * (V_n u.1 : Int)) (B_il (u.2.map (V_k h) ++ v.2.map (V_k h))) → b_at (S3.2.1 5) (9 * (V_n u.1 : Int)) (B_il (V_m h (u.2 ++ V_hd h v.1 v.2))) → us3.Perm (V_us (h + 1) (A ++ (u' :: [] ++ B)) ++ R) → us3.length ≤ us.length → g_Run (d + 3) 191 142 [(0, .ref t), (1, g_n n), (2, g_n A.length), (3, g_n ((n : Int) * 9 + A.length)), (4, g_n (V_n u.1)), (5, g_n (V_n v.1)), (6, g_n u.2.length)] [] M3 (g_qV Q) := by
    intro S3 M3 FS3 us3 t3 f3 a3 g3 hk3 hm3 pu3 lu3
    obtain ⟨m4, m5, m6, m7, mN⟩ := id a3.ln
    have nor : B_no S3 (V_n v.1) (V_f h) (v.2.map (V_k h)) (V_m h v.2) := nov.ag ha.ln hnrlt (by rw [List.length_map]; exact lv) (by have := V_m_len h v.2; omega) g3 (B_jA_nav u_v.symm).1 (B_jA_nav u_v.symm).2.1 (B_jA_nav u_v.symm).2.2
    have nop : B_no S3 n 0 ((A ++ u :: v :: B).map (V_k (h + 1))) (P ++ V_s v.1 :: B.map fun z => V_s z.1) := by
      rw [← htsp]
      exact d1.ag ha.ln hnlt (by rw [List.length_map]; exact d2) (by rw [V_ts_len]; omega) g3 (B_jA_nav n_u).1 (B_jA_nav n_u).2.1 (B_jA_nav n_u).2.2
    have hlf : S3.2.1 7 (V_n u.1) = V_f h := by
      rw [g3.2.1 7 _ (fun z => by rcases z with ⟨z, -⟩ | ⟨z, -⟩ | z <;> omega) (by omega) (by omega)]
      exact nou.1
    obtain ⟨cn, c1, c2, c3⟩ := t3.at (k := 6) (by decide)
    have c2 : g_A M3 cn 1 (S3.1 6) := c2
    have hcv : g_i M3 cn (V_n v.1) = v.2.length := by rw [c3 _ (by omega) (by omega), nor.2.1, List.length_map]
    refine s_X10_join_142 ⟨by omega, by omega⟩ ⟨by omega, by omega⟩ ⟨by omega, by omega⟩ ⟨by omega, by omega⟩ ⟨by omega, by omega⟩ ⟨by omega, by omega⟩ fun _ => ⟨t3.1, cn, c1, cn, c1, S3.1 6, c2, ⟨by omega, by omega⟩, ?_⟩
    rw [hcv]
    refine ⟨⟨by omega, by omega⟩, S3.1 6, c2, ⟨by omega, by omega⟩, fun M13 e13 _ => ?_⟩
    obtain ⟨t4, f4⟩ := t3.set (k := 6) (by decide) c1 (V_n u.1 : Int) ((u.2.length : Int) + v.2.length)
    rw [← e13] at t4 f4
    obtain ⟨mk, q1, q2, -⟩ := t4.at (k := 5) (by decide)
    have q2 : g_A M13 mk 1 (S3.1 5) := q2
    obtain ⟨cn4, x1, x2, x3⟩ := t4.at (k := 6) (by decide)
    have x2 : g_A M13 cn4 1 (S3.1 6) := x2
    have hcp : g_i M13 cn4 n = (A.length + (B.length + 2) : Nat) := by
      rw [x3 _ (by omega) (by show _ < S3.1 6; omega), B_set_v, if_neg (by omega), nop.2.1, List.length_map, List.length_append, List.length_cons, List.length_cons]
    refine ⟨mk, q1, ⟨by omega, by omega⟩, mk, q1, cn4, x1, S3.1 6, x2, ⟨by omega, by omega⟩, ?_⟩
    rw [hcp]
    refine ⟨⟨by omega, by omega⟩, ⟨by omega, by omega⟩, S3.1 5, q2, S3.1 5, q2, ⟨by omega, by omega, by omega, by omega, by omega⟩, fun M34 e34 _ => ⟨⟨by omega, by omega⟩, ?_⟩⟩
    obtain ⟨t5, f5⟩ := t4.cpy (k := 5) (k1 := 5) (sp := (n : Int) * 9 + A.length + 1) (dp := (n : Int) * 9 + A.length) (n := ((A.length + (B.length + 2) : Nat) : Int) - 2 - A.length) (by decide) (by decide) q1 q1 (by omega) (by show _ ≤ S3.1 5; omega)
    rw [← e34] at t5 f5
    obtain ⟨S5, hS5⟩ : ∃ S5, S5 = B_cp (B_set S3 6 (V_n u.1 : Int) ((u.2.length : Int) + v.2.length)) 5 5 ((n : Int) * 9 + A.length + 1) ((n : Int) * 9 + A.length) (((A.length + (B.length + 2) : Nat) : Int) - 2 - A.length) := ⟨_, rfl⟩
    rw [← hS5] at t5
    have hv : ∀ (k2 : Nat) (q : Int), S5.2.1 k2 q = if k2 = 5 ∧ (n : Int) * 9 + A.length ≤ q ∧ q < (n : Int) * 9 + A.length + (((A.length + (B.length + 2) : Nat) : Int) - 2 - A.length) then S3.2.1 5 ((n : Int) * 9 + A.length + 1 + (q - ((n : Int) * 9 + A.length))) else if k2 = 6 ∧ q = V_n u.1 then (u.2.length : Int) + v.2.length else S3.2.1 k2 q := fun k2 q => by
      rw [hS5, B_cp_v, B_set_v, B_set_v, if_neg (show ¬ ((5 : Nat) = 6 ∧ _) by omega)]
    have g5 : B_ag (fun k q => B_mA n k q ∨ (k = 6 ∧ q = V_n u.1)) B_0 S3 S5 := ⟨fun k2 => by rw [hS5]; exact Int.le_refl _, fun k2 q hA _ _ => by
      rw [hv, if_neg fun z => hA (Or.inl ⟨z.1, by omega, by omega⟩), if_neg fun z => hA (Or.inr z)], fun k2 _ => by rw [hS5]; rfl⟩
    have a5 : B_all S5 j i FS3 us3 FN ns w1 w2 := a3.ag g5 (by rw [hS5]; rfl) (fun q z => by rcases z with ⟨z, -⟩ | ⟨z, -⟩ <;> omega) (fun q z => by rcases z with ⟨z, -⟩ | ⟨z, -⟩ <;> omega) (fun z => z) (fun z => z) (fun z => z) fun z => z
    have hks : (A ++ u :: v :: B).map (V_k (h + 1)) = (A.map (V_k (h + 1)) ++ [V_n u.1]) ++ V_n v.1 :: B.map (V_k (h + 1)) := by
      rw [List.map_append, List.map_cons, List.map_cons, List.append_assoc]
      rfl
    have n5 : B_no S5 n 0 ((A.map (V_k (h + 1)) ++ [V_n u.1]) ++ V_n v.1 :: B.map (V_k (h + 1))) (P ++ B.map fun z => V_s z.1) := by
      rw [hks] at nop
      obtain ⟨b1, b2, b3, b4⟩ := nop
      refine ⟨?_, ?_, b_at_keep b3 fun q _ _ => ?_, ?_⟩
      · rw [hv, if_neg (by omega), if_neg (by omega)]
        exact b1
      · rw [hv, if_neg (by omega), if_neg (by omega)]
        exact b2
      · rw [hv, if_neg (by omega), if_neg (by omega)]
      · rw [B_il_app, B_il_c] at b4
        rw [B_il_app]
        refine b_at_out b4 (fun q i0 i1 => ?_) fun q i0 i1 => ?_
        · rw [B_il_len, hPl] at i1
          rw [hv, if_neg (by omega), if_neg (by omega)]
        · rw [B_il_len, List.length_map] at i1
          rw [B_il_len, hPl, hv, if_pos ⟨rfl, by omega, by omega⟩]
          exact congrArg (S3.2.1 5) (by omega)
    have hArg : ((A.map (V_k (h + 1)) ++ [V_n u.1]).length : Int) = (A.length : Int) + 1 := by
      rw [List.length_append, List.length_map, List.length_singleton]
      omega
    rw [← hArg]
    refine c_removeKid (d := d + 2) (N := B_cn i) t5 a5.ln hnlt n5 (by simp only [List.length_append, List.length_map, List.length_cons, List.length_nil]; omega) (by rw [List.length_append, hPl, List.length_map]; omega) fun S6 M6 t6 f6 g6 e6 n6 => ?_
    intro _ _
    have a6 := a5.ag g6 e6 (fun q z => by rcases z with ⟨z, -⟩ | ⟨z, -⟩ <;> omega) (fun q z => by rcases z with ⟨z, -⟩ | ⟨z, -⟩ <;> omega) (fun z => z) (fun z => z) (fun z => z) fun z => z
    have hrlf : S6.2.1 7 (V_n v.1) = V_f h := by
      rw [g6.2.1 7 _ (fun z => by rcases z with ⟨z, -⟩ | ⟨z, -⟩ <;> omega) (by omega) (by have := a5.ln.2.2.2.1; omega), hv, if_neg (by omega), if_neg (by omega)]
      exact nor.1
    obtain ⟨n0, hn0⟩ : ∃ n0, n0 = V_ns (h + 1) n (A ++ (u' :: [] ++ B)) ++ R' := ⟨_, rfl⟩
    have hpn0 : ns.Perm (V_n v.1 :: n0) := hpn.trans (List.perm_iff_count.mpr fun a => by
      rw [hn0, V_ns_e (h + 1), V_ns_e (h + 1), V_nk_app, V_nk_app, V_nk_app, V_nk_c, V_nk_c, V_nk_c, eu1, eu2, V_ns_e h, V_ns_e h, V_ns_e h, V_nk_a, V_hd_nk]
      show _ = List.count a (V_n v.1 :: (n :: (V_nk (h + 1) A ++ ((V_n u.1 :: (V_nk h u.2 ++ V_nk h v.2)) ++ [] ++ V_nk (h + 1) B)) ++ R'))
      simp only [List.count_append, List.count_cons, List.count_nil]
      omega)
    have hf6 : ∀ k, ¬ k = 3 → S6.2.2 k = S.2.2 k := fun k hk => by rw [g6.2.2 k fun z => z, g5.2.2 k fun z => z, g3.2.2 k hk]
    refine c_freeNodeA (d := d + 2) t6 a6 hpn0 hrlf hf01 (by rw [hf6 16 (by decide)]; exact h16) (by rw [hf6 17 (by decide)]; exact h17) fun S7 M7 t7 f7 g7 e7 a7 k17 k16 => ?_
    intro _ _
    have g37 : B_ag (fun k q => B_mA n k q ∨ (k = 6 ∧ q = V_n u.1) ∨ B_kA n k q ∨ k = 8) V_G4 S3 S7 := ((g5.up (fun k q z => z.elim Or.inl fun z => Or.inr (Or.inl z)) fun k z => z.elim).tr (g6.up (fun k q z => Or.inr (Or.inr (Or.inl z))) fun k z => z.elim)).tr (g7.up (fun k q z => Or.inr (Or.inr (Or.inr z))) fun k z => by
      rcases z with z | z | z
      · exact Or.inr (Or.inl z)
      · exact Or.inr (Or.inr (Or.inl z))
      · exact Or.inr (Or.inr (Or.inr z)))
    have nav37 : ∀ m, m ≠ n → m ≠ V_n u.1 → B_nav (fun k q => B_mA n k q ∨ (k = 6 ∧ q = V_n u.1) ∨ B_kA n k q ∨ k = 8) m := fun m q1 q2 => by
      obtain ⟨b1, b2, b3⟩ := B_mA_nav q1
      obtain ⟨c1, c2, c3⟩ := B_kA_nav q1
      exact ⟨fun q q1 q2 => ⟨fun z => z.elim (b1 q q1 q2).1 fun z => z.elim (fun z => by omega) fun z => z.elim (c1 q q1 q2).1 fun z => by omega, fun z => z.elim (b1 q q1 q2).2 fun z => z.elim (fun z => by omega) fun z => z.elim (c1 q q1 q2).2 fun z => by omega⟩, fun z => z.elim b2 fun z => z.elim (fun z => by omega) fun z => z.elim c2 fun z => by omega, fun z => z.elim b3 fun z => z.elim (fun z => by omega) fun z => z.elim c3 fun z => by omega⟩
    have sav37 : ∀ s, B_sav (fun k q => B_mA n k q ∨ (k = 6 ∧ q = V_n u.1) ∨ B_kA n k q ∨ k = 8) s := fun s => by
      obtain ⟨b1, b2⟩ := B_mA_sav n s
      obtain ⟨c1, c2⟩ := B_kA_sav n s
      exact ⟨fun q q1 q2 z => z.elim (b1 q q1 q2) fun z => z.elim (fun z => by omega) fun z => z.elim (c1 q q1 q2) fun z => by omega, fun z => z.elim b2 fun z => z.elim (fun z => by omega) fun z => z.elim c2 fun z => by omega⟩
    have G : B_ag (fun k q => B_jA (V_n u.1) k q ∨ B_mA n k q ∨ (k = 6 ∧ q = V_n u.1) ∨ B_kA n k q ∨ k = 8) V_G4 S S7 := (g3.up (fun k q z => Or.inl z) fun k z => Or.inl z).tr (g37.up (fun k q z => Or.inr z) fun k z => z)
    have nav : ∀ m, m ≠ n ∧ m ≠ V_n u.1 ∧ m ≠ V_n v.1 → B_nav (fun k q => B_jA (V_n u.1) k q ∨ B_mA n k q ∨ (k = 6 ∧ q = V_n u.1) ∨ B_kA n k q ∨ k = 8) m := fun m hm => by
      obtain ⟨b1, b2, b3⟩ := B_jA_nav hm.2.1
      obtain ⟨c1, c2, c3⟩ := nav37 m hm.1 hm.2.1
      exact ⟨fun q q1 q2 => ⟨fun z => z.elim (b1 q q1 q2).1 (c1 q q1 q2).1, fun z => z.elim (b1 q q1 q2).2 (c1 q q1 q2).2⟩, fun z => z.elim b2 c2, fun z => z.elim b3 c3⟩
    have sav : ∀ s, B_sav (fun k q => B_jA (V_n u.1) k q ∨ B_mA n k q ∨ (k = 6 ∧ q = V_n u.1) ∨ B_kA n k q ∨ k = 8) s := fun s => by
      obtain ⟨b1, b2⟩ := B_jA_sav (V_n u.1) s
      obtain ⟨c1, c2⟩ := sav37 s
      exact ⟨fun q q1 q2 z => z.elim (b1 q q1 q2) (c1 q q1 q2), fun z => z.elim b2 c2⟩
    have way : ∀ q : Int, ¬ (B_jA (V_n u.1) 10 q ∨ B_mA n 10 q ∨ ((10 : Nat) = 6 ∧ q = V_n u.1) ∨ B_kA n 10 q ∨ (10 : Nat) = 8) ∧ ¬ (B_jA (V_n u.1) 11 q ∨ B_mA n 11 q ∨ ((11 : Nat) = 6 ∧ q = V_n u.1) ∨ B_kA n 11 q ∨ (11 : Nat) = 8) := fun q => by
      constructor
      · rintro ((⟨z, -⟩ | ⟨z, -⟩ | z) | ⟨z, -⟩ | ⟨z, -⟩ | (⟨z, -⟩ | ⟨z, -⟩) | z) <;> omega
      · rintro ((⟨z, -⟩ | ⟨z, -⟩ | z) | ⟨z, -⟩ | ⟨z, -⟩ | (⟨z, -⟩ | ⟨z, -⟩) | z) <;> omega
    have n7 : B_no S7 n 0 ((A.map (V_k (h + 1)) ++ [V_n u.1]) ++ B.map (V_k (h + 1))) (P ++ B.map fun z => V_s z.1) := n6.ag a6.ln hnlt (by simp only [List.length_append, List.length_map, List.length_cons, List.length_nil]; omega) (by rw [List.length_append, hPl, List.length_map]; omega) g7 (B_8_nav n).1 (B_8_nav n).2.1 (B_8_nav n).2.2
    have hmlen := V_m_len h (u.2 ++ V_hd h v.1 v.2)
    rw [List.length_append, V_hd_len] at hmlen
    have nl7 : B_no S7 (V_n u.1) (V_f h) ((u.2 ++ V_hd h v.1 v.2).map (V_k h)) (V_m h (u.2 ++ V_hd h v.1 v.2)) := by
      rw [hlk]
      have nl5 : B_no S5 (V_n u.1) (V_f h) (u.2.map (V_k h) ++ v.2.map (V_k h)) (V_m h (u.2 ++ V_hd h v.1 v.2)) := by
        refine ⟨?_, ?_, b_at_keep hk3 fun q _ _ => ?_, b_at_keep hm3 fun q q1 q2 => ?_⟩
        · rw [hv, if_neg (by omega), if_neg (by omega)]
          exact hlf
        · rw [hv, if_neg (by omega), if_pos ⟨rfl, rfl⟩, List.length_append, List.length_map, List.length_map]
          omega
        · rw [hv, if_neg (by omega), if_neg (by omega)]
        · rw [B_il_len] at q2
          rw [hv, if_neg (by omega), if_neg (by omega)]
      have hl : (u.2.map (V_k h) ++ v.2.map (V_k h)).length ≤ 9 := by rw [List.length_append, List.length_map, List.length_map]; omega
      exact (nl5.ag a5.ln hnllt hl (by omega) g6 (B_kA_nav n_u.symm).1 (B_kA_nav n_u.symm).2.1 (B_kA_nav n_u.symm).2.2).ag a6.ln hnllt hl (by omega) g7 (B_8_nav (V_n u.1)).1 (B_8_nav (V_n u.1)).2.1 (B_8_nav (V_n u.1)).2.2
    have htsn : V_ts h (A ++ (u' :: [] ++ B)) = P ++ B.map fun z => V_s z.1 := by
      rw [V_ts_nb h A [] B (u := u) (y := u') (by rw [eu1]), ← hP]
      rfl
    have uin : ∀ s ∈ V_us (h + 1) (A ++ u :: v :: B), (s : Int) < B_cs j := fun s hs => ha.1.lt (hpu.mem_iff.mpr (List.mem_append_left _ hs))
    have hku : ∀ m ∈ V_nk h u.2, (m : Int) < B_cn i ∧ B_nav (fun k q => B_jA (V_n u.1) k q ∨ B_mA n k q ∨ (k = 6 ∧ q = V_n u.1) ∨ B_kA n k q ∨ k = 8) m := fun m hm => ⟨ha.2.1.lt (iu m (by rw [V_ns_e]; exact List.mem_cons_of_mem _ hm)), nav m (ou m hm)⟩
    have hkv : ∀ m ∈ V_nk h v.2, (m : Int) < B_cn i ∧ B_nav (fun k q => B_jA (V_n u.1) k q ∨ B_mA n k q ∨ (k = 6 ∧ q = V_n u.1) ∨ B_kA n k q ∨ k = 8) m := fun m hm => ⟨ha.2.1.lt (iv m (by rw [V_ns_e]; exact List.mem_cons_of_mem _ hm)), nav m (ov m hm)⟩
    refine hq FS3 us3 (FN ++ [V_n v.1]) n0 S7 M7 t7 (((((f3.tr0 f4).tr0 f5).tr0 f6).tr0 f7).c j i) (G.up (V_A.of (fun m hm => nav m (oR m hm)) (fun s _ => sav s) way) fun k z => z) a7 pu3 (by rw [hn0]) (hD.nb (N := B_cn i) (U := B_cs j) ha.ln ha.uu (fun m hm => ⟨ha.2.1.lt (hm.elim (iA m) (iB m)), nav m (hm.elim (oA m) (oB m))⟩) (fun s hs => ⟨uin s ?_, sav s⟩) G ?_ eu1 ?_ (fun z hz => absurd hz (by simp)) fun z hz => ?_) (by rw [k17, hf6 17 (by decide)]) (by rw [k16, hf6 16 (by decide)]) lu3 (by rw [hpn0.length_eq, List.length_cons])
    · rw [V_us_k, htsp, V_uk_app, V_uk_c, V_uk_c, ← hP] at *
      rcases hs with z | z | z | z
      · exact List.mem_append_left _ (List.mem_append_left _ z)
      · exact List.mem_append_left _ (List.mem_append_right _ (List.mem_cons_of_mem _ z))
      · exact List.mem_append_right _ (List.mem_append_left _ z)
      · exact List.mem_append_right _ (List.mem_append_right _ (List.mem_append_right _ (List.mem_append_right _ z)))
    · rw [V_map_nb h A [] B u', htsn, eu1]
      rw [List.append_assoc] at n7
      exact n7
    · rw [List.length_append, List.length_append, List.length_cons, List.length_nil]
      omega
    · have : z = u' := List.mem_singleton.mp hz
      rw [this, eu1, eu2]
      cases h with
      | zero =>
        refine C_D_0.mpr ⟨nl7, by rw [List.length_append, V_hd_len]; omega, fun x hx => ?_⟩
        rcases List.mem_append.mp hx with g | g
        · have hxu : V_k 0 x ∈ V_us 0 u.2 := List.mem_map.mpr ⟨x, g, rfl⟩
          exact (Du.2.2 x g).ag ha.uu (ha.1.lt (iuu _ hxu)) G (sav _)
        · have g : x ∈ v.2 := g
          have hxu : V_k 0 x ∈ V_us 0 v.2 := List.mem_map.mpr ⟨x, g, rfl⟩
          exact (Dv.2.2 x g).ag ha.uu (ha.1.lt (ivu _ hxu)) G (sav _)
      | succ h =>
        obtain ⟨z0, r0, hz0⟩ : ∃ z0 r0, v.2 = z0 :: r0 := by
          cases hv2 : v.2 with
          | nil => exact absurd hv2 hvn
          | cons z0 r0 => exact ⟨z0, r0, rfl⟩
        have hhd : V_hd (h + 1) v.1 v.2 = N_mk h ((V_s v.1, V_n z0.1), V_e v.1) z0.2 :: r0 := by rw [hz0]; rfl
        have hkid : ∀ (x : N_i V_W (h + 1)) (l : List (N_i V_W (h + 1))), x ∈ l → (∀ m ∈ V_nk (h + 1) l, (m : Int) < B_cn i ∧ B_nav (fun k q => B_jA (V_n u.1) k q ∨ B_mA n k q ∨ (k = 6 ∧ q = V_n u.1) ∨ B_kA n k q ∨ k = 8) m) → (∀ s ∈ V_us (h + 1) l, s ∈ us) → C_D S h (V_n x.1) x.2 → C_D S7 h (V_n x.1) x.2 := fun x l hx h1 h2 hC => hC.ag ha.ln ha.uu (fun m hm => (h1 m (List.mem_flatMap.mpr ⟨x, hx, hm⟩)).1) (fun s hs => ha.1.lt (h2 s (List.mem_append_right _ (List.mem_flatMap.mpr ⟨x, hx, hs⟩)))) G (fun m hm => (h1 m (List.mem_flatMap.mpr ⟨x, hx, hm⟩)).2) fun s _ => sav s
        refine C_D_s.mpr ⟨nl7, by rw [List.length_append, V_hd_len]; omega, fun x hx => ?_, fun x hx => ?_⟩
        · have hxc : x ∈ u.2.tail ∨ x ∈ V_hd (h + 1) v.1 v.2 := by
            cases hu2 : u.2 with
            | nil => exact absurd hu2 hun
            | cons a U =>
              rw [hu2] at hx
              exact List.mem_append.mp (show x ∈ U ++ V_hd (h + 1) v.1 v.2 from hx)
          rcases hxc with g | g
          · have hxu : V_s x.1 ∈ V_us (h + 1) u.2 := List.mem_append_left _ (List.mem_map.mpr ⟨x, g, rfl⟩)
            exact (Du.2.2.1 x g).ag ha.uu (ha.1.lt (iuu _ hxu)) G (sav _)
          · rw [hhd] at g
            rcases List.mem_cons.mp g with g | g
            · rw [g]
              exact (d3 v hvt).ag ha.uu (uin _ hvu) G (sav _)
            · have hxt : x ∈ v.2.tail := by rw [hz0]; exact g
              have hxu : V_s x.1 ∈ V_us (h + 1) v.2 := List.mem_append_left _ (List.mem_map.mpr ⟨x, hxt, rfl⟩)
              exact (Dv.2.2.1 x hxt).ag ha.uu (ha.1.lt (ivu _ hxu)) G (sav _)
        · rcases List.mem_append.mp hx with g | g
          · exact hkid x u.2 g hku iuu (Du.2.2.2 x g)
          · rw [hhd] at g
            rcases List.mem_cons.mp g with g | g
            · rw [g]
              have hm0 : z0 ∈ v.2 := by rw [hz0]; exact List.mem_cons_self
              exact hkid z0 v.2 hm0 hkv ivu (Dv.2.2.2 z0 hm0)
            · have hm0 : x ∈ v.2 := by rw [hz0]; exact List.mem_cons_of_mem _ g
              exact hkid x v.2 hm0 hkv ivu (Dv.2.2.2 x hm0)
  -- the kids come
  obtain ⟨kd, k1, k2, k3⟩ := hB.at (k := 4) (by decide)
  obtain ⟨cn, c1, c2, c3⟩ := hB.at (k := 6) (by decide)
  have k2 : g_A M kd 1 (S.1 4) := k2
  have c2 : g_A M cn 1 (S.1 6) := c2
  have hks : (A ++ u :: v :: B).map (V_k (h + 1)) = A.map (V_k (h + 1)) ++ V_n u.1 :: V_n v.1 :: B.map (V_k (h + 1)) := by
    rw [List.map_append, List.map_cons, List.map_cons]
    rfl
  have hkA := d1.2.2.1
  rw [hks, B_il_app, B_il_c, B_il_c] at hkA
  obtain ⟨-, hkA⟩ := b_app.mp hkA
  obtain ⟨hku, hkA⟩ := b_cons.mp hkA
  obtain ⟨hkv, -⟩ := b_cons.mp hkA
  rw [B_il_len, List.length_map] at hku hkv
  have hkuv : g_i M kd ((n : Int) * 9 + A.length) = V_n u.1 := by
    rw [k3 _ (by omega) (by omega)]
    exact (congrArg (S.2.1 4) (by omega)).trans hku
  have hkvv : g_i M kd ((n : Int) * 9 + A.length + 1) = V_n v.1 := by
    rw [k3 _ (by omega) (by omega)]
    exact (congrArg (S.2.1 4) (by omega)).trans hkv
  have hcu : g_i M cn (V_n u.1) = u.2.length := by rw [c3 _ (by omega) (by omega), nou.2.1, List.length_map]
  have hcw : g_i M cn (V_n v.1) = v.2.length := by rw [c3 _ (by omega) (by omega), nov.2.1, List.length_map]
  refine m_X10_join ⟨by omega, by omega⟩ ⟨by omega, by omega⟩ fun _ => ⟨⟨by omega, by omega⟩, ⟨by omega, by omega⟩, hB.1, kd, k1, S.1 4, k2, ⟨by omega, by omega⟩, kd, k1, ⟨by omega, by omega⟩, S.1 4, k2, ⟨by omega, by omega⟩, cn, c1, S.1 6, c2, ?_⟩
  rw [hkuv, hkvv]
  refine ⟨⟨by omega, by omega⟩, kd, k1, ⟨by omega, by omega⟩, kd, k1, ⟨by omega, by omega⟩, ?_⟩
  rw [hcu]
  refine ⟨⟨by omega, by omega⟩, cn, c1, S.1 6, c2, ⟨by omega, by omega⟩, S.1 4, k2, S.1 4, k2, ?_⟩
  rw [hcw]
  refine ⟨⟨by omega, by omega, by omega, by omega, by omega⟩, fun M37 e37 _ => ?_⟩
  obtain ⟨t1, f1⟩ := hB.cpy (k := 4) (k1 := 4) (sp := (V_n v.1 : Int) * 9) (dp := (V_n u.1 : Int) * 9 + u.2.length) (n := v.2.length) (by decide) (by decide) k1 k1 (by omega) (by omega)
  rw [← e37] at t1 f1
  obtain ⟨S1, hS1⟩ : ∃ S1, S1 = B_cp S 4 4 ((V_n v.1 : Int) * 9) ((V_n u.1 : Int) * 9 + u.2.length) v.2.length := ⟨_, rfl⟩
  rw [← hS1] at t1
  have hv1 : ∀ (k2 : Nat) (q : Int), S1.2.1 k2 q = if k2 = 4 ∧ (V_n u.1 : Int) * 9 + u.2.length ≤ q ∧ q < (V_n u.1 : Int) * 9 + u.2.length + v.2.length then S.2.1 4 ((V_n v.1 : Int) * 9 + (q - ((V_n u.1 : Int) * 9 + u.2.length))) else S.2.1 k2 q := fun k2 q => by
    rw [hS1, B_cp_v]
  have e1 : S1.1 = S.1 := by rw [hS1]; rfl
  have g1 : B_ag (B_jA (V_n u.1)) (fun k => k = 3) S S1 := ⟨fun k2 => by rw [e1]; exact Int.le_refl _, fun k2 q hA _ _ => by
    rw [hv1, if_neg fun z => hA (Or.inl ⟨z.1, by omega, by omega⟩)], fun k2 _ => by rw [hS1]; rfl⟩
  have a1 : B_all S1 j i FS us FN ns w1 w2 := ha.ag (A := fun k q => k = 4) (G := B_0) ⟨fun k2 => by rw [e1]; exact Int.le_refl _, fun k2 q hA _ _ => by
    rw [hv1, if_neg fun z => hA z.1], fun k2 _ => by rw [hS1]; rfl⟩ e1 (fun q z => absurd (show (2 : Nat) = 4 from z) (by decide)) (fun q z => absurd (show (8 : Nat) = 4 from z) (by decide)) (fun z => z) (fun z => z) (fun z => z) fun z => z
  have hk1 : b_at (S1.2.1 4) (9 * (V_n u.1 : Int)) (B_il (u.2.map (V_k h) ++ v.2.map (V_k h))) := by
    rw [B_il_app]
    refine b_app.mpr ⟨b_at_keep nou.2.2.1 fun q q1 q2 => ?_, fun q w hq2 => ?_⟩
    · rw [B_il_len, List.length_map] at q2
      rw [hv1, if_neg (by omega)]
    · have := (List.getElem?_eq_some_iff.mp hq2).1
      rw [B_il_len, List.length_map] at this
      rw [B_il_len, List.length_map, hv1, if_pos ⟨rfl, by omega, by omega⟩]
      exact (congrArg (S.2.1 4) (by omega)).trans (nov.2.2.1 q w hq2)
  obtain ⟨lf, p1, p2, p3⟩ := t1.at (k := 7) (by decide)
  have p2 : g_A M37 lf 2 (S1.1 7) := p2
  refine ⟨lf, p1, S1.1 7, p2, ⟨by omega, by rw [e1]; omega⟩, ?_⟩
  rw [p3 _ (by omega) (by rw [e1]; omega), hv1, if_neg (by omega), nou.1]
  obtain ⟨mk, q1, q2, q3⟩ := t1.at (k := 5) (by decide)
  have q2 : g_A M37 mk 1 (S1.1 5) := q2
  have hmv : g_i M37 mk ((n : Int) * 9 + A.length) = V_s v.1 := by
    rw [q3 _ (by omega) (by rw [e1]; omega), hv1, if_neg (by omega)]
    have hm := d1.2.2.2
    rw [htsp] at hm
    have := hm A.length (V_s v.1) (by
      unfold B_il
      rw [List.getElem?_map, List.getElem?_append_right (by omega), hPl, Nat.sub_self]
      rfl)
    exact (congrArg (S.2.1 5) (by omega)).trans this
  have htsn : V_ts h (A ++ (u' :: [] ++ B)) = P ++ B.map fun z => V_s z.1 := by
    rw [V_ts_nb h A [] B (u := u) (y := u') (by rw [eu1]), ← hP]
    rfl
  cases h with
  | zero =>
    refine ⟨fun z => absurd z (by decide), fun _ => ⟨mk, q1, S1.1 5, q2, ⟨by omega, by rw [e1]; omega⟩, ?_⟩⟩
    rw [hmv]
    have hpu0 : us.Perm (V_s v.1 :: (V_us 1 (A ++ (u' :: [] ++ B)) ++ R)) := hpu.trans (List.perm_iff_count.mpr fun a => by
      rw [V_us_k, V_us_k, htsp, htsn, V_uk_app, V_uk_app, V_uk_app, V_uk_c, V_uk_c, V_uk_c, eu2, V_us_0 (u.2 ++ V_hd 0 v.1 v.2), hlk]
      show List.count a (P ++ V_s v.1 :: (B.map fun z => V_s z.1) ++ (V_uk 0 A ++ (u.2.map (V_k 0) ++ (v.2.map (V_k 0) ++ V_uk 0 B))) ++ R) = List.count a (V_s v.1 :: (P ++ (B.map fun z => V_s z.1) ++ (V_uk 0 A ++ ((u.2.map (V_k 0) ++ v.2.map (V_k 0)) ++ [] ++ V_uk 0 B)) ++ R))
      simp only [List.count_append, List.count_cons, List.count_nil]
      omega)
    refine c_freeSlotA (d := d + 2) t1 a1 hpu0 fun S3 M3 t3 f3 g3 e3 a3 => ?_
    intro _ _
    refine hend S3 M3 _ _ t3 (f1.tr0 f3) a3 (g1.tr (g3.up (fun k q z => Or.inr (Or.inr z)) fun k z => z)) (b_at_keep hk1 fun q q1 q2 => ?_) (b_nil _ _) (List.Perm.refl _) (by rw [hpu0.length_eq, List.length_cons]; omega)
    rw [B_il_len, List.length_append, List.length_map, List.length_map] at q2
    exact g3.2.1 4 q (fun z => absurd (show (4 : Nat) = 2 from z) (by decide)) (by omega) (by rw [e1]; omega)
  | succ h =>
    obtain ⟨z0, r0, hz0⟩ : ∃ z0 r0, v.2 = z0 :: r0 := by
      cases hv2 : v.2 with
      | nil => exact absurd hv2 hvn
      | cons z0 r0 => exact ⟨z0, r0, rfl⟩
    have hhd : V_hd (h + 1) v.1 v.2 = N_mk h ((V_s v.1, V_n z0.1), V_e v.1) z0.2 :: r0 := by rw [hz0]; rfl
    have hvl2 : v.2.length = r0.length + 1 := by rw [hz0, List.length_cons]
    have hvts : V_ts h v.2 = r0.map fun z => V_s z.1 := by rw [hz0]; rfl
    have hutl : (V_ts h u.2).length = u.2.length - 1 := V_ts_len h u.2
    have hmm : V_m (h + 1) (u.2 ++ V_hd (h + 1) v.1 v.2) = V_ts h u.2 ++ V_s v.1 :: r0.map fun z => V_s z.1 := by
      show V_ts h (u.2 ++ V_hd (h + 1) v.1 v.2) = _
      rw [hhd]
      cases hu2 : u.2 with
      | nil => exact absurd hu2 hun
      | cons a U =>
        show (U ++ _ :: r0).map _ = U.map _ ++ _
        rw [List.map_append, List.map_cons]
        rfl
    refine ⟨fun _ => ⟨mk, q1, ⟨by omega, by omega⟩, ⟨by omega, by omega⟩, ⟨by omega, by omega⟩, mk, q1, S1.1 5, q2, ⟨by omega, by rw [e1]; omega⟩, S1.1 5, q2, ⟨by omega, by rw [e1]; omega⟩, ?_⟩, fun z => absurd rfl z⟩
    rw [hmv]
    intro M59 e59 _
    obtain ⟨t2, f2⟩ := t1.set (k := 5) (by decide) q1 ((V_n u.1 : Int) * 9 + u.2.length - 1) (V_s v.1 : Int)
    rw [← e59] at t2 f2
    obtain ⟨mk2, x1, x2, x3⟩ := t2.at (k := 5) (by decide)
    have x2 : g_A M59 mk2 1 (S1.1 5) := x2
    obtain ⟨cn2, y1, y2, y3⟩ := t2.at (k := 6) (by decide)
    have y2 : g_A M59 cn2 1 (S1.1 6) := y2
    have hcv2 : g_i M59 cn2 (V_n v.1) = v.2.length := by
      rw [y3 _ (by omega) (by show _ < S1.1 6; rw [e1]; omega), B_set_v, if_neg (by omega), hv1, if_neg (by omega), nov.2.1, List.length_map]
    refine ⟨mk2, x1, ⟨by omega, by omega⟩, mk2, x1, ⟨by omega, by omega⟩, ⟨by omega, by omega⟩, cn2, y1, S1.1 6, y2, ⟨by omega, by rw [e1]; omega⟩, ?_⟩
    rw [hcv2]
    refine ⟨⟨by omega, by omega⟩, S1.1 5, x2, S1.1 5, x2, ⟨by omega, by omega, by omega, by rw [e1]; omega, by rw [e1]; omega⟩, fun M81 e81 _ => ?_⟩
    obtain ⟨t3, f3⟩ := t2.cpy (k := 5) (k1 := 5) (sp := (V_n v.1 : Int) * 9) (dp := (V_n u.1 : Int) * 9 + u.2.length) (n := (v.2.length : Int) - 1) (by decide) (by decide) x1 x1 (by omega) (by show _ ≤ S1.1 5; rw [e1]; omega)
    rw [← e81] at t3 f3
    obtain ⟨S3, hS3⟩ : ∃ S3, S3 = B_cp (B_set S1 5 ((V_n u.1 : Int) * 9 + u.2.length - 1) (V_s v.1)) 5 5 ((V_n v.1 : Int) * 9) ((V_n u.1 : Int) * 9 + u.2.length) ((v.2.length : Int) - 1) := ⟨_, rfl⟩
    rw [← hS3] at t3
    have hv : ∀ (k2 : Nat) (q : Int), S3.2.1 k2 q = if k2 = 5 ∧ (V_n u.1 : Int) * 9 + u.2.length ≤ q ∧ q < (V_n u.1 : Int) * 9 + u.2.length + ((v.2.length : Int) - 1) then (if (5 : Nat) = 5 ∧ (V_n v.1 : Int) * 9 + (q - ((V_n u.1 : Int) * 9 + u.2.length)) = (V_n u.1 : Int) * 9 + u.2.length - 1 then (V_s v.1 : Int) else S1.2.1 5 ((V_n v.1 : Int) * 9 + (q - ((V_n u.1 : Int) * 9 + u.2.length)))) else if k2 = 5 ∧ q = (V_n u.1 : Int) * 9 + u.2.length - 1 then (V_s v.1 : Int) else S1.2.1 k2 q := fun k2 q => by
      rw [hS3, B_cp_v, B_set_v, B_set_v]
    have e3 : S3.1 = S1.1 := by rw [hS3]; rfl
    have g3 : B_ag (B_mA (V_n u.1)) B_0 S1 S3 := ⟨fun k2 => by rw [e3]; exact Int.le_refl _, fun k2 q hA _ _ => by
      rw [hv, if_neg fun z => hA ⟨z.1, by omega, by omega⟩, if_neg fun z => hA ⟨z.1, by omega, by omega⟩], fun k2 _ => by rw [hS3]; rfl⟩
    have a3 := a1.ag g3 e3 (fun q z => by have := z.1; omega) (fun q z => by have := z.1; omega) (fun z => z) (fun z => z) (fun z => z) fun z => z
    refine hend S3 M81 _ _ t3 ((f1.tr0 f2).tr0 f3) a3 (g1.tr (g3.up (fun k q z => Or.inr (Or.inl z)) fun k z => z.elim)) (b_at_keep hk1 fun q q1 q2 => ?_) ?_ ?_ (Nat.le_refl _)
    · rw [hv, if_neg (by omega), if_neg (by omega)]
    · rw [hmm, B_il_app, B_il_c]
      refine b_app.mpr ⟨b_at_keep nou.2.2.2 fun q q1 q2 => ?_, b_cons.mpr ⟨?_, fun q w hq2 => ?_⟩⟩
      · rw [B_il_len] at q2
        change q < 9 * (V_n u.1 : Int) + (V_ts h u.2).length at q2
        rw [hv, if_neg (by omega), if_neg (by omega), hv1, if_neg (by omega)]
      · rw [B_il_len, hv, if_neg (by omega), if_pos ⟨rfl, by omega⟩]
      · have := (List.getElem?_eq_some_iff.mp hq2).1
        rw [B_il_len, List.length_map] at this
        have hnv := nov.2.2.2
        rw [show V_m (h + 1) v.2 = V_ts h v.2 from rfl, hvts] at hnv
        rw [B_il_len, hv, if_pos ⟨rfl, by omega, by omega⟩, if_neg (by omega), hv1, if_neg (by omega)]
        exact (congrArg (S.2.1 5) (by omega)).trans (hnv q w hq2)
    · refine hpu.trans (List.perm_iff_count.mpr fun a => ?_)
      rw [V_us_k, V_us_k, htsp, htsn, V_uk_app, V_uk_app, V_uk_app, V_uk_c, V_uk_c, V_uk_c, eu2, V_us_k h u.2, V_us_k h v.2, V_us_k h (u.2 ++ V_hd (h + 1) v.1 v.2), show V_ts h (u.2 ++ V_hd (h + 1) v.1 v.2) = V_ts h u.2 ++ V_s v.1 :: r0.map fun z => V_s z.1 from hmm, hvts, V_uk_app, hhd, hz0, V_uk_c, V_uk_c]
      show List.count a (P ++ V_s v.1 :: (B.map fun z => V_s z.1) ++ (V_uk (h + 1) A ++ (V_ts h u.2 ++ V_uk h u.2 ++ ((r0.map fun z => V_s z.1) ++ (V_us h z0.2 ++ V_uk h r0) ++ V_uk (h + 1) B))) ++ R) = List.count a (P ++ (B.map fun z => V_s z.1) ++ (V_uk (h + 1) A ++ ((V_ts h u.2 ++ V_s v.1 :: r0.map fun z => V_s z.1) ++ (V_uk h u.2 ++ (V_us h z0.2 ++ V_uk h r0)) ++ [] ++ V_uk (h + 1) B)) ++ R)
      simp only [List.count_append, List.count_cons, List.count_nil]
      omega
end CJN
